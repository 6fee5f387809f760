/-! the model: append -/
section MA2
variable {g : gcT} {P : pmT} {h h' h1 h2 : hpT} {y ad : Nat → Nat} {T T' : List slT} {i j k nm m e f c v : Nat} {x x1 x2 x3 x4 x5 x6 xr : Int32} {A : Nat → Nat → Prop} {I : Nat → Prop} {μ : mT} {Q : hpT → Option Value → Prop} {en : enT}
theorem app_k {o5 : Option Value} {n18 : Nat} (h18 : n18 = 18) (hm : HM h y ad) (w : hWF h) (kk : ∀ h2 x4, MF y ad (fun r _ => r = 38) (fun _ => False) h h2 → (∀ f, f < n18 → hA h2 (ad 38) f = hA h (ad 33) f) → Ev g P 136 60 [some (va_rf (some (y 12))), some (.int x1), some (.int x2), some (.int x3), some (.int x4), o5] [] h2 Q) : Ev g P 136 33 [some (va_rf (some (y 12))), some (.int x1), some (.int x2), some (.int x3), some (.int 0), o5] [] h Q := by
  have e18 : (18 : Int32) = nI n18 := by rw [h18]; rfl
  have lp := cnt_loop n18 (fun j h1 => MF y ad (fun r _ => r = 38) (fun _ => False) h h1 ∧ ∀ f, f < j → hA h1 (ad 38) f = hA h (ad 33) f) (fun j h1 => Ev g P 136 33 [some (va_rf (some (y 12))), some (.int x1), some (.int x2), some (.int x3), some (.int (nI j)), o5] [] h1 Q) ?_ ?_ h ⟨MF.rf w, fun f hf => absurd hf (Nat.not_lt_zero _)⟩
  · rw [nI_0] at lp; exact lp
  · intro j h1 hj ⟨xa, z⟩ kn
    have m1 := hm.mf xa
    have ej : (nI j).toNatClampNeg = j := nI_clamp (by omega)
    have e33 : hA h1 (ad 33) j = hA h (ad 33) j := MF.a hm xa (by decide) (by decide)
    refine s_136_33 (kt := fun z => absurd z (by rw [e18]; exact nI_ge hj (by omega))) (kf := fun _ => s_136_40 (k3 := m1.1) (e5 := m1.r33) (k6 := m1.k33) (i7 := by rw [m1.n33]; exact vin_nI (by omega) (by decide)) (e9 := m1.r38) (k10 := m1.k38) (i11 := by rw [m1.n38]; exact vin_nI (by omega) (by decide)) (kk := ?_))
    rw [ej, nI_1, e33]
    refine kn _ ⟨xa.join ((MF.wA m1 xa.1.2.2.2 (by decide) _).mono (fun r i q => q.1) (fun r q => q)), fun f hf => ?_⟩
    rw [m1.rA (by decide) (by decide)]
    by_cases q : f = j
    · rw [if_pos ⟨rfl, q⟩, q]
    · rw [if_neg (fun z => q z.2)]; exact z f (by omega)
  · intro h1 ⟨xa, z⟩
    exact s_136_33 (kt := fun _ => kk h1 _ xa z) (kf := fun z => absurd (by rw [e18]; exact nI_le (Nat.le_refl _) (by omega)) z)
theorem app_b {n18 : Nat} (h18 : n18 = 18) (hm : HM h y ad) (w : hWF h) (kk : ∀ h2 x5, MF y ad (fun r _ => r = 33) (fun _ => False) h h2 → (∀ f, f < n18 → hA h2 (ad 33) f = hA h (ad 38) f) → Ev g P 136 98 [some (va_rf (some (y 12))), some (.int x1), some (.int x2), some (.int x3), some (.int x4), some (.int x5)] [] h2 Q) : Ev g P 136 71 [some (va_rf (some (y 12))), some (.int x1), some (.int x2), some (.int x3), some (.int x4), some (.int 0)] [] h Q := by
  have e18 : (18 : Int32) = nI n18 := by rw [h18]; rfl
  have lp := cnt_loop n18 (fun j h1 => MF y ad (fun r _ => r = 33) (fun _ => False) h h1 ∧ ∀ f, f < j → hA h1 (ad 33) f = hA h (ad 38) f) (fun j h1 => Ev g P 136 71 [some (va_rf (some (y 12))), some (.int x1), some (.int x2), some (.int x3), some (.int x4), some (.int (nI j))] [] h1 Q) ?_ ?_ h ⟨MF.rf w, fun f hf => absurd hf (Nat.not_lt_zero _)⟩
  · rw [nI_0] at lp; exact lp
  · intro j h1 hj ⟨xa, z⟩ kn
    have m1 := hm.mf xa
    have ej : (nI j).toNatClampNeg = j := nI_clamp (by omega)
    have e33 : hA h1 (ad 38) j = hA h (ad 38) j := MF.a hm xa (by decide) (by decide)
    refine s_136_71 (kt := fun z => absurd z (by rw [e18]; exact nI_ge hj (by omega))) (kf := fun _ => s_136_78 (k3 := m1.1) (e5 := m1.r38) (k6 := m1.k38) (i7 := by rw [m1.n38]; exact vin_nI (by omega) (by decide)) (e9 := m1.r33) (k10 := m1.k33) (i11 := by rw [m1.n33]; exact vin_nI (by omega) (by decide)) (kk := ?_))
    rw [ej, nI_1, e33]
    refine kn _ ⟨xa.join ((MF.wA m1 xa.1.2.2.2 (by decide) _).mono (fun r i q => q.1) (fun r q => q)), fun f hf => ?_⟩
    rw [m1.rA (by decide) (by decide)]
    by_cases q : f = j
    · rw [if_pos ⟨rfl, q⟩, q]
    · rw [if_neg (fun z => q z.2)]; exact z f (by omega)
  · intro h1 ⟨xa, z⟩
    exact s_136_71 (kt := fun _ => kk h1 _ xa z) (kf := fun z => absurd (by rw [e18]; exact nI_le (Nat.le_refl _) (by omega)) z)
theorem mPt_nm (p : pT) (v : Int32) : ∀ f, f < 8 → mPt (p.1, v) f = mPt p f
  | 0, _ => rfl
  | 1, _ => rfl
  | 2, _ => rfl
  | 3, _ => rfl
  | 4, _ => rfl
  | 5, _ => rfl
  | 6, _ => rfl
  | 7, _ => rfl
  | _ + 8, q => absurd q (by omega)
theorem MD.mf (hm : HM h y ad) (md : MD h ad en) (x : MF y ad A I h h') (ha : ∀ i, ¬ A 33 i) : MD h' ad en := fun f hf => by
  rw [MF.a hm x (by decide) (ha _), MF.a hm x (by decide) (ha _)]; exact md f hf
/-- from 105 on: the HEAD has room -/
theorem app_1 {o4 o5 : Option Value} (mw : MW h y ad μ) (hm8 : m < 8) (md : MD h ad en) (hk : k < μ.1.length) (eh : μ.2.1 10 m = nI k) (hE : (lEn (μ.1.getD k sl0)).length < 16) (hc : c < 1000) (kk : ∀ h', MG y ad h h' → MW h' y ad (apT μ m en c) → Q h' (some (.int 1))) : Ev g P 136 105 [some (va_rf (some (y 12))), some (.int (nI m)), some (.int x2), some (.int (nI c)), o4, o5] [] h Q := by
  have l6 := mw.2.2.1.2.1
  have em : (nI m).toNatClampNeg = m := nI_clamp (by omega)
  have ek : hdI μ m = k := by unfold hdI; rw [eh]; exact nI_clamp (by omega)
  have v10 : ∀ {h : hpT}, HM h y ad → vinD (nI m) (hN h (ad 10)) := fun hm => by rw [hm.n10]; exact vin_nI hm8 (by decide)
  have v33 : ∀ {h : hpT} (n : Nat), n < 18 → HM h y ad → vinD (nI n) (hN h (ad 33)) := fun n hn hm => by rw [hm.n33]; exact vin_nI hn (by decide)
  -- from 146 on
  have go : ∀ h1, MG y ad h h1 → MW h1 y ad μ → MD h1 ad (tmE μ m en) → Ev g P 136 146 [some (va_rf (some (y 12))), some (.int (nI m)), some (.int x2), some (.int (nI c)), o4, o5] [] h1 Q := by
    intro h1 g1 mw1 md1
    have e10 : hA h1 (ad 10) (nI m).toNatClampNeg = nI k := by rw [em]; exact (mw1.2.2.2.1 10 m rfl).trans eh
    have hcm := m_comes (g := g) (P := P) (n18 := 18) (c := c) rfl mw1.1 mw1.2.1 mw1.2.2.1 hk hE md1 hc
    rw [← e10] at hcm
    refine s_136_146 (k3 := mw1.1.1) (e5 := mw1.1.r10) (k6 := mw1.1.k10) (i7 := v10 mw1.1) (hc := hcm) (kk := fun h2 ⟨xb, tb2⟩ => ?_)
    have mw2 := mw1.st xb tb2 (fun r i a => by rcases a with a | a | a <;> omega) (fun k a => a.elim)
    have e19 : hI h2 851 (y 12) = μ.2.2 19 := mw2.n 19 (by decide) (by decide) rfl
    refine s_136_157 (k3 := mw2.1.1) (hq := ?_)
    rw [e19]
    refine kk _ ((g1.jn xb.gl).jn (mw2.gN (k := 19) rfl)) ?_
    have := mw2.wN (k := 19) (f := 851) (x := μ.2.2 19 + 1) rfl (by decide) (by decide)
    unfold apT
    rw [ek]
    exact this
  have m0 : hA h (ad 33) (0 : Int32).toNatClampNeg = mPt en.1 0 := (md 0 (by omega)).1
  have m3 : hA h (ad 33) (3 : Int32).toNatClampNeg = mPt en.1 3 := (md 3 (by omega)).1
  refine s_136_105 (k3 := mw.1.1) (e5 := mw.1.r33) (k6 := mw.1.k33) (i7 := v33 0 (by decide) mw.1) (kt := fun z => ?_) (kf := fun z => ?_)
  · rw [m0] at z
    refine go h (MF.rf mw.2.1) mw ?_
    unfold tmE
    rw [if_neg z]; exact md
  · rw [m0] at z
    have et : tmE μ m en = tmF μ en (obM μ (nI m) (mPt en.1 3)) := by unfold tmE; rw [if_pos z]
    have ho := m_obM (g := g) (P := P) (x1 := nI m) (x2 := hA h (ad 33) (3 : Int32).toNatClampNeg) mw
    rw [m3] at ho
    have ho' := ho
    rw [← m3] at ho'
    refine s_136_115 (k3 := mw.1.1) (e5 := mw.1.r33) (k6 := mw.1.k33) (i7 := v33 3 (by decide) mw.1) (hc := ho') (kk := fun h1 x' ⟨q1, xa, mw1, fs⟩ => ?_)
    rw [m3] at q1 fs
    subst q1
    have md1 : MD h1 ad en := md.mf mw.1 xa (fun i a => a)
    have vl := obM_v (x := nI m) (k := mPt en.1 3) mw.2.2.1
    cases eo : obM μ (nI m) (mPt en.1 3) with
    | none =>
      refine s_136_126 (kt := fun _ => go h1 xa.gl mw1 ?_) (kf := fun z => absurd rfl z)
      rw [et, eo]; exact md1
    | some p =>
      obtain ⟨pk, pe, pi⟩ := p
      obtain ⟨v1, v2, v3, v4⟩ := vl pk pe pi eo
      have l16 := (mw.2.2.1.th (fun _ => 0) v1).2
      have e864 := fs pk pe pi eo
      have epk : (nI pk).toNatClampNeg = pk := nI_clamp (by omega)
      have e25 := (mw1.2.2.1.s v1).1.2.1
      have nn : ¬ oPx (some (pk, pe, pi)) = -1 := fun q => by
        have q : nI (pIx pk pe pi 0) = -1 := q
        have hb : pIx pk pe pi 0 < 2 ^ 31 := by unfold pIx; omega
        have := nI_pos (n := pIx pk pe pi 0) hb
        rw [q] at this
        exact absurd this (by decide)
      refine s_136_126 (kt := fun z => absurd z nn) (kf := fun _ => ?_)
      refine s_136_130 (k3 := mw1.1.1) (e5 := mw1.1.r25) (k6 := mw1.1.k25) (i7 := by rw [e864, mw1.1.n25]; exact vin_nI (by omega) (by decide)) (e9 := mw1.1.r33) (k10 := mw1.1.k33) (i11 := v33 8 (by decide) mw1.1) (kk := ?_)
      rw [e864, epk, e25, show (8 : Int32).toNatClampNeg = 8 from rfl]
      have xb := MF.wA mw1.1 mw1.2.1 (k := 33) (i := 8) (by decide) (nI (lNm (μ.1.getD pk sl0)))
      have rb : ∀ i, hA (hpA h1 (ad 33) 8 (nI (lNm (μ.1.getD pk sl0)))) (ad 33) i = if i = 8 then nI (lNm (μ.1.getD pk sl0)) else hA h1 (ad 33) i := fun i => by
        rw [mw1.1.rA (by decide) (by decide)]
        by_cases q : i = 8
        · rw [if_pos ⟨rfl, q⟩, if_pos q]
        · rw [if_neg (fun a => q a.2), if_neg q]
      generalize hpA h1 (ad 33) 8 (nI (lNm (μ.1.getD pk sl0))) = H2 at xb rb ⊢
      refine go H2 (xa.gl.jn xb.gl) (mw1.sc xb (fun r i a => by omega) (fun k a => a.elim)) ?_
      rw [et, eo]
      intro f hf
      have kd : pKd en.1 = 3 := by
        have z : pKd en.1 + 1 = 4 := z
        have := congrArg (· - 1) z
        simpa using this
      refine ⟨?_, ?_⟩
      · rw [rb]
        by_cases q : f = 8
        · rw [if_pos q, q]
          show _ = if pKd en.1 = 3 then _ else _
          rw [if_pos kd]; rfl
        · rw [if_neg q, (md1 f hf).1]
          exact (mPt_nm en.1 _ f (by omega)).symm
      · rw [rb, if_neg (by omega)]
        exact (md1 f hf).2
theorem m_append (mw : MW h y ad μ) (mk : MK0 y μ) (hm8 : m < y 20) (enm : μ.2.2 16 = nI (nmM μ)) (hnm : nmM μ ≤ 80000) (h6 : μ.1.length < 5998) (ho : hdOK μ m) (md : MD h ad en) (hE : apC y μ m en = false → (lEn (μ.1.getD (hdI μ m) sl0)).length < 16) (hc : c < 1000) : EvI g P 136 [va_rf (some (y 12)), .int (nI m), .int xr, .int (nI c)] h (fun h' r => r = (appM y μ m xr en c).2 ∧ MG y ad h h' ∧ MW h' y ad (appM y μ m xr en c).1) := by
  have l6 := mw.2.2.1.2.1
  have y8 := mk.1.1.2
  have em : (nI m).toNatClampNeg = m := nI_clamp (by omega)
  have v10 : vinD (nI m) (hN h (ad 10)) := by rw [mw.1.n10]; exact vin_nI (by omega) (by decide)
  -- a new HEAD
  have opn : ∀ {o4 o5 : Option Value}, apC y μ m en = true → Ev g P 136 30 [some (va_rf (some (y 12))), some (.int (nI m)), some (.int xr), some (.int (nI c)), o4, o5] [] h (fun h' r => ∃ x, r = some (.int x) ∧ x = (appM y μ m xr en c).2 ∧ MG y ad h h' ∧ MW h' y ad (appM y μ m xr en c).1) := by
    intro o4 o5 q
    have e1 : ap1 y μ m xr en = opnM y μ m xr := by unfold ap1; rw [if_pos q]
    refine s_136_30 (app_k (n18 := 18) rfl mw.1 mw.2.1 (fun h1 x4 xa za => ?_))
    have mw1 := mw.sc xa (fun r i a => by omega) (fun k a => a.elim)
    refine s_136_60 (k3 := mw1.1.1) (hc := m_opens mw1 mk hm8 enm hnm (by omega)) (kk := fun h2 x' ⟨q1, xb, mw2⟩ => s_136_66 ?_)
    subst q1
    refine app_b (n18 := 18) rfl mw2.1 mw2.2.1 (fun h3 x5 xc zc => ?_)
    have mw3 := mw2.sc xc (fun r i a => by omega) (fun k a => a.elim)
    have g3 : MG y ad h h3 := (xa.gl.jn xb.gl).jn xc.gl
    have md3 : MD h3 ad en := fun f hf => by
      have z1 : ∀ f, f < 18 → hA h3 (ad 33) f = hA h (ad 33) f := fun f hf => by
        rw [zc f hf, MF.a mw1.1 xb (by decide) (fun a => by unfold AO at a; omega), za f hf]
      rw [z1 f (by omega), z1 (9 + f) (by omega)]
      exact md f hf
    by_cases q0 : (opnM y μ m xr).2 = 0
    · have ea : appM y μ m xr en c = ((opnM y μ m xr).1, 0) := by unfold appM; rw [e1, if_pos q0]
      rw [ea]
      exact s_136_98 (kt := fun z => absurd q0 z) (kf := fun _ => s_136_103 ⟨_, rfl, rfl, g3, mw3⟩)
    · have ea : appM y μ m xr en c = (apT (opnM y μ m xr).1 m en c, 1) := by unfold appM; rw [e1, if_neg q0]
      rw [ea]
      refine s_136_98 (kt := fun _ => ?_) (kf := fun z => absurd z q0)
      -- the new HEAD's place
      have eo : (opnM y μ m xr).1 = opn3 y (opn2 y μ m) m := by
        unfold opnM at q0 ⊢
        split at q0
        · exact absurd rfl q0
        · rename_i n1
          rw [if_neg n1]
          split at q0
          · exact absurd rfl q0
          · rename_i n2
            rw [if_neg n2]
      rw [eo] at mw3 ⊢
      have lt := nwT_len (opn2 y μ m).1 (cmS (nI m, nmM (opn2 y μ m), true, [], nsR y (opn2 y μ m) m) (dgP ((opn2 y μ m).2.1 9 m), none) 8)
      refine app_1 (k := nwI (opn2 y μ m).1) mw3 (by omega) md3 lt.1 (if_pos ⟨rfl, rfl⟩) ?_ hc (fun h' ga mwa => ⟨_, rfl, rfl, g3.jn ga, mwa⟩)
      show (lEn ((nwT (opn2 y μ m).1 (cmS (nI m, nmM (opn2 y μ m), true, [], nsR y (opn2 y μ m) m) (dgP ((opn2 y μ m).2.1 9 m), none) 8)).getD (nwI (opn2 y μ m).1) sl0)).length < 16
      rw [lt.2]
      exact (by decide : (1 : Nat) < 16)
  refine e_136 (s_136_0 (k3 := mw.1.1) (hc := m_headGood mw (by omega) ho) (kk := fun h1 x' ⟨q1, q2⟩ => ?_))
  subst q1; subst q2
  refine s_136_5 (kt := fun z => opn (by unfold apC; rw [decide_eq_true z]; rfl)) (kf := fun z => ?_)
  have hn : ¬ μ.2.1 10 m = -1 := fun q => z (by unfold hgM; rw [if_pos q])
  obtain ⟨k, hk, ek⟩ := ho.resolve_left hn
  have ek' : hdI μ m = k := by unfold hdI; rw [ek]; exact nI_clamp (by omega)
  have e10 : hA h1 (ad 10) (nI m).toNatClampNeg = nI k := by rw [em]; exact (mw.2.2.2.1 10 m rfl).trans ek
  have hu := m_used (g := g) (P := P) mw.1 mw.2.2.1 hk
  rw [← e10] at hu
  refine s_136_8 (k3 := mw.1.1) (e5 := mw.1.r10) (k6 := mw.1.k10) (i7 := v10) (hc := hu) (kk := fun h2 x' ⟨q1, q2⟩ => ?_)
  subst q1; subst q2
  refine s_136_22 (k3 := mw.1.1) (hc := m_madeU mw.1 md) (kk := fun h3 x' ⟨q1, q2⟩ => ?_)
  subst q1; subst q2
  have e834 : hI h3 834 (y 12) = nI (y 22) := (mw.n 2 (by decide) (by decide) rfl).trans mk.2.2.2.1
  rw [e834]
  refine s_136_27 (kt := fun z1 => ?_) (kf := fun z1 => opn ?_)
  · have ec : apC y μ m en = false := by
      unfold apC
      rw [ek', decide_eq_false z, decide_eq_false (fun q => q z1)]; rfl
    have e1 : ap1 y μ m xr en = (μ, 1) := by unfold ap1; rw [ec]; rfl
    have ea : appM y μ m xr en c = (apT μ m en c, 1) := by
      unfold appM
      rw [e1]
      exact if_neg (show ¬ (1 : Int32) = 0 by decide)
    rw [ea]
    have hE' := hE ec
    rw [ek'] at hE'
    exact app_1 mw (by omega) md hk ek hE' hc (fun h' ga mwa => ⟨_, rfl, rfl, ga, mwa⟩)
  · unfold apC
    rw [ek', decide_eq_true z1, Bool.or_true]
end MA2
