/-! the model: opens -/
def AO (r _ : Nat) : Prop := r = 10 ∨ (24 ≤ r ∧ r ≤ 37)
def IO (k : Nat) : Prop := k = 23 ∨ k = 16 ∨ k = 17
section MO
variable {g : gcT} {P : pmT} {h h' h1 : hpT} {y ad : Nat → Nat} {T T' : List slT} {i j k nm m e f c v : Nat} {x x1 x2 x3 x4 x5 x6 : Int32} {A : Nat → Nat → Prop} {I : Nat → Prop} {μ : mT} {Q : hpT → Option Value → Prop}
theorem nwT_le (s : slT) : (nwT T s).length ≤ T.length + 1 := by
  unfold nwT
  split
  · rw [List.length_set]; omega
  · rw [List.length_append]; exact Nat.le_refl _
theorem clnT_b {st : Nat → Int32} {N U rep : Nat} {G : List Nat} : (clnT st N U rep nm m T G).1.length ≤ T.length + 1 ∧ (clnT st N U rep nm m T G).2.1 ≤ nm + 1 := by
  unfold clnT
  split
  · refine ⟨?_, Nat.le_refl _⟩
    rw [goL_len]
    refine Nat.le_trans (nwT_le _) ?_
    rw [goL_len]
    exact Nat.le_refl _
  · exact ⟨by rw [goL_len]; omega, Nat.le_succ _⟩
theorem opn2_b (enm : μ.2.2 16 = nI (nmM μ)) (hnm : nmM μ ≤ 80000) : (opn2 y μ m).1.length ≤ μ.1.length + 1 ∧ nmM (opn2 y μ m) ≤ nmM μ + 1 ∧ (opn2 y μ m).2.2 16 = nI (nmM (opn2 y μ m)) ∧ ∀ k, ¬ k = 16 → ¬ k = 17 → (opn2 y μ m).2.2 k = μ.2.2 k := by
  unfold opn2
  split
  · exact ⟨Nat.le_succ _, Nat.le_succ _, enm, fun _ _ _ => rfl⟩
  · obtain ⟨b1, b2⟩ := clnT_b (nm := nmM (uR μ 10 m (-1))) (m := m) (T := (uR μ 10 m (-1)).1) (st := (uR μ 10 m (-1)).2.1 5) (N := y 20) (U := y 22) (rep := y 21) (G := clG ((uR μ 10 m (-1)).2.1 5) (uR μ 10 m (-1)).1 (nI m) (chL (uR μ 10 m (-1)).1 (nI m)))
    have b2 : (clR y (uR μ 10 m (-1)) m).2.1 ≤ nmM μ + 1 := b2
    have en : nmM (clMu y (uR μ 10 m (-1)) m) = (clR y (uR μ 10 m (-1)) m).2.1 := by
      show (nI (clR y (uR μ 10 m (-1)) m).2.1).toNatClampNeg = _
      exact nI_clamp (by omega)
    refine ⟨b1, by rw [en]; exact b2, by rw [en]; rfl, fun k n1 n2 => ?_⟩
    show (if k = 17 then _ else if k = 16 then _ else μ.2.2 k) = μ.2.2 k
    rw [if_neg n2, if_neg n1]
theorem opn_65 {o3 : Option Value} (mw : MW h y ad μ) (mk : MK0 y μ) (hm8 : m < y 20) (enm : μ.2.2 16 = nI (nmM μ)) (hnm : nmM μ ≤ 90000) (h6 : μ.1.length < 6000) (kk : ∀ h', MF y ad AO IO h h' → MW h' y ad (opn3 y μ m) → (∀ f, f < 18 → hA h' (ad 33) f = hA h (ad 33) f) → Q h' (some (.int 1))) : Ev g P 134 65 [some (va_rf (some (y 12))), some (.int (nI m)), some (.int x2), o3] [] h Q := by
  obtain ⟨yo, k0, k1, k2, k3⟩ := mk
  have yo1 := yo.1
  have yo2 := yo.2.1
  have em : (nI m).toNatClampNeg = m := nI_clamp (by omega)
  have n6 : nwI μ.1 < 6000 := by have := nwI_le μ.1; omega
  have hns := m_newSeg (g := g) (P := P) (b := true) (xb := 1) mw.1 mw.2.1 mw.2.2.1 ((mw.n 0 (by decide) (by decide) rfl).trans k0) ((mw.n 1 (by decide) (by decide) rfl).trans k1) ((mw.n 16 (by decide) (by decide) rfl).trans enm) yo1.1 yo1.2 yo2.2 hm8 (by omega) n6 rfl
  rw [mw.rw (r := 5) rfl] at hns
  refine s_134_65 (k3 := mw.1.1) (hc := hns) (kk := fun h1 x' ⟨q1, xa, o1, tb1⟩ => ?_)
  subst q1
  have tb1 : TB h1 y ad (nwT μ.1 (nI m, nmM μ, true, [], nsR y μ m)) := tb1
  have mw1 : MW h1 y ad (uN (uT μ (nwT μ.1 (nI m, nmM μ, true, [], nsR y μ m))) 16 (nI (nmM μ + 1))) := mw.mk xa tb1 (fun r i q => by
    have q' := smR_a q
    rw [MF.a mw.1 xa q'.1 (fun a => by rcases a with ⟨a, -⟩ | ⟨a, -⟩ | ⟨a, -⟩ <;> omega)]
    exact mw.2.2.2.1 r i q) (fun k n1 n2 => by
    by_cases q : k = 16
    · rw [if_pos q, q]; exact o1
    · rw [if_neg q, xa.i (fun a => by rcases a with a | a; exact n1 a; exact q a)]
      exact mw.2.2.2.2 k n1 n2)
  have xa' : MF y ad AO IO h h1 := xa.mono (fun r i a => Or.inr (by rcases a with ⟨a, -⟩ | ⟨a, -⟩ | ⟨a, -⟩ <;> omega)) (fun k a => by rcases a with a | a; exact Or.inl a; exact Or.inr (Or.inl a))
  have p1 : ∀ f, hA h1 (ad 33) f = hA h (ad 33) f := fun f => MF.a mw.1 xa (by decide) (fun a => by rcases a with ⟨a, -⟩ | ⟨a, -⟩ | ⟨a, -⟩ <;> omega)
  refine s_134_76 (e2 := mw.1.r10) (k3 := mw1.1.k10) (i4 := by rw [mw1.1.n10]; exact vin_nI (by omega) (by decide)) (kk := ?_)
  rw [em]
  have mw2 := mw1.wA (r := 10) (i := m) (x := nI (nwI μ.1)) rfl
  have xb := MF.wA mw1.1 mw1.2.1 (k := 10) (i := m) (by decide) (nI (nwI μ.1))
  generalize hpA h1 (ad 10) m (nI (nwI μ.1)) = H2 at mw2 xb ⊢
  have xb' : MF y ad AO IO h H2 := xa'.join (xb.mono (fun r i a => Or.inl a.1) (fun k a => a.elim))
  refine opn_k (n18 := 18) rfl mw2.1 mw2.2.1 (fun h3 x3 xc zc => ?_)
  have mw3 := mw2.sc xc (fun r i a => by omega) (fun k a => a.elim)
  have xc' : MF y ad AO IO h h3 := xb'.join (xc.mono (fun r i a => Or.inr (by omega)) (fun k a => a.elim))
  refine s_134_103 (k3 := mw3.1.1) (hc := m_blank (n18 := 18) rfl mw3.1 mw3.2.1) (kk := fun h4 ⟨xd, zd⟩ => ?_)
  have mw4 := mw3.sc xd (fun r i a => by omega) (fun k a => a.elim)
  have xd' : MF y ad AO IO h h4 := xc'.join (xd.mono (fun r i a => Or.inr (by omega)) (fun k a => a.elim))
  have c37 : ∀ f, f < 18 → hA h4 (ad 37) f = hA h (ad 33) f := fun f hf => by
    rw [MF.a mw3.1 xd (by decide) (by decide), zc f hf, MF.a mw1.1 xb (by decide) (fun a => absurd a.1 (by decide)), p1]
  refine s_134_107 (k3 := mw4.1.1) (e5 := mw4.1.r33) (k6 := mw4.1.k33) (i7 := by rw [mw4.1.n33]; exact vin_nI (n := 0) (by decide) (by decide)) (kk := ?_)
  rw [show (0 : Int32).toNatClampNeg = 0 from rfl]
  have xe := MF.wA mw4.1 mw4.2.1 (k := 33) (i := 0) (by decide) 1
  have re : ∀ r i, aKM r = true → hA (hpA h4 (ad 33) 0 1) (ad r) i = if r = 33 ∧ i = 0 then 1 else hA h4 (ad r) i := fun r i hr => mw4.1.rA (by decide) hr
  generalize hpA h4 (ad 33) 0 1 = H5 at xe re ⊢
  have mw5 := mw4.sc xe (fun r i a => by omega) (fun k a => a.elim)
  have xe' : MF y ad AO IO h H5 := xd'.join (xe.mono (fun r i a => Or.inr (by omega)) (fun k a => a.elim))
  refine s_134_125 (e2 := mw4.1.r9) (k3 := mw5.1.k9) (i4 := by rw [mw5.1.n9]; exact vin_nI (by omega) (by decide)) (e6 := mw4.1.r33) (k7 := mw5.1.k33) (i8 := by rw [mw5.1.n33]; exact vin_nI (n := 6) (by decide) (by decide)) (e10 := rfl) (k11 := mw5.1.1) (kk := ?_)
  have e9 : hA H5 (ad 9) m = μ.2.1 9 m := (mw5.2.2.2.1 9 m rfl).trans (by
    show (if (9 : Nat) = 10 ∧ m = m then nI (nwI μ.1) else μ.2.1 9 m) = μ.2.1 9 m
    rw [if_neg (fun a => absurd a.1 (by decide))])
  rw [em, e9, show (6 : Int32).toNatClampNeg = 6 from rfl]
  have xf := MF.wA mw5.1 mw5.2.1 (k := 33) (i := 6) (by decide) (μ.2.1 9 m)
  have rf' : ∀ r i, aKM r = true → hA (hpA H5 (ad 33) 6 (μ.2.1 9 m)) (ad r) i = if r = 33 ∧ i = 6 then μ.2.1 9 m else hA H5 (ad r) i := fun r i hr => mw5.1.rA (by decide) hr
  generalize hpA H5 (ad 33) 6 (μ.2.1 9 m) = H6 at xf rf' ⊢
  have mw6 := mw5.sc xf (fun r i a => by omega) (fun k a => a.elim)
  have xf' : MF y ad AO IO h H6 := xe'.join (xf.mono (fun r i a => Or.inr (by omega)) (fun k a => a.elim))
  have e10 : hA H6 (ad 10) (nI m).toNatClampNeg = nI (nwI μ.1) := by
    rw [em]
    exact (mw6.2.2.2.1 10 m rfl).trans (if_pos ⟨rfl, rfl⟩)
  have made : ∀ f, f < 18 → hA H6 (ad 33) f = if f = 0 then 1 else if f = 6 then μ.2.1 9 m else 0 := fun f hf => by
    rw [rf' _ _ (by decide)]
    by_cases q6 : f = 6
    · rw [if_pos ⟨rfl, q6⟩, if_neg (by omega), if_pos q6]
    · rw [if_neg (fun a => q6 a.2), re _ _ (by decide)]
      by_cases q0 : f = 0
      · rw [if_pos ⟨rfl, q0⟩, if_pos q0]
      · rw [if_neg (fun a => q0 a.2), if_neg q0, if_neg q6]
        exact zd f hf
  have md : MD H6 ad (dgP (μ.2.1 9 m), none) := fun f hf => ⟨by rw [made f (by omega)]; exact (dg_c _ f hf).symm, by rw [made (9 + f) (by omega), if_neg (by omega), if_neg (by omega)]; rfl⟩
  have hcm := m_comes (g := g) (P := P) (n18 := 18) (c := 8) rfl mw6.1 mw6.2.1 mw6.2.2.1 (k := nwI μ.1) (nwT_len μ.1 (nI m, nmM μ, true, [], nsR y μ m)).1 (by
    have := (nwT_len μ.1 (nI m, nmM μ, true, [], nsR y μ m)).2
    show (lEn ((nwT μ.1 (nI m, nmM μ, true, [], nsR y μ m)).getD (nwI μ.1) sl0)).length < 16
    rw [this]; exact (by decide : (0 : Nat) < 16)) md (by omega)
  rw [show nI 8 = (8 : Int32) from rfl, ← e10] at hcm
  refine s_134_133 (e2 := mw5.1.r10) (k3 := mw6.1.k10) (i4 := by rw [mw6.1.n10]; exact vin_nI (by omega) (by decide)) (e6 := rfl) (k7 := mw6.1.1) (hc := hcm) (kk := fun h7 ⟨xg, tbg⟩ => s_134_139 ?_)
  have tbg : TB h7 y ad ((nwT μ.1 (nI m, nmM μ, true, [], nsR y μ m)).set (nwI μ.1) (cmS ((nwT μ.1 (nI m, nmM μ, true, [], nsR y μ m)).getD (nwI μ.1) sl0) (dgP (μ.2.1 9 m), none) 8)) := tbg
  rw [(nwT_len μ.1 _).2, nwT_set] at tbg
  have mw7 := mw6.st xg tbg (fun r i a => by rcases a with a | a | a <;> omega) (fun k a => a.elim)
  have xg' : MF y ad AO IO h h7 := xf'.join (xg.mono (fun r i a => Or.inr (by rcases a with a | a | a <;> omega)) (fun k a => a.elim))
  refine opn_b (n18 := 18) rfl mw7.1 mw7.2.1 (fun h8 x3 xh zh => s_134_165 ?_)
  have mw8 := mw7.sc xh (fun r i a => by omega) (fun k a => a.elim)
  refine kk h8 (xg'.join (xh.mono (fun r i a => Or.inr (by omega)) (fun k a => a.elim))) mw8 (fun f hf => ?_)
  rw [zh f hf, MF.a mw6.1 xg (by decide) (fun a => by rcases a with a | a | a <;> omega), rf' _ _ (by decide), if_neg (fun a => absurd a.1 (by decide)), re _ _ (by decide), if_neg (fun a => absurd a.1 (by decide))]
  exact c37 f hf
theorem m_opens {xr : Int32} (mw : MW h y ad μ) (mk : MK0 y μ) (hm8 : m < y 20) (enm : μ.2.2 16 = nI (nmM μ)) (hnm : nmM μ ≤ 80000) (h6 : μ.1.length < 5999) : EvI g P 134 [va_rf (some (y 12)), .int (nI m), .int xr] h (fun h' r => r = (opnM y μ m xr).2 ∧ MF y ad AO IO h h' ∧ MW h' y ad (opnM y μ m xr).1) := by
  have mk' := mk
  obtain ⟨ob1, ob2, ob3, ob4⟩ := opn2_b (y := y) (m := m) enm hnm
  have h62 : (opn2 y μ m).1.length < 6000 := by omega
  have nm2 : nmM (opn2 y μ m) ≤ 90000 := by omega
  obtain ⟨yo, k0, k1, k2, k3⟩ := mk
  obtain ⟨yo1, yo2, yo3, yo4, yo5, -⟩ := yo
  have em : (nI m).toNatClampNeg = m := nI_clamp (by omega)
  have e833 : hI h 833 (y 12) = nI (y 21) := (mw.n 1 (by decide) (by decide) rfl).trans k1
  have e14 : hI h 846 (y 12) = μ.2.2 14 := mw.n 14 (by decide) (by decide) rfl
  have ub : upB (μ.2.1 5) (y 20) (nI m) ≤ 8 := by
    have : ∀ (l : List Nat) (t : Nat), l.foldl (fun t s => if ¬ nI s = nI m ∧ μ.2.1 5 s = 0 then t + 1 else t) t ≤ t + l.length := by
      intro l
      induction l with
      | nil => intro t; exact Nat.le_refl _
      | cons a l ih =>
        intro t
        rw [List.foldl_cons, List.length_cons]
        refine Nat.le_trans (ih _) ?_
        split <;> omega
    have := this (List.range (y 20)) 0
    rw [List.length_range] at this
    unfold upB
    omega
  have no : ∀ {o3 : Option Value}, (¬ μ.2.2 14 = 0 ∨ upB (μ.2.1 5) (y 20) (nI m) < y 21) → Ev g P 134 19 [some (va_rf (some (y 12))), some (.int (nI m)), some (.int xr), o3] [] h (fun h' r => ∃ x, r = some (.int x) ∧ x = (opnM y μ m xr).2 ∧ MF y ad AO IO h h' ∧ MW h' y ad (opnM y μ m xr).1) := fun q => by
    have e : opnM y μ m xr = (μ, 0) := by unfold opnM; rw [if_pos q]
    rw [e]
    exact s_134_19 ⟨_, rfl, rfl, MF.rf mw.2.1, mw⟩
  refine e_134 (s_134_0 (k3 := mw.1.1) (kt := fun z => no (Or.inl (by rw [← e14]; exact z))) (kf := fun z => ?_))
  rw [e14] at z
  have hub := m_upBut (g := g) (P := P) (x1 := nI m) mw.1 ((mw.n 0 (by decide) (by decide) rfl).trans k0) yo1.2
  rw [mw.rw (r := 5) rfl] at hub
  refine s_134_7 (k3 := mw.1.1) (hc := hub) (kk := fun h1 x' ⟨q1, q2⟩ => ?_)
  subst q1; subst q2
  refine s_134_12 (k3 := mw.1.1) (kt := fun z1 => ?_) (kf := fun z1 => no (Or.inr (by
    rw [e833] at z1
    rcases Nat.lt_or_ge (upB (μ.2.1 5) (y 20) (nI m)) (y 21) with q | q
    · exact q
    · exact absurd (nI_le q (by omega)) z1)))
  rw [e833] at z1
  have z1 := (nI_leI (by omega) (by omega)).mp z1
  have nA : ¬ (¬ μ.2.2 14 = 0 ∨ upB (μ.2.1 5) (y 20) (nI m) < y 21) := fun q => by
    rcases q with q | q
    · exact q z
    · omega
  have eO : opnM y μ m xr = if xr = 0 ∧ y 23 ≤ sgN (opn2 y μ m).1 (nI m) then (opn2 y μ m, 0) else (opn3 y (opn2 y μ m) m, 1) := by unfold opnM; rw [if_neg nA]
  have mw1 : MW (hpA h1 (ad 10) (nI m).toNatClampNeg (-1)) y ad (uR μ 10 m (-1)) := by rw [em]; exact mw.wA rfl
  have x1 : MF y ad AO IO h1 (hpA h1 (ad 10) (nI m).toNatClampNeg (-1)) := (MF.wA mw.1 mw.2.1 (k := 10) (by decide) (-1)).mono (fun r i a => Or.inl a.1) (fun k a => a.elim)
  refine s_134_21 (k3 := mw.1.1) (e5 := mw.1.r10) (k6 := mw.1.k10) (i7 := by rw [mw.1.n10]; exact vin_nI (by omega) (by decide)) (hc := m_segsOf mw1.1 mw1.2.2.1) (kk := fun h2 x' ⟨q1, q2⟩ => ?_)
  subst q1; subst q2
  generalize hpA h1 (ad 10) (nI m).toNatClampNeg (-1) = H2 at mw1 x1 ⊢
  have sb : ∀ T : List slT, T.length < 6001 → sgN T (nI m) < 6001 := by
    intro T hT
    have : ∀ (l : List slT) (t : Nat), l.foldl (fun t s => if lLg s = nI m then t + 1 else t) t ≤ t + l.length := by
      intro l
      induction l with
      | nil => intro t; exact Nat.le_refl _
      | cons a l ih =>
        intro t
        rw [List.foldl_cons, List.length_cons]
        refine Nat.le_trans (ih _) ?_
        split <;> omega
    have := this T 0
    unfold sgN
    omega
  have s1 := sb μ.1 (by omega)
  have e835 : hI H2 835 (y 12) - 1 = nI (y 23 - 1) := by
    rw [(mw1.n 3 (by decide) (by decide) rfl : hI H2 835 (y 12) = _)]
    show μ.2.2 3 - 1 = _
    rw [k3]
    have := nI_pred (y 23 - 1)
    rw [show y 23 - 1 + 1 = y 23 by omega] at this
    exact this
  -- from 47 on
  have go : ∀ h3, MF y ad AO IO h1 h3 → MW h3 y ad (opn2 y μ m) → MK0 y (opn2 y μ m) → (opn2 y μ m).2.2 16 = nI (nmM (opn2 y μ m)) → Ev g P 134 47 [some (va_rf (some (y 12))), some (.int (nI m)), some (.int xr), none] [] h3 (fun h' r => ∃ x, r = some (.int x) ∧ x = (opnM y μ m xr).2 ∧ MF y ad AO IO h1 h' ∧ MW h' y ad (opnM y μ m xr).1) := by
    intro h3 x3 mw3 mk3 en3
    have s3 := sb (opn2 y μ m).1 (by omega)
    have e835 : hI h3 835 (y 12) = nI (y 23) := (mw3.n 3 (by decide) (by decide) rfl).trans mk3.2.2.2.2
    have yes : ¬ (xr = 0 ∧ y 23 ≤ sgN (opn2 y μ m).1 (nI m)) → Ev g P 134 65 [some (va_rf (some (y 12))), some (.int (nI m)), some (.int xr), none] [] h3 (fun h' r => ∃ x, r = some (.int x) ∧ x = (opnM y μ m xr).2 ∧ MF y ad AO IO h1 h' ∧ MW h' y ad (opnM y μ m xr).1) := fun q => by
      rw [if_neg q] at eO
      rw [eO]
      exact opn_65 mw3 mk3 hm8 en3 nm2 h62 (fun h' xa mwa pa => ⟨_, rfl, rfl, x3.join xa, mwa⟩)
    refine s_134_47 (kt := fun zr => yes (fun q => zr q.1)) (kf := fun zr => ?_)
    refine s_134_51 (k3 := mw3.1.1) (hc := m_segsOf mw3.1 mw3.2.2.1) (kk := fun h4 x' ⟨q1, q2⟩ => ?_)
    subst q1; subst q2
    refine s_134_56 (k3 := mw3.1.1) (kt := fun zs => yes (fun q => ?_)) (kf := fun zs => ?_)
    · rw [e835] at zs
      rw [← Int32.not_le] at zs
      exact zs (nI_le q.2 (by omega))
    · rw [e835] at zs
      have q : y 23 ≤ sgN (opn2 y μ m).1 (nI m) := by
        rcases Nat.lt_or_ge (sgN (opn2 y μ m).1 (nI m)) (y 23) with q | q
        · exact absurd (nI_lt q (by omega)) zs
        · exact q
      rw [if_pos ⟨zr, q⟩] at eO
      rw [eO]
      exact s_134_63 ⟨_, rfl, rfl, x3, mw3⟩
  refine s_134_33 (k3 := mw1.1.1) (kt := fun z2 => ?_) (kf := fun z2 => ?_)
  · rw [e835] at z2
    have q : sgN μ.1 (nI m) < y 23 - 1 := by
      rcases Nat.lt_or_ge (sgN μ.1 (nI m)) (y 23 - 1) with q | q
      · exact q
      · rw [← Int32.not_le] at z2
        exact absurd (nI_le q (by omega)) z2
    have e2 : opn2 y μ m = uR μ 10 m (-1) := by unfold opn2; rw [if_pos q]
    exact go H2 x1 (by rw [e2]; exact mw1) (by rw [e2]; exact ⟨mk'.1, k0, k1, k2, k3⟩) (by rw [e2]; exact enm)
  · rw [e835] at z2
    have q : ¬ sgN μ.1 (nI m) < y 23 - 1 := fun q => z2 (nI_lt q (by omega))
    have e2 : opn2 y μ m = clMu y (uR μ 10 m (-1)) m := by unfold opn2; rw [if_neg q]
    have hcl := m_clnM (g := g) (P := P) (vc := μ.2.2 17) (nm := nmM (uR μ 10 m (-1))) mw1.1 mw1.2.1 mw1.2.2.1 (mw1.rw (r := 5) rfl).symm ((mw1.n 0 (by decide) (by decide) rfl).trans k0) ((mw1.n 1 (by decide) (by decide) rfl).trans k1) ((mw1.n 2 (by decide) (by decide) rfl).trans k2) ((mw1.n 16 (by decide) (by decide) rfl).trans enm) (mw1.n 17 (by decide) (by decide) rfl) yo1.1 yo1.2 yo2.2 yo3.2 hm8 (by show nmM μ ≤ 100000; omega) (by show μ.1.length < 6000; omega)
    refine s_134_42 (k3 := mw1.1.1) (hc := hcl) (kk := fun h3 ⟨xa, tba, oa, ca⟩ => ?_)
    have mwc : MW h3 y ad (clMu y (uR μ 10 m (-1)) m) := mw1.mk xa tba (fun r i q => by
      have q' := smR_a q
      rw [MF.a mw1.1 xa q'.1 (fun a => by omega)]
      exact mw1.2.2.2.1 r i q) (fun k n1 n2 => by
      show _ = if k = 17 then _ else if k = 16 then nI (clR y (uR μ 10 m (-1)) m).2.1 else μ.2.2 k
      by_cases q17 : k = 17
      · rw [if_pos q17, q17]; exact ca
      · rw [if_neg q17]
        by_cases q16 : k = 16
        · rw [if_pos q16, q16]; exact oa
        · rw [if_neg q16, xa.i (fun a => by omega)]
          exact mw1.2.2.2.2 k n1 n2)
    rw [← e2] at mwc
    exact go h3 (x1.join (xa.mono (fun r i a => Or.inr (by omega)) (fun k a => a))) mwc ⟨mk'.1, by rw [ob4 0 (by decide) (by decide)]; exact k0, by rw [ob4 1 (by decide) (by decide)]; exact k1, by rw [ob4 2 (by decide) (by decide)]; exact k2, by rw [ob4 3 (by decide) (by decide)]; exact k3⟩ ob3
end MO
