/-! the model: again, isMessage, drop, reads, result -/
def imM (μ : mT) (x : Int32) : Int32 := if x < 0 ∨ 39 < x then 0 else if μ.2.1 48 x.toNatClampNeg = -1 then 0 else 1
def drp1 (μ : mT) (x : Int32) : mT × Int32 := if imM μ x = 0 then (μ, 0) else (uR μ 48 x.toNatClampNeg (-1), 1)
def cel (μ : mT) (q : Nat × Nat × Nat) (f : Nat) : Int32 := mE ((lEn (μ.1.getD q.1 sl0)).getD q.2.1 en0) q.2.2 f
def rd1 (y : Nat → Nat) (μ : mT) (m : Nat) : mT × Int32 := if ¬ hgM μ m = 0 then (μ, 1) else opnM y μ m 0
def rd2 (μ : mT) (p : Nat) (b : Option (Nat × Nat × Nat)) : mT := match b with
  | none => ansM μ p 1 0 0
  | some q => ansM μ p 0 (cel μ q 5) (cel μ q 6)
def reaM (y : Nat → Nat) (μ : mT) (p m : Nat) (x3 : Int32) : mT := if (rd1 y μ m).2 = 0 then ansM (rd1 y μ m).1 p 4 0 0 else rd2 (rd1 y μ m).1 p (obM (rd1 y μ m).1 (nI m) x3)
def rsCl (x2 x3 x4 x5 x6 x7 x8 : Int32) (f : Nat) : Int32 := match f with
  | 0 => 5
  | 1 => x2
  | 2 => x3
  | 3 => x4
  | 4 => x5
  | 5 => x6
  | 6 => x7
  | _ => x8
section MQ3
variable {g : gcT} {P : pmT} {h h' h1 h2 : hpT} {y ad : Nat → Nat} {T T' : List slT} {i j k n nm m e f c v p : Nat} {x x1 x2 x3 x4 x5 x6 x7 x8 xr : Int32} {μ : mT} {Q : hpT → Option Value → Prop}
theorem m_againM (mw : MW h y ad μ) (cq : ∀ c, c < 6 → cqOK (sn0 μ) c) : EvI g P 144 [va_rf (some (y 12)), .int x1, .int x2] h (fun h' r => r = (aga1 (sn0 μ) x1 x2).2 ∧ MG y ad h h' ∧ MW h' y ad (aga1 (sn0 μ) x1 x2).1) := by
  have mw0 : MW (hpI h 836 (y 12) 0) y ad (sn0 μ) := mw.wN (k := 4) rfl (by decide) (by decide)
  have g0 : MG y ad h (hpI h 836 (y 12) 0) := mw.gN (k := 4) rfl
  generalize hr : aga1 (sn0 μ) x1 x2 = res
  unfold aga1 at hr
  refine e_144 (s_144_0 (k3 := mw.1.1) (hc := m_in) (kk := fun h1 x' ⟨q1, q2⟩ => ?_))
  subst q1; subst q2
  generalize hpI h 836 (y 12) 0 = H0 at mw0 g0 ⊢
  generalize sn0 μ = μ at mw0 cq hr
  have bad : ∀ {o3 : Option Value}, (μ, (-1 : Int32)) = res → Ev g P 144 28 [some (va_rf (some (y 12))), some (.int x1), some (.int x2), o3] [] H0 (fun h' r => ∃ x, r = some (.int x) ∧ x = res.2 ∧ MG y ad h h' ∧ MW h' y ad res.1) := fun e => by
    subst e; exact s_144_28 ⟨_, rfl, rfl, g0, mw0⟩
  by_cases b1 : x1 < 0 ∨ 5 < x1
  · rw [if_pos b1] at hr ⊢
    exact s_144_11 (kt := fun _ => bad hr) (kf := fun z => absurd rfl z)
  rw [if_neg b1] at hr ⊢
  obtain ⟨c, hc, e1⟩ := rg_nI (x := x1) (b := 5) (by decide) (fun z => b1 (Or.inl z)) (fun z => b1 (Or.inr z))
  subst e1
  have ec : (nI c).toNatClampNeg = c := nI_clamp (by omega)
  have cqc := cq c (by omega)
  obtain ⟨a1, a2, a3⟩ := id cqc
  rw [ec] at hr
  have v39 : ∀ {h : hpT}, HM h y ad → vinD (nI c) (hN h (ad 39)) := fun hm => by rw [hm.n39]; exact vin_nI (by omega) (by decide)
  have c39 : hA H0 (ad 39) (nI c).toNatClampNeg = μ.2.1 39 c := by rw [ec]; exact mw0.2.2.2.1 39 c rfl
  have hin := m_in (g := g) (P := P) (h := H0) (x1 := x2) (x2 := 1) (x3 := hA H0 (ad 39) (nI c).toNatClampNeg)
  refine s_144_11 (kt := fun z => absurd z (by decide)) (kf := fun _ => s_144_14 (k3 := mw0.1.1) (e5 := mw0.1.r39) (k6 := mw0.1.k39) (i7 := v39 mw0.1) (hc := hin) (kk := fun h1 x' ⟨q1, q2⟩ => ?_))
  subst q1; subst q2
  rw [c39]
  by_cases b2 : x2 < 1 ∨ μ.2.1 39 c < x2
  · rw [if_pos b2] at hr ⊢
    exact s_144_25 (kt := fun z => absurd rfl z) (kf := fun _ => bad hr)
  rw [if_neg b2] at hr ⊢
  refine s_144_25 (kt := fun _ => ?_) (kf := fun z => absurd z (by decide))
  have n0 : ¬ x2 < 0 := fun z => b2 (Or.inl (Int32.lt_trans z (by decide)))
  obtain ⟨n, hn, e2⟩ := rg_nI (x := x2) (b := asN μ c) (by omega) n0 (fun z => b2 (Or.inr (by rw [a1]; exact z)))
  subst e2
  have en : (nI n).toNatClampNeg = n := nI_clamp (by omega)
  have hn1 : 1 ≤ n := by
    rcases Nat.lt_or_ge n 1 with q | q
    · have e : n = 0 := by omega
      subst e
      exact absurd (Or.inl (by decide)) b2
    · exact q
  rw [en] at hr
  obtain ⟨k, hk, ek⟩ := a3 n hn1 hn
  obtain ⟨d1, d2⟩ := dv8 hk
  have hlt : 40 * c + n - 1 < 240 := by omega
  have c41 : hA h1 (ad 41) ((40 * nI c + nI n) - 1).toNatClampNeg = kyM μ c n := by
    rw [ix40p c n hn1, nI_clamp (by omega)]
    exact mw0.2.2.2.1 41 _ rfl
  have c13 : hA h1 (ad 13) (kyM μ c n / 8).toNatClampNeg = μ.2.1 13 (tbM μ c n) := mw0.2.2.2.1 13 _ rfl
  refine s_144_30 (k3 := mw0.1.1) (e5 := mw0.1.r41) (k6 := mw0.1.k41) (i7 := by rw [ix40p c n hn1, mw0.1.n41]; exact vin_nI hlt (by decide)) (e9 := mw0.1.r13) (k10 := mw0.1.k13) (i11 := by rw [c41, ek, d2, mw0.1.n13]; exact vin_nI (by omega) (by decide)) (kt := fun z1 => ?_) (kf := fun z1 => ?_)
  · rw [c41, c13] at z1
    rw [if_neg z1] at hr
    refine s_144_58 (k3 := mw0.1.1) (hc := m_freeM mw0) (kk := fun h2 x' ⟨q1, q2⟩ => ?_)
    subst q1; subst q2
    by_cases bf : frM μ < 40
    · rw [if_neg (fun q => q bf)] at hr
      rw [if_pos bf]
      refine s_144_62 (kt := fun _ => ?_) (kf := fun z => absurd z (fun q => by
        have := nI_pos (n := frM μ) (by omega)
        rw [q] at this
        exact absurd this (by decide)))
      refine s_144_71 (k3 := mw0.1.1) (hc := m_goes mw0 bf (show c < 6 by omega) hn1 hn cqc) (kk := fun h3 ⟨g3, mw3⟩ => s_144_78 ?_)
      subst hr
      exact ⟨_, rfl, rfl, g0.jn g3, mw3⟩
    · rw [if_pos bf] at hr
      rw [if_neg bf]
      subst hr
      exact s_144_62 (kt := fun z => absurd rfl z) (kf := fun _ => s_144_68 ⟨_, rfl, rfl, g0, mw0⟩)
  · rw [c41, c13] at z1
    rw [if_pos z1] at hr
    subst hr
    exact s_144_55 ⟨_, rfl, rfl, g0, mw0⟩
theorem m_isMsg (mw : MW h y ad μ) : EvI g P 150 [va_rf (some (y 12)), .int x1] h (fun h' r => h' = h ∧ r = imM μ x1) := by
  refine e_150 (s_150_0 (hc := m_in) (kk := fun h1 x' ⟨q1, q2⟩ => ?_))
  subst q1; subst q2
  unfold imM
  by_cases b1 : x1 < 0 ∨ 39 < x1
  · rw [if_pos b1, if_pos b1]
    exact s_150_7 (kt := fun _ => s_150_24 (s_150_25 (Or.inl rfl) ⟨_, rfl, rfl, rfl⟩)) (kf := fun z => absurd rfl z)
  rw [if_neg b1, if_neg b1]
  obtain ⟨c, hc, e1⟩ := rg_nI (x := x1) (b := 39) (by decide) (fun z => b1 (Or.inl z)) (fun z => b1 (Or.inr z))
  subst e1
  have ec : (nI c).toNatClampNeg = c := nI_clamp (by omega)
  have c48 : hA h1 (ad 48) (nI c).toNatClampNeg = μ.2.1 48 (nI c).toNatClampNeg := mw.2.2.2.1 48 _ rfl
  refine s_150_7 (kt := fun z => absurd z (by decide)) (kf := fun _ => ?_)
  refine s_150_10 (k3 := mw.1.1) (e5 := mw.1.r48) (k6 := mw.1.k48) (i7 := by rw [mw.1.n48]; exact vin_nI (by omega) (by decide)) (kt := fun z => s_150_24 (s_150_25 (Or.inl rfl) ⟨_, rfl, rfl, ?_⟩)) (kf := fun z => s_150_20 (s_150_25 (Or.inr rfl) ⟨_, rfl, rfl, ?_⟩))
  · rw [c48] at z; rw [if_pos z]
  · rw [c48] at z; rw [if_neg z]
theorem imM_n (q : ¬ imM μ x = 0) : ∃ p, p < 40 ∧ x = nI p ∧ ¬ μ.2.1 48 p = -1 := by
  unfold imM at q
  by_cases b1 : x < 0 ∨ 39 < x
  · rw [if_pos b1] at q; exact absurd rfl q
  · rw [if_neg b1] at q
    obtain ⟨c, hc, e1⟩ := rg_nI (x := x) (b := 39) (by decide) (fun z => b1 (Or.inl z)) (fun z => b1 (Or.inr z))
    subst e1
    have ec : (nI c).toNatClampNeg = c := nI_clamp (by omega)
    rw [ec] at q
    exact ⟨c, by omega, rfl, fun z => q (by rw [if_pos z])⟩
theorem m_dropM (mw : MW h y ad μ) : EvI g P 152 [va_rf (some (y 12)), .int x1] h (fun h' r => r = (drp1 (sn0 μ) x1).2 ∧ MG y ad h h' ∧ MW h' y ad (drp1 (sn0 μ) x1).1) := by
  have mw0 : MW (hpI h 836 (y 12) 0) y ad (sn0 μ) := mw.wN (k := 4) rfl (by decide) (by decide)
  have g0 : MG y ad h (hpI h 836 (y 12) 0) := mw.gN (k := 4) rfl
  refine e_152 (s_152_0 (k3 := mw.1.1) (hc := m_isMsg mw0) (kk := fun h1 x' ⟨q1, q2⟩ => ?_))
  subst q1; subst q2
  generalize hpI h 836 (y 12) 0 = H0 at mw0 g0 ⊢
  generalize sn0 μ = μ at mw0 ⊢
  by_cases q : imM μ x1 = 0
  · have e : drp1 μ x1 = (μ, 0) := by unfold drp1; rw [if_pos q]
    rw [e]
    exact s_152_10 (kt := fun z => absurd q z) (kf := fun _ => s_152_13 ⟨_, rfl, rfl, g0, mw0⟩)
  · obtain ⟨p, hp, ep, -⟩ := imM_n q
    have e : drp1 μ x1 = (uR μ 48 x1.toNatClampNeg (-1), 1) := by unfold drp1; rw [if_neg q]
    rw [e]
    exact s_152_10 (kt := fun _ => s_152_15 (k3 := mw0.1.1) (e5 := mw0.1.r48) (k6 := mw0.1.k48) (i7 := by rw [ep, mw0.1.n48]; exact vin_nI hp (by decide)) (hq := ⟨_, rfl, rfl, g0.jn (mw0.gA rfl), mw0.wA rfl⟩)) (kf := fun z => absurd z q)
theorem m_readsM (mw : MW h y ad μ) (mk : MK0 y μ) (hp : p < 40) (hm8 : m < y 20) (enm : μ.2.2 16 = nI (nmM μ)) (hnm : nmM μ ≤ 80000) (h6 : μ.1.length < 5998) (ho : hdOK μ m) : EvI g P 146 [va_rf (some (y 12)), .int (nI p), .int (nI m), .int x3] h (fun h' r => r = 0 ∧ MG y ad h h' ∧ MW h' y ad (reaM y μ p m x3)) := by
  have y8 := mk.1.1.2
  -- from 26 on
  have go : ∀ h1 μ1, MG y ad h h1 → MW h1 y ad μ1 → rd1 y μ m = (μ1, 1) → Ev g P 146 26 [some (va_rf (some (y 12))), some (.int (nI p)), some (.int (nI m)), some (.int x3), none] [] h1 (fun h' r => ∃ x, r = some (.int x) ∧ x = 0 ∧ MG y ad h h' ∧ MW h' y ad (reaM y μ p m x3)) := by
    intro h1 μ1 g1 mw1 er
    have e : reaM y μ p m x3 = rd2 μ1 p (obM μ1 (nI m) x3) := by
      unfold reaM
      rw [er]
      exact if_neg (show ¬ (1 : Int32) = 0 by decide)
    rw [e]
    refine s_146_26 (k3 := mw1.1.1) (hc := m_obM mw1) (kk := fun h2 x' ⟨q1, xa, mw2, _⟩ => ?_)
    subst q1
    have vl := obM_v (x := nI m) (k := x3) mw1.2.2.1
    cases eo : obM μ1 (nI m) x3 with
    | none =>
      refine s_146_32 (kt := fun z => absurd rfl z) (kf := fun _ => ?_)
      refine s_146_40 (k3 := mw2.1.1) (hc := m_answersM mw2 hp) (kk := fun h3 x' ⟨q1, g3, mw3⟩ => s_146_48 (s_146_76 ⟨_, rfl, q1, (g1.jn xa.gl).jn g3, mw3⟩))
    | some q =>
      obtain ⟨qk, qe, qi⟩ := q
      obtain ⟨v1, v2, v3, v4⟩ := vl qk qe qi eo
      have l6 := mw1.2.2.1.2.1
      have l16 := (mw1.2.2.1.th (fun _ => 0) v1).2
      have p5 := pcell mw2.1 mw2.2.2.1 v1 v3 v4 5 (by decide)
      have p6 := pcell mw2.1 mw2.2.2.1 v1 v3 v4 6 (by decide)
      rw [show nI 5 = (5 : Int32) from rfl] at p5
      rw [show nI 6 = (6 : Int32) from rfl] at p6
      have nn : ¬ oPx (some (qk, qe, qi)) = -1 := fun q => by
        have q : nI (pIx qk qe qi 0) = -1 := q
        have hb : pIx qk qe qi 0 < 2 ^ 31 := by unfold pIx; omega
        have := nI_pos (n := pIx qk qe qi 0) hb
        rw [q] at this
        exact absurd this (by decide)
      refine s_146_32 (kt := fun _ => ?_) (kf := fun z => absurd z nn)
      have ha := m_answersM (g := g) (P := P) (p := p) (x2 := 0) (x3 := hA h2 (ad 28) (nI (pIx qk qe qi 0) + 5).toNatClampNeg) (x4 := hA h2 (ad 28) (nI (pIx qk qe qi 0) + 6).toNatClampNeg) mw2 hp
      refine s_146_51 (k3 := mw2.1.1) (e5 := mw2.1.r28) (k6 := mw2.1.k28) (i7 := p5.1) (i8 := p6.1) (hc := ha) (kk := fun h3 x' ⟨q1, g3, mw3⟩ => s_146_76 ⟨_, rfl, q1, (g1.jn xa.gl).jn g3, ?_⟩)
      rw [p5.2, p6.2] at mw3
      exact mw3
  refine e_146 (s_146_0 (k3 := mw.1.1) (hc := m_headGood mw (by omega) ho) (kk := fun h1 x' ⟨q1, q2⟩ => ?_))
  subst q1; subst q2
  refine s_146_5 (kt := fun z => go h1 μ (MF.rf mw.2.1) mw (by unfold rd1; rw [if_pos z])) (kf := fun z => ?_)
  have er : rd1 y μ m = opnM y μ m 0 := by unfold rd1; rw [if_neg (fun q => q z)]
  refine s_146_8 (k3 := mw.1.1) (hc := m_opens mw mk hm8 enm hnm (by omega)) (kk := fun h2 x' ⟨q1, xa, mw2⟩ => ?_)
  subst q1
  by_cases q0 : (opnM y μ m 0).2 = 0
  · have e : reaM y μ p m x3 = ansM (opnM y μ m 0).1 p 4 0 0 := by unfold reaM; rw [er, if_pos q0]
    rw [e]
    refine s_146_14 (kt := fun z => absurd q0 z) (kf := fun _ => ?_)
    exact s_146_17 (k3 := mw2.1.1) (hc := m_answersM mw2 hp) (kk := fun h3 x' ⟨q1, g3, mw3⟩ => s_146_25 ⟨_, rfl, q1, xa.gl.jn g3, mw3⟩)
  · have e1 : (opnM y μ m 0).2 = 1 := by
      unfold opnM at q0 ⊢
      split
      · rename_i n1
        rw [if_pos n1] at q0
        exact absurd rfl q0
      · rename_i n1
        rw [if_neg n1] at q0
        split
        · rename_i n2
          rw [if_pos n2] at q0
          exact absurd rfl q0
        · rfl
    exact s_146_14 (kt := fun _ => go h2 _ xa.gl mw2 (by rw [er, ← e1])) (kf := fun z => absurd z q0)
end MQ3
