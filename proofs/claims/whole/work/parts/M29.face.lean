/-! the model: isServer, crash, restart, sleep, wake, cut, coordinator, acked, got -/
def isM (y : Nat → Nat) (x : Int32) : Int32 := if x < 0 ∨ nI (y 20) - 1 < x then 0 else 1
def frmM (y : Nat → Nat) (μ : mT) (x a b : Int32) : mT × Int32 := if isM y x = 0 then (μ, 0) else if μ.2.1 5 x.toNatClampNeg = a then (uR μ 5 x.toNatClampNeg b, 1) else (μ, 0)
def crsM (y : Nat → Nat) (μ : mT) (x : Int32) : mT × Int32 := if isM y x = 0 then (μ, 0) else if μ.2.1 5 x.toNatClampNeg = 2 then (μ, 0) else (dwnM μ x.toNatClampNeg, 1)
def cutM (y : Nat → Nat) (μ : mT) (x z : Int32) : mT × Int32 := if isM y x = 0 then (μ, 0) else if ¬ μ.2.1 5 x.toNatClampNeg = 0 then (μ, 0) else if z < -1 ∨ nI (y 21) < z then (μ, 0) else (uR μ 12 x.toNatClampNeg z, 1)
def akdM (μ : mT) (x : Int32) : Int32 := if x < 0 ∨ 5 < x then -1 else nI (akM μ x.toNatClampNeg + 1)
def gotM (μ : mT) (x1 x2 x3 : Int32) : Int32 := if x1 < 0 ∨ 5 < x1 then -1000000 else if x2 < 1 ∨ μ.2.1 39 x1.toNatClampNeg < x2 then -1000000 else if x3 < 0 ∨ 2 < x3 then -1000000 else if μ.2.1 44 (40 * x1.toNatClampNeg + x2.toNatClampNeg - 1) = 0 then -1000000 else if x3 = 0 then μ.2.1 45 (40 * x1.toNatClampNeg + x2.toNatClampNeg - 1) else if x3 = 1 then μ.2.1 46 (40 * x1.toNatClampNeg + x2.toNatClampNeg - 1) else μ.2.1 47 (40 * x1.toNatClampNeg + x2.toNatClampNeg - 1)
section MU
variable {g : gcT} {P : pmT} {h h' h1 h2 : hpT} {y ad : Nat → Nat} {i j k n nm m e f c v p q : Nat} {x x1 x2 x3 x4 x5 x6 x7 x8 x9 xr : Int32} {μ : mT} {Q : hpT → Option Value → Prop}
theorem m_isSrvM (mw : MW h y ad μ) (mk : MK0 y μ) : EvI g P 104 [va_rf (some (y 12)), .int x1] h (fun h' r => h' = h ∧ r = isM y x1) := by
  have e0 : hI h 832 (y 12) = nI (y 20) := (mw.n 0 (by decide) (by decide) rfl).trans mk.2.1
  have hin := m_in (g := g) (P := P) (h := h) (x1 := x1) (x2 := 0) (x3 := hI h 832 (y 12) - 1)
  refine e_104 (s_104_0 (k3 := mw.1.1) (hc := hin) (kk := fun h1 x' ⟨q1, q2⟩ => s_104_11 ?_ ⟨_, rfl, q1, ?_⟩))
  · rw [q2]; split
    · exact Or.inl rfl
    · exact Or.inr rfl
  · rw [q2, e0]; rfl
theorem isM_n (hy : 4 ≤ y 20 ∧ y 20 ≤ 8) (q : ¬ isM y x = 0) : ∃ m, m < y 20 ∧ x = nI m := by
  unfold isM at q
  by_cases b : x < 0 ∨ nI (y 20) - 1 < x
  · rw [if_pos b] at q; exact absurd rfl q
  · have e : nI (y 20) - 1 = nI (y 20 - 1) := by
      have := nI_pred (y 20 - 1)
      rw [show y 20 - 1 + 1 = y 20 by omega] at this
      exact this
    obtain ⟨m, hm, em⟩ := rg_nI (x := x) (b := y 20 - 1) (by omega) (fun z => b (Or.inl z)) (fun z => b (Or.inr (by rw [e]; exact z)))
    exact ⟨m, by omega, em⟩
theorem m_fromM (mw : MW h y ad μ) (mk : MK0 y μ) : EvI g P 158 [va_rf (some (y 12)), .int x1, .int x2, .int x3] h (fun h' r => r = (frmM y μ x1 x2 x3).2 ∧ MG y ad h h' ∧ MW h' y ad (frmM y μ x1 x2 x3).1) := by
  refine e_158 (s_158_0 (k3 := mw.1.1) (hc := m_isSrvM mw mk) (kk := fun h1 x' ⟨q1, q2⟩ => ?_))
  subst q1; subst q2
  generalize hr : frmM y μ x1 x2 x3 = res
  unfold frmM at hr
  by_cases q : isM y x1 = 0
  · rw [if_pos q] at hr
    subst hr
    exact s_158_5 (kt := fun _ => s_158_18 ⟨_, rfl, rfl, MF.rf mw.2.1, mw⟩) (kf := fun z => absurd q z)
  · rw [if_neg q] at hr
    obtain ⟨m, hm, em⟩ := isM_n mk.1.1 q
    subst em
    have y8 := mk.1.1.2
    have c5 : hA h1 (ad 5) (nI m).toNatClampNeg = μ.2.1 5 (nI m).toNatClampNeg := mw.2.2.2.1 5 _ rfl
    have v5 : vinD (nI m) (hN h1 (ad 5)) := by rw [mw.1.n5]; exact vin_nI (by omega) (by decide)
    refine s_158_5 (kt := fun z => absurd z q) (kf := fun _ => ?_)
    refine s_158_8 (k3 := mw.1.1) (e5 := mw.1.r5) (k6 := mw.1.k5) (i7 := v5) (kt := fun z => ?_) (kf := fun z => ?_)
    · rw [c5] at z
      rw [if_pos z] at hr
      subst hr
      exact s_158_20 (k3 := mw.1.1) (e5 := mw.1.r5) (k6 := mw.1.k5) (i7 := v5) (hq := ⟨_, rfl, rfl, mw.gA rfl, mw.wA rfl⟩)
    · rw [c5] at z
      rw [if_neg z] at hr
      subst hr
      exact s_158_18 ⟨_, rfl, rfl, MF.rf mw.2.1, mw⟩
theorem frm_01 : (frmM y μ x1 x2 x3).2 = 0 ∨ (frmM y μ x1 x2 x3).2 = 1 := by
  unfold frmM
  split
  · exact Or.inl rfl
  · split
    · exact Or.inr rfl
    · exact Or.inl rfl
theorem m_restartM (mw : MW h y ad μ) (mk : MK0 y (sn0 μ)) : EvI g P 159 [va_rf (some (y 12)), .int x1] h (fun h' r => r = (frmM y (sn0 μ) x1 2 0).2 ∧ MG y ad h h' ∧ MW h' y ad (frmM y (sn0 μ) x1 2 0).1) := by
  have mw0 : MW (hpI h 836 (y 12) 0) y ad (sn0 μ) := mw.wN (k := 4) rfl (by decide) (by decide)
  have g0 : MG y ad h (hpI h 836 (y 12) 0) := mw.gN (k := 4) rfl
  exact e_159 (s_159_0 (k3 := mw.1.1) (hc := m_fromM mw0 mk) (kk := fun h1 x' ⟨q1, g1, mw1⟩ => s_159_12 (by rw [q1]; exact frm_01) ⟨_, rfl, q1, g0.jn g1, mw1⟩))
theorem m_sleepM (mw : MW h y ad μ) (mk : MK0 y (sn0 μ)) : EvI g P 160 [va_rf (some (y 12)), .int x1] h (fun h' r => r = (frmM y (sn0 μ) x1 0 1).2 ∧ MG y ad h h' ∧ MW h' y ad (frmM y (sn0 μ) x1 0 1).1) := by
  have mw0 : MW (hpI h 836 (y 12) 0) y ad (sn0 μ) := mw.wN (k := 4) rfl (by decide) (by decide)
  have g0 : MG y ad h (hpI h 836 (y 12) 0) := mw.gN (k := 4) rfl
  exact e_160 (s_160_0 (k3 := mw.1.1) (hc := m_fromM mw0 mk) (kk := fun h1 x' ⟨q1, g1, mw1⟩ => s_160_12 (by rw [q1]; exact frm_01) ⟨_, rfl, q1, g0.jn g1, mw1⟩))
theorem m_wakeM (mw : MW h y ad μ) (mk : MK0 y (sn0 μ)) : EvI g P 161 [va_rf (some (y 12)), .int x1] h (fun h' r => r = (frmM y (sn0 μ) x1 1 0).2 ∧ MG y ad h h' ∧ MW h' y ad (frmM y (sn0 μ) x1 1 0).1) := by
  have mw0 : MW (hpI h 836 (y 12) 0) y ad (sn0 μ) := mw.wN (k := 4) rfl (by decide) (by decide)
  have g0 : MG y ad h (hpI h 836 (y 12) 0) := mw.gN (k := 4) rfl
  exact e_161 (s_161_0 (k3 := mw.1.1) (hc := m_fromM mw0 mk) (kk := fun h1 x' ⟨q1, g1, mw1⟩ => s_161_12 (by rw [q1]; exact frm_01) ⟨_, rfl, q1, g0.jn g1, mw1⟩))
theorem m_crashM (mw : MW h y ad μ) (mk : MK0 y (sn0 μ)) : EvI g P 157 [va_rf (some (y 12)), .int x1] h (fun h' r => r = (crsM y (sn0 μ) x1).2 ∧ MG y ad h h' ∧ MW h' y ad (crsM y (sn0 μ) x1).1) := by
  have mw0 : MW (hpI h 836 (y 12) 0) y ad (sn0 μ) := mw.wN (k := 4) rfl (by decide) (by decide)
  have g0 : MG y ad h (hpI h 836 (y 12) 0) := mw.gN (k := 4) rfl
  refine e_157 (s_157_0 (k3 := mw.1.1) (hc := m_isSrvM mw0 mk) (kk := fun h1 x' ⟨q1, q2⟩ => ?_))
  subst q1; subst q2
  generalize hpI h 836 (y 12) 0 = H0 at mw0 g0 ⊢
  generalize sn0 μ = μ at mw0 mk ⊢
  generalize hr : crsM y μ x1 = res
  unfold crsM at hr
  by_cases q : isM y x1 = 0
  · rw [if_pos q] at hr
    subst hr
    exact s_157_10 (kt := fun _ => s_157_23 ⟨_, rfl, rfl, g0, mw0⟩) (kf := fun z => absurd q z)
  · rw [if_neg q] at hr
    obtain ⟨m, hm, em⟩ := isM_n mk.1.1 q
    subst em
    have y8 := mk.1.1.2
    have em : (nI m).toNatClampNeg = m := nI_clamp (by omega)
    rw [em] at hr
    have c5 : hA H0 (ad 5) (nI m).toNatClampNeg = μ.2.1 5 m := by rw [em]; exact mw0.2.2.2.1 5 _ rfl
    have v5 : vinD (nI m) (hN H0 (ad 5)) := by rw [mw0.1.n5]; exact vin_nI (by omega) (by decide)
    refine s_157_10 (kt := fun z => absurd z q) (kf := fun _ => ?_)
    refine s_157_13 (k3 := mw0.1.1) (e5 := mw0.1.r5) (k6 := mw0.1.k5) (i7 := v5) (kt := fun z => ?_) (kf := fun z => ?_)
    · rw [c5] at z
      rw [if_neg z] at hr
      subst hr
      exact s_157_25 (k3 := mw0.1.1) (hc := m_goesDown mw0 (by omega)) (kk := fun h1 ⟨g1, mw1⟩ => s_157_30 ⟨_, rfl, rfl, g0.jn g1, mw1⟩)
    · rw [c5] at z
      rw [if_pos z] at hr
      subst hr
      exact s_157_23 ⟨_, rfl, rfl, g0, mw0⟩
theorem m_cutM (mw : MW h y ad μ) (mk : MK0 y (sn0 μ)) : EvI g P 162 [va_rf (some (y 12)), .int x1, .int x2] h (fun h' r => r = (cutM y (sn0 μ) x1 x2).2 ∧ MG y ad h h' ∧ MW h' y ad (cutM y (sn0 μ) x1 x2).1) := by
  have mw0 : MW (hpI h 836 (y 12) 0) y ad (sn0 μ) := mw.wN (k := 4) rfl (by decide) (by decide)
  have g0 : MG y ad h (hpI h 836 (y 12) 0) := mw.gN (k := 4) rfl
  refine e_162 (s_162_0 (k3 := mw.1.1) (hc := m_isSrvM mw0 mk) (kk := fun h1 x' ⟨q1, q2⟩ => ?_))
  subst q1; subst q2
  generalize hpI h 836 (y 12) 0 = H0 at mw0 g0 ⊢
  generalize sn0 μ = μ at mw0 mk ⊢
  generalize hr : cutM y μ x1 x2 = res
  unfold cutM at hr
  have no : (μ, (0 : Int32)) = res → Ev g P 162 33 [some (va_rf (some (y 12))), some (.int x1), some (.int x2)] [] H0 (fun h' r => ∃ x, r = some (.int x) ∧ x = res.2 ∧ MG y ad h h' ∧ MW h' y ad res.1) := fun e => by
    subst e; exact s_162_33 ⟨_, rfl, rfl, g0, mw0⟩
  by_cases q : isM y x1 = 0
  · rw [if_pos q] at hr
    exact s_162_10 (kt := fun _ => no hr) (kf := fun z => absurd q z)
  · rw [if_neg q] at hr
    obtain ⟨m, hm, em⟩ := isM_n mk.1.1 q
    subst em
    have y8 := mk.1.1.2
    have em : (nI m).toNatClampNeg = m := nI_clamp (by omega)
    rw [em] at hr
    refine s_162_10 (kt := fun z => absurd z q) (kf := fun _ => ?_)
    refine s_162_13 (k3 := mw0.1.1) (hc := m_isUpM mw0.1 (i := m) (by omega)) (kk := fun h1 x' ⟨q1, q2⟩ => ?_)
    subst q1; subst q2
    rw [mw0.2.2.2.1 5 m rfl]
    by_cases qu : μ.2.1 5 m = 0
    · rw [if_neg (fun z => z qu)] at hr
      rw [if_pos qu]
      have e1 : hI h1 833 (y 12) = nI (y 21) := (mw0.n 1 (by decide) (by decide) rfl).trans mk.2.2.1
      have hin := m_in (g := g) (P := P) (h := h1) (x1 := x2) (x2 := -1) (x3 := hI h1 833 (y 12))
      refine s_162_18 (kt := fun z => absurd z (by decide)) (kf := fun _ => s_162_21 (k3 := mw0.1.1) (hc := hin) (kk := fun h2 x' ⟨q1, q2⟩ => ?_))
      subst q1; subst q2
      rw [e1]
      by_cases qj : x2 < -1 ∨ nI (y 21) < x2
      · rw [if_pos qj] at hr ⊢
        exact s_162_30 (kt := fun z => absurd rfl z) (kf := fun _ => no hr)
      · rw [if_neg qj] at hr ⊢
        subst hr
        refine s_162_30 (kt := fun _ => s_162_35 (k3 := mw0.1.1) (e5 := mw0.1.r12) (k6 := mw0.1.k12) (i7 := by rw [mw0.1.n12]; exact vin_nI (by omega) (by decide)) (hq := ?_)) (kf := fun z => absurd z (by decide))
        rw [em]
        exact ⟨_, rfl, rfl, g0.jn (mw0.gA rfl), mw0.wA rfl⟩
    · rw [if_pos qu] at hr
      rw [if_neg qu]
      exact s_162_18 (kt := fun _ => no hr) (kf := fun z => absurd rfl z)
theorem m_coordM (mw : MW h y ad μ) (b : x1 = 0 ∨ x1 = 1) : EvV g P 163 [va_rf (some (y 12)), .int x1] h (fun h' => MG y ad h h' ∧ MW h' y ad (uN (sn0 μ) 14 x1)) := by
  have mw0 : MW (hpI h 836 (y 12) 0) y ad (sn0 μ) := mw.wN (k := 4) rfl (by decide) (by decide)
  have g0 : MG y ad h (hpI h 836 (y 12) 0) := mw.gN (k := 4) rfl
  exact e_163 (s_163_0 (k3 := mw.1.1) (b4 := b) (hq := ⟨rfl, g0.jn (mw0.gN (k := 14) rfl), mw0.wN (k := 14) rfl (by decide) (by decide)⟩))
theorem m_ackdM (mw : MW h y ad μ) (cq : ∀ c, c < 6 → cqOK (sn0 μ) c) : EvI g P 156 [va_rf (some (y 12)), .int x1] h (fun h' r => r = akdM (sn0 μ) x1 ∧ MG y ad h h' ∧ MW h' y ad (sn0 μ)) := by
  have mw0 : MW (hpI h 836 (y 12) 0) y ad (sn0 μ) := mw.wN (k := 4) rfl (by decide) (by decide)
  have g0 : MG y ad h (hpI h 836 (y 12) 0) := mw.gN (k := 4) rfl
  refine e_156 (s_156_0 (k3 := mw.1.1) (hc := m_in) (kk := fun h1 x' ⟨q1, q2⟩ => ?_))
  subst q1; subst q2
  generalize hpI h 836 (y 12) 0 = H0 at mw0 g0 ⊢
  generalize sn0 μ = μ at mw0 cq ⊢
  unfold akdM
  by_cases b1 : x1 < 0 ∨ 5 < x1
  · rw [if_pos b1, if_pos b1]
    exact s_156_11 (kt := fun _ => s_156_22 (s_156_23 ⟨_, rfl, rfl, g0, mw0⟩)) (kf := fun z => absurd rfl z)
  · rw [if_neg b1, if_neg b1]
    obtain ⟨c, hc, e1⟩ := rg_nI (x := x1) (b := 5) (by decide) (fun z => b1 (Or.inl z)) (fun z => b1 (Or.inr z))
    subst e1
    have ec : (nI c).toNatClampNeg = c := nI_clamp (by omega)
    rw [ec]
    obtain ⟨a1, a2, a3⟩ := cq c (by omega)
    refine s_156_11 (kt := fun z => absurd z (by decide)) (kf := fun _ => ?_)
    refine s_156_14 (k3 := mw0.1.1) (hc := m_ackedOfM mw0 (by omega) a1 a2) (kk := fun h1 x' ⟨q1, q2⟩ => s_156_19 (s_156_23 ⟨_, rfl, q2, ?_, ?_⟩))
    · rw [q1]; exact g0
    · rw [q1]; exact mw0
end MU
