/-! the model: owner, ownTablets -/
def ownM (μ : mT) (x : Int32) : Int32 := if x < 0 ∨ 7 < x then -1 else μ.2.1 13 x.toNatClampNeg
def otM (μ : mT) (m n : Nat) : Nat := (List.range n).foldl (fun t j => if μ.2.1 7 (8 * m + j) = 0 then t else t + 1) 0
section MQa
variable {g : gcT} {P : pmT} {h h' h1 h2 : hpT} {y ad : Nat → Nat} {i j k n nm m e f c v p q d : Nat} {x x1 x2 x3 x4 : Int32} {μ μ' : mT}
theorem m_ownerM (mw : MW h y ad μ) : EvI g P 176 [va_rf (some (y 12)), .int x1] h (fun h' r => r = ownM (sn0 μ) x1 ∧ MG y ad h h' ∧ MW h' y ad (sn0 μ)) := by
  have mw0 : MW (hpI h 836 (y 12) 0) y ad (sn0 μ) := mw.wN (k := 4) rfl (by decide) (by decide)
  have g0 : MG y ad h (hpI h 836 (y 12) 0) := mw.gN (k := 4) rfl
  refine e_176 (s_176_0 (k3 := mw.1.1) (hc := m_in) (kk := fun h1 x' ⟨q1, q2⟩ => ?_))
  subst q1; subst q2
  generalize hpI h 836 (y 12) 0 = H0 at mw0 g0 ⊢
  generalize sn0 μ = μ at mw0 ⊢
  unfold ownM
  by_cases b1 : x1 < 0 ∨ 7 < x1
  · rw [if_pos b1, if_pos b1]
    exact s_176_12 (kt := fun _ => s_176_24 (s_176_25 ⟨_, rfl, rfl, g0, mw0⟩)) (kf := fun z => absurd rfl z)
  · rw [if_neg b1, if_neg b1]
    obtain ⟨c, hc, e1⟩ := rg_nI (x := x1) (b := 7) (by decide) (fun z => b1 (Or.inl z)) (fun z => b1 (Or.inr z))
    subst e1
    refine s_176_12 (kt := fun z => absurd z (by decide)) (kf := fun _ => ?_)
    exact s_176_15 (k3 := mw0.1.1) (e5 := mw0.1.r13) (k6 := mw0.1.k13) (i7 := by rw [mw0.1.n13]; exact vin_nI (by omega) (by decide)) (kk := s_176_25 ⟨_, rfl, mw0.2.2.2.1 13 _ rfl, g0, mw0⟩)
end MQa
