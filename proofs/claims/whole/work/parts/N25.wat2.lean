/-! the two sides: the Coordinator finds a server DEAD, whole -/
section WT2
variable {T T' T2 : List slT} {x x' v n xr lim need : Int32} {A A' B : alT} {st : Nat → Int32} {k e i j N U rep nm m up c c' dl r d t : Nat} {s s' : slT} {hd : Option Nat} {y : Nat → Nat} {S S' : stA} {μ μ' : mT} {z z' : srA} {ow : List Int32}
theorem MR.dn (mr : MR y S μ) : dN μ = (tDe S).length := by
  obtain ⟨-, ⟨-, -, l3, -⟩, ⟨-, -, -, -, -, -, -, n8⟩, -⟩ := mr
  unfold dN
  rw [n8]
  exact nI_clamp (by omega)
def waR (μ : mT) (m d : Nat) (f : Int32) (r k : Nat) : Int32 := if r = 58 ∧ 8 * d ≤ k ∧ k < 8 * d + 8 then (if μ.2.1 13 (k - 8 * d) = nI m then 1 else 0) else if r = 13 ∧ k < 8 ∧ μ.2.1 13 k = nI m then -1 else if r = 57 ∧ k = d then f else μ.2.1 r k
def waQ (μ : mT) (m d : Nat) (f : Int32) (r k : Nat) : Int32 := if r = 8 ∧ k = m then 0 else if μ.2.1 8 m = 0 ∧ r = 10 ∧ k = m then -1 else if μ.2.1 8 m = 0 ∧ r = 6 ∧ k = m then 1 else waR μ m d f r k
theorem wa2_e : (wa2 μ m).1 = μ.1 ∧ (wa2 μ m).2.2 = μ.2.2 ∧ ∀ r k, (wa2 μ m).2.1 r k = waR μ m (dN μ) (fdM μ) r k := by
  have h := wt_f (m := m) (d := dN μ) (μ := uR μ 57 (dN μ) (fdM μ)) 8
  unfold wa2
  generalize (List.range 8).foldl (wtS m (dN μ)) (uR μ 57 (dN μ) (fdM μ)) = ν at h ⊢
  exact ⟨h.1, h.2.1, fun r k => h.2.2 r k⟩
theorem wa5_e : (wa5 (wa3 μ m) m).1 = lgT μ.1 (waF μ m) (fdM μ) ∧ (∀ r k, (wa5 (wa3 μ m) m).2.1 r k = waQ μ m (dN μ) (fdM μ) r k) ∧ ∀ k, (wa5 (wa3 μ m) m).2.2 k = if k = 18 then μ.2.2 18 + 1 else if k = 56 then μ.2.2 56 + 1 else μ.2.2 k := by
  obtain ⟨e1, e2, e3⟩ := wa2_e (μ := μ) (m := m)
  unfold wa3
  generalize wa2 μ m = ν at e1 e2 e3 ⊢
  have r8 : (uT ν (lgT ν.1 (waF μ m) (fdM μ))).2.1 8 m = μ.2.1 8 m := by
    show ν.2.1 8 m = _
    rw [e3]
    unfold waR
    rw [if_neg (by omega), if_neg (by omega), if_neg (by omega)]
  unfold wa5 wa4
  rw [r8]
  by_cases q : μ.2.1 8 m = 0
  · rw [if_pos q]
    refine ⟨?_, fun r k => ?_, fun k => ?_⟩
    · show lgT ν.1 (waF μ m) (fdM μ) = _
      rw [e1]
    · show (if r = 8 ∧ k = m then 0 else if r = 10 ∧ k = m then -1 else if r = 6 ∧ k = m then 1 else ν.2.1 r k) = _
      unfold waQ
      rw [e3]
      by_cases c1 : r = 8 ∧ k = m
      · rw [if_pos c1, if_pos c1]
      · rw [if_neg c1, if_neg c1]
        by_cases c2 : r = 10 ∧ k = m
        · rw [if_pos c2, if_pos ⟨q, c2⟩]
        · rw [if_neg c2, if_neg (show ¬ (μ.2.1 8 m = 0 ∧ r = 10 ∧ k = m) from fun z => c2 z.2)]
          by_cases c3 : r = 6 ∧ k = m
          · rw [if_pos c3, if_pos ⟨q, c3⟩]
          · rw [if_neg c3, if_neg (show ¬ (μ.2.1 8 m = 0 ∧ r = 6 ∧ k = m) from fun z => c3 z.2)]
    · show (if k = 18 then ν.2.2 18 + 1 else if k = 56 then ν.2.2 56 + 1 else ν.2.2 k) = _
      rw [e2]
  · rw [if_neg q]
    refine ⟨?_, fun r k => ?_, fun k => ?_⟩
    · show lgT ν.1 (waF μ m) (fdM μ) = _
      rw [e1]
    · show (if r = 8 ∧ k = m then 0 else ν.2.1 r k) = _
      unfold waQ
      rw [e3]
      by_cases c1 : r = 8 ∧ k = m
      · rw [if_pos c1, if_pos c1]
      · rw [if_neg c1, if_neg c1, if_neg (fun z => q z.1), if_neg (fun z => q z.1)]
    · show (if k = 18 then ν.2.2 18 + 1 else if k = 56 then ν.2.2 56 + 1 else ν.2.2 k) = _
      rw [e2]
end WT2
