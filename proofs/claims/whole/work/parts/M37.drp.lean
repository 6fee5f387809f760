/-! the model: ownTablets, dropDead -/
def ddR (μ : mT) (k t : Nat) : mT := uR μ 58 (8 * k + t) (μ.2.1 58 (8 * (k + 1) + t))
def ddK (μ : mT) (k : Nat) : mT := (List.range 8).foldl (fun μ t => ddR μ k t) (uR μ 57 k (μ.2.1 57 (k + 1)))
def ddM (μ : mT) (d : Nat) : mT := (List.range (dN μ - 1 - d)).foldl (fun μ' j => ddK μ' (d + j)) (uN μ 56 (nI (dN μ - 1)))
def d58 (dn : Nat) (μ : mT) : Prop := ∀ i, i < 8 * dn → μ.2.1 58 i = 0 ∨ μ.2.1 58 i = 1
section MDd
variable {g : gcT} {P : pmT} {h h' h1 h2 : hpT} {y ad : Nat → Nat} {i j k n nm m e f c v p q d : Nat} {x x1 x2 x3 x4 : Int32} {μ μ' : mT} {Q : hpT → Option Value → Prop}
theorem m_ownTab {n8 : Nat} (h8 : n8 = 8) (mw : MW h y ad μ) (hm : m < 8) : EvI g P 177 [va_rf (some (y 12)), .int (nI m)] h (fun h' r => h' = h ∧ r = nI (otM μ m n8)) := by
  have e8 : (8 : Int32) = nI n8 := by rw [h8]; rfl
  have rl : (List.range n8).length = n8 := List.length_range
  refine e_177 (s_177_0 ?_)
  have lp := fold_loop (List.range n8) (fun t j => if μ.2.1 7 (8 * m + j) = 0 then t else t + 1) (fun j t => Ev g P 177 4 [some (va_rf (some (y 12))), some (.int (nI m)), some (.int (nI t)), some (.int (nI j))] [] h (fun h' r => ∃ x, r = some (.int x) ∧ h' = h ∧ x = nI (otM μ m n8))) ?_ 0 ?_
  · rw [nI_0] at lp; exact lp
  · intro j t hj kn
    rw [List.getElem_range] at kn
    rw [rl] at hj
    have c7 : hA h (ad 7) (8 * nI m + nI j).toNatClampNeg = μ.2.1 7 (8 * m + j) := by rw [ix8M, nI_clamp (by omega)]; exact mw.2.2.2.1 7 _ rfl
    refine s_177_4 (kt := fun z => absurd z (by rw [e8]; exact nI_ge hj (by omega))) (kf := fun _ => ?_)
    refine s_177_10 (k3 := mw.1.1) (e5 := mw.1.r7) (k6 := mw.1.k7) (i7 := by rw [ix8M, mw.1.n7]; exact vin_nI (by omega) (by decide)) (kt := fun z => s_177_29 (s_177_30 ?_)) (kf := fun z => s_177_25 (s_177_30 ?_))
    · rw [c7] at z
      rw [if_pos z] at kn
      rw [nI_1, Int32.add_zero]; exact kn
    · rw [c7] at z
      rw [if_neg z] at kn
      rw [nI_1, nI_1]; exact kn
  · rw [rl]
    exact s_177_4 (kt := fun _ => s_177_38 ⟨_, rfl, rfl, rfl⟩) (kf := fun z => absurd (by rw [e8]; exact nI_le (Nat.le_refl _) (by omega)) z)
/-- one step of the shift -/
theorem drop_k {n8 dn : Nat} (h8 : n8 = 8) (mw : MW h y ad μ) (hk : k + 1 < dn) (hdn : dn ≤ 16) (b58 : d58 dn μ) (kk : ∀ h2 x3, MG y ad h h2 → MW h2 y ad ((List.range n8).foldl (fun μ t => ddR μ k t) μ) → d58 dn ((List.range n8).foldl (fun μ t => ddR μ k t) μ) → Ev g P 173 72 [some (va_rf (some (y 12))), some (.int x1), some (.int (nI k)), some (.int x3)] [] h2 Q) : Ev g P 173 36 [some (va_rf (some (y 12))), some (.int x1), some (.int (nI k)), some (.int 0)] [] h Q := by
  have e8 : (8 : Int32) = nI n8 := by rw [h8]; rfl
  have rl : (List.range n8).length = n8 := List.length_range
  have lp := fold_loop (List.range n8) (fun μ t => ddR μ k t) (fun t μ' => ∀ h1, MG y ad h h1 → MW h1 y ad μ' → d58 dn μ' → Ev g P 173 36 [some (va_rf (some (y 12))), some (.int x1), some (.int (nI k)), some (.int (nI t))] [] h1 Q) ?_ μ ?_
  · have := lp h (MF.rf mw.2.1) mw b58
    rw [nI_0] at this
    exact this
  · intro t μ' ht kn h1 g1 mw1 b1
    rw [List.getElem_range] at kn
    rw [rl] at ht
    have ea : (8 : Int32) * (nI k + 1) + nI t = nI (8 * (k + 1) + t) := by rw [nI_1, ix8M]
    have c58 : hA h1 (ad 58) (nI (8 * (k + 1) + t)).toNatClampNeg = μ'.2.1 58 (8 * (k + 1) + t) := by rw [nI_clamp (by omega)]; exact mw1.2.2.2.1 58 _ rfl
    refine s_173_36 (kt := fun z => absurd z (by rw [e8]; exact nI_ge ht (by omega))) (kf := fun _ => ?_)
    refine s_173_42 (k3 := mw1.1.1) (e5 := mw1.1.r58) (k6 := mw1.1.k58) (i7 := by rw [ea, mw1.1.n58]; exact vin_nI (by omega) (by decide)) (i8 := by rw [ix8M, mw1.1.n58]; exact vin_nI (by omega) (by decide)) (b9 := by rw [ea, c58]; exact b1 _ (by omega)) (kk := ?_)
    rw [ea, c58, ix8M, nI_clamp (by omega), nI_1]
    refine kn _ (g1.jn (mw1.gA rfl)) (mw1.wA rfl) (fun i hi => ?_)
    show (if 58 = 58 ∧ i = 8 * k + t then μ'.2.1 58 (8 * (k + 1) + t) else μ'.2.1 58 i) = 0 ∨ (if 58 = 58 ∧ i = 8 * k + t then μ'.2.1 58 (8 * (k + 1) + t) else μ'.2.1 58 i) = 1
    split
    · exact b1 _ (by omega)
    · exact b1 i hi
  · intro h1 g1 mw1 b1
    rw [rl]
    exact s_173_36 (kt := fun _ => kk h1 _ g1 mw1 b1) (kf := fun z => absurd (by rw [e8]; exact nI_le (Nat.le_refl _) (by omega)) z)
end MDd
