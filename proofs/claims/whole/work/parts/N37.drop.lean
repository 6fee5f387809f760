/-! the two sides: a DEAD LOG that is recovered goes -/
section DP
variable {x x' v xr : Int32} {A A' B D : alT} {k e i j N U rep nm m c n up L M t r a d : Nat} {y : Nat → Nat} {S S' : stA} {μ μ' : mT} {de : List (alT × Int32)} {s : slT}
theorem dr_f : ∀ n, ((List.range n).foldl (fun μ t => ddR μ k t) μ).1 = μ.1 ∧ ((List.range n).foldl (fun μ t => ddR μ k t) μ).2.2 = μ.2.2 ∧ (n ≤ 8 → ∀ r q, ((List.range n).foldl (fun μ t => ddR μ k t) μ).2.1 r q = if r = 58 ∧ 8 * k ≤ q ∧ q < 8 * k + n then μ.2.1 58 (q + 8) else μ.2.1 r q) := by
  intro n
  induction n with
  | zero => exact ⟨rfl, rfl, fun _ r q => (if_neg (by omega)).symm⟩
  | succ n ih =>
    obtain ⟨i1, i2, i3⟩ := ih
    rw [List.range_succ, List.foldl_append, List.foldl_cons, List.foldl_nil]
    generalize (List.range n).foldl (fun μ t => ddR μ k t) μ = ν at *
    refine ⟨i1, i2, fun hn r q => ?_⟩
    show (if r = 58 ∧ q = 8 * k + n then ν.2.1 58 (8 * (k + 1) + n) else ν.2.1 r q) = _
    rw [i3 (by omega), i3 (by omega), if_neg (show ¬ ((58 : Nat) = 58 ∧ 8 * k ≤ 8 * (k + 1) + n ∧ 8 * (k + 1) + n < 8 * k + n) by omega)]
    by_cases c1 : r = 58 ∧ q = 8 * k + n
    · rw [if_pos c1, if_pos (show r = 58 ∧ 8 * k ≤ q ∧ q < 8 * k + (n + 1) by omega), show q + 8 = 8 * (k + 1) + n by omega]
    · rw [if_neg c1]
      by_cases c2 : r = 58 ∧ 8 * k ≤ q ∧ q < 8 * k + n
      · rw [if_pos c2, if_pos (show r = 58 ∧ 8 * k ≤ q ∧ q < 8 * k + (n + 1) by omega)]
      · rw [if_neg c2, if_neg (show ¬ (r = 58 ∧ 8 * k ≤ q ∧ q < 8 * k + (n + 1)) by omega)]
theorem dk_f : (ddK μ k).1 = μ.1 ∧ (ddK μ k).2.2 = μ.2.2 ∧ ∀ r q, (ddK μ k).2.1 r q = if r = 58 ∧ 8 * k ≤ q ∧ q < 8 * k + 8 then μ.2.1 58 (q + 8) else if r = 57 ∧ q = k then μ.2.1 57 (k + 1) else μ.2.1 r q := by
  have h := dr_f (k := k) (μ := uR μ 57 k (μ.2.1 57 (k + 1))) 8
  unfold ddK
  generalize (List.range 8).foldl (fun μ t => ddR μ k t) (uR μ 57 k (μ.2.1 57 (k + 1))) = ν at h ⊢
  exact ⟨h.1, h.2.1, fun r q => h.2.2 (Nat.le_refl _) r q⟩
theorem dm_f : ∀ n, ((List.range n).foldl (fun μ' j => ddK μ' (d + j)) μ).1 = μ.1 ∧ ((List.range n).foldl (fun μ' j => ddK μ' (d + j)) μ).2.2 = μ.2.2 ∧ ∀ r q, ((List.range n).foldl (fun μ' j => ddK μ' (d + j)) μ).2.1 r q = if r = 58 ∧ 8 * d ≤ q ∧ q < 8 * (d + n) then μ.2.1 58 (q + 8) else if r = 57 ∧ d ≤ q ∧ q < d + n then μ.2.1 57 (q + 1) else μ.2.1 r q := by
  intro n
  induction n with
  | zero => exact ⟨rfl, rfl, fun r q => by rw [if_neg (by omega), if_neg (by omega)]; rfl⟩
  | succ n ih =>
    obtain ⟨i1, i2, i3⟩ := ih
    rw [List.range_succ, List.foldl_append, List.foldl_cons, List.foldl_nil]
    generalize (List.range n).foldl (fun μ' j => ddK μ' (d + j)) μ = ν at *
    obtain ⟨k1, k2, k3⟩ := dk_f (μ := ν) (k := d + n)
    refine ⟨k1.trans i1, k2.trans i2, fun r q => ?_⟩
    rw [k3, i3, i3, i3]
    by_cases c1 : r = 58 ∧ 8 * (d + n) ≤ q ∧ q < 8 * (d + n) + 8
    · rw [if_pos c1, if_neg (show ¬ ((58 : Nat) = 58 ∧ 8 * d ≤ q + 8 ∧ q + 8 < 8 * (d + n)) by omega), if_neg (show ¬ ((58 : Nat) = 57 ∧ d ≤ q + 8 ∧ q + 8 < d + n) by omega), if_pos (show r = 58 ∧ 8 * d ≤ q ∧ q < 8 * (d + (n + 1)) by omega)]
    · rw [if_neg c1]
      by_cases c2 : r = 57 ∧ q = d + n
      · rw [if_pos c2, if_neg (show ¬ ((57 : Nat) = 58 ∧ 8 * d ≤ d + n + 1 ∧ d + n + 1 < 8 * (d + n)) by omega), if_neg (show ¬ ((57 : Nat) = 57 ∧ d ≤ d + n + 1 ∧ d + n + 1 < d + n) by omega), if_neg (show ¬ (r = 58 ∧ 8 * d ≤ q ∧ q < 8 * (d + (n + 1))) by omega), if_pos (show r = 57 ∧ d ≤ q ∧ q < d + (n + 1) by omega), c2.2]
      · rw [if_neg c2]
        by_cases c3 : r = 58 ∧ 8 * d ≤ q ∧ q < 8 * (d + n)
        · rw [if_pos c3, if_pos (show r = 58 ∧ 8 * d ≤ q ∧ q < 8 * (d + (n + 1)) by omega)]
        · rw [if_neg c3, if_neg (show ¬ (r = 58 ∧ 8 * d ≤ q ∧ q < 8 * (d + (n + 1))) by omega)]
          by_cases c4 : r = 57 ∧ d ≤ q ∧ q < d + n
          · rw [if_pos c4, if_pos (show r = 57 ∧ d ≤ q ∧ q < d + (n + 1) by omega)]
          · rw [if_neg c4, if_neg (show ¬ (r = 57 ∧ d ≤ q ∧ q < d + (n + 1)) by omega)]
theorem er_g (hj : j < de.length) : (de.eraseIdx j).length = de.length - 1 ∧ ∀ j', (de.eraseIdx j).getD j' d0A = if j' < j then de.getD j' d0A else de.getD (j' + 1) d0A := by
  refine ⟨List.length_eraseIdx_of_lt hj, fun j' => ?_⟩
  rw [List.getD_eq_getElem?_getD, List.getElem?_eraseIdx]
  split
  · rw [← List.getD_eq_getElem?_getD]
  · rw [← List.getD_eq_getElem?_getD]
theorem rm_R (mr : MR y S μ) (hj : j < (tDe S).length) : MR y (rmD S j) (ddM (uT μ (lgT μ.1 (μ.2.1 57 j) 99)) j) := by
  have edn := mr.dn
  obtain ⟨⟨k0, k1, k2, k3, k4⟩, ⟨l1, l2, l3, l4⟩, ⟨n1, n2, n3, n4, n5, n6, n7, n8⟩, ow, sv, de, dd, sp, lb⟩ := mr
  have y8 := k0.1.2
  have f := dm_f (d := j) (μ := uN (uT μ (lgT μ.1 (μ.2.1 57 j) 99)) 56 (nI (dN μ - 1))) (dN μ - 1 - j)
  have eD : ddM (uT μ (lgT μ.1 (μ.2.1 57 j) 99)) j = (List.range (dN μ - 1 - j)).foldl (fun μ' q => ddK μ' (j + q)) (uN (uT μ (lgT μ.1 (μ.2.1 57 j) 99)) 56 (nI (dN μ - 1))) := rfl
  rw [eD]
  generalize (List.range (dN μ - 1 - j)).foldl (fun μ' q => ddK μ' (j + q)) (uN (uT μ (lgT μ.1 (μ.2.1 57 j) 99)) 56 (nI (dN μ - 1))) = μ' at f ⊢
  rw [edn] at f
  obtain ⟨eT, eN, eR⟩ := f
  have eT : μ'.1 = lgT μ.1 (μ.2.1 57 j) 99 := eT
  have eN : ∀ k, μ'.2.2 k = if k = 56 then nI ((tDe S).length - 1) else μ.2.2 k := fun k => by rw [eN]; rfl
  have eR : ∀ r q, μ'.2.1 r q = if r = 58 ∧ 8 * j ≤ q ∧ q < 8 * (j + ((tDe S).length - 1 - j)) then μ.2.1 58 (q + 8) else if r = 57 ∧ j ≤ q ∧ q < j + ((tDe S).length - 1 - j) then μ.2.1 57 (q + 1) else μ.2.1 r q := eR
  obtain ⟨el, eg⟩ := er_g hj
  obtain ⟨⟨ej, ej1, ej2⟩, -, dj⟩ := de j hj
  have x99 : ¬ μ.2.1 57 j = 99 := by rw [ej2, n16_I]; exact nI_9 (by omega)
  have xs : ∀ a, a < 16 → ¬ nI a = μ.2.1 57 j := fun a ha w => by
    rw [ej2, n16_I] at w
    have := nI_inj (by omega) (by omega) w
    omega
  have oth : ∀ x' B, ¬ x' = μ.2.1 57 j → ¬ x' = 99 → LgR μ.1 x' B → LgR μ'.1 x' B := fun x' B w1 w2 rb => by rw [eT]; exact rb.lbo w1 w2
  have qN : ∀ k, ¬ k = 56 → μ'.2.2 k = μ.2.2 k := fun k w => by rw [eN, if_neg w]
  have qr : ∀ r q, ¬ r = 57 → ¬ r = 58 → μ'.2.1 r q = μ.2.1 r q := fun r q w1 w2 => by rw [eR, if_neg (fun w => w2 w.1), if_neg (fun w => w1 w.1)]
  have q57 : ∀ q, q < (tDe S).length - 1 → μ'.2.1 57 q = μ.2.1 57 (if q < j then q else q + 1) := fun q hq => by
    rw [eR, if_neg (by omega)]
    by_cases w : q < j
    · rw [if_neg (by omega), if_pos w]
    · rw [if_pos (show (57 : Nat) = 57 ∧ j ≤ q ∧ q < j + ((tDe S).length - 1 - j) by omega), if_neg w]
  have q58 : ∀ q t, q < (tDe S).length - 1 → t < 8 → μ'.2.1 58 (8 * q + t) = μ.2.1 58 (8 * (if q < j then q else q + 1) + t) := fun q t hq ht => by
    rw [eR]
    by_cases w : q < j
    · rw [if_neg (by omega), if_neg (by omega), if_pos w]
    · rw [if_pos (show (58 : Nat) = 58 ∧ 8 * j ≤ 8 * q + t ∧ 8 * q + t < 8 * (j + ((tDe S).length - 1 - j)) by omega), if_neg w, show 8 * (q + 1) + t = 8 * q + t + 8 by omega]
  have dl : (tDe (rmD S j)).length = (tDe S).length - 1 := el
  have ixl : ∀ q, q < (tDe S).length - 1 → (if q < j then q else q + 1) < (tDe S).length ∧ ¬ (if q < j then q else q + 1) = j := fun q hq => by
    split <;> omega
  refine ⟨⟨k0, (qN 0 (by decide)).trans k1, (qN 1 (by decide)).trans k2, (qN 2 (by decide)).trans k3, (qN 3 (by decide)).trans k4⟩, ⟨l1, l2, by rw [dl]; omega, l4⟩, ⟨(qN 14 (by decide)).trans n1, (qN 16 (by decide)).trans n2, (qN 17 (by decide)).trans n3, (qN 19 (by decide)).trans n4, (qN 21 (by decide)).trans n5, (qN 18 (by decide)).trans n6, (qN 20 (by decide)).trans n7, by rw [eN, if_pos rfl, dl]⟩, fun t ht => (qr 13 t (by decide) (by decide)).trans (ow t ht), fun q hq => ?_, fun q hq => ?_, fun a b ha hb e => ?_, fun s hs => ?_, fun s hs => ?_⟩
  · obtain ⟨⟨a1, a2, a3, a4, a5, a6⟩, b, c, d0, e0⟩ := sv q hq
    have rr : ∀ r, ¬ r = 57 → ¬ r = 58 → μ'.2.1 r q = μ.2.1 r q := fun r w1 w2 => qr r q w1 w2
    refine ⟨⟨(rr 5 (by decide) (by decide)).trans a1, (rr 6 (by decide) (by decide)).trans a2, (rr 8 (by decide) (by decide)).trans a3, (rr 9 (by decide) (by decide)).trans a4, (rr 11 (by decide) (by decide)).trans a5, (rr 12 (by decide) (by decide)).trans a6⟩, fun t ht => (qr 7 _ (by decide) (by decide)).trans (b t ht), ?_, oth _ _ (xs q (by omega)) (nI_9 (by omega)) d0, oth _ _ (by rw [n8_I]; exact xs (8 + q) (by omega)) (by rw [n8_I]; exact nI_9 (by omega)) e0⟩
    have := c.lg (x := μ.2.1 57 j) (v := 99) (ρ := μ'.2.1) (ν := μ'.2.2) (rr 10 (by decide) (by decide)) (xs q (by omega))
    rw [← eT] at this
    exact this
  · rw [dl] at hq
    obtain ⟨i1, i2⟩ := ixl q hq
    have hg : (tDe (rmD S j)).getD q d0A = (tDe S).getD (if q < j then q else q + 1) d0A := by
      show ((tDe S).eraseIdx j).getD q d0A = _
      rw [eg]
      split <;> rfl
    rw [hg]
    obtain ⟨⟨e', h1, h2⟩, h3, h4⟩ := de _ i1
    refine ⟨⟨e', h1, (q57 q hq).trans h2⟩, fun t ht => (q58 q t hq ht).trans (h3 t ht), ?_⟩
    rw [q57 q hq]
    refine oth _ _ (fun w => i2 (dd _ _ i1 hj w)) ?_ h4
    rw [h2, n16_I]; exact nI_9 (by omega)
  · rw [dl] at ha hb
    rw [q57 a ha, q57 b hb] at e
    have := dd _ _ (ixl a ha).1 (ixl b hb).1 e
    split at this <;> split at this <;> omega
  · rw [eT] at hs
    rcases lg_mem hs with ⟨w, w1, w2, w3⟩ | ⟨w1, w2⟩
    · rw [w3]; exact (sp w w1).lb (fun a ha w => nI_9 (by omega) w.symm)
    · exact sp s w1
  · rw [eT] at hs
    rw [dl]
    rcases lg_mem hs with ⟨w, w1, w2, w3⟩ | ⟨w1, w2⟩
    · rw [w3]; exact Or.inl rfl
    · rcases lb s w1 with q | q | q | ⟨b, b1, b2⟩
      · exact Or.inl q
      · exact Or.inr (Or.inl q)
      · exact Or.inr (Or.inr (Or.inl q))
      · have nb : ¬ b = j := fun w => w2 (by rw [← w]; exact b2)
        by_cases c : b < j
        · exact Or.inr (Or.inr (Or.inr ⟨b, by omega, by rw [q57 b (by omega), if_pos c]; exact b2⟩))
        · exact Or.inr (Or.inr (Or.inr ⟨b - 1, by omega, by rw [q57 (b - 1) (by omega), if_neg (by omega), show b - 1 + 1 = b by omega]; exact b2⟩))
end DP
