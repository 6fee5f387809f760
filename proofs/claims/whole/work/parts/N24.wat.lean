/-! the two sides: the Coordinator finds a server DEAD -/
section WT
variable {T T' T2 : List slT} {x x' v n xr lim need : Int32} {A A' B : alT} {st : Nat → Int32} {k e i j N U rep nm m up c c' dl r d t : Nat} {s s' : slT} {hd : Option Nat} {y : Nat → Nat} {S S' : stA} {μ μ' : mT} {z z' : srA} {ow : List Int32}
theorem wt_f : ∀ n, ((List.range n).foldl (wtS m d) μ).1 = μ.1 ∧ ((List.range n).foldl (wtS m d) μ).2.2 = μ.2.2 ∧ ∀ r k, ((List.range n).foldl (wtS m d) μ).2.1 r k = if r = 58 ∧ 8 * d ≤ k ∧ k < 8 * d + n then (if μ.2.1 13 (k - 8 * d) = nI m then 1 else 0) else if r = 13 ∧ k < n ∧ μ.2.1 13 k = nI m then -1 else μ.2.1 r k := by
  intro n
  induction n with
  | zero =>
    refine ⟨rfl, rfl, fun r k => ?_⟩
    rw [if_neg (by omega), if_neg (by omega)]; rfl
  | succ n ih =>
    obtain ⟨i1, i2, i3⟩ := ih
    rw [List.range_succ, List.foldl_append, List.foldl_cons, List.foldl_nil]
    generalize (List.range n).foldl (wtS m d) μ = ν at i1 i2 i3
    have e13 : ν.2.1 13 n = μ.2.1 13 n := by rw [i3, if_neg (by omega), if_neg (by omega)]
    unfold wtS
    rw [e13]
    by_cases q : μ.2.1 13 n = nI m
    · rw [if_pos q]
      refine ⟨i1, i2, fun r k => ?_⟩
      show (if r = 13 ∧ k = n then -1 else if r = 58 ∧ k = 8 * d + n then 1 else ν.2.1 r k) = _
      rw [i3]
      by_cases c1 : r = 13 ∧ k = n
      · rw [if_pos c1, if_neg (by omega), if_pos ⟨c1.1, by omega, by rw [c1.2]; exact q⟩]
      · rw [if_neg c1]
        by_cases c2 : r = 58 ∧ k = 8 * d + n
        · rw [if_pos c2, if_pos ⟨c2.1, by omega, by omega⟩, show k - 8 * d = n by omega, if_pos q]
        · rw [if_neg c2]
          by_cases c3 : r = 58 ∧ 8 * d ≤ k ∧ k < 8 * d + n
          · rw [if_pos c3, if_pos (show r = 58 ∧ 8 * d ≤ k ∧ k < 8 * d + (n + 1) by omega)]
          · rw [if_neg c3, if_neg (show ¬ (r = 58 ∧ 8 * d ≤ k ∧ k < 8 * d + (n + 1)) by omega)]
            by_cases c4 : r = 13 ∧ k < n ∧ μ.2.1 13 k = nI m
            · rw [if_pos c4, if_pos ⟨c4.1, by omega, c4.2.2⟩]
            · rw [if_neg c4, if_neg (fun z => c4 ⟨z.1, by omega, z.2.2⟩)]
    · rw [if_neg q]
      refine ⟨i1, i2, fun r k => ?_⟩
      show (if r = 58 ∧ k = 8 * d + n then 0 else ν.2.1 r k) = _
      rw [i3]
      by_cases c2 : r = 58 ∧ k = 8 * d + n
      · rw [if_pos c2, if_pos ⟨c2.1, by omega, by omega⟩, show k - 8 * d = n by omega, if_neg q]
      · rw [if_neg c2]
        by_cases c3 : r = 58 ∧ 8 * d ≤ k ∧ k < 8 * d + n
        · rw [if_pos c3, if_pos (show r = 58 ∧ 8 * d ≤ k ∧ k < 8 * d + (n + 1) by omega)]
        · rw [if_neg c3, if_neg (show ¬ (r = 58 ∧ 8 * d ≤ k ∧ k < 8 * d + (n + 1)) by omega)]
          by_cases c4 : r = 13 ∧ k < n ∧ μ.2.1 13 k = nI m
          · rw [if_pos c4, if_pos ⟨c4.1, by omega, c4.2.2⟩]
          · rw [if_neg c4, if_neg (fun z => c4 ⟨z.1, by
              have : ¬ k = n := fun w => q (by rw [← w]; exact z.2.2)
              omega, z.2.2⟩)]
theorem ddF_f (hl : ow.length = 8) : ∀ n, n ≤ 8 → (ddF ow i n).1.length = 8 ∧ (∀ t, t < 8 → (ddF ow i n).1.getD t 0 = if t < n ∧ ow.getD t 0 = nI i then -1 else ow.getD t 0) ∧ ∃ mk, mk < 256 ∧ (ddF ow i n).2 = nI mk ∧ ∀ t, t < 8 → (mk.testBit t = true ↔ t < n ∧ ow.getD t 0 = nI i) := by
  intro n
  induction n with
  | zero =>
    intro _
    refine ⟨hl, fun t ht => by rw [if_neg (by omega)]; rfl, 0, by decide, rfl, fun t ht => ?_⟩
    rw [Nat.zero_testBit]
    exact ⟨fun z => absurd z (by decide), fun z => by omega⟩
  | succ n ih =>
    intro hn
    obtain ⟨i1, i2, mk, m1, m2, m3⟩ := ih (by omega)
    have e : ddF ow i (n + 1) = dd1 i (ddF ow i n) n := by unfold ddF; rw [List.range_succ, List.foldl_append]; rfl
    rw [e]
    have en : (ddF ow i n).1.getD n 0 = ow.getD n 0 := by rw [i2 n (by omega), if_neg (by omega)]
    unfold dd1
    rw [en]
    by_cases q : ow.getD n 0 = nI i
    · rw [if_pos q]
      obtain ⟨o1, o2⟩ := or_N mk m1 n (by omega)
      refine ⟨by show ((ddF ow i n).1.set n (-1)).length = 8; rw [List.length_set]; exact i1, fun t ht => ?_, mk ||| 2 ^ n, o2, by show (ddF ow i n).2 ||| _ = _; rw [m2]; exact o1, fun t ht => ?_⟩
      · show ((ddF ow i n).1.set n (-1)).getD t 0 = _
        by_cases c : n = t
        · subst c
          rw [List.getD_eq_getElem?_getD, List.getElem?_set_self (by omega), if_pos ⟨by omega, q⟩]; rfl
        · rw [List.getD_eq_getElem?_getD, List.getElem?_set_ne c, ← List.getD_eq_getElem?_getD, i2 t ht]
          by_cases c2 : t < n ∧ ow.getD t 0 = nI i
          · rw [if_pos c2, if_pos ⟨by omega, c2.2⟩]
          · rw [if_neg c2, if_neg (fun z => c2 ⟨by omega, z.2⟩)]
      · rw [Nat.testBit_or, Nat.testBit_two_pow, Bool.or_eq_true, m3 t ht, decide_eq_true_eq]
        constructor
        · intro z
          rcases z with z | z
          · exact ⟨by omega, z.2⟩
          · subst z; exact ⟨by omega, q⟩
        · intro z
          by_cases c : n = t
          · exact Or.inr c
          · exact Or.inl ⟨by omega, z.2⟩
    · rw [if_neg q]
      refine ⟨i1, fun t ht => ?_, mk, m1, m2, fun t ht => ?_⟩
      · rw [i2 t ht]
        by_cases c2 : t < n ∧ ow.getD t 0 = nI i
        · rw [if_pos c2, if_pos ⟨by omega, c2.2⟩]
        · rw [if_neg c2, if_neg (fun z => c2 ⟨by
            have : ¬ t = n := fun w => q (by rw [← w]; exact z.2)
            omega, z.2⟩)]
      · rw [m3 t ht]
        constructor
        · intro z; exact ⟨by omega, z.2⟩
        · intro z
          refine ⟨?_, z.2⟩
          have : ¬ t = n := fun w => q (by rw [← w]; exact z.2)
          omega
/-- a label that no DEAD LOG has -/
theorem fd_R (hd : d < 16) (h57 : ∀ j, j < d → ∃ e, e < 16 ∧ μ.2.1 57 j = 16 + nI e) (ed : dN μ = d) : ∃ e, e < 16 ∧ fdM μ = 16 + nI e ∧ ∀ j, j < d → ¬ μ.2.1 57 j = 16 + nI e := by
  have fa : ∀ e, fdA μ e = true ↔ ∀ j, j < d → ¬ μ.2.1 57 j = 16 + nI e := by
    intro e
    unfold fdA
    rw [ed]
    have : ∀ (l : List Nat) (b : Bool), l.foldl (fun b k => b && decide (¬ μ.2.1 57 k = 16 + nI e)) b = true ↔ b = true ∧ ∀ j ∈ l, ¬ μ.2.1 57 j = 16 + nI e := by
      intro l
      induction l with
      | nil => intro b; exact ⟨fun h => ⟨h, fun _ h => by cases h⟩, fun h => h.1⟩
      | cons a l ih =>
        intro b
        rw [List.foldl_cons, ih, Bool.and_eq_true, decide_eq_true_eq]
        constructor
        · intro h
          exact ⟨h.1.1, fun j hj => by
            rcases List.mem_cons.mp hj with z | z
            · rw [z]; exact h.1.2
            · exact h.2 j z⟩
        · intro h
          exact ⟨⟨h.1, h.2 a List.mem_cons_self⟩, fun j hj => h.2 j (List.mem_cons_of_mem _ hj)⟩
    rw [this]
    exact ⟨fun h j hj => h.2 j (List.mem_range.mpr hj), fun h => ⟨rfl, fun j hj => h j (List.mem_range.mp hj)⟩⟩
  unfold fdM
  cases ef : (List.range 16).find? (fdA μ) with
  | some e =>
    have h1 := List.mem_range.mp (List.mem_of_find?_eq_some ef)
    exact ⟨e, h1, rfl, (fa e).mp (List.find?_some ef)⟩
  | none =>
    -- 16 labels among fewer than 16 LOGS
    exfalso
    have h0 := List.find?_eq_none.mp ef
    have all : ∀ e, e < 16 → ∃ j, j < d ∧ μ.2.1 57 j = 16 + nI e := fun e he => by
      have := h0 e (List.mem_range.mpr he)
      rw [fa e] at this
      apply Decidable.byContradiction
      intro z
      exact this (fun j hj w => z ⟨j, hj, w⟩)
    have sub : ∀ a ∈ (List.range 16).map (fun e => (16 : Int32) + nI e), a ∈ (List.range d).map (μ.2.1 57) := fun a ha => by
      obtain ⟨e, e1, e2⟩ := List.mem_map.mp ha
      obtain ⟨j, j1, j2⟩ := all e (List.mem_range.mp e1)
      exact List.mem_map.mpr ⟨j, List.mem_range.mpr j1, by rw [j2, e2]⟩
    have nd : ((List.range 16).map (fun e => (16 : Int32) + nI e)).Nodup := by decide
    have := nd.length_le_of_subset sub
    rw [List.length_map, List.length_map, List.length_range, List.length_range] at this
    omega
theorem MRs.kp2 (h : MRs μ j z) (nj : ¬ j = i) (hr : ∀ r k, ¬ r = 57 → ¬ r = 58 → ¬ r = 13 → (¬ r = 7 → ¬ k = i) → (r = 7 → ¬ k / 8 = i) → μ'.2.1 r k = μ.2.1 r k) (hdk : HdR μ j (sLg z).2.1 → HdR μ' j (sLg z).2.1) (l1 : ∀ B, LgR μ.1 (nI j) B → LgR μ'.1 (nI j) B) (l2 : ∀ B, LgR μ.1 (8 + nI j) B → LgR μ'.1 (8 + nI j) B) : MRs μ' j z := by
  obtain ⟨⟨a1, a2, a3, a4, a5, a6⟩, b, c, d, e⟩ := h
  have rr : ∀ r, ¬ r = 57 → ¬ r = 58 → ¬ r = 13 → ¬ r = 7 → μ'.2.1 r j = μ.2.1 r j := fun r z1 z2 z3 z4 => hr r j z1 z2 z3 (fun _ => nj) (fun q => absurd q z4)
  exact ⟨⟨(rr 5 (by decide) (by decide) (by decide) (by decide)).trans a1, (rr 6 (by decide) (by decide) (by decide) (by decide)).trans a2, (rr 8 (by decide) (by decide) (by decide) (by decide)).trans a3, (rr 9 (by decide) (by decide) (by decide) (by decide)).trans a4, (rr 11 (by decide) (by decide) (by decide) (by decide)).trans a5, (rr 12 (by decide) (by decide) (by decide) (by decide)).trans a6⟩, fun t ht => (hr 7 (8 * j + t) (by decide) (by decide) (by decide) (fun q => absurd rfl q) (fun _ => by omega)).trans (b t ht), hdk c, l1 _ d, l2 _ e⟩
theorem HdR.lg {ρ : Nat → Nat → Int32} {ν : Nat → Int32} (h : HdR μ j hd) (hρ : ρ 10 j = μ.2.1 10 j) (nx : ¬ nI j = x) : HdR (lgT μ.1 x v, ρ, ν) j hd := by
  rcases h with ⟨h1, h2⟩ | ⟨k, k1, k2, k3, k4⟩
  · exact Or.inl ⟨h1, hρ.trans h2⟩
  · have e : (lgT μ.1 x v).getD k sl0 = μ.1.getD k sl0 := by rw [lg_at k1, lgE_n (by rw [k3]; exact nx)]
    exact Or.inr ⟨k, by show k < (lgT μ.1 x v).length; rw [lg_len]; exact k1, hρ.trans k2, by show lLg ((lgT μ.1 x v).getD k sl0) = _; rw [e]; exact k3, by show _ = some (lNm ((lgT μ.1 x v).getD k sl0)); rw [e]; exact k4⟩
theorem mss_R (mr : MR y S μ) (hi : i < y 20) : MR y (mssS S i) (wa1 μ i) := by
  have mr0 := mr
  obtain ⟨⟨k0, k1, k2, k3, k4⟩, ⟨l1, l2, l3, l4⟩, ⟨n1, n2, n3, n4, n5, n6, n7, n8⟩, ow, sv, de, dd, sp, lb⟩ := mr
  obtain ⟨⟨a1, a2, a3, a4, a5, a6⟩, b, c, d, e⟩ := sv i hi
  refine MR.sv (z' := mssX ((tSv S).getD i sr0)) (c' := tFo S) mr0 hi rfl (fun r k h1 h2 => if_neg (fun z => h1 (by omega) z.2)) (fun r k h => if_neg (by omega)) (fun _ _ => rfl) n7 (fun k hk _ _ => ⟨hk, rfl⟩) ⟨⟨a1, a2, a3, a4, ?_, a6⟩, b, c, d, e⟩ (fun _ _ _ _ _ r => r) sp (fun s hs => Or.inr (Or.inr (Or.inr (lb s hs))))
  show (if (11 : Nat) = 11 ∧ i = i then (if μ.2.1 5 i = 0 then 0 else μ.2.1 11 i + 1) else μ.2.1 11 i) = if sSt ((tSv S).getD i sr0) = 0 then 0 else sMi ((tSv S).getD i sr0) + 1
  rw [if_pos ⟨rfl, rfl⟩, a1, a5]
end WT
