/-! the two sides: a tick -/
section TK
variable {x x' v xr : Int32} {A A' B D : alT} {k e i j N U rep nm m c n up L M t r a : Nat} {y : Nat → Nat} {S S' : stA} {μ μ' : mT} {ν : Nat → Int32}
theorem MR.num (mr : MR y S μ) (h : ∀ k, ¬ k = 15 → ¬ k = 22 → ¬ k = 4 → ν k = μ.2.2 k) : MR y S (μ.1, μ.2.1, ν) := by
  obtain ⟨⟨k0, k1, k2, k3, k4⟩, l, ⟨n1, n2, n3, n4, n5, n6, n7, n8⟩, rest⟩ := mr
  have q : ∀ k, ¬ k = 15 → ¬ k = 22 → ¬ k = 4 → ν k = μ.2.2 k := h
  exact ⟨⟨k0, (q 0 (by decide) (by decide) (by decide)).trans k1, (q 1 (by decide) (by decide) (by decide)).trans k2, (q 2 (by decide) (by decide) (by decide)).trans k3, (q 3 (by decide) (by decide) (by decide)).trans k4⟩, l, ⟨(q 14 (by decide) (by decide) (by decide)).trans n1, (q 16 (by decide) (by decide) (by decide)).trans n2, (q 17 (by decide) (by decide) (by decide)).trans n3, (q 19 (by decide) (by decide) (by decide)).trans n4, (q 21 (by decide) (by decide) (by decide)).trans n5, (q 18 (by decide) (by decide) (by decide)).trans n6, (q 20 (by decide) (by decide) (by decide)).trans n7, (q 56 (by decide) (by decide) (by decide)).trans n8⟩, rest⟩
theorem men_len : (menM y μ m k).1.1.length = μ.1.length := by
  unfold menM
  split
  · cases menS y μ m k with
    | none => rfl
    | some s =>
      show (μ.1.set k _).length = _
      rw [List.length_set]
  · rfl
theorem tkL_len : ∀ C : List Nat, (tkL y μ m C).1.length = μ.1.length := by
  intro C
  induction C with
  | nil => rfl
  | cons k C ih =>
    show (if (menM y μ m k).2 = 0 then tkL y μ m C else (menM y μ m k).1 : mT).1.length = _
    split
    · exact ih
    · exact men_len
theorem tks_len : (tksM y μ m).1.length = μ.1.length := by
  unfold tksM
  split
  · rfl
  · split
    · show (lgT μ.1 (nI m) 99).length = _
      exact lg_len
    · unfold tk3
      rw [tkL_len]
      split <;> rfl
theorem td_all (mr : MR y S μ) (hT : μ.1.length < 2 ^ 31) : ∀ n, n ≤ y 20 → MR y ((List.range n).foldl (tdS y) S) ((List.range n).foldl (tksM y) μ) ∧ ((List.range n).foldl (tksM y) μ).1.length = μ.1.length := by
  intro n
  induction n with
  | zero => intro _; exact ⟨mr, rfl⟩
  | succ n ih =>
    intro hn
    obtain ⟨i1, i2⟩ := ih (by omega)
    rw [rfl_s, rfl_s]
    generalize (List.range n).foldl (tdS y) S = S1 at *
    generalize (List.range n).foldl (tksM y) μ = μ1 at *
    exact ⟨td_R i1 (by omega) (by omega), tks_len.trans i2⟩
theorem lkS_o {i' : Nat} (h : ¬ i' = i) : (tSv (lkS S i)).getD i' sr0 = (tSv S).getD i' sr0 := by
  unfold lkS
  split
  · show ((((tSv S).set i _).set i _).getD i' sr0) = _
    rw [List.getD_eq_getElem?_getD, List.getElem?_set_ne (fun u => h u.symm), List.getElem?_set_ne (fun u => h u.symm), ← List.getD_eq_getElem?_getD]
  · show ((tSv S).set i _).getD i' sr0 = _
    rw [List.getD_eq_getElem?_getD, List.getElem?_set_ne (fun u => h u.symm), ← List.getD_eq_getElem?_getD]
theorem lk_all (mr : MR y S μ) (sv : ∀ i, i < y 20 → SvI ((tSv S).getD i sr0)) : ∀ n, n ≤ y 20 → MR y ((List.range n).foldl lkS S) ((List.range n).foldl watM μ) ∧ ∀ i, n ≤ i → i < y 20 → SvI ((tSv ((List.range n).foldl lkS S)).getD i sr0) := by
  intro n
  induction n with
  | zero => intro _; exact ⟨mr, fun i _ hi => sv i hi⟩
  | succ n ih =>
    intro hn
    obtain ⟨i1, i2⟩ := ih (by omega)
    rw [rfl_s, rfl_s]
    generalize (List.range n).foldl lkS S = S1 at *
    generalize (List.range n).foldl watM μ = μ1 at *
    exact ⟨wat_R i1 (by omega) (i2 n (Nat.le_refl _) (by omega)), fun i h1 h2 => by rw [lkS_o (by omega)]; exact i2 i (by omega) h2⟩
/-- one tick: the store, and how many DEAD LOGS were recovered -/
def tkT (y : Nat → Nat) (S : stA) : stA × Int32 := if ¬ tAw (tdA y S) = 0 then (tdA y S, 0) else ((tkD y (tdA y S)).1.1, nI (tkD y (tdA y S)).2)
def tkP (y : Nat → Nat) (S : stA) (μ : mT) : Prop := (∀ i, i < y 20 → SvI ((tSv (tdA y S)).getD i sr0)) ∧ (tAw (tdA y S) = 0 → GQ PV0 (ot3 y μ (y 20)).1 ∧ (∀ i, i < y 20 → ∀ u ∈ (sLg ((tSv (lkA y (tdA y S))).getD i sr0)).1, u.1 < tNm (lkA y (tdA y S))) ∧ (ot3 y μ (y 20)).1.length ≤ 6000 ∧ DAl (lkA y (tdA y S)) ∧ TBl y (lkA y (tdA y S)) ∧ tNm (tkD y (tdA y S)).1.1 ≤ 75000)
theorem on1_R (mr : MR y S μ) (hT : μ.1.length < 2 ^ 31) (hp : tkP y S μ) : MR y (tkT y S).1 (on1 y μ).1 ∧ (on1 y μ).2 = (tkT y S).2 := by
  have m1 : MR y S (ot1 μ) := mr.num (fun k h1 _ _ => if_neg h1)
  obtain ⟨m2, -⟩ := td_all m1 hT (y 20) (Nat.le_refl _)
  have m2 : MR y (tdA y S) (ot2 y μ (y 20)) := m2
  have aw : (ot2 y μ (y 20)).2.2 14 = tAw (tdA y S) := m2.2.2.1.1
  obtain ⟨p1, p2⟩ := hp
  unfold tkT on1
  rw [aw]
  by_cases q : tAw (tdA y S) = 0
  · rw [if_neg (show ¬ ¬ tAw (tdA y S) = 0 from fun w => w q), if_neg (show ¬ ¬ tAw (tdA y S) = 0 from fun w => w q)]
    obtain ⟨m3, -⟩ := lk_all m2 p1 (y 20) (Nat.le_refl _)
    have m3 : MR y (lkA y (tdA y S)) (ot3 y μ (y 20)) := m3
    obtain ⟨q1, q2, q3, q4, q5, q6⟩ := p2 q
    have dn := m3.dn
    have l16 := m3.2.1.2.2.1
    unfold tkD at q6 ⊢
    rw [dn]
    generalize (tDe (lkA y (tdA y S))).length = n at l16 q6 ⊢
    have hL : 6000 + 5000 * (n + 1) < 2 ^ 31 - 9 := by omega
    obtain ⟨t1, t2⟩ := rcL_R (y := y) n 6000 (lkA y (tdA y S)) 0 0 0 (ot3 y μ (y 20)) 0 ⟨m3, q1, q2, q3, q4, q5⟩ rfl q6 hL
    exact ⟨t1.1, t2⟩
  · rw [if_pos q, if_pos q]
    exact ⟨m2, rfl⟩
end TK
