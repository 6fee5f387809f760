/-! the two sides: DOWN, forgetting -/
/-- a server's flags as they must be -/
def SvI (x : srA) : Prop := (sSt x = 0 ∨ sSt x = 1 ∨ sSt x = 2) ∧ (sFe x = 0 ∨ sFe x = 1) ∧ (sLo x = 0 ∨ sLo x = 1) ∧ (sLo x = 0 ↔ sLL x = none) ∧ (sCu x = -1 ∨ ∃ k, k ≤ 3 ∧ sCu x = nI k)
section DW2
variable {T T' T2 : List slT} {x x' v n xr lim need : Int32} {A A' B : alT} {st : Nat → Int32} {k e i j N U rep nm m up c c' dl r : Nat} {s s' : slT} {hd : Option Nat} {y : Nat → Nat} {S S' : stA} {μ μ' : mT} {z z' : srA}
theorem tab_N (ho : ∀ t, t < 8 → μ.2.1 13 t = (tOw S).getD t 0) : tabA (tOw S) v = nI (onN μ v) := by
  unfold tabA onN owN
  have : ∀ (l : List Nat) (t : Nat), (∀ j ∈ l, j < 8) → l.foldl (fun t j => if (tOw S).getD j 0 = v then t + 1 else t) (nI t) = nI (l.foldl (fun t j => if μ.2.1 13 j = v then t + 1 else t) t) := by
    intro l
    induction l with
    | nil => intro t _; rfl
    | cons a l ih =>
      intro t h
      rw [List.foldl_cons, List.foldl_cons, ho a (h a List.mem_cons_self)]
      by_cases q : (tOw S).getD a 0 = v
      · rw [if_pos q, if_pos q, nI_1]
        exact ih _ (fun j hj => h j (List.mem_cons_of_mem _ hj))
      · rw [if_neg q, if_neg q]
        exact ih _ (fun j hj => h j (List.mem_cons_of_mem _ hj))
  have := this (List.range 8) 0 (fun j hj => List.mem_range.mp hj)
  rw [nI_0] at this
  exact this
theorem tab_0 (ho : ∀ t, t < 8 → μ.2.1 13 t = (tOw S).getD t 0) : ¬ tabA (tOw S) v ≤ 0 ↔ 0 < onN μ v := by
  rw [tab_N ho, ← nI_0, nI_leI (Nat.lt_of_le_of_lt onN_le (by decide)) (by decide)]
  omega
theorem sh_0 : ∀ t, t < 8 → shrB 0 (nI t) = 0 := by decide
def losR2 (μ : mT) (m r k : Nat) : Int32 := if r = 12 ∧ k = m then -1 else if r = 6 ∧ k = m then 0 else if r = 10 ∧ k = m then -1 else if r = 9 ∧ k = m then 0 else if r = 7 ∧ 8 * m ≤ k ∧ k < 8 * m + 8 then 0 else μ.2.1 r k
theorem los_r : (losM μ m).2.1 r k = losR2 μ m r k := rfl
theorem los_o (h1 : ¬ r = 7 → ¬ k = m) (h2 : r = 7 → ¬ k / 8 = m) : losR2 μ m r k = μ.2.1 r k := by
  unfold losR2
  by_cases q : r = 7
  · have := h2 q
    rw [if_neg (by omega), if_neg (by omega), if_neg (by omega), if_neg (by omega), if_neg (by omega)]
  · have := h1 q
    rw [if_neg (by omega), if_neg (by omega), if_neg (by omega), if_neg (by omega), if_neg (by omega)]
theorem los_2 (h : r = 57 ∨ r = 58 ∨ r = 13 ∨ r = 5 ∨ r = 8 ∨ r = 11) : losR2 μ m r k = μ.2.1 r k := by
  unfold losR2
  rw [if_neg (by omega), if_neg (by omega), if_neg (by omega), if_neg (by omega), if_neg (by omega)]
theorem los_s : losR2 μ m 6 m = 0 ∧ losR2 μ m 9 m = 0 ∧ losR2 μ m 12 m = -1 ∧ losR2 μ m 10 m = -1 ∧ ∀ t, t < 8 → losR2 μ m 7 (8 * m + t) = 0 := by
  unfold losR2
  refine ⟨?_, ?_, ?_, ?_, fun t ht => ?_⟩
  · rw [if_neg (by omega), if_pos ⟨rfl, rfl⟩]
  · rw [if_neg (by omega), if_neg (by omega), if_neg (by omega), if_pos ⟨rfl, rfl⟩]
  · rw [if_pos ⟨rfl, rfl⟩]
  · rw [if_neg (by omega), if_neg (by omega), if_pos ⟨rfl, rfl⟩]
  · rw [if_neg (by omega), if_neg (by omega), if_neg (by omega), if_neg (by omega), if_pos (by omega)]
theorem dwn_R (mr : MR y S μ) (hi : i < y 20) (sv0 : SvI ((tSv S).getD i sr0)) : MR y (bdA S i) (dwnM μ i) := by
  have mr0 := mr
  obtain ⟨⟨k0, k1, k2, k3, k4⟩, ⟨l1, l2, l3, l4⟩, ⟨n1, n2, n3, n4, n5, n6, n7, n8⟩, ow, sv, de, dd, sp, lb⟩ := mr
  obtain ⟨⟨a1, a2, a3, a4, a5, a6⟩, b, c, d, e⟩ := sv i hi
  obtain ⟨-, -, s3, s4, -⟩ := sv0
  have y8 := k0.1.2
  have t0 := tab_0 (v := nI i) ow
  have n99 : ¬ nI i = 99 := nI_9 (by omega)
  have n8i : ¬ nI i = 8 + nI i := fun z => by rw [n8_I] at z; have := nI_inj (by omega) (by omega) z; omega
  have n899 : ¬ (8 + nI i : Int32) = 99 := by rw [n8_I]; exact nI_9 (by omega)
  -- the new label
  have hv : ∃ v, v = (if 0 < onN μ (nI i) ∧ μ.2.1 8 i = 0 then 8 + nI i else 99) := ⟨_, rfl⟩
  obtain ⟨v, ev⟩ := hv
  have vx : ¬ nI i = v := by rw [ev]; split; exact n8i; exact n99
  have vn : ∀ j, j < 8 → ¬ v = nI j := fun j hj z => by
    rw [ev] at z
    split at z
    · rw [n8_I] at z; have := nI_inj (by omega) (by omega) z; omega
    · exact nI_9 (by omega) z.symm
  have eM : dwnM μ i = (lgT μ.1 (nI i) v, fun r k => if r = 5 ∧ k = i then 2 else losR2 (uR μ 8 i (if ¬ μ.2.1 8 i = 0 ∨ 0 < onN μ (nI i) then 1 else 0)) i r k, μ.2.2) := by
    rw [ev]; rfl
  rw [eM]
  have rw8 : ∀ r k, ¬ (r = 8 ∧ k = i) → (uR μ 8 i (if ¬ μ.2.1 8 i = 0 ∨ 0 < onN μ (nI i) then 1 else 0)).2.1 r k = μ.2.1 r k := fun r k h => if_neg h
  obtain ⟨q6, q9, q12, q10, q7⟩ := los_s (μ := uR μ 8 i (if ¬ μ.2.1 8 i = 0 ∨ 0 < onN μ (nI i) then 1 else 0)) (m := i)
  refine MR.sv (z' := bdS (tOw S) i ((tSv S).getD i sr0)) (c' := tFo S) mr0 hi rfl (fun r k h1 h2 => ?_) (fun r k h => ?_) (fun _ _ => rfl) n7 KE.lg ⟨⟨?_, ?_, ?_, ?_, ?_, ?_⟩, fun t ht => ?_, Or.inl ⟨rfl, ?_⟩, ?_, ?_⟩ (fun x' B z1 z2 z3 rb => ?_) (fun s hs => ?_) (fun s hs => ?_)
  · show (if r = 5 ∧ k = i then 2 else losR2 _ i r k) = _
    rw [if_neg (fun z => h1 (by omega) z.2), los_o h1 h2, rw8 r k (fun z => h1 (by omega) z.2)]
  · show (if r = 5 ∧ k = i then 2 else losR2 _ i r k) = _
    rw [if_neg (by omega), los_2 (by omega), rw8 r k (by omega)]
  · exact if_pos ⟨rfl, rfl⟩
  · show (if (6 : Nat) = 5 ∧ i = i then 2 else losR2 _ i 6 i) = _
    rw [if_neg (by omega), q6]; rfl
  · show (if (8 : Nat) = 5 ∧ i = i then 2 else losR2 _ i 8 i) = if sLo ((tSv S).getD i sr0) = 0 ∧ ¬ tabA (tOw S) (nI i) ≤ 0 then 1 else sLo ((tSv S).getD i sr0)
    rw [if_neg (by omega), los_2 (by omega)]
    show (if (8 : Nat) = 8 ∧ i = i then _ else _) = _
    rw [if_pos ⟨rfl, rfl⟩, a3]
    by_cases w1 : sLo ((tSv S).getD i sr0) = 0
    · by_cases w2 : 0 < onN μ (nI i)
      · rw [if_pos (Or.inr w2), if_pos ⟨w1, t0.mpr w2⟩]
      · rw [if_neg (fun z => z.elim (fun z => z w1) w2), if_neg (fun z => w2 (t0.mp z.2)), w1]
    · rw [if_pos (Or.inl w1), if_neg (fun z => w1 z.1)]
      exact (s3.resolve_left w1).symm
  · show (if (9 : Nat) = 5 ∧ i = i then 2 else losR2 _ i 9 i) = _
    rw [if_neg (by omega), q9]; rfl
  · exact a5
  · show (if (12 : Nat) = 5 ∧ i = i then 2 else losR2 _ i 12 i) = _
    rw [if_neg (by omega), q12]; rfl
  · show (if (7 : Nat) = 5 ∧ 8 * i + t = i then 2 else losR2 _ i 7 (8 * i + t)) = shrB 0 (nI t)
    rw [if_neg (by omega), q7 t ht, sh_0 t ht]
  · show (if (10 : Nat) = 5 ∧ i = i then 2 else losR2 _ i 10 i) = _
    rw [if_neg (by omega), q10]
  · exact LgR.emp (lg_x vx)
  · show LgR (lgT μ.1 (nI i) v) (8 + nI i) (lgO (if sLo ((tSv S).getD i sr0) = 0 ∧ ¬ tabA (tOw S) (nI i) ≤ 0 then some (sLg ((tSv S).getD i sr0)) else sLL ((tSv S).getD i sr0)))
    by_cases w : 0 < onN μ (nI i) ∧ μ.2.1 8 i = 0
    · rw [if_pos w] at ev
      have w1 : sLo ((tSv S).getD i sr0) = 0 := by rw [← a3]; exact w.2
      rw [if_pos ⟨w1, t0.mpr w.1⟩, ev]
      rw [s4.mp w1] at e
      exact d.lab (e.nil rfl) n8i
    · rw [if_neg w] at ev
      rw [if_neg (fun z => w ⟨t0.mp z.2, by rw [a3]; exact z.1⟩), ev]
      exact e.lbo (fun z => n8i z.symm) n899
  · refine rb.lbo z1 (fun z => ?_)
    rw [ev] at z
    split at z
    · exact z2 z
    · exact z3 z
  · rcases lg_mem hs with ⟨w, w1, w2, w3⟩ | ⟨w1, w2⟩
    · rw [w3]; exact (sp w w1).lb vn
    · exact sp s w1
  · rcases lg_mem hs with ⟨w, w1, w2, w3⟩ | ⟨w1, w2⟩
    · rw [w3]
      show v = 99 ∨ v = nI i ∨ v = 8 + nI i ∨ _
      rw [ev]
      split
      · exact Or.inr (Or.inr (Or.inl rfl))
      · exact Or.inl rfl
    · exact Or.inr (Or.inr (Or.inr (lb s w1)))
theorem fgt_R (mr : MR y S μ) (hi : i < y 20) : MR y (fgA S i) (fgtM μ i) := by
  have mr0 := mr
  obtain ⟨⟨k0, k1, k2, k3, k4⟩, ⟨l1, l2, l3, l4⟩, ⟨n1, n2, n3, n4, n5, n6, n7, n8⟩, ow, sv, de, dd, sp, lb⟩ := mr
  obtain ⟨⟨a1, a2, a3, a4, a5, a6⟩, b, c, d, e⟩ := sv i hi
  have y8 := k0.1.2
  have n99 : ¬ nI i = 99 := nI_9 (by omega)
  have n8i : ¬ nI i = 8 + nI i := fun z => by rw [n8_I] at z; have := nI_inj (by omega) (by omega) z; omega
  have n899 : ¬ (8 + nI i : Int32) = 99 := by rw [n8_I]; exact nI_9 (by omega)
  have eM : fgtM μ i = (lgT μ.1 (nI i) 99, fun r k => losR2 μ i r k, fun k => if k = 20 then μ.2.2 20 + 1 else μ.2.2 k) := rfl
  rw [eM]
  obtain ⟨q6, q9, q12, q10, q7⟩ := los_s (μ := μ) (m := i)
  refine MR.sv (z' := emS ((tSv S).getD i sr0)) (c' := tFo S + 1) mr0 hi rfl (fun r k h1 h2 => los_o h1 h2) (fun r k h => los_2 (by omega)) (fun k h => if_neg h) ?_ KE.lg ⟨⟨?_, ?_, ?_, ?_, ?_, ?_⟩, fun t ht => ?_, Or.inl ⟨rfl, q10⟩, LgR.emp (lg_x n99), e.lbo (fun z => n8i z.symm) n899⟩ (fun x' B z1 z2 z3 rb => rb.lbo z1 z3) (fun s hs => ?_) (fun s hs => ?_)
  · show (if (20 : Nat) = 20 then μ.2.2 20 + 1 else μ.2.2 20) = _
    rw [if_pos rfl, n7, nI_1]
  · exact (los_2 (m := i) (r := 5) (k := i) (by omega)).trans a1
  · exact q6
  · exact (los_2 (m := i) (r := 8) (k := i) (by omega)).trans a3
  · exact q9
  · exact (los_2 (m := i) (r := 11) (k := i) (by omega)).trans a5
  · exact q12
  · exact (q7 t ht).trans (sh_0 t ht).symm
  · rcases lg_mem hs with ⟨w, w1, w2, w3⟩ | ⟨w1, w2⟩
    · rw [w3]; exact (sp w w1).lb (fun j hj z => nI_9 (by omega) z.symm)
    · exact sp s w1
  · rcases lg_mem hs with ⟨w, w1, w2, w3⟩ | ⟨w1, w2⟩
    · rw [w3]; exact Or.inl rfl
    · exact Or.inr (Or.inr (Or.inr (lb s w1)))
end DW2
