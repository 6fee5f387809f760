/-! the two sides: peek, count -/
section AK
variable {x x1 x2 x3 v ky : Int32} {k e i j N t f n c p m : Nat} {y : Nat → Nat} {S S' : stA} {μ μ' : mT} {F F' : fcT}
theorem peek_R (h : FR y F μ) (uq : ∀ i, i < y 20 → UQ (allP (sLg ((tSv (fSt F)).getD i sr0))) ∧ vr1 (allP (sLg ((tSv (fSt F)).getD i sr0)))) : pkM y (sn0 μ) x1 x2 x3 = pekA y F x1 x2 x3 := by
  have h0 := h.sn
  generalize sn0 μ = ν at h0
  have hy := h0.1.1.1.1
  unfold pkM pekA
  rw [is_F hy]
  have i64 : inF x2 64 = 0 ↔ (x2 < 0 ∨ 63 < x2) := in_F (x := x2) (n := 63) (by decide)
  by_cases q : inF x1 (nI (y 20)) = 0
  · rw [if_pos q, if_pos (Or.inl q)]
  · rw [if_neg q]
    by_cases q2 : x2 < 0 ∨ 63 < x2
    · rw [if_pos q2, if_pos (Or.inr (Or.inl (i64.mpr q2)))]
    · rw [if_neg q2]
      by_cases q3 : x3 < 0 ∨ 1 < x3
      · rw [if_pos q3, if_pos (Or.inr (Or.inr (q3.imp id Int32.not_le.mpr)))]
      · rw [if_neg q3, if_neg (show ¬ (inF x1 (nI (y 20)) = 0 ∨ inF x2 64 = 0 ∨ x3 < 0 ∨ ¬ x3 ≤ 1) from fun w => by
          rcases w with w | w | w | w
          · exact q w
          · exact q2 (i64.mp w)
          · exact q3 (Or.inl w)
          · exact q3 (Or.inr (Int32.not_le.mp w)))]
        obtain ⟨i, hi, ei⟩ := isM_n (x := x1) hy (by rw [is_F hy]; exact q)
        subst ei
        rw [nI_clamp (by omega)]
        have ob := own_ob (ky := x2) h0.1 hi (uq i hi).1 (uq i hi).2
        rw [← ob]
        cases eo : obM ν (nI i) x2 with
        | none =>
          show (if x3 = 0 then (-1 : Int32) else 0) = if x3 = 0 then -1 else 0
          rfl
        | some w =>
          have nz : ¬ cel ν w 0 = 0 := by rw [obM_k2 eo h0.1]; decide
          show (if x3 = 0 then cel ν w 5 else cel ν w 6) = if x3 = 0 then pVa (ptM ν w) else pVe (ptM ν w)
          rw [ptM_f nz 5, ptM_f nz 6]; rfl
theorem fo_nI {α : Type} {q : α → Prop} [DecidablePred q] : ∀ (l : List α) (t : Nat), l.foldl (fun t a => if q a then t else t + 1) (nI t) = nI (l.foldl (fun t a => if q a then t else t + 1) t) := by
  intro l
  induction l with
  | nil => intro t; rfl
  | cons a l ih =>
    intro t
    rw [List.foldl_cons, List.foldl_cons]
    by_cases w : q a
    · rw [if_pos w, if_pos w]; exact ih t
    · rw [if_neg w, if_neg w, nI_1]; exact ih (t + 1)
theorem fo_cg2 {α σ : Type} {f g : σ → α → σ} : ∀ (l : List α) (t : σ), (∀ t, ∀ a ∈ l, f t a = g t a) → l.foldl f t = l.foldl g t := by
  intro l
  induction l with
  | nil => intro t _; rfl
  | cons a l ih =>
    intro t h
    rw [List.foldl_cons, List.foldl_cons, h t a List.mem_cons_self]
    exact ih _ (fun t b hb => h t b (List.mem_cons_of_mem _ hb))
theorem net_R (h : FR y F μ) : nI (cnP μ 40) = netN (fNt F) := by
  unfold cnP netN
  rw [show (0 : Int32) = nI 0 from rfl, fo_nI]
  refine congrArg nI (fo_cg2 _ _ (fun t p hp => ?_))
  have m0 := ms_0 (h.2.2.1 p (List.mem_range.mp hp))
  by_cases w : μ.2.1 48 p = -1
  · rw [if_pos w, m0.mp w]; rfl
  · rw [if_neg w]
    cases e : fNt F p with
    | none => exact absurd (m0.mpr e) w
    | some _ => rfl
theorem count_R (h : FR y F μ) : cuM (sn0 μ) x = cntA F x := by
  have h0 := h.sn
  generalize sn0 μ = ν at h0
  obtain ⟨n1, n2, n3, n4, n5, n6, n7, n8⟩ := h0.1.2.2.1
  unfold cuM cntA
  rw [net_R h0, h0.2.2.2.1, h0.2.2.2.2, n1, n2, n3, n4, n5, n6, n7, n8, tab_N (μ := ν) h0.1.2.2.2.1]
  rfl
end AK
