-- what CLEANING leaves of a LOG, counted on the class's side
section
variable {A : List agT} {q : pT → Bool} {lt : Option Nat} {N U rep nm sv : Nat} {up : Int32}
theorem lpA_le {ms : List Int32} {ps : List pT} : (lpA ms ps).countP q ≤ ps.countP q := by
  have : ∀ n, ((List.range n).flatMap (fun j => if ms.getD j 0 = 0 then [] else (ps[j]?).toList)).countP q ≤ (ps.take n).countP q := by
    intro n
    induction n with
    | zero => exact Nat.zero_le _
    | succ n ih =>
      rw [List.range_succ, List.flatMap_append, List.countP_append, List.take_succ, List.countP_append]
      refine Nat.add_le_add ih ?_
      rw [List.flatMap_cons, List.flatMap_nil, List.append_nil]
      split
      · exact Nat.zero_le _
      · exact Nat.le_refl _
  have h := this ps.length
  rw [List.take_length] at h
  exact h
theorem zip_nm {β : Type} {f : agT → β → cT} (hf : ∀ a m, (f a m).1 = a.1) : ∀ (A : List agT) (M : List β), ((List.zipWith f A M).map (·.1)).Sublist (A.map (·.1)) := by
  intro A
  induction A with
  | nil => intro M; rw [List.zipWith_nil_left]; exact List.Sublist.refl _
  | cons a A ih =>
    intro M
    cases M with
    | nil => rw [List.zipWith_nil_right]; exact List.nil_sublist _
    | cons m M =>
      rw [List.zipWith_cons_cons, List.map_cons, List.map_cons, hf]
      exact (ih M).cons_cons _
theorem zip_in {β : Type} {f : agT → β → cT} : ∀ (A : List agT) (M : List β) (c : cT), c ∈ List.zipWith f A M → ∃ a ∈ A, ∃ m, c = f a m := by
  intro A
  induction A with
  | nil => intro M c h; rw [List.zipWith_nil_left] at h; cases h
  | cons a A ih =>
    intro M c h
    cases M with
    | nil => rw [List.zipWith_nil_right] at h; cases h
    | cons m M =>
      rw [List.zipWith_cons_cons] at h
      rcases List.mem_cons.mp h with w | w
      · exact ⟨a, List.mem_cons_self, m, w⟩
      · obtain ⟨a', h1, m', h2⟩ := ih M c w
        exact ⟨a', List.mem_cons_of_mem _ h1, m', h2⟩
theorem crA_in {c : cT} (h : c ∈ crA A) : ∃ a ∈ A, a.1 = c.1 ∧ ∀ q : pT → Bool, c.2.2.countP q ≤ a.2.1.countP q := by
  obtain ⟨a, h1, m, h2⟩ := zip_in A (mkA A) c h
  subst h2
  exact ⟨a, h1, rfl, fun q => lpA_le⟩
theorem insC_p {xs : List cT} {c : cT} : (insC lt xs c).Perm (if some c.1 = lt then xs else c :: xs) := by
  unfold insC
  split
  · exact List.Perm.refl _
  · refine List.perm_middle.trans ?_
    rw [List.take_append_drop]
theorem srt_p : ∀ (cs xs : List cT), (cs.foldl (insC lt) xs).Perm (cs.filter (fun c => !decide (some c.1 = lt)) ++ xs) := by
  intro cs
  induction cs with
  | nil => intro xs; exact List.Perm.refl _
  | cons c cs ih =>
    intro xs
    rw [List.foldl_cons]
    refine (ih _).trans ?_
    rw [List.filter_cons]
    by_cases w : some c.1 = lt
    · rw [if_neg (by rw [decide_eq_true w]; decide)]
      have e := insC_p (lt := lt) (xs := xs) (c := c)
      rw [if_pos w] at e
      exact e.append_left _
    · rw [if_pos (by rw [decide_eq_false w]; rfl)]
      have e := insC_p (lt := lt) (xs := xs) (c := c)
      rw [if_neg w] at e
      exact (e.append_left _).trans List.perm_middle
theorem clC_in {c : cT} (h : c ∈ clC lt A) : ∃ a ∈ A, a.1 = c.1 ∧ ∀ q : pT → Bool, c.2.2.countP q ≤ a.2.1.countP q := by
  have h2 := (srt_p (lt := lt) (crA A) []).mem_iff.mp h
  rw [List.append_nil] at h2
  exact crA_in (List.mem_filter.mp h2).1
theorem clC_lt {c : cT} (h : c ∈ clC lt A) : ¬ some c.1 = lt := by
  have h2 := (srt_p (lt := lt) (crA A) []).mem_iff.mp h
  rw [List.append_nil] at h2
  have := (List.mem_filter.mp h2).2
  intro w
  rw [decide_eq_true w] at this
  cases this
theorem clC_nd (h : (A.map (·.1)).Nodup) : ((clC lt A).map (·.1)).Nodup := by
  have p := (srt_p (lt := lt) (crA A) []).map (·.1)
  rw [List.append_nil] at p
  refine p.nodup_iff.mpr ?_
  refine ((List.filter_sublist).map _).nodup ?_
  exact (zip_nm (fun _ _ => rfl) A (mkA A)).nodup h
theorem fl_sum {p : agT → Bool} {f : agT → Nat} : ∀ (A : List agT) (a : agT), a ∈ A → p a = false → f a + ((A.filter p).map f).sum ≤ (A.map f).sum := by
  intro A
  induction A with
  | nil => intro a h; cases h
  | cons b A ih =>
    intro a h hp
    have le : ∀ L : List agT, ((L.filter p).map f).sum ≤ (L.map f).sum := by
      intro L
      induction L with
      | nil => exact Nat.le_refl _
      | cons d L ih2 =>
        rw [List.filter_cons, List.map_cons, List.sum_cons]
        split
        · rw [List.map_cons, List.sum_cons]; omega
        · omega
    rw [List.filter_cons, List.map_cons, List.sum_cons]
    rcases List.mem_cons.mp h with w | w
    · subst w
      rw [if_neg (by rw [hp]; decide)]
      have := le A
      omega
    · have := ih a w hp
      split
      · rw [List.map_cons, List.sum_cons]; omega
      · omega
theorem rm_sum {f : agT → Nat} {w : cT → Nat} : ∀ (C : List cT) (A : List agT), (C.map (·.1)).Nodup → (∀ c ∈ C, ∃ a ∈ A, a.1 = c.1 ∧ w c ≤ f a) → (C.map w).sum + ((rmN A (C.map (·.1))).map f).sum ≤ (A.map f).sum := by
  intro C
  induction C with
  | nil =>
    intro A _ _
    have : rmN A (([] : List cT).map (·.1)) = A := by
      unfold rmN
      exact List.filter_eq_self.mpr (fun a _ => rfl)
    rw [this]
    show 0 + _ ≤ _
    omega
  | cons c C ih =>
    intro A nd hc
    rw [List.map_cons, List.nodup_cons] at nd
    obtain ⟨a, a1, a2, a3⟩ := hc c List.mem_cons_self
    have e : rmN A ((c :: C).map (·.1)) = rmN (A.filter (fun a => !(a.1 == c.1))) (C.map (·.1)) := by
      unfold rmN
      rw [List.filter_filter]
      refine List.filter_congr (fun x _ => ?_)
      rw [List.map_cons, List.contains_cons]
      cases (x.1 == c.1) <;> cases ((C.map (·.1)).contains x.1) <;> rfl
    rw [e, List.map_cons, List.sum_cons]
    have h1 := fl_sum (p := fun a => !(a.1 == c.1)) (f := f) A a a1 (by show (!(a.1 == c.1)) = false; rw [a2, beq_self_eq_true]; rfl)
    have h2 := ih (A.filter (fun a => !(a.1 == c.1))) nd.2 (fun d hd => by
      obtain ⟨b, b1, b2, b3⟩ := hc d (List.mem_cons_of_mem _ hd)
      refine ⟨b, List.mem_filter.mpr ⟨b1, ?_⟩, b2, b3⟩
      have : ¬ b.1 = c.1 := fun z => nd.1 (by rw [← z, b2]; exact List.mem_map_of_mem hd)
      show (!(b.1 == c.1)) = true
      rw [beq_false_of_ne this]; rfl)
    omega
theorem alP_c {A : alT} : (allP A).countP q = (A.1.map (fun u => u.2.1.countP q)).sum := by
  unfold allP
  rw [← List.flatMap_def]
  exact cnt_fm (fun u : agT => u.2.1) A.1
theorem flat_c : ((A.map (·.2.1)).flatten).countP q = (A.map (fun u => u.2.1.countP q)).sum := by
  rw [← List.flatMap_def]
  exact cnt_fm (fun u : agT => u.2.1) A
theorem sub_s {w : cT → Nat} {C : List cT} {k n : Nat} : ((((C.drop k).take n)).map w).sum ≤ (((C.take (k + n))).map w).sum := by
  rw [List.take_add, List.map_append, List.sum_append]
  omega
theorem epC_le {U : Int32} : ∀ (cs : List cT) (i : Nat) (t : Int32), i ≤ epC U cs i t := by
  intro cs
  induction cs with
  | nil => intro i t; exact Nat.le_refl _
  | cons c cs ih =>
    intro i t
    show i ≤ (if t + c.2.1 ≤ U then epC U cs (i + 1) (t + c.2.1) else i)
    split
    · exact Nat.le_trans (Nat.le_succ i) (ih _ _)
    · exact Nat.le_refl _
theorem clA_c (nd : (A.map (·.1)).Nodup) : (((clnA N U rep up nm sv lt A).1.map (·.2.1)).flatten).countP q ≤ ((A.map (·.2.1)).flatten).countP q := by
  rw [flat_c, flat_c]
  have tk : ∀ n, ∀ c ∈ (clC lt A).take n, ∃ a ∈ A, a.1 = c.1 ∧ c.2.2.countP q ≤ a.2.1.countP q := fun n c hc => by
    obtain ⟨a, a1, a2, a3⟩ := clC_in (List.mem_of_mem_take hc)
    exact ⟨a, a1, a2, a3 q⟩
  have ndt : ∀ n, (((clC lt A).take n).map (·.1)).Nodup := fun n => ((List.take_sublist n _).map _).nodup (clC_nd nd)
  unfold clnA
  split
  · next h =>
    show ((rmN A _ ++ [pkG nm _ (clP U lt A)]).map _).sum ≤ _
    rw [List.map_append, List.sum_append, List.map_cons, List.map_nil, List.sum_cons, List.sum_nil]
    have h1 := rm_sum (f := fun u : agT => u.2.1.countP q) (w := fun c : cT => c.2.2.countP q) ((clC lt A).take (clE U lt A)) A (ndt _) (tk _)
    have h2 : (clP U lt A).countP q ≤ (((clC lt A).take (clE U lt A)).map (fun c : cT => c.2.2.countP q)).sum := by
      unfold clP
      rw [cnt_fm]
      have h3 := sub_s (w := fun c : cT => c.2.2.countP q) (C := clC lt A) (k := clZ lt A) (n := clE U lt A - clZ lt A)
      rw [show clZ lt A + (clE U lt A - clZ lt A) = clE U lt A from by omega] at h3
      exact h3
    have h4 : (pkG nm (nsH up N rep nm sv N) (clP U lt A)).2.1.countP q = (clP U lt A).countP q := rfl
    omega
  · show ((rmN A _).map _).sum ≤ _
    have h1 := rm_sum (f := fun u : agT => u.2.1.countP q) (w := fun c : cT => c.2.2.countP q) ((clC lt A).take (clZ lt A)) A (ndt _) (tk _)
    omega
theorem sum_1 {α : Type} : ∀ (L : List α), (L.map (fun _ => 1)).sum = L.length := by
  intro L
  induction L with
  | nil => rfl
  | cons a L ih => rw [List.map_cons, List.sum_cons, ih, List.length_cons]; omega
theorem zNx_le : ∀ (cs : List cT), zN cs ≤ cs.length := by
  intro cs
  induction cs with
  | nil => exact Nat.le_refl _
  | cons c cs ih =>
    show (if c.2.1 = 0 then zN cs + 1 else 0) ≤ _
    rw [List.length_cons]
    split <;> omega
theorem epC_ge {U : Int32} : ∀ (cs : List cT) (i : Nat) (t : Int32), epC U cs i t ≤ i + cs.length := by
  intro cs
  induction cs with
  | nil => intro i t; exact Nat.le_refl _
  | cons c cs ih =>
    intro i t
    show (if t + c.2.1 ≤ U then epC U cs (i + 1) (t + c.2.1) else i) ≤ _
    rw [List.length_cons]
    split
    · have := ih (i + 1) (t + c.2.1); omega
    · omega
theorem clA_l (nd : (A.map (·.1)).Nodup) : (clnA N U rep up nm sv lt A).1.length ≤ A.length := by
  have tk : ∀ n, ∀ c ∈ (clC lt A).take n, ∃ a ∈ A, a.1 = c.1 ∧ 1 ≤ 1 := fun n c hc => by
    obtain ⟨a, a1, a2, a3⟩ := clC_in (List.mem_of_mem_take hc)
    exact ⟨a, a1, a2, Nat.le_refl _⟩
  have ndt : ∀ n, (((clC lt A).take n).map (·.1)).Nodup := fun n => ((List.take_sublist n _).map _).nodup (clC_nd nd)
  have h1 := fun n => rm_sum (f := fun _ : agT => 1) (w := fun _ : cT => 1) ((clC lt A).take n) A (ndt _) (tk _)
  unfold clnA
  split
  · next h =>
    show (rmN A _ ++ [_]).length ≤ _
    rw [List.length_append, List.length_singleton]
    have h2 := h1 (clE U lt A)
    rw [sum_1, sum_1, sum_1, List.length_take] at h2
    have h3 : clE U lt A ≤ clZ lt A + ((clC lt A).drop (clZ lt A)).length := epC_ge _ _ _
    rw [List.length_drop] at h3
    have h4 := zNx_le (clC lt A)
    have h5 : clZ lt A = zN (clC lt A) := rfl
    omega
  · show (rmN A _).length ≤ _
    exact List.length_filter_le _ _
end
