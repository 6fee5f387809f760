-- what moves to a new owner
section
variable {A D : alT} {i j t k n c m : Nat} {cl : List kcT} {B up v z : Int32} {p : pT} {l rd : List pT} {q : pT → Bool}
theorem gr_ge : ∀ (l : List pT) (z : Int32), z ≤ l.foldl grG z ∧ ∀ p ∈ l, pVe p ≤ l.foldl grG z := by
  intro l
  induction l with
  | nil => intro z; exact ⟨Int32.le_refl _, fun p hp => by cases hp⟩
  | cons a l ih =>
    intro z
    rw [List.foldl_cons]
    have h1 := ih (grG z a)
    have h2 : z ≤ grG z a ∧ pVe a ≤ grG z a := by
      unfold grG
      split
      · next w => exact ⟨Int32.le_refl _, w⟩
      · next w => exact ⟨Int32.le_of_lt (Int32.not_le.mp w), Int32.le_refl _⟩
    refine ⟨Int32.le_trans h2.1 h1.1, fun p hp => ?_⟩
    rcases List.mem_cons.mp hp with w | w
    · rw [w]; exact Int32.le_trans h2.2 h1.1
    · exact h1.2 p w
theorem gr_leB : ∀ (l : List pT) (z : Int32), z ≤ B → (∀ p ∈ l, pVe p ≤ B) → l.foldl grG z ≤ B := by
  intro l
  induction l with
  | nil => intro z h _; exact h
  | cons a l ih =>
    intro z h hl
    rw [List.foldl_cons]
    refine ih _ ?_ (fun p hp => hl p (List.mem_cons_of_mem _ hp))
    unfold grG
    split
    · exact h
    · exact hl a List.mem_cons_self
theorem ky_8 {k : Nat} (hk : k < 64) : nI k / 8 = nI (k / 8) := by
  rw [show (8 : Int32) = nI 8 from rfl, pk_div (by omega) (by decide) (by decide)]
theorem ps_oM (di : DI D) (hk : k < 64) (e : (psA (rdP up D)).2.2.1 k = some p) : p ∈ rdP up D ∧ pKd p = 2 ∧ pKy p = nI k := by
  obtain ⟨d1, d2, d3, d4, d5⟩ := dr_d di (up := up)
  rw [ps_ob d1 d4 d5 hk] at e
  unfold obS at e
  have h1 := List.find?_some e
  unfold obF at h1
  rw [Bool.and_eq_true, Bool.and_eq_true, decide_eq_true_eq, decide_eq_true_eq] at h1
  exact ⟨List.mem_of_find?_eq_some e, h1.1.1, h1.1.2⟩
theorem ps_rM (di : DI D) (hj : j < 240) (e : (psA (rdP up D)).2.2.2 j = some p) : p ∈ rdP up D ∧ pKd p = 4 ∧ pCl p = nI (j / 40) ∧ pNu p = nI (j % 40 + 1) := by
  obtain ⟨d1, d2, d3, d4, d5⟩ := dr_d di (up := up)
  have := ps_re (c := j / 40) (n := j % 40 + 1) d2 d4 (by omega) (by omega) (by omega)
  rw [show j / 40 * 40 + (j % 40 + 1) - 1 = j from by omega, e] at this
  have h1 := List.find?_some this.symm
  unfold resA at h1
  rw [Bool.and_eq_true, Bool.and_eq_true, decide_eq_true_eq, decide_eq_true_eq, decide_eq_true_eq] at h1
  exact ⟨List.mem_of_find?_eq_some this.symm, h1.1.1, h1.1.2, h1.2⟩
theorem mvN_in {ps : psT} (h : p ∈ mvN ps A n) : ∃ c a, c < n ∧ p = noteP c a := by
  unfold mvN at h
  obtain ⟨c, c1, c2⟩ := List.mem_flatMap.mp h
  have c1 := List.mem_range.mp c1
  split at c2
  · cases c2
  · exact ⟨c, _, c1, List.mem_singleton.mp c2⟩
theorem mvR_in {ps : psT} (h : p ∈ mvRf ps t j) : ps.2.2.2 j = some p ∧ pKy p / 8 = nI t ∧ mvRf ps t j = [p] := by
  unfold mvRf at h ⊢
  split at h
  · cases h
  · next p' e =>
    split at h
    · cases h
    · next w1 =>
      split at h
      · cases h
      · next w2 =>
        have := List.mem_singleton.mp h
        subst this
        rw [if_neg w1, if_neg w2]
        exact ⟨e, Decidable.not_not.mp w1, rfl⟩
theorem mv_in (di : DI D) (lp : LPx cl B D) (hB : 0 ≤ B) (ht : t < 8) (hp : p ∈ movA (psA (rdP up D)) A t) : PFx cl B p ∧ ¬ pKd p = 3 ∧ (¬ kM (pKd p) = 0 → pVe p ≤ (psA (rdP up D)).1 ∧ pKy p / 8 = nI t) ∧ (pKd p = 4 → pKy p / 8 = nI t) := by
  have sub := (rd_sub (A := D) (up := up)).subset
  unfold movA at hp
  rcases List.mem_append.mp hp with hp | hp
  · rcases List.mem_append.mp hp with hp | hp
    · obtain ⟨c, a, c1, rfl⟩ := mvN_in hp
      have nv := nt_V c1 (a := a)
      exact ⟨⟨nv.1, nv.2.2.1, fun z => absurd rfl z, hB, fun z => absurd z (show ¬ (1 : Int32) = 4 by decide)⟩, (show ¬ (1 : Int32) = 3 by decide), fun z => absurd rfl z, fun z => absurd z (show ¬ (1 : Int32) = 4 by decide)⟩
    · unfold mvO at hp
      obtain ⟨c, c1, c2⟩ := List.mem_flatMap.mp hp
      have c1 := List.mem_range.mp c1
      obtain ⟨h1, h2, h3⟩ := ps_oM di (by omega) (Option.mem_toList.mp c2)
      refine ⟨lp.1 p (sub h1), by rw [h2]; decide, fun _ => ⟨by rw [ps_gr]; exact (gr_ge _ 0).2 p h1, ?_⟩, fun z => absurd (h2.symm.trans z) (by decide)⟩
      rw [h3, ky_8 (by omega)]
      congr 1
      omega
  · unfold mvR at hp
    obtain ⟨c, c1, c2⟩ := List.mem_flatMap.mp hp
    have c1 := List.mem_range.mp c1
    obtain ⟨e1, e2, -⟩ := mvR_in c2
    obtain ⟨h1, h2, -⟩ := ps_rM di c1 e1
    exact ⟨lp.1 p (sub h1), by rw [h2]; decide, fun z => absurd (by rw [h2]; rfl) z, fun _ => e2⟩
theorem fm_0 {f : Nat → List pT} (h : ∀ j, j < n → (f j).countP q = 0) : ((List.range n).flatMap f).countP q = 0 := by
  refine List.countP_eq_zero.mpr (fun p hp => ?_)
  obtain ⟨c, c1, c2⟩ := List.mem_flatMap.mp hp
  exact List.countP_eq_zero.mp (h c (List.mem_range.mp c1)) p c2
theorem fmx_1 {f : Nat → List pT} : ∀ n, (∀ j, j < n → (f j).countP q ≤ 1) → (∀ j j', j < n → j' < n → 0 < (f j).countP q → 0 < (f j').countP q → j = j') → ((List.range n).flatMap f).countP q ≤ 1 := by
  intro n
  induction n with
  | zero => intro _ _; exact Nat.zero_le _
  | succ n ih =>
    intro h1 h2
    rw [List.range_succ, List.flatMap_append, List.countP_append, List.flatMap_cons, List.flatMap_nil, List.append_nil]
    by_cases w : (f n).countP q = 0
    · have := ih (fun j hj => h1 j (by omega)) (fun j j' hj hj' => h2 j j' (by omega) (by omega))
      omega
    · have e := fm_0 (q := q) (f := f) (n := n) (fun j hj => by
        rcases Nat.eq_zero_or_pos ((f j).countP q) with z | z
        · exact z
        · have := h2 j n (by omega) (by omega) z (Nat.pos_of_ne_zero w); omega)
      have := h1 n (by omega)
      omega
theorem mv_q1 (di : DI D) (ht : t < 8) {k v : Int32} : (movA (psA (rdP up D)) A t).countP (qV k v) ≤ 1 := by
  unfold movA
  rw [List.countP_append, List.countP_append]
  have e1 : (mvN (psA (rdP up D)) A 6).countP (qV k v) = 0 := List.countP_eq_zero.mpr (fun p hp => by
    obtain ⟨c, a, c1, rfl⟩ := mvN_in hp
    exact fun w => (qV_t.mp w).1 rfl)
  have e2 : (mvR (psA (rdP up D)) t 240).countP (qV k v) = 0 := fm_0 (fun j hj => List.countP_eq_zero.mpr (fun p hp => by
    obtain ⟨e1, -⟩ := mvR_in hp
    obtain ⟨-, h2, -⟩ := ps_rM di hj e1
    exact fun w => (qV_t.mp w).1 (by rw [h2]; rfl)))
  have e3 : (mvO (psA (rdP up D)) t 8).countP (qV k v) ≤ 1 := by
    refine fmx_1 8 (fun j hj => ?_) (fun j j' hj hj' z z' => ?_)
    · refine Nat.le_trans List.countP_le_length ?_
      cases (psA (rdP up D)).2.2.1 (t * 8 + j) with
      | none => exact Nat.zero_le _
      | some _ => exact Nat.le_refl _
    · obtain ⟨p, p1, p2⟩ := List.countP_pos_iff.mp z
      obtain ⟨p', p1', p2'⟩ := List.countP_pos_iff.mp z'
      obtain ⟨-, -, h3⟩ := ps_oM di (by omega) (Option.mem_toList.mp p1)
      obtain ⟨-, -, h3'⟩ := ps_oM di (by omega) (Option.mem_toList.mp p1')
      have := nI_inj (a := t * 8 + j) (b := t * 8 + j') (by omega) (by omega) ((h3.symm.trans (qV_t.mp p2).2.1).trans ((qV_t.mp p2').2.1.symm.trans h3'))
      omega
  omega
theorem mv_q2 (di : DI D) (ht : t < 8) {c n : Int32} : (movA (psA (rdP up D)) A t).countP (resA c n) ≤ 1 := by
  unfold movA
  rw [List.countP_append, List.countP_append]
  have e1 : (mvN (psA (rdP up D)) A 6).countP (resA c n) = 0 := List.countP_eq_zero.mpr (fun p hp => by
    obtain ⟨c, a, c1, rfl⟩ := mvN_in hp
    exact fun w => absurd (resA_t.mp w).1 (show ¬ (1 : Int32) = 4 by decide))
  have e2 : (mvO (psA (rdP up D)) t 8).countP (resA c n) = 0 := fm_0 (fun j hj => List.countP_eq_zero.mpr (fun p hp => by
    obtain ⟨-, h2, -⟩ := ps_oM di (by omega) (Option.mem_toList.mp hp)
    exact fun w => absurd (h2.symm.trans (resA_t.mp w).1) (by decide)))
  have e3 : (mvR (psA (rdP up D)) t 240).countP (resA c n) ≤ 1 := by
    refine fmx_1 240 (fun j hj => ?_) (fun j j' hj hj' z z' => ?_)
    · by_cases w : mvRf (psA (rdP up D)) t j = []
      · rw [w]; exact Nat.zero_le _
      · obtain ⟨p, hp⟩ := List.exists_mem_of_ne_nil _ w
        rw [(mvR_in hp).2.2]
        exact List.countP_le_length
    · obtain ⟨p, p1, p2⟩ := List.countP_pos_iff.mp z
      obtain ⟨p', p1', p2'⟩ := List.countP_pos_iff.mp z'
      obtain ⟨-, -, h3, h4⟩ := ps_rM di hj (mvR_in p1).1
      obtain ⟨-, -, h3', h4'⟩ := ps_rM di hj' (mvR_in p1').1
      have w1 := resA_t.mp p2
      have w2 := resA_t.mp p2'
      have e1 := nI_inj (a := j / 40) (b := j' / 40) (by omega) (by omega) ((h3.symm.trans w1.2.1).trans (w2.2.1.symm.trans h3'))
      have e2 := nI_inj (a := j % 40 + 1) (b := j' % 40 + 1) (by omega) (by omega) ((h4.symm.trans w1.2.2).trans (w2.2.2.symm.trans h4'))
      omega
  omega
/-- nothing that moves is in the new owner's LOG -/
def noT (t : Nat) (A : alT) : Prop := ∀ p ∈ allP A, (¬ kM (pKd p) = 0 → ¬ pKy p / 8 = nI t) ∧ (pKd p = 4 → ¬ pKy p / 8 = nI t)
theorem mv_Q1 {A' : alT} (lp : LPx cl B D) (hB : 0 ≤ B) (di : DI D) (ht : t < 8) (lo : UQ (allP A)) (nt : noT t A) {k v : Int32} : (allP A).countP (qV k v) + (movA (psA (rdP up D)) A' t).countP (qV k v) ≤ 1 := by
  have h1 := mv_q1 (A := A') (up := up) di ht (k := k) (v := v)
  have h2 := (UQ_c.mp lo).1 k v
  rcases Nat.eq_zero_or_pos ((movA (psA (rdP up D)) A' t).countP (qV k v)) with z | z
  · omega
  · obtain ⟨p, p1, p2⟩ := List.countP_pos_iff.mp z
    have w := qV_t.mp p2
    have e := ((mv_in di lp hB ht p1).2.2.1 w.1).2
    have : (allP A).countP (qV k v) = 0 := List.countP_eq_zero.mpr (fun p' hp' z' => by
      have w' := qV_t.mp z'
      exact (nt p' hp').1 w'.1 (by rw [w'.2.1, ← w.2.1]; exact e))
    omega
theorem mv_Q2 {A' : alT} (l40 : ∀ c, c < 6 → (cl.getD c cl0).1.length ≤ 40) (lp : LPx cl B D) (hB : 0 ≤ B) (di : DI D) (ht : t < 8) (la : LPx cl B A) (nt : noT t A) {k v : Int32} : (allP A).countP (resA k v) + (movA (psA (rdP up D)) A' t).countP (resA k v) ≤ 1 := by
  have h1 := mv_q2 (A := A') (up := up) di ht (c := k) (n := v)
  have h2 := (UQ_c.mp la.2).2 k v
  rcases Nat.eq_zero_or_pos ((movA (psA (rdP up D)) A' t).countP (resA k v)) with z | z
  · omega
  · obtain ⟨p, p1, p2⟩ := List.countP_pos_iff.mp z
    have w := resA_t.mp p2
    have mi := mv_in di lp hB ht p1
    have e := mi.2.2.2 w.1
    obtain ⟨-, c, n, c1, c2, c3, c4, c5, c6⟩ := mi.1.2.2.2.2 w.1
    have : (allP A).countP (resA k v) = 0 := List.countP_eq_zero.mpr (fun p' hp' z' => by
      have w' := resA_t.mp z'
      obtain ⟨-, c', n', d1, d2, d3, d4, d5, d6⟩ := (la.1 p' hp').2.2.2.2 w'.1
      have l1 := l40 c c1
      have l2 := l40 c' d1
      have e1 := nI_inj (a := c) (b := c') (by omega) (by omega) ((c4.symm.trans w.2.1).trans (w'.2.1.symm.trans d4))
      have e2 := nI_inj (a := n) (b := n') (by omega) (by omega) ((c5.symm.trans w.2.2).trans (w'.2.2.symm.trans d5))
      subst e1
      subst e2
      exact (nt p' hp').2 w'.1 (by rw [d6, ← c6]; exact e))
    omega
end
