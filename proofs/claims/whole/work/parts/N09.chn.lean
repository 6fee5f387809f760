/-! the two sides: the chain of a LOG; what CLEANING sorts -/
section CH
variable {T : List slT} {x c n a : Int32} {A : alT} {st : Nat → Int32} {k e i : Nat} {s : slT} {A1 A2 : List agT}
theorem nx_mx : ∀ (l : List Nat) (b : Option Nat) (j : Nat), (j ∈ l ∧ lLg (T.getD j sl0) = x ∧ ¬ nI (lNm (T.getD j sl0)) ≤ n) ∨ b = some j → ∃ k, l.foldl (nxF T x n) b = some k ∧ lNm (T.getD k sl0) ≤ lNm (T.getD j sl0) := by
  intro l
  induction l with
  | nil =>
    intro b j h
    rcases h with ⟨h, -⟩ | h
    · cases h
    · exact ⟨j, h, Nat.le_refl _⟩
  | cons a l ih =>
    intro b j h
    rw [List.foldl_cons]
    rcases h with ⟨h, h1, h2⟩ | h
    · rcases List.mem_cons.mp h with e | e
      · subst e
        unfold nxF
        rw [if_neg (show ¬ ¬ lLg (T.getD j sl0) = x from fun z => z h1), if_neg h2]
        cases b with
        | none => exact ih (some j) j (Or.inr rfl)
        | some k =>
          dsimp only
          by_cases q : lNm (T.getD k sl0) ≤ lNm (T.getD j sl0)
          · rw [if_pos q]
            obtain ⟨k', e1, e2⟩ := ih (some k) k (Or.inr rfl)
            exact ⟨k', e1, Nat.le_trans e2 q⟩
          · rw [if_neg q]
            exact ih (some j) j (Or.inr rfl)
      · exact ih _ j (Or.inl ⟨e, h1, h2⟩)
    · subst h
      unfold nxF
      split
      · exact ih _ j (Or.inr rfl)
      · split
        · exact ih _ j (Or.inr rfl)
        · dsimp only
          split
          · exact ih _ j (Or.inr rfl)
          · rename_i q
            obtain ⟨k', e1, e2⟩ := ih (some a) a (Or.inr rfl)
            exact ⟨k', e1, by omega⟩
theorem nx_n (h : nxT T x n = none) : ∀ j, j < T.length → lLg (T.getD j sl0) = x → nI (lNm (T.getD j sl0)) ≤ n := by
  intro j hj h1
  by_cases q : nI (lNm (T.getD j sl0)) ≤ n
  · exact q
  · obtain ⟨k, e, -⟩ := nx_mx (T := T) (x := x) (n := n) (List.range T.length) none j (Or.inl ⟨List.mem_range.mpr hj, h1, q⟩)
    rw [show (List.range T.length).foldl (nxF T x n) none = none from h] at e
    cases e
theorem nx_s (h : nxT T x n = some k) : ∀ j, j < T.length → lLg (T.getD j sl0) = x → ¬ nI (lNm (T.getD j sl0)) ≤ n → lNm (T.getD k sl0) ≤ lNm (T.getD j sl0) := by
  intro j hj h1 q
  obtain ⟨k', e, e2⟩ := nx_mx (T := T) (x := x) (n := n) (List.range T.length) none j (Or.inl ⟨List.mem_range.mpr hj, h1, q⟩)
  rw [show (List.range T.length).foldl (nxF T x n) none = some k from h] at e
  cases e
  exact e2
def gtN (n : Int32) (u : agT) : Bool := decide (¬ nI u.1 ≤ n)
theorem fil_all {α : Type} {p : α → Bool} {l : List α} (h : ∀ a ∈ l, p a = true) : l.filter p = l := List.filter_eq_self.mpr h
theorem fil_no {α : Type} {p : α → Bool} {l : List α} (h : ∀ a ∈ l, p a = false) : l.filter p = [] := List.filter_eq_nil_iff.mpr (fun a ha => by rw [h a ha]; decide)
theorem chn_A (r : LgR T x A) (nb : NB T) : ∀ (C : List Nat) (n : Int32), Chn T x n C → C.map (fun k => agS (T.getD k sl0)) = A.1.filter (gtN n) ∧ ∀ k ∈ C, k < T.length ∧ lLg (T.getD k sl0) = x := by
  intro C
  induction C with
  | nil =>
    intro n h
    refine ⟨(fil_no (fun u hu => ?_)).symm, fun k hk => by cases hk⟩
    obtain ⟨s, s1, s2⟩ := r.mem' hu
    obtain ⟨j, j1, j2, j3⟩ := at_fl s1
    subst j2
    subst s2
    exact decide_eq_false (fun z => z (nx_n h j j1 j3))
  | cons k C ih =>
    intro n ⟨h1, h2⟩
    obtain ⟨p1, p2, p3⟩ := nxT_p h1
    obtain ⟨i1, i2⟩ := ih _ h2
    refine ⟨?_, fun j hj => ?_⟩
    · rw [List.map_cons, i1]
      obtain ⟨A1, A2, e, e1, e2⟩ := r.spl (fl_at p1 p2)
      have bk := nb _ (T_at p1)
      have gt : ∀ u ∈ A2, gtN n u = true ∧ gtN (nI (lNm (T.getD k sl0))) u = true := fun u hu => by
        have lt := e2 u hu
        obtain ⟨s, s1, s2⟩ := r.mem' (u := u) (by rw [e]; exact List.mem_append_right _ (List.mem_cons_of_mem _ hu))
        have bs := nb s (fl_mem (F := []) s1).1
        have es : u.1 = lNm s := by rw [← s2]; rfl
        have z : ¬ nI u.1 ≤ nI (lNm (T.getD k sl0)) := nI_ge lt (by omega)
        exact ⟨decide_eq_true (fun z' => z (Int32.le_trans z' (Int32.le_of_lt (Int32.not_le.mp p3)))), decide_eq_true z⟩
      have lo : ∀ u ∈ A1, gtN n u = false ∧ gtN (nI (lNm (T.getD k sl0))) u = false := fun u hu => by
        have lt := e1 u hu
        obtain ⟨s, s1, s2⟩ := r.mem' (u := u) (by rw [e]; exact List.mem_append_left _ hu)
        have es : u.1 = lNm s := by rw [← s2]; rfl
        obtain ⟨j, j1, j2, j3⟩ := at_fl s1
        subst j2
        refine ⟨decide_eq_false (fun z => ?_), decide_eq_false (fun z => z (nI_le (by omega) (by omega)))⟩
        have := nx_s h1 j j1 j3 (by rw [← es]; exact z)
        omega
      rw [e, List.filter_append, List.filter_append, fil_no (fun u hu => (lo u hu).1), fil_no (fun u hu => (lo u hu).2), List.nil_append, List.nil_append, List.filter_cons, List.filter_cons, fil_all (fun u hu => (gt u hu).1), fil_all (fun u hu => (gt u hu).2)]
      have g1 : gtN n (agS (T.getD k sl0)) = true := decide_eq_true p3
      have g2 : gtN (nI (lNm (T.getD k sl0))) (agS (T.getD k sl0)) = false := decide_eq_false (fun z => z (Int32.le_refl _))
      rw [g1, g2]; rfl
    · rcases List.mem_cons.mp hj with z | z
      · subst z; exact ⟨p1, p2⟩
      · exact i2 j z
theorem chL_A (r : LgR T x A) (nb : NB T) : (chL T x).map (fun k => agS (T.getD k sl0)) = A.1 ∧ ∀ k ∈ chL T x, k < T.length ∧ lLg (T.getD k sl0) = x := by
  obtain ⟨e1, e2⟩ := chn_A r nb _ _ (chL_ch (T := T) (x := x))
  refine ⟨?_, e2⟩
  rw [e1]
  refine fil_all (fun u hu => ?_)
  obtain ⟨s, s1, s2⟩ := r.mem' hu
  have bs := nb s (fl_mem (F := []) s1).1
  have es : u.1 = lNm s := by rw [← s2]; rfl
  refine decide_eq_true (fun z => ?_)
  have := nI_pos (n := u.1) (by omega)
  exact this (Int32.lt_of_le_of_lt z (by decide))
/-- every SEGMENT's entries are as they must be -/
def EVT (T : List slT) : Prop := ∀ s ∈ T, EV (lEn s)
theorem ch_cM (r : LgR T x A) (ho : HOl T) (nb : NB T) (ev : EVT T) (hx : x < 16) : (chL T x).map (cM st T) = crB (allP A) (A.1.map (·.1)) [] A.1 := by
  obtain ⟨e1, e2⟩ := chL_A r nb
  have : ∀ (C : List Nat) (A0 : List agT), A0 ++ C.map (fun k => agS (T.getD k sl0)) = A.1 → (∀ k ∈ C, k < T.length ∧ lLg (T.getD k sl0) = x) → C.map (cM st T) = crB (allP A) (A.1.map (·.1)) (A0.map (·.2.1)).flatten (C.map (fun k => agS (T.getD k sl0))) := by
    intro C
    induction C with
    | nil => intro A0 _ _; rfl
    | cons k C ih =>
      intro A0 e hC
      obtain ⟨k1, k2⟩ := hC k List.mem_cons_self
      have pw := r.2.1
      rw [← e] at pw
      obtain ⟨p1, p2, p3⟩ := List.pairwise_append.mp pw
      rw [List.map_cons, List.pairwise_cons] at p2
      have sp : spl A (T.getD k sl0) A0 (C.map (fun k => agS (T.getD k sl0))) := ⟨e.symm, fun u hu => p3 u hu _ List.mem_cons_self, fun u hu => p2.1 u hu⟩
      rw [List.map_cons, List.map_cons, cM_S r ho nb hx k1 k2 sp (ev _ (T_at k1))]
      show _ = (_, _, _) :: crB _ _ ((A0.map (·.2.1)).flatten ++ (agS (T.getD k sl0)).2.1) _
      have e' : (A0 ++ [agS (T.getD k sl0)]) ++ C.map (fun k => agS (T.getD k sl0)) = A.1 := by rw [List.append_assoc]; exact e
      have := ih _ e' (fun k hk => hC k (List.mem_cons_of_mem _ hk))
      rw [this, List.map_append, List.flatten_append]
      show _ = _ :: crB _ _ (_ ++ (agS (T.getD k sl0)).2.1) _
      have z : ((List.map (fun u : agT => u.2.1) [agS (T.getD k sl0)]).flatten) = (agS (T.getD k sl0)).2.1 := by
        show (agS (T.getD k sl0)).2.1 ++ [] = _
        rw [List.append_nil]
      rw [z]; rfl
  have := this (chL T x) [] e1 e2
  rw [this, e1]; rfl
/-- PARTS of a LOG in their ranges -/
def PKA (A : List agT) : Prop := ∀ u ∈ A, ∀ p ∈ u.2.1, PK p
theorem ch_cr (r : LgR T x A) (ho : HOl T) (nb : NB T) (ev : EVT T) (hx : x < 16) (pk : PKA A.1) : (chL T x).map (cM st T) = crA A.1 := by
  rw [crA_B pk]
  exact ch_cM r ho nb ev hx
theorem srt_m (lt : Option Nat) (lt' : Option Nat) : ∀ (C G : List Nat), (∀ k ∈ C, some k = lt ↔ some (lNm (T.getD k sl0)) = lt') → (C.foldl (insG st T lt) G).map (cM st T) = (C.map (cM st T)).foldl (insC lt') (G.map (cM st T)) := by
  intro C
  induction C with
  | nil => intro G _; rfl
  | cons k C ih =>
    intro G h
    rw [List.foldl_cons, List.map_cons, List.foldl_cons, ih _ (fun k hk => h k (List.mem_cons_of_mem _ hk))]
    congr 1
    unfold insG insC
    by_cases q : some k = lt
    · rw [if_pos q]
      exact (if_pos ((h k List.mem_cons_self).mp q)).symm
    · rw [if_neg q]
      rw [if_neg (show ¬ some (cM st T k).1 = lt' from fun z => q ((h k List.mem_cons_self).mpr z)), List.map_append, List.map_cons, List.map_take, List.map_drop, List.length_map]
theorem clG_C (r : LgR T x A) (ho : HOl T) (nb : NB T) (ev : EVT T) (hx : x < 16) (pk : PKA A.1) : (clG st T x (chL T x)).map (cM st T) = clC A.2.2 A.1 := by
  obtain ⟨e1, e2⟩ := chL_A r nb
  unfold clG clC srtC
  rw [srt_m (st := st) (laT T x) A.2.2 _ _ (fun k hk => by
    obtain ⟨k1, k2⟩ := e2 k hk
    have := r.la k1 k2
    exact ⟨fun z => (this.mp z.symm).symm, fun z => (this.mpr z.symm).symm⟩), ch_cr r ho nb ev hx pk]
  rfl
end CH
