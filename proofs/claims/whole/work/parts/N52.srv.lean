/-! the two sides: server -/
section SW
variable {T : List slT} {A : alT} {x x1 x2 x3 v ky : Int32} {k e i j N t f n c p m : Nat} {y : Nat → Nat} {S S' : stA} {μ μ' : mT} {F F' : fcT} {st : Nat → Int32}
/-- a sum -/
def smI {α : Type} (f : α → Int32) (l : List α) : Int32 := l.foldl (fun t a => t + f a) 0
theorem sm_a {α : Type} (f : α → Int32) : ∀ (l : List α) (t : Int32), l.foldl (fun t a => t + f a) t = t + smI f l := by
  intro l
  induction l with
  | nil => intro t; exact (Int32.add_zero t).symm
  | cons a l ih =>
    intro t
    have e : smI f (a :: l) = l.foldl (fun t a => t + f a) (0 + f a) := rfl
    rw [e, List.foldl_cons, ih, ih, Int32.zero_add, Int32.add_assoc]
theorem sm_c {α : Type} (f : α → Int32) (a : α) (l : List α) : smI f (a :: l) = f a + smI f l := by
  have e : smI f (a :: l) = l.foldl (fun t a => t + f a) (0 + f a) := rfl
  rw [e, sm_a, Int32.zero_add]
theorem sm_app {α : Type} (f : α → Int32) (l l' : List α) : smI f (l ++ l') = smI f l + smI f l' := by
  unfold smI
  rw [List.foldl_append, sm_a]; rfl
theorem sm_p {α : Type} (f : α → Int32) {l l' : List α} (h : l.Perm l') : smI f l = smI f l' := by
  induction h with
  | nil => rfl
  | cons a _ ih => rw [sm_c, sm_c, ih]
  | swap a b l => rw [sm_c, sm_c, sm_c, sm_c, ← Int32.add_assoc, ← Int32.add_assoc, Int32.add_comm (f b)]
  | trans _ _ h1 h2 => rw [h1, h2]
theorem sm_m {α β : Type} (f : β → Int32) (g : α → β) (l : List α) : smI f (l.map g) = smI (fun a => f (g a)) l := by
  unfold smI
  rw [List.foldl_map]
theorem sm_g {α : Type} {f g : α → Int32} : ∀ (l : List α), (∀ a ∈ l, f a = g a) → smI f l = smI g l := by
  intro l
  induction l with
  | nil => intro _; rfl
  | cons a l ih => intro h; rw [sm_c, sm_c, h a List.mem_cons_self, ih (fun b hb => h b (List.mem_cons_of_mem _ hb))]
theorem sm_f {α : Type} (f : α → Int32) (q : α → Bool) : ∀ (l : List α), smI (fun a => if q a = true then f a else 0) l = smI f (l.filter q) := by
  intro l
  induction l with
  | nil => rfl
  | cons a l ih =>
    rw [sm_c, ih]
    by_cases w : q a = true
    · rw [if_pos w, List.filter_cons_of_pos w, sm_c]
    · rw [if_neg w, List.filter_cons_of_neg w, Int32.zero_add]
theorem sm_plus {α : Type} (f g : α → Int32) : ∀ (l : List α), smI (fun a => f a + g a) l = smI f l + smI g l := by
  intro l
  induction l with
  | nil => exact (Int32.add_zero 0).symm
  | cons a l ih =>
    rw [sm_c, sm_c, sm_c, ih, Int32.add_assoc, Int32.add_assoc, ← Int32.add_assoc (g a), Int32.add_comm (g a), Int32.add_assoc]
theorem sm_0 {α : Type} : ∀ (l : List α), smI (fun _ => 0) l = 0 := by
  intro l
  induction l with
  | nil => rfl
  | cons a l ih => rw [sm_c, ih]; rfl
/-- what the four counts are -/
theorem smM_4 {u : Int32} : smM μ x u = (smI (fun k => if lbX x (μ.1.getD k sl0) = true then lvuT (μ.2.1 5) μ.1 k else 0) (List.range μ.1.length), smI (fun k => if lbX x (μ.1.getD k sl0) = true then usT (lEn (μ.1.getD k sl0)) else 0) (List.range μ.1.length), smI (fun k => if lbX x (μ.1.getD k sl0) = true then u - usT (lEn (μ.1.getD k sl0)) else 0) (List.range μ.1.length), smI (fun k => if ¬ lLg (μ.1.getD k sl0) = 99 ∧ (lHo (μ.1.getD k sl0)).any (fun z => decide (nI z.1 = x)) = true then (1 : Int32) else 0) (List.range μ.1.length)) := by
  unfold smM
  have : ∀ (l : List Nat) (b : Int32 × Int32 × Int32 × Int32), l.foldl (smF μ x u) b = (b.1 + smI (fun k => if lbX x (μ.1.getD k sl0) = true then lvuT (μ.2.1 5) μ.1 k else 0) l, b.2.1 + smI (fun k => if lbX x (μ.1.getD k sl0) = true then usT (lEn (μ.1.getD k sl0)) else 0) l, b.2.2.1 + smI (fun k => if lbX x (μ.1.getD k sl0) = true then u - usT (lEn (μ.1.getD k sl0)) else 0) l, b.2.2.2 + smI (fun k => if ¬ lLg (μ.1.getD k sl0) = 99 ∧ (lHo (μ.1.getD k sl0)).any (fun z => decide (nI z.1 = x)) = true then (1 : Int32) else 0) l) := by
    intro l
    induction l with
    | nil =>
      intro b
      show b = (b.1 + 0, b.2.1 + 0, b.2.2.1 + 0, b.2.2.2 + 0)
      rw [Int32.add_zero, Int32.add_zero, Int32.add_zero, Int32.add_zero]
    | cons k l ih =>
      intro b
      rw [List.foldl_cons, ih, sm_c, sm_c, sm_c, sm_c, ← Int32.add_assoc, ← Int32.add_assoc, ← Int32.add_assoc, ← Int32.add_assoc]
      have el : lbX x (μ.1.getD k sl0) = true ↔ lLg (μ.1.getD k sl0) = x := decide_eq_true_iff
      have e1 : (smF μ x u b k).1 = b.1 + (if lbX x (μ.1.getD k sl0) = true then lvuT (μ.2.1 5) μ.1 k else 0) := by
        show (if lLg (μ.1.getD k sl0) = x then b.1 + lvuT (μ.2.1 5) μ.1 k else b.1) = _
        by_cases w : lLg (μ.1.getD k sl0) = x
        · rw [if_pos w, if_pos (el.mpr w)]
        · rw [if_neg w, if_neg (fun z => w (el.mp z)), Int32.add_zero]
      have e2 : (smF μ x u b k).2.1 = b.2.1 + (if lbX x (μ.1.getD k sl0) = true then usT (lEn (μ.1.getD k sl0)) else 0) := by
        show (if lLg (μ.1.getD k sl0) = x then b.2.1 + usT (lEn (μ.1.getD k sl0)) else b.2.1) = _
        by_cases w : lLg (μ.1.getD k sl0) = x
        · rw [if_pos w, if_pos (el.mpr w)]
        · rw [if_neg w, if_neg (fun z => w (el.mp z)), Int32.add_zero]
      have e3 : (smF μ x u b k).2.2.1 = b.2.2.1 + (if lbX x (μ.1.getD k sl0) = true then u - usT (lEn (μ.1.getD k sl0)) else 0) := by
        show (if lLg (μ.1.getD k sl0) = x then b.2.2.1 + (u - usT (lEn (μ.1.getD k sl0))) else b.2.2.1) = _
        by_cases w : lLg (μ.1.getD k sl0) = x
        · rw [if_pos w, if_pos (el.mpr w)]
        · rw [if_neg w, if_neg (fun z => w (el.mp z)), Int32.add_zero]
      have e4 : (smF μ x u b k).2.2.2 = b.2.2.2 + (if ¬ lLg (μ.1.getD k sl0) = 99 ∧ (lHo (μ.1.getD k sl0)).any (fun z => decide (nI z.1 = x)) = true then (1 : Int32) else 0) := by
        show (if ¬ lLg (μ.1.getD k sl0) = 99 ∧ (lHo (μ.1.getD k sl0)).any (fun z => decide (nI z.1 = x)) = true then b.2.2.2 + 1 else b.2.2.2) = _
        by_cases w : ¬ lLg (μ.1.getD k sl0) = 99 ∧ (lHo (μ.1.getD k sl0)).any (fun z => decide (nI z.1 = x)) = true
        · rw [if_pos w, if_pos w]
        · rw [if_neg w, if_neg w, Int32.add_zero]
      rw [e1, e2, e3, e4]
  rw [this]
  show (0 + _, 0 + _, 0 + _, 0 + _) = _
  rw [Int32.zero_add, Int32.zero_add, Int32.zero_add, Int32.zero_add]
theorem fl_inj (r : LgR T x A) {k k' : Nat} (h1 : k < T.length) (l1 : lLg (T.getD k sl0) = x) (h2 : k' < T.length) (l2 : lLg (T.getD k' sl0) = x) (e : lNm (T.getD k sl0) = lNm (T.getD k' sl0)) : k = k' := by
  have nd := List.pairwise_iff_getElem.mp (List.pairwise_filter.mp r.nd)
  have g1 : T.getD k sl0 = T[k] := by rw [List.getD_eq_getElem?_getD, List.getElem?_eq_getElem h1]; rfl
  have g2 : T.getD k' sl0 = T[k'] := by rw [List.getD_eq_getElem?_getD, List.getElem?_eq_getElem h2]; rfl
  rw [g1] at l1 e
  rw [g2] at l2 e
  rcases Nat.lt_trichotomy k k' with w | w | w
  · exact absurd e (nd k k' h1 h2 w (decide_eq_true l1) (decide_eq_true l2))
  · exact w
  · exact absurd e.symm (nd k' k h2 h1 w (decide_eq_true l2) (decide_eq_true l1))
/-- the chain is all of the LOG -/
theorem chL_p (r : LgR T x A) (nb : NB T) : ((List.range T.length).filter (fun k => lbX x (T.getD k sl0))).Perm (chL T x) := by
  obtain ⟨c1, c2⟩ := chL_A r nb
  have nd : (chL T x).Nodup := by
    have pw := r.2.1
    rw [← c1, List.pairwise_map] at pw
    exact pw.imp (fun h e => by rw [e] at h; exact Nat.lt_irrefl _ h)
  refine (List.perm_ext_iff_of_nodup (List.nodup_range.filter _) nd).mpr (fun k => ?_)
  refine ⟨fun hk => ?_, fun hk => ?_⟩
  · obtain ⟨k1, k2⟩ := List.mem_filter.mp hk
    have k1 := List.mem_range.mp k1
    have k2 : lLg (T.getD k sl0) = x := of_decide_eq_true k2
    have := r.mem (fl_at k1 k2)
    rw [← c1] at this
    obtain ⟨k', m1, m2⟩ := List.mem_map.mp this
    obtain ⟨l1, l2⟩ := c2 k' m1
    have en : lNm (T.getD k' sl0) = lNm (T.getD k sl0) := congrArg (fun z : agT => z.1) m2
    have e : k' = k := fl_inj r l1 l2 k1 k2 en
    rw [← e]; exact m1
  · obtain ⟨l1, l2⟩ := c2 k hk
    exact List.mem_filter.mpr ⟨List.mem_range.mpr l1, decide_eq_true l2⟩
theorem sm_lab (r : LgR T x A) (nb : NB T) (f : Nat → Int32) : smI (fun k => if lbX x (T.getD k sl0) = true then f k else 0) (List.range T.length) = smI f (chL T x) := by
  rw [sm_f f (fun k => lbX x (T.getD k sl0)), sm_p f (chL_p r nb)]
theorem sm_ix {α : Type} (d : α) (f : Nat → Int32) (g : α → Int32) : ∀ (l : List α) (b : Nat), (∀ j, j < l.length → f (b + j) = g (l.getD j d)) → smI f (List.range' b l.length) = smI g l := by
  intro l
  induction l with
  | nil => intro b _; rfl
  | cons a l ih =>
    intro b h
    rw [List.length_cons, List.range'_succ, sm_c, sm_c, ih (b + 1) (fun j hj => by rw [Nat.add_assoc, Nat.add_comm 1]; exact h (j + 1) (by rw [List.length_cons]; omega))]
    have := h 0 (by rw [List.length_cons]; omega)
    rw [Nat.add_zero] at this
    rw [this]; rfl
theorem sm_sub {α : Type} (U : Nat) (g : α → Int32) : ∀ (l : List α), smI (fun a => nI U - g a) l = nI l.length * nI U - smI g l := by
  intro l
  induction l with
  | nil => show (0 : Int32) = nI 0 * nI U - 0; rw [nI_0, Int32.zero_mul, Int32.sub_zero]
  | cons a l ih =>
    rw [sm_c, sm_c, ih, List.length_cons, ← nI_1, Int32.add_mul, Int32.one_mul]
    rw [Int32.sub_eq_add_neg, Int32.sub_eq_add_neg, Int32.sub_eq_add_neg, Int32.neg_add]
    rw [Int32.add_comm (nI l.length * nI U) (nI U), Int32.add_assoc, Int32.add_assoc]
    rw [← Int32.add_assoc (-g a), Int32.add_comm (-g a), Int32.add_assoc]
    rw [Int32.sub_eq_add_neg]
/-- UNITS of a LOG -/
theorem unt_R (r : LgR μ.1 (nI i) A) (hi : i < 8) (sp : ∀ s ∈ μ.1, SP N s) (pk : PKA A.1) (U : Nat) (hx : v = 5 ∨ v = 6 ∨ v = 7) : smW (smM μ (nI i) (nI U)) v = untA U A.1 v := by
  have nb := SP.nb sp
  have ho := SP.ho sp
  have ev := SP.ev sp
  obtain ⟨c1, c2⟩ := chL_A r nb
  have lc : (chL μ.1 (nI i)).length = A.1.length := by rw [← c1, List.length_map]
  have s1 : smI (lvuT (μ.2.1 5) μ.1) (chL μ.1 (nI i)) = (List.range A.1.length).foldl (fun t j => t + lvU A.1 j) 0 := by
    have := sm_ix 0 (lvU A.1) (lvuT (μ.2.1 5) μ.1) (chL μ.1 (nI i)) 0 (fun j hj => by
      rw [Nat.zero_add]
      have ek : (chL μ.1 (nI i))[j]? = some ((chL μ.1 (nI i)).getD j 0) := by rw [List.getD_eq_getElem?_getD, List.getElem?_eq_getElem hj]; rfl
      exact (lv_R r ho nb ev (i_16 hi) pk ek).symm)
    rw [← this, lc, ← List.range_eq_range']; rfl
  have s2 : smI (fun k => usT (lEn (μ.1.getD k sl0))) (chL μ.1 (nI i)) = A.1.foldl (fun t u => t + unsA u.2.1) 0 := by
    have : smI (fun u : agT => unsA u.2.1) A.1 = A.1.foldl (fun t u => t + unsA u.2.1) 0 := rfl
    rw [← this, ← c1, sm_m]
    exact sm_g _ (fun k hk => usT_S (ev _ (T_at (c2 k hk).1)))
  rw [smM_4]
  unfold smW untA
  dsimp only
  rw [sm_lab r nb (lvuT (μ.2.1 5) μ.1), sm_lab r nb (fun k => usT (lEn (μ.1.getD k sl0))), sm_lab r nb (fun k => nI U - usT (lEn (μ.1.getD k sl0))), sm_sub, s1, s2, lc]
  by_cases w : v = 5
  · rw [if_pos w, if_pos w]
  · rw [if_neg w, if_neg w]
    by_cases w2 : v = 6
    · rw [if_pos w2, if_pos w2]
    · rw [if_neg w2, if_neg w2, if_pos ((hx.resolve_left w).resolve_left w2)]
end SW
