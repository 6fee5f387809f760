/-! the two sides: PARTS as they must be; the OBJECT of a key -/
def smV (p q : pT) : Prop := ¬ kM (pKd p) = 0 ∧ ¬ kM (pKd q) = 0 ∧ pKy p = pKy q ∧ pVe p = pVe q
def smQ (p q : pT) : Prop := pKd p = 4 ∧ pKd q = 4 ∧ pCl p = pCl q ∧ pNu p = pNu q
def UQ (ps : List pT) : Prop := ps.Pairwise (fun p q => ¬ smV p q ∧ ¬ smQ p q)
def vr1 (ps : List pT) : Prop := ∀ p ∈ ps, ¬ kM (pKd p) = 0 → (1 : Int32) ≤ pVe p
section OB
variable {ps qs : List pT} {p q : pT} {ky v c n : Int32} {A : List agT} {u : agT}
theorem smV.sy (h : smV p q) : smV q p := ⟨h.2.1, h.1, h.2.2.1.symm, h.2.2.2.symm⟩
theorem smQ.sy (h : smQ p q) : smQ q p := ⟨h.2.1, h.1, h.2.2.1.symm, h.2.2.2.symm⟩
theorem UQ.perm (h : UQ ps) (e : ps.Perm qs) : UQ qs := e.pairwise h (fun h => ⟨fun z => h.1 z.sy, fun z => h.2 z.sy⟩)
theorem pw_eq {α : Type} {R : α → α → Prop} (sy : ∀ a b, R a b → R b a) : ∀ {l : List α} {a b : α}, l.Pairwise (fun a b => ¬ R a b) → a ∈ l → b ∈ l → R a b → a = b := by
  intro l
  induction l with
  | nil => intro a b _ h; cases h
  | cons x l ih =>
    intro a b pw ha hb r
    rw [List.pairwise_cons] at pw
    rcases List.mem_cons.mp ha with e | e <;> rcases List.mem_cons.mp hb with e' | e'
    · rw [e, e']
    · subst e; exact absurd r (pw.1 b e')
    · subst e'; exact absurd (sy _ _ r) (pw.1 a e)
    · exact ih pw.2 e e' r
theorem UQ.eqV (h : UQ ps) (hp : p ∈ ps) (hq : q ∈ ps) (r : smV p q) : p = q := pw_eq (fun _ _ => smV.sy) (h.imp (fun z => z.1)) hp hq r
theorem UQ.eqQ (h : UQ ps) (hp : p ∈ ps) (hq : q ∈ ps) (r : smQ p q) : p = q := pw_eq (fun _ _ => smQ.sy) (h.imp (fun z => z.2)) hp hq r
theorem obF_t : obF ky v p = true ↔ pKd p = 2 ∧ pKy p = ky ∧ pVe p = v := by
  unfold obF
  rw [Bool.and_eq_true, Bool.and_eq_true, decide_eq_true_eq, decide_eq_true_eq, decide_eq_true_eq]
  exact ⟨fun h => ⟨h.1.1, h.1.2, h.2⟩, fun h => ⟨⟨h.1, h.2.1⟩, h.2.2⟩⟩
theorem resA_t : resA c n p = true ↔ pKd p = 4 ∧ pCl p = c ∧ pNu p = n := by
  unfold resA
  rw [Bool.and_eq_true, Bool.and_eq_true, decide_eq_true_eq, decide_eq_true_eq, decide_eq_true_eq]
  exact ⟨fun h => ⟨h.1.1, h.1.2, h.2⟩, fun h => ⟨⟨h.1, h.2.1⟩, h.2.2⟩⟩
theorem kM_2 (h : pKd p = 2) : ¬ kM (pKd p) = 0 := by rw [h]; decide
theorem obS_perm (h : UQ ps) (e : ps.Perm qs) : obS ps ky = obS qs ky := by
  unfold obS
  rw [verA_perm e]
  refine find_perm e (fun a b ha hb qa qb => ?_)
  obtain ⟨a1, a2, a3⟩ := obF_t.mp qa
  obtain ⟨b1, b2, b3⟩ := obF_t.mp qb
  exact h.eqV ha hb ⟨kM_2 a1, kM_2 b1, a2.trans b2.symm, a3.trans b3.symm⟩
theorem res_perm (h : UQ ps) (e : ps.Perm qs) : ps.find? (resA c n) = qs.find? (resA c n) := by
  refine find_perm e (fun a b ha hb qa qb => ?_)
  obtain ⟨a1, a2, a3⟩ := resA_t.mp qa
  obtain ⟨b1, b2, b3⟩ := resA_t.mp qb
  exact h.eqQ ha hb ⟨a1, b1, a2.trans b2.symm, a3.trans b3.symm⟩
theorem mxI_le (a z : Int32) : z ≤ mxI a z ∧ a ≤ mxI a z := by
  have := mxI_t a z
  exact ⟨Int32.le_iff_toInt_le.mpr (by omega), Int32.le_iff_toInt_le.mpr (by omega)⟩
theorem verG_ge (z : Int32) (p : pT) : z ≤ verG ky z p ∧ (¬ kM (pKd p) = 0 → pKy p = ky → pVe p ≤ verG ky z p) := by
  unfold verG
  by_cases q : kM (pKd p) = 0
  · rw [if_pos q]; exact ⟨Int32.le_refl _, fun z => absurd q z⟩
  · rw [if_neg q]
    by_cases q2 : pKy p = ky
    · rw [if_neg (fun z => z q2)]
      have := mxI_le (pVe p) z
      unfold mxI at this
      exact ⟨this.1, fun _ _ => this.2⟩
    · rw [if_pos q2]; exact ⟨Int32.le_refl _, fun _ z => absurd z q2⟩
theorem verF_ge : ∀ (ps : List pT) (z : Int32), z ≤ ps.foldl (verG ky) z ∧ ∀ p ∈ ps, ¬ kM (pKd p) = 0 → pKy p = ky → pVe p ≤ ps.foldl (verG ky) z := by
  intro ps
  induction ps with
  | nil => intro z; exact ⟨Int32.le_refl _, fun _ h => by cases h⟩
  | cons a ps ih =>
    intro z
    rw [List.foldl_cons]
    obtain ⟨i1, i2⟩ := ih (verG ky z a)
    obtain ⟨g1, g2⟩ := verG_ge (ky := ky) z a
    refine ⟨Int32.le_trans g1 i1, fun p hp k1 k2 => ?_⟩
    rcases List.mem_cons.mp hp with e | e
    · subst e; exact Int32.le_trans (g2 k1 k2) i1
    · exact i2 p e k1 k2
theorem verA_ge (hp : p ∈ ps) (k1 : ¬ kM (pKd p) = 0) (k2 : pKy p = ky) : pVe p ≤ verA ps ky := (verF_ge ps 0).2 p hp k1 k2
/-- the pairs of a LOG: a SEGMENT, a PART of it -/
def prL (A : List agT) : List (agT × pT) := A.flatMap (fun u => u.2.1.map (fun p => (u, p)))
theorem prL_2 : (prL A).map (·.2) = (A.map (·.2.1)).flatten := by
  unfold prL
  rw [List.map_flatMap, ← List.flatMap_def]
  congr 1
  funext u
  rw [List.map_map]
  exact (List.map_id _)
theorem homA_pr : homA ky A = (prL A).foldl (fun st x => homG ky x.1 st x.2) (0, none) := by
  unfold homA prL
  rw [List.foldl_flatMap]
  congr 1
  funext st u
  rw [List.foldl_map]
def hmI (ky : Int32) (l : List (agT × pT)) (st : Int32 × Option agT) : Prop := st.1 = verA (l.map (·.2)) ky ∧ (∀ u, st.2 = some u → ∃ p, (u, p) ∈ l ∧ obF ky st.1 p = true) ∧ (st.2 = none → ∀ x ∈ l, obF ky st.1 x.2 = false) ∧ (st.1 = 0 ∨ ∃ x ∈ l, ¬ kM (pKd x.2) = 0 ∧ pKy x.2 = ky ∧ pVe x.2 = st.1)
theorem hm_st {l : List (agT × pT)} {st : Int32 × Option agT} {x : agT × pT} (h : hmI ky l st) (uq : UQ ((l ++ [x]).map (·.2))) (v1 : vr1 ((l ++ [x]).map (·.2))) : hmI ky (l ++ [x]) (homG ky x.1 st x.2) := by
  obtain ⟨h1, h2, h3, h4⟩ := h
  have hx : x.2 ∈ (l ++ [x]).map (·.2) := List.mem_map_of_mem (List.mem_append_right _ List.mem_cons_self)
  have e1 : verA ((l ++ [x]).map (·.2)) ky = verG ky st.1 x.2 := by
    rw [List.map_append]
    unfold verA
    rw [List.foldl_append, h1]; rfl
  have keep : verG ky st.1 x.2 = st.1 → obF ky st.1 x.2 = false ∨ ¬ st.2 = none → homG ky x.1 st x.2 = st → hmI ky (l ++ [x]) (homG ky x.1 st x.2) := by
    intro k1 k2 k3
    rw [k3]
    refine ⟨by rw [e1, k1], fun u hu => ?_, fun hn y hy => ?_, ?_⟩
    · obtain ⟨p, p1, p2⟩ := h2 u hu
      exact ⟨p, List.mem_append_left _ p1, p2⟩
    · rcases List.mem_append.mp hy with q | q
      · exact h3 hn y q
      · rw [List.mem_singleton.mp q]
        exact k2.resolve_right (fun z => z hn)
    · rcases h4 with h4 | ⟨y, y1, y2⟩
      · exact Or.inl h4
      · exact Or.inr ⟨y, List.mem_append_left _ y1, y2⟩
  by_cases q1 : kM (pKd x.2) = 0
  · refine keep (by unfold verG; rw [if_pos q1]) (Or.inl ?_) (by unfold homG; rw [if_pos q1])
    refine Bool.eq_false_iff.mpr (fun z => kM_2 (obF_t.mp z).1 q1)
  · by_cases q2 : pKy x.2 = ky
    · by_cases q3 : pVe x.2 ≤ st.1
      · refine keep (by unfold verG; rw [if_neg q1, if_neg (fun z => z q2), if_pos q3]) ?_ (by unfold homG; rw [if_neg q1, if_neg (fun z => z q2), if_pos q3])
        by_cases qn : st.2 = none
        · left
          refine Bool.eq_false_iff.mpr (fun z => ?_)
          have z3 := (obF_t.mp z).2.2
          rcases h4 with h4 | ⟨y, y1, y2, y3, y4⟩
          · have := v1 x.2 hx q1
            rw [z3, h4] at this
            exact absurd this (by decide)
          · -- the same key and VERSION twice
            rw [List.map_append] at uq
            have := (List.pairwise_append.mp uq).2.2 y.2 (List.mem_map_of_mem y1) x.2 (List.mem_singleton.mpr rfl)
            exact this.1 ⟨y2, q1, y3.trans q2.symm, y4.trans z3.symm⟩
        · exact Or.inr qn
      · have eh : homG ky x.1 st x.2 = (pVe x.2, if pKd x.2 = 2 then some x.1 else none) := by
          unfold homG
          rw [if_neg q1, if_neg (fun z => z q2), if_neg q3]
        have ev : verG ky st.1 x.2 = pVe x.2 := by
          unfold verG
          rw [if_neg q1, if_neg (fun z => z q2), if_neg q3]
        rw [eh]
        have hl : x ∈ l ++ [x] := List.mem_append_right _ List.mem_cons_self
        refine ⟨by rw [e1, ev], fun u hu => ?_, fun hn y hy => ?_, Or.inr ⟨x, hl, q1, q2, rfl⟩⟩
        · dsimp only at hu
          split at hu
          · rename_i k2
            cases hu
            exact ⟨x.2, hl, obF_t.mpr ⟨k2, q2, rfl⟩⟩
          · cases hu
        · dsimp only at hn ⊢
          refine Bool.eq_false_iff.mpr (fun z => ?_)
          obtain ⟨z1, z2, z3⟩ := obF_t.mp z
          rcases List.mem_append.mp hy with q | q
          · have : pVe y.2 ≤ st.1 := by
              rw [h1]
              exact verA_ge (List.mem_map_of_mem q) (kM_2 z1) z2
            rw [z3] at this
            exact q3 this
          · rw [List.mem_singleton.mp q] at z1
            rw [if_pos z1] at hn
            cases hn
    · refine keep (by unfold verG; rw [if_neg q1, if_pos q2]) (Or.inl ?_) (by unfold homG; rw [if_neg q1, if_pos q2])
      exact Bool.eq_false_iff.mpr (fun z => q2 (obF_t.mp z).2.1)
theorem hm_all (uq : UQ ((A.map (·.2.1)).flatten)) (v1 : vr1 ((A.map (·.2.1)).flatten)) : hmI ky (prL A) (homA ky A) := by
  rw [homA_pr]
  rw [← prL_2] at uq v1
  generalize prL A = l at uq v1
  have : ∀ (l l0 : List (agT × pT)) (st : Int32 × Option agT), hmI ky l0 st → UQ ((l0 ++ l).map (·.2)) → vr1 ((l0 ++ l).map (·.2)) → hmI ky (l0 ++ l) (l.foldl (fun st x => homG ky x.1 st x.2) st) := by
    intro l
    induction l with
    | nil => intro l0 st h _ _; rw [List.append_nil]; exact h
    | cons x l ih =>
      intro l0 st h uq v1
      have e : l0 ++ x :: l = (l0 ++ [x]) ++ l := by rw [List.append_assoc]; rfl
      rw [e] at uq v1 ⊢
      refine ih _ _ (hm_st h ?_ ?_) uq v1
      · rw [List.map_append] at uq
        exact (List.pairwise_append.mp uq).1
      · intro p hp
        exact v1 p (by rw [List.map_append]; exact List.mem_append_left _ hp)
  exact this l [] (0, none) ⟨rfl, (fun u hu => by cases hu), (fun _ x hx => by cases hx), Or.inl rfl⟩ uq v1
theorem obG_f : ∀ (l : List pT) (b : Option pT), (∀ f, b = some f → pKd f = 2 ∧ pKy f = ky) → (∃ p, (p ∈ l ∨ b = some p) ∧ obF ky v p = true) → (∀ p, (p ∈ l ∨ b = some p) → pKd p = 2 → pKy p = ky → pVe p ≤ v) → ∃ f, l.foldl (objG ky) b = some f ∧ obF ky v f = true ∧ (f ∈ l ∨ b = some f) := by
  intro l
  induction l with
  | nil =>
    intro b _ ⟨p, hp, e⟩ _
    rcases hp with hp | hp
    · cases hp
    · exact ⟨p, hp, e, Or.inr hp⟩
  | cons a l ih =>
    intro b hb ⟨p, hp, e⟩ mx
    rw [List.foldl_cons]
    have step : ∀ b', objG ky b a = b' → (∀ f, b' = some f → pKd f = 2 ∧ pKy f = ky) → (∃ p, (p ∈ l ∨ b' = some p) ∧ obF ky v p = true) → (∀ f, b' = some f → f = a ∨ b = some f) → ∃ f, l.foldl (objG ky) (objG ky b a) = some f ∧ obF ky v f = true ∧ (f ∈ a :: l ∨ b = some f) := by
      intro b' eb h1 h2 h3
      rw [eb]
      obtain ⟨f, f1, f2, f3⟩ := ih b' h1 h2 (fun p hp k1 k2 => by
        rcases hp with hp | hp
        · exact mx p (Or.inl (List.mem_cons_of_mem _ hp)) k1 k2
        · rcases h3 p hp with q | q
          · subst q; exact mx p (Or.inl List.mem_cons_self) k1 k2
          · exact mx p (Or.inr q) k1 k2)
      refine ⟨f, f1, f2, ?_⟩
      rcases f3 with f3 | f3
      · exact Or.inl (List.mem_cons_of_mem _ f3)
      · rcases h3 f f3 with q | q
        · subst q; exact Or.inl List.mem_cons_self
        · exact Or.inr q
    obtain ⟨e1, e2, e3⟩ := obF_t.mp e
    by_cases q1 : pKd a = 2
    · by_cases q2 : pKy a = ky
      · cases b with
        | none =>
          refine step (some a) (by unfold objG; rw [if_neg (fun z => z q1), if_neg (fun z => z q2)]) (fun f hf => by cases hf; exact ⟨q1, q2⟩) ?_ (fun f hf => by cases hf; exact Or.inl rfl)
          rcases hp with hp | hp
          · rcases List.mem_cons.mp hp with hp | hp
            · subst hp; exact ⟨p, Or.inr rfl, e⟩
            · exact ⟨p, Or.inl hp, e⟩
          · cases hp
        | some f =>
          obtain ⟨f1, f2⟩ := hb f rfl
          by_cases q3 : pVe a ≤ pVe f
          · refine step (some f) (by unfold objG; rw [if_neg (fun z => z q1), if_neg (fun z => z q2)]; exact if_pos q3) hb ?_ (fun f hf => Or.inr hf)
            rcases hp with hp | hp
            · rcases List.mem_cons.mp hp with hp | hp
              · subst hp
                have := mx f (Or.inr rfl) f1 f2
                rw [e3] at q3
                exact ⟨f, Or.inr rfl, obF_t.mpr ⟨f1, f2, Int32.le_antisymm this q3⟩⟩
              · exact ⟨p, Or.inl hp, e⟩
            · exact ⟨p, Or.inr hp, e⟩
          · refine step (some a) (by unfold objG; rw [if_neg (fun z => z q1), if_neg (fun z => z q2)]; exact if_neg q3) (fun f hf => by cases hf; exact ⟨q1, q2⟩) ?_ (fun f hf => by cases hf; exact Or.inl rfl)
            rcases hp with hp | hp
            · rcases List.mem_cons.mp hp with hp | hp
              · subst hp; exact ⟨p, Or.inr rfl, e⟩
              · exact ⟨p, Or.inl hp, e⟩
            · have ef : f = p := Option.some.inj hp
              subst ef
              have := mx a (Or.inl List.mem_cons_self) q1 q2
              rw [← e3] at this
              exact absurd this q3
      · refine step b (by unfold objG; rw [if_neg (fun z => z q1), if_pos q2]) hb ?_ (fun f hf => Or.inr hf)
        rcases hp with hp | hp
        · rcases List.mem_cons.mp hp with hp | hp
          · subst hp; exact absurd e2 q2
          · exact ⟨p, Or.inl hp, e⟩
        · exact ⟨p, Or.inr hp, e⟩
    · refine step b (by unfold objG; rw [if_pos q1]) hb ?_ (fun f hf => Or.inr hf)
      rcases hp with hp | hp
      · rcases List.mem_cons.mp hp with hp | hp
        · subst hp; exact absurd e1 q1
        · exact ⟨p, Or.inl hp, e⟩
      · exact ⟨p, Or.inr hp, e⟩
theorem objA_S (uq : UQ ((A.map (·.2.1)).flatten)) (v1 : vr1 ((A.map (·.2.1)).flatten)) : objA ky A = obS ((A.map (·.2.1)).flatten) ky := by
  obtain ⟨h1, h2, h3, h4⟩ := hm_all (ky := ky) uq v1
  rw [prL_2] at h1
  unfold objA obS
  rw [← h1]
  cases e : (homA ky A).2 with
  | none =>
    symm
    refine List.find?_eq_none.mpr (fun p hp => ?_)
    rw [← prL_2] at hp
    obtain ⟨x, x1, x2⟩ := List.mem_map.mp hp
    rw [← x2, h3 e x x1]; decide
  | some u =>
    obtain ⟨p, p1, p2⟩ := h2 u e
    have pm : p ∈ u.2.1 ∧ u ∈ A := by
      unfold prL at p1
      obtain ⟨u', u1, u2⟩ := List.mem_flatMap.mp p1
      obtain ⟨p', p3, p4⟩ := List.mem_map.mp u2
      cases p4
      exact ⟨p3, u1⟩
    have inA : ∀ p, p ∈ u.2.1 → p ∈ (A.map (·.2.1)).flatten := fun p hp => List.mem_flatten.mpr ⟨u.2.1, List.mem_map_of_mem pm.2, hp⟩
    dsimp only
    obtain ⟨f, f1, f2, f3⟩ := obG_f (ky := ky) (v := (homA ky A).1) u.2.1 none (fun f hf => by cases hf) ⟨p, Or.inl pm.1, p2⟩ (fun p hp k1 k2 => by
      rcases hp with hp | hp
      · rw [h1]; exact verA_ge (inA p hp) (kM_2 k1) k2
      · cases hp)
    rw [f1]
    have fm := inA f (f3.resolve_right (fun z => by cases z))
    cases e' : ((A.map (·.2.1)).flatten).find? (obF ky (homA ky A).1) with
    | none => exact absurd f2 (List.find?_eq_none.mp e' f fm)
    | some f' =>
      obtain ⟨a1, a2, a3⟩ := obF_t.mp f2
      obtain ⟨b1, b2, b3⟩ := obF_t.mp (List.find?_some e')
      rw [uq.eqV fm (List.mem_of_find?_eq_some e') ⟨kM_2 a1, kM_2 b1, a2.trans b2.symm, a3.trans b3.symm⟩]
end OB
