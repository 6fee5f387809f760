-- ROOM: how many slots the model has
section
variable {T T' T2 : List slT} {y : Nat → Nat} {i j k m n N U rep nm c : Nat} {x xr : Int32} {S : stA} {μ : mT} {st : Nat → Int32} {s : slT} {A : alT} {en : enT} {G : List Nat}
def fre (T : List slT) : Prop := nwI T < T.length
theorem fre_i : fre T ↔ ∃ s ∈ T, lLg s = 99 := by
  unfold fre nwI
  rw [List.findIdx_lt_length]
  exact ⟨fun ⟨s, h1, h2⟩ => ⟨s, h1, of_decide_eq_true h2⟩, fun ⟨s, h1, h2⟩ => ⟨s, h1, decide_eq_true h2⟩⟩
theorem nw_l1 (h : fre T) : (nwT T s).length = T.length := by
  unfold nwT
  rw [if_pos (show nwI T < T.length from h), List.length_set]
theorem nw_l2 (h : ¬ fre T) : (nwT T s).length = T.length + 1 := by
  unfold nwT
  rw [if_neg (show ¬ nwI T < T.length from h), List.length_append]; rfl
theorem nw_ge2 : T.length ≤ (nwT T s).length := by
  unfold nwT
  split
  · rw [List.length_set]; exact Nat.le_refl _
  · rw [List.length_append]; omega
theorem goT_i : goT T k = T.set k (goS (T.getD k sl0)) := rfl
theorem fre_go : ∀ (G : List Nat) (T : List slT), fre T → fre (goL T G) := by
  intro G
  induction G with
  | nil => intro T h; exact h
  | cons k G ih =>
    intro T h
    refine ih (goT T k) ?_
    rw [fre_i] at h ⊢
    obtain ⟨s, h1, h2⟩ := h
    obtain ⟨q, q1, q2⟩ := List.getElem_of_mem h1
    by_cases w : k = q
    · subst w
      refine ⟨goS (T.getD k sl0), ?_, rfl⟩
      rw [goT_i]
      exact List.mem_set q1 _
    · refine ⟨s, ?_, h2⟩
      rw [goT_i]
      have : q < (T.set k (goS (T.getD k sl0))).length := by rw [List.length_set]; exact q1
      have e : (T.set k (goS (T.getD k sl0)))[q] = s := by rw [List.getElem_set_ne w]; exact q2
      rw [← e]
      exact List.getElem_mem this
theorem fre_g1 (hk : k ∈ G) (hl : k < T.length) : fre (goL T G) := by
  obtain ⟨G1, G2, e⟩ := List.append_of_mem hk
  subst e
  have e : goL T (G1 ++ k :: G2) = goL (goT (goL T G1) k) G2 := by
    unfold goL
    rw [List.foldl_append, List.foldl_cons]
  rw [e]
  refine fre_go _ _ (fre_i.mpr ⟨goS ((goL T G1).getD k sl0), ?_, rfl⟩)
  rw [goT_i]
  exact List.mem_set (show k < (goL T G1).length by rw [goL_len]; exact hl) _
theorem cln_ln (hG : ∀ k ∈ G, k < T.length) : (fre T → (clnT st N U rep nm m T G).1.length = T.length ∧ fre (clnT st N U rep nm m T G).1) ∧ (¬ fre T → (clnT st N U rep nm m T G).1 = T ∨ (fre (clnT st N U rep nm m T G).1 ∧ (clnT st N U rep nm m T G).1.length ≤ T.length + 1)) := by
  unfold clnT
  by_cases q : 2 ≤ mEn st T U G - mZ st T G
  · rw [if_pos q]
    dsimp only
    have hz : mZ st T G ≤ G.length := by
      have := zN_le (G.map (cM st T))
      rw [List.length_map] at this
      exact this
    have he : mEn st T U G ≤ mZ st T G + (G.length - mZ st T G) := by
      have := epC_ge (U := nI U) ((G.map (cM st T)).drop (mZ st T G)) (mZ st T G) 0
      rw [List.length_drop, List.length_map] at this
      exact this
    have hp : ∃ k, k ∈ mPk st T U G := by
      have : 0 < (mPk st T U G).length := by
        unfold mPk
        rw [List.length_take, List.length_drop]
        omega
      exact ⟨_, List.getElem_mem this⟩
    obtain ⟨k, k1⟩ := hp
    have k2 : k < T.length := hG k (List.mem_of_mem_drop (List.mem_of_mem_take k1))
    have fr : ∀ s, fre (goL (nwT (goL T (G.take (mZ st T G))) s) (mPk st T U G)) := fun s => fre_g1 k1 (by
      have := nw_ge2 (T := goL T (G.take (mZ st T G))) (s := s)
      rw [goL_len] at this
      omega)
    refine ⟨fun h => ⟨?_, fr _⟩, fun h => Or.inr ⟨fr _, ?_⟩⟩
    · rw [goL_len, nw_l1 (fre_go _ _ h), goL_len]
    · rw [goL_len]
      have := nwT_le (T := goL T (G.take (mZ st T G))) (((mPk st T U G).flatMap (liP st T)).foldl cmP (nI m, nm, false, [], nsM st N rep nm m (N - 1)))
      rw [goL_len] at this
      exact this
  · rw [if_neg q]
    dsimp only
    refine ⟨fun h => ⟨goL_len _ _, fre_go _ _ h⟩, fun h => ?_⟩
    cases e : G.take (mZ st T G) with
    | nil => exact Or.inl rfl
    | cons k G' =>
      refine Or.inr ⟨fre_g1 (k := k) List.mem_cons_self ?_, by rw [goL_len]; omega⟩
      exact hG k (List.mem_of_mem_take (show k ∈ G.take (mZ st T G) by rw [e]; exact List.mem_cons_self))
theorem opn2_ln (mr : MR y S μ) (hi : i < y 20) : (fre μ.1 → (opn2 y μ i).1.length = μ.1.length ∧ fre (opn2 y μ i).1) ∧ (¬ fre μ.1 → (opn2 y μ i).1 = μ.1 ∨ (fre (opn2 y μ i).1 ∧ (opn2 y μ i).1.length ≤ μ.1.length + 1)) := by
  have a4 := (mr.2.2.2.2.1 i hi).2.2.2.1
  have sp := mr.2.2.2.2.2.2.2.1
  unfold opn2
  split
  · exact ⟨fun h => ⟨rfl, h⟩, fun h => Or.inl rfl⟩
  · obtain ⟨g1, g2⟩ := clG_p (st := μ.2.1 5) a4 (SP.nb sp)
    exact cln_ln (T := μ.1) (fun k hk => (g2 k hk).1)
/-- OPENING makes a slot only where none is free -/
theorem opn_ln (mr : MR y S μ) (hi : i < y 20) : (fre μ.1 → (opnM y μ i xr).1.1.length = μ.1.length) ∧ (opnM y μ i xr).1.1.length ≤ μ.1.length + 1 := by
  obtain ⟨a1, a2⟩ := opn2_ln mr hi
  have o3 : ∀ s, (fre μ.1 → (nwT (opn2 y μ i).1 s).length = μ.1.length) ∧ (nwT (opn2 y μ i).1 s).length ≤ μ.1.length + 1 := fun s => by
    refine ⟨fun h => by rw [nw_l1 (a1 h).2]; exact (a1 h).1, ?_⟩
    by_cases h : fre μ.1
    · rw [nw_l1 (a1 h).2, (a1 h).1]; omega
    · rcases a2 h with w | w
      · rw [w]; exact nwT_le s
      · rw [nw_l1 w.1]; exact w.2
  have o2 : (fre μ.1 → (opn2 y μ i).1.length = μ.1.length) ∧ (opn2 y μ i).1.length ≤ μ.1.length + 1 := by
    refine ⟨fun h => (a1 h).1, ?_⟩
    by_cases h : fre μ.1
    · rw [(a1 h).1]; omega
    · rcases a2 h with w | w
      · rw [w]; omega
      · exact w.2
  rcases opn_3 (y := y) (μ := μ) (i := i) (xr := xr) with e | e | e
  · rw [e]; exact ⟨fun _ => rfl, by omega⟩
  · rw [e]; exact o2
  · rw [e]; exact o3 _
theorem tl_le {X : List Int32} : ∀ T : List slT, (∀ s ∈ T, lLg s ∈ X) → T.length ≤ (X.map (fun x => (T.filter (lbX x)).length)).sum := by
  intro T
  induction T with
  | nil => intro _; exact Nat.zero_le _
  | cons s T ih =>
    intro h
    have i1 := ih (fun s hs => h s (List.mem_cons_of_mem _ hs))
    have key : ∀ X : List Int32, (X.map (fun x => (T.filter (lbX x)).length)).sum ≤ (X.map (fun x => ((s :: T).filter (lbX x)).length)).sum ∧ (lLg s ∈ X → (X.map (fun x => (T.filter (lbX x)).length)).sum + 1 ≤ (X.map (fun x => ((s :: T).filter (lbX x)).length)).sum) := by
      intro X
      induction X with
      | nil => exact ⟨Nat.le_refl _, fun z => by cases z⟩
      | cons x X ihx =>
        rw [List.map_cons, List.map_cons, List.sum_cons, List.sum_cons]
        have e : ((s :: T).filter (lbX x)).length = (T.filter (lbX x)).length + (if lLg s = x then 1 else 0) := by
          rw [List.filter_cons]
          unfold lbX
          by_cases w : lLg s = x
          · rw [if_pos (decide_eq_true w), if_pos w]; rfl
          · rw [if_neg (by rw [decide_eq_false w]; decide), if_neg w]; rfl
        rw [e]
        refine ⟨by omega, fun z => ?_⟩
        rcases List.mem_cons.mp z with w | w
        · rw [if_pos w]; omega
        · have := ihx.2 w
          omega
    have := (key X).2 (h s List.mem_cons_self)
    rw [List.length_cons]
    omega
theorem LgR.fln (r : LgR T x A) : (T.filter (lbX x)).length = A.1.length := by
  rw [← r.1.length_eq, List.length_map]
theorem mr_len (mr : MR y S μ) (nf : ¬ fre μ.1) : μ.1.length ≤ sLN y S := by
  obtain ⟨k0, l, n, ow, sv, de, dd, sp, lb⟩ := mr
  have h1 := tl_le (X := (List.range (y 20)).map (fun i => nI i) ++ ((List.range (y 20)).map (fun i => 8 + nI i) ++ (List.range (tDe S).length).map (fun j => μ.2.1 57 j))) μ.1 (fun s hs => by
    rcases lb s hs with w | ⟨i, i1, i2⟩ | ⟨i, i1, i2⟩ | ⟨j, j1, j2⟩
    · exact absurd (fre_i.mpr ⟨s, hs, w⟩) nf
    · exact List.mem_append_left _ (List.mem_map.mpr ⟨i, List.mem_range.mpr i1, i2.symm⟩)
    · exact List.mem_append_right _ (List.mem_append_left _ (List.mem_map.mpr ⟨i, List.mem_range.mpr i1, i2.symm⟩))
    · exact List.mem_append_right _ (List.mem_append_right _ (List.mem_map.mpr ⟨j, List.mem_range.mpr j1, j2.symm⟩)))
  rw [List.map_append, List.map_append, List.sum_append, List.sum_append, List.map_map, List.map_map, List.map_map] at h1
  have e1 : ((List.range (y 20)).map ((fun x => (μ.1.filter (lbX x)).length) ∘ fun i => nI i)).sum = sm (y 20) (fun i => (sLg ((tSv S).getD i sr0)).1.length) := sm_cg (f := (fun x => (μ.1.filter (lbX x)).length) ∘ fun i => nI i) (y 20) (fun i hi => (sv i hi).2.2.2.1.fln)
  have e2 : ((List.range (y 20)).map ((fun x => (μ.1.filter (lbX x)).length) ∘ fun i => 8 + nI i)).sum = sm (y 20) (fun i => (lgO (sLL ((tSv S).getD i sr0))).1.length) := sm_cg (f := (fun x => (μ.1.filter (lbX x)).length) ∘ fun i => 8 + nI i) (y 20) (fun i hi => (sv i hi).2.2.2.2.fln)
  have e3 : ((List.range (tDe S).length).map ((fun x => (μ.1.filter (lbX x)).length) ∘ fun j => μ.2.1 57 j)).sum = sm (tDe S).length (fun j => ((tDe S).getD j d0A).1.1.length) := sm_cg (f := (fun x => (μ.1.filter (lbX x)).length) ∘ fun j => μ.2.1 57 j) (tDe S).length (fun j hj => (de j hj).2.2.fln)
  have e4 : ∀ l : List (alT × Int32), sm l.length (fun j => (l.getD j d0A).1.1.length) = (l.map (fun d => d.1.1.length)).sum := by
    intro l
    unfold sm
    congr 1
    refine List.ext_getElem (by rw [List.length_map, List.length_map, List.length_range]) (fun q h1 h2 => ?_)
    rw [List.getElem_map, List.getElem_map, List.getElem_range]
    rw [List.length_map] at h2
    rw [List.getD_eq_getElem?_getD, List.getElem?_eq_getElem h2]; rfl
  rw [e1, e2, e3, e4] at h1
  unfold sLN
  have e5 : sm (y 20) (fun i => sL2 ((tSv S).getD i sr0)) = sm (y 20) (fun i => (sLg ((tSv S).getD i sr0)).1.length) + sm (y 20) (fun i => (lgO (sLL ((tSv S).getD i sr0))).1.length) := sm_add (y 20)
  omega
theorem opn_5 (mr : MR y S μ) (hi : i < y 20) (hL : μ.1.length ≤ 5700) (sl : sLN y S ≤ 5690) : (opnM y μ i xr).1.1.length ≤ 5700 := by
  obtain ⟨o1, o2⟩ := opn_ln (xr := xr) mr hi
  by_cases w : fre μ.1
  · rw [o1 w]; exact hL
  · have := mr_len mr w
    omega
theorem app_5 (mr : MR y S μ) (hi : i < y 20) (hL : μ.1.length ≤ 5700) (sl : sLN y S ≤ 5690) : (appM y μ i xr en c).1.1.length ≤ 5700 := by
  have a1 : (ap1 y μ i xr en).1.1.length ≤ 5700 := by
    unfold ap1
    split
    · exact opn_5 mr hi hL sl
    · exact hL
  unfold appM
  split
  · exact a1
  · show ((ap1 y μ i xr en).1.1.set _ _).length ≤ _
    rw [List.length_set]; exact a1
end
