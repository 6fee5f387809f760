/-! the two sides: slots that change, and their LOGS -/
def LF (F : List slT) (A : alT) : Prop := (F.map agS).Perm A.1 ∧ A.1.Pairwise (fun a b => a.1 < b.1) ∧ LaR F A.2.2
section OP
variable {T : List slT} {F F' : List slT} {x x' c n a : Int32} {A B : alT} {st : Nat → Int32} {k e i : Nat} {s s' : slT} {hd : Option Nat} {l : Option Nat}
theorem LgR.f (r : LgR T x A) : LF (T.filter (lbX x)) A := r
theorem LF.g (r : LF (T.filter (lbX x)) A) : LgR T x A := r
theorem LaR.perm (h : LaR F l) (e : F.Perm F') : LaR F' l := by
  rcases h with ⟨h1, h2⟩ | ⟨s, h1, h2, h3, h4⟩
  · exact Or.inl ⟨h1, fun s hs => h2 s (e.mem_iff.mpr hs)⟩
  · exact Or.inr ⟨s, e.mem_iff.mp h1, h2, h3, fun s' hs => h4 s' (e.mem_iff.mpr hs)⟩
theorem LF.perm (h : LF F A) (e : F.Perm F') : LF F' A := ⟨(e.map agS).symm.trans h.1, h.2.1, h.2.2.perm e⟩
theorem LF.add (h : LF F A) (hn : ∀ u ∈ A.1, u.1 < lNm s) : LF (s :: F) (A.1 ++ [agS s], hd, if lOp s = true then some (lNm s) else A.2.2) := by
  obtain ⟨h1, h2, h3⟩ := h
  have nF : ∀ s' ∈ F, lNm s' < lNm s := fun s' hs => hn (agS s') (h1.mem_iff.mp (List.mem_map_of_mem hs))
  refine ⟨?_, ?_, ?_⟩
  · show (agS s :: F.map agS).Perm (A.1 ++ [agS s])
    exact (h1.cons (agS s)).trans (List.perm_append_comm (l₁ := [agS s]) (l₂ := A.1))
  · exact List.pairwise_append.mpr ⟨h2, List.pairwise_singleton _ _, fun u hu v hv => by rw [List.mem_singleton.mp hv]; exact hn u hu⟩
  · by_cases q : lOp s = true
    · rw [if_pos q]
      refine Or.inr ⟨s, List.mem_cons_self, q, rfl, fun s' hs _ => ?_⟩
      rcases List.mem_cons.mp hs with z | z
      · rw [z]; exact Nat.le_refl _
      · exact Nat.le_of_lt (nF s' z)
    · rw [if_neg q]
      rcases h3 with ⟨h3, h4⟩ | ⟨t, t1, t2, t3, t4⟩
      · refine Or.inl ⟨h3, fun s' hs => ?_⟩
        rcases List.mem_cons.mp hs with z | z
        · rw [z]; simpa using q
        · exact h4 s' z
      · refine Or.inr ⟨t, List.mem_cons_of_mem _ t1, t2, t3, fun s' hs ho => ?_⟩
        rcases List.mem_cons.mp hs with z | z
        · rw [z] at ho; exact absurd ho q
        · exact t4 s' z ho
theorem LF.nd (h : LF (s :: F) A) : ∀ t ∈ F, ¬ lNm t = lNm s := by
  have h1 : A.1.Pairwise (fun a b => ¬ a.1 = b.1) := h.2.1.imp (fun q e => by omega)
  have h2 := h.1.symm.pairwise h1 (fun q e => q e.symm)
  rw [List.pairwise_map, List.pairwise_cons] at h2
  exact fun t ht z => h2.1 t ht z.symm
theorem LF.rep (h : LF (s :: F) A) (en : lNm s' = lNm s) (eo : lOp s' = lOp s) : LF (s' :: F) (A.1.map (fun u => if u.1 = lNm s then agS s' else u), hd, A.2.2) := by
  have nd := h.nd
  obtain ⟨h1, h2, h3⟩ := h
  refine ⟨?_, ?_, ?_⟩
  · have := h1.map (fun u : agT => if u.1 = lNm s then agS s' else u)
    refine List.Perm.trans ?_ this
    rw [List.map_cons, List.map_cons, List.map_cons]
    have e1 : (if (agS s).1 = lNm s then agS s' else agS s) = agS s' := if_pos rfl
    rw [e1]
    refine List.Perm.of_eq (congrArg (agS s' :: ·) ?_)
    rw [List.map_map]
    refine List.map_congr_left (fun t ht => ?_)
    exact (if_neg (nd t ht)).symm
  · refine List.pairwise_map.mpr (h2.imp (fun {u v} q => ?_))
    have nm : ∀ u : agT, (if u.1 = lNm s then agS s' else u).1 = u.1 := fun u => by
      by_cases z : u.1 = lNm s
      · rw [if_pos z, z]; exact en
      · rw [if_neg z]
    rw [nm, nm]
    exact q
  · rcases h3 with ⟨h3, h4⟩ | ⟨t, t1, t2, t3, t4⟩
    · refine Or.inl ⟨h3, fun z hz => ?_⟩
      rcases List.mem_cons.mp hz with q | q
      · rw [q, eo]; exact h4 s List.mem_cons_self
      · exact h4 z (List.mem_cons_of_mem _ q)
    · have up : ∀ z ∈ s' :: F, lOp z = true → lNm z ≤ lNm t := fun z hz ho => by
        rcases List.mem_cons.mp hz with q | q
        · rw [q, en]; rw [q, eo] at ho; exact t4 s List.mem_cons_self ho
        · exact t4 z (List.mem_cons_of_mem _ q) ho
      rcases List.mem_cons.mp t1 with q | q
      · subst q
        exact Or.inr ⟨s', List.mem_cons_self, by rw [eo]; exact t2, by rw [en]; exact t3, fun z hz ho => by rw [en]; exact up z hz ho⟩
      · exact Or.inr ⟨t, List.mem_cons_of_mem _ q, t2, t3, up⟩
theorem LF.rem (h : LF (s :: F) A) (nl : ¬ A.2.2 = some (lNm s)) : LF F (A.1.filter (fun u => decide (¬ u.1 = lNm s)), hd, A.2.2) := by
  have nd := h.nd
  obtain ⟨h1, h2, h3⟩ := h
  refine ⟨?_, h2.filter _, ?_⟩
  · have := h1.filter (fun u : agT => decide (¬ u.1 = lNm s))
    refine List.Perm.trans ?_ this
    rw [List.map_cons, List.filter_cons, if_neg (by simp [agS])]
    refine List.Perm.of_eq (fil_all (fun u hu => ?_)).symm
    obtain ⟨t, t1, t2⟩ := List.mem_map.mp hu
    subst t2
    exact decide_eq_true (nd t t1)
  · rcases h3 with ⟨h3, h4⟩ | ⟨t, t1, t2, t3, t4⟩
    · exact Or.inl ⟨h3, fun z hz => h4 z (List.mem_cons_of_mem _ hz)⟩
    · rcases List.mem_cons.mp t1 with q | q
      · subst q; exact absurd t3 nl
      · exact Or.inr ⟨t, q, t2, t3, fun z hz ho => t4 z (List.mem_cons_of_mem _ hz) ho⟩
theorem er_perm {α : Type} (d : α) : ∀ (l : List α) (k : Nat), k < l.length → l.Perm (l.getD k d :: l.eraseIdx k) ∧ ∀ b, (l.set k b).Perm (b :: l.eraseIdx k) := by
  intro l
  induction l with
  | nil => intro k h; exact absurd h (Nat.not_lt_zero _)
  | cons a l ih =>
    intro k h
    cases k with
    | zero => exact ⟨List.Perm.rfl, fun b => List.Perm.rfl⟩
    | succ k =>
      obtain ⟨i1, i2⟩ := ih k (Nat.lt_of_succ_lt_succ h)
      exact ⟨(i1.cons a).trans (List.Perm.swap _ _ _), fun b => ((i2 b).cons a).trans (List.Perm.swap _ _ _)⟩
theorem lb_y (h : lLg s = x) : (s :: F).filter (lbX x) = s :: F.filter (lbX x) := by rw [List.filter_cons, if_pos (show lbX x s = true from decide_eq_true h)]
theorem lb_n (h : ¬ lLg s = x) : (s :: F).filter (lbX x) = F.filter (lbX x) := by rw [List.filter_cons, if_neg (by unfold lbX; simpa using h)]
theorem LgR.oth (r : LgR T x A) (hk : k < T.length) (n1 : ¬ lLg (T.getD k sl0) = x) (n2 : ¬ lLg s' = x) : LgR (T.set k s') x A := by
  obtain ⟨e1, e2⟩ := er_perm sl0 T k hk
  have p1 := e1.filter (lbX x)
  have p2 := (e2 s').filter (lbX x)
  rw [lb_n n1] at p1
  rw [lb_n n2] at p2
  exact (r.f.perm (p1.trans p2.symm)).g
theorem LgR.rp (r : LgR T x A) (hk : k < T.length) (l1 : lLg (T.getD k sl0) = x) (l2 : lLg s' = x) (en : lNm s' = lNm (T.getD k sl0)) (eo : lOp s' = lOp (T.getD k sl0)) : LgR (T.set k s') x (A.1.map (fun u => if u.1 = lNm (T.getD k sl0) then agS s' else u), hd, A.2.2) := by
  obtain ⟨e1, e2⟩ := er_perm sl0 T k hk
  have p1 := e1.filter (lbX x)
  have p2 := (e2 s').filter (lbX x)
  rw [lb_y l1] at p1
  rw [lb_y l2] at p2
  exact (((r.f.perm p1).rep en eo).perm p2.symm).g
theorem LgR.go (r : LgR T x A) (hk : k < T.length) (l1 : lLg (T.getD k sl0) = x) (l2 : ¬ lLg s' = x) (nl : ¬ A.2.2 = some (lNm (T.getD k sl0))) : LgR (T.set k s') x (A.1.filter (fun u => decide (¬ u.1 = lNm (T.getD k sl0))), hd, A.2.2) := by
  obtain ⟨e1, e2⟩ := er_perm sl0 T k hk
  have p1 := e1.filter (lbX x)
  have p2 := (e2 s').filter (lbX x)
  rw [lb_y l1] at p1
  rw [lb_n l2] at p2
  exact (((r.f.perm p1).rem nl).perm p2.symm).g
theorem nw_at (h : nwI T < T.length) : lLg (T.getD (nwI T) sl0) = 99 := by
  unfold nwI at h ⊢
  have := List.findIdx_getElem (w := h)
  rw [List.getD_eq_getElem?_getD, List.getElem?_eq_getElem h]
  exact of_decide_eq_true this
theorem nw_fil (hx : ¬ x = 99) : ((nwT T s).filter (lbX x)).Perm ((s :: T).filter (lbX x)) := by
  unfold nwT
  split
  · rename_i h
    obtain ⟨e1, e2⟩ := er_perm sl0 T (nwI T) h
    have p1 := e1.filter (lbX x)
    rw [lb_n (by rw [nw_at h]; exact fun z => hx z.symm)] at p1
    have p2 := (e2 s).filter (lbX x)
    refine p2.trans ?_
    by_cases q : lLg s = x
    · rw [lb_y q, lb_y q]; exact p1.symm.cons _
    · rw [lb_n q, lb_n q]; exact p1.symm
  · exact (List.perm_append_comm (l₁ := T) (l₂ := [s])).filter _
theorem LgR.nw (r : LgR T x A) (hx : ¬ x = 99) (l : lLg s = x) (hn : ∀ u ∈ A.1, u.1 < lNm s) : LgR (nwT T s) x (A.1 ++ [agS s], hd, if lOp s = true then some (lNm s) else A.2.2) := by
  have p := nw_fil (T := T) (s := s) hx
  rw [lb_y l] at p
  exact ((r.f.add hn).perm p.symm).g
theorem LgR.nwo (r : LgR T x A) (hx : ¬ x = 99) (l : ¬ lLg s = x) : LgR (nwT T s) x A := by
  have p := nw_fil (T := T) (s := s) hx
  rw [lb_n l] at p
  exact (r.f.perm p.symm).g
theorem nw_mem (h : s' ∈ nwT T s) : s' ∈ T ∨ s' = s := by
  unfold nwT at h
  split at h
  · exact List.mem_or_eq_of_mem_set h
  · rcases List.mem_append.mp h with z | z
    · exact Or.inl z
    · exact Or.inr (List.mem_singleton.mp z)
theorem go_o (r : LgR T x A) (hk : k < T.length) (n1 : ¬ lLg (T.getD k sl0) = x) (hx : ¬ x = 99) : LgR (goT T k) x A := r.oth hk n1 (fun z => hx (Eq.symm z))
theorem rm_c (A : List agT) (n : Nat) (ns : List Nat) : rmN A (n :: ns) = rmN (A.filter (fun u => decide (¬ u.1 = n))) ns := by
  unfold rmN
  rw [List.filter_filter]
  refine List.filter_congr (fun u _ => ?_)
  rw [List.contains_cons]
  by_cases q : u.1 = n
  · simp [q]
  · simp [q]
theorem goL_R : ∀ (G : List Nat) (T : List slT) (A : alT), LgR T x A → ¬ x = 99 → G.Nodup → (∀ k ∈ G, k < T.length ∧ lLg (T.getD k sl0) = x ∧ ¬ A.2.2 = some (lNm (T.getD k sl0))) → LgR (goL T G) x (rmN A.1 (G.map (fun k => lNm (T.getD k sl0))), hd, A.2.2) := by
  intro G
  induction G with
  | nil =>
    intro T A r _ _ _
    have : rmN A.1 [] = A.1 := fil_all (fun u _ => rfl)
    rw [List.map_nil, this]
    exact r
  | cons k G ih =>
    intro T A r hx nd hG
    obtain ⟨k1, k2, k3⟩ := hG k List.mem_cons_self
    rw [List.nodup_cons] at nd
    have r1 : LgR (goT T k) x _ := r.go (hd := A.2.1) k1 k2 (s' := goS (T.getD k sl0)) (fun z => hx (Eq.symm z)) k3
    have oth : ∀ j ∈ G, (goT T k).getD j sl0 = T.getD j sl0 := fun j hj => by
      unfold goT
      rw [List.getD_eq_getElem?_getD, List.getElem?_set_ne (show ¬ k = j from fun z => nd.1 (by rw [z]; exact hj)), ← List.getD_eq_getElem?_getD]
    have := ih (goT T k) _ r1 hx nd.2 (fun j hj => by
      obtain ⟨j1, j2, j3⟩ := hG j (List.mem_cons_of_mem _ hj)
      rw [oth j hj, goT_len]
      exact ⟨j1, j2, j3⟩)
    rw [List.map_cons, rm_c]
    have e : G.map (fun k' => lNm ((goT T k).getD k' sl0)) = G.map (fun k => lNm (T.getD k sl0)) := List.map_congr_left (fun j hj => by rw [oth j hj])
    rw [e] at this
    exact this
theorem goL_O : ∀ (G : List Nat) (T : List slT), LgR T x A → ¬ x = 99 → (∀ k ∈ G, k < T.length ∧ ¬ lLg (T.getD k sl0) = x) → LgR (goL T G) x A := by
  intro G
  induction G with
  | nil => intro T r _ _; exact r
  | cons k G ih =>
    intro T r hx hG
    obtain ⟨k1, k2⟩ := hG k List.mem_cons_self
    refine ih (goT T k) (go_o r k1 k2 hx) hx (fun j hj => ?_)
    obtain ⟨j1, j2⟩ := hG j (List.mem_cons_of_mem _ hj)
    refine ⟨by rw [goT_len]; exact j1, ?_⟩
    by_cases q : k = j
    · subst q
      have : (goT T k).getD k sl0 = goS (T.getD k sl0) := by
        unfold goT
        rw [List.getD_eq_getElem?_getD, List.getElem?_set_self k1]; rfl
      rw [this]
      exact fun z => hx (Eq.symm z)
    · have : (goT T k).getD j sl0 = T.getD j sl0 := by
        unfold goT
        rw [List.getD_eq_getElem?_getD, List.getElem?_set_ne (show ¬ k = j from q), ← List.getD_eq_getElem?_getD]
      rw [this]
      exact j2
theorem goL_mem {P : slT → Prop} (hP : ∀ s, P s → P (goS s)) : ∀ (G : List Nat) (T : List slT), (∀ s ∈ T, P s) → (∀ k ∈ G, k < T.length) → ∀ s ∈ goL T G, P s := by
  intro G
  induction G with
  | nil => intro T h _; exact h
  | cons k G ih =>
    intro T h hG
    refine ih (goT T k) (fun s hs => ?_) (fun j hj => by rw [goT_len]; exact hG j (List.mem_cons_of_mem _ hj))
    unfold goT at hs
    rcases List.mem_or_eq_of_mem_set hs with z | z
    · exact h s z
    · rw [z]; exact hP _ (h _ (T_at (hG k List.mem_cons_self)))
end OP
