/-! the two sides: what CLEANING keeps and what it doesn't add -/
def qV (k v : Int32) (p : pT) : Bool := decide (¬ kM (pKd p) = 0) && decide (pKy p = k) && decide (pVe p = v)
def cnS (q : pT → Bool) (s : slT) : Nat := (enS (lEn s)).countP q
def cnT (q : pT → Bool) (T : List slT) (x : Int32) : Nat := ((T.filter (lbX x)).map (cnS q)).sum
section CN
variable {T T' T2 : List slT} {x x' n : Int32} {A A' B : alT} {st : Nat → Int32} {k e i j N U rep nm m up c : Nat} {s s' : slT} {q : pT → Bool} {l : List pT} {p : pT} {G : List Nat}
theorem qV_t {k v : Int32} : qV k v p = true ↔ ¬ kM (pKd p) = 0 ∧ pKy p = k ∧ pVe p = v := by
  unfold qV
  rw [Bool.and_eq_true, Bool.and_eq_true, decide_eq_true_eq, decide_eq_true_eq, decide_eq_true_eq]
  exact ⟨fun h => ⟨h.1.1, h.1.2, h.2⟩, fun h => ⟨⟨h.1, h.2.1⟩, h.2.2⟩⟩
theorem UQ_c : UQ l ↔ (∀ k v, l.countP (qV k v) ≤ 1) ∧ ∀ c n, l.countP (resA c n) ≤ 1 := by
  induction l with
  | nil => exact ⟨fun _ => ⟨fun _ _ => Nat.zero_le _, fun _ _ => Nat.zero_le _⟩, fun _ => List.Pairwise.nil⟩
  | cons a l ih =>
    unfold UQ at ih ⊢
    rw [List.pairwise_cons, ih]
    constructor
    · intro ⟨h1, h2, h3⟩
      refine ⟨fun k v => ?_, fun c n => ?_⟩
      · rw [List.countP_cons]
        by_cases qa : qV k v a = true
        · have : l.countP (qV k v) = 0 := List.countP_eq_zero.mpr (fun b hb qb => (h1 b hb).1 ⟨(qV_t.mp qa).1, (qV_t.mp qb).1, (qV_t.mp qa).2.1.trans (qV_t.mp qb).2.1.symm, (qV_t.mp qa).2.2.trans (qV_t.mp qb).2.2.symm⟩)
          rw [this, if_pos qa]; exact Nat.le_refl _
        · rw [if_neg qa]; exact h2 k v
      · rw [List.countP_cons]
        by_cases qa : resA c n a = true
        · have : l.countP (resA c n) = 0 := List.countP_eq_zero.mpr (fun b hb qb => (h1 b hb).2 ⟨(resA_t.mp qa).1, (resA_t.mp qb).1, (resA_t.mp qa).2.1.trans (resA_t.mp qb).2.1.symm, (resA_t.mp qa).2.2.trans (resA_t.mp qb).2.2.symm⟩)
          rw [this, if_pos qa]; exact Nat.le_refl _
        · rw [if_neg qa]; exact h3 c n
    · intro ⟨h2, h3⟩
      refine ⟨fun b hb => ⟨fun z => ?_, fun z => ?_⟩, fun k v => ?_, fun c n => ?_⟩
      · have := h2 (pKy a) (pVe a)
        rw [List.countP_cons, if_pos (qV_t.mpr ⟨z.1, rfl, rfl⟩)] at this
        have pos := List.countP_pos_iff.mpr ⟨b, hb, qV_t.mpr ⟨z.2.1, z.2.2.1.symm, z.2.2.2.symm⟩⟩
        omega
      · have := h3 (pCl a) (pNu a)
        rw [List.countP_cons, if_pos (resA_t.mpr ⟨z.1, rfl, rfl⟩)] at this
        have pos := List.countP_pos_iff.mpr ⟨b, hb, resA_t.mpr ⟨z.2.1, z.2.2.1.symm, z.2.2.2.symm⟩⟩
        omega
      · have := h2 k v
        rw [List.countP_cons] at this
        omega
      · have := h3 c n
        rw [List.countP_cons] at this
        omega
theorem cnt_fm {α : Type} (f : α → List pT) : ∀ (L : List α), (L.flatMap f).countP q = (L.map (fun a => (f a).countP q)).sum := by
  intro L
  induction L with
  | nil => rfl
  | cons a L ih => rw [List.flatMap_cons, List.countP_append, ih, List.map_cons, List.sum_cons]
theorem LgR.cn (r : LgR T x A) : (allP A).countP q = cnT q T x := by
  unfold allP cnT
  rw [← List.flatMap_def, (r.1.symm.flatMap_right (fun u : agT => u.2.1)).countP_eq, cnt_fm, List.map_map]
  rfl
theorem cn_perm {F F' : List slT} (h : F.Perm F') : (F.map (cnS q)).sum = (F'.map (cnS q)).sum := (h.map _).sum_nat
theorem cn_set (hk : k < T.length) (l1 : lLg (T.getD k sl0) = x) (l2 : ¬ lLg s = x) : cnT q (T.set k s) x + cnS q (T.getD k sl0) = cnT q T x := by
  obtain ⟨e1, e2⟩ := er_perm sl0 T k hk
  have p1 := e1.filter (lbX x)
  have p2 := (e2 s).filter (lbX x)
  rw [lb_y l1] at p1
  rw [lb_n l2] at p2
  unfold cnT
  rw [cn_perm p1, cn_perm p2, List.map_cons, List.sum_cons]
  omega
theorem cn_nw (hx : ¬ x = 99) (l : lLg s = x) : cnT q (nwT T s) x = cnS q s + cnT q T x := by
  have p := nw_fil (T := T) (s := s) hx
  rw [lb_y l] at p
  unfold cnT
  rw [cn_perm p, List.map_cons, List.sum_cons]
theorem cn_goL (hx : ¬ x = 99) : ∀ (G : List Nat) (T : List slT), G.Nodup → (∀ k ∈ G, k < T.length ∧ lLg (T.getD k sl0) = x) → cnT q (goL T G) x + (G.map (fun k => cnS q (T.getD k sl0))).sum = cnT q T x := by
  intro G
  induction G with
  | nil => intro T _ _; rfl
  | cons k G ih =>
    intro T nd hG
    rw [List.nodup_cons] at nd
    obtain ⟨k1, k2⟩ := hG k List.mem_cons_self
    have oth : ∀ j ∈ G, (goT T k).getD j sl0 = T.getD j sl0 := fun j hj => by
      unfold goT
      rw [List.getD_eq_getElem?_getD, List.getElem?_set_ne (show ¬ k = j from fun z => nd.1 (by rw [z]; exact hj)), ← List.getD_eq_getElem?_getD]
    have := ih (goT T k) nd.2 (fun j hj => by
      rw [oth j hj, goT_len]
      exact hG j (List.mem_cons_of_mem _ hj))
    have e : G.map (fun k' => cnS q ((goT T k).getD k' sl0)) = G.map (fun k => cnS q (T.getD k sl0)) := List.map_congr_left (fun j hj => by rw [oth j hj])
    rw [e] at this
    have c1 := cn_set (q := q) (s := goS (T.getD k sl0)) k1 k2 (fun z => hx (Eq.symm z))
    rw [List.map_cons, List.sum_cons]
    show cnT q (goL (goT T k) G) x + _ = _
    have c1 : cnT q (goT T k) x + cnS q (T.getD k sl0) = cnT q T x := c1
    omega
theorem li1_le : (liP st T k).countP q ≤ cnS q (T.getD k sl0) := by
  unfold liP cnS enS
  have : ∀ n, n ≤ (lEn (T.getD k sl0)).length → ((List.range n).flatMap (liE st T k)).countP q ≤ (((lEn (T.getD k sl0)).take n).flatMap enP).countP q := by
    intro n
    induction n with
    | zero => intro _; exact Nat.zero_le _
    | succ n ih =>
      intro hn
      have i1 := ih (by omega)
      rw [List.range_succ, List.flatMap_append, List.countP_append, List.take_succ_eq_append_getElem hn, List.flatMap_append, List.countP_append]
      have : ([n].flatMap (liE st T k)).countP q ≤ ([(lEn (T.getD k sl0))[n]].flatMap enP).countP q := by
        show (liE st T k n ++ []).countP q ≤ (enP _ ++ []).countP q
        rw [List.append_nil, List.append_nil]
        refine List.Sublist.countP_le ?_
        unfold liE li1 enP
        rw [at_E hn]
        show List.Sublist _ ([(lEn (T.getD k sl0))[n].1] ++ (lEn (T.getD k sl0))[n].2.toList)
        refine List.Sublist.append ?_ ?_
        · split
          · exact List.nil_sublist _
          · exact List.Sublist.refl _
        · split
          · exact List.nil_sublist _
          · exact List.Sublist.refl _
      omega
  have := this _ (Nat.le_refl _)
  rw [List.take_length] at this
  exact this
theorem sum_le {α : Type} {f g : α → Nat} : ∀ (L : List α), (∀ a ∈ L, f a ≤ g a) → (L.map f).sum ≤ (L.map g).sum := by
  intro L
  induction L with
  | nil => intro _; exact Nat.le_refl _
  | cons a L ih =>
    intro h
    rw [List.map_cons, List.map_cons, List.sum_cons, List.sum_cons]
    have := h a List.mem_cons_self
    have := ih (fun a ha => h a (List.mem_cons_of_mem _ ha))
    omega
theorem cn_cln (r : LgR T (nI m) A) (nb : NB T) (h4 : 4 ≤ N) (h8 : N ≤ 8) (hm : m < N) (hrep : rep ≤ 3) : cnT q (clnM st N U rep nm m T).1 (nI m) ≤ cnT q T (nI m) := by
  obtain ⟨g1, g2⟩ := clG_p (st := st) r nb
  have h99 : ¬ nI m = 99 := nI_9 (by omega)
  unfold clnM clnT
  generalize clG st T (nI m) (chL T (nI m)) = G at g1 g2
  have c1 := cn_goL (q := q) h99 (G.take (mZ st T G)) T (g1.sublist (List.take_sublist _ _)) (fun k hk => ⟨(g2 k (List.mem_of_mem_take hk)).1, (g2 k (List.mem_of_mem_take hk)).2.1⟩)
  split
  · show cnT q (goL (nwT (goL T (G.take (mZ st T G))) (((mPk st T U G).flatMap (liP st T)).foldl cmP (nI m, nm, false, [], nsM st N rep nm m (N - 1)))) (mPk st T U G)) (nI m) ≤ _
    obtain ⟨s1, s2, s3⟩ := ns_p (st := st) (rep := rep) (nm := nm) h4 h8 hm
    have ea := (pk_ag (x := nI m) (nm := nm) (ps := (mPk st T U G).flatMap (liP st T)) (hs := nsM st N rep nm m (N - 1)) (by omega) (fun x hx => (s2 x hx).1)).1
    have lN : lLg (((mPk st T U G).flatMap (liP st T)).foldl cmP (nI m, nm, false, [], nsM st N rep nm m (N - 1))) = nI m := by rw [ea]; rfl
    have cN : cnS q (((mPk st T U G).flatMap (liP st T)).foldl cmP (nI m, nm, false, [], nsM st N rep nm m (N - 1))) = ((mPk st T U G).map (fun k => (liP st T k).countP q)).sum := by
      rw [ea]
      unfold cnS
      show (enS (((mPk st T U G).flatMap (liP st T)).map (fun p => (p, none)))).countP q = _
      rw [enS_1, cnt_fm]
    generalize (((mPk st T U G).flatMap (liP st T)).foldl cmP (nI m, nm, false, [], nsM st N rep nm m (N - 1))) = sN at lN cN
    have at2 : ∀ k ∈ mPk st T U G, k < (nwT (goL T (G.take (mZ st T G))) sN).length ∧ (nwT (goL T (G.take (mZ st T G))) sN).getD k sl0 = T.getD k sl0 ∧ lLg (T.getD k sl0) = nI m := fun k hk => by
      have hd := pk_mem k hk
      have kG := List.mem_of_mem_drop hd
      have nt : ¬ k ∈ G.take (mZ st T G) := fun z => by
        have nd := g1
        rw [← List.take_append_drop (mZ st T G) G] at nd
        exact (List.nodup_append.mp nd).2.2 k z k hd rfl
      have e1 := goL_oth (k := k) (G.take (mZ st T G)) T nt
      have l1 : k < (goL T (G.take (mZ st T G))).length := by rw [goL_len]; exact (g2 k kG).1
      have ne : ¬ k = nwI (goL T (G.take (mZ st T G))) := fun z => by
        have := nw_at (T := goL T (G.take (mZ st T G))) (by rw [← z]; exact l1)
        rw [← z, e1, (g2 k kG).2.1] at this
        exact h99 this
      obtain ⟨b1, b2⟩ := nwT_in l1 ne sN
      exact ⟨b1, b2.trans e1, (g2 k kG).2.1⟩
    have ndP : (mPk st T U G).Nodup := by
      unfold mPk
      exact (g1.sublist (List.drop_sublist _ _)).sublist (List.take_sublist _ _)
    have c2 := cn_goL (q := q) h99 (mPk st T U G) (nwT (goL T (G.take (mZ st T G))) sN) ndP (fun k hk => ⟨(at2 k hk).1, by rw [(at2 k hk).2.1]; exact (at2 k hk).2.2⟩)
    have e : (mPk st T U G).map (fun k => cnS q ((nwT (goL T (G.take (mZ st T G))) sN).getD k sl0)) = (mPk st T U G).map (fun k => cnS q (T.getD k sl0)) := List.map_congr_left (fun k hk => by rw [(at2 k hk).2.1])
    rw [e, cn_nw h99 lN, cN] at c2
    have le := sum_le (f := fun k => (liP st T k).countP q) (g := fun k => cnS q (T.getD k sl0)) (mPk st T U G) (fun k _ => li1_le)
    omega
  · show cnT q (goL T (G.take (mZ st T G))) (nI m) ≤ _
    omega
end CN
