/-! the two sides: CLEANING keeps what is LIVE -/
section KP
variable {T T' T2 : List slT} {x x' n : Int32} {A A' B : alT} {st : Nat → Int32} {k e i j N U rep nm m up : Nat} {s s' : slT} {ps l1 l2 : List pT} {nms : List Nat} {p : pT} {G : List Nat} {c a ky : Int32}
theorem li_0 (l16 : (lEn (T.getD k sl0)).length ≤ 16) (h : lvuT st T k = 0) : liP st T k = [] := by
  obtain ⟨u, u1, u2, u3⟩ := lvu_n (st := st) (T := T) (k := k) (List.range (lEn (T.getD k sl0)).length) 0
  rw [List.length_range] at u3
  have e : lvuT st T k = nI u := by rw [← u1]; rfl
  rw [e] at h
  have u0 : u = 0 := nI_inj (by omega) (by omega) (h.trans nI_0.symm)
  have : (liP st T k).length ≤ 0 := by
    unfold liP
    omega
  exact List.eq_nil_of_length_eq_zero (by omega)
theorem cln_keep (r : LgR T (nI m) A) (nb : NB T) (h4 : 4 ≤ N) (h8 : N ≤ 8) (hm : m < N) (hrep : rep ≤ 3) (l16 : ∀ s ∈ T, (lEn s).length ≤ 16) (hk : k < T.length) (hl : lLg (T.getD k sl0) = nI m) (hp : p ∈ liP st T k) : ∃ s ∈ (clnM st N U rep nm m T).1, lLg s = nI m ∧ p ∈ enS (lEn s) := by
  obtain ⟨g1, g2⟩ := clG_p (st := st) r nb
  have h99 : ¬ nI m = 99 := nI_9 (by omega)
  have pE := liP_mem hp
  unfold clnM clnT
  generalize clG st T (nI m) (chL T (nI m)) = G at g1 g2
  have nz : ¬ k ∈ G.take (mZ st T G) := fun z => by
    obtain ⟨j, j1, j2⟩ := List.mem_take_iff_getElem.mp z
    have jG : j < G.length := by omega
    have := zN_z (G.map (cM st T)) j (by rw [List.length_map]; exact jG) (by unfold mZ at j1; omega)
    rw [List.getElem_map, j2] at this
    have := li_0 (l16 _ (T_at hk)) this
    rw [this] at hp
    cases hp
  have e1 := goL_oth (k := k) (G.take (mZ st T G)) T nz
  have l1 : k < (goL T (G.take (mZ st T G))).length := by rw [goL_len]; exact hk
  split
  · show ∃ s ∈ goL (nwT (goL T (G.take (mZ st T G))) (((mPk st T U G).flatMap (liP st T)).foldl cmP (nI m, nm, false, [], nsM st N rep nm m (N - 1)))) (mPk st T U G), lLg s = nI m ∧ p ∈ enS (lEn s)
    obtain ⟨s1, s2, s3⟩ := ns_p (st := st) (rep := rep) (nm := nm) h4 h8 hm
    have ea := (pk_ag (x := nI m) (nm := nm) (ps := (mPk st T U G).flatMap (liP st T)) (hs := nsM st N rep nm m (N - 1)) (by omega) (fun x hx => (s2 x hx).1)).1
    have lN : lLg (((mPk st T U G).flatMap (liP st T)).foldl cmP (nI m, nm, false, [], nsM st N rep nm m (N - 1))) = nI m := by rw [ea]; rfl
    have cN : enS (lEn (((mPk st T U G).flatMap (liP st T)).foldl cmP (nI m, nm, false, [], nsM st N rep nm m (N - 1)))) = (mPk st T U G).flatMap (liP st T) := by
      rw [ea]
      show enS (((mPk st T U G).flatMap (liP st T)).map (fun p => (p, none))) = _
      rw [enS_1]
    generalize (((mPk st T U G).flatMap (liP st T)).foldl cmP (nI m, nm, false, [], nsM st N rep nm m (N - 1))) = sN at lN cN
    have nwne : ∀ j ∈ G.drop (mZ st T G), ¬ j = nwI (goL T (G.take (mZ st T G))) := fun j hd z => by
      have jG := List.mem_of_mem_drop hd
      have nt : ¬ j ∈ G.take (mZ st T G) := fun z => by
        have nd := g1
        rw [← List.take_append_drop (mZ st T G) G] at nd
        exact (List.nodup_append.mp nd).2.2 j z j hd rfl
      have e1 := goL_oth (k := j) (G.take (mZ st T G)) T nt
      have := nw_at (T := goL T (G.take (mZ st T G))) (by rw [← z, goL_len]; exact (g2 j jG).1)
      rw [← z, e1, (g2 j jG).2.1] at this
      exact h99 this
    by_cases q : k ∈ mPk st T U G
    · have lt := nwT_len (goL T (G.take (mZ st T G))) sN
      have e2 := goL_oth (k := nwI (goL T (G.take (mZ st T G)))) (mPk st T U G) (nwT (goL T (G.take (mZ st T G))) sN) (fun z => nwne _ (pk_mem _ z) rfl)
      rw [lt.2] at e2
      have hm := T_at (T := goL (nwT (goL T (G.take (mZ st T G))) sN) (mPk st T U G)) (k := nwI (goL T (G.take (mZ st T G)))) (by rw [goL_len]; exact lt.1)
      rw [e2] at hm
      exact ⟨sN, hm, lN, by rw [cN]; exact List.mem_flatMap.mpr ⟨k, q, hp⟩⟩
    · have ne : ¬ k = nwI (goL T (G.take (mZ st T G))) := fun z => by
        have := nw_at (T := goL T (G.take (mZ st T G))) (by rw [← z]; exact l1)
        rw [← z, e1, hl] at this
        exact h99 this
      obtain ⟨b1, b2⟩ := nwT_in l1 ne sN
      have e2 := goL_oth (k := k) (mPk st T U G) (nwT (goL T (G.take (mZ st T G))) sN) q
      rw [b2, e1] at e2
      refine ⟨T.getD k sl0, ?_, hl, pE⟩
      rw [← e2]
      exact T_at (by rw [goL_len]; exact b1)
  · refine ⟨T.getD k sl0, ?_, hl, pE⟩
    show _ ∈ goL T (G.take (mZ st T G))
    rw [← e1]
    exact T_at l1
theorem crB_F : ∀ (A : List agT) (l1 : List pT), (crB ps nms l1 A).flatMap (·.2.2) = lvF ps nms l1 (A.map (·.2.1)).flatten := by
  intro A
  induction A with
  | nil => intro l1; rfl
  | cons u A ih =>
    intro l1
    show _ ++ (crB ps nms (l1 ++ u.2.1) A).flatMap (·.2.2) = _
    rw [ih, List.map_cons, List.flatten_cons, lvF_app]
theorem lvF_in (h : ¬ liveS ps nms l1 p = 0) : p ∈ lvF ps nms [] (l1 ++ p :: l2) := by
  rw [lvF_app]
  refine List.mem_append_right _ ?_
  rw [List.nil_append]
  show p ∈ (if liveS ps nms l1 p = 0 then [] else [p]) ++ _
  rw [if_neg h]
  exact List.mem_append_left _ List.mem_cons_self
/-- what is LIVE in a LOG is there afterwards -/
theorem keep_A (r : LgR T (nI m) A) (r' : LgR (clnM st N U rep nm m T).1 (nI m) A') (ho : HOl T) (nb : NB T) (ev : EVT T) (h4 : 4 ≤ N) (h8 : N ≤ 8) (hm : m < N) (hrep : rep ≤ 3) (l16 : ∀ s ∈ T, (lEn s).length ≤ 16) (e : allP A = l1 ++ p :: l2) (h : ¬ liveS (allP A) (A.1.map (·.1)) l1 p = 0) : p ∈ allP A' := by
  have hx : nI m < 16 := by
    rw [show (16 : Int32) = nI 16 from rfl]
    exact nI_lt (by omega) (by decide)
  have pin := lvF_in (l2 := l2) h
  rw [← e] at pin
  have cf := crB_F (ps := allP A) (nms := A.1.map (·.1)) A.1 []
  have pin' : p ∈ lvF (allP A) (A.1.map (·.1)) [] (A.1.map (·.2.1)).flatten := pin
  rw [← cf, ← ch_cM (st := st) r ho nb ev hx] at pin'
  obtain ⟨c, c1, c2⟩ := List.mem_flatMap.mp pin'
  obtain ⟨k, k1, k2⟩ := List.mem_map.mp c1
  subst k2
  obtain ⟨j1, j2⟩ := (chL_A r nb).2 k k1
  obtain ⟨s, s1, s2, s3⟩ := cln_keep (st := st) (U := U) (nm := nm) r nb h4 h8 hm hrep l16 j1 j2 c2
  exact allP_mem.mpr ⟨agS s, r'.mem (List.mem_filter.mpr ⟨s1, decide_eq_true s2⟩), s3⟩
theorem ack_at : ∀ (ps : List pT) (z : Int32), ps.foldl (ackG c) z = z ∨ ∃ p ∈ ps, ¬ kT (pKd p) = 0 ∧ pCl p = c ∧ pAc p = ps.foldl (ackG c) z := by
  intro ps
  induction ps with
  | nil => intro z; exact Or.inl rfl
  | cons a ps ih =>
    intro z
    rw [List.foldl_cons]
    rcases ih (ackG c z a) with h | ⟨p, p1, p2⟩
    · rw [h]
      unfold ackG
      by_cases q1 : kT (pKd a) = 0
      · rw [if_pos q1]; exact Or.inl rfl
      · rw [if_neg q1]
        by_cases q2 : pCl a = c
        · rw [if_neg (show ¬ ¬ pCl a = c from fun z => z q2)]
          by_cases q3 : pAc a ≤ z
          · rw [if_pos q3]; exact Or.inl rfl
          · rw [if_neg q3]; exact Or.inr ⟨a, List.mem_cons_self, q1, q2, rfl⟩
        · rw [if_pos q2]; exact Or.inl rfl
    · exact Or.inr ⟨p, List.mem_cons_of_mem _ p1, p2⟩
theorem ack_le {v : Int32} (h1 : (1 : Int32) ≤ v) (h : ∀ p ∈ ps, ¬ kT (pKd p) = 0 → pCl p = c → pAc p ≤ v) : ackA ps c ≤ v := by
  rcases ack_at (c := c) ps 1 with e | ⟨p, p1, p2, p3, p4⟩
  · unfold ackA; rw [e]; exact h1
  · unfold ackA; rw [← p4]; exact h p p1 p2 p3
theorem ack_1 : (1 : Int32) ≤ ackA ps c := (ackF_ge ps 1).1
theorem any_spl {f : pT → Bool} : ∀ {l : List pT}, l.any f = true → ∃ l1 p l2, l = l1 ++ p :: l2 ∧ f p = true ∧ l1.any f = false := by
  intro l
  induction l with
  | nil => intro h; cases h
  | cons a l ih =>
    intro h
    cases e : f a with
    | true => exact ⟨[], a, l, rfl, e, rfl⟩
    | false =>
      rw [List.any_cons, e, Bool.false_or] at h
      obtain ⟨l1, p, l2, h1, h2, h3⟩ := ih h
      exact ⟨a :: l1, p, l2, by rw [h1]; rfl, h2, by rw [List.any_cons, e, h3]; rfl⟩
/-- RESULTS have no number below their ACKED -/
def AN (ps : List pT) : Prop := ∀ p ∈ ps, pKd p = 4 → pAc p ≤ pNu p
theorem keep_ack (r : LgR T (nI m) A) (r' : LgR (clnM st N U rep nm m T).1 (nI m) A') (ho : HOl T) (nb : NB T) (ev : EVT T) (h4 : 4 ≤ N) (h8 : N ≤ 8) (hm : m < N) (hrep : rep ≤ 3) (l16 : ∀ s ∈ T, (lEn s).length ≤ 16) (an : AN (allP A)) (sub : ∀ p ∈ allP A', p ∈ allP A) : ackA (allP A') c = ackA (allP A) c := by
  refine Int32.le_antisymm (ack_le ack_1 (fun p hp k1 k2 => ackA_ge (sub p hp) k1 k2)) ?_
  rcases ack_at (c := c) (allP A) 1 with e | ⟨p, p1, p2, p3, p4⟩
  · show (allP A).foldl (ackG c) 1 ≤ _
    rw [e]; exact ack_1
  · have p4 : pAc p = ackA (allP A) c := p4
    have fin : ∀ q, q ∈ allP A' → ¬ kT (pKd q) = 0 → pCl q = c → pAc q = ackA (allP A) c → ackA (allP A) c ≤ ackA (allP A') c := fun q h1 h2 h3 h4 => by rw [← h4]; exact ackA_ge h1 h2 h3
    cases er : (allP A).any (ntQ 4 c (ackA (allP A) c)) with
    | true =>
      obtain ⟨l1, q, l2, q1, q2, q3⟩ := any_spl er
      obtain ⟨t1, t2, t3⟩ := ntQ_t.mp q2
      have qm : q ∈ allP A := by rw [q1]; exact List.mem_append_right _ List.mem_cons_self
      refine fin q (keep_A r r' ho nb ev h4 h8 hm hrep l16 q1 ?_) (kT_4 t1) t2 t3
      unfold liveS
      rw [if_neg (by rw [t1]; decide), if_neg (by rw [t1]; decide), if_pos t1, t2, if_neg (fun z => ?_)]
      · decide
      · have := an q qm t1
        rw [t3] at this
        exact Int32.not_lt.mpr this z
    | false =>
      have k1 : pKd p = 1 := by
        rcases Decidable.not_not.mp (fun z => p2 (kT_n.mpr z)) with z | z
        · have := List.any_eq_false.mp er p p1
          exact absurd (ntQ_t.mpr ⟨z, p3, p4⟩) this
        · exact z
      have en : (allP A).any (ntQ 1 c (ackA (allP A) c)) = true := List.any_eq_true.mpr ⟨p, p1, ntQ_t.mpr ⟨k1, p3, p4⟩⟩
      obtain ⟨l1, q, l2, q1, q2, q3⟩ := any_spl en
      obtain ⟨t1, t2, t3⟩ := ntQ_t.mp q2
      refine fin q (keep_A r r' ho nb ev h4 h8 hm hrep l16 q1 ?_) (kT_1 t1) t2 t3
      unfold liveS
      rw [if_neg (by rw [t1]; decide), if_neg (by rw [t1]; decide), if_neg (by rw [t1]; decide), if_neg (show ¬ ¬ pKd q = 1 from fun z => z t1), t2, if_neg (show ¬ ¬ pAc q = ackA (allP A) c from fun z => z t3), t3, er, q3]
      decide
theorem keep_ob (r : LgR T (nI m) A) (r' : LgR (clnM st N U rep nm m T).1 (nI m) A') (ho : HOl T) (nb : NB T) (ev : EVT T) (h4 : 4 ≤ N) (h8 : N ≤ 8) (hm : m < N) (hrep : rep ≤ 3) (l16 : ∀ s ∈ T, (lEn s).length ≤ 16) (hp : obS (allP A) ky = some p) : p ∈ allP A' := by
  unfold obS at hp
  have h1 := List.find?_some hp
  have h2 := List.mem_of_find?_eq_some hp
  obtain ⟨t1, t2, t3⟩ := obF_t.mp h1
  obtain ⟨l1, l2, e⟩ := List.append_of_mem h2
  refine keep_A r r' ho nb ev h4 h8 hm hrep l16 e ?_
  unfold liveS
  rw [if_pos t1, t2, if_pos t3]
  decide
end KP
