/-! the two sides: OPENING -/
/-- other LOGS' slots stay where they are -/
def KE (T T' : List slT) (x : Int32) : Prop := ∀ k, k < T.length → ¬ lLg (T.getD k sl0) = x → ¬ lLg (T.getD k sl0) = 99 → k < T'.length ∧ T'.getD k sl0 = T.getD k sl0
/-- PARTS in their ranges, names below the next -/
def LI (nm : Nat) (A : alT) : Prop := PKA A.1 ∧ ∀ u ∈ A.1, u.1 < nm
section OPN
variable {T T' T2 : List slT} {x x' c n xr lim : Int32} {A A' B : alT} {st : Nat → Int32} {k e i j N U rep nm m up : Nat} {s s' : slT} {hd : Option Nat} {y : Nat → Nat} {S S' : stA} {μ μ' : mT} {hs : List (Nat × Nat)}
theorem KE.tr (h1 : KE T T2 x) (h2 : KE T2 T' x) : KE T T' x := fun k hk n1 n2 => by
  obtain ⟨a1, a2⟩ := h1 k hk n1 n2
  obtain ⟨b1, b2⟩ := h2 k a1 (by rw [a2]; exact n1) (by rw [a2]; exact n2)
  exact ⟨b1, b2.trans a2⟩
theorem KE.set (hk : lLg (T.getD k sl0) = x) : KE T (T.set k s) x := fun j hj n1 _ => by
  have ne : ¬ k = j := fun z => n1 (by rw [← z]; exact hk)
  exact ⟨by rw [List.length_set]; exact hj, by rw [List.getD_eq_getElem?_getD, List.getElem?_set_ne ne, ← List.getD_eq_getElem?_getD]⟩
theorem KE.nw : KE T (nwT T s) x := fun j hj _ n2 => by
  have ne : ¬ j = nwI T := fun z => n2 (by rw [z]; exact nw_at (by rw [← z]; exact hj))
  exact nwT_in hj ne s
theorem KE.go {G : List Nat} (hG : ∀ k ∈ G, lLg (T.getD k sl0) = x) : KE T (goL T G) x := fun j hj n1 _ => by
  refine ⟨by rw [goL_len]; exact hj, goL_oth G T (fun z => n1 (hG j z))⟩
theorem cln_K (r : LgR T (nI m) A) (nb : NB T) (h9 : m < 9) : KE T (clnM st N U rep nm m T).1 (nI m) := by
  obtain ⟨g1, g2⟩ := clG_p (st := st) r nb
  unfold clnM clnT
  generalize clG st T (nI m) (chL T (nI m)) = G at g1 g2
  have k1 : KE T (goL T (G.take (mZ st T G))) (nI m) := KE.go (fun k hk => (g2 k (List.mem_of_mem_take hk)).2.1)
  split
  · show KE T (goL (nwT (goL T (G.take (mZ st T G))) (((mPk st T U G).flatMap (liP st T)).foldl cmP (nI m, nm, false, [], nsM st N rep nm m (N - 1)))) (mPk st T U G)) (nI m)
    generalize (((mPk st T U G).flatMap (liP st T)).foldl cmP (nI m, nm, false, [], nsM st N rep nm m (N - 1))) = sN
    refine (k1.tr (KE.nw (s := sN))).tr ?_
    refine KE.go (fun k hk => ?_)
    have hd := pk_mem k hk
    have kG := List.mem_of_mem_drop hd
    have nt : ¬ k ∈ G.take (mZ st T G) := fun z => by
      have nd := g1
      rw [← List.take_append_drop (mZ st T G) G] at nd
      exact (List.nodup_append.mp nd).2.2 k z k hd rfl
    have e1 := goL_oth (k := k) (G.take (mZ st T G)) T nt
    have l1 : k < (goL T (G.take (mZ st T G))).length := by rw [goL_len]; exact (g2 k kG).1
    have ne : ¬ k = nwI (goL T (G.take (mZ st T G))) := fun z => by
      have := nw_at (T := goL T (G.take (mZ st T G))) (by rw [← z]; exact l1)
      rw [← z, e1, (g2 k kG).2.1] at this
      exact nI_9 (by omega) this
    rw [(nwT_in l1 ne sN).2, e1]
    exact (g2 k kG).2.1
  · exact k1
theorem HdR.ke {ρ : Nat → Nat → Int32} {ν : Nat → Int32} (h : HdR μ j hd) (ke : KE μ.1 T' (nI i)) (hj : j < 8) (hi : i < 8) (ne : ¬ j = i) (hρ : ρ 10 j = μ.2.1 10 j) : HdR (T', ρ, ν) j hd := by
  rcases h with ⟨h1, h2⟩ | ⟨k, k1, k2, k3, k4⟩
  · exact Or.inl ⟨h1, hρ.trans h2⟩
  · obtain ⟨a1, a2⟩ := ke k k1 (fun z => ne (nI_inj (by omega) (by omega) (k3.symm.trans z))) (fun z => nI_9 (by omega) (k3.symm.trans z))
    exact Or.inr ⟨k, a1, hρ.trans k2, by show lLg (T'.getD k sl0) = _; rw [a2]; exact k3, by show _ = some (lNm (T'.getD k sl0)); rw [a2]; exact k4⟩
theorem LgR.len (r : LgR T x A) : sgN T x = A.1.length := by
  unfold sgN
  rw [fo_cnt, Nat.zero_add, List.countP_eq_length_filter, ← r.1.length_eq, List.length_map]
  rfl
theorem MR.upr (mr : MR y S μ) : UPR (μ.2.1 5) (y 20) (upN (tSv S)) := by
  obtain ⟨-, ⟨l1, -⟩, -, -, sv, -⟩ := mr
  refine ⟨by rw [← l1]; exact upN_lt _, fun i hi => ?_⟩
  rw [upN_bit _ i (by omega), (sv i hi).1.1]
theorem MR.nmE (mr : MR y S μ) : nmM μ = tNm S := by
  obtain ⟨-, ⟨-, -, -, l4⟩, ⟨-, n2, -⟩, -⟩ := mr
  unfold nmM
  rw [n2]
  exact nI_clamp (by omega)
/-- OPENING's first half -/
theorem opn2_R (mr : MR y S μ) (hi : i < y 20) (li : LI (tNm S) (sLg ((tSv S).getD i sr0))) : LgR (opn2 y μ i).1 (nI i) ((opn1 (y 20) (y 22) (y 21) (y 23) (nI (upN (tSv S))) (tNm S) i (sLg ((tSv S).getD i sr0))).1, hd, (sLg ((tSv S).getD i sr0)).2.2) ∧ (∀ x' B, ¬ x' = nI i → ¬ x' = 99 → LgR μ.1 x' B → LgR (opn2 y μ i).1 x' B) ∧ (∀ s ∈ (opn2 y μ i).1, SP (y 20) s) ∧ (∀ s ∈ (opn2 y μ i).1, lLg s = nI i ∨ LBl y μ (tDe S).length s) ∧ KE μ.1 (opn2 y μ i).1 (nI i) ∧ (opn2 y μ i).2.1 = (uR μ 10 i (-1)).2.1 ∧ (opn2 y μ i).2.2 16 = nI (opn1 (y 20) (y 22) (y 21) (y 23) (nI (upN (tSv S))) (tNm S) i (sLg ((tSv S).getD i sr0))).2.1 ∧ (opn2 y μ i).2.2 17 = tCl S + (opn1 (y 20) (y 22) (y 21) (y 23) (nI (upN (tSv S))) (tNm S) i (sLg ((tSv S).getD i sr0))).2.2 ∧ (∀ k, ¬ k = 16 → ¬ k = 17 → (opn2 y μ i).2.2 k = μ.2.2 k) ∧ (∀ u ∈ (opn1 (y 20) (y 22) (y 21) (y 23) (nI (upN (tSv S))) (tNm S) i (sLg ((tSv S).getD i sr0))).1, u.1 < (opn1 (y 20) (y 22) (y 21) (y 23) (nI (upN (tSv S))) (tNm S) i (sLg ((tSv S).getD i sr0))).2.1) ∧ (opn1 (y 20) (y 22) (y 21) (y 23) (nI (upN (tSv S))) (tNm S) i (sLg ((tSv S).getD i sr0))).2.1 ≤ tNm S + 1 := by
  have up := mr.upr
  have enm := mr.nmE
  obtain ⟨⟨k0, k1, k2, k3, k4⟩, ⟨l1, l2, l3, l4⟩, ⟨n1, n2, n3, n4, n5, n6, n7, n8⟩, ow, sv, de, dd, sp, lb⟩ := mr
  obtain ⟨a1, a2, a3, a4, a5⟩ := sv i hi
  obtain ⟨yo1, yo2, yo3, yo4⟩ := k0
  have len := a4.len
  unfold opn2 opn1
  rw [len]
  generalize sLg ((tSv S).getD i sr0) = A at *
  by_cases q : A.1.length < y 23 - 1
  · rw [if_pos q, if_neg (show ¬ y 23 - 1 ≤ A.1.length by omega)]
    exact ⟨a4, fun x' B _ _ r => r, sp, fun s hs => Or.inr (lb s hs), fun k hk _ _ => ⟨hk, rfl⟩, rfl, n2, by show μ.2.2 17 = tCl S + 0; rw [n3, Int32.add_zero], fun _ _ _ => rfl, li.2, Nat.le_succ _⟩
  · rw [if_neg q, if_pos (show y 23 - 1 ≤ A.1.length by omega)]
    have enm' : nmM (uR μ 10 i (-1)) = tNm S := enm
    have eR : clR y (uR μ 10 i (-1)) i = clnM (μ.2.1 5) (y 20) (y 22) (y 21) (tNm S) i μ.1 := by
      unfold clR
      rw [enm']
      rfl
    obtain ⟨⟨c1, c2, c3, c4, c5⟩, c6, c7⟩ := cln_R (hd := hd) (U := y 22) a4 (SP.ho sp) (SP.nb sp) (SP.ev sp) li.1 up yo1.1 yo1.2 hi yo2.2 li.2 (by omega)
    have pN : ∀ ps : List pT, ps.length ≤ 16 → (∀ p ∈ ps, ∃ s ∈ μ.1, lLg s = nI i ∧ p ∈ enS (lEn s)) → SP (y 20) (ps.foldl cmP (nI i, tNm S, false, [], nsM (μ.2.1 5) (y 20) (y 21) (tNm S) i (y 20 - 1))) := fun ps hl hps => by
      obtain ⟨s1, s2, s3⟩ := ns_p (st := μ.2.1 5) (rep := y 21) (nm := tNm S) yo1.1 yo1.2 hi
      rw [(pk_ag (by omega) (fun x hx => (s2 x hx).1)).1]
      exact SP.new yo1.1 yo1.2 hi yo2.2 (by omega) hl (fun p hp => by
        obtain ⟨s, q1, -, q2⟩ := hps p hp
        exact (sp s q1).2.2.1.2 p q2)
    have sp' := cln_P (U := y 22) (P := SP (y 20)) (fun s => SP.go) yo3.2 (fun s hs => (sp s hs).2.2.2.2.2) pN sp a4 (SP.nb sp)
    have lb' := cln_P (U := y 22) (st := μ.2.1 5) (N := y 20) (rep := y 21) (nm := tNm S) (P := fun s => lLg s = nI i ∨ LBl y μ (tDe S).length s) (fun s _ => Or.inr (Or.inl rfl)) yo3.2 (fun s hs => (sp s hs).2.2.2.2.2) (fun ps _ _ => by
      obtain ⟨s1, s2, s3⟩ := ns_p (st := μ.2.1 5) (rep := y 21) (nm := tNm S) yo1.1 yo1.2 hi
      rw [(pk_ag (by omega) (fun x hx => (s2 x hx).1)).1]
      exact Or.inl rfl) (fun s hs => Or.inr (lb s hs)) a4 (SP.nb sp)
    have ke := cln_K (st := μ.2.1 5) (N := y 20) (U := y 22) (rep := y 21) (nm := tNm S) a4 (SP.nb sp) (by omega)
    rw [show clMu y (uR μ 10 i (-1)) i = uN (uN (uT (uR μ 10 i (-1)) (clR y (uR μ 10 i (-1)) i).1) 16 (nI (clR y (uR μ 10 i (-1)) i).2.1)) 17 (μ.2.2 17 + nI (clR y (uR μ 10 i (-1)) i).2.2) from rfl, eR]
    refine ⟨c1, c2, sp', lb', ke, rfl, ?_, ?_, fun k q1 q2 => ?_, ?_, ?_⟩
    · show nI (clnM (μ.2.1 5) (y 20) (y 22) (y 21) (tNm S) i μ.1).2.1 = _
      rw [c6]
    · show μ.2.2 17 + nI (clnM (μ.2.1 5) (y 20) (y 22) (y 21) (tNm S) i μ.1).2.2 = _
      rw [c7, n3]
    · show (if k = 17 then _ else if k = 16 then _ else μ.2.2 k) = μ.2.2 k
      rw [if_neg q2, if_neg q1]
    · unfold clnA
      split
      · intro u hu
        rcases List.mem_append.mp hu with z | z
        · exact Nat.lt_succ_of_lt (li.2 u (List.mem_filter.mp z).1)
        · rw [List.mem_singleton.mp z]
          exact Nat.lt_succ_self _
      · intro u hu
        exact li.2 u (List.mem_filter.mp hu).1
    · unfold clnA
      split
      · exact Nat.le_refl _
      · exact Nat.le_succ _
end OPN
