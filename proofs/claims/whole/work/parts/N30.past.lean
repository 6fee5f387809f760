/-! the two sides: what is read of a DEAD LOG -/
def RNp (p : pT) : Prop := pKd p = 4 → ∃ c n, c < 6 ∧ 1 ≤ n ∧ n ≤ 40 ∧ pCl p = nI c ∧ pNu p = nI n
section PS
variable {T T' T2 : List slT} {x x' v : Int32} {A A' B : alT} {st : Nat → Int32} {k e i j N U rep nm m c n up : Nat} {s s' : slT} {p : pT} {l rd : List pT} {ky : Int32}
theorem mst_ge : ∀ (hs : List (Nat × Nat)) (b : Nat), b ≤ hs.foldl (mstU st) b ∧ ∀ w ∈ hs, st w.1 = 0 → w.2 ≤ hs.foldl (mstU st) b := by
  intro hs
  induction hs with
  | nil => intro b; exact ⟨Nat.le_refl _, fun _ h => by cases h⟩
  | cons a hs ih =>
    intro b
    rw [List.foldl_cons]
    obtain ⟨i1, i2⟩ := ih (mstU st b a)
    have g : b ≤ mstU st b a ∧ (st a.1 = 0 → a.2 ≤ mstU st b a) := by
      unfold mstU
      by_cases q : st a.1 = 0 ∧ b < a.2
      · rw [if_pos q]; exact ⟨by omega, fun _ => Nat.le_refl _⟩
      · rw [if_neg q]
        refine ⟨Nat.le_refl _, fun w => ?_⟩
        rcases Nat.lt_or_ge b a.2 with u | u
        · exact absurd ⟨w, u⟩ q
        · exact u
    refine ⟨by omega, fun w hw h0 => ?_⟩
    rcases List.mem_cons.mp hw with z | z
    · subst z
      have := g.2 h0
      omega
    · exact i2 w z h0
theorem rdG_S (u : UPR st N up) (h8 : N ≤ 8) (sp : SP N s) : rdG (nI up) (agS s) = enS ((lEn s).take ((lHo s).foldl (mstU st) 0)) := by
  unfold rdG
  show (enS (lEn s)).take (match (lHo s).foldl (mostF (nI up)) 0 with | 0 => 0 | m + 1 => (endL 0 (lEn s)).getD m 0) = _
  rw [most_U u h8 _ _ sp.2.2.2.1.2.1]
  have le := mst_le (st := st) (m := (lEn s).length) (lHo s) 0 (Nat.zero_le _) sp.1
  cases e : (lHo s).foldl (mstU st) 0 with
  | zero => rw [List.take_zero, List.take_zero]; rfl
  | succ m =>
    rw [e] at le
    show (enS (lEn s)).take ((endL 0 (lEn s)).getD m 0) = _
    rw [endL_get _ _ _ (by omega), Nat.zero_add, enS_take]
theorem rd_P (r : LgR T x A) (hx : ¬ x < 16) (u : UPR st N up) (h8 : N ≤ 8) (sp : ∀ s ∈ T, SP N s) (hF : ∀ s ∈ T.filter (lbX x), ¬ A.2.2 = some (lNm s) → ∀ z ∈ lHo s, z.2 = (lEn s).length) (hU : ∀ s ∈ T.filter (lbX x), ∃ z ∈ lHo s, st z.1 = 0) : (rdQ st T x A.2.2).Perm (rdP (nI up) A) := by
  have e1 : rdQ st T x A.2.2 = ((T.filter (lbX x)).map agS).flatMap (rdG (nI up)) := by
    unfold rdQ
    rw [List.flatMap_map, List.flatMap_def, List.flatMap_def]
    congr 1
    refine List.map_congr_left (fun s hs => ?_)
    have sps := sp s (fl_mem (F := []) hs).1
    show enS ((lEn s).take (tSl st x A.2.2 s)) = rdG (nI up) (agS s)
    rw [rdG_S u h8 sps]
    congr 2
    unfold tSl
    rw [if_neg hx]
    by_cases q : A.2.2 = some (lNm s)
    · rw [if_neg (fun z => z q)]
    · rw [if_pos q]
      obtain ⟨w, w1, w2⟩ := hU s hs
      have e := hF s hs q w w1
      have g := (mst_ge (st := st) (lHo s) 0).2 w w1 w2
      have le := mst_le (st := st) (m := (lEn s).length) (lHo s) 0 (Nat.zero_le _) sps.1
      omega
  rw [e1]
  unfold rdP
  rw [← List.flatMap_def]
  exact r.1.flatMap_right _
theorem rd_sub {up : Int32} : (rdP up A).Sublist (allP A) := by
  unfold rdP allP
  induction A.1 with
  | nil => exact List.Sublist.refl _
  | cons a l ih =>
    rw [List.map_cons, List.map_cons, List.flatten_cons, List.flatten_cons]
    exact List.Sublist.append (List.take_sublist _ _) ih
theorem lrnO_p : ∀ (rd : List pT) (S : saT) (o : Nat → Option pT) (g : Int32), (rd.foldl lrnO (S, o, g)).1 = rd.foldl lrnA S ∧ (rd.foldl lrnO (S, o, g)).2.2 = rd.foldl grG g := by
  intro rd
  induction rd with
  | nil => intro S o g; exact ⟨rfl, rfl⟩
  | cons a rd ih => intro S o g; rw [List.foldl_cons, List.foldl_cons, List.foldl_cons]; exact ih _ _ _
theorem ps_gr : (psA rd).1 = rd.foldl grG 0 := (lrnO_p rd b0A (fun _ => none) 0).2
theorem ps_ac (pk : ∀ p ∈ rd, PK p) (hc : c < 6) : (psA rd).2.1 c = ackA rd (nI c) := by
  show (rd.foldl lrnO (b0A, fun _ => none, 0)).1.1 c = _
  rw [(lrnO_p rd b0A (fun _ => none) 0).1]
  exact ((lrn_all pk).1 c hc).1
theorem ver_at : ∀ (l : List pT) (w : Int32), l.foldl (verG ky) w = w ∨ ∃ p ∈ l, ¬ kM (pKd p) = 0 ∧ pKy p = ky ∧ pVe p = l.foldl (verG ky) w := by
  intro l
  induction l with
  | nil => intro w; exact Or.inl rfl
  | cons a l ih =>
    intro w
    rw [List.foldl_cons]
    rcases ih (verG ky w a) with h | ⟨p, p1, p2⟩
    · rw [h]
      unfold verG
      by_cases q1 : kM (pKd a) = 0
      · rw [if_pos q1]; exact Or.inl rfl
      · rw [if_neg q1]
        by_cases q2 : pKy a = ky
        · rw [if_neg (show ¬ ¬ pKy a = ky from fun z => z q2)]
          by_cases q3 : pVe a ≤ w
          · rw [if_pos q3]; exact Or.inl rfl
          · rw [if_neg q3]; exact Or.inr ⟨a, List.mem_cons_self, q1, q2, rfl⟩
        · rw [if_pos q2]; exact Or.inl rfl
    · exact Or.inr ⟨p, List.mem_cons_of_mem _ p1, p2⟩
theorem ob_app (uq : UQ (l ++ [p])) (v1 : vr1 (l ++ [p])) : obS (l ++ [p]) ky = if kM (pKd p) = 0 ∨ ¬ pKy p = ky ∨ pVe p ≤ verA l ky then obS l ky else if pKd p = 2 then some p else none := by
  unfold obS
  rw [verA_app, List.find?_append]
  have hp : p ∈ l ++ [p] := List.mem_append_right _ List.mem_cons_self
  by_cases q1 : kM (pKd p) = 0
  · rw [if_pos (Or.inl q1)]
    have e : verG ky (verA l ky) p = verA l ky := by unfold verG; rw [if_pos q1]
    have n : [p].find? (obF ky (verA l ky)) = none := List.find?_eq_none.mpr (fun w hw z => by
      rw [List.mem_singleton.mp hw] at z
      exact kM_2 (obF_t.mp z).1 q1)
    rw [e, n, Option.or_none]
  · by_cases q2 : pKy p = ky
    · by_cases q3 : pVe p ≤ verA l ky
      · rw [if_pos (Or.inr (Or.inr q3))]
        have e : verG ky (verA l ky) p = verA l ky := by unfold verG; rw [if_neg q1, if_neg (fun z => z q2), if_pos q3]
        have n : [p].find? (obF ky (verA l ky)) = none := List.find?_eq_none.mpr (fun w hw z => by
          rw [List.mem_singleton.mp hw] at z
          obtain ⟨z1, z2, z3⟩ := obF_t.mp z
          rcases ver_at (ky := ky) l 0 with h | ⟨a, a1, a2, a3, a4⟩
          · have h : verA l ky = 0 := h
            have := v1 p hp q1
            rw [z3, h] at this
            exact absurd this (by decide)
          · have := (List.pairwise_append.mp uq).2.2 a a1 p (List.mem_singleton.mpr rfl)
            exact this.1 ⟨a2, q1, a3.trans q2.symm, a4.trans z3.symm⟩)
        rw [e, n, Option.or_none]
      · rw [if_neg (show ¬ (kM (pKd p) = 0 ∨ ¬ pKy p = ky ∨ pVe p ≤ verA l ky) from fun z => z.elim q1 (fun z => z.elim (fun z => z q2) q3))]
        have e : verG ky (verA l ky) p = pVe p := by unfold verG; rw [if_neg q1, if_neg (fun z => z q2), if_neg q3]
        have n : l.find? (obF ky (pVe p)) = none := List.find?_eq_none.mpr (fun w hw z => by
          obtain ⟨z1, z2, z3⟩ := obF_t.mp z
          have := verA_ge (ky := ky) hw (kM_2 z1) z2
          rw [z3] at this
          exact q3 this)
        rw [e, n, Option.none_or, List.find?_cons]
        by_cases q4 : pKd p = 2
        · rw [if_pos q4, obF_t.mpr ⟨q4, q2, rfl⟩]
        · rw [if_neg q4]
          have : obF ky (pVe p) p = false := Bool.eq_false_iff.mpr (fun z => q4 (obF_t.mp z).1)
          rw [this]; rfl
    · rw [if_pos (Or.inr (Or.inl q2))]
      have e : verG ky (verA l ky) p = verA l ky := by unfold verG; rw [if_neg q1, if_pos q2]
      have n : [p].find? (obF ky (verA l ky)) = none := List.find?_eq_none.mpr (fun w hw z => by
        rw [List.mem_singleton.mp hw] at z
        exact q2 (obF_t.mp z).2.1)
      rw [e, n, Option.or_none]
theorem ps_ob (pk : ∀ p ∈ rd, PK p) (uq : UQ rd) (v1 : vr1 rd) (hk : k < 64) : (psA rd).2.2.1 k = obS rd (nI k) := by
  have : ∀ (rd l : List pT) (st : saT × (Nat → Option pT) × Int32), SJ l st.1 → st.2.1 k = obS l (nI k) → (∀ p ∈ rd, PK p) → UQ (l ++ rd) → vr1 (l ++ rd) → (rd.foldl lrnO st).2.1 k = obS (l ++ rd) (nI k) := by
    intro rd
    induction rd with
    | nil => intro l st _ h _ _ _; rw [List.append_nil]; exact h
    | cons p rd ih =>
      intro l st sj h pk uq v1
      have e : l ++ p :: rd = (l ++ [p]) ++ rd := by rw [List.append_assoc]; rfl
      rw [e] at uq v1 ⊢
      have uq' : UQ (l ++ [p]) := (List.pairwise_append.mp uq).1
      have v1' : vr1 (l ++ [p]) := fun w hw => v1 w (List.mem_append_left _ hw)
      have pp := pk p List.mem_cons_self
      rw [List.foldl_cons]
      refine ih (l ++ [p]) _ (lrn_s sj pp) ?_ (fun w hw => pk w (List.mem_cons_of_mem _ hw)) uq v1
      rw [ob_app uq' v1']
      show (if kM (pKd p) = 0 then st.2.1 else if pVe p ≤ st.1.2.2 (pKy p).toNatClampNeg then st.2.1 else u1 st.2.1 (pKy p).toNatClampNeg (if pKd p = 2 then some p else none)) k = _
      by_cases q1 : kM (pKd p) = 0
      · rw [if_pos q1, if_pos (Or.inl q1)]; exact h
      · rw [if_neg q1]
        obtain ⟨k', hk', ek⟩ := pp.2 q1
        rw [ek, nI_clamp (by omega), sj.2 k' hk']
        by_cases q2 : k = k'
        · subst q2
          by_cases q3 : pVe p ≤ verA l (nI k)
          · rw [if_pos q3, if_pos (Or.inr (Or.inr q3))]; exact h
          · rw [if_neg q3, u1_y, if_neg (show ¬ (kM (pKd p) = 0 ∨ ¬ nI k = nI k ∨ pVe p ≤ verA l (nI k)) from fun z => z.elim q1 (fun z => z.elim (fun z => z rfl) q3))]
        · have ne : ¬ nI k' = nI k := fun z => q2 (nI_inj (by omega) (by omega) z).symm
          rw [if_pos (Or.inr (Or.inl ne))]
          split
          · exact h
          · rw [u1_n q2]; exact h
  exact this rd [] (b0A, fun _ => none, 0) ⟨fun c _ => ⟨rfl, fun _ => rfl, fun _ => rfl⟩, fun k _ => rfl⟩ rfl pk uq v1
theorem ps_re (rn : ∀ p ∈ rd, RNp p) (uq : UQ rd) (hc : c < 6) (h1 : 1 ≤ n) (h40 : n ≤ 40) : (psA rd).2.2.2 (c * 40 + n - 1) = rd.find? (resA (nI c) (nI n)) := by
  have : ∀ (rd l : List pT) (m : Nat → Option pT), m (c * 40 + n - 1) = l.find? (resA (nI c) (nI n)) → (∀ p ∈ rd, RNp p) → UQ (l ++ rd) → (rd.foldl rsF m) (c * 40 + n - 1) = (l ++ rd).find? (resA (nI c) (nI n)) := by
    intro rd
    induction rd with
    | nil => intro l m h _ _; rw [List.append_nil]; exact h
    | cons p rd ih =>
      intro l m h rn uq
      have e : l ++ p :: rd = (l ++ [p]) ++ rd := by rw [List.append_assoc]; rfl
      rw [e] at uq ⊢
      have uq' : UQ (l ++ [p]) := (List.pairwise_append.mp uq).1
      rw [List.foldl_cons]
      refine ih (l ++ [p]) _ ?_ (fun w hw => rn w (List.mem_cons_of_mem _ hw)) uq
      rw [List.find?_append]
      unfold rsF
      by_cases q : pKd p = 4
      · rw [if_pos q]
        obtain ⟨c', n', b1, b2, b3, b4, b5⟩ := rn p List.mem_cons_self q
        have ix : (rIxA p).toNatClampNeg = c' * 40 + n' - 1 := by
          unfold rIxA
          rw [b4, b5, show (40 : Int32) = nI 40 from rfl, pk_mul, nI_add]
          have := nI_pred (c' * 40 + n' - 1)
          rw [show c' * 40 + n' - 1 + 1 = c' * 40 + n' by omega] at this
          rw [this]
          exact nI_clamp (by omega)
        rw [ix]
        by_cases q2 : c * 40 + n - 1 = c' * 40 + n' - 1
        · have ec : c = c' := by omega
          have en : n = n' := by omega
          subst ec; subst en
          rw [u1_y]
          have t : resA (nI c) (nI n) p = true := resA_t.mpr ⟨q, b4, b5⟩
          have nn : l.find? (resA (nI c) (nI n)) = none := List.find?_eq_none.mpr (fun w hw z => by
            obtain ⟨z1, z2, z3⟩ := resA_t.mp z
            have := (List.pairwise_append.mp uq').2.2 w hw p (List.mem_singleton.mpr rfl)
            exact this.2 ⟨z1, q, z2.trans b4.symm, z3.trans b5.symm⟩)
          rw [nn, Option.none_or, List.find?_cons, t]
        · rw [u1_n q2, h]
          have t : [p].find? (resA (nI c) (nI n)) = none := List.find?_eq_none.mpr (fun w hw z => by
            rw [List.mem_singleton.mp hw] at z
            obtain ⟨z1, z2, z3⟩ := resA_t.mp z
            have ec := nI_inj (by omega) (by omega) (b4.symm.trans z2)
            have en := nI_inj (by omega) (by omega) (b5.symm.trans z3)
            exact q2 (by rw [ec, en]))
          rw [t, Option.or_none]
      · rw [if_neg q, h]
        have t : [p].find? (resA (nI c) (nI n)) = none := List.find?_eq_none.mpr (fun w hw z => by
          rw [List.mem_singleton.mp hw] at z
          exact q (resA_t.mp z).1)
        rw [t, Option.or_none]
  exact this rd [] (fun _ => none) rfl rn uq
end PS
