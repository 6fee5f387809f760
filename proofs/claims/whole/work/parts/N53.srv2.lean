/-! the two sides: copies; server's answer -/
section SX
variable {T : List slT} {A : alT} {x x1 x2 x3 v ky : Int32} {k e i j N t f n c p m : Nat} {y : Nat → Nat} {S S' : stA} {μ μ' : mT} {F F' : fcT} {st : Nat → Int32} {s : slT}
def hb1 (m : Nat) (s : slT) : Int32 := if (lHo s).any (fun z => decide (nI z.1 = nI m)) = true then 1 else 0
theorem hb_s (sp : SP N s) (h8 : N ≤ 8) (hm : m < 8) : shrB (mskL (agS s).2.2.2) (nI m) = hb1 m s := by
  obtain ⟨b, b1, b2, b3⟩ := msk_N (lHo s) (fun z hz => by have := sp.2.2.2.1.2.1 z hz; omega)
  show shrB (mskL (lHo s)) (nI m) = _
  rw [b2, sh_N b b1 m hm]
  unfold hb1
  have e : (lHo s).any (fun z => decide (nI z.1 = nI m)) = true ↔ m ∈ (lHo s).map (·.1) := by
    rw [List.any_eq_true]
    refine ⟨fun ⟨z, z1, z2⟩ => ?_, fun h => ?_⟩
    · have := sp.2.2.2.1.2.1 z z1
      have e := nI_inj (a := z.1) (b := m) (by omega) (by omega) (of_decide_eq_true z2)
      rw [← e]; exact List.mem_map_of_mem z1
    · obtain ⟨z, z1, z2⟩ := List.mem_map.mp h
      exact ⟨z, z1, decide_eq_true (by rw [z2])⟩
  by_cases w : b.testBit m = true
  · rw [if_pos w, if_pos (e.mpr ((b3 m hm).mp w))]
  · rw [if_neg w, if_neg (fun z => w ((b3 m hm).mpr (e.mp z)))]
theorem cpy_R (r : LgR T x A) (sp : ∀ s ∈ T, SP N s) (h8 : N ≤ 8) (hm : m < 8) : cpyA A.1 (nI m) = smI (hb1 m) (T.filter (lbX x)) := by
  have : cpyA A.1 (nI m) = smI (fun u : agT => shrB (mskL u.2.2.2) (nI m)) A.1 := rfl
  rw [this, ← sm_p _ r.1, sm_m]
  exact sm_g _ (fun s hs => hb_s (sp s (fl_mem (F := []) hs).1) h8 hm)
theorem sm_one (v w : Int32) : ∀ (Ls : List Int32), Ls.Nodup → smI (fun l => if w = l then v else 0) Ls = if w ∈ Ls then v else 0 := by
  intro Ls
  induction Ls with
  | nil => intro _; rfl
  | cons a Ls ih =>
    intro nd
    obtain ⟨n1, n2⟩ := List.nodup_cons.mp nd
    rw [sm_c, ih n2]
    by_cases q : w = a
    · rw [if_pos q, if_neg (fun z => n1 (q ▸ z)), if_pos (by rw [q]; exact List.mem_cons_self), Int32.add_zero]
    · rw [if_neg q, Int32.zero_add]
      by_cases q2 : w ∈ Ls
      · rw [if_pos q2, if_pos (List.mem_cons_of_mem _ q2)]
      · rw [if_neg q2, if_neg (fun z => (List.mem_cons.mp z).elim q q2)]
/-- each slot belongs to one LOG -/
theorem sm_part (Ls : List Int32) (nd : Ls.Nodup) (n9 : ¬ (99 : Int32) ∈ Ls) (g : slT → Int32) : ∀ (T : List slT), (∀ s ∈ T, lLg s = 99 ∨ lLg s ∈ Ls) → smI (fun l => smI g (T.filter (lbX l))) Ls = smI (fun s => if lLg s = 99 then 0 else g s) T := by
  intro T
  induction T with
  | nil => intro _; exact sm_0 Ls
  | cons s T ih =>
    intro h
    have e : ∀ l, smI g ((s :: T).filter (lbX l)) = (if lLg s = l then g s else 0) + smI g (T.filter (lbX l)) := fun l => by
      by_cases q : lLg s = l
      · rw [if_pos q, lb_y q, sm_c]
      · rw [if_neg q, lb_n q, Int32.zero_add]
    rw [sm_g _ (fun l _ => e l), sm_plus, sm_one _ _ _ nd, ih (fun s hs => h s (List.mem_cons_of_mem _ hs)), sm_c]
    congr 1
    rcases h s List.mem_cons_self with q | q
    · rw [if_pos q, if_neg (by rw [q]; exact n9)]
    · rw [if_pos q, if_neg (show ¬ lLg s = 99 from fun z => n9 (by rw [← z]; exact q))]
theorem copies_R (mr : MR y S μ) (hm : m < 8) : (smM μ (nI m) x).2.2.2 = cpsS (y 20) S (nI m) := by
  obtain ⟨⟨k0, -⟩, ⟨l1, l2, l3, l4⟩, -, ow, sv, de, dd, sp, lb⟩ := mr
  have y8 := k0.1.2
  have c1 : ∀ i, i < y 20 → cpyA (sLg ((tSv S).getD i sr0)).1 (nI m) = smI (hb1 m) (μ.1.filter (lbX (nI i))) := fun i hi => cpy_R (sv i hi).2.2.2.1 sp y8 hm
  have c2 : ∀ i, i < y 20 → (match sLL ((tSv S).getD i sr0) with | none => (0 : Int32) | some B => cpyA B.1 (nI m)) = smI (hb1 m) (μ.1.filter (lbX (8 + nI i))) := fun i hi => by
    rw [← cpy_R (sv i hi).2.2.2.2 sp y8 hm]
    cases sLL ((tSv S).getD i sr0) with
    | none => rfl
    | some B => rfl
  have c3 : ∀ j, j < (tDe S).length → cpyA ((tDe S).getD j d0A).1.1 (nI m) = smI (hb1 m) (μ.1.filter (lbX (μ.2.1 57 j))) := fun j hj => cpy_R (de j hj).2.2 sp y8 hm
  have eS : cpsS (y 20) S (nI m) = smI (fun i => smI (hb1 m) (μ.1.filter (lbX (nI i))) + smI (hb1 m) (μ.1.filter (lbX (8 + nI i)))) (List.range (y 20)) + smI (fun j => smI (hb1 m) (μ.1.filter (lbX (μ.2.1 57 j)))) (List.range (tDe S).length) := by
    unfold cpsS
    rw [sm_a, sm_g (List.range (tDe S).length) (fun j hj => c3 j (List.mem_range.mp hj))]
    congr 1
    exact fo_cg2 _ _ (fun t i hi => by
      have hi := List.mem_range.mp hi
      rw [c1 i hi, Int32.add_assoc]
      exact congrArg (fun z => t + (smI (hb1 m) (μ.1.filter (lbX (nI i))) + z)) (c2 i hi))
  rw [eS, sm_plus, smM_4]
  have e1 : smI (fun i => smI (hb1 m) (μ.1.filter (lbX (nI i)))) (List.range (y 20)) = smI (fun l => smI (hb1 m) (μ.1.filter (lbX l))) ((List.range (y 20)).map nI) := (sm_m (fun l => smI (hb1 m) (μ.1.filter (lbX l))) nI _).symm
  have e2 : smI (fun i => smI (hb1 m) (μ.1.filter (lbX (8 + nI i)))) (List.range (y 20)) = smI (fun l => smI (hb1 m) (μ.1.filter (lbX l))) ((List.range (y 20)).map (fun i => 8 + nI i)) := (sm_m (fun l => smI (hb1 m) (μ.1.filter (lbX l))) (fun i => 8 + nI i) _).symm
  have e3 : smI (fun j => smI (hb1 m) (μ.1.filter (lbX (μ.2.1 57 j)))) (List.range (tDe S).length) = smI (fun l => smI (hb1 m) (μ.1.filter (lbX l))) ((List.range (tDe S).length).map (μ.2.1 57)) := (sm_m (fun l => smI (hb1 m) (μ.1.filter (lbX l))) (μ.2.1 57) _).symm
  rw [e1, e2, e3, ← sm_app, ← sm_app]
  have n8 : ∀ i, i < y 20 → (8 + nI i : Int32) = nI (8 + i) := fun i _ => n8_I i
  have n57 : ∀ j, j < (tDe S).length → ∃ e, e < 16 ∧ μ.2.1 57 j = nI (16 + e) := fun j hj => by
    obtain ⟨e, e1, e2⟩ := (de j hj).1
    exact ⟨e, e1, by rw [e2, n16_I]⟩
  have m1 : ∀ {l : Int32}, l ∈ (List.range (y 20)).map nI → ∃ i, i < y 20 ∧ l = nI i := fun hl => by
    obtain ⟨i, i1, i2⟩ := List.mem_map.mp hl
    exact ⟨i, List.mem_range.mp i1, i2.symm⟩
  have m2 : ∀ {l : Int32}, l ∈ (List.range (y 20)).map (fun i => 8 + nI i) → ∃ i, i < y 20 ∧ l = nI (8 + i) := fun hl => by
    obtain ⟨i, i1, i2⟩ := List.mem_map.mp hl
    exact ⟨i, List.mem_range.mp i1, by rw [← i2]; exact n8_I i⟩
  have m3 : ∀ {l : Int32}, l ∈ (List.range (tDe S).length).map (μ.2.1 57) → ∃ e, e < 16 ∧ l = nI (16 + e) := fun hl => by
    obtain ⟨j, j1, j2⟩ := List.mem_map.mp hl
    obtain ⟨e, e1, e2⟩ := n57 j (List.mem_range.mp j1)
    exact ⟨e, e1, by rw [← j2]; exact e2⟩
  have nd : ((List.range (y 20)).map nI ++ (List.range (y 20)).map (fun i => 8 + nI i) ++ (List.range (tDe S).length).map (μ.2.1 57)).Nodup := by
    refine List.nodup_append.mpr ⟨List.nodup_append.mpr ⟨?_, ?_, ?_⟩, ?_, ?_⟩
    · refine List.pairwise_map.mpr (List.Pairwise.imp_of_mem (fun {a b} ha hb hab z => ?_) (List.nodup_range (n := y 20)))
      have ha := List.mem_range.mp ha
      have hb := List.mem_range.mp hb
      exact hab (nI_inj (by omega) (by omega) z)
    · refine List.pairwise_map.mpr (List.Pairwise.imp_of_mem (fun {a b} ha hb hab z => ?_) (List.nodup_range (n := y 20)))
      have ha := List.mem_range.mp ha
      have hb := List.mem_range.mp hb
      rw [n8_I, n8_I] at z
      have := nI_inj (by omega) (by omega) z
      omega
    · intro a ha b hb z
      obtain ⟨i, i1, i2⟩ := m1 ha
      obtain ⟨i', i3, i4⟩ := m2 hb
      rw [i2, i4] at z
      have := nI_inj (by omega) (by omega) z
      omega
    · refine List.pairwise_map.mpr (List.Pairwise.imp_of_mem (fun {a b} ha hb hab z => ?_) (List.nodup_range (n := (tDe S).length)))
      exact hab (dd a b (List.mem_range.mp ha) (List.mem_range.mp hb) z)
    · intro a ha b hb z
      obtain ⟨e, e1, e2⟩ := m3 hb
      rcases List.mem_append.mp ha with w | w
      · obtain ⟨i, i1, i2⟩ := m1 w
        rw [i2, e2] at z
        have := nI_inj (by omega) (by omega) z
        omega
      · obtain ⟨i, i1, i2⟩ := m2 w
        rw [i2, e2] at z
        have := nI_inj (by omega) (by omega) z
        omega
  have n9 : ¬ (99 : Int32) ∈ ((List.range (y 20)).map nI ++ (List.range (y 20)).map (fun i => 8 + nI i) ++ (List.range (tDe S).length).map (μ.2.1 57)) := fun w => by
    rcases List.mem_append.mp w with w | w
    · rcases List.mem_append.mp w with w | w
      · obtain ⟨i, i1, i2⟩ := m1 w
        exact nI_9 (m := i) (by omega) i2.symm
      · obtain ⟨i, i1, i2⟩ := m2 w
        exact nI_9 (m := 8 + i) (by omega) i2.symm
    · obtain ⟨i, i1, i2⟩ := m3 w
      exact nI_9 (m := 16 + i) (by omega) i2.symm
  rw [sm_part _ nd n9 (hb1 m) μ.1 (fun s hs => by
    rcases lb s hs with q | ⟨i, i1, i2⟩ | ⟨i, i1, i2⟩ | ⟨j, j1, j2⟩
    · exact Or.inl q
    · exact Or.inr (List.mem_append.mpr (Or.inl (List.mem_append.mpr (Or.inl (List.mem_map.mpr ⟨i, List.mem_range.mpr i1, i2.symm⟩)))))
    · exact Or.inr (List.mem_append.mpr (Or.inl (List.mem_append.mpr (Or.inr (List.mem_map.mpr ⟨i, List.mem_range.mpr i1, i2.symm⟩)))))
    · exact Or.inr (List.mem_append.mpr (Or.inr (List.mem_map.mpr ⟨j, List.mem_range.mpr j1, j2.symm⟩))))]
  have := sm_ix sl0 (fun k => if ¬ lLg (μ.1.getD k sl0) = 99 ∧ (lHo (μ.1.getD k sl0)).any (fun z => decide (nI z.1 = nI m)) = true then (1 : Int32) else 0) (fun s => if lLg s = 99 then 0 else hb1 m s) μ.1 0 (fun j hj => by
    rw [Nat.zero_add]
    unfold hb1
    by_cases w : lLg (μ.1.getD j sl0) = 99
    · rw [if_pos w, if_neg (fun z => z.1 w)]
    · rw [if_neg w]
      by_cases w2 : (lHo (μ.1.getD j sl0)).any (fun z => decide (nI z.1 = nI m)) = true
      · rw [if_pos w2, if_pos ⟨w, w2⟩]
      · rw [if_neg w2, if_neg (fun z => w2 z.2)])
  rw [← List.range_eq_range'] at this
  exact this
theorem own_n {b : Nat} (hb : b < 256) (h : ∀ t, t < 8 → μ.2.1 7 (8 * m + t) = shrB (nI b) (nI t)) : nI (otM μ m 8) = bcX (nI b) := by
  rw [bcX_N b hb, pop_cnt b hb]
  unfold otM
  have : (List.range 8).foldl (fun t j => if μ.2.1 7 (8 * m + j) = 0 then t else t + 1) 0 = (List.range 8).foldl (fun t j => if b.testBit j = true then t + 1 else t) 0 := fo_cg2 _ _ (fun t j hj => by
    have hj := List.mem_range.mp hj
    rw [h j hj, sh_N b hb j hj]
    by_cases w : b.testBit j = true
    · rw [if_pos w, if_pos w, if_neg (by decide)]
    · rw [if_neg w, if_neg w, if_pos rfl])
  rw [this, fo_cnt, Nat.zero_add]
  refine congrArg nI (cnt_cg _ (fun j _ => ?_))
  cases b.testBit j <;> rfl
theorem sg_n (r : LgR T x A) : sgN T x = A.1.length := by
  have := r.1.length_eq
  rw [List.length_map] at this
  rw [← this]
  unfold sgN
  rw [fo_cnt, Nat.zero_add, List.countP_eq_length_filter]
  rfl
theorem server_R (h : FR y F μ) (hT : μ.1.length < 2 ^ 31) (li : ∀ i, i < y 20 → LI (tNm (fSt F)) (sLg ((tSv (fSt F)).getD i sr0))) (tb : TBl y (fSt F)) : svM y (sn0 μ) x1 x2 = srqA y F x1 x2 := by
  have h0 := h.sn
  have hT : (sn0 μ).1.length < 2 ^ 31 := hT
  generalize sn0 μ = ν at h0 hT
  have hy := h0.1.1.1.1
  unfold svM srqA
  rw [is_F hy]
  by_cases q : inF x1 (nI (y 20)) = 0
  · rw [if_pos q, if_pos q]
  · rw [if_neg q, if_neg q]
    obtain ⟨i, hi, ei⟩ := isM_n (x := x1) hy (by rw [is_F hy]; exact q)
    subst ei
    rw [nI_clamp (by omega)]
    have c8 := copies_R (x := ν.2.2 2) h0.1 (m := i) (by omega)
    obtain ⟨⟨b1, b2, b3, b4, b5, b6⟩, bt, hd, d, -⟩ := h0.1.2.2.2.2.1 i hi
    have sp := h0.1.2.2.2.2.2.2.2.1
    obtain ⟨b, hb, eb⟩ := tb i hi
    rw [eb] at bt
    have eU : ν.2.2 2 = nI (y 22) := h0.1.1.2.2.2.1
    have e11 : (if ν.2.1 10 i = -1 then (-1 : Int32) else nI (lNm (ν.1.getD (hdI ν i) sl0))) = (match (sLg ((tSv (fSt F)).getD i sr0)).2.1 with | none => -1 | some n => nI n) := by
      rcases hd with ⟨g1, g2⟩ | ⟨k, g1, g2, g3, g4⟩
      · rw [if_pos g2, g1]
      · rw [if_neg (by rw [g2]; exact nI_n1 (by omega)), g4]
        unfold hdI
        rw [g2, nI_clamp (by omega)]
    unfold sv1
    rw [b1, b2, b4, b5, b6, own_n hb bt, ← eb, sg_n d, e11]
    by_cases w0 : x2 = 5 ∨ x2 = 6 ∨ x2 = 7
    · have w1 : x2 = 5 ∨ x2 = 6 ∨ x2 = 7 ∨ x2 = 8 := by
        rcases w0 with w | w | w
        · exact Or.inl w
        · exact Or.inr (Or.inl w)
        · exact Or.inr (Or.inr (Or.inl w))
      rw [if_pos w0, if_pos w1, eU, unt_R d (by omega) sp (li i hi).1 (y 22) w0]
    · rw [if_neg w0]
      by_cases w8 : x2 = 8
      · have w1 : x2 = 5 ∨ x2 = 6 ∨ x2 = 7 ∨ x2 = 8 := Or.inr (Or.inr (Or.inr w8))
        rw [if_pos w1, if_pos w8]
        have e8 : smW (smM ν (nI i) (ν.2.2 2)) x2 = (smM ν (nI i) (ν.2.2 2)).2.2.2 := by
          rw [w8]; rfl
        rw [e8, c8]
      · have w1 : ¬ (x2 = 5 ∨ x2 = 6 ∨ x2 = 7 ∨ x2 = 8) := fun w => by
          rcases w with w | w | w | w
          · exact w0 (Or.inl w)
          · exact w0 (Or.inr (Or.inl w))
          · exact w0 (Or.inr (Or.inr w))
          · exact w8 w
        rw [if_neg w1, if_neg w8]
        rfl
end SX
