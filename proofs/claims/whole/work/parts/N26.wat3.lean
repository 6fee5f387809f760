/-! the two sides: the Coordinator finds a server DEAD, whole -/
section WT3
variable {T T' T2 : List slT} {x x' v n xr lim need : Int32} {A A' B : alT} {st : Nat → Int32} {k e i j N U rep nm m up c c' dl r d t : Nat} {s s' : slT} {hd : Option Nat} {y : Nat → Nat} {S S' : stA} {μ μ' : mT} {z z' : srA} {ow : List Int32}
theorem dd_R0 {f : Nat} (mr : MR y S μ) (hi : i < y 20) (sv0 : SvI ((tSv S).getD i sr0)) (hd16 : (tDe S).length < 16) (f1 : f < 16) (f3 : ∀ j, j < (tDe S).length → ¬ μ.2.1 57 j = 16 + nI f) (eT : μ'.1 = lgT μ.1 (waF μ i) (16 + nI f)) (eR : ∀ r k, μ'.2.1 r k = waQ μ i (tDe S).length (16 + nI f) r k) (eN : ∀ k, μ'.2.2 k = if k = 18 then μ.2.2 18 + 1 else if k = 56 then μ.2.2 56 + 1 else μ.2.2 k) : MR y (ddA S i) μ' := by
  obtain ⟨⟨k0, k1, k2, k3, k4⟩, ⟨l1, l2, l3, l4⟩, ⟨n1, n2, n3, n4, n5, n6, n7, n8⟩, ow, sv, de, dd, sp, lb⟩ := mr
  obtain ⟨⟨a1, a2, a3, a4, a5, a6⟩, b, c, d0, e0⟩ := sv i hi
  obtain ⟨-, sfe, s3, s4, -⟩ := sv0
  have y8 := k0.1.2
  obtain ⟨g1, g2, mk, g3, g4, g5⟩ := ddF_f (i := i) l2 8 (Nat.le_refl _)
  unfold ddA
  generalize ddF (tOw S) i 8 = DD at g1 g2 g4 ⊢
  -- labels
  have lf : (16 : Int32) + nI f = nI (16 + f) := n16_I f
  have n99 : ∀ j, j < 8 → ¬ nI j = 99 := fun j hj => nI_9 (by omega)
  have nf : ∀ j, j < 16 → ¬ nI j = 16 + nI f := fun j hj z => by rw [lf] at z; have := nI_inj (by omega) (by omega) z; omega
  have f99 : ¬ (16 : Int32) + nI f = 99 := by rw [lf]; exact nI_9 (by omega)
  have fr : waF μ i = if μ.2.1 8 i = 0 then nI i else 8 + nI i := rfl
  have frf : ¬ waF μ i = 16 + nI f := by
    rw [fr]
    split
    · exact nf i (by omega)
    · rw [n8_I]; exact nf (8 + i) (by omega)
  have noF : μ.1.filter (lbX (16 + nI f)) = [] := List.filter_eq_nil_iff.mpr (fun s hs z => by
    have z : lLg s = 16 + nI f := of_decide_eq_true z
    rcases lb s hs with q | ⟨j, j1, q⟩ | ⟨j, j1, q⟩ | ⟨j, j1, q⟩
    · exact f99 (z.symm.trans q)
    · exact nf j (by omega) (q.symm.trans z)
    · rw [n8_I] at q; exact nf (8 + j) (by omega) (q.symm.trans z)
    · exact f3 j j1 (q.symm.trans z))
  have oth : ∀ x' B, ¬ x' = waF μ i → ¬ x' = 16 + nI f → LgR μ.1 x' B → LgR μ'.1 x' B := fun x' B z1 z2 rb => by rw [eT]; exact rb.lbo z1 z2
  have qN : ∀ k, ¬ k = 18 → ¬ k = 56 → μ'.2.2 k = μ.2.2 k := fun k z1 z2 => by rw [eN, if_neg z1, if_neg z2]
  -- rows that stay
  have qr : ∀ r k, ¬ r = 57 → ¬ r = 58 → ¬ r = 13 → ¬ (k = i ∧ (r = 8 ∨ r = 10 ∨ r = 6)) → μ'.2.1 r k = μ.2.1 r k := fun r k z1 z2 z3 z4 => by
    rw [eR]
    unfold waQ waR
    rw [if_neg (by omega), if_neg (fun w => z4 ⟨w.2.2, Or.inr (Or.inl w.2.1)⟩), if_neg (fun w => z4 ⟨w.2.2, Or.inr (Or.inr w.2.1)⟩), if_neg (by omega), if_neg (by omega), if_neg (by omega)]
  have q57 : ∀ k, μ'.2.1 57 k = if k = (tDe S).length then 16 + nI f else μ.2.1 57 k := fun k => by
    rw [eR]
    unfold waQ waR
    rw [if_neg (by omega), if_neg (by omega), if_neg (by omega), if_neg (by omega), if_neg (by omega)]
    by_cases w : k = (tDe S).length
    · rw [if_pos ⟨rfl, w⟩, if_pos w]
    · rw [if_neg (fun z => w z.2), if_neg w]
  have q58 : ∀ j t, t < 8 → μ'.2.1 58 (8 * j + t) = if j = (tDe S).length then (if μ.2.1 13 t = nI i then 1 else 0) else μ.2.1 58 (8 * j + t) := fun j t ht => by
    rw [eR]
    unfold waQ waR
    rw [if_neg (by omega), if_neg (by omega), if_neg (by omega)]
    by_cases w : j = (tDe S).length
    · rw [if_pos ⟨rfl, by omega, by omega⟩, if_pos w, show 8 * j + t - 8 * (tDe S).length = t by omega]
    · rw [if_neg (by omega), if_neg (by omega), if_neg (by omega), if_neg w]
  have q13 : ∀ t, t < 8 → μ'.2.1 13 t = if μ.2.1 13 t = nI i then -1 else μ.2.1 13 t := fun t ht => by
    rw [eR]
    unfold waQ waR
    rw [if_neg (by omega), if_neg (by omega), if_neg (by omega), if_neg (by omega)]
    by_cases w : μ.2.1 13 t = nI i
    · rw [if_pos ⟨rfl, ht, w⟩, if_pos w]
    · rw [if_neg (fun z => w z.2.2), if_neg w, if_neg (by omega)]
  have dlen : (tDe S ++ [(ddL ((tSv S).getD i sr0), DD.2)]).length = (tDe S).length + 1 := by
    rw [List.length_append]; rfl
  refine ⟨⟨k0, (qN 0 (by decide) (by decide)).trans k1, (qN 1 (by decide) (by decide)).trans k2, (qN 2 (by decide) (by decide)).trans k3, (qN 3 (by decide) (by decide)).trans k4⟩, ⟨by show ((tSv S).set i _).length = _; rw [List.length_set]; exact l1, g1, by show (tDe S ++ [(ddL ((tSv S).getD i sr0), DD.2)]).length ≤ 16; rw [dlen]; omega, l4⟩, ⟨(qN 14 (by decide) (by decide)).trans n1, (qN 16 (by decide) (by decide)).trans n2, (qN 17 (by decide) (by decide)).trans n3, (qN 19 (by decide) (by decide)).trans n4, (qN 21 (by decide) (by decide)).trans n5, ?_, (qN 20 (by decide) (by decide)).trans n7, ?_⟩, fun t ht => ?_, fun j hj => ?_, fun j hj => ?_, fun j k hj hk e => ?_, fun s hs => ?_, fun s hs => ?_⟩
  · show μ'.2.2 18 = nI (tDs S + 1)
    rw [eN, if_pos rfl, n6, nI_1]
  · show μ'.2.2 56 = nI (tDe S ++ [(ddL ((tSv S).getD i sr0), DD.2)]).length
    rw [eN, if_neg (by decide), if_pos rfl, n8, nI_1, dlen]
  · rw [q13 t ht, ow t ht]
    show _ = DD.1.getD t 0
    rw [g2 t ht]
    by_cases w : (tOw S).getD t 0 = nI i
    · rw [if_pos w, if_pos ⟨ht, w⟩]
    · rw [if_neg w, if_neg (fun z => w z.2)]
  · show MRs _ j (((tSv S).set i (ddX ((tSv S).getD i sr0))).getD j sr0)
    by_cases q : j = i
    · subst q
      have e : ((tSv S).set j (ddX ((tSv S).getD j sr0))).getD j sr0 = ddX ((tSv S).getD j sr0) := by
        rw [List.getD_eq_getElem?_getD, List.getElem?_set_self (by omega)]; rfl
      rw [e]
      have r7 : ∀ t, t < 8 → μ'.2.1 7 (8 * j + t) = shrB (sTb ((tSv S).getD j sr0)) (nI t) := fun t ht => by rw [qr 7 _ (by decide) (by decide) (by decide) (by omega)]; exact b t ht
      have r5 : μ'.2.1 5 j = sSt ((tSv S).getD j sr0) := (qr 5 j (by decide) (by decide) (by decide) (by omega)).trans a1
      have r9 : μ'.2.1 9 j = sSf ((tSv S).getD j sr0) := (qr 9 j (by decide) (by decide) (by decide) (by omega)).trans a4
      have r11 : μ'.2.1 11 j = sMi ((tSv S).getD j sr0) := (qr 11 j (by decide) (by decide) (by decide) (by omega)).trans a5
      have r12 : μ'.2.1 12 j = sCu ((tSv S).getD j sr0) := (qr 12 j (by decide) (by decide) (by decide) (by omega)).trans a6
      have r8 : μ'.2.1 8 j = 0 := by rw [eR]; unfold waQ; rw [if_pos ⟨rfl, rfl⟩]
      by_cases w : sLo ((tSv S).getD j sr0) = 0
      · have nl := s4.mp w
        have w' : μ.2.1 8 j = 0 := a3.trans w
        rw [if_pos w'] at fr
        have ex : ddX ((tSv S).getD j sr0) = (sSt ((tSv S).getD j sr0), 1, sLo ((tSv S).getD j sr0), sTb ((tSv S).getD j sr0), sSf ((tSv S).getD j sr0), sCu ((tSv S).getD j sr0), sMi ((tSv S).getD j sr0), ([], none, none), none) := by unfold ddX; rw [nl]
        rw [ex]
        have n8j : ¬ nI j = 8 + nI j := fun z => by rw [n8_I] at z; have := nI_inj (by omega) (by omega) z; omega
        refine ⟨⟨r5, ?_, r8.trans w.symm, r9, r11, r12⟩, r7, Or.inl ⟨rfl, ?_⟩, ?_, ?_⟩
        · rw [eR]; unfold waQ; rw [if_neg (by omega), if_neg (by omega), if_pos ⟨w', rfl, rfl⟩]; rfl
        · rw [eR]; unfold waQ; rw [if_neg (by omega), if_pos ⟨w', rfl, rfl⟩]
        · rw [eT, fr]; exact LgR.emp (lg_x (by rw [← fr]; exact frf))
        · rw [nl] at e0
          exact oth _ _ (by rw [fr]; exact fun z => n8j z.symm) (by rw [n8_I]; exact nf (8 + j) (by omega)) e0
      · have w' : ¬ μ.2.1 8 j = 0 := fun z => w (a3.symm.trans z)
        rw [if_neg w'] at fr
        cases el : sLL ((tSv S).getD j sr0) with
        | none => exact absurd (s4.mpr el) w
        | some B =>
          have ex : ddX ((tSv S).getD j sr0) = (sSt ((tSv S).getD j sr0), sFe ((tSv S).getD j sr0), 0, sTb ((tSv S).getD j sr0), sSf ((tSv S).getD j sr0), sCu ((tSv S).getD j sr0), sMi ((tSv S).getD j sr0), sLg ((tSv S).getD j sr0), none) := by
            unfold ddX
            rw [el]
            exact if_pos w
          rw [ex]
          have n8j : ¬ nI j = 8 + nI j := fun z => by rw [n8_I] at z; have := nI_inj (by omega) (by omega) z; omega
          have r6 : μ'.2.1 6 j = sFe ((tSv S).getD j sr0) := by
            rw [eR]; unfold waQ waR; rw [if_neg (by omega), if_neg (by omega), if_neg (fun z => w' z.1), if_neg (by omega), if_neg (by omega), if_neg (by omega)]; exact a2
          have r10 : μ'.2.1 10 j = μ.2.1 10 j := by
            rw [eR]; unfold waQ waR; rw [if_neg (by omega), if_neg (fun z => w' z.1), if_neg (by omega), if_neg (by omega), if_neg (by omega), if_neg (by omega)]
          refine ⟨⟨r5, r6, r8, r9, r11, r12⟩, r7, ?_, oth _ _ (by rw [fr]; exact n8j) (nf j (by omega)) d0, ?_⟩
          · have := c.lg (x := waF μ j) (v := 16 + nI f) (ρ := μ'.2.1) (ν := μ'.2.2) r10 (by rw [fr]; exact n8j)
            rw [← eT] at this
            exact this
          · rw [eT, fr]; exact LgR.emp (lg_x (by rw [← fr]; exact frf))
    · have e : ((tSv S).set i (ddX ((tSv S).getD i sr0))).getD j sr0 = (tSv S).getD j sr0 := by
        rw [List.getD_eq_getElem?_getD, List.getElem?_set_ne (fun z => q z.symm), ← List.getD_eq_getElem?_getD]
      rw [e]
      have njf : ¬ nI j = waF μ i := by
        rw [fr]
        split
        · exact fun z => q (nI_inj (by omega) (by omega) z)
        · rw [n8_I]; exact fun z => by have := nI_inj (by omega) (by omega) z; omega
      have n8f : ¬ 8 + nI j = waF μ i := by
        rw [fr, n8_I]
        split
        · exact fun z => by have := nI_inj (by omega) (by omega) z; omega
        · rw [n8_I]; exact fun z => q (by have := nI_inj (by omega) (by omega) z; omega)
      refine (sv j hj).kp2 q (fun r k z1 z2 z3 z4 z5 => qr r k z1 z2 z3 (fun w => by
        by_cases r7 : r = 7
        · omega
        · exact z4 r7 w.1)) (fun hh => ?_) (fun B => oth _ B njf (nf j (by omega))) (fun B => oth _ B n8f (by rw [n8_I]; exact nf (8 + j) (by omega)))
      have := hh.lg (x := waF μ i) (v := 16 + nI f) (ρ := μ'.2.1) (ν := μ'.2.2) (qr 10 j (by decide) (by decide) (by decide) (fun w => q w.1)) njf
      rw [← eT] at this
      exact this
  · have hj : j < (tDe S ++ [(ddL ((tSv S).getD i sr0), DD.2)]).length := hj
    rw [dlen] at hj
    show MRd μ' j ((tDe S ++ [(ddL ((tSv S).getD i sr0), DD.2)]).getD j d0A)
    by_cases q : j < (tDe S).length
    · have e : (tDe S ++ [(ddL ((tSv S).getD i sr0), DD.2)]).getD j d0A = (tDe S).getD j d0A := by
        rw [List.getD_eq_getElem?_getD, List.getElem?_append_left q, ← List.getD_eq_getElem?_getD]
      rw [e]
      obtain ⟨⟨e', h1, h2⟩, h3, h4⟩ := de j q
      have e57 : μ'.2.1 57 j = μ.2.1 57 j := by rw [q57, if_neg (by omega)]
      refine ⟨⟨e', h1, e57.trans h2⟩, fun t ht => by rw [q58 j t ht, if_neg (by omega)]; exact h3 t ht, ?_⟩
      rw [e57]
      refine oth _ _ ?_ (f3 j q) h4
      rw [h2, n16_I, fr]
      split
      · exact fun z => by have := nI_inj (by omega) (by omega) z; omega
      · rw [n8_I]; exact fun z => by have := nI_inj (by omega) (by omega) z; omega
    · have qj : j = (tDe S).length := by omega
      have e : (tDe S ++ [(ddL ((tSv S).getD i sr0), DD.2)]).getD j d0A = (ddL ((tSv S).getD i sr0), DD.2) := by
        rw [List.getD_eq_getElem?_getD, List.getElem?_append_right (by omega), qj, Nat.sub_self]; rfl
      rw [e]
      have e57 : μ'.2.1 57 j = 16 + nI f := by rw [q57, if_pos qj]
      refine ⟨⟨f, f1, e57⟩, fun t ht => ?_, ?_⟩
      · rw [q58 j t ht, if_pos qj, ow t ht]
        show _ = shrB DD.2 (nI t)
        rw [g4, sh_N mk g3 t ht]
        have := g5 t ht
        by_cases w : (tOw S).getD t 0 = nI i
        · rw [if_pos w, if_pos (this.mpr ⟨ht, w⟩)]
        · rw [if_neg w, if_neg (fun z => w (this.mp z).2)]
      · rw [e57, eT]
        have el : LgR μ.1 (waF μ i) (ddL ((tSv S).getD i sr0)) := by
          rw [fr]
          by_cases w : sLo ((tSv S).getD i sr0) = 0
          · have nl := s4.mp w
            rw [if_pos (a3.trans w)]
            have : ddL ((tSv S).getD i sr0) = sLg ((tSv S).getD i sr0) := by unfold ddL; rw [nl]
            rw [this]; exact d0
          · rw [if_neg (fun z => w (a3.symm.trans z))]
            cases el : sLL ((tSv S).getD i sr0) with
            | none => exact absurd (s4.mpr el) w
            | some B =>
              have : ddL ((tSv S).getD i sr0) = B := by unfold ddL; rw [el]; exact if_pos w
              rw [this]
              rw [el] at e0
              exact e0
        exact el.lab noF frf
  · have hj : j < (tDe S ++ [(ddL ((tSv S).getD i sr0), DD.2)]).length := hj
    have hk : k < (tDe S ++ [(ddL ((tSv S).getD i sr0), DD.2)]).length := hk
    rw [dlen] at hj hk
    rw [q57, q57] at e
    by_cases c1 : j = (tDe S).length
    · by_cases c2 : k = (tDe S).length
      · omega
      · rw [if_pos c1, if_neg c2] at e
        exact absurd e.symm (f3 k (by omega))
    · by_cases c2 : k = (tDe S).length
      · rw [if_neg c1, if_pos c2] at e
        exact absurd e (f3 j (by omega))
      · rw [if_neg c1, if_neg c2] at e
        exact dd j k (by omega) (by omega) e
  · rw [eT] at hs
    rcases lg_mem hs with ⟨w, w1, w2, w3⟩ | ⟨w1, w2⟩
    · rw [w3]
      exact (sp w w1).lb (fun j hj z => nf j (by omega) z.symm)
    · exact sp s w1
  · rw [eT] at hs
    show LBl y μ' (tDe S ++ [(ddL ((tSv S).getD i sr0), DD.2)]).length s
    rw [dlen]
    rcases lg_mem hs with ⟨w, w1, w2, w3⟩ | ⟨w1, w2⟩
    · rw [w3]
      exact Or.inr (Or.inr (Or.inr ⟨(tDe S).length, Nat.lt_succ_self _, by rw [q57, if_pos rfl]; rfl⟩))
    · rcases lb s w1 with q | q | q | ⟨j, j1, j2⟩
      · exact Or.inl q
      · exact Or.inr (Or.inl q)
      · exact Or.inr (Or.inr (Or.inl q))
      · exact Or.inr (Or.inr (Or.inr ⟨j, by omega, by rw [q57, if_neg (by omega)]; exact j2⟩))
theorem dd_R (mr : MR y S μ) (hi : i < y 20) (sv0 : SvI ((tSv S).getD i sr0)) (hd16 : (tDe S).length < 16) : MR y (ddA S i) (wa5 (wa3 μ i) i) := by
  have edn := mr.dn
  obtain ⟨f, f1, f2, f3⟩ := fd_R (μ := μ) hd16 (fun j hj => (mr.2.2.2.2.2.1 j hj).1) edn
  obtain ⟨w1, w2, w3⟩ := wa5_e (μ := μ) (m := i)
  rw [edn, f2] at w2
  rw [f2] at w1
  generalize wa5 (wa3 μ i) i = ω at w1 w2 w3 ⊢
  exact dd_R0 mr hi sv0 hd16 f1 f3 w1 w2 w3
theorem wat_R (mr : MR y S μ) (hi : i < y 20) (sv0 : SvI ((tSv S).getD i sr0)) : MR y (lkS S i) (watM μ i) := by
  have m1 := mss_R mr hi
  have dn := m1.dn
  obtain ⟨-, ⟨l1, l2, l3, l4⟩, -, ow, sv, -⟩ := m1
  have l1' : (tSv S).length = y 20 := mr.2.1.1
  have es : (tSv (mssS S i)).getD i sr0 = mssX ((tSv S).getD i sr0) := by
    show ((tSv S).set i _).getD i sr0 = _
    rw [List.getD_eq_getElem?_getD, List.getElem?_set_self (by omega)]; rfl
  obtain ⟨⟨a1, a2, a3, a4, a5, a6⟩, -⟩ := sv i hi
  rw [es] at a1 a3 a5
  have a1 : (wa1 μ i).2.1 5 i = sSt ((tSv S).getD i sr0) := a1
  have a3 : (wa1 μ i).2.1 8 i = sLo ((tSv S).getD i sr0) := a3
  have t0 := tab_0 (v := nI i) ow
  have t0 : ¬ tabA (tOw S) (nI i) ≤ 0 ↔ 0 < onN (wa1 μ i) (nI i) := t0
  have dn : dN (wa1 μ i) = (tDe S).length := dn
  have l3 : (tDe S).length ≤ 16 := l3
  unfold lkS watM
  have cond : waN (wa1 μ i) i = true ↔ ¬ (((3 : Int32) ≤ sMi (mssX ((tSv S).getD i sr0)) ∨ (sSt ((tSv S).getD i sr0) = 0 ∧ ¬ sLo ((tSv S).getD i sr0) = 0)) ∧ (tDe S).length < 16 ∧ ¬ tabA (tOw S) (nI i) ≤ 0) := by
    unfold waN
    rw [Bool.or_eq_true, Bool.or_eq_true, Bool.and_eq_true, decide_eq_true_eq, decide_eq_true_eq, decide_eq_true_eq, decide_eq_true_eq, a1, a3, a5, dn, t0]
    constructor
    · intro h ⟨g1, g2, g3⟩
      rcases h with (h | h) | h
      · omega
      · rcases g1 with g1 | g1
        · exact h.1 g1
        · exact h.2 g1
      · omega
    · intro h
      by_cases c1 : onN (wa1 μ i) (nI i) = 0
      · exact Or.inl (Or.inl c1)
      · by_cases c2 : (tDe S).length = 16
        · exact Or.inr c2
        · refine Or.inl (Or.inr ⟨fun z => h ⟨Or.inl z, by omega, by omega⟩, fun z => h ⟨Or.inr z, by omega, by omega⟩⟩)
  by_cases q : waN (wa1 μ i) i = true
  · rw [if_pos q, if_neg (cond.mp q)]
    exact mss_R mr hi
  · rw [if_neg q, if_pos (Decidable.not_not.mp (fun z => q (cond.mpr z)))]
    have h16 := (Decidable.not_not.mp (fun z => q (cond.mpr z))).2.1
    refine dd_R (mss_R mr hi) hi ?_ h16
    rw [es]
    exact sv0
end WT3
