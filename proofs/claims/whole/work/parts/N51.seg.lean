/-! the two sides: segment -/
section SQ
variable {T : List slT} {A : alT} {x x1 x2 x3 v ky : Int32} {k e i j N t f n c p m : Nat} {y : Nat → Nat} {S S' : stA} {μ μ' : mT} {F F' : fcT} {st : Nat → Int32}
theorem chn_nx : ∀ (C : List Nat) (n : Int32), Chn T x n C → C[0]? = nxT T x n ∧ ∀ i k, C[i]? = some k → C[i + 1]? = nxT T x (nI (lNm (T.getD k sl0))) := by
  intro C
  induction C with
  | nil => intro n h; exact ⟨h.symm, fun i k e => by cases e⟩
  | cons a C ih =>
    intro n h
    obtain ⟨h1, h2⟩ := ih _ h.2
    refine ⟨h.1.symm, fun i k e => ?_⟩
    rw [List.getElem?_cons_succ]
    cases i with
    | zero =>
      rw [List.getElem?_cons_zero] at e
      cases e
      exact h1
    | succ i => exact h2 i k e
theorem sgK_ch : ∀ i, sgK T x i = (chL T x)[i]? := by
  obtain ⟨h1, h2⟩ := chn_nx _ _ (chL_ch (T := T) (x := x))
  intro i
  induction i with
  | zero => exact h1.symm
  | succ i ih =>
    show (match sgK T x i with | none => none | some k => nxT T x (nI (lNm (T.getD k sl0)))) = _
    rw [ih]
    cases e : (chL T x)[i]? with
    | none =>
      have := List.getElem?_eq_none_iff.mp e
      exact (List.getElem?_eq_none (by omega)).symm
    | some k => exact (h2 i k e).symm
theorem lv_R (r : LgR T x A) (ho : HOl T) (nb : NB T) (ev : EVT T) (hx : x < 16) (pk : PKA A.1) (hk : (chL T x)[j]? = some k) : lvuT st T k = lvU A.1 j := by
  have e := ch_cr (st := st) r ho nb ev hx pk
  have e1 : ((chL T x).map (cM st T))[j]? = (crA A.1)[j]? := by rw [e]
  rw [List.getElem?_map, hk] at e1
  unfold crA at e1
  rw [List.getElem?_zipWith] at e1
  unfold lvU
  rw [List.getD_eq_getElem?_getD]
  cases ea : A.1[j]? with
  | none => rw [ea] at e1; cases e1
  | some a =>
    cases em : (mkA A.1)[j]? with
    | none => rw [ea, em] at e1; cases e1
    | some q =>
      rw [ea, em] at e1
      have e1 := Option.some.inj e1
      exact congrArg (fun z : cT => z.2.1) e1
theorem seg_R (h : FR y F μ) (li : ∀ i, i < y 20 → LI (tNm (fSt F)) (sLg ((tSv (fSt F)).getD i sr0))) (hl : ∀ i, i < y 20 → (sLg ((tSv (fSt F)).getD i sr0)).1.length < 2 ^ 31) : segM y (sn0 μ) x1 x2 x3 = sgqA y F x1 x2 x3 := by
  have h0 := h.sn
  generalize sn0 μ = ν at h0
  have hy := h0.1.1.1.1
  unfold segM sgqA
  rw [is_F hy]
  by_cases q : inF x1 (nI (y 20)) = 0
  · rw [if_pos q, if_pos q]
  · rw [if_neg q, if_neg q]
    obtain ⟨i, hi, ei⟩ := isM_n (x := x1) hy (by rw [is_F hy]; exact q)
    subst ei
    rw [nI_clamp (by omega)]
    have d := (h0.1.2.2.2.2.1 i hi).2.2.2.1
    have hl := hl i hi
    have pk := (li i hi).1
    have upr := h0.1.upr
    have sp := h0.1.2.2.2.2.2.2.2.1
    have nb := SP.nb sp
    have ho := SP.ho sp
    have ev := SP.ev sp
    obtain ⟨c1, c2⟩ := chL_A d nb
    generalize sLg ((tSv (fSt F)).getD i sr0) = A at d hl pk c1
    rw [sgK_ch]
    unfold inF
    by_cases q1 : x2 < 0
    · rw [if_pos q1, if_pos q1, if_pos rfl]
    · rw [if_neg q1, if_neg q1]
      have eb := nI_back (x := x2) (Int32.not_lt.mp q1)
      have lt := clN_lt x2
      generalize x2.toNatClampNeg = n at eb lt
      subst eb
      have lc : (chL ν.1 (nI i)).length = A.1.length := by rw [← c1, List.length_map]
      by_cases q2 : n < A.1.length
      · rw [if_neg (show ¬ nI A.1.length ≤ nI n from fun w => by have := (nI_leI hl lt).mp w; omega), if_neg (show ¬ (1 : Int32) = 0 by decide)]
        cases ek : (chL ν.1 (nI i))[n]? with
        | none => have := List.getElem?_eq_none_iff.mp ek; omega
        | some k =>
          have ea : A.1[n]? = some (agS (ν.1.getD k sl0)) := by rw [← c1, List.getElem?_map, ek]; rfl
          have eg : A.1.getD n (0, [], [], []) = agS (ν.1.getD k sl0) := by rw [List.getD_eq_getElem?_getD, ea]; rfl
          rw [eg]
          have kk := c2 k (List.mem_of_getElem? ek)
          have spk := sp _ (T_at kk.1)
          show sg1 ν k x3 = _
          unfold sg1
          have e3 := lv_R (st := ν.2.1 5) d ho nb ev (i_16 (by omega)) pk ek
          have e5 := (upr.hol hy.2 ⟨spk.2.2.2.1.1, spk.2.2.2.1.2.1⟩).1
          have e5 : nI (hoU (ν.2.1 5) (ν.1.getD k sl0)) = bcX (mskL (lHo (ν.1.getD k sl0)) &&& nI (upN (tSv (fSt F)))) := by rw [e5, hoU_c]
          have e2 : usT (lEn (ν.1.getD k sl0)) = unsA (enS (lEn (ν.1.getD k sl0))) := usT_S spk.2.2.1
          have e1 : (lEn (ν.1.getD k sl0)).length = (agS (ν.1.getD k sl0)).2.2.1.length := (endL_len _ _).symm
          rw [e3, e5, e2, e1]
          rfl
      · rw [if_pos (nI_le (by omega) lt), if_pos rfl, List.getElem?_eq_none (by omega)]
        rfl
end SQ
