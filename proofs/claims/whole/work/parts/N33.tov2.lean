/-! the two sides: a tablet is taken over; its OBJECTS and RESULTS -/
section TV2
variable {x x' v xr : Int32} {A A' B D : alT} {k e i j N U rep nm m c n up L M t r a : Nat} {p : pT} {l rd : List pT} {ky : Int32} {y : Nat → Nat} {S S' : stA} {μ μ' : mT} {de : List (alT × Int32)} {ps : psT}
theorem ps_oV (di : DI D) {up : Int32} (hk : k < 64) (e : (psA (rdP up D)).2.2.1 k = some p) : PV0 p ∧ pKd p = 2 := by
  obtain ⟨i1, i2, i3, i4, i5⟩ := dr_d (up := up) di
  rw [ps_ob i1 i4 i5 hk] at e
  unfold obS at e
  exact ⟨di.1 p (rd_sub.subset (List.mem_of_find?_eq_some e)), (obF_t.mp (List.find?_some e)).1⟩
theorem ps_rV (di : DI D) {up : Int32} (hc : c < 6) (h1 : 1 ≤ n) (h40 : n ≤ 40) (e : (psA (rdP up D)).2.2.2 (c * 40 + n - 1) = some p) : PV0 p ∧ pKd p = 4 ∧ pCl p = nI c ∧ pNu p = nI n := by
  obtain ⟨i1, i2, i3, i4, i5⟩ := dr_d (up := up) di
  rw [ps_re i2 i4 hc h1 h40] at e
  exact ⟨di.1 p (rd_sub.subset (List.mem_of_find?_eq_some e)), resA_t.mp (List.find?_some e)⟩
theorem tv_b (h : RI y i L M de up j x S μ) (hi : i < y 20) (hj : j < de.length) (ht : t < 8) (di : DI (de.getD j d0A).1) (hu : upH (nI up) (de.getD j d0A).1) (hL : L + 16 < 2 ^ 31 - 9) (hM : M + 18 ≤ 80000) : ∀ n, n ≤ 8 → RI y i (L + 2 * n) (M + 2 * n) de up j x (apL y i S (mvO (psA (rdP (nI up) (de.getD j d0A).1)) t n)) ((List.range n).foldl (toB y i x t) μ) := by
  intro n
  induction n with
  | zero => intro _; exact h
  | succ n ih =>
    intro hn
    have i1 := ih (by omega)
    have em : mvO (psA (rdP (nI up) (de.getD j d0A).1)) t (n + 1) = mvO (psA (rdP (nI up) (de.getD j d0A).1)) t n ++ ((psA (rdP (nI up) (de.getD j d0A).1)).2.2.1 (t * 8 + n)).toList := by
      unfold mvO
      rw [List.range_succ, List.flatMap_append]
      congr 1
      show _ ++ [] = _
      rw [List.append_nil]
    rw [em, apL_app, rfl_s]
    generalize apL y i S (mvO (psA (rdP (nI up) (de.getD j d0A).1)) t n) = S1 at *
    generalize (List.range n).foldl (toB y i x t) μ = μ1 at *
    have rd := (i1.reads hj di hu).2.2.1 (8 * t + n) (by omega)
    rw [show t * 8 + n = 8 * t + n by omega]
    unfold toB
    cases eo : obM μ1 x (nI (8 * t + n)) with
    | none =>
      rw [eo] at rd
      rw [← rd]
      exact i1.mono (by omega) (by omega)
    | some q =>
      rw [eo] at rd
      have rd : some (ptM μ1 q) = _ := rd
      obtain ⟨pv, k2⟩ := ps_oV di (show 8 * t + n < 64 by omega) rd.symm
      rw [← rd]
      exact (i1.ap (p := ptM μ1 q) hi (by omega) (by omega) (by rw [k2]; decide) pv).mono (by omega) (by omega)
/-- one client's RESULTS -/
theorem tv_r (h : RI y i L M de up j x S μ) (hi : i < y 20) (hj : j < de.length) (ht : t < 8) (hc : c < 6) (di : DI (de.getD j d0A).1) (hu : upH (nI up) (de.getD j d0A).1) (hL : L + 80 < 2 ^ 31 - 9) (hM : M + 82 ≤ 80000) (ha : acM μ x (nI c) = nI a) (ha1 : 1 ≤ a) (ha2 : a < 2 ^ 31) : ∀ n, n ≤ 40 → RI y i (L + 2 * n) (M + 2 * n) de up j x (apL y i S ((List.range n).flatMap (fun m => mvRf (psA (rdP (nI up) (de.getD j d0A).1)) t (c * 40 + m)))) (((List.range' a (41 - a)).take (n + 1 - a)).foldl (toR y i x t c) μ) := by
  intro n
  induction n with
  | zero =>
    intro _
    have : (List.range' a (41 - a)).take (0 + 1 - a) = [] := by rw [show 0 + 1 - a = 0 by omega, List.take_zero]
    rw [this]
    exact h
  | succ n ih =>
    intro hn
    have i1 := ih (by omega)
    rw [List.range_succ, List.flatMap_append, apL_app]
    have e1 : List.flatMap (fun m => mvRf (psA (rdP (nI up) (de.getD j d0A).1)) t (c * 40 + m)) [n] = mvRf (psA (rdP (nI up) (de.getD j d0A).1)) t (c * 40 + n) := by
      show _ ++ [] = _
      rw [List.append_nil]
    rw [e1]
    -- ACKED of the dead LOG, as the class has it
    have eac : (psA (rdP (nI up) (de.getD j d0A).1)).2.1 c = nI a := by rw [← (h.reads hj di hu).2.1 c hc]; exact ha
    by_cases q : a ≤ n + 1
    · have e2 : (List.range' a (41 - a)).take (n + 1 + 1 - a) = (List.range' a (41 - a)).take (n + 1 - a) ++ [n + 1] := by
        rw [show n + 1 + 1 - a = (n + 1 - a) + 1 by omega, List.take_succ_eq_append_getElem (by rw [List.length_range']; omega), List.getElem_range', Nat.one_mul, show a + (n + 1 - a) = n + 1 by omega]
      rw [e2, List.foldl_append, List.foldl_cons, List.foldl_nil]
      generalize apL y i S ((List.range n).flatMap (fun m => mvRf (psA (rdP (nI up) (de.getD j d0A).1)) t (c * 40 + m))) = S1 at *
      generalize ((List.range' a (41 - a)).take (n + 1 - a)).foldl (toR y i x t c) μ = μ1 at *
      have rd := (i1.reads hj di hu).2.2.2 c (n + 1) hc (by omega) (by omega)
      rw [show c * 40 + (n + 1) - 1 = c * 40 + n by omega] at rd
      unfold toR mvRf
      cases eo : reM μ1 x (nI c) (nI (n + 1)) with
      | none =>
        rw [eo] at rd
        rw [← rd]
        exact i1.mono (by omega) (by omega)
      | some w =>
        rw [eo] at rd
        have rd : some (ptM μ1 w) = _ := rd
        obtain ⟨pv, k4, kc, kn⟩ := ps_rV di (n := n + 1) hc (by omega) (by omega) (by rw [show c * 40 + (n + 1) - 1 = c * 40 + n by omega]; exact rd.symm)
        have kd : cel μ1 w 0 = 5 := reM_k2 eo i1.1
        have ky : cel μ1 w 3 = pKy (ptM μ1 w) := ptM_y kd
        rw [← rd]
        dsimp only
        have nl : ¬ pNu (ptM μ1 w) < (psA (rdP (nI up) (de.getD j d0A).1)).2.1 (pCl (ptM μ1 w)).toNatClampNeg := by
          rw [kc, kn, nI_clamp (by omega), eac]
          exact Int32.not_lt.mpr (nI_le q (by omega))
        rw [ky]
        by_cases q2 : pKy (ptM μ1 w) / 8 = nI t
        · rw [if_pos q2, if_neg (show ¬ ¬ pKy (ptM μ1 w) / 8 = nI t from fun z => z q2), if_neg nl]
          exact (i1.ap (p := ptM μ1 w) hi (by omega) (by omega) (by rw [k4]; decide) pv).mono (by omega) (by omega)
        · rw [if_neg q2, if_pos q2]
          exact i1.mono (by omega) (by omega)
    · have e2 : (List.range' a (41 - a)).take (n + 1 + 1 - a) = (List.range' a (41 - a)).take (n + 1 - a) := by
        rw [show n + 1 + 1 - a = 0 by omega, show n + 1 - a = 0 by omega]
      rw [e2]
      have e3 : mvRf (psA (rdP (nI up) (de.getD j d0A).1)) t (c * 40 + n) = [] := by
        unfold mvRf
        cases er : (psA (rdP (nI up) (de.getD j d0A).1)).2.2.2 (c * 40 + n) with
        | none => rfl
        | some p =>
          obtain ⟨pv, k4, kc, kn⟩ := ps_rV di (n := n + 1) hc (by omega) (by omega) (by rw [show c * 40 + (n + 1) - 1 = c * 40 + n by omega]; exact er)
          dsimp only
          split
          · rfl
          · rw [if_pos]
            rw [kc, kn, nI_clamp (by omega), eac]
            exact nI_lt (by omega) ha2
      rw [e3]
      exact i1.mono (by omega) (by omega)
end TV2
