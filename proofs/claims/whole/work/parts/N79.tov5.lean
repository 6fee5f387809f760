-- the model's room: a tablet is taken over (T has at most 5700 slots all along)
section
variable {x x' v xr : Int32} {A A' B D : alT} {k e i j N U rep nm m c n up L M t r a : Nat} {p : pT} {l rd : List pT} {ky : Int32} {y : Nat → Nat} {S S' : stA} {μ μ' : mT} {de d : List (alT × Int32)} {ps : psT}
theorem sLN_cg (ed : (tDe S').map (·.1) = (tDe S).map (·.1)) (ef : ∀ k, sL2 ((tSv S').getD k sr0) = sL2 ((tSv S).getD k sr0)) : sLN y S' = sLN y S := by
  unfold sLN
  have e1 : ∀ d : List (alT × Int32), (d.map (fun d => d.1.1.length)).sum = ((d.map (·.1)).map (fun z : alT => z.1.length)).sum := fun d => by rw [List.map_map]; rfl
  rw [e1, e1, ed]
  congr 1
  exact sm_cg _ (fun k _ => ef k)
theorem sf_l2 : sL2 ((tSv (sfS S i v)).getD k sr0) = sL2 ((tSv S).getD k sr0) := by
  show sL2 (((tSv S).set i (sfX ((tSv S).getD i sr0) v)).getD k sr0) = _
  by_cases w : i = k
  · subst w
    by_cases l : i < (tSv S).length
    · rw [gd_eq l]; rfl
    · rw [List.set_eq_of_length_le (by omega)]
  · rw [gd_ne w]
theorem sf_LN : sLN y (sfS S i v) = sLN y S := by
  have e : (tDe (sfS S i v)).map (·.1) = (tDe S).map (·.1) := rfl
  exact sLN_cg e (fun k => sf_l2)
theorem RI.apk {i0 : Nat} (h : RI y i0 5700 M de up j x S μ) (hi : i < y 20) : ApK y μ i := by
  obtain ⟨mr, gq, nm, hl, hm, hd, hu, hx⟩ := h
  exact ⟨mr.1, by rw [mr.nmE]; exact mr.2.2.1.2.1, by rw [mr.nmE]; exact mr.2.1.2.2.2, by omega, hdOK_R mr hi, hEm_R mr (by omega) hi⟩
theorem RI.ap5 (h : RI y i 5700 M de up j x S μ) (hi : i < y 20) (sl : sLN y S ≤ 5690) (hM : M + 2 ≤ 80000) (k3 : ¬ pKd p = 3) (pv : PV0 p) : RI y i 5700 (M + 2) de up j x (apS y i S p) (appM y μ i 1 (p, none) 8).1 := by
  have r := h.ap hi (by omega) hM k3 pv
  exact ⟨r.1, r.2.1, r.2.2.1, app_5 h.1 hi h.2.2.2.1 sl, r.2.2.2.2⟩
theorem tv_n5 (h : RI y i 5700 M de up j x S μ) (hi : i < y 20) (hj : j < de.length) (di : DI (de.getD j d0A).1) (hu : upH (nI up) (de.getD j d0A).1) (hs : ∀ n, n ≤ 6 → sLN y (apL y i S (mvN (psA (rdP (nI up) (de.getD j d0A).1)) (sLg ((tSv S).getD i sr0)) n)) ≤ 5690) (hM : M + 14 ≤ 80000) : ∀ n, n ≤ 6 → RI y i 5700 (M + 2 * n) de up j x (apL y i S (mvN (psA (rdP (nI up) (de.getD j d0A).1)) (sLg ((tSv S).getD i sr0)) n)) ((List.range n).foldl (toN y i x) μ) ∧ ∀ c, n ≤ c → c < 6 → ackA (allP (sLg ((tSv (apL y i S (mvN (psA (rdP (nI up) (de.getD j d0A).1)) (sLg ((tSv S).getD i sr0)) n))).getD i sr0))) (nI c) = ackA (allP (sLg ((tSv S).getD i sr0))) (nI c) := by
  intro n
  generalize hps : psA (rdP (nI up) (de.getD j d0A).1) = ps at hs ⊢
  induction n with
  | zero => intro _; exact ⟨h, fun c _ _ => rfl⟩
  | succ n ih =>
    intro hn
    obtain ⟨i1, i2⟩ := ih (by omega)
    have em : mvN ps (sLg ((tSv S).getD i sr0)) (n + 1) = mvN ps (sLg ((tSv S).getD i sr0)) n ++ (if ps.2.1 n ≤ ackA (allP (sLg ((tSv S).getD i sr0))) (nI n) then [] else [noteP n (ps.2.1 n)]) := by
      unfold mvN
      rw [List.range_succ, List.flatMap_append]
      congr 1
      show _ ++ [] = _
      rw [List.append_nil]
    rw [em, apL_app, rfl_s]
    have a2 := i2 n (Nat.le_refl _) (by omega)
    have sl := hs n (by omega)
    generalize apL y i S (mvN ps (sLg ((tSv S).getD i sr0)) n) = S1 at *
    generalize (List.range n).foldl (toN y i x) μ = μ1 at *
    have rd := (i1.reads hj di hu).2.1 n (by omega)
    rw [hps] at rd
    have oa := own_ac (ky := nI n) i1.1 hi
    rw [a2] at oa
    unfold toN
    rw [rd, oa]
    by_cases q : ps.2.1 n ≤ ackA (allP (sLg ((tSv S).getD i sr0))) (nI n)
    · rw [if_pos q, if_pos q]
      exact ⟨i1.mono (by omega) (by omega), fun c h1 h2 => i2 c (by omega) h2⟩
    · rw [if_neg q, if_neg q]
      obtain ⟨li, an⟩ := i1.li hi
      refine ⟨(i1.ap5 (p := noteP n (ps.2.1 n)) hi sl (by omega) (show ¬ (1 : Int32) = 3 by decide) (nt_V (a := ps.2.1 n) (show n < 6 by omega))).mono (by omega) (by omega), fun c h1 h2 => ?_⟩
      have ir : irr (nI c) (noteP n (ps.2.1 n)) := Or.inr (fun w => by
        have w : nI n = nI c := w
        have := nI_inj (by omega) (by omega) w
        omega)
      exact (aps_ack i1.1 hi li an ir).trans (i2 c (by omega) h2)
theorem tv_b5 (h : RI y i 5700 M de up j x S μ) (hi : i < y 20) (hj : j < de.length) (ht : t < 8) (di : DI (de.getD j d0A).1) (hu : upH (nI up) (de.getD j d0A).1) (hs : ∀ n, n ≤ 8 → sLN y (apL y i S (mvO (psA (rdP (nI up) (de.getD j d0A).1)) t n)) ≤ 5690) (hM : M + 18 ≤ 80000) : ∀ n, n ≤ 8 → RI y i 5700 (M + 2 * n) de up j x (apL y i S (mvO (psA (rdP (nI up) (de.getD j d0A).1)) t n)) ((List.range n).foldl (toB y i x t) μ) := by
  intro n
  induction n with
  | zero => intro _; exact h
  | succ n ih =>
    intro hn
    have i1 := ih (by omega)
    have em : mvO (psA (rdP (nI up) (de.getD j d0A).1)) t (n + 1) = mvO (psA (rdP (nI up) (de.getD j d0A).1)) t n ++ ((psA (rdP (nI up) (de.getD j d0A).1)).2.2.1 (t * 8 + n)).toList := by
      unfold mvO
      rw [List.range_succ, List.flatMap_append]
      congr 1
      show _ ++ [] = _
      rw [List.append_nil]
    rw [em, apL_app, rfl_s]
    have sl := hs n (by omega)
    generalize apL y i S (mvO (psA (rdP (nI up) (de.getD j d0A).1)) t n) = S1 at *
    generalize (List.range n).foldl (toB y i x t) μ = μ1 at *
    have rd := (i1.reads hj di hu).2.2.1 (8 * t + n) (by omega)
    rw [show t * 8 + n = 8 * t + n by omega]
    unfold toB
    cases eo : obM μ1 x (nI (8 * t + n)) with
    | none =>
      rw [eo] at rd
      rw [← rd]
      exact i1.mono (by omega) (by omega)
    | some q =>
      rw [eo] at rd
      have rd : some (ptM μ1 q) = _ := rd
      obtain ⟨pv, k2⟩ := ps_oV di (show 8 * t + n < 64 by omega) rd.symm
      rw [← rd]
      exact (i1.ap5 (p := ptM μ1 q) hi sl (by omega) (by rw [k2]; decide) pv).mono (by omega) (by omega)
/-- one client's RESULTS -/
theorem tv_r5 (h : RI y i 5700 M de up j x S μ) (hi : i < y 20) (hj : j < de.length) (ht : t < 8) (hc : c < 6) (di : DI (de.getD j d0A).1) (hu : upH (nI up) (de.getD j d0A).1) (hs : ∀ n, n ≤ 40 → sLN y (apL y i S ((List.range n).flatMap (fun m => mvRf (psA (rdP (nI up) (de.getD j d0A).1)) t (c * 40 + m)))) ≤ 5690) (hM : M + 82 ≤ 80000) (ha : acM μ x (nI c) = nI a) (ha1 : 1 ≤ a) (ha2 : a < 2 ^ 31) : ∀ n, n ≤ 40 → RI y i 5700 (M + 2 * n) de up j x (apL y i S ((List.range n).flatMap (fun m => mvRf (psA (rdP (nI up) (de.getD j d0A).1)) t (c * 40 + m)))) (((List.range' a (41 - a)).take (n + 1 - a)).foldl (toR y i x t c) μ) := by
  intro n
  induction n with
  | zero =>
    intro _
    have : (List.range' a (41 - a)).take (0 + 1 - a) = [] := by rw [show 0 + 1 - a = 0 by omega, List.take_zero]
    rw [this]
    exact h
  | succ n ih =>
    intro hn
    have i1 := ih (by omega)
    rw [List.range_succ, List.flatMap_append, apL_app]
    have e1 : List.flatMap (fun m => mvRf (psA (rdP (nI up) (de.getD j d0A).1)) t (c * 40 + m)) [n] = mvRf (psA (rdP (nI up) (de.getD j d0A).1)) t (c * 40 + n) := by
      show _ ++ [] = _
      rw [List.append_nil]
    rw [e1]
    -- ACKED of the dead LOG, as the class has it
    have eac : (psA (rdP (nI up) (de.getD j d0A).1)).2.1 c = nI a := by rw [← (h.reads hj di hu).2.1 c hc]; exact ha
    by_cases q : a ≤ n + 1
    · have e2 : (List.range' a (41 - a)).take (n + 1 + 1 - a) = (List.range' a (41 - a)).take (n + 1 - a) ++ [n + 1] := by
        rw [show n + 1 + 1 - a = (n + 1 - a) + 1 by omega, List.take_succ_eq_append_getElem (by rw [List.length_range']; omega), List.getElem_range', Nat.one_mul, show a + (n + 1 - a) = n + 1 by omega]
      rw [e2, List.foldl_append, List.foldl_cons, List.foldl_nil]
      have sl := hs n (by omega)
      generalize apL y i S ((List.range n).flatMap (fun m => mvRf (psA (rdP (nI up) (de.getD j d0A).1)) t (c * 40 + m))) = S1 at *
      generalize ((List.range' a (41 - a)).take (n + 1 - a)).foldl (toR y i x t c) μ = μ1 at *
      have rd := (i1.reads hj di hu).2.2.2 c (n + 1) hc (by omega) (by omega)
      rw [show c * 40 + (n + 1) - 1 = c * 40 + n by omega] at rd
      unfold toR mvRf
      cases eo : reM μ1 x (nI c) (nI (n + 1)) with
      | none =>
        rw [eo] at rd
        rw [← rd]
        exact i1.mono (by omega) (by omega)
      | some w =>
        rw [eo] at rd
        have rd : some (ptM μ1 w) = _ := rd
        obtain ⟨pv, k4, kc, kn⟩ := ps_rV di (n := n + 1) hc (by omega) (by omega) (by rw [show c * 40 + (n + 1) - 1 = c * 40 + n by omega]; exact rd.symm)
        have kd : cel μ1 w 0 = 5 := reM_k2 eo i1.1
        have ky : cel μ1 w 3 = pKy (ptM μ1 w) := ptM_y kd
        rw [← rd]
        dsimp only
        have nl : ¬ pNu (ptM μ1 w) < (psA (rdP (nI up) (de.getD j d0A).1)).2.1 (pCl (ptM μ1 w)).toNatClampNeg := by
          rw [kc, kn, nI_clamp (by omega), eac]
          exact Int32.not_lt.mpr (nI_le q (by omega))
        rw [ky]
        by_cases q2 : pKy (ptM μ1 w) / 8 = nI t
        · rw [if_pos q2, if_neg (show ¬ ¬ pKy (ptM μ1 w) / 8 = nI t from fun z => z q2), if_neg nl]
          exact (i1.ap5 (p := ptM μ1 w) hi sl (by omega) (by rw [k4]; decide) pv).mono (by omega) (by omega)
        · rw [if_neg q2, if_pos q2]
          exact i1.mono (by omega) (by omega)
    · have e2 : (List.range' a (41 - a)).take (n + 1 + 1 - a) = (List.range' a (41 - a)).take (n + 1 - a) := by
        rw [show n + 1 + 1 - a = 0 by omega, show n + 1 - a = 0 by omega]
      rw [e2]
      have e3 : mvRf (psA (rdP (nI up) (de.getD j d0A).1)) t (c * 40 + n) = [] := by
        unfold mvRf
        cases er : (psA (rdP (nI up) (de.getD j d0A).1)).2.2.2 (c * 40 + n) with
        | none => rfl
        | some p =>
          obtain ⟨pv, k4, kc, kn⟩ := ps_rV di (n := n + 1) hc (by omega) (by omega) (by rw [show c * 40 + (n + 1) - 1 = c * 40 + n by omega]; exact er)
          dsimp only
          split
          · rfl
          · rw [if_pos]
            rw [kc, kn, nI_clamp (by omega), eac]
            exact nI_lt (by omega) ha2
      rw [e3]
      exact i1.mono (by omega) (by omega)
theorem RI.tkP5 (h : RI y i 5700 M de up j x S μ) (hi : i < y 20) (sl : sLN y S ≤ 5690) (hM : M + 2 ≤ 80000) : RI y i 5700 (M + 2) de up j x (tk2 y (grM μ x) S i) (to1 y μ i x) := by
  have li := h.li hi
  have h0 := h
  obtain ⟨mr, gq, nm, hl, hm, hd, hu, hx⟩ := h
  have ls : i < (tSv S).length := by rw [mr.2.1.1]; exact hi
  have a4 := (mr.2.2.2.2.1 i hi).1.2.2.2.1
  unfold tk2 to1
  rw [a4]
  by_cases q : grM μ x ≤ sSf ((tSv S).getD i sr0)
  · rw [if_pos q, if_pos q]
    exact h0.mono (by omega) (by omega)
  · rw [if_neg q, if_neg q]
    have m1 := mr.sf (v := grM μ x) hi
    have el : sLg ((tSv (sfS S i (grM μ x))).getD i sr0) = sLg ((tSv S).getD i sr0) := set_lg (f := fun z => sfX z (grM μ x)) (fun _ => rfl) ls
    have sl1 : sLN y (sfS S i (grM μ x)) ≤ 5690 := by
      have := sf_LN (y := y) (S := S) (i := i) (v := grM μ x)
      omega
    have li1 : LI (tNm (sfS S i (grM μ x))) (sLg ((tSv (sfS S i (grM μ x))).getD i sr0)) := by rw [el]; exact li.1
    have nmO := opnA_nm (N := y 20) (U := y 22) (rep := y 21) (mem := y 23) (up := nI (upN (tSv (sfS S i (grM μ x))))) (aw := tAw (sfS S i (grM μ x))) (nm := tNm (sfS S i (grM μ x))) (i := i) (safe := sSf ((tSv (sfS S i (grM μ x))).getD i sr0)) (lim := 0) li1.2
    have nmO : (∀ u ∈ (opnS y (sfS S i (grM μ x)) i 0).1.1, u.1 < (opnS y (sfS S i (grM μ x)) i 0).2.1) ∧ tNm S ≤ (opnS y (sfS S i (grM μ x)) i 0).2.1 ∧ (opnS y (sfS S i (grM μ x)) i 0).2.1 ≤ tNm S + 2 := nmO
    have ls1 : i < (tSv (sfS S i (grM μ x))).length := by show i < ((tSv S).set i _).length; rw [List.length_set]; exact ls
    obtain ⟨m2, -⟩ := opn_R (lim := 0) (xr := 1) m1 hi li1 ⟨fun w => absurd rfl w, fun w => absurd w (by decide)⟩ (by omega)
    refine ⟨m2, opn_GQ m1 hi gq dg_V, ?_, opn_5 m1 hi hl sl1, by show (opnS y (sfS S i (grM μ x)) i 0).2.1 ≤ _; omega, hd, ?_, ?_⟩
    · intro i' hi'
      by_cases w : i' = i
      · subst w; rw [rm_lg ls1]; exact nmO.1
      · have e1 : (tSv (rmW (sfS S i (grM μ x)) i (opnS y (sfS S i (grM μ x)) i 0))).getD i' sr0 = (tSv S).getD i' sr0 := by
          show (((tSv S).set i _).set i _).getD i' sr0 = _
          rw [List.getD_eq_getElem?_getD, List.getElem?_set_ne (fun u => w u.symm), List.getElem?_set_ne (fun u => w u.symm), ← List.getD_eq_getElem?_getD]
        rw [e1]
        exact fun u hu => Nat.lt_of_lt_of_le (nm i' hi' u hu) nmO.2.1
    · have e1 : upN (tSv (rmW (sfS S i (grM μ x)) i (opnS y (sfS S i (grM μ x)) i 0))) = upN (tSv (sfS S i (grM μ x))) := upN_st (tSv (sfS S i (grM μ x))) i (stLg ((tSv (sfS S i (grM μ x))).getD i sr0) _) rfl
      have e2 : upN (tSv (sfS S i (grM μ x))) = upN (tSv S) := upN_st (tSv S) i (sfX ((tSv S).getD i sr0) (grM μ x)) rfl
      exact (e1.trans e2).trans hu
    · exact (opn_row (by decide)).trans hx
theorem tv_c5 (h : RI y i 5700 M de up j x S μ) (hi : i < y 20) (hj : j < de.length) (ht : t < 8) (di : DI (de.getD j d0A).1) (hu : upH (nI up) (de.getD j d0A).1) (hs : ∀ n m, n < 6 → m ≤ 40 → sLN y (apL y i S ((List.range (40 * n)).flatMap (mvRf (psA (rdP (nI up) (de.getD j d0A).1)) t) ++ (List.range m).flatMap (fun m => mvRf (psA (rdP (nI up) (de.getD j d0A).1)) t (n * 40 + m)))) ≤ 5690) (hM : M + 482 ≤ 80000) : ∀ n, n ≤ 6 → RI y i 5700 (M + 80 * n) de up j x (apL y i S ((List.range (40 * n)).flatMap (mvRf (psA (rdP (nI up) (de.getD j d0A).1)) t))) ((List.range n).foldl (toC y i x t) μ) := by
  intro n
  induction n with
  | zero => intro _; exact h
  | succ n ih =>
    intro hn
    have i1 := ih (by omega)
    rw [mvR_b, apL_app, rfl_s]
    have sl := fun m hm => hs n m (by omega) hm
    simp only [apL_app] at sl
    generalize apL y i S ((List.range (40 * n)).flatMap (mvRf (psA (rdP (nI up) (de.getD j d0A).1)) t)) = S1 at *
    generalize (List.range n).foldl (toC y i x t) μ = μ1 at *
    have eb := nI_back (x := acM μ1 x (nI n)) (Int32.le_trans (by decide) acM_ge)
    have lt := clN_lt (acM μ1 x (nI n))
    have ge1 : 1 ≤ (acM μ1 x (nI n)).toNatClampNeg := by
      have g := acM_ge (μ := μ1) (x := x) (x1 := nI n)
      rw [eb, show (1 : Int32) = nI 1 from rfl, nI_leI (by decide) (by omega)] at g
      exact g
    have eC : toC y i x t μ1 n = ((List.range' (acM μ1 x (nI n)).toNatClampNeg (41 - (acM μ1 x (nI n)).toNatClampNeg)).take (40 + 1 - (acM μ1 x (nI n)).toNatClampNeg)).foldl (toR y i x t n) μ1 := by
      rw [List.take_of_length_le (by rw [List.length_range']; exact Nat.le_refl _)]; rfl
    rw [eC]
    exact (tv_r5 (a := (acM μ1 x (nI n)).toNatClampNeg) i1 hi hj ht (by omega) di hu sl (by omega) eb ge1 lt 40 (Nat.le_refl _)).mono (by omega) (by omega)
theorem fm_pre {f : Nat → List pT} {N : Nat} (h : n ≤ N) : ∃ r, (List.range N).flatMap f = (List.range n).flatMap f ++ r := by
  rw [show N = n + (N - n) by omega, List.range_add, List.flatMap_append]
  exact ⟨_, rfl⟩
theorem mvR_pre {f : Nat → List pT} : (List.range (40 * n)).flatMap f ++ (List.range m).flatMap (fun m => f (n * 40 + m)) = (List.range (40 * n + m)).flatMap f := by
  rw [List.range_add, List.flatMap_append, List.flatMap_map, show 40 * n = n * 40 by omega]
theorem tkS_5 (h : RI y i 5700 M de up j x S μ) (hi : i < y 20) (hj : j < de.length) (ht : t < 8) (tb : ∃ b, b < 256 ∧ sTb ((tSv S).getD i sr0) = nI b) (di : DI (de.getD j d0A).1) (hu : upH (nI up) (de.getD j d0A).1) (hM : M + 520 ≤ 80000) (s1 : sLN y (tk1 S i t) ≤ 5690) (s2 : ∀ l l2, movA (psA (rdP (nI up) (de.getD j d0A).1)) (sLg ((tSv (tk2 y (psA (rdP (nI up) (de.getD j d0A).1)).1 (tk1 S i t) i)).getD i sr0)) t = l ++ l2 → sLN y (apL y i (tk2 y (psA (rdP (nI up) (de.getD j d0A).1)).1 (tk1 S i t) i) l) ≤ 5690) : RI y i 5700 (M + 510) de up j x (tkS y (psA (rdP (nI up) (de.getD j d0A).1)) S i t) (tovM y μ i t x) ∧ toOK y μ i t x := by
  have h1 := h.tkO hi ht tb
  have h2 := h1.tkP5 hi s1 (by omega)
  rw [(h1.reads hj di hu).1] at h2
  unfold tkS
  generalize tk2 y (psA (rdP (nI up) (de.getD j d0A).1)).1 (tk1 S i t) i = S2 at *
  unfold movA at s2 ⊢
  have sn : ∀ n, n ≤ 6 → sLN y (apL y i S2 (mvN (psA (rdP (nI up) (de.getD j d0A).1)) (sLg ((tSv S2).getD i sr0)) n)) ≤ 5690 := fun n hn => by
    obtain ⟨r, e⟩ := fm_pre (f := fun c => if (psA (rdP (nI up) (de.getD j d0A).1)).2.1 c ≤ ackA (allP (sLg ((tSv S2).getD i sr0))) (nI c) then [] else [noteP c ((psA (rdP (nI up) (de.getD j d0A).1)).2.1 c)]) hn
    refine s2 (mvN (psA (rdP (nI up) (de.getD j d0A).1)) (sLg ((tSv S2).getD i sr0)) n) (r ++ mvO (psA (rdP (nI up) (de.getD j d0A).1)) t 8 ++ mvR (psA (rdP (nI up) (de.getD j d0A).1)) t 240) ?_
    have e : mvN (psA (rdP (nI up) (de.getD j d0A).1)) (sLg ((tSv S2).getD i sr0)) 6 = mvN (psA (rdP (nI up) (de.getD j d0A).1)) (sLg ((tSv S2).getD i sr0)) n ++ r := e
    rw [e, List.append_assoc, List.append_assoc, List.append_assoc]
  have hn5 := tv_n5 h2 hi hj di hu sn (by omega)
  have h3 := (hn5 6 (Nat.le_refl _)).1
  have sb : ∀ n, n ≤ 8 → sLN y (apL y i (apL y i S2 (mvN (psA (rdP (nI up) (de.getD j d0A).1)) (sLg ((tSv S2).getD i sr0)) 6)) (mvO (psA (rdP (nI up) (de.getD j d0A).1)) t n)) ≤ 5690 := fun n hn => by
    obtain ⟨r, e⟩ := fm_pre (f := fun j' => ((psA (rdP (nI up) (de.getD j d0A).1)).2.2.1 (t * 8 + j')).toList) hn
    rw [← apL_app]
    refine s2 _ (r ++ mvR (psA (rdP (nI up) (de.getD j d0A).1)) t 240) ?_
    have e : mvO (psA (rdP (nI up) (de.getD j d0A).1)) t 8 = mvO (psA (rdP (nI up) (de.getD j d0A).1)) t n ++ r := e
    rw [e, List.append_assoc, List.append_assoc, List.append_assoc]
  have hb5 := tv_b5 h3 hi hj ht di hu sb (by omega)
  have h4 := hb5 8 (Nat.le_refl _)
  have sc : ∀ n m, n < 6 → m ≤ 40 → sLN y (apL y i (apL y i (apL y i S2 (mvN (psA (rdP (nI up) (de.getD j d0A).1)) (sLg ((tSv S2).getD i sr0)) 6)) (mvO (psA (rdP (nI up) (de.getD j d0A).1)) t 8)) ((List.range (40 * n)).flatMap (mvRf (psA (rdP (nI up) (de.getD j d0A).1)) t) ++ (List.range m).flatMap (fun m => mvRf (psA (rdP (nI up) (de.getD j d0A).1)) t (n * 40 + m)))) ≤ 5690 := fun n m hn hm => by
    rw [← apL_app, ← apL_app, mvR_pre]
    obtain ⟨r, e⟩ := fm_pre (f := mvRf (psA (rdP (nI up) (de.getD j d0A).1)) t) (n := 40 * n + m) (N := 240) (by omega)
    refine s2 _ r ?_
    have e : mvR (psA (rdP (nI up) (de.getD j d0A).1)) t 240 = (List.range (40 * n + m)).flatMap (mvRf (psA (rdP (nI up) (de.getD j d0A).1)) t) ++ r := e
    rw [e]
    simp only [List.append_assoc]
  have hc5 := tv_c5 h4 hi hj ht di hu sc (by omega)
  have h5 := hc5 6 (Nat.le_refl _)
  refine ⟨?_, h1.apk hi, fun j' hj' => ?_, fun j' hj' => ?_, fun j' i' hj' hi' => ?_⟩
  · rw [apL_app, apL_app]
    exact RI.mono h5 (Nat.le_refl _) (by omega)
  · exact RI.apk (hn5 j' (by omega)).1 hi
  · exact RI.apk (hb5 j' (by omega)) hi
  · have r3 := hc5 j' (by omega)
    have r3 : RI y i 5700 _ de up j x _ (tov3 y μ i t x j') := r3
    have sl := fun m hm => sc j' m hj' hm
    simp only [apL_app] at sl
    unfold toL at hi' ⊢
    generalize tov3 y μ i t x j' = μ1 at *
    rw [List.length_range'] at hi'
    have eb := nI_back (x := acM μ1 x (nI j')) (Int32.le_trans (by decide) acM_ge)
    have lt := clN_lt (acM μ1 x (nI j'))
    have ge1 : 1 ≤ (acM μ1 x (nI j')).toNatClampNeg := by
      have g := acM_ge (μ := μ1) (x := x) (x1 := nI j')
      rw [eb, show (1 : Int32) = nI 1 from rfl, nI_leI (by decide) (by omega)] at g
      exact g
    have := tv_r5 (a := (acM μ1 x (nI j')).toNatClampNeg) r3 hi hj ht (by omega) di hu sl (by omega) eb ge1 lt (i' + (acM μ1 x (nI j')).toNatClampNeg - 1) (by omega)
    rw [show i' + (acM μ1 x (nI j')).toNatClampNeg - 1 + 1 - (acM μ1 x (nI j')).toNatClampNeg = i' by omega] at this
    exact RI.apk this hi
end
