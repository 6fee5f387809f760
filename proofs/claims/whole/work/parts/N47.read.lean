/-! the two sides: a server reads -/
section RE
variable {x x1 x2 x3 x4 x5 v ky xr : Int32} {k e i j N t r f n c p d m cc : Nat} {y : Nat → Nat} {S S' : stA} {μ μ' : mT} {F F' : fcT} {xx : msT} {an : anT} {en : enT}
theorem opn_num (h1 : ¬ k = 16) (h2 : ¬ k = 17) : (opnM y μ i xr).1.2.2 k = μ.2.2 k := by
  have o2 : (opn2 y μ i).2.2 k = μ.2.2 k := by
    unfold opn2
    split
    · rfl
    · show (if k = 17 then _ else if k = 16 then _ else μ.2.2 k) = μ.2.2 k
      rw [if_neg h2, if_neg h1]
  rcases opn_3 (y := y) (μ := μ) (i := i) (xr := xr) with e | e | e
  · rw [e]
  · rw [e]; exact o2
  · rw [e]
    show (if k = 16 then _ else (opn2 y μ i).2.2 k) = _
    rw [if_neg h1]; exact o2
theorem app_num (h1 : ¬ k = 16) (h2 : ¬ k = 17) (h3 : ¬ k = 19) : (appM y μ i xr en cc).1.2.2 k = μ.2.2 k := by
  have a1 : (ap1 y μ i xr en).1.2.2 k = μ.2.2 k := by
    unfold ap1
    split
    · exact opn_num h1 h2
    · rfl
  unfold appM
  split
  · exact a1
  · show (if k = 19 then _ else (ap1 y μ i xr en).1.2.2 k) = _
    rw [if_neg h3]; exact a1
theorem rd1_row (h : ¬ r = 10) : (rd1 y μ i).1.2.1 r k = μ.2.1 r k := by
  unfold rd1
  split
  · rfl
  · exact opn_row h
theorem rd1_num (h1 : ¬ k = 16) (h2 : ¬ k = 17) : (rd1 y μ i).1.2.2 k = μ.2.2 k := by
  unfold rd1
  split
  · rfl
  · exact opn_num h1 h2
theorem read_R (h : FR y F μ) (hT : μ.1.length < 2 ^ 31) (hi : i < y 20) (hp : p < 40) (ex : fNt F p = some xx) (li : LI (tNm (fSt F)) (sLg ((tSv (fSt F)).getD i sr0))) (hu : HU (y 22) (sLg ((tSv (fSt F)).getD i sr0))) (hnm : (mkrS y (fSt F) i 0 1).2.1 ≤ 80000) (uq : UQ (allP (mkrS y (fSt F) i 0 1).1)) (v1 : vr1 (allP (mkrS y (fSt F) i 0 1).1)) : FR y (netA (rdA y F i ky).1 p (some (xx.1, xx.2.1, xx.2.2.1, none, some (rdA y F i ky).2))) (reaM y μ p i ky) := by
  obtain ⟨m1, m2⟩ := rd_R h.1 hT hi li hu hnm
  have fr : FR y (setS F (rmW (fSt F) i (mkrS y (fSt F) i 0 1))) (rd1 y μ i).1 := h.st m1 (fun r k h1 _ => rd1_row (by omega)) (rd1_num (by decide) (by decide)) (rd1_num (by decide) (by decide))
  have ls : i < (tSv (fSt F)).length := by rw [h.1.2.1.1]; exact hi
  have el := rm_lg (W := mkrS y (fSt F) i 0 1) ls
  have ob := own_ob (ky := ky) m1 hi (by rw [el]; exact uq) (by rw [el]; exact v1)
  rw [el] at ob
  unfold reaM rdA
  rw [m2]
  by_cases w : (mkrS y (fSt F) i 0 1).2.2.2 = 0
  · rw [if_pos w, if_pos w]
    exact ans_R (an := (4, 0, 0)) fr hp ex
  · rw [if_neg w, if_neg w]
    cases eo : obM (rd1 y μ i).1 (nI i) ky with
    | none =>
      rw [eo] at ob
      rw [← ob]
      exact ans_R (an := (1, 0, 0)) fr hp ex
    | some q =>
      rw [eo] at ob
      have nz : ¬ cel (rd1 y μ i).1 q 0 = 0 := by rw [obM_k2 eo m1]; decide
      rw [← ob]
      have := ans_R (an := (0, pVa (ptM (rd1 y μ i).1 q), pVe (ptM (rd1 y μ i).1 q))) fr hp ex
      show FR y _ (ansM (rd1 y μ i).1 p 0 (cel (rd1 y μ i).1 q 5) (cel (rd1 y μ i).1 q 6))
      rw [ptM_f nz 5, ptM_f nz 6]
      exact this
/-- what a change writes beside its RESULT -/
def efE (d : Option ptT) (R : pT) : enT := match d with
  | none => (R, none)
  | some w => ((w, if w.1 = 3 then 0 else -1), some R)
theorem chg_F (h : FR y F μ) (hT : μ.1.length < 2 ^ 31 - 9) (hi : i < y 20) (li : LI (tNm (fSt F)) (sLg ((tSv (fSt F)).getD i sr0))) {dq : Option ptT} {R : pT} (hR : pKd R = 4) (hd : ∀ w, dq = some w → w.1 = 2 ∨ w.1 = 3) (hnm : (chW y (fSt F) i dq).2.1 ≤ 80000) (hcu : sCu ((tSv (fSt F)).getD i sr0) = -1 ∨ ∃ k, k ≤ 3 ∧ sCu ((tSv (fSt F)).getD i sr0) = nI k) (uq : UQ (allP (chW y (fSt F) i dq).1)) (v1 : vr1 (allP (chW y (fSt F) i dq).1)) (hh : ∀ w, dq = some w → w.1 = 3 → ¬ (chW y (fSt F) i dq).2.2.2 = 0 → ∃ u, (homA w.2.2.2.1 (chW y (fSt F) i dq).1.1).2 = some u) : (appM y μ i 0 (efE dq R) (wrC μ i)).2 = (chW y (fSt F) i dq).2.2.2 ∧ ((chW y (fSt F) i dq).2.2.2 = 0 → MR y (rmW (fSt F) i (chW y (fSt F) i dq)) (appM y μ i 0 (efE dq R) (wrC μ i)).1) ∧ (¬ (chW y (fSt F) i dq).2.2.2 = 0 → MR y (wrS (rmW (fSt F) i (chW y (fSt F) i dq)) i ((dq.map (effQ (chW y (fSt F) i dq).1.1)).toList ++ [R]) (cpN (sCu ((tSv (fSt F)).getD i sr0)))) (appM y μ i 0 (efE dq R) (wrC μ i)).1) := by
  have mr := h.1
  have ls : i < (tSv (fSt F)).length := by rw [mr.2.1.1]; exact hi
  have a6 := (mr.2.2.2.2.1 i hi).1.2.2.2.2.2
  have cp := (cp_eq hcu a6).1
  have R1 : ¬ pKd R = -1 := by rw [hR]; decide
  have R3 : ¬ mPt R 0 = 4 := fun w => by
    have := (kd_1 (v := 3) (by decide)).mp w
    rw [hR] at this
    exact absurd this (by decide)
  have hun : ∃ u0, unT (efE dq R) = nI u0 ∧ unQ dq = nI u0 ∧ u0 ≤ 4 := by
    have uR : mU (mPt R 0) = 1 := by rw [mU_K R1, hR]; rfl
    cases dq with
    | none => exact ⟨1, by show mU (mPt R 0) + 0 = _; rw [uR]; rfl, rfl, by decide⟩
    | some w =>
      obtain ⟨u, u1, u2, u3⟩ := kU_12 w.1
      have kw : mU (mPt ((w, if w.1 = 3 then 0 else -1) : pT) 0) = kU w.1 := by
        have := mU_K (p := (w, if w.1 = 3 then 0 else -1)) (fun z => by
          have z : w.1 = -1 := z
          rcases hd w rfl with q | q <;> rw [q] at z <;> exact absurd z (by decide))
        exact this
      refine ⟨u + 1, ?_, ?_, by omega⟩
      · show mU (mPt ((w, if w.1 = 3 then 0 else -1) : pT) 0) + mU (mPt R 0) = _
        rw [kw, uR, u1, show (1 : Int32) = nI 1 from rfl, nI_add]
      · show 1 + kU w.1 = _
        rw [u1, show (1 : Int32) = nI 1 from rfl, nI_add, Nat.add_comm]
  obtain ⟨u0, e1, e2, e3⟩ := hun
  have nz : ¬ mPt (efE dq R).1 0 = 0 := fun z => by
    have z := (kd_1 (v := -1) (by decide)).mp z
    cases dq with
    | none => exact R1 z
    | some w =>
      have z : w.1 = -1 := z
      rcases hd w rfl with q | q <;> rw [q] at z <;> exact absurd z (by decide)
  unfold chW at hnm uq v1 hh ⊢
  rw [e2] at hnm uq v1 hh ⊢
  have np : ¬ (mkrS y (fSt F) i (nI u0) 1).2.2.2 = 0 → enP (tmE (ap1 y μ i 0 (efE dq R)).1 i (efE dq R)) = (dq.map (effQ (mkrS y (fSt F) i (nI u0) 1).1.1)).toList ++ [R] ∧ enV (tmE (ap1 y μ i 0 (efE dq R)).1 i (efE dq R)) ∧ ∀ p ∈ (dq.map (effQ (mkrS y (fSt F) i (nI u0) 1).1.1)).toList ++ [R], ¬ pKd p = -1 := fun hs => by
    obtain ⟨m1, m2⟩ := mkr_R (lim := 1) (xr := 0) mr (by omega) hi li e1 e3 ⟨fun _ => rfl, fun _ => by decide⟩ hnm
    have el := rm_lg (W := mkrS y (fSt F) i (nI u0) 1) ls
    cases dq with
    | none =>
      have et : tmE (ap1 y μ i 0 (efE none R)).1 i (efE none R) = (R, none) := by unfold tmE; exact if_neg R3
      rw [et]
      exact ⟨rfl, (fun _ w => by cases w), fun p hp => by rw [List.mem_singleton.mp hp]; exact R1⟩
    | some w =>
      have kk : ∀ p ∈ ((some w).map (effQ (mkrS y (fSt F) i (nI u0) 1).1.1)).toList ++ [R], ¬ pKd p = -1 := fun p hp => by
        rcases List.mem_append.mp hp with z | z
        · have z : p = effQ (mkrS y (fSt F) i (nI u0) 1).1.1 w := List.mem_singleton.mp z
          rw [z]
          intro u
          have u : w.1 = -1 := u
          rcases hd w rfl with q | q <;> rw [q] at u <;> exact absurd u (by decide)
        · rw [List.mem_singleton.mp z]; exact R1
      have nv : ∀ (a : pT), enV ((a, some R) : enT) := fun a q hq => by
        have hq : some R = some q := hq
        cases hq
        rw [hR]; decide
      rcases hd w rfl with q | q
      · have n4 : ¬ mPt (efE (some w) R).1 0 = 4 := fun z => by
          have z := (kd_1 (v := 3) (by decide)).mp z
          have z : w.1 = 3 := z
          rw [q] at z
          exact absurd z (by decide)
        have et : tmE (ap1 y μ i 0 (efE (some w) R)).1 i (efE (some w) R) = efE (some w) R := by unfold tmE; exact if_neg n4
        have n3 : ¬ w.1 = 3 := by rw [q]; decide
        rw [et]
        refine ⟨?_, nv _, kk⟩
        show [((w, if w.1 = 3 then 0 else -1) : pT), R] = [((w, if w.1 = 3 then hmQ w.2.2.2.1 (mkrS y (fSt F) i (nI u0) 1).1.1 else -1) : pT), R]
        rw [if_neg n3, if_neg n3]
      · obtain ⟨u, hu⟩ := hh w rfl q hs
        obtain ⟨w0, o1, o2⟩ := home_R (ky := w.2.2.2.1) m1 hi (by rw [el]; exact uq) (by rw [el]; exact v1) (by rw [el]; exact hu)
        have y4 : mPt (efE (some w) R).1 0 = 4 := (kd_1 (v := 3) (by decide)).mpr q
        have y3 : mPt (efE (some w) R).1 3 = w.2.2.2.1 := if_neg (fun z => by
          have z : w.1 = 0 ∨ w.1 = 1 := z
          rw [q] at z
          rcases z with z | z <;> exact absurd z (by decide))
        have et : tmE (ap1 y μ i 0 (efE (some w) R)).1 i (efE (some w) R) = (((w, nI u.1) : pT), some R) := by
          unfold tmE
          rw [if_pos y4, y3, o1]
          show (((efE (some w) R).1.1, nI (lNm ((ap1 y μ i 0 (efE (some w) R)).1.1.getD w0.1 sl0))), some R) = _
          rw [o2]; rfl
        rw [et]
        refine ⟨?_, nv _, kk⟩
        show [((w, nI u.1) : pT), R] = [((w, if w.1 = 3 then hmQ w.2.2.2.1 (mkrS y (fSt F) i (nI u0) 1).1.1 else -1) : pT), R]
        have hq : hmQ w.2.2.2.1 (mkrS y (fSt F) i (nI u0) 1).1.1 = nI u.1 := by unfold hmQ; rw [hu]
        rw [if_pos q, hq]
  exact chg_R mr hT hi li e1 e3 nz hnm cp np
end RE
