/-! the two sides: a message delivered -/
section AR
variable {x v ky ak : Int32} {k e i j N t f n c p m cc : Nat} {y : Nat → Nat} {S S' : stA} {μ μ' : mT} {F F' : fcT} {xx : msT} {an : anT} {en : enT} {d : anT × Option ptT} {r : rqT} {w : Nat × Nat × Nat}
/-- what a server's work asks of the state -/
def dlI (y : Nat → Nat) (F : fcT) (i c n : Nat) : Prop := LI (tNm (fSt F)) (sLg ((tSv (fSt F)).getD i sr0)) ∧ HU (y 22) (sLg ((tSv (fSt F)).getD i sr0)) ∧ SvI ((tSv (fSt F)).getD i sr0) ∧ (UQ (allP (sLg ((tSv (fSt F)).getD i sr0))) ∧ vr1 (allP (sLg ((tSv (fSt F)).getD i sr0)))) ∧ ((mkrS y (fSt F) i 0 1).2.1 ≤ 80000 ∧ UQ (allP (mkrS y (fSt F) i 0 1).1) ∧ vr1 (allP (mkrS y (fSt F) i 0 1).1)) ∧ (chW y (fSt F) i (chD F i (rqF F c n)).2).2.1 ≤ 80000 ∧ UQ (allP (chW y (fSt F) i (chD F i (rqF F c n)).2).1) ∧ vr1 (allP (chW y (fSt F) i (chD F i (rqF F c n)).2).1) ∧ ∀ w, (chD F i (rqF F c n)).2 = some w → w.1 = 3 → ¬ (chW y (fSt F) i (chD F i (rqF F c n)).2).2.2.2 = 0 → ∃ u, (homA w.2.2.2.1 (chW y (fSt F) i (chD F i (rqF F c n)).2).1.1).2 = some u
theorem wri_R (h : FR y F μ) (hT : μ.1.length < 2 ^ 31 - 9) (hi : i < y 20) (hp : p < 40) (ex : fNt F p = some xx) (dl : dlI y F i xx.1 xx.2.1) : FR y (dlvZ (chgA y F i xx.1 xx.2.1 (rqF F xx.1 xx.2.1) xx.2.2.1) p xx).1 (wriM y μ p i xx.1 xx.2.1 (40 * xx.1 + xx.2.1 - 1) (rqF F xx.1 xx.2.1).2.1).1 ∧ (wriM y μ p i xx.1 xx.2.1 (40 * xx.1 + xx.2.1 - 1) (rqF F xx.1 xx.2.1).2.1).2 = (dlvZ (chgA y F i xx.1 xx.2.1 (rqF F xx.1 xx.2.1) xx.2.2.1) p xx).2 := by
  obtain ⟨li, hu, sv, ⟨uq, v1⟩, -, nm, uq2, v2, hh⟩ := dl
  have src := h.2.2.1 p hp
  rw [ex] at src
  rcases src with ⟨a1, a2⟩ | ⟨x0, a1, ⟨a2, a3, a4⟩, a5, c6, n1, n2⟩
  · cases a2
  cases a1
  obtain ⟨r1, r2, r3, r4⟩ := rq_row h c6 n1 n2
  have ea : wrA μ p i xx.1 = akA (sLg ((tSv (fSt F)).getD i sr0)) xx.1 xx.2.2.1 := by
    unfold wrA akA
    rw [own_ac h.1 hi, a4]
  have e9 := (h.1.2.2.2.2.1 i hi).1.2.2.2.1
  have er := own_re (c := nI xx.1) (n := nI xx.2.1) h.1 hi uq
  have eo := own_ob (ky := (rqF F xx.1 xx.2.1).2.1) h.1 hi uq v1
  unfold wriM chgA erlA
  rw [ea]
  by_cases q : akA (sLg ((tSv (fSt F)).getD i sr0)) xx.1 xx.2.2.1 ≤ nI xx.2.1
  · rw [if_pos q, if_neg (show ¬ ¬ akA (sLg ((tSv (fSt F)).getD i sr0)) xx.1 xx.2.2.1 ≤ nI xx.2.1 from fun u => u q), ← er]
    cases e0 : reM μ (nI i) (nI xx.1) (nI xx.2.1) with
    | some w =>
      have nz : ¬ cel μ w 0 = 0 := by rw [reM_k2 e0 h.1]; decide
      have := ans_R (an := (pSt (ptM μ w), pVa (ptM μ w), pVe (ptM μ w))) h hp ex
      refine ⟨?_, rfl⟩
      show FR y _ (ansM μ p (cel μ w 4) (cel μ w 5) (cel μ w 6))
      rw [ptM_f nz 4, ptM_f nz 5, ptM_f nz 6]
      exact this
    | none =>
      have w6 := wr6_R (y := y) (p := p) (c := xx.1) (n := xx.2.1) (ac := wrA μ p i xx.1) r1 r3 r4 e9 eo (fun w hw => by rw [obM_k2 hw h.1]; decide)
      rw [ea] at w6
      have w4 := wr4_R (c := xx.1) (n := xx.2.1) (r := rqF F xx.1 xx.2.1) (ak := akA (sLg ((tSv (fSt F)).getD i sr0)) xx.1 xx.2.2.1) (d := chD F i (rqF F xx.1 xx.2.1)) h hT hi hp ex li sv (fun w hw => dec_k _ hw) (dec_s _) nm uq2 v2 hh
      unfold wr7
      rw [ea]
      dsimp only
      rw [w6]
      exact w4
  · rw [if_neg q, if_pos q]
    exact ⟨ans_R (an := (5, 0, 0)) h hp ex, rfl⟩
theorem ky_bit (z : Int32) (h : k < 64) : shrB z (nI (k / 8)) = ((z >>> ((nI k / 8) &&& 31)) &&& 1) := by
  have e : nI k / 8 &&& 31 = nI (k / 8) &&& 31 := by
    rw [show (8 : Int32) = nI 8 from rfl, pk_div (by omega) (by decide) (by decide)]
  rw [e]
  rfl
theorem fgt_rw (h : 39 ≤ j) : (fgtM μ i).2.1 j k = μ.2.1 j k := by
  show losR2 (uT μ (lgT μ.1 (nI i) 99)) i j k = _
  unfold losR2
  rw [if_neg (by omega), if_neg (by omega), if_neg (by omega), if_neg (by omega), if_neg (by omega)]
  rfl
theorem arr_R (h : FR y F μ) (hT : μ.1.length < 2 ^ 31 - 9) (hi : i < y 20) (hp : p < 40) (ex : fNt F p = some xx) (hk : ∃ k, k < 64 ∧ (rqF F xx.1 xx.2.1).2.1 = nI k) (st : sSt ((tSv (fSt F)).getD i sr0) = 0 → sFe ((tSv (fSt F)).getD i sr0) = 0 → dlI y F i xx.1 xx.2.1) (sv0 : SvI ((tSv (fSt F)).getD i sr0)) (cx : xx.1 < 6 ∧ 1 ≤ xx.2.1 ∧ xx.2.1 ≤ ((fCl F).getD xx.1 cl0).1.length) : FR y (if sSt ((tSv (fSt F)).getD i sr0) = 2 then (netA F p none, 1) else if sSt ((tSv (fSt F)).getD i sr0) = 1 then (F, 2) else dlvZ (srvA y F i xx.1 xx.2.1 (rqF F xx.1 xx.2.1) xx.2.2.1) p xx).1 (arr y μ p i xx.1 xx.2.1).1 ∧ (arr y μ p i xx.1 xx.2.1).2 = (if sSt ((tSv (fSt F)).getD i sr0) = 2 then (netA F p none, 1) else if sSt ((tSv (fSt F)).getD i sr0) = 1 then (F, 2) else dlvZ (srvA y F i xx.1 xx.2.1 (rqF F xx.1 xx.2.1) xx.2.2.1) p xx).2 := by
  have ls : i < (tSv (fSt F)).length := by rw [h.1.2.1.1]; exact hi
  obtain ⟨⟨b1, b2, b3, b4, b5, b6⟩, bt, -⟩ := h.1.2.2.2.2.1 i hi
  obtain ⟨r1, r2, r3, r4⟩ := rq_row h cx.1 cx.2.1 cx.2.2
  obtain ⟨k, hk, ek⟩ := hk
  have e41 : kyM μ xx.1 xx.2.1 = (rqF F xx.1 xx.2.1).2.1 := r2
  have et : tbM μ xx.1 xx.2.1 = k / 8 := by
    unfold tbM
    rw [e41, ek, show (8 : Int32) = nI 8 from rfl, pk_div (by omega) (by decide) (by decide)]
    exact nI_clamp (by omega)
  unfold arr
  rw [b1, b2, et, bt (k / 8) (by omega), ky_bit _ hk, r1, e41]
  by_cases q1 : sSt ((tSv (fSt F)).getD i sr0) = 2
  · rw [if_pos q1, if_pos q1]; exact ⟨drp_F h, rfl⟩
  · rw [if_neg q1, if_neg q1]
    by_cases q2 : sSt ((tSv (fSt F)).getD i sr0) = 1
    · rw [if_pos q2, if_pos q2]; exact ⟨h, rfl⟩
    · rw [if_neg q2, if_neg q2]
      have s0 : sSt ((tSv (fSt F)).getD i sr0) = 0 := by
        rcases sv0.1 with z | z | z
        · exact z
        · exact absurd z q2
        · exact absurd z q1
      unfold srvA
      rw [ek]
      by_cases q3 : sFe ((tSv (fSt F)).getD i sr0) = 0
      · have ef : fncA F i = F := by unfold fncA; exact if_neg (fun w => w q3)
        have dl := st s0 q3
        rw [ef, if_neg (show ¬ ¬ sFe ((tSv (fSt F)).getD i sr0) = 0 from fun w => w q3)]
        by_cases q4 : sTb ((tSv (fSt F)).getD i sr0) >>> (nI k / 8 &&& 31) &&& 1 = 0
        · rw [if_pos q4, if_pos q4]
          exact ⟨ans_R (an := (3, 0, 0)) h hp ex, rfl⟩
        · rw [if_neg q4, if_neg q4]
          by_cases q5 : (rqF F xx.1 xx.2.1).1 = 0
          · rw [if_pos q5, if_pos q5]
            obtain ⟨li, hu, sv, -, ⟨nm, uq, v1⟩, -⟩ := dl
            exact ⟨read_R h (by omega) hi hp ex li hu nm uq v1, rfl⟩
          · rw [if_neg q5, if_neg q5, ← ek]
            exact wri_R h hT hi hp ex dl
      · have ef : fncA F i = setS F (fgA (fSt F) i) := by unfold fncA; exact if_pos q3
        rw [ef, if_pos q3]
        have e0 : (tSv (fSt (setS F (fgA (fSt F) i)))).getD i sr0 = emS ((tSv (fSt F)).getD i sr0) := sv_set ls
        rw [e0]
        have fr := h.st (fgt_R h.1 hi) (fun r k h1 _ => fgt_rw h1) rfl rfl
        have z0 : sTb (emS ((tSv (fSt F)).getD i sr0)) >>> (nI k / 8 &&& 31) &&& 1 = 0 := by
          rw [← ky_bit _ hk]
          exact sh_0 (k / 8) (by omega)
        rw [if_pos z0]
        exact ⟨ans_R (an := (3, 0, 0)) fr hp ex, rfl⟩
theorem rqK (rq : rqOK F) (c6 : c < 6) (n1 : 1 ≤ n) (n2 : n ≤ ((fCl F).getD c cl0).1.length) : ∃ k, k < 64 ∧ (rqF F c n).2.1 = nI k := by
  have rk := (rq c c6 (n - 1) (by omega)).1
  obtain ⟨m, m1, m2⟩ := in_n (x := (rqF F c n).2.1) (n := 63) (by decide) (by
    intro z
    have rk : inF (rqF F c n).2.1 64 = 1 := rk
    have z : inF (rqF F c n).2.1 64 = 0 := z
    rw [rk] at z
    exact absurd z (by decide))
  exact ⟨m, by omega, m2⟩
/-- deliver -/
theorem dlv_R (h : FR y F μ) (hT : μ.1.length < 2 ^ 31 - 9) (rq : rqOK F) (sv : ∀ i, i < y 20 → SvI ((tSv (fSt F)).getD i sr0)) (st : ∀ i c n, i < y 20 → c < 6 → 1 ≤ n → n ≤ ((fCl F).getD c cl0).1.length → sSt ((tSv (fSt F)).getD i sr0) = 0 → sFe ((tSv (fSt F)).getD i sr0) = 0 → dlI y F i c n) : FR y (dlvA y F x).1 (dlv1 y (sn0 μ) x).1 ∧ (dlv1 y (sn0 μ) x).2 = (dlvA y F x).2 := by
  have h0 := h.sn
  have hT : (sn0 μ).1.length < 2 ^ 31 - 9 := hT
  generalize sn0 μ = ν at h0 hT
  unfold dlv1 dlvA
  rcases im_R (x := x) h0 with ⟨q1, q2⟩ | ⟨p, xx, hp, ep, q1, q2, q3⟩
  · rw [if_pos q1, q2]; exact ⟨h0, rfl⟩
  · rw [if_neg q1, q3]
    subst ep
    rw [nI_clamp (by omega)]
    have src := h0.2.2.1 p hp
    rw [q2] at src
    rcases src with ⟨a1, a2⟩ | ⟨x0, a1, ⟨a2, a3, a4⟩, a5, c6, n1, n2⟩
    · cases a2
    cases a1
    rcases a5 with ⟨b1, t, b2, b3, b4, b5⟩ | ⟨b1, v, b2, b3, b4, b5⟩
    · rw [if_pos b1]
      have l40 := (h0.2.1.2 xx.1 c6).1.2
      have mS : msS ν p = t := by unfold msS; rw [b5]; exact nI_clamp (by have := h0.1.1.1.1.2; omega)
      have mC : msC ν p = xx.1 := by unfold msC; rw [a2]; exact nI_clamp (by omega)
      have mN : msN ν p = xx.2.1 := by unfold msN; rw [a3]; exact nI_clamp (by omega)
      rw [mS, mC, mN]
      dsimp only
      rw [b4, b3]
      exact arr_R h0 hT b2 hp q2 (rqK rq c6 n1 n2) (st t xx.1 xx.2.1 b2 c6 n1 n2) (sv t b2) ⟨c6, n1, n2⟩
    · rw [if_neg (by rw [b1]; decide)]
      have := dl2_R h0 hp q2 b2
      dsimp only
      rw [b2]
      exact this
end AR
