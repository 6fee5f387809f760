-- ROOM: each call's account
section
variable {A : alT} {y : Nat → Nat} {i n K κ p j c : Nat} {cl : List kcT} {B ack v ky a b x fr to ak : Int32} {S : stA} {F F' : fcT} {r : rqT} {μ : mT} {d : anT × Option ptT} {z : srA}
theorem sL2_bd {ow : List Int32} (s4 : sLo z = 0 ↔ sLL z = none) : sL2 (bdS ow i (stLg z A)) ≤ A.1.length + (lgO (sLL z)).1.length := by
  show 0 + (lgO (if sLo z = 0 ∧ ¬ tabA ow (nI i) ≤ 0 then some A else sLL z)).1.length ≤ _
  split
  · show 0 + A.1.length ≤ _
    omega
  · omega
theorem px_set (h : PX y F K κ) : PX y (setS F (fSt F)) (K + 1) κ := h.s rfl ce_r
theorem px_crash (h : PX y F K κ) (hc : CF y F n) (hy : yOK y) : PX y (crsA y F x).1 (K + 1) κ := by
  have l := hc.1.1.1
  unfold crsA
  split
  · exact h.s rfl ce_r
  · next w =>
    obtain ⟨m, m1, m2⟩ := inF_1 (x := x) (n := y 20) (by have := hy.1.2; omega) w
    have hi : x.toNatClampNeg < y 20 := by rw [m2, nI_clamp (by have := hy.1.2; omega)]; exact m1
    split
    · exact h.s rfl ce_r
    · next w2 =>
      generalize x.toNatClampNeg = i at *
      have sx := hc.1.2.2.1 i hi
      have rx : RX y (fCl F) (bdA (fSt F) i) := h.1.sv l (i := i) rfl rfl rfl (fun _ => sL2_bd (A := sLg ((tSv (fSt F)).getD i sr0)) (z := (tSv (fSt F)).getD i sr0) sx.1.2.2.2.1)
      by_cases q : sSt ((tSv (fSt F)).getD i sr0) = 0
      · exact h.dn (F' := setS F (bdA (fSt F) i)) hc.1 hi ce_r rfl rx q (show ¬ (2 : Int32) = 0 by decide) (Nat.le_add_right _ _) rfl rfl (Or.inl rfl)
      · refine h.sv (F' := setS F (bdA (fSt F) i)) hc.1 hi ce_r rfl rfl rx (fun _ => ?_) (Nat.le_add_right _ _) rfl rfl (Or.inl rfl)
        unfold bdF flg
        dsimp only
        rw [decide_eq_true q]; rfl
theorem px_up (h : PX y F K κ) (hc : CF y F n) (hy : yOK y) : PX y (mvdA y F x fr 0).1 (K + 1) κ := by
  have l := hc.1.1.1
  unfold mvdA
  split
  · exact h.s rfl ce_r
  · next w =>
    obtain ⟨m, m1, m2⟩ := inF_1 (x := x) (n := y 20) (by have := hy.1.2; omega) w
    have hi : x.toNatClampNeg < y 20 := by rw [m2, nI_clamp (by have := hy.1.2; omega)]; exact m1
    split
    · exact h.s rfl ce_r
    · generalize x.toNatClampNeg = i at *
      refine h.sv (F' := setS F (stS (fSt F) i 0)) hc.1 hi ce_r rfl rfl (h.1.sv l (i := i) rfl rfl rfl (fun _ => Nat.le_refl _)) (fun z => ?_) (Nat.le_add_right _ _) rfl rfl (Or.inr rfl)
      unfold bdF flg at z ⊢
      dsimp only at z ⊢
      have z : (decide (¬ (0 : Int32) = 0) || decide (¬ sLo ((tSv (fSt F)).getD i sr0) = 0)) = true := z
      rw [show decide (¬ (0 : Int32) = 0) = false from rfl, Bool.false_or] at z
      rw [z, Bool.or_true]
theorem px_sleep (h : PX y F K κ) (hc : CF y F n) (hy : yOK y) : PX y (mvdA y F x 0 1).1 (K + 1) κ := by
  have l := hc.1.1.1
  unfold mvdA
  split
  · exact h.s rfl ce_r
  · next w =>
    obtain ⟨m, m1, m2⟩ := inF_1 (x := x) (n := y 20) (by have := hy.1.2; omega) w
    have hi : x.toNatClampNeg < y 20 := by rw [m2, nI_clamp (by have := hy.1.2; omega)]; exact m1
    split
    · exact h.s rfl ce_r
    · next q =>
      generalize x.toNatClampNeg = i at *
      exact h.dn (F' := setS F (stS (fSt F) i 1)) hc.1 hi ce_r rfl (h.1.sv l (i := i) rfl rfl rfl (fun _ => Nat.le_refl _)) (Decidable.not_not.mp q) (show ¬ (1 : Int32) = 0 by decide) (Nat.le_add_right _ _) rfl rfl (Or.inr rfl)
theorem px_cut (h : PX y F K κ) (hc : CF y F n) (hy : yOK y) : PX y (cutA y F x v).1 (K + 1) κ := by
  have l := hc.1.1.1
  unfold cutA
  split
  · exact h.s rfl ce_r
  · next w =>
    obtain ⟨m, m1, m2⟩ := inF_1 (x := x) (n := y 20) (by have := hy.1.2; omega) (fun z => w (Or.inl z))
    have hi : x.toNatClampNeg < y 20 := by rw [m2, nI_clamp (by have := hy.1.2; omega)]; exact m1
    split
    · exact h.s rfl ce_r
    · generalize x.toNatClampNeg = i at *
      exact h.sv (F' := setS F (cuS (fSt F) i v)) hc.1 hi ce_r rfl rfl (h.1.sv l (i := i) rfl rfl rfl (fun _ => Nat.le_refl _)) (fun z => z) (Nat.le_add_right _ _) rfl rfl (Or.inr rfl)
theorem px_coord (h : PX y F K κ) : PX y (corA F v) (K + 1) κ := h.a (F' := corA F v) ce_r h.1 (Nat.le_refl _) (Nat.le_add_right _ _) (Nat.le_add_right _ _) rfl (Nat.le_refl _)
theorem px_post (h : PX y F K κ) : PX y (postA F i n ky).1 (K + 1) κ := h.s post_o.1 (by rw [post_o.2]; exact ce_r)
theorem px_again (h : PX y F K κ) : PX y (agaA F v x).1 (K + 1) κ := by
  unfold agaA
  split
  · exact h.s rfl ce_r
  · exact px_post h
theorem px_drop (h : PX y F K κ) : PX y (drpA F x).1 (K + 1) κ := by
  unfold drpA
  split <;> exact h.s rfl ce_r
theorem px_twice (h : PX y F K κ) : PX y (twiA F x).1 (K + 1) κ := by
  unfold twiA
  split
  · exact h.s rfl ce_r
  · split <;> exact h.s rfl ce_r
theorem tkN_q (hc : CF y F n) (hr : RX y (fCl F) (fSt F)) (hy : yOK y) (l40 : cl40 (fCl F)) : ∀ m, RX y (fCl F) (fSt (tkN y F m).1) ∧ QQ (fCl F) (fSt (tkN y F m).1) (tkN y F m).2.2 ≤ QQ (fCl F) (fSt F) 0 ∧ tFo (fSt (tkN y F m).1) + nF y (fSt (tkN y F m).1) + tDs (fSt F) ≤ tFo (fSt F) + nF y (fSt F) + tDs (fSt (tkN y F m).1) ∧ ∀ k, sSt ((tSv (fSt (tkN y F m).1)).getD k sr0) = sSt ((tSv (fSt F)).getD k sr0) := by
  intro m
  induction m with
  | zero => exact ⟨hr, Nat.le_refl _, Nat.le_refl _, fun _ => rfl⟩
  | succ m ih =>
    obtain ⟨i1, i2, i3, i4⟩ := ih
    have cx := (tkN_CX (cl := fCl F) hc.1 hc.2.1 hy l40 m).1
    obtain ⟨q1, q2, q3, q4⟩ := tk1_q (st := tkN y F m) cx i1 hy l40
    exact ⟨q1, Nat.le_trans q2 i2, by show tFo (fSt (tk1F y (tkN y F m)).1) + nF y (fSt (tk1F y (tkN y F m)).1) + tDs (fSt F) ≤ tFo (fSt F) + nF y (fSt F) + tDs (fSt (tk1F y (tkN y F m)).1); omega, fun k => (q4 k).trans (i4 k)⟩
theorem px_tick (h : PX y F K κ) (hc : CF y F n) (hy : yOK y) (l40 : cl40 (fCl F)) : PX y (tickA y F x).1 (K + 1) (κ + (tickA y F x).2.2) := by
  unfold tickA
  split
  · exact h.s rfl ce_r
  · obtain ⟨q1, q2, q3, q4⟩ := tkN_q hc h.1 hy l40 x.toNatClampNeg
    have e := (tkN_cn (y := y) (F := F) x.toNatClampNeg).1
    generalize tkN y F x.toNatClampNeg = Z at *
    refine h.c (by rw [e]; exact ce_r) q1 q2 (sm_cg _ (fun k _ => by rw [q4])) q3
/-- names along the ticks of one call -/
theorem tkN_nm (h : PX y F K κ) (hc : CF y F n) (hy : yOK y) (l40 : cl40 (fCl F)) (hK : K ≤ 520) (m : Nat) : tNm (fSt (tkN y F m).1) ≤ 42000 := by
  obtain ⟨q1, q2, q3, q4⟩ := tkN_q hc h.1 hy l40 m
  have b := (h.bnd hy hK).1
  have vm := VV_M (cl := fCl F) (S := fSt F)
  have s := sN_240 (cl := fCl F)
  unfold QQ at q2
  omega
end
