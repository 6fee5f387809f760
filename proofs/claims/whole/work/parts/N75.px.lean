-- ROOM: the account over all calls
def ceq (cl cl' : List kcT) : Prop := ∀ c, (cl'.getD c cl0).1 = (cl.getD c cl0).1
def PX (y : Nat → Nat) (F : fcT) (K κ : Nat) : Prop := RX y (fCl F) (fSt F) ∧ (∃ d, K = sN (fCl F) + d ∧ 6 * tNm (fSt F) + 18 * tDs (fSt F) + 6 * κ + 2 * VV (fCl F) (fSt F) ≤ (448 + sN (fCl F)) * (d + bN y (fSt F)) + 12 * K + 100) ∧ tFo (fSt F) + nF y (fSt F) ≤ tDs (fSt F)
section
variable {y : Nat → Nat} {i j t n k K κ κ' : Nat} {cl cl' : List kcT} {B : Int32} {S S' : stA} {F F' : fcT} {x x' : srA} {f : Nat → Nat}
theorem Rt_ce (e : ceq cl cl') (t : Nat) : Rt cl' t = Rt cl t := by
  have : Rj cl' t = Rj cl t := funext fun j => by
    unfold Rj
    rw [e (j / 40)]
  unfold Rt
  rw [this]
theorem wT_ce (e : ceq cl cl') : wT cl' = wT cl := funext fun t => by
  unfold wT
  rw [Rt_ce e t]
theorem sN_ce (e : ceq cl cl') : sN cl' = sN cl := sm_cg 240 (fun j _ => by rw [e (j / 40)])
theorem RX_ce (e : ceq cl cl') (h : RX y cl S) : RX y cl' S := by
  unfold RX oW at h ⊢
  rw [wT_ce e]
  exact h
theorem VV_ce (e : ceq cl cl') : VV cl' S = VV cl S := by
  unfold VV
  refine sm_cg 8 (fun t _ => ?_)
  unfold vT
  rw [wT_ce e]
theorem VV_M : VV cl S ≤ 448 + sN cl := by
  have h1 : VV cl S ≤ sm 8 (fun t => 56 + Rt cl t) := sm_le 8 (fun t _ => by
    unfold vT wT
    split
    · omega
    · split <;> omega)
  have h2 : sm 8 (fun t => 56 + Rt cl t) = 8 * 56 + sm 8 (Rt cl) := by rw [sm_add, sm_k]
  have h3 := Rt_all (cl := cl)
  omega
theorem px_ar1 {M q L L' C : Nat} (h : L ≤ M * q + C) (h2 : L' ≤ L + 12) {q' : Nat} (hq : q ≤ q') : L' ≤ M * q' + (C + 12) := by
  have := Nat.mul_le_mul_left M hq
  omega
theorem px_ar2 {M q L L' C n : Nat} (h : L ≤ M * q + C) (h2 : L' ≤ L + n * M + 12) {q' : Nat} (hq : q' = q + n) : L' ≤ M * q' + (C + 12) := by
  subst hq
  rw [Nat.mul_add, Nat.mul_comm M n]
  omega
/-- a call that neither downs a SERVER nor ticks -/
theorem PX.a (h : PX y F K κ) (ce : ceq (fCl F) (fCl F')) (rx : RX y (fCl F) (fSt F')) (hv : VV (fCl F) (fSt F') ≤ VV (fCl F) (fSt F)) (hb : bN y (fSt F) ≤ bN y (fSt F') + 1) (hn : tNm (fSt F') ≤ tNm (fSt F) + 2) (hd : tDs (fSt F') = tDs (fSt F)) (hf : tFo (fSt F') + nF y (fSt F') ≤ tFo (fSt F) + nF y (fSt F)) : PX y F' (K + 1) κ := by
  obtain ⟨h1, ⟨d, d1, d2⟩, h3⟩ := h
  rw [Nat.add_assoc ((448 + sN (fCl F)) * (d + bN y (fSt F)))] at d2
  refine ⟨RX_ce ce rx, ⟨d + 1, by rw [sN_ce ce]; omega, ?_⟩, by omega⟩
  rw [sN_ce ce, VV_ce ce, hd]
  have := px_ar1 (L' := 6 * tNm (fSt F') + 18 * tDs (fSt F) + 6 * κ + 2 * VV (fCl F) (fSt F')) d2 (by omega) (q' := d + 1 + bN y (fSt F')) (by omega)
  omega
/-- a call that downs a SERVER -/
theorem PX.b (h : PX y F K κ) (ce : ceq (fCl F) (fCl F')) (rx : RX y (fCl F) (fSt F')) (hb : bN y (fSt F') = bN y (fSt F) + 1) (hn : tNm (fSt F') ≤ tNm (fSt F) + 2) (hd : tDs (fSt F') = tDs (fSt F)) (hf : tFo (fSt F') + nF y (fSt F') ≤ tFo (fSt F) + nF y (fSt F)) : PX y F' (K + 1) κ := by
  obtain ⟨h1, ⟨d, d1, d2⟩, h3⟩ := h
  rw [Nat.add_assoc ((448 + sN (fCl F)) * (d + bN y (fSt F)))] at d2
  refine ⟨RX_ce ce rx, ⟨d + 1, by rw [sN_ce ce]; omega, ?_⟩, by omega⟩
  have vm := VV_M (cl := fCl F) (S := fSt F')
  rw [sN_ce ce, VV_ce ce, hd]
  have := px_ar2 (L' := 6 * tNm (fSt F') + 18 * tDs (fSt F) + 6 * κ + 2 * VV (fCl F) (fSt F')) (n := 2) d2 (by omega) (q' := d + 1 + bN y (fSt F')) (by omega)
  omega
/-- ticks -/
theorem PX.c (h : PX y F K κ) (ce : ceq (fCl F) (fCl F')) (rx : RX y (fCl F) (fSt F')) (hq : QQ (fCl F) (fSt F') k ≤ QQ (fCl F) (fSt F) 0) (hb : bN y (fSt F') = bN y (fSt F)) (hf : tFo (fSt F') + nF y (fSt F') + tDs (fSt F) ≤ tFo (fSt F) + nF y (fSt F) + tDs (fSt F')) : PX y F' (K + 1) (κ + k) := by
  obtain ⟨h1, ⟨d, d1, d2⟩, h3⟩ := h
  rw [Nat.add_assoc ((448 + sN (fCl F)) * (d + bN y (fSt F)))] at d2
  refine ⟨RX_ce ce rx, ⟨d + 1, by rw [sN_ce ce]; omega, ?_⟩, by omega⟩
  have vm := VV_M (cl := fCl F) (S := fSt F)
  rw [sN_ce ce, VV_ce ce, hb]
  unfold QQ at hq
  have := px_ar2 (L' := 6 * tNm (fSt F') + 18 * tDs (fSt F') + 6 * (κ + k) + 2 * VV (fCl F) (fSt F')) (n := 1) d2 (by omega) (q' := d + 1 + bN y (fSt F)) (by omega)
  omega
theorem ce_r : ceq cl cl := fun _ => rfl
theorem PX.s (h : PX y F K κ) (e : fSt F' = fSt F) (ce : ceq (fCl F) (fCl F')) : PX y F' (K + 1) κ := h.a ce (by rw [e]; exact h.1) (by rw [e]; exact Nat.le_refl _) (by rw [e]; omega) (by rw [e]; omega) (by rw [e]) (by rw [e]; exact Nat.le_refl _)
/-- the bound on names, deaths, takeovers, letting go -/
theorem PX.bnd (h : PX y F K κ) (hy : yOK y) (hK : K ≤ 520) : 6 * tNm (fSt F) + 18 * tDs (fSt F) + 6 * κ ≤ 245000 ∧ tFo (fSt F) ≤ tDs (fSt F) := by
  obtain ⟨h1, ⟨d, d1, d2⟩, h3⟩ := h
  have b8 : bN y (fSt F) ≤ 8 := by
    unfold bN
    refine Nat.le_trans (sm_le (g := fun _ => 1) _ (fun k _ => by split <;> omega)) ?_
    rw [sm_k]
    have := hy.1.2
    omega
  have s240 := sN_240 (cl := fCl F)
  generalize sN (fCl F) = s at *
  generalize bN y (fSt F) = b at *
  have m1 : (448 + s) * (d + b) ≤ (448 + s) * (528 - s) := Nat.mul_le_mul_left _ (by omega)
  have m2 : (448 + s) * (528 - s) ≤ 238144 := by
    have : ∀ s, s ≤ 240 → (448 + s) * (528 - s) ≤ 238144 := by decide +kernel
    exact this s s240
  refine ⟨?_, by omega⟩
  omega
theorem sm_u1 {f g : Nat → Nat} (hi : i < n) (h : ∀ k, k < n → ¬ k = i → g k = f k) : sm n g + f i = sm n f + g i := sm_u hi h
theorem bN_set (l : (tSv S).length = y 20) (hi : i < y 20) (e : tSv S' = (tSv S).set i x') : bN y S' + (if sSt ((tSv S).getD i sr0) = 0 then 0 else 1) = bN y S + (if sSt x' = 0 then 0 else 1) := by
  have := sm_u (n := y 20) (t := i) (f := fun k => if sSt ((tSv S).getD k sr0) = 0 then 0 else 1) (f' := fun k => if sSt ((tSv S').getD k sr0) = 0 then 0 else 1) hi (fun k hk w => by
    show (if sSt ((tSv S').getD k sr0) = 0 then 0 else 1) = _
    rw [e, gd_ne (fun z => w z.symm)])
  rw [e, gd_eq (by omega)] at this
  unfold bN
  rw [e]
  exact this
theorem nF_set2 (l : (tSv S).length = y 20) (hi : i < y 20) (e : tSv S' = (tSv S).set i x') : nF y S' + (if sFe ((tSv S).getD i sr0) = 0 then 0 else 1) = nF y S + (if sFe x' = 0 then 0 else 1) := nF_set (f := fun _ => x') l hi e
theorem VV_le (eo : tOw S' = tOw S) (ef : ∀ k, bdF (flg ((tSv S').getD k sr0)) = true → bdF (flg ((tSv S).getD k sr0)) = true) : VV cl S' ≤ VV cl S := by
  unfold VV
  refine sm_le 8 (fun t _ => ?_)
  unfold vT
  rw [eo]
  split
  · exact Nat.le_refl _
  · by_cases w : bdF (flg ((tSv S').getD ((tOw S).getD t 0).toNatClampNeg sr0)) = true
    · rw [if_pos w, if_pos (ef _ w)]; exact Nat.le_refl _
    · rw [if_neg w]; exact Nat.zero_le _
/-- one SERVER changes, not for the worse -/
theorem PX.sv (h : PX y F K κ) (cx : CX y (fCl F) B (fSt F)) (hi : i < y 20) (ce : ceq (fCl F) (fCl F')) (e : tSv (fSt F') = (tSv (fSt F)).set i x') (eo : tOw (fSt F') = tOw (fSt F)) (rx : RX y (fCl F) (fSt F')) (hb : bdF (flg x') = true → bdF (flg ((tSv (fSt F)).getD i sr0)) = true) (hn : tNm (fSt F') ≤ tNm (fSt F) + 2) (hd : tDs (fSt F') = tDs (fSt F)) (hf : tFo (fSt F') = tFo (fSt F)) (he : sFe x' = 0 ∨ sFe x' = sFe ((tSv (fSt F)).getD i sr0)) : PX y F' (K + 1) κ := by
  have l := cx.1.1
  have b := bN_set l hi e
  have f := nF_set2 l hi e
  refine h.a ce rx (VV_le eo (fun k hk => ?_)) ?_ hn hd ?_
  · rw [e] at hk
    by_cases w : i = k
    · subst w
      rw [gd_eq (by omega)] at hk
      exact hb hk
    · rw [gd_ne w] at hk
      exact hk
  · have : (if sSt ((tSv (fSt F)).getD i sr0) = 0 then 0 else 1) ≤ 1 := by split <;> omega
    omega
  · rw [hf]
    rcases he with z | z
    · rw [if_pos z] at f; omega
    · rw [z] at f; omega
/-- one SERVER goes down -/
theorem PX.dn (h : PX y F K κ) (cx : CX y (fCl F) B (fSt F)) (hi : i < y 20) (ce : ceq (fCl F) (fCl F')) (e : tSv (fSt F') = (tSv (fSt F)).set i x') (rx : RX y (fCl F) (fSt F')) (h0 : sSt ((tSv (fSt F)).getD i sr0) = 0) (h1 : ¬ sSt x' = 0) (hn : tNm (fSt F') ≤ tNm (fSt F) + 2) (hd : tDs (fSt F') = tDs (fSt F)) (hf : tFo (fSt F') = tFo (fSt F)) (he : sFe x' = 0 ∨ sFe x' = sFe ((tSv (fSt F)).getD i sr0)) : PX y F' (K + 1) κ := by
  have l := cx.1.1
  have b := bN_set l hi e
  have f := nF_set2 l hi e
  rw [if_pos h0, if_neg h1] at b
  refine h.b ce rx (by omega) hn hd ?_
  rw [hf]
  rcases he with z | z
  · rw [if_pos z] at f; omega
  · rw [z] at f; omega
/-- nothing is used -/
theorem PX.a0 (h : PX y F K κ) (ce : ceq (fCl F) (fCl F')) (rx : RX y (fCl F) (fSt F')) (hv : VV (fCl F) (fSt F') ≤ VV (fCl F) (fSt F)) (hb : bN y (fSt F) ≤ bN y (fSt F')) (hn : tNm (fSt F') ≤ tNm (fSt F)) (hd : tDs (fSt F') = tDs (fSt F)) (hf : tFo (fSt F') + nF y (fSt F') ≤ tFo (fSt F) + nF y (fSt F)) : PX y F' K κ := by
  obtain ⟨h1, ⟨d, d1, d2⟩, h3⟩ := h
  refine ⟨RX_ce ce rx, ⟨d, by rw [sN_ce ce]; omega, ?_⟩, by omega⟩
  rw [sN_ce ce, VV_ce ce, hd]
  have m := Nat.mul_le_mul_left (448 + sN (fCl F)) (show d + bN y (fSt F) ≤ d + bN y (fSt F') by omega)
  omega
theorem RX.sv2 (hr : RX y cl S) (l : (tSv S).length = y 20) (e : tSv S' = (tSv S).set i x') (eo : tOw S' = tOw S) (ed : tDe S' = tDe S) (hx : i < y 20 → sL2 x' ≤ sL2 ((tSv S).getD i sr0) ∨ sL2 x' ≤ y 23) : RX y cl S' := by
  refine ⟨fun k hk => ?_, fun d hd => hr.2 d (by rw [ed] at hd; exact hd)⟩
  rw [e, eo]
  have := hr.1 k hk
  by_cases w : i = k
  · subst w
    rw [gd_eq (by omega)]
    rcases hx hk with z | z <;> omega
  · rw [gd_ne w]; exact this
end
