theorem atO_ok {v t : Nat} (h : atO v = some t) : 2 ≤ t ∧ t ≤ 8 ∧ CN v = atN t ∧ CN v ∈ aoL := by
  unfold atO at h
  split at h <;> cases h
  · exact ⟨by omega, by omega, rfl, List.mem_of_getElem? (i := 0) rfl⟩
  · exact ⟨by omega, by omega, rfl, List.mem_of_getElem? (i := 1) rfl⟩
  · exact ⟨by omega, by omega, rfl, List.mem_of_getElem? (i := 2) rfl⟩
  · exact ⟨by omega, by omega, rfl, List.mem_of_getElem? (i := 3) rfl⟩
  · exact ⟨by omega, by omega, rfl, List.mem_of_getElem? (i := 4) rfl⟩
  · exact ⟨by omega, by omega, rfl, List.mem_of_getElem? (i := 5) rfl⟩
  · exact ⟨by omega, by omega, rfl, List.mem_of_getElem? (i := 6) rfl⟩
theorem acI : Cond.arrayClass .int ∈ WL := wlk1 (List.mem_of_getElem? (i := 82) rfl) rfl
theorem acZ : Cond.arrayClass .boolean ∈ WL := wlk1 (List.mem_of_getElem? (i := 83) rfl) rfl
theorem acL : Cond.arrayClass .long ∈ WL := wlk7 (List.mem_of_getElem? (i := 159) rfl) rfl
section SN3
variable {p : Program} {l : Launch} {e : Env} {R : Room} {s : State} {m : MethodId} {args : Array Value} {below : List Frame} {meth : Method} {c : Code} {H : Heap} {locs : List Loc} {cells slots : Nat} {Q : State → Prop}
variable {D : va_G} {dA : Nat → ClassId} {base : Nat} {g : gcT} {k pc : Nat} {ls : Array Slot} {rest : List Value} {h h' : hpT}
theorem sn_new (hC : Cx D dA base g k p s m args meth c) (hW : Wd D dA base h H) (xS : va_S (Ab base) s.heap H locs) {idx c1 : Nat} (hg : clk (mO k) idx = some c1) (hc14 : c1 < 14) (hd : decode (mB k) pc = .ok (.new idx, 3)) (hr : cells + 1 ≤ R.cells ∧ slots + nf c1 ≤ R.slots)
    (kk : ∀ H', Wd D dA base (hpO h c1) H' → va_S (Ab base) s.heap H' locs → W p l e R s m args below meth c H' locs (cells + 1) (slots + nf c1) Q (F0 m (pc + 3) ls (.ref (hS h) :: rest))) : W p l e R s m args below meth c H locs cells slots Q (F0 m pc ls rest) := by
  obtain ⟨hx, hb, hml, hown, hts, hini, xK⟩ := hC
  obtain ⟨f1, hi⟩ := clk_ok hg
  unfold ClOK at f1
  rw [(key_d hi).1, (key_d hi).2] at f1
  obtain ⟨C, T, g1, g2, g3, g4, g5, g6, g7, g8⟩ := cokAll hc14
  have eC : CN c1 = C := by unfold CN; rw [if_neg (by omega), g2]
  rw [eC] at f1
  have hKn := xK.1.1 c1 _ g1
  refine W.newcK hx hb hown (hts _ f1) (hts _ g6) (hts _ g7) rfl hd hr.1 hr.2 hKn.2.1 hW.2.1.symm fun H1 kC hkC e1 z1 o1 => ?_
  rw [hW.2.1] at e1 z1 o1
  refine kk H1 (hW.add (x := c1 + 1) (by omega) (Nat.le_trans xK.2.2.2.2.2.2.1 xS.1) z1 o1 rfl rfl (hW.1.O c1) (fun b hb2 => PF_O hb2) ?_) (xS.new (by omega) o1)
  have hkk : hK (hpO h c1) (hS h) = c1 + 1 := by show u1 (hK h) (hS h) (c1 + 1) (hS h) = _; simp [u1]
  unfold PF
  rw [hkk, if_pos (by omega), Nat.add_sub_cancel]
  refine ⟨_, g1, (u_born (tyL c1) hts g3 hKn hkC e1 g4).to (fun j hj => ?_)⟩
  have hv : vp_V ((List.range (nf c1)).map (fun k => fv (hpO h c1) c1 k (hS h))) j = fv (hpO h c1) c1 j (hS h) := by
    unfold vp_V
    rw [List.getD_eq_getElem?_getD, ob_get hj]
    rfl
  rw [hv]
  obtain ⟨-, w2, -⟩ := hW.1 (hS h) (Nat.le_refl _)
  obtain ⟨t1, t2, t3, t4, t5, t6⟩ := g8 j hj
  by_cases hf : fk c1 j = 2
  · rw [fv_ref _ _ _ _ hf, isRefTy_df (t5 hf)]
    show Value.null = va_rf (hR h (64 * c1 + j) (hS h))
    rw [(w2 _).2]; rfl
  · rw [fv_int _ _ _ _ hf]
    show _ = Value.int (hI h (64 * c1 + j) (hS h))
    rw [(w2 _).1]
    rcases (show fk c1 j = 0 ∨ fk c1 j = 1 by omega) with h0 | h0
    · rw [t3 h0]; rfl
    · rw [t4 h0]; rfl
/-- a new row of numbers: what the new address holds -/
theorem sn_newat {dA : Nat → ClassId} {t n : Nat} {H1 : Heap} {v : Value} (hW : Wd D dA base h H) (e1 : H1[H.size]? = some (arrV (dA t) n (fun _ => v))) (ht : (t ≤ 1 ∧ v = .int 0) ∨ (t = 9 ∧ v = .long 0) ∨ (2 ≤ t ∧ t ≤ 8 ∧ v = .null)) : va_at D vwCl (H.size, PF dA (hpW h t n) (hS h)) H1 := by
  have hkk : hK (hpW h t n) (hS h) = 20 + t := by show u1 (hK h) (hS h) (20 + t) (hS h) = _; simp [u1]
  have hnn : hN (hpW h t n) (hS h) = n := by show u1 (hN h) (hS h) n (hS h) = _; simp [u1]
  obtain ⟨-, -, w3⟩ := hW.1 (hS h) (Nat.le_refl _)
  have eA : hA (hpW h t n) (hS h) = fun _ => 0 := funext fun j => (w3 j).1
  have eB : hB (hpW h t n) (hS h) = fun _ => none := funext fun j => (w3 j).2
  rw [PF_ar dA hkk]
  unfold arE
  rw [hnn, eA, eB]
  rcases ht with ⟨h1, rfl⟩ | ⟨rfl, rfl⟩ | ⟨h1, h2, rfl⟩
  · rw [if_pos h1]; exact e1
  · rw [if_neg (by omega), if_pos rfl]; exact e1
  · rw [if_neg (by omega), if_neg (by omega)]; exact e1
theorem sn_newa (hC : Cx D dA base g k p s m args meth c) (hW : Wd D dA base h H) (xS : va_S (Ab base) s.heap H locs) {at' : ArrayType} {t : Nat} {n : Int32} (hty : (at' = .int ∧ t = 0) ∨ (at' = .boolean ∧ t = 1) ∨ (at' = .long ∧ t = 9)) (hn : ¬ n < 0 ∧ n.toNatClampNeg ≤ 2000000) (hd : decode (mB k) pc = .ok (.newarray at', 2)) (hr : cells + 1 ≤ R.cells ∧ slots + n.toNatClampNeg ≤ R.slots)
    (kk : ∀ H', Wd D dA base (hpW h t n.toNatClampNeg) H' → va_S (Ab base) s.heap H' locs → W p l e R s m args below meth c H' locs (cells + 1) (slots + n.toNatClampNeg) Q (F0 m (pc + 2) ls (.ref (hS h) :: rest))) : W p l e R s m args below meth c H locs cells slots Q (F0 m pc ls (.int n :: rest)) := by
  obtain ⟨hx, hb, hml, hown, hts, hini, xK⟩ := hC
  have main : ∀ (ty : FieldType) (v : Value), newarray.typeOf at' = ty → Cond.arrayClass ty ∈ WL → (tysG dA)[t]? = some (dA t, ty) → (∀ cA, va_RA s cA ty = (s.vm.findClass ("[" ++ ty.toString) = some cA)) → defaultValue ty = v → componentBytes ty ≤ 8 → ((t ≤ 1 ∧ v = .int 0) ∨ (t = 9 ∧ v = .long 0) ∨ (2 ≤ t ∧ t ≤ 8 ∧ v = .null)) → W p l e R s m args below meth c H locs cells slots Q (F0 m pc ls (.int n :: rest)) := by
    intro ty v e1 hac htt hra hdf hcb hv
    subst e1
    refine va_newaK hx hb (hts _ hac) rfl hd rfl hn.1 rfl (by have := hn.2; have := Nat.mul_le_mul this hcb; omega) hr.1 hr.2 hW.2.1.symm fun H1 cA e1 z1 o1 hAr hNm => ?_
    have hra2 := (xK.1.2 t _ htt).2
    rw [hra] at hra2
    have ec : cA = dA t := Option.some.inj (hNm.symm.trans hra2)
    subst ec
    rw [hW.2.1] at e1 z1 o1
    rw [hdf] at e1
    exact kk H1 (hW.add (x := 20 + t) (by omega) (Nat.le_trans xK.2.2.2.2.2.2.1 xS.1) z1 o1 rfl rfl (hW.1.W t _) (fun b hb2 => PF_W hb2) (sn_newat hW e1 hv)) (xS.new (by omega) o1)
  rcases hty with ⟨rfl, rfl⟩ | ⟨rfl, rfl⟩ | ⟨rfl, rfl⟩
  · exact main .int (.int 0) rfl acI rfl (fun _ => rfl) rfl (by decide) (Or.inl ⟨by omega, rfl⟩)
  · exact main .boolean (.int 0) rfl acZ rfl (fun _ => rfl) rfl (by decide) (Or.inl ⟨by omega, rfl⟩)
  · exact main .long (.long 0) rfl acL rfl (fun _ => rfl) rfl (by decide) (Or.inr (Or.inl ⟨rfl, rfl⟩))
theorem sn_newq (hC : Cx D dA base g k p s m args meth c) (hW : Wd D dA base h H) (xS : va_S (Ab base) s.heap H locs) {idx c1 t : Nat} {n : Int32} (hg : clk (mO k) idx = some c1) (ht : atO c1 = some t) (hn : ¬ n < 0 ∧ n.toNatClampNeg ≤ 2000000) (hd : decode (mB k) pc = .ok (.anewarray idx, 3)) (hr : cells + 1 ≤ R.cells ∧ slots + n.toNatClampNeg ≤ R.slots)
    (kk : ∀ H', Wd D dA base (hpW h t n.toNatClampNeg) H' → va_S (Ab base) s.heap H' locs → W p l e R s m args below meth c H' locs (cells + 1) (slots + n.toNatClampNeg) Q (F0 m (pc + 3) ls (.ref (hS h) :: rest))) : W p l e R s m args below meth c H locs cells slots Q (F0 m pc ls (.int n :: rest)) := by
  obtain ⟨hx, hb, hml, hown, hts, hini, xK⟩ := hC
  obtain ⟨f1, hi⟩ := clk_ok hg
  unfold ClOK at f1
  rw [(key_d hi).1, (key_d hi).2] at f1
  obtain ⟨a1, a2, a3, a4⟩ := atO_ok ht
  refine W.anew hx hb hown (hts _ f1) (va_AO.use (xK.2.2.2.1 _ a4)) rfl hd rfl hn.1 (by omega) hr.1 hr.2 fun cA kA comp f1 f2 f3 f4 => ?_
  rw [a3] at f1
  obtain ⟨kA', comp', k1, k2, k3, k4⟩ := (xK.1.2 t _ (tysG_ref dA ⟨a1, a2⟩)).2
  have ec : cA = dA t := Option.some.inj (f1.symm.trans k4)
  subst ec
  generalize hH1 : H.push ({ cls := dA t, slots := Array.replicate n.toNatClampNeg .null, vm := .none } : Cell) = H1
  have z1 : H1.size = H.size + 1 := by rw [← hH1, Array.size_push]
  have e1 : H1[H.size]? = some (arrV (dA t) n.toNatClampNeg (fun _ => .null)) := by rw [← hH1, Array.getElem?_push_size, ← arrV_new]
  have o1 : ∀ q : Nat, q < H.size → H1[q]? = H[q]? := fun q hq => by rw [← hH1, Array.getElem?_push, if_neg (Nat.ne_of_lt hq)]
  have := kk H1 (hW.add (x := 20 + t) (by omega) (Nat.le_trans xK.2.2.2.2.2.2.1 xS.1) z1 o1 rfl rfl (hW.1.W t _) (fun b hb2 => PF_W hb2) (sn_newat hW e1 (Or.inr (Or.inr ⟨a1, a2, rfl⟩)))) (xS.new (by omega) o1)
  rw [hW.2.1] at this
  exact this
end SN3
