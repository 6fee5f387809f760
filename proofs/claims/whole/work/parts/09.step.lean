section SN4
variable {p : Program} {l : Launch} {e : Env} {R : Room} {s : State} {m : MethodId} {args : Array Value} {below : List Frame} {meth : Method} {c : Code} {H : Heap} {locs : List Loc} {Q : State → Prop}
variable {D : va_G} {dA : Nat → ClassId} {base : Nat} {g : gcT} {k pc pc' : Nat} {ls : Array Slot} {st st' : List Value} {h h' : hpT} {L L' : lcT} {i : Instr} {len c0 m0 : Nat}
set_option maxHeartbeats 4000000 in
/-- an instruction that neither calls nor returns: the machine goes as the small one does -/
theorem sx_sound (xC : Cx D dA base g k p s m args meth c) (hd : decode (mB k) pc = .ok (i, len)) (hL : LR L ls (mX k)) (hW : Wd D dA base h H) (xS : va_S (Ab base) s.heap H locs) (hc0 : c0 ≤ hC h ∧ m0 ≤ hM h) (hsx : sxO g k pc i len L st h = some (pc', L', st', h')) (hr : hC h' - c0 ≤ R.cells ∧ hM h' - m0 ≤ R.slots)
    (kk : ∀ ls' H' locs', LR L' ls' (mX k) → Wd D dA base h' H' → va_S (Ab base) s.heap H' locs' → W p l e R s m args below meth c H' locs' (hC h' - c0) (hM h' - m0) Q (F0 m pc' ls' st')) : W p l e R s m args below meth c H locs (hC h - c0) (hM h - m0) Q (F0 m pc ls st) := by
  have xC' := xC
  obtain ⟨hx, hb, hml, hown, hts, hini, xK⟩ := xC
  unfold sxO at hsx
  split at hsx
  -- constants
  · cases hsx; exact lv_iconst hx hb hd rfl (kk ls H locs hL hW xS)
  · cases hsx; exact lv_bipush hx hb hd rfl (kk ls H locs hL hW xS)
  · cases hsx; exact lv_sipush hx hb hd rfl (kk ls H locs hL hW xS)
  · obtain ⟨v, h1, h2⟩ := Option.map_eq_some_iff.mp hsx
    cases h2
    obtain ⟨f1, hi⟩ := cn_ok h1
    unfold CnOK at f1
    rw [(key_d hi).1, (key_d hi).2] at f1
    exact lv_ldc hx hb hown (hts _ f1) hd (kk ls H locs hL hW xS)
  · obtain ⟨v, h1, h2⟩ := Option.map_eq_some_iff.mp hsx
    cases h2
    obtain ⟨f1, hi⟩ := cn_ok h1
    unfold CnOK at f1
    rw [(key_d hi).1, (key_d hi).2] at f1
    exact lv_ldcw hx hb hown (hts _ f1) hd (kk ls H locs hL hW xS)
  · cases hsx; exact lv_null hx hb hd (kk ls H locs hL hW xS)
  -- locals
  · split at hsx
    · rename_i x hld
      cases hsx
      exact lv_iload_n hx hb hd rfl (hL.2.2.2 _ _ (ldO_iff.mp hld)).1 (kk ls H locs hL hW xS)
    · cases hsx
  · split at hsx
    · rename_i x hld
      cases hsx
      exact lv_iload hx hb hd (hL.2.2.2 _ _ (ldO_iff.mp hld)).1 (kk ls H locs hL hW xS)
    · cases hsx
  · split at hsx
    · rename_i r hld
      cases hsx
      obtain ⟨v, h1, h2⟩ := Option.bind_eq_some_iff.mp hld
      have ev := rfO_some h2
      subst ev
      have hl := (hL.2.2.2 _ _ (ldO_iff.mp h1)).1
      cases r with
      | none => exact lv_aload_nN hx hb hd rfl hl (kk ls H locs hL hW xS)
      | some a => exact lv_aload_n hx hb hd rfl hl (kk ls H locs hL hW xS)
    · cases hsx
  · split at hsx
    · rename_i r hld
      cases hsx
      obtain ⟨v, h1, h2⟩ := Option.bind_eq_some_iff.mp hld
      have ev := rfO_some h2
      subst ev
      have hl := (hL.2.2.2 _ _ (ldO_iff.mp h1)).1
      cases r with
      | none => exact lv_aloadN hx hb hd hl (kk ls H locs hL hW xS)
      | some a => exact lv_aload hx hb hd hl (kk ls H locs hL hW xS)
    · cases hsx
  · obtain ⟨L1, h1, h2⟩ := Option.map_eq_some_iff.mp hsx
    cases h2
    exact lv_istore_n hx hb hd rfl hL.has (hL.lt h1) rfl (fun ls' q => kk ls' H locs (hL.set h1 q) hW xS)
  · obtain ⟨L1, h1, h2⟩ := Option.map_eq_some_iff.mp hsx
    cases h2
    exact lv_istore hx hb hd hL.has (hL.lt h1) rfl (fun ls' q => kk ls' H locs (hL.set h1 q) hW xS)
  · obtain ⟨r, h0, h3⟩ := Option.bind_eq_some_iff.mp hsx
    obtain ⟨L1, h1, h2⟩ := Option.map_eq_some_iff.mp h3
    cases h2
    have ev := rfO_some h0
    subst ev
    cases r with
    | none => exact lv_astore_nN hx hb hd rfl hL.has (hL.lt h1) rfl (fun ls' q => kk ls' H locs (hL.set h1 q) hW xS)
    | some a => exact lv_astore_n hx hb hd rfl hL.has (hL.lt h1) rfl (fun ls' q => kk ls' H locs (hL.set h1 q) hW xS)
  · obtain ⟨r, h0, h3⟩ := Option.bind_eq_some_iff.mp hsx
    obtain ⟨L1, h1, h2⟩ := Option.map_eq_some_iff.mp h3
    cases h2
    have ev := rfO_some h0
    subst ev
    cases r with
    | none => exact lv_astoreN hx hb hd hL.has (hL.lt h1) rfl (fun ls' q => kk ls' H locs (hL.set h1 q) hW xS)
    | some a => exact lv_astore hx hb hd hL.has (hL.lt h1) rfl (fun ls' q => kk ls' H locs (hL.set h1 q) hW xS)
  · split at hsx
    · rename_i x hld
      obtain ⟨L1, h1, h2⟩ := Option.map_eq_some_iff.mp hsx
      cases h2
      obtain ⟨q, hq⟩ := List.getElem?_of_mem ((lpr_mem (q := (_, _))).mpr (ldO_iff.mp hld))
      exact lv_iinc hx hb hd hL.has hq rfl (hL.lt h1) rfl (fun ls' q => kk ls' H locs (hL.set h1 q) hW xS)
    · cases hsx
  -- numbers
  · cases hsx; exact lv_iadd hx hb hd (kk ls H locs hL hW xS)
  · cases hsx; exact lv_isub hx hb hd (kk ls H locs hL hW xS)
  · cases hsx; exact lv_imul hx hb hd (kk ls H locs hL hW xS)
  · cases hsx; exact lv_iand hx hb hd (kk ls H locs hL hW xS)
  · cases hsx; exact lv_ior hx hb hd (kk ls H locs hL hW xS)
  · cases hsx; exact lv_ixor hx hb hd (kk ls H locs hL hW xS)
  · cases hsx; exact lv_ishl hx hb hd (kk ls H locs hL hW xS)
  · cases hsx; exact lv_ishr hx hb hd (kk ls H locs hL hW xS)
  · cases hsx; exact lv_iushr hx hb hd rfl (kk ls H locs hL hW xS)
  · split at hsx
    · cases hsx
    · rename_i hne; cases hsx; exact lv_idiv hx hb hd hne (kk ls H locs hL hW xS)
  · split at hsx
    · cases hsx
    · rename_i hne; cases hsx; exact lv_irem hx hb hd hne (kk ls H locs hL hW xS)
  · cases hsx; exact lv_i2l hx hb hd rfl (kk ls H locs hL hW xS)
  · cases hsx; exact W.lcmp hx hb hd (kk ls H locs hL hW xS)
  -- the stack
  · split at hsx
    · rename_i hc; cases hsx; exact lv_dup hx hb hd hc (kk ls H locs hL hW xS)
    · cases hsx
  · split at hsx
    · rename_i hc; cases hsx; exact lv_pop hx hb hd hc (kk ls H locs hL hW xS)
    · cases hsx
  · split at hsx
    · rename_i hc; cases hsx; exact lv_dup_x1 hx hb hd hc.1 hc.2 (kk ls H locs hL hW xS)
    · cases hsx
  · split at hsx
    · rename_i hc; cases hsx; exact lv_dup2_11 hx hb hd hc.1 hc.2 (kk ls H locs hL hW xS)
    · cases hsx
  -- roads
  · obtain ⟨t, ht, q⟩ := jmpO_eq hsx
    cases q; exact lv_goto hx hb hd ht (kk ls H locs hL hW xS)
  · obtain ⟨t, ht, q1, q2⟩ := ifO_eq hsx
    exact lv_if_eq hx hb hd ht (fun z => by cases q1 z; exact kk ls H locs hL hW xS) (fun z => by cases q2 z; exact kk ls H locs hL hW xS)
  · obtain ⟨t, ht, q1, q2⟩ := ifO_eq hsx
    exact lv_if_ne hx hb hd ht (fun z => by cases q1 z; exact kk ls H locs hL hW xS) (fun z => by cases q2 (fun y => y z); exact kk ls H locs hL hW xS)
  · obtain ⟨t, ht, q1, q2⟩ := ifO_eq hsx
    exact lv_if_lt hx hb hd ht (fun z => by cases q1 z; exact kk ls H locs hL hW xS) (fun z => by cases q2 z; exact kk ls H locs hL hW xS)
  · obtain ⟨t, ht, q1, q2⟩ := ifO_eq hsx
    exact lv_if_ge hx hb hd ht (fun z => by cases q1 z; exact kk ls H locs hL hW xS) (fun z => by cases q2 z; exact kk ls H locs hL hW xS)
  · obtain ⟨t, ht, q1, q2⟩ := ifO_eq hsx
    exact lv_if_gt hx hb hd ht (fun z => by cases q1 z; exact kk ls H locs hL hW xS) (fun z => by cases q2 z; exact kk ls H locs hL hW xS)
  · obtain ⟨t, ht, q1, q2⟩ := ifO_eq hsx
    exact lv_if_le hx hb hd ht (fun z => by cases q1 z; exact kk ls H locs hL hW xS) (fun z => by cases q2 z; exact kk ls H locs hL hW xS)
  · obtain ⟨t, ht, q1, q2⟩ := ifO_eq hsx
    exact lv_icmp_eq hx hb hd ht (fun z => by cases q1 z; exact kk ls H locs hL hW xS) (fun z => by cases q2 z; exact kk ls H locs hL hW xS)
  · obtain ⟨t, ht, q1, q2⟩ := ifO_eq hsx
    exact lv_icmp_ne hx hb hd ht (fun z => by cases q1 z; exact kk ls H locs hL hW xS) (fun z => by cases q2 (fun y => y z); exact kk ls H locs hL hW xS)
  · obtain ⟨t, ht, q1, q2⟩ := ifO_eq hsx
    exact lv_icmp_lt hx hb hd ht (fun z => by cases q1 z; exact kk ls H locs hL hW xS) (fun z => by cases q2 z; exact kk ls H locs hL hW xS)
  · obtain ⟨t, ht, q1, q2⟩ := ifO_eq hsx
    exact lv_icmp_ge hx hb hd ht (fun z => by cases q1 z; exact kk ls H locs hL hW xS) (fun z => by cases q2 z; exact kk ls H locs hL hW xS)
  · obtain ⟨t, ht, q1, q2⟩ := ifO_eq hsx
    exact lv_icmp_gt hx hb hd ht (fun z => by cases q1 z; exact kk ls H locs hL hW xS) (fun z => by cases q2 z; exact kk ls H locs hL hW xS)
  · obtain ⟨t, ht, q1, q2⟩ := ifO_eq hsx
    exact lv_icmp_le hx hb hd ht (fun z => by cases q1 z; exact kk ls H locs hL hW xS) (fun z => by cases q2 z; exact kk ls H locs hL hW xS)
  · obtain ⟨r, h0, h3⟩ := Option.bind_eq_some_iff.mp hsx
    obtain ⟨t, ht, q1, q2⟩ := ifO_eq h3
    have ev := rfO_some h0
    subst ev
    cases r with
    | none => cases q1 rfl; exact lv_ifnullN hx hb hd ht (kk ls H locs hL hW xS)
    | some a => cases q2 (by simp); exact lv_ifnull hx hb hd (kk ls H locs hL hW xS)
  · obtain ⟨r, h0, h3⟩ := Option.bind_eq_some_iff.mp hsx
    obtain ⟨t, ht, q1, q2⟩ := ifO_eq h3
    have ev := rfO_some h0
    subst ev
    cases r with
    | none => cases q2 (by simp); exact lv_ifnonnullN hx hb hd (kk ls H locs hL hW xS)
    | some a => cases q1 (by simp); exact lv_ifnonnull hx hb hd ht (kk ls H locs hL hW xS)
  · obtain ⟨ry, h0, h3⟩ := Option.bind_eq_some_iff.mp hsx
    obtain ⟨rx, h1, h4⟩ := Option.bind_eq_some_iff.mp h3
    obtain ⟨t, ht, q1, q2⟩ := ifO_eq h4
    have ev := rfO_some h0
    have ew := rfO_some h1
    subst ev; subst ew
    exact lv_acmp_eq hx hb hd ht (fun z => by cases q1 z; exact kk ls H locs hL hW xS) (fun z => by cases q2 z; exact kk ls H locs hL hW xS)
  · obtain ⟨ry, h0, h3⟩ := Option.bind_eq_some_iff.mp hsx
    obtain ⟨rx, h1, h4⟩ := Option.bind_eq_some_iff.mp h3
    obtain ⟨t, ht, q1, q2⟩ := ifO_eq h4
    have ev := rfO_some h0
    have ew := rfO_some h1
    subst ev; subst ew
    exact lv_acmp_ne hx hb hd ht (fun z => by cases q1 z; exact kk ls H locs hL hW xS) (fun z => by cases q2 (fun y => y z); exact kk ls H locs hL hW xS)
  · split at hsx
    · rename_i ho
      obtain ⟨t, ht, q⟩ := jmpO_eq hsx
      cases q; exact lv_tableOut hx hb hd ho ht (kk ls H locs hL hW xS)
    · rename_i ho
      obtain ⟨off, h1, h3⟩ := Option.bind_eq_some_iff.mp hsx
      obtain ⟨t, ht, q⟩ := jmpO_eq h3
      cases q; exact lv_tableIn hx hb hd (fun z => ho (Or.inl z)) (fun z => ho (Or.inr z)) h1 ht (kk ls H locs hL hW xS)
  -- fields
  · obtain ⟨w, h1, h2⟩ := Option.map_eq_some_iff.mp hsx
    cases h2; exact sn_get xC' hW h1 hd (kk ls H locs hL hW xS)
  · obtain ⟨h1, h2, h3⟩ := Option.map_eq_some_iff.mp hsx
    cases h3
    have hcm : hC h' = hC h ∧ hM h' = hM h := by
      unfold pfO at h2
      repeat' split at h2
      all_goals first | (cases h2; exact ⟨rfl, rfl⟩) | (obtain ⟨q, -, q2⟩ := Option.map_eq_some_iff.mp h2; cases q2; exact ⟨rfl, rfl⟩) | cases h2
    rw [hcm.1, hcm.2] at kk
    exact sn_put xC' hW xS h2 hd (fun H' locs' w1 w2 => kk ls H' locs' hL w1 w2)
  · split at hsx
    · rename_i hz
      cases hsx
      obtain ⟨z1, rfl⟩ := hz
      rw [z1] at hown
      refine va_gets hx hb xK.2.2.2.2.2.2.2.1 xS hown (hts _ (wlk1 (List.mem_of_getElem? (i := 96) rfl) rfl : Cond.fieldLink (RN 0) 39 "java/util/ArrayList" "DEFAULTCAPACITY_EMPTY_ELEMENTDATA" "[Ljava/lang/Object;" ∈ WL)) (fun x hx2 => hx2) hd (kk ls H locs hL hW xS)
    · cases hsx
  -- rows
  · obtain ⟨w, h1, h2⟩ := Option.map_eq_some_iff.mp hsx
    cases h2; exact sn_iald xC' hW xS h1 hd (kk ls H locs hL hW xS)
  · split at hsx
    · rename_i hz; cases hsx; exact sn_zald xC' hW hz hd (kk ls H locs hL hW xS)
    · cases hsx
  · split at hsx
    · rename_i hz; cases hsx; exact sn_lald xC' hW hz hd (kk ls H locs hL hW xS)
    · cases hsx
  · split at hsx
    · rename_i hz; cases hsx; exact sn_aald xC' hW hz hd (kk ls H locs hL hW xS)
    · cases hsx
  · split at hsx
    · rename_i hz; cases hsx; exact sn_iast xC' hW xS hz hd (fun H' locs' w1 w2 => kk ls H' locs' hL w1 w2)
    · cases hsx
  · split at hsx
    · rename_i hz; cases hsx; exact sn_zast xC' hW xS hz hd (fun H' locs' w1 w2 => kk ls H' locs' hL w1 w2)
    · cases hsx
  · obtain ⟨h1, h2, h3⟩ := Option.map_eq_some_iff.mp hsx
    cases h3
    have hcm : hC h' = hC h ∧ hM h' = hM h := by
      unfold aasO at h2
      repeat' split at h2
      all_goals first | (cases h2; exact ⟨rfl, rfl⟩) | cases h2
    rw [hcm.1, hcm.2] at kk
    exact sn_aast xC' hW xS h2 hd (fun H' locs' w1 w2 => kk ls H' locs' hL w1 w2)
  · obtain ⟨w, h1, h2⟩ := Option.map_eq_some_iff.mp hsx
    cases h2; exact sn_alen xC' hW xS h1 hd (kk ls H locs hL hW xS)
  -- new ones
  · obtain ⟨c1, h1, h3⟩ := Option.bind_eq_some_iff.mp hsx
    split at h3
    · rename_i hc14
      cases h3
      have e1 : hC (hpO h c1) - c0 = hC h - c0 + 1 := by show hC h + 1 - c0 = _; omega
      have e2 : hM (hpO h c1) - m0 = hM h - m0 + nf c1 := by show hM h + nf c1 - m0 = _; omega
      rw [e1, e2] at kk hr
      exact sn_new xC' hW xS h1 hc14 hd hr (fun H' w1 w2 => kk ls H' locs hL w1 w2)
    · cases h3
  · split at hsx
    · rename_i n _ hz
      cases hsx
      have e1 : hC (hpW h 0 n.toNatClampNeg) - c0 = hC h - c0 + 1 := by show hC h + 1 - c0 = _; omega
      have e2 : hM (hpW h 0 n.toNatClampNeg) - m0 = hM h - m0 + n.toNatClampNeg := by show hM h + n.toNatClampNeg - m0 = _; omega
      rw [e1, e2] at kk hr
      exact sn_newa xC' hW xS (Or.inl ⟨rfl, rfl⟩) hz hd hr (fun H' w1 w2 => kk ls H' locs hL w1 w2)
    · cases hsx
  · split at hsx
    · rename_i n _ hz
      cases hsx
      have e1 : hC (hpW h 1 n.toNatClampNeg) - c0 = hC h - c0 + 1 := by show hC h + 1 - c0 = _; omega
      have e2 : hM (hpW h 1 n.toNatClampNeg) - m0 = hM h - m0 + n.toNatClampNeg := by show hM h + n.toNatClampNeg - m0 = _; omega
      rw [e1, e2] at kk hr
      exact sn_newa xC' hW xS (Or.inr (Or.inl ⟨rfl, rfl⟩)) hz hd hr (fun H' w1 w2 => kk ls H' locs hL w1 w2)
    · cases hsx
  · split at hsx
    · rename_i n _ hz
      cases hsx
      have e1 : hC (hpW h 9 n.toNatClampNeg) - c0 = hC h - c0 + 1 := by show hC h + 1 - c0 = _; omega
      have e2 : hM (hpW h 9 n.toNatClampNeg) - m0 = hM h - m0 + n.toNatClampNeg := by show hM h + n.toNatClampNeg - m0 = _; omega
      rw [e1, e2] at kk hr
      exact sn_newa xC' hW xS (Or.inr (Or.inr ⟨rfl, rfl⟩)) hz hd hr (fun H' w1 w2 => kk ls H' locs hL w1 w2)
    · cases hsx
  · obtain ⟨c1, h1, h3⟩ := Option.bind_eq_some_iff.mp hsx
    obtain ⟨t, h4, h5⟩ := Option.bind_eq_some_iff.mp h3
    split at h5
    · rename_i n _ hz
      cases h5
      have e1 : hC (hpW h t n.toNatClampNeg) - c0 = hC h - c0 + 1 := by show hC h + 1 - c0 = _; omega
      have e2 : hM (hpW h t n.toNatClampNeg) - m0 = hM h - m0 + n.toNatClampNeg := by show hM h + n.toNatClampNeg - m0 = _; omega
      rw [e1, e2] at kk hr
      exact sn_newq xC' hW xS h1 h4 hz hd hr (fun H' w1 w2 => kk ls H' locs hL w1 w2)
    · cases h5
  · cases hsx; exact lv_castN hx hb hd (kk ls H locs hL hW xS)
  · obtain ⟨c1, h1, h3⟩ := Option.bind_eq_some_iff.mp hsx
    split at h3
    · rename_i hz
      cases h3
      obtain ⟨f1, hi⟩ := clk_ok h1
      unfold ClOK at f1
      rw [(key_d hi).1, (key_d hi).2] at f1
      obtain ⟨C, T, g1, g2, -⟩ := cokAll hz.2
      have eC : CN c1 = C := by unfold CN; rw [if_neg (by omega), g2]
      rw [eC] at f1
      exact va_castS hx hb hown (hts _ f1) (xK.1.1 c1 _ g1).2 (va_recv xK.1 (va_one (hW.ob hz.1 hz.2)) (q0 := 0) g1 rfl) hd (kk ls H locs hL hW xS)
    · cases h3
  · cases hsx
end SN4
