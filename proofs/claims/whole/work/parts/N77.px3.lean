-- ROOM: sending and delivering
section
variable {A : alT} {y : Nat → Nat} {i n K κ p j c t m : Nat} {cl : List kcT} {B ack v ky a b x k ak : Int32} {S S' : stA} {F F' : fcT} {r : rqT} {μ : mT} {d : anT × Option ptT}
theorem snd_j (l6 : cl.length = 6) (hi : i < 6) (hl : (cl.getD i cl0).1.length < 40) {z : Nat → Option anT} : (∀ j, j < 240 → ¬ j = i * 40 + (cl.getD i cl0).1.length → (∀ t, Rj (cl.set i ((cl.getD i cl0).1 ++ [r], z)) t j = Rj cl t j) ∧ (j % 40 < ((cl.set i ((cl.getD i cl0).1 ++ [r], z)).getD (j / 40) cl0).1.length ↔ j % 40 < (cl.getD (j / 40) cl0).1.length)) ∧ (∀ t, Rj cl t (i * 40 + (cl.getD i cl0).1.length) = false ∧ Rj (cl.set i ((cl.getD i cl0).1 ++ [r], z)) t (i * 40 + (cl.getD i cl0).1.length) = decide (r.2.1 / 8 = nI t)) := by
  refine ⟨fun j hj ne => ?_, fun t => ?_⟩
  · by_cases w : i = j / 40
    · subst w
      have nl : ¬ j % 40 = (cl.getD (j / 40) cl0).1.length := fun z => ne (by omega)
      rw [clg_eq (by omega)]
      have il : j % 40 < ((cl.getD (j / 40) cl0).1 ++ [r]).length ↔ j % 40 < (cl.getD (j / 40) cl0).1.length := by
        rw [List.length_append, List.length_singleton]; omega
      refine ⟨fun t => ?_, il⟩
      unfold Rj
      rw [clg_eq (by omega)]
      by_cases q : j % 40 < (cl.getD (j / 40) cl0).1.length
      · rw [decide_eq_true (il.mpr q), decide_eq_true q, rqg_lt q]
      · rw [decide_eq_false (fun z => q (il.mp z)), decide_eq_false q]; rfl
    · rw [clg_ne w]
      refine ⟨fun t => ?_, Iff.rfl⟩
      unfold Rj
      rw [clg_ne w]
  · have e1 : (i * 40 + (cl.getD i cl0).1.length) / 40 = i := by omega
    have e2 : (i * 40 + (cl.getD i cl0).1.length) % 40 = (cl.getD i cl0).1.length := by omega
    unfold Rj
    rw [e1, e2, clg_eq (by omega), rqg_eq]
    refine ⟨?_, ?_⟩
    · rw [decide_eq_false (Nat.lt_irrefl _)]; rfl
    · rw [decide_eq_true (by rw [List.length_append, List.length_singleton]; omega)]; rfl
theorem snd_N (l6 : cl.length = 6) (hi : i < 6) (hl : (cl.getD i cl0).1.length < 40) {z : Nat → Option anT} : sN (cl.set i ((cl.getD i cl0).1 ++ [r], z)) = sN cl + 1 ∧ ∀ t, Rt (cl.set i ((cl.getD i cl0).1 ++ [r], z)) t = Rt cl t + (if r.2.1 / 8 = nI t then 1 else 0) := by
  obtain ⟨a1, a2⟩ := snd_j (r := r) (z := z) l6 hi hl
  have hj0 : i * 40 + (cl.getD i cl0).1.length < 240 := by omega
  refine ⟨?_, fun t => ?_⟩
  · have := sm_u (n := 240) (t := i * 40 + (cl.getD i cl0).1.length) (f := fun j => if j % 40 < (cl.getD (j / 40) cl0).1.length then 1 else 0) (f' := fun j => if j % 40 < ((cl.set i ((cl.getD i cl0).1 ++ [r], z)).getD (j / 40) cl0).1.length then 1 else 0) hj0 (fun j hj ne => by
      show (if j % 40 < ((cl.set i ((cl.getD i cl0).1 ++ [r], z)).getD (j / 40) cl0).1.length then 1 else 0) = _
      have := (a1 j hj ne).2
      by_cases q : j % 40 < (cl.getD (j / 40) cl0).1.length
      · rw [if_pos q, if_pos (this.mpr q)]
      · rw [if_neg q, if_neg (fun w => q (this.mp w))])
    have e1 : (i * 40 + (cl.getD i cl0).1.length) / 40 = i := by omega
    have e2 : (i * 40 + (cl.getD i cl0).1.length) % 40 = (cl.getD i cl0).1.length := by omega
    rw [e1, e2, clg_eq (by omega), if_neg (Nat.lt_irrefl _), if_pos (by rw [List.length_append, List.length_singleton]; omega), Nat.add_zero] at this
    unfold sN
    exact this
  · rw [Rt_sm, Rt_sm]
    have := sm_u (n := 240) (t := i * 40 + (cl.getD i cl0).1.length) (f := fun j => if Rj cl t j = true then 1 else 0) (f' := fun j => if Rj (cl.set i ((cl.getD i cl0).1 ++ [r], z)) t j = true then 1 else 0) hj0 (fun j hj ne => by
      show (if Rj (cl.set i ((cl.getD i cl0).1 ++ [r], z)) t j = true then 1 else 0) = _
      rw [(a1 j hj ne).1 t])
    rw [(a2 t).1, (a2 t).2, if_neg (by decide), Nat.add_zero] at this
    have e : (if decide (r.2.1 / 8 = nI t) = true then 1 else 0) = (if r.2.1 / 8 = nI t then 1 else 0) := by
      by_cases q : r.2.1 / 8 = nI t
      · rw [if_pos q, if_pos (decide_eq_true q)]
      · rw [if_neg q, if_neg (by rw [decide_eq_false q]; decide)]
    rw [← e]
    exact this
theorem px_keep (h : PX y F K κ) (l6 : (fCl F).length = 6) (hi : i < 6) (hl : ((fCl F).getD i cl0).1.length < 40) : PX y (keepA F i r) (K + 1) κ := by
  obtain ⟨s1, s2⟩ := snd_N (r := r) (z := ((fCl F).getD i cl0).2) l6 hi hl
  obtain ⟨h1, ⟨d, d1, d2⟩, h3⟩ := h
  have ec : fCl (keepA F i r) = (fCl F).set i (((fCl F).getD i cl0).1 ++ [r], ((fCl F).getD i cl0).2) := rfl
  have es : fSt (keepA F i r) = fSt F := rfl
  generalize (fCl F).set i (((fCl F).getD i cl0).1 ++ [r], ((fCl F).getD i cl0).2) = cl' at s1 s2 ec
  have w : ∀ t, wT (fCl F) t ≤ wT cl' t ∧ wT cl' t = wT (fCl F) t + (if r.2.1 / 8 = nI t then 1 else 0) := fun t => by
    unfold wT
    rw [s2 t]
    omega
  have v : VV cl' (fSt F) ≤ VV (fCl F) (fSt F) + 1 := by
    have v1 : VV cl' (fSt F) ≤ sm 8 (fun t => vT (fCl F) (fSt F) t + (if r.2.1 / 8 = nI t then 1 else 0)) := sm_le 8 (fun t _ => by
      have := (w t).2
      unfold vT
      split
      · omega
      · split
        · omega
        · omega)
    have v2 : sm 8 (fun t => vT (fCl F) (fSt F) t + (if r.2.1 / 8 = nI t then 1 else 0)) = VV (fCl F) (fSt F) + sm 8 (fun t => if r.2.1 / 8 = nI t then 1 else 0) := sm_add 8
    have v3 : sm 8 (fun t => if r.2.1 / 8 = nI t then 1 else 0) ≤ 1 := sm_1x 8 (fun t _ => by split <;> omega) (fun t t' ht ht' z z' => by
      have k1 : r.2.1 / 8 = nI t := Decidable.byContradiction (fun u => z (if_neg u))
      have k2 : r.2.1 / 8 = nI t' := Decidable.byContradiction (fun u => z' (if_neg u))
      exact nI_inj (by omega) (by omega) (k1.symm.trans k2))
    omega
  refine ⟨?_, ⟨d, by rw [ec, s1]; omega, ?_⟩, h3⟩
  · rw [ec, es]
    refine ⟨fun k hk => Nat.le_trans (h1.1 k hk) ?_, fun e he => Nat.le_trans (h1.2 e he) ?_⟩
    · have : oW (fCl F) (tOw (fSt F)) k ≤ oW cl' (tOw (fSt F)) k := sm_le 8 (fun t _ => by
        split
        · exact (w t).1
        · exact Nat.le_refl _)
      omega
    · have : sm 8 (wT (fCl F)) ≤ sm 8 (wT cl') := sm_le 8 (fun t _ => (w t).1)
      omega
  · rw [ec, es, s1]
    have m := Nat.mul_le_mul_right (d + bN y (fSt F)) (show 448 + sN (fCl F) ≤ 448 + (sN (fCl F) + 1) by omega)
    omega
theorem px_send (h : PX y F K κ) (l6 : (fCl F).length = 6) : PX y (sendA F v k ky a b).1 (K + 1) κ := by
  unfold sendA
  split
  · exact h.s rfl ce_r
  · next w =>
    split
    · exact h.s rfl ce_r
    · next w2 =>
      split
      · exact h.s rfl ce_r
      · split
        · exact h.s rfl ce_r
        · obtain ⟨j, j1, j2⟩ := inF_1 (x := v) (n := 6) (by decide) (fun z => w (Or.inl z))
          obtain ⟨p1, p2⟩ := post_o (F := F) (i := v.toNatClampNeg) (n := ((fCl F).getD v.toNatClampNeg cl0).1.length + 1) (ky := ky)
          have w2 := Decidable.not_not.mp w2
          generalize (postA F v.toNatClampNeg (((fCl F).getD v.toNatClampNeg cl0).1.length + 1) ky).1 = F1 at p1 p2
          have h1 : PX y F1 K κ := by
            unfold PX
            rw [p1, p2]; exact h
          exact px_keep h1 (by rw [p2]; exact l6) (by rw [j2, nI_clamp (by omega)]; exact j1) (by rw [p2]; exact w2)
theorem px_fnc (h : PX y F K κ) (hc : CX y (fCl F) B (fSt F)) (hi : i < y 20) : PX y (fncA F i) K κ := by
  have l := hc.1.1
  unfold fncA
  split
  · next w =>
    have f := nF_set2 (S := fSt F) (S' := fgA (fSt F) i) (x' := emS ((tSv (fSt F)).getD i sr0)) l hi rfl
    have b := bN_set (S := fSt F) (S' := fgA (fSt F) i) (x' := emS ((tSv (fSt F)).getD i sr0)) l hi rfl
    rw [if_neg w, if_pos (show sFe (emS ((tSv (fSt F)).getD i sr0)) = 0 from rfl)] at f
    have b2 : sSt (emS ((tSv (fSt F)).getD i sr0)) = sSt ((tSv (fSt F)).getD i sr0) := rfl
    rw [b2] at b
    refine h.a0 (F' := setS F (fgA (fSt F) i)) ce_r (h.1.sv l (i := i) rfl rfl rfl (fun _ => ?_)) (Nat.le_of_eq (VV_cb rfl (fun k => bd_set (f := emS) (fun _ => rfl)))) (by show bN y (fSt F) ≤ bN y (fgA (fSt F) i); omega) (Nat.le_refl _) rfl (by show tFo (fSt F) + 1 + nF y (fgA (fSt F) i) ≤ _; omega)
    show 0 + (lgO (sLL ((tSv (fSt F)).getD i sr0))).1.length ≤ (sLg ((tSv (fSt F)).getD i sr0)).1.length + _
    omega
  · exact h
/-- one SERVER's LOG after making room, and what is written there -/
theorem px_chgB (h : PX y F K κ) (hx : CX y (fCl F) B (fSt F)) (hy : yOK y) (hi : i < y 20) (h0 : sSt ((tSv (fSt F)).getD i sr0) = 0) (hl : sLo ((tSv (fSt F)).getD i sr0) = 0) : PX y (chgB y F i c n r ak d).1 (K + 1) κ := by
  have l := hx.1.1
  have ls : i < (tSv (fSt F)).length := by omega
  have sx := hx.2.2.1 i hi
  have ell : sLL ((tSv (fSt F)).getD i sr0) = none := sx.1.2.2.2.1.mp hl
  obtain ⟨⟨y1, y2⟩, yy2, ⟨y3, y4⟩, yy4⟩ := hy
  obtain ⟨b1, b2, b3, b4, b5⟩ := mkA_o (W := mkrS y (fSt F) i (unQ d.2) 1) rfl hx.up y1 y2 hi (by omega) sx.2.2.2.1.1
  have eW : chW y (fSt F) i d.2 = mkrS y (fSt F) i (unQ d.2) 1 := rfl
  have len := b2.2.2.2 (by decide)
  have sl : ∀ A' : alT, A'.1.length = (mkrS y (fSt F) i (unQ d.2) 1).1.1.length → A'.1.length + (lgO (sLL ((tSv (fSt F)).getD i sr0))).1.length ≤ sL2 ((tSv (fSt F)).getD i sr0) ∨ A'.1.length + (lgO (sLL ((tSv (fSt F)).getD i sr0))).1.length ≤ y 23 := fun A' e => by
    unfold sL2
    rw [ell, e]
    show _ + 0 ≤ _ + 0 ∨ _ + 0 ≤ _
    omega
  unfold chgB
  rw [eW]
  split
  · exact h.sv (F' := setS F (rmW (fSt F) i (mkrS y (fSt F) i (unQ d.2) 1))) (x' := stLg ((tSv (fSt F)).getD i sr0) (mkrS y (fSt F) i (unQ d.2) 1).1) hx hi ce_r rfl rfl (h.1.sv2 l (i := i) rfl rfl rfl (fun _ => sl _ rfl)) (fun z => z) b2.2.1 rfl rfl (Or.inr rfl)
  · have eS2 : chS2 y (fSt F) i c n r ak d = wrS (rmW (fSt F) i (mkrS y (fSt F) i (unQ d.2) 1)) i (chP (mkrS y (fSt F) i (unQ d.2) 1).1.1 c n r ak d) (cpN (sCu ((tSv (fSt F)).getD i sr0))) := rfl
    have ex : (tSv (rmW (fSt F) i (mkrS y (fSt F) i (unQ d.2) 1))).getD i sr0 = stLg ((tSv (fSt F)).getD i sr0) (mkrS y (fSt F) i (unQ d.2) 1).1 := gd_eq ls
    have e3 : ∀ np cc, tSv (wrS (rmW (fSt F) i (mkrS y (fSt F) i (unQ d.2) 1)) i np cc) = (tSv (fSt F)).set i (stLg ((tSv (fSt F)).getD i sr0) (wrtA (mkrS y (fSt F) i (unQ d.2) 1).1 np cc)) := fun np cc => by
      show ((tSv (fSt F)).set i _).set i (stLg ((tSv (rmW (fSt F) i (mkrS y (fSt F) i (unQ d.2) 1))).getD i sr0) (wrtA (sLg ((tSv (rmW (fSt F) i (mkrS y (fSt F) i (unQ d.2) 1))).getD i sr0)) np cc)) = _
      rw [ex, List.set_set]
      rfl
    rw [eS2]
    generalize chP (mkrS y (fSt F) i (unQ d.2) 1).1.1 c n r ak d = np
    have wl : ∀ cc, (wrtA (mkrS y (fSt F) i (unQ d.2) 1).1 np cc).1.length = (mkrS y (fSt F) i (unQ d.2) 1).1.1.length := fun cc => by
      unfold wrtA
      exact List.length_map _
    have n3 : ∀ cc, tNm (wrS (rmW (fSt F) i (mkrS y (fSt F) i (unQ d.2) 1)) i np cc) ≤ tNm (fSt F) + 2 ∧ tOw (wrS (rmW (fSt F) i (mkrS y (fSt F) i (unQ d.2) 1)) i np cc) = tOw (fSt F) ∧ tDe (wrS (rmW (fSt F) i (mkrS y (fSt F) i (unQ d.2) 1)) i np cc) = tDe (fSt F) ∧ tDs (wrS (rmW (fSt F) i (mkrS y (fSt F) i (unQ d.2) 1)) i np cc) = tDs (fSt F) ∧ tFo (wrS (rmW (fSt F) i (mkrS y (fSt F) i (unQ d.2) 1)) i np cc) = tFo (fSt F) := fun cc => ⟨b2.2.1, rfl, rfl, rfl, rfl⟩
    have sl2 := fun cc => sl (wrtA (mkrS y (fSt F) i (unQ d.2) 1).1 np cc) (wl cc)
    generalize cpN (sCu ((tSv (fSt F)).getD i sr0)) = cc
    have e3 := e3 np cc
    have n3 := n3 cc
    have sl2 := sl2 cc
    generalize wrtA (mkrS y (fSt F) i (unQ d.2) 1).1 np cc = A2 at e3 sl2
    generalize wrS (rmW (fSt F) i (mkrS y (fSt F) i (unQ d.2) 1)) i np cc = S3 at e3 n3
    obtain ⟨n1, n2, n4, n5, n6⟩ := n3
    split
    · have eb : tSv (bdA S3 i) = (tSv (fSt F)).set i (bdS (tOw (fSt F)) i (stLg ((tSv (fSt F)).getD i sr0) A2)) := by
        show (tSv S3).set i (bdS (tOw S3) i ((tSv S3).getD i sr0)) = _
        rw [e3, gd_eq ls, List.set_set, n2]
      refine h.dn (x' := bdS (tOw (fSt F)) i (stLg ((tSv (fSt F)).getD i sr0) A2)) hx hi ce_r eb (h.1.sv2 l eb n2 n4 (fun _ => ?_)) h0 (show ¬ (2 : Int32) = 0 by decide) n1 n5 n6 (Or.inl rfl)
      have := sL2_bd (i := i) (A := A2) (ow := tOw (fSt F)) (z := (tSv (fSt F)).getD i sr0) sx.1.2.2.2.1
      exact sl2.imp (fun q => Nat.le_trans this q) (fun q => Nat.le_trans this q)
    · show PX y ((if d.2.isSome = true then sfS S3 i (sSf ((tSv (fSt F)).getD i sr0) + 1) else S3), _) (K + 1) κ
      by_cases wd : d.2.isSome = true
      · rw [if_pos wd]
        have eb : tSv (sfS S3 i (sSf ((tSv (fSt F)).getD i sr0) + 1)) = (tSv (fSt F)).set i (sfX (stLg ((tSv (fSt F)).getD i sr0) A2) (sSf ((tSv (fSt F)).getD i sr0) + 1)) := by
          show (tSv S3).set i (sfX ((tSv S3).getD i sr0) _) = _
          rw [e3, gd_eq ls, List.set_set]
        exact h.sv (x' := sfX (stLg ((tSv (fSt F)).getD i sr0) A2) (sSf ((tSv (fSt F)).getD i sr0) + 1)) hx hi ce_r eb n2 (h.1.sv2 l eb n2 n4 (fun _ => sl2)) (fun z => z) n1 n5 n6 (Or.inr rfl)
      · rw [if_neg wd]
        exact h.sv (x' := stLg ((tSv (fSt F)).getD i sr0) A2) hx hi ce_r e3 n2 (h.1.sv2 l e3 n2 n4 (fun _ => sl2)) (fun z => z) n1 n5 n6 (Or.inr rfl)
theorem px_srv (h : PX y F K κ) (hc : CF y F m) (hy : yOK y) (hi : i < y 20) (hc6 : c < 6) (h1 : 1 ≤ n) (hn : n ≤ ((fCl F).getD c cl0).1.length) (h0 : sSt ((tSv (fSt F)).getD i sr0) = 0) : PX y (srvA y F i c n (rqF F c n) ack).1 (K + 1) κ := by
  obtain ⟨f1, f2, f3, f4, f5⟩ := fnc_o (F := F) (i := i)
  obtain ⟨g1, g2, g3⟩ := hc.1.fnc hi
  have pf := px_fnc (i := i) h hc.1 hi
  rw [h0] at g3
  obtain ⟨o1, o2, o3⟩ := hc.2.2.1 c hc6 (n - 1) (by omega)
  obtain ⟨k, k1, k2⟩ := inF_1 (n := 64) (by decide) (show ¬ inF (rqF F c n).2.1 (nI 64) = 0 by
    have o1 : inF (rqF F c n).2.1 64 = 1 := o1
    rw [show nI 64 = 64 from rfl, o1]; decide)
  rw [← f1] at g1
  unfold srvA
  generalize fncA F i = F1 at *
  have l := g1.1.1
  have sx := g1.2.2.1 i hi
  obtain ⟨b, b1, b2⟩ := sx.2.1
  split
  · exact pf.s rfl ce_r
  · next w =>
    have tk := bit_K b1 b2 k1 k2 w
    have hl := tb_lo sx tk
    have ell : sLL ((tSv (fSt F1)).getD i sr0) = none := sx.1.2.2.2.1.mp hl
    split
    · have yy := hy
      obtain ⟨⟨y1, y2⟩, yy2, ⟨y3, y4⟩, yy4⟩ := hy
      obtain ⟨c1, c2, c3, c4, c5⟩ := mkA_o (W := mkrS y (fSt F1) i 0 1) rfl g1.up y1 y2 hi (by omega) sx.2.2.2.1.1
      have len := c2.2.2.2 (by decide)
      refine pf.sv (F' := setS F1 (rmW (fSt F1) i (mkrS y (fSt F1) i 0 1))) (x' := stLg ((tSv (fSt F1)).getD i sr0) (mkrS y (fSt F1) i 0 1).1) g1 hi ce_r rfl rfl (pf.1.sv2 l (i := i) rfl rfl rfl (fun _ => ?_)) (fun z => z) c2.2.1 rfl rfl (Or.inr rfl)
      show (mkrS y (fSt F1) i 0 1).1.1.length + (lgO (sLL ((tSv (fSt F1)).getD i sr0))).1.length ≤ (sLg ((tSv (fSt F1)).getD i sr0)).1.length + (lgO (sLL ((tSv (fSt F1)).getD i sr0))).1.length ∨ _
      rw [ell]
      show _ + 0 ≤ _ + 0 ∨ (mkrS y (fSt F1) i 0 1).1.1.length + (lgO (sLL ((tSv (fSt F1)).getD i sr0))).1.length ≤ y 23
      rw [ell]
      show _ + 0 ≤ _ + 0 ∨ _ + 0 ≤ _
      omega
    · unfold chgA
      split
      · exact pf.s rfl ce_r
      · exact px_chgB pf g1 hy hi g3 hl
theorem px_deliver (h : PX y F K κ) (hc : CF y F m) (hr : FR y F μ) (hy : yOK y) : PX y (dlvA y F x).1 (K + 1) κ := by
  unfold dlvA
  split
  · exact h.s rfl ce_r
  · next j m e =>
    obtain ⟨m1, m2⟩ := msg_i e
    obtain ⟨n1, n2, n3, n4⟩ := hr.ntc m1 m2
    split
    · next v hv =>
      split
      · exact h.s rfl ce_r
      · split
        · refine h.s (F' := ansW (netA F j none) m.1 m.2.1 v) rfl (fun c => ?_)
          show (((fCl F).set m.1 (((fCl F).getD m.1 cl0).1, _)).getD c cl0).1 = _
          by_cases w : m.1 = c
          · subst w
            rw [clg_eq (by rw [hr.2.1.1]; exact n1)]
          · rw [clg_ne w]
        · exact h.s rfl ce_r
    · next hv =>
      split
      · exact h.s rfl ce_r
      · next t ht =>
        split
        · exact h.s rfl ce_r
        · next w1 =>
          split
          · exact h.s rfl ce_r
          · next w2 =>
            obtain ⟨t', t1, t2⟩ := n4 hv
            have t2 : some t = some t' := ht.symm.trans t2
            cases t2
            have h0 : sSt ((tSv (fSt F)).getD t sr0) = 0 := by
              rcases (hc.1.2.2.1 t t1).1.1 with z | z | z
              · exact z
              · exact absurd z w2
              · exact absurd z w1
            have pz := px_srv (ack := m.2.2.1) h hc hy t1 n1 n2 n3 h0
            generalize srvA y F t m.1 m.2.1 (rqF F m.1 m.2.1) m.2.2.1 = Z at pz
            unfold dlvZ
            split <;> exact pz
end
