-- ROOM: a tablet's taking over, step by step
section
variable {A D : alT} {y : Nat → Nat} {i j t n : Nat} {cl : List kcT} {B up gr : Int32} {S : stA} {p : pT} {l l2 : List pT}
theorem aps_nmW : tNm (apS y i S p) = (mkrS y S i (kU (pKd p)) 0).2.1 := by
  unfold apS
  split <;> rfl
theorem aps_room (h : CX y cl B S) (hy : yOK y) (hi : i < y 20) : 2 * tNm (apS y i S p) + hu (sLg ((tSv (apS y i S p)).getD i sr0)) + pen (nI (upN (tSv S))) (sLg ((tSv (apS y i S p)).getD i sr0)) ≤ 2 * tNm S + hu (sLg ((tSv S).getD i sr0)) + pen (nI (upN (tSv S))) (sLg ((tSv S).getD i sr0)) + un1 p ∧ (sLg ((tSv (apS y i S p)).getD i sr0)).1.length + tNm S ≤ (sLg ((tSv S).getD i sr0)).1.length + tNm (apS y i S p) := by
  have ls : i < (tSv S).length := by rw [h.1.1]; exact hi
  obtain ⟨yy1, yy2, yy3, yy4⟩ := hy
  have L := (h.2.2.1 i hi).2.2.2.1.1
  obtain ⟨a1, a2⟩ := ap_names (W := mkrS y S i (kU (pKd p)) 0) (p := p) h.up yy1.1 yy1.2 hi yy3.1 yy3.2 L rfl
  obtain ⟨b1, b2, b3, b4, b5⟩ := mkA_o (W := mkrS y S i (kU (pKd p)) 0) rfl h.up yy1.1 yy1.2 hi (by omega) L
  rw [aps_lg ls, aps_nmW]
  by_cases w : (mkrS y S i (kU (pKd p)) 0).2.2.2 = 0
  · rw [if_pos w]
    have := a1 w
    exact ⟨by omega, b2.2.2.1⟩
  · rw [if_neg w]
    refine ⟨a2 w, ?_⟩
    have e : (wrtA (mkrS y S i (kU (pKd p)) 0).1 [p] 100).1.length = (mkrS y S i (kU (pKd p)) 0).1.1.length := by
      unfold wrtA
      exact List.length_map _
    rw [e]
    exact b2.2.2.1
theorem CX.apr (hy : yOK y) (hi : i < y 20) : ∀ (l : List pT) (S : stA), CX y cl B S → sFe ((tSv S).getD i sr0) = 0 → sLo ((tSv S).getD i sr0) = 0 → (∀ p ∈ l, PFx cl B p ∧ PO (sSf ((tSv S).getD i sr0)) (sTb ((tSv S).getD i sr0)) p) → (∀ k v, (allP (sLg ((tSv S).getD i sr0))).countP (qV k v) + l.countP (qV k v) ≤ 1) → (∀ c n, (allP (sLg ((tSv S).getD i sr0))).countP (resA c n) + l.countP (resA c n) ≤ 1) → 2 * tNm (apL y i S l) + hu (sLg ((tSv (apL y i S l)).getD i sr0)) + pen (nI (upN (tSv S))) (sLg ((tSv (apL y i S l)).getD i sr0)) ≤ 2 * tNm S + hu (sLg ((tSv S).getD i sr0)) + pen (nI (upN (tSv S))) (sLg ((tSv S).getD i sr0)) + unN l ∧ (sLg ((tSv (apL y i S l)).getD i sr0)).1.length + tNm S ≤ (sLg ((tSv S).getD i sr0)).1.length + tNm (apL y i S l) := by
  intro l
  induction l with
  | nil => intro S h _ _ _ _ _; exact ⟨Nat.le_refl _, Nat.le_refl _⟩
  | cons p l ih =>
    intro S h hf hl hp q1 q2
    have c1 : ∀ q, (p :: l).countP q = [p].countP q + l.countP q := fun q => by
      rw [show p :: l = [p] ++ l from rfl, List.countP_append]
    obtain ⟨a1, a2, a3⟩ := h.ap hy hi hf hl (hp p List.mem_cons_self) (fun k v => by have := q1 k v; rw [c1] at this; omega) (fun k v => by have := q2 k v; rw [c1] at this; omega)
    obtain ⟨r1, r2⟩ := aps_room (p := p) h hy hi
    have e1 : sFe ((tSv (apS y i S p)).getD i sr0) = sFe ((tSv S).getD i sr0) := congrArg (·.2.1) a2
    have e2 : sLo ((tSv (apS y i S p)).getD i sr0) = sLo ((tSv S).getD i sr0) := congrArg (·.2.2.1) a2
    have e3 : sTb ((tSv (apS y i S p)).getD i sr0) = sTb ((tSv S).getD i sr0) := congrArg (·.2.2.2.1) a2
    have e4 : sSf ((tSv (apS y i S p)).getD i sr0) = sSf ((tSv S).getD i sr0) := congrArg (·.2.2.2.2.1) a2
    obtain ⟨b1, b2⟩ := ih (apS y i S p) a1 (e1.trans hf) (e2.trans hl) (fun p' hp' => by rw [e3, e4]; exact hp p' (List.mem_cons_of_mem _ hp')) (fun k v => by
      have h1 := a3 (qV k v)
      have h2 := q1 k v
      rw [dg_qV] at h1
      rw [c1] at h2
      omega) (fun k v => by
      have h1 := a3 (resA k v)
      have h2 := q2 k v
      rw [dg_rA] at h1
      rw [c1] at h2
      omega)
    rw [aps_up] at b1
    have eu : unN (p :: l) = un1 p + unN l := by
      unfold unN
      rw [List.map_cons, List.sum_cons]
    have ea : apL y i S (p :: l) = apL y i (apS y i S p) l := rfl
    rw [ea, eu]
    exact ⟨by omega, by omega⟩
theorem apl_o : ∀ (l : List pT) (S : stA), tOw (apL y i S l) = tOw S ∧ tDe (apL y i S l) = tDe S ∧ tDs (apL y i S l) = tDs S ∧ tFo (apL y i S l) = tFo S ∧ tAw (apL y i S l) = tAw S ∧ ∀ j, ¬ j = i → (tSv (apL y i S l)).getD j sr0 = (tSv S).getD j sr0 := by
  intro l
  induction l with
  | nil => intro S; exact ⟨rfl, rfl, rfl, rfl, rfl, fun _ _ => rfl⟩
  | cons p l ih =>
    intro S
    obtain ⟨b1, b2, b3, b4, b5, b6⟩ := aps_o (y := y) (i := i) (S := S) (p := p)
    obtain ⟨a1, a2, a3, a4, a5, a6⟩ := ih (apS y i S p)
    exact ⟨a1.trans b1, a2.trans b2, a3.trans b4, a4.trans b5, a5.trans b3, fun j hj => (a6 j hj).trans (b6 j hj)⟩
/-- where a taking over stands after some of what moves -/
theorem tk_pre (h : CX y cl B S) (hr : RX y cl S) (hy : yOK y) (l40 : cl40 cl) (hj : j < (tDe S).length) (ht : t < 8) (hb : shrB ((tDe S).getD j d0A).2 (nI t) = 1) (hi : i < y 20) (hf : sFe ((tSv S).getD i sr0) = 0) (hl : sLo ((tSv S).getD i sr0) = 0) (eD : ((tDe S).getD j d0A).1 = D) : (CX y cl B (tk1 (dtb S j t) i t) ∧ RX y cl (tk1 (dtb S j t) i t)) ∧ ∀ l l2, movA (psA (rdP up D)) (sLg ((tSv (tk2 y (psA (rdP up D)).1 (tk1 (dtb S j t) i t) i)).getD i sr0)) t = l ++ l2 → CX y cl B (apL y i (tk2 y (psA (rdP up D)).1 (tk1 (dtb S j t) i t) i) l) ∧ RX y cl (apL y i (tk2 y (psA (rdP up D)).1 (tk1 (dtb S j t) i t) i) l) ∧ 2 * tNm (apL y i (tk2 y (psA (rdP up D)).1 (tk1 (dtb S j t) i t) i) l) ≤ 2 * tNm S + wT cl t := by
  have h1 := h.tkO hy hj ht hb hi hf hl
  have b0 := h.b0 hy
  have y8 := hy.1.2
  have gj : (tDe S).getD j d0A = (tDe S)[j] := by rw [List.getD_eq_getElem?_getD, List.getElem?_eq_getElem hj]; rfl
  have dx := h.2.2.2.1 _ (List.getElem_mem hj)
  rw [← gj] at dx
  have lp : LPx cl B D := by rw [← eD]; exact dx.1.2
  have di : DI D := lp.di (by rw [← eD]; exact dx.1.1) l40
  have ls : i < (tSv S).length := by rw [h.1.1]; exact hi
  have sx := h.2.2.1 i hi
  have ot : (tOw S).getD t 0 = -1 := dx.2.2 t ht hb
  have e1 : (tSv (tk1 (dtb S j t) i t)).getD i sr0 = tbX ((tSv S).getD i sr0) t := gd_eq (S := S) ls
  have nt : noT t (sLg ((tSv (tk1 (dtb S j t) i t)).getD i sr0)) := by
    rw [e1]
    have no : ¬ shrB (sTb ((tSv S).getD i sr0)) (nI t) = 1 := fun z => by
      have o1 := sx.2.2.2.2.1 hf t ht z
      exact nIx_m1 (j := i) (by omega) (o1.symm.trans ot)
    have nk : ∀ ky, tbK (sTb ((tSv S).getD i sr0)) ky → ¬ ky / 8 = nI t := fun ky ⟨t', h1, h2, h3⟩ z => by
      have := nI_inj (a := t') (b := t) (by omega) (by omega) (h2.symm.trans z)
      subst this
      exact no h3
    intro p hp
    have po := sx.2.2.2.1.2.2 p hp
    exact ⟨fun z => nk _ (po.1 z).2, fun z => nk _ (po.2 z)⟩
  have hg : (psA (rdP up D)).1 ≤ B := by
    rw [ps_gr]
    exact gr_leB _ 0 b0 (fun p hp => (lp.1 p (rd_sub.subset hp)).2.2.2.1)
  have f1 : sFe ((tSv (tk1 (dtb S j t) i t)).getD i sr0) = 0 := by rw [e1]; exact hf
  have f2 : sLo ((tSv (tk1 (dtb S j t) i t)).getD i sr0) = 0 := by rw [e1]; exact hl
  have f3 : shrB (sTb ((tSv (tk1 (dtb S j t) i t)).getD i sr0)) (nI t) = 1 := by
    rw [e1]
    obtain ⟨b, b1, b2⟩ := sx.2.1
    show shrB (sTb ((tSv S).getD i sr0) ||| (1 <<< (nI t &&& 31))) (nI t) = 1
    rw [b2, tb_or b1 ht ht, if_pos rfl]
  have ell : sLL ((tSv S).getD i sr0) = none := sx.1.2.2.2.1.mp hl
  have ow1 : tOw (tk1 (dtb S j t) i t) = (tOw S).set t (nI i) := rfl
  obtain ⟨w1, w2⟩ := oW_set (cl := cl) h.1.2.1 ht ot (i := i) (by omega)
  -- any store with the owners and the DEAD of tk1, and a LOG not too long
  have rx : ∀ S', tOw S' = (tOw S).set t (nI i) → tDe S' = tDe (dtb S j t) → (∀ k, ¬ k = i → (tSv S').getD k sr0 = (tSv S).getD k sr0) → 2 * sL2 ((tSv S').getD i sr0) ≤ 2 * sL2 ((tSv S).getD i sr0) + wT cl t → RX y cl S' := fun S' o1 o2 o3 o4 => by
    refine ⟨fun k hk => ?_, fun d hd => ?_⟩
    · rw [o1]
      by_cases w : k = i
      · subst w
        rw [w1]
        have := hr.1 k hk
        omega
      · rw [w2 k (by omega) w, o3 k w]
        exact hr.1 k hk
    · rw [o2] at hd
      have hd : d ∈ (tDe S).set j (((tDe S).getD j d0A).1, ((tDe S).getD j d0A).2 &&& ((1 <<< (nI t &&& 31)) ^^^ (-1))) := hd
      rcases List.mem_or_eq_of_mem_set hd with z | z
      · exact hr.2 d z
      · rw [z]
        show 2 * ((tDe S).getD j d0A).1.1.length ≤ _
        rw [gj]
        exact hr.2 _ (List.getElem_mem hj)
  have s1 : ∀ k, ¬ k = i → (tSv (tk1 (dtb S j t) i t)).getD k sr0 = (tSv S).getD k sr0 := fun k hk => gd_ne (S := S) (fun z => hk z.symm)
  have r1 : RX y cl (tk1 (dtb S j t) i t) := rx _ rfl rfl s1 (by rw [e1]; exact Nat.le_add_right _ _)
  have h2 := h1.ktk2 hy hi f1 f2 hg
  obtain ⟨k1, k2, k3, k4, k5⟩ := h1.tk2f hy hi f1 f2 hg nt
  have q2 : tNm (tk2 y (psA (rdP up D)).1 (tk1 (dtb S j t) i t) i) ≤ tNm S + 2 ∧ (sLg ((tSv (tk2 y (psA (rdP up D)).1 (tk1 (dtb S j t) i t) i)).getD i sr0)).1.length + tNm S ≤ (sLg ((tSv S).getD i sr0)).1.length + tNm (tk2 y (psA (rdP up D)).1 (tk1 (dtb S j t) i t) i) ∧ tOw (tk2 y (psA (rdP up D)).1 (tk1 (dtb S j t) i t) i) = (tOw S).set t (nI i) ∧ tDe (tk2 y (psA (rdP up D)).1 (tk1 (dtb S j t) i t) i) = tDe (dtb S j t) ∧ sLL ((tSv (tk2 y (psA (rdP up D)).1 (tk1 (dtb S j t) i t) i)).getD i sr0) = none ∧ ∀ k, ¬ k = i → (tSv (tk2 y (psA (rdP up D)).1 (tk1 (dtb S j t) i t) i)).getD k sr0 = (tSv S).getD k sr0 := by
    unfold tk2
    split
    · refine ⟨Nat.le_add_right _ _, ?_, rfl, rfl, ?_, s1⟩
      · rw [e1]; exact Nat.le_refl _
      · rw [e1]; exact ell
    · next w =>
      have hs := h1.sf hi (v := (psA (rdP up D)).1) (Int32.le_of_lt (Int32.not_le.mp w)) hg
      have ls1 : i < (tSv (tk1 (dtb S j t) i t)).length := by rw [h1.1.1]; exact hi
      have ls2 : i < (tSv (sfS (tk1 (dtb S j t) i t) i (psA (rdP up D)).1)).length := by rw [hs.1.1]; exact hi
      have g1 : (tSv (sfS (tk1 (dtb S j t) i t) i (psA (rdP up D)).1)).getD i sr0 = sfX ((tSv (tk1 (dtb S j t) i t)).getD i sr0) (psA (rdP up D)).1 := gd_eq ls1
      have L := (hs.2.2.1 i hi).2.2.2.1.1
      obtain ⟨yy1, yy2, yy3, yy4⟩ := hy
      obtain ⟨-, b2, -⟩ := opA_o (W := opnS y (sfS (tk1 (dtb S j t) i t) i (psA (rdP up D)).1) i 0) rfl hs.up yy1.1 yy1.2 hi (by omega) L
      have g2 : (tSv (rmW (sfS (tk1 (dtb S j t) i t) i (psA (rdP up D)).1) i (opnS y (sfS (tk1 (dtb S j t) i t) i (psA (rdP up D)).1) i 0))).getD i sr0 = stLg ((tSv (sfS (tk1 (dtb S j t) i t) i (psA (rdP up D)).1)).getD i sr0) (opnS y (sfS (tk1 (dtb S j t) i t) i (psA (rdP up D)).1) i 0).1 := gd_eq ls2
      have eL : sLg ((tSv (sfS (tk1 (dtb S j t) i t) i (psA (rdP up D)).1)).getD i sr0) = sLg ((tSv S).getD i sr0) := by rw [g1, e1]; rfl
      have en : tNm (sfS (tk1 (dtb S j t) i t) i (psA (rdP up D)).1) = tNm S := rfl
      rw [eL, en] at b2
      refine ⟨b2.2.1, ?_, rfl, rfl, ?_, fun k hk => ?_⟩
      · rw [g2]; exact b2.2.2.1
      · rw [g2, g1, e1]; exact ell
      · show ((tSv (sfS (tk1 (dtb S j t) i t) i (psA (rdP up D)).1)).set i _).getD k sr0 = _
        rw [gd_ne (fun z => hk z.symm)]
        show ((tSv (tk1 (dtb S j t) i t)).set i _).getD k sr0 = _
        rw [gd_ne (fun z => hk z.symm)]
        exact s1 k hk
  refine ⟨⟨h1, r1⟩, fun l l2 el => ?_⟩
  generalize tk1 (dtb S j t) i t = S1 at *
  have mu := mv_un (A := sLg ((tSv (tk2 y (psA (rdP up D)).1 S1 i)).getD i sr0)) (up := up) di lp l40 ht
  rw [el, unN_app] at mu
  have mi : ∀ p ∈ l ++ l2, _ := fun p hp => mv_in (A := sLg ((tSv (tk2 y (psA (rdP up D)).1 S1 i)).getD i sr0)) di lp b0 ht (by rw [el]; exact hp)
  have mq1 : ∀ k v, _ := fun k v => mv_Q1 (A' := sLg ((tSv (tk2 y (psA (rdP up D)).1 S1 i)).getD i sr0)) (up := up) (k := k) (v := v) lp b0 di ht (h2.2.2.1 i hi).2.2.2.1.2.1.2 k5
  have mq2 : ∀ k v, _ := fun k v => mv_Q2 (A' := sLg ((tSv (tk2 y (psA (rdP up D)).1 S1 i)).getD i sr0)) (up := up) (k := k) (v := v) l40 lp b0 di ht (h2.2.2.1 i hi).2.2.2.1.2.1 k5
  rw [el] at mq1 mq2
  generalize tk2 y (psA (rdP up D)).1 S1 i = S2 at *
  have hp : ∀ p ∈ l, PFx cl B p ∧ PO (sSf ((tSv S2).getD i sr0)) (sTb ((tSv S2).getD i sr0)) p := fun p hp => by
    obtain ⟨m1, m2, m3, m4⟩ := mi p (List.mem_append_left _ hp)
    exact ⟨m1, fun z => ⟨Int32.le_trans (m3 z).1 k4, t, ht, (m3 z).2, by rw [k3]; exact f3⟩, fun z => ⟨t, ht, m4 z, by rw [k3]; exact f3⟩⟩
  have hq1 : ∀ k v, (allP (sLg ((tSv S2).getD i sr0))).countP (qV k v) + l.countP (qV k v) ≤ 1 := fun k v => by
    have := mq1 k v
    rw [List.countP_append] at this
    omega
  have hq2 : ∀ k v, (allP (sLg ((tSv S2).getD i sr0))).countP (resA k v) + l.countP (resA k v) ≤ 1 := fun k v => by
    have := mq2 k v
    rw [List.countP_append] at this
    omega
  obtain ⟨z1, z2⟩ := CX.apl hy hi l S2 h2 k1 k2 hp hq1 hq2
  obtain ⟨v1, v2⟩ := CX.apr hy hi l S2 h2 k1 k2 hp hq1 hq2
  obtain ⟨o1, o2, -, -, -, o6⟩ := apl_o (y := y) (i := i) l S2
  obtain ⟨p1, p2, p3, p4, p5, p6⟩ := q2
  have hu2 := hu_U (h2.2.2.1 i hi).2.2.2.1.1 hy.2.2.1.2
  have hu16 := hy.2.2.1.2
  have pe := pen_5 (up := nI (upN (tSv S2))) (A := sLg ((tSv S2).getD i sr0))
  have nm2 : 2 * tNm (apL y i S2 l) ≤ 2 * tNm S + wT cl t := by
    unfold wT
    omega
  have el3 : sLL ((tSv (apL y i S2 l)).getD i sr0) = none := by
    have : sLL ((tSv (apL y i S2 l)).getD i sr0) = sLL ((tSv S2).getD i sr0) := congrArg (·.2.2.2.2.2.2.2) z2
    rw [this]; exact p5
  refine ⟨z1, rx _ (o1.trans p3) (o2.trans p4) (fun k hk => (o6 k hk).trans (p6 k hk)) ?_, nm2⟩
  unfold sL2
  rw [el3, ell]
  show 2 * ((sLg ((tSv (apL y i S2 l)).getD i sr0)).1.length + 0) ≤ 2 * ((sLg ((tSv S).getD i sr0)).1.length + 0) + _
  omega
end
