-- the INVARIANT: recovery, a whole tick
def cl40 (cl : List kcT) : Prop := ∀ c, c < 6 → (cl.getD c cl0).1.length ≤ 40
def NZ (S : stA) : Prop := ∀ d ∈ tDe S, ¬ d.2 = 0
section
variable {A D : alT} {y : Nat → Nat} {N nm i j t k n : Nat} {cl : List kcT} {B up gr : Int32} {S S' : stA} {st : stA × Nat} {ps : psT}
theorem LPx.di (lp : LPx cl B D) (ld : LgD N nm D) (l40 : cl40 cl) : DI D := ⟨fun p hp => (lp.1 p hp).pv l40, lp.2, fun p hp k => (lp.1 p hp).2.2.1 k, ld.2.2⟩
theorem CX.b0 (h : CX y cl B S) (hy : yOK y) : 0 ≤ B := by
  have := (h.2.2.1 0 (by have := hy.1.1; omega)).2.2.1
  exact Int32.le_trans this.1 this.2
theorem heirA_ok (e : heirA y S = some i) : sSt ((tSv S).getD i sr0) = 0 ∧ sFe ((tSv S).getD i sr0) = 0 ∧ sLo ((tSv S).getD i sr0) = 0 := by
  have key : ∀ (l : List Nat) (st : Option Nat × Int32), (∀ i, st.1 = some i → sSt ((tSv S).getD i sr0) = 0 ∧ sFe ((tSv S).getD i sr0) = 0 ∧ sLo ((tSv S).getD i sr0) = 0) → ∀ i, (l.foldl (heA S) st).1 = some i → sSt ((tSv S).getD i sr0) = 0 ∧ sFe ((tSv S).getD i sr0) = 0 ∧ sLo ((tSv S).getD i sr0) = 0 := by
    intro l
    induction l with
    | nil => intro st e i hi; exact e i hi
    | cons a l ih =>
      intro st e i hi
      rw [List.foldl_cons] at hi
      refine ih _ (fun i hi => ?_) i hi
      unfold heA at hi
      split at hi
      · exact e i hi
      · next w1 =>
        split at hi
        · exact e i hi
        · next w2 =>
          split at hi
          · exact e i hi
          · next w3 =>
            split at hi
            · exact e i hi
            · cases hi
              exact ⟨Decidable.not_not.mp w1, Decidable.not_not.mp w2, Decidable.not_not.mp w3⟩
  exact key _ _ (fun i hi => by cases hi) i e
theorem CX.tk2f (h : CX y cl B S) (hy : yOK y) (hi : i < y 20) (hf : sFe ((tSv S).getD i sr0) = 0) (hl : sLo ((tSv S).getD i sr0) = 0) (hg : gr ≤ B) (nt : noT t (sLg ((tSv S).getD i sr0))) : sFe ((tSv (tk2 y gr S i)).getD i sr0) = 0 ∧ sLo ((tSv (tk2 y gr S i)).getD i sr0) = 0 ∧ sTb ((tSv (tk2 y gr S i)).getD i sr0) = sTb ((tSv S).getD i sr0) ∧ gr ≤ sSf ((tSv (tk2 y gr S i)).getD i sr0) ∧ noT t (sLg ((tSv (tk2 y gr S i)).getD i sr0)) := by
  unfold tk2
  split
  · next w => exact ⟨hf, hl, rfl, w, nt⟩
  · next w =>
    have ls : i < (tSv S).length := by rw [h.1.1]; exact hi
    have h1 := h.sf hi (v := gr) (Int32.le_of_lt (Int32.not_le.mp w)) hg
    have ls1 : i < (tSv (sfS S i gr)).length := by rw [h1.1.1]; exact hi
    have e1 : (tSv (sfS S i gr)).getD i sr0 = sfX ((tSv S).getD i sr0) gr := gd_eq ls
    have e2 : (tSv (rmW (sfS S i gr) i (opnS y (sfS S i gr) i 0))).getD i sr0 = stLg ((tSv (sfS S i gr)).getD i sr0) (opnS y (sfS S i gr) i 0).1 := gd_eq ls1
    obtain ⟨yy1, yy2, yy3, yy4⟩ := hy
    obtain ⟨-, -, b3, -⟩ := opA_o (W := opnS y (sfS S i gr) i 0) rfl h1.up yy1.1 yy1.2 hi (by omega) (h1.2.2.1 i hi).2.2.2.1.1
    rw [e2]
    refine ⟨?_, ?_, ?_, ?_, fun p hp => ?_⟩
    · show sFe ((tSv (sfS S i gr)).getD i sr0) = 0
      rw [e1]; exact hf
    · show sLo ((tSv (sfS S i gr)).getD i sr0) = 0
      rw [e1]; exact hl
    · show sTb ((tSv (sfS S i gr)).getD i sr0) = _
      rw [e1]; rfl
    · show gr ≤ sSf ((tSv (sfS S i gr)).getD i sr0)
      rw [e1]; exact Int32.le_refl _
    · rcases cn_in b3 p hp with z | z
      · rw [e1] at z
        exact nt p z
      · rw [z]
        exact ⟨fun z => absurd rfl z, fun z => absurd z (show ¬ (0 : Int32) = 4 by decide)⟩
theorem CX.ktkS (h : CX y cl B S) (hy : yOK y) (l40 : cl40 cl) (hj : j < (tDe S).length) (ht : t < 8) (hb : shrB ((tDe S).getD j d0A).2 (nI t) = 1) (hi : i < y 20) (hf : sFe ((tSv S).getD i sr0) = 0) (hl : sLo ((tSv S).getD i sr0) = 0) (eD : ((tDe S).getD j d0A).1 = D) : CX y cl B (tkS y (psA (rdP up D)) (dtb S j t) i t) := by
  have h1 := h.tkO hy hj ht hb hi hf hl
  have b0 := h.b0 hy
  have gj : (tDe S).getD j d0A = (tDe S)[j] := by rw [List.getD_eq_getElem?_getD, List.getElem?_eq_getElem hj]; rfl
  have dx := h.2.2.2.1 _ (List.getElem_mem hj)
  rw [← gj] at dx
  have lp : LPx cl B D := by rw [← eD]; exact dx.1.2
  have di : DI D := lp.di (by rw [← eD]; exact dx.1.1) l40
  have ls : i < (tSv S).length := by rw [h.1.1]; exact hi
  have sx := h.2.2.1 i hi
  have e1 : (tSv (tk1 (dtb S j t) i t)).getD i sr0 = tbX ((tSv S).getD i sr0) t := gd_eq (S := S) ls
  have nt : noT t (sLg ((tSv (tk1 (dtb S j t) i t)).getD i sr0)) := by
    rw [e1]
    have no : ¬ shrB (sTb ((tSv S).getD i sr0)) (nI t) = 1 := fun z => by
      have o1 := sx.2.2.2.2.1 hf t ht z
      have o2 := dx.2.2 t ht hb
      exact nIx_m1 (j := i) (by have := hy.1.2; omega) (o1.symm.trans o2)
    have nk : ∀ ky, tbK (sTb ((tSv S).getD i sr0)) ky → ¬ ky / 8 = nI t := fun ky ⟨t', h1, h2, h3⟩ z => by
      have := nI_inj (a := t') (b := t) (by omega) (by omega) (h2.symm.trans z)
      subst this
      exact no h3
    intro p hp
    have po := sx.2.2.2.1.2.2 p hp
    exact ⟨fun z => nk _ (po.1 z).2, fun z => nk _ (po.2 z)⟩
  have hg : (psA (rdP up D)).1 ≤ B := by
    rw [ps_gr]
    exact gr_leB _ 0 b0 (fun p hp => (lp.1 p (rd_sub.subset hp)).2.2.2.1)
  have f1 : sFe ((tSv (tk1 (dtb S j t) i t)).getD i sr0) = 0 := by rw [e1]; exact hf
  have f2 : sLo ((tSv (tk1 (dtb S j t) i t)).getD i sr0) = 0 := by rw [e1]; exact hl
  have f3 : shrB (sTb ((tSv (tk1 (dtb S j t) i t)).getD i sr0)) (nI t) = 1 := by
    rw [e1]
    obtain ⟨b, b1, b2⟩ := sx.2.1
    show shrB (sTb ((tSv S).getD i sr0) ||| (1 <<< (nI t &&& 31))) (nI t) = 1
    rw [b2, tb_or b1 ht ht, if_pos rfl]
  have h2 := h1.ktk2 hy hi f1 f2 hg
  obtain ⟨k1, k2, k3, k4, k5⟩ := h1.tk2f hy hi f1 f2 hg nt
  unfold tkS
  generalize tk1 (dtb S j t) i t = S1 at *
  generalize tk2 y (psA (rdP up D)).1 S1 i = S2 at *
  have sx2 := h2.2.2.1 i hi
  exact (CX.apl hy hi _ S2 h2 k1 k2 (fun p hp => by
    obtain ⟨m1, m2, m3, m4⟩ := mv_in di lp b0 ht hp
    refine ⟨m1, fun z => ⟨Int32.le_trans (m3 z).1 k4, t, ht, (m3 z).2, by rw [k3]; exact f3⟩, fun z => ⟨t, ht, m4 z, by rw [k3]; exact f3⟩⟩) (fun _ _ => mv_Q1 lp b0 di ht sx2.2.2.2.1.2.1.2 k5) (fun _ _ => mv_Q2 l40 lp b0 di ht sx2.2.2.2.1.2.1 k5)).1
theorem CX.krcT (h : CX y cl B st.1) (hy : yOK y) (l40 : cl40 cl) (hj : j < (tDe st.1).length) (ht : t < 8) (eD : ((tDe st.1).getD j d0A).1 = D) : CX y cl B (rcT y (psA (rdP up D)) j st t).1 := by
  unfold rcT
  split
  · exact h
  · next w =>
    cases e : heirA y st.1 with
    | none => exact h
    | some i =>
      obtain ⟨o1, o2, o3⟩ := heirA_ok e
      have hh := h.ktkS (up := up) hy l40 hj ht (show shrB ((tDe st.1).getD j d0A).2 (nI t) = 1 from Decidable.not_not.mp w) (heirA_lt e) o2 o3 eD
      dsimp only
      generalize tkS y (psA (rdP up D)) (dtb st.1 j t) i t = Z at hh ⊢
      exact hh
theorem CX.rcF (hy : yOK y) (l40 : cl40 cl) : ∀ (l : List Nat) (st : stA × Nat), CX y cl B st.1 → j < (tDe st.1).length → (∀ t ∈ l, t < 8) → ((tDe st.1).getD j d0A).1 = D → CX y cl B (l.foldl (rcT y (psA (rdP up D)) j) st).1 := by
  intro l
  induction l with
  | nil => intro st h _ _ _; exact h
  | cons t l ih =>
    intro st h hj hl eD
    rw [List.foldl_cons]
    have h1 := h.krcT (up := up) hy l40 hj (hl t List.mem_cons_self) eD
    obtain ⟨S, k⟩ := st
    obtain ⟨a1, m1, a2⟩ := rcT_de (y := y) (ps := psA (rdP up D)) (k := k) (t := t) hj
    generalize rcT y (psA (rdP up D)) j (S, k) t = st' at h1 a1 a2
    refine ih st' h1 ?_ (fun t ht => hl t (List.mem_cons_of_mem _ ht)) ?_
    · rw [a2, List.length_set]; exact hj
    · rw [a2, List.getD_eq_getElem?_getD, List.getElem?_set_self hj]
      exact eD
theorem CX.krcD (h : CX y cl B st.1) (hy : yOK y) (l40 : cl40 cl) (hj : j < (tDe st.1).length) : CX y cl B (rcD y st j).1 := by
  unfold rcD
  split
  · exact CX.rcF hy l40 _ st h hj (fun t ht => List.mem_range.mp ht) rfl
  · exact h
theorem CX.krmD (h : CX y cl B S) : CX y cl B (rmD S j) := by
  obtain ⟨⟨a1, a2, a3⟩, a4, a5, a6, a7⟩ := h
  refine ⟨⟨a1, a2, Nat.le_trans (List.eraseIdx_sublist _ _).length_le a3⟩, a4, a5, fun d hd => a6 d ((List.eraseIdx_sublist _ _).subset hd), a7.sublist (List.eraseIdx_sublist _ _)⟩
theorem CX.krcL (hy : yOK y) (l40 : cl40 cl) : ∀ (n : Nat) (st : stA × Nat) (j r : Nat), CX y cl B st.1 → CX y cl B (rcL y n st j r).1.1 := by
  intro n
  induction n with
  | zero => intro st j r h; exact h
  | succ n ih =>
    intro st j r h
    show CX y cl B (if _ then _ else if _ then _ else _ : (stA × Nat) × Nat).1.1
    split
    · exact h
    · next w =>
      have h1 := h.krcD hy l40 (j := j) (by omega)
      split
      · exact ih _ _ _ h1.krmD
      · exact ih _ _ _ h1
theorem NZ.krcL : ∀ (n : Nat) (st : stA × Nat) (j r : Nat), NZ st.1 → NZ (rcL y n st j r).1.1 := by
  intro n
  induction n with
  | zero => intro st j r h; exact h
  | succ n ih =>
    intro st j r h
    show NZ (if _ then _ else if _ then _ else _ : (stA × Nat) × Nat).1.1
    split
    · exact h
    · next w =>
      have hj : j < (tDe st.1).length := by omega
      obtain ⟨a1, m', a2⟩ := rcD_de (y := y) hj
      have gj : ((tDe (rcD y st j).1).getD j d0A).2 = m' := by
        rw [a2, List.getD_eq_getElem?_getD, List.getElem?_set_self hj]; rfl
      rw [gj]
      split
      · refine ih _ _ _ (fun d hd => ?_)
        have hd : d ∈ (tDe (rcD y st j).1).eraseIdx j := hd
        rw [a2, List.eraseIdx_set_eq] at hd
        exact h d ((List.eraseIdx_sublist _ _).subset hd)
      · next w2 =>
        refine ih _ _ _ (fun d hd => ?_)
        rw [a2] at hd
        rcases List.mem_or_eq_of_mem_set hd with z | z
        · exact h d z
        · rw [z]; exact w2
theorem tab_ex {ow : List Int32} {v : Int32} (h : ¬ tabA ow v ≤ 0) : ∃ t, t < 8 ∧ ow.getD t 0 = v := by
  by_cases w : ∃ t, t < 8 ∧ ow.getD t 0 = v
  · exact w
  · exfalso
    apply h
    unfold tabA
    have : ∀ (l : List Nat) (z : Int32), (∀ j ∈ l, j < 8) → l.foldl (fun t j => if ow.getD j 0 = v then t + 1 else t) z = z := by
      intro l
      induction l with
      | nil => intro z _; rfl
      | cons a l ih =>
        intro z hl
        rw [List.foldl_cons, if_neg (fun e => w ⟨a, hl a List.mem_cons_self, e⟩)]
        exact ih z (fun j hj => hl j (List.mem_cons_of_mem _ hj))
    rw [this _ 0 (fun j hj => List.mem_range.mp hj)]
    exact Int32.le_refl _
theorem NZ.lk (h : NZ S) (l8 : (tOw S).length = 8) : NZ (lkS S i) := by
  unfold lkS
  split
  · next w =>
    obtain ⟨f1, f2, mk, m1, m2, m3⟩ := ddF_f (i := i) l8 8 (Nat.le_refl _)
    obtain ⟨t, t1, t2⟩ := tab_ex w.2.2
    have eo : tOw (mssS S i) = tOw S := rfl
    unfold ddA
    rw [eo]
    generalize ddF (tOw S) i 8 = Q at m2 ⊢
    intro d hd
    have hd : d ∈ tDe S ++ [(ddL (((tSv (mssS S i)).getD i sr0)), Q.2)] := hd
    rcases List.mem_append.mp hd with z | z
    · exact h d z
    · rw [List.mem_singleton.mp z]
      show ¬ Q.2 = 0
      rw [m2]
      intro e
      have : mk = 0 := nI_inj (a := mk) (b := 0) (by omega) (by omega) e
      have b := (m3 t t1).mpr ⟨t1, t2⟩
      rw [this, Nat.zero_testBit] at b
      cases b
  · exact h
theorem NZ.lka (h : NZ S) (hx : CX y cl B S) (hy : yOK y) : NZ (lkA y S) := by
  unfold lkA
  have : ∀ n, n ≤ y 20 → NZ ((List.range n).foldl lkS S) ∧ CX y cl B ((List.range n).foldl lkS S) := by
    intro n
    induction n with
    | zero => intro _; exact ⟨h, hx⟩
    | succ n ih =>
      intro hn
      rw [List.range_succ, List.foldl_append]
      obtain ⟨a1, a2⟩ := ih (by omega)
      exact ⟨a1.lk a2.1.2.1, a2.lk hy (by omega)⟩
  exact (this _ (Nat.le_refl _)).1
theorem tda_de : tDe (tdA y S) = tDe S ∧ tOw (tdA y S) = tOw S ∧ tNm (tdA y S) = tNm S := by
  unfold tdA
  have : ∀ (l : List Nat) (S : stA), tDe (l.foldl (tdS y) S) = tDe S ∧ tOw (l.foldl (tdS y) S) = tOw S ∧ tNm (l.foldl (tdS y) S) = tNm S := by
    intro l
    induction l with
    | nil => intro S; exact ⟨rfl, rfl, rfl⟩
    | cons i l ih =>
      intro S
      rw [List.foldl_cons]
      obtain ⟨a1, a2, a3⟩ := ih (tdS y S i)
      have : tDe (tdS y S i) = tDe S ∧ tOw (tdS y S i) = tOw S ∧ tNm (tdS y S i) = tNm S := by
        unfold tdS
        split
        · exact ⟨rfl, rfl, rfl⟩
        · split <;> exact ⟨rfl, rfl, rfl⟩
      exact ⟨a1.trans this.1, a2.trans this.2.1, a3.trans this.2.2⟩
  exact this _ S
theorem CX.ktkD (h : CX y cl B S) (hy : yOK y) (l40 : cl40 cl) : CX y cl B (tkD y S).1.1 := CX.krcL hy l40 _ _ _ _ (h.lka hy)
theorem NZ.ktkD (h : NZ S) (hx : CX y cl B S) (hy : yOK y) : NZ (tkD y S).1.1 := NZ.krcL _ _ _ _ (h.lka hx hy)
theorem CX.ktk1F {F : fcT × Int32 × Nat} (h : CX y cl B (fSt F.1)) (hz : NZ (fSt F.1)) (hy : yOK y) (l40 : cl40 cl) : CX y cl B (fSt (tk1F y F).1) ∧ NZ (fSt (tk1F y F).1) := by
  have h1 := h.tda hy
  have z1 : NZ (tdA y (fSt F.1)) := fun d hd => hz d (by rw [tda_de.1] at hd; exact hd)
  unfold tk1F
  split
  · exact ⟨h1, z1⟩
  · exact ⟨h1.ktkD hy l40, z1.ktkD h1 hy⟩
theorem tkN_CX {F : fcT} (h : CX y cl B (fSt F)) (hz : NZ (fSt F)) (hy : yOK y) (l40 : cl40 cl) : ∀ n, CX y cl B (fSt (tkN y F n).1) ∧ NZ (fSt (tkN y F n).1) := by
  intro n
  induction n with
  | zero => exact ⟨h, hz⟩
  | succ n ih => exact CX.ktk1F (F := tkN y F n) ih.1 ih.2 hy l40
end
