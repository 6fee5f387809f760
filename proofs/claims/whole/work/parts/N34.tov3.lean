/-! the two sides: a tablet is taken over, whole -/
section TV3
variable {x x' v xr : Int32} {A A' B D : alT} {k e i j N U rep nm m c n up L M t r a : Nat} {p : pT} {l rd : List pT} {ky : Int32} {y : Nat → Nat} {S S' : stA} {μ μ' : mT} {de : List (alT × Int32)} {ps : psT} {z' : srA}
theorem MR.own (mr : MR y S μ) (ht : t < 8) : MR y (S.1, S.2.1, (tOw S).set t v, S.2.2.2) (uR μ 13 t v) := by
  obtain ⟨k0, ⟨l1, l2, l3, l4⟩, nn, ow, sv, de, dd, sp, lb⟩ := mr
  refine ⟨k0, ⟨l1, by show ((tOw S).set t v).length = 8; rw [List.length_set]; exact l2, l3, l4⟩, nn, fun t' ht' => ?_, sv, de, dd, sp, lb⟩
  show (if (13 : Nat) = 13 ∧ t' = t then v else μ.2.1 13 t') = ((tOw S).set t v).getD t' 0
  by_cases q : t' = t
  · subst q
    rw [if_pos ⟨rfl, rfl⟩, List.getD_eq_getElem?_getD, List.getElem?_set_self (by omega)]; rfl
  · rw [if_neg (fun w => q w.2), List.getD_eq_getElem?_getD, List.getElem?_set_ne (fun w => q w.symm), ← List.getD_eq_getElem?_getD]
    exact ow t' ht'
theorem tb_or {b : Nat} (hb : b < 256) (ht : t < 8) {t' : Nat} (ht' : t' < 8) : shrB (nI b ||| (1 <<< (nI t &&& 31))) (nI t') = if t' = t then 1 else shrB (nI b) (nI t') := by
  obtain ⟨o1, o2⟩ := or_N b hb t ht
  rw [o1, sh_N _ o2 t' ht', sh_N b hb t' ht', Nat.testBit_or, Nat.testBit_two_pow]
  by_cases q : t' = t
  · subst q
    rw [if_pos rfl, decide_eq_true rfl, Bool.or_true, if_pos rfl]
  · rw [if_neg q, decide_eq_false (fun w => q w.symm), Bool.or_false]
theorem MR.tkO (mr : MR y S μ) (hi : i < y 20) (ht : t < 8) (tb : ∃ b, b < 256 ∧ sTb ((tSv S).getD i sr0) = nI b) : MR y (tk1 S i t) (toO μ i t) := by
  have m1 := mr.own (t := t) (v := nI i) ht
  have y8 := mr.1.1.1.2
  obtain ⟨b, hb, eb⟩ := tb
  obtain ⟨-, ⟨l1, l2, l3, l4⟩, ⟨n1, n2, n3, n4, n5, n6, n7, n8⟩, ow, sv, de, dd, sp, lb⟩ := m1
  obtain ⟨⟨a1, a2, a3, a4, a5, a6⟩, bb, c, d, e⟩ := sv i hi
  refine MR.sv (z' := tbX ((tSv S).getD i sr0) t) (c' := tFo S) (mr.own (t := t) (v := nI i) ht) hi rfl (fun r k h1 h2 => if_neg (fun w => by have := h2 w.1; omega)) (fun r k h => if_neg (by omega)) (fun _ _ => rfl) n7 (fun k hk _ _ => ⟨hk, rfl⟩) ⟨⟨a1, a2, a3, a4, a5, a6⟩, fun t' ht' => ?_, c, d, e⟩ (fun _ _ _ _ _ r => r) sp (fun s hs => Or.inr (Or.inr (Or.inr (lb s hs))))
  have bt : (uR μ 13 t (nI i)).2.1 7 (8 * i + t') = shrB (sTb ((tSv S).getD i sr0)) (nI t') := bb t' ht'
  show (if (7 : Nat) = 7 ∧ 8 * i + t' = 8 * i + t then 1 else (uR μ 13 t (nI i)).2.1 7 (8 * i + t')) = shrB (sTb ((tSv S).getD i sr0) ||| (1 <<< (nI t &&& 31))) (nI t')
  rw [bt, eb, tb_or hb ht ht']
  by_cases q : t' = t
  · rw [if_pos ⟨rfl, by rw [q]⟩, if_pos q]
  · rw [if_neg (fun w => q (by omega)), if_neg q]
theorem MR.sf (mr : MR y S μ) (hi : i < y 20) : MR y (sfS S i v) (uR μ 9 i v) := by
  have mr0 := mr
  obtain ⟨-, ⟨l1, l2, l3, l4⟩, ⟨n1, n2, n3, n4, n5, n6, n7, n8⟩, ow, sv, de, dd, sp, lb⟩ := mr
  obtain ⟨⟨a1, a2, a3, a4, a5, a6⟩, bb, c, d, e⟩ := sv i hi
  exact MR.sv (z' := sfX ((tSv S).getD i sr0) v) (c' := tFo S) mr0 hi rfl (fun r k h1 h2 => if_neg (fun w => h1 (by omega) w.2)) (fun r k h => if_neg (by omega)) (fun _ _ => rfl) n7 (fun k hk _ _ => ⟨hk, rfl⟩) ⟨⟨a1, a2, a3, if_pos ⟨rfl, rfl⟩, a5, a6⟩, bb, c, d, e⟩ (fun _ _ _ _ _ r => r) sp (fun s hs => Or.inr (Or.inr (Or.inr (lb s hs))))
theorem set_lg {f : srA → srA} (hf : ∀ z, sLg (f z) = sLg z) (hi : i < (tSv S).length) : sLg (((tSv S).set i (f ((tSv S).getD i sr0))).getD i sr0) = sLg ((tSv S).getD i sr0) := by
  rw [List.getD_eq_getElem?_getD, List.getElem?_set_self hi]
  exact hf _
theorem set_lg2 {f : srA → srA} (hf : ∀ z, sLg (f z) = sLg z) (hi : i < (tSv S).length) : ∀ i', sLg (((tSv S).set i (f ((tSv S).getD i sr0))).getD i' sr0) = sLg ((tSv S).getD i' sr0) := fun i' => by
  by_cases q : i' = i
  · subst q; exact set_lg hf hi
  · rw [List.getD_eq_getElem?_getD, List.getElem?_set_ne (fun w => q w.symm), ← List.getD_eq_getElem?_getD]
theorem RI.tkO (h : RI y i L M de up j x S μ) (hi : i < y 20) (ht : t < 8) (tb : ∃ b, b < 256 ∧ sTb ((tSv S).getD i sr0) = nI b) : RI y i L M de up j x (tk1 S i t) (toO μ i t) := by
  obtain ⟨mr, gq, nm, hl, hm, hd, hu, hx⟩ := h
  have ls : i < (tSv S).length := by rw [mr.2.1.1]; exact hi
  have el : ∀ i', sLg ((tSv (tk1 S i t)).getD i' sr0) = sLg ((tSv S).getD i' sr0) := set_lg2 (f := fun z => tbX z t) (fun _ => rfl) ls
  refine ⟨mr.tkO hi ht tb, gq, (fun i' hi' => by rw [el]; exact nm i' hi'), hl, hm, hd, ?_, hx⟩
  exact (upN_st (tSv S) i (tbX ((tSv S).getD i sr0) t) rfl).trans hu
theorem RI.tkP (h : RI y i L M de up j x S μ) (hi : i < y 20) (hL : L < 2 ^ 31 - 9) (hM : M + 2 ≤ 80000) : RI y i (L + 2) (M + 2) de up j x (tk2 y (grM μ x) S i) (to1 y μ i x) := by
  have li := h.li hi
  have h0 := h
  obtain ⟨mr, gq, nm, hl, hm, hd, hu, hx⟩ := h
  have ls : i < (tSv S).length := by rw [mr.2.1.1]; exact hi
  have a4 := (mr.2.2.2.2.1 i hi).1.2.2.2.1
  unfold tk2 to1
  rw [a4]
  by_cases q : grM μ x ≤ sSf ((tSv S).getD i sr0)
  · rw [if_pos q, if_pos q]
    exact h0.mono (by omega) (by omega)
  · rw [if_neg q, if_neg q]
    have m1 := mr.sf (v := grM μ x) hi
    have el : sLg ((tSv (sfS S i (grM μ x))).getD i sr0) = sLg ((tSv S).getD i sr0) := set_lg (f := fun z => sfX z (grM μ x)) (fun _ => rfl) ls
    have li1 : LI (tNm (sfS S i (grM μ x))) (sLg ((tSv (sfS S i (grM μ x))).getD i sr0)) := by rw [el]; exact li.1
    have nmO := opnA_nm (N := y 20) (U := y 22) (rep := y 21) (mem := y 23) (up := nI (upN (tSv (sfS S i (grM μ x))))) (aw := tAw (sfS S i (grM μ x))) (nm := tNm (sfS S i (grM μ x))) (i := i) (safe := sSf ((tSv (sfS S i (grM μ x))).getD i sr0)) (lim := 0) li1.2
    have nmO : (∀ u ∈ (opnS y (sfS S i (grM μ x)) i 0).1.1, u.1 < (opnS y (sfS S i (grM μ x)) i 0).2.1) ∧ tNm S ≤ (opnS y (sfS S i (grM μ x)) i 0).2.1 ∧ (opnS y (sfS S i (grM μ x)) i 0).2.1 ≤ tNm S + 2 := nmO
    have ls1 : i < (tSv (sfS S i (grM μ x))).length := by show i < ((tSv S).set i _).length; rw [List.length_set]; exact ls
    obtain ⟨m2, -⟩ := opn_R (lim := 0) (xr := 1) m1 hi li1 ⟨fun w => absurd rfl w, fun w => absurd w (by decide)⟩ (by omega)
    refine ⟨m2, opn_GQ m1 hi gq dg_V, ?_, Nat.le_trans (opn_len m1).2 (by show μ.1.length + 2 ≤ _; omega), by show (opnS y (sfS S i (grM μ x)) i 0).2.1 ≤ _; omega, hd, ?_, ?_⟩
    · intro i' hi'
      by_cases w : i' = i
      · subst w; rw [rm_lg ls1]; exact nmO.1
      · have e1 : (tSv (rmW (sfS S i (grM μ x)) i (opnS y (sfS S i (grM μ x)) i 0))).getD i' sr0 = (tSv S).getD i' sr0 := by
          show (((tSv S).set i _).set i _).getD i' sr0 = _
          rw [List.getD_eq_getElem?_getD, List.getElem?_set_ne (fun u => w u.symm), List.getElem?_set_ne (fun u => w u.symm), ← List.getD_eq_getElem?_getD]
        rw [e1]
        exact fun u hu => Nat.lt_of_lt_of_le (nm i' hi' u hu) nmO.2.1
    · have e1 : upN (tSv (rmW (sfS S i (grM μ x)) i (opnS y (sfS S i (grM μ x)) i 0))) = upN (tSv (sfS S i (grM μ x))) := upN_st (tSv (sfS S i (grM μ x))) i (stLg ((tSv (sfS S i (grM μ x))).getD i sr0) _) rfl
      have e2 : upN (tSv (sfS S i (grM μ x))) = upN (tSv S) := upN_st (tSv S) i (sfX ((tSv S).getD i sr0) (grM μ x)) rfl
      exact (e1.trans e2).trans hu
    · exact (opn_row (by decide)).trans hx
theorem mvR_b {f : Nat → List pT} (c : Nat) : (List.range (40 * (c + 1))).flatMap f = (List.range (40 * c)).flatMap f ++ (List.range 40).flatMap (fun m => f (c * 40 + m)) := by
  rw [show 40 * (c + 1) = 40 * c + 40 by omega, List.range_add, List.flatMap_append, List.flatMap_map, show 40 * c = c * 40 by omega]
theorem tv_c (h : RI y i L M de up j x S μ) (hi : i < y 20) (hj : j < de.length) (ht : t < 8) (di : DI (de.getD j d0A).1) (hu : upH (nI up) (de.getD j d0A).1) (hL : L + 480 < 2 ^ 31 - 9) (hM : M + 482 ≤ 80000) : ∀ n, n ≤ 6 → RI y i (L + 80 * n) (M + 80 * n) de up j x (apL y i S ((List.range (40 * n)).flatMap (mvRf (psA (rdP (nI up) (de.getD j d0A).1)) t))) ((List.range n).foldl (toC y i x t) μ) := by
  intro n
  induction n with
  | zero => intro _; exact h
  | succ n ih =>
    intro hn
    have i1 := ih (by omega)
    rw [mvR_b, apL_app, rfl_s]
    generalize apL y i S ((List.range (40 * n)).flatMap (mvRf (psA (rdP (nI up) (de.getD j d0A).1)) t)) = S1 at *
    generalize (List.range n).foldl (toC y i x t) μ = μ1 at *
    have eb := nI_back (x := acM μ1 x (nI n)) (Int32.le_trans (by decide) acM_ge)
    have lt := clN_lt (acM μ1 x (nI n))
    have ge1 : 1 ≤ (acM μ1 x (nI n)).toNatClampNeg := by
      have g := acM_ge (μ := μ1) (x := x) (x1 := nI n)
      rw [eb, show (1 : Int32) = nI 1 from rfl, nI_leI (by decide) (by omega)] at g
      exact g
    have eC : toC y i x t μ1 n = ((List.range' (acM μ1 x (nI n)).toNatClampNeg (41 - (acM μ1 x (nI n)).toNatClampNeg)).take (40 + 1 - (acM μ1 x (nI n)).toNatClampNeg)).foldl (toR y i x t n) μ1 := by
      rw [List.take_of_length_le (by rw [List.length_range']; exact Nat.le_refl _)]; rfl
    rw [eC]
    exact (tv_r (a := (acM μ1 x (nI n)).toNatClampNeg) i1 hi hj ht (by omega) di hu (by omega) (by omega) eb ge1 lt 40 (Nat.le_refl _)).mono (by omega) (by omega)
theorem tkS_R (h : RI y i L M de up j x S μ) (hi : i < y 20) (hj : j < de.length) (ht : t < 8) (tb : ∃ b, b < 256 ∧ sTb ((tSv S).getD i sr0) = nI b) (di : DI (de.getD j d0A).1) (hu : upH (nI up) (de.getD j d0A).1) (hL : L + 520 < 2 ^ 31 - 9) (hM : M + 520 ≤ 80000) : RI y i (L + 510) (M + 510) de up j x (tkS y (psA (rdP (nI up) (de.getD j d0A).1)) S i t) (tovM y μ i t x) := by
  have h1 := h.tkO hi ht tb
  have h2 := h1.tkP hi (by omega) (by omega)
  rw [(h1.reads hj di hu).1] at h2
  unfold tkS movA tovM tov3 tov2 tov1
  rw [apL_app, apL_app]
  have h3 := (tv_n h2 hi hj di hu (by omega) (by omega) 6 (Nat.le_refl _)).1
  have h4 := tv_b h3 hi hj ht di hu (by omega) (by omega) 8 (Nat.le_refl _)
  have h5 := tv_c h4 hi hj ht di hu (by omega) (by omega) 6 (Nat.le_refl _)
  exact h5.mono (by omega) (by omega)
end TV3
