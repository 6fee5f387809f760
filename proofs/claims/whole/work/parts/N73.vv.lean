-- ROOM: what a tick may use
def flg (x : srA) : Int32 × Int32 × Int32 := (sSt x, sFe x, sLo x)
def bdF (f : Int32 × Int32 × Int32) : Bool := decide (¬ f.1 = 0) || decide (¬ f.2.2 = 0)
def vT (cl : List kcT) (S : stA) (t : Nat) : Nat := if (tOw S).getD t 0 = -1 then 2 + wT cl t else if bdF (flg ((tSv S).getD ((tOw S).getD t 0).toNatClampNeg sr0)) = true then 8 + wT cl t else 0
def VV (cl : List kcT) (S : stA) : Nat := sm 8 (vT cl S)
def QQ (cl : List kcT) (S : stA) (k : Nat) : Nat := 2 * tNm S + 6 * tDs S + 2 * k + VV cl S
section
variable {A D : alT} {y : Nat → Nat} {i j t n k : Nat} {cl : List kcT} {B up gr : Int32} {S S' : stA} {p : pT} {st : stA × Nat} {ps : psT} {f f' : Nat → Nat}
theorem flg_set {f : srA → srA} (hf : ∀ z, flg (f z) = flg z) : flg (((tSv S).set i (f ((tSv S).getD i sr0))).getD k sr0) = flg ((tSv S).getD k sr0) := by
  by_cases w : i = k
  · subst w
    by_cases l : i < (tSv S).length
    · rw [gd_eq l]; exact hf _
    · rw [List.set_eq_of_length_le (by omega)]
  · rw [gd_ne w]
theorem flg_ap : flg ((tSv (apS y i S p)).getD k sr0) = flg ((tSv S).getD k sr0) := by
  unfold apS
  split
  · exact flg_set (f := fun x => stLg x (mkrS y S i (kU (pKd p)) 0).1) (fun _ => rfl)
  · refine Eq.trans ?_ (flg_set (S := S) (i := i) (f := fun x => stLg x (mkrS y S i (kU (pKd p)) 0).1) (fun _ => rfl))
    exact flg_set (S := rmW S i (mkrS y S i (kU (pKd p)) 0)) (f := fun x => stLg x (wrtA (sLg x) [p] 100)) (fun _ => rfl)
theorem flg_apl : ∀ (l : List pT) (S : stA), flg ((tSv (apL y i S l)).getD k sr0) = flg ((tSv S).getD k sr0) := by
  intro l
  induction l with
  | nil => intro S; rfl
  | cons p l ih =>
    intro S
    exact (ih (apS y i S p)).trans flg_ap
theorem flg_tkS : flg ((tSv (tkS y ps S i t)).getD k sr0) = flg ((tSv S).getD k sr0) ∧ tOw (tkS y ps S i t) = (tOw S).set t (nI i) ∧ tDs (tkS y ps S i t) = tDs S ∧ tFo (tkS y ps S i t) = tFo S := by
  unfold tkS
  obtain ⟨o1, o2, o3, o4, o5, o6⟩ := apl_o (y := y) (i := i) (movA ps (sLg ((tSv (tk2 y ps.1 (tk1 S i t) i)).getD i sr0)) t) (tk2 y ps.1 (tk1 S i t) i)
  obtain ⟨-, -, a3, a4, a5, a6⟩ := tk2_nm y ps.1 (tk1 S i t) i
  refine ⟨(flg_apl _ _).trans ?_, o1.trans a4, o3.trans a5, o4.trans a6⟩
  have e1 : flg ((tSv (tk1 S i t)).getD k sr0) = flg ((tSv S).getD k sr0) := flg_set (f := fun x => tbX x t) (fun _ => rfl)
  unfold tk2
  split
  · exact e1
  · refine Eq.trans ?_ e1
    refine Eq.trans ?_ (flg_set (S := tk1 S i t) (i := i) (f := fun x => sfX x ps.1) (fun _ => rfl))
    exact flg_set (S := sfS (tk1 S i t) i ps.1) (f := fun x => stLg x (opnS y (sfS (tk1 S i t) i ps.1) i 0).1) (fun _ => rfl)
theorem VV_cg (eo : tOw S' = tOw S) (ef : ∀ k, flg ((tSv S').getD k sr0) = flg ((tSv S).getD k sr0)) : VV cl S' = VV cl S := by
  unfold VV
  refine sm_cg 8 (fun t _ => ?_)
  unfold vT
  rw [eo, ef]
theorem VV_tk (l8 : (tOw S).length = 8) (ht : t < 8) (ho : (tOw S).getD t 0 = -1) (hi : i < 8) (hb : bdF (flg ((tSv S).getD i sr0)) = false) (eo : tOw S' = (tOw S).set t (nI i)) (ef : ∀ k, flg ((tSv S').getD k sr0) = flg ((tSv S).getD k sr0)) : VV cl S' + (2 + wT cl t) = VV cl S := by
  have og : ∀ t', t' < 8 → ((tOw S).set t (nI i)).getD t' 0 = if t' = t then nI i else (tOw S).getD t' 0 := fun t' ht' => by
    by_cases w : t' = t
    · subst w
      rw [if_pos rfl, List.getD_eq_getElem?_getD, List.getElem?_set_self (by omega)]; rfl
    · rw [if_neg w, List.getD_eq_getElem?_getD, List.getElem?_set_ne (fun z => w z.symm), ← List.getD_eq_getElem?_getD]
  have := sm_u (n := 8) (t := t) (f := vT cl S) (f' := vT cl S') ht (fun t' ht' w => by
    unfold vT
    rw [eo, og t' ht', if_neg w, ef])
  have e1 : vT cl S t = 2 + wT cl t := by
    unfold vT
    rw [if_pos ho]
  have e2 : vT cl S' t = 0 := by
    unfold vT
    rw [eo, og t ht, if_pos rfl, if_neg (nIx_m1 hi), ef, nI_clamp (by omega), if_neg (by rw [hb]; decide)]
  rw [e1, e2] at this
  exact this
/-- one tablet: what it uses is what it was worth -/
theorem rcT_q (h : CX y cl B st.1) (hr : RX y cl st.1) (hy : yOK y) (l40 : cl40 cl) (hj : j < (tDe st.1).length) (ht : t < 8) (eD : ((tDe st.1).getD j d0A).1 = D) : RX y cl (rcT y (psA (rdP up D)) j st t).1 ∧ QQ cl (rcT y (psA (rdP up D)) j st t).1 (rcT y (psA (rdP up D)) j st t).2 ≤ QQ cl st.1 st.2 ∧ (∀ k, flg ((tSv (rcT y (psA (rdP up D)) j st t).1).getD k sr0) = flg ((tSv st.1).getD k sr0)) ∧ tDs (rcT y (psA (rdP up D)) j st t).1 = tDs st.1 ∧ tFo (rcT y (psA (rdP up D)) j st t).1 = tFo st.1 := by
  unfold rcT
  split
  · exact ⟨hr, Nat.le_refl _, fun _ => rfl, rfl, rfl⟩
  · next w =>
    cases e : heirA y st.1 with
    | none => exact ⟨hr, Nat.le_refl _, fun _ => rfl, rfl, rfl⟩
    | some i =>
      obtain ⟨o1, o2, o3⟩ := heirA_ok e
      have hi := heirA_lt e
      have hb : shrB ((tDe st.1).getD j d0A).2 (nI t) = 1 := Decidable.not_not.mp w
      have gj : (tDe st.1).getD j d0A = (tDe st.1)[j] := by rw [List.getD_eq_getElem?_getD, List.getElem?_eq_getElem hj]; rfl
      have ot : (tOw st.1).getD t 0 = -1 := by
        rw [gj] at hb
        exact (h.2.2.2.1 _ (List.getElem_mem hj)).2.2 t ht hb
      obtain ⟨-, pr⟩ := tk_pre (up := up) h hr hy l40 hj ht hb hi o2 o3 eD
      obtain ⟨-, p2, p3⟩ := pr _ [] (List.append_nil _).symm
      have p2 : RX y cl (tkS y (psA (rdP up D)) (dtb st.1 j t) i t) := p2
      have p3 : 2 * tNm (tkS y (psA (rdP up D)) (dtb st.1 j t) i t) ≤ 2 * tNm st.1 + wT cl t := p3
      have fl := fun k => flg_tkS (y := y) (ps := psA (rdP up D)) (S := dtb st.1 j t) (i := i) (t := t) (k := k)
      dsimp only
      generalize tkS y (psA (rdP up D)) (dtb st.1 j t) i t = Z at p2 p3 fl
      have v := VV_tk (cl := cl) (S := st.1) (S' := Z) h.1.2.1 ht ot (i := i) (by have := hy.1.2; omega) (by unfold bdF flg; dsimp only; rw [o1, o3]; rfl) (fl 0).2.1 (fun k => (fl k).1)
      have d : tDs Z = tDs st.1 := (fl 0).2.2.1
      refine ⟨p2, ?_, fun k => (fl k).1, d, (fl 0).2.2.2⟩
      unfold QQ
      rw [d]
      omega
theorem rcF_q (hy : yOK y) (l40 : cl40 cl) : ∀ (l : List Nat) (st : stA × Nat), CX y cl B st.1 → RX y cl st.1 → j < (tDe st.1).length → (∀ t ∈ l, t < 8) → ((tDe st.1).getD j d0A).1 = D → RX y cl (l.foldl (rcT y (psA (rdP up D)) j) st).1 ∧ QQ cl (l.foldl (rcT y (psA (rdP up D)) j) st).1 (l.foldl (rcT y (psA (rdP up D)) j) st).2 ≤ QQ cl st.1 st.2 ∧ (∀ k, flg ((tSv (l.foldl (rcT y (psA (rdP up D)) j) st).1).getD k sr0) = flg ((tSv st.1).getD k sr0)) ∧ tDs (l.foldl (rcT y (psA (rdP up D)) j) st).1 = tDs st.1 ∧ tFo (l.foldl (rcT y (psA (rdP up D)) j) st).1 = tFo st.1 := by
  intro l
  induction l with
  | nil => intro st _ hr _ _ _; exact ⟨hr, Nat.le_refl _, fun _ => rfl, rfl, rfl⟩
  | cons t l ih =>
    intro st h hr hj hl eD
    rw [List.foldl_cons]
    have h1 := h.krcT (up := up) hy l40 hj (hl t List.mem_cons_self) eD
    obtain ⟨q1, q2, q3, q4, q5⟩ := rcT_q (up := up) h hr hy l40 hj (hl t List.mem_cons_self) eD
    obtain ⟨S, k⟩ := st
    obtain ⟨a1, m1, a2⟩ := rcT_de (y := y) (ps := psA (rdP up D)) (k := k) (t := t) hj
    generalize rcT y (psA (rdP up D)) j (S, k) t = st' at h1 a1 a2 q1 q2 q3 q4 q5
    obtain ⟨b1, b2, b3, b4, b5⟩ := ih st' h1 q1 (by rw [a2, List.length_set]; exact hj) (fun t ht => hl t (List.mem_cons_of_mem _ ht)) (by
      rw [a2, List.getD_eq_getElem?_getD, List.getElem?_set_self hj]
      exact eD)
    exact ⟨b1, Nat.le_trans b2 q2, fun k => (b3 k).trans (q3 k), b4.trans q4, b5.trans q5⟩
theorem rcD_q (h : CX y cl B st.1) (hr : RX y cl st.1) (hy : yOK y) (l40 : cl40 cl) (hj : j < (tDe st.1).length) : RX y cl (rcD y st j).1 ∧ QQ cl (rcD y st j).1 (rcD y st j).2 ≤ QQ cl st.1 st.2 ∧ (∀ k, flg ((tSv (rcD y st j).1).getD k sr0) = flg ((tSv st.1).getD k sr0)) ∧ tDs (rcD y st j).1 = tDs st.1 ∧ tFo (rcD y st j).1 = tFo st.1 := by
  unfold rcD
  split
  · exact rcF_q hy l40 _ st h hr hj (fun t ht => List.mem_range.mp ht) rfl
  · exact ⟨hr, Nat.le_refl _, fun _ => rfl, rfl, rfl⟩
theorem rcL_q (hy : yOK y) (l40 : cl40 cl) : ∀ (n : Nat) (st : stA × Nat) (j r : Nat), CX y cl B st.1 → RX y cl st.1 → RX y cl (rcL y n st j r).1.1 ∧ QQ cl (rcL y n st j r).1.1 (rcL y n st j r).1.2 ≤ QQ cl st.1 st.2 ∧ (∀ k, flg ((tSv (rcL y n st j r).1.1).getD k sr0) = flg ((tSv st.1).getD k sr0)) ∧ tDs (rcL y n st j r).1.1 = tDs st.1 ∧ tFo (rcL y n st j r).1.1 = tFo st.1 := by
  intro n
  induction n with
  | zero => intro st j r _ hr; exact ⟨hr, Nat.le_refl _, fun _ => rfl, rfl, rfl⟩
  | succ n ih =>
    intro st j r h hr
    rw [rcL]
    split
    · exact ⟨hr, Nat.le_refl _, fun _ => rfl, rfl, rfl⟩
    · next w =>
      have h1 := h.krcD hy l40 (j := j) (by omega)
      obtain ⟨q1, q2, q3, q4, q5⟩ := rcD_q h hr hy l40 (j := j) (by omega)
      split
      · have r1 : RX y cl (rmD (rcD y st j).1 j) := ⟨q1.1, fun d hd => q1.2 d ((List.eraseIdx_sublist _ _).subset hd)⟩
        obtain ⟨b1, b2, b3, b4, b5⟩ := ih (rmD (rcD y st j).1 j, (rcD y st j).2) j (r + 1) h1.krmD r1
        have e : QQ cl (rmD (rcD y st j).1 j) (rcD y st j).2 = QQ cl (rcD y st j).1 (rcD y st j).2 := rfl
        refine ⟨b1, Nat.le_trans b2 ?_, fun k => (b3 k).trans (q3 k), b4.trans q4, b5.trans q5⟩
        show QQ cl (rmD (rcD y st j).1 j) (rcD y st j).2 ≤ _
        rw [e]; exact q2
      · obtain ⟨b1, b2, b3, b4, b5⟩ := ih (rcD y st j) (j + 1) r h1 q1
        exact ⟨b1, Nat.le_trans b2 q2, fun k => (b3 k).trans (q3 k), b4.trans q4, b5.trans q5⟩
end
