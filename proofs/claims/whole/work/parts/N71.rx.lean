-- ROOM: sums, and how many SEGMENTS there are
def sm (n : Nat) (f : Nat → Nat) : Nat := ((List.range n).map f).sum
def wT (cl : List kcT) (t : Nat) : Nat := 48 + Rt cl t
def oW (cl : List kcT) (ow : List Int32) (i : Nat) : Nat := sm 8 (fun t => if ow.getD t 0 = nI i then wT cl t else 0)
def sL2 (x : srA) : Nat := (sLg x).1.length + (lgO (sLL x)).1.length
def RX (y : Nat → Nat) (cl : List kcT) (S : stA) : Prop := (∀ i, i < y 20 → 2 * sL2 ((tSv S).getD i sr0) ≤ 2 * y 23 + oW cl (tOw S) i) ∧ ∀ d ∈ tDe S, 2 * d.1.1.length ≤ 2 * y 23 + sm 8 (wT cl)
def sLN (y : Nat → Nat) (S : stA) : Nat := sm (y 20) (fun i => sL2 ((tSv S).getD i sr0)) + ((tDe S).map (fun d => d.1.1.length)).sum
def sN (cl : List kcT) : Nat := sm 240 (fun j => if j % 40 < (cl.getD (j / 40) cl0).1.length then 1 else 0)
section
variable {y : Nat → Nat} {i j t a b n w : Nat} {cl : List kcT} {B : Int32} {S : stA} {f f' g : Nat → Nat}
theorem sm_s : sm (n + 1) f = sm n f + f n := by
  unfold sm
  rw [List.range_succ, List.map_append, List.sum_append, List.map_cons, List.map_nil, List.sum_cons, List.sum_nil]
  omega
theorem sm_add : ∀ n, sm n (fun i => f i + g i) = sm n f + sm n g := by
  intro n
  induction n with
  | zero => rfl
  | succ n ih => rw [sm_s, sm_s, sm_s, ih]; omega
theorem sm_cg : ∀ n, (∀ i, i < n → f i = g i) → sm n f = sm n g := by
  intro n
  induction n with
  | zero => intro _; rfl
  | succ n ih => intro h; rw [sm_s, sm_s, ih (fun i hi => h i (by omega)), h n (by omega)]
theorem sm_le : ∀ n, (∀ i, i < n → f i ≤ g i) → sm n f ≤ sm n g := by
  intro n
  induction n with
  | zero => intro _; exact Nat.le_refl _
  | succ n ih =>
    intro h
    rw [sm_s, sm_s]
    have := ih (fun i hi => h i (by omega))
    have := h n (by omega)
    omega
theorem sm_z : ∀ n, (∀ i, i < n → f i = 0) → sm n f = 0 := by
  intro n
  induction n with
  | zero => intro _; rfl
  | succ n ih => intro h; rw [sm_s, ih (fun i hi => h i (by omega)), h n (by omega)]
theorem sm_k : ∀ n, sm n (fun _ => w) = n * w := by
  intro n
  induction n with
  | zero => exact (Nat.zero_mul _).symm
  | succ n ih => rw [sm_s, ih, Nat.succ_mul]
theorem sm_sw {h : Nat → Nat → Nat} : ∀ a b, sm a (fun i => sm b (h i)) = sm b (fun t => sm a (fun i => h i t)) := by
  intro a b
  induction a with
  | zero => exact (sm_z b (fun _ _ => rfl)).symm
  | succ a ih =>
    rw [sm_s, ih, ← sm_add]
    exact sm_cg b (fun t _ => sm_s.symm)
theorem sm_1x : ∀ n, (∀ i, i < n → f i ≤ w) → (∀ i i', i < n → i' < n → ¬ f i = 0 → ¬ f i' = 0 → i = i') → sm n f ≤ w := by
  intro n
  induction n with
  | zero => intro _ _; exact Nat.zero_le _
  | succ n ih =>
    intro h1 h2
    rw [sm_s]
    by_cases q : f n = 0
    · rw [q]
      exact ih (fun i hi => h1 i (by omega)) (fun i i' hi hi' => h2 i i' (by omega) (by omega))
    · rw [sm_z n (fun i hi => Decidable.byContradiction (fun z => by
        have := h2 i n (by omega) (by omega) z q
        omega)), Nat.zero_add]
      exact h1 n (by omega)
theorem sm_u (ht : t < n) (h : ∀ i, i < n → ¬ i = t → f' i = f i) : sm n f' + f t = sm n f + f' t := by
  have : ∀ m, m ≤ n → sm m f' + (if t < m then f t else 0) = sm m f + (if t < m then f' t else 0) := by
    intro m
    induction m with
    | zero => intro _; rfl
    | succ m ih =>
      intro hm
      have i1 := ih (by omega)
      rw [sm_s, sm_s]
      by_cases q : t = m
      · subst q
        rw [if_neg (Nat.lt_irrefl _), if_neg (Nat.lt_irrefl _)] at i1
        rw [if_pos (Nat.lt_succ_self _), if_pos (Nat.lt_succ_self _)]
        omega
      · have e := h m (by omega) (fun z => q z.symm)
        by_cases q2 : t < m
        · rw [if_pos q2, if_pos q2] at i1
          rw [if_pos (by omega), if_pos (by omega)]
          omega
        · rw [if_neg q2, if_neg q2] at i1
          rw [if_neg (by omega), if_neg (by omega)]
          omega
  have := this n (Nat.le_refl _)
  rw [if_pos ht, if_pos ht] at this
  exact this
theorem Rt_sm : Rt cl t = sm 240 (fun j => if Rj cl t j = true then 1 else 0) := (rng_c _ 240).symm
theorem Rt_all : sm 8 (Rt cl) ≤ sN cl := by
  have e : sm 8 (Rt cl) = sm 8 (fun t => sm 240 (fun j => if Rj cl t j = true then 1 else 0)) := sm_cg 8 (fun t _ => Rt_sm)
  rw [e, sm_sw]
  unfold sN
  refine sm_le 240 (fun j _ => ?_)
  by_cases q : j % 40 < (cl.getD (j / 40) cl0).1.length
  · rw [if_pos q]
    refine sm_1x 8 (fun t _ => by split <;> omega) (fun t t' ht ht' z z' => ?_)
    have k1 : Rj cl t j = true := Decidable.byContradiction (fun u => z (if_neg u))
    have k2 : Rj cl t' j = true := Decidable.byContradiction (fun u => z' (if_neg u))
    unfold Rj at k1 k2
    rw [Bool.and_eq_true, decide_eq_true_eq, decide_eq_true_eq] at k1 k2
    exact nI_inj (by omega) (by omega) (k1.2.symm.trans k2.2)
  · rw [if_neg q, sm_z 8 (fun t _ => by
      rw [if_neg]
      unfold Rj
      rw [decide_eq_false q]
      exact fun z => by cases z)]
    exact Nat.le_refl _
theorem sN_240 : sN cl ≤ 240 := by
  unfold sN
  refine Nat.le_trans (sm_le (g := fun _ => 1) 240 (fun j _ => by split <;> omega)) ?_
  rw [sm_k]
  omega
theorem wT_all : sm 8 (wT cl) = 384 + sm 8 (Rt cl) := by
  have : sm 8 (wT cl) = sm 8 (fun _ => 48) + sm 8 (Rt cl) := sm_add 8
  rw [this, sm_k]
theorem oW_all (hN : n ≤ 8) (ow : List Int32) : sm n (oW cl ow) ≤ sm 8 (wT cl) := by
  unfold oW
  rw [sm_sw]
  refine sm_le 8 (fun t _ => ?_)
  refine sm_1x n (fun i _ => by split <;> omega) (fun i i' hi hi' z z' => ?_)
  have k1 : ow.getD t 0 = nI i := Decidable.byContradiction (fun u => z (if_neg u))
  have k2 : ow.getD t 0 = nI i' := Decidable.byContradiction (fun u => z' (if_neg u))
  exact nI_inj (by omega) (by omega) (k1.symm.trans k2)
theorem oW_le (ow : List Int32) : oW cl ow i ≤ sm 8 (wT cl) := sm_le 8 (fun t _ => by split <;> omega)
/-- the SEGMENTS of the whole store -/
theorem SL_le (h : RX y cl S) (hy : yOK y) (l16 : (tDe S).length ≤ 16) : sLN y S ≤ 5690 := by
  obtain ⟨⟨y1, y2⟩, -, -, ⟨y3, y4, -⟩⟩ := hy
  have w := wT_all (cl := cl)
  have r := Rt_all (cl := cl)
  have s := sN_240 (cl := cl)
  have h1 : sm (y 20) (fun i => 2 * sL2 ((tSv S).getD i sr0)) ≤ sm (y 20) (fun i => 2 * y 23 + oW cl (tOw S) i) := sm_le _ (fun i hi => h.1 i hi)
  have h2 : sm (y 20) (fun i => 2 * y 23 + oW cl (tOw S) i) = y 20 * (2 * y 23) + sm (y 20) (oW cl (tOw S)) := by
    rw [sm_add, sm_k]
  have h3 := oW_all (cl := cl) (n := y 20) y2 (tOw S)
  have h4 : sm (y 20) (fun i => 2 * sL2 ((tSv S).getD i sr0)) = 2 * sm (y 20) (fun i => sL2 ((tSv S).getD i sr0)) := by
    have : ∀ n, sm n (fun i => 2 * sL2 ((tSv S).getD i sr0)) = 2 * sm n (fun i => sL2 ((tSv S).getD i sr0)) := by
      intro n
      induction n with
      | zero => rfl
      | succ n ih => rw [sm_s, sm_s, ih]; omega
    exact this _
  have h5 : ∀ l : List (alT × Int32), (∀ d ∈ l, 2 * d.1.1.length ≤ 656) → 2 * (l.map (fun d => d.1.1.length)).sum ≤ 656 * l.length := by
    intro l
    induction l with
    | nil => intro _; exact Nat.le_refl _
    | cons d l ih =>
      intro hl
      have i1 := ih (fun d hd => hl d (List.mem_cons_of_mem _ hd))
      have i2 := hl d List.mem_cons_self
      rw [List.map_cons, List.sum_cons, List.length_cons]
      omega
  have h6 := h5 (tDe S) (fun d hd => by have := h.2 d hd; omega)
  have h7 : y 20 * (2 * y 23) ≤ 8 * 32 := Nat.mul_le_mul y2 (by omega)
  unfold sLN
  omega
theorem oW_set {ow : List Int32} (l8 : ow.length = 8) (ht : t < 8) (ho : ow.getD t 0 = -1) (hi : i < 8) : oW cl (ow.set t (nI i)) i = oW cl ow i + wT cl t ∧ ∀ j, j < 8 → ¬ j = i → oW cl (ow.set t (nI i)) j = oW cl ow j := by
  have og : ∀ t', t' < 8 → (ow.set t (nI i)).getD t' 0 = if t' = t then nI i else ow.getD t' 0 := fun t' ht' => by
    by_cases w : t' = t
    · subst w
      rw [if_pos rfl, List.getD_eq_getElem?_getD, List.getElem?_set_self (by omega)]; rfl
    · rw [if_neg w, List.getD_eq_getElem?_getD, List.getElem?_set_ne (fun z => w z.symm), ← List.getD_eq_getElem?_getD]
  refine ⟨?_, fun j hj ne => ?_⟩
  · have := sm_u (n := 8) (t := t) (f := fun t => if ow.getD t 0 = nI i then wT cl t else 0) (f' := fun t' => if (ow.set t (nI i)).getD t' 0 = nI i then wT cl t' else 0) ht (fun t' ht' w => by
      show (if (ow.set t (nI i)).getD t' 0 = nI i then wT cl t' else 0) = _
      rw [og t' ht', if_neg w])
    rw [og t ht, if_pos rfl, if_pos rfl, ho, if_neg (fun z => nIx_m1 hi z.symm)] at this
    exact this
  · refine sm_cg 8 (fun t' ht' => ?_)
    rw [og t' ht']
    by_cases w : t' = t
    · subst w
      rw [if_pos rfl, ho, if_neg (fun z => ne (nI_inj (by omega) (by omega) z).symm), if_neg (fun z => nIx_m1 hj z.symm)]
    · rw [if_neg w]
end
