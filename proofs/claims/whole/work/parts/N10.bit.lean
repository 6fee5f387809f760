/-! the two sides: who is UP, as bits and as states; the ring; HOLDERS -/
def UPR (st : Nat → Int32) (N up : Nat) : Prop := up < 2 ^ N ∧ ∀ i, i < N → (up.testBit i = true ↔ st i = 0)
section BT
variable {st : Nat → Int32} {N up m a b rep nm : Nat} {hs : List (Nat × Nat)} {s : slT} {sv : List srA}
theorem fo_cnt {α : Type} {p : α → Prop} [DecidablePred p] : ∀ (l : List α) (t : Nat), l.foldl (fun t x => if p x then t + 1 else t) t = t + l.countP (fun x => decide (p x)) := by
  intro l
  induction l with
  | nil => intro t; rfl
  | cons a l ih =>
    intro t
    rw [List.foldl_cons, ih, List.countP_cons]
    by_cases q : p a
    · rw [if_pos q, if_pos (decide_eq_true q)]; omega
    · rw [if_neg q, if_neg (by simpa using q)]; rfl
theorem nI_and (a b : Nat) : nI a &&& nI b = nI (a &&& b) := by
  apply Int32.toBitVec_inj.mp
  rw [Int32.toBitVec_and]
  show BitVec.ofNat 32 a &&& BitVec.ofNat 32 b = BitVec.ofNat 32 (a &&& b)
  rw [BitVec.ofNat_and]
theorem nI_xor (a b : Nat) : nI a ^^^ nI b = nI (a ^^^ b) := by
  apply Int32.toBitVec_inj.mp
  rw [Int32.toBitVec_xor]
  show BitVec.ofNat 32 a ^^^ BitVec.ofNat 32 b = BitVec.ofNat 32 (a ^^^ b)
  rw [BitVec.ofNat_xor]
theorem nI_m (a b : Nat) : nI a &&& (nI b ^^^ (-1)) = nI (a &&& (b ^^^ (2 ^ 32 - 1))) := by
  rw [show (-1 : Int32) = nI (2 ^ 32 - 1) from rfl, nI_xor, nI_and]
theorem tb_32 {i : Nat} (h : i < 32) : (2 ^ 32 - 1).testBit i = true := by
  rw [Nat.testBit_two_pow_sub_one]; exact decide_eq_true h
theorem pop_cnt : ∀ m, m < 256 → popN m = (List.range 8).countP (fun i => m.testBit i) := by decide +kernel
theorem bit_2 : ∀ m, m < 8 → bitS (nI m) = nI (2 ^ m) := by decide
theorem lt256 (h : up < 2 ^ N) (h8 : N ≤ 8) : up < 256 := Nat.lt_of_lt_of_le h (Nat.pow_le_pow_right (by decide) h8)
theorem tb_lt {i : Nat} (h : up < 2 ^ N) (hi : N ≤ i) : up.testBit i = false := Nat.testBit_lt_two_pow (Nat.lt_of_lt_of_le h (Nat.pow_le_pow_right (by decide) hi))
theorem UPR.sh (h : UPR st N up) (h8 : N ≤ 8) {i : Nat} (hi : i < N) : shrB (nI up) (nI i) = 1 ↔ st i = 0 := by
  rw [sh_N up (lt256 h.1 h8) i (by omega), ← h.2 i hi]
  cases up.testBit i <;> simp
/-- a Nat of the servers that are UP and what more is asked -/
theorem cnt_8 (h8 : N ≤ 8) {p : Nat → Bool} (hp : ∀ i, N ≤ i → p i = false) : (List.range 8).countP p = (List.range N).countP p := by
  have : List.range 8 = List.range N ++ (List.range (8 - N)).map (fun i => N + i) := by
    rw [← List.range_add, Nat.add_sub_cancel' h8]
  have z : ((List.range (8 - N)).map (fun i => N + i)).countP p = 0 := List.countP_eq_zero.mpr (fun a ha => by
    obtain ⟨i, -, e⟩ := List.mem_map.mp ha
    rw [hp a (by omega)]; decide)
  rw [this, List.countP_append, z, Nat.add_zero]
theorem cnt_cg {α : Type} {p q : α → Bool} : ∀ (l : List α), (∀ a ∈ l, p a = q a) → l.countP p = l.countP q := by
  intro l
  induction l with
  | nil => intro _; rfl
  | cons a l ih => intro h; rw [List.countP_cons, List.countP_cons, h a List.mem_cons_self, ih (fun a ha => h a (List.mem_cons_of_mem _ ha))]
theorem UPR.but (h : UPR st N up) (h8 : N ≤ 8) (hm : m < N) : bcX (nI up &&& (bitS (nI m) ^^^ (-1))) = nI (upB st N (nI m)) := by
  have l := lt256 h.1 h8
  rw [bit_2 m (by omega), nI_m]
  have lt : up &&& (2 ^ m ^^^ (2 ^ 32 - 1)) < 256 := Nat.lt_of_le_of_lt Nat.and_le_left l
  rw [bcX_N _ lt, pop_cnt _ lt]
  congr 1
  unfold upB
  rw [fo_cnt, Nat.zero_add, cnt_8 h8 (fun i hi => by rw [Nat.testBit_and, tb_lt h.1 hi, Bool.false_and])]
  refine cnt_cg _ (fun i hi => ?_)
  have hi := List.mem_range.mp hi
  rw [Nat.testBit_and, Nat.testBit_xor, tb_32 (by omega), Nat.testBit_two_pow, Bool.eq_iff_iff, Bool.and_eq_true, h.2 i hi, decide_eq_true_eq]
  by_cases q : m = i
  · subst q
    simp
  · have : ¬ nI i = nI m := fun z => q (nI_inj (by omega) (by omega) z).symm
    simp [q, this]
theorem UPR.all (h : UPR st N up) (h8 : N ≤ 8) : bcX (nI up) = nI (upB st N (-1)) := by
  have l := lt256 h.1 h8
  rw [bcX_N _ l, pop_cnt _ l]
  congr 1
  unfold upB
  rw [fo_cnt, Nat.zero_add, cnt_8 h8 (fun i hi => tb_lt h.1 hi)]
  refine cnt_cg _ (fun i hi => ?_)
  have hi := List.mem_range.mp hi
  rw [Bool.eq_iff_iff, h.2 i hi, decide_eq_true_eq]
  have : ¬ nI i = -1 := fun z => by
    have := nI_pos (n := i) (by omega)
    rw [z] at this
    exact absurd this (by decide)
  simp [this]
theorem cnt_in {l : List Nat} (nd : l.Nodup) (h : ∀ v ∈ l, v < 8) (p : Nat → Bool) : (List.range 8).countP (fun v => decide (v ∈ l) && p v) = l.countP p := by
  have pm : ((List.range 8).filter (fun v => decide (v ∈ l))).Perm l := by
    refine (List.perm_ext_iff_of_nodup (List.nodup_range.filter _) nd).mpr (fun v => ?_)
    rw [List.mem_filter, List.mem_range, decide_eq_true_eq]
    exact ⟨fun z => z.2, fun z => ⟨h v z, z⟩⟩
  rw [← pm.countP_eq, List.countP_filter]
  exact cnt_cg _ (fun v _ => Bool.and_comm _ _)
theorem hoU_c : hoU st s = ((lHo s).map (·.1)).countP (fun v => decide (st v = 0)) := by
  unfold hoU
  rw [fo_cnt, Nat.zero_add, List.countP_map]; rfl
theorem UPR.hol (h : UPR st N up) (h8 : N ≤ 8) (g : (hs.map (·.1)).Nodup ∧ ∀ x ∈ hs, x.1 < N) : bcX (mskL hs &&& nI up) = nI ((hs.map (·.1)).countP (fun v => decide (st v = 0))) ∧ (mskL hs &&& (nI up ^^^ (-1)) = 0 ↔ ∀ x ∈ hs, st x.1 = 0) := by
  have l := lt256 h.1 h8
  obtain ⟨mk, k1, k2, k3⟩ := msk_N hs (fun x hx => Nat.lt_of_lt_of_le (g.2 x hx) h8)
  have hv : ∀ v ∈ hs.map (·.1), v < N := fun v hv => by
    obtain ⟨x, x1, x2⟩ := List.mem_map.mp hv
    subst x2
    exact g.2 x x1
  constructor
  · rw [k2, nI_and]
    have lt : mk &&& up < 256 := Nat.lt_of_le_of_lt Nat.and_le_left k1
    rw [bcX_N _ lt, pop_cnt _ lt]
    congr 1
    rw [← cnt_in g.1 (fun v z => Nat.lt_of_lt_of_le (hv v z) h8)]
    refine cnt_cg _ (fun v hv8 => ?_)
    have hv8 := List.mem_range.mp hv8
    rw [Nat.testBit_and, Bool.eq_iff_iff, Bool.and_eq_true, Bool.and_eq_true, decide_eq_true_eq, decide_eq_true_eq, k3 v hv8]
    constructor
    · intro z; exact ⟨z.1, (h.2 v (hv v z.1)).mp z.2⟩
    · intro z; exact ⟨z.1, (h.2 v (hv v z.1)).mpr z.2⟩
  · rw [k2, nI_m]
    have lt : mk &&& (up ^^^ (2 ^ 32 - 1)) < 256 := Nat.lt_of_le_of_lt Nat.and_le_left k1
    have e0 : nI (mk &&& (up ^^^ (2 ^ 32 - 1))) = 0 ↔ mk &&& (up ^^^ (2 ^ 32 - 1)) = 0 := ⟨fun z => nI_inj (by omega) (by omega) (z.trans nI_0.symm), fun z => by rw [z]; rfl⟩
    rw [e0]
    constructor
    · intro z x hx
      have tb : (mk &&& (up ^^^ (2 ^ 32 - 1))).testBit x.1 = false := by rw [z, Nat.zero_testBit]
      have xN := g.2 x hx
      rw [Nat.testBit_and, Nat.testBit_xor, tb_32 (by omega), (k3 x.1 (by omega)).mpr (List.mem_map_of_mem hx)] at tb
      refine (h.2 x.1 xN).mp ?_
      cases e : up.testBit x.1 with
      | true => rfl
      | false => rw [e] at tb; exact absurd tb (by decide)
    · intro z
      refine Nat.eq_of_testBit_eq (fun i => ?_)
      rw [Nat.zero_testBit, Nat.testBit_and]
      by_cases q : i < 8
      · cases e : mk.testBit i with
        | false => rfl
        | true =>
          obtain ⟨x, x1, x2⟩ := List.mem_map.mp ((k3 i q).mp e)
          have := (h.2 i (by rw [← x2]; exact g.2 x x1)).mpr (by rw [← x2]; exact z x x1)
          rw [Nat.testBit_xor, tb_32 (by omega), this]; rfl
      · rw [Nat.testBit_lt_two_pow (x := mk) (i := i) (Nat.lt_of_lt_of_le k1 (Nat.pow_le_pow_right (n := 2) (i := 8) (by decide) (by omega))), Bool.false_and]
theorem cnt_full {l : List Nat} {p : Nat → Bool} : l.countP p = l.length ↔ ∀ v ∈ l, p v = true := List.countP_eq_length
theorem most_U (h : UPR st N up) (h8 : N ≤ 8) : ∀ (hs : List (Nat × Nat)) (t : Nat), (∀ x ∈ hs, x.1 < N) → hs.foldl (mostF (nI up)) t = hs.foldl (mstU st) t := by
  intro hs
  induction hs with
  | nil => intro t _; rfl
  | cons x hs ih =>
    intro t g
    rw [List.foldl_cons, List.foldl_cons, ih _ (fun x hx => g x (List.mem_cons_of_mem _ hx))]
    congr 1
    unfold mostF mstU
    have := h.sh h8 (g x List.mem_cons_self)
    by_cases q : st x.1 = 0
    · by_cases q2 : t < x.2
      · rw [if_pos ⟨this.mpr q, q2⟩, if_pos ⟨q, q2⟩]
      · rw [if_neg (fun z => q2 z.2), if_neg (fun z => q2 z.2)]
    · rw [if_neg (fun z => q (this.mp z.1)), if_neg (fun z => q z.1)]
theorem upN_bit : ∀ (sv : List srA) (i : Nat), i < sv.length → ((upN sv).testBit i = true ↔ sSt (sv.getD i sr0) = 0) := by
  intro sv
  induction sv with
  | nil => intro i hi; exact absurd hi (Nat.not_lt_zero _)
  | cons x sv ih =>
    intro i hi
    cases i with
    | zero =>
      show ((if sSt x = 0 then 1 else 0) + 2 * upN sv).testBit 0 = true ↔ sSt x = 0
      rw [Nat.testBit_zero]
      by_cases q : sSt x = 0
      · rw [if_pos q]; simp [q]
      · rw [if_neg q]; simp [q]
    | succ i =>
      show ((if sSt x = 0 then 1 else 0) + 2 * upN sv).testBit (i + 1) = true ↔ sSt (sv.getD i sr0) = 0
      rw [Nat.testBit_succ, show ((if sSt x = 0 then 1 else 0) + 2 * upN sv) / 2 = upN sv by split <;> omega]
      exact ih i (Nat.lt_of_succ_lt_succ hi)
end BT
