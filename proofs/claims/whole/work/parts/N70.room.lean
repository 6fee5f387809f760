-- ROOM: names that a tablet's taking over may use
def Rj (cl : List kcT) (t j : Nat) : Bool := decide (j % 40 < (cl.getD (j / 40) cl0).1.length) && decide (((cl.getD (j / 40) cl0).1.getD (j % 40) rq0).2.1 / 8 = nI t)
def Rt (cl : List kcT) (t : Nat) : Nat := (List.range 240).countP (Rj cl t)
def hu (A : alT) : Nat := match hdG A with
  | none => 0
  | some g => (unsA g.2.1).toNatClampNeg
def pen (up : Int32) (A : alT) : Nat := match hdG A with
  | none => 5
  | some g => if mskL g.2.2.2 &&& (up ^^^ (-1)) = 0 then 0 else 5
def un1 (p : pT) : Nat := if pKd p = 2 then 2 else 1
def unN (l : List pT) : Nat := (l.map un1).sum
section
variable {A D : alT} {y : Nat → Nat} {i j t k n c N U rep mem nm m ub : Nat} {cl : List kcT} {B up safe aw lim : Int32} {S : stA} {p : pT} {l : List pT} {st : Nat → Int32} {W : alT × Nat × Int32 × Int32} {g : agT}
theorem un1_k : kU (pKd p) = nI (un1 p) ∧ 1 ≤ un1 p ∧ un1 p ≤ 2 ∧ unsA [p] = nI (un1 p) := by
  have e : unsA [p] = kU (pKd p) := by
    show 0 + kU (pKd p) = _
    rw [Int32.zero_add]
  unfold kU at e ⊢
  unfold un1
  by_cases w : pKd p = 2
  · rw [if_pos w] at e ⊢
    rw [if_pos w]
    exact ⟨rfl, by omega, by omega, e⟩
  · rw [if_neg w] at e ⊢
    rw [if_neg w]
    exact ⟨rfl, by omega, by omega, e⟩
theorem hu_U (L : LgO N U nm A) (hU : U ≤ 16) : hu A ≤ U := by
  unfold hu
  cases e : hdG A with
  | none => exact Nat.zero_le _
  | some g =>
    obtain ⟨k, k1, k2⟩ := L.2.2.2 g e
    show (unsA g.2.1).toNatClampNeg ≤ U
    rw [k2, nI_clamp (by omega)]; exact k1
theorem pen_5 : pen up A ≤ 5 := by
  unfold pen
  split
  · exact Nat.le_refl _
  · split <;> omega
/-- one PART appended: names against the HEAD's UNITS -/
theorem ap_names (u : UPR st N ub) (h4 : 4 ≤ N) (h8 : N ≤ 8) (hm : m < N) (hU : 6 ≤ U) (hU2 : U ≤ 16) (L : LgO N U nm A) (e : W = mkrA N U rep mem (nI ub) aw nm m safe (kU (pKd p)) 0 A) : (W.2.2.2 = 0 → 2 * W.2.1 + hu W.1 + pen (nI ub) W.1 ≤ 2 * nm + hu A + pen (nI ub) A) ∧ (¬ W.2.2.2 = 0 → 2 * W.2.1 + hu (wrtA W.1 [p] 100) + pen (nI ub) (wrtA W.1 [p] 100) ≤ 2 * nm + hu A + pen (nI ub) A + un1 p) := by
  obtain ⟨n1, n2, n3, n4⟩ := un1_k (p := p)
  obtain ⟨a1, a2, a3, a4, a5⟩ := mkA_o e u h4 h8 hm (by omega) L
  refine ⟨fun w => ?_, fun w => ?_⟩
  · obtain ⟨b1, b2⟩ := a5 w rfl
    rw [b1, b2]
    exact Nat.le_refl _
  · rw [n1] at e
    obtain ⟨g, k, g1, g2, g3, g4⟩ := mkA_hd e u h4 h8 hm hU hU2 (by omega) L w
    have ew : hdG (wrtA W.1 [p] 100) = some (addG g [p] 100) := wr_hd g1
    have e1 : hu (wrtA W.1 [p] 100) = k + un1 p := by
      unfold hu
      rw [ew]
      show (unsA (g.2.1 ++ [p])).toNatClampNeg = _
      rw [un_app, g2, n4]
      have e2 : nI k + nI (un1 p) = nI (k + un1 p) := by
        show Int32.ofNat k + Int32.ofNat (un1 p) = Int32.ofNat (k + un1 p)
        rw [Int32.ofNat_add]
      rw [e2, nI_clamp (by omega)]
    have e3 : pen (nI ub) (wrtA W.1 [p] 100) = 0 := by
      unfold pen
      rw [ew]
      show (if mskL (updH g.2.2.2 100 _) &&& (nI ub ^^^ (-1)) = 0 then 0 else 5) = 0
      rw [mskL_map, updH_f, ← mskL_map, if_pos g4]
    rw [e1, e3]
    rcases a4 w with ⟨b1, b2, b3⟩ | ⟨b1, g', q1, q2, q3⟩
    · -- the HEAD stays
      have e4 : hu A = k := by
        unfold hu
        rw [b2] at g1
        rw [g1]
        show (unsA g.2.1).toNatClampNeg = k
        rw [g2, nI_clamp (by omega)]
      omega
    · -- a new HEAD
      rw [q1] at g1
      cases g1
      have ek : k = 1 := by
        rw [q2] at g2
        exact (nI_inj (a := 1) (b := k) (by omega) (by omega) g2).symm
      have ge : 5 ≤ hu A + pen (nI ub) A := by
        unfold hu pen
        cases eh : hdG A with
        | none => exact Nat.le_refl _
        | some z =>
          obtain ⟨kz, z1, z2⟩ := L.2.2.2 z eh
          show 5 ≤ (unsA z.2.1).toNatClampNeg + (if mskL z.2.2.2 &&& (nI ub ^^^ (-1)) = 0 then 0 else 5)
          by_cases w2 : mskL z.2.2.2 &&& (nI ub ^^^ (-1)) = 0
          · rw [if_pos w2, z2, nI_clamp (by omega)]
            have nb : ¬ hdB U (nI ub) (kU (pKd p)) A = true := b1
            unfold hdB at nb
            rw [eh] at nb
            have nb : ¬ (decide (mskL z.2.2.2 &&& (nI ub ^^^ (-1)) = 0) && decide (unsA z.2.1 + kU (pKd p) ≤ nI U)) = true := nb
            rw [decide_eq_true w2, Bool.true_and, decide_eq_true_eq, z2, n1] at nb
            have e2 : nI kz + nI (un1 p) = nI (kz + un1 p) := by
              show Int32.ofNat kz + Int32.ofNat (un1 p) = Int32.ofNat (kz + un1 p)
              rw [Int32.ofNat_add]
            rw [e2, nI_le_iff (by omega) (by omega)] at nb
            omega
          · rw [if_neg w2]; omega
      have := a2.2.1
      omega
theorem fm_len {f : Nat → List pT} : ∀ n, ((List.range n).flatMap f).length = ((List.range n).map (fun j => (f j).length)).sum := by
  intro n
  induction n with
  | zero => rfl
  | succ n ih =>
    rw [List.range_succ, List.flatMap_append, List.length_append, List.map_append, List.sum_append, ih]
    simp
theorem unN_app (a b : List pT) : unN (a ++ b) = unN a + unN b := by
  unfold unN
  rw [List.map_append, List.sum_append]
theorem unN_le2 : ∀ (l : List pT), unN l ≤ 2 * l.length := by
  intro l
  induction l with
  | nil => exact Nat.le_refl _
  | cons a l ih =>
    unfold unN at ih ⊢
    rw [List.map_cons, List.sum_cons, List.length_cons]
    have := (un1_k (p := a)).2.2.1
    omega
theorem unN_1 : ∀ (l : List pT), (∀ p ∈ l, ¬ pKd p = 2) → unN l = l.length := by
  intro l
  induction l with
  | nil => intro _; rfl
  | cons a l ih =>
    intro h
    have := ih (fun p hp => h p (List.mem_cons_of_mem _ hp))
    unfold unN at this ⊢
    rw [List.map_cons, List.sum_cons, List.length_cons, this]
    unfold un1
    rw [if_neg (h a List.mem_cons_self)]
    omega
theorem rng_le {f g : Nat → Nat} : ∀ n, (∀ j, j < n → f j ≤ g j) → ((List.range n).map f).sum ≤ ((List.range n).map g).sum := by
  intro n h
  exact sum_le _ (fun j hj => h j (List.mem_range.mp hj))
theorem rng_c (q : Nat → Bool) : ∀ n, ((List.range n).map (fun j => if q j = true then 1 else 0)).sum = (List.range n).countP q := by
  intro n
  induction n with
  | zero => rfl
  | succ n ih =>
    rw [List.range_succ, List.map_append, List.sum_append, List.countP_append, ih, List.map_cons, List.map_nil, List.sum_cons, List.sum_nil, List.countP_cons, List.countP_nil]
    omega
theorem rng_k {v : Nat} : ∀ n, ((List.range n).map (fun _ => v)).sum = v * n := by
  intro n
  induction n with
  | zero => rfl
  | succ n ih =>
    rw [List.range_succ, List.map_append, List.sum_append, ih, List.map_cons, List.map_nil, List.sum_cons, List.sum_nil, Nat.mul_succ]
    omega
/-- what moves has no more UNITS than this -/
theorem mv_un (di : DI D) (lp : LPx cl B D) (l40 : cl40 cl) (ht : t < 8) : unN (movA (psA (rdP up D)) A t) ≤ 22 + Rt cl t := by
  have sub := (rd_sub (A := D) (up := up)).subset
  unfold movA
  rw [unN_app, unN_app]
  have e1 : unN (mvN (psA (rdP up D)) A 6) ≤ 6 := by
    rw [unN_1 _ (fun p hp => by
      obtain ⟨c, a, c1, rfl⟩ := mvN_in hp
      exact (show ¬ (1 : Int32) = 2 by decide))]
    unfold mvN
    rw [fm_len]
    refine Nat.le_trans (rng_le (g := fun _ => 1) 6 (fun j _ => ?_)) (by rw [rng_k]; omega)
    split
    · exact Nat.zero_le _
    · exact Nat.le_refl _
  have e2 : unN (mvO (psA (rdP up D)) t 8) ≤ 16 := by
    refine Nat.le_trans (unN_le2 _) ?_
    have : (mvO (psA (rdP up D)) t 8).length ≤ 8 := by
      unfold mvO
      rw [fm_len]
      refine Nat.le_trans (rng_le (g := fun _ => 1) 8 (fun j _ => ?_)) (by rw [rng_k]; omega)
      cases (psA (rdP up D)).2.2.1 (t * 8 + j) with
      | none => exact Nat.zero_le _
      | some _ => exact Nat.le_refl _
    omega
  have e3 : unN (mvR (psA (rdP up D)) t 240) ≤ Rt cl t := by
    rw [unN_1 _ (fun p hp => by
      unfold mvR at hp
      obtain ⟨c, c1, c2⟩ := List.mem_flatMap.mp hp
      obtain ⟨-, h2, -⟩ := ps_rM di (List.mem_range.mp c1) (mvR_in c2).1
      rw [h2]; decide)]
    unfold mvR Rt
    rw [fm_len, ← rng_c]
    refine rng_le 240 (fun j hj => ?_)
    by_cases w : mvRf (psA (rdP up D)) t j = []
    · rw [w]; exact Nat.zero_le _
    · obtain ⟨p, hp⟩ := List.exists_mem_of_ne_nil _ w
      obtain ⟨q1, q2, q3⟩ := mvR_in hp
      rw [q3]
      obtain ⟨h1, h2, h3, h4⟩ := ps_rM di hj q1
      obtain ⟨-, c, n, c1, c2, c3, c4, c5, c6⟩ := (lp.1 p (sub h1)).2.2.2.2 h2
      have l := l40 c c1
      have e1 := nI_inj (a := j / 40) (b := c) (by omega) (by omega) (h3.symm.trans c4)
      have e2 := nI_inj (a := j % 40 + 1) (b := n) (by omega) (by omega) (h4.symm.trans c5)
      rw [if_pos]
      · exact Nat.le_refl _
      · unfold Rj
        rw [Bool.and_eq_true, decide_eq_true_eq, decide_eq_true_eq, e1, show j % 40 = n - 1 from by omega]
        exact ⟨by omega, by rw [← c6]; exact q2⟩
  omega
end
