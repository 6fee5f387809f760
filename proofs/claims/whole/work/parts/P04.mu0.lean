-- the start: both sides' first state
def sv0 (N i : Nat) : srA := (0, 0, 0, tbI N i 8, 0, -1, 0, ([], none, none), none)
def S00 (y : Nat → Nat) : stA := ((List.range (y 20)).map (sv0 (y 20)), (0, 0, 0, 0, 0), (List.range 8).map (fun t => nI (t % y 20)), [], 0, 0)
def F00 (y : Nat → Nat) : fcT := (S00 y, List.replicate 6 cl0, fun _ => none, 0, 0)
section
variable {y : Nat → Nat} {N i k t n r : Nat} {μ : mT}
theorem uR_v {v : Int32} {r0 k0 : Nat} : (uR μ r0 k0 v).2.1 r k = if r = r0 ∧ k = k0 then v else μ.2.1 r k := rfl
theorem mc1_f (h1 : 1 ≤ N) (h8 : N ≤ 8) : ∀ n, n ≤ 8 → ((List.range n).foldl (mc1 N) μ).1 = μ.1 ∧ ((List.range n).foldl (mc1 N) μ).2.2 = μ.2.2 ∧ ∀ r k, ((List.range n).foldl (mc1 N) μ).2.1 r k = if r = 7 ∧ k < 64 ∧ k % 8 < n ∧ (k % 8) % N = k / 8 then 1 else if r = 13 ∧ k < n then nI (k % N) else μ.2.1 r k := by
  intro n
  induction n with
  | zero =>
    intro _
    refine ⟨rfl, rfl, fun r k => ?_⟩
    rw [if_neg (by omega), if_neg (by omega)]
    rfl
  | succ n ih =>
    intro hn
    obtain ⟨i1, i2, i3⟩ := ih (by omega)
    rw [rfl_s]
    generalize (List.range n).foldl (mc1 N) μ = ν at i1 i2 i3
    refine ⟨i1, i2, fun r k => ?_⟩
    show (uR (uR ν 13 n (nI (n % N))) 7 (8 * (n % N) + n) 1).2.1 r k = _
    rw [uR_v, uR_v, i3]
    have hq : n % N < 8 := Nat.lt_of_lt_of_le (Nat.mod_lt _ (by omega)) h8
    by_cases q1 : r = 7 ∧ k = 8 * (n % N) + n
    · have e1 : k % 8 = n := by omega
      have e2 : k / 8 = n % N := by omega
      rw [if_pos q1, if_pos ⟨q1.1, by omega, by omega, by rw [e1, e2]⟩]
    · rw [if_neg q1]
      by_cases q2 : r = 13 ∧ k = n
      · rw [if_pos q2, if_neg (by omega), if_pos (by omega), q2.2]
      · rw [if_neg q2]
        by_cases q3 : r = 7 ∧ k < 64 ∧ k % 8 < n ∧ (k % 8) % N = k / 8
        · rw [if_pos q3, if_pos ⟨q3.1, q3.2.1, by omega, q3.2.2.2⟩]
        · rw [if_neg q3]
          have q4 : ¬ (r = 7 ∧ k < 64 ∧ k % 8 < n + 1 ∧ (k % 8) % N = k / 8) := fun z => by
            rcases Nat.lt_or_ge (k % 8) n with w | w
            · exact q3 ⟨z.1, z.2.1, w, z.2.2.2⟩
            · have e1 : k % 8 = n := by omega
              rw [e1] at z
              exact q1 ⟨z.1, by omega⟩
          rw [if_neg q4]
          by_cases q5 : r = 13 ∧ k < n
          · rw [if_pos q5, if_pos ⟨q5.1, by omega⟩]
          · rw [if_neg q5, if_neg (fun z => by omega)]
theorem mc2_f : ∀ n, ((List.range n).foldl mc2 μ).1 = μ.1 ∧ ((List.range n).foldl mc2 μ).2.2 = μ.2.2 ∧ ∀ r k, ((List.range n).foldl mc2 μ).2.1 r k = if (r = 10 ∨ r = 12) ∧ k < n then -1 else μ.2.1 r k := by
  intro n
  induction n with
  | zero =>
    refine ⟨rfl, rfl, fun r k => ?_⟩
    rw [if_neg (by omega)]
    rfl
  | succ n ih =>
    obtain ⟨i1, i2, i3⟩ := ih
    rw [rfl_s]
    generalize (List.range n).foldl mc2 μ = ν at i1 i2 i3
    refine ⟨i1, i2, fun r k => ?_⟩
    show (uR (uR ν 10 n (-1)) 12 n (-1)).2.1 r k = _
    rw [uR_v, uR_v, i3]
    by_cases q1 : r = 12 ∧ k = n
    · rw [if_pos q1, if_pos (by omega)]
    · rw [if_neg q1]
      by_cases q2 : r = 10 ∧ k = n
      · rw [if_pos q2, if_pos (by omega)]
      · rw [if_neg q2]
        by_cases q3 : (r = 10 ∨ r = 12) ∧ k < n
        · rw [if_pos q3, if_pos (by omega)]
        · rw [if_neg q3, if_neg (by omega)]
theorem mc4_f : ∀ n, ((List.range n).foldl mc4 μ).1 = μ.1 ∧ ((List.range n).foldl mc4 μ).2.2 = μ.2.2 ∧ ∀ r k, ((List.range n).foldl mc4 μ).2.1 r k = if r = 48 ∧ k < n then -1 else μ.2.1 r k := by
  intro n
  induction n with
  | zero =>
    refine ⟨rfl, rfl, fun r k => ?_⟩
    rw [if_neg (by omega)]
    rfl
  | succ n ih =>
    obtain ⟨i1, i2, i3⟩ := ih
    rw [rfl_s]
    generalize (List.range n).foldl mc4 μ = ν at i1 i2 i3
    refine ⟨i1, i2, fun r k => ?_⟩
    show (uR ν 48 n (-1)).2.1 r k = _
    rw [uR_v, i3]
    by_cases q1 : r = 48 ∧ k = n
    · rw [if_pos q1, if_pos (by omega)]
    · rw [if_neg q1]
      by_cases q3 : r = 48 ∧ k < n
      · rw [if_pos q3, if_pos (by omega)]
      · rw [if_neg q3, if_neg (by omega)]
theorem mu0_f (h1 : 1 ≤ y 20) (h8 : y 20 ≤ 8) : (mu0 y).1 = [] ∧ (mu0 y).2.2 = (muP y).2.2 ∧ ∀ r k, (mu0 y).2.1 r k = if r = 48 ∧ k < 40 then -1 else if (r = 10 ∨ r = 12) ∧ k < 8 then -1 else if r = 7 ∧ k < 64 ∧ k % 8 < 8 ∧ (k % 8) % y 20 = k / 8 then 1 else if r = 13 ∧ k < 8 then nI (k % y 20) else 0 := by
  have a := mc1_f (N := y 20) (μ := muP y) h1 h8 8 (Nat.le_refl _)
  have b := mc2_f (μ := (List.range 8).foldl (mc1 (y 20)) (muP y)) 8
  have c := mc4_f (μ := (List.range 8).foldl mc2 ((List.range 8).foldl (mc1 (y 20)) (muP y))) 40
  unfold mu0
  generalize (List.range 8).foldl (mc1 (y 20)) (muP y) = ν1 at a b c ⊢
  generalize (List.range 8).foldl mc2 ν1 = ν2 at b c ⊢
  generalize (List.range 40).foldl mc4 ν2 = ν3 at c ⊢
  refine ⟨c.1.trans (b.1.trans a.1), c.2.1.trans (b.2.1.trans a.2.1), fun r k => ?_⟩
  rw [c.2.2, b.2.2, a.2.2]
  rfl
theorem s0_sv (hi : i < y 20) : (tSv (S00 y)).getD i sr0 = sv0 (y 20) i := by
  show ((List.range (y 20)).map (sv0 (y 20))).getD i sr0 = _
  rw [List.getD_eq_getElem?_getD, List.getElem?_map, List.getElem?_range hi]; rfl
theorem s0_ow (ht : t < 8) : (tOw (S00 y)).getD t 0 = nI (t % y 20) := by
  show ((List.range 8).map (fun t => nI (t % y 20))).getD t 0 = _
  rw [List.getD_eq_getElem?_getD, List.getElem?_map, List.getElem?_range ht]; rfl
theorem tb_bit : ∀ N, N < 9 → 4 ≤ N → ∀ k, k < N → ∀ t, t < 8 → shrB (tbI N k 8) (nI t) = if t % N = k then 1 else 0 := by decide +kernel
theorem tb_nI : ∀ N, N < 9 → 4 ≤ N → ∀ k, k < N → tbI N k 8 = nI ((List.range 8).foldl (fun u t => if t % N = k then u ||| 2 ^ t else u) 0) ∧ (List.range 8).foldl (fun u t => if t % N = k then u ||| 2 ^ t else u) 0 < 256 := by decide +kernel
theorem cl_6 (c : Nat) : (List.replicate 6 cl0).getD c cl0 = cl0 := by
  rw [List.getD_eq_getElem?_getD, List.getElem?_replicate]
  split <;> rfl
theorem cx_0 (hy : yOK y) : CX y (fCl (F00 y)) (nI 0) (S00 y) := by
  obtain ⟨⟨y1, y2⟩, yr⟩ := hy
  refine ⟨⟨by show ((List.range (y 20)).map _).length = _; rw [List.length_map, List.length_range], by show ((List.range 8).map _).length = _; rw [List.length_map, List.length_range], Nat.zero_le _⟩, fun t ht => Or.inr ⟨t % y 20, Nat.mod_lt _ (by omega), s0_ow ht⟩, fun i hi => ?_, (fun d hd => by cases hd), List.Pairwise.nil⟩
  rw [s0_sv hi]
  obtain ⟨t1, t2⟩ := tb_nI (y 20) (by omega) y1 i hi
  refine ⟨⟨Or.inl rfl, Or.inl rfl, Or.inl rfl, ⟨fun _ => rfl, fun _ => rfl⟩, Or.inl rfl⟩, ⟨_, t2, t1⟩, ⟨Int32.le_refl _, Int32.le_refl _⟩, ⟨LgO.e, LOx.e⟩, fun _ t ht hb => ?_, fun z => absurd rfl z, fun z => absurd rfl z, (fun D z => by cases z)⟩
  have hb : shrB (tbI (y 20) i 8) (nI t) = 1 := hb
  rw [tb_bit (y 20) (by omega) y1 i hi t ht] at hb
  rw [s0_ow ht]
  by_cases q : t % y 20 = i
  · rw [q]
  · rw [if_neg q] at hb; exact absurd hb (by decide)
theorem cf_0 (hy : yOK y) : CF y (F00 y) 0 := by
  refine ⟨cx_0 hy, (fun d hd => by cases hd), fun c hc n hn => ?_, fun c hc n hn => ?_, (fun p x v h => by cases h)⟩
  · have hn : n < ((List.replicate 6 cl0).getD c cl0).1.length := hn
    rw [cl_6] at hn
    exact absurd hn (Nat.not_lt_zero _)
  · show ((List.replicate 6 cl0).getD c cl0).2 n = none
    rw [cl_6]; rfl
theorem sn_0 : sN (List.replicate 6 cl0) = 0 := sm_z 240 (fun j _ => by
  rw [cl_6]
  exact if_neg (Nat.not_lt_zero _))
theorem px_0 (hy : yOK y) : PX y (F00 y) 0 0 := by
  obtain ⟨⟨y1, y2⟩, yr⟩ := hy
  have es : sN (fCl (F00 y)) = 0 := sn_0
  refine ⟨⟨fun i hi => ?_, (fun d hd => by cases hd)⟩, ⟨0, by rw [es], ?_⟩, ?_⟩
  · show 2 * sL2 ((tSv (S00 y)).getD i sr0) ≤ _
    rw [s0_sv hi]
    exact Nat.zero_le _
  · have v : VV (fCl (F00 y)) (fSt (F00 y)) = 0 := sm_z 8 (fun t ht => by
      unfold vT
      have hm : t % y 20 < y 20 := Nat.mod_lt _ (by omega)
      show (if (tOw (S00 y)).getD t 0 = -1 then _ else if bdF (flg ((tSv (S00 y)).getD ((tOw (S00 y)).getD t 0).toNatClampNeg sr0)) = true then _ else 0) = 0
      rw [s0_ow ht, if_neg (nIx_m1 (by omega)), nI_clamp (by omega), s0_sv hm]
      rfl)
    rw [v]
    show 6 * 0 + 18 * 0 + 6 * 0 + 2 * 0 ≤ _
    omega
  · show 0 + nF y (S00 y) ≤ 0
    have : nF y (S00 y) = 0 := sm_z _ (fun k hk => by rw [s0_sv hk]; rfl)
    omega
theorem mr_0 (hy : yOK y) : MR y (S00 y) (mu0 y) := by
  have y1 := hy.1.1
  have y2 := hy.1.2
  obtain ⟨m1, m2, m3⟩ := mu0_f (y := y) (by omega) y2
  have lg : ∀ x, LgR (mu0 y).1 x ([], none, none) := fun x => by
    rw [m1]
    exact ⟨List.Perm.refl _, List.Pairwise.nil, Or.inl ⟨rfl, (fun s hs => by cases hs)⟩⟩
  refine ⟨⟨hy, by rw [m2]; rfl, by rw [m2]; rfl, by rw [m2]; rfl, by rw [m2]; rfl⟩, ⟨by show ((List.range (y 20)).map _).length = _; rw [List.length_map, List.length_range], by show ((List.range 8).map _).length = _; rw [List.length_map, List.length_range], Nat.zero_le _, Nat.zero_le _⟩, ⟨by rw [m2]; rfl, by rw [m2]; rfl, by rw [m2]; rfl, by rw [m2]; rfl, by rw [m2]; rfl, by rw [m2]; rfl, by rw [m2]; rfl, by rw [m2]; rfl⟩, fun t ht => ?_, fun i hi => ?_, (fun j hj => absurd hj (Nat.not_lt_zero _)), (fun j k hj => absurd hj (Nat.not_lt_zero _)), by rw [m1]; exact (fun s hs => by cases hs), by rw [m1]; exact (fun s hs => by cases hs)⟩
  · rw [m3, if_neg (by omega), if_neg (by omega), if_neg (by omega), if_pos ⟨rfl, ht⟩, s0_ow ht]
  · rw [s0_sv hi]
    have z : ∀ r, r = 5 ∨ r = 6 ∨ r = 8 ∨ r = 9 ∨ r = 11 → (mu0 y).2.1 r i = 0 := fun r hr => by
      rw [m3, if_neg (by omega), if_neg (by omega), if_neg (by omega), if_neg (by omega)]
    refine ⟨⟨z 5 (by omega), z 6 (by omega), z 8 (by omega), z 9 (by omega), z 11 (by omega), ?_⟩, fun t ht => ?_, Or.inl ⟨rfl, ?_⟩, lg _, lg _⟩
    · rw [m3, if_neg (by omega), if_pos (by omega)]; rfl
    · rw [m3, if_neg (by omega), if_neg (by omega)]
      show _ = shrB (tbI (y 20) i 8) (nI t)
      rw [tb_bit (y 20) (by omega) y1 i hi t ht]
      by_cases q : t % y 20 = i
      · rw [if_pos q, if_pos ⟨rfl, by omega, by omega, by rw [show (8 * i + t) % 8 = t by omega, show (8 * i + t) / 8 = i by omega]; exact q⟩]
      · rw [if_neg q, if_neg (fun w => q (by
          have := w.2.2.2
          rw [show (8 * i + t) % 8 = t by omega, show (8 * i + t) / 8 = i by omega] at this
          exact this)), if_neg (by omega)]
    · rw [m3, if_neg (by omega), if_pos (by omega)]
theorem fr_0 (hy : yOK y) : FR y (F00 y) (mu0 y) := by
  have y1 := hy.1.1
  have y2 := hy.1.2
  obtain ⟨m1, m2, m3⟩ := mu0_f (y := y) (by omega) y2
  refine ⟨mr_0 hy, ⟨rfl, fun c hc => ?_⟩, fun p hp => Or.inl ⟨?_, rfl⟩, by rw [m2]; rfl, by rw [m2]; rfl⟩
  · show CqR _ c ((List.replicate 6 cl0).getD c cl0)
    rw [cl_6]
    refine ⟨⟨?_, Nat.zero_le _⟩, (fun n hn => absurd hn (Nat.not_lt_zero _)), fun n hn => Or.inl ⟨?_, rfl⟩⟩
    · rw [m3, if_neg (by omega), if_neg (by omega), if_neg (by omega), if_neg (by omega)]; rfl
    · rw [m3, if_neg (by omega), if_neg (by omega), if_neg (by omega), if_neg (by omega)]
  · rw [m3, if_pos ⟨rfl, hp⟩]
end
