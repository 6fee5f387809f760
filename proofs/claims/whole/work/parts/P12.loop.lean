-- the law's loop
theorem s6_lt {n m : Nat} (hn : n ≤ 3076) (hm : m ≤ 4000) : nI n - 6 < nI m ↔ n < m + 6 := by
  by_cases h : 6 ≤ n
  · rw [show (6 : Int32) = nI 6 from rfl, nI_sb h, Int32.lt_iff_le_and_ne]
    constructor
    · rintro ⟨a, b⟩
      have := (nI_le_iff (by omega) (by omega)).mp a
      have : ¬ n - 6 = m := fun z => b (by rw [z])
      omega
    · intro a
      exact ⟨(nI_le_iff (by omega) (by omega)).mpr (by omega), fun z => by have := nI_inj (by omega) (by omega) z; omega⟩
  · have h0 : ∀ n, n < 6 → nI n - 6 < 0 := by decide +kernel
    refine ⟨fun _ => by omega, fun _ => ?_⟩
    have h1 := h0 n (by omega)
    have h2 : (0 : Int32) ≤ nI m := by
      rw [show (0 : Int32) = nI 0 from rfl]
      exact (nI_le_iff (by omega) (by omega)).mpr (Nat.zero_le _)
    exact Int32.lt_of_lt_of_le h1 h2
section
variable {g : gcT} {P : pmT} {y ad : Nat → Nat} {out c0 m0 : Nat}
theorem loop_7 (hP5 : P 205 = msg5 g) (hP6 : P 206 = cpyO) (hl : g.2.1 ≤ 3076) : ∀ d i K h o5 o6, LV g h y ad out K c0 m0 → K ≤ i → (i = 0 ∨ 4 + 6 * i ≤ g.2.1) → d + i = 513 → Ev g P 207 63 [some (va_rf (some g.1)), some (va_rf (some (y 9))), some (va_rf (some (y 12))), some (va_rf (some out)), some (.int (nI (4 + 6 * i))), o5, o6] [] h (fun h' r => r = some (.int 1) ∧ ∃ K', K' ≤ 512 ∧ LV g h' y ad out K' c0 m0) := by
  intro d
  induction d with
  | zero => intro i K h o5 o6 lv hk hi hd; omega
  | succ d ih =>
    intro i K h o5 o6 lv hk hi hd
    have g0 : hK h g.1 = 0 := by
      obtain ⟨o, w, R, R2, ss, Ls, Ds, cs, F, μ, κ, lv⟩ := lv
      exact lv.1.1.1.2.1.1
    refine s_207_63 (e1 := rfl) (k2 := g0) (kt := fun _ => s_207_895 ⟨rfl, K, by omega, lv⟩) (kf := fun z => ?_)
    have hb : 4 + 6 * i + 6 ≤ g.2.1 := by
      rcases Nat.lt_or_ge g.2.1 (4 + 6 * i + 6) with q | q
      · exact absurd ((s6_lt hl (by omega)).mpr q) z
      · exact q
    have vv : ∀ j, j < 6 → vinD (nI (4 + 6 * i) + nI j) g.2.1 := fun j hj => by
      rw [nI_ad]; exact vin_nI (by omega) (by omega)
    have v0 : vinD (nI (4 + 6 * i)) g.2.1 := vin_nI (by omega) (by omega)
    have v1 : vinD (nI (4 + 6 * i) + 1) g.2.1 := vv 1 (by omega)
    have v2 : vinD (nI (4 + 6 * i) + 2) g.2.1 := vv 2 (by omega)
    have v3 : vinD (nI (4 + 6 * i) + 3) g.2.1 := vv 3 (by omega)
    have v4 : vinD (nI (4 + 6 * i) + 4) g.2.1 := vv 4 (by omega)
    have v5 : vinD (nI (4 + 6 * i) + 5) g.2.1 := vv 5 (by omega)
    have nx : ∀ K' h2 o5 o6, K' ≤ i + 1 → LV g h2 y ad out K' c0 m0 → Ev g P 207 889 [some (va_rf (some g.1)), some (va_rf (some (y 9))), some (va_rf (some (y 12))), some (va_rf (some out)), some (.int (nI (4 + 6 * i))), o5, o6] [] h2 (fun h' r => r = some (.int 1) ∧ ∃ K', K' ≤ 512 ∧ LV g h' y ad out K' c0 m0) := fun K' h2 o5 o6 hK' lv2 => by
      refine s_207_889 ?_
      have e : nI (4 + 6 * i) + 6 = nI (4 + 6 * (i + 1)) := by
        rw [show (6 : Int32) = nI 6 from rfl, nI_ad, show 4 + 6 * i + 6 = 4 + 6 * (i + 1) by omega]
      rw [e]
      exact ih (i + 1) K' h2 o5 o6 lv2 hK' (Or.inr (by omega)) (by omega)
    have kk := fun h2 o5 o6 lv2 => nx (K + 1) h2 o5 o6 (by omega) lv2
    have hk : K ≤ 515 := by omega
    refine s_207_73 (s_207_76 (e1 := rfl) (k2 := by rw [g0]; decide) (i3 := v0) (k1000 := fun _ => lc_send lv hk v1 v2 v3 v4 v5 kk) (k1001 := fun _ => lc_again lv hk v1 v2 v3 v4 v5 kk) (k1002 := fun _ => lc_deliver hP6 lv hk v1 v2 v3 v4 v5 kk) (k1003 := fun _ => lc_drop lv hk v1 v2 v3 v4 v5 kk) (k1004 := fun _ => lc_twice lv hk v1 v2 v3 v4 v5 kk) (k1005 := fun _ => lc_msg hP5 lv hk v1 v2 kk) (k1006 := fun _ => lc_got lv hk v1 v2 v3 v4 v5 kk) (k1007 := fun _ => lc_acked lv hk v1 v2 v3 v4 v5 kk) (k1008 := fun _ => lc_crash lv hk v1 v2 v3 v4 v5 kk) (k1009 := fun _ => lc_restart lv hk v1 v2 v3 v4 v5 kk) (k1010 := fun _ => lc_sleep lv hk v1 v2 v3 v4 v5 kk) (k1011 := fun _ => lc_wake lv hk v1 v2 v3 v4 v5 kk) (k1012 := fun _ => lc_cut lv hk v1 v2 v3 v4 v5 kk) (k1013 := fun _ => lc_coord lv hk v1 v2 kk) (k1014 := fun _ => lc_tick hP6 lv hk v1 v2 v3 v4 v5 kk) (k1015 := fun _ => lc_owner lv hk v1 v2 v3 v4 v5 kk) (k1016 := fun _ => lc_server lv hk v1 v2 v3 v4 v5 kk) (k1017 := fun _ => lc_segment lv hk v1 v2 v3 v4 v5 kk) (k1018 := fun _ => lc_peek lv hk v1 v2 v3 v4 v5 kk) (k1019 := fun _ => lc_count lv hk v1 v2 v3 v4 v5 kk) (kd := fun _ => nx K h o5 o6 (by omega) lv))
end
