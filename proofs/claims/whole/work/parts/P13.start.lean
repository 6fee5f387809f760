-- the law's start: both made, and the loop's room
section
variable {g : gcT} {P : pmT} {h h' : hpT} {y ad : Nat → Nat} {K out c0 m0 : Nat} {x : Int32}
theorem near_N {lo hi : Nat} (hl : lo ≤ hi) (hh : hi < 2 ^ 31) (x : Int32) : ∃ N, lo ≤ N ∧ N ≤ hi ∧ nearF x (nI lo) (nI hi) = nI N := by
  unfold nearF
  by_cases q1 : x < nI hi
  · rw [if_pos q1]
    by_cases q2 : nI lo < x
    · rw [if_pos q2]
      have h0 : (0 : Int32) ≤ x := by
        have : (0 : Int32) ≤ nI lo := by
          rw [show (0 : Int32) = nI 0 from rfl]
          exact (nI_le_iff (by omega) (by omega)).mpr (Nat.zero_le _)
        exact Int32.le_trans this (Int32.le_of_lt q2)
      have e := nI_back h0
      have hb : x.toNatClampNeg < 2 ^ 31 := by
        have := Int32.toInt_lt x
        show x.toInt.toNat < _
        omega
      rw [e] at q1 q2
      refine ⟨x.toNatClampNeg, (nI_le_iff (by omega) hb).mp (Int32.le_of_lt q2), (nI_le_iff hb (by omega)).mp (Int32.le_of_lt q1), e⟩
    · rw [if_neg q2]
      exact ⟨lo, Nat.le_refl _, hl, rfl⟩
  · rw [if_neg q1]
    by_cases q2 : nI lo < nI hi
    · rw [if_pos q2]
      exact ⟨hi, hl, Nat.le_refl _, rfl⟩
    · rw [if_neg q2]
      exact ⟨lo, Nat.le_refl _, hl, rfl⟩
theorem near_ne {lo hi : Int32} (hl : lo ≤ hi) : neM x lo hi = nearF x lo hi := by
  unfold neM nearF
  rw [Int32.le_iff_toInt_le] at hl
  by_cases q1 : x < hi
  · rw [if_pos q1]
    by_cases q2 : lo < x
    · rw [if_pos q2, if_neg (fun z => z (Int32.le_of_lt q2)), if_neg (fun z => z (Int32.le_of_lt q1))]
    · rw [if_neg q2]
      by_cases q3 : lo ≤ x
      · have : lo = x := by
          rw [Int32.lt_iff_toInt_lt] at q2
          rw [Int32.le_iff_toInt_le] at q3
          exact Int32.toInt_inj.mp (by omega)
        rw [if_neg (fun z => z q3), if_neg (fun z => z (Int32.le_of_lt q1)), this]
      · rw [if_pos q3]
  · rw [if_neg q1]
    rw [Int32.lt_iff_toInt_lt] at q1
    have q3 : lo ≤ x := by
      rw [Int32.le_iff_toInt_le]; omega
    rw [if_neg (fun z => z q3)]
    by_cases q2 : lo < hi
    · rw [if_pos q2]
      by_cases q4 : x ≤ hi
      · rw [if_neg (fun z => z q4)]
        rw [Int32.le_iff_toInt_le] at q4
        exact Int32.toInt_inj.mp (by omega)
      · rw [if_pos q4]
    · rw [if_neg q2]
      rw [Int32.lt_iff_toInt_lt] at q2
      have e : lo = hi := Int32.toInt_inj.mp (by omega)
      subst e
      by_cases q4 : x ≤ lo
      · rw [if_neg (fun z => z q4)]
        rw [Int32.le_iff_toInt_le] at q4
        exact Int32.toInt_inj.mp (by omega)
      · rw [if_pos q4]
def celI (g : gcT) (x : Int32) : Int32 := if nI g.2.1 ≤ x then 0 else g.2.2.1 x.toNatClampNeg
theorem m_204 (hk : hK h g.1 = 0) (hl : g.2.1 ≤ 3076) {i : Nat} (hi : i < 4) (e : x = nI i) : EvI g P 204 [va_rf (some g.1), .int x] h (fun h' r => h' = h ∧ r = celI g x) := by
  unfold celI
  refine e_204 (s_204_0 (e1 := rfl) (k2 := hk) (kt := fun z => s_204_12 (s_204_13 ⟨_, rfl, rfl, (if_pos z).symm⟩)) (kf := fun z => s_204_6 (s_204_8 (e1 := rfl) (k2 := by rw [hk]; decide) (i3 := ?_) (kk := s_204_13 ⟨_, rfl, rfl, (if_neg z).symm⟩))))
  subst e
  have : i < g.2.1 := by
    rcases Nat.lt_or_ge i g.2.1 with q | q
    · exact q
    · exact absurd ((nI_le_iff (by omega) (by omega)).mpr q) z
  exact vin_nI this (by omega)
theorem fx_le : fxC g h y ≤ 174200 := by
  unfold fxC
  omega
theorem kA_v : kA ≤ 58 := by decide
theorem kB_v : kB ≤ 97 := by decide
theorem kO_v (hy : yOK y) : kmO y ≤ 97 := by
  unfold kmO
  have e : nf 8 + nf 6 + 8 ≤ 33 := by decide
  obtain ⟨⟨-, a⟩, -, ⟨-, b⟩, -⟩ := hy
  omega
theorem kC_v (hy : yOK y) : kmC y ≤ 500 := by
  unfold kmC
  have := kO_v hy
  have e : (2 * nf 6 + (nf 4 + nf 0 + 40 + nf 1) + (nf 4 + nf 0 + 40) + nf 1) + nf 5 ≤ 300 := by decide
  omega
theorem mul_97 {a b c d n k : Nat} (ha : a ≤ 58) (hb : b ≤ 97) (hc : c ≤ 97) (hd : d ≤ 500) (f s q x K : Nat) (hf : f ≤ s) (hK : K ≤ 512) (hbd : 6 * q + 18 * s + 6 * x ≤ 245000) : a * f + a * s + b * q + c * x + d * K ≤ 4216834 := by
  have h1 := Nat.mul_le_mul ha hf
  have h2 := Nat.mul_le_mul_right s ha
  have h3 := Nat.mul_le_mul_right q hb
  have h4 := Nat.mul_le_mul_right x hc
  have h5 := Nat.mul_le_mul hd hK
  omega
theorem LV.end (lv : LV g h y ad out K c0 m0) (hk : K ≤ 512) : hC h ≤ c0 + 565252 ∧ hM h ≤ m0 + 4913634 := by
  obtain ⟨o, w, R, R2, ss, Ls, Ds, cs, F, μ, κ, lv⟩ := lv
  obtain ⟨fr, cf, px, hl⟩ := lv.2.1
  have hy := fr.1.1.1
  obtain ⟨b1, b2⟩ := px.bnd hy (by omega)
  obtain ⟨-, -, -, -, cc, cm⟩ := lv
  have fx := fx_le (g := g) (h := h) (y := y)
  constructor
  · unfold csC at cc
    omega
  · have := mul_97 (n := 0) (k := 0) kA_v (kO_v hy) kB_v (kC_v hy) (tFo (fSt F)) (tDs (fSt F)) (tNm (fSt F)) κ K b2 hk b1
    unfold csM at cm
    omega
end
