/-! LogCluster.requestOf -/
section REQ
variable {g : gcT} {P : pmT} {h : hpT} {a : Nat}
/-- the clients: their row, each with its rows and its count -/
def clsV (h : hpT) (a cr : Nat) (cs : List (Nat × Nat × Nat × Nat)) : Prop := hK h a = 13 ∧ hR h 770 a = some cr ∧ hK h cr = 23 ∧ hN h cr = 6 ∧ cs.length = 6 ∧ ∀ i (hi : i < cs.length), hB h cr i = some cs[i].1 ∧ clV h cs[i].1 cs[i].2.1 cs[i].2.2.1 cs[i].2.2.2
theorem m_requestOf {cr : Nat} {cs : List (Nat × Nat × Nat × Nat)} {x y : Int32} (k : clsV h a cr cs) : EvA g P 94 [va_rf (some a), .int x, .int y] h (fun h' r => h' = h ∧ ((inF x 6 = 0 ∧ r = none) ∨ ∃ i, ∃ hi : i < cs.length, x = nI i ∧ ((inF (y - 1) (nI cs[i].2.2.2) = 0 ∧ r = none) ∨ ∃ n, 1 ≤ n ∧ n ≤ cs[i].2.2.2 ∧ y = nI n ∧ r = hB h cs[i].2.1 (n - 1)) ∨ (y < 1 ∧ r = none))) := by
  obtain ⟨k1, k2, k3, k4, k5, k6⟩ := k
  refine e_94 (s_94_0 (hc := m_isClient) (kk := fun h' v ⟨e1, e2⟩ => ?_))
  subst e1; subst e2
  refine s_94_4 (kt := fun z => s_94_25 ⟨_, rfl, rfl, Or.inl ⟨z, rfl⟩⟩) (kf := fun z => ?_)
  obtain ⟨i, hi6, ei⟩ := inF_1 (n := 6) (by decide) z
  have hi : i < cs.length := by omega
  have ec : x.toNatClampNeg = i := by rw [ei]; exact nI_clamp (by omega)
  obtain ⟨c1, c2⟩ := k6 i hi
  obtain ⟨d1, d2, d3, d4, d5, d6, d7, d8, d9⟩ := c2
  have hb : hB h' cr x.toNatClampNeg = some cs[i].1 := by rw [ec]; exact c1
  have hv : vinD x (hN h' cr) := by rw [k4, ei]; exact vin_nI hi6 (by decide)
  refine s_94_7 (kt := fun z1 => s_94_25 ⟨_, rfl, rfl, Or.inr ⟨i, hi, Or.inr ⟨z1, rfl⟩⟩⟩) (kf := fun z1 => ?_)
  refine s_94_12 (k3 := k1) (e5 := k2) (k6 := k3) (i7 := hv) (e9 := hb) (k10 := d1) (kt := fun z2 => ?_) (kf := fun z2 => s_94_25 ⟨_, rfl, rfl, Or.inr ⟨i, hi, Or.inl ⟨ei, Or.inl ⟨?_, rfl⟩⟩⟩⟩)
  · rw [d8] at z2
    have h0 : ¬ y < 0 := fun q => z1 (Int32.lt_trans q (by decide))
    have h1 : ¬ nI (cs[i].2.2.2 + 1) ≤ y := fun q => by
      have : nI cs[i].2.2.2 < nI (cs[i].2.2.2 + 1) := nI_lt (by omega) (by omega)
      exact absurd (Int32.lt_of_lt_of_le this q) (Int32.not_lt.mpr z2)
    obtain ⟨n, hn, en, -⟩ := pk_mu h0 h1 (by omega)
    have hn1 : 1 ≤ n := by
      rcases Nat.eq_zero_or_pos n with q | q
      · rw [en, q, nI_0] at z1; exact absurd (by decide) z1
      · exact q
    have em : y - 1 = nI (n - 1) := by
      have := nI_1 (n - 1)
      rw [show n - 1 + 1 = n from by omega] at this
      rw [en, ← this, Int32.add_sub_cancel]
    refine s_94_27 (k3 := k1) (e5 := k2) (k6 := k3) (i7 := hv) (e9 := hb) (k10 := d1) (e12 := d2) (k13 := d4) (i14 := by rw [em, d5]; exact vin_nI (by omega) (by decide)) (hq := ⟨_, rfl, rfl, Or.inr ⟨i, hi, Or.inl ⟨ei, Or.inr ⟨n, hn1, by omega, en, ?_⟩⟩⟩⟩)
    rw [em, nI_clamp (by omega)]
  · rw [d8] at z2
    unfold inF
    by_cases q : y - 1 < 0
    · rw [if_pos q]
    · rw [if_neg q, if_pos]
      refine Decidable.byContradiction (fun q2 => ?_)
      obtain ⟨j, hj, ej, ej1, -⟩ := pk_mu q q2 (by omega)
      rw [Int32.sub_add_cancel] at ej1
      rw [ej1] at z2
      exact z2 (nI_le (by omega) (by omega))
end REQ
