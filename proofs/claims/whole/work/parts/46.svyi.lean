/-! a new Survey -/
section INIT
variable {g : gcT} {P : pmT} {h : hpT}
theorem m_survey (w : hWF h) {s : Nat} (k : hK h s = 12) : EvV g P 56 [va_rf (some s)] h (fun h' => svA h' s (hS h, hS h + 1, hS h + 2, hS h + 3, hS h + 4) ∧ Ch (fun a => a = s) 5 380 h h' ∧ hS h' = hS h + 5) := by
  have hs : s < hS h := w.lt (by omega)
  refine e_56 (s_56_0 (kk := s_56_4 (kk := ?_)))
  show Ev g P 56 9 _ [va_rf (some (hS h)), _] (hpW h 0 6) _
  obtain ⟨d1, v1, u1, w1, x1, y1, i1⟩ := mkR_sp (f := 704) (t := 0) (n := 6) w hs
  refine s_56_9 (k3 := by rw [(hK_W hs).1]; exact k) (kk := ?_)
  show Ev g P 56 17 _ [va_rf (some (hS (mkR h s 704 0 6))), _] (hpW (mkR h s 704 0 6) 1 6) _
  have k1 : hK (mkR h s 704 0 6) s = 12 := by rw [(d1.2.1 s hs).1]; exact k
  generalize mkR h s 704 0 6 = H1 at d1 v1 u1 w1 x1 y1 i1 k1 ⊢
  have hs1 : s < hS H1 := by omega
  obtain ⟨d2, v2, u2, w2, x2, y2, i2⟩ := mkR_sp (f := 705) (t := 1) (n := 6) d1.2.2.1 hs1
  refine s_56_17 (k3 := by rw [(hK_W hs1).1]; exact k1) (kk := ?_)
  show Ev g P 56 25 _ [va_rf (some (hS (mkR H1 s 705 1 6))), _] (hpW (mkR H1 s 705 1 6) 0 64) _
  have k2 : hK (mkR H1 s 705 1 6) s = 12 := by rw [(d2.2.1 s hs1).1]; exact k1
  generalize mkR H1 s 705 1 6 = H2 at d2 v2 u2 w2 x2 y2 i2 k2 ⊢
  have hs2 : s < hS H2 := by omega
  obtain ⟨d3, v3, u3, w3, x3, y3, i3⟩ := mkR_sp (f := 706) (t := 0) (n := 64) d2.2.2.1 hs2
  refine s_56_25 (k3 := by rw [(hK_W hs2).1]; exact k2) (kk := ?_)
  show Ev g P 56 34 _ [va_rf (some (hS (mkR H2 s 706 0 64))), _] (hpW (mkR H2 s 706 0 64) 5 64) _
  have k3 : hK (mkR H2 s 706 0 64) s = 12 := by rw [(d3.2.1 s hs2).1]; exact k2
  generalize mkR H2 s 706 0 64 = H3 at d3 v3 u3 w3 x3 y3 i3 k3 ⊢
  have hs3 : s < hS H3 := by omega
  obtain ⟨d4, v4, u4, w4, x4, y4, i4⟩ := mkR_sp (f := 707) (t := 5) (n := 64) d3.2.2.1 hs3
  refine s_56_34 (k3 := by rw [(hK_W hs3).1]; exact k3) (kk := ?_)
  show Ev g P 56 44 _ [va_rf (some (hS (mkR H3 s 707 5 64))), _] (hpW (mkR H3 s 707 5 64) 5 240) _
  have k4 : hK (mkR H3 s 707 5 64) s = 12 := by rw [(d4.2.1 s hs3).1]; exact k3
  generalize mkR H3 s 707 5 64 = H4 at d4 v4 u4 w4 x4 y4 i4 k4 ⊢
  have hs4 : s < hS H4 := by omega
  obtain ⟨d5, v5, u5, w5, x5, y5, i5⟩ := mkR_sp (f := 708) (t := 5) (n := 240) d4.2.2.1 hs4
  refine s_56_44 (k3 := by rw [(hK_W hs4).1]; exact k4) (hq := ⟨rfl, ?_⟩)
  show (fun h' => svA h' s (hS h, hS h + 1, hS h + 2, hS h + 3, hS h + 4) ∧ Ch (fun a => a = s) 5 380 h h' ∧ hS h' = hS h + 5) (mkR H4 s 708 5 240)
  have k5 : hK (mkR H4 s 708 5 240) s = 12 := by rw [(d5.2.1 s hs4).1]; exact k4
  generalize mkR H4 s 708 5 240 = H5 at d5 v5 u5 w5 x5 y5 i5 k5 ⊢
  have e2 : hS H1 = hS h + 1 := by omega
  have e3 : hS H2 = hS h + 2 := by omega
  have e4 : hS H3 = hS h + 3 := by omega
  have e5 : hS H4 = hS h + 4 := by omega
  have t5 := d5.2.1
  have t45 : ∀ a, a < hS H3 → hK H5 a = hK H3 a ∧ hN H5 a = hN H3 a := fun a ha => ⟨(t5 a (by omega)).1.trans (d4.2.1 a ha).1, (t5 a (by omega)).2.trans (d4.2.1 a ha).2⟩
  have t345 : ∀ a, a < hS H2 → hK H5 a = hK H2 a ∧ hN H5 a = hN H2 a := fun a ha => ⟨(t45 a (by omega)).1.trans (d3.2.1 a ha).1, (t45 a (by omega)).2.trans (d3.2.1 a ha).2⟩
  have t2345 : ∀ a, a < hS H1 → hK H5 a = hK H1 a ∧ hN H5 a = hN H1 a := fun a ha => ⟨(t345 a (by omega)).1.trans (d2.2.1 a ha).1, (t345 a (by omega)).2.trans (d2.2.1 a ha).2⟩
  rw [e2] at u2 w2 x2
  rw [e3] at u3 w3 x3
  rw [e4] at u4 w4 x4
  rw [e5] at u5 w5 x5
  refine ⟨⟨k5, ?_, ?_, ?_, ?_, x5, ?_, ?_, ?_, ?_, ⟨u5, w5⟩, ?_, ?_⟩, ?_, by omega⟩
  · rw [y5 704 (by decide), y4 704 (by decide), y3 704 (by decide), y2 704 (by decide)]; exact x1
  · rw [y5 705 (by decide), y4 705 (by decide), y3 705 (by decide)]; exact x2
  · rw [y5 706 (by decide), y4 706 (by decide)]; exact x3
  · rw [y5 707 (by decide)]; exact x4
  · show hK H5 (hS h) = 20 ∧ hN H5 (hS h) = 6
    rw [(t2345 _ (by omega)).1, (t2345 _ (by omega)).2]; exact ⟨u1, w1⟩
  · show hK H5 (hS h + 1) = 21 ∧ hN H5 (hS h + 1) = 6
    rw [(t345 _ (by omega)).1, (t345 _ (by omega)).2]; exact ⟨u2, w2⟩
  · show hK H5 (hS h + 2) = 20 ∧ hN H5 (hS h + 2) = 64
    rw [(t45 _ (by omega)).1, (t45 _ (by omega)).2]; exact ⟨u3, w3⟩
  · show hK H5 (hS h + 3) = 25 ∧ hN H5 (hS h + 3) = 64
    rw [(t5 _ (by omega)).1, (t5 _ (by omega)).2]; exact ⟨u4, w4⟩
  · show ¬ hS h = hS h + 2
    omega
  · show ¬ hS h + 3 = hS h + 4
    omega
  · exact (d1.tr (d2.tr (d3.tr (d4.tr d5)))).mono (fun a _ q => by rcases q with q | q | q | q | q <;> exact q) (by omega) (by omega)
end INIT
