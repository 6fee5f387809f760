/-! the model: its constructor -/
def rwL : List Nat := [5, 6, 7, 8, 9, 10, 11, 12, 13, 24, 25, 26, 27, 28, 29, 30, 31, 33, 34, 35, 36, 37, 38, 39, 40, 41, 42, 43, 44, 45, 46, 47, 48, 49, 50, 51, 52, 53, 54, 55, 57, 58]
def CM (h0 : hpT) (a : Nat) (l : List Nat) (h : hpT) : Prop := (hS h = hS h0 + l.length ∧ hK h a = 14 ∧ hI h = hI h0) ∧ (∀ j, j < l.length → hK h (hS h0 + j) = kdM (l.getD j 0) ∧ hN h (hS h0 + j) = lnM (l.getD j 0) ∧ (∀ i, hA h (hS h0 + j) i = 0) ∧ hR h (832 + l.getD j 0) a = some (hS h0 + j)) ∧ Ch (fun b => b = a) l.length (l.map lnM).sum h0 h
section MC
variable {g : gcT} {P : pmT} {h h0 h' h1 h2 : hpT} {y ad : Nat → Nat} {a i j k m n r t : Nat} {x x1 x2 x3 x4 : Int32} {μ : mT} {l : List Nat} {Q : hpT → Option Value → Prop}
theorem CM.lt14 (c : CM h0 a l h) (hk : hK h0 a = 14) (w0 : hWF h0) : a < hS h := Nat.lt_of_lt_of_le (w0.lt (by omega)) (by have := c.1.1; omega)
theorem CM.k14 (c : CM h0 a l h) (hk : hK h0 a = 14) (w0 : hWF h0) : hK (hpW h t n) a = 14 := by rw [(hK_W (c.lt14 hk w0)).1]; exact c.1.2.1
theorem CM.stp (c : CM h0 a l h) (hk : hK h0 a = 14) (w0 : hWF h0) (hl : ∀ j, j < l.length → ¬ l.getD j 0 = r) (ek : kdM r = 20 + t) (en : lnM r = n) : CM h0 a (l ++ [r]) (mkR h a (832 + r) t n) := by
  have ha := c.lt14 hk w0
  have ha0 := w0.lt (a := a) (by omega)
  obtain ⟨⟨c1, c2, c3⟩, c4, c5⟩ := c
  obtain ⟨d1, d2, d3, d4, d5, d6, d7⟩ := mkR_sp (f := 832 + r) (t := t) (n := n) c5.2.2.1 ha
  have wf := c5.2.2.1
  refine ⟨⟨by rw [d2, c1, List.length_append]; rfl, by rw [(d1.2.1 a ha).1]; exact c2, d7.trans c3⟩, fun j hj => ?_, ?_⟩
  · rw [List.length_append, List.length_singleton] at hj
    by_cases q : j < l.length
    · have el : (l ++ [r]).getD j 0 = l.getD j 0 := by rw [List.getD_eq_getElem?_getD, List.getD_eq_getElem?_getD, List.getElem?_append_left q]
      obtain ⟨e1, e2, e3, e4⟩ := c4 j q
      rw [el]
      obtain ⟨f1, f2, f3, f4⟩ := d1.1.2 (hS h0 + j) (by omega) (by omega)
      exact ⟨f1.trans e1, f3.trans e2, fun i => (f4 i).1.trans (e3 i), by rw [d6 _ (fun z => hl j q (by omega))]; exact e4⟩
    · have qe : j = l.length := by omega
      subst qe
      have el : (l ++ [r]).getD l.length 0 = r := by rw [List.getD_eq_getElem?_getD, List.getElem?_append_right (Nat.le_refl _), Nat.sub_self]; rfl
      rw [el, ← c1]
      exact ⟨by rw [d3, ek], by rw [d4, en], fun i => (wf (hS h) (Nat.le_refl _)).2.2 i |>.1, d5⟩
  · refine (c5.tr d1).mono (fun b _ q => by rcases q with q | q <;> exact q) (by rw [List.length_append]; exact Nat.le_refl _) (by rw [List.map_append, List.sum_append]; show _ ≤ _ + (lnM r + 0); omega)
theorem m_cons1 {o5 : Option Value} (w0 : hWF h) (hk : hK h a = 14) (kk : ∀ h1, CM h a (rwL.dropLast) h1 → Ev g P 102 353 [some (va_rf (some a)), some (.int x1), some (.int x2), some (.int x3), some (.int x4), o5] [va_rf (some (hS h1)), va_rf (some a)] (hpW h1 1 128) Q) : Ev g P 102 0 [some (va_rf (some a)), some (.int x1), some (.int x2), some (.int x3), some (.int x4), o5] [] h Q := by
  have c0 : CM h a [] h := ⟨⟨rfl, hk, rfl⟩, fun j hj => absurd hj (Nat.not_lt_zero _), Ch.rf w0 _⟩
  refine s_102_0 (e2 := rfl) (kk := s_102_4 (kk := ?_))
  show Ev g P 102 9 _ [va_rf (some (hS h)), _] (hpW h 0 8) _
  refine s_102_9 (e2 := rfl) (k3 := c0.k14 hk w0) (kk := ?_)
  show Ev g P 102 17 _ [va_rf (some (hS (mkR h a (832 + 5) 0 8))), _] (hpW (mkR h a (832 + 5) 0 8) 1 8) _
  have c1 := c0.stp (r := 5) (t := 0) (n := 8) hk w0 (by decide) (by decide) (by decide)
  rw [show ([] : List Nat) ++ [5] = [5] from rfl] at c1
  generalize mkR h a (832 + 5) 0 8 = H1 at c1 ⊢
  clear c0
  refine s_102_17 (e2 := rfl) (k3 := c1.k14 hk w0) (kk := ?_)
  show Ev g P 102 25 _ [va_rf (some (hS (mkR H1 a (832 + 6) 1 8))), _] (hpW (mkR H1 a (832 + 6) 1 8) 1 64) _
  have c2 := c1.stp (r := 6) (t := 1) (n := 8) hk w0 (by decide) (by decide) (by decide)
  rw [show [5] ++ [6] = [5, 6] from rfl] at c2
  generalize mkR H1 a (832 + 6) 1 8 = H2 at c2 ⊢
  clear c1
  refine s_102_25 (e2 := rfl) (k3 := c2.k14 hk w0) (kk := ?_)
  show Ev g P 102 33 _ [va_rf (some (hS (mkR H2 a (832 + 7) 1 64))), _] (hpW (mkR H2 a (832 + 7) 1 64) 1 8) _
  have c3 := c2.stp (r := 7) (t := 1) (n := 64) hk w0 (by decide) (by decide) (by decide)
  rw [show [5, 6] ++ [7] = [5, 6, 7] from rfl] at c3
  generalize mkR H2 a (832 + 7) 1 64 = H3 at c3 ⊢
  clear c2
  refine s_102_33 (e2 := rfl) (k3 := c3.k14 hk w0) (kk := ?_)
  show Ev g P 102 41 _ [va_rf (some (hS (mkR H3 a (832 + 8) 1 8))), _] (hpW (mkR H3 a (832 + 8) 1 8) 0 8) _
  have c4 := c3.stp (r := 8) (t := 1) (n := 8) hk w0 (by decide) (by decide) (by decide)
  rw [show [5, 6, 7] ++ [8] = [5, 6, 7, 8] from rfl] at c4
  generalize mkR H3 a (832 + 8) 1 8 = H4 at c4 ⊢
  clear c3
  refine s_102_41 (e2 := rfl) (k3 := c4.k14 hk w0) (kk := ?_)
  show Ev g P 102 49 _ [va_rf (some (hS (mkR H4 a (832 + 9) 0 8))), _] (hpW (mkR H4 a (832 + 9) 0 8) 0 8) _
  have c5 := c4.stp (r := 9) (t := 0) (n := 8) hk w0 (by decide) (by decide) (by decide)
  rw [show [5, 6, 7, 8] ++ [9] = [5, 6, 7, 8, 9] from rfl] at c5
  generalize mkR H4 a (832 + 9) 0 8 = H5 at c5 ⊢
  clear c4
  refine s_102_49 (e2 := rfl) (k3 := c5.k14 hk w0) (kk := ?_)
  show Ev g P 102 57 _ [va_rf (some (hS (mkR H5 a (832 + 10) 0 8))), _] (hpW (mkR H5 a (832 + 10) 0 8) 0 8) _
  have c6 := c5.stp (r := 10) (t := 0) (n := 8) hk w0 (by decide) (by decide) (by decide)
  rw [show [5, 6, 7, 8, 9] ++ [10] = [5, 6, 7, 8, 9, 10] from rfl] at c6
  generalize mkR H5 a (832 + 10) 0 8 = H6 at c6 ⊢
  clear c5
  refine s_102_57 (e2 := rfl) (k3 := c6.k14 hk w0) (kk := ?_)
  show Ev g P 102 65 _ [va_rf (some (hS (mkR H6 a (832 + 11) 0 8))), _] (hpW (mkR H6 a (832 + 11) 0 8) 0 8) _
  have c7 := c6.stp (r := 11) (t := 0) (n := 8) hk w0 (by decide) (by decide) (by decide)
  rw [show [5, 6, 7, 8, 9, 10] ++ [11] = [5, 6, 7, 8, 9, 10, 11] from rfl] at c7
  generalize mkR H6 a (832 + 11) 0 8 = H7 at c7 ⊢
  clear c6
  refine s_102_65 (e2 := rfl) (k3 := c7.k14 hk w0) (kk := ?_)
  show Ev g P 102 73 _ [va_rf (some (hS (mkR H7 a (832 + 12) 0 8))), _] (hpW (mkR H7 a (832 + 12) 0 8) 0 8) _
  have c8 := c7.stp (r := 12) (t := 0) (n := 8) hk w0 (by decide) (by decide) (by decide)
  rw [show [5, 6, 7, 8, 9, 10, 11] ++ [12] = [5, 6, 7, 8, 9, 10, 11, 12] from rfl] at c8
  generalize mkR H7 a (832 + 12) 0 8 = H8 at c8 ⊢
  clear c7
  refine s_102_73 (e2 := rfl) (k3 := c8.k14 hk w0) (kk := ?_)
  show Ev g P 102 82 _ [va_rf (some (hS (mkR H8 a (832 + 13) 0 8))), _] (hpW (mkR H8 a (832 + 13) 0 8) 0 6000) _
  have c9 := c8.stp (r := 13) (t := 0) (n := 8) hk w0 (by decide) (by decide) (by decide)
  rw [show [5, 6, 7, 8, 9, 10, 11, 12] ++ [13] = [5, 6, 7, 8, 9, 10, 11, 12, 13] from rfl] at c9
  generalize mkR H8 a (832 + 13) 0 8 = H9 at c9 ⊢
  clear c8
  refine s_102_82 (e2 := rfl) (k3 := c9.k14 hk w0) (kk := ?_)
  show Ev g P 102 91 _ [va_rf (some (hS (mkR H9 a (832 + 24) 0 6000))), _] (hpW (mkR H9 a (832 + 24) 0 6000) 0 6000) _
  have c10 := c9.stp (r := 24) (t := 0) (n := 6000) hk w0 (by decide) (by decide) (by decide)
  rw [show [5, 6, 7, 8, 9, 10, 11, 12, 13] ++ [24] = [5, 6, 7, 8, 9, 10, 11, 12, 13, 24] from rfl] at c10
  generalize mkR H9 a (832 + 24) 0 6000 = H10 at c10 ⊢
  clear c9
  refine s_102_91 (e2 := rfl) (k3 := c10.k14 hk w0) (kk := ?_)
  show Ev g P 102 100 _ [va_rf (some (hS (mkR H10 a (832 + 25) 0 6000))), _] (hpW (mkR H10 a (832 + 25) 0 6000) 1 6000) _
  have c11 := c10.stp (r := 25) (t := 0) (n := 6000) hk w0 (by decide) (by decide) (by decide)
  rw [show [5, 6, 7, 8, 9, 10, 11, 12, 13, 24] ++ [25] = [5, 6, 7, 8, 9, 10, 11, 12, 13, 24, 25] from rfl] at c11
  generalize mkR H10 a (832 + 25) 0 6000 = H11 at c11 ⊢
  clear c10
  refine s_102_100 (e2 := rfl) (k3 := c11.k14 hk w0) (kk := ?_)
  show Ev g P 102 109 _ [va_rf (some (hS (mkR H11 a (832 + 26) 1 6000))), _] (hpW (mkR H11 a (832 + 26) 1 6000) 0 6000) _
  have c12 := c11.stp (r := 26) (t := 1) (n := 6000) hk w0 (by decide) (by decide) (by decide)
  rw [show [5, 6, 7, 8, 9, 10, 11, 12, 13, 24, 25] ++ [26] = [5, 6, 7, 8, 9, 10, 11, 12, 13, 24, 25, 26] from rfl] at c12
  generalize mkR H11 a (832 + 26) 1 6000 = H12 at c12 ⊢
  clear c11
  refine s_102_109 (e2 := rfl) (k3 := c12.k14 hk w0) (kk := ?_)
  show Ev g P 102 117 _ [va_rf (some (hS (mkR H12 a (832 + 27) 0 6000))), _] (hpW (mkR H12 a (832 + 27) 0 6000) 0 1728000) _
  have c13 := c12.stp (r := 27) (t := 0) (n := 6000) hk w0 (by decide) (by decide) (by decide)
  rw [show [5, 6, 7, 8, 9, 10, 11, 12, 13, 24, 25, 26] ++ [27] = [5, 6, 7, 8, 9, 10, 11, 12, 13, 24, 25, 26, 27] from rfl] at c13
  generalize mkR H12 a (832 + 27) 0 6000 = H13 at c13 ⊢
  clear c12
  refine s_102_117 (e2 := rfl) (k3 := c13.k14 hk w0) (kk := ?_)
  show Ev g P 102 126 _ [va_rf (some (hS (mkR H13 a (832 + 28) 0 1728000))), _] (hpW (mkR H13 a (832 + 28) 0 1728000) 0 6000) _
  have c14 := c13.stp (r := 28) (t := 0) (n := 1728000) hk w0 (by decide) (by decide) (by decide)
  rw [show [5, 6, 7, 8, 9, 10, 11, 12, 13, 24, 25, 26, 27] ++ [28] = [5, 6, 7, 8, 9, 10, 11, 12, 13, 24, 25, 26, 27, 28] from rfl] at c14
  generalize mkR H13 a (832 + 28) 0 1728000 = H14 at c14 ⊢
  clear c13
  refine s_102_126 (e2 := rfl) (k3 := c14.k14 hk w0) (kk := ?_)
  show Ev g P 102 134 _ [va_rf (some (hS (mkR H14 a (832 + 29) 0 6000))), _] (hpW (mkR H14 a (832 + 29) 0 6000) 0 48000) _
  have c15 := c14.stp (r := 29) (t := 0) (n := 6000) hk w0 (by decide) (by decide) (by decide)
  rw [show [5, 6, 7, 8, 9, 10, 11, 12, 13, 24, 25, 26, 27, 28] ++ [29] = [5, 6, 7, 8, 9, 10, 11, 12, 13, 24, 25, 26, 27, 28, 29] from rfl] at c15
  generalize mkR H14 a (832 + 29) 0 6000 = H15 at c15 ⊢
  clear c14
  refine s_102_134 (e2 := rfl) (k3 := c15.k14 hk w0) (kk := ?_)
  show Ev g P 102 142 _ [va_rf (some (hS (mkR H15 a (832 + 30) 0 48000))), _] (hpW (mkR H15 a (832 + 30) 0 48000) 0 48000) _
  have c16 := c15.stp (r := 30) (t := 0) (n := 48000) hk w0 (by decide) (by decide) (by decide)
  rw [show [5, 6, 7, 8, 9, 10, 11, 12, 13, 24, 25, 26, 27, 28, 29] ++ [30] = [5, 6, 7, 8, 9, 10, 11, 12, 13, 24, 25, 26, 27, 28, 29, 30] from rfl] at c16
  generalize mkR H15 a (832 + 30) 0 48000 = H16 at c16 ⊢
  clear c15
  refine s_102_142 (e2 := rfl) (k3 := c16.k14 hk w0) (kk := ?_)
  show Ev g P 102 150 _ [va_rf (some (hS (mkR H16 a (832 + 31) 0 48000))), _] (hpW (mkR H16 a (832 + 31) 0 48000) 0 18) _
  have c17 := c16.stp (r := 31) (t := 0) (n := 48000) hk w0 (by decide) (by decide) (by decide)
  rw [show [5, 6, 7, 8, 9, 10, 11, 12, 13, 24, 25, 26, 27, 28, 29, 30] ++ [31] = [5, 6, 7, 8, 9, 10, 11, 12, 13, 24, 25, 26, 27, 28, 29, 30, 31] from rfl] at c17
  generalize mkR H16 a (832 + 31) 0 48000 = H17 at c17 ⊢
  clear c16
  refine s_102_150 (e2 := rfl) (k3 := c17.k14 hk w0) (kk := ?_)
  show Ev g P 102 159 _ [va_rf (some (hS (mkR H17 a (832 + 33) 0 18))), _] (hpW (mkR H17 a (832 + 33) 0 18) 0 6000) _
  have c18 := c17.stp (r := 33) (t := 0) (n := 18) hk w0 (by decide) (by decide) (by decide)
  rw [show [5, 6, 7, 8, 9, 10, 11, 12, 13, 24, 25, 26, 27, 28, 29, 30, 31] ++ [33] = [5, 6, 7, 8, 9, 10, 11, 12, 13, 24, 25, 26, 27, 28, 29, 30, 31, 33] from rfl] at c18
  generalize mkR H17 a (832 + 33) 0 18 = H18 at c18 ⊢
  clear c17
  refine s_102_159 (e2 := rfl) (k3 := c18.k14 hk w0) (kk := ?_)
  show Ev g P 102 168 _ [va_rf (some (hS (mkR H18 a (832 + 34) 0 6000))), _] (hpW (mkR H18 a (832 + 34) 0 6000) 0 6000) _
  have c19 := c18.stp (r := 34) (t := 0) (n := 6000) hk w0 (by decide) (by decide) (by decide)
  rw [show [5, 6, 7, 8, 9, 10, 11, 12, 13, 24, 25, 26, 27, 28, 29, 30, 31, 33] ++ [34] = [5, 6, 7, 8, 9, 10, 11, 12, 13, 24, 25, 26, 27, 28, 29, 30, 31, 33, 34] from rfl] at c19
  generalize mkR H18 a (832 + 34) 0 6000 = H19 at c19 ⊢
  clear c18
  refine s_102_168 (e2 := rfl) (k3 := c19.k14 hk w0) (kk := ?_)
  show Ev g P 102 176 _ [va_rf (some (hS (mkR H19 a (832 + 35) 0 6000))), _] (hpW (mkR H19 a (832 + 35) 0 6000) 1 192000) _
  have c20 := c19.stp (r := 35) (t := 0) (n := 6000) hk w0 (by decide) (by decide) (by decide)
  rw [show [5, 6, 7, 8, 9, 10, 11, 12, 13, 24, 25, 26, 27, 28, 29, 30, 31, 33, 34] ++ [35] = [5, 6, 7, 8, 9, 10, 11, 12, 13, 24, 25, 26, 27, 28, 29, 30, 31, 33, 34, 35] from rfl] at c20
  generalize mkR H19 a (832 + 35) 0 6000 = H20 at c20 ⊢
  clear c19
  refine s_102_176 (e2 := rfl) (k3 := c20.k14 hk w0) (kk := ?_)
  show Ev g P 102 184 _ [va_rf (some (hS (mkR H20 a (832 + 36) 1 192000))), _] (hpW (mkR H20 a (832 + 36) 1 192000) 0 18) _
  have c21 := c20.stp (r := 36) (t := 1) (n := 192000) hk w0 (by decide) (by decide) (by decide)
  rw [show [5, 6, 7, 8, 9, 10, 11, 12, 13, 24, 25, 26, 27, 28, 29, 30, 31, 33, 34, 35] ++ [36] = [5, 6, 7, 8, 9, 10, 11, 12, 13, 24, 25, 26, 27, 28, 29, 30, 31, 33, 34, 35, 36] from rfl] at c21
  generalize mkR H20 a (832 + 36) 1 192000 = H21 at c21 ⊢
  clear c20
  refine s_102_184 (e2 := rfl) (k3 := c21.k14 hk w0) (kk := ?_)
  show Ev g P 102 192 _ [va_rf (some (hS (mkR H21 a (832 + 37) 0 18))), _] (hpW (mkR H21 a (832 + 37) 0 18) 0 18) _
  have c22 := c21.stp (r := 37) (t := 0) (n := 18) hk w0 (by decide) (by decide) (by decide)
  rw [show [5, 6, 7, 8, 9, 10, 11, 12, 13, 24, 25, 26, 27, 28, 29, 30, 31, 33, 34, 35, 36] ++ [37] = [5, 6, 7, 8, 9, 10, 11, 12, 13, 24, 25, 26, 27, 28, 29, 30, 31, 33, 34, 35, 36, 37] from rfl] at c22
  generalize mkR H21 a (832 + 37) 0 18 = H22 at c22 ⊢
  clear c21
  refine s_102_192 (e2 := rfl) (k3 := c22.k14 hk w0) (kk := ?_)
  show Ev g P 102 200 _ [va_rf (some (hS (mkR H22 a (832 + 38) 0 18))), _] (hpW (mkR H22 a (832 + 38) 0 18) 0 6) _
  have c23 := c22.stp (r := 38) (t := 0) (n := 18) hk w0 (by decide) (by decide) (by decide)
  rw [show [5, 6, 7, 8, 9, 10, 11, 12, 13, 24, 25, 26, 27, 28, 29, 30, 31, 33, 34, 35, 36, 37] ++ [38] = [5, 6, 7, 8, 9, 10, 11, 12, 13, 24, 25, 26, 27, 28, 29, 30, 31, 33, 34, 35, 36, 37, 38] from rfl] at c23
  generalize mkR H22 a (832 + 38) 0 18 = H23 at c23 ⊢
  clear c22
  refine s_102_200 (e2 := rfl) (k3 := c23.k14 hk w0) (kk := ?_)
  show Ev g P 102 209 _ [va_rf (some (hS (mkR H23 a (832 + 39) 0 6))), _] (hpW (mkR H23 a (832 + 39) 0 6) 0 240) _
  have c24 := c23.stp (r := 39) (t := 0) (n := 6) hk w0 (by decide) (by decide) (by decide)
  rw [show [5, 6, 7, 8, 9, 10, 11, 12, 13, 24, 25, 26, 27, 28, 29, 30, 31, 33, 34, 35, 36, 37, 38] ++ [39] = [5, 6, 7, 8, 9, 10, 11, 12, 13, 24, 25, 26, 27, 28, 29, 30, 31, 33, 34, 35, 36, 37, 38, 39] from rfl] at c24
  generalize mkR H23 a (832 + 39) 0 6 = H24 at c24 ⊢
  clear c23
  refine s_102_209 (e2 := rfl) (k3 := c24.k14 hk w0) (kk := ?_)
  show Ev g P 102 218 _ [va_rf (some (hS (mkR H24 a (832 + 40) 0 240))), _] (hpW (mkR H24 a (832 + 40) 0 240) 0 240) _
  have c25 := c24.stp (r := 40) (t := 0) (n := 240) hk w0 (by decide) (by decide) (by decide)
  rw [show [5, 6, 7, 8, 9, 10, 11, 12, 13, 24, 25, 26, 27, 28, 29, 30, 31, 33, 34, 35, 36, 37, 38, 39] ++ [40] = [5, 6, 7, 8, 9, 10, 11, 12, 13, 24, 25, 26, 27, 28, 29, 30, 31, 33, 34, 35, 36, 37, 38, 39, 40] from rfl] at c25
  generalize mkR H24 a (832 + 40) 0 240 = H25 at c25 ⊢
  clear c24
  refine s_102_218 (e2 := rfl) (k3 := c25.k14 hk w0) (kk := ?_)
  show Ev g P 102 227 _ [va_rf (some (hS (mkR H25 a (832 + 41) 0 240))), _] (hpW (mkR H25 a (832 + 41) 0 240) 0 240) _
  have c26 := c25.stp (r := 41) (t := 0) (n := 240) hk w0 (by decide) (by decide) (by decide)
  rw [show [5, 6, 7, 8, 9, 10, 11, 12, 13, 24, 25, 26, 27, 28, 29, 30, 31, 33, 34, 35, 36, 37, 38, 39, 40] ++ [41] = [5, 6, 7, 8, 9, 10, 11, 12, 13, 24, 25, 26, 27, 28, 29, 30, 31, 33, 34, 35, 36, 37, 38, 39, 40, 41] from rfl] at c26
  generalize mkR H25 a (832 + 41) 0 240 = H26 at c26 ⊢
  clear c25
  refine s_102_227 (e2 := rfl) (k3 := c26.k14 hk w0) (kk := ?_)
  show Ev g P 102 236 _ [va_rf (some (hS (mkR H26 a (832 + 42) 0 240))), _] (hpW (mkR H26 a (832 + 42) 0 240) 0 240) _
  have c27 := c26.stp (r := 42) (t := 0) (n := 240) hk w0 (by decide) (by decide) (by decide)
  rw [show [5, 6, 7, 8, 9, 10, 11, 12, 13, 24, 25, 26, 27, 28, 29, 30, 31, 33, 34, 35, 36, 37, 38, 39, 40, 41] ++ [42] = [5, 6, 7, 8, 9, 10, 11, 12, 13, 24, 25, 26, 27, 28, 29, 30, 31, 33, 34, 35, 36, 37, 38, 39, 40, 41, 42] from rfl] at c27
  generalize mkR H26 a (832 + 42) 0 240 = H27 at c27 ⊢
  clear c26
  refine s_102_236 (e2 := rfl) (k3 := c27.k14 hk w0) (kk := ?_)
  show Ev g P 102 245 _ [va_rf (some (hS (mkR H27 a (832 + 43) 0 240))), _] (hpW (mkR H27 a (832 + 43) 0 240) 1 240) _
  have c28 := c27.stp (r := 43) (t := 0) (n := 240) hk w0 (by decide) (by decide) (by decide)
  rw [show [5, 6, 7, 8, 9, 10, 11, 12, 13, 24, 25, 26, 27, 28, 29, 30, 31, 33, 34, 35, 36, 37, 38, 39, 40, 41, 42] ++ [43] = [5, 6, 7, 8, 9, 10, 11, 12, 13, 24, 25, 26, 27, 28, 29, 30, 31, 33, 34, 35, 36, 37, 38, 39, 40, 41, 42, 43] from rfl] at c28
  generalize mkR H27 a (832 + 43) 0 240 = H28 at c28 ⊢
  clear c27
  refine s_102_245 (e2 := rfl) (k3 := c28.k14 hk w0) (kk := ?_)
  show Ev g P 102 254 _ [va_rf (some (hS (mkR H28 a (832 + 44) 1 240))), _] (hpW (mkR H28 a (832 + 44) 1 240) 0 240) _
  have c29 := c28.stp (r := 44) (t := 1) (n := 240) hk w0 (by decide) (by decide) (by decide)
  rw [show [5, 6, 7, 8, 9, 10, 11, 12, 13, 24, 25, 26, 27, 28, 29, 30, 31, 33, 34, 35, 36, 37, 38, 39, 40, 41, 42, 43] ++ [44] = [5, 6, 7, 8, 9, 10, 11, 12, 13, 24, 25, 26, 27, 28, 29, 30, 31, 33, 34, 35, 36, 37, 38, 39, 40, 41, 42, 43, 44] from rfl] at c29
  generalize mkR H28 a (832 + 44) 1 240 = H29 at c29 ⊢
  clear c28
  refine s_102_254 (e2 := rfl) (k3 := c29.k14 hk w0) (kk := ?_)
  show Ev g P 102 263 _ [va_rf (some (hS (mkR H29 a (832 + 45) 0 240))), _] (hpW (mkR H29 a (832 + 45) 0 240) 0 240) _
  have c30 := c29.stp (r := 45) (t := 0) (n := 240) hk w0 (by decide) (by decide) (by decide)
  rw [show [5, 6, 7, 8, 9, 10, 11, 12, 13, 24, 25, 26, 27, 28, 29, 30, 31, 33, 34, 35, 36, 37, 38, 39, 40, 41, 42, 43, 44] ++ [45] = [5, 6, 7, 8, 9, 10, 11, 12, 13, 24, 25, 26, 27, 28, 29, 30, 31, 33, 34, 35, 36, 37, 38, 39, 40, 41, 42, 43, 44, 45] from rfl] at c30
  generalize mkR H29 a (832 + 45) 0 240 = H30 at c30 ⊢
  clear c29
  refine s_102_263 (e2 := rfl) (k3 := c30.k14 hk w0) (kk := ?_)
  show Ev g P 102 272 _ [va_rf (some (hS (mkR H30 a (832 + 46) 0 240))), _] (hpW (mkR H30 a (832 + 46) 0 240) 0 240) _
  have c31 := c30.stp (r := 46) (t := 0) (n := 240) hk w0 (by decide) (by decide) (by decide)
  rw [show [5, 6, 7, 8, 9, 10, 11, 12, 13, 24, 25, 26, 27, 28, 29, 30, 31, 33, 34, 35, 36, 37, 38, 39, 40, 41, 42, 43, 44, 45] ++ [46] = [5, 6, 7, 8, 9, 10, 11, 12, 13, 24, 25, 26, 27, 28, 29, 30, 31, 33, 34, 35, 36, 37, 38, 39, 40, 41, 42, 43, 44, 45, 46] from rfl] at c31
  generalize mkR H30 a (832 + 46) 0 240 = H31 at c31 ⊢
  clear c30
  refine s_102_272 (e2 := rfl) (k3 := c31.k14 hk w0) (kk := ?_)
  show Ev g P 102 280 _ [va_rf (some (hS (mkR H31 a (832 + 47) 0 240))), _] (hpW (mkR H31 a (832 + 47) 0 240) 0 40) _
  have c32 := c31.stp (r := 47) (t := 0) (n := 240) hk w0 (by decide) (by decide) (by decide)
  rw [show [5, 6, 7, 8, 9, 10, 11, 12, 13, 24, 25, 26, 27, 28, 29, 30, 31, 33, 34, 35, 36, 37, 38, 39, 40, 41, 42, 43, 44, 45, 46] ++ [47] = [5, 6, 7, 8, 9, 10, 11, 12, 13, 24, 25, 26, 27, 28, 29, 30, 31, 33, 34, 35, 36, 37, 38, 39, 40, 41, 42, 43, 44, 45, 46, 47] from rfl] at c32
  generalize mkR H31 a (832 + 47) 0 240 = H32 at c32 ⊢
  clear c31
  refine s_102_280 (e2 := rfl) (k3 := c32.k14 hk w0) (kk := ?_)
  show Ev g P 102 288 _ [va_rf (some (hS (mkR H32 a (832 + 48) 0 40))), _] (hpW (mkR H32 a (832 + 48) 0 40) 0 40) _
  have c33 := c32.stp (r := 48) (t := 0) (n := 40) hk w0 (by decide) (by decide) (by decide)
  rw [show [5, 6, 7, 8, 9, 10, 11, 12, 13, 24, 25, 26, 27, 28, 29, 30, 31, 33, 34, 35, 36, 37, 38, 39, 40, 41, 42, 43, 44, 45, 46, 47] ++ [48] = [5, 6, 7, 8, 9, 10, 11, 12, 13, 24, 25, 26, 27, 28, 29, 30, 31, 33, 34, 35, 36, 37, 38, 39, 40, 41, 42, 43, 44, 45, 46, 47, 48] from rfl] at c33
  generalize mkR H32 a (832 + 48) 0 40 = H33 at c33 ⊢
  clear c32
  refine s_102_288 (e2 := rfl) (k3 := c33.k14 hk w0) (kk := ?_)
  show Ev g P 102 296 _ [va_rf (some (hS (mkR H33 a (832 + 49) 0 40))), _] (hpW (mkR H33 a (832 + 49) 0 40) 0 40) _
  have c34 := c33.stp (r := 49) (t := 0) (n := 40) hk w0 (by decide) (by decide) (by decide)
  rw [show [5, 6, 7, 8, 9, 10, 11, 12, 13, 24, 25, 26, 27, 28, 29, 30, 31, 33, 34, 35, 36, 37, 38, 39, 40, 41, 42, 43, 44, 45, 46, 47, 48] ++ [49] = [5, 6, 7, 8, 9, 10, 11, 12, 13, 24, 25, 26, 27, 28, 29, 30, 31, 33, 34, 35, 36, 37, 38, 39, 40, 41, 42, 43, 44, 45, 46, 47, 48, 49] from rfl] at c34
  generalize mkR H33 a (832 + 49) 0 40 = H34 at c34 ⊢
  clear c33
  refine s_102_296 (e2 := rfl) (k3 := c34.k14 hk w0) (kk := ?_)
  show Ev g P 102 304 _ [va_rf (some (hS (mkR H34 a (832 + 50) 0 40))), _] (hpW (mkR H34 a (832 + 50) 0 40) 0 40) _
  have c35 := c34.stp (r := 50) (t := 0) (n := 40) hk w0 (by decide) (by decide) (by decide)
  rw [show [5, 6, 7, 8, 9, 10, 11, 12, 13, 24, 25, 26, 27, 28, 29, 30, 31, 33, 34, 35, 36, 37, 38, 39, 40, 41, 42, 43, 44, 45, 46, 47, 48, 49] ++ [50] = [5, 6, 7, 8, 9, 10, 11, 12, 13, 24, 25, 26, 27, 28, 29, 30, 31, 33, 34, 35, 36, 37, 38, 39, 40, 41, 42, 43, 44, 45, 46, 47, 48, 49, 50] from rfl] at c35
  generalize mkR H34 a (832 + 50) 0 40 = H35 at c35 ⊢
  clear c34
  refine s_102_304 (e2 := rfl) (k3 := c35.k14 hk w0) (kk := ?_)
  show Ev g P 102 312 _ [va_rf (some (hS (mkR H35 a (832 + 51) 0 40))), _] (hpW (mkR H35 a (832 + 51) 0 40) 0 40) _
  have c36 := c35.stp (r := 51) (t := 0) (n := 40) hk w0 (by decide) (by decide) (by decide)
  rw [show [5, 6, 7, 8, 9, 10, 11, 12, 13, 24, 25, 26, 27, 28, 29, 30, 31, 33, 34, 35, 36, 37, 38, 39, 40, 41, 42, 43, 44, 45, 46, 47, 48, 49, 50] ++ [51] = [5, 6, 7, 8, 9, 10, 11, 12, 13, 24, 25, 26, 27, 28, 29, 30, 31, 33, 34, 35, 36, 37, 38, 39, 40, 41, 42, 43, 44, 45, 46, 47, 48, 49, 50, 51] from rfl] at c36
  generalize mkR H35 a (832 + 51) 0 40 = H36 at c36 ⊢
  clear c35
  refine s_102_312 (e2 := rfl) (k3 := c36.k14 hk w0) (kk := ?_)
  show Ev g P 102 320 _ [va_rf (some (hS (mkR H36 a (832 + 52) 0 40))), _] (hpW (mkR H36 a (832 + 52) 0 40) 0 40) _
  have c37 := c36.stp (r := 52) (t := 0) (n := 40) hk w0 (by decide) (by decide) (by decide)
  rw [show [5, 6, 7, 8, 9, 10, 11, 12, 13, 24, 25, 26, 27, 28, 29, 30, 31, 33, 34, 35, 36, 37, 38, 39, 40, 41, 42, 43, 44, 45, 46, 47, 48, 49, 50, 51] ++ [52] = [5, 6, 7, 8, 9, 10, 11, 12, 13, 24, 25, 26, 27, 28, 29, 30, 31, 33, 34, 35, 36, 37, 38, 39, 40, 41, 42, 43, 44, 45, 46, 47, 48, 49, 50, 51, 52] from rfl] at c37
  generalize mkR H36 a (832 + 52) 0 40 = H37 at c37 ⊢
  clear c36
  refine s_102_320 (e2 := rfl) (k3 := c37.k14 hk w0) (kk := ?_)
  show Ev g P 102 328 _ [va_rf (some (hS (mkR H37 a (832 + 53) 0 40))), _] (hpW (mkR H37 a (832 + 53) 0 40) 0 40) _
  have c38 := c37.stp (r := 53) (t := 0) (n := 40) hk w0 (by decide) (by decide) (by decide)
  rw [show [5, 6, 7, 8, 9, 10, 11, 12, 13, 24, 25, 26, 27, 28, 29, 30, 31, 33, 34, 35, 36, 37, 38, 39, 40, 41, 42, 43, 44, 45, 46, 47, 48, 49, 50, 51, 52] ++ [53] = [5, 6, 7, 8, 9, 10, 11, 12, 13, 24, 25, 26, 27, 28, 29, 30, 31, 33, 34, 35, 36, 37, 38, 39, 40, 41, 42, 43, 44, 45, 46, 47, 48, 49, 50, 51, 52, 53] from rfl] at c38
  generalize mkR H37 a (832 + 53) 0 40 = H38 at c38 ⊢
  clear c37
  refine s_102_328 (e2 := rfl) (k3 := c38.k14 hk w0) (kk := ?_)
  show Ev g P 102 336 _ [va_rf (some (hS (mkR H38 a (832 + 54) 0 40))), _] (hpW (mkR H38 a (832 + 54) 0 40) 0 40) _
  have c39 := c38.stp (r := 54) (t := 0) (n := 40) hk w0 (by decide) (by decide) (by decide)
  rw [show [5, 6, 7, 8, 9, 10, 11, 12, 13, 24, 25, 26, 27, 28, 29, 30, 31, 33, 34, 35, 36, 37, 38, 39, 40, 41, 42, 43, 44, 45, 46, 47, 48, 49, 50, 51, 52, 53] ++ [54] = [5, 6, 7, 8, 9, 10, 11, 12, 13, 24, 25, 26, 27, 28, 29, 30, 31, 33, 34, 35, 36, 37, 38, 39, 40, 41, 42, 43, 44, 45, 46, 47, 48, 49, 50, 51, 52, 53, 54] from rfl] at c39
  generalize mkR H38 a (832 + 54) 0 40 = H39 at c39 ⊢
  clear c38
  refine s_102_336 (e2 := rfl) (k3 := c39.k14 hk w0) (kk := ?_)
  show Ev g P 102 344 _ [va_rf (some (hS (mkR H39 a (832 + 55) 0 40))), _] (hpW (mkR H39 a (832 + 55) 0 40) 0 16) _
  have c40 := c39.stp (r := 55) (t := 0) (n := 40) hk w0 (by decide) (by decide) (by decide)
  rw [show [5, 6, 7, 8, 9, 10, 11, 12, 13, 24, 25, 26, 27, 28, 29, 30, 31, 33, 34, 35, 36, 37, 38, 39, 40, 41, 42, 43, 44, 45, 46, 47, 48, 49, 50, 51, 52, 53, 54] ++ [55] = [5, 6, 7, 8, 9, 10, 11, 12, 13, 24, 25, 26, 27, 28, 29, 30, 31, 33, 34, 35, 36, 37, 38, 39, 40, 41, 42, 43, 44, 45, 46, 47, 48, 49, 50, 51, 52, 53, 54, 55] from rfl] at c40
  generalize mkR H39 a (832 + 55) 0 40 = H40 at c40 ⊢
  clear c39
  refine s_102_344 (e2 := rfl) (k3 := c40.k14 hk w0) (kk := ?_)
  show Ev g P 102 353 _ [va_rf (some (hS (mkR H40 a (832 + 57) 0 16))), _] (hpW (mkR H40 a (832 + 57) 0 16) 1 128) _
  have c41 := c40.stp (r := 57) (t := 0) (n := 16) hk w0 (by decide) (by decide) (by decide)
  rw [show [5, 6, 7, 8, 9, 10, 11, 12, 13, 24, 25, 26, 27, 28, 29, 30, 31, 33, 34, 35, 36, 37, 38, 39, 40, 41, 42, 43, 44, 45, 46, 47, 48, 49, 50, 51, 52, 53, 54, 55] ++ [57] = [5, 6, 7, 8, 9, 10, 11, 12, 13, 24, 25, 26, 27, 28, 29, 30, 31, 33, 34, 35, 36, 37, 38, 39, 40, 41, 42, 43, 44, 45, 46, 47, 48, 49, 50, 51, 52, 53, 54, 55, 57] from rfl] at c41
  generalize mkR H40 a (832 + 57) 0 16 = H41 at c41 ⊢
  clear c40
  exact kk H41 c41
end MC
