/-! a new client, a new SERVER -/
section INIT
variable {g : gcT} {P : pmT} {h : hpT}
theorem m_client (w : hWF h) {c : Nat} (k : hK h c = 3) (hz : hI h 130 c = 0) : EvV g P 1 [va_rf (some c)] h (fun h' => clV h' c (hS h) (hS h + 1) 0 ∧ Ch (fun a => a = c) 2 80 h h' ∧ hS h' = hS h + 2 ∧ (∀ i, hB h' (hS h) i = none) ∧ (∀ i, hB h' (hS h + 1) i = none)) := by
  have hc : c < hS h := w.lt (by omega)
  refine e_1 (s_1_0 (kk := s_1_4 (kk := ?_)))
  show Ev g P 1 10 _ _ (hpW h 6 40) _
  have k1 : hK (hpW h 6 40) c = 3 := by rw [(hK_W hc).1]; exact k
  refine s_1_10 (k3 := k1) (kk := ?_)
  show Ev g P 1 19 _ [va_rf (some (hS (mkR h c 128 6 40))), _] (hpW (mkR h c 128 6 40) 2 40) _
  obtain ⟨d1, v1, u1, w1, x1, y1, i1⟩ := mkR_sp (f := 128) (t := 6) (n := 40) w hc
  have b1 : hB (mkR h c 128 6 40) = hB h := rfl
  generalize mkR h c 128 6 40 = H at d1 v1 u1 w1 x1 y1 i1 b1 ⊢
  have hc1 : c < hS H := by omega
  obtain ⟨d2, v2, u2, w2, x2, y2, i2⟩ := mkR_sp (f := 129) (t := 2) (n := 40) d1.2.2.1 hc1
  have b2 : hB (mkR H c 129 2 40) = hB H := rfl
  have kH : hK H c = 3 := by rw [(d1.2.1 c hc).1]; exact k
  refine s_1_19 (k3 := by rw [(hK_W hc1).1]; exact kH) (hq := ⟨rfl, ?_⟩)
  show (fun h' => clV h' c (hS h) (hS h + 1) 0 ∧ Ch (fun a => a = c) 2 80 h h' ∧ hS h' = hS h + 2 ∧ (∀ i, hB h' (hS h) i = none) ∧ (∀ i, hB h' (hS h + 1) i = none)) (mkR H c 129 2 40)
  generalize mkR H c 129 2 40 = H2 at d2 v2 u2 w2 x2 y2 i2 b2 ⊢
  rw [v1] at u2 w2 x2
  refine ⟨⟨by rw [(d2.2.1 c hc1).1]; exact kH, by rw [y2 128 (by decide)]; exact x1, x2, by rw [(d2.2.1 _ (by omega)).1]; exact u1, by rw [(d2.2.1 _ (by omega)).2]; exact w1, u2, w2, ?_, Nat.zero_le _⟩, ?_, by omega, fun i => ?_, fun i => ?_⟩
  · rw [i2, i1, hz]; exact nI_0.symm
  · exact (d1.tr d2).mono (fun a _ q => q.elim id id) (by omega) (by omega)
  · rw [b2, b1]; exact ((w _ (Nat.le_refl _)).2.2 i).2
  · rw [b2, b1]; exact ((w _ (Nat.le_succ _)).2.2 i).2
theorem m_server (w : hWF h) {s : Nat} {x : Int32} (k : hK h s = 10) : EvV g P 38 [va_rf (some s), .int x] h (fun h' => (∀ N U, lgF g h' N U (hS h) []) ∧ hR h' 257 (hS h) = none ∧ hR h' 258 (hS h) = none ∧ hI h' 259 (hS h) = 0 ∧ (hR h' 256 (hS h) = some (hS h + 1) ∧ hR h' 1 (hS h + 1) = some g.2.2.2) ∧ Ch (fun a => a = s) 2 (nf 4 + nf 0) h h' ∧ hS h' = hS h + 2 ∧ hR h' 584 s = some (hS h) ∧ (∀ f, ¬ f = 584 → hR h' f s = hR h f s) ∧ ∀ f, hI h' f s = lk [(577, 0), (582, -1), (576, x)] f (hI h f s)) := by
  have hs : s < hS h := w.lt (by omega)
  refine e_38 (s_38_0 (kk := s_38_4 (k3 := k) (kk := ?_)))
  show Ev g P 38 18 _ [va_rf (some (hS h)), _] (hpO (wIs h s [(577, 0), (582, -1)]) 4) _
  have c0 := Ch.wIs (a := s) [(577, 0), (582, -1)] w hs
  have i0 : ∀ f, hI (wIs h s [(577, 0), (582, -1)]) f s = lk [(577, 0), (582, -1)] f (hI h f s) := fun f => by rw [rI_wIs, if_pos rfl]
  have r0 : hR (wIs h s [(577, 0), (582, -1)]) = hR h := wIs_R _
  have k0 : hK (wIs h s [(577, 0), (582, -1)]) = hK h := wIs_K _
  have s0 : hS (wIs h s [(577, 0), (582, -1)]) = hS h := wIs_S _
  generalize wIs h s [(577, 0), (582, -1)] = H0 at c0 i0 r0 k0 s0 ⊢
  have w0 := c0.2.2.1
  have c1 := Ch.mO w0 4
  have w1 := c1.2.2.1
  have kL : hK (hpO H0 4) (hS h) = 5 := by rw [← s0]; exact hK_O_new H0 4
  refine s_38_18 (hc := m_17 w1 kL) (kk := fun h2 ⟨n1, n2, n3, ⟨n4, n4'⟩, n5, n6⟩ => ?_)
  have hs1 : s < hS (hpO H0 4) := by show s < hS H0 + 1; omega
  have e1 : hS (hpO H0 4) = hS h + 1 := by show hS H0 + 1 = _; omega
  have hne : ¬ s = hS h := by omega
  have sm2 : Sm (hpO H0 4) h2 s := n2.sm hne hs1
  have ks2 : hK h2 s = 10 := by rw [sm2.1, hK_O (by omega), k0]; exact k
  have hs2 : s < hS h2 := by omega
  have c3 := Ch.wR (f := 584) (a := s) n2.2.2.1 (some (hS h)) hs2
  have c4 := Ch.wI (f := 576) (a := s) c3.2.2.1 x hs2
  have c34 := (c3.tr c4).mono (B := fun a => a = s) (fun _ _ q => q.elim id id) (Nat.le_refl _) (Nat.le_refl _)
  have nz : ∀ f, hR (hpO H0 4) f (hS h) = none ∧ hI (hpO H0 4) f (hS h) = 0 := fun f => by
    have := (w0 (hS h) (by omega)).2.1 f
    exact ⟨this.2, this.1⟩
  refine s_38_22 (k3 := ks2) (k6 := ks2) (hq := ⟨rfl, fun N U => ?_, ?_, ?_, ?_, ?_, ?_, ?_, ?_, fun f nf' => ?_, fun f => ?_⟩)
  · refine lgF.nilfr n2.2.2.1 (n1 N U) c34 (fun q => hne q.symm) (fun l hl => ?_)
    rw [n4] at hl
    cases hl
    have kl := (n1 N U)
    obtain ⟨-, l, z2, ⟨⟨z3, -⟩, -⟩, -⟩ := kl
    rw [n4] at z2
    cases z2
    refine ⟨fun q => ?_, fun e _ he q => ?_⟩
    · rw [q] at z3; omega
    · rw [q] at he; omega
  · show hR (hpR h2 584 s (some (hS h))) 257 (hS h) = none
    rw [rR_R, if_neg (fun q => absurd q.1 (by decide)), n5 257 (by decide)]; exact (nz 257).1
  · show hR (hpR h2 584 s (some (hS h))) 258 (hS h) = none
    rw [rR_R, if_neg (fun q => absurd q.1 (by decide)), n5 258 (by decide)]; exact (nz 258).1
  · rw [rI_I, if_neg (fun q => absurd q.1 (by decide))]
    show hI h2 259 (hS h) = 0
    rw [n6]; exact (nz 259).2
  · refine ⟨?_, ?_⟩
    · show hR (hpR h2 584 s (some (hS h))) 256 (hS h) = some (hS h + 1)
      rw [rR_R, if_neg (fun q => absurd q.1 (by decide)), n4, e1]
    · show hR (hpR h2 584 s (some (hS h))) 1 (hS h + 1) = some g.2.2.2
      rw [rR_R, if_neg (fun q => absurd q.1 (by decide)), ← e1]; exact n4'
  · refine ((c0.tr c1).tr (n2.tr c34)).mono (fun a ha q => ?_) (by omega) (by omega)
    rcases q with (q | q) | (q | q)
    · exact q
    · exact q.elim
    · omega
    · exact q
  · show hS h2 = _
    omega
  · show hR (hpR h2 584 s (some (hS h))) 584 s = some (hS h)
    rw [rR_R, if_pos ⟨rfl, rfl⟩]
  · show hR (hpR h2 584 s (some (hS h))) f s = _
    rw [rR_R, if_neg (fun q => nf' q.1), (sm2.2.1 f).2]
    show hR H0 f s = _
    rw [r0]
  · rw [rI_I]
    show (if f = 576 ∧ s = s then x else hI h2 f s) = (if 576 = f then x else lk [(577, 0), (582, -1)] f (hI h f s))
    by_cases q : f = 576
    · rw [if_pos ⟨q, rfl⟩, if_pos q.symm]
    · rw [if_neg (fun y => q y.1), if_neg (fun y => q y.symm), (sm2.2.1 f).1]
      exact i0 f
end INIT
