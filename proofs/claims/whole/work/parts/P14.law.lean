-- the law, whole
section
variable {g : gcT} {P : pmT} {h h0 h1 h2 h' : hpT} {a b e N rep U mem : Nat}
theorem rw_sum : rwL.length = 42 ∧ (rwL.map lnM).sum ≤ 2080000 ∧ nf 12 + nf 13 ≤ 200 := by decide +kernel
theorem aKM_59 : ∀ {k : Nat}, aKM k = true → k < 59 := fun {k} hk => by
  unfold aKM at hk
  simp only [Bool.or_eq_true, Bool.and_eq_true, decide_eq_true_eq] at hk
  omega
theorem lv_0 (w1 : hWF h1) (hab : a + 1 = b) (ee : e = b + 9 + 3 * N) (h4 : 4 ≤ N ∧ N ≤ 8) (h2r : 2 ≤ rep ∧ rep ≤ 3) (h6 : 6 ≤ U ∧ U ≤ 16) (h5 : 5 ≤ mem ∧ mem ≤ 16) (hg0 : gOK g h0) (w0 : hWF h0) (k0 : hK h0 a = 13) (eb : b = hS h0) (nw : new62 g h0 a b e N (nI rep) (nI U) (nI mem) h1) (ch : Ch (fun z => z = e + 30) rwL.length (rwL.map lnM).sum (hpO h1 13) h2) (mw : MW h2 (yI a b e N rep U mem) (adR (hpO h1 13)) (mu0 (yI a b e N rep U mem))) : LV g (hpW h2 9 1) (yI a b e N rep U mem) (adR (hpO h1 13)) (hS h2) 0 (hC (hpW h2 9 1) + 80) (hM (hpW h2 9 1) + 320) := by
  obtain ⟨⟨c1, s1⟩, ⟨r1, r2, r3, r4, i0⟩, st, co, ⟨k10, cl⟩, k11⟩ := nw
  have hy : yOK (yI a b e N rep U mem) := ⟨h4, h2r, h6, h5.1, h5.2, show ¬ e + 2 = e + 9 by omega⟩
  have w2 := ch.2.2.1
  have w3 := w2.W 9 1
  have cO := Ch.mO w1 13
  have cW := Ch.mW w2 9 1
  have sS : hS (hpO h1 13) = e + 31 := congrArg (· + 1) s1
  -- what the class made stays
  have sm : ∀ z, z < e + 30 → Sm h1 (hpW h2 9 1) z := fun z hz => by
    have a1 := cO.sm (a := z) (fun q => q) (by omega)
    have a2 := ch.sm (a := z) (by omega) (by omega)
    have a3 := cW.sm (a := z) (fun q => q) (by have := ch.1.1; omega)
    exact (a1.tr a2).tr a3
  have c13 := (c1.tr cO).tr (ch.tr cW)
  have hg := hg0.ch c13
  have k9 : hK (hpW h2 9 1) a = 13 := by rw [(c13.2.1 a (by omega)).1]; exact k0
  have lt12 : e + 30 < hS (hpO h1 13) := by omega
  have k12' : hK (hpO h1 13) (e + 30) = 14 := by rw [← s1]; exact hK_O_new h1 13
  have k12 : hK (hpW h2 9 1) (e + 30) = 14 := by rw [((ch.tr cW).2.1 _ lt12).1]; exact k12'
  have lt2 : e + 31 ≤ hS h2 := by have := ch.1.1; omega
  have rs := rs_0 (top := hS h2 + 1) w3 hg (by omega) ee hy (by omega) k9 k12 (st.sm w1 (fun z _ hz => sm z (by omega))) (co.sm (fun z _ hz => sm z (by omega)))
  have sa := sm a (by omega)
  have fc := fc_0 (rep := rep) (U := U) (mem := mem) (top := hS h2 + 1) (show a < b by omega) ee k9 (by rw [(sa.2.1 _).2]; exact r1) (by rw [(sa.2.1 _).2]; exact r2) (by rw [(sa.2.1 _).2]; exact r3) (by rw [(sa.2.1 _).2]; exact r4) (fun f => by rw [(sa.2.1 _).1]; exact i0 f) ⟨by rw [(sm (e + 10) (by omega)).1]; exact k10.1, by rw [(sm (e + 10) (by omega)).2.2.1]; exact k10.2⟩ (cl.sm (fun z _ hz => sm z (by omega))) ⟨by rw [(sm (e + 29) (by omega)).1]; exact k11.1, by rw [(sm (e + 29) (by omega)).2.2.1]; exact k11.2.1, fun j => by rw [((sm (e + 29) (by omega)).2.2.2 j).2]; exact k11.2.2 j⟩
  have kad : ∀ r, aKM r = true → ¬ hK h2 (adR (hpO h1 13) r) = 0 := fun r hr => by
    rw [(mw.1.2.1 r hr).2.1]
    unfold kdM
    split <;> omega
  have lad : ∀ r, aKM r = true → adR (hpO h1 13) r < hS h2 := fun r hr => w2.lt (kad r hr)
  have mw3 : MW (hpW h2 9 1) (yI a b e N rep U mem) (adR (hpO h1 13)) (mu0 (yI a b e N rep U mem)) := mw.smm w3 (cW.sm (fun q => q) (show e + 30 < hS h2 by omega)) (fun r hr => cW.sm (fun q => q) (lad r hr))
  have kw := hK_W_new h2 9 1
  have oo : oJ a b e (hS h2 + 1) (hS h2) = e + 30 := oJ_7 ee (by omega)
  have el : (mu0 (yI a b e N rep U mem)).1 = [] := (mu0_f (by have := hy.1; omega) hy.1.2).1
  refine ⟨oJ a b e (hS h2 + 1), wI b, _, _, ss0 b N, Ls0 b N, [], cs00 e, F00 (yI a b e N rep U mem), mu0 (yI a b e N rep U mem), 0, ⟨rs, fc, mw3⟩, ⟨fr_0 hy, cf_0 hy, px_0 hy, by rw [el]; exact Nat.zero_le _⟩, ⟨oJ_7 (z := e + 30) ee ⟨Nat.le_refl _, by omega⟩, fun r hr => oJ_7 ee ⟨?_, by have := lad r hr; omega⟩⟩, ⟨kw.1, kw.2, oo⟩, ?_, ?_⟩
  · show e + 30 ≤ hS (hpO h1 13) + _
    omega
  all_goals
    have ec : crd (Ls0 b N) [] ≤ 80 := by
      have e1 : ∀ n, ((List.range n).map (fun k => 10)).sum = 10 * n := fun n => by
        rw [List.map_const', List.sum_replicate_nat, List.length_range, Nat.mul_comm]
      unfold crd Ls0
      rw [List.map_map]
      have := e1 N
      show ((List.range N).map (fun k => 10)).sum + 0 ≤ 80
      omega
    omega
theorem m_207 (hP5 : P 205 = msg5 g) (hP6 : P 206 = cpyO) (hl : g.2.1 ≤ 3076) (w : hWF h) (hg : gOK g h) : EvI g P 207 [va_rf (some g.1)] h (fun h' r => r = 1 ∧ hC h' ≤ hC h + 601024 ∧ hM h' ≤ hM h + 7293000) := by
  have q0 : ∀ {hh : hpT}, hK hh g.1 = 0 → EvI g P 204 [va_rf (some g.1), .int 0] hh (fun h' r => h' = hh ∧ r = celI g 0) := fun hk => m_204 (i := 0) hk hl (by omega) rfl
  have q1 : ∀ {hh : hpT}, hK hh g.1 = 0 → EvI g P 204 [va_rf (some g.1), .int 1] hh (fun h' r => h' = hh ∧ r = celI g 1) := fun hk => m_204 (i := 1) hk hl (by omega) rfl
  have q2 : ∀ {hh : hpT}, hK hh g.1 = 0 → EvI g P 204 [va_rf (some g.1), .int 2] hh (fun h' r => h' = hh ∧ r = celI g 2) := fun hk => m_204 (i := 2) hk hl (by omega) rfl
  have q3 : ∀ {hh : hpT}, hK hh g.1 = 0 → EvI g P 204 [va_rf (some g.1), .int 3] hh (fun h' r => h' = hh ∧ r = celI g 3) := fun hk => m_204 (i := 3) hk hl (by omega) rfl
  obtain ⟨N, n1, n2, p1⟩ := near_N (lo := 4) (hi := 8) (by omega) (by omega) (celI g 0)
  obtain ⟨rep, n3, n4, p2⟩ := near_N (lo := 2) (hi := 3) (by omega) (by omega) (celI g 1)
  obtain ⟨U, n5, n6, p3⟩ := near_N (lo := 6) (hi := 16) (by omega) (by omega) (celI g 2)
  obtain ⟨mem, n7, n8, p4⟩ := near_N (lo := 5) (hi := 16) (by omega) (by omega) (celI g 3)
  have w0 := w.O 12
  have c0 := Ch.mO w 12
  have hg0 := hg.ch c0
  have k0 : hK (hpO h 12) (hS h) = 13 := hK_O_new h 12
  have z0 : ∀ f, hI (hpO h 12) f (hS h) = 0 := fun f => ((w (hS h) (Nat.le_refl _)).2.1 f).1
  refine e_207 (s_207_0 (s_207_3 (hc := q0 hg0.1) (kk := fun h1 x ⟨t1, t2⟩ => ?_)))
  subst t1; subst t2
  refine s_207_9 (hc := q1 hg0.1) (kk := fun h1 x ⟨t1, t2⟩ => ?_)
  subst t1; subst t2
  refine s_207_14 (hc := q2 hg0.1) (kk := fun h1 x ⟨t1, t2⟩ => ?_)
  subst t1; subst t2
  refine s_207_19 (hc := q3 hg0.1) (kk := fun h1 x ⟨t1, t2⟩ => ?_)
  subst t1; subst t2
  refine s_207_24 (e2 := rfl) (hc := m_62 (N := N) (rep := nI rep) (U := nI U) (mem := nI mem) w0 k0 z0 n1 n2 p1 p2 p3 p4) (kk := fun h1 nw => ?_)
  have s0 : hS (hpO h 12) = hS h + 1 := rfl
  have c1 := nw.1.1
  have s1 := nw.1.2
  have w1 := c1.2.2.1
  have cO := Ch.mO w1 13
  have hg1 := (hg0.ch c1).ch cO
  refine s_207_27 (s_207_31 (hc := q0 hg1.1) (kk := fun h2 x ⟨t1, t2⟩ => ?_))
  subst t1; subst t2
  refine s_207_37 (hc := q1 hg1.1) (kk := fun h2 x ⟨t1, t2⟩ => ?_)
  subst t1; subst t2
  refine s_207_42 (hc := q2 hg1.1) (kk := fun h2 x ⟨t1, t2⟩ => ?_)
  subst t1; subst t2
  refine s_207_47 (hc := q3 hg1.1) (kk := fun h2 x ⟨t1, t2⟩ => ?_)
  subst t1; subst t2
  have kM : hK (hpO h1 13) (hS h1) = 14 := hK_O_new h1 13
  have zM : ∀ f, hI (hpO h1 13) f (hS h1) = 0 := fun f => ((w1 (hS h1) (Nat.le_refl _)).2.1 f).1
  refine s_207_52 (e2 := rfl) (hc := m_model (y := yI (hS h) (hS (hpO h 12)) (hS (hpO h 12) + 9 + 3 * N) N rep U mem) (w1.O 13) kM zM s1.symm ⟨n1, n2⟩ ((near_ne (by decide)).trans p1) ((near_ne (by decide)).trans p2) ((near_ne (by decide)).trans p3) ((near_ne (by decide)).trans p4)) (kk := fun h2 ⟨mw, ch⟩ => ?_)
  rw [s1] at ch
  have lv := lv_0 w1 rfl rfl ⟨n1, n2⟩ ⟨n3, n4⟩ ⟨n5, n6⟩ ⟨n7, n8⟩ hg0 w0 k0 rfl nw ch mw
  rw [s1]
  refine s_207_55 (kk := s_207_59 ?_)
  refine Ev.imp (loop_7 hP5 hP6 hl 513 0 0 _ _ _ lv (Nat.le_refl _) (Or.inl rfl) rfl) (fun h3 r ⟨e1, K', hk, lv'⟩ => ⟨1, e1, rfl, ?_⟩)
  obtain ⟨b1, b2⟩ := lv'.end hk
  obtain ⟨v1, v2, v3⟩ := rw_sum
  have a1 := c1.2.2.2
  have a2 := ch.2.2.2
  have a3 : hC (hpW h2 9 1) = hC h2 + 1 ∧ hM (hpW h2 9 1) = hM h2 + 1 := ⟨rfl, rfl⟩
  have a4 : hC (hpO h1 13) = hC h1 + 1 ∧ hM (hpO h1 13) = hM h1 + nf 13 := ⟨rfl, rfl⟩
  have a5 : hC (hpO h 12) = hC h + 1 ∧ hM (hpO h 12) = hM h + nf 12 := ⟨rfl, rfl⟩
  constructor <;> omega
end
