/-! the model: blank, makeOf, comes -/
section MC
variable {g : gcT} {P : pmT} {h h' h1 : hpT} {y ad : Nat → Nat} {T : List slT} {s s' : slT} {i j k n N e f c v : Nat} {x1 x2 x3 x4 : Int32} {A : Nat → Nat → Prop} {I : Nat → Prop} {en : enT}
theorem m_blank {n18 : Nat} (h18 : n18 = 18) (m : HM h y ad) (w : hWF h) : EvV g P 129 [va_rf (some (y 12))] h (fun h' => MF y ad (fun r _ => r = 33) (fun _ => False) h h' ∧ ∀ f, f < n18 → hA h' (ad 33) f = 0) := by
  have e18 : (18 : Int32) = nI n18 := by rw [h18]; rfl
  refine e_129 (s_129_0 ?_)
  have lp := cnt_loop n18 (fun i h1 => MF y ad (fun r _ => r = 33) (fun _ => False) h h1 ∧ ∀ f, f < i → hA h1 (ad 33) f = 0) (fun i h1 => Ev g P 129 2 [some (va_rf (some (y 12))), some (.int (nI i))] [] h1 (fun h' r => r = none ∧ MF y ad (fun r _ => r = 33) (fun _ => False) h h' ∧ ∀ f, f < n18 → hA h' (ad 33) f = 0)) ?_ ?_ h ⟨MF.rf w, fun f hf => absurd hf (Nat.not_lt_zero _)⟩
  · rw [nI_0] at lp; exact lp
  · intro i h1 hi ⟨x, z⟩ kn
    have m1 := m.mf x
    have w1 := x.1.2.2.2
    have ei : (nI i).toNatClampNeg = i := nI_clamp (by omega)
    refine s_129_2 (kt := fun z => absurd z (by rw [e18]; exact nI_ge hi (by omega))) (kf := fun _ => s_129_8 (k3 := m1.1) (e5 := m1.r33) (k6 := m1.k33) (i7 := by rw [m1.n33]; exact vin_nI (by omega) (by decide)) (kk := ?_))
    rw [nI_1, ei]
    refine kn _ ⟨(x.tr (MF.wA m1 w1 (by decide) 0)).mono (fun r i q => q.elim id (fun q => q.1)) (fun r q => q.elim id id), fun f hf => ?_⟩
    rw [m1.rA (by decide) (by decide)]
    by_cases q : f = i
    · rw [if_pos ⟨rfl, q⟩]
    · rw [if_neg (fun z => q z.2)]; exact z f (by omega)
  · intro h1 z
    exact s_129_2 (kt := fun _ => s_129_21 ⟨rfl, z⟩) (kf := fun z => absurd (by rw [e18]; exact nI_le (Nat.le_refl _) (by omega)) z)
theorem m_makeOf {n9 : Nat} (h9 : n9 = 9) (m : HM h y ad) (w : hWF h) (tb : TB h y ad T) (hk : k < T.length) (he : e < (lEn (T.getD k sl0)).length) (hi : i < 2) : EvV g P 130 [va_rf (some (y 12)), .int (nI (pIx k e i 0))] h (fun h' => MF y ad (fun r _ => r = 33) (fun _ => False) h h' ∧ (∀ f, f < n9 → hA h' (ad 33) f = mE ((lEn (T.getD k sl0)).getD e en0) i f) ∧ ∀ f, f < n9 → hA h' (ad 33) (9 + f) = 0) := by
  have e9 : (9 : Int32) = nI n9 := by rw [h9]; rfl
  refine e_130 (s_130_0 (k3 := m.1) (hc := m_blank (n18 := 18) rfl m w) (kk := fun h1 ⟨x1, z1⟩ => s_130_4 ?_))
  have m1 := m.mf x1
  have w1 := x1.1.2.2.2
  have tb1 : TB h1 y ad T := tb.keep m x1 (fun r i q a z => by rcases z with ⟨z, -⟩ | ⟨z, -⟩ | ⟨z, -⟩ <;> omega) (fun q => q)
  have lp := cnt_loop n9 (fun j h2 => MF y ad (fun r _ => r = 33) (fun _ => False) h1 h2 ∧ (∀ f, f < j → hA h2 (ad 33) f = mE ((lEn (T.getD k sl0)).getD e en0) i f) ∧ ∀ f, 9 ≤ f → f < 18 → hA h2 (ad 33) f = 0) (fun j h2 => Ev g P 130 6 [some (va_rf (some (y 12))), some (.int (nI (pIx k e i 0))), some (.int (nI j))] [] h2 (fun h' r => r = none ∧ MF y ad (fun r _ => r = 33) (fun _ => False) h h' ∧ (∀ f, f < n9 → hA h' (ad 33) f = mE ((lEn (T.getD k sl0)).getD e en0) i f) ∧ ∀ f, f < n9 → hA h' (ad 33) (9 + f) = 0)) ?_ ?_ h1 ⟨MF.rf w1, fun f hf => absurd hf (Nat.not_lt_zero _), fun f _ hf => z1 f hf⟩
  · rw [nI_0] at lp; exact lp
  · intro j h2 hj ⟨x2, za, zb⟩ kn
    have m2 := m1.mf x2
    have w2 := x2.1.2.2.2
    have tb2 : TB h2 y ad T := tb1.keep m1 x2 (fun r i q a z => by rcases z with ⟨z, -⟩ | ⟨z, -⟩ | ⟨z, -⟩ <;> omega) (fun q => q)
    have ej : (nI j).toNatClampNeg = j := nI_clamp (by omega)
    obtain ⟨vj, cj⟩ := pcell m2 tb2 hk he hi j (by omega)
    refine s_130_6 (kt := fun z => absurd z (by rw [e9]; exact nI_ge hj (by omega))) (kf := fun _ => s_130_12 (k3 := m2.1) (e5 := m2.r28) (k6 := m2.k28) (i7 := vj) (e9 := m2.r33) (k10 := m2.k33) (i11 := by rw [m2.n33]; exact vin_nI (by omega) (by decide)) (kk := ?_))
    rw [nI_1, ej, cj]
    refine kn _ ⟨(x2.tr (MF.wA m2 w2 (by decide) _)).mono (fun r i q => q.elim id (fun q => q.1)) (fun r q => q.elim id id), fun f hf => ?_, fun f hf hf' => ?_⟩
    · rw [m2.rA (by decide) (by decide)]
      by_cases q : f = j
      · rw [if_pos ⟨rfl, q⟩, q]
      · rw [if_neg (fun z => q z.2)]; exact za f (by omega)
    · rw [m2.rA (by decide) (by decide), if_neg (fun z => by omega)]
      exact zb f hf hf'
  · intro h2 ⟨x2, za, zb⟩
    exact s_130_6 (kt := fun _ => s_130_32 ⟨rfl, x1.join x2, za, fun f hf => zb (9 + f) (by omega) (by omega)⟩) (kf := fun z => absurd (by rw [e9]; exact nI_le (Nat.le_refl _) (by omega)) z)
theorem m_madeU (m : HM h y ad) (md : MD h ad en) : EvI g P 131 [va_rf (some (y 12))] h (fun h' r => h' = h ∧ r = unT en) := by
  refine e_131 (s_131_0 (k3 := m.1) (e5 := m.r33) (k6 := m.k33) (i7 := by rw [m.n33]; exact vin_nI (n := 0) (by decide) (by decide)) (hc := m_unitsM) (kk := fun h2 x ⟨e1, e2⟩ => ?_))
  subst e1; subst e2
  refine s_131_9 (k3 := m.1) (e5 := m.r33) (k6 := m.k33) (i7 := by rw [m.n33]; exact vin_nI (n := 9) (by decide) (by decide)) (hc := m_unitsM) (kk := fun h3 x ⟨e1, e2⟩ => s_131_19 ⟨_, rfl, e1, ?_⟩)
  have a0 : hA h2 (ad 33) (0 : Int32).toNatClampNeg = mPt en.1 0 := (md 0 (by omega)).1
  have a9 : hA h2 (ad 33) (9 : Int32).toNatClampNeg = mPo en.2 0 := (md 0 (by omega)).2
  rw [e2, a0, a9]; rfl
theorem updH_getD {hs : List (Nat × Nat)} {c n j : Nat} (hj : j < hs.length) : (updH hs c n).getD j (0, 0) = if j < c then ((hs.getD j (0, 0)).1, n) else hs.getD j (0, 0) := by
  unfold updH
  rw [List.getD_eq_getElem?_getD, List.getElem?_mapIdx, List.getElem?_eq_getElem hj, gD_lt hj]
  rfl
theorem m_comes {n18 : Nat} (h18 : n18 = 18) (m : HM h y ad) (w : hWF h) (tb : TB h y ad T) (hk : k < T.length) (hE : (lEn (T.getD k sl0)).length < 16) (md : MD h ad en) (hc : c < 1000) : EvV g P 132 [va_rf (some (y 12)), .int (nI k), .int (nI c)] h (fun h' => MF y ad (fun r i => (r = 27 ∧ i = k) ∨ (r = 28 ∧ i / 288 = k) ∨ (r = 31 ∧ i / 8 = k)) (fun _ => False) h h' ∧ TB h' y ad (T.set k (cmS (T.getD k sl0) en c))) := by
  have l6 := tb.2.1
  have ec : (nI k).toNatClampNeg = k := nI_clamp (by omega)
  have e18 : (18 : Int32) = nI n18 := by rw [h18]; rfl
  obtain ⟨⟨a1, a2, a3, a4⟩, ⟨e27, l16, b3⟩, e29, l8, c3⟩ := tb.s hk
  generalize hs : T.getD k sl0 = s at *
  have vs : ∀ {h : hpT} {a}, hN h a = 6000 → vinD (nI k) (hN h a) := fun e => by rw [e]; exact vin_nI (by omega) (by decide)
  have mdf : ∀ f, f < 18 → hA h (ad 33) f = (if f < 9 then mPt en.1 f else mPo en.2 (f - 9)) := by
    intro f hf
    by_cases q : f < 9
    · rw [if_pos q]; exact (md f q).1
    · rw [if_neg q]
      have := (md (f - 9) (by omega)).2
      rw [show 9 + (f - 9) = f by omega] at this
      exact this
  refine e_132 (s_132_0 (k3 := m.1) (e5 := m.r27) (k6 := m.k27) (i7 := vs m.n27) (kk := ?_))
  rw [ec, e27]
  -- the row is copied
  have lp := cnt_loop n18 (fun j h1 => MF y ad (fun r i => r = 28 ∧ pIx k (lEn s).length 0 0 ≤ i ∧ i < pIx k (lEn s).length 0 0 + 18) (fun _ => False) h h1 ∧ ∀ f, f < j → hA h1 (ad 28) (pIx k (lEn s).length 0 0 + f) = hA h (ad 33) f) (fun j h1 => Ev g P 132 10 [some (va_rf (some (y 12))), some (.int (nI k)), some (.int (nI c)), some (.int (nI (lEn s).length)), some (.int (nI j))] [] h1 (fun h' r => r = none ∧ MF y ad (fun r i => (r = 27 ∧ i = k) ∨ (r = 28 ∧ i / 288 = k) ∨ (r = 31 ∧ i / 8 = k)) (fun _ => False) h h' ∧ TB h' y ad (T.set k (cmS s en c)))) ?_ ?_ h ⟨MF.rf w, fun f hf => absurd hf (Nat.not_lt_zero _)⟩
  · rw [nI_0] at lp; exact lp
  · intro j h1 hj ⟨x, z⟩ kn
    have m1 := m.mf x
    have w1 := x.1.2.2.2
    have ej : (nI j).toNatClampNeg = j := nI_clamp (by omega)
    have hplt : pIx k (lEn s).length 0 0 + j < 1728000 := by unfold pIx; omega
    refine s_132_10 (kt := fun z => absurd z (by rw [e18]; exact nI_ge hj (by omega))) (kf := fun _ => ?_)
    have hat := m_atM (g := g) (P := P) (h := h1) (k := k) (e := (lEn s).length) (i := 0) (f := 0)
    rw [nI_0] at hat
    refine s_132_17 (k3 := m1.1) (hc := hat) (kk := fun h2 x' ⟨e1, e2⟩ => ?_)
    subst e1; subst e2
    refine s_132_28 (k3 := m1.1) (e5 := m1.r33) (k6 := m1.k33) (i7 := by rw [m1.n33]; exact vin_nI (by omega) (by decide)) (e9 := m1.r28) (k10 := m1.k28) (i11 := by rw [nI_add, m1.n28]; exact vin_nI hplt (by decide)) (kk := ?_)
    rw [nI_1, nI_add, nI_clamp (by omega), ej]
    have e33 : hA h2 (ad 33) j = hA h (ad 33) j := MF.a m x (by decide) (fun q => absurd q.1 (by decide))
    rw [e33]
    refine kn _ ⟨(x.tr (MF.wA m1 w1 (by decide) _)).mono (fun r i q => q.elim id (fun q => ⟨q.1, by omega, by omega⟩)) (fun r q => q.elim id id), fun f hf => ?_⟩
    rw [m1.rA (by decide) (by decide)]
    by_cases q : f = j
    · rw [if_pos ⟨rfl, by omega⟩, q]
    · rw [if_neg (fun z => q (by omega))]; exact z f (by omega)
  · intro h1 ⟨x1, z1⟩
    have m1 := m.mf x1
    have w1 := x1.1.2.2.2
    refine s_132_10 (kt := fun _ => ?_) (kf := fun z => absurd (by rw [e18]; exact nI_le (Nat.le_refl _) (by omega)) z)
    have f27 : hA h1 (ad 27) k = nI (lEn s).length := by rw [MF.a m x1 (by decide) (fun q => absurd q.1 (by decide))]; exact e27
    have f29 : hA h1 (ad 29) k = nI (lHo s).length := by rw [MF.a m x1 (by decide) (fun q => absurd q.1 (by decide))]; exact e29
    refine s_132_45 (k3 := m1.1) (e5 := m1.r27) (k6 := m1.k27) (i7 := vs m1.n27) (i8 := vs m1.n27) (kk := ?_)
    rw [ec, f27, nI_1]
    have x2 := MF.wA m1 w1 (k := 27) (i := k) (by decide) (nI ((lEn s).length + 1))
    have r2 : ∀ r i, aKM r = true → hA (hpA h1 (ad 27) k (nI ((lEn s).length + 1))) (ad r) i = if r = 27 ∧ i = k then nI ((lEn s).length + 1) else hA h1 (ad r) i := fun r i hr => m1.rA (by decide) hr
    generalize hpA h1 (ad 27) k (nI ((lEn s).length + 1)) = H2 at x2 r2 ⊢
    have m2 := m1.mf x2
    have w2 := x2.1.2.2.2
    have lp2 := cnt_loop ((lHo s).length) (fun j h3 => MF y ad (fun r i => r = 31 ∧ 8 * k ≤ i ∧ i < 8 * k + 8) (fun _ => False) H2 h3 ∧ ∀ q, q < (lHo s).length → hA h3 (ad 31) (8 * k + q) = if q < j ∧ q < c then nI ((lEn s).length + 1) else hA H2 (ad 31) (8 * k + q)) (fun j h3 => Ev g P 132 58 [some (va_rf (some (y 12))), some (.int (nI k)), some (.int (nI c)), some (.int (nI (lEn s).length)), some (.int (nI j))] [] h3 (fun h' r => r = none ∧ MF y ad (fun r i => (r = 27 ∧ i = k) ∨ (r = 28 ∧ i / 288 = k) ∨ (r = 31 ∧ i / 8 = k)) (fun _ => False) h h' ∧ TB h' y ad (T.set k (cmS s en c)))) ?_ ?_ H2 ⟨MF.rf w2, fun q hq => by rw [if_neg (fun z => absurd z.1 (Nat.not_lt_zero _))]⟩
    · rw [nI_0] at lp2; exact lp2
    all_goals
      have fin : ∀ h3, MF y ad (fun r i => r = 31 ∧ 8 * k ≤ i ∧ i < 8 * k + 8) (fun _ => False) H2 h3 → (∀ q, q < (lHo s).length → hA h3 (ad 31) (8 * k + q) = if q < c then nI ((lEn s).length + 1) else hA H2 (ad 31) (8 * k + q)) → MF y ad (fun r i => (r = 27 ∧ i = k) ∨ (r = 28 ∧ i / 288 = k) ∨ (r = 31 ∧ i / 8 = k)) (fun _ => False) h h3 ∧ TB h3 y ad (T.set k (cmS s en c)) := by
        intro h3 x3 z3
        have mf : MF y ad (fun r i => (r = 27 ∧ i = k) ∨ (r = 28 ∧ i / 288 = k) ∨ (r = 31 ∧ i / 8 = k)) (fun _ => False) h h3 := ((x1.tr x2).tr x3).mono (fun r i q => by
          rcases q with (q | q) | q
          · exact Or.inr (Or.inl ⟨q.1, by have := q.2; unfold pIx at this; omega⟩)
          · exact Or.inl q
          · exact Or.inr (Or.inr ⟨q.1, by have := q.2; omega⟩)) (fun r q => by rcases q with (q | q) | q <;> exact q)
        refine ⟨mf, TB.set m tb mf (fun r i q a z => ?_) (fun q => q) ?_⟩
        · rcases z with ⟨z, z'⟩ | ⟨z, z'⟩ | ⟨z, z'⟩ <;> rcases a with a | a | a <;> omega
        · have rd : ∀ r i, aKM r = true → ¬ r = 27 → ¬ r = 31 → ¬ r = 28 → hA h3 (ad r) i = hA h (ad r) i := by
            intro r i hr n1 n2 n3
            rw [MF.a m2 x3 hr (fun q => n2 q.1), r2 _ _ hr, if_neg (fun z => n1 z.1), MF.a m x1 hr (fun q => n3 q.1)]
          have rd28 : ∀ i, hA h3 (ad 28) i = hA h1 (ad 28) i := fun i => by
            rw [MF.a m2 x3 (by decide) (fun q => absurd q.1 (by decide)), r2 _ _ (by decide), if_neg (fun z => absurd z.1 (by decide))]
          have ll : (lEn s ++ [en]).length = (lEn s).length + 1 := by rw [List.length_append]; rfl
          have lh : (updH (lHo s) c ((lEn s).length + 1)).length = (lHo s).length := by unfold updH; rw [List.length_mapIdx]
          refine ⟨⟨by rw [rd _ _ (by decide) (by decide) (by decide) (by decide)]; exact a1, by rw [rd _ _ (by decide) (by decide) (by decide) (by decide)]; exact a2, by rw [rd _ _ (by decide) (by decide) (by decide) (by decide)]; exact a3, a4⟩, ⟨?_, ?_, fun e' he' f hf => ?_⟩, ?_, ?_, fun j hj => ?_⟩
          · show _ = nI (lEn s ++ [en]).length
            rw [ll, MF.a m2 x3 (by decide) (fun q => absurd q.1 (by decide)), r2 _ _ (by decide), if_pos ⟨rfl, rfl⟩]
          · show (lEn s ++ [en]).length ≤ 16
            rw [ll]; omega
          · have he' : e' < (lEn s ++ [en]).length := he'
            rw [ll] at he'
            show hA h3 (ad 28) (pIx k e' 0 f) = mPt ((lEn s ++ [en]).getD e' en0).1 f ∧ hA h3 (ad 28) (pIx k e' 1 f) = mPo ((lEn s ++ [en]).getD e' en0).2 f
            rw [rd28, rd28]
            by_cases ee : e' = (lEn s).length
            · rw [ee, gD_app]
              have p0 := z1 f (by omega)
              have p1 := z1 (9 + f) (by omega)
              have i0 : pIx k (lEn s).length 0 0 + f = pIx k (lEn s).length 0 f := rfl
              have i1 : pIx k (lEn s).length 0 0 + (9 + f) = pIx k (lEn s).length 1 f := by unfold pIx; omega
              rw [i0] at p0
              rw [i1] at p1
              rw [p0, p1]
              exact md f hf
            · have eg : (lEn s ++ [en]).getD e' en0 = (lEn s).getD e' en0 := by
                rw [List.getD_eq_getElem?_getD, List.getElem?_append_left (by omega), ← List.getD_eq_getElem?_getD]
              rw [eg, MF.a m x1 (by decide) (fun q => by have := q.2; unfold pIx at this; omega), MF.a m x1 (by decide) (fun q => by have := q.2; unfold pIx at this; omega)]
              exact b3 e' (by omega) f hf
          · show _ = nI (updH (lHo s) c ((lEn s).length + 1)).length
            rw [lh, rd _ _ (by decide) (by decide) (by decide) (by decide)]; exact e29
          · show (updH (lHo s) c ((lEn s).length + 1)).length ≤ 8
            rw [lh]; exact l8
          · have hj : j < (updH (lHo s) c ((lEn s).length + 1)).length := hj
            rw [lh] at hj
            show hA h3 (ad 30) (8 * k + j) = nI ((updH (lHo s) c ((lEn s).length + 1)).getD j (0, 0)).1 ∧ hA h3 (ad 31) (8 * k + j) = nI ((updH (lHo s) c ((lEn s).length + 1)).getD j (0, 0)).2 ∧ ((updH (lHo s) c ((lEn s).length + 1)).getD j (0, 0)).1 < 8 ∧ ((updH (lHo s) c ((lEn s).length + 1)).getD j (0, 0)).2 ≤ (lEn s ++ [en]).length
            obtain ⟨q1, q2, q3, q4⟩ := c3 j hj
            rw [updH_getD hj, z3 j hj, rd _ _ (by decide) (by decide) (by decide) (by decide), ll]
            split
            · exact ⟨q1, rfl, q3, Nat.le_refl _⟩
            · refine ⟨q1, ?_, q3, by omega⟩
              rw [r2 _ _ (by decide), if_neg (fun z => absurd z.1 (by decide)), MF.a m x1 (by decide) (fun q => absurd q.1 (by decide))]; exact q2
    · intro j h3 hj ⟨x3, z3⟩ kn
      have m3 := m2.mf x3
      have w3 := x3.1.2.2.2
      have e8 := ix8 k j
      have g29 : hA h3 (ad 29) k = nI (lHo s).length := by rw [MF.a m2 x3 (by decide) (fun q => absurd q.1 (by decide)), r2 _ _ (by decide), if_neg (fun z => absurd z.1 (by decide))]; exact f29
      have g27 : hA h3 (ad 27) k = nI ((lEn s).length + 1) := by rw [MF.a m2 x3 (by decide) (fun q => absurd q.1 (by decide)), r2 _ _ (by decide), if_pos ⟨rfl, rfl⟩]
      refine s_132_58 (k3 := m3.1) (e5 := m3.r29) (k6 := m3.k29) (i7 := vs m3.n29) (kt := fun z => absurd z (by rw [ec, g29]; exact nI_ge hj (by omega))) (kf := fun _ => ?_)
      refine s_132_69 (kt := fun z => s_132_99 ⟨rfl, fin h3 x3 (fun q hq => ?_)⟩) (kf := fun z => s_132_75 (k3 := m3.1) (e5 := m3.r27) (k6 := m3.k27) (i7 := vs m3.n27) (e9 := m3.r31) (k10 := m3.k31) (i11 := by rw [e8, m3.n31]; exact vin_nI (by omega) (by decide)) (kk := ?_))
      · have hcj := (nI_leI (by omega) (by omega)).mp z
        rw [z3 q hq]
        by_cases qc : q < c
        · rw [if_pos ⟨by omega, qc⟩, if_pos qc]
        · rw [if_neg (fun z => qc z.2), if_neg qc]
      · have hjc : j < c := by
          rcases Nat.lt_or_ge j c with q | q
          · exact q
          · exact absurd (nI_le q (by omega)) z
        rw [nI_1, ec, g27, e8, nI_clamp (by omega)]
        refine kn _ ⟨(x3.tr (MF.wA m3 w3 (by decide) _)).mono (fun r i q => q.elim id (fun q => ⟨q.1, by omega, by omega⟩)) (fun r q => q.elim id id), fun q hq => ?_⟩
        rw [m3.rA (by decide) (by decide)]
        by_cases ej : q = j
        · rw [if_pos ⟨rfl, by omega⟩, if_pos ⟨by omega, by omega⟩]
        · rw [if_neg (fun z => ej (by omega)), z3 q hq]
          by_cases q2 : q < j ∧ q < c
          · rw [if_pos q2, if_pos ⟨by omega, q2.2⟩]
          · rw [if_neg q2, if_neg (fun z => q2 ⟨by omega, z.2⟩)]
    · intro h3 ⟨x3, z3⟩
      have m3 := m2.mf x3
      have g29 : hA h3 (ad 29) k = nI (lHo s).length := by rw [MF.a m2 x3 (by decide) (fun q => absurd q.1 (by decide)), r2 _ _ (by decide), if_neg (fun z => absurd z.1 (by decide))]; exact f29
      refine s_132_58 (k3 := m3.1) (e5 := m3.r29) (k6 := m3.k29) (i7 := vs m3.n29) (kt := fun _ => s_132_99 ⟨rfl, fin h3 x3 (fun q hq => ?_)⟩) (kf := fun z => absurd (by rw [ec, g29]; exact nI_le (Nat.le_refl _) (by omega)) z)
      rw [z3 q hq]
      by_cases qc : q < c
      · rw [if_pos ⟨hq, qc⟩, if_pos qc]
      · rw [if_neg (fun z => qc z.2), if_neg qc]
end MC
