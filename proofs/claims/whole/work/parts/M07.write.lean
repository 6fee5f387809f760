/-! the model: isLive, liveUnits; what writes PARTS -/
def CSl (g k i : Nat) : Prop := ((k = 24 ∨ k = 25 ∨ k = 26 ∨ k = 27 ∨ k = 29) ∧ i = g) ∨ (k = 28 ∧ i / 288 = g) ∨ ((k = 30 ∨ k = 31) ∧ i / 8 = g)
def MD (h : hpT) (ad : Nat → Nat) (en : enT) : Prop := ∀ f, f < 9 → hA h (ad 33) f = mPt en.1 f ∧ hA h (ad 33) (9 + f) = mPo en.2 f
def cmS (s : slT) (en : enT) (c : Nat) : slT := (lLg s, lNm s, lOp s, lEn s ++ [en], updH (lHo s) c ((lEn s).length + 1))
def hlS (s : slT) (v : Nat) : slT := (lLg s, lNm s, lOp s, lEn s, lHo s ++ [(v, (lEn s).length)])
section MW
variable {g : gcT} {P : pmT} {h h' h1 : hpT} {y ad : Nat → Nat} {T : List slT} {s s' : slT} {i j k n N e f c v : Nat} {x1 x2 x3 x4 : Int32} {A : Nat → Nat → Prop} {I : Nat → Prop}
theorem m_isLiveM (m : HM h y ad) (tb : TB h y ad T) (hk : k < T.length) (he : e < (lEn (T.getD k sl0)).length) (hi : i < 2) : EvI g P 127 [va_rf (some (y 12)), .int (nI k), .int (nI e), .int (nI i)] h (fun h' r => h' = h ∧ r = livT (hA h (ad 5)) T k e i) := by
  have l6 := tb.2.1
  have ec : (nI k).toNatClampNeg = k := nI_clamp (by omega)
  have l16 := (tb.th (hA h (ad 5)) hk).2
  obtain ⟨e24, e25, -, lnm⟩ := (tb.s hk).1
  have vs : ∀ {a}, hN h a = 6000 → vinD (nI k) (hN h a) := fun e => by rw [e]; exact vin_nI (by omega) (by decide)
  obtain ⟨v0, c0⟩ := pcell0 m tb hk he hi
  have pc := pcell m tb hk he hi
  have hat := m_atM (g := g) (P := P) (h := h) (k := k) (e := e) (i := i) (f := 0)
  rw [nI_0] at hat
  refine e_127 (s_127_0 (hc := hat) (kk := fun h2 x ⟨e1, e2⟩ => ?_))
  subst e1; subst e2
  unfold livT
  generalize hrow : mE ((lEn (T.getD k sl0)).getD e en0) i = row at c0 pc
  obtain ⟨v1, c1⟩ := pc 1 (by omega)
  obtain ⟨v2, c2⟩ := pc 2 (by omega)
  obtain ⟨v3, c3⟩ := pc 3 (by omega)
  obtain ⟨v6, c6⟩ := pc 6 (by omega)
  obtain ⟨v7, c7⟩ := pc 7 (by omega)
  obtain ⟨v8, c8⟩ := pc 8 (by omega)
  have n2 : ∀ {a b : Int32}, row 0 = a → ¬ a = b → ¬ row 0 = b := fun h1 h2 h3 => h2 (h1.symm.trans h3)
  refine s_127_7 (k3 := m.1) (e5 := m.r24) (k6 := m.k24) (i7 := vs m.n24) (e9 := m.r28) (k10 := m.k28) (i11 := v0) (k1000 := fun q => ?_) (k1001 := fun q => ?_) (k1002 := fun q => ?_) (k1003 := fun q => ?_) (kd := fun q => ?_)
  all_goals rw [c0] at q
  all_goals rw [ec, e24]
  · rw [if_pos q]
    have hnt := m_isNoteLive (g := g) (P := P) (x1 := lLg (T.getD k sl0)) (x2 := row 1) (x3 := row 7) (x4 := nI (lNm (T.getD k sl0))) (n := e) m tb (by omega)
    have c1' : hA h2 (ad 28) (nI (pIx k e i 0) + 1).toNatClampNeg = row 1 := c1
    have c7' : hA h2 (ad 28) (nI (pIx k e i 0) + 7).toNatClampNeg = row 7 := c7
    have e25' : hA h2 (ad 25) (nI k).toNatClampNeg = nI (lNm (T.getD k sl0)) := by rw [ec]; exact e25
    rw [← c1', ← c7', ← e25'] at hnt
    refine s_127_140 (k3 := m.1) (e5 := m.r28) (k6 := m.k28) (i7 := v1) (i8 := v7) (e10 := m.r25) (k11 := m.k25) (i12 := vs m.n25) (hc := hnt) (kk := fun h3 x ⟨e1, e2⟩ => s_127_172 (b1 := ?_) (hq := ⟨_, rfl, e1, ?_⟩))
    · rw [e2]
      unfold ntL
      split
      · exact Or.inl rfl
      · split
        · exact Or.inl rfl
        · exact Or.inr rfl
    · rw [e2, c1', c7', e25']
  · rw [if_neg (n2 q (by decide)), if_pos q]
    have hve := m_versionIn (g := g) (P := P) (x1 := lLg (T.getD k sl0)) (x2 := row 3) m tb
    rw [← c3] at hve
    refine s_127_56 (k3 := m.1) (e5 := m.r28) (k6 := m.k28) (i7 := v3) (hc := hve) (kk := fun h3 x ⟨e1, e2⟩ => ?_)
    subst e1; subst e2
    rw [c3]
    refine s_127_71 (k3 := m.1) (e5 := m.r28) (k6 := m.k28) (i7 := v6) (kt := fun z => s_127_88 (s_127_89 (b1 := Or.inl rfl) (hq := ⟨_, rfl, rfl, ?_⟩))) (kf := fun z => s_127_84 (s_127_89 (b1 := Or.inr rfl) (hq := ⟨_, rfl, rfl, ?_⟩)))
    · have z : ¬ tFold (verM (row 3)) (thT (hA h3 (ad 5)) T) T (lLg (T.getD k sl0)) 0 = row 6 := by rw [← c6]; exact z
      rw [if_neg z]
    · have z : tFold (verM (row 3)) (thT (hA h3 (ad 5)) T) T (lLg (T.getD k sl0)) 0 = row 6 := by rw [← c6]; exact z
      rw [if_pos z]
  · rw [if_neg (n2 q (by decide)), if_neg (n2 q (by decide)), if_pos q]
    have hhn := m_hasName (g := g) (P := P) (x1 := lLg (T.getD k sl0)) (x2 := row 8) m tb
    rw [← c8] at hhn
    refine s_127_90 (k3 := m.1) (e5 := m.r28) (k6 := m.k28) (i7 := v8) (hc := hhn) (kk := fun h3 x ⟨e1, e2⟩ => s_127_106 (b1 := ?_) (hq := ⟨_, rfl, e1, ?_⟩))
    · rw [e2]
      split
      · exact Or.inr rfl
      · exact Or.inl rfl
    · rw [e2, c8]
  · rw [if_neg (n2 q (by decide)), if_neg (n2 q (by decide)), if_neg (n2 q (by decide)), if_pos q]
    have hac := m_ackedIn (g := g) (P := P) (x1 := lLg (T.getD k sl0)) (x2 := row 1) m tb
    rw [← c1] at hac
    refine s_127_107 (k3 := m.1) (e5 := m.r28) (k6 := m.k28) (i7 := v2) (i8 := v1) (hc := hac) (kk := fun h3 x ⟨e1, e2⟩ => ?_)
    subst e1; subst e2
    rw [c1]
    have c2' : hA h3 (ad 28) (nI (pIx k e i 0) + 2).toNatClampNeg = row 2 := c2
    rw [c2']
    refine s_127_131 (kt := fun z => s_127_138 (s_127_139 (b1 := Or.inl rfl) (hq := ⟨_, rfl, rfl, (if_pos z).symm⟩))) (kf := fun z => s_127_134 (s_127_139 (b1 := Or.inr rfl) (hq := ⟨_, rfl, rfl, (if_neg z).symm⟩)))
  · rw [if_neg (tI_no q (by decide)), if_neg (tI_no q (by decide)), if_neg (tI_no q (by decide)), if_neg (tI_no q (by decide))]
    exact s_127_173 ⟨_, rfl, rfl, rfl⟩
theorem m_liveUnits (m : HM h y ad) (tb : TB h y ad T) (hk : k < T.length) : EvI g P 128 [va_rf (some (y 12)), .int (nI k)] h (fun h' r => h' = h ∧ r = lvuT (hA h (ad 5)) T k) := by
  have l6 := tb.2.1
  have ec : (nI k).toNatClampNeg = k := nI_clamp (by omega)
  obtain ⟨-, ⟨e27, l16, -⟩, -⟩ := tb.s hk
  have vk : vinD (nI k) (hN h (ad 27)) := by rw [m.n27]; exact vin_nI (by omega) (by decide)
  refine e_128 (s_128_0 ?_)
  have lp := fold_loop (List.range (lEn (T.getD k sl0)).length) (fun t e => t + lvT1 (hA h (ad 5)) T k e 0 + lvT1 (hA h (ad 5)) T k e 1) (fun s t => ∀ o4 : Option Value, Ev g P 128 4 [some (va_rf (some (y 12))), some (.int (nI k)), some (.int t), some (.int (nI s)), o4] [] h (fun h' r => ∃ x, r = some (.int x) ∧ h' = h ∧ x = lvuT (hA h (ad 5)) T k)) ?_ 0 ?_
  · rw [nI_0] at lp; exact lp none
  · intro s t hs kn o4
    rw [List.getElem_range] at kn
    rw [List.length_range] at hs
    have step : ∀ i t, i < 2 → Ev g P 128 17 [some (va_rf (some (y 12))), some (.int (nI k)), some (.int (t + lvT1 (hA h (ad 5)) T k s i)), some (.int (nI s)), some (.int (nI (i + 1)))] [] h (fun h' r => ∃ x, r = some (.int x) ∧ h' = h ∧ x = lvuT (hA h (ad 5)) T k) → Ev g P 128 17 [some (va_rf (some (y 12))), some (.int (nI k)), some (.int t), some (.int (nI s)), some (.int (nI i))] [] h (fun h' r => ∃ x, r = some (.int x) ∧ h' = h ∧ x = lvuT (hA h (ad 5)) T k) := by
      intro i t hi kn2
      obtain ⟨v0, c0⟩ := pcell0 m tb hk hs hi
      refine s_128_17 (kt := fun z => absurd z (nI_ge (b := 2) hi (by decide))) (kf := fun _ => ?_)
      refine s_128_23 (k3 := m.1) (hc := m_isLiveM m tb hk hs hi) (kk := fun h2 x ⟨e1, e2⟩ => ?_)
      subst e1; subst e2
      unfold lvT1 at kn2
      by_cases q : livT (hA h2 (ad 5)) T k s i = 0
      · rw [if_pos q] at kn2
        refine s_128_32 (kt := fun _ => s_128_54 (s_128_55 ?_)) (kf := fun z => absurd q z)
        rw [nI_1]; exact kn2
      · rw [if_neg q] at kn2
        refine s_128_32 (kt := fun z => absurd z q) (kf := fun _ => ?_)
        have hat := m_atM (g := g) (P := P) (h := h2) (k := k) (e := s) (i := i) (f := 0)
        rw [nI_0] at hat
        refine s_128_35 (k3 := m.1) (hc := hat) (kk := fun h3 x ⟨e1, e2⟩ => ?_)
        subst e1; subst e2
        refine s_128_47 (e2 := m.r28) (k3 := m.k28) (i4 := v0) (hc := m_unitsM) (kk := fun h4 x ⟨e1, e2⟩ => s_128_51 (s_128_55 ?_))
        subst e1; subst e2
        rw [c0, nI_1]; exact kn2
    refine s_128_4 (k3 := m.1) (e5 := m.r27) (k6 := m.k27) (i7 := vk) (kt := fun z => absurd z (by rw [ec, e27]; exact nI_ge hs (by omega))) (kf := fun _ => s_128_14 ?_)
    have := step 0 t (by omega) (step 1 _ (by omega) (s_128_17 (kt := fun _ => s_128_63 (by rw [nI_1]; exact kn _)) (kf := fun z => absurd (by decide) z)))
    rw [nI_0] at this
    exact this
  · rw [List.length_range]
    intro o4
    exact s_128_4 (k3 := m.1) (e5 := m.r27) (k6 := m.k27) (i7 := vk) (kt := fun _ => s_128_69 ⟨_, rfl, rfl, rfl⟩) (kf := fun z => absurd (by rw [ec, e27]; exact nI_le (Nat.le_refl _) (by omega)) z)
theorem CSl_p {g e i f : Nat} (he : e < 16) (hi : i < 2) (hf : f < 9) : CSl g 28 (pIx g e i f) := Or.inr (Or.inl ⟨rfl, by unfold pIx; omega⟩)
theorem SL.fr (z : SL h ad k s) (e : ∀ r i, CSl k r i → hA h' (ad r) i = hA h (ad r) i) : SL h' ad k s := by
  obtain ⟨⟨a1, a2, a3, a4⟩, ⟨b1, b2, b3⟩, c1, c2, c3⟩ := z
  refine ⟨⟨by rw [e _ _ (Or.inl ⟨Or.inl rfl, rfl⟩)]; exact a1, by rw [e _ _ (Or.inl ⟨Or.inr (Or.inl rfl), rfl⟩)]; exact a2, by rw [e _ _ (Or.inl ⟨Or.inr (Or.inr (Or.inl rfl)), rfl⟩)]; exact a3, a4⟩, ⟨by rw [e _ _ (Or.inl ⟨Or.inr (Or.inr (Or.inr (Or.inl rfl))), rfl⟩)]; exact b1, b2, fun en he f hf => ?_⟩, by rw [e _ _ (Or.inl ⟨Or.inr (Or.inr (Or.inr (Or.inr rfl))), rfl⟩)]; exact c1, c2, fun j hj => ?_⟩
  · rw [e _ _ (CSl_p (by omega) (by omega) hf), e _ _ (CSl_p (by omega) (by omega) hf)]
    exact b3 en he f hf
  · rw [e _ _ (Or.inr (Or.inr ⟨Or.inl rfl, by omega⟩)), e _ _ (Or.inr (Or.inr ⟨Or.inr rfl, by omega⟩))]
    exact c3 j hj
theorem CSl_a {g r i : Nat} (z : CSl g r i) : aKM r = true := by
  rcases z with ⟨z | z | z | z | z, -⟩ | ⟨z, -⟩ | ⟨z | z, -⟩ <;> (rw [z]; decide)
theorem TB.set (m : HM h y ad) (tb : TB h y ad T) (x : MF y ad A I h h') (hA' : ∀ r i q, A r i → CSl q r i → q = k) (n23 : ¬ I 23) (sl : SL h' ad k s') : TB h' y ad (T.set k s') := by
  obtain ⟨t1, t2, t3⟩ := tb
  refine ⟨by rw [List.length_set, show (855 : Nat) = 832 + 23 from rfl, x.i n23]; exact t1, by rw [List.length_set]; exact t2, fun q hq => ?_⟩
  rw [List.length_set] at hq
  by_cases e : q = k
  · subst e
    rw [gS hq]; exact sl
  · rw [gN e]
    exact (t3 q hq).fr (fun r i z => MF.a m x (CSl_a z) (fun a => e (hA' r i q a z)))
theorem TB.keep (m : HM h y ad) (tb : TB h y ad T) (x : MF y ad A I h h') (hA' : ∀ r i q, A r i → ¬ CSl q r i) (n23 : ¬ I 23) : TB h' y ad T := by
  obtain ⟨t1, t2, t3⟩ := tb
  exact ⟨by rw [show (855 : Nat) = 832 + 23 from rfl, x.i n23]; exact t1, t2, fun q hq => (t3 q hq).fr (fun r i z => MF.a m x (CSl_a z) (fun a => hA' r i q a z))⟩
theorem m_addHolder' (m : HM h y ad) (w : hWF h) (tb : TB h y ad T) (hk : k < T.length) (hl : (lHo (T.getD k sl0)).length < 8) (hv : v < 8) : EvV g P 118 [va_rf (some (y 12)), .int (nI k), .int (nI v)] h (fun h' => MF y ad (fun r i => (r = 29 ∧ i = k) ∨ ((r = 30 ∨ r = 31) ∧ i / 8 = k)) (fun _ => False) h h' ∧ TB h' y ad (T.set k (hlS (T.getD k sl0) v))) := by
  have l6 := tb.2.1
  have ec : (nI k).toNatClampNeg = k := nI_clamp (by omega)
  obtain ⟨⟨a1, a2, a3, a4⟩, ⟨e27, l16, b3⟩, e29, l8, c3⟩ := tb.s hk
  have vs : ∀ {h : hpT} {a}, hN h a = 6000 → vinD (nI k) (hN h a) := fun e => by rw [e]; exact vin_nI (by omega) (by decide)
  have e8 := ix8 k (lHo (T.getD k sl0)).length
  have c8 : (nI (8 * k + (lHo (T.getD k sl0)).length)).toNatClampNeg = 8 * k + (lHo (T.getD k sl0)).length := nI_clamp (by omega)
  have v8 : ∀ {h : hpT} {a}, hN h a = 48000 → vinD (8 * nI k + nI (lHo (T.getD k sl0)).length) (hN h a) := fun e => by rw [e8, e]; exact vin_nI (by omega) (by decide)
  refine e_118 (s_118_0 (k3 := m.1) (e5 := m.r29) (k6 := m.k29) (i7 := vs m.n29) (e9 := m.r30) (k10 := m.k30) (i11 := by rw [ec, e29]; exact v8 m.n30) (kk := ?_))
  rw [ec, e29, e8, c8]
  have x1 := MF.wA m w (k := 30) (i := 8 * k + (lHo (T.getD k sl0)).length) (by decide) (nI v)
  have m1 := m.mf x1
  have r1 : ∀ r i, aKM r = true → hA (hpA h (ad 30) (8 * k + (lHo (T.getD k sl0)).length) (nI v)) (ad r) i = if r = 30 ∧ i = 8 * k + (lHo (T.getD k sl0)).length then nI v else hA h (ad r) i := fun r i hr => m.rA (by decide) hr
  have rR : hR (hpA h (ad 30) (8 * k + (lHo (T.getD k sl0)).length) (nI v)) = hR h := rfl
  have f1 : hA (hpA h (ad 30) (8 * k + (lHo (T.getD k sl0)).length) (nI v)) (ad 29) k = nI (lHo (T.getD k sl0)).length := by rw [r1 _ _ (by decide), if_neg (fun z => absurd z.1 (by decide))]; exact e29
  have f2 : hA (hpA h (ad 30) (8 * k + (lHo (T.getD k sl0)).length) (nI v)) (ad 27) k = nI (lEn (T.getD k sl0)).length := by rw [r1 _ _ (by decide), if_neg (fun z => absurd z.1 (by decide))]; exact e27
  generalize hpA h (ad 30) (8 * k + (lHo (T.getD k sl0)).length) (nI v) = H1 at x1 m1 r1 rR f1 f2 ⊢
  rw [← rR]
  refine s_118_30 (e2 := m1.r29) (k3 := m1.k29) (i4 := vs m1.n29) (k7 := m1.1) (e9 := m1.r27) (k10 := m1.k27) (i11 := vs m1.n27) (e13 := m1.r31) (k14 := m1.k31) (i15 := by rw [ec, f1]; exact v8 m1.n31) (kk := ?_)
  rw [ec, f1, f2, e8, c8]
  have w1 := x1.1.2.2.2
  have x2 := MF.wA m1 w1 (k := 31) (i := 8 * k + (lHo (T.getD k sl0)).length) (by decide) (nI (lEn (T.getD k sl0)).length)
  have m2 := m1.mf x2
  have r2 : ∀ r i, aKM r = true → hA (hpA H1 (ad 31) (8 * k + (lHo (T.getD k sl0)).length) (nI (lEn (T.getD k sl0)).length)) (ad r) i = if r = 31 ∧ i = 8 * k + (lHo (T.getD k sl0)).length then nI (lEn (T.getD k sl0)).length else hA H1 (ad r) i := fun r i hr => m1.rA (by decide) hr
  have rR2 : hR (hpA H1 (ad 31) (8 * k + (lHo (T.getD k sl0)).length) (nI (lEn (T.getD k sl0)).length)) = hR H1 := rfl
  generalize hpA H1 (ad 31) (8 * k + (lHo (T.getD k sl0)).length) (nI (lEn (T.getD k sl0)).length) = H2 at x2 m2 r2 rR2 ⊢
  have f3 : hA H2 (ad 29) k = nI (lHo (T.getD k sl0)).length := by rw [r2 _ _ (by decide), if_neg (fun z => absurd z.1 (by decide))]; exact f1
  rw [← rR2]
  refine s_118_45 (e2 := m2.r29) (k3 := m2.k29) (i4 := vs m2.n29) (e6 := m2.r29) (k7 := m2.k29) (i8 := vs m2.n29) (hq := ⟨rfl, ?_⟩)
  rw [ec, f3, nI_1]
  have w2 := x2.1.2.2.2
  have x3 := MF.wA m2 w2 (k := 29) (i := k) (by decide) (nI ((lHo (T.getD k sl0)).length + 1))
  have r3 : ∀ r i, aKM r = true → hA (hpA H2 (ad 29) k (nI ((lHo (T.getD k sl0)).length + 1))) (ad r) i = if r = 29 ∧ i = k then nI ((lHo (T.getD k sl0)).length + 1) else hA H2 (ad r) i := fun r i hr => m2.rA (by decide) hr
  generalize hpA H2 (ad 29) k (nI ((lHo (T.getD k sl0)).length + 1)) = H3 at x3 r3 ⊢
  have mf : MF y ad (fun r i => (r = 29 ∧ i = k) ∨ ((r = 30 ∨ r = 31) ∧ i / 8 = k)) (fun _ => False) h H3 := ((x1.tr x2).tr x3).mono (fun r i q => by
    rcases q with (q | q) | q
    · exact Or.inr ⟨Or.inl q.1, by rw [q.2]; omega⟩
    · exact Or.inr ⟨Or.inr q.1, by rw [q.2]; omega⟩
    · exact Or.inl q) (fun r q => by rcases q with (q | q) | q <;> exact q)
  refine ⟨mf, TB.set m tb mf (fun r i q a z => ?_) (fun q => q) ?_⟩
  · rcases z with ⟨z, z'⟩ | ⟨z, z'⟩ | ⟨z, z'⟩
    · rcases a with a | a
      · omega
      · omega
    · rcases a with a | a <;> omega
    · rcases a with a | a <;> omega
  · have rd : ∀ r i, aKM r = true → ¬ r = 29 → ¬ ((r = 30 ∨ r = 31) ∧ i = 8 * k + (lHo (T.getD k sl0)).length) → hA H3 (ad r) i = hA h (ad r) i := by
      intro r i hr n1 n2
      rw [r3 _ _ hr, if_neg (fun z => n1 z.1), r2 _ _ hr, if_neg (fun z => n2 ⟨Or.inr z.1, z.2⟩), r1 _ _ hr, if_neg (fun z => n2 ⟨Or.inl z.1, z.2⟩)]
    refine ⟨⟨by rw [rd _ _ (by decide) (by decide) (by omega)]; exact a1, by rw [rd _ _ (by decide) (by decide) (by omega)]; exact a2, by rw [rd _ _ (by decide) (by decide) (by omega)]; exact a3, a4⟩, ⟨by rw [rd _ _ (by decide) (by decide) (by omega)]; exact e27, l16, fun en he f hf => ?_⟩, ?_, ?_, fun j hj => ?_⟩
    · rw [rd _ _ (by decide) (by decide) (by omega), rd _ _ (by decide) (by decide) (by omega)]
      exact b3 en he f hf
    · rw [r3 _ _ (by decide), if_pos ⟨rfl, rfl⟩]
      show _ = nI (lHo (T.getD k sl0) ++ [_]).length
      rw [List.length_append]; rfl
    · show (lHo (T.getD k sl0) ++ [_]).length ≤ 8
      rw [List.length_append]; exact hl
    · have hj : j < (lHo (T.getD k sl0) ++ [(v, (lEn (T.getD k sl0)).length)]).length := hj
      rw [List.length_append] at hj
      have hj : j < (lHo (T.getD k sl0)).length + 1 := hj
      show hA H3 (ad 30) (8 * k + j) = nI ((lHo (T.getD k sl0) ++ [(v, (lEn (T.getD k sl0)).length)]).getD j (0, 0)).1 ∧ hA H3 (ad 31) (8 * k + j) = nI ((lHo (T.getD k sl0) ++ [(v, (lEn (T.getD k sl0)).length)]).getD j (0, 0)).2 ∧ ((lHo (T.getD k sl0) ++ [(v, (lEn (T.getD k sl0)).length)]).getD j (0, 0)).1 < 8 ∧ ((lHo (T.getD k sl0) ++ [(v, (lEn (T.getD k sl0)).length)]).getD j (0, 0)).2 ≤ (lEn (T.getD k sl0)).length
      by_cases ej : j = (lHo (T.getD k sl0)).length
      · rw [ej, gD_app, r3 _ _ (by decide), if_neg (fun z => absurd z.1 (by decide)), r2 _ _ (by decide), if_neg (fun z => absurd z.1 (by decide)), r1 _ _ (by decide), if_pos ⟨rfl, rfl⟩, r3 _ _ (by decide), if_neg (fun z => absurd z.1 (by decide)), r2 _ _ (by decide), if_pos ⟨rfl, rfl⟩]
        exact ⟨rfl, rfl, hv, Nat.le_refl _⟩
      · have eg : (lHo (T.getD k sl0) ++ [(v, (lEn (T.getD k sl0)).length)]).getD j (0, 0) = (lHo (T.getD k sl0)).getD j (0, 0) := by
          rw [List.getD_eq_getElem?_getD, List.getElem?_append_left (by omega), ← List.getD_eq_getElem?_getD]
        rw [eg, rd _ _ (by decide) (by decide) (by omega), rd _ _ (by decide) (by decide) (by omega)]
        exact c3 j (by omega)
end MW
