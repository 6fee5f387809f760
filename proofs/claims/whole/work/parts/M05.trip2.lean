/-! the model: versionIn, greatest, objectIn, resultIn, isNoteLive -/
section MT
variable {g : gcT} {P : pmT} {h h' h1 : hpT} {y ad : Nat → Nat} {T : List slT} {i j k n N e f : Nat} {x1 x2 x3 x4 : Int32}
theorem m_versionIn (m : HM h y ad) (tb : TB h y ad T) : EvI g P 123 [va_rf (some (y 12)), .int x1, .int x2] h (fun h' r => h' = h ∧ r = tFold (verM x2) (thT (hA h (ad 5)) T) T x1 0) := by
  have l6 := tb.2.1
  refine e_123 (s_123_0 ?_)
  have lp := trip (verM x2) (thT (hA h (ad 5)) T) T x1 0
    (fun s b => ∀ o5 o6 o7 o8 o9 : Option Value, Ev g P 123 5 [some (va_rf (some (y 12))), some (.int x1), some (.int x2), some (.int b), some (.int (nI s)), o5, o6, o7, o8, o9] [] h (fun h' r => ∃ x, r = some (.int x) ∧ h' = h ∧ x = tFold (verM x2) (thT (hA h (ad 5)) T) T x1 0))
    (fun s e b => ∀ o7 o8 o9 : Option Value, Ev g P 123 39 [some (va_rf (some (y 12))), some (.int x1), some (.int x2), some (.int b), some (.int (nI s)), some (.int (nI (thT (hA h (ad 5)) T s))), some (.int (nI e)), o7, o8, o9] [] h (fun h' r => ∃ x, r = some (.int x) ∧ h' = h ∧ x = tFold (verM x2) (thT (hA h (ad 5)) T) T x1 0))
    (fun s e i b => ∀ o8 o9 : Option Value, Ev g P 123 49 [some (va_rf (some (y 12))), some (.int x1), some (.int x2), some (.int b), some (.int (nI s)), some (.int (nI (thT (hA h (ad 5)) T s))), some (.int (nI e)), some (.int (nI i)), o8, o9] [] h (fun h' r => ∃ x, r = some (.int x) ∧ h' = h ∧ x = tFold (verM x2) (thT (hA h (ad 5)) T) T x1 0))
    ?_ ?_ ?_ ?_ ?_ ?_ ?_
  · rw [nI_0] at lp; exact lp none none none none none
  · intro s b hs q kn o5 o6 o7 o8 o9
    have ei : (nI s).toNatClampNeg = s := nI_clamp (by omega)
    have e24 := (tb.s hs).1.1
    refine s_123_5 (k3 := m.1) (kt := fun z => absurd z (by rw [tb.1]; exact nI_ge hs (by omega))) (kf := fun _ => ?_)
    refine s_123_14 (k3 := m.1) (e5 := m.r24) (k6 := m.k24) (i7 := by rw [m.n24]; exact vin_nI (by omega) (by decide)) (kt := fun z => absurd (by rw [ei, e24] at z; exact z) q) (kf := fun _ => s_123_25 (s_123_138 ?_))
    rw [nI_1]; exact kn _ _ _ _ _
  · intro s b hs q kn o5 o6 o7 o8 o9
    have ei : (nI s).toNatClampNeg = s := nI_clamp (by omega)
    have e24 := (tb.s hs).1.1
    refine s_123_5 (k3 := m.1) (kt := fun z => absurd z (by rw [tb.1]; exact nI_ge hs (by omega))) (kf := fun _ => ?_)
    refine s_123_14 (k3 := m.1) (e5 := m.r24) (k6 := m.k24) (i7 := by rw [m.n24]; exact vin_nI (by omega) (by decide)) (kt := fun _ => ?_) (kf := fun z => absurd (by rw [ei, e24]; exact q) z)
    refine s_123_28 (k3 := m.1) (hc := m_there m tb hs) (kk := fun h2 x ⟨e1, e2⟩ => s_123_34 ?_)
    subst e1; subst e2
    rw [nI_0] at kn; exact kn _ _ _
  · intro s e b hs q he kn o7 o8 o9
    have := tb.th (hA h (ad 5)) hs
    refine s_123_39 (kt := fun z => absurd z (nI_ge he (by omega))) (kf := fun _ => s_123_46 ?_)
    rw [nI_0] at kn; exact kn _ _
  · intro s b hs q kn o7 o8 o9
    have := tb.th (hA h (ad 5)) hs
    refine s_123_39 (kt := fun _ => s_123_138 ?_) (kf := fun z => absurd (nI_le (Nat.le_refl _) (by omega)) z)
    rw [nI_1]; exact kn _ _ _ _ _
  · intro s e i b hs q he hi kn o8 o9
    have hth := tb.th (hA h (ad 5)) hs
    have hel : e < (lEn (T.getD s sl0)).length := by omega
    obtain ⟨v0, c0⟩ := pcell0 m tb hs hel hi
    obtain ⟨v1, c1⟩ := pcell m tb hs hel hi 3 (by omega)
    obtain ⟨v7, c7⟩ := pcell m tb hs hel hi 6 (by omega)
    refine s_123_49 (kt := fun z => absurd z (nI_ge (b := 2) hi (by decide))) (kf := fun _ => ?_)
    have hat := m_atM (g := g) (P := P) (h := h) (k := s) (e := e) (i := i) (f := 0)
    rw [nI_0] at hat
    refine s_123_55 (hc := hat) (kk := fun h2 x ⟨e1, e2⟩ => ?_)
    subst e1; subst e2
    generalize hrow : mE ((lEn (T.getD s sl0)).getD e en0) i = row at kn c0 c1 c7
    have nx : ∀ b' x9, b' = verM x2 b s e i row → Ev g P 123 126 [some (va_rf (some (y 12))), some (.int x1), some (.int x2), some (.int b'), some (.int (nI s)), some (.int (nI (thT (hA h2 (ad 5)) T s))), some (.int (nI e)), some (.int (nI i)), some (.int (nI (pIx s e i 0))), some (.int x9)] [] h2 (fun h' r => ∃ x, r = some (.int x) ∧ h' = h2 ∧ x = tFold (verM x2) (thT (hA h2 (ad 5)) T) T x1 0) := by
      intro b' x9 eb
      refine s_123_126 ?_
      rw [nI_1, eb]; exact kn _ _
    have p88 : row 0 = 3 ∨ row 0 = 4 → ∀ x9, Ev g P 123 88 [some (va_rf (some (y 12))), some (.int x1), some (.int x2), some (.int b), some (.int (nI s)), some (.int (nI (thT (hA h2 (ad 5)) T s))), some (.int (nI e)), some (.int (nI i)), some (.int (nI (pIx s e i 0))), some (.int x9)] [] h2 (fun h' r => ∃ x, r = some (.int x) ∧ h' = h2 ∧ x = tFold (verM x2) (thT (hA h2 (ad 5)) T) T x1 0) := by
      intro q0 x9
      refine s_123_88 (k3 := m.1) (e5 := m.r28) (k6 := m.k28) (i7 := v1) (kt := fun z => nx b _ ?_) (kf := fun z => ?_)
      · have z : ¬ row 3 = x2 := by rw [← c1]; exact z
        unfold verM; rw [if_neg (not_not_intro q0), if_pos z]
      · have z : row 3 = x2 := by rw [← c1]; exact z
        refine s_123_101 (k3 := m.1) (e5 := m.r28) (k6 := m.k28) (i7 := v7) (kt := fun z1 => nx b _ ?_) (kf := fun z1 => s_123_115 (k3 := m.1) (e5 := m.r28) (k6 := m.k28) (i7 := v7) (kk := nx _ _ ?_))
        · have z1 : row 6 ≤ b := by rw [← c7]; exact z1
          unfold verM; rw [if_neg (not_not_intro q0), if_neg (not_not_intro z), if_pos z1]
        · have z1 : ¬ row 6 ≤ b := by rw [← c7]; exact z1
          unfold verM; rw [if_neg (not_not_intro q0), if_neg (not_not_intro z), if_neg z1]
          exact c7
    refine s_123_65 (k3 := m.1) (e5 := m.r28) (k6 := m.k28) (i7 := v0) (kt := fun z => p88 (Or.inl (by rw [← c0]; exact z)) _) (kf := fun z => s_123_82 (kt := fun z1 => nx b _ ?_) (kf := fun z1 => p88 (Or.inr (by rw [← c0]; exact z1)) _))
    unfold verM
    rw [if_pos]
    rintro (q' | q')
    · exact z (by rw [c0]; exact q')
    · exact z1 (by rw [c0]; exact q')
  · intro s e b hs q he kn o8 o9
    refine s_123_49 (kt := fun _ => s_123_132 ?_) (kf := fun z => absurd (by decide) z)
    rw [nI_1]; exact kn _ _ _
  · intro o5 o6 o7 o8 o9
    exact s_123_5 (k3 := m.1) (kt := fun _ => s_123_144 ⟨_, rfl, rfl, rfl⟩) (kf := fun z => absurd (by rw [tb.1]; exact nI_le (Nat.le_refl _) (by omega)) z)
theorem m_greatest (m : HM h y ad) (tb : TB h y ad T) : EvI g P 170 [va_rf (some (y 12)), .int x1] h (fun h' r => h' = h ∧ r = tFold greM (thT (hA h (ad 5)) T) T x1 0) := by
  have l6 := tb.2.1
  refine e_170 (s_170_0 ?_)
  have lp := trip greM (thT (hA h (ad 5)) T) T x1 0
    (fun s b => ∀ o5 o6 o7 : Option Value, Ev g P 170 4 [some (va_rf (some (y 12))), some (.int x1), some (.int b), some (.int (nI s)), o5, o6, o7] [] h (fun h' r => ∃ x, r = some (.int x) ∧ h' = h ∧ x = tFold greM (thT (hA h (ad 5)) T) T x1 0))
    (fun s e b => ∀ o7 : Option Value, Ev g P 170 35 [some (va_rf (some (y 12))), some (.int x1), some (.int b), some (.int (nI s)), some (.int (nI (thT (hA h (ad 5)) T s))), some (.int (nI e)), o7] [] h (fun h' r => ∃ x, r = some (.int x) ∧ h' = h ∧ x = tFold greM (thT (hA h (ad 5)) T) T x1 0))
    (fun s e i b => Ev g P 170 45 [some (va_rf (some (y 12))), some (.int x1), some (.int b), some (.int (nI s)), some (.int (nI (thT (hA h (ad 5)) T s))), some (.int (nI e)), some (.int (nI i))] [] h (fun h' r => ∃ x, r = some (.int x) ∧ h' = h ∧ x = tFold greM (thT (hA h (ad 5)) T) T x1 0))
    ?_ ?_ ?_ ?_ ?_ ?_ ?_
  · rw [nI_0] at lp; exact lp none none none
  · intro s b hs q kn o5 o6 o7
    have ei : (nI s).toNatClampNeg = s := nI_clamp (by omega)
    have e24 := (tb.s hs).1.1
    refine s_170_4 (k3 := m.1) (kt := fun z => absurd z (by rw [tb.1]; exact nI_ge hs (by omega))) (kf := fun _ => ?_)
    refine s_170_12 (k3 := m.1) (e5 := m.r24) (k6 := m.k24) (i7 := by rw [m.n24]; exact vin_nI (by omega) (by decide)) (kt := fun z => absurd (by rw [ei, e24] at z; exact z) q) (kf := fun _ => s_170_22 (s_170_115 ?_))
    rw [nI_1]; exact kn _ _ _
  · intro s b hs q kn o5 o6 o7
    have ei : (nI s).toNatClampNeg = s := nI_clamp (by omega)
    have e24 := (tb.s hs).1.1
    refine s_170_4 (k3 := m.1) (kt := fun z => absurd z (by rw [tb.1]; exact nI_ge hs (by omega))) (kf := fun _ => ?_)
    refine s_170_12 (k3 := m.1) (e5 := m.r24) (k6 := m.k24) (i7 := by rw [m.n24]; exact vin_nI (by omega) (by decide)) (kt := fun _ => ?_) (kf := fun z => absurd (by rw [ei, e24]; exact q) z)
    refine s_170_25 (k3 := m.1) (hc := m_there m tb hs) (kk := fun h2 x ⟨e1, e2⟩ => s_170_30 ?_)
    subst e1; subst e2
    rw [nI_0] at kn; exact kn _
  · intro s e b hs q he kn o7
    have := tb.th (hA h (ad 5)) hs
    refine s_170_35 (kt := fun z => absurd z (nI_ge he (by omega))) (kf := fun _ => s_170_42 ?_)
    rw [nI_0] at kn; exact kn
  · intro s b hs q kn o7
    have := tb.th (hA h (ad 5)) hs
    refine s_170_35 (kt := fun _ => s_170_115 ?_) (kf := fun z => absurd (nI_le (Nat.le_refl _) (by omega)) z)
    rw [nI_1]; exact kn _ _ _
  · intro s e i b hs q he hi kn
    have hth := tb.th (hA h (ad 5)) hs
    have hel : e < (lEn (T.getD s sl0)).length := by omega
    obtain ⟨v0, c0⟩ := pcell0 m tb hs hel hi
    obtain ⟨v6, c6⟩ := pcell m tb hs hel hi 6 (by omega)
    have ef : nI (pIx s e i 0) + nI 6 = nI (pIx s e i 6) := by rw [nI_add]; rfl
    rw [ef] at v6 c6
    refine s_170_45 (kt := fun z => absurd z (nI_ge (b := 2) hi (by decide))) (kf := fun _ => ?_)
    have hat := m_atM (g := g) (P := P) (h := h) (k := s) (e := e) (i := i) (f := 0)
    rw [nI_0] at hat
    have hat6 : EvI g P 108 [.int (nI s), .int (nI e), .int (nI i), .int 6] h (fun h' r => h' = h ∧ r = nI (pIx s e i 6)) := m_atM (g := g) (P := P) (h := h) (k := s) (e := e) (i := i) (f := 6)
    refine s_170_51 (k3 := m.1) (hc := hat) (kk := fun h2 x ⟨e1, e2⟩ => ?_)
    subst e1; subst e2
    generalize hrow : mE ((lEn (T.getD s sl0)).getD e en0) i = row at kn c0 c6
    have nx : ∀ b', b' = greM b s e i row → Ev g P 170 103 [some (va_rf (some (y 12))), some (.int x1), some (.int b'), some (.int (nI s)), some (.int (nI (thT (hA h2 (ad 5)) T s))), some (.int (nI e)), some (.int (nI i))] [] h2 (fun h' r => ∃ x, r = some (.int x) ∧ h' = h2 ∧ x = tFold greM (thT (hA h2 (ad 5)) T) T x1 0) := by
      intro b' eb
      refine s_170_103 ?_
      rw [nI_1, eb]; exact kn
    refine s_170_64 (e2 := m.r28) (k3 := m.k28) (i4 := v0) (kt := fun z => nx b ?_) (kf := fun z => ?_)
    · rw [c0] at z
      unfold greM; rw [if_pos z]
    · rw [c0] at z
      refine s_170_68 (k3 := m.1) (hc := hat6) (kk := fun h3 x ⟨e1, e2⟩ => ?_)
      subst e1; subst e2
      refine s_170_82 (e2 := m.r28) (k3 := m.k28) (i4 := v6) (kt := fun z1 => nx b ?_) (kf := fun z1 => ?_)
      · rw [c6] at z1
        unfold greM; rw [if_neg z, if_pos z1]
      · rw [c6] at z1
        refine s_170_87 (k3 := m.1) (hc := hat6) (kk := fun h4 x ⟨e1, e2⟩ => ?_)
        subst e1; subst e2
        refine s_170_101 (e2 := m.r28) (k3 := m.k28) (i4 := v6) (kk := nx _ ?_)
        unfold greM; rw [if_neg z, if_neg z1]; exact c6
  · intro s e b hs q he kn
    refine s_170_45 (kt := fun _ => s_170_109 ?_) (kf := fun z => absurd (by decide) z)
    rw [nI_1]; exact kn _
  · intro o5 o6 o7
    exact s_170_4 (k3 := m.1) (kt := fun _ => s_170_121 ⟨_, rfl, rfl, rfl⟩) (kf := fun z => absurd (by rw [tb.1]; exact nI_le (Nat.le_refl _) (by omega)) z)
theorem m_resultIn (m : HM h y ad) (tb : TB h y ad T) : EvI g P 125 [va_rf (some (y 12)), .int x1, .int x2, .int x3] h (fun h' r => h' = h ∧ r = oPx (tFold (resM x2 x3) (thT (hA h (ad 5)) T) T x1 none)) := by
  have l6 := tb.2.1
  refine e_125 (s_125_0 ?_)
  generalize hR0 : tFold (resM x2 x3) (thT (hA h (ad 5)) T) T x1 none = R0
  have lp := trip (resM x2 x3) (thT (hA h (ad 5)) T) T x1 none
    (fun s b => match b with
      | some p => R0 = some p
      | none => ∀ o5 o6 o7 o8 : Option Value, Ev g P 125 3 [some (va_rf (some (y 12))), some (.int x1), some (.int x2), some (.int x3), some (.int (nI s)), o5, o6, o7, o8] [] h (fun h' r => ∃ x, r = some (.int x) ∧ h' = h ∧ x = oPx R0))
    (fun s e b => match b with
      | some p => R0 = some p
      | none => ∀ o7 o8 : Option Value, Ev g P 125 37 [some (va_rf (some (y 12))), some (.int x1), some (.int x2), some (.int x3), some (.int (nI s)), some (.int (nI (thT (hA h (ad 5)) T s))), some (.int (nI e)), o7, o8] [] h (fun h' r => ∃ x, r = some (.int x) ∧ h' = h ∧ x = oPx R0))
    (fun s e i b => match b with
      | some p => R0 = some p
      | none => ∀ o8 : Option Value, Ev g P 125 47 [some (va_rf (some (y 12))), some (.int x1), some (.int x2), some (.int x3), some (.int (nI s)), some (.int (nI (thT (hA h (ad 5)) T s))), some (.int (nI e)), some (.int (nI i)), o8] [] h (fun h' r => ∃ x, r = some (.int x) ∧ h' = h ∧ x = oPx R0))
    ?_ ?_ ?_ ?_ ?_ ?_ ?_
  · rw [nI_0] at lp; exact lp none none none none
  · intro s b hs q kn
    cases b with
    | some p => exact kn
    | none =>
      intro o5 o6 o7 o8
      have ei : (nI s).toNatClampNeg = s := nI_clamp (by omega)
      have e24 := (tb.s hs).1.1
      refine s_125_3 (k3 := m.1) (kt := fun z => absurd z (by rw [tb.1]; exact nI_ge hs (by omega))) (kf := fun _ => ?_)
      refine s_125_12 (k3 := m.1) (e5 := m.r24) (k6 := m.k24) (i7 := by rw [m.n24]; exact vin_nI (by omega) (by decide)) (kt := fun z => absurd (by rw [ei, e24] at z; exact z) q) (kf := fun _ => s_125_23 (s_125_117 ?_))
      rw [nI_1]; exact kn _ _ _ _
  · intro s b hs q kn
    cases b with
    | some p => exact kn
    | none =>
      intro o5 o6 o7 o8
      have ei : (nI s).toNatClampNeg = s := nI_clamp (by omega)
      have e24 := (tb.s hs).1.1
      refine s_125_3 (k3 := m.1) (kt := fun z => absurd z (by rw [tb.1]; exact nI_ge hs (by omega))) (kf := fun _ => ?_)
      refine s_125_12 (k3 := m.1) (e5 := m.r24) (k6 := m.k24) (i7 := by rw [m.n24]; exact vin_nI (by omega) (by decide)) (kt := fun _ => ?_) (kf := fun z => absurd (by rw [ei, e24]; exact q) z)
      refine s_125_26 (k3 := m.1) (hc := m_there m tb hs) (kk := fun h2 x ⟨e1, e2⟩ => s_125_32 ?_)
      subst e1; subst e2
      rw [nI_0] at kn; exact kn _ _
  · intro s e b hs q he kn
    cases b with
    | some p => exact kn
    | none =>
      intro o7 o8
      have := tb.th (hA h (ad 5)) hs
      refine s_125_37 (kt := fun z => absurd z (nI_ge he (by omega))) (kf := fun _ => s_125_44 ?_)
      rw [nI_0] at kn; exact kn _
  · intro s b hs q kn
    cases b with
    | some p => exact kn
    | none =>
      intro o7 o8
      have := tb.th (hA h (ad 5)) hs
      refine s_125_37 (kt := fun _ => s_125_117 ?_) (kf := fun z => absurd (nI_le (Nat.le_refl _) (by omega)) z)
      rw [nI_1]; exact kn _ _ _ _
  · intro s e i b hs q he hi kn
    cases b with
    | some p => exact kn
    | none =>
      intro o8
      have hth := tb.th (hA h (ad 5)) hs
      have hel : e < (lEn (T.getD s sl0)).length := by omega
      obtain ⟨v0, c0⟩ := pcell0 m tb hs hel hi
      obtain ⟨v1, c1⟩ := pcell m tb hs hel hi 1 (by omega)
      obtain ⟨v2, c2⟩ := pcell m tb hs hel hi 2 (by omega)
      refine s_125_47 (kt := fun z => absurd z (nI_ge (b := 2) hi (by decide))) (kf := fun _ => ?_)
      have hat := m_atM (g := g) (P := P) (h := h) (k := s) (e := e) (i := i) (f := 0)
      rw [nI_0] at hat
      refine s_125_53 (hc := hat) (kk := fun h2 x ⟨e1, e2⟩ => ?_)
      subst e1; subst e2
      generalize hrow : mE ((lEn (T.getD s sl0)).getD e en0) i = row at kn c0 c1 c2
      have nx : resM x2 x3 none s e i row = none → Ev g P 125 105 [some (va_rf (some (y 12))), some (.int x1), some (.int x2), some (.int x3), some (.int (nI s)), some (.int (nI (thT (hA h2 (ad 5)) T s))), some (.int (nI e)), some (.int (nI i)), some (.int (nI (pIx s e i 0)))] [] h2 (fun h' r => ∃ x, r = some (.int x) ∧ h' = h2 ∧ x = oPx R0) := by
        intro eb
        rw [eb] at kn
        refine s_125_105 ?_
        rw [nI_1]; exact kn _
      refine s_125_63 (k3 := m.1) (e5 := m.r28) (k6 := m.k28) (i7 := v0) (kt := fun z => nx ?_) (kf := fun z => ?_)
      · rw [c0] at z
        unfold resM; dsimp only; rw [if_pos z]
      · rw [c0] at z
        refine s_125_76 (k3 := m.1) (e5 := m.r28) (k6 := m.k28) (i7 := v1) (kt := fun z1 => nx ?_) (kf := fun z1 => ?_)
        · have z1 : ¬ row 1 = x2 := by rw [← c1]; exact z1
          unfold resM; dsimp only; rw [if_neg (not_not_intro z), if_pos z1]
        · have z1 : row 1 = x2 := by rw [← c1]; exact z1
          refine s_125_89 (k3 := m.1) (e5 := m.r28) (k6 := m.k28) (i7 := v2) (kt := fun z2 => nx ?_) (kf := fun z2 => s_125_102 ⟨_, rfl, rfl, ?_⟩)
          · have z2 : ¬ row 2 = x3 := by rw [← c2]; exact z2
            unfold resM; dsimp only; rw [if_neg (not_not_intro z), if_neg (not_not_intro z1), if_pos z2]
          · have z2 : row 2 = x3 := by rw [← c2]; exact z2
            have em : resM x2 x3 none s e i row = some (s, e, i) := by unfold resM; dsimp only; rw [if_neg (not_not_intro z), if_neg (not_not_intro z1), if_neg (not_not_intro z2)]
            rw [em] at kn
            rw [kn]; rfl
  · intro s e b hs q he kn
    cases b with
    | some p => exact kn
    | none =>
      intro o8
      refine s_125_47 (kt := fun _ => s_125_111 ?_) (kf := fun z => absurd (by decide) z)
      rw [nI_1]; exact kn _ _
  · rw [hR0]
    cases R0 with
    | some p => rfl
    | none =>
      intro o5 o6 o7 o8
      exact s_125_3 (k3 := m.1) (kt := fun _ => s_125_123 ⟨_, rfl, rfl, rfl⟩) (kf := fun z => absurd (by rw [tb.1]; exact nI_le (Nat.le_refl _) (by omega)) z)
end MT
