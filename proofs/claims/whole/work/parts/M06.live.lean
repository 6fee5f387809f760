/-! the model: objectIn, isNoteLive, isLive, liveUnits -/
def fsH (h : hpT) (y : Nat → Nat) (b : Option (Nat × Nat × Nat)) (h' : hpT) : Prop := match b with
  | none => h' = h
  | some p => h' = hpI h 864 (y 12) (nI p.1)
def ntR (st : Nat → Int32) (T : List slT) (x c a nm : Int32) (en : Nat) : Bool := tFold (notM T c a nm en) (fun s => (lEn (T.getD s sl0)).length) T x false
def ntL (st : Nat → Int32) (T : List slT) (x c a nm : Int32) (en : Nat) : Int32 := if ¬ tFold (ackM c) (thT st T) T x 1 = a then 0 else if ntR st T x c a nm en = true then 0 else 1
def livT (st : Nat → Int32) (T : List slT) (g e i : Nat) : Int32 :=
  if mE ((lEn (T.getD g sl0)).getD e en0) i 0 = 2 then ntL st T (lLg (T.getD g sl0)) (mE ((lEn (T.getD g sl0)).getD e en0) i 1) (mE ((lEn (T.getD g sl0)).getD e en0) i 7) (nI (lNm (T.getD g sl0))) e
  else if mE ((lEn (T.getD g sl0)).getD e en0) i 0 = 3 then (if tFold (verM (mE ((lEn (T.getD g sl0)).getD e en0) i 3)) (thT st T) T (lLg (T.getD g sl0)) 0 = mE ((lEn (T.getD g sl0)).getD e en0) i 6 then 1 else 0)
  else if mE ((lEn (T.getD g sl0)).getD e en0) i 0 = 4 then (if T.any (fun s => decide (lLg s = lLg (T.getD g sl0)) && decide (nI (lNm s) = mE ((lEn (T.getD g sl0)).getD e en0) i 8)) = true then 1 else 0)
  else if mE ((lEn (T.getD g sl0)).getD e en0) i 0 = 5 then (if mE ((lEn (T.getD g sl0)).getD e en0) i 2 < tFold (ackM (mE ((lEn (T.getD g sl0)).getD e en0) i 1)) (thT st T) T (lLg (T.getD g sl0)) 1 then 0 else 1)
  else 0
def lvT1 (st : Nat → Int32) (T : List slT) (g e i : Nat) : Int32 := if livT st T g e i = 0 then 0 else mU (mE ((lEn (T.getD g sl0)).getD e en0) i 0)
def lvuT (st : Nat → Int32) (T : List slT) (g : Nat) : Int32 := (List.range (lEn (T.getD g sl0)).length).foldl (fun t e => t + lvT1 st T g e 0 + lvT1 st T g e 1) 0
section MT
variable {g : gcT} {P : pmT} {h h' h1 : hpT} {y ad : Nat → Nat} {T : List slT} {i j k n N e f : Nat} {x1 x2 x3 x4 : Int32}
theorem m_objectIn (m : HM h y ad) (tb : TB h y ad T) : EvI g P 124 [va_rf (some (y 12)), .int x1, .int x2] h (fun h' r => r = oPx (tFold (objM x2 (tFold (verM x2) (thT (hA h (ad 5)) T) T x1 0)) (thT (hA h (ad 5)) T) T x1 none) ∧ fsH h y (tFold (objM x2 (tFold (verM x2) (thT (hA h (ad 5)) T) T x1 0)) (thT (hA h (ad 5)) T) T x1 none) h') := by
  have l6 := tb.2.1
  refine e_124 (s_124_0 (k3 := m.1) (hc := m_versionIn m tb) (kk := fun h2 x ⟨e1, e2⟩ => s_124_6 ?_))
  subst e1; subst e2
  generalize tFold (verM x2) (thT (hA h2 (ad 5)) T) T x1 0 = x3
  generalize hR0 : tFold (objM x2 x3) (thT (hA h2 (ad 5)) T) T x1 none = R0
  have lp := trip (objM x2 x3) (thT (hA h2 (ad 5)) T) T x1 none
    (fun s b => match b with
      | some p => R0 = some p
      | none => ∀ o5 o6 o7 o8 : Option Value, Ev g P 124 10 [some (va_rf (some (y 12))), some (.int x1), some (.int x2), some (.int x3), some (.int (nI s)), o5, o6, o7, o8] [] h2 (fun h2' r => ∃ x, r = some (.int x) ∧ x = oPx R0 ∧ fsH h2 y R0 h2'))
    (fun s e b => match b with
      | some p => R0 = some p
      | none => ∀ o7 o8 : Option Value, Ev g P 124 44 [some (va_rf (some (y 12))), some (.int x1), some (.int x2), some (.int x3), some (.int (nI s)), some (.int (nI (thT (hA h2 (ad 5)) T s))), some (.int (nI e)), o7, o8] [] h2 (fun h2' r => ∃ x, r = some (.int x) ∧ x = oPx R0 ∧ fsH h2 y R0 h2'))
    (fun s e i b => match b with
      | some p => R0 = some p
      | none => ∀ o8 : Option Value, Ev g P 124 54 [some (va_rf (some (y 12))), some (.int x1), some (.int x2), some (.int x3), some (.int (nI s)), some (.int (nI (thT (hA h2 (ad 5)) T s))), some (.int (nI e)), some (.int (nI i)), o8] [] h2 (fun h2' r => ∃ x, r = some (.int x) ∧ x = oPx R0 ∧ fsH h2 y R0 h2'))
    ?_ ?_ ?_ ?_ ?_ ?_ ?_
  · rw [nI_0] at lp; exact lp none none none none
  · intro s b hs q kn
    cases b with
    | some p => exact kn
    | none =>
      intro o5 o6 o7 o8
      have ei : (nI s).toNatClampNeg = s := nI_clamp (by omega)
      have e24 := (tb.s hs).1.1
      refine s_124_10 (k3 := m.1) (kt := fun z => absurd z (by rw [tb.1]; exact nI_ge hs (by omega))) (kf := fun _ => ?_)
      refine s_124_19 (k3 := m.1) (e5 := m.r24) (k6 := m.k24) (i7 := by rw [m.n24]; exact vin_nI (by omega) (by decide)) (kt := fun z => absurd (by rw [ei, e24] at z; exact z) q) (kf := fun _ => s_124_30 (s_124_134 ?_))
      rw [nI_1]; exact kn _ _ _ _
  · intro s b hs q kn
    cases b with
    | some p => exact kn
    | none =>
      intro o5 o6 o7 o8
      have ei : (nI s).toNatClampNeg = s := nI_clamp (by omega)
      have e24 := (tb.s hs).1.1
      refine s_124_10 (k3 := m.1) (kt := fun z => absurd z (by rw [tb.1]; exact nI_ge hs (by omega))) (kf := fun _ => ?_)
      refine s_124_19 (k3 := m.1) (e5 := m.r24) (k6 := m.k24) (i7 := by rw [m.n24]; exact vin_nI (by omega) (by decide)) (kt := fun _ => ?_) (kf := fun z => absurd (by rw [ei, e24]; exact q) z)
      refine s_124_33 (k3 := m.1) (hc := m_there m tb hs) (kk := fun h3 x ⟨e1, e2⟩ => s_124_39 ?_)
      subst e1; subst e2
      rw [nI_0] at kn; exact kn _ _
  · intro s e b hs q he kn
    cases b with
    | some p => exact kn
    | none =>
      intro o7 o8
      have := tb.th (hA h2 (ad 5)) hs
      refine s_124_44 (kt := fun z => absurd z (nI_ge he (by omega))) (kf := fun _ => s_124_51 ?_)
      rw [nI_0] at kn; exact kn _
  · intro s b hs q kn
    cases b with
    | some p => exact kn
    | none =>
      intro o7 o8
      have := tb.th (hA h2 (ad 5)) hs
      refine s_124_44 (kt := fun _ => s_124_134 ?_) (kf := fun z => absurd (nI_le (Nat.le_refl _) (by omega)) z)
      rw [nI_1]; exact kn _ _ _ _
  · intro s e i b hs q he hi kn
    cases b with
    | some p => exact kn
    | none =>
      intro o8
      have hth := tb.th (hA h2 (ad 5)) hs
      have hel : e < (lEn (T.getD s sl0)).length := by omega
      obtain ⟨v0, c0⟩ := pcell0 m tb hs hel hi
      obtain ⟨v1, c1⟩ := pcell m tb hs hel hi 3 (by omega)
      obtain ⟨v2, c2⟩ := pcell m tb hs hel hi 6 (by omega)
      refine s_124_54 (kt := fun z => absurd z (nI_ge (b := 2) hi (by decide))) (kf := fun _ => ?_)
      have hat := m_atM (g := g) (P := P) (h := h2) (k := s) (e := e) (i := i) (f := 0)
      rw [nI_0] at hat
      refine s_124_60 (hc := hat) (kk := fun h3 x ⟨e1, e2⟩ => ?_)
      subst e1; subst e2
      generalize hrow : mE ((lEn (T.getD s sl0)).getD e en0) i = row at kn c0 c1 c2
      have nx : objM x2 x3 none s e i row = none → Ev g P 124 122 [some (va_rf (some (y 12))), some (.int x1), some (.int x2), some (.int x3), some (.int (nI s)), some (.int (nI (thT (hA h3 (ad 5)) T s))), some (.int (nI e)), some (.int (nI i)), some (.int (nI (pIx s e i 0)))] [] h3 (fun h2' r => ∃ x, r = some (.int x) ∧ x = oPx R0 ∧ fsH h3 y R0 h2') := by
        intro eb
        rw [eb] at kn
        refine s_124_122 ?_
        rw [nI_1]; exact kn _
      refine s_124_70 (k3 := m.1) (e5 := m.r28) (k6 := m.k28) (i7 := v0) (kt := fun z => nx ?_) (kf := fun z => ?_)
      · rw [c0] at z
        unfold objM; dsimp only; rw [if_pos z]
      · rw [c0] at z
        refine s_124_83 (k3 := m.1) (e5 := m.r28) (k6 := m.k28) (i7 := v1) (kt := fun z1 => nx ?_) (kf := fun z1 => ?_)
        · have z1 : ¬ row 3 = x2 := by rw [← c1]; exact z1
          unfold objM; dsimp only; rw [if_neg (not_not_intro z), if_pos z1]
        · have z1 : row 3 = x2 := by rw [← c1]; exact z1
          refine s_124_96 (k3 := m.1) (e5 := m.r28) (k6 := m.k28) (i7 := v2) (kt := fun z2 => s_124_113 (k3 := m.1) (hq := ⟨_, rfl, ?_⟩)) (kf := fun z2 => s_124_110 (nx ?_))
          · have z2 : row 6 = x3 := by rw [← c2]; exact z2
            have em : objM x2 x3 none s e i row = some (s, e, i) := by unfold objM; dsimp only; rw [if_neg (not_not_intro z), if_neg (not_not_intro z1), if_neg (not_not_intro z2)]
            rw [em] at kn
            have kn : R0 = some (s, e, i) := kn
            subst kn
            exact ⟨rfl, rfl⟩
          · have z2 : ¬ row 6 = x3 := by rw [← c2]; exact z2
            unfold objM; dsimp only; rw [if_neg (not_not_intro z), if_neg (not_not_intro z1), if_pos z2]
  · intro s e b hs q he kn
    cases b with
    | some p => exact kn
    | none =>
      intro o8
      refine s_124_54 (kt := fun _ => s_124_128 ?_) (kf := fun z => absurd (by decide) z)
      rw [nI_1]; exact kn _ _
  · rw [hR0]
    cases R0 with
    | some p => rfl
    | none =>
      intro o5 o6 o7 o8
      exact s_124_10 (k3 := m.1) (kt := fun _ => s_124_140 ⟨_, rfl, rfl, rfl⟩) (kf := fun z => absurd (by rw [tb.1]; exact nI_le (Nat.le_refl _) (by omega)) z)
theorem m_isNoteLive (m : HM h y ad) (tb : TB h y ad T) (hn16 : n < 2 ^ 31) : EvI g P 126 [va_rf (some (y 12)), .int x1, .int x2, .int x3, .int x4, .int (nI n)] h (fun h' r => h' = h ∧ r = ntL (hA h (ad 5)) T x1 x2 x3 x4 n) := by
  have l6 := tb.2.1
  refine e_126 (s_126_0 (k3 := m.1) (hc := m_ackedIn m tb) (kk := fun h2 x ⟨e1, e2⟩ => ?_))
  subst e1; subst e2
  refine s_126_6 (kt := fun za => s_126_12 ?_) (kf := fun za => s_126_10 ⟨_, rfl, rfl, (if_pos za).symm⟩)
  unfold ntL
  rw [if_neg (not_not_intro za)]
  generalize hR0 : ntR (hA h2 (ad 5)) T x1 x2 x3 x4 n = R0
  have lp := trip (notM T x2 x3 x4 n) (fun s => (lEn (T.getD s sl0)).length) T x1 false
    (fun s b => match b with
      | true => R0 = true
      | false => ∀ o7 o8 o9 : Option Value, Ev g P 126 15 [some (va_rf (some (y 12))), some (.int x1), some (.int x2), some (.int x3), some (.int x4), some (.int (nI n)), some (.int (nI s)), o7, o8, o9] [] h2 (fun h' r => ∃ x, r = some (.int x) ∧ h' = h2 ∧ x = if R0 = true then 0 else 1))
    (fun s e b => match b with
      | true => R0 = true
      | false => ∀ o8 o9 : Option Value, Ev g P 126 41 [some (va_rf (some (y 12))), some (.int x1), some (.int x2), some (.int x3), some (.int x4), some (.int (nI n)), some (.int (nI s)), some (.int (nI e)), o8, o9] [] h2 (fun h' r => ∃ x, r = some (.int x) ∧ h' = h2 ∧ x = if R0 = true then 0 else 1))
    (fun s e i b => match b with
      | true => R0 = true
      | false => ∀ o9 : Option Value, Ev g P 126 56 [some (va_rf (some (y 12))), some (.int x1), some (.int x2), some (.int x3), some (.int x4), some (.int (nI n)), some (.int (nI s)), some (.int (nI e)), some (.int (nI i)), o9] [] h2 (fun h' r => ∃ x, r = some (.int x) ∧ h' = h2 ∧ x = if R0 = true then 0 else 1))
    ?_ ?_ ?_ ?_ ?_ ?_ ?_
  · rw [nI_0] at lp; exact lp none none none
  · intro s b hs q kn
    cases b with
    | true => exact kn
    | false =>
      intro o7 o8 o9
      have ei : (nI s).toNatClampNeg = s := nI_clamp (by omega)
      have e24 := (tb.s hs).1.1
      refine s_126_15 (k3 := m.1) (kt := fun z => absurd z (by rw [tb.1]; exact nI_ge hs (by omega))) (kf := fun _ => ?_)
      refine s_126_24 (k3 := m.1) (e5 := m.r24) (k6 := m.k24) (i7 := by rw [m.n24]; exact vin_nI (by omega) (by decide)) (kt := fun z => absurd (by rw [ei, e24] at z; exact z) q) (kf := fun _ => s_126_35 (s_126_182 ?_))
      rw [nI_1]; exact kn _ _ _
  · intro s b hs q kn
    cases b with
    | true => exact kn
    | false =>
      intro o7 o8 o9
      have ei : (nI s).toNatClampNeg = s := nI_clamp (by omega)
      have e24 := (tb.s hs).1.1
      refine s_126_15 (k3 := m.1) (kt := fun z => absurd z (by rw [tb.1]; exact nI_ge hs (by omega))) (kf := fun _ => ?_)
      refine s_126_24 (k3 := m.1) (e5 := m.r24) (k6 := m.k24) (i7 := by rw [m.n24]; exact vin_nI (by omega) (by decide)) (kt := fun _ => s_126_38 ?_) (kf := fun z => absurd (by rw [ei, e24]; exact q) z)
      rw [nI_0] at kn; exact kn _ _
  · intro s e b hs q he kn
    cases b with
    | true => exact kn
    | false =>
      intro o8 o9
      have ei : (nI s).toNatClampNeg = s := nI_clamp (by omega)
      obtain ⟨-, ⟨e27, l16, -⟩, -⟩ := tb.s hs
      refine s_126_41 (k3 := m.1) (e5 := m.r27) (k6 := m.k27) (i7 := by rw [m.n27]; exact vin_nI (by omega) (by decide)) (kt := fun z => absurd z (by rw [ei, e27]; exact nI_ge he (by omega))) (kf := fun _ => s_126_53 ?_)
      rw [nI_0] at kn; exact kn _
  · intro s b hs q kn
    cases b with
    | true => exact kn
    | false =>
      intro o8 o9
      have ei : (nI s).toNatClampNeg = s := nI_clamp (by omega)
      obtain ⟨-, ⟨e27, l16, -⟩, -⟩ := tb.s hs
      refine s_126_41 (k3 := m.1) (e5 := m.r27) (k6 := m.k27) (i7 := by rw [m.n27]; exact vin_nI (by omega) (by decide)) (kt := fun _ => s_126_182 ?_) (kf := fun z => absurd (by rw [ei, e27]; exact nI_le (Nat.le_refl _) (by omega)) z)
      rw [nI_1]; exact kn _ _ _
  · intro s e i b hs q he hi kn
    cases b with
    | true => exact kn
    | false =>
      intro o9
      have ei : (nI s).toNatClampNeg = s := nI_clamp (by omega)
      have l16 := (tb.th (hA h2 (ad 5)) hs).2
      obtain ⟨e24, e25, -, lnm⟩ := (tb.s hs).1
      have vs : vinD (nI s) (hN h2 (ad 25)) := by rw [m.n25]; exact vin_nI (by omega) (by decide)
      obtain ⟨v0, c0⟩ := pcell0 m tb hs he hi
      obtain ⟨v1, c1⟩ := pcell m tb hs he hi 1 (by omega)
      obtain ⟨v7, c7⟩ := pcell m tb hs he hi 7 (by omega)
      refine s_126_56 (kt := fun z => absurd z (nI_ge (b := 2) hi (by decide))) (kf := fun _ => ?_)
      have hat := m_atM (g := g) (P := P) (h := h2) (k := s) (e := e) (i := i) (f := 0)
      rw [nI_0] at hat
      refine s_126_62 (hc := hat) (kk := fun h3 x ⟨e1, e2⟩ => ?_)
      subst e1; subst e2
      generalize hrow : mE ((lEn (T.getD s sl0)).getD e en0) i = row at kn c0 c1 c7
      have nx : notM T x2 x3 x4 n false s e i row = false → Ev g P 126 170 [some (va_rf (some (y 12))), some (.int x1), some (.int x2), some (.int x3), some (.int x4), some (.int (nI n)), some (.int (nI s)), some (.int (nI e)), some (.int (nI i)), some (.int (nI (pIx s e i 0)))] [] h3 (fun h' r => ∃ x, r = some (.int x) ∧ h' = h3 ∧ x = if R0 = true then 0 else 1) := by
        intro eb
        rw [eb] at kn
        refine s_126_170 ?_
        rw [nI_1]; exact kn _
      have bad : notM T x2 x3 x4 n false s e i row = true → Ev g P 126 168 [some (va_rf (some (y 12))), some (.int x1), some (.int x2), some (.int x3), some (.int x4), some (.int (nI n)), some (.int (nI s)), some (.int (nI e)), some (.int (nI i)), some (.int (nI (pIx s e i 0)))] [] h3 (fun h' r => ∃ x, r = some (.int x) ∧ h' = h3 ∧ x = if R0 = true then 0 else 1) := by
        intro eb
        rw [eb] at kn
        exact s_126_168 ⟨_, rfl, rfl, (if_pos kn).symm⟩
      have nf : ∀ {b : Bool}, (¬ b = true) → b = false := fun {b} q => by cases b; rfl; exact absurd rfl q
      have p96 : row 0 = 5 ∨ row 0 = 2 → Ev g P 126 96 [some (va_rf (some (y 12))), some (.int x1), some (.int x2), some (.int x3), some (.int x4), some (.int (nI n)), some (.int (nI s)), some (.int (nI e)), some (.int (nI i)), some (.int (nI (pIx s e i 0)))] [] h3 (fun h' r => ∃ x, r = some (.int x) ∧ h' = h3 ∧ x = if R0 = true then 0 else 1) := by
        intro q0
        refine s_126_96 (k3 := m.1) (e5 := m.r28) (k6 := m.k28) (i7 := v1) (kt := fun z => nx ?_) (kf := fun z => ?_)
        · have z : ¬ row 1 = x2 := by rw [← c1]; exact z
          simp [notM, z]
        · have z : row 1 = x2 := by rw [← c1]; exact z
          refine s_126_109 (k3 := m.1) (e5 := m.r28) (k6 := m.k28) (i7 := v7) (kt := fun z1 => ?_) (kf := fun z1 => s_126_123 (nx ?_))
          · have z1 : row 7 = x3 := by rw [← c7]; exact z1
            refine s_126_126 (k3 := m.1) (e5 := m.r28) (k6 := m.k28) (i7 := v0) (kt := fun z2 => bad ?_) (kf := fun z2 => ?_)
            · have z2 : row 0 = 5 := by rw [← c0]; exact z2
              simp [notM, z, z1, z2]
            · have z2 : ¬ row 0 = 5 := by rw [← c0]; exact z2
              have q2 : row 0 = 2 := q0.resolve_left z2
              refine s_126_137 (k3 := m.1) (e5 := m.r25) (k6 := m.k25) (i7 := vs) (kt := fun z3 => bad ?_) (kf := fun z3 => ?_)
              · rw [ei, e25] at z3
                simp only [notM, z, z1, q2, z3, decide_true, Bool.and_true, Bool.true_and, Bool.or_true, Bool.true_or, or_true, Bool.false_or]
              · rw [ei, e25] at z3
                refine s_126_149 (k3 := m.1) (e5 := m.r25) (k6 := m.k25) (i7 := vs) (kt := fun z4 => nx ?_) (kf := fun z4 => s_126_161 (kt := fun z5 => nx ?_) (kf := fun z5 => bad ?_))
                · rw [ei, e25] at z4
                  refine nf (fun q => ?_)
                  unfold notM at q
                  simp only [Bool.false_or, Bool.and_eq_true, Bool.or_eq_true, decide_eq_true_eq] at q
                  rcases q.2 with (q | q) | q
                  · exact z2 q
                  · exact z3 q
                  · exact z4 q.1
                · rw [ei, e25] at z4
                  have z5 := (nI_leI hn16 (by omega)).mp z5
                  refine nf (fun q => ?_)
                  unfold notM at q
                  simp only [Bool.false_or, Bool.and_eq_true, Bool.or_eq_true, decide_eq_true_eq] at q
                  rcases q.2 with (q | q) | q
                  · exact z2 q
                  · exact z3 q
                  · omega
                · rw [ei, e25] at z4
                  have z5 : e < n := by
                    rcases Nat.lt_or_ge e n with q | q
                    · exact q
                    · exact absurd (nI_le q (by omega)) z5
                  simp only [notM, z, z1, q2, z4, z5, decide_true, Bool.and_true, Bool.true_and, Bool.or_true, Bool.true_or, or_true, Bool.false_or]
          · have z1 : ¬ row 7 = x3 := by rw [← c7]; exact z1
            simp [notM, z1]
      refine s_126_72 (k3 := m.1) (e5 := m.r28) (k6 := m.k28) (i7 := v0) (kt := fun z => p96 (Or.inl (by rw [← c0]; exact z))) (kf := fun z => s_126_85 (k3 := m.1) (e5 := m.r28) (k6 := m.k28) (i7 := v0) (kt := fun z1 => nx ?_) (kf := fun z1 => p96 (Or.inr (by rw [← c0]; exact z1))))
      rw [c0] at z z1
      simp [notM, z, z1]
  · intro s e b hs q he kn
    cases b with
    | true => exact kn
    | false =>
      intro o9
      refine s_126_56 (kt := fun _ => s_126_176 ?_) (kf := fun z => absurd (by decide) z)
      rw [nI_1]; exact kn _ _
  · have hR1 : tFold (notM T x2 x3 x4 n) (fun s => (lEn (T.getD s sl0)).length) T x1 false = R0 := hR0
    rw [hR1]
    cases R0 with
    | true => rfl
    | false =>
      intro o7 o8 o9
      exact s_126_15 (k3 := m.1) (kt := fun _ => s_126_188 ⟨_, rfl, rfl, rfl⟩) (kf := fun z => absurd (by rw [tb.1]; exact nI_le (Nat.le_refl _) (by omega)) z)
end MT
