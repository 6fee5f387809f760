/-! the model: HOLDERS, RING, there -/
def rgL (N b k d : Nat) (m : Nat) : List Nat := match d with
  | 0 => []
  | d + 1 => if (b + k) % N = m then rgL N b (k + 1) d m else (b + k) % N :: rgL N b (k + 1) d m
section MS
variable {g : gcT} {P : pmT} {h h' h1 : hpT} {y ad : Nat → Nat} {T : List slT} {i j k n N : Nat} {x1 x2 x3 : Int32}
theorem m_isHolder (m : HM h y ad) (tb : TB h y ad T) (hk : k < T.length) : EvI g P 117 [va_rf (some (y 12)), .int (nI k), .int x2] h (fun h' r => h' = h ∧ r = if (lHo (T.getD k sl0)).any (fun x => decide (nI x.1 = x2)) = true then 1 else 0) := by
  have l6 := tb.2.1
  obtain ⟨-, -, e29, l8, kh⟩ := tb.s hk
  have ec : (nI k).toNatClampNeg = k := nI_clamp (by omega)
  have v29 : vinD (nI k) (hN h (ad 29)) := by rw [m.n29]; exact vin_nI (by omega) (by decide)
  refine e_117 (s_117_0 ?_)
  have lp := find_loop (lHo (T.getD k sl0)) (fun x => decide (nI x.1 = x2)) (fun s => Ev g P 117 2 [some (va_rf (some (y 12))), some (.int (nI k)), some (.int x2), some (.int (nI s))] [] h (fun h' r => ∃ x, r = some (.int x) ∧ h' = h ∧ x = if (lHo (T.getD k sl0)).any (fun x => decide (nI x.1 = x2)) = true then 1 else 0)) (fun _ => (lHo (T.getD k sl0)).any (fun x => decide (nI x.1 = x2)) = true) ?_ ?_ (fun x hx => List.any_eq_true.mpr ⟨x, List.mem_of_find?_eq_some hx, by have q := List.find?_some hx; exact q⟩) ?_
  · rw [nI_0] at lp; exact lp
  · intro s hs hp hf
    have e30 := (kh s hs).1
    rw [gD_lt hs] at e30
    have e8 := ix8 k s
    have c8 : (nI (8 * k + s)).toNatClampNeg = 8 * k + s := nI_clamp (by omega)
    refine s_117_2 (k3 := m.1) (e5 := m.r29) (k6 := m.k29) (i7 := v29) (kt := fun z => absurd z (by rw [ec, e29]; exact nI_ge hs (by omega))) (kf := fun _ => ?_)
    exact s_117_12 (k3 := m.1) (e5 := m.r30) (k6 := m.k30) (i7 := by rw [e8, m.n30]; exact vin_nI (by omega) (by decide)) (kt := fun z => absurd (by rw [e8, c8, e30]; exact of_decide_eq_true hp) z) (kf := fun _ => s_117_27 ⟨_, rfl, rfl, (if_pos hf).symm⟩)
  · intro s hs hp kn
    have e30 := (kh s hs).1
    rw [gD_lt hs] at e30
    have e8 := ix8 k s
    have c8 : (nI (8 * k + s)).toNatClampNeg = 8 * k + s := nI_clamp (by omega)
    refine s_117_2 (k3 := m.1) (e5 := m.r29) (k6 := m.k29) (i7 := v29) (kt := fun z => absurd z (by rw [ec, e29]; exact nI_ge hs (by omega))) (kf := fun _ => ?_)
    refine s_117_12 (k3 := m.1) (e5 := m.r30) (k6 := m.k30) (i7 := by rw [e8, m.n30]; exact vin_nI (by omega) (by decide)) (kt := fun _ => s_117_29 (by rw [nI_1]; exact kn)) (kf := fun z => absurd (by rw [e8, c8, e30] at z; exact z) (of_decide_eq_false hp))
  · intro hn
    refine s_117_2 (k3 := m.1) (e5 := m.r29) (k6 := m.k29) (i7 := v29) (kt := fun _ => s_117_35 ⟨_, rfl, rfl, ?_⟩) (kf := fun z => absurd (by rw [ec, e29]; exact nI_le (Nat.le_refl _) (by omega)) z)
    rw [if_neg]
    intro q
    obtain ⟨x, hx, px⟩ := List.any_eq_true.mp q
    exact absurd px (List.find?_eq_none.mp hn x hx)
theorem m_holdersUp (m : HM h y ad) (tb : TB h y ad T) (hk : k < T.length) : EvI g P 119 [va_rf (some (y 12)), .int (nI k)] h (fun h' r => h' = h ∧ r = nI (hoU (hA h (ad 5)) (T.getD k sl0))) := by
  have l6 := tb.2.1
  obtain ⟨-, -, e29, l8, kh⟩ := tb.s hk
  have ec : (nI k).toNatClampNeg = k := nI_clamp (by omega)
  have v29 : vinD (nI k) (hN h (ad 29)) := by rw [m.n29]; exact vin_nI (by omega) (by decide)
  refine e_119 (s_119_0 ?_)
  have lp := fold_loop (lHo (T.getD k sl0)) (fun t x => if hA h (ad 5) x.1 = 0 then t + 1 else t) (fun s t => Ev g P 119 4 [some (va_rf (some (y 12))), some (.int (nI k)), some (.int (nI t)), some (.int (nI s))] [] h (fun h' r => ∃ x, r = some (.int x) ∧ h' = h ∧ x = nI (hoU (hA h (ad 5)) (T.getD k sl0)))) ?_ 0 ?_
  · rw [nI_0] at lp; exact lp
  · intro s t hs kn
    obtain ⟨e30, -, l88, -⟩ := kh s hs
    rw [gD_lt hs] at e30 l88
    have e8 := ix8 k s
    have c8 : (nI (8 * k + s)).toNatClampNeg = 8 * k + s := nI_clamp (by omega)
    have hup := m_isUpM (g := g) (P := P) m l88
    rw [← e30, ← c8, ← e8] at hup
    refine s_119_4 (k3 := m.1) (e5 := m.r29) (k6 := m.k29) (i7 := v29) (kt := fun z => absurd z (by rw [ec, e29]; exact nI_ge hs (by omega))) (kf := fun _ => ?_)
    refine s_119_14 (k3 := m.1) (e5 := m.r30) (k6 := m.k30) (i7 := by rw [e8, m.n30]; exact vin_nI (by omega) (by decide)) (hc := hup) (kk := fun h2 x ⟨e1, e2⟩ => ?_)
    subst e1; subst e2
    by_cases q : hA h2 (ad 5) (lHo (T.getD k sl0))[s].1 = 0
    · rw [if_pos q] at kn ⊢
      refine s_119_30 (kt := fun z => absurd z (by decide)) (kf := fun _ => s_119_33 (s_119_38 ?_))
      rw [nI_1, nI_1]; exact kn
    · rw [if_neg q] at kn ⊢
      refine s_119_30 (kt := fun _ => s_119_37 (s_119_38 ?_)) (kf := fun z => absurd rfl z)
      rw [Int32.add_zero, nI_1]; exact kn
  · exact s_119_4 (k3 := m.1) (e5 := m.r29) (k6 := m.k29) (i7 := v29) (kt := fun _ => s_119_46 ⟨_, rfl, rfl, rfl⟩) (kf := fun z => absurd (by rw [ec, e29]; exact nI_le (Nat.le_refl _) (by omega)) z)
theorem m_there (m : HM h y ad) (tb : TB h y ad T) (hk : k < T.length) : EvI g P 121 [va_rf (some (y 12)), .int (nI k)] h (fun h' r => h' = h ∧ r = nI (thT (hA h (ad 5)) T k)) := by
  have l6 := tb.2.1
  obtain ⟨⟨e24, -⟩, ⟨e27, l16, -⟩, e29, l8, kh⟩ := tb.s hk
  have ec : (nI k).toNatClampNeg = k := nI_clamp (by omega)
  have vs : ∀ {a}, hN h a = 6000 → vinD (nI k) (hN h a) := fun e => by rw [e]; exact vin_nI (by omega) (by decide)
  have all : thT (hA h (ad 5)) T k = (lEn (T.getD k sl0)).length → Ev g P 121 25 [some (va_rf (some (y 12))), some (.int (nI k)), none, none] [] h (fun h' r => ∃ x, r = some (.int x) ∧ h' = h ∧ x = nI (thT (hA h (ad 5)) T k)) := by
    intro q
    refine s_121_25 (k3 := m.1) (e5 := m.r27) (k6 := m.k27) (i7 := vs m.n27) (hq := ⟨_, rfl, rfl, ?_⟩)
    rw [ec, e27, q]
  refine e_121 (s_121_0 (k3 := m.1) (e5 := m.r24) (k6 := m.k24) (i7 := vs m.n24) (kt := fun z => all ?_) (kf := fun z => ?_))
  · rw [ec, e24] at z
    unfold thT
    rw [if_pos z]
  · rw [ec, e24] at z
    have hla := m_latest (g := g) (P := P) (x1 := hA h (ad 24) (nI k).toNatClampNeg) m tb
    refine s_121_11 (k3 := m.1) (e5 := m.r24) (k6 := m.k24) (i7 := vs m.n24) (hc := hla) (kk := fun h2 x ⟨e1, e2⟩ => ?_)
    subst e1; subst e2
    rw [ec, e24]
    have ltn : ∀ j, laT T (lLg (T.getD k sl0)) = some j → j < T.length := fun j hj => laT_lt (n := T.length) (List.range T.length) none (fun g hg => List.mem_range.mp hg) (fun k hk => by cases hk) j hj
    refine s_121_22 (kt := fun z1 => s_121_32 ?_) (kf := fun z1 => all ?_)
    · have el : laT T (lLg (T.getD k sl0)) = some k := by
        cases hl : laT T (lLg (T.getD k sl0)) with
        | none => rw [hl] at z1; exact absurd z1.symm (fun q => oI_ne (g := k) (by omega) q.symm)
        | some j =>
          rw [hl] at z1
          have z1 : nI k = nI j := z1
          have := ltn j hl
          rw [nI_inj (by omega) (by omega) z1]
      have eT : thT (hA h2 (ad 5)) T k = (lHo (T.getD k sl0)).foldl (mstU (hA h2 (ad 5))) 0 := by
        unfold thT
        rw [if_neg z, if_neg (not_not_intro el)]
      rw [eT]
      have lp := fold_loop (lHo (T.getD k sl0)) (mstU (hA h2 (ad 5))) (fun s t => t ≤ 16 → Ev g P 121 36 [some (va_rf (some (y 12))), some (.int (nI k)), some (.int (nI t)), some (.int (nI s))] [] h2 (fun h' r => ∃ x, r = some (.int x) ∧ h' = h2 ∧ x = nI ((lHo (T.getD k sl0)).foldl (mstU (hA h2 (ad 5))) 0))) ?_ 0 ?_
      · rw [nI_0] at lp; exact lp (by omega)
      · intro s t hs kn ht
        obtain ⟨e30, e31, l88, l2⟩ := kh s hs
        rw [gD_lt hs] at e30 e31 l88 l2
        have e8 := ix8 k s
        have c8 : (nI (8 * k + s)).toNatClampNeg = 8 * k + s := nI_clamp (by omega)
        have hup := m_isUpM (g := g) (P := P) m l88
        rw [← e30, ← c8, ← e8] at hup
        have v8 : ∀ {a}, hN h2 a = 48000 → vinD (8 * nI k + nI s) (hN h2 a) := fun e => by rw [e8, e]; exact vin_nI (by omega) (by decide)
        have no : ¬ (hA h2 (ad 5) (lHo (T.getD k sl0))[s].1 = 0 ∧ t < (lHo (T.getD k sl0))[s].2) → Ev g P 121 91 [some (va_rf (some (y 12))), some (.int (nI k)), some (.int (nI t)), some (.int (nI s))] [] h2 (fun h' r => ∃ x, r = some (.int x) ∧ h' = h2 ∧ x = nI ((lHo (T.getD k sl0)).foldl (mstU (hA h2 (ad 5))) 0)) := by
          intro q
          have em : mstU (hA h2 (ad 5)) t (lHo (T.getD k sl0))[s] = t := if_neg q
          rw [em] at kn
          refine s_121_91 ?_
          rw [nI_1]; exact kn ht
        refine s_121_36 (k3 := m.1) (e5 := m.r29) (k6 := m.k29) (i7 := vs m.n29) (kt := fun z => absurd z (by rw [ec, e29]; exact nI_ge hs (by omega))) (kf := fun _ => ?_)
        refine s_121_46 (k3 := m.1) (e5 := m.r30) (k6 := m.k30) (i7 := v8 m.n30) (hc := hup) (kk := fun h3 x ⟨e1, e2⟩ => ?_)
        subst e1; subst e2
        by_cases q : hA h3 (ad 5) (lHo (T.getD k sl0))[s].1 = 0
        · rw [if_pos q]
          refine s_121_61 (kt := fun z => absurd z (by decide)) (kf := fun _ => ?_)
          refine s_121_64 (k3 := m.1) (e5 := m.r31) (k6 := m.k31) (i7 := v8 m.n31) (kt := fun z2 => no (fun q2 => ?_)) (kf := fun z2 => s_121_79 (k3 := m.1) (e5 := m.r31) (k6 := m.k31) (i7 := v8 m.n31) (kk := s_121_91 ?_))
          · rw [e8, c8, e31] at z2
            have := (nI_leI (by omega) (by omega)).mp z2
            omega
          · rw [e8, c8, e31] at z2 ⊢
            have lt : t < (lHo (T.getD k sl0))[s].2 := by
              rcases Nat.lt_or_ge t (lHo (T.getD k sl0))[s].2 with z | z
              · exact z
              · exact absurd (nI_le z (by omega)) z2
            have em : mstU (hA h3 (ad 5)) t (lHo (T.getD k sl0))[s] = (lHo (T.getD k sl0))[s].2 := if_pos ⟨q, lt⟩
            rw [em] at kn
            rw [nI_1]; exact kn (by omega)
        · rw [if_neg q]
          exact s_121_61 (kt := fun _ => no (fun z => q z.1)) (kf := fun z => absurd rfl z)
      · intro _
        exact s_121_36 (k3 := m.1) (e5 := m.r29) (k6 := m.k29) (i7 := vs m.n29) (kt := fun _ => s_121_97 ⟨_, rfl, rfl, rfl⟩) (kf := fun z => absurd (by rw [ec, e29]; exact nI_le (Nat.le_refl _) (by omega)) z)
    · unfold thT
      rw [if_neg z, if_pos]
      intro q
      rw [q] at z1
      exact z1 rfl
/-- the RING without the SERVER itself -/
theorem ring_go {b m : Nat} (hm : HM h y ad) (eN : hI h 832 (y 12) = nI N) (hN : 0 < N) (hN8 : N ≤ 8) {x1 x3 : Int32} : ∀ (d k l : Nat), l < (rgL N b k d m).length → m < 8 → k + d ≤ 20 → b < 20 → l < 20 → Ev g P 116 18 [some (va_rf (some (y 12))), some (.int x1), some (.int (nI m)), some (.int x3), some (.int (nI ((b + k) % N))), some (.int (nI l))] [] h (fun h' r => ∃ x, r = some (.int x) ∧ h' = h ∧ x = nI ((rgL N b k d m).getD l 0)) := by
  intro d
  induction d with
  | zero => intro k l hl; exact absurd hl (Nat.not_lt_zero _)
  | succ d ih =>
    intro k l hl hm8 hk hb hl20
    have hlt := Nat.mod_lt (b + k) hN
    have step : ∀ l', l' < (rgL N b (k + 1) d m).length → l' < 20 → Ev g P 116 35 [some (va_rf (some (y 12))), some (.int x1), some (.int (nI m)), some (.int x3), some (.int (nI ((b + k) % N))), some (.int (nI l'))] [] h (fun h' r => ∃ x, r = some (.int x) ∧ h' = h ∧ x = nI ((rgL N b (k + 1) d m).getD l' 0)) := by
      intro l' hl' h20
      refine s_116_35 (k3 := hm.1) (n4 := by rw [eN]; exact nI_ne0 hN (by omega)) (kk := ?_)
      rw [eN, nI_1, pk_rem (by omega) hN (by omega)]
      have e : ((b + k) % N + 1) % N = (b + (k + 1)) % N := by rw [Nat.mod_add_mod, Nat.add_assoc]
      rw [e]
      exact ih (k + 1) l' hl' hm8 (by omega) hb h20
    by_cases q : (b + k) % N = m
    · have e : rgL N b k (d + 1) m = rgL N b (k + 1) d m := by rw [rgL, if_pos q]
      rw [e] at hl ⊢
      exact s_116_18 (kt := fun _ => step l hl hl20) (kf := fun z => absurd (by rw [q]) z)
    · have e : rgL N b k (d + 1) m = (b + k) % N :: rgL N b (k + 1) d m := by rw [rgL, if_neg q]
      rw [e] at hl ⊢
      refine s_116_18 (kt := fun z => absurd (nI_inj (by omega) (by omega) z) q) (kf := fun _ => ?_)
      cases l with
      | zero => exact s_116_24 (kt := fun z => absurd nI_0 z) (kf := fun _ => s_116_29 ⟨_, rfl, rfl, rfl⟩)
      | succ l =>
        refine s_116_24 (kt := fun _ => s_116_32 ?_) (kf := fun z => absurd z (nI_ne0 (by omega) (by omega)))
        rw [nI_m1]
        rw [List.length_cons] at hl
        exact step l (by omega) (by omega)
theorem m_ring {nm m l : Nat} (hm : HM h y ad) (eN : hI h 832 (y 12) = nI N) (hN : 0 < N) (hN8 : N ≤ 8) (hnm : nm ≤ 100000) (hm8 : m < 8) (hl : l < (rgL N ((7 * nm + 3 * m) % N) 0 N m).length) (hl20 : l < 20) : EvI g P 116 [va_rf (some (y 12)), .int (nI nm), .int (nI m), .int (nI l)] h (fun h' r => h' = h ∧ r = nI ((rgL N ((7 * nm + 3 * m) % N) 0 N m).getD l 0)) := by
  have hlt := Nat.mod_lt (7 * nm + 3 * m) hN
  refine e_116 (s_116_0 (k3 := hm.1) (n4 := by rw [eN]; exact nI_ne0 hN (by omega)) (kk := ?_))
  have e : (7 : Int32) * nI nm + 3 * nI m = nI (7 * nm + 3 * m) := by
    rw [show (7 : Int32) = nI 7 from rfl, show (3 : Int32) = nI 3 from rfl, pk_mul, pk_mul, nI_add]
  rw [e, eN, pk_rem (by omega) hN (by omega)]
  have := ring_go (g := g) (P := P) (b := (7 * nm + 3 * m) % N) (m := m) (x1 := nI nm) (x3 := nI l) hm eN hN hN8 N 0 l hl hm8 (by omega) (by omega) hl20
  rw [Nat.add_zero, Nat.mod_eq_of_lt hlt] at this
  exact this
end MS
