/-! the model: segment -/
def sgK (T : List slT) (x : Int32) : Nat → Option Nat
  | 0 => nxT T x (-1)
  | i + 1 => match sgK T x i with
    | none => none
    | some k => nxT T x (nI (lNm (T.getD k sl0)))
def sg1 (μ : mT) (k : Nat) (x : Int32) : Int32 := if x = 0 then nI (lNm (μ.1.getD k sl0)) else if x = 1 then nI (lEn (μ.1.getD k sl0)).length else if x = 2 then usT (lEn (μ.1.getD k sl0)) else if x = 3 then lvuT (μ.2.1 5) μ.1 k else if x = 4 then nI (lHo (μ.1.getD k sl0)).length else if x = 5 then nI (hoU (μ.2.1 5) (μ.1.getD k sl0)) else -1
def sgQ (μ : mT) (b : Option Nat) (x : Int32) : Int32 := match b with
  | none => -1
  | some k => sg1 μ k x
def segM (y : Nat → Nat) (μ : mT) (x1 x2 x3 : Int32) : Int32 := if isM y x1 = 0 then -1 else if x2 < 0 then -1 else sgQ μ (sgK μ.1 x1 x2.toNatClampNeg) x3
section MSg
variable {g : gcT} {P : pmT} {h h' h1 h2 : hpT} {y ad : Nat → Nat} {i j k n nm m e f c v p q d : Nat} {x x1 x2 x3 x4 : Int32} {μ μ' : mT} {T : List slT} {Q : hpT → Option Value → Prop}
theorem sgK_lt : ∀ {i k : Nat}, sgK T x i = some k → k < T.length := by
  intro i
  cases i with
  | zero => intro k q; exact (nxT_p q).1
  | succ i =>
    intro k q
    have q : (match sgK T x i with | none => none | some k => nxT T x (nI (lNm (T.getD k sl0)))) = some k := q
    split at q
    · cases q
    · exact (nxT_p q).1
theorem sgK_n : ∀ (d : Nat) {i : Nat}, sgK T x i = none → sgK T x (i + d) = none := by
  intro d
  induction d with
  | zero => intro i q; exact q
  | succ d ih =>
    intro i q
    have := ih q
    show (match sgK T x (i + d) with | none => none | some k => nxT T x (nI (lNm (T.getD k sl0)))) = none
    rw [this]
theorem m_segment (mw : MW h y ad μ) (mk : MK0 y (sn0 μ)) : EvI g P 180 [va_rf (some (y 12)), .int x1, .int x2, .int x3] h (fun h' r => r = segM y (sn0 μ) x1 x2 x3 ∧ MG y ad h h' ∧ MW h' y ad (sn0 μ)) := by
  have mw0 : MW (hpI h 836 (y 12) 0) y ad (sn0 μ) := mw.wN (k := 4) rfl (by decide) (by decide)
  have g0 : MG y ad h (hpI h 836 (y 12) 0) := mw.gN (k := 4) rfl
  refine e_180 (s_180_0 (k3 := mw.1.1) (hc := m_isSrvM mw0 mk) (kk := fun h1 x' ⟨q1, q2⟩ => ?_))
  subst q1; subst q2
  generalize hpI h 836 (y 12) 0 = H0 at mw0 g0 ⊢
  generalize sn0 μ = μ at mw0 mk ⊢
  unfold segM
  by_cases q : isM y x1 = 0
  · rw [if_pos q]
    exact s_180_10 (kt := fun _ => s_180_17 ⟨_, rfl, rfl, g0, mw0⟩) (kf := fun z => absurd q z)
  · rw [if_neg q]
    refine s_180_10 (kt := fun z => absurd z q) (kf := fun _ => ?_)
    by_cases q2 : x2 < 0
    · rw [if_pos q2]
      exact s_180_13 (kt := fun z => absurd q2 (Int32.not_lt.mpr z)) (kf := fun _ => s_180_17 ⟨_, rfl, rfl, g0, mw0⟩)
    · rw [if_neg q2]
      have eb := nI_back (x := x2) (Int32.not_lt.mp q2)
      have lt := clN_lt x2
      have l6 := mw0.2.2.1.2.1
      refine s_180_13 (kt := fun _ => ?_) (kf := fun z => absurd (Int32.not_lt.mp q2) z)
      refine s_180_19 (k3 := mw0.1.1) (hc := m_next mw0.1 mw0.2.2.1) (kk := fun h1 x' ⟨q1, q2⟩ => s_180_25 ?_)
      subst q1; subst q2
      generalize x2.toNatClampNeg = n at eb lt ⊢
      subst eb
      have neg : ∀ k, k < μ.1.length → ¬ nI k = -1 := fun k hk q => by
        have := nI_pos (n := k) (by omega)
        rw [q] at this
        exact absurd this (by decide)
      have fin : ∀ b x5, (∀ k, b = some k → k < μ.1.length) → sgQ μ b x3 = sgQ μ (sgK μ.1 x1 n) x3 → Ev g P 180 62 [some (va_rf (some (y 12))), some (.int x1), some (.int (nI n)), some (.int x3), some (.int (oI b)), some (.int x5)] [] h1 (fun h' r => ∃ x, r = some (.int x) ∧ x = sgQ μ (sgK μ.1 x1 n) x3 ∧ MG y ad h h' ∧ MW h' y ad μ) := by
        intro b x5 hb eq
        rw [← eq]
        cases b with
        | none => exact s_180_62 (kt := fun z => absurd rfl z) (kf := fun _ => s_180_68 ⟨_, rfl, rfl, g0, mw0⟩)
        | some k =>
          have hk := hb k rfl
          have ek : (nI k).toNatClampNeg = k := nI_clamp (by omega)
          obtain ⟨⟨a1, a2, a3, a4⟩, ⟨b1, b2, b3⟩, c1, c2, c3⟩ := mw0.2.2.1.s hk
          have v6 : ∀ {h : hpT} {a}, hN h a = 6000 → vinD (nI k) (hN h a) := fun e => by rw [e]; exact vin_nI (by omega) (by decide)
          have hlu := m_liveUnits (g := g) (P := P) mw0.1 mw0.2.2.1 hk
          have hhu := m_holdersUp (g := g) (P := P) mw0.1 mw0.2.2.1 hk
          rw [mw0.rw (r := 5) rfl] at hlu hhu
          refine s_180_62 (kt := fun _ => ?_) (kf := fun z => absurd z (neg k hk))
          refine s_180_70 (k1000 := fun z => ?_) (k1001 := fun z => ?_) (k1002 := fun z => ?_) (k1003 := fun z => ?_) (k1004 := fun z => ?_) (k1005 := fun z => ?_) (kd := fun z => ?_)
          · subst z; exact s_180_108 (k3 := mw0.1.1) (e5 := mw0.1.r25) (k6 := mw0.1.k25) (i7 := v6 mw0.1.n25) (hq := ⟨_, rfl, by rw [show oI (some k) = nI k from rfl, ek]; exact a2, g0, mw0⟩)
          · subst z; exact s_180_116 (k3 := mw0.1.1) (e5 := mw0.1.r27) (k6 := mw0.1.k27) (i7 := v6 mw0.1.n27) (hq := ⟨_, rfl, by rw [show oI (some k) = nI k from rfl, ek]; exact b1, g0, mw0⟩)
          · subst z; exact s_180_124 (k3 := mw0.1.1) (hc := m_used mw0.1 mw0.2.2.1 hk) (kk := fun h2 x' ⟨q1, q2⟩ => by subst q1; exact s_180_130 ⟨_, rfl, q2, g0, mw0⟩)
          · subst z; exact s_180_131 (k3 := mw0.1.1) (hc := hlu) (kk := fun h2 x' ⟨q1, q2⟩ => by subst q1; exact s_180_137 ⟨_, rfl, q2, g0, mw0⟩)
          · subst z; exact s_180_138 (k3 := mw0.1.1) (e5 := mw0.1.r29) (k6 := mw0.1.k29) (i7 := v6 mw0.1.n29) (hq := ⟨_, rfl, by rw [show oI (some k) = nI k from rfl, ek]; exact c1, g0, mw0⟩)
          · subst z; exact s_180_146 (k3 := mw0.1.1) (hc := hhu) (kk := fun h2 x' ⟨q1, q2⟩ => by subst q1; exact s_180_152 ⟨_, rfl, q2, g0, mw0⟩)
          · refine s_180_153 ⟨_, rfl, ?_, g0, mw0⟩
            have nz : ∀ k : Int32, (¬ (k.toInt < 0 ∨ 5 < k.toInt)) → ¬ x3 = k := fun k hk q => by subst q; exact hk z
            show -1 = sg1 μ k x3
            unfold sg1
            rw [if_neg (nz 0 (by decide)), if_neg (nz 1 (by decide)), if_neg (nz 2 (by decide)), if_neg (nz 3 (by decide)), if_neg (nz 4 (by decide)), if_neg (nz 5 (by decide))]
      have lp : ∀ (d i : Nat), i + d = n → Ev g P 180 30 [some (va_rf (some (y 12))), some (.int x1), some (.int (nI n)), some (.int x3), some (.int (oI (sgK μ.1 x1 i))), some (.int (nI i))] [] h1 (fun h' r => ∃ x, r = some (.int x) ∧ x = sgQ μ (sgK μ.1 x1 n) x3 ∧ MG y ad h h' ∧ MW h' y ad μ) := by
        intro d
        induction d with
        | zero =>
          intro i e
          have e : i = n := e
          subst e
          exact s_180_30 (kt := fun _ => fin _ _ (fun k q => sgK_lt q) rfl) (kf := fun z => absurd (nI_le (Nat.le_refl _) (by omega)) z)
        | succ d ih =>
          intro i e
          refine s_180_30 (kt := fun z => absurd z (nI_ge (by omega) (by omega))) (kf := fun _ => ?_)
          cases eo : sgK μ.1 x1 i with
          | none =>
            have en := sgK_n (d + 1) eo
            rw [e] at en
            exact s_180_36 (kt := fun _ => fin none _ (fun k q => by cases q) (by rw [en])) (kf := fun z => absurd rfl z)
          | some k =>
            have hk := sgK_lt eo
            have ek : (nI k).toNatClampNeg = k := nI_clamp (by omega)
            have e25 : hA h1 (ad 25) (nI k).toNatClampNeg = nI (lNm (μ.1.getD k sl0)) := by rw [ek]; exact (mw0.2.2.1.s hk).1.2.1
            have hnx := m_next (g := g) (P := P) (x1 := x1) (x2 := hA h1 (ad 25) (nI k).toNatClampNeg) mw0.1 mw0.2.2.1
            refine s_180_36 (kt := fun z => absurd z (neg k hk)) (kf := fun _ => ?_)
            refine s_180_42 (k3 := mw0.1.1) (e5 := mw0.1.r25) (k6 := mw0.1.k25) (i7 := by rw [mw0.1.n25]; exact vin_nI (by omega) (by decide)) (hc := hnx) (kk := fun h2 x' ⟨q1, q2⟩ => s_180_54 ?_)
            subst q1; subst q2
            rw [e25, nI_1]
            have es : sgK μ.1 x1 (i + 1) = nxT μ.1 x1 (nI (lNm (μ.1.getD k sl0))) := by
              show (match sgK μ.1 x1 i with | none => none | some k => nxT μ.1 x1 (nI (lNm (μ.1.getD k sl0)))) = _
              rw [eo]
            rw [← es]
            exact ih (i + 1) (by omega)
      have := lp n 0 (by omega)
      rw [nI_0] at this
      exact this
end MSg
