/-! the model: oneTick, tick -/
def rcW (y : Nat → Nat) : Nat → Nat → Int32 → mT → mT × Int32
  | 0, _, n, μ => (μ, n)
  | k + 1, d, n, μ => if dN μ ≤ d then (μ, n) else if (recM y μ d).2 = 0 then rcW y k (d + 1) n (recM y μ d).1 else rcW y k d (n + 1) (ddM (recM y μ d).1 d)
def lpOK (y : Nat → Nat) : Nat → Nat → mT → Prop
  | 0, d, μ => μ.2.2 56 = nI (dN μ) ∧ dN μ ≤ d ∧ d ≤ 16
  | k + 1, d, μ => (μ.2.2 56 = nI (dN μ) ∧ dN μ ≤ 16 ∧ d ≤ 16) ∧ (d < dN μ → MK0 y μ ∧ (rcN y μ d = false → rcOK y d (μ.2.1 57 d) (List.range' 0 8) μ) ∧ ((recM y μ d).2 = 0 → lpOK y k (d + 1) (recM y μ d).1) ∧ (¬ (recM y μ d).2 = 0 → ((recM y μ d).1.2.2 56 = nI (dN (recM y μ d).1) ∧ d < dN (recM y μ d).1 ∧ dN (recM y μ d).1 ≤ 16 ∧ d58 (dN (recM y μ d).1) (recM y μ d).1) ∧ lpOK y k d (ddM (recM y μ d).1 d)))
def ot1 (μ : mT) : mT := uN μ 15 (μ.2.2 15 + 1)
def ot2 (y : Nat → Nat) (μ : mT) (n : Nat) : mT := (List.range n).foldl (tksM y) (ot1 μ)
def ot3 (y : Nat → Nat) (μ : mT) (n : Nat) : mT := (List.range n).foldl watM (ot2 y μ (y 20))
def on1 (y : Nat → Nat) (μ : mT) : mT × Int32 := if ¬ (ot2 y μ (y 20)).2.2 14 = 0 then (ot2 y μ (y 20), 0) else rcW y (dN (ot3 y μ (y 20))) 0 0 (ot3 y μ (y 20))
def tkK (y : Nat → Nat) (μ : mT) (m : Nat) : Prop := MK0 y μ ∧ hdOK μ m ∧ ∀ k, k < μ.1.length → (lHo (μ.1.getD k sl0)).length < 8
def onOK (y : Nat → Nat) (μ : mT) : Prop := (∀ j, j < y 20 → tkK y (ot2 y μ j) j) ∧ MK0 y (ot2 y μ (y 20)) ∧ ((ot2 y μ (y 20)).2.2 14 = 0 → (∀ j, j < y 20 → MK0 y (ot3 y μ j) ∧ (ot3 y μ j).2.2 56 = nI (dN (ot3 y μ j)) ∧ dN (ot3 y μ j) ≤ 16) ∧ MK0 y (ot3 y μ (y 20)) ∧ lpOK y (dN (ot3 y μ (y 20))) 0 (ot3 y μ (y 20)))
def tc1 (y : Nat → Nat) (st : mT × Int32) (_ : Nat) : mT × Int32 := ((on1 y st.1).1, st.2 + (on1 y st.1).2)
def tcL (y : Nat → Nat) (μ : mT) (n : Nat) : mT × Int32 := (List.range n).foldl (tc1 y) (uN μ 4 0, 0)
def tckM (y : Nat → Nat) (μ : mT) (x : Int32) : mT × Int32 := if x < 0 ∨ 100 < x then (uN μ 4 0, -1) else tcL y μ x.toNatClampNeg
section MV5
variable {g : gcT} {P : pmT} {h h' h1 h2 : hpT} {y ad : Nat → Nat} {T T' : List slT} {i j k nm m e f c t v d : Nat} {x x1 x2 x3 x4 x5 x6 xr : Int32} {A : Nat → Nat → Prop} {I : Nat → Prop} {μ : mT} {Q : hpT → Option Value → Prop} {en : enT}
theorem rec_w : ∀ (k d : Nat) (n : Int32) (μ : mT) (h : hpT), lpOK y k d μ → MW h y ad μ → (∀ h', MG y ad h h' → MW h' y ad (rcW y k d n μ).1 → Q h' (some (.int (rcW y k d n μ).2))) → Ev g P 174 65 [some (va_rf (some (y 12))), some (.int n), some (.int (nI d))] [] h Q := by
  intro k
  induction k with
  | zero =>
    intro d n μ h ok mw kk
    obtain ⟨e56, hd, hd16⟩ := ok
    have ed : hI h 888 (y 12) = nI (dN μ) := (mw.n 56 (by decide) (by decide) rfl).trans e56
    exact s_174_65 (k3 := mw.1.1) (kt := fun _ => s_174_98 (kk h (MF.rf mw.2.1) mw)) (kf := fun z => absurd (by rw [ed]; exact nI_le hd (by omega)) z)
  | succ k ih =>
    intro d n μ h ok mw kk
    obtain ⟨⟨e56, hd, hd16⟩, ok⟩ := ok
    have ed : hI h 888 (y 12) = nI (dN μ) := (mw.n 56 (by decide) (by decide) rfl).trans e56
    rcases Nat.lt_or_ge d (dN μ) with q | q
    · obtain ⟨mk, ok1, ok2, ok3⟩ := ok q
      refine s_174_65 (k3 := mw.1.1) (kt := fun z => absurd z (by rw [ed]; exact nI_ge q (by omega))) (kf := fun _ => ?_)
      refine s_174_73 (k3 := mw.1.1) (hc := m_recovers mw mk (by omega) ok1) (kk := fun h1 x' ⟨q1, g1, mw1⟩ => ?_)
      subst q1
      refine s_174_78 (kt := fun z => s_174_92 ?_) (kf := fun z => ?_)
      · have e : rcW y (k + 1) d n μ = rcW y k (d + 1) n (recM y μ d).1 := by
          show (if _ then _ else if _ then _ else _) = _
          rw [if_neg (by omega), if_pos z]
        rw [e] at kk
        rw [nI_1]
        exact ih (d + 1) n _ h1 (ok2 z) mw1 (fun h' gg mm => kk h' (g1.jn gg) mm)
      · have e : rcW y (k + 1) d n μ = rcW y k d (n + 1) (ddM (recM y μ d).1 d) := by
          show (if _ then _ else if _ then _ else _) = _
          rw [if_neg (by omega), if_neg z]
        rw [e] at kk
        obtain ⟨⟨b1, b2, b3, b4⟩, ok4⟩ := ok3 z
        refine s_174_81 (k3 := mw1.1.1) (hc := m_dropDead mw1 b1 b2 b3 b4) (kk := fun h2 ⟨g2, mw2, _⟩ => s_174_86 ?_)
        exact ih d (n + 1) _ h2 ok4 mw2 (fun h' gg mm => kk h' ((g1.jn g2).jn gg) mm)
    · have e : rcW y (k + 1) d n μ = (μ, n) := by
        show (if _ then _ else _) = _
        rw [if_pos q]
      rw [e] at kk
      exact s_174_65 (k3 := mw.1.1) (kt := fun _ => s_174_98 (kk h (MF.rf mw.2.1) mw)) (kf := fun z => absurd (by rw [ed]; exact nI_le q (by omega)) z)
theorem m_oneTick (mw : MW h y ad μ) (ok : onOK y μ) (hy8 : y 20 ≤ 8) : EvI g P 174 [va_rf (some (y 12))] h (fun h' r => r = (on1 y μ).2 ∧ MG y ad h h' ∧ MW h' y ad (on1 y μ).1) := by
  obtain ⟨ok1, ok2, ok3⟩ := ok
  have e847 : hI h 847 (y 12) = μ.2.2 15 := mw.n 15 (by decide) (by decide) rfl
  refine e_174 (s_174_0 (k3 := mw.1.1) (kk := ?_))
  rw [e847]
  have mw1 : MW (hpI h 847 (y 12) (μ.2.2 15 + 1)) y ad (ot1 μ) := mw.wN (k := 15) (f := 847) (x := μ.2.2 15 + 1) rfl (by decide) (by decide)
  have g1 := mw.gN (k := 15) (f := 847) (x := μ.2.2 15 + 1) rfl
  generalize hpI h 847 (y 12) (μ.2.2 15 + 1) = H1 at mw1 g1 ⊢
  have lp := cnt_loop (y 20) (fun j h1 => MG y ad h h1 ∧ MW h1 y ad (ot2 y μ j)) (fun j h1 => Ev g P 174 12 [some (va_rf (some (y 12))), some (.int (nI j)), none] [] h1 (fun h' r => ∃ x, r = some (.int x) ∧ x = (on1 y μ).2 ∧ MG y ad h h' ∧ MW h' y ad (on1 y μ).1)) ?_ ?_ H1 ⟨g1, mw1⟩
  · rw [nI_0] at lp; exact lp
  · intro j h1 hj ⟨ga, mwa⟩ kn
    obtain ⟨mk, ho, hl⟩ := ok1 j hj
    have e832 : hI h1 832 (y 12) = nI (y 20) := (mwa.n 0 (by decide) (by decide) rfl).trans mk.2.1
    have es : ot2 y μ (j + 1) = tksM y (ot2 y μ j) j := rfl_s _ _ _
    refine s_174_12 (k3 := mwa.1.1) (kt := fun z => absurd z (by rw [e832]; exact nI_ge hj (by omega))) (kf := fun _ => ?_)
    refine s_174_20 (k3 := mwa.1.1) (hc := m_ticksM mwa mk hj ho hl) (kk := fun h2 ⟨g2, mw2⟩ => s_174_25 ?_)
    rw [nI_1]
    exact kn h2 ⟨ga.jn g2, by rw [es]; exact mw2⟩
  · intro h1 ⟨ga, mwa⟩
    have e832 : hI h1 832 (y 12) = nI (y 20) := (mwa.n 0 (by decide) (by decide) rfl).trans ok2.2.1
    have e846 : hI h1 846 (y 12) = (ot2 y μ (y 20)).2.2 14 := mwa.n 14 (by decide) (by decide) rfl
    refine s_174_12 (k3 := mwa.1.1) (kt := fun _ => ?_) (kf := fun z => absurd (by rw [e832]; exact nI_le (Nat.le_refl _) (by omega)) z)
    refine s_174_31 (k3 := mwa.1.1) (kt := fun z => s_174_40 ?_) (kf := fun z => s_174_38 ?_)
    · rw [e846] at z
      obtain ⟨ok4, ok5, ok6⟩ := ok3 z
      have eO : on1 y μ = rcW y (dN (ot3 y μ (y 20))) 0 0 (ot3 y μ (y 20)) := by unfold on1; rw [if_neg (fun q => q z)]
      have lp := cnt_loop (y 20) (fun j h1 => MG y ad h h1 ∧ MW h1 y ad (ot3 y μ j)) (fun j h1 => Ev g P 174 42 [some (va_rf (some (y 12))), some (.int (nI j)), none] [] h1 (fun h' r => ∃ x, r = some (.int x) ∧ x = (on1 y μ).2 ∧ MG y ad h h' ∧ MW h' y ad (on1 y μ).1)) ?_ ?_ h1 ⟨ga, mwa⟩
      · rw [nI_0] at lp; exact lp
      · intro j h2 hj ⟨gb, mwb⟩ kn
        obtain ⟨mk, e56, hd⟩ := ok4 j hj
        have e832 : hI h2 832 (y 12) = nI (y 20) := (mwb.n 0 (by decide) (by decide) rfl).trans mk.2.1
        have es : ot3 y μ (j + 1) = watM (ot3 y μ j) j := rfl_s _ _ _
        refine s_174_42 (k3 := mwb.1.1) (kt := fun z => absurd z (by rw [e832]; exact nI_ge hj (by omega))) (kf := fun _ => ?_)
        refine s_174_50 (k3 := mwb.1.1) (hc := m_watches mwb (by omega) e56 hd) (kk := fun h3 ⟨g3, mw3⟩ => s_174_55 ?_)
        rw [nI_1]
        exact kn h3 ⟨gb.jn g3, by rw [es]; exact mw3⟩
      · intro h2 ⟨gb, mwb⟩
        have e832 : hI h2 832 (y 12) = nI (y 20) := (mwb.n 0 (by decide) (by decide) rfl).trans ok5.2.1
        refine s_174_42 (k3 := mwb.1.1) (kt := fun _ => s_174_61 ?_) (kf := fun z => absurd (by rw [e832]; exact nI_le (Nat.le_refl _) (by omega)) z)
        rw [eO]
        have := rec_w (g := g) (P := P) (Q := fun h' r => ∃ x, r = some (.int x) ∧ x = (rcW y (dN (ot3 y μ (y 20))) 0 0 (ot3 y μ (y 20))).2 ∧ MG y ad h h' ∧ MW h' y ad (rcW y (dN (ot3 y μ (y 20))) 0 0 (ot3 y μ (y 20))).1) _ 0 0 _ h2 ok6 mwb (fun h' gg mm => ⟨_, rfl, rfl, gb.jn gg, mm⟩)
        rw [nI_0] at this
        exact this
    · rw [e846] at z
      have eO : on1 y μ = (ot2 y μ (y 20), 0) := by unfold on1; rw [if_pos z]
      rw [eO]
      exact ⟨_, rfl, rfl, ga, mwa⟩
theorem m_tickM (mw : MW h y ad μ) (hy8 : y 20 ≤ 8) (ok : ∀ j, j < x.toNatClampNeg → ¬ x < 0 → ¬ 100 < x → onOK y (tcL y μ j).1) : EvI g P 175 [va_rf (some (y 12)), .int x] h (fun h' r => r = (tckM y μ x).2 ∧ MG y ad h h' ∧ MW h' y ad (tckM y μ x).1) := by
  have mw1 := mw.wN (k := 4) (f := 836) (x := 0) rfl (by decide) (by decide)
  have g1 := mw.gN (k := 4) (f := 836) (x := 0) rfl
  refine e_175 (s_175_0 (k3 := mw.1.1) (hc := m_in) (kk := fun h1 x' ⟨q1, q2⟩ => ?_))
  subst q2
  have ga : MG y ad h h1 := by rw [q1]; exact g1
  rw [← q1] at mw1
  clear q1 g1
  by_cases zx : x < 0 ∨ 100 < x
  · have e : tckM y μ x = (uN μ 4 0, -1) := by unfold tckM; rw [if_pos zx]
    rw [e, if_pos zx]
    exact s_175_12 (kt := fun z => absurd rfl z) (kf := fun _ => s_175_15 ⟨_, rfl, rfl, ga, mw1⟩)
  · have e : tckM y μ x = tcL y μ x.toNatClampNeg := by unfold tckM; rw [if_neg zx]
    rw [e, if_neg zx]
    have eb := nI_back (x := x) (Int32.not_lt.mp (fun q => zx (Or.inl q)))
    have n0 : ¬ x < 0 := fun q => zx (Or.inl q)
    have n1 : ¬ 100 < x := fun q => zx (Or.inr q)
    have ok1 : ∀ j, j < x.toNatClampNeg → onOK y (tcL y μ j).1 := fun j hj => ok j hj n0 n1
    clear ok
    have lt := clN_lt x
    refine s_175_12 (kt := fun _ => s_175_17 ?_) (kf := fun z => absurd z (by decide))
    generalize x.toNatClampNeg = n at eb ok1 lt ⊢
    subst eb
    have lp := cnt_loop n (fun j h1 => MG y ad h h1 ∧ MW h1 y ad (tcL y μ j).1) (fun j h1 => Ev g P 175 21 [some (va_rf (some (y 12))), some (.int (nI n)), some (.int (tcL y μ j).2), some (.int (nI j))] [] h1 (fun h' r => ∃ x, r = some (.int x) ∧ x = (tcL y μ n).2 ∧ MG y ad h h' ∧ MW h' y ad (tcL y μ n).1)) ?_ ?_ h1 ⟨ga, mw1⟩
    · rw [nI_0] at lp; exact lp
    · intro j h2 hj ⟨gb, mwb⟩ kn
      have es : tcL y μ (j + 1) = tc1 y (tcL y μ j) j := rfl_s _ _ _
      refine s_175_21 (kt := fun z => absurd z (nI_ge hj (by omega))) (kf := fun _ => ?_)
      refine s_175_26 (k3 := mwb.1.1) (hc := m_oneTick mwb (ok1 j hj) hy8) (kk := fun h3 x' ⟨q1, g3, mw3⟩ => s_175_31 ?_)
      subst q1
      rw [nI_1]
      rw [es] at kn
      exact kn h3 ⟨gb.jn g3, mw3⟩
    · intro h2 ⟨gb, mwb⟩
      exact s_175_21 (kt := fun _ => s_175_39 ⟨_, rfl, rfl, gb, mwb⟩) (kf := fun z => absurd (nI_le (Nat.le_refl _) (by omega)) z)
end MV5
