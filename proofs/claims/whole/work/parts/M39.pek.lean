/-! the model: peek -/
def pk1 (μ : mT) (x3 : Int32) (o : Option (Nat × Nat × Nat)) : Int32 := match o with
  | none => if x3 = 0 then -1 else 0
  | some q => if x3 = 0 then cel μ q 5 else cel μ q 6
def pkM (y : Nat → Nat) (μ : mT) (x1 x2 x3 : Int32) : Int32 := if isM y x1 = 0 then -1 else if x2 < 0 ∨ 63 < x2 then -1 else if x3 < 0 ∨ 1 < x3 then -1 else pk1 μ x3 (obM μ x1 x2)
section MPk
variable {g : gcT} {P : pmT} {h h' h1 h2 : hpT} {y ad : Nat → Nat} {i j k n nm m e f c v p q d : Nat} {x x1 x2 x3 x4 : Int32} {μ μ' : mT}
theorem m_peekM (mw : MW h y ad μ) (mk : MK0 y (sn0 μ)) : EvI g P 181 [va_rf (some (y 12)), .int x1, .int x2, .int x3] h (fun h' r => r = pkM y (sn0 μ) x1 x2 x3 ∧ MG y ad h h' ∧ MW h' y ad (sn0 μ)) := by
  have mw0 : MW (hpI h 836 (y 12) 0) y ad (sn0 μ) := mw.wN (k := 4) rfl (by decide) (by decide)
  have g0 : MG y ad h (hpI h 836 (y 12) 0) := mw.gN (k := 4) rfl
  refine e_181 (s_181_0 (k3 := mw.1.1) (hc := m_isSrvM mw0 mk) (kk := fun h1 x' ⟨q1, q2⟩ => ?_))
  subst q1; subst q2
  generalize hpI h 836 (y 12) 0 = H0 at mw0 g0 ⊢
  generalize sn0 μ = μ at mw0 mk ⊢
  generalize hr : pkM y μ x1 x2 x3 = res
  unfold pkM at hr
  have bad : ∀ {o4 : Option Value}, (-1 : Int32) = res → Ev g P 181 32 [some (va_rf (some (y 12))), some (.int x1), some (.int x2), some (.int x3), o4] [] H0 (fun h' r => ∃ x, r = some (.int x) ∧ x = res ∧ MG y ad h h' ∧ MW h' y ad μ) := fun e => by
    subst e; exact s_181_32 ⟨_, rfl, rfl, g0, mw0⟩
  by_cases q : isM y x1 = 0
  · rw [if_pos q] at hr
    exact s_181_10 (kt := fun _ => bad hr) (kf := fun z => absurd q z)
  · rw [if_neg q] at hr
    refine s_181_10 (kt := fun z => absurd z q) (kf := fun _ => s_181_13 (hc := m_in) (kk := fun h2 x' ⟨q1, q2⟩ => ?_))
    subst q1; subst q2
    by_cases b2 : x2 < 0 ∨ 63 < x2
    · rw [if_pos b2] at hr ⊢
      exact s_181_20 (kt := fun _ => bad hr) (kf := fun z => absurd rfl z)
    · rw [if_neg b2] at hr ⊢
      refine s_181_20 (kt := fun z => absurd z (by decide)) (kf := fun _ => s_181_23 (hc := m_in) (kk := fun h3 x' ⟨q1, q2⟩ => ?_))
      subst q1; subst q2
      by_cases b3 : x3 < 0 ∨ 1 < x3
      · rw [if_pos b3] at hr ⊢
        exact s_181_29 (kt := fun z => absurd rfl z) (kf := fun _ => bad hr)
      · rw [if_neg b3] at hr ⊢
        refine s_181_29 (kt := fun _ => ?_) (kf := fun z => absurd z (by decide))
        refine s_181_34 (k3 := mw0.1.1) (hc := m_obM mw0) (kk := fun h4 x' ⟨q1, xa, mw4, _⟩ => ?_)
        subst q1
        have vo := obM_v (x := x1) (k := x2) mw0.2.2.1
        have g4 := g0.jn xa.gl
        cases eo : obM μ x1 x2 with
        | none =>
          rw [eo] at hr
          by_cases z3 : x3 = 0
          · have hr : (if x3 = 0 then (-1 : Int32) else 0) = res := hr
            rw [if_pos z3] at hr
            exact s_181_40 (kt := fun z => absurd z3 z) (kf := fun _ => s_181_46 (kt := fun z => absurd rfl z) (kf := fun _ => s_181_52 (s_181_65 ⟨_, rfl, hr, g4, mw4⟩)))
          · have hr : (if x3 = 0 then (-1 : Int32) else 0) = res := hr
            rw [if_neg z3] at hr
            exact s_181_40 (kt := fun _ => s_181_66 (kt := fun z => absurd rfl z) (kf := fun _ => s_181_72 (s_181_86 ⟨_, rfl, hr, g4, mw4⟩))) (kf := fun z => absurd z z3)
        | some r =>
          rw [eo] at hr vo
          have n1 : ¬ oPx (some r) = -1 := fun z => by cases (oPx_n mw0.2.2.1 vo).mp z
          have p5 := cel_at mw4 vo 5 (by decide)
          have p6 := cel_at mw4 vo 6 (by decide)
          rw [show nI 5 = (5 : Int32) from rfl] at p5
          rw [show nI 6 = (6 : Int32) from rfl] at p6
          have hr : (if x3 = 0 then cel μ r 5 else cel μ r 6) = res := hr
          by_cases z3 : x3 = 0
          · rw [if_pos z3] at hr
            exact s_181_40 (kt := fun z => absurd z3 z) (kf := fun _ => s_181_46 (kt := fun _ => s_181_56 (k3 := mw4.1.1) (e5 := mw4.1.r28) (k6 := mw4.1.k28) (i7 := p5.1) (kk := s_181_65 ⟨_, rfl, p5.2.trans hr, g4, mw4⟩)) (kf := fun z => absurd z n1))
          · rw [if_neg z3] at hr
            exact s_181_40 (kt := fun _ => s_181_66 (kt := fun _ => s_181_76 (k3 := mw4.1.1) (e5 := mw4.1.r28) (k6 := mw4.1.k28) (i7 := p6.1) (kk := s_181_86 ⟨_, rfl, p6.2.trans hr, g4, mw4⟩)) (kf := fun z => absurd z n1)) (kf := fun z => absurd z z3)
end MPk
