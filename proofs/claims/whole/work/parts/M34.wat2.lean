/-! the model: watches -/
section MWb
variable {g : gcT} {P : pmT} {h h' h1 h2 : hpT} {y ad : Nat → Nat} {i j k n nm m e f c v p q d : Nat} {x x1 x2 x3 x4 : Int32} {μ μ' : mT}
theorem m_watches (mw : MW h y ad μ) (hm : m < 8) (e56 : μ.2.2 56 = nI (dN μ)) (hd : dN μ ≤ 16) : EvV g P 167 [va_rf (some (y 12)), .int (nI m)] h (fun h' => MG y ad h h' ∧ MW h' y ad (watM μ m)) := by
  have em : (nI m).toNatClampNeg = m := nI_clamp (by omega)
  have v8 : ∀ {h : hpT} {a}, hN h a = 8 → vinD (nI m) (hN h a) := fun e => by rw [e]; exact vin_nI hm (by decide)
  have go : ∀ yv : Int32, yv = (if μ.2.1 5 m = 0 then 0 else μ.2.1 11 m + 1) → Ev g P 167 25 [some (va_rf (some (y 12))), some (.int (nI m)), none, none, none] [.int yv, .int (nI m), va_rf (hR h 843 (y 12))] h (fun h' r => r = none ∧ MG y ad h h' ∧ MW h' y ad (watM μ m)) := by
    intro yv eyv
    have mw1 : MW (hpA h (ad 11) (nI m).toNatClampNeg yv) y ad (wa1 μ m) := by rw [em, eyv]; exact mw.wA rfl
    have g1 : MG y ad h (hpA h (ad 11) (nI m).toNatClampNeg yv) := mw.gA rfl
    have ho := m_owns (g := g) (P := P) (x1 := nI m) (n8 := 8) rfl mw1.1
    rw [mw1.rw (r := 13) rfl] at ho
    have ho : EvI g P 107 [va_rf (some (y 12)), .int (nI m)] (hpA h (ad 11) (nI m).toNatClampNeg yv) (fun h' r => h' = hpA h (ad 11) (nI m).toNatClampNeg yv ∧ r = nI (onN (wa1 μ m) (nI m))) := ho
    refine s_167_25 (e2 := mw.1.r11) (k3 := mw.1.k11) (i4 := v8 mw.1.n11) (e6 := rfl) (k7 := mw.1.1) (hc := ho) (kk := fun h1 x' ⟨q1, q2⟩ => ?_)
    subst q1; subst q2
    generalize hpA h (ad 11) (nI m).toNatClampNeg yv = H1 at mw1 g1 ⊢
    have e561 : (wa1 μ m).2.2 56 = nI (dN (wa1 μ m)) := e56
    have hd1 : dN (wa1 μ m) ≤ 16 := hd
    unfold watM
    generalize wa1 μ m = ν at *
    have ob := onN_le (μ := ν) (x := nI m)
    have c11 : hA H1 (ad 11) (nI m).toNatClampNeg = ν.2.1 11 m := by rw [em]; exact mw1.2.2.2.1 11 m rfl
    have c8 : hA H1 (ad 8) (nI m).toNatClampNeg = ν.2.1 8 m := by rw [em]; exact mw1.2.2.2.1 8 m rfl
    have e888 : hI H1 888 (y 12) = nI (dN ν) := (mw1.n 56 (by decide) (by decide) rfl).trans e561
    have stop : ∀ {o2 o3 o4 : Option Value}, waN ν m = true → Ev g P 167 70 [some (va_rf (some (y 12))), some (.int (nI m)), o2, o3, o4] [] H1 (fun h' r => r = none ∧ MG y ad h h' ∧ MW h' y ad (if waN ν m = true then ν else wa5 (wa3 ν m) m)) := fun q => by
      rw [if_pos q]
      exact s_167_70 ⟨rfl, g1, mw1⟩
    by_cases q0 : onN ν (nI m) = 0
    · rw [q0]
      exact s_167_31 (kt := fun _ => stop (by unfold waN; rw [decide_eq_true q0]; rfl)) (kf := fun z => absurd rfl z)
    · refine s_167_31 (kt := fun z => absurd (nI_inj (b := 0) (by omega) (by decide) z) q0) (kf := fun _ => ?_)
      -- the third test
      have last : (3 ≤ ν.2.1 11 m ∨ (ν.2.1 5 m = 0 ∧ ¬ ν.2.1 8 m = 0)) → Ev g P 167 61 [some (va_rf (some (y 12))), some (.int (nI m)), none, none, none] [] H1 (fun h' r => r = none ∧ MG y ad h h' ∧ MW h' y ad (if waN ν m = true then ν else wa5 (wa3 ν m) m)) := by
        intro q3
        have nb : (decide (¬ 3 ≤ ν.2.1 11 m) && decide (¬ (ν.2.1 5 m = 0 ∧ ¬ ν.2.1 8 m = 0))) = false := by
          rcases q3 with q | q
          · rw [decide_eq_false (fun z => z q)]; rfl
          · rw [decide_eq_false (fun z : ¬ (ν.2.1 5 m = 0 ∧ ¬ ν.2.1 8 m = 0) => z q), Bool.and_false]
        by_cases q16 : dN ν = 16
        · refine s_167_61 (k3 := mw1.1.1) (kt := fun z => absurd (by rw [e888, q16]; rfl) z) (kf := fun _ => stop ?_)
          unfold waN
          rw [decide_eq_true q16, Bool.or_true]
        · have nw : ¬ waN ν m = true := by
            unfold waN
            rw [decide_eq_false q0, nb, decide_eq_false q16]
            decide
          rw [if_neg nw]
          refine s_167_61 (k3 := mw1.1.1) (kt := fun _ => ?_) (kf := fun z => absurd (nI_inj (b := 16) (by omega) (by decide) (e888.symm.trans z)) q16)
          have hfd := m_freeDead (g := g) (P := P) (n16 := 16) rfl mw1 e561 hd1
          have hfd : EvI g P 166 [va_rf (some (y 12))] H1 (fun h' r => h' = H1 ∧ r = fdM ν) := hfd
          refine s_167_71 (k3 := mw1.1.1) (hc := hfd) (kk := fun h2 x' ⟨q1, q2⟩ => ?_)
          subst q1; subst q2
          have fin : Ev g P 167 93 [some (va_rf (some (y 12))), some (.int (nI m)), some (.int (fdM ν)), none, none] [.int (waF ν m)] h2 (fun h' r => r = none ∧ MG y ad h h' ∧ MW h' y ad (wa5 (wa3 ν m) m)) := by
            refine s_167_93 (k3 := mw1.1.1) (e5 := mw1.1.r57) (k6 := mw1.1.k57) (i7 := by rw [e888, mw1.1.n57]; exact vin_nI (by omega) (by decide)) (kk := ?_)
            rw [e888, nI_clamp (by omega)]
            have mw2 := mw1.wA (r := 57) (i := dN ν) (x := fdM ν) rfl
            have g2 := mw1.gA (e := 57) (i := dN ν) (x := fdM ν) rfl
            generalize hpA h2 (ad 57) (dN ν) (fdM ν) = H2 at mw2 g2 ⊢
            exact Ev.imp (wat_3 (g := g) (P := P) (n8 := 8) (d := dN ν) rfl mw2 hm e561 (by omega)) (fun h' r ⟨q1, q2, q3⟩ => ⟨q1, (g1.jn g2).jn q2, q3⟩)
          by_cases q8 : ν.2.1 8 m = 0
          · have ef : waF ν m = nI m := by unfold waF; rw [if_pos q8]
            rw [ef] at fin
            exact s_167_75 (k3 := mw1.1.1) (e5 := mw1.1.r8) (k6 := mw1.1.k8) (i7 := v8 mw1.1.n8) (kt := fun _ => s_167_92 fin) (kf := fun z => absurd (c8.trans q8) z)
          · have ef : waF ν m = 8 + nI m := by unfold waF; rw [if_neg q8]
            rw [ef] at fin
            exact s_167_75 (k3 := mw1.1.1) (e5 := mw1.1.r8) (k6 := mw1.1.k8) (i7 := v8 mw1.1.n8) (kt := fun z => absurd (c8.symm.trans z) q8) (kf := fun _ => s_167_85 fin)
      refine s_167_34 (k3 := mw1.1.1) (e5 := mw1.1.r11) (k6 := mw1.1.k11) (i7 := v8 mw1.1.n11) (kt := fun z => last (Or.inl (by rw [c11] at z; exact z))) (kf := fun z3 => ?_)
      rw [c11] at z3
      refine s_167_44 (k3 := mw1.1.1) (hc := m_isUpM mw1.1 (i := m) hm) (kk := fun h2 x' ⟨q1, q2⟩ => ?_)
      subst q1; subst q2
      rw [mw1.2.2.2.1 5 m rfl]
      by_cases q5 : ν.2.1 5 m = 0
      · rw [if_pos q5]
        refine s_167_49 (kt := fun z => absurd z (by decide)) (kf := fun _ => ?_)
        refine s_167_52 (k3 := mw1.1.1) (e5 := mw1.1.r8) (k6 := mw1.1.k8) (i7 := v8 mw1.1.n8) (kt := fun z => stop ?_) (kf := fun z => last (Or.inr ⟨q5, by rw [c8] at z; exact z⟩))
        rw [c8] at z
        unfold waN
        rw [decide_eq_true z3, decide_eq_true (show ¬ (ν.2.1 5 m = 0 ∧ ¬ ν.2.1 8 m = 0) from fun a => a.2 z), Bool.and_true, Bool.or_true, Bool.true_or]
      · rw [if_neg q5]
        refine s_167_49 (kt := fun _ => stop ?_) (kf := fun z => absurd rfl z)
        unfold waN
        rw [decide_eq_true z3, decide_eq_true (show ¬ (ν.2.1 5 m = 0 ∧ ¬ ν.2.1 8 m = 0) from fun a => q5 a.1), Bool.and_true, Bool.or_true, Bool.true_or]
  refine e_167 (s_167_0 (k3 := mw.1.1) (hc := m_isUpM mw.1 (i := m) hm) (kk := fun h1 x' ⟨q1, q2⟩ => ?_))
  subst q1; subst q2
  rw [mw.2.2.2.1 5 m rfl]
  by_cases q5 : μ.2.1 5 m = 0
  · rw [if_pos q5]
    exact s_167_10 (kt := fun z => absurd z (by decide)) (kf := fun _ => s_167_13 (go 0 (by rw [if_pos q5])))
  · rw [if_neg q5]
    have c11 : hA h1 (ad 11) (nI m).toNatClampNeg = μ.2.1 11 m := by rw [em]; exact mw.2.2.2.1 11 m rfl
    refine s_167_10 (kt := fun _ => ?_) (kf := fun z => absurd rfl z)
    refine s_167_17 (k3 := mw.1.1) (e5 := mw.1.r11) (k6 := mw.1.k11) (i7 := v8 mw.1.n11) (kk := ?_)
    rw [c11]
    exact go _ (by rw [if_neg q5])
end MWb
