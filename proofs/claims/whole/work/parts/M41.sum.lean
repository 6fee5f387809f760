/-! the model: sum -/
def smF (μ : mT) (x u : Int32) (b : Int32 × Int32 × Int32 × Int32) (k : Nat) : Int32 × Int32 × Int32 × Int32 :=
  (if lLg (μ.1.getD k sl0) = x then b.1 + lvuT (μ.2.1 5) μ.1 k else b.1,
   if lLg (μ.1.getD k sl0) = x then b.2.1 + usT (lEn (μ.1.getD k sl0)) else b.2.1,
   if lLg (μ.1.getD k sl0) = x then b.2.2.1 + (u - usT (lEn (μ.1.getD k sl0))) else b.2.2.1,
   if ¬ lLg (μ.1.getD k sl0) = 99 ∧ (lHo (μ.1.getD k sl0)).any (fun z => decide (nI z.1 = x)) = true then b.2.2.2 + 1 else b.2.2.2)
def smM (μ : mT) (x u : Int32) : Int32 × Int32 × Int32 × Int32 := (List.range μ.1.length).foldl (smF μ x u) (0, 0, 0, 0)
def smW (b : Int32 × Int32 × Int32 × Int32) (w : Int32) : Int32 := if w = 5 then b.1 else if w = 6 then b.2.1 - b.1 else if w = 7 then b.2.2.1 else b.2.2.2
section MSu
variable {g : gcT} {P : pmT} {h h' h1 h2 : hpT} {y ad : Nat → Nat} {i j k n nm m e f c v p q d : Nat} {x x1 x2 x3 x4 : Int32} {μ μ' : mT} {Q : hpT → Option Value → Prop}
theorem m_sumM (mw : MW h y ad μ) : EvI g P 178 [va_rf (some (y 12)), .int x1, .int x2] h (fun h' r => h' = h ∧ r = smW (smM μ x1 (μ.2.2 2)) x2) := by
  have l6 := mw.2.2.1.2.1
  have rl : (List.range μ.1.length).length = μ.1.length := List.length_range
  refine e_178 (s_178_0 ?_)
  have lp := fold_loop (List.range μ.1.length) (smF μ x1 (μ.2.2 2)) (fun k b => Ev g P 178 14 [some (va_rf (some (y 12))), some (.int x1), some (.int x2), some (.int b.1), some (.int b.2.1), some (.int b.2.2.1), some (.int b.2.2.2), some (.int (nI k))] [] h (fun h' r => ∃ x, r = some (.int x) ∧ h' = h ∧ x = smW (smM μ x1 (μ.2.2 2)) x2)) ?_ (0, 0, 0, 0) ?_
  · rw [nI_0] at lp; exact lp
  · intro k b hk kn
    rw [List.getElem_range] at kn
    rw [rl] at hk
    have ek : (nI k).toNatClampNeg = k := nI_clamp (by omega)
    have e24 : hA h (ad 24) (nI k).toNatClampNeg = lLg (μ.1.getD k sl0) := by rw [ek]; exact (mw.2.2.1.s hk).1.1
    have v24 : vinD (nI k) (hN h (ad 24)) := by rw [mw.1.n24]; exact vin_nI (by omega) (by decide)
    have e834 : hI h 834 (y 12) = μ.2.2 2 := mw.n 2 (by decide) (by decide) rfl
    refine s_178_14 (k3 := mw.1.1) (kt := fun z => absurd z (by rw [mw.2.2.1.1]; exact nI_ge hk (by omega))) (kf := fun _ => ?_)
    -- from 48 on
    have go : ∀ x6, x6 = (smF μ x1 (μ.2.2 2) b k).2.2.2 → Ev g P 178 48 [some (va_rf (some (y 12))), some (.int x1), some (.int x2), some (.int b.1), some (.int b.2.1), some (.int b.2.2.1), some (.int x6), some (.int (nI k))] [] h (fun h' r => ∃ x, r = some (.int x) ∧ h' = h ∧ x = smW (smM μ x1 (μ.2.2 2)) x2) := by
      intro x6 e6
      by_cases q : lLg (μ.1.getD k sl0) = x1
      · refine s_178_48 (k3 := mw.1.1) (e5 := mw.1.r24) (k6 := mw.1.k24) (i7 := v24) (kt := fun _ => ?_) (kf := fun z => absurd (e24.trans q) z)
        have hlu := m_liveUnits (g := g) (P := P) mw.1 mw.2.2.1 hk
        rw [mw.rw (r := 5) rfl] at hlu
        refine s_178_62 (k3 := mw.1.1) (hc := hlu) (kk := fun h1 x' ⟨q1, q2⟩ => ?_)
        subst q1; subst q2
        refine s_178_69 (k3 := mw.1.1) (hc := m_used mw.1 mw.2.2.1 hk) (kk := fun h2 x' ⟨q1, q2⟩ => ?_)
        subst q1; subst q2
        refine s_178_79 (k3 := mw.1.1) (hc := m_used mw.1 mw.2.2.1 hk) (kk := fun h3 x' ⟨q1, q2⟩ => s_178_94 (s_178_98 ?_))
        subst q1; subst q2
        rw [nI_1, e834, e6]
        have kn' := kn
        have f1 : (smF μ x1 (μ.2.2 2) b k).1 = b.1 + lvuT (μ.2.1 5) μ.1 k := if_pos q
        have f2 : (smF μ x1 (μ.2.2 2) b k).2.1 = b.2.1 + usT (lEn (μ.1.getD k sl0)) := if_pos q
        have f3 : (smF μ x1 (μ.2.2 2) b k).2.2.1 = b.2.2.1 + (μ.2.2 2 - usT (lEn (μ.1.getD k sl0))) := if_pos q
        rw [f1, f2, f3] at kn'
        exact kn'
      · refine s_178_48 (k3 := mw.1.1) (e5 := mw.1.r24) (k6 := mw.1.k24) (i7 := v24) (kt := fun z => absurd (e24.symm.trans z) q) (kf := fun _ => s_178_59 (s_178_98 ?_))
        rw [nI_1, e6]
        have kn' := kn
        have f1 : (smF μ x1 (μ.2.2 2) b k).1 = b.1 := if_neg q
        have f2 : (smF μ x1 (μ.2.2 2) b k).2.1 = b.2.1 := if_neg q
        have f3 : (smF μ x1 (μ.2.2 2) b k).2.2.1 = b.2.2.1 := if_neg q
        rw [f1, f2, f3] at kn'
        exact kn'
    by_cases q9 : lLg (μ.1.getD k sl0) = 99
    · refine s_178_23 (k3 := mw.1.1) (e5 := mw.1.r24) (k6 := mw.1.k24) (i7 := v24) (kt := fun _ => go _ ?_) (kf := fun z => absurd (e24.trans q9) z)
      exact (if_neg (fun a => a.1 q9)).symm
    · refine s_178_23 (k3 := mw.1.1) (e5 := mw.1.r24) (k6 := mw.1.k24) (i7 := v24) (kt := fun z => absurd (e24.symm.trans z) q9) (kf := fun _ => ?_)
      refine s_178_35 (k3 := mw.1.1) (hc := m_isHolder mw.1 mw.2.2.1 hk) (kk := fun h1 x' ⟨q1, q2⟩ => ?_)
      subst q1; subst q2
      by_cases qa : (lHo (μ.1.getD k sl0)).any (fun z => decide (nI z.1 = x1)) = true
      · rw [if_pos qa]
        exact s_178_42 (kt := fun z => absurd z (by decide)) (kf := fun _ => s_178_45 (go _ (if_pos ⟨q9, qa⟩).symm))
      · rw [if_neg qa]
        exact s_178_42 (kt := fun _ => go _ (if_neg (fun a => qa a.2)).symm) (kf := fun z => absurd rfl z)
  · rw [rl]
    refine s_178_14 (k3 := mw.1.1) (kt := fun _ => ?_) (kf := fun z => absurd (by rw [mw.2.2.1.1]; exact nI_le (Nat.le_refl _) (by omega)) z)
    show Ev g P 178 104 [some (va_rf (some (y 12))), some (.int x1), some (.int x2), some (.int (smM μ x1 (μ.2.2 2)).1), some (.int (smM μ x1 (μ.2.2 2)).2.1), some (.int (smM μ x1 (μ.2.2 2)).2.2.1), some (.int (smM μ x1 (μ.2.2 2)).2.2.2), some (.int (nI μ.1.length))] [] h _
    generalize smM μ x1 (μ.2.2 2) = b
    unfold smW
    by_cases w5 : x2 = 5
    · rw [if_pos w5]
      exact s_178_104 (kt := fun z => absurd w5 z) (kf := fun _ => s_178_109 (s_178_139 ⟨_, rfl, rfl, rfl⟩))
    · rw [if_neg w5]
      refine s_178_104 (kt := fun _ => ?_) (kf := fun z => absurd z w5)
      by_cases w6 : x2 = 6
      · rw [if_pos w6]
        exact s_178_113 (kt := fun z => absurd w6 z) (kf := fun _ => s_178_119 (s_178_139 ⟨_, rfl, rfl, rfl⟩))
      · rw [if_neg w6]
        refine s_178_113 (kt := fun _ => ?_) (kf := fun z => absurd z w6)
        by_cases w7 : x2 = 7
        · rw [if_pos w7]
          exact s_178_126 (kt := fun z => absurd w7 z) (kf := fun _ => s_178_132 (s_178_139 ⟨_, rfl, rfl, rfl⟩))
        · rw [if_neg w7]
          exact s_178_126 (kt := fun _ => s_178_137 (s_178_139 ⟨_, rfl, rfl, rfl⟩)) (kf := fun z => absurd z w7)
end MSu
