/-! the model: freeDead, canRead, newOwner -/
def dN (μ : mT) : Nat := (μ.2.2 56).toNatClampNeg
def fdA (μ : mT) (d : Nat) : Bool := (List.range (dN μ)).foldl (fun b k => b && decide (¬ μ.2.1 57 k = 16 + nI d)) true
def fdO (b : Option Nat) : Int32 := match b with
  | none => -1
  | some d => 16 + nI d
def fdM (μ : mT) : Int32 := fdO ((List.range 16).find? (fdA μ))
def crP (μ : mT) (x : Int32) (s : slT) : Bool := decide (lLg s = x) && decide (hoU (μ.2.1 5) s = 0)
def crM (μ : mT) (x : Int32) : Int32 := if μ.1.any (crP μ x) = true then 0 else 1
def noB (μ : mT) (b : Option Nat) (s : Nat) : Bool := match b with
  | none => true
  | some k => decide (onN μ (nI s) < onN μ (nI k))
def noF (μ : mT) (b : Option Nat) (s : Nat) : Option Nat := if μ.2.1 5 s = 0 ∧ μ.2.1 6 s = 0 ∧ μ.2.1 8 s = 0 ∧ noB μ b s = true then some s else b
def noM (y : Nat → Nat) (μ : mT) : Option Nat := (List.range (y 20)).foldl (noF μ) none
section MO2
variable {g : gcT} {P : pmT} {h h' h1 h2 : hpT} {y ad : Nat → Nat} {i j k n nm m e f c v p q : Nat} {x x1 x2 x3 x4 : Int32} {μ : mT} {Q : hpT → Option Value → Prop}
def bI (b : Bool) : Int32 := if b = true then 1 else 0
theorem m_freeDead {n16 : Nat} (h16 : n16 = 16) (mw : MW h y ad μ) (e56 : μ.2.2 56 = nI (dN μ)) (hd : dN μ ≤ 16) : EvI g P 166 [va_rf (some (y 12))] h (fun h' r => h' = h ∧ r = fdO ((List.range n16).find? (fdA μ))) := by
  have e16 : (16 : Int32) = nI n16 := by rw [h16]; rfl
  have e888 : hI h 888 (y 12) = nI (dN μ) := (mw.n 56 (by decide) (by decide) rfl).trans e56
  have rl : (List.range n16).length = n16 := List.length_range
  have rl2 : (List.range (dN μ)).length = dN μ := List.length_range
  -- one d
  have inn : ∀ (Q : hpT → Option Value → Prop) d, (Ev g P 166 49 [some (va_rf (some (y 12))), some (.int (nI d)), some (.int (bI (fdA μ d))), some (.int (nI (dN μ)))] [] h Q) → ∀ {o2 o3 : Option Value}, Ev g P 166 8 [some (va_rf (some (y 12))), some (.int (nI d)), o2, o3] [] h Q := by
    intro Q d kk o2 o3
    refine s_166_8 ?_
    have lp := fold_loop (List.range (dN μ)) (fun b k => b && decide (¬ μ.2.1 57 k = 16 + nI d)) (fun k b => Ev g P 166 12 [some (va_rf (some (y 12))), some (.int (nI d)), some (.int (bI b)), some (.int (nI k))] [] h Q) ?_ true ?_
    · rw [nI_0] at lp; exact lp
    · intro k b hk kn
      rw [List.getElem_range] at kn
      rw [rl2] at hk
      have ek : (nI k).toNatClampNeg = k := nI_clamp (by omega)
      have c57 : hA h (ad 57) (nI k).toNatClampNeg = μ.2.1 57 k := by rw [ek]; exact mw.2.2.2.1 57 k rfl
      refine s_166_12 (k3 := mw.1.1) (kt := fun z => absurd z (by rw [e888]; exact nI_ge hk (by omega))) (kf := fun _ => ?_)
      cases b with
      | false =>
        refine s_166_20 (kt := fun _ => s_166_41 (s_166_42 ?_)) (kf := fun z => absurd rfl z)
        rw [nI_1]; exact kn
      | true =>
        refine s_166_20 (kt := fun z => absurd z (by decide)) (kf := fun _ => ?_)
        refine s_166_24 (k3 := mw.1.1) (e5 := mw.1.r57) (k6 := mw.1.k57) (i7 := by rw [mw.1.n57]; exact vin_nI (by omega) (by decide)) (kt := fun z => s_166_41 (s_166_42 ?_)) (kf := fun z => s_166_37 (s_166_42 ?_))
        · rw [c57] at z
          rw [decide_eq_false (fun q => q z)] at kn
          rw [nI_1]; exact kn
        · rw [c57] at z
          rw [decide_eq_true z] at kn
          rw [nI_1]; exact kn
    · rw [rl2]
      exact s_166_12 (k3 := mw.1.1) (kt := fun _ => kk) (kf := fun z => absurd (by rw [e888]; exact nI_le (Nat.le_refl _) (by omega)) z)
  refine e_166 (s_166_0 ?_)
  have lp := find_loop (List.range n16) (fdA μ) (fun d => ∀ o2 o3, Ev g P 166 2 [some (va_rf (some (y 12))), some (.int (nI d)), o2, o3] [] h (fun h' r => ∃ x, r = some (.int x) ∧ h' = h ∧ x = fdO ((List.range n16).find? (fdA μ)))) (fun d => (List.range n16).find? (fdA μ) = some d) ?_ ?_ (fun d e => e) ?_
  · have := lp none none
    rw [nI_0] at this
    exact this
  · intro d hd pt fd o2 o3
    rw [List.getElem_range] at pt fd
    rw [rl] at hd
    refine s_166_2 (kt := fun z => absurd z (by rw [e16]; exact nI_ge hd (by omega))) (kf := fun _ => inn _ d ?_)
    rw [pt, fd]
    exact s_166_49 (kt := fun z => absurd z (by decide)) (kf := fun _ => s_166_53 ⟨_, rfl, rfl, rfl⟩)
  · intro d hd pf kn o2 o3
    rw [List.getElem_range] at pf
    rw [rl] at hd
    refine s_166_2 (kt := fun z => absurd z (by rw [e16]; exact nI_ge hd (by omega))) (kf := fun _ => inn _ d ?_)
    rw [pf]
    refine s_166_49 (kt := fun _ => s_166_58 ?_) (kf := fun z => absurd rfl z)
    rw [nI_1]
    exact kn _ _
  · intro en o2 o3
    rw [en, rl]
    exact s_166_2 (kt := fun _ => s_166_64 ⟨_, rfl, rfl, rfl⟩) (kf := fun z => absurd (by rw [e16]; exact nI_le (Nat.le_refl _) (by omega)) z)
theorem m_canRead (mw : MW h y ad μ) : EvI g P 168 [va_rf (some (y 12)), .int x1] h (fun h' r => h' = h ∧ r = crM μ x1) := by
  have l6 := mw.2.2.1.2.1
  refine e_168 (s_168_0 ?_)
  have lp := find_loop μ.1 (crP μ x1) (fun i => (μ.1.find? (crP μ x1) = none → crM μ x1 = 1) ∧ Ev g P 168 2 [some (va_rf (some (y 12))), some (.int x1), some (.int (nI i))] [] h (fun h' r => ∃ x, r = some (.int x) ∧ h' = h ∧ x = crM μ x1)) (fun s => crM μ x1 = 0) ?_ ?_ ?_ ?_
  · have := lp.2
    rw [nI_0] at this
    exact this
  · intro i hi pt fd
    have ei : (nI i).toNatClampNeg = i := nI_clamp (by omega)
    unfold crP at pt
    rw [Bool.and_eq_true] at pt
    have p1 := of_decide_eq_true pt.1
    have p2 := of_decide_eq_true pt.2
    have e24 := (mw.2.2.1.s hi).1.1
    have hh := m_holdersUp (g := g) (P := P) mw.1 mw.2.2.1 hi
    rw [mw.rw (r := 5) rfl] at hh
    rw [gD_lt hi] at e24 hh
    refine ⟨fun q => ?_, ?_⟩
    · have := List.find?_eq_none.mp q _ (List.getElem_mem hi)
      exact absurd (by unfold crP; rw [pt.1, pt.2]; rfl) this
    · refine s_168_2 (k3 := mw.1.1) (kt := fun z => absurd z (by rw [mw.2.2.1.1]; exact nI_ge hi (by omega))) (kf := fun _ => ?_)
      refine s_168_10 (k3 := mw.1.1) (e5 := mw.1.r24) (k6 := mw.1.k24) (i7 := by rw [mw.1.n24]; exact vin_nI (by omega) (by decide)) (kt := fun z => absurd (by rw [ei, e24]; exact p1) z) (kf := fun _ => ?_)
      refine s_168_20 (k3 := mw.1.1) (hc := hh) (kk := fun h2 x' ⟨q1, q2⟩ => ?_)
      subst q1; subst q2
      rw [p2]
      exact s_168_25 (kt := fun z => absurd rfl z) (kf := fun _ => s_168_28 ⟨_, rfl, rfl, fd.symm⟩)
  · intro i hi pf kn
    have ei : (nI i).toNatClampNeg = i := nI_clamp (by omega)
    have e24 := (mw.2.2.1.s hi).1.1
    have l8 := (mw.2.2.1.s hi).2.2.2.1
    have hh := m_holdersUp (g := g) (P := P) mw.1 mw.2.2.1 hi
    rw [mw.rw (r := 5) rfl] at hh
    rw [gD_lt hi] at e24 hh l8
    refine ⟨kn.1, ?_⟩
    refine s_168_2 (k3 := mw.1.1) (kt := fun z => absurd z (by rw [mw.2.2.1.1]; exact nI_ge hi (by omega))) (kf := fun _ => ?_)
    refine s_168_10 (k3 := mw.1.1) (e5 := mw.1.r24) (k6 := mw.1.k24) (i7 := by rw [mw.1.n24]; exact vin_nI (by omega) (by decide)) (kt := fun z => s_168_30 (by rw [nI_1]; exact kn.2)) (kf := fun z => ?_)
    rw [ei, e24] at z
    refine s_168_20 (k3 := mw.1.1) (hc := hh) (kk := fun h2 x' ⟨q1, q2⟩ => ?_)
    subst q1; subst q2
    have hb : hoU (μ.2.1 5) μ.1[i] ≤ 8 := by
      have : ∀ (l : List (Nat × Nat)) (t : Nat), l.foldl (fun t x => if μ.2.1 5 x.1 = 0 then t + 1 else t) t ≤ t + l.length := by
        intro l
        induction l with
        | nil => intro t; exact Nat.le_refl _
        | cons a l ih =>
          intro t
          rw [List.foldl_cons, List.length_cons]
          refine Nat.le_trans (ih _) ?_
          split <;> omega
      have := this (lHo μ.1[i]) 0
      unfold hoU
      omega
    have nz : ¬ nI (hoU (μ.2.1 5) μ.1[i]) = 0 := fun q => by
      have q0 : hoU (μ.2.1 5) μ.1[i] = 0 := nI_inj (b := 0) (by omega) (by decide) q
      unfold crP at pf
      rw [decide_eq_true z, decide_eq_true q0] at pf
      cases pf
    exact s_168_25 (kt := fun _ => s_168_30 (by rw [nI_1]; exact kn.2)) (kf := fun q => absurd q nz)
  · intro s es
    unfold crM
    rw [if_pos (List.any_eq_true.mpr ⟨s, List.mem_of_find?_eq_some es, List.find?_some es⟩)]
  · intro en
    have e1 : crM μ x1 = 1 := by
      unfold crM
      rw [if_neg]
      intro q
      obtain ⟨s, hs, ps⟩ := List.any_eq_true.mp q
      exact List.find?_eq_none.mp en s hs ps
    refine ⟨fun _ => e1, ?_⟩
    exact s_168_2 (k3 := mw.1.1) (kt := fun _ => s_168_36 ⟨_, rfl, rfl, e1.symm⟩) (kf := fun z => absurd (by rw [mw.2.2.1.1]; exact nI_le (Nat.le_refl _) (by omega)) z)
theorem m_newOwner (mw : MW h y ad μ) (mk : MK0 y μ) : EvI g P 169 [va_rf (some (y 12))] h (fun h' r => h' = h ∧ r = oI (noM y μ)) := by
  have y8 := mk.1.1.2
  have e832 : hI h 832 (y 12) = nI (y 20) := (mw.n 0 (by decide) (by decide) rfl).trans mk.2.1
  have how : ∀ x, EvI g P 107 [va_rf (some (y 12)), .int x] h (fun h' r => h' = h ∧ r = nI (onN μ x)) := fun x => by
    have ho := m_owns (g := g) (P := P) (x1 := x) (n8 := 8) rfl mw.1
    rw [mw.rw (r := 13) rfl] at ho
    exact ho
  have rl : (List.range (y 20)).length = y 20 := List.length_range
  refine e_169 (s_169_0 ?_)
  have lp := fold_loop (List.range (y 20)) (noF μ) (fun s b => (∀ k, b = some k → k < 8) → Ev g P 169 4 [some (va_rf (some (y 12))), some (.int (oI b)), some (.int (nI s))] [] h (fun h' r => ∃ x, r = some (.int x) ∧ h' = h ∧ x = oI (noM y μ))) ?_ none ?_
  · have := lp (fun k q => by cases q)
    rw [nI_0] at this
    exact this
  · intro s b hs kn hb
    rw [List.getElem_range] at kn
    rw [rl] at hs
    have es : (nI s).toNatClampNeg = s := nI_clamp (by omega)
    have c6 : hA h (ad 6) (nI s).toNatClampNeg = μ.2.1 6 s := by rw [es]; exact mw.2.2.2.1 6 s rfl
    have c8 : hA h (ad 8) (nI s).toNatClampNeg = μ.2.1 8 s := by rw [es]; exact mw.2.2.2.1 8 s rfl
    have no : ¬ (μ.2.1 5 s = 0 ∧ μ.2.1 6 s = 0 ∧ μ.2.1 8 s = 0 ∧ noB μ b s = true) → Ev g P 169 58 [some (va_rf (some (y 12))), some (.int (oI b)), some (.int (nI s))] [] h (fun h' r => ∃ x, r = some (.int x) ∧ h' = h ∧ x = oI (noM y μ)) := fun q => by
      refine s_169_58 ?_
      rw [nI_1]
      unfold noF at kn
      rw [if_neg q] at kn
      exact kn hb
    have yes : (μ.2.1 5 s = 0 ∧ μ.2.1 6 s = 0 ∧ μ.2.1 8 s = 0 ∧ noB μ b s = true) → Ev g P 169 56 [some (va_rf (some (y 12))), some (.int (oI b)), some (.int (nI s))] [] h (fun h' r => ∃ x, r = some (.int x) ∧ h' = h ∧ x = oI (noM y μ)) := fun q => by
      refine s_169_56 (s_169_58 ?_)
      rw [nI_1]
      unfold noF at kn
      rw [if_pos q] at kn
      exact kn (fun k e => by cases e; omega)
    refine s_169_4 (k3 := mw.1.1) (kt := fun z => absurd z (by rw [e832]; exact nI_ge hs (by omega))) (kf := fun _ => ?_)
    refine s_169_12 (k3 := mw.1.1) (hc := m_isUpM mw.1 (i := s) (by omega)) (kk := fun h1 x' ⟨q1, q2⟩ => ?_)
    subst q1; subst q2
    rw [mw.2.2.2.1 5 s rfl]
    by_cases q5 : μ.2.1 5 s = 0
    · rw [if_pos q5]
      refine s_169_17 (kt := fun z => absurd z (by decide)) (kf := fun _ => ?_)
      refine s_169_20 (k3 := mw.1.1) (e5 := mw.1.r6) (k6 := mw.1.k6) (i7 := by rw [mw.1.n6]; exact vin_nI (by omega) (by decide)) (kt := fun z => no (fun q => by rw [c6] at z; exact z q.2.1)) (kf := fun z6 => ?_)
      rw [c6] at z6
      refine s_169_29 (k3 := mw.1.1) (e5 := mw.1.r8) (k6 := mw.1.k8) (i7 := by rw [mw.1.n8]; exact vin_nI (by omega) (by decide)) (kt := fun z => no (fun q => by rw [c8] at z; exact z q.2.2.1)) (kf := fun z8 => ?_)
      rw [c8] at z8
      cases b with
      | none => exact s_169_38 (kt := fun _ => yes ⟨q5, z6, z8, rfl⟩) (kf := fun z => absurd rfl z)
      | some k =>
        have hk := hb k rfl
        refine s_169_38 (kt := fun z => absurd z (oI_ne (by omega))) (kf := fun _ => ?_)
        refine s_169_43 (k3 := mw.1.1) (hc := how _) (kk := fun h2 x' ⟨q1, q2⟩ => ?_)
        subst q1; subst q2
        refine s_169_48 (k3 := mw.1.1) (hc := how _) (kk := fun h3 x' ⟨q1, q2⟩ => ?_)
        subst q1; subst q2
        have b1 := onN_le (μ := μ) (x := nI s)
        have b2 := onN_le (μ := μ) (x := nI k)
        have b2' : onN μ (oI (some k)) ≤ 8 := b2
        refine s_169_53 (kt := fun z => no (fun q => ?_)) (kf := fun z => yes ⟨q5, z6, z8, ?_⟩)
        · have q4 : onN μ (nI s) < onN μ (nI k) := of_decide_eq_true q.2.2.2
          have z := (nI_leI (by omega) (by omega)).mp z
          have z : onN μ (nI k) ≤ onN μ (nI s) := z
          omega
        · refine decide_eq_true ?_
          rcases Nat.lt_or_ge (onN μ (nI s)) (onN μ (nI k)) with q | q
          · exact q
          · exact absurd (nI_le q (by omega)) z
    · rw [if_neg q5]
      exact s_169_17 (kt := fun _ => no (fun q => q5 q.1)) (kf := fun z => absurd rfl z)
  · intro hb
    rw [rl]
    exact s_169_4 (k3 := mw.1.1) (kt := fun _ => s_169_64 ⟨_, rfl, rfl, rfl⟩) (kf := fun z => absurd (by rw [e832]; exact nI_le (Nat.le_refl _) (by omega)) z)
end MO2
