/-! tick -/
def tkD (y : Nat → Nat) (S : stA) : (stA × Nat) × Nat := rcL y (tDe (lkA y S)).length (lkA y S, 0) 0 0
def tk1F (y : Nat → Nat) (st : fcT × Int32 × Nat) : fcT × Int32 × Nat :=
  if ¬ tAw (tdA y (fSt st.1)) = 0 then ((tdA y (fSt st.1), fCl st.1, fNt st.1, fCk st.1 + 1, fEf st.1), st.2)
  else (((tkD y (tdA y (fSt st.1))).1.1, fCl st.1, fNt st.1, fCk st.1 + 1, fEf st.1), st.2.1 + nI (tkD y (tdA y (fSt st.1))).2, st.2.2 + (tkD y (tdA y (fSt st.1))).1.2)
def tkN (y : Nat → Nat) (F : fcT) : Nat → fcT × Int32 × Nat
  | 0 => (F, 0, 0)
  | n + 1 => tk1F y (tkN y F n)
def tickA (y : Nat → Nat) (F : fcT) (x : Int32) : fcT × Int32 × Nat := if x < 0 ∨ ¬ x ≤ 100 then (F, -1, 0) else tkN y F x.toNatClampNeg
def kcK (S S' : stA) (k : Nat) : Nat := 12 * (tFo S' - tFo S) + 12 * (tDs S' - tDs S) + 9 * (tNm S' - tNm S) + 6 * k
def kmK (y : Nat → Nat) (S S' : stA) (k : Nat) : Nat := (nf 4 + nf 0 + 40) * (tFo S' - tFo S) + (nf 4 + nf 0 + 40) * (tDs S' - tDs S) + kmO y * (tNm S' - tNm S) + nf 6 * 6 * k
def TI (y : Nat → Nat) (S : stA) : Prop := FA (I1 (y 20)) S ∧ (tDe S).length ≤ 16 ∧ ∀ d ∈ (tDe (lkA y (tdA y S))).map (·.1), I1 (y 20) d
section TICK
variable {g : gcT} {P : pmT} {o o' w w' : Nat → Nat} {y : Nat → Nat} {R R2 : arT} {h h' h1 h2 : hpT} {B : Nat → Prop} {i j t c m n p q e N U L nx : Nat} {ss : List Nat} {Ls L1 : List lsT} {Ds D1 : List (Nat × Nat)} {S S' : stA} {cs : csT} {F F' : fcT} {x1 x2 x3 st : Int32} {zs : List svT}
theorem tdS_eq (y : Nat → Nat) (S : stA) (i : Nat) : tDs (tdS y S i) = tDs S ∧ tNm (tdS y S i) = tNm S ∧ tDe (tdS y S i) = tDe S ∧ tAw (tdS y S i) = tAw S := by
  unfold tdS
  split
  · exact ⟨rfl, rfl, rfl, rfl⟩
  · split
    · exact ⟨rfl, rfl, rfl, rfl⟩
    · exact ⟨rfl, rfl, rfl, rfl⟩
theorem tdA_eq (y : Nat → Nat) (S : stA) : tDs (tdA y S) = tDs S ∧ tNm (tdA y S) = tNm S ∧ tDe (tdA y S) = tDe S ∧ tAw (tdA y S) = tAw S := by
  have : ∀ (l : List Nat) (S : stA), tDs (l.foldl (tdS y) S) = tDs S ∧ tNm (l.foldl (tdS y) S) = tNm S ∧ tDe (l.foldl (tdS y) S) = tDe S ∧ tAw (l.foldl (tdS y) S) = tAw S := by
    intro l
    induction l with
    | nil => intro S; exact ⟨rfl, rfl, rfl, rfl⟩
    | cons a l ih =>
      intro S
      obtain ⟨a1, a2, a3, a4⟩ := ih (tdS y S a)
      obtain ⟨b1, b2, b3, b4⟩ := tdS_eq y S a
      exact ⟨a1.trans b1, a2.trans b2, a3.trans b3, a4.trans b4⟩
  exact this _ S
theorem rcT_fo (y : Nat → Nat) (ps : psT) (j : Nat) (st : stA × Nat) (t : Nat) : tDs (rcT y ps j st t).1 = tDs st.1 ∧ tFo (rcT y ps j st t).1 = tFo st.1 := by
  unfold rcT
  split
  · exact ⟨rfl, rfl⟩
  · split
    · exact ⟨rfl, rfl⟩
    · rename_i i _
      obtain ⟨-, -, -, a4, a5⟩ := tkS_nm y ps (dtb st.1 j t) i t
      have e1 : tDs (dtb st.1 j t) = tDs st.1 := rfl
      have e2 : tFo (dtb st.1 j t) = tFo st.1 := rfl
      rw [e1] at a4
      rw [e2] at a5
      dsimp only
      generalize tkS y ps (dtb st.1 j t) i t = T at a4 a5
      exact ⟨a4, a5⟩
theorem rcD_fo (y : Nat → Nat) (st : stA × Nat) (j : Nat) : tDs (rcD y st j).1 = tDs st.1 ∧ tFo (rcD y st j).1 = tFo st.1 := by
  have : ∀ (l : List Nat) (st : stA × Nat) (ps : psT), tDs (l.foldl (rcT y ps j) st).1 = tDs st.1 ∧ tFo (l.foldl (rcT y ps j) st).1 = tFo st.1 := by
    intro l
    induction l with
    | nil => intro st ps; exact ⟨rfl, rfl⟩
    | cons a l ih =>
      intro st ps
      obtain ⟨a1, a2⟩ := ih (rcT y ps j st a) ps
      obtain ⟨b1, b2⟩ := rcT_fo y ps j st a
      exact ⟨a1.trans b1, a2.trans b2⟩
  unfold rcD
  split
  · exact this _ st _
  · exact ⟨rfl, rfl⟩
theorem rcL_fo (y : Nat → Nat) : ∀ (n : Nat) (st : stA × Nat) (j r : Nat), tDs (rcL y n st j r).1.1 = tDs st.1 ∧ tFo (rcL y n st j r).1.1 = tFo st.1 := by
  intro n
  induction n with
  | zero => intro st j r; exact ⟨rfl, rfl⟩
  | succ n ih =>
    intro st j r
    rw [rcL]
    obtain ⟨a1, a2⟩ := rcD_fo y st j
    split
    · exact ⟨rfl, rfl⟩
    · split
      · obtain ⟨b1, b2⟩ := ih (rmD (rcD y st j).1 j, (rcD y st j).2) j (r + 1)
        exact ⟨b1.trans a1, b2.trans a2⟩
      · obtain ⟨b1, b2⟩ := ih (rcD y st j) (j + 1) r
        exact ⟨b1.trans a1, b2.trans a2⟩
/-- what grows in a TICK -/
theorem tk1_mono (hy : yOK y) (f : FA (I1 (y 20)) (fSt F)) (hl : (tSv (fSt F)).length = y 20) (hD : (tDe (fSt F)).length ≤ 16) (r : Int32) (k : Nat) : tFo (fSt F) ≤ tFo (fSt (tk1F y (F, r, k)).1) ∧ tDs (fSt F) ≤ tDs (fSt (tk1F y (F, r, k)).1) ∧ tNm (fSt F) ≤ tNm (fSt (tk1F y (F, r, k)).1) ∧ k ≤ (tk1F y (F, r, k)).2.2 := by
  obtain ⟨t1, t2, t3⟩ := tdA_inv hy f hl (y 20) (Nat.le_refl _)
  have t3 : tFo (fSt F) ≤ tFo (tdA y (fSt F)) := t3
  obtain ⟨e1, e2, e3, e4⟩ := tdA_eq y (fSt F)
  unfold tk1F
  split
  · exact ⟨t3, by show _ ≤ tDs (tdA y (fSt F)); omega, by show _ ≤ tNm (tdA y (fSt F)); omega, Nat.le_refl _⟩
  · obtain ⟨l1, l2, l3, l4⟩ := lkA_inv (S := tdA y (fSt F)) (by rw [e3]; exact hD) (y 20)
    obtain ⟨a1, a2⟩ := rcL_fo y (tDe (lkA y (tdA y (fSt F)))).length (lkA y (tdA y (fSt F)), 0) 0 0
    obtain ⟨b1, b2, b3⟩ := rcL_1 y (tDe (lkA y (tdA y (fSt F)))).length (lkA y (tdA y (fSt F)), 0) 0 0
    have l2 : tDs (tdA y (fSt F)) ≤ tDs (lkA y (tdA y (fSt F))) := l2
    have l3 : tFo (lkA y (tdA y (fSt F))) = tFo (tdA y (fSt F)) := l3
    have l4 : tNm (lkA y (tdA y (fSt F))) = tNm (tdA y (fSt F)) := l4
    have a1 : tDs (tkD y (tdA y (fSt F))).1.1 = tDs (lkA y (tdA y (fSt F))) := a1
    have a2 : tFo (tkD y (tdA y (fSt F))).1.1 = tFo (lkA y (tdA y (fSt F))) := a2
    have b1 : tNm (lkA y (tdA y (fSt F))) ≤ tNm (tkD y (tdA y (fSt F))).1.1 := b1
    exact ⟨by show _ ≤ tFo (tkD y (tdA y (fSt F))).1.1; omega, by show _ ≤ tDs (tkD y (tdA y (fSt F))).1.1; omega, by show _ ≤ tNm (tkD y (tdA y (fSt F))).1.1; omega, Nat.le_add_right _ _⟩
/-- one TICK -/
theorem tick_1 (hP6 : P 206 = cpyO) (kS : RS g h o w y R R2 ss Ls Ds (fSt F)) (kF : fcR h o y ss cs F) (hT : TI y (fSt F)) {r : Int32} {k : Nat} (hb : tNm (fSt (tk1F y (F, r, k)).1) ≤ 80000) {x1 x3 : Int32} {Q0 : hpT → Option Value → Prop} (kk : ∀ h', StpF g h o y R R2 ss Ls Ds (kcK (fSt F) (fSt (tk1F y (F, r, k)).1) ((tk1F y (F, r, k)).2.2 - k)) (kmK y (fSt F) (fSt (tk1F y (F, r, k)).1) ((tk1F y (F, r, k)).2.2 - k)) (tk1F y (F, r, k)).1 h' → Ev g P 77 65 [some (va_rf (some (y 9))), some (.int x1), some (.int (tk1F y (F, r, k)).2.1), some (.int x3)] [] h' Q0) : Ev g P 77 21 [some (va_rf (some (y 9))), some (.int x1), some (.int r), some (.int x3)] [] h Q0 := by
  have wf := kS.1.1
  have ok := kS.1.2.2
  have k9 := kS.2.1.2.2.1
  have k4 := kS.2.2.2.2.2.1.1
  have hy := kS.2.1.1
  obtain ⟨⟨a1, a2, a3⟩, -⟩ := kF.1
  obtain ⟨hf, hD, hI1⟩ := hT
  have lsv : (tSv (fSt F)).length = y 20 := kS.2.2.2.1.1.2.1
  have e772 : hI h 772 (y 9) + 1 = nI (fCk F + 1) := by
    have : hI h 772 (y 9) = nI (fCk F) := kF.2.2.2.2.1
    rw [this, nI_1]
  obtain ⟨o1, w1, L1, D1, cs1, c1, m1, z0, z1, z2, z3, z4⟩ := StpG.y9I (F' := (fSt F, fCl F, fNt F, fCk F + 1, fEf F)) kS k9 (by decide) kF kF.ck
  have htd := m_tend (P := P) z0 hf
  rw [← z1.1.1.2.2, ← e772] at htd
  have z1' := z1.1.1.2.2
  have e769 : hR (hpI h 772 (y 9) (hI h 772 (y 9) + 1)) 769 (y 9) = hR h 769 (y 9) := rfl
  rw [e769] at htd
  refine s_77_21 (k3 := k9) (e5 := a3) (k6 := k4) (hc := htd) (kk := fun h2 st => ?_)
  rw [e772] at st
  obtain ⟨o2, w2, L2, D2, cs2, c2, m2, y0, y1, y2, y3, y4⟩ := StpG.ofC z0 z1 st
  have cgT := CG.tr wf ok z2 y2
  have csT' := z3.tr y3
  obtain ⟨t1, t2, t3⟩ := tdA_inv hy hf lsv (y 20) (Nat.le_refl _)
  have t3 : tFo (fSt F) ≤ tFo (tdA y (fSt F)) := t3
  have t1 : FA (I1 (y 20)) (tdA y (fSt F)) := t1
  obtain ⟨e1, e2, e3, e4⟩ := tdA_eq y (fSt F)
  have e647 : hI h2 647 (y 0) = tAw (tdA y (fSt F)) := y0.2.2.1.2.1.2.1
  have k92 := y0.2.1.2.2.1
  have k02 := y0.kinds.1
  obtain ⟨A1, A2, A3⟩ := y1.1.1
  have wf2 := y0.1.1
  have ok2 := y0.1.2.2
  have base : StpF g h o y R R2 ss Ls Ds (0 + 12 * (tFo (tdA y (fSt F)) - tFo (fSt F))) (0 + (nf 4 + nf 0 + 40) * (tFo (tdA y (fSt F)) - tFo (fSt F))) (tdA y (fSt F), fCl F, fNt F, fCk F + 1, fEf F) h2 := ⟨o2, w2, L2, D2, cs2, _, _, y0, y1, cgT, csT'⟩
  refine s_77_38 (k3 := k92) (e5 := A2) (k6 := k02) (kt := fun z => ?_) (kf := fun z => ?_)
  · rw [e647] at z
    have eT : tk1F y (F, r, k) = ((tdA y (fSt F), fCl F, fNt F, fCk F + 1, fEf F), r, k) := if_pos z
    rw [eT] at kk
    refine kk h2 (base.le ?_ ?_)
    · show _ ≤ 12 * (tFo (tdA y (fSt F)) - tFo (fSt F)) + 12 * (tDs (tdA y (fSt F)) - tDs (fSt F)) + 9 * (tNm (tdA y (fSt F)) - tNm (fSt F)) + 6 * (k - k)
      omega
    · show _ ≤ (nf 4 + nf 0 + 40) * (tFo (tdA y (fSt F)) - tFo (fSt F)) + (nf 4 + nf 0 + 40) * (tDs (tdA y (fSt F)) - tDs (fSt F)) + kmO y * (tNm (tdA y (fSt F)) - tNm (fSt F)) + nf 6 * 6 * (k - k)
      omega
  · rw [e647] at z
    have eT : tk1F y (F, r, k) = (((tkD y (tdA y (fSt F))).1.1, fCl F, fNt F, fCk F + 1, fEf F), r + nI (tkD y (tdA y (fSt F))).2, k + (tkD y (tdA y (fSt F))).1.2) := if_neg (not_not_intro z)
    rw [eT] at kk hb
    have hb : tNm (tkD y (tdA y (fSt F))).1.1 ≤ 80000 := hb
    have hD2 : (tDe (tdA y (fSt F))).length ≤ 16 := by rw [e3]; exact hD
    have hlk := m_look (P := P) hP6 y0 hD2
    rw [← A3] at hlk
    refine s_77_48 (k3 := k92) (e5 := A3) (k6 := y0.2.2.2.2.2.1.1) (hc := hlk) (kk := fun h3 st3 => ?_)
    obtain ⟨o3, w3, L3, D3, cs3, c3, m3, x0, x1', x2, x3', x4⟩ := StpG.ofC y0 y1 st3
    obtain ⟨l1, l2, l3, l4⟩ := lkA_inv (S := tdA y (fSt F)) hD2 (y 20)
    have l1 : (tDe (lkA y (tdA y (fSt F)))).length ≤ 16 := l1
    have hrc := m_recover (P := P) hP6 x0 hI1 l1 hb
    have A33 := x1'.1.1.2.2
    rw [← A33] at hrc
    refine s_77_55 (k3 := x0.2.1.2.2.1) (e5 := A33) (k6 := x0.2.2.2.2.2.1.1) (hc := hrc) (kk := fun h4 v ⟨ev, st4⟩ => s_77_63 ?_)
    rw [ev]
    have st4 : StpC g h3 o3 y R R2 ss L3 D3 (9 * (tNm (tkD y (tdA y (fSt F))).1.1 - tNm (lkA y (tdA y (fSt F)))) + 6 * (tkD y (tdA y (fSt F))).1.2) (kmO y * (tNm (tkD y (tdA y (fSt F))).1.1 - tNm (lkA y (tdA y (fSt F)))) + nf 6 * 6 * (tkD y (tdA y (fSt F))).1.2) (tkD y (tdA y (fSt F))).1.1 h4 := st4
    have s4 := (StpG.ofC x0 x1' st4).f
    have tot := StpF.tr wf ok (CG.tr wf ok cgT x2) (csT'.tr x3') s4
    refine kk h4 (tot.le ?_ ?_)
    all_goals
      obtain ⟨q1, q2⟩ := rcL_fo y (tDe (lkA y (tdA y (fSt F)))).length (lkA y (tdA y (fSt F)), 0) 0 0
      obtain ⟨q3, -, -⟩ := rcL_1 y (tDe (lkA y (tdA y (fSt F)))).length (lkA y (tdA y (fSt F)), 0) 0 0
      have l2 : tDs (tdA y (fSt F)) ≤ tDs (lkA y (tdA y (fSt F))) := l2
      have l3 : tFo (lkA y (tdA y (fSt F))) = tFo (tdA y (fSt F)) := l3
      have l4 : tNm (lkA y (tdA y (fSt F))) = tNm (tdA y (fSt F)) := l4
      have q1 : tDs (tkD y (tdA y (fSt F))).1.1 = tDs (lkA y (tdA y (fSt F))) := q1
      have q2 : tFo (tkD y (tdA y (fSt F))).1.1 = tFo (lkA y (tdA y (fSt F))) := q2
      have q3 : tNm (lkA y (tdA y (fSt F))) ≤ tNm (tkD y (tdA y (fSt F))).1.1 := q3
    · show _ ≤ 12 * (tFo (tkD y (tdA y (fSt F))).1.1 - tFo (fSt F)) + 12 * (tDs (tkD y (tdA y (fSt F))).1.1 - tDs (fSt F)) + 9 * (tNm (tkD y (tdA y (fSt F))).1.1 - tNm (fSt F)) + 6 * (k + (tkD y (tdA y (fSt F))).1.2 - k)
      rw [q1, q2, l3, l4] 
      show 0 + 12 * (tFo (tdA y (fSt F)) - tFo (fSt F)) + 12 * (tDs (lkA y (tdA y (fSt F))) - tDs (tdA y (fSt F))) + _ ≤ _
      omega
    · show _ ≤ (nf 4 + nf 0 + 40) * (tFo (tkD y (tdA y (fSt F))).1.1 - tFo (fSt F)) + (nf 4 + nf 0 + 40) * (tDs (tkD y (tdA y (fSt F))).1.1 - tDs (fSt F)) + kmO y * (tNm (tkD y (tdA y (fSt F))).1.1 - tNm (fSt F)) + nf 6 * 6 * (k + (tkD y (tdA y (fSt F))).1.2 - k)
      rw [q1, q2, l3, l4, show k + (tkD y (tdA y (fSt F))).1.2 - k = (tkD y (tdA y (fSt F))).1.2 by omega]
      show 0 + (nf 4 + nf 0 + 40) * (tFo (tdA y (fSt F)) - tFo (fSt F)) + (nf 4 + nf 0 + 40) * (tDs (lkA y (tdA y (fSt F))) - tDs (tdA y (fSt F))) + (kmO y * (tNm (tkD y (tdA y (fSt F))).1.1 - tNm (tdA y (fSt F))) + nf 6 * 6 * (tkD y (tdA y (fSt F))).1.2) ≤ _
      rw [e1, e2]
      omega
theorem tkN_cl (y : Nat → Nat) (F : fcT) : ∀ n, fCl (tkN y F n).1 = fCl F ∧ fNt (tkN y F n).1 = fNt F ∧ fCk (tkN y F n).1 = fCk F + n ∧ fEf (tkN y F n).1 = fEf F := by
  intro n
  induction n with
  | zero => exact ⟨rfl, rfl, rfl, rfl⟩
  | succ n ih =>
    obtain ⟨a1, a2, a3, a4⟩ := ih
    show fCl (tk1F y (tkN y F n)).1 = _ ∧ fNt (tk1F y (tkN y F n)).1 = _ ∧ fCk (tk1F y (tkN y F n)).1 = _ ∧ fEf (tk1F y (tkN y F n)).1 = _
    unfold tk1F
    split
    · exact ⟨a1, a2, by show fCk _ + 1 = _; omega, a4⟩
    · exact ⟨a1, a2, by show fCk _ + 1 = _; omega, a4⟩
theorem m_tick (hP6 : P 206 = cpyO) (kS : RS g h o w y R R2 ss Ls Ds (fSt F)) (kF : fcR h o y ss cs F) (hT : ∀ n j, x1 = nI n → n ≤ 100 → j < n → TI y (fSt (tkN y F j).1) ∧ (tSv (fSt (tkN y F j).1)).length = y 20) (hb : tNm (fSt (tickA y F x1).1) ≤ 80000) : EvI g P 77 [va_rf (some (y 9)), .int x1] h (fun h' z => z = (tickA y F x1).2.1 ∧ StpF g h o y R R2 ss Ls Ds (kcK (fSt F) (fSt (tickA y F x1).1) (tickA y F x1).2.2) (kmK y (fSt F) (fSt (tickA y F x1).1) (tickA y F x1).2.2) (tickA y F x1).1 h') := by
  have wf := kS.1.1
  have ok := kS.1.2.2
  have hy := kS.2.1.1
  have rf0 : x1 < 0 ∨ ¬ x1 ≤ 100 → (-1 : Int32) = (tickA y F x1).2.1 ∧ StpF g h o y R R2 ss Ls Ds (kcK (fSt F) (fSt (tickA y F x1).1) (tickA y F x1).2.2) (kmK y (fSt F) (fSt (tickA y F x1).1) (tickA y F x1).2.2) (tickA y F x1).1 h := fun z => by
    have : tickA y F x1 = (F, -1, 0) := if_pos z
    rw [this]
    exact ⟨rfl, (StpF.rf kS kF).le (Nat.zero_le _) (Nat.zero_le _)⟩
  refine e_77 (s_77_0 (kt := fun z => s_77_10 ⟨_, rfl, rf0 (Or.inl z)⟩) (kf := fun z => s_77_4 (kt := fun z1 => s_77_12 ?_) (kf := fun z1 => s_77_10 ⟨_, rfl, rf0 (Or.inr z1)⟩)))
  obtain ⟨n, hn, en⟩ := nI_of z
  have hn100 : n ≤ 100 := by rw [en] at z1; exact (nI_leI hn (by decide)).mp z1
  have eT : tickA y F x1 = tkN y F n := by
    unfold tickA
    rw [if_neg (by rintro (q | q); exact z q; exact q z1), en, nI_clamp hn]
  rw [eT] at hb ⊢
  rw [en]
  have hT' := hT n
  -- what grows
  have mono : ∀ j, j ≤ n → tFo (fSt F) ≤ tFo (fSt (tkN y F j).1) ∧ tDs (fSt F) ≤ tDs (fSt (tkN y F j).1) ∧ tNm (fSt F) ≤ tNm (fSt (tkN y F j).1) := by
    intro j
    induction j with
    | zero => intro _; exact ⟨Nat.le_refl _, Nat.le_refl _, Nat.le_refl _⟩
    | succ j ih =>
      intro hj
      obtain ⟨b1, b2, b3⟩ := ih (by omega)
      obtain ⟨⟨i1, i2, i3⟩, i4⟩ := hT' j en hn100 (by omega)
      obtain ⟨d1, d2, d3, d4⟩ := tk1_mono hy i1 i4 i2 (tkN y F j).2.1 (tkN y F j).2.2
      exact ⟨Nat.le_trans b1 d1, Nat.le_trans b2 d2, Nat.le_trans b3 d3⟩
  have mono2 : ∀ d j, j + d ≤ n → tNm (fSt (tkN y F j).1) ≤ tNm (fSt (tkN y F (j + d)).1) := by
    intro d
    induction d with
    | zero => intro j _; exact Nat.le_refl _
    | succ d ih =>
      intro j hj
      obtain ⟨⟨i1, i2, i3⟩, i4⟩ := hT' (j + d) en hn100 (by omega)
      exact Nat.le_trans (ih j (by omega)) (tk1_mono hy i1 i4 i2 (tkN y F (j + d)).2.1 (tkN y F (j + d)).2.2).2.2.1
  have lp := cnt_loop n (fun j h1 => StpF g h o y R R2 ss Ls Ds (kcK (fSt F) (fSt (tkN y F j).1) (tkN y F j).2.2) (kmK y (fSt F) (fSt (tkN y F j).1) (tkN y F j).2.2) (tkN y F j).1 h1) (fun j h1 => Ev g P 77 16 [some (va_rf (some (y 9))), some (.int (nI n)), some (.int (tkN y F j).2.1), some (.int (nI j))] [] h1 (fun h' z => ∃ x, z = some (.int x) ∧ x = (tkN y F n).2.1 ∧ StpF g h o y R R2 ss Ls Ds (kcK (fSt F) (fSt (tkN y F n).1) (tkN y F n).2.2) (kmK y (fSt F) (fSt (tkN y F n).1) (tkN y F n).2.2) (tkN y F n).1 h')) ?_ ?_ h ((StpF.rf kS kF).le (Nat.zero_le _) (Nat.zero_le _))
  · rw [nI_0] at lp; exact lp
  · intro j h1 hj s1 kn
    obtain ⟨o1, w1, L1, D1, cs1, c1, m1, z0, z1', z2, z3⟩ := s1
    refine s_77_16 (kt := fun z => absurd z (nI_ge hj (by omega))) (kf := fun _ => ?_)
    obtain ⟨i1, i4⟩ := hT' j en hn100 hj
    have eS : tkN y F (j + 1) = tk1F y ((tkN y F j).1, (tkN y F j).2.1, (tkN y F j).2.2) := rfl
    have hbj : tNm (fSt (tkN y F (j + 1)).1) ≤ 80000 := by
      have := mono2 (n - (j + 1)) (j + 1) (by omega)
      rw [show j + 1 + (n - (j + 1)) = n by omega] at this
      exact Nat.le_trans this hb
    obtain ⟨b1, b2, b3⟩ := mono j (by omega)
    obtain ⟨d1, d2, d3, d4⟩ := tk1_mono hy i1.1 i4 i1.2.1 (tkN y F j).2.1 (tkN y F j).2.2
    rw [eS] at hbj
    refine tick_1 (k := (tkN y F j).2.2) hP6 z0 z1' i1 hbj (fun h2 st2 => s_77_65 ?_)
    rw [nI_1]
    refine kn h2 ?_
    rw [← eS] at st2 d1 d2 d3 d4
    refine (StpF.tr wf ok z2 z3 st2).le ?_ ?_
    · unfold kcK; omega
    · unfold kmK
      have a1 := kp_sub (k := nf 4 + nf 0 + 40) b1 d1
      have a2 := kp_sub (k := nf 4 + nf 0 + 40) b2 d2
      have a3 := kp_sub (k := kmO y) b3 d3
      have a4 : nf 6 * 6 * (tkN y F j).2.2 + nf 6 * 6 * ((tkN y F (j + 1)).2.2 - (tkN y F j).2.2) = nf 6 * 6 * (tkN y F (j + 1)).2.2 := by
        rw [← Nat.mul_add, show (tkN y F j).2.2 + ((tkN y F (j + 1)).2.2 - (tkN y F j).2.2) = (tkN y F (j + 1)).2.2 by omega]
      omega
  · intro h1 s1
    exact s_77_16 (kt := fun _ => s_77_71 ⟨_, rfl, rfl, s1⟩) (kf := fun z => absurd (nI_le (Nat.le_refl _) (by omega)) z)
end TICK
