/-! Coordinator.recoverDead: all turns -/
section REC
variable {g : gcT} {P : pmT} {o o' w w' : Nat → Nat} {y : Nat → Nat} {R R2 : arT} {h h' : hpT} {B : Nat → Prop} {i j t c m : Nat} {ss : List Nat} {Ls : List lsT} {Ds Ds' : List (Nat × Nat)} {S S' : stA} {ps : psT} {kc km kc' km' : Nat} {st : stA × Nat}
theorem nI_m1 (n : Nat) : nI (n + 1) + (-1) = nI n := by rw [← nI_pred n, Int32.sub_eq_add_neg]
theorem mem_er {α : Type} {l : List α} {j : Nat} {x : α} (h : x ∈ l.eraseIdx j) : x ∈ l := (List.eraseIdx_sublist l j).subset h
theorem rec_L (hP6 : P 206 = cpyO) (wf : hWF h) (ok : oOK o) (hy : yOK y) : ∀ (n : Nat) (st : stA × Nat) (j r : Nat) (h1 : hpT), StpR g h o y R R2 ss Ls Ds S st h1 → tNm S ≤ tNm st.1 → (∀ d ∈ (tDe st.1).map (·.1), I1 (y 20) d) → (tDe st.1).length ≤ 16 → j + n ≤ 100 → r + n ≤ 100 → tNm (rcL y n st j r).1.1 ≤ 80000 → ∀ o4 o5 o6 : Option Value, Ev g P 13 12 [some (va_rf (some (y 4))), some (.int (nI r)), some (.int (nI j)), some (.int (nI n)), o4, o5, o6] [] h1 (fun h' v => ∃ x, v = some (.int x) ∧ x = nI (rcL y n st j r).2 ∧ StpR g h o y R R2 ss Ls Ds S (rcL y n st j r).1 h') := by
  intro n
  induction n with
  | zero =>
    intro st j r h1 s _ _ _ _ _ _ o4 o5 o6
    exact s_13_12 (kt := fun _ => s_13_169 ⟨_, rfl, rfl, s⟩) (kf := fun z => absurd (by rw [nI_0]; decide) z)
  | succ n ih =>
    intro st j r h1 s hS0 hI1 hD hj hr hb o4 o5 o6
    have s' := s
    obtain ⟨o1, w1, L1, D1, c1, m1, s1, s2, s3⟩ := s'
    obtain ⟨k0, k1, k4, kse, kde⟩ := s1.kinds
    have kD := s1.2.2.2.2.2
    have lD : D1.length = (tDe st.1).length := s1.2.2.2.2.1.1
    have t6 := kD.2.2.1.2.1
    have hsz : EvI g P 191 [va_rf (hR h1 194 (y 4))] h1 (fun h' r => h' = h1 ∧ r = nI (tDe st.1).length) := by
      rw [kD.2.2.1.1, ← lD]
      have := m_size (P := P) t6.1
      rw [List.length_map] at this
      exact this
    refine s_13_12 (kt := fun z => absurd z (nI_nle (by omega) (by omega))) (kf := fun _ => ?_)
    refine s_13_16 (k3 := k4) (e5 := kD.2.2.1.1) (k6 := t6.1.1) (hc := hsz) (kk := fun h2 x ⟨e1, e2⟩ => ?_)
    subst e1; subst e2
    refine s_13_24 (kt := fun z => ?_) (kf := fun z => ?_)
    · have hle := (nI_leI (by omega) (by omega)).mp z
      have e : rcL y (n + 1) st j r = (st, r) := by rw [rcL, if_pos hle]
      rw [e]
      exact s_13_169 ⟨_, rfl, rfl, s⟩
    · have hlt : j < (tDe st.1).length := by
        rcases Nat.lt_or_ge j (tDe st.1).length with q | q
        · exact q
        · exact absurd (nI_le q (by omega)) z
      have hjD : j < D1.length := by omega
      have eD : (D1.map (·.1))[j]'(by rw [List.length_map]; exact hjD) = (D1.getD j (0, 0)).1 := by
        rw [List.getElem_map, List.getD_eq_getElem?_getD, List.getElem?_eq_getElem hjD]; rfl
      have hgt : EvA g P 193 [va_rf (hR h2 194 (y 4)), .int (nI j)] h2 (fun h' r => h' = h2 ∧ r = some (D1.getD j (0, 0)).1) := by
        rw [kD.2.2.1.1, ← eD]
        exact m_get t6.1 (by rw [List.length_map]; exact hjD)
      obtain ⟨kL, oL, wL⟩ := kde j hjD
      obtain ⟨d1, d2, d3, d4, d5⟩ := rcD_1 y st j
      have e1 : rcL y (n + 1) st j r = if ((tDe (rcD y st j).1).getD j d0A).2 = 0 then rcL y n (rmD (rcD y st j).1 j, (rcD y st j).2) j (r + 1) else rcL y n (rcD y st j) (j + 1) r := by
        rw [rcL, if_neg (by omega)]
      have hI1' : ∀ d ∈ (tDe (rcD y st j).1).map (·.1), I1 (y 20) d := by rw [d2]; exact hI1
      have hbD : tNm (rcD y st j).1 ≤ 80000 := by
        rw [e1] at hb
        split at hb
        · exact Nat.le_trans (rcL_1 y n (rmD (rcD y st j).1 j, (rcD y st j).2) j (r + 1)).1 hb
        · exact Nat.le_trans (rcL_1 y n (rcD y st j) (j + 1) r).1 hb
      have tail : ∀ h3 o5 o6, (∃ o2 w2 L2 c2 m2, RS g h3 o2 w2 y R R2 ss L2 D1 (rcD y st j).1 ∧ CG (Bs y) c2 m2 h o h3 o2 ∧ Cst g y h Ls Ds h3 L2 D1 (9 * (tNm (rcD y st j).1 - tNm S) + 6 * (rcD y st j).2) (kmO y * (tNm (rcD y st j).1 - tNm S) + nf 6 * 6 * (rcD y st j).2)) → Ev g P 13 137 [some (va_rf (some (y 4))), some (.int (nI r)), some (.int (nI j)), some (.int (nI (n + 1))), some (va_rf (some (D1.getD j (0, 0)).1)), o5, o6] [] h3 (fun h' v => ∃ x, v = some (.int x) ∧ x = nI (rcL y (n + 1) st j r).2 ∧ StpR g h o y R R2 ss Ls Ds S (rcL y (n + 1) st j r).1 h') := by
        intro h3 o5 o6 ⟨o2, w2, L2, c2, m2, q1, q2, q3⟩
        obtain ⟨k0', k1', k4', kse', kde'⟩ := q1.kinds
        have e259 : hI h3 259 (D1.getD j (0, 0)).1 = ((tDe (rcD y st j).1).getD j d0A).2 := (q1.2.2.2.2.1.2.2 j hjD).1.2.2
        have kD' := q1.2.2.2.2.2
        have t6' := kD'.2.2.1.2.1
        refine s_13_137 (k3 := (kde' j hjD).1) (kt := fun z => ?_) (kf := fun z => ?_)
        · rw [e259] at z
          rw [if_neg z] at e1
          rw [e1] at hb ⊢
          refine s_13_160 (s_13_163 ?_)
          rw [nI_1, nI_m1]
          exact ih (rcD y st j) (j + 1) r h3 ⟨o2, w2, L2, D1, c2, m2, q1, q2, q3⟩ (Nat.le_trans hS0 d1) hI1' (by omega) (by omega) (by omega) hb _ _ _
        · rw [e259] at z
          rw [if_pos z] at e1
          rw [e1] at hb ⊢
          have hrm := RS.rm6 (P := P) q1 hjD
          rw [← kD'.2.2.1.1] at hrm
          refine s_13_145 (k3 := k4') (e5 := kD'.2.2.1.1) (k6 := t6'.1.1) (hc := hrm) (kk := fun h4 x ⟨v1, v2, v3⟩ => s_13_153 (s_13_163 ?_))
          rw [nI_1, nI_m1]
          refine ih (rmD (rcD y st j).1 j, (rcD y st j).2) j (r + 1) h4 ⟨o2, w2, L2, D1.eraseIdx j, _, _, v1, CG.tr wf ok q2 v2, ?_⟩ (Nat.le_trans hS0 d1) ?_ ?_ (by omega) (by omega) hb _ _ _
          · have hcr : crd L2 (D1.eraseIdx j) ≤ crd L2 D1 := by
              have := sum_er (·.2) D1 j
              unfold crd
              omega
            have := q3.tr (Cst.of (L0 := L2) (L1 := L2) (D0 := D1) (D1 := D1.eraseIdx j) (a := 0) (b := 0) v2 v3 (by omega) (by omega))
            exact this
          · intro d hd
            obtain ⟨x, hx, ex⟩ := List.mem_map.mp hd
            refine hI1' d ?_
            rw [← ex]
            exact List.mem_map_of_mem (mem_er hx)
          · show ((tDe (rcD y st j).1).eraseIdx j).length ≤ 16
            rw [List.length_eraseIdx]
            split <;> omega
      refine s_13_27 (k3 := k4) (e5 := kD.2.2.1.1) (k6 := t6.1.1) (hc := hgt) (kk := fun h3 x ⟨f1, f2⟩ => ?_)
      subst f1; subst f2
      have hcn := RS.can (P := P) s1 hjD
      rw [← kD.1.2.2] at hcn
      refine s_13_35 (c1 := fun a ea => by cases ea; exact kL) (k4 := k4) (e6 := kD.1.2.2) (k7 := k0) (hc := hcn) (kk := fun h4 x ⟨f1, f2⟩ => ?_)
      subst f1; subst f2
      refine s_13_49 (kt := fun z => ?_) (kf := fun z => ?_)
      · have hc : ¬ canA y st.1 ((tDe st.1).getD j d0A).1 = true := fun q => by rw [if_pos q] at z; exact absurd z (by decide)
        have er : rcD y st j = st := if_neg hc
        refine tail h4 _ _ ?_
        rw [er]
        exact ⟨o1, w1, L1, c1, m1, s1, s2, s3⟩
      · have hc : canA y st.1 ((tDe st.1).getD j d0A).1 = true := by
          by_cases q : canA y st.1 ((tDe st.1).getD j d0A).1 = true
          · exact q
          · rw [if_neg q] at z; exact absurd rfl z
        have er : rcD y st j = (List.range 8).foldl (rcT y (rcP st.1 j) j) st := if_pos hc
        obtain ⟨⟨xs, stv⟩, -⟩ := s1.2.2.1
        have e646 : hI h4 646 (y 0) = nI (upN (tSv st.1)) := stv.1.2.2.2.2.2.2.1
        have hd1 : ((tDe st.1).getD j d0A).1 ∈ (tDe st.1).map (·.1) := by
          rw [List.getD_eq_getElem?_getD, List.getElem?_eq_getElem hlt]
          exact List.mem_map_of_mem (List.getElem_mem hlt)
        have hrd := RS.read (P := P) s1 hjD (hI1 _ hd1)
        rw [← e646, ← kD.2.2.2.1.1] at hrd
        refine s_13_52 (k3 := k4) (e5 := kD.1.2.2) (k6 := k0) (e8 := kD.2.2.2.1.1) (k9 := kD.2.2.2.1.2.1.1) (hc := hrd) (kk := fun h5 ⟨q1, q2, q3, q4⟩ => s_13_68 ?_)
        rw [e646] at q4
        have q4 : pstH h5 y R2 (rcP st.1 j) := q4
        have k9 := s1.2.1.2.2.1
        have k12 := s1.2.1.2.2.2
        have ok1 := s1.1.2.2
        refine rec_8 (n8 := 8) rfl hP6 q1 q4 hjD (by rw [← er]; exact hbD) (fun h6 o5' o6' ⟨o2, w2, L2, c2, m2, v1, v2, v3⟩ => tail h6 _ _ ⟨o2, w2, L2, _, _, by rw [er]; exact v1, CG.tr wf ok (CG.tr wf ok s2 (q2.mono ok1 (fun z _ q => by rw [q]; exact ⟨kinds_ne (h := h4) (by omega), kinds_ne (h := h4) (by omega)⟩) (Nat.le_refl _) (Nat.le_refl _))) v2, ?_⟩) _
        rw [← er] at v3
        have tot := (s3.tr (Cst.of (L0 := L1) (L1 := L1) (D0 := D1) (D1 := D1) (a := 0) (b := 0) q2 q3 (Nat.le_refl _) (Nat.le_refl _))).tr v3
        have a1 := kp_sub (k := 9) hS0 d1
        have a3 := kp_sub (k := kmO y) hS0 d1
        have a2 : 6 * st.2 + 6 * ((rcD y st j).2 - st.2) = 6 * (rcD y st j).2 := by omega
        have a4 : nf 6 * 6 * st.2 + nf 6 * 6 * ((rcD y st j).2 - st.2) = nf 6 * 6 * (rcD y st j).2 := by
          rw [← Nat.mul_add, show st.2 + ((rcD y st j).2 - st.2) = (rcD y st j).2 by omega]
        obtain ⟨b1, b2, b3⟩ := tot
        exact ⟨by omega, by omega, b3⟩
theorem m_recover (hP6 : P 206 = cpyO) (kS : RS g h o w y R R2 ss Ls Ds S) (hI1 : ∀ d ∈ (tDe S).map (·.1), I1 (y 20) d) (hD : (tDe S).length ≤ 16) (hb : tNm (rcL y (tDe S).length (S, 0) 0 0).1.1 ≤ 80000) : EvI g P 13 [va_rf (some (y 4))] h (fun h' r => r = nI (rcL y (tDe S).length (S, 0) 0 0).2 ∧ StpR g h o y R R2 ss Ls Ds S (rcL y (tDe S).length (S, 0) 0 0).1 h') := by
  have kD := kS.2.2.2.2.2
  have k4 := kD.1.1
  have lD : Ds.length = (tDe S).length := kS.2.2.2.2.1.1
  have t6 := kD.2.2.1.2.1
  have hsz : EvI g P 191 [va_rf (hR h 194 (y 4))] h (fun h' r => h' = h ∧ r = nI (tDe S).length) := by
    rw [kD.2.2.1.1, ← lD]
    have := m_size (P := P) t6.1
    rw [List.length_map] at this
    exact this
  refine e_13 (s_13_0 (k3 := k4) (e5 := kD.2.2.1.1) (k6 := t6.1.1) (hc := hsz) (kk := fun h2 x ⟨e1, e2⟩ => s_13_11 ?_))
  subst e1; subst e2
  have := rec_L (P := P) hP6 kS.1.1 kS.1.2.2 kS.2.1.1 (tDe S).length (S, 0) 0 0 h2 (by
    unfold StpR
    rw [Nat.sub_self, Nat.mul_zero, Nat.mul_zero, Nat.mul_zero, Nat.mul_zero]
    exact StpC.rf kS) (Nat.le_refl _) hI1 hD (by omega) (by omega) hb none none none
  rw [nI_0] at this
  exact this
end REC
