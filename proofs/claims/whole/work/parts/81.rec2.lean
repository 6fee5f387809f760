/-! Coordinator.recoverDead: a turn. The second number counts TABLETS taken over -/
def rcT (y : Nat → Nat) (ps : psT) (j : Nat) (st : stA × Nat) (t : Nat) : stA × Nat := if ¬ ((((tDe st.1).getD j d0A).2 >>> (nI t &&& 31)) &&& 1) = 1 then st else match heirA y st.1 with
  | none => st
  | some i => (tkS y ps (dtb st.1 j t) i t, st.2 + 1)
def rcP (S : stA) (j : Nat) : psT := psA (rdP (nI (upN (tSv S))) ((tDe S).getD j d0A).1)
def rcD (y : Nat → Nat) (st : stA × Nat) (j : Nat) : stA × Nat := if canA y st.1 ((tDe st.1).getD j d0A).1 = true then (List.range 8).foldl (rcT y (rcP st.1 j) j) st else st
def rcL (y : Nat → Nat) : Nat → stA × Nat → Nat → Nat → (stA × Nat) × Nat
  | 0, st, _, r => (st, r)
  | n + 1, st, j, r => if (tDe st.1).length ≤ j then (st, r) else if ((tDe (rcD y st j).1).getD j d0A).2 = 0 then rcL y n (rmD (rcD y st j).1 j, (rcD y st j).2) j (r + 1) else rcL y n (rcD y st j) (j + 1) r
def StpR (g : gcT) (h : hpT) (o : Nat → Nat) (y : Nat → Nat) (R R2 : arT) (ss : List Nat) (Ls : List lsT) (Ds : List (Nat × Nat)) (S : stA) (st : stA × Nat) (h' : hpT) : Prop := StpC g h o y R R2 ss Ls Ds (9 * (tNm st.1 - tNm S) + 6 * st.2) (kmO y * (tNm st.1 - tNm S) + nf 6 * 6 * st.2) st.1 h'
section REC
variable {g : gcT} {P : pmT} {o o' w w' : Nat → Nat} {y : Nat → Nat} {R R2 : arT} {h h' : hpT} {B : Nat → Prop} {i j t c m : Nat} {ss : List Nat} {Ls : List lsT} {Ds Ds' : List (Nat × Nat)} {S S' : stA} {ps : psT} {kc km kc' km' : Nat} {st : stA × Nat}
theorem stb_de (S : stA) (j : Nat) (u : Int32) : (tDe (stb S j u)).map (·.1) = (tDe S).map (·.1) ∧ (tDe (stb S j u)).length = (tDe S).length := by
  refine ⟨?_, List.length_set⟩
  show ((tDe S).set j _).map (·.1) = _
  rw [List.map_set]
  apply List.ext_getElem?
  intro i
  by_cases q : i = j
  · subst q
    rw [List.getElem?_set]
    split
    · split
      · rename_i h1
        rw [List.length_map] at h1
        rw [List.getElem?_map, List.getElem?_eq_getElem h1, List.getD_eq_getElem?_getD, List.getElem?_eq_getElem h1]; rfl
      · rename_i h1
        rw [List.getElem?_eq_none (by omega)]
    · rename_i h1
      exact absurd rfl h1
  · rw [List.getElem?_set_ne (fun z => q z.symm)]
theorem rcT_1 (y : Nat → Nat) (ps : psT) (j : Nat) (st : stA × Nat) (t : Nat) : tNm st.1 ≤ tNm (rcT y ps j st t).1 ∧ (tDe (rcT y ps j st t).1).map (·.1) = (tDe st.1).map (·.1) ∧ (tDe (rcT y ps j st t).1).length = (tDe st.1).length ∧ (tSv (rcT y ps j st t).1).length = (tSv st.1).length ∧ st.2 ≤ (rcT y ps j st t).2 := by
  unfold rcT
  split
  · exact ⟨Nat.le_refl _, rfl, rfl, rfl, Nat.le_refl _⟩
  · split
    · exact ⟨Nat.le_refl _, rfl, rfl, rfl, Nat.le_refl _⟩
    · rename_i i _
      obtain ⟨a1, a2, a3, -⟩ := tkS_nm y ps (dtb st.1 j t) i t
      obtain ⟨b1, b2⟩ := stb_de st.1 j (((tDe st.1).getD j d0A).2 &&& ((1 <<< (nI t &&& 31)) ^^^ (-1)))
      have e0 : tNm (dtb st.1 j t) = tNm st.1 := rfl
      have e1 : (tSv (dtb st.1 j t)).length = (tSv st.1).length := rfl
      have b1 : (tDe (dtb st.1 j t)).map (·.1) = (tDe st.1).map (·.1) := b1
      have b2 : (tDe (dtb st.1 j t)).length = (tDe st.1).length := b2
      rw [e0] at a1
      rw [e1] at a2
      rw [← a3] at b1 b2
      dsimp only
      generalize tkS y ps (dtb st.1 j t) i t = T at a1 a2 b1 b2
      exact ⟨a1, b1, b2, a2, Nat.le_succ _⟩
theorem rcT_n (y : Nat → Nat) (ps : psT) (j : Nat) : ∀ (l : List Nat) (st : stA × Nat), tNm st.1 ≤ tNm (l.foldl (rcT y ps j) st).1 ∧ (tDe (l.foldl (rcT y ps j) st).1).map (·.1) = (tDe st.1).map (·.1) ∧ (tDe (l.foldl (rcT y ps j) st).1).length = (tDe st.1).length ∧ (tSv (l.foldl (rcT y ps j) st).1).length = (tSv st.1).length ∧ st.2 ≤ (l.foldl (rcT y ps j) st).2 := by
  intro l
  induction l with
  | nil => intro st; exact ⟨Nat.le_refl _, rfl, rfl, rfl, Nat.le_refl _⟩
  | cons t l ih =>
    intro st
    rw [List.foldl_cons]
    obtain ⟨a1, a2, a3, a4, a5⟩ := rcT_1 y ps j st t
    obtain ⟨b1, b2, b3, b4, b5⟩ := ih (rcT y ps j st t)
    exact ⟨Nat.le_trans a1 b1, b2.trans a2, b3.trans a3, b4.trans a4, Nat.le_trans a5 b5⟩
theorem rcD_1 (y : Nat → Nat) (st : stA × Nat) (j : Nat) : tNm st.1 ≤ tNm (rcD y st j).1 ∧ (tDe (rcD y st j).1).map (·.1) = (tDe st.1).map (·.1) ∧ (tDe (rcD y st j).1).length = (tDe st.1).length ∧ (tSv (rcD y st j).1).length = (tSv st.1).length ∧ st.2 ≤ (rcD y st j).2 := by
  unfold rcD
  split
  · exact rcT_n y _ j _ st
  · exact ⟨Nat.le_refl _, rfl, rfl, rfl, Nat.le_refl _⟩
theorem rcL_1 (y : Nat → Nat) : ∀ (n : Nat) (st : stA × Nat) (j r : Nat), tNm st.1 ≤ tNm (rcL y n st j r).1.1 ∧ st.2 ≤ (rcL y n st j r).1.2 ∧ r ≤ (rcL y n st j r).2 := by
  intro n
  induction n with
  | zero => intro st j r; exact ⟨Nat.le_refl _, Nat.le_refl _, Nat.le_refl _⟩
  | succ n ih =>
    intro st j r
    rw [rcL]
    obtain ⟨a1, -, -, -, a5⟩ := rcD_1 y st j
    split
    · exact ⟨Nat.le_refl _, Nat.le_refl _, Nat.le_refl _⟩
    · split
      · obtain ⟨b1, b2, b3⟩ := ih (rmD (rcD y st j).1 j, (rcD y st j).2) j (r + 1)
        exact ⟨Nat.le_trans a1 b1, Nat.le_trans a5 b2, Nat.le_trans (Nat.le_succ _) b3⟩
      · obtain ⟨b1, b2, b3⟩ := ih (rcD y st j) (j + 1) r
        exact ⟨Nat.le_trans a1 b1, Nat.le_trans a5 b2, b3⟩
theorem kp_sub {a b c k : Nat} (h1 : a ≤ b) (h2 : b ≤ c) : k * (b - a) + k * (c - b) = k * (c - a) := by
  rw [← Nat.mul_add, show b - a + (c - b) = c - a by omega]
/-- a step of a turn's loop -/
theorem rec_t (hP6 : P 206 = cpyO) (kS : RS g h o w y R R2 ss Ls Ds st.1) (kp : pstH h y R2 ps) (hj : j < Ds.length) (ht : t < 8) (hb : tNm (rcT y ps j st t).1 ≤ 80000) {x1 x2 x3 : Int32} {Q0 : hpT → Option Value → Prop} (kk : ∀ h' r6, pstH h' y R2 ps → (∃ o' w' Ls' c m, RS g h' o' w' y R R2 ss Ls' Ds (rcT y ps j st t).1 ∧ CG (Bs y) c m h o h' o' ∧ Cst g y h Ls Ds h' Ls' Ds (9 * (tNm (rcT y ps j st t).1 - tNm st.1) + 6 * ((rcT y ps j st t).2 - st.2)) (kmO y * (tNm (rcT y ps j st t).1 - tNm st.1) + nf 6 * 6 * ((rcT y ps j st t).2 - st.2))) → Ev g P 13 131 [some (va_rf (some (y 4))), some (.int x1), some (.int x2), some (.int x3), some (va_rf (some (Ds.getD j (0, 0)).1)), some (.int (nI t)), some (va_rf r6)] [] h' Q0) (o6 : Option Value) : Ev g P 13 78 [some (va_rf (some (y 4))), some (.int x1), some (.int x2), some (.int x3), some (va_rf (some (Ds.getD j (0, 0)).1)), some (.int (nI t)), o6] [] h Q0 := by
  obtain ⟨k0, k1, k4, kse, kde⟩ := kS.kinds
  obtain ⟨kL, oL, wL⟩ := kde j hj
  have wf := kS.1.1
  have ok := kS.1.2.2
  have k9 := kS.2.1.2.2.1
  have k12 := kS.2.1.2.2.2
  have e259 : hI h 259 (Ds.getD j (0, 0)).1 = ((tDe st.1).getD j d0A).2 := (kS.2.2.2.2.1.2.2 j hj).1.2.2
  have same : rcT y ps j st t = st → ∃ o' w' Ls' c m, RS g h o' w' y R R2 ss Ls' Ds (rcT y ps j st t).1 ∧ CG (Bs y) c m h o h o' ∧ Cst g y h Ls Ds h Ls' Ds (9 * (tNm (rcT y ps j st t).1 - tNm st.1) + 6 * ((rcT y ps j st t).2 - st.2)) (kmO y * (tNm (rcT y ps j st t).1 - tNm st.1) + nf 6 * 6 * ((rcT y ps j st t).2 - st.2)) := by
    intro e
    rw [e]
    simp only [Nat.sub_self, Nat.mul_zero]
    exact ⟨o, w, Ls, 0, 0, kS, CG.rf wf ok _, Nat.le_refl _, Nat.le_refl _, Nat.le_refl _⟩
  refine s_13_78 (k3 := kL) (kt := fun z => s_13_99 (s_13_100 (kt := fun _ => kk h none kp (same ?_)) (kf := fun z => absurd rfl z))) (kf := fun z1 => ?_)
  · rw [e259] at z
    exact if_pos z
  · rw [e259] at z1
    refine s_13_92 (k3 := k4) (hc := RS.heir kS) (kk := fun h1 x ⟨e1, e2⟩ => ?_)
    subst e1; subst e2
    cases eh : heirA y st.1 with
    | none =>
      refine s_13_96 (s_13_100 (kt := fun _ => kk h1 _ kp (same ?_)) (kf := fun z => absurd rfl z))
      unfold rcT
      rw [if_neg (not_not_intro z1), eh]
    | some i =>
      have hi := heirA_lt eh
      have eR : rcT y ps j st t = (tkS y ps (dtb st.1 j t) i t, st.2 + 1) := by
        unfold rcT
        rw [if_neg (not_not_intro z1), eh]
      refine s_13_96 (s_13_100 (kt := fun z => by cases z) (kf := fun _ => ?_))
      obtain ⟨d1, d2, d3⟩ := RS.stb kS hj (((tDe st.1).getD j d0A).2 &&& ((1 <<< (nI t &&& 31)) ^^^ (-1)))
      have kp1 := pstH.fr wf kS.2.2.2.2.2 kp d2 (kinds_ne (h := h1) (by omega))
      have d1 : RS g (hpI h1 259 (Ds.getD j (0, 0)).1 (((tDe st.1).getD j d0A).2 &&& ((1 <<< (nI t &&& 31)) ^^^ (-1)))) o w y R R2 ss Ls Ds (dtb st.1 j t) := d1
      clear same
      rw [eR] at hb kk
      dsimp only at hb kk
      have htk := m_takeOver (P := P) hP6 d1 hi ht kp1 hb
      rw [← e259] at htk d2 d3
      refine s_13_107 (k3 := kL) (k6 := k4) (hc := htk) (kk := fun h2 ⟨q1, o2, w2, L2, c2, m2, q2, q3, q4⟩ => kk h2 _ q1 ⟨o2, w2, L2, _, _, q2, CG.tr wf ok (d2.mono ok (fun z _ q => by rw [q]; exact ⟨kinds_ne (h := h1) (by omega), kinds_ne (h := h1) (by omega)⟩) (Nat.le_refl _) (Nat.le_refl _)) q3, ?_⟩)
      have tot := (Cst.of (L0 := Ls) (L1 := Ls) (D0 := Ds) (D1 := Ds) (a := 0) (b := 0) d2 d3 (Nat.le_refl _) (Nat.le_refl _)).tr q4
      rw [Nat.zero_add, Nat.zero_add] at tot
      rw [show st.2 + 1 - st.2 = 1 by omega, Nat.mul_one, Nat.mul_one]
      exact tot
/-- the loop over the TABLETS -/
theorem rec_8 {n8 : Nat} (hn8 : n8 = 8) (hP6 : P 206 = cpyO) (kS : RS g h o w y R R2 ss Ls Ds st.1) (kp : pstH h y R2 ps) (hj : j < Ds.length) (hb : tNm ((List.range n8).foldl (rcT y ps j) st).1 ≤ 80000) {x1 x2 x3 : Int32} {Q0 : hpT → Option Value → Prop} (kk : ∀ h' o5 o6, (∃ o' w' Ls' c m, RS g h' o' w' y R R2 ss Ls' Ds ((List.range n8).foldl (rcT y ps j) st).1 ∧ CG (Bs y) c m h o h' o' ∧ Cst g y h Ls Ds h' Ls' Ds (9 * (tNm ((List.range n8).foldl (rcT y ps j) st).1 - tNm st.1) + 6 * (((List.range n8).foldl (rcT y ps j) st).2 - st.2)) (kmO y * (tNm ((List.range n8).foldl (rcT y ps j) st).1 - tNm st.1) + nf 6 * 6 * (((List.range n8).foldl (rcT y ps j) st).2 - st.2))) → Ev g P 13 137 [some (va_rf (some (y 4))), some (.int x1), some (.int x2), some (.int x3), some (va_rf (some (Ds.getD j (0, 0)).1)), o5, o6] [] h' Q0) (o6 : Option Value) : Ev g P 13 71 [some (va_rf (some (y 4))), some (.int x1), some (.int x2), some (.int x3), some (va_rf (some (Ds.getD j (0, 0)).1)), some (.int 0), o6] [] h Q0 := by
  have wf := kS.1.1
  have ok := kS.1.2.2
  have e8 : (8 : Int32) = nI n8 := by rw [hn8]; rfl
  have lp := cnt_loop n8 (fun t h1 => pstH h1 y R2 ps ∧ ∃ o1 w1 L1 c1 m1, RS g h1 o1 w1 y R R2 ss L1 Ds ((List.range t).foldl (rcT y ps j) st).1 ∧ CG (Bs y) c1 m1 h o h1 o1 ∧ Cst g y h Ls Ds h1 L1 Ds (9 * (tNm ((List.range t).foldl (rcT y ps j) st).1 - tNm st.1) + 6 * (((List.range t).foldl (rcT y ps j) st).2 - st.2)) (kmO y * (tNm ((List.range t).foldl (rcT y ps j) st).1 - tNm st.1) + nf 6 * 6 * (((List.range t).foldl (rcT y ps j) st).2 - st.2))) (fun t h1 => ∀ o6 : Option Value, Ev g P 13 71 [some (va_rf (some (y 4))), some (.int x1), some (.int x2), some (.int x3), some (va_rf (some (Ds.getD j (0, 0)).1)), some (.int (nI t)), o6] [] h1 Q0) ?_ ?_ h (by
    refine ⟨kp, o, w, Ls, 0, 0, kS, CG.rf wf ok _, ?_⟩
    rw [List.range_zero, List.foldl_nil]
    simp only [Nat.sub_self, Nat.mul_zero]
    exact ⟨Nat.le_refl _, Nat.le_refl _, Nat.le_refl _⟩)
  · rw [nI_0] at lp; exact lp o6
  · intro t h1 ht ⟨kp1, o1, w1, L1, c1, m1, s1, s2, s3⟩ kn o6
    have e1 : (List.range (t + 1)).foldl (rcT y ps j) st = rcT y ps j ((List.range t).foldl (rcT y ps j) st) t := by
      rw [List.range_succ, List.foldl_append]; rfl
    have hbt : tNm ((List.range (t + 1)).foldl (rcT y ps j) st).1 ≤ 80000 := by
      have e2 : List.range n8 = List.range (t + 1) ++ (List.range n8).drop (t + 1) := by
        conv => lhs; rw [← List.take_append_drop (t + 1) (List.range n8)]
        rw [List.take_range, Nat.min_eq_left (by omega)]
      rw [e2, List.foldl_append] at hb
      exact Nat.le_trans (rcT_n y ps j _ _).1 hb
    rw [e1] at hbt
    obtain ⟨m1', -, -, -, m5'⟩ := rcT_1 y ps j ((List.range t).foldl (rcT y ps j) st) t
    obtain ⟨m1'', -, -, -, m5''⟩ := rcT_n y ps j (List.range t) st
    refine s_13_71 (kt := fun z => absurd z (by rw [e8]; exact nI_ge ht (by omega))) (kf := fun _ => ?_)
    refine rec_t hP6 s1 kp1 hj (by omega) hbt (fun h2 r6 q1 ⟨o2, w2, L2, c2, m2, q2, q3, q4⟩ => s_13_131 ?_) o6
    rw [nI_1]
    refine kn h2 ⟨q1, o2, w2, L2, _, _, by rw [e1]; exact q2, CG.tr wf ok s2 q3, ?_⟩ _
    rw [e1]
    obtain ⟨v1, v2, v3⟩ := s3.tr q4
    have a1 := kp_sub (k := 9) m1'' m1'
    have a2 := kp_sub (k := 6) m5'' m5'
    have a3 := kp_sub (k := kmO y) m1'' m1'
    have a4 := kp_sub (k := nf 6 * 6) m5'' m5'
    exact ⟨by omega, by omega, v3⟩
  · intro h1 ⟨kp1, k⟩ o6
    exact s_13_71 (kt := fun _ => kk h1 _ _ k) (kf := fun z => absurd (by rw [e8]; exact nI_le (Nat.le_refl _) (by omega)) z)
end REC
