/-! a SEGMENT: addEntry, partsReadable, made -/
def entH (h : hpT) (s N U : Nat) (r : arT) (nm : Int32) (ps es : List Nat) (hs : List (Nat × Nat)) (np : List Nat) (c : Nat) (h' : hpT) : Prop := sgV h' s N U r nm (ps ++ np) (es ++ [ps.length + np.length]) (updH hs c (es.length + 1)) ∧ Ch (fun a => a = s ∨ a = r.1 ∨ a = r.2.2.1 ∨ a = r.2.2.2.2) 0 0 h h' ∧ (∀ f, ¬ f = 518 → ¬ f = 519 → ¬ f = 520 → hI h' f s = hI h f s) ∧ hR h' = hR h
section SEG
variable {g : gcT} {P : pmT} {h : hpT} {s N U : Nat} {r : arT} {nm : Int32} {ps es : List Nat} {hs : List (Nat × Nat)}
theorem m_35_tail (w : hWF h) {r1 : Option Nat} {x4 : Int32} {o5 : Option Value} {c q : Nat} (k : sgV h s N U r nm ps es hs) (hq : ptK h q) (hn : ps.length < U) (hc : c < 2 ^ 31) : Ev g P 35 64 [some (va_rf (some s)), some (va_rf r1), some (va_rf (some q)), some (.int (nI c)), some (.int x4), o5] [] h (fun h' x => x = none ∧ entH h s N U r nm ps es hs [q] c h') := by
  have k0 := k
  obtain ⟨⟨a1, a2, a3, a4, a5, a6, a7, a8, a9, a10, a11, a12, a13, a14, a15, a16⟩, n, ⟨p1, p2, p3, p4⟩, ⟨q1, q2, q3⟩, ⟨t1, t2, t3, t4⟩⟩ := k
  have ec : (hI h 518 s).toNatClampNeg = ps.length := by rw [p1]; exact nI_clamp (by omega)
  obtain ⟨k1, c1, f1, r1'⟩ := k0.part w hq hn
  refine s_35_64 (e5 := a2) (k6 := a7.1) (i7 := by rw [p1, a7.2]; exact vin_nI hn (by omega)) (c8 := cmp25 hq.1) (k11 := hq.1) (kk := ?_)
  rw [ec, p1, nI_1, p3]
  show Ev g P 35 97 _ [] (segP h s r.1 q ps.length (unS h ps + hI h 385 q)) _
  generalize segP h s r.1 q ps.length (unS h ps + hI h 385 q) = H at k1 c1 f1 r1' ⊢
  have k10 := k1
  obtain ⟨⟨b1, b2, b3, b4, b5, b6, b7, b8, b9, b10, b11, -⟩, -, ⟨u1, u2, u3, u4⟩, ⟨v1, v2, v3⟩, -⟩ := k1
  rw [List.length_append] at u2
  have u2' : ps.length + 1 ≤ U := u2
  have ee : (hI H 519 s).toNatClampNeg = es.length := by rw [v1]; exact nI_clamp (by omega)
  obtain ⟨k2, c2, f2, r2'⟩ := k10.entry c1.2.2.1 (by rw [List.length_append]; exact Nat.lt_succ_of_le q2)
  refine s_35_97 (e5 := b4) (k6 := b9.1) (i7 := by rw [v1, b9.2]; exact vin_nI (by omega) (by omega)) (kk := ?_)
  rw [ee, v1, nI_1, u1]
  show Ev g P 35 123 _ [] (segE H s r.2.2.1 (ps ++ [q]).length es.length) _
  generalize segE H s r.2.2.1 (ps ++ [q]).length es.length = H2 at k2 c2 f2 r2' ⊢
  have lp := m_35_loop (g := g) (P := P) (r1 := r1) (r2 := some q) (x4 := x4) hc hs.length 0 H2 hs c2.2.2.1 (by rw [updH_0]; exact k2) (by omega)
  rw [nI_0] at lp
  refine Ev.imp lp (fun h' x ⟨e1, e2, e3, e4, e5⟩ => ⟨e1, ?_, ?_, ?_, ?_⟩)
  · rw [List.length_append, List.length_append] at e2
    rw [Nat.max_eq_right (Nat.zero_le c)] at e2
    exact e2
  · exact ((c1.tr c2).tr e3).mono (fun a _ z => by rcases z with ((z | z) | (z | z)) | z <;> simp [z]) (Nat.le_refl _) (Nat.le_refl _)
  · intro f n1 n2 n3
    rw [e4, f2 f n2, f1 f n1 n3]
  · rw [e5, r2', r1']
theorem m_addEntry1 (w : hWF h) {c q : Nat} (k : sgV h s N U r nm ps es hs) (hq : ptK h q) (hn : ps.length + 1 ≤ U) (hc : c < 2 ^ 31) : EvV g P 35 [va_rf (some s), va_rf none, va_rf (some q), .int (nI c)] h (fun h' => entH h s N U r nm ps es hs [q] c h') := by
  have k0 := k
  obtain ⟨⟨a1, a2, a3, a4, a5, a6, a7, a8, a9, a10, a11, a12, a13, a14, a15, a16⟩, n, ⟨p1, p2, p3, p4⟩, ⟨q1, q2, q3⟩, ⟨t1, t2, t3, t4⟩⟩ := k
  refine e_35 (s_35_0 (kt := fun z => absurd rfl z) (kf := fun _ => s_35_4 (s_35_9 (e5 := a2) (k7 := a7.1) (kt := fun _ => s_35_27 (kt := fun _ => m_35_tail w k0 hq (by omega) hc) (kf := fun z => absurd rfl z)) (kf := fun z => absurd ?_ z))))
  rw [p1, nI_1, a7.2]
  exact nI_le hn (by omega)
theorem m_addEntry2 (w : hWF h) {c q1 q2 : Nat} (k : sgV h s N U r nm ps es hs) (hq1 : ptK h q1) (hq2 : ptK h q2) (hn : ps.length + 2 ≤ U) (hc : c < 2 ^ 31) : EvV g P 35 [va_rf (some s), va_rf (some q1), va_rf (some q2), .int (nI c)] h (fun h' => entH h s N U r nm ps es hs [q1, q2] c h') := by
  have k0 := k
  obtain ⟨⟨a1, a2, a3, a4, a5, a6, a7, a8, a9, a10, a11, a12, a13, a14, a15, a16⟩, n, ⟨p1, p2, p3, p4⟩, -, -⟩ := k
  have ec : (hI h 518 s).toNatClampNeg = ps.length := by rw [p1]; exact nI_clamp (by omega)
  obtain ⟨k1, c1, f1, r1'⟩ := k0.part w hq1 (by omega)
  have hS : ¬ (some q1 : Option Nat) = none := by intro e; cases e
  refine e_35 (s_35_0 (kt := fun _ => s_35_8 (s_35_9 (e5 := a2) (k7 := a7.1) (kt := fun _ => s_35_27 (kt := fun z => absurd z hS) (kf := fun _ => s_35_31 (e5 := a2) (k6 := a7.1) (i7 := by rw [p1, a7.2]; exact vin_nI (by omega) (by omega)) (c8 := cmp25 hq1.1) (k11 := hq1.1) (kk := ?_))) (kf := fun z => absurd ?_ z))) (kf := fun z => absurd z hS))
  · rw [ec, p1, nI_1, p3]
    show Ev g P 35 64 _ [] (segP h s r.1 q1 ps.length (unS h ps + hI h 385 q1)) _
    generalize segP h s r.1 q1 ps.length (unS h ps + hI h 385 q1) = H at k1 c1 f1 r1' ⊢
    have hq2' : ptK H q2 := hq2.sm (c1.sm (by rintro (z | z) <;> (have := hq2.1; rw [z] at this; omega)) (w.lt (by have := hq2.1; omega)))
    refine Ev.imp (m_35_tail c1.2.2.1 k1 hq2' (by rw [List.length_append]; exact hn) hc) (fun h' x ⟨e0, e1, e2, e3, e4⟩ => ⟨e0, ?_, ?_, ?_, ?_⟩)
    · rw [List.length_append, List.append_assoc] at e1
      exact e1
    · exact (c1.tr e2).mono (fun a _ z => by rcases z with (z | z) | (z | z | z | z) <;> simp [z]) (Nat.le_refl _) (Nat.le_refl _)
    · intro f n1 n2 n3
      rw [e3 f n1 n2 n3, f1 f n1 n3]
    · rw [e4, r1']
  · rw [p1, nI_2, a7.2]
    exact nI_le hn (by omega)
/-- how many ENTRIES the fullest of the copies that can be read has -/
def mostF (up : Int32) (m : Nat) (x : Nat × Nat) : Nat := if shrB up (nI x.1) = 1 ∧ m < x.2 then x.2 else m
theorem m_partsReadable (k : sgV h s N U r nm ps es hs) {up : Int32} : EvI g P 36 [va_rf (some s), .int up] h (fun h' x => h' = h ∧ x = nI (match hs.foldl (mostF up) 0 with | 0 => 0 | m + 1 => es.getD m 0)) := by
  have k0 := k
  obtain ⟨⟨a1, a2, a3, a4, a5, a6, a7, a8, a9, a10, a11, a12, a13, a14, a15, a16⟩, n, ⟨p1, p2, p3, p4⟩, ⟨q1, q2, q3⟩, ⟨t1, t2, t3, t4⟩⟩ := k
  refine e_36 (s_36_0 ?_)
  have lp := fold_loop hs (mostF up) (fun i m => m ≤ es.length → Ev g P 36 4 [some (va_rf (some s)), some (.int up), some (.int (nI m)), some (.int (nI i))] [] h (fun h' x => ∃ v, x = some (.int v) ∧ h' = h ∧ v = nI (match hs.foldl (mostF up) 0 with | 0 => 0 | m + 1 => es.getD m 0))) ?_ 0 ?_
  · rw [nI_0] at lp
    exact lp (Nat.zero_le _)
  · intro i m hi kn hm
    obtain ⟨u1, u2, u3, u4⟩ := t4 i hi
    have ei : (nI i).toNatClampNeg = i := nI_clamp (by omega)
    have v4 : vinD (nI i) (hN h r.2.2.2.1) := by rw [a10.2]; exact vin_nI (by omega) (by omega)
    have v5 : vinD (nI i) (hN h r.2.2.2.2) := by rw [a11.2]; exact vin_nI (by omega) (by omega)
    have next : ∀ m', m' = mostF up m hs[i] → m' ≤ es.length → Ev g P 36 43 [some (va_rf (some s)), some (.int up), some (.int (nI m')), some (.int (nI i))] [] h (fun h' x => ∃ v, x = some (.int v) ∧ h' = h ∧ v = nI (match hs.foldl (mostF up) 0 with | 0 => 0 | m + 1 => es.getD m 0)) := by
      intro m' e1 e2
      refine s_36_43 ?_
      rw [nI_1]
      rw [← e1] at kn
      exact kn e2
    refine s_36_4 (kt := fun z => absurd z (by rw [t1]; exact nI_ge hi (by omega))) (kf := fun _ => ?_)
    refine s_36_12 (k6 := a10.1) (kt := fun z => next m ?_ hm) (kf := fun z => s_36_26 (k6 := a11.1) (kt := fun z' => next m ?_ hm) (kf := fun z' => s_36_36 (k6 := a11.1) (kk := ?_)))
    · rw [ei, u1] at z
      unfold mostF; rw [if_neg (fun q => z q.1)]
    · rw [ei, u2] at z'
      have : hs[i].2 ≤ m := by
        rcases Nat.lt_or_ge m hs[i].2 with q | q
        · exact absurd z' (nI_ge q (by omega))
        · exact q
      unfold mostF; rw [if_neg (fun q => by omega)]
    · rw [ei, u2] at z'
      rw [ei, u1] at z
      have : m < hs[i].2 := by
        rcases Nat.lt_or_ge m hs[i].2 with q | q
        · exact q
        · exact absurd (nI_le q (by omega)) z'
      rw [ei, u2]
      exact next _ (by unfold mostF; rw [if_pos ⟨z, this⟩]) u4
  · intro hm
    refine s_36_4 (kt := fun _ => ?_) (kf := fun z => absurd (by rw [t1]; exact nI_le (Nat.le_refl _) (by omega)) z)
    cases hf : hs.foldl (mostF up) 0 with
    | zero => exact s_36_49 (kt := fun z => absurd nI_0 z) (kf := fun _ => s_36_53 (s_36_65 ⟨_, rfl, rfl, nI_0.symm⟩))
    | succ m =>
      rw [hf] at hm
      have em : nI (m + 1) - 1 = nI m := by rw [← nI_1, Int32.add_sub_cancel]
      have hml : m < es.length := hm
      refine s_36_49 (kt := fun _ => s_36_57 (k6 := a9.1) (i7 := by rw [em, a9.2]; exact vin_nI (by omega) (by omega)) (kk := s_36_65 ⟨_, rfl, rfl, ?_⟩)) (kf := fun z => absurd z ?_)
      · rw [em, nI_clamp (by omega), (q3 m hml).1]
        show nI es[m] = nI (es.getD m 0)
        rw [List.getD_eq_getElem?_getD, List.getElem?_eq_getElem hml]; rfl
      · intro z
        have : nI 0 < nI (m + 1) := nI_lt (by omega) (by omega)
        rw [z, nI_0] at this
        exact absurd this (by decide)
/-- a row is made, and a field holds it -/
def mkR (h : hpT) (s f t n : Nat) : hpT := hpR (hpW h t n) f s (some (hS h))
theorem mkR_sp (w : hWF h) {s f t n : Nat} (hs : s < hS h) : Ch (fun a => a = s) 1 n h (mkR h s f t n) ∧ hS (mkR h s f t n) = hS h + 1 ∧ hK (mkR h s f t n) (hS h) = 20 + t ∧ hN (mkR h s f t n) (hS h) = n ∧ hR (mkR h s f t n) f s = some (hS h) ∧ (∀ f', ¬ f' = f → hR (mkR h s f t n) f' s = hR h f' s) ∧ hI (mkR h s f t n) = hI h := by
  have c1 := Ch.mW w t n
  have c2 := Ch.wR (f := f) (a := s) c1.2.2.1 (some (hS h)) (Nat.lt_of_lt_of_le hs c1.1.1)
  refine ⟨(c1.tr c2).mono (fun a _ q => by rcases q with q | q; exact q.elim; exact q) (Nat.le_refl _) (Nat.le_refl _), rfl, (hK_W_new h t n).1, (hK_W_new h t n).2, ?_, fun f' nf' => ?_, rfl⟩
  · unfold mkR; rw [rR_R, if_pos ⟨rfl, rfl⟩]
  · unfold mkR; rw [rR_R, if_neg (fun q => nf' q.1)]; rfl
theorem m_seg (w : hWF h) (k : hK h s = 9) (hz : ∀ f, hI h f s = 0) (hU : U ≤ 100) (hN' : N ≤ 30) : EvV g P 33 [va_rf (some s), .int nm, .int (nI U), .int (nI N)] h (fun h' => sgV h' s N U (hS h, hS h + 1, hS h + 2, hS h + 3, hS h + 4) nm [] [] [] ∧ Ch (fun a => a = s) 5 (3 * U + 2 * N) h h' ∧ hS h' = hS h + 5 ∧ hI h' 521 s = 0 ∧ hI h' 524 s = 0) := by
  have hs : s < hS h := w.lt (by omega)
  have eU : (nI U).toNatClampNeg = U := nI_clamp (by omega)
  have eN : (nI N).toNatClampNeg = N := nI_clamp (by omega)
  have bU : ¬ nI U < 0 ∧ (nI U).toNatClampNeg ≤ 2000000 := ⟨nI_pos (by omega), by omega⟩
  have bN : ¬ nI N < 0 ∧ (nI N).toNatClampNeg ≤ 2000000 := ⟨nI_pos (by omega), by omega⟩
  have c0 := Ch.wI (f := 512) (a := s) w nm hs
  have i0 : ∀ f, hI (hpI h 512 s nm) f s = if f = 512 then nm else 0 := fun f => by
    rw [rI_I]
    by_cases e : f = 512
    · rw [if_pos ⟨e, rfl⟩, if_pos e]
    · rw [if_neg (fun q => e q.1), if_neg e]; exact hz f
  refine e_33 (s_33_0 (kk := s_33_4 (b4 := bU) (kk := ?_)))
  rw [eU]
  show Ev g P 33 14 _ [va_rf (some (hS h)), _] _ _
  have k0 : hK (hpI h 512 s nm) s = 9 := k
  have z0 : hS (hpI h 512 s nm) = hS h := rfl
  generalize hpI h 512 s nm = H0 at c0 i0 k0 z0 ⊢
  obtain ⟨d1, v1, u1, w1, x1, y1, i1⟩ := mkR_sp (f := 513) (t := 5) (n := U) c0.2.2.1 (s := s) (by omega)
  have kk1 : hK (hpW H0 5 U) s = 9 := by rw [(hK_W (by omega)).1]; exact k0
  refine s_33_14 (k3 := kk1) (b4 := bU) (kk := ?_)
  rw [eU, ← z0]
  show Ev g P 33 21 _ [va_rf (some (hS (mkR H0 s 513 5 U))), _] (hpW (mkR H0 s 513 5 U) 1 U) _
  have k1 : hK (mkR H0 s 513 5 U) s = 9 := by rw [(d1.2.1 s (by omega)).1]; exact k0
  generalize mkR H0 s 513 5 U = H1 at d1 v1 u1 w1 x1 y1 i1 k1 ⊢
  obtain ⟨d2, v2, u2, w2, x2, y2, i2⟩ := mkR_sp (f := 514) (t := 1) (n := U) d1.2.2.1 (s := s) (by omega)
  have kk2 : hK (hpW H1 1 U) s = 9 := by rw [(hK_W (by omega)).1]; exact k1
  refine s_33_21 (k3 := kk2) (b4 := bU) (kk := ?_)
  rw [eU]
  show Ev g P 33 28 _ [va_rf (some (hS (mkR H1 s 514 1 U))), _] (hpW (mkR H1 s 514 1 U) 0 U) _
  have k2 : hK (mkR H1 s 514 1 U) s = 9 := by rw [(d2.2.1 s (by omega)).1]; exact k1
  generalize mkR H1 s 514 1 U = H2 at d2 v2 u2 w2 x2 y2 i2 k2 ⊢
  obtain ⟨d3, v3, u3, w3, x3, y3, i3⟩ := mkR_sp (f := 515) (t := 0) (n := U) d2.2.2.1 (s := s) (by omega)
  have kk3 : hK (hpW H2 0 U) s = 9 := by rw [(hK_W (by omega)).1]; exact k2
  refine s_33_28 (k3 := kk3) (b4 := bN) (kk := ?_)
  rw [eN]
  show Ev g P 33 35 _ [va_rf (some (hS (mkR H2 s 515 0 U))), _] (hpW (mkR H2 s 515 0 U) 0 N) _
  have k3 : hK (mkR H2 s 515 0 U) s = 9 := by rw [(d3.2.1 s (by omega)).1]; exact k2
  generalize mkR H2 s 515 0 U = H3 at d3 v3 u3 w3 x3 y3 i3 k3 ⊢
  obtain ⟨d4, v4, u4, w4, x4, y4, i4⟩ := mkR_sp (f := 516) (t := 0) (n := N) d3.2.2.1 (s := s) (by omega)
  have kk4 : hK (hpW H3 0 N) s = 9 := by rw [(hK_W (by omega)).1]; exact k3
  refine s_33_35 (k3 := kk4) (b4 := bN) (kk := ?_)
  rw [eN]
  show Ev g P 33 42 _ [va_rf (some (hS (mkR H3 s 516 0 N))), _] (hpW (mkR H3 s 516 0 N) 0 N) _
  have k4 : hK (mkR H3 s 516 0 N) s = 9 := by rw [(d4.2.1 s (by omega)).1]; exact k3
  generalize mkR H3 s 516 0 N = H4 at d4 v4 u4 w4 x4 y4 i4 k4 ⊢
  obtain ⟨d5, v5, u5, w5, x5, y5, i5⟩ := mkR_sp (f := 517) (t := 0) (n := N) d4.2.2.1 (s := s) (by omega)
  have kk5 : hK (hpW H4 0 N) s = 9 := by rw [(hK_W (by omega)).1]; exact k4
  refine s_33_42 (k3 := kk5) (hq := ⟨rfl, ?_⟩)
  rw [z0]
  show (fun h' => sgV h' s N U (hS h, hS h + 1, hS h + 2, hS h + 3, hS h + 4) nm [] [] [] ∧ Ch (fun a => a = s) 5 (3 * U + 2 * N) h h' ∧ hS h' = hS h + 5 ∧ hI h' 521 s = 0 ∧ hI h' 524 s = 0) (mkR H4 s 517 0 N)
  have k5 : hK (mkR H4 s 517 0 N) s = 9 := by rw [(d5.2.1 s (by omega)).1]; exact k4
  generalize mkR H4 s 517 0 N = H5 at d5 v5 u5 w5 x5 y5 i5 k5 ⊢
  have e1 : hS H0 = hS h := z0
  have e2 : hS H1 = hS h + 1 := by omega
  have e3 : hS H2 = hS h + 2 := by omega
  have e4 : hS H3 = hS h + 3 := by omega
  have e5 : hS H4 = hS h + 4 := by omega
  have iF : ∀ f, hI H5 f s = if f = 512 then nm else 0 := fun f => by rw [i5, i4, i3, i2, i1]; exact i0 f
  have t5 := d5.2.1
  have t45 : ∀ a, a < hS H3 → hK H5 a = hK H3 a ∧ hN H5 a = hN H3 a := fun a ha => ⟨(t5 a (by omega)).1.trans (d4.2.1 a ha).1, (t5 a (by omega)).2.trans (d4.2.1 a ha).2⟩
  have t345 : ∀ a, a < hS H2 → hK H5 a = hK H2 a ∧ hN H5 a = hN H2 a := fun a ha => ⟨(t45 a (by omega)).1.trans (d3.2.1 a ha).1, (t45 a (by omega)).2.trans (d3.2.1 a ha).2⟩
  have t2345 : ∀ a, a < hS H1 → hK H5 a = hK H1 a ∧ hN H5 a = hN H1 a := fun a ha => ⟨(t345 a (by omega)).1.trans (d2.2.1 a ha).1, (t345 a (by omega)).2.trans (d2.2.1 a ha).2⟩
  rw [e1] at u1 w1 x1
  rw [e2] at u2 w2 x2
  rw [e3] at u3 w3 x3
  rw [e4] at u4 w4 x4
  rw [e5] at u5 w5 x5
  refine ⟨⟨⟨k5, ?_, ?_, ?_, ?_, x5, ?_, ?_, ?_, ?_, ⟨u5, w5⟩, ?_, ?_, ?_, hU, hN'⟩, ?_, ⟨?_, Nat.zero_le _, ?_, fun j hj => absurd hj (Nat.not_lt_zero _)⟩, ⟨?_, Nat.le_refl _, fun j hj => absurd hj (Nat.not_lt_zero _)⟩, ⟨?_, Nat.zero_le _, ?_, fun j hj => absurd hj (Nat.not_lt_zero _)⟩⟩, ?_, by omega, ?_, ?_⟩
  · rw [y5 513 (by decide), y4 513 (by decide), y3 513 (by decide), y2 513 (by decide)]; exact x1
  · rw [y5 514 (by decide), y4 514 (by decide), y3 514 (by decide)]; exact x2
  · rw [y5 515 (by decide), y4 515 (by decide)]; exact x3
  · rw [y5 516 (by decide)]; exact x4
  · show hK H5 (hS h) = 25 ∧ hN H5 (hS h) = U
    rw [(t2345 _ (by omega)).1, (t2345 _ (by omega)).2]; exact ⟨u1, w1⟩
  · show hK H5 (hS h + 1) = 21 ∧ hN H5 (hS h + 1) = U
    rw [(t345 _ (by omega)).1, (t345 _ (by omega)).2]; exact ⟨u2, w2⟩
  · show hK H5 (hS h + 2) = 20 ∧ hN H5 (hS h + 2) = U
    rw [(t45 _ (by omega)).1, (t45 _ (by omega)).2]; exact ⟨u3, w3⟩
  · show hK H5 (hS h + 3) = 20 ∧ hN H5 (hS h + 3) = N
    rw [(t5 _ (by omega)).1, (t5 _ (by omega)).2]; exact ⟨u4, w4⟩
  · show ¬ hS h + 2 = hS h + 3
    omega
  · show ¬ hS h + 2 = hS h + 4
    omega
  · show ¬ hS h + 3 = hS h + 4
    omega
  · rw [iF]; rfl
  · rw [iF]; exact nI_0.symm
  · rw [iF]; rfl
  · rw [iF]; exact nI_0.symm
  · rw [iF]; exact nI_0.symm
  · rw [iF]; rfl
  · exact (c0.tr (d1.tr (d2.tr (d3.tr (d4.tr d5))))).mono (fun a _ q => by rcases q with q | q | q | q | q | q <;> exact q) (by omega) (by omega)
  · rw [iF]; rfl
  · rw [iF]; rfl
end SEG
