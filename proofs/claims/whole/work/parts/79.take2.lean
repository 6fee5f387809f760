section TAKE
variable {g : gcT} {P : pmT} {o o' w w' : Nat → Nat} {y : Nat → Nat} {R R2 : arT} {h h' : hpT} {B : Nat → Prop} {i t c m : Nat} {ss : List Nat} {Ls : List lsT} {Ds : List (Nat × Nat)} {S S' : stA} {ps : psT} {kc km kc' km' : Nat} {ms : List Nat}
/-- what is kept while a LOG moves -/
theorem mv_fr (wf : hWF h) (hg : gOK g h) {ow : List Int32} {dd ff : Nat} (kD : rsD g h o y R2 Ds ow dd ff) (k8 : tLs g h 6 (y 8) ms) (kg : ∀ q ∈ ms, gdP h q) (kp : pstH h y R2 ps) (cg : CG B c m h o h' o') (nB : ¬ B (y 4)) : tLs g h' 6 (y 8) ms ∧ (∀ q ∈ ms, gdP h' q) ∧ ms.map (pA h') = ms.map (pA h) ∧ pstH h' y R2 ps := by
  have e3 := kD.2.2.2.2.1.2.2
  have a2 := kD.1.2.1
  have kk := k8.1.1
  refine ⟨k8.fr wf cg.1 (cg.sm wf (by rw [e3.1, a2]; exact nB) (by omega)) (fun d hd kd => cg.sm wf (by rw [e3.2 d hd kd, e3.1]; exact nB) (by omega)), fun q hq => ((kg q hq).cg wf cg).1, List.map_congr_left (fun q hq => ((kg q hq).cg wf cg).2), pstH.fr wf kD kp cg nB⟩
theorem nBk : ¬ Bk y (y 4) := fun q => q.2.2 rfl
/-- the loop over what moves -/
theorem take_2 (hP6 : P 206 = cpyO) (kS : RS g h o w y R R2 ss Ls Ds S) (hi : i < y 20) (k8 : tLs g h 6 (y 8) ms) (kg : ∀ q ∈ ms, gdP h q) (kp : pstH h y R2 ps) (hml : ms.length ≤ 1000) (hb : tNm (apL y i S (ms.map (pA h))) ≤ 80000) {Q0 : hpT → Option Value → Prop} (kk : ∀ h' x3 o4, StpK g h o y R R2 ss Ls Ds (9 * (tNm (apL y i S (ms.map (pA h))) - tNm S)) (kmO y * (tNm (apL y i S (ms.map (pA h))) - tNm S)) (apL y i S (ms.map (pA h))) h' → tLs g h' 6 (y 8) ms → pstH h' y R2 ps → Ev g P 15 127 [some (va_rf (some (y 4))), some (va_rf (some (ss.getD i 0))), some (.int (nI t)), some (.int x3), o4] [] h' Q0) (o4 : Option Value) : Ev g P 15 68 [some (va_rf (some (y 4))), some (va_rf (some (ss.getD i 0))), some (.int (nI t)), some (.int 0), o4] [] h Q0 := by
  have wf := kS.1.1
  have ok := kS.1.2.2
  have hg := kS.1.2.1
  have kD := kS.2.2.2.2.2
  have lp := cnt_loop ms.length (fun j h1 => ∃ o1 w1 L1 c1 m1, RS g h1 o1 w1 y R R2 ss L1 Ds (apL y i S ((ms.map (pA h)).take j)) ∧ CG (Bk y) c1 m1 h o h1 o1 ∧ Cst g y h Ls Ds h1 L1 Ds (9 * (tNm (apL y i S ((ms.map (pA h)).take j)) - tNm S)) (kmO y * (tNm (apL y i S ((ms.map (pA h)).take j)) - tNm S))) (fun j h1 => ∀ o4 : Option Value, Ev g P 15 68 [some (va_rf (some (y 4))), some (va_rf (some (ss.getD i 0))), some (.int (nI t)), some (.int (nI j)), o4] [] h1 Q0) ?_ ?_ h (by
    refine ⟨o, w, Ls, 0, 0, kS, CG.rf wf ok _, ?_⟩
    rw [show tNm (apL y i S ((ms.map (pA h)).take 0)) - tNm S = 0 from Nat.sub_self _, Nat.mul_zero, Nat.mul_zero]
    exact ⟨Nat.le_refl _, Nat.le_refl _, Nat.le_refl _⟩)
  · rw [nI_0] at lp; exact lp o4
  · intro j h1 hj ⟨o1, w1, L1, c1, m1, s1, s2, s3⟩ kn o4
    obtain ⟨f1, f2, f3, f4⟩ := mv_fr wf hg kD k8 kg kp s2 nBk
    obtain ⟨k0, k1, k4, -⟩ := s1.kinds
    have kD1 := s1.2.2.2.2.2
    have hsz : EvI g P 191 [va_rf (hR h1 196 (y 4))] h1 (fun h' r => h' = h1 ∧ r = nI ms.length) := by rw [kD1.2.2.2.2.1.1]; exact m_size f1.1
    have hgt : EvA g P 193 [va_rf (hR h1 196 (y 4)), .int (nI j)] h1 (fun h' r => h' = h1 ∧ r = some ms[j]) := by rw [kD1.2.2.2.2.1.1]; exact m_get f1.1 hj
    refine s_15_68 (k3 := k4) (e5 := kD1.2.2.2.2.1.1) (k6 := f1.1.1) (hc := hsz) (kk := fun h2 x ⟨e1, e2⟩ => ?_)
    subst e1; subst e2
    refine s_15_76 (kt := fun z => absurd z (nI_ge hj (by omega))) (kf := fun _ => ?_)
    refine s_15_79 (k3 := k4) (e5 := kD1.2.2.2.2.1.1) (k6 := f1.1.1) (hc := hgt) (kk := fun h2 x ⟨e1, e2⟩ => ?_)
    subst e1; subst e2
    have hjm : j < (ms.map (pA h)).length := by rw [List.length_map]; exact hj
    have e1 : apL y i S ((ms.map (pA h)).take (j + 1)) = apS y i (apL y i S ((ms.map (pA h)).take j)) (pA h ms[j]) := by
      unfold apL
      rw [take_1 hjm, List.foldl_append, List.getElem_map]
      rfl
    have hbj : tNm (apL y i S ((ms.map (pA h)).take (j + 1))) ≤ 80000 := by
      have e2 : apL y i S (ms.map (pA h)) = apL y i (apL y i S ((ms.map (pA h)).take (j + 1))) ((ms.map (pA h)).drop (j + 1)) := by
        unfold apL
        rw [← List.foldl_append, List.take_append_drop]
      rw [e2] at hb
      exact Nat.le_trans (apL_nm y i _ _).1 hb
    have hgq := (kg ms[j] (List.getElem_mem hj)).cg wf s2
    rw [e1] at hbj
    refine RS.ap hP6 s1 hi hgq.1 hgq.2 hbj (fun h3 st => s_15_121 ?_) o4
    rw [nI_1]
    refine kn h3 ?_ _
    have mono := (apS_nm y i (apL y i S ((ms.map (pA h)).take j)) (pA h ms[j])).1
    have mono0 := (apL_nm y i ((ms.map (pA h)).take j) S).1
    obtain ⟨o3, w3, L3, c3, m3, t1, t2, t3⟩ := StpK.tr wf ok s2 s3 st
    refine ⟨o3, w3, L3, _, _, by rw [e1]; exact t1, t2, ?_⟩
    rw [e1]
    obtain ⟨v1, v2, v3⟩ := t3
    refine ⟨by omega, ?_, v3⟩
    rw [← Nat.mul_add] at v2
    rw [show tNm (apL y i S ((ms.map (pA h)).take j)) - tNm S + (tNm (apS y i (apL y i S ((ms.map (pA h)).take j)) (pA h ms[j])) - tNm (apL y i S ((ms.map (pA h)).take j))) = tNm (apS y i (apL y i S ((ms.map (pA h)).take j)) (pA h ms[j])) - tNm S by omega] at v2
    exact v2
  · intro h1 ⟨o1, w1, L1, c1, m1, s1, s2, s3⟩ o4
    obtain ⟨f1, f2, f3, f4⟩ := mv_fr wf hg kD k8 kg kp s2 nBk
    obtain ⟨k0, k1, k4, -⟩ := s1.kinds
    have kD1 := s1.2.2.2.2.2
    have hsz : EvI g P 191 [va_rf (hR h1 196 (y 4))] h1 (fun h' r => h' = h1 ∧ r = nI ms.length) := by rw [kD1.2.2.2.2.1.1]; exact m_size f1.1
    refine s_15_68 (k3 := k4) (e5 := kD1.2.2.2.2.1.1) (k6 := f1.1.1) (hc := hsz) (kk := fun h2 x ⟨e1, e2⟩ => ?_)
    subst e1; subst e2
    have et : (ms.map (pA h)).take ms.length = ms.map (pA h) := by
      have := List.take_length (l := ms.map (pA h))
      rw [List.length_map] at this
      exact this
    rw [et] at s1 s3
    exact s_15_76 (kt := fun _ => kk h2 _ _ ⟨o1, w1, L1, c1, m1, s1, s2, s3⟩ f1 f4) (kf := fun z => absurd (nI_le (Nat.le_refl _) (by omega)) z)
theorem tk2_nm (y : Nat → Nat) (gr : Int32) (S : stA) (i : Nat) : tNm S ≤ tNm (tk2 y gr S i) ∧ (tSv (tk2 y gr S i)).length = (tSv S).length ∧ tDe (tk2 y gr S i) = tDe S ∧ tOw (tk2 y gr S i) = tOw S ∧ tDs (tk2 y gr S i) = tDs S ∧ tFo (tk2 y gr S i) = tFo S := by
  unfold tk2
  split
  · exact ⟨Nat.le_refl _, rfl, rfl, rfl, rfl, rfl⟩
  · exact ⟨opnA_len.2.1, List.length_set.trans List.length_set, rfl, rfl, rfl, rfl⟩
theorem tkS_nm (y : Nat → Nat) (ps : psT) (S : stA) (i t : Nat) : tNm S ≤ tNm (tkS y ps S i t) ∧ (tSv (tkS y ps S i t)).length = (tSv S).length ∧ tDe (tkS y ps S i t) = tDe S ∧ tDs (tkS y ps S i t) = tDs S ∧ tFo (tkS y ps S i t) = tFo S := by
  unfold tkS
  obtain ⟨a1, a2, a3, a4, a5, a6⟩ := tk2_nm y ps.1 (tk1 S i t) i
  obtain ⟨b1, b2, b3, b4, b5, b6⟩ := apL_nm y i (movA ps (sLg ((tSv (tk2 y ps.1 (tk1 S i t) i)).getD i sr0)) t) (tk2 y ps.1 (tk1 S i t) i)
  exact ⟨Nat.le_trans a1 b1, (b2.trans a2).trans List.length_set, b3.trans a3, b5.trans a5, b6.trans a6⟩
theorem RS.clr8 (kS : RS g h o w y R R2 ss Ls Ds S) (e2 : tLs g h 6 (y 8) ms) (kp : pstH h y R2 ps) : EvV g P 199 [va_rf (some (y 8))] h (fun h' => RS g h' o w y R R2 ss Ls Ds S ∧ CG (fun z => z = y 4) 0 0 h o h' o ∧ fxC g h' y = fxC g h y ∧ pstH h' y R2 ps) := by
  have wf := kS.1.1
  have hg := kS.1.2.1
  have ok := kS.1.2.2
  have kD := kS.2.2.2.2.2
  have n68 := kS.2.1.1.2.2.2.2.2
  refine Ev.imp (m_clear wf hg e2) (fun h1 r ⟨er, c1, c2, c3, c4⟩ => ⟨er, ?_⟩)
  have cgc := cgL wf hg e2 kD.2.2.2.2.1.2.2 kD.1.2.1 c4 (fun _ _ => rfl) ok
  have ow8 : ownL h1 o (y 4) (y 8) := by
    have ow := kD.2.2.2.2.1.2.2
    refine ⟨ow.1, fun d hd kd => ?_⟩
    rw [c3] at hd
    rcases row28 hg e2 d hd with z | z
    · obtain ⟨⟨-, -, d', b3, b4⟩, -, -⟩ := e2
      rw [b3] at hd
      cases hd
      rcases b4 with ⟨b4, -⟩ | ⟨b4, -⟩
      · rw [b4, (c4.2.1 _ hg.2.2.2.2).1, hg.2.1] at kd
        exact absurd kd (by decide)
      · omega
    · exact ow.2 d hd z
  obtain ⟨q1, q2, q3⟩ := rsD.l8 wf hg n68 kD e2 c4 c1 cgc ow8
  obtain ⟨r1, r2, r3⟩ := RS.kp kS cgc q1
  refine ⟨r1, cgc, by unfold fxC; rw [r3, q3, c2], ?_⟩
  obtain ⟨⟨a1, a2, a3⟩, -, -, ⟨u1, u2, u3, u4⟩, -⟩ := kD
  obtain ⟨j1, -, -, -, -, -, j7, j8, j9, j10, j11, -⟩ := u2
  obtain ⟨z1, z2, z3, z4⟩ := kp
  have s7 := q2 (y 7) (by omega) (by omega) (by omega)
  have t1 := q2 R2.1 (by omega) (by omega) (by omega)
  have t4 := q2 R2.2.2.2.1 (by omega) (by omega) (by omega)
  have t5 := q2 R2.2.2.2.2 (by omega) (by omega) (by omega)
  exact ⟨by rw [(s7.2.1 709).1]; exact z1, fun i hi => by rw [(t1.2.2.2 i).1]; exact z2 i hi, fun j hj => by rw [(t4.2.2.2 j).2]; exact (z3 j hj).fr wf cgc, fun j hj => by rw [(t5.2.2.2 j).2]; exact (z4 j hj).fr wf cgc⟩
theorem m_takeOver (hP6 : P 206 = cpyO) (kS : RS g h o w y R R2 ss Ls Ds S) (hi : i < y 20) (ht : t < 8) (kp : pstH h y R2 ps) (hb : tNm (tkS y ps S i t) ≤ 80000) : EvV g P 15 [va_rf (some (y 4)), va_rf (some (ss.getD i 0)), .int (nI t)] h (fun h' => pstH h' y R2 ps ∧ ∃ o' w' Ls' c m, RS g h' o' w' y R R2 ss Ls' Ds (tkS y ps S i t) ∧ CG (Bs y) c m h o h' o' ∧ Cst g y h Ls Ds h' Ls' Ds (9 * (tNm (tkS y ps S i t) - tNm S) + 6) (kmO y * (tNm (tkS y ps S i t) - tNm S) + nf 6 * 6)) := by
  obtain ⟨k0, k1, k4, kse, kde⟩ := kS.kinds
  have wf := kS.1.1
  have ok := kS.1.2.2
  have hg := kS.1.2.1
  have kD := kS.2.2.2.2.2
  have yo := kS.2.1.1
  have k12 := kS.2.1.2.2.2
  have k9 := kS.2.1.2.2.1
  have lsv : (tSv S).length = y 20 := kS.2.2.2.1.1.2.1
  obtain ⟨⟨a1, a2, a3⟩, ⟨b1, b2, b3, b4, b5, b6, b7⟩, d, f0, -, -⟩ := kS.2.2.2.1.2.2 i hi
  obtain ⟨o1', o2', o3', o4', o5', o6'⟩ := kD.2.1
  obtain ⟨u1, u2, u3, u4⟩ := kD.2.2.2.1
  have et : (nI t).toNatClampNeg = t := nI_clamp (by omega)
  have hv : vinD (nI t) (hN h (y 5)) := by rw [o3']; exact vin_nI ht (by omega)
  -- the MAP and the TABLET
  have cA : CG (fun z => z = y 4) 0 0 h o (hpA h (y 5) t (nI i)) o := CG.of0 (Ch.wA wf _ (wf.lt (by omega))) ok (fun z _ q => by rw [q]; exact ⟨by omega, Or.inr (by rw [o4']; exact kD.1.2.1)⟩) (fun _ _ => rfl)
  have kdA := kD.wA (j := t) (u := nI i) ht
  obtain ⟨rA1, rA2, rA3⟩ := RS.kp kS cA kdA
  have fxA : fxC g (hpA h (y 5) t (nI i)) y = fxC g h y := rfl
  have iA : hI (hpA h (y 5) t (nI i)) = hI h := rfl
  have kpA : pstH (hpA h (y 5) t (nI i)) y R2 ps := by
    obtain ⟨z1, z2, z3, z4⟩ := kp
    refine ⟨z1, fun j hj => ?_, z3, z4⟩
    rw [rA_A, if_neg]
    · exact z2 j hj
    · rintro ⟨q, -⟩
      have e1 := u3.1
      rw [q, o4'] at e1
      have k7 := u2.1
      rw [← e1] at k7
      omega
  have rd : ∀ q : hpT → Option Value → Prop, (¬ ps.1 ≤ sSf ((tSv S).getD i sr0) → Ev g P 15 36 [some (va_rf (some (y 4))), some (va_rf (some (ss.getD i 0))), some (.int (nI t)), none, none] [] (hpI (hpA h (y 5) t (nI i)) 580 (ss.getD i 0) (hI h 580 (ss.getD i 0) ||| (1 <<< (nI t &&& 31)))) q) → (ps.1 ≤ sSf ((tSv S).getD i sr0) → Ev g P 15 57 [some (va_rf (some (y 4))), some (va_rf (some (ss.getD i 0))), some (.int (nI t)), none, none] [] (hpI (hpA h (y 5) t (nI i)) 580 (ss.getD i 0) (hI h 580 (ss.getD i 0) ||| (1 <<< (nI t &&& 31)))) q) → Ev g P 15 0 [some (va_rf (some (y 4))), some (va_rf (some (ss.getD i 0))), some (.int (nI t)), none, none] [] h q := by
    intro q q1 q2
    refine s_15_0 (k3 := k4) (k6 := a1) (e8 := o1') (k9 := o2') (i10 := hv) (e12 := u1) (k13 := u2.1) (kt := fun z => ?_) (kf := fun z => ?_)
    · rw [et, a3]
      rw [kp.1, b5] at z
      exact q2 z
    · rw [et, a3]
      rw [kp.1, b5] at z
      exact q1 z
  obtain ⟨tb1, tb2, tb3⟩ := RS.sI (f := 580) (v := hI h 580 (ss.getD i 0) ||| (1 <<< (nI t &&& 31))) (x' := tbX ((tSv S).getD i sr0) t) rA1 hi (by decide) rfl rfl rfl (by rw [b4]; rfl) rfl rfl rfl rfl rfl d
  have tb1 : RS g (hpI (hpA h (y 5) t (nI i)) 580 (ss.getD i 0) (hI h 580 (ss.getD i 0) ||| (1 <<< (nI t &&& 31)))) o w y R R2 ss Ls Ds (tk1 S i t) := tb1
  have kp1 : pstH (hpI (hpA h (y 5) t (nI i)) 580 (ss.getD i 0) (hI h 580 (ss.getD i 0) ||| (1 <<< (nI t &&& 31)))) y R2 ps := pstH.fr rA1.1.1 rA1.2.2.2.2.2 kpA tb2 (fun q => by rw [← q] at a1; omega)
  have toS : ∀ z, hK h z = 10 → Bs y z := fun z hz => ⟨kinds_ne (h := h) (by omega), kinds_ne (h := h) (by omega)⟩
  have cg1 : CG (Bs y) 0 0 h o (hpI (hpA h (y 5) t (nI i)) 580 (ss.getD i 0) (hI h 580 (ss.getD i 0) ||| (1 <<< (nI t &&& 31)))) o := CG.tr wf ok rA2 (tb2.mono ok (fun z _ q => by rw [q]; exact toS _ a1) (Nat.le_refl _) (Nat.le_refl _))
  have fx1 := tb3.trans fxA
  generalize hpI (hpA h (y 5) t (nI i)) 580 (ss.getD i 0) (hI h 580 (ss.getD i 0) ||| (1 <<< (nI t &&& 31))) = H1 at tb1 kp1 cg1 fx1 rd
  have nm2 := tk2_nm y ps.1 (tk1 S i t) i
  have e0 : tNm (tk1 S i t) = tNm S := rfl
  have hbL : tNm (apL y i (tk2 y ps.1 (tk1 S i t) i) (movA ps (sLg ((tSv (tk2 y ps.1 (tk1 S i t) i)).getD i sr0)) t)) ≤ 80000 := hb
  have cont : ∀ h2 o2 w2 L2 c2 m2, RS g h2 o2 w2 y R R2 ss L2 Ds (tk2 y ps.1 (tk1 S i t) i) → CG (Bs y) c2 m2 h o h2 o2 → Cst g y h Ls Ds h2 L2 Ds (9 * (tNm (tk2 y ps.1 (tk1 S i t) i) - tNm S)) (kmO y * (tNm (tk2 y ps.1 (tk1 S i t) i) - tNm S)) → pstH h2 y R2 ps → Ev g P 15 57 [some (va_rf (some (y 4))), some (va_rf (some (ss.getD i 0))), some (.int (nI t)), none, none] [] h2 (fun h' r => r = none ∧ pstH h' y R2 ps ∧ ∃ o' w' Ls' c m, RS g h' o' w' y R R2 ss Ls' Ds (tkS y ps S i t) ∧ CG (Bs y) c m h o h' o' ∧ Cst g y h Ls Ds h' Ls' Ds (9 * (tNm (tkS y ps S i t) - tNm S) + 6) (kmO y * (tNm (tkS y ps S i t) - tNm S) + nf 6 * 6)) := by
    intro h2 o2 w2 L2 c2 m2 s1 s2 s3 s4
    obtain ⟨k02, k12', k42, kse2, kde2⟩ := s1.kinds
    obtain ⟨ll, xs, -, -, -, p4, -⟩ := s1.prem hi
    have hga := m_gather (P := P) (n6 := 6) (n8 := 8) (n240 := 240) rfl rfl rfl hP6 s1 hi ht s4
    rw [← p4] at hga
    refine s_15_57 (k3 := (kse2 i hi).1) (k6 := k42) (hc := hga) (kk := fun h3 ⟨n, n1, n2⟩ => s_15_66 ?_)
    obtain ⟨o3, c3, m3, ms, q1, q2, q3, q4, q5, q6, q7⟩ := n2
    have q7 : ms.map (pA h3) = movA ps (sLg ((tSv (tk2 y ps.1 (tk1 S i t) i)).getD i sr0)) t := q7
    have hml : ms.length ≤ 1000 := by
      have e : ms.length = (movA ps (sLg ((tSv (tk2 y ps.1 (tk1 S i t) i)).getD i sr0)) t).length := by rw [← q7, List.length_map]
      have l1 := mvN_len ps (sLg ((tSv (tk2 y ps.1 (tk1 S i t) i)).getD i sr0)) 6
      have l2 := mvO_len ps t 8
      have l3 := mvR_len ps t 240
      rw [e]
      unfold movA
      rw [List.length_append, List.length_append]
      omega
    have ok2 := s1.1.2.2
    have wf2 := s1.1.1
    have ok3 := q1.1.2.2
    have wf3 := q1.1.1
    have k92 := s1.2.1.2.2.1
    have k122 := s1.2.1.2.2.2
    have toK : ∀ z, z = y 4 → Bs y z := fun z q => by rw [q]; exact ⟨kinds_ne (h := h2) (by omega), kinds_ne (h := h2) (by omega)⟩
    refine take_2 hP6 q1 hi q5 q6 q4 hml (by rw [q7]; exact hbL) (fun h4 x3 o4 st t1 t2 => ?_) none
    rw [q7] at st
    obtain ⟨o5, w5, L5, c5, m5, v1, v2, v3⟩ := st
    obtain ⟨k05, k15, k45, kse5, kde5⟩ := v1.kinds
    have hcl := RS.clr8 (P := P) v1 t1 t2
    have r196 := v1.2.2.2.2.2.2.2.2.2.1.1
    rw [← r196] at hcl
    have ok5 := v1.1.2.2
    refine s_15_127 (k3 := k45) (e5 := r196) (k6 := t1.1.1) (hc := hcl) (kk := fun h6 ⟨z1, z2, z3, z4⟩ => s_15_134 ⟨rfl, z4, o5, w5, L5, _, _, z1, CG.tr wf ok (CG.tr wf ok (CG.tr wf ok s2 (q2.mono ok2 (fun z _ q => toK z q) (Nat.le_refl _) (Nat.le_refl _))) (v2.s ok3)) (z2.mono ok5 (fun z _ q => toK z q) (Nat.le_refl _) (Nat.le_refl _)), ?_⟩)
    have c6 : Cst g y h4 L5 Ds h6 L5 Ds 0 0 := Cst.of z2 z3 (Nat.le_refl _) (Nat.le_refl _)
    have tot := ((s3.tr q3).tr v3).tr c6
    have eT : tNm (tkS y ps S i t) = tNm (apL y i (tk2 y ps.1 (tk1 S i t) i) (movA ps (sLg ((tSv (tk2 y ps.1 (tk1 S i t) i)).getD i sr0)) t)) := rfl
    have mono := (apL_nm y i (movA ps (sLg ((tSv (tk2 y ps.1 (tk1 S i t) i)).getD i sr0)) t) (tk2 y ps.1 (tk1 S i t) i)).1
    rw [← eT] at tot mono
    obtain ⟨w1, w2', w3⟩ := tot
    have hmm : kmO y * (tNm (tk2 y ps.1 (tk1 S i t) i) - tNm S) + kmO y * (tNm (tkS y ps S i t) - tNm (tk2 y ps.1 (tk1 S i t) i)) = kmO y * (tNm (tkS y ps S i t) - tNm S) := by
      have h1 := nm2.1
      have h2 : tNm (tk2 y ps.1 (tk1 S i t) i) - tNm S + (tNm (tkS y ps S i t) - tNm (tk2 y ps.1 (tk1 S i t) i)) = tNm (tkS y ps S i t) - tNm S := by omega
      rw [← Nat.mul_add, h2]
    have hn6 : nf 6 * n ≤ nf 6 * 6 := Nat.mul_le_mul_left _ n1
    have := nm2.1
    exact ⟨by omega, by omega, w3⟩
  refine e_15 (rd _ (fun z => ?_) (fun z => ?_))
  · -- SAFE is told anew
    obtain ⟨⟨a1', a2', a3'⟩, ⟨b1', b2', b3', b4', b5', b6', b7'⟩, d', f0', -, -⟩ := tb1.2.2.2.1.2.2 i hi
    obtain ⟨k01, k11, k41, kse1, kde1⟩ := tb1.kinds
    have kD1 := tb1.2.2.2.2.2
    have gx : (tSv (tk1 S i t)).getD i sr0 = tbX ((tSv S).getD i sr0) t := gS (by omega)
    have z' : ¬ ps.1 ≤ sSf ((tSv (tk1 S i t)).getD i sr0) := by rw [gx]; exact z
    obtain ⟨sf1, sf2, sf3⟩ := RS.sI (f := 581) (v := ps.1) (x' := sfX ((tSv (tk1 S i t)).getD i sr0) ps.1) tb1 hi (by decide) rfl rfl rfl rfl rfl rfl rfl rfl rfl d'
    have sf1 : RS g (hpI H1 581 (ss.getD i 0) ps.1) o w y R R2 ss Ls Ds (sfS (tk1 S i t) i ps.1) := sf1
    have e2 : tk2 y ps.1 (tk1 S i t) i = rmW (sfS (tk1 S i t) i ps.1) i (opnS y (sfS (tk1 S i t) i ps.1) i 0) := if_neg z'
    have hbo : (opnS y (sfS (tk1 S i t) i ps.1) i 0).2.1 ≤ 80000 := by
      have h1 : tNm (tk2 y ps.1 (tk1 S i t) i) ≤ 80000 := Nat.le_trans (apL_nm y i _ _).1 hbL
      rw [e2] at h1
      exact h1
    have hop := RS.oping (P := P) (lim := 0) hP6 sf1 hi hbo
    rw [← kD1.1.2.2] at hop
    have e709 : hI H1 709 (y 7) = ps.1 := kp1.1
    have u1' := kD1.2.2.2.1
    have eH : hpI H1 581 (ss.getD i 0) ps.1 = hpI H1 581 (ss.getD i 0) (hI H1 709 (y 7)) := by rw [e709]
    rw [eH] at hop
    refine s_15_36 (k3 := k41) (e5 := u1'.1) (k6 := u1'.2.1.1) (k9 := a1') (e11 := kD1.1.2.2) (k12 := k01) (hc := hop) (kk := fun h2 v ⟨_, st⟩ => s_15_56 ?_)
    rw [← eH] at st
    obtain ⟨o2, w2, L2, c2, m2, q1, q2, q3⟩ := st
    rw [← e2] at q1
    have kpf : pstH (hpI H1 581 (ss.getD i 0) ps.1) y R2 ps := pstH.fr tb1.1.1 kD1 kp1 sf2 (fun q => by rw [← q] at a1; omega)
    have s1H : hK H1 (ss.getD i 0) = 10 := a1'
    have k9H := tb1.2.1.2.2.1
    have k12H := tb1.2.1.2.2.2
    refine cont h2 o2 w2 L2 _ _ q1 (CG.tr wf ok (CG.tr wf ok cg1 (sf2.mono ok (fun z _ q => by rw [q]; exact ⟨kinds_ne (h := H1) (by omega), kinds_ne (h := H1) (by omega)⟩) (Nat.le_refl _) (Nat.le_refl _))) (q2.s ok)) ?_ (pstH.fr sf1.1.1 sf1.2.2.2.2.2 kpf q2 nBk)
    have ea : tNm (tk2 y ps.1 (tk1 S i t) i) = (opnS y (sfS (tk1 S i t) i ps.1) i 0).2.1 := by rw [e2]; rfl
    have cA' : Cst g y h Ls Ds H1 Ls Ds 0 0 := Cst.of cg1 fx1 (Nat.le_refl _) (Nat.le_refl _)
    have cB' : Cst g y H1 Ls Ds (hpI H1 581 (ss.getD i 0) ps.1) Ls Ds 0 0 := Cst.of sf2 sf3 (Nat.le_refl _) (Nat.le_refl _)
    have tot := (cA'.tr cB').tr q3
    rw [Nat.add_zero, Nat.add_zero, Nat.zero_add, Nat.zero_add] at tot
    rw [ea]
    exact tot
  · have gx : (tSv (tk1 S i t)).getD i sr0 = tbX ((tSv S).getD i sr0) t := gS (by omega)
    have e2 : tk2 y ps.1 (tk1 S i t) i = tk1 S i t := if_pos (by rw [gx]; exact z)
    refine cont H1 o w Ls 0 0 (by rw [e2]; exact tb1) cg1 ?_ kp1
    rw [e2, e0, Nat.sub_self, Nat.mul_zero, Nat.mul_zero]
    exact Cst.of cg1 fx1 (Nat.le_refl _) (Nat.le_refl _)
end TAKE
