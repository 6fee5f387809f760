/-! Coordinator.declareDead -/
def dd1 (i : Nat) (st : List Int32 × Int32) (j : Nat) : List Int32 × Int32 := if st.1.getD j 0 = nI i then (st.1.set j (-1), st.2 ||| (1 <<< (nI j &&& 31))) else st
def ddF (ow : List Int32) (i n : Nat) : List Int32 × Int32 := (List.range n).foldl (dd1 i) (ow, 0)
theorem ddF_1 (ow : List Int32) (i n : Nat) : ddF ow i (n + 1) = dd1 i (ddF ow i n) n := by
  unfold ddF
  rw [List.range_succ, List.foldl_append]; rfl
theorem ddF_len (ow : List Int32) (i : Nat) : ∀ n, (ddF ow i n).1.length = ow.length := by
  intro n
  induction n with
  | zero => rfl
  | succ n ih =>
    rw [ddF_1]
    unfold dd1
    split
    · rw [List.length_set]; exact ih
    · exact ih
def ddX (x : srA) : srA := match sLL x with
  | some _ => if ¬ sLo x = 0 then (sSt x, sFe x, 0, sTb x, sSf x, sCu x, sMi x, sLg x, none) else (sSt x, 1, sLo x, sTb x, sSf x, sCu x, sMi x, ([], none, none), sLL x)
  | none => (sSt x, 1, sLo x, sTb x, sSf x, sCu x, sMi x, ([], none, none), none)
def ddL (x : srA) : alT := match sLL x with
  | some B => if ¬ sLo x = 0 then B else sLg x
  | none => sLg x
def ddA (S : stA) (i : Nat) : stA := ((tSv S).set i (ddX ((tSv S).getD i sr0)), S.2.1, (ddF (tOw S) i 8).1, tDe S ++ [(ddL ((tSv S).getD i sr0), (ddF (tOw S) i 8).2)], tDs S + 1, tFo S)
section DEAD
variable {g : gcT} {P : pmT} {o o' w w' : Nat → Nat} {y : Nat → Nat} {R R2 : arT} {h h' : hpT} {B : Nat → Prop} {c m N U L nx nx' k s i f : Nat} {tb v : Int32} {A : alT} {p p' : lsT} {x x' : srA} {ss : List Nat} {Ls : List lsT} {Ds : List (Nat × Nat)} {S : stA} {q' : Int32 × Nat × Int32 × Int32 × Int32} {ow ow' : List Int32} {dd ff dd' ff' : Nat}
/-- the Coordinator's things and a LOG that nobody has change -/
theorem RS.kpL (kS : RS g h o w y R R2 ss Ls Ds S) (kL : hK h L = 5) (wL : w L = 2) (nD : ∀ j, j < Ds.length → ¬ (Ds.getD j (0, 0)).1 = L) (cg : CG (fun z => z = y 4 ∨ z = L) c m h o h' o') (kd : rsD g h' o' y R2 Ds ow' dd' ff') : RS g h' o' w y R R2 ss Ls Ds (S.1, S.2.1, ow', S.2.2.2.1, dd', ff') ∧ CG (Bs y) c m h o h' o' ∧ capO g h' (y 3) = capO g h (y 3) := by
  obtain ⟨k0, k1, k4, kse, kde⟩ := kS.kinds
  obtain ⟨⟨wf, hg, ok⟩, ⟨yo, hnm, k9, k12⟩, kA, kB, kC, kD⟩ := kS
  have ne : ∀ z, ¬ hK h z = 4 → ¬ z = L → ¬ (z = y 4 ∨ z = L) := by
    rintro z n1 n2 (q | q)
    · rw [q] at n1; exact n1 k4
    · exact n2 q
  have neL : ∀ z, ¬ hK h z = 5 → ¬ z = L := fun z hz => kinds_ne (h := h) (by omega)
  have neW : ∀ z, ¬ w z = 2 → ¬ z = L := fun z hz q => hz (by rw [q]; exact wL)
  refine ⟨⟨⟨cg.w, hg.ch cg.1, cg.2.2.1⟩, ⟨yo, hnm, by rw [(cg.1.2.1 _ (wf.lt (by omega))).1]; exact k9, by rw [(cg.1.2.1 _ (wf.lt (by omega))).1]; exact k12⟩, rsA.fr wf hg kA cg (ne _ (by omega) (neL _ (by omega))), rsB.fr wf hg kB cg (fun j hj => ?_) (ne _ (by omega) (neL _ (by omega))) (Nat.le_refl _), rsC.fr wf hg kC cg (fun j hj => ne _ (by have := (kde j hj).1; omega) (nD j hj)) (Nat.le_refl _) (fun _ _ => rfl), kd⟩, cg.mono ok (fun z _ q => ?_) (Nat.le_refl _) (Nat.le_refl _), ?_⟩
  · obtain ⟨t1, t2, t3, t4, t5, t6⟩ := kse j hj
    exact ⟨ne _ (by omega) (neL _ (by omega)), ne _ (by omega) (neW _ (by omega)), fun z hz => ne _ (by have := (t6 z hz).1; omega) (neW _ (by have := (t6 z hz).2.2; omega))⟩
  · rcases q with q | q
    · rw [q]; exact ⟨kinds_ne (h := h) (by omega), kinds_ne (h := h) (by omega)⟩
    · rw [q]; exact ⟨kinds_ne (h := h) (by omega), kinds_ne (h := h) (by omega)⟩
  · obtain ⟨⟨xs, st⟩, -⟩ := kA
    have := st.2.2.2.2.1.1.1
    exact capO.fr wf st.2.2.2.2.1 cg.1 (cg.sm wf (by rw [st.2.2.2.2.2.1, st.2.1.1]; exact ne _ (by omega) (neL _ (by omega))) (by omega))
theorem rsD.wA {j : Nat} (kd : rsD g h o y R2 Ds ow dd ff) {u : Int32} (hj : j < 8) : rsD g (hpA h (y 5) j u) o y R2 Ds (ow.set j u) dd ff := by
  obtain ⟨a, ⟨b1, b2, b3, b4, b5, b6⟩, c, d, e, f⟩ := kd
  refine ⟨a, ⟨b1, b2, b3, b4, by rw [List.length_set]; exact b5, fun i hi => ?_⟩, c, d, e, f⟩
  rw [rA_A]
  by_cases q : i = j
  · rw [if_pos ⟨rfl, q⟩, q, gS (by omega)]
  · rw [if_neg (fun z => q z.2), gN q]; exact b6 i hi
theorem rsD.wL {u : Int32} (kd : rsD g h o y R2 Ds ow dd ff) (hf : ¬ f = 2 ∧ ¬ f = 197 ∧ ¬ f = 198) : rsD g (hpI h f L u) o y R2 Ds ow dd ff := by
  obtain ⟨a, b, ⟨c1, c2, c3⟩, d, ⟨e1, ⟨ms, e2⟩, e3⟩, f1, f2⟩ := kd
  refine ⟨a, b, ⟨c1, c2.wI hf.1, c3⟩, d, ⟨e1, ⟨ms, e2.wI hf.1⟩, e3⟩, ?_, ?_⟩
  · rw [rI_I, if_neg (fun z => hf.2.1 z.1.symm)]; exact f1
  · rw [rI_I, if_neg (fun z => hf.2.2 z.1.symm)]; exact f2
theorem lgQ.wT {u : Int32} (kq : lgQ g h o N U L nx k tb A) : lgQ g (hpI h 259 L u) o N U L nx k u A := by
  obtain ⟨⟨zs, k1, k2, k3, k4⟩, k5, k6⟩ := kq
  refine ⟨⟨zs, k1.wI (by decide), k2, k3, ?_⟩, k5, by rw [rI_I, if_pos ⟨rfl, rfl⟩]⟩
  rw [← k4]
  refine List.map_congr_left (fun z _ => ?_)
  unfold aG
  have : pA (hpI h 259 L u) = pA h := by
    funext q
    have e : ∀ f', ¬ f' = 259 → ∀ b, hI (hpI h 259 L u) f' b = hI h f' b := fun f' hf b => by rw [rI_I, if_neg (fun z => hf z.1)]
    unfold pA ptv hmF
    rw [e 384 (by decide), e 388 (by decide), e 389 (by decide), e 390 (by decide), e 391 (by decide), e 392 (by decide), e 393 (by decide), e 394 (by decide)]
    show (_, match hR h 395 q with | some s => hI (hpI h 259 L u) 512 s | none => -1) = _
    cases hR h 395 q with
    | none => rfl
    | some s => dsimp only; rw [e 512 (by decide)]
  rw [this]
theorem lgQ.wA {j b : Nat} {u : Int32} (wf : hWF h) (hg : gOK g h) (ok : oOK o) (kq : lgQ g h o N U L nx k tb A) (hb : ¬ hK h b = 7) (hb0 : ¬ hK h b = 0) (nb : ¬ o (o b) = L) : lgQ g (hpA h b j u) o N U L nx k tb A := by
  have cg : CG (fun z => z = o (o b)) 0 0 h o (hpA h b j u) o := CG.of0 (Ch.wA wf u (wf.lt hb0)) ok (fun z _ q => by rw [q]; exact ⟨hb, Or.inr rfl⟩) (fun _ _ => rfl)
  exact kq.fr wf hg cg (fun q => nb q.symm) (Nat.le_refl _)
/-- the end of declareDead: from the loop on -/
theorem dead_2 {n8 : Nat} (hn8 : n8 = 8) (hP6 : P 206 = cpyO) (kS : RS g h o w y R R2 ss Ls Ds S) (hi : i < y 20) (hD : Ds.length ≤ 1000) (kL : lgQ g h o (y 20) (y 22) L (tNm S) k 0 A) (wL : w L = 2) (nD : ∀ j, j < Ds.length → ¬ (Ds.getD j (0, 0)).1 = L) : Ev g P 12 53 [some (va_rf (some (y 4))), some (va_rf (some (ss.getD i 0))), some (va_rf (some L)), none] [] h (fun h' r => r = none ∧ ∃ o' c m, RS g h' o' w y R R2 ss Ls (Ds ++ [(L, k)]) (S.1, S.2.1, (ddF (tOw S) i n8).1, tDe S ++ [(A, (ddF (tOw S) i n8).2)], tDs S + 1, tFo S) ∧ CG (Bs y) c m h o h' o' ∧ Cst g y h Ls (Ds ++ [(L, k)]) h' Ls (Ds ++ [(L, k)]) 0 0) := by
  obtain ⟨k0, k1, k4, kse, kde⟩ := kS.kinds
  have kS' := kS
  obtain ⟨⟨wf, hg, ok⟩, ⟨yo, hnm, k9, k12⟩, kA, kB, kC, kD⟩ := kS'
  obtain ⟨s1, s2, s3, s4, s5, s6⟩ := kse i hi
  have a3 := (kB.2.2 i hi).1.2.2
  have k5L := kL.1.r.2
  have rL := kL.1.r.1
  have r4 := kD.1.2.1
  have n4L : ¬ y 4 = L := kinds_ne (h := h) (by omega)
  refine s_12_53 ?_
  have lp := cnt_loop n8 (fun t h1 => CG (fun z => z = y 4 ∨ z = L) 0 0 h o h1 o ∧ rsD g h1 o y R2 Ds (ddF (tOw S) i t).1 (tDs S) (tFo S) ∧ lgQ g h1 o (y 20) (y 22) L (tNm S) k (ddF (tOw S) i t).2 A ∧ (∀ z, capO g h1 z = capO g h z)) (fun t h1 => Ev g P 12 55 [some (va_rf (some (y 4))), some (va_rf (some (ss.getD i 0))), some (va_rf (some L)), some (.int (nI t))] [] h1 (fun h' r => r = none ∧ ∃ o' c m, RS g h' o' w y R R2 ss Ls (Ds ++ [(L, k)]) (S.1, S.2.1, (ddF (tOw S) i n8).1, tDe S ++ [(A, (ddF (tOw S) i n8).2)], tDs S + 1, tFo S) ∧ CG (Bs y) c m h o h' o' ∧ Cst g y h Ls (Ds ++ [(L, k)]) h' Ls (Ds ++ [(L, k)]) 0 0)) ?_ ?_ h ⟨CG.rf wf ok _, kD, kL, fun _ => rfl⟩
  · rw [nI_0] at lp; exact lp
  · intro t h1 ht ⟨c1, c2, c3, c4⟩ kn
    have w1 := c1.w
    have hg1 := hg.ch c1.1
    have k41 := c2.1.1
    obtain ⟨b1, b2, b3, b4, b5, b6⟩ := c2.2.1
    have et : (nI t).toNatClampNeg = t := nI_clamp (by omega)
    have ht : t < 8 := by omega
    have hv : vinD (nI t) (hN h1 (y 5)) := by rw [b3]; exact vin_nI ht (by omega)
    have s11 : hK h1 (ss.getD i 0) = 10 := by rw [(c1.1.2.1 _ (wf.lt (by omega))).1]; exact s1
    have e576 : hI h1 576 (ss.getD i 0) = nI i := by
      rw [((c1.sm wf (a := ss.getD i 0) (by rw [s2, s2]; rintro (q | q); exact kinds_ne (h := h) (by omega) q; exact kinds_ne (h := h) (by omega) q) (by omega)).2.1 576).1]; exact a3
    refine s_12_55 (k3 := k41) (e5 := b1) (k7 := b2) (kt := fun z => absurd z (by rw [b3]; exact nI_ge ht (by omega))) (kf := fun _ => ?_)
    refine s_12_64 (k3 := k41) (e5 := b1) (k6 := b2) (i7 := hv) (k10 := s11) (kt := fun z => s_12_96 ?_) (kf := fun z => ?_)
    · rw [et, b6 t ht, e576] at z
      rw [nI_1]
      refine kn h1 ?_
      have e : ddF (tOw S) i (t + 1) = ddF (tOw S) i t := by rw [ddF_1]; exact if_neg z
      rw [e]
      exact ⟨c1, c2, c3, c4⟩
    · rw [et, b6 t ht, e576] at z
      have e : ddF (tOw S) i (t + 1) = ((ddF (tOw S) i t).1.set t (-1), (ddF (tOw S) i t).2 ||| (1 <<< (nI t &&& 31))) := by rw [ddF_1]; exact if_pos z
      have k5L1 := c3.1.r.2
      have rL1 := c3.1.r.1
      refine s_12_77 (k3 := k41) (e5 := b1) (k6 := b2) (i7 := hv) (k10 := k5L1) (kk := s_12_96 ?_)
      rw [nI_1, et]
      have r41 := c2.1.2.1
      have c1A : CG (fun z => z = y 4 ∨ z = L) 0 0 h1 o (hpA h1 (y 5) t (-1)) o := CG.of0 (Ch.wA w1 _ (w1.lt (by omega))) ok (fun z _ q => by rw [q]; exact ⟨by omega, Or.inr (Or.inl (by rw [b4]; exact r41))⟩) (fun _ _ => rfl)
      have c2A := c2.wA (j := t) (u := -1) ht
      have c3A := c3.wA (j := t) (b := y 5) (u := -1) w1 hg1 ok (by omega) (by omega) (by rw [b4, r41]; exact n4L)
      have c4A : ∀ z, capO g (hpA h1 (y 5) t (-1)) z = capO g h z := c4
      have e259 : hI h1 259 L = (ddF (tOw S) i t).2 := c3.2.2
      have kLA : hK (hpA h1 (y 5) t (-1)) L = 5 := k5L1
      have iA : hI (hpA h1 (y 5) t (-1)) = hI h1 := rfl
      generalize hpA h1 (y 5) t (-1) = HA at c1A c2A c3A c4A kLA iA ⊢
      have c1B : CG (fun z => z = y 4 ∨ z = L) 0 0 HA o (hpI HA 259 L (hI h1 259 L ||| (1 <<< (nI t &&& 31)))) o := CG.wI c1A.w ok (by omega) (by omega) (Or.inr (by rw [rL]; exact rL)) (by decide)
      refine kn _ ⟨CG.tr wf ok (CG.tr wf ok c1 c1A) c1B, ?_, ?_, c4A⟩
      · rw [e]; exact c2A.wL (by decide)
      · rw [e, e259]; exact c3A.wT
  · intro h1 ⟨c1, c2, c3, c4⟩
    have w1 := c1.w
    have hg1 := hg.ch c1.1
    have k41 := c2.1.1
    have r41 := c2.1.2.1
    obtain ⟨b1, b2, b3, b4, b5, b6⟩ := c2.2.1
    obtain ⟨d1, d2, d3⟩ := c2.2.2.1
    refine s_12_55 (k3 := k41) (e5 := b1) (k7 := b2) (kt := fun _ => ?_) (kf := fun z => absurd (by rw [b3]; exact nI_le (by omega) (by omega)) z)
    have k5L1 := c3.1.r.2
    have hadd := m_add (g := g) hP6 w1 hg1 d2 (b := L) (by omega) (by rw [List.length_map]; omega)
    rw [← d1] at hadd
    refine s_12_102 (k3 := k41) (e5 := d1) (k6 := d2.1.1) (hc := hadd) (kk := fun h2 v ⟨ev, A1, A2, A3, A4, A5⟩ => ?_)
    have gr : Grew g (y 6) (Ds.map (·.1)).length h1 h2 := ⟨A2, A3, A4, A5⟩
    obtain ⟨cg2, ow2⟩ := Grew.cg w1 ok hg1 d2 d3 r41 gr A1
    generalize oX o h1 (y 6) = o2 at cg2 ow2
    have w2 := cg2.w
    have hg2 := hg1.ch cg2.1
    have ok2 := cg2.2.2.1
    obtain ⟨r1, r2, r3⟩ := RS.kpL kS k5L wL nD c1 c2
    have so : ∀ z, ¬ hK h1 z = 0 → ¬ hK h1 z = 1 → ¬ hK h1 z = 28 → Sm h1 h2 z := by
      intro z z0 z1 z28
      refine A4.sm ?_ (w1.lt z0)
      rintro (q | q)
      · rw [q] at z1; exact z1 d2.1.1
      · rcases row28 hg1 d2 z q with q | q <;> contradiction
    have s4' := so (y 4) (by omega) (by omega) (by omega)
    have k42 : hK h2 (y 4) = 4 := by rw [s4'.1]; exact k41
    refine s_12_110 (k3 := k42) (hq := ⟨rfl, ?_⟩)
    -- the Coordinator after the add
    obtain ⟨⟨_, _, a33⟩, _, _, ⟨t1, t2, t3, t4⟩, ⟨u1', ⟨ms, u2⟩, u3⟩, x1, x2⟩ := c2
    have k7 := t2.1
    have k8 := u2.1.1
    have n86 : ¬ y 8 = y 6 := fun q => yo.2.2.2.2.2 q.symm
    have lt1 : ∀ z, ¬ hK h1 z = 0 → z < hS h1 := fun z hz => w1.lt hz
    have s8' : Sm h1 h2 (y 8) := by
      refine A4.sm ?_ (lt1 _ (by omega))
      rintro (q | q)
      · exact n86 q
      · rcases row28 hg1 d2 _ q with q | q <;> omega
    have kd2 : rsD g h2 o2 y R2 (Ds ++ [(L, k)]) (ddF (tOw S) i n8).1 (tDs S) (tFo S) := by
      have s5' := so (y 5) (by omega) (by omega) (by omega)
      have s7' := so (y 7) (by omega) (by omega) (by omega)
      refine ⟨⟨k42, by rw [cg2.2.1 _ (lt1 _ (by omega))]; exact r41, by rw [(s4'.2.1 192).2]; exact a33⟩, ⟨by rw [(s4'.2.1 193).2]; exact b1, by rw [s5'.1]; exact b2, by rw [s5'.2.2.1]; exact b3, by rw [cg2.2.1 _ (lt1 _ (by omega))]; exact b4, b5, fun j hj => by rw [(s5'.2.2.2 j).1]; exact b6 j hj⟩, ⟨by rw [(s4'.2.1 194).2]; exact d1, by rw [List.map_append]; exact A1, ow2⟩, ⟨by rw [(s4'.2.1 195).2]; exact t1, t2.ch w1 cg2.1 (fun f => (s7'.2.1 f).2), ownV.fr w1 t2 t3 cg2.2.1, by rw [cg2.2.1 _ (lt1 _ (by omega))]; exact t4⟩, ⟨by rw [(s4'.2.1 196).2]; exact u1', ⟨ms, ?_⟩, ownL.fr w1 hg1 u2 u3 cg2 s8'⟩, by rw [(s4'.2.1 197).1]; exact x1, by rw [(s4'.2.1 198).1]; exact x2⟩
      refine u2.fr w1 A4 s8' (fun d hd kd => ?_)
      refine A4.sm ?_ (lt1 _ (by omega))
      rintro (q | q)
      · rw [q] at kd; have := d2.1.1; omega
      · have e1 := u3.2 d hd kd
        have e2 := d3.2 d q kd
        exact n86 (e1.symm.trans e2)
    have e197 : hI h2 197 (y 4) = nI (tDs S) := kd2.2.2.2.2.2.1
    have cg3 : CG (fun z => z = y 4) 0 0 h2 o2 (hpI h2 197 (y 4) (hI h2 197 (y 4) + 1)) o2 := CG.wI w2 ok2 (by omega) (by omega) (by rw [kd2.1.2.1]; exact kd2.1.2.1) (by decide)
    have kd3 := kd2.wI (f := 197) (n := tDs S + 1) (u := hI h2 197 (y 4) + 1) (by rw [e197, nI_1]) (Or.inl rfl)
    have cap3 : ∀ z, capO g (hpI h2 197 (y 4) (hI h2 197 (y 4) + 1)) z = capO g h2 z := fun _ => rfl
    generalize hpI h2 197 (y 4) (hI h2 197 (y 4) + 1) = H3 at cg3 kd3 cap3
    have cg23 := CG.tr w1 ok cg2 cg3
    obtain ⟨k0', k1', k4', kse', kde'⟩ := r1.kinds
    have ne : ∀ z, ¬ hK h1 z = 4 → ¬ z = y 4 := fun z hz => kinds_ne (h := h1) (by omega)
    obtain ⟨⟨_, _, _⟩, ⟨_, hnm1, k91, k121⟩, kA1, kB1, ⟨l1, nd1, kC1⟩, _⟩ := r1
    have cgA := CG.tr wf ok r2 (cg23.mono ok (B' := Bs y) (fun z _ q => by rw [q]; exact ⟨kinds_ne (h := h1) (by omega), kinds_ne (h := h1) (by omega)⟩) (Nat.le_refl _) (Nat.le_refl _))
    refine ⟨o2, _, _, ⟨⟨cg23.w, hg1.ch cg23.1, ok2⟩, ⟨yo, hnm1, by rw [(cg23.1.2.1 _ (lt1 _ (by omega))).1]; exact k91, by rw [(cg23.1.2.1 _ (lt1 _ (by omega))).1]; exact k121⟩, rsA.fr w1 hg1 kA1 cg23 (ne _ (by omega)), rsB.fr w1 hg1 kB1 cg23 (fun j hj => ⟨ne _ (by have := (kse' j hj).1; omega), ne _ (by have := (kse' j hj).2.2.1; omega), fun z hz => ne _ (by have := ((kse' j hj).2.2.2.2.2 z hz).1; omega)⟩) (ne _ (by omega)) (Nat.le_refl _), ⟨?_, ?_, fun j hj => ?_⟩, kd3⟩, cgA, ?_⟩
    · show (Ds ++ [(L, k)]).length = (tDe S ++ [_]).length
      rw [List.length_append, List.length_append, l1]; rfl
    · rw [List.map_append, List.nodup_append]
      refine ⟨nd1, by simp, fun a ha b hb => ?_⟩
      obtain ⟨d, hd, ed⟩ := List.mem_map.mp ha
      obtain ⟨j, hj, ej⟩ := List.getElem_of_mem hd
      have hb : b = L := by simpa using hb
      rw [hb, ← ed]
      have := nD j hj
      rw [List.getD_eq_getElem?_getD, List.getElem?_eq_getElem hj] at this
      rw [← ej]; exact this
    · show dedR g H3 o2 w (y 20) (y 22) (tNm S) ((Ds ++ [(L, k)]).getD j (0, 0)) ((tDe S ++ [(A, (ddF (tOw S) i n8).2)]).getD j (([], none, none), 0))
      have l1 : Ds.length = (tDe S).length := l1
      rw [List.length_append] at hj
      by_cases q : j < Ds.length
      · have e1 : (Ds ++ [(L, k)]).getD j (0, 0) = Ds.getD j (0, 0) := by rw [List.getD_eq_getElem?_getD, List.getElem?_append_left q, ← List.getD_eq_getElem?_getD]
        have e2 : (tDe S ++ [(A, (ddF (tOw S) i n8).2)]).getD j (([], none, none), 0) = (tDe S).getD j (([], none, none), 0) := by rw [List.getD_eq_getElem?_getD, List.getElem?_append_left (by omega), ← List.getD_eq_getElem?_getD]
        rw [e1, e2]
        obtain ⟨z1, z2⟩ := kC1 j q
        exact ⟨z1.fr w1 hg1 cg23 (ne _ (by have := z1.1.r.2; omega)) (Nat.le_refl _), z2⟩
      · have ej : j = Ds.length := by
          have : [(L, k)].length = 1 := rfl
          omega
        subst ej
        have e1 : (Ds ++ [(L, k)]).getD Ds.length (0, 0) = (L, k) := by rw [List.getD_eq_getElem?_getD, List.getElem?_append_right (Nat.le_refl _), Nat.sub_self]; rfl
        have e2 : (tDe S ++ [(A, (ddF (tOw S) i n8).2)]).getD Ds.length (([], none, none), 0) = (A, (ddF (tOw S) i n8).2) := by rw [l1, List.getD_eq_getElem?_getD, List.getElem?_append_right (Nat.le_refl _), Nat.sub_self]; rfl
        rw [e1, e2]
        exact ⟨c3.fr w1 hg1 cg23 (ne L (by omega)) (Nat.le_refl _), wL⟩
    · have f8 : capO g h2 (y 8) = capO g h1 (y 8) := capO.fr w1 u2 A4 s8'
      have f3 : capO g h2 (y 3) = capO g h1 (y 3) := by
        obtain ⟨⟨xs, st⟩, -⟩ := kA1
        have := st.2.2.2.2.1.1.1
        exact capO.fr w1 st.2.2.2.2.1 cg2.1 (cg2.sm w1 (by rw [st.2.2.2.2.2.1, st.2.1.1]; exact ne _ (by omega)) (by omega))
      have hx : fxC g H3 y = fxC g h y + (capO g h2 (y 6) - capO g h1 (y 6)) := by
        have q6 := c4 (y 6)
        have q3 := c4 (y 3)
        have q8 := c4 (y 8)
        have z3 := cap3 (y 3)
        have z6 := cap3 (y 6)
        have z8 := cap3 (y 8)
        have A3' := A3
        rw [List.length_map] at A3'
        unfold fxC
        omega
      obtain ⟨-, -, -, g1, g2⟩ := cg2.1
      obtain ⟨-, -, -, g3, g4⟩ := cg3.1
      obtain ⟨-, -, -, g5, g6⟩ := c1.1
      exact ⟨by omega, by omega, by omega⟩
end DEAD
section DEAD
variable {g : gcT} {P : pmT} {o o' w w' : Nat → Nat} {y : Nat → Nat} {R R2 : arT} {h h' : hpT} {i : Nat} {ss : List Nat} {Ls : List lsT} {Ds : List (Nat × Nat)} {S : stA}
theorem crd_app {Ls : List lsT} {Ds : List (Nat × Nat)} {d : Nat × Nat} : crd Ls (Ds ++ [d]) = crd Ls Ds + d.2 := by
  unfold crd
  rw [List.map_append, List.sum_append]
  simp only [List.map_cons, List.map_nil, List.sum_cons, List.sum_nil]
  omega
theorem m_declareDead (hP6 : P 206 = cpyO) (kS : RS g h o w y R R2 ss Ls Ds S) (hi : i < y 20) (hD : Ds.length ≤ 1000) : EvV g P 12 [va_rf (some (y 4)), va_rf (some (ss.getD i 0))] h (StpC g h o y R R2 ss Ls Ds 12 (nf 4 + nf 0 + 40) (ddA S i)) := by
  obtain ⟨k0, k1, k4, kse, kde⟩ := kS.kinds
  have kS' := kS
  obtain ⟨⟨wf, hg, ok⟩, ⟨yo, hnm, k9, k12⟩, kA, kB, kC, kD⟩ := kS'
  obtain ⟨s1, s2, s3, s4, s5, s6⟩ := kse i hi
  have lls : Ls.length = y 20 := kB.1.2.2
  have n0 : ¬ y 0 = ss.getD i 0 := kinds_ne (h := h) (by omega)
  have n4 : ¬ y 4 = ss.getD i 0 := kinds_ne (h := h) (by omega)
  have nL : ∀ z, hK h z = 5 → ¬ z = ss.getD i 0 := fun z hz => kinds_ne (h := h) (by omega)
  obtain ⟨⟨a1, a2, a3⟩, ⟨b1, b2, b3, b4, b5, b6, b7⟩, ⟨d1, d2⟩, f0, ⟨f1, f2⟩, l⟩ := kB.2.2 i hi
  have ls : ss.getD i 0 < hS h := wf.lt (by omega)
  have els : ∀ h1 o1 w1 c1 m1 p1 L k A x1, RS g h1 o1 w1 y R R2 ss (Ls.set i p1) Ds ((tSv S).set i x1, S.2) → CG (Bs y) c1 m1 h o h1 o1 → fxC g h1 y = fxC g h y → lgQ g h1 o1 (y 20) (y 22) L (tNm S) k 0 A → w1 L = 2 → (∀ j, j < Ds.length → ¬ (Ds.getD j (0, 0)).1 = L) → ddX ((tSv S).getD i sr0) = x1 → ddL ((tSv S).getD i sr0) = A → c1 ≤ 2 → m1 ≤ nf 4 + nf 0 → lsV p1 + k ≤ lsV (Ls.getD i ls0) + 10 → Ev g P 12 53 [some (va_rf (some (y 4))), some (va_rf (some (ss.getD i 0))), some (va_rf (some L)), none] [] h1 (fun h' r => r = none ∧ StpC g h o y R R2 ss Ls Ds 12 (nf 4 + nf 0 + 40) (ddA S i) h') := by
    intro h1 o1 w1 c1 m1 p1 L k A x1 rs cg fx lq wL nD ex eA hc hm hcr
    refine Ev.imp (dead_2 rfl hP6 rs hi hD lq wL nD) (fun h' r ⟨er, o', c', m', r1, r2, r3⟩ => ⟨er, o', w1, Ls.set i p1, Ds ++ [(L, k)], _, _, ?_, CG.tr wf ok cg r2, ?_⟩)
    · unfold ddA
      rw [ex, eA]
      exact r1
    · obtain ⟨-, -, -, g1, g2⟩ := cg.1
      obtain ⟨t1, t2, t3⟩ := r3
      have hcs := crd_set (p := p1) (Ds := Ds) (Ls := Ls) (i := i) (by omega)
      have e : crd (Ls.set i p1) (Ds ++ [(L, k)]) = crd (Ls.set i p1) Ds + k := crd_app
      rw [e] at t1 t2
      unfold Cst
      rw [e]
      exact ⟨by omega, by omega, by omega⟩
  -- it is not LOST, or has no LOG that it lost
  have fence : ddX ((tSv S).getD i sr0) = (sSt ((tSv S).getD i sr0), 1, sLo ((tSv S).getD i sr0), sTb ((tSv S).getD i sr0), sSf ((tSv S).getD i sr0), sCu ((tSv S).getD i sr0), sMi ((tSv S).getD i sr0), ([], none, none), sLL ((tSv S).getD i sr0)) → ddL ((tSv S).getD i sr0) = sLg ((tSv S).getD i sr0) → Ev g P 12 37 [some (va_rf (some (y 4))), some (va_rf (some (ss.getD i 0))), some (va_rf (some (Ls.getD i ls0).1)), none] [] h (fun h' r => r = none ∧ StpC g h o y R R2 ss Ls Ds 12 (nf 4 + nf 0 + 40) (ddA S i) h') := by
    intro ex eA
    refine s_12_37 (k3 := s1) (kk := ?_)
    have cA : CG (fun z => z = ss.getD i 0) 0 0 h o (hpI h 578 (ss.getD i 0) 1) o := CG.wI wf ok (by omega) (by omega) (by rw [s2]; exact s2) (by decide)
    have iA : ∀ f, ¬ f = 578 → hI (hpI h 578 (ss.getD i 0) 1) f (ss.getD i 0) = hI h f (ss.getD i 0) := fun f hf => by rw [rI_I, if_neg (fun q => hf q.1)]
    have iA1 : hI (hpI h 578 (ss.getD i 0) 1) 578 (ss.getD i 0) = 1 := by rw [rI_I, if_pos ⟨rfl, rfl⟩]
    have rA : hR (hpI h 578 (ss.getD i 0) 1) = hR h := rfl
    have kkA : hK (hpI h 578 (ss.getD i 0) 1) = hK h := rfl
    have sA : hS (hpI h 578 (ss.getD i 0) 1) = hS h := rfl
    generalize hpI h 578 (ss.getD i 0) 1 = HA at cA iA iA1 rA kkA sA ⊢
    have wA := cA.w
    have cO := Ch.mO wA 4
    have kO : hK (hpO HA 4) (hS HA) = 5 := hK_O_new HA 4
    have zO : ∀ f, hI (hpO HA 4) f (hS HA) = 0 ∧ hR (hpO HA 4) f (hS HA) = none := fun f => (wA (hS HA) (Nat.le_refl _)).2.1 f
    refine s_12_46 (hc := m_17 cO.2.2.1 kO) (kk := fun h2 ⟨n1, n2, n3, ⟨n4', n5⟩, n6, n7⟩ => ?_)
    have eS2 : hS (hpO HA 4) = hS h + 1 := by show hS HA + 1 = _; omega
    have lsO : ss.getD i 0 < hS (hpO HA 4) := by omega
    have ss2 : Sm (hpO HA 4) h2 (ss.getD i 0) := n2.sm (by omega) lsO
    have s12 : hK h2 (ss.getD i 0) = 10 := by rw [ss2.1, hK_O (by omega), kkA]; exact s1
    refine s_12_50 (k3 := s12) (kk := ?_)
    have cR := Ch.wR (f := 584) (a := ss.getD i 0) n2.2.2.1 (some (hS HA)) (by omega)
    have cc := ((cO.tr n2).tr cR).mono (B := fun z => z = ss.getD i 0) (c' := 2) (m' := nf 4 + nf 0) (fun z hz q => by
      rcases q with (q | q) | q
      · exact q.elim
      · omega
      · exact q) (by omega) (by omega)
    have R2e : ∀ f z, ¬ (f = 584 ∧ z = ss.getD i 0) → hR (hpR h2 584 (ss.getD i 0) (some (hS HA))) f z = hR h2 f z := fun f z q => by rw [rR_R, if_neg q]
    have R2s : hR (hpR h2 584 (ss.getD i 0) (some (hS HA))) 584 (ss.getD i 0) = some (hS HA) := by rw [rR_R, if_pos ⟨rfl, rfl⟩]
    have I2 : hI (hpR h2 584 (ss.getD i 0) (some (hS HA))) = hI h2 := rfl
    have nfr : ∀ N U, lgF g (hpR h2 584 (ss.getD i 0) (some (hS HA))) N U (hS HA) [] := fun N U => by
      refine lgF.nilfr n2.2.2.1 (n1 N U) cR (by omega) (fun l hl => ?_)
      rw [n4'] at hl
      cases hl
      have kl := (n1 N U)
      obtain ⟨-, l, z2, ⟨⟨z3, -⟩, -⟩, -⟩ := kl
      rw [n4'] at z2
      cases z2
      refine ⟨fun q => ?_, fun e _ he q => ?_⟩
      · rw [q] at z3; omega
      · rw [q] at he; omega
    generalize hpR h2 584 (ss.getD i 0) (some (hS HA)) = H3 at cc R2e R2s I2 nfr ⊢
    have okX : oOK (oX o h (hS h)) := fun z => by
      unfold oX
      split
      · exact ok z
      · omega
    have cgA3 : CG (fun z => z = ss.getD i 0) 2 (nf 4 + nf 0) HA o H3 (oX o h (hS h)) := CG.of cc (fun z _ hz => ⟨by rw [hz, kkA]; omega, Or.inr (by rw [hz, s2]; exact s2)⟩) (fun z hz => if_pos (by omega)) okX (nm9 wA cc (fun z hz => by rw [hz, kkA]; omega))
    have cg := CG.tr wf ok cA cgA3
    have oN : ∀ z, hS h ≤ z → oX o h (hS h) z = hS h := fun z hz => if_neg (by omega)
    have oO : ∀ z, z < hS h → oX o h (hS h) z = o z := fun z hz => if_pos hz
    generalize oX o h (hS h) = o1 at cg oN oO okX
    have hg3 := hg.ch cg.1
    rw [sA] at R2s nfr n4' n6 n7
    have zO : ∀ f, hI (hpO HA 4) f (hS h) = 0 ∧ hR (hpO HA 4) f (hS h) = none := by rw [← sA]; exact zO
    have kL3 := (nfr 0 0).1
    have e257 : hR H3 257 (hS h) = none := by rw [R2e 257 (hS h) (by omega), n6 257 (by decide)]; exact (zO 257).2
    have e258 : hR H3 258 (hS h) = none := by rw [R2e 258 (hS h) (by omega), n6 258 (by decide)]; exact (zO 258).2
    have e259 : hI H3 259 (hS h) = 0 := by rw [I2, n7]; exact (zO 259).1
    have nq := newQ (o := o1) (nx := tNm S) (N := y 20) (U := y 22) hg3 (nfr _ _) e257 e258 e259 (by rw [R2e 256 (hS h) (by omega), n4']; rw [eS2]) (by rw [← eS2, R2e 1 _ (by omega)]; exact n5) (oN _ (Nat.le_refl _)) (oN _ (Nat.le_succ _))
    have fI : ∀ f, ¬ f = 578 → hI H3 f (ss.getD i 0) = hI h f (ss.getD i 0) := fun f hf => by rw [I2, (ss2.2.1 f).1]; exact iA f hf
    have fI1 : hI H3 578 (ss.getD i 0) = 1 := by rw [I2, (ss2.2.1 578).1]; exact iA1
    have lL : (Ls.getD i ls0).1 < hS h := wf.lt (by omega)
    have wv : ∀ z, ¬ z = hS h → ¬ z = (Ls.getD i ls0).1 → u1 (u1 w (Ls.getD i ls0).1 2) (hS h) (3 * i) z = w z := fun z q1 q2 => by
      show (if z = hS h then _ else if z = (Ls.getD i ls0).1 then _ else w z) = _
      rw [if_neg q1, if_neg q2]
    have w1L : u1 (u1 w (Ls.getD i ls0).1 2) (hS h) (3 * i) (Ls.getD i ls0).1 = 2 := by
      show (if (Ls.getD i ls0).1 = hS h then _ else if (Ls.getD i ls0).1 = (Ls.getD i ls0).1 then 2 else w (Ls.getD i ls0).1) = 2
      rw [if_neg (by omega), if_pos rfl]
    have ki : srvR g H3 o1 (u1 (u1 w (Ls.getD i ls0).1 2) (hS h) (3 * i)) (y 20) (y 22) S.2.1.2.1 (ss.getD i 0) i (hS h, 10, (Ls.getD i ls0).2.2) (sSt ((tSv S).getD i sr0), 1, sLo ((tSv S).getD i sr0), sTb ((tSv S).getD i sr0), sSf ((tSv S).getD i sr0), sCu ((tSv S).getD i sr0), sMi ((tSv S).getD i sr0), ([], none, none), sLL ((tSv S).getD i sr0)) := by
      refine ⟨⟨by rw [(cg.1.2.1 _ ls).1]; exact a1, by rw [oO _ ls]; exact a2, by rw [fI 576 (by decide)]; exact a3⟩, ⟨by rw [fI 577 (by decide)]; exact b1, fI1, by rw [fI 579 (by decide)]; exact b3, by rw [fI 580 (by decide)]; exact b4, by rw [fI 581 (by decide)]; exact b5, by rw [fI 582 (by decide)]; exact b6, by rw [fI 583 (by decide)]; exact b7⟩, ⟨Or.inr rfl, d2⟩, R2s, ⟨nq, if_pos rfl⟩, ?_⟩
      show losR _ _ _ _ _ _ _ _ _ (Ls.getD i ls0).2.2 (sLL ((tSv S).getD i sr0))
      have e585 : hR H3 585 (ss.getD i 0) = hR h 585 (ss.getD i 0) := by rw [R2e 585 _ (by omega), (ss2.2.1 585).2]; show hR HA 585 _ = _; rw [rA]
      rcases l with ⟨l1, l2, l3⟩ | ⟨L', k', A', l1, l2, l3, l4, l5⟩
      · exact Or.inl ⟨l1, l2, by rw [e585]; exact l3⟩
      · have kL' := l4.1.r.2
        have lL' := wf.lt (a := L') (by omega)
        exact Or.inr ⟨L', k', A', l1, l2, by rw [e585]; exact l3, l4.fr wf hg cg (nL _ kL') (Nat.le_refl _), by rw [wv L' (by omega) (fun q => by rw [q, f2] at l5; omega)]; exact l5⟩
    have kA' := rsA.fr wf hg kA cg n0
    rw [← upN_st (tSv S) i (sSt ((tSv S).getD i sr0), 1, sLo ((tSv S).getD i sr0), sTb ((tSv S).getD i sr0), sSf ((tSv S).getD i sr0), sCu ((tSv S).getD i sr0), sMi ((tSv S).getD i sr0), ([], none, none), sLL ((tSv S).getD i sr0)) rfl] at kA'
    have cgB : CG (Bi y ss Ls i) _ _ h o H3 o1 := cg.mono ok (fun z _ q => Or.inr (Or.inl q)) (Nat.le_refl _) (Nat.le_refl _)
    obtain ⟨r1, r2, r3, r4⟩ := RS.srv kS hi cgB kA' ki (Nat.le_refl _) hnm (fun z hz => by
      by_cases q1 : z = hS h
      · exact Or.inl (by omega)
      · by_cases q2 : z = (Ls.getD i ls0).1
        · exact Or.inr (Or.inl q2)
        · exact absurd (wv z q1 q2) hz)
    refine els H3 o1 _ _ _ _ _ (Ls.getD i ls0).2.1 _ _ r1 (r2.s ok) (fx_eq kS cg n0 n4) (f1.fr wf hg cg (nL _ s3) (Nat.le_refl _)) w1L (fun j hj q => ?_) ex eA (by omega) (by omega) ?_
    · have := (kde j hj).2.2
      rw [q, f2] at this
      omega
    · unfold lsV
      dsimp only
      omega
  refine e_12 (s_12_0 (k3 := s1) (kt := fun z => ?_) (kf := fun z => ?_))
  · rw [b3] at z
    rw [f0]
    refine fence ?_ ?_
    · unfold ddX
      cases hl : sLL ((tSv S).getD i sr0) with
      | none => rfl
      | some B => dsimp only; rw [if_neg (not_not_intro z)]
    · unfold ddL
      cases hl : sLL ((tSv S).getD i sr0) with
      | none => rfl
      | some B => dsimp only; rw [if_neg (not_not_intro z)]
  · rw [b3] at z
    rw [f0]
    refine s_12_12 (k3 := s1) (kt := fun zn => ?_) (kf := fun zn => ?_)
    · rcases l with ⟨l1, l2, l3⟩ | ⟨L', k', A', l1, l2, l3, l4, l5⟩
      · refine fence ?_ ?_
        · unfold ddX
          rw [l2]
        · unfold ddL
          rw [l2]
      · rw [l3] at zn; cases zn
    · rcases l with ⟨l1, l2, l3⟩ | ⟨L', k', A', l1, l2, l3, l4, l5⟩
      · exact absurd l3 zn
      · refine s_12_19 (k3 := s1) (kk := ?_)
        rw [l3]
        have kL' := l4.1.r.2
        have cA : CG (fun z => z = ss.getD i 0) 0 0 h o (hpR h 585 (ss.getD i 0) none) o := CG.wR wf ok (by omega) (by omega) (by rw [s2]; exact s2)
        have RA : ∀ f, ¬ f = 585 → hR (hpR h 585 (ss.getD i 0) none) f (ss.getD i 0) = hR h f (ss.getD i 0) := fun f hf => by rw [rR_R, if_neg (fun q => hf q.1)]
        have RA1 : hR (hpR h 585 (ss.getD i 0) none) 585 (ss.getD i 0) = none := by rw [rR_R, if_pos ⟨rfl, rfl⟩]
        have IA : hI (hpR h 585 (ss.getD i 0) none) = hI h := rfl
        have KA : hK (hpR h 585 (ss.getD i 0) none) = hK h := rfl
        generalize hpR h 585 (ss.getD i 0) none = HA at cA RA RA1 IA KA ⊢
        have cB : CG (fun z => z = ss.getD i 0) 0 0 HA o (hpI HA 579 (ss.getD i 0) 0) o := CG.wI cA.w ok (by rw [KA]; omega) (by rw [KA]; omega) (by rw [s2]; exact s2) (by decide)
        have iB : ∀ f, ¬ f = 579 → hI (hpI HA 579 (ss.getD i 0) 0) f (ss.getD i 0) = hI h f (ss.getD i 0) := fun f hf => by rw [rI_I, if_neg (fun q => hf q.1), IA]
        have iB1 : hI (hpI HA 579 (ss.getD i 0) 0) 579 (ss.getD i 0) = 0 := by rw [rI_I, if_pos ⟨rfl, rfl⟩]
        have RB : hR (hpI HA 579 (ss.getD i 0) 0) = hR HA := rfl
        have KB : hK (hpI HA 579 (ss.getD i 0) 0) = hK h := KA
        generalize hpI HA 579 (ss.getD i 0) 0 = HB at cB iB iB1 RB KB ⊢
        have cg := CG.tr wf ok cA cB
        have wv : ∀ z, ¬ z = L' → u1 w L' 2 z = w z := fun z q => if_neg q
        have nLL : ¬ (Ls.getD i ls0).1 = L' := fun q => by rw [← q, f2] at l5; omega
        have ki : srvR g HB o (u1 w L' 2) (y 20) (y 22) S.2.1.2.1 (ss.getD i 0) i ((Ls.getD i ls0).1, (Ls.getD i ls0).2.1, none) (sSt ((tSv S).getD i sr0), sFe ((tSv S).getD i sr0), 0, sTb ((tSv S).getD i sr0), sSf ((tSv S).getD i sr0), sCu ((tSv S).getD i sr0), sMi ((tSv S).getD i sr0), sLg ((tSv S).getD i sr0), none) := by
          refine ⟨⟨by rw [KB]; exact a1, a2, by rw [iB 576 (by decide)]; exact a3⟩, ⟨by rw [iB 577 (by decide)]; exact b1, by rw [iB 578 (by decide)]; exact b2, iB1, by rw [iB 580 (by decide)]; exact b4, by rw [iB 581 (by decide)]; exact b5, by rw [iB 582 (by decide)]; exact b6, by rw [iB 583 (by decide)]; exact b7⟩, ⟨d1, Or.inl rfl⟩, by rw [RB, RA 584 (by decide)]; exact f0, ⟨f1.fr wf hg cg (nL _ s3) (Nat.le_refl _), by rw [wv _ nLL]; exact f2⟩, Or.inl ⟨rfl, rfl, by rw [RB]; exact RA1⟩⟩
        have kA' := rsA.fr wf hg kA cg n0
        rw [← upN_st (tSv S) i (sSt ((tSv S).getD i sr0), sFe ((tSv S).getD i sr0), 0, sTb ((tSv S).getD i sr0), sSf ((tSv S).getD i sr0), sCu ((tSv S).getD i sr0), sMi ((tSv S).getD i sr0), sLg ((tSv S).getD i sr0), none) rfl] at kA'
        have cgB : CG (Bi y ss Ls i) _ _ h o HB o := cg.mono ok (fun z _ q => Or.inr (Or.inl q)) (Nat.le_refl _) (Nat.le_refl _)
        obtain ⟨r1, r2, r3, r4⟩ := RS.srv kS hi cgB kA' ki (Nat.le_refl _) hnm (fun z hz => Or.inr (Or.inr ⟨_, l1, Decidable.byContradiction (fun q => hz (wv z q))⟩))
        refine els HB o _ _ _ _ L' k' A' _ r1 (r2.s ok) (fx_eq kS cg n0 n4) (l4.fr wf hg cg (nL _ kL') (Nat.le_refl _)) (if_pos rfl) (fun j hj q => ?_) ?_ ?_ (by omega) (by omega) ?_
        · have := (kde j hj).2.2
          rw [q, l5] at this
          omega
        · unfold ddX
          rw [l2]
          dsimp only
          rw [if_pos z]
        · unfold ddL
          rw [l2]
          dsimp only
          rw [if_pos z]
        · unfold lsV
          rw [l1]
          show (Ls.getD i ls0).2.1 + 0 + k' ≤ (Ls.getD i ls0).2.1 + k' + 10
          omega
end DEAD
