section DOWN
variable {g : gcT} {P : pmT} {o o' w w' : Nat → Nat} {y : Nat → Nat} {R R2 : arT} {h h' : hpT} {B : Nat → Prop} {c m N U L nx nx' k s i f : Nat} {tb v : Int32} {A : alT} {p p' : lsT} {x x' : srA} {ss : List Nat} {Ls : List lsT} {Ds : List (Nat × Nat)} {S : stA} {q' : Int32 × Nat × Int32 × Int32 × Int32} {ow' : List Int32} {dd' ff' : Nat}
/-- UP, ASLEEP or DOWN: the Storage's bits follow -/
theorem rsA.up {a' : Nat} {st : Int32} (wf : hWF h) (hg : gOK g h) (ok : oOK o) (kA : rsA g h o y R (upN (tSv S)) q') (ks : hK h (ss.getD i 0) = 10) (os : o (ss.getD i 0) = ss.getD i 0) (e576 : hI h 576 (ss.getD i 0) = nI i) (hi : i < (tSv S).length) (hl : (tSv S).length ≤ 8) (ex : sSt x' = st) : EvV g P 41 [va_rf (some (y 0)), va_rf (some (ss.getD i 0)), .int st] h (fun h' => rsA g h' o y R (upN ((tSv S).set i x')) q' ∧ CG (fun z => z = y 0 ∨ z = ss.getD i 0) 0 0 h o h' o ∧ hR h' = hR h ∧ hS h' = hS h ∧ (∀ z, capO g h' z = capO g h z) ∧ (∀ f, ¬ f = 577 → hI h' f (ss.getD i 0) = hI h f (ss.getD i 0)) ∧ hI h' 577 (ss.getD i 0) = st) := by
  have kA' := kA
  obtain ⟨⟨xs, stt⟩, ⟨i1, i2, i3, i4, i5⟩, z⟩ := kA'
  have k0 := stt.1.1
  have r0 := stt.2.1.1
  have ne : ¬ y 0 = ss.getD i 0 := kinds_ne (h := h) (by omega)
  have e646 : hI h 646 (y 0) = nI (upN (tSv S)) := stt.1.2.2.2.2.2.2.1
  refine Ev.imp (m_setState wf k0 ks) (fun h' r ⟨er, d1, d2, d3, d4, d5, d6, d7⟩ => ⟨er, ?_⟩)
  rw [e646, e576, ← ex, upS_N hi hl] at d2
  have cg : CG (fun z => z = y 0 ∨ z = ss.getD i 0) 0 0 h o h' o := CG.of0 d3 ok (fun z _ hz => by
    rcases hz with q | q
    · rw [q]; exact ⟨by omega, Or.inr (Or.inl (by rw [r0]; exact r0))⟩
    · rw [q]; exact ⟨by omega, Or.inr (Or.inr (by rw [os]; exact os))⟩) (nm9 wf d3 (fun z hz => by rcases hz with q | q <;> (rw [q]; omega)))
  have hN' : hN h' = hN h := by rw [d1]; rfl
  have hK' : hK h' = hK h := by rw [d1]; rfl
  have hB' : hB h' = hB h := by rw [d1]; rfl
  have hS' : hS h' = hS h := by rw [d1]; rfl
  have i2' : ∀ l, ¬ l = y 0 → ¬ l = ss.getD i 0 → ∀ f, hI h' f l = hI h f l := fun l n1 n2 f => by
    rw [d1, rI_I, if_neg (fun q => n1 q.2), rI_I, if_neg (fun q => n2 q.2)]
  refine ⟨⟨⟨xs, ?_⟩, ⟨by rw [d7 642 (by decide)]; exact i1, by rw [d7 647 (by decide)]; exact i2, by rw [d7 649 (by decide)]; exact i3, by rw [d7 650 (by decide)]; exact i4, by rw [d7 651 (by decide)]; exact i5⟩, z⟩, cg, d4, hS', fun z => by unfold capO; rw [d4, hN'], d5, d6⟩
  obtain ⟨⟨s1, s2, s3, s4, s5, s6, s7, s8⟩, r, ⟨v1, v2, v3, v4⟩, l1, l2, l3⟩ := stt
  have kl := l2.1.1
  have kv := v2.1
  refine ⟨⟨by rw [hK']; exact s1, by rw [d4]; exact s2, by rw [hK']; exact s3, by rw [hN']; exact s4, by rw [d7 640 (by decide)]; exact s5, by rw [d7 641 (by decide)]; exact s6, d2, by rw [d7 648 (by decide)]; exact s8⟩, r, ⟨by rw [d4]; exact v1, ?_, v3, v4⟩, by rw [d4]; exact l1, ?_, ?_⟩
  · unfold svA
    rw [hK', hN', d4]
    exact v2
  · obtain ⟨⟨b1, b2, d, b3, b4⟩, b5, b6⟩ := l2
    refine ⟨⟨by rw [hK']; exact b1, by rw [i2' _ (kinds_ne (h := h) (by omega)) (kinds_ne (h := h) (by omega))]; exact b2, d, by rw [d4]; exact b3, ?_⟩, b5, fun z hz => by rw [hK']; exact b6 z hz⟩
    rw [hK', hN', hB']
    exact b4
  · unfold ownL
    rw [hK', d4]
    exact l3
theorem m_bringDown (kS : RS g h o w y R R2 ss Ls Ds S) (hi : i < y 20) : EvV g P 7 [va_rf (some (y 4)), va_rf (some (ss.getD i 0))] h (StpC g h o y R R2 ss Ls Ds 12 (nf 4 + nf 0 + 40) (bdA S i)) := by
  obtain ⟨k0, k1, k4, kse, kde⟩ := kS.kinds
  have kS' := kS
  obtain ⟨⟨wf, hg, ok⟩, ⟨yo, hnm, k9, k12⟩, kA, kB, kC, kD⟩ := kS'
  obtain ⟨s1, s2, s3, s4, s5, s6⟩ := kse i hi
  have lsv : (tSv S).length = y 20 := kB.1.2.1
  have lls : Ls.length = y 20 := kB.1.2.2
  have n0 : ¬ y 0 = ss.getD i 0 := kinds_ne (h := h) (by omega)
  have n4 : ¬ y 4 = ss.getD i 0 := kinds_ne (h := h) (by omega)
  have nL : ∀ z, hK h z = 5 → ¬ z = ss.getD i 0 := fun z hz => kinds_ne (h := h) (by omega)
  have kBi := kB.2.2 i hi
  obtain ⟨⟨a1, a2, a3⟩, ⟨b1, b2, b3, b4, b5, b6, b7⟩, ⟨d1, d2⟩, f0, ⟨f1, f2⟩, l⟩ := kBi
  have main : ∀ (h0 : hpT) (w0 : Nat → Nat) (lo : Int32) (q : Option (Nat × Nat)) (AL : Option alT), CG (fun z => z = ss.getD i 0) 0 0 h o h0 o → hS h0 = hS h → (∀ f, ¬ f = 579 → hI h0 f (ss.getD i 0) = hI h f (ss.getD i 0)) → hI h0 579 (ss.getD i 0) = lo → (lo = 0 ∨ lo = 1) → losR g h0 o w0 (y 20) (y 22) (tNm S) (ss.getD i 0) i q AL → (∀ z, ¬ w0 z = w z → z = (Ls.getD i ls0).1) → bdS (tOw S) i ((tSv S).getD i sr0) = (2, 0, lo, 0, 0, -1, sMi ((tSv S).getD i sr0), ([], none, none), AL) → opV q ≤ lsV (Ls.getD i ls0) → Ev g P 7 31 [some (va_rf (some (y 4))), some (va_rf (some (ss.getD i 0)))] [] h0 (fun h' r => r = none ∧ StpC g h o y R R2 ss Ls Ds 12 (nf 4 + nf 0 + 40) (bdA S i) h') := by
    intro h0 w0 lo q AL cg0 hS0 fI0 f579 hlo los ew0 ebd hcr
    have w00 := cg0.w
    have hg0 := hg.ch cg0.1
    have s10 : hK h0 (ss.getD i 0) = 10 := by rw [(cg0.1.2.1 _ (wf.lt (by omega))).1]; exact s1
    have k40 : hK h0 (y 4) = 4 := by rw [(cg0.1.2.1 _ (wf.lt (by omega))).1]; exact k4
    refine s_7_31 (k3 := s10) (hc := m_empty w00 hg0 s10) (kk := fun h1 ⟨e1, e2, e3, e4, ⟨e5, e5'⟩, e6, e7, e8, e9, e10⟩ => ?_)
    have okX : oOK (oX o h0 (hS h0)) := fun z => by
      unfold oX
      split
      · exact ok z
      · omega
    have cg1 : CG (fun z => z = ss.getD i 0) 2 (nf 4 + nf 0) h0 o h1 (oX o h0 (hS h0)) := CG.of e6 (fun z _ hz => ⟨by rw [hz]; omega, Or.inr (by rw [hz, s2]; exact s2)⟩) (fun z hz => if_pos hz) okX (nm9 w00 e6 (fun z hz => by rw [hz]; omega))
    have oN : ∀ z, hS h0 ≤ z → oX o h0 (hS h0) z = hS h0 := fun z hz => if_neg (by omega)
    have oO : ∀ z, z < hS h0 → oX o h0 (hS h0) z = o z := fun z hz => if_pos hz
    generalize oX o h0 (hS h0) = o1 at cg1 oN oO okX
    have w1 := cg1.w
    have hg1 := hg0.ch cg1.1
    have k41 : hK h1 (y 4) = 4 := by rw [(cg1.1.2.1 _ (w00.lt (by omega))).1]; exact k40
    have s11 : hK h1 (ss.getD i 0) = 10 := by rw [(cg1.1.2.1 _ (w00.lt (by omega))).1]; exact s10
    have nq := newQ (nx := tNm S) (N := y 20) (U := y 22) hg1 (e1 _ _) e2 e3 e4 e5 e5' (oN _ (Nat.le_refl _)) (oN _ (Nat.le_succ _))
    have sk0 : Sm h h0 (y 4) := cg0.sm wf (by rw [kD.1.2.1, kD.1.2.1]; exact n4) (by omega)
    have sk1 : Sm h0 h1 (y 4) := cg1.sm w00 (by rw [kD.1.2.1, kD.1.2.1]; exact n4) (by omega)
    have r192 : hR h1 192 (y 4) = some (y 0) := by rw [(sk1.2.1 192).2, (sk0.2.1 192).2]; exact kD.1.2.2
    have k01 : hK h1 (y 0) = 11 := by rw [(cg1.1.2.1 _ (w00.lt (by rw [(cg0.1.2.1 _ (wf.lt (by omega))).1]; omega))).1, (cg0.1.2.1 _ (wf.lt (by omega))).1]; exact k0
    have lk1 : ∀ f, ¬ f = 578 → ¬ f = 580 → ¬ f = 581 → ¬ f = 582 → hI h1 f (ss.getD i 0) = hI h0 f (ss.getD i 0) := fun f f1 f2 f3 f4 => by
      rw [e10 f]
      show (if 582 = f then _ else if 581 = f then _ else if 580 = f then _ else if 578 = f then _ else hI h0 f (ss.getD i 0)) = _
      rw [if_neg (fun q => f4 q.symm), if_neg (fun q => f3 q.symm), if_neg (fun q => f2 q.symm), if_neg (fun q => f1 q.symm)]
    have kA1 := rsA.fr w00 hg0 (rsA.fr wf hg kA cg0 n0) cg1 n0
    have lt0 : ss.getD i 0 < hS h0 := w00.lt (by omega)
    have hset := rsA.up (g := g) (P := P) (S := S) (ss := ss) (i := i) (st := 2) (a' := 0) (x' := bdS (tOw S) i ((tSv S).getD i sr0)) w1 hg1 okX kA1 s11 (by rw [oO _ lt0]; exact s2) (by rw [lk1 576 (by decide) (by decide) (by decide) (by decide), fI0 576 (by decide)]; exact a3) (by omega) (by have := yo.1.2; omega) rfl
    rw [← r192] at hset
    refine s_7_35 (k3 := k41) (e5 := r192) (k6 := k01) (hc := hset) (kk := fun h2 ⟨t1, t2, t3, t3', t4, t5, t6⟩ => s_7_44 ⟨rfl, ?_⟩)
    have cg01 := CG.tr wf ok (cg0.mono ok (B' := fun z => z = y 0 ∨ z = ss.getD i 0) (fun z _ q => Or.inr q) (Nat.le_refl _) (Nat.le_refl _)) (cg1.mono ok (fun z _ q => Or.inr q) (Nat.le_refl _) (Nat.le_refl _))
    have cg2 := CG.tr wf ok cg01 t2
    have wq : ∀ z, ¬ z = hS h → u1 w0 (hS h) (3 * i) z = w0 z := fun z hz => if_neg hz
    have ki : srvR g h2 o1 (u1 w0 (hS h) (3 * i)) (y 20) (y 22) S.2.1.2.1 (ss.getD i 0) i (hS h, 10, q) (bdS (tOw S) i ((tSv S).getD i sr0)) := by
      rw [ebd]
      rw [hS0] at nq e8 oN
      have kLn := nq.1.r.2
      have nLs : ¬ (hS h = y 0 ∨ hS h = ss.getD i 0) := by
        rintro (q | q)
        · have := wf.lt (a := y 0) (by omega); omega
        · have := wf.lt (a := ss.getD i 0) (by omega); omega
      refine ⟨⟨by rw [(t2.1.2.1 _ (w1.lt (by omega))).1]; exact s11, by rw [oO _ lt0]; exact a2, by rw [t5 576 (by decide), lk1 576 (by decide) (by decide) (by decide) (by decide), fI0 576 (by decide)]; exact a3⟩, ⟨t6, by rw [t5 578 (by decide), e10]; rfl, by rw [t5 579 (by decide), lk1 579 (by decide) (by decide) (by decide) (by decide)]; exact f579, by rw [t5 580 (by decide), e10]; rfl, by rw [t5 581 (by decide), e10]; rfl, by rw [t5 582 (by decide), e10]; rfl, by rw [t5 583 (by decide), lk1 583 (by decide) (by decide) (by decide) (by decide), fI0 583 (by decide)]; exact b7⟩, ⟨Or.inl rfl, hlo⟩, by rw [t3]; exact e8, ⟨nq.fr w1 hg1 t2 nLs (Nat.le_refl _), if_pos rfl⟩, ?_⟩
      show losR _ _ _ _ _ _ _ _ _ q AL
      rcases los with ⟨l1, l2, l3⟩ | ⟨L', k', A', l1, l2, l3, l4, l5⟩
      · exact Or.inl ⟨l1, l2, by rw [t3, e9 585 (by decide)]; exact l3⟩
      · have kL' := l4.1.r.2
        have nLs' : ¬ L' = ss.getD i 0 := kinds_ne (h := h0) (by omega)
        have lL' := w00.lt (a := L') (by omega)
        have k00 : hK h0 (y 0) = 11 := by rw [(cg0.1.2.1 _ (wf.lt (by omega))).1]; exact k0
        have l4' := l4.fr w00 hg0 cg1 nLs' (Nat.le_refl _)
        refine Or.inr ⟨L', k', A', l1, l2, by rw [t3, e9 585 (by decide)]; exact l3, l4'.fr w1 hg1 t2 ?_ (Nat.le_refl _), by rw [wq L' (by omega)]; exact l5⟩
        rintro (q | q)
        · exact kinds_ne (h := h0) (by omega) q
        · exact nLs' q
    have cgB : CG (Bi y ss Ls i) _ _ h o h2 o1 := cg2.mono ok (fun z _ q => q.elim Or.inl (fun q => Or.inr (Or.inl q))) (Nat.le_refl _) (Nat.le_refl _)
    obtain ⟨r1, r2, r3, r4⟩ := RS.srv kS hi cgB t1 ki (Nat.le_refl _) hnm (fun z hz => by
      by_cases q : z = hS h
      · exact Or.inl (by omega)
      · rw [wq z q] at hz
        exact Or.inr (Or.inl (ew0 z hz)))
    have fx : fxC g h2 y = fxC g h y := by
      have c3 : capO g h1 (y 3) = capO g h (y 3) := by
        have kAx := kA
        obtain ⟨⟨xs, st⟩, -⟩ := kAx
        have k3 := st.2.2.2.2.1.1.1
        have t0 := st.2.2.2.2.1
        obtain ⟨⟨xs1, st1⟩, -⟩ := rsA.fr wf hg kA cg0 n0
        have k31 := st1.2.2.2.2.1.1.1
        rw [capO.fr w00 st1.2.2.2.2.1 cg1.1 (cg1.sm w00 (by rw [st1.2.2.2.2.2.1, st1.2.1.1]; exact n0) (by omega)), capO.fr wf t0 cg0.1 (cg0.sm wf (by rw [st.2.2.2.2.2.1, st.2.1.1]; exact n0) (by omega))]
      unfold fxC
      rw [r3, r4, t4, c3]
    refine ⟨_, _, _, Ds, _, _, r1, r2.s ok, Cst.of r2 fx ?_ ?_⟩
    · have := crd_set (p := (hS h, 10, q)) (Ds := Ds) (Ls := Ls) (i := i) (by omega)
      have e : lsV (hS h, 10, q) = 10 + opV q := rfl
      omega
    · have := crd_set (p := (hS h, 10, q)) (Ds := Ds) (Ls := Ls) (i := i) (by omega)
      have e : lsV (hS h, 10, q) = 10 + opV q := rfl
      omega
  have stay : ¬ (sLo ((tSv S).getD i sr0) = 0 ∧ ¬ tabA (tOw S) (nI i) ≤ 0) → Ev g P 7 31 [some (va_rf (some (y 4))), some (va_rf (some (ss.getD i 0)))] [] h (fun h' r => r = none ∧ StpC g h o y R R2 ss Ls Ds 12 (nf 4 + nf 0 + 40) (bdA S i) h') := by
    intro hq
    refine main h w _ (Ls.getD i ls0).2.2 _ (CG.rf wf ok _) rfl (fun _ _ => rfl) rfl (by rw [b3]; exact d2) l (fun z hz => absurd rfl hz) ?_ (Nat.le_add_left _ _)
    unfold bdS
    rw [if_neg hq, if_neg hq, b3]
  refine e_7 (s_7_0 (k3 := s1) (kt := fun z => stay (fun q => z (by rw [b3]; exact q.1))) (kf := fun z => ?_))
  rw [b3] at z
  have htab := tab_A (g := g) (P := P) (a := 0) kD (v := nI i)
  rw [← a3] at htab
  refine s_7_7 (k3 := s1) (k6 := k4) (hc := htab) (kk := fun h1 v ⟨e1, e2⟩ => ?_)
  subst e1; subst e2
  rw [a3]
  refine s_7_15 (kt := fun q => stay (fun z => z.2 q)) (kf := fun q => s_7_18 (k3 := s1) (kk := ?_))
  have hq : sLo ((tSv S).getD i sr0) = 0 ∧ ¬ tabA (tOw S) (nI i) ≤ 0 := ⟨z, q⟩
  have cA : CG (fun z => z = ss.getD i 0) 0 0 h1 o (hpI h1 579 (ss.getD i 0) 1) o := CG.wI wf ok (by omega) (by omega) (by rw [s2]; exact s2) (by decide)
  have iA : ∀ f, ¬ f = 579 → hI (hpI h1 579 (ss.getD i 0) 1) f (ss.getD i 0) = hI h1 f (ss.getD i 0) := fun f hf => by rw [rI_I, if_neg (fun q => hf q.1)]
  have iA1 : hI (hpI h1 579 (ss.getD i 0) 1) 579 (ss.getD i 0) = 1 := by rw [rI_I, if_pos ⟨rfl, rfl⟩]
  have kkA : hK (hpI h1 579 (ss.getD i 0) 1) = hK h1 := rfl
  have sA : hS (hpI h1 579 (ss.getD i 0) 1) = hS h1 := rfl
  generalize hpI h1 579 (ss.getD i 0) 1 = HA at cA iA iA1 kkA sA ⊢
  have cB : CG (fun z => z = ss.getD i 0) 0 0 HA o (hpR HA 585 (ss.getD i 0) (hR h1 584 (ss.getD i 0))) o := CG.wR cA.w ok (by rw [kkA]; omega) (by rw [kkA]; omega) (by rw [s2]; exact s2)
  have rB : hR (hpR HA 585 (ss.getD i 0) (hR h1 584 (ss.getD i 0))) 585 (ss.getD i 0) = hR h1 584 (ss.getD i 0) := by rw [rR_R, if_pos ⟨rfl, rfl⟩]
  have iB : hI (hpR HA 585 (ss.getD i 0) (hR h1 584 (ss.getD i 0))) = hI HA := rfl
  have sB : hS (hpR HA 585 (ss.getD i 0) (hR h1 584 (ss.getD i 0))) = hS HA := rfl
  generalize hpR HA 585 (ss.getD i 0) (hR h1 584 (ss.getD i 0)) = HB at cB rB iB sB ⊢
  have cAB := CG.tr wf ok cA cB
  have lL : (Ls.getD i ls0).1 < hS h1 := wf.lt (by omega)
  refine main HB (u1 w (Ls.getD i ls0).1 (3 * i + 1)) 1 (some ((Ls.getD i ls0).1, (Ls.getD i ls0).2.1)) (some (sLg ((tSv S).getD i sr0))) cAB (by omega) (fun f hf => by rw [iB]; exact iA f hf) (by rw [iB]; exact iA1) (Or.inr rfl) (Or.inr ⟨_, _, _, rfl, rfl, by rw [rB]; exact f0, f1.fr wf hg cAB (nL _ s3) (Nat.le_refl _), if_pos rfl⟩) (fun z hz => Decidable.byContradiction (fun q => hz (if_neg q))) ?_ (Nat.le_add_right _ _)
  unfold bdS
  rw [if_pos hq, if_pos hq]
end DOWN
