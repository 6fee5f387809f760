section DOWN
variable {g : gcT} {P : pmT} {o o' w w' : Nat → Nat} {y : Nat → Nat} {R R2 : arT} {h h' : hpT} {B : Nat → Prop} {c m N U L nx nx' k s i f : Nat} {tb v : Int32} {A : alT} {p p' : lsT} {x x' : srA} {ss : List Nat} {Ls : List lsT} {Ds : List (Nat × Nat)} {S : stA} {q' : Int32 × Nat × Int32 × Int32 × Int32} {ow' : List Int32} {dd' ff' : Nat}
/-- only what the Coordinator holds changes -/
theorem RS.kp (kS : RS g h o w y R R2 ss Ls Ds S) (cg : CG (fun z => z = y 4) c m h o h' o') (kd : rsD g h' o' y R2 Ds ow' dd' ff') : RS g h' o' w y R R2 ss Ls Ds (S.1, S.2.1, ow', S.2.2.2.1, dd', ff') ∧ CG (Bs y) c m h o h' o' ∧ capO g h' (y 3) = capO g h (y 3) := by
  obtain ⟨k0, k1, k4, kse, kde⟩ := kS.kinds
  obtain ⟨⟨wf, hg, ok⟩, ⟨yo, hnm, k9, k12⟩, kA, kB, kC, kD⟩ := kS
  have ne : ∀ z, ¬ hK h z = 4 → ¬ z = y 4 := fun z hz => kinds_ne (h := h) (by omega)
  refine ⟨⟨⟨cg.w, hg.ch cg.1, cg.2.2.1⟩, ⟨yo, hnm, by rw [(cg.1.2.1 _ (wf.lt (by omega))).1]; exact k9, by rw [(cg.1.2.1 _ (wf.lt (by omega))).1]; exact k12⟩, rsA.fr wf hg kA cg (ne _ (by omega)), rsB.fr wf hg kB cg (fun j hj => ⟨ne _ (by have := (kse j hj).1; omega), ne _ (by have := (kse j hj).2.2.1; omega), fun z hz => ne _ (by have := ((kse j hj).2.2.2.2.2 z hz).1; omega)⟩) (ne _ (by omega)) (Nat.le_refl _), rsC.fr wf hg kC cg (fun j hj => ne _ (by have := (kde j hj).1; omega)) (Nat.le_refl _) (fun _ _ => rfl), kd⟩, cg.mono ok (fun z _ q => ?_) (Nat.le_refl _) (Nat.le_refl _), ?_⟩
  · rw [q]; exact ⟨kinds_ne (h := h) (by omega), kinds_ne (h := h) (by omega)⟩
  · obtain ⟨⟨xs, st⟩, -⟩ := kA
    have := st.2.2.2.2.1.1.1
    exact capO.fr wf st.2.2.2.2.1 cg.1 (cg.sm wf (by rw [st.2.2.2.2.2.1, st.2.1.1]; exact ne _ (by omega)) (by omega))
theorem set_self {α : Type} {l : List α} {i : Nat} {d : α} : l.set i (l.getD i d) = l := by
  by_cases hi : i < l.length
  · rw [List.getD_eq_getElem?_getD, List.getElem?_eq_getElem hi]
    exact List.set_getElem_self hi
  · exact List.set_eq_of_length_le (by omega)
/-- a number of a SERVER -/
theorem RS.sI (kS : RS g h o w y R R2 ss Ls Ds S) (hi : i < y 20) (hf : 578 ≤ f ∧ f ≤ 583) (e1 : sSt x' = sSt ((tSv S).getD i sr0)) (e2 : sFe x' = if f = 578 then v else sFe ((tSv S).getD i sr0)) (e3 : sLo x' = if f = 579 then v else sLo ((tSv S).getD i sr0)) (e4 : sTb x' = if f = 580 then v else sTb ((tSv S).getD i sr0)) (e5 : sSf x' = if f = 581 then v else sSf ((tSv S).getD i sr0)) (e6 : sCu x' = if f = 582 then v else sCu ((tSv S).getD i sr0)) (e7 : sMi x' = if f = 583 then v else sMi ((tSv S).getD i sr0)) (e8 : sLg x' = sLg ((tSv S).getD i sr0)) (e9 : sLL x' = sLL ((tSv S).getD i sr0)) (eb : (sFe x' = 0 ∨ sFe x' = 1) ∧ (sLo x' = 0 ∨ sLo x' = 1)) : RS g (hpI h f (ss.getD i 0) v) o w y R R2 ss Ls Ds ((tSv S).set i x', S.2) ∧ CG (fun z => z = ss.getD i 0) 0 0 h o (hpI h f (ss.getD i 0) v) o ∧ fxC g (hpI h f (ss.getD i 0) v) y = fxC g h y := by
  obtain ⟨k0, k1, k4, kse, kde⟩ := kS.kinds
  have kS' := kS
  obtain ⟨⟨wf, hg, ok⟩, ⟨yo, hnm, k9, k12⟩, kA, kB, kC, kD⟩ := kS'
  obtain ⟨s1, s2, s3, s4, s5, s6⟩ := kse i hi
  have cg : CG (fun z => z = ss.getD i 0) 0 0 h o (hpI h f (ss.getD i 0) v) o := CG.wI wf ok (by omega) (by omega) (by rw [s2]; exact s2) (by omega)
  have n0 : ¬ y 0 = ss.getD i 0 := kinds_ne (h := h) (by omega)
  have n4 : ¬ y 4 = ss.getD i 0 := kinds_ne (h := h) (by omega)
  have hup : upN ((tSv S).set i x') = upN (tSv S) := by
    have : ∀ (sv : List srA) (i : Nat) (x : srA), sSt x = sSt (sv.getD i sr0) → upN (sv.set i x) = upN sv := by
      intro sv
      induction sv with
      | nil => intro i x _; rfl
      | cons a sv ih =>
        intro i x hx
        cases i with
        | zero =>
          have hx : sSt x = sSt a := hx
          show (if sSt x = 0 then 1 else 0) + 2 * upN sv = (if sSt a = 0 then 1 else 0) + 2 * upN sv
          rw [hx]
        | succ i =>
          show (if sSt a = 0 then 1 else 0) + 2 * upN (sv.set i x) = (if sSt a = 0 then 1 else 0) + 2 * upN sv
          rw [ih i x hx]
    exact this _ _ _ e1
  have fI : ∀ f', hI (hpI h f (ss.getD i 0) v) f' (ss.getD i 0) = if f = f' then v else hI h f' (ss.getD i 0) := fun f' => by
    rw [rI_I]
    by_cases q : f' = f
    · rw [if_pos ⟨q, rfl⟩, if_pos q.symm]
    · rw [if_neg (fun z => q z.1), if_neg (fun z => q z.symm)]
  have fx := fx_eq kS cg n0 n4
  have kBi := kB.2.2 i hi
  obtain ⟨⟨a1, a2, a3⟩, ⟨b1, b2, b3, b4, b5, b6, b7⟩, -, f0, ⟨f1, f2⟩, l⟩ := kBi
  have r0 : hR (hpI h f (ss.getD i 0) v) = hR h := rfl
  have kk0 : hK (hpI h f (ss.getD i 0) v) = hK h := rfl
  have kA' := rsA.fr wf hg kA cg n0
  rw [← hup] at kA'
  generalize hpI h f (ss.getD i 0) v = H at cg fI fx r0 kk0 kA' ⊢
  have ki : srvR g H o w (y 20) (y 22) S.2.1.2.1 (ss.getD i 0) i (Ls.getD i ls0) x' := by
    refine ⟨⟨by rw [kk0]; exact a1, a2, by rw [fI, if_neg (by omega)]; exact a3⟩, ⟨by rw [fI, if_neg (by omega), e1]; exact b1, by rw [fI, e2, b2], by rw [fI, e3, b3], by rw [fI, e4, b4], by rw [fI, e5, b5], by rw [fI, e6, b6], by rw [fI, e7, b7]⟩, eb, by rw [r0]; exact f0, ⟨by rw [e8]; exact f1.fr wf hg cg (kinds_ne (h := h) (by omega)) (Nat.le_refl _), f2⟩, ?_⟩
    rw [e9]
    rcases l with ⟨l1, l2, l3⟩ | ⟨L', k', A', l1, l2, l3, l4, l5⟩
    · exact Or.inl ⟨l1, l2, by rw [r0]; exact l3⟩
    · have kL' := l4.1.r.2
      exact Or.inr ⟨L', k', A', l1, l2, by rw [r0]; exact l3, l4.fr wf hg cg (kinds_ne (h := h) (by omega)) (Nat.le_refl _), l5⟩
  have cg' : CG (Bi y ss Ls i) 0 0 h o H o := cg.mono ok (fun z _ q => Or.inr (Or.inl q)) (Nat.le_refl _) (Nat.le_refl _)
  obtain ⟨r1, -⟩ := RS.srv kS hi cg' kA' ki (Nat.le_refl _) hnm (fun z hz => absurd rfl hz)
  rw [set_self] at r1
  exact ⟨r1, cg, fx⟩
theorem rsD.wI {ow : List Int32} {dd ff n : Nat} (kd : rsD g h o y R2 Ds ow dd ff) {u : Int32} (hu : u = nI n) (hf : f = 197 ∨ f = 198) : rsD g (hpI h f (y 4) u) o y R2 Ds ow (if f = 197 then n else dd) (if f = 198 then n else ff) := by
  obtain ⟨a, b, ⟨c1, c2, c3⟩, d, ⟨e1, ⟨ms, e2⟩, e3⟩, f1, f2⟩ := kd
  refine ⟨a, b, ⟨c1, c2.wI (by omega), c3⟩, d, ⟨e1, ⟨ms, e2.wI (by omega)⟩, e3⟩, ?_, ?_⟩
  · rw [rI_I]
    by_cases q : f = 197
    · rw [if_pos ⟨q.symm, rfl⟩, if_pos q]; exact hu
    · rw [if_neg (fun z => q z.1.symm), if_neg q]; exact f1
  · rw [rI_I]
    by_cases q : f = 198
    · rw [if_pos ⟨q.symm, rfl⟩, if_pos q]; exact hu
    · rw [if_neg (fun z => q z.1.symm), if_neg q]; exact f2
theorem Cst.tr {h1 h2 : hpT} {L0 L1 L2 : List lsT} {D0 D1 D2 : List (Nat × Nat)} {a b a' b' : Nat} (x : Cst g y h L0 D0 h1 L1 D1 a b) (z : Cst g y h1 L1 D1 h2 L2 D2 a' b') : Cst g y h L0 D0 h2 L2 D2 (a + a') (b + b') := by
  obtain ⟨x1, x2, x3⟩ := x
  obtain ⟨z1, z2, z3⟩ := z
  exact ⟨by omega, by omega, by omega⟩
theorem Cst.of {L0 L1 : List lsT} {D0 D1 : List (Nat × Nat)} {a b : Nat} (x : CG B c m h o h' o') (e : fxC g h' y = fxC g h y) (hc : c + crd L1 D1 ≤ a + crd L0 D0) (hm : m + 4 * crd L1 D1 ≤ b + 4 * crd L0 D0) : Cst g y h L0 D0 h' L1 D1 a b := by
  obtain ⟨-, -, -, x1, x2⟩ := x.1
  exact ⟨by omega, by omega, by omega⟩
theorem m_forget (kS : RS g h o w y R R2 ss Ls Ds S) (hi : i < y 20) : EvV g P 8 [va_rf (some (y 4)), va_rf (some (ss.getD i 0))] h (StpC g h o y R R2 ss Ls Ds 12 (nf 4 + nf 0 + 40) (fgA S i)) := by
  obtain ⟨k0, k1, k4, kse, kde⟩ := kS.kinds
  have ok := kS.1.2.2
  have wf := kS.1.1
  refine e_8 (s_8_0 (k3 := (kse i hi).1) (hc := RS.empty kS hi) (kk := fun h1 ⟨q1, q2, q3, q4⟩ => ?_))
  obtain ⟨k0', k1', k4', -⟩ := q1.kinds
  refine s_8_4 (k3 := k4') (hq := ⟨rfl, ?_⟩)
  have kd := q1.2.2.2.2.2
  have w1 := q1.1.1
  have hg1 := q1.1.2.1
  have ok1 := q1.1.2.2
  have e198 : hI h1 198 (y 4) = nI S.2.2.2.2.2 := kd.2.2.2.2.2.2
  have cg : CG (fun z => z = y 4) 0 0 h1 (oX o h (hS h)) (hpI h1 198 (y 4) (hI h1 198 (y 4) + 1)) (oX o h (hS h)) := CG.wI w1 ok1 (by omega) (by omega) (by rw [kd.1.2.1]; exact kd.1.2.1) (by decide)
  have kd' := kd.wI (f := 198) (n := S.2.2.2.2.2 + 1) (u := hI h1 198 (y 4) + 1) (by rw [e198, nI_1]) (Or.inr rfl)
  obtain ⟨r1, r2, r3⟩ := RS.kp q1 cg kd'
  have fx : fxC g (hpI h1 198 (y 4) (hI h1 198 (y 4) + 1)) y = fxC g h1 y := by
    unfold fxC capO
    rfl
  have c2 := q2.mono ok (B' := Bs y) (fun z _ q => by
    have := (kse i hi).1
    obtain ⟨-, ⟨-, -, k9, k12⟩, -⟩ := kS
    rw [q]; exact ⟨kinds_ne (h := h) (by omega), kinds_ne (h := h) (by omega)⟩) (Nat.le_refl _) (Nat.le_refl _)
  have cc := CG.tr wf ok c2 r2
  refine ⟨_, _, _, Ds, _, _, r1, cc, Cst.of cc (fx.trans q3) ?_ ?_⟩
  · have := crd_set (p := (hS h, 10, (Ls.getD i ls0).2.2)) (Ds := Ds) (Ls := Ls) (i := i) (by have := kS.2.2.2.1.1.2.2; omega)
    unfold lsV at this
    dsimp only at this
    omega
  · have := crd_set (p := (hS h, 10, (Ls.getD i ls0).2.2)) (Ds := Ds) (Ls := Ls) (i := i) (by have := kS.2.2.2.1.1.2.2; omega)
    unfold lsV at this
    dsimp only at this
    omega
end DOWN
