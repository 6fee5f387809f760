/-! Coordinator.lookForDead -/
def mssX (x : srA) : srA := (sSt x, sFe x, sLo x, sTb x, sSf x, sCu x, if sSt x = 0 then 0 else sMi x + 1, sLg x, sLL x)
def mssS (S : stA) (i : Nat) : stA := ((tSv S).set i (mssX ((tSv S).getD i sr0)), S.2)
def lkS (S : stA) (i : Nat) : stA := if ((3 : Int32) ≤ sMi (mssX ((tSv S).getD i sr0)) ∨ (sSt ((tSv S).getD i sr0) = 0 ∧ ¬ sLo ((tSv S).getD i sr0) = 0)) ∧ (tDe S).length < 16 ∧ ¬ tabA (tOw S) (nI i) ≤ 0 then ddA (mssS S i) i else mssS S i
def lkA (y : Nat → Nat) (S : stA) : stA := (List.range (y 20)).foldl lkS S
section LOOK
variable {g : gcT} {P : pmT} {o o' w w' : Nat → Nat} {y : Nat → Nat} {R R2 : arT} {h h' : hpT} {i : Nat} {ss : List Nat} {Ls : List lsT} {Ds : List (Nat × Nat)} {S : stA}
theorem lkS_1 (S : stA) (i : Nat) : tDs S ≤ tDs (lkS S i) ∧ ((tDe S).length ≤ 16 → (tDe (lkS S i)).length ≤ 16) ∧ (tSv (lkS S i)).length = (tSv S).length ∧ tFo (lkS S i) = tFo S ∧ tNm (lkS S i) = tNm S := by
  unfold lkS
  split
  · rename_i q
    refine ⟨Nat.le_succ _, fun _ => ?_, ?_, rfl, rfl⟩
    · show (tDe S ++ [_]).length ≤ 16
      rw [List.length_append]
      have := q.2.1
      show _ + 1 ≤ 16
      omega
    · show (((tSv S).set i _).set i _).length = _
      rw [List.length_set, List.length_set]
  · exact ⟨Nat.le_refl _, id, List.length_set, rfl, rfl⟩
theorem look_1 (hP6 : P 206 = cpyO) (kS : RS g h o w y R R2 ss Ls Ds S) (hD : (tDe S).length ≤ 16) (hi : i < y 20) {Q0 : hpT → Option Value → Prop} (kk : ∀ h' r2 x3, StpC g h o y R R2 ss Ls Ds (12 * (tDs (lkS S i) - tDs S)) ((nf 4 + nf 0 + 40) * (tDs (lkS S i) - tDs S)) (lkS S i) h' → Ev g P 11 102 [some (va_rf (some (y 4))), some (.int (nI i)), some (va_rf r2), some (.int x3)] [] h' Q0) (o2 o3 : Option Value) : Ev g P 11 14 [some (va_rf (some (y 4))), some (.int (nI i)), o2, o3] [] h Q0 := by
  obtain ⟨k0, k1, k4, kse, kde⟩ := kS.kinds
  obtain ⟨ll, xs, p1, p2, p3, p4, p5, p6, p7, p8⟩ := kS.prem hi
  have kS' := kS
  obtain ⟨⟨wf, hg, ok⟩, ⟨yo, hnm, k9, k12⟩, kA, kB, kC, kD⟩ := kS'
  have y2 := yo.1.2
  obtain ⟨s1, s2, s3, s4, s5, s6⟩ := kse i hi
  have lss := kB.1.1
  have lsv := kB.1.2.1
  obtain ⟨v1, v2, v3, v4⟩ := kB.2.1.1
  obtain ⟨⟨a1, a2, a3⟩, ⟨b1, b2, b3, b4, b5, b6, b7⟩, d, f0, -, -⟩ := kB.2.2 i hi
  have e643 : hR h 643 (y 0) = some (y 1) := p2.1.2.1
  have eB : hB h (y 1) (nI i).toNatClampNeg = some (ss.getD i 0) := by
    rw [nI_clamp (by omega), (v4 i (by omega)).1, List.getD_eq_getElem?_getD, List.getElem?_eq_getElem (by omega)]
    rfl
  have hv : vinD (nI i) (hN h (y 1)) := by rw [v2]; exact vin_nI (by omega) (by omega)
  -- misses are told
  have told : Ev g P 11 42 [some (va_rf (some (y 4))), some (.int (nI i)), some (va_rf (some (ss.getD i 0))), o3] [.int (sMi (mssX ((tSv S).getD i sr0))), va_rf (some (ss.getD i 0))] h Q0 := by
    refine s_11_42 (k3 := s1) (k6 := s1) (kk := ?_)
    obtain ⟨q1, q2, q3⟩ := RS.sI (x' := mssX ((tSv S).getD i sr0)) (v := sMi (mssX ((tSv S).getD i sr0))) (f := 583) kS hi (by decide) rfl rfl rfl rfl rfl rfl rfl rfl rfl d
    generalize hpI h 583 (ss.getD i 0) (sMi (mssX ((tSv S).getD i sr0))) = H1 at q1 q2 q3 ⊢
    obtain ⟨k0', k1', k4', kse', kde'⟩ := q1.kinds
    have s11 := (kse' i hi).1
    have gx : (tSv ((tSv S).set i (mssX ((tSv S).getD i sr0)), S.2)).getD i sr0 = mssX ((tSv S).getD i sr0) := gS (by omega)
    obtain ⟨⟨_, _, a3'⟩, ⟨b1', b2', b3', b4', b5', b6', b7'⟩, -⟩ := q1.2.2.2.1.2.2 i hi
    rw [gx] at b1' b3' b7'
    have b1' : hI H1 577 (ss.getD i 0) = sSt ((tSv S).getD i sr0) := b1'
    have b3' : hI H1 579 (ss.getD i 0) = sLo ((tSv S).getD i sr0) := b3'
    have kD' := q1.2.2.2.2.2
    have cgS : CG (Bs y) 0 0 h o H1 o := q2.mono ok (fun z _ q => by rw [q]; exact ⟨kinds_ne (h := h) (by omega), kinds_ne (h := h) (by omega)⟩) (Nat.le_refl _) (Nat.le_refl _)
    have cst : Cst g y h Ls Ds H1 Ls Ds 0 0 := Cst.of cgS q3 (Nat.le_refl _) (Nat.le_refl _)
    have stay : ¬ (((3 : Int32) ≤ sMi (mssX ((tSv S).getD i sr0)) ∨ (sSt ((tSv S).getD i sr0) = 0 ∧ ¬ sLo ((tSv S).getD i sr0) = 0)) ∧ (tDe S).length < 16 ∧ ¬ tabA (tOw S) (nI i) ≤ 0) → ∀ x3, Ev g P 11 102 [some (va_rf (some (y 4))), some (.int (nI i)), some (va_rf (some (ss.getD i 0))), some (.int x3)] [] H1 Q0 := by
      intro q x3
      have e : lkS S i = mssS S i := if_neg q
      refine kk H1 _ _ ?_
      rw [e, show tDs (mssS S i) - tDs S = 0 from Nat.sub_self _, Nat.mul_zero, Nat.mul_zero]
      exact ⟨o, w, Ls, Ds, _, _, q1, cgS, cst⟩
    have go : ((3 : Int32) ≤ sMi (mssX ((tSv S).getD i sr0)) ∨ (sSt ((tSv S).getD i sr0) = 0 ∧ ¬ sLo ((tSv S).getD i sr0) = 0)) → Ev g P 11 67 [some (va_rf (some (y 4))), some (.int (nI i)), some (va_rf (some (ss.getD i 0))), o3] [] H1 Q0 := by
      intro hq
      refine s_11_67 (s_11_72 (kt := fun z => absurd z (by decide)) (kf := fun _ => ?_))
      obtain ⟨c1, c2, c3⟩ := kD'.2.2.1
      have hld : Ds.length = (tDe S).length := kC.1
      have hsz : EvI g P 191 [va_rf (hR H1 194 (y 4))] H1 (fun h' r => h' = H1 ∧ r = nI Ds.length) := by
        have := m_size (P := P) c2.1
        rw [List.length_map] at this
        rw [c1]; exact this
      refine s_11_77 (k3 := k4') (e5 := c1) (k6 := c2.1.1) (hc := hsz) (kk := fun h2 x ⟨e1, e2⟩ => ?_)
      subst e1; subst e2
      refine s_11_84 (kt := fun z => stay (fun q => ?_) _) (kf := fun z => ?_)
      · have := q.2.1
        rw [show (16 : Int32) = nI 16 from rfl, nI_le_iff (by omega) (by omega)] at z
        omega
      · have hlt : (tDe S).length < 16 := by
          rw [show (16 : Int32) = nI 16 from rfl, nI_le_iff (by omega) (by omega)] at z
          omega
        have htab := tab_A (g := g) (P := P) (a := 0) (S := ((tSv S).set i (mssX ((tSv S).getD i sr0)), S.2)) kD' (v := nI i)
        refine s_11_89 (k3 := k4') (hc := htab) (kk := fun h3 x ⟨e1, e2⟩ => ?_)
        subst e1; subst e2
        refine s_11_94 (kt := fun z => stay (fun q => q.2.2 z) _) (kf := fun z => ?_)
        refine s_11_97 (k3 := k4') (hc := m_declareDead hP6 q1 hi (by omega)) (kk := fun h4 st => kk h4 _ _ ?_)
        have e : lkS S i = ddA (mssS S i) i := if_pos ⟨hq, hlt, z⟩
        have ed : tDs (lkS S i) - tDs S = 1 := by
          rw [e]
          show tDs S + 1 - tDs S = 1
          omega
        rw [ed, Nat.mul_one, Nat.mul_one, e]
        have := StpC.tr wf ok cgS cst st
        rw [Nat.zero_add, Nat.zero_add] at this
        exact this
    have no : ¬ ((3 : Int32) ≤ sMi (mssX ((tSv S).getD i sr0)) ∨ (sSt ((tSv S).getD i sr0) = 0 ∧ ¬ sLo ((tSv S).getD i sr0) = 0)) → Ev g P 11 71 [some (va_rf (some (y 4))), some (.int (nI i)), some (va_rf (some (ss.getD i 0))), o3] [] H1 Q0 := fun hq => s_11_71 (s_11_72 (kt := fun _ => stay (fun q => hq q.1) _) (kf := fun z => absurd rfl z))
    refine s_11_46 (k3 := s11) (kt := fun z => go (Or.inl (by rw [← b7']; exact z))) (kf := fun z => ?_)
    rw [b7'] at z
    refine s_11_53 (k3 := s11) (kt := fun z1 => no (fun q => q.elim z (fun q => z1 (b1'.trans q.1)))) (kf := fun z1 => ?_)
    refine s_11_60 (k3 := s11) (kt := fun z2 => no (fun q => q.elim z (fun q => q.2 (b3'.symm.trans z2)))) (kf := fun z2 => go (Or.inr ⟨b1'.symm.trans z1, fun q => z2 (b3'.trans q)⟩))
  refine s_11_14 (k3 := k4) (e5 := kD.1.2.2) (k6 := k0) (e8 := e643) (k9 := v1) (i10 := hv) (e12 := eB) (k13 := s1) (kt := fun z => ?_) (kf := fun z => ?_)
  · rw [eB]
    refine s_11_36 (k3 := s1) (kk := ?_)
    have e : sMi (mssX ((tSv S).getD i sr0)) = hI h 583 (ss.getD i 0) + 1 := by
      show (if sSt ((tSv S).getD i sr0) = 0 then 0 else sMi ((tSv S).getD i sr0) + 1) = _
      rw [if_neg (fun q => z (b1.trans q)), b7]
    rw [← e]
    exact told
  · rw [eB]
    refine s_11_32 ?_
    have e : sMi (mssX ((tSv S).getD i sr0)) = 0 := by
      show (if sSt ((tSv S).getD i sr0) = 0 then 0 else sMi ((tSv S).getD i sr0) + 1) = _
      rw [if_pos (b1.symm.trans z)]
    rw [e] at told
    exact told
theorem lkA_1 (S : stA) (n : Nat) : (List.range (n + 1)).foldl lkS S = lkS ((List.range n).foldl lkS S) n := by
  rw [List.range_succ, List.foldl_append]; rfl
theorem lkA_inv (hD : (tDe S).length ≤ 16) : ∀ n, (tDe ((List.range n).foldl lkS S)).length ≤ 16 ∧ tDs S ≤ tDs ((List.range n).foldl lkS S) ∧ tFo ((List.range n).foldl lkS S) = tFo S ∧ tNm ((List.range n).foldl lkS S) = tNm S := by
  intro n
  induction n with
  | zero => exact ⟨hD, Nat.le_refl _, rfl, rfl⟩
  | succ n ih =>
    rw [lkA_1]
    obtain ⟨i1, i2, i3, i4⟩ := ih
    obtain ⟨j1, j2, j3, j4, j5⟩ := lkS_1 ((List.range n).foldl lkS S) n
    exact ⟨j2 i1, Nat.le_trans i2 j1, j4.trans i3, j5.trans i4⟩
theorem m_look (hP6 : P 206 = cpyO) (kS : RS g h o w y R R2 ss Ls Ds S) (hD : (tDe S).length ≤ 16) : EvV g P 11 [va_rf (some (y 4))] h (StpC g h o y R R2 ss Ls Ds (12 * (tDs (lkA y S) - tDs S)) ((nf 4 + nf 0 + 40) * (tDs (lkA y S) - tDs S)) (lkA y S)) := by
  have wf := kS.1.1
  have ok := kS.1.2.2
  have yo := kS.2.1.1
  have y2 := yo.1.2
  refine e_11 (s_11_0 ?_)
  have lp := cnt_loop (y 20) (fun i h' => StpC g h o y R R2 ss Ls Ds (12 * (tDs ((List.range i).foldl lkS S) - tDs S)) ((nf 4 + nf 0 + 40) * (tDs ((List.range i).foldl lkS S) - tDs S)) ((List.range i).foldl lkS S) h') (fun i h' => ∀ o2 o3 : Option Value, Ev g P 11 2 [some (va_rf (some (y 4))), some (.int (nI i)), o2, o3] [] h' (fun h' r => r = none ∧ StpC g h o y R R2 ss Ls Ds (12 * (tDs (lkA y S) - tDs S)) ((nf 4 + nf 0 + 40) * (tDs (lkA y S) - tDs S)) (lkA y S) h')) ?_ ?_ h (by rw [List.range_zero, List.foldl_nil, Nat.sub_self, Nat.mul_zero, Nat.mul_zero]; exact StpC.rf kS)
  · rw [nI_0] at lp; exact lp none none
  · intro i h1 hi st kn o2 o3
    obtain ⟨f1, f2, f3, f4⟩ := lkA_inv hD i
    obtain ⟨o1, w1, L1, D1, c1, m1, st1, st2, st3⟩ := st
    obtain ⟨k0, k1, k4, kse, kde⟩ := st1.kinds
    obtain ⟨ll, xs, -, p2, -⟩ := st1.prem hi
    obtain ⟨v1, v2, v3, v4⟩ := st1.2.2.2.1.2.1.1
    have lss := st1.2.2.2.1.1.1
    have e643 : hR h1 643 (y 0) = some (y 1) := p2.1.2.1
    have kD := st1.2.2.2.2.2
    refine s_11_2 (k3 := k4) (e5 := kD.1.2.2) (k6 := k0) (e8 := e643) (k10 := v1) (kt := fun z => absurd z (by rw [v2, lss]; exact nI_ge hi (by omega))) (kf := fun _ => ?_)
    refine look_1 hP6 st1 f1 hi (fun h2 r2 x3' st' => s_11_102 ?_) o2 o3
    rw [nI_1]
    refine kn h2 ?_ _ _
    rw [lkA_1]
    have fo := (lkS_1 ((List.range i).foldl lkS S) i).1
    refine (StpC.tr wf ok st2 st3 st').le ?_ ?_
    · omega
    · rw [← Nat.mul_add]
      exact Nat.mul_le_mul_left _ (by omega)
  · intro h1 st o2 o3
    have st' := st
    obtain ⟨o1, w1, L1, D1, c1, m1, st1, st2, st3⟩ := st'
    obtain ⟨k0, k1, k4, kse, kde⟩ := st1.kinds
    obtain ⟨v1, v2, v3, v4⟩ := st1.2.2.2.1.2.1.1
    have lss := st1.2.2.2.1.1.1
    obtain ⟨⟨xs, p2⟩, -⟩ := st1.2.2.1
    have e643 : hR h1 643 (y 0) = some (y 1) := p2.1.2.1
    have kD := st1.2.2.2.2.2
    exact s_11_2 (k3 := k4) (e5 := kD.1.2.2) (k6 := k0) (e8 := e643) (k10 := v1) (kt := fun _ => s_11_108 ⟨rfl, st⟩) (kf := fun z => absurd (by rw [v2, lss]; exact nI_le (Nat.le_refl _) (by omega)) z)
end LOOK
