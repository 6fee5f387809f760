/-! OPENING and MENDING, over the whole state -/
def stLg (x : srA) (A : alT) : srA := (sSt x, sFe x, sLo x, sTb x, sSf x, sCu x, sMi x, A, sLL x)
def rmW (S : stA) (i : Nat) (W : alT × Nat × Int32 × Int32) : stA := ((tSv S).set i (stLg ((tSv S).getD i sr0) W.1), (tAw S, W.2.1, tCl S + W.2.2.1, tAp S, tMe S), S.2.2)
/-- makeRoom of SERVER i -/
def mkrS (y : Nat → Nat) (S : stA) (i : Nat) (need lim : Int32) : alT × Nat × Int32 × Int32 := mkrA (y 20) (y 22) (y 21) (y 23) (nI (upN (tSv S))) (tAw S) (tNm S) i (sSf ((tSv S).getD i sr0)) need lim (sLg ((tSv S).getD i sr0))
def opnS (y : Nat → Nat) (S : stA) (i : Nat) (lim : Int32) : alT × Nat × Int32 × Int32 := opnA (y 20) (y 22) (y 21) (y 23) (nI (upN (tSv S))) (tAw S) (tNm S) i (sSf ((tSv S).getD i sr0)) lim (sLg ((tSv S).getD i sr0))
section RROOM
variable {g : gcT} {P : pmT} {o o' w w' : Nat → Nat} {y : Nat → Nat} {R R2 : arT} {h h' : hpT} {B : Nat → Prop} {c m N U L nx nx' k s i f : Nat} {tb v need lim : Int32} {A : alT} {p p' : lsT} {x x' : srA} {ss : List Nat} {Ls : List lsT} {Ds : List (Nat × Nat)} {S : stA} {W : alT × Nat × Int32 × Int32}
theorem pw_len : ∀ (l : List Nat) (n : Nat), l.Pairwise (· < ·) → (∀ x ∈ l, x < n) → l.length ≤ n := by
  intro l
  induction l with
  | nil => intro n _ _; exact Nat.zero_le _
  | cons a l ih =>
    intro n hp hx
    rw [List.pairwise_cons] at hp
    have h1 := ih (n - (a + 1)) 
    have ha := hx a List.mem_cons_self
    have key : ∀ (l : List Nat) (a n : Nat), l.Pairwise (· < ·) → (∀ x ∈ l, a < x ∧ x < n) → l.length + (a + 1) ≤ max n (a + 1) := by
      intro l
      induction l with
      | nil => intro a n _ _; simp; omega
      | cons b l ih =>
        intro a n hp hx
        rw [List.pairwise_cons] at hp
        have hb := hx b List.mem_cons_self
        have := ih b n hp.2 (fun x hxl => ⟨hp.1 x hxl, (hx x (List.mem_cons_of_mem _ hxl)).2⟩)
        rw [List.length_cons]
        omega
    have := key l a n hp.2 (fun x hxl => ⟨hp.1 x hxl, hx x (List.mem_cons_of_mem _ hxl)⟩)
    rw [List.length_cons]
    omega
theorem lgR.len (k : lgR g h o N U L nx A) : A.1.length ≤ nx := by
  obtain ⟨zs, k1, -, -, k4⟩ := k
  have := pw_len (zs.map nmN) nx k1.1.2.2.2.2 (fun x hx => by
    obtain ⟨z, hz, e⟩ := List.mem_map.mp hx
    rw [← e]; exact k1.2.2.1 z hz)
  rw [List.length_map] at this
  rw [← k4, List.length_map]; exact this
theorem clnA_len2 {N U rep : Nat} {up : Int32} {nm sv : Nat} {lt : Option Nat} {A : List agT} : (clnA N U rep up nm sv lt A).1.length + nm ≤ A.length + (clnA N U rep up nm sv lt A).2.1 := by
  unfold clnA
  split
  · show (_ ++ [_]).length + nm ≤ _ + (nm + 1)
    rw [List.length_append]
    have := List.length_filter_le (fun a : agT => !((((clC lt A).take (clE U lt A)).map (·.1)).contains a.1)) A
    show (rmN A _).length + 1 + nm ≤ _
    unfold rmN
    omega
  · have := List.length_filter_le (fun a : agT => !((((clC lt A).take (clZ lt A)).map (·.1)).contains a.1)) A
    show (rmN A _).length + nm ≤ _ + nm
    unfold rmN
    omega
theorem opnA_len {N U rep mem : Nat} {up aw : Int32} {nm sv : Nat} {safe lim : Int32} {A : alT} : (opnA N U rep mem up aw nm sv safe lim A).1.1.length + nm ≤ A.1.length + (opnA N U rep mem up aw nm sv safe lim A).2.1 ∧ nm ≤ (opnA N U rep mem up aw nm sv safe lim A).2.1 ∧ (opnA N U rep mem up aw nm sv safe lim A).2.1 ≤ nm + 2 := by
  have e1 : (opn1 N U rep mem up nm sv A).1.length + nm ≤ A.1.length + (opn1 N U rep mem up nm sv A).2.1 ∧ nm ≤ (opn1 N U rep mem up nm sv A).2.1 ∧ (opn1 N U rep mem up nm sv A).2.1 ≤ nm + 1 := by
    unfold opn1
    split
    · exact ⟨clnA_len2, clnA_len.2.2, clnA_len.2.1⟩
    · exact ⟨Nat.le_refl _, Nat.le_refl _, Nat.le_succ _⟩
  unfold opnA
  split
  · exact ⟨Nat.le_refl _, Nat.le_refl _, Nat.le_add_right _ _⟩
  · split
    · exact ⟨e1.1, e1.2.1, by show (opn1 N U rep mem up nm sv A).2.1 ≤ _; omega⟩
    · refine ⟨?_, by show nm ≤ (opn1 N U rep mem up nm sv A).2.1 + 1; omega, by show (opn1 N U rep mem up nm sv A).2.1 + 1 ≤ _; omega⟩
      show (_ ++ [_]).length + nm ≤ _ + ((opn1 N U rep mem up nm sv A).2.1 + 1)
      rw [List.length_append]
      have : [dgG (opn1 N U rep mem up nm sv A).2.1 (nsH up N rep (opn1 N U rep mem up nm sv A).2.1 sv N) safe].length = 1 := rfl
      omega
theorem mkrA_len {N U rep mem : Nat} {up aw : Int32} {nm sv : Nat} {safe need lim : Int32} {A : alT} : (mkrA N U rep mem up aw nm sv safe need lim A).1.1.length + nm ≤ A.1.length + (mkrA N U rep mem up aw nm sv safe need lim A).2.1 ∧ nm ≤ (mkrA N U rep mem up aw nm sv safe need lim A).2.1 ∧ (mkrA N U rep mem up aw nm sv safe need lim A).2.1 ≤ nm + 2 := by
  unfold mkrA
  split
  · exact ⟨Nat.le_refl _, Nat.le_refl _, Nat.le_add_right _ _⟩
  · exact opnA_len
/-- what a step at a SERVER's LOG leaves, over the whole state -/
theorem RS.opn {ll : Nat} (kS : RS g h o w y R R2 ss Ls Ds S) (hi : i < y 20) (hll : hR h 256 (Ls.getD i ls0).1 = some ll) (x : opnR g h o (y 0) (y 1) (y 2) R (y 3) ll (y 20) (y 22) (Ls.getD i ls0).1 (y 21) (nI (upN (tSv S))) (sLg ((tSv S).getD i sr0)).1.length (tNm S) W h') (hW : W.1.1.length + tNm S ≤ (sLg ((tSv S).getD i sr0)).1.length + W.2.1 ∧ tNm S ≤ W.2.1) (hb : W.2.1 ≤ 80000) : StpK g h o y R R2 ss Ls Ds (9 * (W.2.1 - tNm S)) ((nf 8 + (3 * y 22 + 2 * y 20) + nf 6 + 8) * (W.2.1 - tNm S)) (rmW S i W) h' := by
  obtain ⟨k0, k1, k4, kse, kde⟩ := kS.kinds
  have kS' := kS
  obtain ⟨⟨wf, hg, ok⟩, ⟨yo, hnm, k9, k12⟩, kA, kB, kC, kD⟩ := kS'
  obtain ⟨s1, s2, s3, s4, s5, s6⟩ := kse i hi
  obtain ⟨o', cg, ⟨xs, st'⟩, lr', iL, rL, ia, ra, i649, cpl, cpL, cpE⟩ := x
  have kBi := kB.2.2 i hi
  obtain ⟨⟨a1, a2, a3⟩, ⟨b1, b2, b3, b4, b5, b6, b7⟩, d, f0, ⟨⟨f1, f1', f1''⟩, f2⟩, l⟩ := kBi
  have crL := f1' ll hll
  obtain ⟨-, ⟨i1, i2, i3, i4, i5⟩, z⟩ := kA
  have nB : ∀ z, ¬ hK h z = 11 → ¬ z = (Ls.getD i ls0).1 → ¬ (z = y 0 ∨ z = (Ls.getD i ls0).1) := by
    rintro z n1 n2 (q | q)
    · rw [q] at n1; exact n1 k0
    · exact n2 q
  have ss' : Sm h h' (ss.getD i 0) := cg.sm wf (by rw [s2, s2]; exact nB _ (by omega) (kinds_ne (h := h) (by omega))) (by omega)
  have f := fun f => ss'.2.1 f
  have hup : upN ((tSv S).set i (stLg ((tSv S).getD i sr0) W.1)) = upN (tSv S) := by
    have : ∀ (sv : List srA) (i : Nat) (x : srA), sSt x = sSt (sv.getD i sr0) → upN (sv.set i x) = upN sv := by
      intro sv
      induction sv with
      | nil => intro i x _; rfl
      | cons a sv ih =>
        intro i x hx
        cases i with
        | zero =>
          have hx : sSt x = sSt a := hx
          show (if sSt x = 0 then 1 else 0) + 2 * upN sv = (if sSt a = 0 then 1 else 0) + 2 * upN sv
          rw [hx]
        | succ i =>
          show (if sSt a = 0 then 1 else 0) + 2 * upN (sv.set i x) = (if sSt a = 0 then 1 else 0) + 2 * upN sv
          rw [ih i x hx]
    exact this _ _ _ rfl
  have kA' : rsA g h' o' y R (upN ((tSv S).set i (stLg ((tSv S).getD i sr0) W.1))) (tAw S, W.2.1, tCl S + W.2.2.1, tAp S, tMe S) := by
    rw [hup]
    exact ⟨⟨xs, st'⟩, ⟨by rw [ia 642 (by decide) (by decide)]; exact i1, by rw [ia 647 (by decide) (by decide)]; exact i2, by rw [i649, i3]; rfl, by rw [ia 650 (by decide) (by decide)]; exact i4, by rw [ia 651 (by decide) (by decide)]; exact i5⟩, z⟩
  have ki : srvR g h' o' w (y 20) (y 22) W.2.1 (ss.getD i 0) i ((Ls.getD i ls0).1, (Ls.getD i ls0).2.1 + 2 * (W.2.1 - tNm S) - (capO g h' ll - capO g h ll), (Ls.getD i ls0).2.2) (stLg ((tSv S).getD i sr0) W.1) := by
    refine ⟨⟨by rw [ss'.1]; exact a1, by rw [cg.2.1 _ (wf.lt (by omega))]; exact a2, by rw [(f 576).1]; exact a3⟩, ⟨by rw [(f 577).1]; exact b1, by rw [(f 578).1]; exact b2, by rw [(f 579).1]; exact b3, by rw [(f 580).1]; exact b4, by rw [(f 581).1]; exact b5, by rw [(f 582).1]; exact b6, by rw [(f 583).1]; exact b7⟩, d, by rw [(f 584).2]; exact f0, ⟨⟨lr', fun l' hl' => ?_, by rw [iL 259]; exact f1''⟩, f2⟩, ?_⟩
    · rw [rL, hll] at hl'
      cases hl'
      show 2 * W.1.1.length + 10 ≤ capO g h' ll + ((Ls.getD i ls0).2.1 + 2 * (W.2.1 - tNm S) - (capO g h' ll - capO g h ll))
      rcases Nat.eq_or_lt_of_le hW.2 with q | q
      · have := cpE q.symm
        omega
      · omega
    · show losR _ _ _ _ _ _ _ _ _ (Ls.getD i ls0).2.2 (sLL ((tSv S).getD i sr0))
      rcases l with ⟨l1, l2, l3⟩ | ⟨L', k', A', l1, l2, l3, l4, l5⟩
      · exact Or.inl ⟨l1, l2, by rw [(f 585).2]; exact l3⟩
      · have kL' := l4.1.r.2
        refine Or.inr ⟨L', k', A', l1, l2, by rw [(f 585).2]; exact l3, l4.fr wf hg cg (nB _ (by omega) (fun q => ?_)) hW.2, l5⟩
        rw [q, f2] at l5
        omega
  have cgB : CG (Bi y ss Ls i) _ _ h o h' o' := cg.mono ok (fun z _ q => q.elim Or.inl (fun q => Or.inr (Or.inr (Or.inl q)))) (Nat.le_refl _) (Nat.le_refl _)
  obtain ⟨r1, r2, r3, r4⟩ := RS.srv kS hi cgB kA' ki hW.2 hb (fun z hz => absurd rfl hz)
  have hcr := crd_set (p := ((Ls.getD i ls0).1, (Ls.getD i ls0).2.1 + 2 * (W.2.1 - tNm S) - (capO g h' ll - capO g h ll), (Ls.getD i ls0).2.2)) (Ds := Ds) (Ls := Ls) (i := i) (by have := kB.1.2.2; omega)
  unfold lsV at hcr
  dsimp only at hcr
  have hx : fxC g h' y = fxC g h y + (capO g h' (y 3) - capO g h (y 3)) := by
    have hlen := lgR_len f1
    unfold fxC
    rw [r3, r4]
    omega
  have hcap : capO g h' ll - capO g h ll ≤ (Ls.getD i ls0).2.1 + 2 * (W.2.1 - tNm S) := by
    rcases Nat.eq_or_lt_of_le hW.2 with q | q
    · have := cpE q.symm
      omega
    · omega
  obtain ⟨-, -, -, e1, e2⟩ := r2.1
  refine ⟨_, _, _, _, _, r1, r2, ?_, ?_, by omega⟩
  · omega
  · have hd : (nf 8 + (3 * y 22 + 2 * y 20) + nf 6 + 8) * (W.2.1 - tNm S) = (nf 8 + (3 * y 22 + 2 * y 20) + nf 6) * (W.2.1 - tNm S) + 8 * (W.2.1 - tNm S) := Nat.add_mul _ _ _
    rw [hd]
    omega
theorem RS.prem (kS : RS g h o w y R R2 ss Ls Ds S) (hi : i < y 20) : ∃ ll xs, hR h 256 (Ls.getD i ls0).1 = some ll ∧ stR g h o (y 0) (y 1) (y 2) R (y 3) (y 20) (y 22) (y 21) (nI (upN (tSv S))) (tNm S) xs ∧ lgR g h o (y 20) (y 22) (Ls.getD i ls0).1 (tNm S) (sLg ((tSv S).getD i sr0)) ∧ hR h 584 (ss.getD i 0) = some (Ls.getD i ls0).1 ∧ hI h 576 (ss.getD i 0) = nI i ∧ hI h 581 (ss.getD i 0) = sSf ((tSv S).getD i sr0) ∧ hI h 642 (y 0) = nI (y 23) ∧ hI h 647 (y 0) = tAw S := by
  obtain ⟨-, -, ⟨⟨xs, st⟩, ⟨i1, i2, -⟩, -⟩, kB, -⟩ := kS
  obtain ⟨⟨a1, a2, a3⟩, ⟨b1, b2, b3, b4, b5, b6, b7⟩, d, f0, ⟨⟨f1, -⟩, f2⟩, l⟩ := kB.2.2 i hi
  obtain ⟨ll, e, -⟩ := f1.ll
  exact ⟨ll, xs, e, st, f1, f0, a3, b5, i1, i2⟩
theorem RS.room (hP6 : P 206 = cpyO) (kS : RS g h o w y R R2 ss Ls Ds S) (hi : i < y 20) (hb : (mkrS y S i need lim).2.1 ≤ 80000) : EvI g P 45 [va_rf (some (y 0)), va_rf (some (ss.getD i 0)), .int need, .int lim] h (fun h' r => r = (mkrS y S i need lim).2.2.2 ∧ StpK g h o y R R2 ss Ls Ds (9 * ((mkrS y S i need lim).2.1 - tNm S)) ((nf 8 + (3 * y 22 + 2 * y 20) + nf 6 + 8) * ((mkrS y S i need lim).2.1 - tNm S)) (rmW S i (mkrS y S i need lim)) h') := by
  obtain ⟨k0, k1, k4, kse, kde⟩ := kS.kinds
  obtain ⟨ll, xs, p1, p2, p3, p4, p5, p6, p7, p8⟩ := kS.prem hi
  have kS' := kS
  obtain ⟨⟨wf, hg, ok⟩, ⟨yo, hnm, k9, k12⟩, -⟩ := kS'
  have len := p3.len
  obtain ⟨⟨y1, y2⟩, ⟨y3, y4⟩, ⟨y5, y6⟩, y7, y8⟩ := yo
  refine Ev.imp (m_makeRoom (mem := y 23) (sv := i) hP6 wf hg ok p2 p3 p1 (kse i hi).1 (kse i hi).2.1 p4 p5 p6 p7 p8 (by omega) (by omega) (by omega) (by omega) (by omega) (by omega) (by omega) (by omega) hi (by omega)) (fun h' r ⟨v, er, e1, e2⟩ => ⟨v, er, e1, RS.opn kS hi p1 e2 ⟨mkrA_len.1, mkrA_len.2.1⟩ hb⟩)
theorem RS.oping (hP6 : P 206 = cpyO) (kS : RS g h o w y R R2 ss Ls Ds S) (hi : i < y 20) (hb : (opnS y S i lim).2.1 ≤ 80000) : EvI g P 46 [va_rf (some (y 0)), va_rf (some (ss.getD i 0)), .int lim] h (fun h' r => r = (opnS y S i lim).2.2.2 ∧ StpK g h o y R R2 ss Ls Ds (9 * ((opnS y S i lim).2.1 - tNm S)) ((nf 8 + (3 * y 22 + 2 * y 20) + nf 6 + 8) * ((opnS y S i lim).2.1 - tNm S)) (rmW S i (opnS y S i lim)) h') := by
  obtain ⟨k0, k1, k4, kse, kde⟩ := kS.kinds
  obtain ⟨ll, xs, p1, p2, p3, p4, p5, p6, p7, p8⟩ := kS.prem hi
  have kS' := kS
  obtain ⟨⟨wf, hg, ok⟩, ⟨yo, hnm, k9, k12⟩, -⟩ := kS'
  have len := p3.len
  obtain ⟨⟨y1, y2⟩, ⟨y3, y4⟩, ⟨y5, y6⟩, y7, y8⟩ := yo
  refine Ev.imp (m_open (mem := y 23) (sv := i) hP6 wf hg ok p2 p3 p1 (kse i hi).1 (kse i hi).2.1 p4 p5 p6 p7 p8 (by omega) (by omega) (by omega) (by omega) (by omega) (by omega) (by omega) (by omega) hi (by omega)) (fun h' r ⟨v, er, e1, e2⟩ => ⟨v, er, e1, RS.opn kS hi p1 e2 ⟨opnA_len.1, opnA_len.2.1⟩ hb⟩)
end RROOM
