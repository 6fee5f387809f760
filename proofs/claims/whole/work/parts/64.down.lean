/-! bits of the SERVERS that are UP -/
def clrN (m i : Nat) : Nat := if m / 2 ^ i % 2 = 1 then m - 2 ^ i else m
theorem bit_clr : ∀ m, m < 256 → ∀ i, i < 8 → nI m &&& (bitS (nI i) ^^^ (-1)) = nI (clrN m i) ∧ (nI m &&& (bitS (nI i) ^^^ (-1))) ||| bitS (nI i) = nI (clrN m i + 2 ^ i) := by decide +kernel
theorem upN_lt : ∀ sv : List srA, upN sv < 2 ^ sv.length := by
  intro sv
  induction sv with
  | nil => exact Nat.one_pos
  | cons x xs ih =>
    show (if sSt x = 0 then 1 else 0) + 2 * upN xs < 2 ^ (xs.length + 1)
    rw [Nat.pow_succ]
    split <;> omega
theorem upN_set (x' : srA) : ∀ (sv : List srA) (i : Nat), i < sv.length → upN (sv.set i x') = clrN (upN sv) i + (if sSt x' = 0 then 2 ^ i else 0) := by
  intro sv
  induction sv with
  | nil => intro i hi; exact absurd hi (Nat.not_lt_zero _)
  | cons x xs ih =>
    intro i hi
    cases i with
    | zero =>
      show (if sSt x' = 0 then 1 else 0) + 2 * upN xs = clrN ((if sSt x = 0 then 1 else 0) + 2 * upN xs) 0 + _
      unfold clrN
      rw [Nat.pow_zero, Nat.div_one]
      split
      · split <;> split <;> omega
      · split <;> split <;> omega
    | succ i =>
      have h := ih i (by rw [List.length_cons] at hi; omega)
      show (if sSt x = 0 then 1 else 0) + 2 * upN (xs.set i x') = clrN ((if sSt x = 0 then 1 else 0) + 2 * upN xs) (i + 1) + _
      rw [h]
      generalize hb : (if sSt x = 0 then 1 else 0) = b
      have hb2 : b < 2 := by rw [← hb]; split <;> omega
      unfold clrN
      have e1 : (b + 2 * upN xs) / 2 ^ (i + 1) = upN xs / 2 ^ i := by
        have e : 2 ^ (i + 1) = 2 * 2 ^ i := by rw [Nat.pow_succ, Nat.mul_comm]
        rw [e, ← Nat.div_div_eq_div_mul, show (b + 2 * upN xs) / 2 = upN xs by omega]
      rw [e1, Nat.pow_succ]
      by_cases c : upN xs / 2 ^ i % 2 = 1
      · rw [if_pos c, if_pos c]
        have : 2 ^ i ≤ upN xs := by
          rcases Nat.lt_or_ge (upN xs) (2 ^ i) with q | q
          · rw [Nat.div_eq_of_lt q] at c; exact absurd c (by decide)
          · exact q
        split <;> omega
      · rw [if_neg c, if_neg c]
        split <;> omega
theorem upS_N {sv : List srA} {i : Nat} {x' : srA} (hi : i < sv.length) (hl : sv.length ≤ 8) : upS (nI (upN sv)) (nI i) (sSt x') = nI (upN (sv.set i x')) := by
  have hlt : upN sv < 256 := Nat.lt_of_lt_of_le (upN_lt sv) (Nat.pow_le_pow_right (by decide) hl)
  obtain ⟨b1, b2⟩ := bit_clr (upN sv) hlt i (by omega)
  rw [upN_set x' sv i hi]
  unfold upS
  by_cases c : sSt x' = 0
  · rw [if_pos c, if_pos c, b2]
  · rw [if_neg c, if_neg c, b1]; rfl
theorem sSt_getD {sv : List srA} {i : Nat} (hi : i < sv.length) : sv.getD i sr0 = sv[i] := by
  rw [List.getD_eq_getElem?_getD, List.getElem?_eq_getElem hi]; rfl
/-! Coordinator.bringDown, forget -/
def Bs (y : Nat → Nat) (z : Nat) : Prop := ¬ z = y 9 ∧ ¬ z = y 12
def Bk (y : Nat → Nat) (z : Nat) : Prop := ¬ z = y 9 ∧ ¬ z = y 12 ∧ ¬ z = y 4
def Cst (g : gcT) (y : Nat → Nat) (h : hpT) (Ls : List lsT) (Ds : List (Nat × Nat)) (h' : hpT) (Ls' : List lsT) (Ds' : List (Nat × Nat)) (kc km : Nat) : Prop := hC h' + crd Ls' Ds' + fxC g h y ≤ hC h + crd Ls Ds + fxC g h' y + kc ∧ hM h' + 4 * crd Ls' Ds' + 4 * fxC g h y ≤ hM h + 4 * crd Ls Ds + 4 * fxC g h' y + km ∧ fxC g h y ≤ fxC g h' y
def RS (g : gcT) (h : hpT) (o w y : Nat → Nat) (R R2 : arT) (ss : List Nat) (Ls : List lsT) (Ds : List (Nat × Nat)) (S : stA) : Prop := (hWF h ∧ gOK g h ∧ oOK o) ∧ (yOK y ∧ tNm S ≤ 80000 ∧ hK h (y 9) = 13 ∧ hK h (y 12) = 14) ∧ rsA g h o y R (upN (tSv S)) S.2.1 ∧ rsB g h o w y ss Ls (tSv S) (tNm S) ∧ rsC g h o w y Ds (tDe S) (tNm S) ∧ rsD g h o y R2 Ds (tOw S) (tDs S) (tFo S)
/-- a step of the store: its state, what is left alone, what it costs -/
def StpC (g : gcT) (h : hpT) (o : Nat → Nat) (y : Nat → Nat) (R R2 : arT) (ss : List Nat) (Ls : List lsT) (Ds : List (Nat × Nat)) (kc km : Nat) (S' : stA) (h' : hpT) : Prop := ∃ o' w' Ls' Ds' c m, RS g h' o' w' y R R2 ss Ls' Ds' S' ∧ CG (Bs y) c m h o h' o' ∧ Cst g y h Ls Ds h' Ls' Ds' kc km
/-- a step that leaves the Coordinator's own alone -/
def StpK (g : gcT) (h : hpT) (o : Nat → Nat) (y : Nat → Nat) (R R2 : arT) (ss : List Nat) (Ls : List lsT) (Ds : List (Nat × Nat)) (kc km : Nat) (S' : stA) (h' : hpT) : Prop := ∃ o' w' Ls' c m, RS g h' o' w' y R R2 ss Ls' Ds S' ∧ CG (Bk y) c m h o h' o' ∧ Cst g y h Ls Ds h' Ls' Ds kc km
theorem CG.s {y : Nat → Nat} {c m : Nat} {h h' : hpT} {o o' : Nat → Nat} (ok : oOK o) (x : CG (Bk y) c m h o h' o') : CG (Bs y) c m h o h' o' := x.mono ok (fun _ _ q => ⟨q.1, q.2.1⟩) (Nat.le_refl _) (Nat.le_refl _)
theorem StpK.c {g : gcT} {h : hpT} {o : Nat → Nat} {y : Nat → Nat} {R R2 : arT} {ss : List Nat} {Ls : List lsT} {Ds : List (Nat × Nat)} {kc km : Nat} {S' : stA} {h' : hpT} (ok : oOK o) (x : StpK g h o y R R2 ss Ls Ds kc km S' h') : StpC g h o y R R2 ss Ls Ds kc km S' h' := by
  obtain ⟨o', w', L', c, m, x1, x2, x3⟩ := x
  exact ⟨o', w', L', Ds, c, m, x1, x2.s ok, x3⟩
def tabA (ow : List Int32) (v : Int32) : Int32 := (List.range 8).foldl (fun t j => if ow.getD j 0 = v then t + 1 else t) 0
def bdS (ow : List Int32) (i : Nat) (x : srA) : srA := (2, 0, if sLo x = 0 ∧ ¬ tabA ow (nI i) ≤ 0 then 1 else sLo x, 0, 0, -1, sMi x, ([], none, none), if sLo x = 0 ∧ ¬ tabA ow (nI i) ≤ 0 then some (sLg x) else sLL x)
def bdA (S : stA) (i : Nat) : stA := ((tSv S).set i (bdS (tOw S) i ((tSv S).getD i sr0)), S.2)
def emS (x : srA) : srA := (sSt x, 0, sLo x, 0, 0, -1, sMi x, ([], none, none), sLL x)
def fgA (S : stA) (i : Nat) : stA := ((tSv S).set i (emS ((tSv S).getD i sr0)), S.2.1, S.2.2.1, S.2.2.2.1, S.2.2.2.2.1, S.2.2.2.2.2 + 1)
section DOWN
variable {g : gcT} {P : pmT} {o o' w w' : Nat → Nat} {y : Nat → Nat} {R R2 : arT} {h h' : hpT} {B : Nat → Prop} {c m N U L nx nx' k s i : Nat} {tb : Int32} {A : alT} {p : lsT} {x : srA} {ss : List Nat} {Ls : List lsT} {Ds : List (Nat × Nat)} {S : stA}
theorem newQ (hg : gOK g h) (f1 : lgF g h N U L []) (r7 : hR h 257 L = none) (r8 : hR h 258 L = none) (i9 : hI h 259 L = 0) (r6 : hR h 256 L = some (L + 1)) (r1 : hR h 1 (L + 1) = some g.2.2.2) (oL : o L = L) (ol : o (L + 1) = L) : lgQ g h o N U L nx 10 0 ([], none, none) := by
  refine ⟨⟨[], ⟨⟨f1, fun l hl => ?_, fun z hz => absurd hz List.not_mem_nil, fun z hz => absurd hz List.not_mem_nil, List.Pairwise.nil⟩, oL, fun z hz => absurd hz List.not_mem_nil, fun z hz => absurd hz List.not_mem_nil⟩, Or.inl ⟨r7, rfl⟩, Or.inl ⟨r8, rfl⟩, rfl⟩, fun ll _ => Nat.le_add_left _ _, i9⟩
  rw [r6] at hl
  cases hl
  refine ⟨ol, fun d hd kd => ?_⟩
  rw [r1] at hd
  cases hd
  rw [hg.2.1] at kd
  exact absurd kd (by decide)
theorem tab_A {a : Nat} (kd : rsD g h o y R2 Ds (tOw S) (tDs S) (tFo S)) {v : Int32} : EvI g P 6 [va_rf (some (y 4)), .int v] h (fun h' r => h' = h ∧ r = tabA (tOw S) v) := by
  obtain ⟨⟨a1, a2, a3⟩, ⟨b1, b2, b3, b4, b5, b6⟩, -⟩ := kd
  have := m_tabletsOf (g := g) (P := P) (x := v) a1 b1 b2 b3
  have e : (List.range 8).foldl (tabF h (y 5) v) 0 = tabA (tOw S) v := by
    unfold tabA
    have : ∀ (l : List Nat) (t : Int32), (∀ j ∈ l, j < 8) → l.foldl (tabF h (y 5) v) t = l.foldl (fun t j => if (tOw S).getD j 0 = v then t + 1 else t) t := by
      intro l
      induction l with
      | nil => intro t _; rw [List.foldl_nil, List.foldl_nil]
      | cons j l ih =>
        intro t hl
        rw [List.foldl_cons, List.foldl_cons]
        have : tabF h (y 5) v t j = if (tOw S).getD j 0 = v then t + 1 else t := by
          unfold tabF
          rw [b6 j (hl j List.mem_cons_self)]
        rw [this]
        exact ih _ (fun j hj => hl j (List.mem_cons_of_mem _ hj))
    exact this _ 0 (fun j hj => List.mem_range.mp hj)
  rw [e] at this
  exact this
def opV (q : Option (Nat × Nat)) : Nat := match q with | some q => q.2 | none => 0
def lsV (p : lsT) : Nat := p.2.1 + opV p.2.2
theorem sum_set {l : List Nat} {i x : Nat} (hi : i < l.length) : (l.set i x).sum + l.getD i 0 = l.sum + x := by
  induction l generalizing i with
  | nil => exact absurd hi (Nat.not_lt_zero _)
  | cons a l ih =>
    cases i with
    | zero =>
      show (x :: l).sum + a = (a :: l).sum + x
      rw [List.sum_cons, List.sum_cons]; omega
    | succ i =>
      have := ih (i := i) (by rw [List.length_cons] at hi; omega)
      show (a :: l.set i x).sum + l.getD i 0 = (a :: l).sum + x
      rw [List.sum_cons, List.sum_cons]; omega
theorem crd_set (hi : i < Ls.length) : crd (Ls.set i p) Ds + lsV (Ls.getD i ls0) = crd Ls Ds + lsV p := by
  have e : ∀ L : List lsT, crd L Ds = (L.map lsV).sum + (Ds.map (·.2)).sum := fun L => rfl
  rw [e, e, List.map_set]
  have := sum_set (l := Ls.map lsV) (i := i) (x := lsV p) (by rw [List.length_map]; exact hi)
  have e2 : (Ls.map lsV).getD i 0 = lsV (Ls.getD i ls0) := by
    rw [List.getD_eq_getElem?_getD, List.getElem?_map, List.getElem?_eq_getElem hi, List.getD_eq_getElem?_getD, List.getElem?_eq_getElem hi]
    rfl
  rw [e2] at this
  omega
/-- SERVERS are apart -/
theorem rsB.ap {sv : List srA} (kb : rsB g h o w y ss Ls sv nx) (hy : yOK y) {i j : Nat} (hi : i < y 20) (hj : j < y 20) (e : ss.getD i 0 = ss.getD j 0) : i = j := by
  have e1 := (kb.2.2 i hi).1.2.2
  have e2 := (kb.2.2 j hj).1.2.2
  rw [e, e2] at e1
  have := hy.1.2
  exact (nI_inj (by omega) (by omega) e1).symm
/-- what the roots are, by their kinds -/
theorem RS.kinds (kS : RS g h o w y R R2 ss Ls Ds S) : hK h (y 0) = 11 ∧ hK h (y 1) = 27 ∧ hK h (y 4) = 4 ∧ (∀ i, i < y 20 → hK h (ss.getD i 0) = 10 ∧ o (ss.getD i 0) = ss.getD i 0 ∧ hK h (Ls.getD i ls0).1 = 5 ∧ o (Ls.getD i ls0).1 = (Ls.getD i ls0).1 ∧ w (Ls.getD i ls0).1 = 3 * i ∧ ∀ z, (Ls.getD i ls0).2.2 = some z → hK h z.1 = 5 ∧ o z.1 = z.1 ∧ w z.1 = 3 * i + 1) ∧ (∀ i, i < Ds.length → hK h (Ds.getD i (0, 0)).1 = 5 ∧ o (Ds.getD i (0, 0)).1 = (Ds.getD i (0, 0)).1 ∧ w (Ds.getD i (0, 0)).1 = 2) := by
  obtain ⟨-, -, ⟨⟨xs, st⟩, -⟩, ⟨-, ⟨v, -⟩, kb⟩, ⟨-, -, kc⟩, kd⟩ := kS
  refine ⟨st.1.1, v.1, kd.1.1, fun i hi => ?_, fun i hi => ?_⟩
  · obtain ⟨⟨a1, a2, -⟩, -, -, -, ⟨f1, f2⟩, l⟩ := kb i hi
    refine ⟨a1, a2, f1.1.r.2, f1.1.r.1, f2, fun z hz => ?_⟩
    rcases l with ⟨l1, -⟩ | ⟨L', k', A', l1, -, -, l4, l5⟩
    · rw [l1] at hz; cases hz
    · rw [l1] at hz
      cases hz
      exact ⟨l4.1.r.2, l4.1.r.1, l5⟩
  · exact ⟨(kc i hi).1.1.r.2, (kc i hi).1.1.r.1, (kc i hi).2⟩
theorem fx_eq (kS : RS g h o w y R R2 ss Ls Ds S) (cg : CG B c m h o h' o') (n0 : ¬ B (y 0)) (n4 : ¬ B (y 4)) : fxC g h' y = fxC g h y := by
  obtain ⟨⟨wf, hg, ok⟩, -, ⟨⟨xs, st⟩, -⟩, -, -, ⟨⟨a1, a2, -⟩, -, ⟨-, c2, c3⟩, -, ⟨-, ⟨ms, e2⟩, e3⟩, -⟩⟩ := kS
  have k3 := st.2.2.2.2.1.1.1
  have k6 := c2.1.1
  have k8 := e2.1.1
  unfold fxC
  rw [capO.fr wf st.2.2.2.2.1 cg.1 (cg.sm wf (by rw [st.2.2.2.2.2.1, st.2.1.1]; exact n0) (by omega)), capO.fr wf c2 cg.1 (cg.sm wf (by rw [c3.1, a2]; exact n4) (by omega)), capO.fr wf e2 cg.1 (cg.sm wf (by rw [e3.1, a2]; exact n4) (by omega))]
end DOWN
