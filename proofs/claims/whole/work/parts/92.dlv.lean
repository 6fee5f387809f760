/-! serve, deliver -/
def fncA (F : fcT) (i : Nat) : fcT := if ¬ sFe ((tSv (fSt F)).getD i sr0) = 0 then setS F (fgA (fSt F) i) else F
def srvA (y : Nat → Nat) (F : fcT) (i c n : Nat) (r : rqT) (ack : Int32) : fcT × Option anT :=
  if ((sTb ((tSv (fSt (fncA F i))).getD i sr0) >>> ((r.2.1 / 8) &&& 31)) &&& 1) = 0 then (fncA F i, some (3, 0, 0))
  else if r.1 = 0 then ((rdA y (fncA F i) i r.2.1).1, some (rdA y (fncA F i) i r.2.1).2)
  else chgA y (fncA F i) i c n r ack
def ansW (F : fcT) (c n : Nat) (v : anT) : fcT := (fSt F, (fCl F).set c (((fCl F).getD c cl0).1, u1 ((fCl F).getD c cl0).2 (n - 1) (some v)), fNt F, fCk F, fEf F)
def rqF (F : fcT) (c n : Nat) : rqT := ((fCl F).getD c cl0).1.getD (n - 1) rq0
def dlvZ (Z : fcT × Option anT) (j : Nat) (x : msT) : fcT × Int32 := match Z.2 with
  | none => (netA Z.1 j none, 3)
  | some v => (netA Z.1 j (some (x.1, x.2.1, x.2.2.1, none, some v)), 0)
def dlvA (y : Nat → Nat) (F : fcT) (p : Int32) : fcT × Int32 := match msgA F p with
  | none => (F, -1)
  | some (j, x) => match x.2.2.2.2 with
    | some v => if v.1 = 3 ∨ v.1 = 4 then (netA F j none, 6) else (match ((fCl F).getD x.1 cl0).2 (x.2.1 - 1) with
      | none => (ansW (netA F j none) x.1 x.2.1 v, 4)
      | some _ => (netA F j none, 5))
    | none => match x.2.2.2.1 with
      | none => (netA F j none, 1)
      | some t => if sSt ((tSv (fSt F)).getD t sr0) = 2 then (netA F j none, 1) else if sSt ((tSv (fSt F)).getD t sr0) = 1 then (F, 2) else dlvZ (srvA y F t x.1 x.2.1 (rqF F x.1 x.2.1) x.2.2.1) j x
/-- what serve asks of the state -/
def srvP (y : Nat → Nat) (F : fcT) (i c n : Nat) (r : rqT) : Prop := c < 6 ∧ inF r.2.1 64 = 1 ∧ (mkrS y (fSt (fncA F i)) i 0 1).2.1 ≤ 80000 ∧ (chW y (fSt (fncA F i)) i (chD (fncA F i) i r).2).2.1 ≤ 80000 ∧ (sCu ((tSv (fSt (fncA F i))).getD i sr0) = -1 ∨ ∃ k, k ≤ 3 ∧ sCu ((tSv (fSt (fncA F i))).getD i sr0) = nI k) ∧ ∀ x, (chD (fncA F i) i r).2 = some x → x.1 = 3 → ¬ (chW y (fSt (fncA F i)) i (chD (fncA F i) i r).2).2.2.2 = 0 → ∃ u, (homA x.2.2.2.1 (chW y (fSt (fncA F i)) i (chD (fncA F i) i r).2).1.1).2 = some u
def kcD : Nat := 28
def kmD : Nat := 2 * nf 6 + (nf 4 + nf 0 + 40 + nf 1) + (nf 4 + nf 0 + 40) + nf 1 + nf 5
section DLV
variable {g : gcT} {P : pmT} {o o' w w' : Nat → Nat} {y : Nat → Nat} {R R2 : arT} {h h' h1 h2 : hpT} {B : Nat → Prop} {i j t c m n p q e : Nat} {ss : List Nat} {Ls L1 : List lsT} {Ds D1 : List (Nat × Nat)} {S S' : stA} {cs : csT} {F F' : fcT} {r : rqT} {v : anT} {kc km kc' km' : Nat} {ky ak ack : Int32} {d : anT × Option ptT} {u : Option Nat} {x1 : Int32}
theorem rdA_nm : tNm (fSt (rdA y F i ky).1) = (mkrS y (fSt F) i 0 1).2.1 := rfl
theorem chgA_nm (hi : i < (tSv (fSt F)).length) : tNm (fSt (chgA y F i c n r ack).1) = (chW y (fSt F) i (chD F i r).2).2.1 ∨ (chgA y F i c n r ack).1 = F := by
  unfold chgA
  split
  · exact Or.inr rfl
  · refine Or.inl ?_
    by_cases z : (chW y (fSt F) i (chD F i r).2).2.2.2 = 0
    · have : chgB y F i c n r (akA (sLg ((tSv (fSt F)).getD i sr0)) c ack) (chD F i r) = (setS F (rmW (fSt F) i (chW y (fSt F) i (chD F i r).2)), some (4, 0, 0)) := if_pos z
      rw [this]; rfl
    · unfold chgB
      rw [if_neg z]
      split
      · rfl
      · dsimp only
        split <;> rfl
theorem m_serve {m : Nat} (hP6 : P 206 = cpyO) (kS : RS g h o w y R R2 ss Ls Ds (fSt F)) (kF : fcR h o y ss cs F) (hi : i < y 20) (km : hK h m = 6) (om : o m = y 9) (hm : hR h 320 m = some q) (oq : o q = y 9) (kq : reqV h q c n r) (ha : hI h 321 m = ack) (hp : srvP y F i c n r) : EvA g P 83 [va_rf (some (y 9)), va_rf (some (ss.getD i 0)), va_rf (some m)] h (fun h' z => ∃ Δ, StpA g h o y R R2 ss Ls Ds (9 * Δ + 27) (kmO y * Δ + (2 * nf 6 + (nf 4 + nf 0 + 40 + nf 1) + (nf 4 + nf 0 + 40) + nf 1)) (srvA y F i c n r ack).1 z (srvA y F i c n r ack).2 h' ∧ (Δ ≤ 2 ∧ (Δ = tNm (fSt (srvA y F i c n r ack).1) - tNm (fSt F) ∨ (srvA y F i c n r ack).1 = fncA F i))) := by
  obtain ⟨k0, k1, k4, kse, kde⟩ := kS.kinds
  have wf := kS.1.1
  have ok := kS.1.2.2
  have k9 := kS.2.1.2.2.1
  obtain ⟨⟨a1, a2, a3⟩, -⟩ := kF.1
  obtain ⟨⟨b1, b2, b3⟩, ⟨c1, c2, c3, c4, c5, c6, c7⟩, dd, f0, -, -⟩ := kS.2.2.2.1.2.2 i hi
  obtain ⟨hc6, hky, hb1, hb2, hcut, hH⟩ := hp
  have lsv : (tSv (fSt F)).length = y 20 := kS.2.2.2.1.1.2.1
  have nmF : tNm (fSt (fncA F i)) = tNm (fSt F) := by unfold fncA; split <;> rfl
  have lsv' : (tSv (fSt (fncA F i))).length = y 20 := by
    unfold fncA
    split
    · show ((tSv (fSt F)).set i _).length = _
      rw [List.length_set]; exact lsv
    · exact lsv
  -- behind the test of FENCED
  have rest : ∀ h1, StpG g h o y R R2 ss Ls Ds 12 (nf 4 + nf 0 + 40) (fncA F i) h1 → Ev g P 83 20 [some (va_rf (some (y 9))), some (va_rf (some (ss.getD i 0))), some (va_rf (some m)), some (va_rf (some q))] [] h1 (fun h' z => ∃ x, z = some (va_rf x) ∧ ∃ Δ, StpA g h o y R R2 ss Ls Ds (9 * Δ + 27) (kmO y * Δ + (2 * nf 6 + (nf 4 + nf 0 + 40 + nf 1) + (nf 4 + nf 0 + 40) + nf 1)) (srvA y F i c n r ack).1 x (srvA y F i c n r ack).2 h' ∧ (Δ ≤ 2 ∧ (Δ = tNm (fSt (srvA y F i c n r ack).1) - tNm (fSt F) ∨ (srvA y F i c n r ack).1 = fncA F i))) := by
    intro h1 st
    obtain ⟨o1, w1, L1, D1, cs1, c1', m1, z0, z1, z2, z3, z4⟩ := st
    obtain ⟨sq, oq1⟩ := z4 q oq (by have := kq.1; omega) (by have := kq.1; omega)
    obtain ⟨sm, om1⟩ := z4 m om (by omega) (by omega)
    have kq1 := kq.fr sq
    have km1 : hK h1 m = 6 := by rw [sm.1]; exact km
    have hm1 : hR h1 320 m = some q := by rw [(sm.2.1 320).2]; exact hm
    have ha1 : hI h1 321 m = ack := by rw [(sm.2.1 321).1]; exact ha
    obtain ⟨⟨b1', b2', b3'⟩, ⟨c1'', c2', c3', c4', c5', c6', c7'⟩, dd', f0', -, -⟩ := z0.2.2.2.1.2.2 i hi
    have k91 := z0.2.1.2.2.1
    refine s_83_20 (k3 := b1') (k6 := kq1.1) (hc := m_tabletOf) (kk := fun h2 x ⟨e1, e2⟩ => ?_)
    subst e1; subst e2
    have e451 : hI h2 451 q = r.2.1 := kq1.2.2.2.2.1
    have e450 : hI h2 450 q = r.1 := kq1.2.2.2.1
    rw [e451, c4']
    refine s_83_31 (kt := fun z => ?_) (kf := fun z => ?_)
    · refine s_83_48 (k3 := kq1.1) (kt := fun z5 => ?_) (kf := fun z5 => ?_)
      · rw [e450] at z5
        have eS : srvA y F i c n r ack = chgA y (fncA F i) i c n r ack := by unfold srvA; rw [if_neg z, if_neg z5]
        rw [eS]
        refine s_83_67 (k3 := k91) (hc := m_changeAt hP6 z0 z1 hi km1 hm1 kq1 ha1 hc6 hky hcut hb2 hH) (kk := fun h3 x st3 => s_83_73 ⟨_, rfl, (chW y (fSt (fncA F i)) i (chD (fncA F i) i r).2).2.1 - tNm (fSt (fncA F i)), (StpA.tr wf ok z2 z3 z4 st3).le (by omega) (by omega), ?_, ?_⟩)
        · have := (mkrA_len (N := y 20) (U := y 22) (rep := y 21) (mem := y 23) (up := nI (upN (tSv (fSt (fncA F i))))) (aw := tAw (fSt (fncA F i))) (nm := tNm (fSt (fncA F i))) (sv := i) (safe := sSf ((tSv (fSt (fncA F i))).getD i sr0)) (need := unQ (chD (fncA F i) i r).2) (lim := 1) (A := sLg ((tSv (fSt (fncA F i))).getD i sr0))).2.2
          show (mkrA _ _ _ _ _ _ _ _ _ _ _ _).2.1 - _ ≤ 2
          omega
        · rcases chgA_nm (F := fncA F i) (i := i) (c := c) (n := n) (r := r) (ack := ack) (y := y) (by omega) with q | q
          · exact Or.inl (by rw [q, nmF])
          · exact Or.inr q
      · rw [e450] at z5
        have eS : srvA y F i c n r ack = ((rdA y (fncA F i) i r.2.1).1, some (rdA y (fncA F i) i r.2.1).2) := by unfold srvA; rw [if_neg z, if_pos z5]
        rw [eS]
        have hrd := m_readAt (P := P) (ky := r.2.1) hP6 z0 z1 hi hb1
        rw [← e451] at hrd
        refine s_83_55 (k3 := kq1.1) (k6 := k91) (hc := hrd) (kk := fun h3 x st3 => s_83_64 (s_83_73 ⟨_, rfl, tNm (fSt (rdA y (fncA F i) i r.2.1).1) - tNm (fSt (fncA F i)), ?_, ?_, Or.inl (by rw [nmF])⟩))
        · rw [e451] at st3
          exact (StpA.tr wf ok z2 z3 z4 st3).le (by omega) (by omega)
        · have := (mkrA_len (N := y 20) (U := y 22) (rep := y 21) (mem := y 23) (up := nI (upN (tSv (fSt (fncA F i))))) (aw := tAw (fSt (fncA F i))) (nm := tNm (fSt (fncA F i))) (sv := i) (safe := sSf ((tSv (fSt (fncA F i))).getD i sr0)) (need := 0) (lim := 1) (A := sLg ((tSv (fSt (fncA F i))).getD i sr0))).2.2
          show (mkrA _ _ _ _ _ _ _ _ _ _ _ _).2.1 - _ ≤ 2
          omega
    · have eS : srvA y F i c n r ack = (fncA F i, some (3, 0, 0)) := if_pos z
      rw [eS]
      refine s_83_37 (kk := s_83_40 (e2 := rfl) (hc := m_0 (hK_O_new h2 1)) (kk := fun h3 e3 => s_83_47 ⟨_, rfl, 0, ?_, by omega, Or.inr rfl⟩))
      rw [e3]
      obtain ⟨n1, n2⟩ := newA_of z0.1.1 (3, 0, 0)
      exact (StpA.new wf ok ⟨o1, w1, L1, D1, cs1, c1', m1, z0, z1, z2, z3, z4⟩ n1 n2).le (by omega) (by omega)
  refine e_83 (s_83_0 (k3 := km) (k6 := b1) (kt := fun z => ?_) (kf := fun z => ?_))
  · rw [c2] at z
    rw [hm]
    have eF : fncA F i = F := if_neg (not_not_intro z)
    refine rest h ?_
    rw [eF]
    obtain ⟨o1, w1, L1, D1, cs1, c1', m1, z0, z1, z2, ⟨z3, z3', z3''⟩, z4⟩ := StpG.rf kS kF
    exact ⟨o1, w1, L1, D1, cs1, c1', m1, z0, z1, z2, ⟨by omega, by omega, z3''⟩, z4⟩
  · rw [c2] at z
    rw [hm]
    have eF : fncA F i = setS F (fgA (fSt F) i) := if_pos z
    have hfg := m_forget (P := P) kS hi
    rw [← a3] at hfg
    refine s_83_12 (k3 := k9) (e5 := a3) (k6 := k4) (hc := hfg) (kk := fun h1 st => rest h1 ?_)
    rw [eF]
    exact StpG.ofC kS kF st
/-- an answer is kept -/
theorem fcR.ans (k : fcR h o y ss cs F) (hc : c < 6) (hn : 1 ≤ n ∧ n ≤ 40) {a : Nat} (ka : ansV h a v) (oa : o a = y 9) : fcR (hpB h (cs.getD c cs0).2.2.1 (n - 1) (some a)) o y ss cs (ansW F c n v) := by
  obtain ⟨kA, kB, kC, kD, kE⟩ := k
  have at' := fun i (hi : i < 6) => cs_at kB.1 hi
  obtain ⟨f1, d1, d2, d3, d4, d5, d6, d7, d8, d9⟩ := at' c hc
  have k10 := kB.1.2.2.1
  have k11 := kA.2.2.1
  have sm : Sm9 h o (y 9) (hpB h (cs.getD c cs0).2.2.1 (n - 1) (some a)) o := Sm9.wB (Or.inr (Or.inl d6))
  have n11 : ¬ y 11 = (cs.getD c cs0).2.2.1 := kinds_ne (h := h) (by omega)
  have lcl : (fCl F).length = 6 := kC.1
  have gcl : ∀ j, ((fCl F).set c (((fCl F).getD c cl0).1, u1 ((fCl F).getD c cl0).2 (n - 1) (some v))).getD j cl0 = if j = c then (((fCl F).getD c cl0).1, u1 ((fCl F).getD c cl0).2 (n - 1) (some v)) else (fCl F).getD j cl0 := fun j => gD_set (by omega)
  have g1 : ∀ j, (((fCl F).set c (((fCl F).getD c cl0).1, u1 ((fCl F).getD c cl0).2 (n - 1) (some v))).getD j cl0).1 = ((fCl F).getD j cl0).1 := fun j => by
    rw [gcl]
    split
    · rename_i e; rw [e]
    · rfl
  refine ⟨kA, kB.wB (kinds_ne (h := h) (by omega)), ⟨by show ((fCl F).set c _).length = 6; rw [List.length_set]; exact lcl, fun j hj => ?_⟩, fun p hp => ?_, kE⟩
  · obtain ⟨v1, v2, v3⟩ := kC.2 j hj
    obtain ⟨t1, s1, s2, s3, s4, s5, s6, s7, s8, s9⟩ := at' j hj
    have n2 : ¬ (cs.getD j cs0).2.1 = (cs.getD c cs0).2.2.1 := kinds_ne (h := h) (by omega)
    show _ = (((fCl F).set c (((fCl F).getD c cl0).1, u1 ((fCl F).getD c cl0).2 (n - 1) (some v))).getD j cl0).1.length ∧ (∀ n', n' < (((fCl F).set c (((fCl F).getD c cl0).1, u1 ((fCl F).getD c cl0).2 (n - 1) (some v))).getD j cl0).1.length → ∃ q, hB (hpB h (cs.getD c cs0).2.2.1 (n - 1) (some a)) (cs.getD j cs0).2.1 n' = some q ∧ o q = y 9 ∧ reqV _ q j (n' + 1) ((((fCl F).set c (((fCl F).getD c cl0).1, u1 ((fCl F).getD c cl0).2 (n - 1) (some v))).getD j cl0).1.getD n' rq0)) ∧ ∀ n', n' < 40 → ansO _ o (y 9) (hB (hpB h (cs.getD c cs0).2.2.1 (n - 1) (some a)) (cs.getD j cs0).2.2.1 n') ((((fCl F).set c (((fCl F).getD c cl0).1, u1 ((fCl F).getD c cl0).2 (n - 1) (some v))).getD j cl0).2 n')
    rw [g1]
    refine ⟨v1, fun n' hn' => ?_, fun n' hn' => ?_⟩
    · obtain ⟨q, z1, z2, z3⟩ := v2 n' hn'
      have := z3.1
      exact ⟨q, by rw [rB_B, if_neg (fun z => n2 z.1)]; exact z1, z2, z3.fr (sm q z2 (by omega) (by omega) (by omega) (by omega) (by omega) (by omega)).1⟩
    · rw [gcl, rB_B]
      by_cases ej : j = c
      · subst ej
        rw [if_pos rfl]
        show ansO _ o (y 9) _ (if n' = n - 1 then some v else ((fCl F).getD j cl0).2 n')
        by_cases en : n' = n - 1
        · rw [if_pos ⟨rfl, en⟩, if_pos en]
          have := ka.1
          exact Or.inr ⟨a, v, rfl, rfl, ka.fr (sm a oa (by omega) (by omega) (by omega) (by omega) (by omega) (by omega)).1, oa⟩
        · rw [if_neg (fun z => en z.2), if_neg en]
          exact (v3 n' hn').fr sm
      · rw [if_neg ej, if_neg (fun z => (kB.2.2.2 j c hj hc ej).2.2 z.1)]
        exact (v3 n' hn').fr sm
  · rcases kD p hp with ⟨e1, e2⟩ | ⟨m, x, e1, e2, e3⟩
    · exact Or.inl ⟨by rw [rB_B, if_neg (fun z => n11 z.1)]; exact e1, e2⟩
    · refine Or.inr ⟨m, x, by rw [rB_B, if_neg (fun z => n11 z.1)]; exact e1, e2, ?_⟩
      have e3' := e3.fr sm
      obtain ⟨k1, k2, ⟨k3, k3', k3''⟩, ⟨q, k4, k5, k6⟩, k7⟩ := e3'
      refine ⟨k1, k2, ⟨k3, k3', ?_⟩, ⟨q, k4, k5, ?_⟩, k7⟩
      · show _ ≤ (((fCl F).set c _).getD x.1 cl0).1.length
        rw [g1]; exact k3''
      · show reqV _ q x.1 x.2.1 ((((fCl F).set c _).getD x.1 cl0).1.getD (x.2.1 - 1) rq0)
        rw [g1]; exact k6
end DLV
