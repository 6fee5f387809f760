/-! crash, restart, sleep, wake, cut, coordinator, owner -/
def stX (x : srA) (st : Int32) : srA := (st, sFe x, sLo x, sTb x, sSf x, sCu x, sMi x, sLg x, sLL x)
def stS (S : stA) (i : Nat) (st : Int32) : stA := ((tSv S).set i (stX ((tSv S).getD i sr0) st), S.2)
def cuX (x : srA) (v : Int32) : srA := (sSt x, sFe x, sLo x, sTb x, sSf x, v, sMi x, sLg x, sLL x)
def cuS (S : stA) (i : Nat) (v : Int32) : stA := ((tSv S).set i (cuX ((tSv S).getD i sr0) v), S.2)
def awS (S : stA) (v : Int32) : stA := (tSv S, (v, tNm S, tCl S, tAp S, tMe S), S.2.2)
def crsA (y : Nat → Nat) (F : fcT) (x : Int32) : fcT × Int32 := if inF x (nI (y 20)) = 0 then (F, 0) else if sSt ((tSv (fSt F)).getD x.toNatClampNeg sr0) = 2 then (F, 0) else (setS F (bdA (fSt F) x.toNatClampNeg), 1)
def mvdA (y : Nat → Nat) (F : fcT) (x fr to : Int32) : fcT × Int32 := if inF x (nI (y 20)) = 0 then (F, 0) else if ¬ sSt ((tSv (fSt F)).getD x.toNatClampNeg sr0) = fr then (F, 0) else (setS F (stS (fSt F) x.toNatClampNeg to), 1)
def cutA (y : Nat → Nat) (F : fcT) (x j : Int32) : fcT × Int32 := if inF x (nI (y 20)) = 0 ∨ j < -1 ∨ ¬ j ≤ nI (y 21) then (F, 0) else if ¬ sSt ((tSv (fSt F)).getD x.toNatClampNeg sr0) = 0 then (F, 0) else (setS F (cuS (fSt F) x.toNatClampNeg j), 1)
def corA (F : fcT) (v : Int32) : fcT := setS F (awS (fSt F) v)
def ownrA (F : fcT) (x : Int32) : Int32 := if inF x 8 = 0 then -1 else (tOw (fSt F)).getD x.toNatClampNeg 0
section BEF
variable {g : gcT} {P : pmT} {o o' w w' : Nat → Nat} {y : Nat → Nat} {R R2 : arT} {h h' h1 h2 : hpT} {B : Nat → Prop} {i j t c m n p q e : Nat} {ss : List Nat} {Ls L1 : List lsT} {Ds D1 : List (Nat × Nat)} {S S' : stA} {cs : csT} {F F' : fcT} {x1 x2 x3 st : Int32}
theorem RS.setSt (kS : RS g h o w y R R2 ss Ls Ds S) (hi : i < y 20) : EvV g P 41 [va_rf (some (y 0)), va_rf (some (ss.getD i 0)), .int st] h (StpC g h o y R R2 ss Ls Ds 0 0 (stS S i st)) := by
  obtain ⟨k0, k1, k4, kse, kde⟩ := kS.kinds
  have kS' := kS
  obtain ⟨⟨wf, hg, ok⟩, ⟨yo, hnm, k9, k12⟩, kA, kB, kC, kD⟩ := kS'
  obtain ⟨s1, s2, s3, s4, s5, s6⟩ := kse i hi
  have lsv := kB.1.2.1
  have y8 := yo.1.2
  obtain ⟨⟨a1, a2, a3⟩, ⟨b1, b2, b3, b4, b5, b6, b7⟩, dd, f0, ⟨f1, f2⟩, l⟩ := kB.2.2 i hi
  refine Ev.imp (rsA.up (P := P) (a' := 0) (x' := stX ((tSv S).getD i sr0) st) (st := st) wf hg ok kA s1 s2 a3 (by omega) (by omega) rfl) (fun h' r ⟨er, t1, t2, t3, t4, t5, t6, t7⟩ => ⟨er, ?_⟩)
  have nL : ∀ z, hK h z = 5 → ¬ (z = y 0 ∨ z = ss.getD i 0) := by
    rintro z hz (q | q)
    · rw [q] at hz; omega
    · rw [q] at hz; omega
  have ki : srvR g h' o w (y 20) (y 22) S.2.1.2.1 (ss.getD i 0) i (Ls.getD i ls0) (stX ((tSv S).getD i sr0) st) := by
    refine ⟨⟨by rw [(t2.1.2.1 _ (wf.lt (by omega))).1]; exact a1, a2, by rw [t6 576 (by decide)]; exact a3⟩, ⟨t7, by rw [t6 578 (by decide)]; exact b2, by rw [t6 579 (by decide)]; exact b3, by rw [t6 580 (by decide)]; exact b4, by rw [t6 581 (by decide)]; exact b5, by rw [t6 582 (by decide)]; exact b6, by rw [t6 583 (by decide)]; exact b7⟩, dd, by rw [t3]; exact f0, ⟨f1.fr wf hg t2 (nL _ s3) (Nat.le_refl _), f2⟩, ?_⟩
    rcases l with ⟨l1, l2, l3⟩ | ⟨L', k', A', l1, l2, l3, l4, l5⟩
    · exact Or.inl ⟨l1, l2, by rw [t3]; exact l3⟩
    · exact Or.inr ⟨L', k', A', l1, l2, by rw [t3]; exact l3, l4.fr wf hg t2 (nL _ l4.1.r.2) (Nat.le_refl _), l5⟩
  have cgB : CG (Bi y ss Ls i) 0 0 h o h' o := t2.mono ok (fun z _ q => q.elim Or.inl (fun q => Or.inr (Or.inl q))) (Nat.le_refl _) (Nat.le_refl _)
  obtain ⟨r1, r2, r3, r4⟩ := RS.srv kS hi cgB t1 ki (Nat.le_refl _) hnm (fun z hz => absurd rfl hz)
  have es : Ls.set i (Ls.getD i ls0) = Ls := set_self
  rw [es] at r1
  exact ⟨o, w, Ls, Ds, 0, 0, r1, r2.s ok, Cst.of r2 (by unfold fxC; rw [t5, t5, t5]) (Nat.le_refl _) (Nat.le_refl _)⟩
theorem RS.at (kS : RS g h o w y R R2 ss Ls Ds S) {x : Int32} (hx : ¬ inF x (nI (y 20)) = 0) : ∃ i, i < y 20 ∧ x = nI i ∧ x.toNatClampNeg = i ∧ vinD x (hN h (y 1)) ∧ hB h (y 1) x.toNatClampNeg = some (ss.getD i 0) := by
  have y8 := kS.2.1.1.1.2
  obtain ⟨i, hi, ei⟩ := inF_1 (by omega) hx
  obtain ⟨⟨l1, l2, l3⟩, ⟨⟨v1, v2, v3, v4⟩, oe⟩, kb⟩ := kS.2.2.2.1
  refine ⟨i, hi, ei, by rw [ei]; exact nI_clamp (by omega), by rw [v2, l1, ei]; exact vin_nI hi (by omega), ?_⟩
  have : i < ss.length := by omega
  have ec : x.toNatClampNeg = i := by rw [ei]; exact nI_clamp (by omega)
  rw [ec, (v4 i this).1, List.getD_eq_getElem?_getD, List.getElem?_eq_getElem this]; rfl
theorem m_isSrv (kS : RS g h o w y R R2 ss Ls Ds S) (kA : fcA h o y) : EvI g P 92 [va_rf (some (y 9)), .int x1] h (fun h' r => h' = h ∧ r = inF x1 (nI (y 20))) := by
  have k9 := kS.2.1.2.2.1
  obtain ⟨⟨xs, st⟩, -⟩ := kS.2.2.1
  have e643 : hR h 643 (y 0) = some (y 1) := st.1.2.1
  obtain ⟨⟨l1, l2, l3⟩, ⟨⟨v1, v2, v3, v4⟩, oe⟩, kb⟩ := kS.2.2.2.1
  have := m_isServer (g := g) (P := P) (x := x1) k9 kA.1.2.1 st.1.1 e643 v1
  rw [v2, l1] at this
  exact this
theorem m_crash (kS : RS g h o w y R R2 ss Ls Ds (fSt F)) (kF : fcR h o y ss cs F) : EvI g P 71 [va_rf (some (y 9)), .int x1] h (fun h' z => z = (crsA y F x1).2 ∧ StpF g h o y R R2 ss Ls Ds 12 (nf 4 + nf 0 + 40) (crsA y F x1).1 h') := by
  obtain ⟨k0, k1, k4, kse, kde⟩ := kS.kinds
  have k9 := kS.2.1.2.2.1
  obtain ⟨⟨a1, a2, a3⟩, -⟩ := kF.1
  obtain ⟨⟨xs, st⟩, -⟩ := kS.2.2.1
  have e643 : hR h 643 (y 0) = some (y 1) := st.1.2.1
  have rf0 : StpF g h o y R R2 ss Ls Ds 12 (nf 4 + nf 0 + 40) F h := (StpF.rf kS kF).le (by omega) (by omega)
  refine e_71 (s_71_0 (k3 := k9) (hc := m_isSrv kS kF.1) (kk := fun h2 z ⟨e1, e2⟩ => ?_))
  subst e1; subst e2
  refine s_71_5 (kt := fun z => s_71_24 ⟨_, rfl, ?_⟩) (kf := fun z => ?_)
  · have : crsA y F x1 = (F, 0) := if_pos z
    rw [this]; exact ⟨rfl, rf0⟩
  · obtain ⟨i, hi, ei, ec, hv, hB⟩ := kS.at z
    obtain ⟨⟨b1, b2, b3⟩, ⟨c1, -⟩, -⟩ := kS.2.2.2.1.2.2 i hi
    refine s_71_8 (k3 := k9) (e5 := a2) (k6 := k0) (e8 := e643) (k9 := k1) (i10 := hv) (e12 := hB) (k13 := b1) (kt := fun z2 => ?_) (kf := fun z2 => s_71_24 ⟨_, rfl, ?_⟩)
    · rw [c1] at z2
      have eA : crsA y F x1 = (setS F (bdA (fSt F) i), 1) := by unfold crsA; rw [if_neg z, ec, if_neg z2]
      rw [eA]
      have hbd := m_bringDown (P := P) kS hi
      rw [← a3, ← hB] at hbd
      refine s_71_26 (k3 := k9) (e5 := a2) (k6 := k0) (e8 := e643) (k9 := k1) (i10 := hv) (e12 := a3) (k13 := k4) (hc := hbd) (kk := fun h3 st => s_71_42 ⟨_, rfl, rfl, (StpG.ofC kS kF st).f⟩)
    · rw [c1] at z2
      have eA : crsA y F x1 = (F, 0) := by unfold crsA; rw [if_neg z, ec, if_pos z2]
      rw [eA]; exact ⟨rfl, rf0⟩
theorem m_mvd (kS : RS g h o w y R R2 ss Ls Ds (fSt F)) (kF : fcR h o y ss cs F) : EvI g P 93 [va_rf (some (y 9)), .int x1, .int x2, .int x3] h (fun h' z => z = (mvdA y F x1 x2 x3).2 ∧ StpF g h o y R R2 ss Ls Ds 0 0 (mvdA y F x1 x2 x3).1 h') := by
  obtain ⟨k0, k1, k4, kse, kde⟩ := kS.kinds
  have k9 := kS.2.1.2.2.1
  obtain ⟨⟨a1, a2, a3⟩, -⟩ := kF.1
  obtain ⟨⟨xs, st⟩, -⟩ := kS.2.2.1
  have e643 : hR h 643 (y 0) = some (y 1) := st.1.2.1
  have rf0 := StpF.rf kS kF
  refine e_93 (s_93_0 (k3 := k9) (hc := m_isSrv kS kF.1) (kk := fun h2 z ⟨e1, e2⟩ => ?_))
  subst e1; subst e2
  refine s_93_5 (kt := fun z => s_93_24 ⟨_, rfl, ?_⟩) (kf := fun z => ?_)
  · have : mvdA y F x1 x2 x3 = (F, 0) := if_pos z
    rw [this]; exact ⟨rfl, rf0⟩
  · obtain ⟨i, hi, ei, ec, hv, hB⟩ := kS.at z
    obtain ⟨⟨b1, b2, b3⟩, ⟨c1, -⟩, -⟩ := kS.2.2.2.1.2.2 i hi
    refine s_93_8 (k3 := k9) (e5 := a2) (k6 := k0) (e8 := e643) (k9 := k1) (i10 := hv) (e12 := hB) (k13 := b1) (kt := fun z2 => ?_) (kf := fun z2 => s_93_24 ⟨_, rfl, ?_⟩)
    · rw [c1] at z2
      have eA : mvdA y F x1 x2 x3 = (setS F (stS (fSt F) i x3), 1) := by unfold mvdA; rw [if_neg z, ec, if_neg (not_not_intro z2)]
      rw [eA]
      have hst := RS.setSt (P := P) (st := x3) kS hi
      rw [← a2, ← hB] at hst
      refine s_93_26 (k3 := k9) (e5 := a2) (k6 := k0) (e8 := e643) (k9 := k1) (i10 := hv) (hc := hst) (kk := fun h3 st => s_93_43 ⟨_, rfl, rfl, (StpG.ofC kS kF st).f⟩)
    · rw [c1] at z2
      have eA : mvdA y F x1 x2 x3 = (F, 0) := by unfold mvdA; rw [if_neg z, ec, if_pos z2]
      rw [eA]; exact ⟨rfl, rf0⟩
theorem mvdA_b : (mvdA y F x1 x2 x3).2 = 0 ∨ (mvdA y F x1 x2 x3).2 = 1 := by
  unfold mvdA
  split
  · exact Or.inl rfl
  · split
    · exact Or.inl rfl
    · exact Or.inr rfl
theorem m_rst (kS : RS g h o w y R R2 ss Ls Ds (fSt F)) (kF : fcR h o y ss cs F) : EvI g P 72 [va_rf (some (y 9)), .int x1] h (fun h' z => z = (mvdA y F x1 2 0).2 ∧ StpF g h o y R R2 ss Ls Ds 0 0 (mvdA y F x1 2 0).1 h') := e_72 (s_72_0 (k3 := kS.2.1.2.2.1) (hc := m_mvd kS kF) (kk := fun h' r k => s_72_7 (b1 := by rw [k.1]; exact mvdA_b) (hq := ⟨_, rfl, k⟩)))
theorem m_slp (kS : RS g h o w y R R2 ss Ls Ds (fSt F)) (kF : fcR h o y ss cs F) : EvI g P 73 [va_rf (some (y 9)), .int x1] h (fun h' z => z = (mvdA y F x1 0 1).2 ∧ StpF g h o y R R2 ss Ls Ds 0 0 (mvdA y F x1 0 1).1 h') := e_73 (s_73_0 (k3 := kS.2.1.2.2.1) (hc := m_mvd kS kF) (kk := fun h' r k => s_73_7 (b1 := by rw [k.1]; exact mvdA_b) (hq := ⟨_, rfl, k⟩)))
theorem m_wak (kS : RS g h o w y R R2 ss Ls Ds (fSt F)) (kF : fcR h o y ss cs F) : EvI g P 74 [va_rf (some (y 9)), .int x1] h (fun h' z => z = (mvdA y F x1 1 0).2 ∧ StpF g h o y R R2 ss Ls Ds 0 0 (mvdA y F x1 1 0).1 h') := e_74 (s_74_0 (k3 := kS.2.1.2.2.1) (hc := m_mvd kS kF) (kk := fun h' r k => s_74_7 (b1 := by rw [k.1]; exact mvdA_b) (hq := ⟨_, rfl, k⟩)))
theorem m_cut (kS : RS g h o w y R R2 ss Ls Ds (fSt F)) (kF : fcR h o y ss cs F) : EvI g P 75 [va_rf (some (y 9)), .int x1, .int x2] h (fun h' z => z = (cutA y F x1 x2).2 ∧ StpF g h o y R R2 ss Ls Ds 0 0 (cutA y F x1 x2).1 h') := by
  obtain ⟨k0, k1, k4, kse, kde⟩ := kS.kinds
  have wf := kS.1.1
  have ok := kS.1.2.2
  have k9 := kS.2.1.2.2.1
  have k12 := kS.2.1.2.2.2
  obtain ⟨⟨a1, a2, a3⟩, -⟩ := kF.1
  obtain ⟨⟨xs, st⟩, -⟩ := kS.2.2.1
  have e643 : hR h 643 (y 0) = some (y 1) := st.1.2.1
  have e640 : hI h 640 (y 0) = nI (y 21) := st.1.2.2.2.2.1
  have rf0 := StpF.rf kS kF
  have no : inF x1 (nI (y 20)) = 0 ∨ x2 < -1 ∨ ¬ x2 ≤ nI (y 21) → cutA y F x1 x2 = (F, 0) := fun z => if_pos z
  refine e_75 (s_75_0 (k3 := k9) (hc := m_isSrv kS kF.1) (kk := fun h2 z ⟨e1, e2⟩ => ?_))
  subst e1; subst e2
  refine s_75_5 (kt := fun z => s_75_24 ⟨_, rfl, by rw [no (Or.inl z)]; exact ⟨rfl, rf0⟩⟩) (kf := fun z => ?_)
  refine s_75_8 (kt := fun z => s_75_24 ⟨_, rfl, by rw [no (Or.inr (Or.inl z))]; exact ⟨rfl, rf0⟩⟩) (kf := fun z1 => ?_)
  refine s_75_13 (k3 := k9) (e5 := a2) (k6 := k0) (kt := fun z2 => ?_) (kf := fun z2 => s_75_24 ⟨_, rfl, by rw [no (Or.inr (Or.inr (by rw [← e640]; exact z2)))]; exact ⟨rfl, rf0⟩⟩)
  rw [e640] at z2
  have n3 : ¬ (inF x1 (nI (y 20)) = 0 ∨ x2 < -1 ∨ ¬ x2 ≤ nI (y 21)) := by
    rintro (q | q | q)
    · exact z q
    · exact z1 q
    · exact q z2
  obtain ⟨i, hi, ei, ec, hv, hB⟩ := kS.at z
  obtain ⟨⟨b1, b2, b3⟩, ⟨c1, c2, c3, c4, c5, c6, c7⟩, dd, -⟩ := kS.2.2.2.1.2.2 i hi
  refine s_75_26 (k3 := k9) (e5 := a2) (k6 := k0) (e8 := e643) (k9 := k1) (i10 := hv) (e12 := hB) (k13 := b1) (kt := fun z3 => ?_) (kf := fun z3 => s_75_43 ⟨_, rfl, ?_⟩)
  · rw [c1] at z3
    have eA : cutA y F x1 x2 = (setS F (cuS (fSt F) i x2), 1) := by unfold cutA; rw [if_neg n3, ec, if_neg (not_not_intro z3)]
    rw [eA, hB]
    obtain ⟨s1, s2, s3⟩ := RS.sI (f := 582) (v := x2) (x' := cuX ((tSv (fSt F)).getD i sr0) x2) kS hi (by decide) rfl rfl rfl rfl rfl rfl rfl rfl rfl dd
    have n9 : ¬ y 9 = ss.getD i 0 := kinds_ne (h := h2) (by omega)
    refine s_75_45 (k3 := b1) (hq := ⟨_, rfl, rfl, o, w, Ls, Ds, cs, 0, 0, s1, fcR.fr wf k9 kF s2 n9, s2.mono ok (fun z _ q => by rw [q]; exact kinds_ne (h := h2) (by omega)) (Nat.le_refl _) (Nat.le_refl _), Cst.of s2 s3 (Nat.le_refl _) (Nat.le_refl _)⟩)
  · rw [c1] at z3
    have eA : cutA y F x1 x2 = (F, 0) := by unfold cutA; rw [if_neg n3, ec, if_pos z3]
    rw [eA]; exact ⟨rfl, rf0⟩
theorem m_coord (kS : RS g h o w y R R2 ss Ls Ds (fSt F)) (kF : fcR h o y ss cs F) (hx : x1 = 0 ∨ x1 = 1) : EvV g P 76 [va_rf (some (y 9)), .int x1] h (StpF g h o y R R2 ss Ls Ds 0 0 (corA F x1)) := by
  obtain ⟨k0, k1, k4, kse, kde⟩ := kS.kinds
  have wf := kS.1.1
  have ok := kS.1.2.2
  have hg := kS.1.2.1
  have k9 := kS.2.1.2.2.1
  have k12 := kS.2.1.2.2.2
  obtain ⟨⟨a1, a2, a3⟩, -⟩ := kF.1
  refine e_76 (s_76_0 (k3 := k9) (e5 := a2) (k6 := k0) (b7 := hx) (hq := ⟨rfl, ?_⟩))
  have kS' := kS
  obtain ⟨-, ⟨yo, hnm, -, -⟩, kA, kB, kC, kD⟩ := kS'
  obtain ⟨⟨xs, st⟩, ⟨i1, i2, i3, i4, i5⟩, z⟩ := kA
  have o0 := st.2.1.1
  have cg : CG (fun z => z = y 0) 0 0 h o (hpI h 647 (y 0) x1) o := CG.wI wf ok (by omega) (by omega) (by rw [o0]; exact o0) (by decide)
  have ne : ∀ z, ¬ hK h z = 11 → ¬ z = y 0 := fun z hz => kinds_ne (h := h) (by omega)
  have rI : ∀ f a, ¬ f = 647 → hI (hpI h 647 (y 0) x1) f a = hI h f a := fun f a hf => by rw [rI_I, if_neg (fun q => hf q.1)]
  have kA' : rsA g (hpI h 647 (y 0) x1) o y R (upN (tSv (fSt F))) (x1, tNm (fSt F), tCl (fSt F), tAp (fSt F), tMe (fSt F)) := by
    obtain ⟨⟨s1, s2, s3, s4, s5, s6, s7, s8⟩, s9, v, l1, ⟨⟨t1, t2, t3⟩, t4⟩, l3⟩ := st
    refine ⟨⟨xs, ⟨s1, s2, s3, s4, by rw [rI _ _ (by decide)]; exact s5, by rw [rI _ _ (by decide)]; exact s6, by rw [rI _ _ (by decide)]; exact s7, by rw [rI _ _ (by decide)]; exact s8⟩, s9, v, l1, ⟨⟨t1, by rw [rI _ _ (by decide)]; exact t2, t3⟩, t4⟩, l3⟩, ⟨by rw [rI _ _ (by decide)]; exact i1, by rw [rI_I, if_pos ⟨rfl, rfl⟩], by rw [rI _ _ (by decide)]; exact i3, by rw [rI _ _ (by decide)]; exact i4, by rw [rI _ _ (by decide)]; exact i5⟩, hx⟩
  have kS2 : RS g (hpI h 647 (y 0) x1) o w y R R2 ss Ls Ds (fSt (corA F x1)) := ⟨⟨cg.w, hg.ch cg.1, ok⟩, ⟨yo, hnm, k9, k12⟩, kA', rsB.fr wf hg kB cg (fun j hj => ⟨ne _ (by have := (kse j hj).1; omega), ne _ (by have := (kse j hj).2.2.1; omega), fun z hz => ne _ (by have := ((kse j hj).2.2.2.2.2 z hz).1; omega)⟩) (ne _ (by omega)) (Nat.le_refl _), rsC.fr wf hg kC cg (fun j hj => ne _ (by have := (kde j hj).1; omega)) (Nat.le_refl _) (fun _ _ => rfl), rsD.fr wf hg kD cg (ne _ (by omega))⟩
  exact ⟨o, w, Ls, Ds, cs, 0, 0, kS2, fcR.fr wf k9 kF cg (ne _ (by omega)), cg.mono ok (fun z _ q => by rw [q]; exact kinds_ne (h := h) (by omega)) (Nat.le_refl _) (Nat.le_refl _), Cst.of cg rfl (Nat.le_refl _) (Nat.le_refl _)⟩
theorem m_owner (kS : RS g h o w y R R2 ss Ls Ds (fSt F)) (kF : fcR h o y ss cs F) : EvI g P 78 [va_rf (some (y 9)), .int x1] h (fun h' z => h' = h ∧ z = ownrA F x1) := by
  obtain ⟨k0, k1, k4, kse, kde⟩ := kS.kinds
  have k9 := kS.2.1.2.2.1
  obtain ⟨⟨a1, a2, a3⟩, -⟩ := kF.1
  obtain ⟨b1, b2, b3, b4, b5, b6⟩ := kS.2.2.2.2.2.2.1
  refine e_78 (s_78_0 (kt := fun z => s_78_10 (s_78_23 ⟨_, rfl, rfl, ?_⟩)) (kf := fun z => s_78_4 (kt := fun z1 => ?_) (kf := fun z1 => s_78_10 (s_78_23 ⟨_, rfl, rfl, ?_⟩))))
  · unfold ownrA inF
    rw [if_pos z, if_pos rfl]
  · have hx : ¬ inF x1 8 = 0 := by
      unfold inF
      rw [if_neg z, if_neg (Int32.not_le.mpr z1)]; decide
    obtain ⟨t, ht, et⟩ := inF_1 (n := 8) (by decide) hx
    have ec : x1.toNatClampNeg = t := by rw [et]; exact nI_clamp (by omega)
    refine s_78_14 (k3 := k9) (e5 := a3) (k6 := k4) (e8 := b1) (k9 := b2) (i10 := by rw [b3, et]; exact vin_nI ht (by decide)) (kk := s_78_23 ⟨_, rfl, rfl, ?_⟩)
    unfold ownrA
    rw [if_neg hx, ec, b6 t ht]
  · unfold ownrA inF
    rw [if_neg z, if_pos (Int32.not_lt.mp z1), if_pos rfl]
end BEF
