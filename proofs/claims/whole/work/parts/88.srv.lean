/-! readAt, answerWithoutEntry, decide -/
def setS (F : fcT) (S : stA) : fcT := (S, F.2)
def Sm13 (h : hpT) (o : Nat → Nat) (r9 : Nat) (h' : hpT) (o' : Nat → Nat) : Prop := ∀ a, o a = r9 → ¬ hK h a = 0 → ¬ hK h a = 13 → Sm h h' a ∧ o' a = o a
def StpA (g : gcT) (h : hpT) (o : Nat → Nat) (y : Nat → Nat) (R R2 : arT) (ss : List Nat) (Ls : List lsT) (Ds : List (Nat × Nat)) (kc km : Nat) (F' : fcT) (z : Option Nat) (an : Option anT) (h' : hpT) : Prop := ∃ o' w' Ls' Ds' cs' c m, RS g h' o' w' y R R2 ss Ls' Ds' (fSt F') ∧ fcR h' o' y ss cs' F' ∧ CG (B9 y) c m h o h' o' ∧ Cst g y h Ls Ds h' Ls' Ds' kc km ∧ Sm13 h o (y 9) h' o' ∧ ansO h' o' (y 9) z an
/-- a step that leaves clients and the NET alone -/
def StpG (g : gcT) (h : hpT) (o : Nat → Nat) (y : Nat → Nat) (R R2 : arT) (ss : List Nat) (Ls : List lsT) (Ds : List (Nat × Nat)) (kc km : Nat) (F' : fcT) (h' : hpT) : Prop := ∃ o' w' Ls' Ds' cs' c m, RS g h' o' w' y R R2 ss Ls' Ds' (fSt F') ∧ fcR h' o' y ss cs' F' ∧ CG (B9 y) c m h o h' o' ∧ Cst g y h Ls Ds h' Ls' Ds' kc km ∧ Sm13 h o (y 9) h' o'
def rdA (y : Nat → Nat) (F : fcT) (i : Nat) (ky : Int32) : fcT × anT := (setS F (rmW (fSt F) i (mkrS y (fSt F) i 0 1)), if (mkrS y (fSt F) i 0 1).2.2.2 = 0 then (4, 0, 0) else match objA ky (mkrS y (fSt F) i 0 1).1.1 with
  | none => (1, 0, 0)
  | some p => (0, pVa p, pVe p))
def erlA (A : alT) (c n : Nat) (ak : Int32) : Option anT := if ¬ ak ≤ nI n then some (5, 0, 0) else ((allP A).find? (resA (nI c) (nI n))).map (fun p => (pSt p, pVa p, pVe p))
def oVe (p : Option pT) : Int32 := match p with
  | none => 0
  | some p => pVe p
def oVa (p : Option pT) : Int32 := match p with
  | none => 0
  | some p => pVa p
def decA (sf : Int32) (r : rqT) (old : Option pT) : anT × Option ptT :=
  if r.1 = 2 ∧ ¬ oVe old = r.2.2.2 then ((2, oVa old, oVe old), none)
  else if r.1 = 3 then (match old with
    | none => ((1, 0, 0), none)
    | some _ => ((0, 0, sf + 1), some (3, -1, -1, r.2.1, 0, 0, sf + 1, 0)))
  else ((0, r.2.2.1, sf + 1), some (2, -1, -1, r.2.1, 0, r.2.2.1, sf + 1, 0))
section SRV
variable {g : gcT} {P : pmT} {o o' w w' : Nat → Nat} {y : Nat → Nat} {R R2 : arT} {h h' h1 h2 : hpT} {B : Nat → Prop} {i j t c m n p q : Nat} {ss : List Nat} {Ls L1 : List lsT} {Ds D1 : List (Nat × Nat)} {S S' : stA} {cs : csT} {F F' : fcT} {r : rqT} {v : anT} {kc km kc' km' : Nat} {ky ak : Int32}
theorem Sm13.of (wf : hWF h) (cg : CG B c m h o h' o') (o9 : o (y 9) = y 9) (nB : ¬ B (y 9)) : Sm13 h o (y 9) h' o' := fun a ha h0 _ => ⟨cg.sm wf (by rw [ha, o9]; exact nB) h0, cg.2.1 a (wf.lt h0)⟩
theorem Sm13.rf : Sm13 h o t h o := fun _ _ _ _ => ⟨⟨rfl, fun _ => ⟨rfl, rfl⟩, rfl, fun _ => ⟨rfl, rfl⟩⟩, rfl⟩
theorem Sm13.tr {o1 o2 : Nat → Nat} (x : Sm13 h o t h1 o1) (z : Sm13 h1 o1 t h2 o2) : Sm13 h o t h2 o2 := fun a ha h0 h13 => by
  obtain ⟨x1, x2⟩ := x a ha h0 h13
  obtain ⟨z1, z2⟩ := z a (x2.trans ha) (by rw [x1.1]; exact h0) (by rw [x1.1]; exact h13)
  exact ⟨x1.tr z1, z2.trans x2⟩
theorem StpG.ofC (kS : RS g h o w y R R2 ss Ls Ds (fSt F)) (kF : fcR h o y ss cs F) (z : StpC g h o y R R2 ss Ls Ds kc km S' h') : StpG g h o y R R2 ss Ls Ds kc km (setS F S') h' := by
  obtain ⟨o2, w2, L2, D2, c2, m2, z1, z2, z3⟩ := z
  exact ⟨o2, w2, L2, D2, cs, c2, m2, z1, fcR.fr kS.1.1 kS.2.1.2.2.1 kF z2 (fun q => q.1 rfl), z2.mono kS.1.2.2 (fun _ _ q => q.2) (Nat.le_refl _) (Nat.le_refl _), z3, Sm13.of kS.1.1 z2 kF.1.1.1 (fun q => q.1 rfl)⟩
theorem StpG.rf (kS : RS g h o w y R R2 ss Ls Ds (fSt F)) (kF : fcR h o y ss cs F) : StpG g h o y R R2 ss Ls Ds 0 0 F h := ⟨o, w, Ls, Ds, cs, 0, 0, kS, kF, CG.rf kS.1.1 kS.1.2.2 _, ⟨Nat.le_refl _, Nat.le_refl _, Nat.le_refl _⟩, Sm13.rf⟩
theorem StpG.f (x : StpG g h o y R R2 ss Ls Ds kc km F' h') : StpF g h o y R R2 ss Ls Ds kc km F' h' := by
  obtain ⟨o2, w2, L2, D2, cs2, c2, m2, z0, z1, z2, z3, -⟩ := x
  exact ⟨o2, w2, L2, D2, cs2, c2, m2, z0, z1, z2, z3⟩
theorem StpG.tr (wf : hWF h) (ok : oOK o) {o1 : Nat → Nat} (cg : CG (B9 y) c m h o h1 o1) (cs : Cst g y h Ls Ds h1 L1 D1 kc km) (sm : Sm13 h o (y 9) h1 o1) (z : StpG g h1 o1 y R R2 ss L1 D1 kc' km' F' h2) : StpG g h o y R R2 ss Ls Ds (kc + kc') (km + km') F' h2 := by
  obtain ⟨o2, w2, L2, D2, cs2, c2, m2, z0, z1, z2, z3, z4⟩ := z
  exact ⟨o2, w2, L2, D2, cs2, _, _, z0, z1, CG.tr wf ok cg z2, cs.tr z3, sm.tr z4⟩
theorem StpF.tr (wf : hWF h) (ok : oOK o) {o1 : Nat → Nat} (cg : CG (B9 y) c m h o h1 o1) (cs : Cst g y h Ls Ds h1 L1 D1 kc km) (z : StpF g h1 o1 y R R2 ss L1 D1 kc' km' F' h2) : StpF g h o y R R2 ss Ls Ds (kc + kc') (km + km') F' h2 := by
  obtain ⟨o2, w2, L2, D2, cs2, c2, m2, z0, z1, z2, z3⟩ := z
  exact ⟨o2, w2, L2, D2, cs2, _, _, z0, z1, CG.tr wf ok cg z2, cs.tr z3⟩
theorem StpA.le {q0 : Option Nat} {an : Option anT} (z : StpA g h o y R R2 ss Ls Ds kc km F' q0 an h') (h1 : kc ≤ kc') (h2 : km ≤ km') : StpA g h o y R R2 ss Ls Ds kc' km' F' q0 an h' := by
  obtain ⟨o2, w2, L2, D2, cs2, c2, m2, z0, z1, z2, ⟨z3, z4, z5⟩, z6⟩ := z
  exact ⟨o2, w2, L2, D2, cs2, c2, m2, z0, z1, z2, ⟨by omega, by omega, z5⟩, z6⟩
theorem StpA.tr (wf : hWF h) (ok : oOK o) {o1 : Nat → Nat} {z : Option Nat} {an : Option anT} (cg : CG (B9 y) c m h o h1 o1) (cs : Cst g y h Ls Ds h1 L1 D1 kc km) (sm : Sm13 h o (y 9) h1 o1) (x : StpA g h1 o1 y R R2 ss L1 D1 kc' km' F' z an h2) : StpA g h o y R R2 ss Ls Ds (kc + kc') (km + km') F' z an h2 := by
  obtain ⟨o2, w2, L2, D2, cs2, c2, m2, z0, z1, z2, z3, z4, z5⟩ := x
  exact ⟨o2, w2, L2, D2, cs2, _, _, z0, z1, CG.tr wf ok cg z2, cs.tr z3, sm.tr z4, z5⟩
theorem newA_of (wf : hWF h) (v : anT) : Ch (fun _ => False) 1 (nf 1) h (wIs (hpO h 1) (hS h) [(64, v.1), (65, v.2.1), (66, v.2.2)]) ∧ ansV (wIs (hpO h 1) (hS h) [(64, v.1), (65, v.2.1), (66, v.2.2)]) (hS h) v := by
  have w0 := wf.O 1
  refine ⟨Ch.new (A := fun _ => False) wf (Ch.wIs _ w0 (Nat.lt_succ_self _)), by rw [wIs_K]; exact hK_O_new h 1, ?_, ?_, ?_⟩
  · rw [rI_wIs, if_pos rfl]; rfl
  · rw [rI_wIs, if_pos rfl]; rfl
  · rw [rI_wIs, if_pos rfl]; rfl
/-- a new ANSWER behind a step -/
theorem StpA.new (wf : hWF h) (ok : oOK o) (x : StpG g h o y R R2 ss Ls Ds kc km F' h1) (c2 : Ch (fun _ => False) 1 (nf 1) h1 h2) (ha : ansV h2 (hS h1) v) : StpA g h o y R R2 ss Ls Ds (kc + 1) (km + nf 1) F' (some (hS h1)) (some v) h2 := by
  obtain ⟨o1, w1, L1, D1, cs1, c1, m1, z0, z1, z2, z3, z4⟩ := x
  have k9 := z0.2.1.2.2.1
  have cg := cgN (o := o1) (y := y) z0.1.1 z0.1.2.2 k9 c2
  obtain ⟨r1, r2⟩ := RS.f9 z0 cg (fun _ q => q.elim)
  exact ⟨_, w1, L1, D1, cs1, _, _, r1, fcR.fr z0.1.1 k9 z1 cg (fun q => q), CG.tr wf ok z2 (cg.mono z0.1.2.2 (fun _ _ q => q.elim) (Nat.le_refl _) (Nat.le_refl _)), z3.tr (Cst.of cg r2 (Nat.le_refl _) (Nat.le_refl _)), z4.tr (Sm13.of z0.1.1 cg z1.1.1.1 (fun q => q)), Or.inr ⟨hS h1, v, rfl, rfl, ha, if_neg (Nat.lt_irrefl _)⟩⟩
theorem m_readAt (hP6 : P 206 = cpyO) (kS : RS g h o w y R R2 ss Ls Ds (fSt F)) (kF : fcR h o y ss cs F) (hi : i < y 20) (hb : (mkrS y (fSt F) i 0 1).2.1 ≤ 80000) : EvA g P 84 [va_rf (some (y 9)), va_rf (some (ss.getD i 0)), .int ky] h (fun h' z => StpA g h o y R R2 ss Ls Ds (9 * (tNm (fSt (rdA y F i ky).1) - tNm (fSt F)) + 1) (kmO y * (tNm (fSt (rdA y F i ky).1) - tNm (fSt F)) + nf 1) (rdA y F i ky).1 z (some (rdA y F i ky).2) h') := by
  obtain ⟨k0, k1, k4, kse, kde⟩ := kS.kinds
  have wf := kS.1.1
  have ok := kS.1.2.2
  have k9 := kS.2.1.2.2.1
  obtain ⟨⟨a1, a2, a3⟩, -⟩ := kF.1
  have hrm := RS.room (P := P) (need := 0) (lim := 1) hP6 kS hi hb
  rw [← a2] at hrm
  refine e_84 (s_84_0 (k3 := k9) (e5 := a2) (k6 := k0) (hc := hrm) (kk := fun h1 x ⟨e1, st⟩ => ?_))
  have stF := StpG.ofC kS kF (st.c ok)
  have fin : ∀ v z, (rdA y F i ky).2 = v → z = some (hS h1) → StpA g h o y R R2 ss Ls Ds (9 * (tNm (fSt (rdA y F i ky).1) - tNm (fSt F)) + 1) (kmO y * (tNm (fSt (rdA y F i ky).1) - tNm (fSt F)) + nf 1) (rdA y F i ky).1 z (some (rdA y F i ky).2) (wIs (hpO h1 1) (hS h1) [(64, v.1), (65, v.2.1), (66, v.2.2)]) := by
    intro v z ev ez
    obtain ⟨n1, n2⟩ := newA_of (h := h1) (by obtain ⟨o2, w2, L2, c2, m2, z1, -⟩ := st; exact z1.1.1) v
    rw [ev, ez]
    exact StpA.new wf ok stF n1 n2
  refine s_84_10 (kt := fun z => ?_) (kf := fun z => s_84_13 (kk := s_84_16 (e2 := rfl) (hc := m_0 (hK_O_new h1 1)) (kk := fun h2 e => s_84_23 ⟨_, rfl, ?_⟩)))
  · have st' := st
    obtain ⟨o2, w2, L2, c2, m2, z1, z2, z3⟩ := st'
    obtain ⟨zs, kl, hd, lt, ea⟩ := z1.lz hi
    obtain ⟨ll, xs, -, -, -, p4, -⟩ := z1.prem hi
    have lsv : (tSv (fSt F)).length = y 20 := kS.2.2.2.1.1.2.1
    have gl : sLg ((tSv (rmW (fSt F) i (mkrS y (fSt F) i 0 1))).getD i sr0) = (mkrS y (fSt F) i 0 1).1 := by
      have : (tSv (rmW (fSt F) i (mkrS y (fSt F) i 0 1))).getD i sr0 = stLg ((tSv (fSt F)).getD i sr0) (mkrS y (fSt F) i 0 1).1 := gS (by omega)
      rw [this]; rfl
    rw [gl] at ea
    obtain ⟨q1, q2, q3⟩ := (z1.kinds.2.2.2.1 i hi)
    have hob := m_obj (P := P) (ky := ky) kl
    rw [ea, ← p4] at hob
    have nz : ¬ (mkrS y (fSt F) i 0 1).2.2.2 = 0 := by rw [← e1]; exact z
    refine s_84_24 (k3 := q1) (e5 := p4) (k6 := q3.1) (hc := hob) (kk := fun h2 x ⟨f1, f2⟩ => ?_)
    subst f1
    rcases f2 with ⟨f2, f3⟩ | ⟨q, f2, f3, f4⟩
    · subst f2
      refine s_84_32 (kt := fun z => absurd rfl z) (kf := fun _ => s_84_37 (kk := s_84_40 (e2 := rfl) (hc := m_0 (hK_O_new h2 1)) (kk := fun h3 e => s_84_47 (s_84_66 ⟨_, rfl, ?_⟩))))
      rw [e]
      exact fin (1, 0, 0) _ (by unfold rdA; dsimp only; rw [if_neg nz, f3]) rfl
    · subst f2
      have lq : q < hS h2 := z1.1.1.lt (by have := f4.1; omega)
      refine s_84_32 (kt := fun _ => s_84_50 (kk := s_84_53 (k3 := by rw [hK_O lq]; exact f4.1) (e5 := rfl) (hc := m_0 (hK_O_new h2 1)) (kk := fun h3 e => s_84_66 ⟨_, rfl, ?_⟩))) (kf := fun z => by cases z)
      rw [e]
      exact fin (0, hI h2 392 q, hI h2 393 q) _ (by unfold rdA; dsimp only; rw [if_neg nz, f3]; rfl) rfl
  · rw [e]
    exact fin (4, 0, 0) _ (by unfold rdA; dsimp only; rw [if_pos (by rw [← e1]; exact z)]) rfl
theorem m_early (kS : RS g h o w y R R2 ss Ls Ds S) (hi : i < y 20) (kq : reqV h q c n r) : EvA g P 86 [va_rf (some (ss.getD i 0)), va_rf (some q), .int ak] h (fun h' z => (erlA (sLg ((tSv S).getD i sr0)) c n ak = none ∧ z = none ∧ h' = h) ∨ ∃ v, erlA (sLg ((tSv S).getD i sr0)) c n ak = some v ∧ z = some (hS h) ∧ Ch (fun _ => False) 1 (nf 1) h h' ∧ ansV h' (hS h) v) := by
  obtain ⟨k1, k2, k3, -⟩ := kq
  have wf := kS.1.1
  refine e_86 (s_86_0 (k3 := k1) (kt := fun z => ?_) (kf := fun z => s_86_8 (kk := s_86_11 (e2 := rfl) (hc := m_0 (hK_O_new h 1)) (kk := fun h2 e => s_86_18 ⟨_, rfl, Or.inr ⟨(5, 0, 0), ?_, rfl, ?_⟩⟩))))
  · rw [k3] at z
    obtain ⟨zs, kl, hd, lt, ea⟩ := kS.lz hi
    obtain ⟨ll, xs, -, -, -, p4, -⟩ := kS.prem hi
    obtain ⟨q1, q2, q3⟩ := (kS.kinds.2.2.2.1 i hi)
    have hre := m_res (P := P) (cc := nI c) (nn := nI n) kl
    rw [ea, ← p4] at hre
    rw [← k2, ← k3] at hre
    refine s_86_19 (k3 := q1) (k6 := k1) (e8 := p4) (k9 := q3.1) (hc := hre) (kk := fun h2 x ⟨f1, f2⟩ => ?_)
    subst f1
    rw [k2, k3] at f2
    rcases f2 with ⟨f2, f3⟩ | ⟨p, f2, f3, f4⟩
    · subst f2
      refine s_86_34 (kt := fun z => absurd rfl z) (kf := fun _ => s_86_39 (s_86_62 ⟨_, rfl, Or.inl ⟨?_, rfl, rfl⟩⟩))
      unfold erlA
      rw [if_neg (not_not_intro z)]
      unfold allP
      rw [f3]; rfl
    · subst f2
      have lp : p < hS h2 := wf.lt (by have := f4.1; omega)
      refine s_86_34 (kt := fun _ => s_86_43 (kk := s_86_46 (k3 := by rw [hK_O lp]; exact f4.1) (e5 := rfl) (hc := m_0 (hK_O_new h2 1)) (kk := fun h3 e => s_86_62 ⟨_, rfl, Or.inr ⟨(hI h2 391 p, hI h2 392 p, hI h2 393 p), ?_, rfl, ?_⟩⟩))) (kf := fun z => by cases z)
      · unfold erlA
        rw [if_neg (not_not_intro z)]
        unfold allP
        rw [f3]; rfl
      · rw [e]; exact newA_of wf (hI h2 391 p, hI h2 392 p, hI h2 393 p)
  · rw [k3] at z
    exact if_pos z
  · rw [e]; exact newA_of wf (5, 0, 0)
theorem m_decide (kS : RS g h o w y R R2 ss Ls Ds S) (hi : i < y 20) (kq : reqV h q c n r) (kp : hK h p = 7) : EvA g P 87 [va_rf (some (ss.getD i 0)), va_rf (some q), va_rf (some p)] h (fun h' z => ∃ d, decA (sSf ((tSv S).getD i sr0)) r (objA r.2.1 (sLg ((tSv S).getD i sr0)).1) = d ∧ ((d.2 = none ∧ z = none ∧ h' = wIs h p [(391, d.1.1), (392, d.1.2.1), (393, d.1.2.2)]) ∨ ∃ v, d.2 = some v ∧ z = some (hS h) ∧ newP (wIs h p [(391, d.1.1), (392, d.1.2.1), (393, d.1.2.2)]) h' v)) := by
  obtain ⟨k1, k2, k3, k4, k5, k6, k7⟩ := kq
  have wf := kS.1.1
  obtain ⟨zs, kl, hd, lt, ea⟩ := kS.lz hi
  obtain ⟨ll, xs, -, -, -, p4, p5, p6, -⟩ := kS.prem hi
  obtain ⟨q1, q2, q3⟩ := (kS.kinds.2.2.2.1 i hi)
  have hob := m_obj (P := P) (ky := r.2.1) kl
  rw [ea, ← p4, ← k5] at hob
  have lp : p < hS h := wf.lt (by omega)
  have nqp : ¬ q = p := kinds_ne (h := h) (by omega)
  have sI : ∀ l f, hI (wIs h p l) f q = hI h f q := fun l f => by rw [rI_wIs, if_neg nqp]
  have sK : ∀ l, hK (wIs h p l) q = 8 := fun l => by rw [wIs_K]; exact k1
  have wW : ∀ l, hWF (wIs h p l) := fun l => (Ch.wIs l wf lp).2.2.1
  have eS : ∀ l, hS (wIs h p l) = hS h := fun l => wIs_S l
  refine e_87 (s_87_0 (k3 := q1) (k6 := k1) (e8 := p4) (k9 := q3.1) (hc := hob) (kk := fun h2 x ⟨f1, f2⟩ => ?_))
  subst f1
  rw [k5] at f2
  -- from 24 on
  have main : ∀ old : Option pT, objA r.2.1 (sLg ((tSv S).getD i sr0)).1 = old → ((x = none ∧ old = none) ∨ ∃ q', x = some q' ∧ old = some (pA h2 q') ∧ ptK h2 q') → Ev g P 87 24 [some (va_rf (some (ss.getD i 0))), some (va_rf (some q)), some (va_rf (some p)), some (va_rf x), none, none] [.int (oVe old)] h2 (fun h' z => ∃ x, z = some (va_rf x) ∧ ∃ d, decA (sSf ((tSv S).getD i sr0)) r (objA r.2.1 (sLg ((tSv S).getD i sr0)).1) = d ∧ ((d.2 = none ∧ x = none ∧ h' = wIs h2 p [(391, d.1.1), (392, d.1.2.1), (393, d.1.2.2)]) ∨ ∃ v, d.2 = some v ∧ x = some (hS h2) ∧ newP (wIs h2 p [(391, d.1.1), (392, d.1.2.1), (393, d.1.2.2)]) h' v)) := by
    intro old eo hx
    rw [eo]
    -- behind the CHANGE
    have rest : ¬ (r.1 = 2 ∧ ¬ oVe old = r.2.2.2) → Ev g P 87 72 [some (va_rf (some (ss.getD i 0))), some (va_rf (some q)), some (va_rf (some p)), some (va_rf x), some (.int (oVe old)), some (.int (sSf ((tSv S).getD i sr0) + 1))] [] h2 (fun h' z => ∃ x, z = some (va_rf x) ∧ ∃ d, decA (sSf ((tSv S).getD i sr0)) r old = d ∧ ((d.2 = none ∧ x = none ∧ h' = wIs h2 p [(391, d.1.1), (392, d.1.2.1), (393, d.1.2.2)]) ∨ ∃ v, d.2 = some v ∧ x = some (hS h2) ∧ newP (wIs h2 p [(391, d.1.1), (392, d.1.2.1), (393, d.1.2.2)]) h' v)) := by
      intro n1
      refine s_87_72 (k3 := k1) (kt := fun z => ?_) (kf := fun z => ?_)
      · rw [k4] at z
        refine s_87_111 (k3 := k1) (k6 := kp) (hc := m_tell kp) (kk := fun h3 e => ?_)
        rw [k6] at e
        have hob2 := m_object (g := g) (P := P) (x := r.2.1) (y := r.2.2.1) (z := sSf ((tSv S).getD i sr0) + 1) (wW [(391, 0), (392, r.2.2.1), (393, sSf ((tSv S).getD i sr0) + 1)])
        rw [← e] at hob2
        have e451 : hI h3 451 q = r.2.1 := by rw [e, sI]; exact k5
        have e452 : hI h3 452 q = r.2.2.1 := by rw [e, sI]; exact k6
        rw [← e451, ← e452] at hob2
        refine s_87_122 (k3 := by rw [e]; exact sK _) (hc := hob2) (kk := fun h4 x4 ⟨g1, g2⟩ => s_87_135 ⟨_, rfl, _, rfl, Or.inr ⟨(2, -1, -1, r.2.1, 0, r.2.2.1, sSf ((tSv S).getD i sr0) + 1, 0), ?_, ?_, ?_⟩⟩)
        · unfold decA; rw [if_neg n1, if_neg z]
        · rw [g1, e, eS]
        · rw [e451, e452, e] at g2
          unfold decA; rw [if_neg n1, if_neg z]
          exact g2
      · rw [k4] at z
        rcases hx with ⟨x1, x2⟩ | ⟨q', x1, x2, x3⟩
        · subst x1; subst x2
          refine s_87_80 (kt := fun z => absurd rfl z) (kf := fun _ => s_87_84 (k3 := kp) (hc := m_tell kp) (kk := fun h3 e => s_87_91 ⟨_, rfl, _, rfl, Or.inl ⟨?_, rfl, ?_⟩⟩))
          · unfold decA; rw [if_neg n1, if_pos z]
          · unfold decA; rw [if_neg n1, if_pos z]; exact e
        · subst x1; subst x2
          refine s_87_80 (kt := fun _ => ?_) (kf := fun z => by cases z)
          refine s_87_93 (k3 := kp) (hc := m_tell kp) (kk := fun h3 e => ?_)
          have htb := m_tomb (g := g) (P := P) (x := r.2.1) (y := sSf ((tSv S).getD i sr0) + 1) (wW [(391, 0), (392, 0), (393, sSf ((tSv S).getD i sr0) + 1)])
          rw [← e] at htb
          have e451 : hI h3 451 q = r.2.1 := by rw [e, sI]; exact k5
          rw [← e451] at htb
          refine s_87_101 (k3 := by rw [e]; exact sK _) (hc := htb) (kk := fun h4 x4 ⟨g1, g2⟩ => s_87_110 ⟨_, rfl, _, rfl, Or.inr ⟨(3, -1, -1, r.2.1, 0, 0, sSf ((tSv S).getD i sr0) + 1, 0), ?_, ?_, ?_⟩⟩)
          · unfold decA; rw [if_neg n1, if_pos z]
          · rw [g1, e, eS]
          · rw [e451, e] at g2
            unfold decA; rw [if_neg n1, if_pos z]
            exact g2
    refine s_87_24 (k3 := q1) (k6 := k1) (kt := fun z => ?_) (kf := fun z => ?_)
    · rw [k4] at z
      rw [p6]
      exact rest (fun q => z q.1)
    · rw [k4] at z
      rw [p6]
      refine s_87_42 (k3 := k1) (kt := fun z2 => rest (fun q => q.2 (by rw [z2]; exact k7))) (kf := fun z2 => ?_)
      rw [k7] at z2
      have eD : decA (sSf ((tSv S).getD i sr0)) r old = ((2, oVa old, oVe old), none) := if_pos ⟨z, z2⟩
      rw [eD]
      rcases hx with ⟨x1, x2⟩ | ⟨q', x1, x2, x3⟩
      · subst x1; subst x2
        exact s_87_51 (kt := fun z => absurd rfl z) (kf := fun _ => s_87_57 (s_87_65 (k3 := kp) (hc := m_tell kp) (kk := fun h3 e => s_87_70 ⟨_, rfl, _, rfl, Or.inl ⟨rfl, rfl, e⟩⟩)))
      · subst x1; subst x2
        exact s_87_51 (kt := fun _ => s_87_61 (k3 := x3.1) (kk := s_87_65 (k3 := kp) (hc := m_tell kp) (kk := fun h3 e => s_87_70 ⟨_, rfl, _, rfl, Or.inl ⟨rfl, rfl, e⟩⟩))) (kf := fun z => by cases z)
  rcases f2 with ⟨f2, f3⟩ | ⟨q', f2, f3, f4⟩
  · subst f2
    exact s_87_11 (kt := fun z => absurd rfl z) (kf := fun _ => s_87_16 (main none f3 (Or.inl ⟨rfl, rfl⟩)))
  · subst f2
    exact s_87_11 (kt := fun _ => s_87_20 (k3 := f4.1) (kk := main (some (pA h2 q')) f3 (Or.inr ⟨q', rfl, rfl, f4⟩))) (kf := fun z => by cases z)
end SRV
