/-! a LOG and its HEAD; Storage.open -/
section LGW
variable {g : gcT} {o : Nat → Nat} {h : hpT} {N U L nx f b : Nat} {zs : List svT} {r : Option Nat}
theorem hR_R {f' : Nat} (hf : ¬ f' = f) : hR (hpR h f b r) f' = hR h f' := by
  funext x
  rw [rR_R, if_neg (fun q => hf q.1)]
theorem hpR_eq : hK (hpR h f b r) = hK h ∧ hI (hpR h f b r) = hI h ∧ hN (hpR h f b r) = hN h ∧ hA (hpR h f b r) = hA h ∧ hB (hpR h f b r) = hB h ∧ hS (hpR h f b r) = hS h := ⟨rfl, rfl, rfl, rfl, rfl, rfl⟩
theorem lgK.wR (k : lgK g h o N U L nx zs) (hf : ¬ f = 1 ∧ ¬ f = 256 ∧ ¬ f = 395 ∧ (f < 513 ∨ 517 < f)) : lgK g (hpR h f b r) o N U L nx zs := by
  obtain ⟨f1, f2, f3, f4⟩ := hf
  obtain ⟨e1, e2, e3, e4, e5, e6⟩ := hpR_eq (h := h) (f := f) (b := b) (r := r)
  have r1 := hR_R (h := h) (b := b) (r := r) (f := f) (f' := 1) (by omega)
  have r2 := hR_R (h := h) (b := b) (r := r) (f := f) (f' := 256) (by omega)
  have r3 := hR_R (h := h) (b := b) (r := r) (f := f) (f' := 395) (by omega)
  have r4 := hR_R (h := h) (b := b) (r := r) (f := f) (f' := 513) (by omega)
  have r5 := hR_R (h := h) (b := b) (r := r) (f := f) (f' := 514) (by omega)
  have r6 := hR_R (h := h) (b := b) (r := r) (f := f) (f' := 515) (by omega)
  have r7 := hR_R (h := h) (b := b) (r := r) (f := f) (f' := 516) (by omega)
  have r8 := hR_R (h := h) (b := b) (r := r) (f := f) (f' := 517) (by omega)
  simp only [lgK, lgG, lgF, tLs, aLs, sgX, sgV, sgA, sgP, unS, ptK, sgE, sgH, pOK, lOK, ownL, tmK, e1, e2, e3, e4, e5, r1, r2, r3, r4, r5, r6, r7, r8] at k ⊢
  exact k
theorem aG.wR {z : svT} (hf : ¬ f = 395) : aG (hpR h f b r) z = aG h z := by
  have r3 := hR_R (h := h) (b := b) (r := r) (f := f) (f' := 395) (fun q => hf q.symm)
  obtain ⟨e1, e2, e3, e4, e5, e6⟩ := hpR_eq (h := h) (f := f) (b := b) (r := r)
  unfold aG
  have : pA (hpR h f b r) = pA h := by
    funext q
    simp only [pA, ptv, hmF, r3, e2]
  rw [this]
theorem lgK.wI {y : Int32} (k : lgK g h o N U L nx zs) (hf : ¬ f = 2 ∧ (f < 384 ∨ 394 < f) ∧ (f < 512 ∨ 524 < f)) : lgK g (hpI h f b y) o N U L nx zs := by
  obtain ⟨f1, f2, f3⟩ := hf
  have eI : ∀ f', (f' = 2 ∨ (384 ≤ f' ∧ f' ≤ 394) ∨ (512 ≤ f' ∧ f' ≤ 524)) → hI (hpI h f b y) f' = hI h f' := fun f' hf' => funext (fun x => by rw [rI_I, if_neg (fun q => by omega)])
  have e1 : hK (hpI h f b y) = hK h := rfl
  have e2 : hR (hpI h f b y) = hR h := rfl
  have e3 : hN (hpI h f b y) = hN h := rfl
  have e4 : hA (hpI h f b y) = hA h := rfl
  have e5 : hB (hpI h f b y) = hB h := rfl
  have i1 := eI 2 (by omega)
  have i2 := eI 384 (by omega)
  have i3 := eI 385 (by omega)
  have i4 := eI 386 (by omega)
  have i5 := eI 387 (by omega)
  have i6 := eI 388 (by omega)
  have i7 := eI 390 (by omega)
  have j1 := eI 512 (by omega)
  have j2 := eI 518 (by omega)
  have j3 := eI 519 (by omega)
  have j4 := eI 520 (by omega)
  have j5 := eI 522 (by omega)
  have j6 := eI 523 (by omega)
  have j7 := eI 524 (by omega)
  simp only [lgK, lgG, lgF, tLs, aLs, sgX, sgV, sgA, sgP, unS, ptK, sgE, sgH, pOK, lOK, ownL, tmK, e1, e2, e3, e4, e5, i1, i2, i3, i4, i5, i6, i7, j1, j2, j3, j4, j5, j6, j7] at k ⊢
  exact k
end LGW
/-- a LOG without addresses: SEGMENTS, HEAD, the one opened latest -/
abbrev alT := List agT × Option Nat × Option Nat
def hdK (r : Option Nat) (zs : List svT) (n : Option Nat) : Prop := (r = none ∧ n = none) ∨ ∃ z ∈ zs, r = some z.1 ∧ n = some (nmN z)
def lgR (g : gcT) (h : hpT) (o : Nat → Nat) (N U L nx : Nat) (A : alT) : Prop := ∃ zs, lgK g h o N U L nx zs ∧ hdK (hR h 257 L) zs A.2.1 ∧ hdK (hR h 258 L) zs A.2.2 ∧ zs.map (aG h) = A.1
def dgG (nm : Nat) (hs : List (Nat × Nat)) (safe : Int32) : agT := (nm, [((0, -1, -1, -1, 0, 0, safe, 0), -1)], [1], hs.map (fun x => (x.1, 1)))
def opn1 (N U rep mem : Nat) (up : Int32) (nm sv : Nat) (A : alT) : List agT × Nat × Int32 := if mem - 1 ≤ A.1.length then clnA N U rep up nm sv A.2.2 A.1 else (A.1, nm, 0)
/-- OPENING: the LOG, the next NAME, CLEANINGS more, whether it was done -/
def opnA (N U rep mem : Nat) (up aw : Int32) (nm sv : Nat) (safe lim : Int32) (A : alT) : alT × Nat × Int32 × Int32 :=
  if ¬ aw = 0 ∨ ¬ nI rep ≤ bcX (up &&& (bitS (nI sv) ^^^ (-1))) then (A, nm, 0, 0)
  else if ¬ lim = 0 ∧ mem ≤ (opn1 N U rep mem up nm sv A).1.length then (((opn1 N U rep mem up nm sv A).1, none, A.2.2), (opn1 N U rep mem up nm sv A).2.1, (opn1 N U rep mem up nm sv A).2.2, 0)
  else (((opn1 N U rep mem up nm sv A).1 ++ [dgG (opn1 N U rep mem up nm sv A).2.1 (nsH up N rep (opn1 N U rep mem up nm sv A).2.1 sv N) safe], some (opn1 N U rep mem up nm sv A).2.1, some (opn1 N U rep mem up nm sv A).2.1), (opn1 N U rep mem up nm sv A).2.1 + 1, (opn1 N U rep mem up nm sv A).2.2, 1)
section OPEN
variable {g : gcT} {P : pmT} {o o' : Nat → Nat} {h h' : hpT} {a b e v l ll N U L rep mem nm nx nx' s sv cl : Nat} {R : arT} {up safe lim : Int32} {xs0 : List Nat} {zs ts : List svT} {t : svT} {B : Nat → Prop} {c m c' m' : Nat} {A : alT}
theorem lgR.fr (w : hWF h) (hg : gOK g h) (k : lgR g h o N U L nx A) (x : CG B c m h o h' o') (nB : ¬ B L) : lgR g h' o' N U L nx A := by
  obtain ⟨zs, k1, k2, k3, k4⟩ := k
  have kL := k1.1.1.1
  have sL := x.sm w (a := L) (by rw [k1.2.1, k1.2.1]; exact nB) (by omega)
  refine ⟨zs, lgK.fr w hg k1 x nB, by rw [(sL.2.1 257).2]; exact k2, by rw [(sL.2.1 258).2]; exact k3, ?_⟩
  rw [← k4]; exact List.map_congr_left (aG_map w k1.1 x)
theorem lgR.nxt (k : lgR g h o N U L nx A) (hn : nx ≤ nx') : lgR g h o N U L nx' A := by
  obtain ⟨zs, k1, k2⟩ := k
  exact ⟨zs, k1.up hn, k2⟩
theorem updH_full (hs : List (Nat × Nat)) (n : Nat) : updH hs hs.length n = hs.map (fun x => (x.1, n)) := by
  unfold updH
  refine List.ext_getElem (by rw [List.length_mapIdx, List.length_map]) (fun i h1 h2 => ?_)
  rw [List.getElem_mapIdx, List.getElem_map]
  rw [List.length_mapIdx] at h1
  rw [if_pos h1]
theorem CG.wR (w : hWF h) (ok : oOK o) {f x : Nat} {r : Option Nat} (hx : ¬ hK h x = 7) (hx0 : ¬ hK h x = 0) (hB : B (o (o x))) : CG B 0 0 h o (hpR h f x r) o := CG.of0 (Ch.wR w r (w.lt hx0)) ok (fun y _ q => by rw [q]; exact ⟨hx, Or.inr hB⟩) (fun _ _ => rfl)
theorem CG.wI (w : hWF h) (ok : oOK o) {f x : Nat} {y : Int32} (hx : ¬ hK h x = 7) (hx0 : ¬ hK h x = 0) (hB : B (o (o x))) (hf : ¬ f = 512) : CG B 0 0 h o (hpI h f x y) o := CG.of0 (Ch.wI w y (w.lt hx0)) ok (fun y _ q => by rw [q]; exact ⟨hx, Or.inr hB⟩) (fun z _ => by rw [rI_I, if_neg (fun q => hf q.1.symm)])
theorem open_2 (hP6 : P 206 = cpyO) (w : hWF h) (hg : gOK g h) (ok : oOK o) (st : stR g h o a e v R l N U rep up nm xs0) (kl : lgK g h o N U L nm zs) (hll : hR h 256 L = some ll) (ks : hK h s = 10) (os : o s = s) (hsv : hI h 576 s = nI sv) (hsafe : hI h 581 s = safe) (hN0 : 0 < N) (hNb : N ≤ 30) (hUb : U ≤ 100) (hU1 : 1 ≤ U) (hrb : rep ≤ N) (hnb : nm ≤ 99999990) (hsb : sv < N) (hz : zs.length ≤ 100000) : Ev g P 46 83 [some (va_rf (some a)), some (va_rf (some s)), some (.int lim), some (va_rf (some L)), none] [] h (fun h' r => r = some (.int 1) ∧ ∃ o' zs', CG (fun y => y = a ∨ y = L) (7 + (capO g h' ll - capO g h ll)) (nf 8 + (3 * U + 2 * N) + nf 6 + 4 * (capO g h' ll - capO g h ll)) h o h' o' ∧ stR g h' o' a e v R l N U rep up (nm + 1) xs0 ∧ lgK g h' o' N U L (nm + 1) zs' ∧ zs'.map (aG h') = zs.map (aG h) ++ [dgG nm (nsH up N rep nm sv N) safe] ∧ hdK (hR h' 257 L) zs' (some nm) ∧ hdK (hR h' 258 L) zs' (some nm) ∧ (∀ f, hI h' f L = hI h f L) ∧ hR h' 256 L = hR h 256 L ∧ (∀ f, ¬ f = 648 → hI h' f a = hI h f a) ∧ (∀ f, hR h' f a = hR h f a) ∧ capO g h' l = capO g h l ∧ (capO g h ll ≤ capO g h' ll ∧ capO g h' ll ≤ max (capO g h ll) (2 * zs.length + 10))) := by
  have kL := kl.1.1.1
  have ka := st.1.1
  have ra := st.2.1.1
  have nLa : ¬ L = a := kinds_ne (h := h) (by omega)
  have naL : ¬ a = L := fun q => nLa q.symm
  have lL : L < hS h := w.lt (by omega)
  have la : a < hS h := w.lt (by omega)
  refine s_46_83 (k3 := ka) (hc := m_newSegment w st.1 ks hsv hN0 hNb hUb hrb (by omega) hsb) (kk := fun h1 x ⟨ex, n1, n2, n3, n4, n5, n6, n7⟩ => ?_)
  subst ex
  have eo1 : ∀ x, x < hS h → (fun x => if x < hS h then o x else hS h) x = o x := fun x hx => if_pos hx
  have on1 : ∀ x, hS h ≤ x → (fun x => if x < hS h then o x else hS h) x = hS h := fun x hx => if_neg (by omega)
  have ok1 : oOK (fun x => if x < hS h then o x else hS h) := fun x => by
    show (if x < hS h then o x else hS h) ≤ x
    split
    · exact ok x
    · omega
  generalize (fun x => if x < hS h then o x else hS h) = o1 at eo1 on1 ok1
  have cg1 : CG (fun y => y = a) 6 (nf 8 + (3 * U + 2 * N)) h o h1 o1 := CG.of n7 (fun x _ hx => ⟨by rw [hx]; omega, Or.inr (by rw [hx, ra]; exact ra)⟩) eo1 ok1 (nm9 w n7 (fun x hx => by rw [hx]; omega))
  have w1 := cg1.w
  have hg1 := hg.ch cg1.1
  have kl1 := lgK.fr w hg kl cg1 nLa
  have st1 := stR.fa w hg st n7 eo1 n4 n6
  have sL1 : Sm h h1 L := n7.sm nLa lL
  have ss1 : Sm h h1 s := n7.sm (fun q => by rw [q] at ks; omega) (w.lt (by omega))
  have ks1 : hK h1 s = 10 := by rw [ss1.1]; exact ks
  refine s_46_88 (k3 := ks1) (hc := m_digest w1) (kk := fun h2 x ⟨ex, p1, p2, p3, p4, p5⟩ => ?_)
  subst ex
  rw [(ss1.2.1 581).1, hsafe] at p3
  have cg2 : CG (fun y => False) 1 (nf 6) h1 o1 h2 o1 := CG.of0 p1 ok1 (fun _ _ q => q.elim) (nm9 w1 p1 (fun _ q => q.elim))
  have w2 := cg2.w
  have hg2 := hg1.ch cg2.1
  have kl2 := lgK.fr w1 hg1 kl1 cg2 id
  have st2 := stR.fr w1 hg1 st1 cg2 id
  have n1' : sgX h1 N U (hS h, (hS h + 1, hS h + 2, hS h + 3, hS h + 4, hS h + 5), nI nm, [], [], nsH up N rep nm sv N) := n1
  have tow : tOwn o1 (hS h, (hS h + 1, hS h + 2, hS h + 3, hS h + 4, hS h + 5), nI nm, [], [], nsH up N rep nm sv N) := ⟨on1 _ (Nat.le_refl _), on1 (hS h + 1) (by omega), on1 (hS h + 2) (by omega), on1 (hS h + 3) (by omega), on1 (hS h + 4) (by omega), on1 (hS h + 5) (by omega)⟩
  have t2 := sgX.cg w1 n1' tow cg2 id
  have k9 : hK h2 (hS h) = 9 := t2.1.1
  have h522 : hI h2 522 (hS h) = nI (nsH up N rep nm sv N).length := t2.2.2.2.2.1
  have hlenN : (nsH up N rep nm sv N).length ≤ N := t2.2.2.2.2.2.1
  have hent : EvV g P 35 [va_rf (some (hS h)), va_rf none, va_rf (some (hS h1)), .int (hI h2 522 (hS h))] h2 (fun h' => entH h2 (hS h) N U (hS h + 1, hS h + 2, hS h + 3, hS h + 4, hS h + 5) (nI nm) [] [] (nsH up N rep nm sv N) [hS h1] (nsH up N rep nm sv N).length h') := by
    rw [h522]; exact m_addEntry1 w2 t2 p2 (by show 0 + 1 ≤ U; omega) (by omega)
  refine s_46_100 (k3 := k9) (k6 := k9) (hc := hent) (kk := fun h3 ⟨q1, q2, q3, q4⟩ => ?_)
  have t2a := t2.1
  obtain ⟨z1, -, -, -, -, -, z7, z8, z9, z10, z11, -⟩ := t2a
  have z1 : hK h2 (hS h) = 9 := z1
  have z7 : hK h2 (hS h + 1) = 25 := z7.1
  have z9 : hK h2 (hS h + 3) = 20 := z9.1
  have z11 : hK h2 (hS h + 5) = 20 := z11.1
  have cg3 : CG (fun y => y = hS h) 0 0 h2 o1 h3 o1 := by
    refine CG.of0 q2 ok1 (fun x _ hx => ?_) (fun y hy => ?_)
    · have oT := on1 (hS h) (Nat.le_refl _)
      rcases hx with q | q | q | q
      · rw [q]; exact ⟨by omega, Or.inr (by rw [oT]; exact oT)⟩
      · rw [q]; exact ⟨by show ¬ hK h2 (hS h + 1) = 7; omega, Or.inr (by show o1 (o1 (hS h + 1)) = hS h; rw [on1 (hS h + 1) (by omega)]; exact oT)⟩
      · rw [q]; exact ⟨by show ¬ hK h2 (hS h + 3) = 7; omega, Or.inr (by show o1 (o1 (hS h + 3)) = hS h; rw [on1 (hS h + 3) (by omega)]; exact oT)⟩
      · rw [q]; exact ⟨by show ¬ hK h2 (hS h + 5) = 7; omega, Or.inr (by show o1 (o1 (hS h + 5)) = hS h; rw [on1 (hS h + 5) (by omega)]; exact oT)⟩
    · by_cases e : y = hS h
      · rw [e]; exact q3 512 (by decide) (by decide) (by decide)
      · refine ((q2.sm ?_ (w2.lt (by omega))).2.1 512).1
        rintro (q | q | q | q)
        · exact e q
        · rw [q] at hy; have hy : hK h2 (hS h + 1) = 9 := hy; omega
        · rw [q] at hy; have hy : hK h2 (hS h + 3) = 9 := hy; omega
        · rw [q] at hy; have hy : hK h2 (hS h + 5) = 9 := hy; omega
  have w3 := cg3.w
  have hg3 := hg2.ch cg3.1
  have kl3 := lgK.fr w2 hg2 kl2 cg3 (by omega)
  have st3 := stR.fr w2 hg2 st2 cg3 (by omega)
  have hq7 : hK h2 (hS h1) = 7 := p2.1
  have sq : Sm h2 h3 (hS h1) := cg3.smp hq7 w2
  rw [updH_full] at q1
  have kt : sgX h3 N U (hS h, (hS h + 1, hS h + 2, hS h + 3, hS h + 4, hS h + 5), nI nm, [hS h1], [1], (nsH up N rep nm sv N).map (fun x => (x.1, 1))) := q1
  have g0 : hI h3 524 (hS h) = 0 := by
    rw [q3 524 (by decide) (by decide) (by decide)]
    rw [((cg2.sm w1 (a := hS h) (fun q => q) (by have : hK h1 (hS h) = 9 := n1.1.1; omega)).2.1 524).1]
    exact n3
  have k384 : hI h2 384 (hS h1) = 0 := congrArg (fun p : ptT => p.1) p3
  have pt : ∀ q ∈ zPs (hS h, (hS h + 1, hS h + 2, hS h + 3, hS h + 4, hS h + 5), nI nm, [hS h1], [1], (nsH up N rep nm sv N).map (fun x => (x.1, 1))), pOK h3 q ∧ lOK h3 q ∧ tmK h3 o1 L nm zs q := by
    intro q hq
    have hq : q ∈ [hS h1] := hq
    rw [List.mem_singleton] at hq
    subst hq
    refine ⟨⟨p2.sm sq, ?_, ?_⟩, ?_, ?_⟩
    · rw [(sq.2.1 387).1, p2.2.2.2, k384]; exact fun q => absurd rfl q
    · rw [(sq.2.1 386).1, p2.2.2.1, k384]; exact fun q => absurd rfl q
    · intro s hs
      rw [(sq.2.1 395).2, p4] at hs
      cases hs
    · intro e3
      rw [(sq.2.1 384).1, k384] at e3
      exact absurd e3 (by decide)
  have sL2 : Sm h1 h2 L := cg2.sm w1 (fun q => q) (by rw [sL1.1]; omega)
  have kL2 : hK h2 L = 5 := by rw [sL2.1, sL1.1]; exact kL
  have sL3 : Sm h2 h3 L := cg3.sm w2 (by rw [kl2.2.1, kl2.2.1]; omega) (by omega)
  have sL03 := (sL1.tr sL2).tr sL3
  have hll3 : hR h3 256 L = some ll := by rw [(sL03.2.1 256).2]; exact hll
  have hadd := lgK.add (P := P) (t := (hS h, (hS h + 1, hS h + 2, hS h + 3, hS h + 4, hS h + 5), nI nm, [hS h1], [1], (nsH up N rep nm sv N).map (fun x => (x.1, 1)))) hP6 w3 hg3 ok1 kl3 kt tow g0 pt rfl (by omega) (by show L ≤ hS h; omega) hll3 hz
  rw [← hll3] at hadd
  have kL3 := kl3.1.1.1
  refine s_46_108 (k3 := kL3) (e5 := hll3) (k6 := (by obtain ⟨-, y, z1, z2, -⟩ := kl3.1.1; rw [hll3] at z1; cases z1; exact z2.1.1)) (hc := hadd) (kk := fun h4 x ⟨o4, o4', b1, b2, b3, b4, b5, b6⟩ => ?_)
  have w4 := b1.w
  have hg4 := hg3.ch b1.1
  have sL4 : Sm h3 h4 L := b6 L (by omega) (by omega) (by omega)
  have sL04 := sL03.tr sL4
  have kL4 : hK h4 L = 5 := by rw [sL04.1]; exact kL
  refine s_46_117 (k3 := kL4) (hq := ⟨rfl, ?_⟩)
  have oL4 : o4 L = L := b4.2.1
  have cgA : CG (fun y => y = L) 0 0 h4 o4 (hpR h4 257 L (some (hS h))) o4 := CG.wR w4 b3 (by omega) (by omega) (by rw [oL4]; exact oL4)
  have kA := lgK.wR (f := 257) (b := L) (r := some (hS h)) b4 (by decide)
  have gA : ∀ z, aG (hpR h4 257 L (some (hS h))) z = aG h4 z := fun z => aG.wR (by decide)
  have RA : ∀ f x, ¬ (f = 257 ∧ x = L) → hR (hpR h4 257 L (some (hS h))) f x = hR h4 f x := fun f x q => by rw [rR_R, if_neg q]
  have RA1 : hR (hpR h4 257 L (some (hS h))) 257 L = some (hS h) := by rw [rR_R, if_pos ⟨rfl, rfl⟩]
  have IA : hI (hpR h4 257 L (some (hS h))) = hI h4 := rfl
  have CA : ∀ x, hR (hpR h4 257 L (some (hS h))) 1 x = hR h4 1 x := fun x => RA 1 x (by omega)
  have NA : hN (hpR h4 257 L (some (hS h))) = hN h4 := rfl
  have KA : hK (hpR h4 257 L (some (hS h))) = hK h4 := rfl
  generalize hpR h4 257 L (some (hS h)) = H1 at cgA kA gA RA RA1 IA CA NA KA ⊢
  have wA := cgA.w
  have cgB : CG (fun y => y = L) 0 0 H1 o4 (hpR H1 258 L (some (hS h))) o4 := CG.wR wA b3 (by rw [KA]; omega) (by rw [KA]; omega) (by rw [oL4]; exact oL4)
  have kB := lgK.wR (f := 258) (b := L) (r := some (hS h)) kA (by decide)
  have gB : ∀ z, aG (hpR H1 258 L (some (hS h))) z = aG h4 z := fun z => (aG.wR (by decide)).trans (gA z)
  have RB : ∀ f x, ¬ (f = 257 ∧ x = L) → ¬ (f = 258 ∧ x = L) → hR (hpR H1 258 L (some (hS h))) f x = hR h4 f x := fun f x q q' => by rw [rR_R, if_neg q', RA f x q]
  have RB1 : hR (hpR H1 258 L (some (hS h))) 257 L = some (hS h) := by rw [rR_R, if_neg (by omega), RA1]
  have RB2 : hR (hpR H1 258 L (some (hS h))) 258 L = some (hS h) := by rw [rR_R, if_pos ⟨rfl, rfl⟩]
  have IB : hI (hpR H1 258 L (some (hS h))) = hI h4 := IA
  have NB : hN (hpR H1 258 L (some (hS h))) = hN h4 := NA
  generalize hpR H1 258 L (some (hS h)) = H2 at cgB kB gB RB RB1 RB2 IB NB ⊢
  have capE : ∀ x, capO g H2 x = capO g h4 x := fun x => by
    unfold capO
    rw [RB 1 x (by omega) (by omega), NB]
  have c12 : CG (fun y => y = a ∨ y = L ∨ y = hS h) (6 + 1) _ h o h2 o1 := CG.tr w ok (cg1.mono ok (fun y _ q => Or.inl q) (Nat.le_refl _) (Nat.le_refl _)) (cg2.mono ok1 (fun y _ q => q.elim) (Nat.le_refl _) (Nat.le_refl _))
  have c13 := CG.tr w ok c12 (cg3.mono ok1 (fun y _ q => Or.inr (Or.inr q)) (Nat.le_refl _) (Nat.le_refl _))
  have c14 := CG.tr w ok c13 (b1.mono ok1 (fun y _ q => Or.inr (Or.inl q)) (Nat.le_refl _) (Nat.le_refl _))
  have c14' := (c14.mono ok (B' := fun y => y = a ∨ y = L) (fun y hy q => by rcases q with q | q | q; exact Or.inl q; exact Or.inr q; omega) (Nat.le_refl _) (Nat.le_refl _)).ow (o2 := o4) (fun x hx => by rw [b2 x (by show ¬ x = hS h; omega)]; exact c14.2.1 x hx) b3
  have c16 := CG.tr w ok (CG.tr w ok c14' (cgA.mono b3 (fun y _ q => Or.inr q) (Nat.le_refl _) (Nat.le_refl _))) (cgB.mono b3 (fun y _ q => Or.inr q) (Nat.le_refl _) (Nat.le_refl _))
  have cap03 : capO g h3 ll = capO g h ll := by
    obtain ⟨-, y, y1, y2, -⟩ := kl.1.1
    rw [hll] at y1
    cases y1
    obtain ⟨-, y', y1', y2', -⟩ := kl1.1.1
    have hll1 : hR h1 256 L = some ll := by rw [(sL1.2.1 256).2]; exact hll
    rw [hll1] at y1'
    cases y1'
    obtain ⟨-, y', y1', y2'', -⟩ := kl2.1.1
    have hll2 : hR h2 256 L = some ll := by rw [(sL2.2.1 256).2]; exact hll1
    rw [hll2] at y1'
    cases y1'
    have k1 := y2.1.1
    have k1' := y2'.1.1
    have k1'' := y2''.1.1
    rw [capO.fr w2 y2'' cg3.1 (cg3.sm w2 (by rw [(kl2.1.2.1 ll hll2).1, kl2.2.1]; omega) (by omega)), capO.fr w1 y2' cg2.1 (cg2.sm w1 (fun q => q) (by omega)), capO.fr w y2 n7 (n7.sm (fun q => by rw [q] at k1; omega) (w.lt (by omega)))]
  have capl : capO g h4 l = capO g h l := by
    have y2 := st.2.2.2.2.1
    have y2' := st1.2.2.2.2.1
    have y2'' := st2.2.2.2.2.1
    have y3 := st3.2.2.2.2.1
    have k1 := y2.1.1
    have k1' := y2'.1.1
    have k1'' := y2''.1.1
    have k1''' := y3.1.1
    rw [capO.fr w3 y3 b1.1 (b1.sm w3 (by rw [st3.2.2.2.2.2.1, st3.2.1.1]; exact naL) (by omega)), capO.fr w2 y2'' cg3.1 (cg3.sm w2 (by rw [st2.2.2.2.2.2.1, st2.2.1.1]; omega) (by omega)), capO.fr w1 y2' cg2.1 (cg2.sm w1 (fun q => q) (by omega)), capO.fr w y2 n7 (n7.sm (fun q => by rw [q] at k1; omega) (w.lt (by omega)))]
  have st4' := stR.fr w3 hg3 st3 b1 naL
  have st4 : stR g h4 o4 a e v R l N U rep up (nm + 1) xs0 := by
    obtain ⟨z1, ⟨z2, z3⟩, ⟨z4, z5, ⟨p1, p2, p3, p4, p5⟩, z6⟩, z7, z8, z9, z10⟩ := st4'
    have k94 : hK h4 (hS h) = 9 := by
      have k93 : hK h3 (hS h) = 9 := kt.1.1
      rw [(b1.1.2.1 _ (w3.lt (by omega))).1]; exact k93
    have ne : ∀ y, ¬ hK h4 y = 9 → o4 y = o4' y := fun y hy => b2 y (fun q => hy (by rw [q]; exact k94))
    have z1' := z1
    obtain ⟨za, -, ze, -⟩ := z1'
    have zv := z5
    obtain ⟨j1, -, -, -, -, -, j7, j8, j9, j10, j11, -⟩ := zv
    have zl := z8.1.1
    exact ⟨z1, ⟨by rw [ne a (by omega)]; exact z2, by rw [ne e (by omega)]; exact z3⟩, ⟨z4, z5, ⟨by rw [ne _ (by omega)]; exact p1, by rw [ne _ (by omega)]; exact p2, by rw [ne _ (by omega)]; exact p3, by rw [ne _ (by omega)]; exact p4, by rw [ne _ (by omega)]; exact p5⟩, by rw [ne v (by omega)]; exact z6⟩, z7, z8, by rw [ne l (by omega)]; exact z9, fun d hd kd => by rw [ne d (by omega)]; exact z10 d hd kd⟩
  have st6 := stR.fr wA (hg4.ch cgA.1) (stR.fr w4 hg4 st4 cgA naL) cgB naL
  have sa1 : ∀ f, ¬ f = 648 → hI h1 f a = hI h f a := n5
  have sa2 : Sm h1 h2 a := cg2.sm w1 (fun q => q) (by have := st1.1.1; omega)
  have sa3 : Sm h2 h3 a := cg3.sm w2 (by rw [st2.2.1.1, st2.2.1.1]; omega) (by have := st2.1.1; omega)
  have sa4 : Sm h3 h4 a := by have := st3.1.1; exact b6 a (by omega) (by omega) (by omega)
  have sa14 := (sa2.tr sa3).tr sa4
  have nmt : nmN (hS h, (hS h + 1, hS h + 2, hS h + 3, hS h + 4, hS h + 5), nI nm, [hS h1], [1], (nsH up N rep nm sv N).map (fun x => (x.1, 1))) = nm := nI_clamp (by omega)
  refine ⟨o4, zs ++ [(hS h, (hS h + 1, hS h + 2, hS h + 3, hS h + 4, hS h + 5), nI nm, [hS h1], [1], (nsH up N rep nm sv N).map (fun x => (x.1, 1)))], c16.mono ok (fun _ _ q => q) ?_ ?_, st6, kB, ?_, Or.inr ⟨_, List.mem_append_right _ (List.mem_singleton.mpr rfl), RB1, by rw [nmt]⟩, Or.inr ⟨_, List.mem_append_right _ (List.mem_singleton.mpr rfl), RB2, by rw [nmt]⟩, fun f => ?_, ?_, fun f hf => ?_, fun f => ?_, ?_, ?_⟩
  · rw [capE, ← cap03]; omega
  · rw [capE, ← cap03]; omega
  · rw [List.map_append, List.map_cons, List.map_nil]
    refine congr (congrArg _ (List.map_congr_left (fun z hz => ?_))) ?_
    · rw [gB z]
      exact aG_map w kl.1 c14' z hz
    · rw [gB]
      have e1 : pA h4 (hS h1) = ((0, -1, -1, -1, 0, 0, safe, 0), -1) := by
        have l4 : hK h3 (hS h1) = 7 := by rw [sq.1]; exact hq7
        have s4 : Sm h3 h4 (hS h1) := b6 _ (by omega) (by omega) (by omega)
        have s24 := sq.tr s4
        unfold pA
        rw [show hmF h4 (hS h1) = -1 from by unfold hmF; rw [(s24.2.1 395).2, p4]]
        have : ptv h4 (hS h1) = ptv h2 (hS h1) := by
          unfold ptv
          rw [(s24.2.1 384).1, (s24.2.1 388).1, (s24.2.1 389).1, (s24.2.1 390).1, (s24.2.1 391).1, (s24.2.1 392).1, (s24.2.1 393).1, (s24.2.1 394).1]
        rw [this, p3]
      show [((nmN (hS h, (hS h + 1, hS h + 2, hS h + 3, hS h + 4, hS h + 5), nI nm, [hS h1], [1], (nsH up N rep nm sv N).map (fun x => (x.1, 1))), [pA h4 (hS h1)], [1], (nsH up N rep nm sv N).map (fun x => (x.1, 1))) : agT)] = _
      rw [e1, nmt]
      rfl
  · rw [IB, (sL04.2.1 f).1]
  · rw [RB 256 L (by omega) (by omega), (sL04.2.1 256).2]
  · rw [IB, (sa14.2.1 f).1, sa1 f hf]
  · rw [RB f a (fun q => naL q.2) (fun q => naL q.2), (sa14.2.1 f).2, n6 f]
  · rw [capE, capl]
  · rw [capE, ← cap03]; exact b5
end OPEN
