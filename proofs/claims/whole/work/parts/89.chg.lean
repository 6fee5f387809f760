/-! changeAt -/
def akA (A : alT) (c : Nat) (ack : Int32) : Int32 := if ackA (allP A) (nI c) < ack then ack else ackA (allP A) (nI c)
def resQ (c n : Nat) (r : rqT) (ak : Int32) (v : anT) : pT := ((4, nI c, nI n, r.2.1, v.1, v.2.1, v.2.2, ak), -1)
def hmQ (ky : Int32) (A : List agT) : Int32 := match (homA ky A).2 with
  | some u => nI u.1
  | none => -1
def effQ (A : List agT) (v : ptT) : pT := (v, if v.1 = 3 then hmQ v.2.2.2.1 A else -1)
def cpN (cut : Int32) : Nat := if cut = -1 then 100 else cut.toNatClampNeg
def unQ (d : Option ptT) : Int32 := 1 + (match d with
  | none => 0
  | some v => kU v.1)
def chW (y : Nat → Nat) (S : stA) (i : Nat) (d : Option ptT) : alT × Nat × Int32 × Int32 := mkrS y S i (unQ d) 1
def chS2 (y : Nat → Nat) (S : stA) (i c n : Nat) (r : rqT) (ak : Int32) (d : anT × Option ptT) : stA := wrS (rmW S i (chW y S i d.2)) i ((d.2.map (effQ (chW y S i d.2).1.1)).toList ++ [resQ c n r ak d.1]) (cpN (sCu ((tSv S).getD i sr0)))
def chEf (F : fcT) (cut : Int32) (d : Option ptT) : Nat := if d.isSome = true ∧ ¬ cut = 0 then fEf F + 1 else fEf F
def chD (F : fcT) (i : Nat) (r : rqT) : anT × Option ptT := decA (sSf ((tSv (fSt F)).getD i sr0)) r (objA r.2.1 (sLg ((tSv (fSt F)).getD i sr0)).1)
/-- behind the early answers -/
def chgB (y : Nat → Nat) (F : fcT) (i c n : Nat) (r : rqT) (ak : Int32) (d : anT × Option ptT) : fcT × Option anT :=
  if (chW y (fSt F) i d.2).2.2.2 = 0 then (setS F (rmW (fSt F) i (chW y (fSt F) i d.2)), some (4, 0, 0))
  else if ¬ sCu ((tSv (fSt F)).getD i sr0) = -1 then ((bdA (chS2 y (fSt F) i c n r ak d) i, fCl F, fNt F, fCk F, chEf F (sCu ((tSv (fSt F)).getD i sr0)) d.2), none)
  else ((if d.2.isSome = true then sfS (chS2 y (fSt F) i c n r ak d) i (sSf ((tSv (fSt F)).getD i sr0) + 1) else chS2 y (fSt F) i c n r ak d, fCl F, fNt F, fCk F, chEf F (sCu ((tSv (fSt F)).getD i sr0)) d.2), some d.1)
def chgA (y : Nat → Nat) (F : fcT) (i c n : Nat) (r : rqT) (ack : Int32) : fcT × Option anT := match erlA (sLg ((tSv (fSt F)).getD i sr0)) c n (akA (sLg ((tSv (fSt F)).getD i sr0)) c ack) with
  | some v => (F, some v)
  | none => chgB y F i c n r (akA (sLg ((tSv (fSt F)).getD i sr0)) c ack) (chD F i r)
section CHG
variable {g : gcT} {P : pmT} {o o' w w' : Nat → Nat} {y : Nat → Nat} {R R2 : arT} {h h' h1 h2 : hpT} {B : Nat → Prop} {i j t c m n p q e : Nat} {ss : List Nat} {Ls L1 : List lsT} {Ds D1 : List (Nat × Nat)} {S S' : stA} {cs : csT} {F F' : fcT} {r : rqT} {v : anT} {kc km kc' km' : Nat} {ky ak ack : Int32} {d : anT × Option ptT} {u : Option Nat}
theorem fcR.w395 (k : fcR h o y ss cs F) (ke : hK h e = 7) : fcR (hpR h 395 e u) o y ss cs F := by
  have rf : ∀ f a, ¬ f = 395 → hR (hpR h 395 e u) f a = hR h f a := fun f a ha => by rw [rR_R, if_neg (fun q => ha q.1)]
  have sm : Sm9 h o (y 9) (hpR h 395 e u) o → True := fun _ => trivial
  obtain ⟨⟨⟨a1, a2, a3⟩, a4, a5⟩, ⟨⟨b1, b2, b3, b4, b5, b6⟩, b7⟩, c1, d1, e1⟩ := k
  refine ⟨⟨⟨a1, by rw [rf _ _ (by decide)]; exact a2, by rw [rf _ _ (by decide)]; exact a3⟩, by rw [rf _ _ (by decide)]; exact a4, a5⟩, ⟨⟨b1, by rw [rf _ _ (by decide)]; exact b2, b3, b4, b5, fun i hi => ?_⟩, b7⟩, c1, fun p hp => ?_, e1⟩
  · obtain ⟨t1, t2, t3, t4, t5⟩ := b6 i hi
    exact ⟨t1, t2, by rw [rf _ _ (by decide)]; exact t3, by rw [rf _ _ (by decide)]; exact t4, t5⟩
  · rcases d1 p hp with z | ⟨m, x, z1, z2, z3⟩
    · exact Or.inl z
    · obtain ⟨k1, k2, k3, ⟨q, k4, k5⟩, k6, k7, k8⟩ := z3
      exact Or.inr ⟨m, x, z1, z2, k1, k2, k3, ⟨q, by rw [rf _ _ (by decide)]; exact k4, k5⟩, k6, by rw [rf _ _ (by decide)]; exact k7, by rw [rf _ _ (by decide)]; exact k8⟩
theorem CG.late {h3 : hpT} {o3 : Nat → Nat} (x : CG B c m h o h3 o3) (l1 : hS h ≤ e) (l2 : e < hS h3) : CG B c m h o (hpR h3 395 e u) o3 := by
  obtain ⟨x1, x2, x3, x4⟩ := x
  exact ⟨(x1.tr (Ch.wR x1.2.2.1 u l2)).mono (fun a ha q => q.elim id (fun q => by omega)) (Nat.le_refl _) (Nat.le_refl _), x2, x3, x4⟩
theorem fcR.ef {ef : Nat} (k : fcR h o y ss cs F) : fcR (hpI h 773 (y 9) (nI ef)) o y ss cs (fSt F, fCl F, fNt F, fCk F, ef) := by
  have k9 : hK h (y 9) = 13 := k.2.1.1.1
  have rI : ∀ f a, ¬ f = 773 → hI (hpI h 773 (y 9) (nI ef)) f a = hI h f a := fun f a hf => by rw [rI_I, if_neg (fun q => hf q.1)]
  have sm : Sm9 h o (y 9) (hpI h 773 (y 9) (nI ef)) o := fun a _ _ _ _ _ _ h13 => ⟨⟨rfl, fun f => ⟨by rw [rI_I, if_neg (fun q => h13 (by rw [q.2]; exact k9))], rfl⟩, rfl, fun _ => ⟨rfl, rfl⟩⟩, rfl⟩
  obtain ⟨a, ⟨⟨b1, b2, b3, b4, b5, b6⟩, b7⟩, c1, d1, e1⟩ := k
  refine ⟨a, ⟨⟨b1, b2, b3, b4, b5, fun i hi => ?_⟩, b7⟩, ⟨c1.1, fun i hi => ?_⟩, fun p hp => ?_, ⟨by rw [rI _ _ (by decide)]; exact e1.1, by rw [rI_I, if_pos ⟨rfl, rfl⟩]; rfl⟩⟩
  · obtain ⟨t1, t2, t3, t4, t5, t6, t7, t8, t9, t10⟩ := b6 i hi
    exact ⟨t1, t2, t3, t4, t5, t6, t7, t8, by rw [rI _ _ (by decide)]; exact t9, t10⟩
  · obtain ⟨v1, v2, v3⟩ := c1.2 i hi
    refine ⟨v1, fun n hn => ?_, fun n hn => (v3 n hn).fr sm⟩
    obtain ⟨q, z1, z2, z3⟩ := v2 n hn
    have := z3.1
    exact ⟨q, z1, z2, z3.fr (sm q z2 (by omega) (by omega) (by omega) (by omega) (by omega) (by omega)).1⟩
  · rcases d1 p hp with z | ⟨m, x, z1, z2, z3⟩
    · exact Or.inl z
    · exact Or.inr ⟨m, x, z1, z2, z3.fr sm⟩
theorem fcR.ck {ck : Nat} (k : fcR h o y ss cs F) : fcR (hpI h 772 (y 9) (nI ck)) o y ss cs (fSt F, fCl F, fNt F, ck, fEf F) := by
  have k9 : hK h (y 9) = 13 := k.2.1.1.1
  have rI : ∀ f a, ¬ f = 772 → hI (hpI h 772 (y 9) (nI ck)) f a = hI h f a := fun f a hf => by rw [rI_I, if_neg (fun q => hf q.1)]
  have sm : Sm9 h o (y 9) (hpI h 772 (y 9) (nI ck)) o := fun a _ _ _ _ _ _ h13 => ⟨⟨rfl, fun f => ⟨by rw [rI_I, if_neg (fun q => h13 (by rw [q.2]; exact k9))], rfl⟩, rfl, fun _ => ⟨rfl, rfl⟩⟩, rfl⟩
  obtain ⟨a, ⟨⟨b1, b2, b3, b4, b5, b6⟩, b7⟩, c1, d1, e1⟩ := k
  refine ⟨a, ⟨⟨b1, b2, b3, b4, b5, fun i hi => ?_⟩, b7⟩, ⟨c1.1, fun i hi => ?_⟩, fun p hp => ?_, ⟨by rw [rI_I, if_pos ⟨rfl, rfl⟩]; rfl, by rw [rI _ _ (by decide)]; exact e1.2⟩⟩
  · obtain ⟨t1, t2, t3, t4, t5, t6, t7, t8, t9, t10⟩ := b6 i hi
    exact ⟨t1, t2, t3, t4, t5, t6, t7, t8, by rw [rI _ _ (by decide)]; exact t9, t10⟩
  · obtain ⟨v1, v2, v3⟩ := c1.2 i hi
    refine ⟨v1, fun n hn => ?_, fun n hn => (v3 n hn).fr sm⟩
    obtain ⟨q, z1, z2, z3⟩ := v2 n hn
    have := z3.1
    exact ⟨q, z1, z2, z3.fr (sm q z2 (by omega) (by omega) (by omega) (by omega) (by omega) (by omega)).1⟩
  · rcases d1 p hp with z | ⟨m, x, z1, z2, z3⟩
    · exact Or.inl z
    · exact Or.inr ⟨m, x, z1, z2, z3.fr sm⟩
theorem CG.y9I (wf : hWF h) (ok : oOK o) (k : fcR h o y ss cs F) {f : Nat} {x : Int32} (hf : ¬ f = 512) : CG (fun z => z = y 9) 0 0 h o (hpI h f (y 9) x) o := CG.wI wf ok (by have := k.2.1.1.1; omega) (by have := k.2.1.1.1; omega) (by rw [k.1.1.1]; exact k.1.1.1) hf
theorem StpG.y9I (kS : RS g h o w y R R2 ss Ls Ds (fSt F')) (k9 : hK h (y 9) = 13) {f : Nat} {x : Int32} (hf : ¬ f = 512) (kF0 : fcR h o y ss cs F) (kF : fcR (hpI h f (y 9) x) o y ss cs F') : StpG g h o y R R2 ss Ls Ds 0 0 F' (hpI h f (y 9) x) := by
  have cg : CG (fun z => z = y 9) 0 0 h o (hpI h f (y 9) x) o := CG.y9I kS.1.1 kS.1.2.2 kF0 hf
  obtain ⟨r1, r2⟩ := RS.f9 kS cg (fun z q => Or.inl q)
  have k12 := kS.2.1.2.2.2
  exact ⟨o, w, Ls, Ds, cs, 0, 0, r1, kF, cg.mono kS.1.2.2 (fun z _ q => by rw [q]; exact kinds_ne (h := h) (by omega)) (Nat.le_refl _) (Nat.le_refl _), Cst.of cg r2 (Nat.le_refl _) (Nat.le_refl _), fun a _ _ h13 => ⟨⟨rfl, fun f' => ⟨by rw [rI_I, if_neg (fun q => h13 (by rw [q.2]; exact k9))], rfl⟩, rfl, fun _ => ⟨rfl, rfl⟩⟩, rfl⟩⟩
/-- the last piece: from 177 on -/
theorem chg_end (kS : RS g h o w y R R2 ss Ls Ds (fSt F)) (kF : fcR h o y ss cs F) (hi : i < y 20) {x4 x8 x9 : Int32} {r2 r3 r5 : Option Nat} {r7 : Option Nat} {b7 : Bool} (h7 : b7 = r7.isSome) (kp : hK h p = 7) (ep : (hI h 391 p, hI h 392 p, hI h 393 p) = v) (hF : F' = (if ¬ x9 = -1 then setS F (bdA (fSt F) i) else if b7 = true then setS F (sfS (fSt F) i (sSf ((tSv (fSt F)).getD i sr0) + 1)) else F)) : Ev g P 85 177 [some (va_rf (some (y 9))), some (va_rf (some (ss.getD i 0))), some (va_rf r2), some (va_rf r3), some (.int x4), some (va_rf r5), some (va_rf (some p)), some (va_rf r7), some (.int x8), some (.int x9)] [] h (fun h' z => ∃ x, z = some (va_rf x) ∧ StpA g h o y R R2 ss Ls Ds 13 (nf 4 + nf 0 + 40 + nf 1) F' x (if ¬ x9 = -1 then none else some v) h') := by
  obtain ⟨k0, k1, k4, kse, kde⟩ := kS.kinds
  have wf := kS.1.1
  have ok := kS.1.2.2
  have k9 := kS.2.1.2.2.1
  obtain ⟨⟨a1, a2, a3⟩, -⟩ := kF.1
  refine s_85_177 (kt := fun z => ?_) (kf := fun z => ?_)
  · rw [if_neg (not_not_intro z)] at hF ⊢
    have last : ∀ h3, StpG g h o y R R2 ss Ls Ds 0 0 F' h3 → hK h3 p = 7 → p < hS h3 → (hI h3 391 p, hI h3 392 p, hI h3 393 p) = v → Ev g P 85 208 [some (va_rf (some (y 9))), some (va_rf (some (ss.getD i 0))), some (va_rf r2), some (va_rf r3), some (.int x4), some (va_rf r5), some (va_rf (some p)), some (va_rf r7), some (.int x8), some (.int x9)] [] h3 (fun h' z => ∃ x, z = some (va_rf x) ∧ StpA g h o y R R2 ss Ls Ds 13 (nf 4 + nf 0 + 40 + nf 1) F' x (some v) h') := by
      intro h3 st k7 lp ev
      have w3 : hWF h3 := by obtain ⟨o2, w2, L2, D2, cs2, c2, m2, z0, -⟩ := st; exact z0.1.1
      refine s_85_208 (kk := s_85_211 (k3 := by rw [hK_O lp]; exact k7) (e5 := rfl) (hc := m_0 (hK_O_new h3 1)) (kk := fun h4 e4 => s_85_230 ⟨_, rfl, ?_⟩))
      rw [e4, ← ev]
      obtain ⟨n1, n2⟩ := newA_of w3 (hI h3 391 p, hI h3 392 p, hI h3 393 p)
      exact (StpA.new wf ok st n1 n2).le (by omega) (by omega)
    have lp := wf.lt (a := p) (by omega)
    refine s_85_193 (kt := fun z7 => ?_) (kf := fun z7 => ?_)
    · rw [z7] at h7
      have h7 : b7 = false := h7
      rw [h7, if_neg (by decide)] at hF
      refine last h ?_ kp lp ep
      rw [hF]
      exact StpG.rf kS kF
    · have h7 : b7 = true := by
        rw [h7]
        cases r7 with
        | none => exact absurd rfl z7
        | some _ => rfl
      rw [h7, if_pos rfl] at hF
      obtain ⟨⟨b1, b2, b3⟩, ⟨c1, c2, c3, c4, c5, c6, c7⟩, d, f0, -, -⟩ := kS.2.2.2.1.2.2 i hi
      refine s_85_198 (k3 := b1) (kk := ?_)
      obtain ⟨s1, s2, s3⟩ := RS.sI (f := 581) (v := hI h 581 (ss.getD i 0) + 1) (x' := sfX ((tSv (fSt F)).getD i sr0) (sSf ((tSv (fSt F)).getD i sr0) + 1)) kS hi (by decide) rfl rfl rfl rfl (by rw [c5]; rfl) rfl rfl rfl rfl d
      have np : ¬ p = ss.getD i 0 := kinds_ne (h := h) (by omega)
      have eI : ∀ f, hI (hpI h 581 (ss.getD i 0) (hI h 581 (ss.getD i 0) + 1)) f p = hI h f p := fun f => by rw [rI_I, if_neg (fun q => np q.2)]
      have k12 := kS.2.1.2.2.2
      refine last _ ?_ kp lp (by rw [eI, eI, eI]; exact ep)
      rw [hF]
      have n9 : ¬ y 9 = ss.getD i 0 := kinds_ne (h := h) (by omega)
      exact ⟨o, w, Ls, Ds, cs, 0, 0, s1, fcR.fr wf k9 kF s2 n9, s2.mono ok (fun z _ q => by rw [q]; exact kinds_ne (h := h) (by omega)) (Nat.le_refl _) (Nat.le_refl _), Cst.of s2 s3 (Nat.le_refl _) (Nat.le_refl _), Sm13.of wf s2 a1 n9⟩
  · rw [if_pos z] at hF ⊢
    have hbd := m_bringDown (P := P) kS hi
    rw [← a3] at hbd
    refine s_85_183 (k3 := k9) (e5 := a3) (k6 := k4) (hc := hbd) (kk := fun h3 st => s_85_191 ⟨_, rfl, ?_⟩)
    obtain ⟨o2, w2, L2, D2, cs2, c2, m2, z0, z1, z2, z3, z4⟩ := StpG.ofC kS kF st
    rw [hF]
    exact StpA.le (kc := 12) (km := nf 4 + nf 0 + 40) ⟨o2, w2, L2, D2, cs2, c2, m2, z0, z1, z2, z3, z4, Or.inl ⟨rfl, rfl⟩⟩ (by omega) (by omega)
end CHG
