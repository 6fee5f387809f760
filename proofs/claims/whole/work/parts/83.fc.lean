/-! the face: clients and the NET.
  A REQUEST: kind, key, a, b; an ANSWER: status, value, version; a MESSAGE: client, number, acked, target, answer; a client: its REQUESTS, its answers;
  the whole: state of SERVERS, clients, NET, clock, effects -/
abbrev rqT := Int32 × Int32 × Int32 × Int32
abbrev anT := Int32 × Int32 × Int32
abbrev msT := Nat × Nat × Int32 × Option Nat × Option anT
abbrev kcT := List rqT × (Nat → Option anT)
abbrev fcT := stA × List kcT × (Nat → Option msT) × Nat × Nat
def cl0 : kcT := ([], fun _ => none)
def rq0 : rqT := (0, 0, 0, 0)
def fSt (F : fcT) : stA := F.1
def fCl (F : fcT) : List kcT := F.2.1
def fNt (F : fcT) : Nat → Option msT := F.2.2.1
def fCk (F : fcT) : Nat := F.2.2.2.1
def fEf (F : fcT) : Nat := F.2.2.2.2
def reqV (h : hpT) (q c n : Nat) (r : rqT) : Prop := hK h q = 8 ∧ hI h 448 q = nI c ∧ hI h 449 q = nI n ∧ hI h 450 q = r.1 ∧ hI h 451 q = r.2.1 ∧ hI h 452 q = r.2.2.1 ∧ hI h 453 q = r.2.2.2
def ansV (h : hpT) (a : Nat) (x : anT) : Prop := hK h a = 2 ∧ hI h 64 a = x.1 ∧ hI h 65 a = x.2.1 ∧ hI h 66 a = x.2.2
def ansO (h : hpT) (o : Nat → Nat) (r9 : Nat) (r : Option Nat) (x : Option anT) : Prop := (r = none ∧ x = none) ∨ ∃ a v, r = some a ∧ x = some v ∧ ansV h a v ∧ o a = r9
def msgV (h : hpT) (o y : Nat → Nat) (ss : List Nat) (cl : List kcT) (m : Nat) (x : msT) : Prop := hK h m = 6 ∧ o m = y 9 ∧ (x.1 < 6 ∧ 1 ≤ x.2.1 ∧ x.2.1 ≤ (cl.getD x.1 cl0).1.length) ∧ (∃ q, hR h 320 m = some q ∧ o q = y 9 ∧ reqV h q x.1 x.2.1 ((cl.getD x.1 cl0).1.getD (x.2.1 - 1) rq0)) ∧ hI h 321 m = x.2.2.1 ∧ (hR h 322 m = x.2.2.2.1.map (fun t => ss.getD t 0) ∧ ∀ t, x.2.2.2.1 = some t → t < y 20) ∧ ansO h o (y 9) (hR h 323 m) x.2.2.2.2
abbrev csT := List (Nat × Nat × Nat × Nat)
def cs0 : Nat × Nat × Nat × Nat := (0, 0, 0, 0)
def fcA (h : hpT) (o y : Nat → Nat) : Prop := (o (y 9) = y 9 ∧ hR h 768 (y 9) = some (y 0) ∧ hR h 769 (y 9) = some (y 4)) ∧ hR h 771 (y 9) = some (y 11) ∧ hK h (y 11) = 24 ∧ hN h (y 11) = 40 ∧ o (y 11) = y 9
def fcB (h : hpT) (o y : Nat → Nat) (cs : csT) : Prop := clsV h (y 9) (y 10) cs ∧ o (y 10) = y 9 ∧ (∀ i, i < 6 → o (cs.getD i cs0).1 = y 9 ∧ o (cs.getD i cs0).2.1 = y 9 ∧ o (cs.getD i cs0).2.2.1 = y 9) ∧ ∀ i j, i < 6 → j < 6 → ¬ i = j → ¬ (cs.getD i cs0).1 = (cs.getD j cs0).1 ∧ ¬ (cs.getD i cs0).2.1 = (cs.getD j cs0).2.1 ∧ ¬ (cs.getD i cs0).2.2.1 = (cs.getD j cs0).2.2.1
def fcC (h : hpT) (o y : Nat → Nat) (cs : csT) (cl : List kcT) : Prop := cl.length = 6 ∧ ∀ i, i < 6 → (cs.getD i cs0).2.2.2 = (cl.getD i cl0).1.length ∧ (∀ n, n < (cl.getD i cl0).1.length → ∃ q, hB h (cs.getD i cs0).2.1 n = some q ∧ o q = y 9 ∧ reqV h q i (n + 1) ((cl.getD i cl0).1.getD n rq0)) ∧ ∀ n, n < 40 → ansO h o (y 9) (hB h (cs.getD i cs0).2.2.1 n) ((cl.getD i cl0).2 n)
def fcD (h : hpT) (o y : Nat → Nat) (ss : List Nat) (cl : List kcT) (nt : Nat → Option msT) : Prop := ∀ p, p < 40 → (hB h (y 11) p = none ∧ nt p = none) ∨ ∃ m x, hB h (y 11) p = some m ∧ nt p = some x ∧ msgV h o y ss cl m x
def fcE (h : hpT) (y : Nat → Nat) (ck ef : Nat) : Prop := hI h 772 (y 9) = nI ck ∧ hI h 773 (y 9) = nI ef
def fcR (h : hpT) (o y : Nat → Nat) (ss : List Nat) (cs : csT) (F : fcT) : Prop := fcA h o y ∧ fcB h o y cs ∧ fcC h o y cs (fCl F) ∧ fcD h o y ss (fCl F) (fNt F) ∧ fcE h y (fCk F) (fEf F)
def B9 (y : Nat → Nat) (z : Nat) : Prop := ¬ z = y 12
def StpF (g : gcT) (h : hpT) (o : Nat → Nat) (y : Nat → Nat) (R R2 : arT) (ss : List Nat) (Ls : List lsT) (Ds : List (Nat × Nat)) (kc km : Nat) (F' : fcT) (h' : hpT) : Prop := ∃ o' w' Ls' Ds' cs' c m, RS g h' o' w' y R R2 ss Ls' Ds' (fSt F') ∧ fcR h' o' y ss cs' F' ∧ CG (B9 y) c m h o h' o' ∧ Cst g y h Ls Ds h' Ls' Ds' kc km
def loA (c : kcT) : Nat := ((List.range c.1.length).find? (fun i => (c.2 i).isNone)).getD c.1.length + 1
def fpA (nt : Nat → Option msT) : Option Nat := (List.range 40).find? (fun i => (nt i).isNone)
theorem find_ext {α : Type} {p q : α → Bool} : ∀ {l : List α}, (∀ x ∈ l, p x = q x) → l.find? p = l.find? q := by
  intro l
  induction l with
  | nil => intro _; rfl
  | cons a l ih =>
    intro h
    rw [List.find?_cons, List.find?_cons, h a List.mem_cons_self, ih (fun x hx => h x (List.mem_cons_of_mem _ hx))]
section FC
variable {g : gcT} {P : pmT} {o o' w w' : Nat → Nat} {y : Nat → Nat} {R R2 : arT} {h h' h1 : hpT} {B : Nat → Prop} {i j t c m n p q : Nat} {ss : List Nat} {Ls : List lsT} {Ds : List (Nat × Nat)} {S S' : stA} {cs : csT} {F : fcT} {cl : List kcT} {nt : Nat → Option msT} {x : msT} {r : rqT} {v : anT} {ck ef : Nat} {u : Option Nat} {ua : Option anT}
theorem RS.f9 (kS : RS g h o w y R R2 ss Ls Ds S) (cg : CG B c m h o h' o') (hb : ∀ z, B z → z = y 9 ∨ z = y 12) : RS g h' o' w y R R2 ss Ls Ds S ∧ fxC g h' y = fxC g h y := by
  obtain ⟨k0, k1, k4, kse, kde⟩ := kS.kinds
  have kS' := kS
  obtain ⟨⟨wf, hg, ok⟩, ⟨yo, hnm, k9, k12⟩, kA, kB, kC, kD⟩ := kS'
  have ne : ∀ z, ¬ hK h z = 13 → ¬ hK h z = 14 → ¬ B z := fun z h1 h2 q => (hb z q).elim (fun q => h1 (by rw [q]; exact k9)) (fun q => h2 (by rw [q]; exact k12))
  exact ⟨⟨⟨cg.w, hg.ch cg.1, cg.2.2.1⟩, ⟨yo, hnm, by rw [(cg.1.2.1 _ (wf.lt (by omega))).1]; exact k9, by rw [(cg.1.2.1 _ (wf.lt (by omega))).1]; exact k12⟩, rsA.fr wf hg kA cg (ne _ (by omega) (by omega)), rsB.fr wf hg kB cg (fun j hj => ⟨ne _ (by have := (kse j hj).1; omega) (by have := (kse j hj).1; omega), ne _ (by have := (kse j hj).2.2.1; omega) (by have := (kse j hj).2.2.1; omega), fun z hz => ne _ (by have := ((kse j hj).2.2.2.2.2 z hz).1; omega) (by have := ((kse j hj).2.2.2.2.2 z hz).1; omega)⟩) (ne _ (by omega) (by omega)) (Nat.le_refl _), rsC.fr wf hg kC cg (fun j hj => ne _ (by have := (kde j hj).1; omega) (by have := (kde j hj).1; omega)) (Nat.le_refl _) (fun _ _ => rfl), rsD.fr wf hg kD cg (ne _ (by omega) (by omega))⟩, fx_eq kS cg (ne _ (by omega) (by omega)) (ne _ (by omega) (by omega))⟩
theorem reqV.fr (k : reqV h q c n r) (s : Sm h h' q) : reqV h' q c n r := by
  obtain ⟨k1, k2, k3, k4, k5, k6, k7⟩ := k
  exact ⟨by rw [s.1]; exact k1, by rw [(s.2.1 448).1]; exact k2, by rw [(s.2.1 449).1]; exact k3, by rw [(s.2.1 450).1]; exact k4, by rw [(s.2.1 451).1]; exact k5, by rw [(s.2.1 452).1]; exact k6, by rw [(s.2.1 453).1]; exact k7⟩
theorem ansV.fr (k : ansV h q v) (s : Sm h h' q) : ansV h' q v := by
  obtain ⟨k1, k2, k3, k4⟩ := k
  exact ⟨by rw [s.1]; exact k1, by rw [(s.2.1 64).1]; exact k2, by rw [(s.2.1 65).1]; exact k3, by rw [(s.2.1 66).1]; exact k4⟩
/-- what belongs to the face stays -/
def Sm9 (h : hpT) (o : Nat → Nat) (r9 : Nat) (h' : hpT) (o' : Nat → Nat) : Prop := ∀ a, o a = r9 → ¬ hK h a = 0 → ¬ hK h a = 26 → ¬ hK h a = 22 → ¬ hK h a = 24 → ¬ hK h a = 3 → ¬ hK h a = 13 → Sm h h' a ∧ o' a = o a
theorem ansO.fr {r9 : Nat} (k : ansO h o r9 u ua) (s : Sm9 h o r9 h' o') : ansO h' o' r9 u ua := by
  rcases k with k | ⟨a, v, k1, k2, k3, k4⟩
  · exact Or.inl k
  · have := k3.1
    obtain ⟨s1, s2⟩ := s a k4 (by omega) (by omega) (by omega) (by omega) (by omega) (by omega)
    exact Or.inr ⟨a, v, k1, k2, k3.fr s1, s2.trans k4⟩
theorem msgV.fr (k : msgV h o y ss cl m x) (s : Sm9 h o (y 9) h' o') : msgV h' o' y ss cl m x := by
  obtain ⟨k1, k2, k3, ⟨q, k4, k5, k6⟩, k7, k8, k9⟩ := k
  obtain ⟨s1, s2⟩ := s m k2 (by omega) (by omega) (by omega) (by omega) (by omega) (by omega)
  have := k6.1
  obtain ⟨t1, t2⟩ := s q k5 (by omega) (by omega) (by omega) (by omega) (by omega) (by omega)
  exact ⟨by rw [s1.1]; exact k1, s2.trans k2, k3, ⟨q, by rw [(s1.2.1 320).2]; exact k4, t2.trans k5, k6.fr t1⟩, by rw [(s1.2.1 321).1]; exact k7, by rw [(s1.2.1 322).2]; exact k8, by rw [(s1.2.1 323).2]; exact k9.fr s⟩
theorem cs_at (k : clsV h (y 9) (y 10) cs) (hi : i < 6) : hB h (y 10) i = some (cs.getD i cs0).1 ∧ clV h (cs.getD i cs0).1 (cs.getD i cs0).2.1 (cs.getD i cs0).2.2.1 (cs.getD i cs0).2.2.2 := by
  obtain ⟨-, -, -, -, l, k⟩ := k
  have e : cs.getD i cs0 = cs[i]'(by omega) := by rw [List.getD_eq_getElem?_getD, List.getElem?_eq_getElem (by omega)]; rfl
  rw [e]
  exact k i (by omega)
theorem fcB.fr (k : fcB h o y cs) (s : ∀ a, o a = y 9 → ¬ hK h a = 0 → Sm h h' a ∧ o' a = o a) (s9 : hR h' 770 (y 9) = hR h 770 (y 9) ∧ hK h' (y 9) = hK h (y 9)) : fcB h' o' y cs := by
  have at' := fun i (hi : i < 6) => cs_at k.1 hi
  obtain ⟨k1, k2, k3, k4⟩ := k
  have k1' := k1
  obtain ⟨c1, c2, c3, c4, c5, c6⟩ := k1'
  have s10 := s (y 10) k2 (by omega)
  refine ⟨⟨by rw [s9.2]; exact c1, by rw [s9.1]; exact c2, by rw [s10.1.1]; exact c3, by rw [s10.1.2.2.1]; exact c4, c5, fun i hi => ?_⟩, s10.2.trans k2, fun i hi => ?_, k4⟩
  · have e : cs.getD i cs0 = cs[i] := by rw [List.getD_eq_getElem?_getD, List.getElem?_eq_getElem hi]; rfl
    obtain ⟨b1, b2⟩ := at' i (by omega)
    obtain ⟨o1, o2, o3⟩ := k3 i (by omega)
    rw [e] at b1 b2 o1 o2 o3
    obtain ⟨d1, d2, d3, d4, d5, d6, d7, d8, d9⟩ := b2
    have t1 := (s _ o1 (by omega)).1
    have t2 := (s _ o2 (by omega)).1
    have t3 := (s _ o3 (by omega)).1
    exact ⟨by rw [(s10.1.2.2.2 i).2]; exact b1, by rw [t1.1]; exact d1, by rw [(t1.2.1 128).2]; exact d2, by rw [(t1.2.1 129).2]; exact d3, by rw [t2.1]; exact d4, by rw [t2.2.2.1]; exact d5, by rw [t3.1]; exact d6, by rw [t3.2.2.1]; exact d7, by rw [(t1.2.1 130).1]; exact d8, d9⟩
  · obtain ⟨b1, b2⟩ := at' i hi
    obtain ⟨o1, o2, o3⟩ := k3 i hi
    obtain ⟨d1, d2, d3, d4, d5, d6, d7, d8, d9⟩ := b2
    exact ⟨(s _ o1 (by omega)).2.trans o1, (s _ o2 (by omega)).2.trans o2, (s _ o3 (by omega)).2.trans o3⟩
theorem fcR.fr (wf : hWF h) (k9 : hK h (y 9) = 13) (k : fcR h o y ss cs F) (cg : CG B c m h o h' o') (nB : ¬ B (y 9)) : fcR h' o' y ss cs F := by
  obtain ⟨⟨⟨a1, a2, a3⟩, a4, a5, a6, a7⟩, kB, kC, kD, kE⟩ := k
  have s : ∀ a, o a = y 9 → ¬ hK h a = 0 → Sm h h' a ∧ o' a = o a := fun a ha h0 => ⟨cg.sm wf (by rw [ha, a1]; exact nB) h0, cg.2.1 a (wf.lt h0)⟩
  have s9 := s (y 9) a1 (by omega)
  have s11 := s (y 11) a7 (by omega)
  have sm : Sm9 h o (y 9) h' o' := fun a ha h0 _ _ _ _ _ => s a ha h0
  have at' := fun i (hi : i < 6) => cs_at kB.1 hi
  refine ⟨⟨⟨s9.2.trans a1, by rw [(s9.1.2.1 768).2]; exact a2, by rw [(s9.1.2.1 769).2]; exact a3⟩, by rw [(s9.1.2.1 771).2]; exact a4, by rw [s11.1.1]; exact a5, by rw [s11.1.2.2.1]; exact a6, s11.2.trans a7⟩, kB.fr s ⟨(s9.1.2.1 770).2, s9.1.1⟩, ⟨kC.1, fun i hi => ?_⟩, fun p hp => ?_, ⟨by rw [(s9.1.2.1 772).1]; exact kE.1, by rw [(s9.1.2.1 773).1]; exact kE.2⟩⟩
  · obtain ⟨d1, d2, d3⟩ := kC.2 i hi
    obtain ⟨b1, b2⟩ := at' i hi
    obtain ⟨o1, o2, o3⟩ := kB.2.2.1 i hi
    have t2 := (s _ o2 (by have := b2.2.2.2.1; omega)).1
    have t3 := (s _ o3 (by have := b2.2.2.2.2.2.1; omega)).1
    refine ⟨d1, fun n hn => ?_, fun n hn => ?_⟩
    · obtain ⟨q, e1, e2, e3⟩ := d2 n hn
      have := e3.1
      obtain ⟨u1, u2⟩ := s q e2 (by omega)
      exact ⟨q, by rw [(t2.2.2.2 n).2]; exact e1, u2.trans e2, e3.fr u1⟩
    · rw [(t3.2.2.2 n).2]
      exact (d3 n hn).fr sm
  · rcases kD p hp with ⟨e1, e2⟩ | ⟨m, x, e1, e2, e3⟩
    · exact Or.inl ⟨by rw [(s11.1.2.2.2 p).2]; exact e1, e2⟩
    · exact Or.inr ⟨m, x, by rw [(s11.1.2.2.2 p).2]; exact e1, e2, e3.fr sm⟩
theorem Sm9.wB {a : Nat} {u : Option Nat} {r9 : Nat} (ha : hK h a = 26 ∨ hK h a = 22 ∨ hK h a = 24) : Sm9 h o r9 (hpB h a n u) o := fun z _ z0 z1 z2 z3 _ _ => by
  have hz : ¬ z = a := fun q => by rw [q] at z1 z2 z3; omega
  exact ⟨⟨rfl, fun _ => ⟨rfl, rfl⟩, rfl, fun i => ⟨rfl, by rw [rB_B, if_neg (fun q => hz q.1)]⟩⟩, rfl⟩
theorem fcB.wB {a : Nat} {u : Option Nat} (k : fcB h o y cs) (ha : ¬ a = y 10) : fcB (hpB h a n u) o y cs := by
  obtain ⟨k1, k2, k3, k4⟩ := k
  obtain ⟨c1, c2, c3, c4, c5, c6⟩ := k1
  exact ⟨⟨c1, c2, c3, c4, c5, fun i hi => ⟨by rw [rB_B, if_neg (fun q => ha q.1.symm)]; exact (c6 i hi).1, (c6 i hi).2⟩⟩, k2, k3, k4⟩
/-- a place of the NET is written -/
theorem fcR.net (k : fcR h o y ss cs F) (hp : p < 40) {um : Option Nat} {ux : Option msT} (hx : (um = none ∧ ux = none) ∨ ∃ m x, um = some m ∧ ux = some x ∧ msgV h o y ss (fCl F) m x) : fcR (hpB h (y 11) p um) o y ss cs (fSt F, fCl F, u1 (fNt F) p ux, fCk F, fEf F) := by
  obtain ⟨kA, kB, kC, kD, kE⟩ := k
  have k11 := kA.2.2.1
  have sm : Sm9 h o (y 9) (hpB h (y 11) p um) o := Sm9.wB (Or.inr (Or.inr k11))
  have k10 := kB.1.2.2.1
  have at' := fun i (hi : i < 6) => cs_at kB.1 hi
  refine ⟨kA, kB.wB (kinds_ne (h := h) (by omega)), ⟨kC.1, fun i hi => ?_⟩, fun p' hp' => ?_, kE⟩
  · obtain ⟨d1, d2, d3⟩ := kC.2 i hi
    obtain ⟨b1, b2⟩ := at' i hi
    have n2 : ¬ (cs.getD i cs0).2.1 = y 11 := kinds_ne (h := h) (by have := b2.2.2.2.1; omega)
    have n3 : ¬ (cs.getD i cs0).2.2.1 = y 11 := kinds_ne (h := h) (by have := b2.2.2.2.2.2.1; omega)
    refine ⟨d1, fun n hn => ?_, fun n hn => ?_⟩
    · obtain ⟨q, e1, e2, e3⟩ := d2 n hn
      have := e3.1
      exact ⟨q, by rw [rB_B, if_neg (fun z => n2 z.1)]; exact e1, e2, e3.fr (sm q e2 (by omega) (by omega) (by omega) (by omega) (by omega) (by omega)).1⟩
    · rw [rB_B, if_neg (fun z => n3 z.1)]
      exact (d3 n hn).fr sm
  · show (hB (hpB h (y 11) p um) (y 11) p' = none ∧ (if p' = p then ux else fNt F p') = none) ∨ ∃ m x, hB (hpB h (y 11) p um) (y 11) p' = some m ∧ (if p' = p then ux else fNt F p') = some x ∧ _
    rw [rB_B]
    by_cases e : p' = p
    · rw [if_pos ⟨rfl, e⟩, if_pos e]
      rcases hx with hx | ⟨m, x, e1, e2, e3⟩
      · exact Or.inl hx
      · exact Or.inr ⟨m, x, e1, e2, e3.fr sm⟩
    · rw [if_neg (fun z => e z.2), if_neg e]
      rcases kD p' hp' with z | ⟨m, x, e1, e2, e3⟩
      · exact Or.inl z
      · exact Or.inr ⟨m, x, e1, e2, e3.fr sm⟩
theorem CG.net (wf : hWF h) (ok : oOK o) (k : fcA h o y) {um : Option Nat} : CG (fun z => z = y 9) 0 0 h o (hpB h (y 11) p um) o := CG.of0 (Ch.wB wf um (wf.lt (by have := k.2.2.1; omega))) ok (fun z _ q => by rw [q]; exact ⟨by have := k.2.2.1; omega, Or.inr (by rw [k.2.2.2.2]; exact k.1.1)⟩) (fun _ _ => rfl)
/-- a MESSAGE at a place -/
theorem fcR.msg (k : fcR h o y ss cs F) (x1 : Int32) : (msgO h (y 11) x1 = none ∧ ∀ p, p < 40 → x1 = nI p → fNt F p = none) ∨ ∃ p m x, p < 40 ∧ x1 = nI p ∧ msgO h (y 11) x1 = some m ∧ fNt F p = some x ∧ msgV h o y ss (fCl F) m x := by
  have kD := k.2.2.2.1
  unfold msgO
  by_cases c1 : x1 < 0
  · rw [if_pos c1]
    exact Or.inl ⟨rfl, fun p hp e => absurd c1 (by rw [e]; exact nI_pos (by omega))⟩
  · rw [if_neg c1]
    obtain ⟨j, hj, ej⟩ := nI_of c1
    by_cases c2 : x1 < 40
    · rw [if_pos c2]
      have h40 : (40 : Int32) = nI 40 := rfl
      have hj40 : j < 40 := by rw [ej, h40] at c2; exact (nI_ltI hj (by omega)).mp c2
      rw [ej, nI_clamp hj]
      rcases kD j hj40 with ⟨e1, e2⟩ | ⟨m, x, e1, e2, e3⟩
      · exact Or.inl ⟨e1, fun p hp e => by rw [← nI_inj hj (by omega) e]; exact e2⟩
      · exact Or.inr ⟨j, m, x, hj40, rfl, e1, e2, e3⟩
    · rw [if_neg c2]
      exact Or.inl ⟨rfl, fun p hp e => absurd (by rw [e]; exact nI_lt (b := 40) hp (by decide)) c2⟩
theorem fcR.free (k : fcR h o y ss cs F) : freeN h (y 11) = match fpA (fNt F) with | some p => nI p | none => -1 := by
  have kD := k.2.2.2.1
  have e : (List.range 40).find? (fun i => (hB h (y 11) i).isNone) = fpA (fNt F) := by
    refine find_ext (fun p hp => ?_)
    rcases kD p (List.mem_range.mp hp) with ⟨e1, e2⟩ | ⟨m, x, e1, e2, e3⟩
    · rw [e1, e2]; rfl
    · rw [e1, e2]; rfl
  unfold freeN
  rw [e]
  cases fpA (fNt F) <;> rfl
theorem fpA_lt (e : fpA nt = some p) : p < 40 := List.mem_range.mp (List.mem_of_find?_eq_some e)
theorem fcR.lo (k : fcR h o y ss cs F) (hi : i < 6) : loN h (cs.getD i cs0).2.2.1 (cs.getD i cs0).2.2.2 = loA ((fCl F).getD i cl0) := by
  obtain ⟨d1, d2, d3⟩ := k.2.2.1.2 i hi
  have u40 := (cs_at k.2.1.1 hi).2.2.2.2.2.2.2.2.2
  unfold loN loA
  rw [d1] at u40 ⊢
  rw [find_ext (q := fun i_1 => (((fCl F).getD i cl0).2 i_1).isNone) (fun n hn => ?_)]
  have hn := List.mem_range.mp hn
  rcases d3 n (by omega) with ⟨e1, e2⟩ | ⟨a, v, e1, e2, -⟩
  · rw [e1, e2]; rfl
  · rw [e1, e2]; rfl
end FC
