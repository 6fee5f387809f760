/-! frames by roots: o a is who owns a, o (o a) the root -/
def oOK (o : Nat → Nat) : Prop := ∀ a, o a ≤ a
def chS (h : hpT) (o : Nat → Nat) (B : Nat → Prop) (a : Nat) : Prop := ¬ hK h a = 7 ∧ (hK h a = 0 ∨ B (o (o a)))
def CG (B : Nat → Prop) (c m : Nat) (h : hpT) (o : Nat → Nat) (h' : hpT) (o' : Nat → Nat) : Prop := Ch (chS h o B) c m h h' ∧ (∀ a, a < hS h → o' a = o a) ∧ oOK o' ∧ ∀ y, hK h y = 9 → hI h' 512 y = hI h 512 y
section ROOT
variable {g : gcT} {o o' o1 o2 : Nat → Nat} {h h' h1 h2 : hpT} {B B' : Nat → Prop} {c m c' m' : Nat}
theorem CG.rf (w : hWF h) (ok : oOK o) (B : Nat → Prop) : CG B 0 0 h o h o := ⟨Ch.rf w _, fun _ _ => rfl, ok, fun _ _ => rfl⟩
theorem CG.mono (x : CG B c m h o h' o') (ok : oOK o) (hb : ∀ y, y < hS h → B y → B' y) (hc : c ≤ c') (hm : m ≤ m') : CG B' c' m' h o h' o' := ⟨x.1.mono (fun a ha q => ⟨q.1, q.2.imp id (fun q => hb _ (Nat.lt_of_le_of_lt (ok _) (Nat.lt_of_le_of_lt (ok _) ha)) q)⟩) hc hm, x.2⟩
theorem CG.tr (w : hWF h) (ok : oOK o) (x : CG B c m h o h1 o1) (y : CG B c' m' h1 o1 h2 o2) : CG B (c + c') (m + m') h o h2 o2 := by
  obtain ⟨x1, x2, x3, x4⟩ := x
  obtain ⟨y1, y2, y3, y4⟩ := y
  refine ⟨(x1.tr y1).mono (fun a ha q => q.elim id (fun q => ⟨?_, ?_⟩)) (Nat.le_refl _) (Nat.le_refl _), fun a ha => ?_, y3, fun y hy => ?_⟩
  · rw [← (x1.2.1 a ha).1]; exact q.1
  · have e : o1 (o1 a) = o (o a) := by rw [x2 a ha, x2 _ (Nat.lt_of_le_of_lt (ok a) ha)]
    rw [← e, ← (x1.2.1 a ha).1]; exact q.2
  · rw [y2 a (Nat.lt_of_lt_of_le ha x1.1.1), x2 a ha]
  · rw [y4 y (by rw [(x1.2.1 y (w.lt (by omega))).1]; exact hy), x4 y hy]
/-- a change whose addresses are known, nothing new owned otherwise -/
theorem CG.of {A : Nat → Prop} (x : Ch A c m h h') (hA : ∀ a, a < hS h → A a → ¬ hK h a = 7 ∧ (hK h a = 0 ∨ B (o (o a)))) (e : ∀ a, a < hS h → o' a = o a) (ok : oOK o') (hn : ∀ y, hK h y = 9 → hI h' 512 y = hI h 512 y) : CG B c m h o h' o' := ⟨x.mono (fun a ha q => hA a ha q) (Nat.le_refl _) (Nat.le_refl _), e, ok, hn⟩
/-- where nothing is made the owners stay -/
theorem CG.of0 {A : Nat → Prop} (x : Ch A c m h h') (ok : oOK o) (hA : ∀ a, a < hS h → A a → ¬ hK h a = 7 ∧ (hK h a = 0 ∨ B (o (o a)))) (hn : ∀ y, hK h y = 9 → hI h' 512 y = hI h 512 y) : CG B c m h o h' o := CG.of x hA (fun _ _ => rfl) ok hn
/-- other owners of what is new -/
theorem CG.ow (x : CG B c m h o h' o') (e : ∀ a, a < hS h → o2 a = o a) (ok : oOK o2) : CG B c m h o h' o2 := ⟨x.1, e, ok, x.2.2.2⟩
/-- no SEGMENT is touched -/
theorem nm9 {A : Nat → Prop} (w : hWF h) (x : Ch A c m h h') (n9 : ∀ a, A a → ¬ hK h a = 9) : ∀ y, hK h y = 9 → hI h' 512 y = hI h 512 y := fun y hy => ((x.sm (fun q => n9 y q hy) (w.lt (by omega))).2.1 512).1
theorem CG.w (x : CG B c m h o h' o') : hWF h' := x.1.2.2.1
theorem gOK.ch {A : Nat → Prop} (hg : gOK g h) (x : Ch A c m h h') : gOK g h' := by
  obtain ⟨g1, g2, g3, g4, g5⟩ := hg
  exact ⟨by rw [(x.2.1 _ g4).1]; exact g1, by rw [(x.2.1 _ g5).1]; exact g2, g3, Nat.lt_of_lt_of_le g4 x.1.1, Nat.lt_of_lt_of_le g5 x.1.1⟩
theorem CG.sm (x : CG B c m h o h' o') (w : hWF h) {a : Nat} (na : ¬ B (o (o a))) (ha : ¬ hK h a = 0) : Sm h h' a := x.1.sm (fun q => q.2.elim ha na) (w.lt ha)
theorem CG.smp (x : CG B c m h o h' o') {a : Nat} (na : hK h a = 7) (w : hWF h) : Sm h h' a := x.1.sm (fun q => q.1 na) (w.lt (by omega))
end ROOT
/-- a TOMB's home: a SEGMENT of this LOG, there or gone -/
def tmK (h : hpT) (o : Nat → Nat) (L nx : Nat) (zs : List svT) (q : Nat) : Prop := hI h 384 q = 3 → ∃ s n, hR h 395 q = some s ∧ hK h s = 9 ∧ o s = L ∧ hI h 512 s = nI n ∧ n < nx ∧ (hI h 524 s = 0 → ∃ y ∈ zs, y.1 = s) ∧ ∀ y ∈ zs, nmN y = n → y.1 = s
def lgK (g : gcT) (h : hpT) (o : Nat → Nat) (N U L nx : Nat) (zs : List svT) : Prop := lgG g h o N U L zs ∧ o L = L ∧ (∀ z ∈ zs, nmN z < nx) ∧ ∀ z ∈ zs, ∀ q ∈ zPs z, tmK h o L nx zs q
section LGK
variable {g : gcT} {o o' : Nat → Nat} {h h' : hpT} {B : Nat → Prop} {c m N U L nx nx' : Nat} {zs : List svT}
theorem lgK.up (k : lgK g h o N U L nx zs) (hn : nx ≤ nx') : lgK g h o N U L nx' zs := by
  obtain ⟨k1, k2, k3, k4⟩ := k
  refine ⟨k1, k2, fun z hz => Nat.lt_of_lt_of_le (k3 z hz) hn, fun z hz q hq e => ?_⟩
  obtain ⟨s, n, a1, a2, a3, a4, a5, a6⟩ := k4 z hz q hq e
  exact ⟨s, n, a1, a2, a3, a4, Nat.lt_of_lt_of_le a5 hn, a6⟩
theorem lgK.lts (w : hWF h) (k : lgK g h o N U L nx zs) : L < hS h ∧ (∀ l, hR h 256 L = some l → l < hS h ∧ hK h l = 1) ∧ ∀ z ∈ zs, z.1 < hS h ∧ z.2.1.1 < hS h ∧ z.2.1.2.1 < hS h ∧ z.2.1.2.2.1 < hS h ∧ z.2.1.2.2.2.1 < hS h ∧ z.2.1.2.2.2.2 < hS h ∧ ∀ p ∈ zPs z, p < hS h ∧ hK h p = 7 := by
  refine ⟨w.lt (by have := k.1.1.1; omega), fun l hl => ?_, fun z hz => sgV.lts w (k.1.sg z hz)⟩
  obtain ⟨-, l', e, q, -⟩ := k.1.1
  rw [hl] at e
  cases e
  exact ⟨w.lt (by have := q.1.1; omega), q.1.1⟩
theorem tmK.fr (w : hWF h) (x : CG B c m h o h' o') (nB : ¬ B L) (rL : o L = L) {q : Nat} (kq : hK h q = 7) (k : tmK h o L nx zs q) : tmK h' o' L nx zs q := by
  intro e
  have sq := x.smp kq w
  rw [(sq.2.1 384).1] at e
  obtain ⟨s, n, a1, a2, a3, a4, a5, a6, a7⟩ := k e
  have ls := w.lt (a := s) (by omega)
  have ss := x.sm w (a := s) (by rw [a3, rL]; exact nB) (by omega)
  exact ⟨s, n, by rw [(sq.2.1 395).2]; exact a1, by rw [ss.1]; exact a2, by rw [x.2.1 s ls]; exact a3, by rw [(ss.2.1 512).1]; exact a4, a5, fun e => a6 (by rw [← (ss.2.1 524).1]; exact e), a7⟩
theorem lgK.fr (w : hWF h) (hg : gOK g h) (k : lgK g h o N U L nx zs) (x : CG B c m h o h' o') (nB : ¬ B L) : lgK g h' o' N U L nx zs := by
  obtain ⟨tL, tl, tz⟩ := k.lts w
  obtain ⟨⟨k1, k2, k3, k4, k5⟩, kr, kn, kt⟩ := k
  have nL : ¬ B (o (o L)) := by rw [kr, kr]; exact nB
  have nl : ∀ l, hR h 256 L = some l → ¬ B (o (o l)) := fun l hl => by rw [(k2 l hl).1, kr]; exact nB
  have ne : ∀ l, hR h 256 L = some l → ∀ e, hR h 1 l = some e → hK h e = 28 → ¬ B (o (o e)) := fun l hl e he ke => by rw [(k2 l hl).2 e he ke, (k2 l hl).1]; exact nB
  have nz : ∀ z ∈ zs, ¬ B (o (o z.1)) := fun z hz => by rw [(k3 z hz).2.1, kr]; exact nB
  have nr : ∀ z ∈ zs, ∀ b, o b = z.1 → ¬ B (o (o b)) := fun z hz b hb => by rw [hb, (k3 z hz).2.1]; exact nB
  have k5' := k1.1
  have sL := x.sm w nL (by omega)
  have kz : ∀ z ∈ zs, sgX h N U z := fun z hz => (k1.2.choose_spec.2.2 z hz).1
  refine ⟨⟨?_, fun l hl => ?_, fun z hz => ?_, k4, k5⟩, ?_, kn, fun z hz q hq e => ?_⟩
  · refine lgF.fr w k1 x.1 (fun q => q.2.elim (by omega) nL) (fun l hl => ⟨fun q => q.2.elim (by have := (tl l hl).2; omega) (nl l hl), fun e he ke q => q.2.elim (by omega) (ne l hl e he ke)⟩) (fun z hz => ?_) (fun z hz q hq a => a.1 ((tz z hz).2.2.2.2.2.2 q hq).2)
    obtain ⟨p1, p2, p3, p4, p5⟩ := (k3 z hz).1
    obtain ⟨a1, -, -, -, -, -, a7, a8, a9, a10, a11, -⟩ := (kz z hz).1
    exact ⟨fun q => q.2.elim (by omega) (nz z hz), fun q => q.2.elim (by omega) (nr z hz _ p1), fun q => q.2.elim (by omega) (nr z hz _ p2), fun q => q.2.elim (by omega) (nr z hz _ p3), fun q => q.2.elim (by omega) (nr z hz _ p4), fun q => q.2.elim (by omega) (nr z hz _ p5)⟩
  · rw [(sL.2.1 256).2] at hl
    have sl := x.sm w (nl l hl) (by have := (tl l hl).2; omega)
    refine ⟨by rw [x.2.1 l (tl l hl).1]; exact (k2 l hl).1, fun e he ke => ?_⟩
    rw [(sl.2.1 1).2] at he
    obtain ⟨-, l', e', ⟨⟨-, -, d, d1, d2⟩, -⟩, -⟩ := k1
    rw [hl] at e'
    cases e'
    rw [d1] at he
    cases he
    rcases d2 with ⟨d2, d3⟩ | ⟨d2, -⟩
    · rw [d2, (x.1.2.1 _ hg.2.2.2.2).1, hg.2.1] at ke
      exact absurd ke (by decide)
    · have le := w.lt (a := e) (by omega)
      rw [x.2.1 e le]
      exact (k2 l hl).2 e d1 d2
  · obtain ⟨p1, p2, p3, p4, p5⟩ := (k3 z hz).1
    obtain ⟨t0, t1, t2, t3, t4, t5, -⟩ := tz z hz
    refine ⟨⟨by rw [x.2.1 _ t1]; exact p1, by rw [x.2.1 _ t2]; exact p2, by rw [x.2.1 _ t3]; exact p3, by rw [x.2.1 _ t4]; exact p4, by rw [x.2.1 _ t5]; exact p5⟩, by rw [x.2.1 _ t0]; exact (k3 z hz).2.1, ?_⟩
    rw [((x.sm w (nz z hz) (by have := (kz z hz).1.1; omega)).2.1 524).1]; exact (k3 z hz).2.2
  · rw [x.2.1 L tL]; exact kr
  · exact tmK.fr w x nB kr ((tz z hz).2.2.2.2.2.2 q hq).2 (kt z hz q hq) e
end LGK
/-- the owner of other things may be told anew -/
theorem lgK.ow {g : gcT} {o o' : Nat → Nat} {h : hpT} {N U L nx : Nat} {zs : List svT} (k : lgK g h o N U L nx zs) (e : ∀ a, ¬ o' a = o a → o a = a ∧ hK h a = 9) : lgK g h o' N U L nx zs := by
  obtain ⟨⟨k1, k2, k3, k4, k5⟩, kr, kn, kt⟩ := k
  have kz : ∀ z ∈ zs, sgX h N U z := fun z hz => (k1.2.choose_spec.2.2 z hz).1
  have e9 : ∀ a, ¬ hK h a = 9 → o' a = o a := fun a ha => Decidable.byContradiction (fun q => ha (e a q).2)
  have eL : ∀ a, o a = L → o' a = L := fun a ha => Decidable.byContradiction (fun q => by
    obtain ⟨q1, q2⟩ := e a (fun z => q (z.trans ha))
    rw [ha] at q1
    rw [← q1, k1.1] at q2
    exact absurd q2 (by decide))
  refine ⟨⟨k1, fun l hl => ⟨eL l (k2 l hl).1, fun d hd kd => ?_⟩, fun z hz => ⟨?_, eL _ (k3 z hz).2.1, (k3 z hz).2.2⟩, k4, k5⟩, eL L kr, kn, fun z hz q hq e3 => ?_⟩
  · rw [e9 d (by omega)]; exact (k2 l hl).2 d hd kd
  · obtain ⟨p1, p2, p3, p4, p5⟩ := (k3 z hz).1
    obtain ⟨a1, -, -, -, -, -, a7, a8, a9, a10, a11, -⟩ := (kz z hz).1
    exact ⟨by rw [e9 _ (by omega)]; exact p1, by rw [e9 _ (by omega)]; exact p2, by rw [e9 _ (by omega)]; exact p3, by rw [e9 _ (by omega)]; exact p4, by rw [e9 _ (by omega)]; exact p5⟩
  · obtain ⟨s, n, a1, a2, a3, a4⟩ := kt z hz q hq e3
    exact ⟨s, n, a1, a2, eL s a3, a4⟩
/-- a list that grew -/
def oX (o : Nat → Nat) (h : hpT) (l : Nat) (x : Nat) : Nat := if x < hS h then o x else l
theorem oX.ok {o : Nat → Nat} {h : hpT} {l : Nat} (ok : oOK o) (hl : l < hS h) : oOK (oX o h l) := by
  intro a
  unfold oX
  split
  · exact ok a
  · omega
theorem Grew.cg {g : gcT} {o : Nat → Nat} {h h' : hpT} {l n b c : Nat} {ys ys' : List Nat} (w : hWF h) (ok : oOK o) (hg : gOK g h) (kl : tLs g h c l ys) (ow : ownL h o b l) (rb : o b = b) (gr : Grew g l n h h') (kl' : tLs g h' c l ys') : CG (fun y => y = b) (capO g h' l - capO g h l) (4 * (capO g h' l - capO g h l)) h o h' (oX o h l) ∧ ownL h' (oX o h l) b l := by
  have ll : l < hS h := w.lt (by have := kl.1.1; omega)
  obtain ⟨-, -, x, gr4⟩ := gr
  have row : ∀ d, hR h 1 l = some d → d = g.2.2.2 ∨ hK h d = 28 := by
    intro d hd
    obtain ⟨⟨-, -, e, b3, b4⟩, -, -⟩ := kl
    rw [b3] at hd
    cases hd
    rcases b4 with ⟨b4, -⟩ | ⟨b4, -⟩
    · exact Or.inl b4
    · exact Or.inr b4
  have k1 := kl.1.1
  constructor
  · refine CG.of x (fun a ha q => ?_) (fun a ha => if_pos ha) (oX.ok ok ll) (nm9 w x (fun a q => ?_))
    rotate_left
    · rcases q with q | q
      · rw [q]; omega
      · rcases row a q with z | z
        · rw [z, hg.2.1]; decide
        · omega
    rcases q with q | q
    · rw [q]; exact ⟨by omega, Or.inr (by rw [ow.1]; exact rb)⟩
    · rcases row a q with z | z
      · rw [z, hg.2.1]; exact ⟨by decide, Or.inl rfl⟩
      · exact ⟨by omega, Or.inr (by rw [ow.2 a q z, ow.1])⟩
  · refine ⟨(if_pos ll).trans ow.1, fun d hd kd => ?_⟩
    by_cases q : d < hS h
    · rcases gr4 d hd with z | z
      · rw [(x.2.1 d q).1] at kd
        exact (if_pos q).trans (ow.2 d z kd)
      · omega
    · exact if_neg q
