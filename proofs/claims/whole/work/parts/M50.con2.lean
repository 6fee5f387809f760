/-! the model: its constructor, from the rows on -/
def adR (h : hpT) (k : Nat) : Nat := hS h + rwL.idxOf k
def muZ : mT := ([], fun _ _ => 0, fun _ => 0)
def muP (y : Nat → Nat) : mT := uN (uN (uN (uN muZ 0 (nI (y 20))) 1 (nI (y 21))) 2 (nI (y 22))) 3 (nI (y 23))
def mc1 (N : Nat) (μ : mT) (t : Nat) : mT := uR (uR μ 13 t (nI (t % N))) 7 (8 * (t % N) + t) 1
def mc2 (μ : mT) (i : Nat) : mT := uR (uR μ 10 i (-1)) 12 i (-1)
def mc4 (μ : mT) (i : Nat) : mT := uR μ 48 i (-1)
def mu0 (y : Nat → Nat) : mT := (List.range 40).foldl mc4 ((List.range 8).foldl mc2 ((List.range 8).foldl (mc1 (y 20)) (muP y)))
def neM (x1 x2 x3 : Int32) : Int32 := if ¬ x2 ≤ x1 then x2 else if ¬ x1 ≤ x3 then x3 else x1
section MC2
variable {g : gcT} {P : pmT} {h h0 h' h1 h2 : hpT} {y ad : Nat → Nat} {a i j k m n r t : Nat} {x x1 x2 x3 x4 x5 : Int32} {μ : mT} {l : List Nat} {Q : hpT → Option Value → Prop}
theorem rwL_ix : ∀ k, k < 59 → aKM k = true → rwL.idxOf k < 42 ∧ rwL.getD (rwL.idxOf k) 0 = k := by decide
theorem aKM_lt (q : aKM k = true) : k < 59 := by
  unfold aKM at q
  simp only [Bool.or_eq_true, Bool.and_eq_true, decide_eq_true_eq] at q
  omega
theorem CM.toH (c : CM h0 a rwL h) (ey : y 12 = a) : HM h y (adR h0) := by
  obtain ⟨⟨c1, c2, c3⟩, c4, c5⟩ := c
  rw [← ey] at c2 c4
  refine ⟨c2, fun k q => ?_, fun k k' q q' e => ?_⟩
  · obtain ⟨i1, i2⟩ := rwL_ix k (aKM_lt q) q
    obtain ⟨e1, e2, e3, e4⟩ := c4 (rwL.idxOf k) i1
    rw [i2] at e1 e2 e4
    exact ⟨e4, e1, e2⟩
  · obtain ⟨i1, i2⟩ := rwL_ix k (aKM_lt q) q
    obtain ⟨i3, i4⟩ := rwL_ix k' (aKM_lt q') q'
    have e : hS h0 + rwL.idxOf k = hS h0 + rwL.idxOf k' := e
    have e : rwL.idxOf k = rwL.idxOf k' := by omega
    rw [← i2, ← i4, e]
theorem CM.toW (c : CM h0 a rwL h) (ey : y 12 = a) (z0 : ∀ f, hI h0 f a = 0) : MW h y (adR h0) muZ := by
  have hm := c.toH ey
  obtain ⟨⟨c1, c2, c3⟩, c4, c5⟩ := c
  refine ⟨hm, c5.2.2.1, ⟨?_, Nat.zero_le _, fun g hg => absurd hg (Nat.not_lt_zero _)⟩, fun r i q => ?_, fun k _ _ => ?_⟩
  · rw [c3, ey, z0]; rfl
  · obtain ⟨i1, i2⟩ := rwL_ix r (aKM_lt (smR_a q).1) (smR_a q).1
    exact (c4 (rwL.idxOf r) i1).2.2.1 i
  · rw [c3, ey, z0]; rfl
theorem MG.ch {c m : Nat} (ha : ∀ k, aKM k = true → hS h0 ≤ ad k) (ey : y 12 = a) (ch : Ch (fun b => b = a) c m h0 h) (x : MG y ad h h') : Ch (fun b => b = a) c m h0 h' := by
  obtain ⟨⟨x1, x2, x3, x4⟩, ⟨x5, x6, x7, x8⟩, x9, x10⟩ := x
  obtain ⟨⟨f1, f2⟩, d2, d3, d4, d5⟩ := ch
  refine ⟨⟨by rw [x1]; exact f1, fun b nb hl => ?_⟩, fun b hl => by rw [x5, x7]; exact d2 b hl, x4, by rw [x2]; exact d4, by rw [x3]; exact d5⟩
  obtain ⟨e1, e2, e3, e4⟩ := f2 b nb hl
  rw [x5, x6, x7, x8]
  exact ⟨e1, fun f => ⟨(x9 f b (fun z => nb (z.1.trans ey))).trans (e2 f).1, (e2 f).2⟩, e3, fun i => ⟨(x10 b i (fun k q _ e => by have := ha k q; omega)).trans (e4 i).1, (e4 i).2⟩⟩
theorem con_a {n8 : Nat} (h8 : n8 = 8) (mw : MW h y ad μ) (e0 : μ.2.2 0 = nI (y 20)) (yo : 4 ≤ y 20 ∧ y 20 ≤ 8) (kk : ∀ h' x5, MG y ad h h' → MW h' y ad ((List.range n8).foldl (mc1 (y 20)) μ) → Ev g P 102 450 [some (va_rf (some (y 12))), some (.int x1), some (.int x2), some (.int x3), some (.int x4), some (.int x5)] [] h' Q) : Ev g P 102 404 [some (va_rf (some (y 12))), some (.int x1), some (.int x2), some (.int x3), some (.int x4), some (.int 0)] [] h Q := by
  have e8 : (8 : Int32) = nI n8 := by rw [h8]; rfl
  have lp := cnt_loop n8 (fun j h1 => MG y ad h h1 ∧ MW h1 y ad ((List.range j).foldl (mc1 (y 20)) μ) ∧ ((List.range j).foldl (mc1 (y 20)) μ).2.2 0 = nI (y 20)) (fun j h1 => Ev g P 102 404 [some (va_rf (some (y 12))), some (.int x1), some (.int x2), some (.int x3), some (.int x4), some (.int (nI j))] [] h1 Q) ?_ ?_ h ⟨MF.rf mw.2.1, mw, e0⟩
  · rw [nI_0] at lp; exact lp
  · intro j h1 hj ⟨ga, mw1, e1⟩ kn
    rw [rfl_s] at kn
    generalize (List.range j).foldl (mc1 (y 20)) μ = ν at mw1 e1 kn
    have e832 : hI h1 832 (y 12) = nI (y 20) := (mw1.n 0 (by decide) (by decide) rfl).trans e1
    have lt := Nat.mod_lt j (show 0 < y 20 by omega)
    have ix : (8 : Int32) * (nI j - nI j / hI h1 832 (y 12) * hI h1 832 (y 12)) + nI j = nI (8 * (j % y 20) + j) := by
      rw [e832, pk_rem (by omega) (by omega) (by omega), ix8M]
    have rm : nI j - nI j / hI h1 832 (y 12) * hI h1 832 (y 12) = nI (j % y 20) := by rw [e832, pk_rem (by omega) (by omega) (by omega)]
    have nz : ¬ hI h1 832 (y 12) = 0 := by rw [e832]; exact nI_ne0 (by omega) (by omega)
    refine s_102_404 (kt := fun z => absurd z (by rw [e8]; exact nI_ge hj (by omega))) (kf := fun _ => ?_)
    refine s_102_411 (k3 := mw1.1.1) (n4 := nz) (e6 := mw1.1.r13) (k7 := mw1.1.k13) (i8 := by rw [mw1.1.n13]; exact vin_nI (by omega) (by decide)) (n9 := nz) (e11 := mw1.1.r7) (k12 := mw1.1.k7) (i13 := by rw [ix, mw1.1.n7]; exact vin_nI (by omega) (by decide)) (kk := ?_)
    rw [ix, rm, nI_clamp (by omega), nI_clamp (by omega), nI_1]
    have mw2 := mw1.wA (r := 13) (i := j) (x := nI (j % y 20)) rfl
    have g2 := mw1.gA (e := 13) (i := j) (x := nI (j % y 20)) rfl
    generalize hpA h1 (ad 13) j (nI (j % y 20)) = H2 at mw2 g2 ⊢
    have mw3 := mw2.wA (r := 7) (i := 8 * (j % y 20) + j) (x := 1) rfl
    have g3 := mw2.gA (e := 7) (i := 8 * (j % y 20) + j) (x := 1) rfl
    exact kn _ ⟨(ga.jn g2).jn g3, mw3, e1⟩
  · intro h1 ⟨ga, mw1, _⟩
    exact s_102_404 (kt := fun _ => kk h1 _ ga mw1) (kf := fun z => absurd (by rw [e8]; exact nI_le (Nat.le_refl _) (by omega)) z)
theorem con_b {n8 : Nat} (h8 : n8 = 8) (mw : MW h y ad μ) (kk : ∀ h' x5, MG y ad h h' → MW h' y ad ((List.range n8).foldl mc2 μ) → Ev g P 102 482 [some (va_rf (some (y 12))), some (.int x1), some (.int x2), some (.int x3), some (.int x4), some (.int x5)] [] h' Q) : Ev g P 102 453 [some (va_rf (some (y 12))), some (.int x1), some (.int x2), some (.int x3), some (.int x4), some (.int 0)] [] h Q := by
  have e8 : (8 : Int32) = nI n8 := by rw [h8]; rfl
  have lp := cnt_loop n8 (fun j h1 => MG y ad h h1 ∧ MW h1 y ad ((List.range j).foldl mc2 μ)) (fun j h1 => Ev g P 102 453 [some (va_rf (some (y 12))), some (.int x1), some (.int x2), some (.int x3), some (.int x4), some (.int (nI j))] [] h1 Q) ?_ ?_ h ⟨MF.rf mw.2.1, mw⟩
  · rw [nI_0] at lp; exact lp
  · intro j h1 hj ⟨ga, mw1⟩ kn
    rw [rfl_s] at kn
    generalize (List.range j).foldl mc2 μ = ν at mw1 kn
    refine s_102_453 (kt := fun z => absurd z (by rw [e8]; exact nI_ge hj (by omega))) (kf := fun _ => ?_)
    refine s_102_460 (k3 := mw1.1.1) (e5 := mw1.1.r10) (k6 := mw1.1.k10) (i7 := by rw [mw1.1.n10]; exact vin_nI (by omega) (by decide)) (e9 := mw1.1.r12) (k10 := mw1.1.k12) (i11 := by rw [mw1.1.n12]; exact vin_nI (by omega) (by decide)) (kk := ?_)
    rw [nI_clamp (by omega), nI_1]
    have mw2 := mw1.wA (r := 10) (i := j) (x := -1) rfl
    have g2 := mw1.gA (e := 10) (i := j) (x := -1) rfl
    generalize hpA h1 (ad 10) j (-1) = H2 at mw2 g2 ⊢
    have mw3 := mw2.wA (r := 12) (i := j) (x := -1) rfl
    have g3 := mw2.gA (e := 12) (i := j) (x := -1) rfl
    exact kn _ ⟨(ga.jn g2).jn g3, mw3⟩
  · intro h1 ⟨ga, mw1⟩
    exact s_102_453 (kt := fun _ => kk h1 _ ga mw1) (kf := fun z => absurd (by rw [e8]; exact nI_le (Nat.le_refl _) (by omega)) z)
theorem con_c {n6 : Nat} (h6 : n6 = 6000) (mw : MW h y ad μ) (eT : μ.1 = []) (kk : ∀ h' x5, MG y ad h h' → MW h' y ad μ → Ev g P 102 508 [some (va_rf (some (y 12))), some (.int x1), some (.int x2), some (.int x3), some (.int x4), some (.int x5)] [] h' Q) : Ev g P 102 485 [some (va_rf (some (y 12))), some (.int x1), some (.int x2), some (.int x3), some (.int x4), some (.int 0)] [] h Q := by
  have e8 : (6000 : Int32) = nI n6 := by rw [h6]; rfl
  have lp := cnt_loop n6 (fun j h1 => MG y ad h h1 ∧ MW h1 y ad μ) (fun j h1 => Ev g P 102 485 [some (va_rf (some (y 12))), some (.int x1), some (.int x2), some (.int x3), some (.int x4), some (.int (nI j))] [] h1 Q) ?_ ?_ h ⟨MF.rf mw.2.1, mw⟩
  · rw [nI_0] at lp; exact lp
  · intro j h1 hj ⟨ga, mw1⟩ kn
    refine s_102_485 (kt := fun z => absurd z (by rw [e8]; exact nI_ge hj (by omega))) (kf := fun _ => ?_)
    refine s_102_493 (k3 := mw1.1.1) (e5 := mw1.1.r24) (k6 := mw1.1.k24) (i7 := by rw [mw1.1.n24]; exact vin_nI (by omega) (by decide)) (kk := ?_)
    rw [nI_clamp (by omega), nI_1]
    have xa := MF.wA mw1.1 mw1.2.1 (k := 24) (i := j) (by decide) 99
    have e855 : hI (hpA h1 (ad 24) j 99) 855 (y 12) = nI μ.1.length := by rw [rI_A]; exact mw1.2.2.1.1
    generalize hpA h1 (ad 24) j 99 = H2 at xa e855 ⊢
    have tb : TB H2 y ad μ.1 := ⟨e855, mw1.2.2.1.2.1, fun g hg => by rw [eT] at hg; exact absurd hg (Nat.not_lt_zero _)⟩
    exact kn _ ⟨ga.jn xa.gl, mw1.st xa tb (fun r i a => by omega) (fun k a => a.elim)⟩
  · intro h1 ⟨ga, mw1⟩
    exact s_102_485 (kt := fun _ => kk h1 _ ga mw1) (kf := fun z => absurd (by rw [e8]; exact nI_le (Nat.le_refl _) (by omega)) z)
theorem con_d {n8 : Nat} (h8 : n8 = 40) (mw : MW h y ad μ) (kk : ∀ h' x5, MG y ad h h' → MW h' y ad ((List.range n8).foldl mc4 μ) → Ev g P 102 532 [some (va_rf (some (y 12))), some (.int x1), some (.int x2), some (.int x3), some (.int x4), some (.int x5)] [] h' Q) : Ev g P 102 511 [some (va_rf (some (y 12))), some (.int x1), some (.int x2), some (.int x3), some (.int x4), some (.int 0)] [] h Q := by
  have e8 : (40 : Int32) = nI n8 := by rw [h8]; rfl
  have lp := cnt_loop n8 (fun j h1 => MG y ad h h1 ∧ MW h1 y ad ((List.range j).foldl mc4 μ)) (fun j h1 => Ev g P 102 511 [some (va_rf (some (y 12))), some (.int x1), some (.int x2), some (.int x3), some (.int x4), some (.int (nI j))] [] h1 Q) ?_ ?_ h ⟨MF.rf mw.2.1, mw⟩
  · rw [nI_0] at lp; exact lp
  · intro j h1 hj ⟨ga, mw1⟩ kn
    rw [rfl_s] at kn
    generalize (List.range j).foldl mc4 μ = ν at mw1 kn
    refine s_102_511 (kt := fun z => absurd z (by rw [e8]; exact nI_ge hj (by omega))) (kf := fun _ => ?_)
    refine s_102_518 (k3 := mw1.1.1) (e5 := mw1.1.r48) (k6 := mw1.1.k48) (i7 := by rw [mw1.1.n48]; exact vin_nI (by omega) (by decide)) (kk := ?_)
    rw [nI_clamp (by omega), nI_1]
    exact kn _ ⟨ga.jn (mw1.gA (e := 48) (i := j) (x := -1) rfl), mw1.wA (r := 48) (i := j) (x := -1) rfl⟩
  · intro h1 ⟨ga, mw1⟩
    exact s_102_511 (kt := fun _ => kk h1 _ ga mw1) (kf := fun z => absurd (by rw [e8]; exact nI_le (Nat.le_refl _) (by omega)) z)
theorem m_model (w0 : hWF h) (hk : hK h a = 14) (z0 : ∀ f, hI h f a = 0) (ey : y 12 = a) (yo : 4 ≤ y 20 ∧ y 20 ≤ 8) (p1 : neM x1 4 8 = nI (y 20)) (p2 : neM x2 2 3 = nI (y 21)) (p3 : neM x3 6 16 = nI (y 22)) (p4 : neM x4 5 16 = nI (y 23)) : EvV g P 102 [va_rf (some a), .int x1, .int x2, .int x3, .int x4] h (fun h' => MW h' y (adR h) (mu0 y) ∧ Ch (fun b => b = a) rwL.length (rwL.map lnM).sum h h') := by
  refine e_102 (m_cons1 w0 hk (fun H1 c1 => ?_))
  have c2 := c1.stp (r := 58) (t := 1) (n := 128) hk w0 (by decide) (by decide) (by decide)
  rw [show rwL.dropLast ++ [58] = rwL from rfl] at c2
  refine s_102_353 (e2 := rfl) (k3 := c1.k14 hk w0) (hc := m_near) (kk := fun H2 x' ⟨q1, q2⟩ => ?_)
  have q1 : H2 = mkR H1 a (832 + 58) 1 128 := q1
  rw [← q1] at c2
  clear q1
  have q2 : x' = nI (y 20) := q2.trans p1
  subst q2
  have mw := c2.toW ey z0
  have ch := c2.2.2
  have had : ∀ k, aKM k = true → hS h ≤ adR h k := fun k _ => Nat.le_add_right _ _
  rw [← ey] at c1 c2 ⊢
  have g0 : MG y (adR h) H2 H2 := MF.rf mw.2.1
  refine s_102_364 (e2 := rfl) (k3 := mw.1.1) (hc := m_near) (kk := fun H3 x' ⟨q1, q2⟩ => ?_)
  have mw3 : MW H3 y (adR h) (uN muZ 0 (nI (y 20))) := by rw [q1]; exact mw.wN (k := 0) (x := nI (y 20)) rfl (by decide) (by decide)
  have g3 : MG y (adR h) H2 H3 := by rw [q1]; exact mw.gN (k := 0) rfl
  clear q1
  have q2 : x' = nI (y 21) := q2.trans p2
  subst q2
  refine s_102_374 (e2 := rfl) (k3 := mw3.1.1) (hc := m_near) (kk := fun H4 x' ⟨q1, q2⟩ => ?_)
  have mw4 : MW H4 y (adR h) (uN (uN muZ 0 (nI (y 20))) 1 (nI (y 21))) := by rw [q1]; exact mw3.wN (k := 1) (x := nI (y 21)) rfl (by decide) (by decide)
  have g4 : MG y (adR h) H2 H4 := by rw [q1]; exact g3.jn (mw3.gN (k := 1) rfl)
  clear q1
  have q2 : x' = nI (y 22) := q2.trans p3
  subst q2
  refine s_102_386 (e2 := rfl) (k3 := mw4.1.1) (hc := m_near) (kk := fun H5 x' ⟨q1, q2⟩ => ?_)
  have mw5 : MW H5 y (adR h) (uN (uN (uN muZ 0 (nI (y 20))) 1 (nI (y 21))) 2 (nI (y 22))) := by rw [q1]; exact mw4.wN (k := 2) (x := nI (y 22)) rfl (by decide) (by decide)
  have g5 : MG y (adR h) H2 H5 := by rw [q1]; exact g4.jn (mw4.gN (k := 2) rfl)
  clear q1
  have q2 : x' = nI (y 23) := q2.trans p4
  subst q2
  refine s_102_398 (e2 := rfl) (k3 := mw5.1.1) (kk := ?_)
  have mw6 : MW (hpI H5 835 (y 12) (nI (y 23))) y (adR h) (muP y) := mw5.wN (k := 3) (x := nI (y 23)) rfl (by decide) (by decide)
  have g6 := g5.jn (mw5.gN (k := 3) (x := nI (y 23)) (f := 835) rfl)
  generalize hpI H5 835 (y 12) (nI (y 23)) = H6 at mw6 g6 ⊢
  refine con_a (n8 := 8) rfl mw6 rfl yo (fun H7 x5 g7 mw7 => s_102_450 ?_)
  refine con_b (n8 := 8) rfl mw7 (fun H8 x5 g8 mw8 => s_102_482 ?_)
  have eT : ((List.range 8).foldl mc2 ((List.range 8).foldl (mc1 (y 20)) (muP y))).1 = [] := by
    refine fold_inv (fun z : mT => z.1 = []) mc2 _ (fun b a _ hb => hb) _ ?_
    exact fold_inv (fun z : mT => z.1 = []) (mc1 (y 20)) _ (fun b a _ hb => hb) _ rfl
  refine con_c (n6 := 6000) rfl mw8 eT (fun H9 x5 g9 mw9 => s_102_508 ?_)
  refine con_d (n8 := 40) rfl mw9 (fun HA x5 gA mwA => s_102_532 ⟨rfl, mwA, ?_⟩)
  rw [ey]
  exact MG.ch had ey ch ((((g6.jn g7).jn g8).jn g9).jn gA)
end MC2
