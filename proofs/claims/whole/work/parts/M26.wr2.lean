/-! the model: writes -/
def hEm (y : Nat → Nat) (μ : mT) (m : Nat) : Prop := ∀ en : enT, ¬ mPt en.1 0 = 0 → apC y μ m en = false → (lEn (μ.1.getD (hdI μ m) sl0)).length < 16
def wrC (μ : mT) (m : Nat) : Nat := if μ.2.1 12 m = -1 then 8 else (μ.2.1 12 m).toNatClampNeg
def ctOK (μ : mT) (m : Nat) : Prop := μ.2.1 12 m = -1 ∨ ∃ k, k < 1000 ∧ μ.2.1 12 m = nI k
def wr5 (μ : mT) (p m : Nat) (st va ve : Int32) : mT × Int32 := if ¬ μ.2.1 12 m = -1 then (dwnM (uR μ 48 p (-1)) m, 3) else (ansM (if st = 0 then uR μ 9 m (μ.2.1 9 m + 1) else μ) p st va ve, 0)
def wrF (μ : mT) (k : Nat) (st : Int32) : mT := if st = 0 ∧ 0 < k then uN μ 22 (μ.2.2 22 + 1) else μ
def wr4 (y : Nat → Nat) (μ : mT) (p m : Nat) (st va ve : Int32) (en : enT) : mT × Int32 := if (appM y μ m 0 en (wrC μ m)).2 = 0 then (ansM (appM y μ m 0 en (wrC μ m)).1 p 4 0 0, 0) else wr5 (wrF (appM y μ m 0 en (wrC μ m)).1 (wrC μ m) st) p m st va ve
def wrV (μ : mT) (q : Nat) : Int32 := if μ.2.1 40 q = 3 then 0 else μ.2.1 42 q
def wrK (μ : mT) (q : Nat) : Int32 := if μ.2.1 40 q = 3 then 3 else 2
def wr6 (y : Nat → Nat) (μ : mT) (p m c n q : Nat) (ky st va ve ac : Int32) : mT × Int32 := if st = 0 then wr4 y μ p m 0 (wrV μ q) (μ.2.1 9 m + 1) (efP (wrK μ q) ky (wrV μ q) (μ.2.1 9 m + 1), some (rsP c n ky 0 (wrV μ q) (μ.2.1 9 m + 1) ac)) else wr4 y μ p m st va ve (rsP c n ky st va ve ac, none)
section MY
variable {g : gcT} {P : pmT} {h h' h1 h2 : hpT} {y ad : Nat → Nat} {i j k n nm m e f c v p q : Nat} {x x1 x2 x3 x4 x5 x6 x7 x8 x9 xr ky st va ve ac : Int32} {μ : mT} {Q : hpT → Option Value → Prop} {en : enT}
/-- what a write wants of the state -/
def wOK (y : Nat → Nat) (μ : mT) (p m : Nat) : Prop := MK0 y μ ∧ p < 40 ∧ m < y 20 ∧ μ.2.2 16 = nI (nmM μ) ∧ nmM μ ≤ 80000 ∧ μ.1.length < 5998 ∧ hdOK μ m ∧ ctOK μ m ∧ hEm y μ m
theorem wr_3 {o13 : Option Value} (mw : MW h y ad μ) (ok : wOK y μ p m) (md : MD h ad en) (kd : ¬ mPt en.1 0 = 0) : Ev g P 148 328 [some (va_rf (some (y 12))), some (.int (nI p)), some (.int (nI m)), some (.int x3), some (.int x4), some (.int x5), some (.int x6), some (.int x7), some (.int x8), some (.int x9), some (.int ve), some (.int va), some (.int st), o13] [] h (fun h' r => ∃ x, r = some (.int x) ∧ x = (wr4 y μ p m st va ve en).2 ∧ MG y ad h h' ∧ MW h' y ad (wr4 y μ p m st va ve en).1) := by
  obtain ⟨mk, hp, hm8, enm, hnm, h6, ho, ct, hE⟩ := ok
  have y8 := mk.1.1.2
  have em : (nI m).toNatClampNeg = m := nI_clamp (by omega)
  have ep : (nI p).toNatClampNeg = p := nI_clamp (by omega)
  have v8 : ∀ {h : hpT} {a}, hN h a = 8 → vinD (nI m) (hN h a) := fun e => by rw [e]; exact vin_nI (by omega) (by decide)
  have vp : ∀ {h : hpT} {a}, hN h a = 40 → vinD (nI p) (hN h a) := fun e => by rw [e]; exact vin_nI hp (by decide)
  have c12 : ∀ {h : hpT} {μ : mT}, MW h y ad μ → hA h (ad 12) (nI m).toNatClampNeg = μ.2.1 12 m := fun mw => by rw [em]; exact mw.2.2.2.1 12 m rfl
  have wc : wrC μ m < 1000 := by
    unfold wrC
    rcases ct with q | ⟨k, hk, ek⟩
    · rw [if_pos q]; omega
    · split
      · omega
      · rw [ek, nI_clamp (by omega)]; exact hk
  -- with the copies on the stack
  have go : Ev g P 148 349 [some (va_rf (some (y 12))), some (.int (nI p)), some (.int (nI m)), some (.int x3), some (.int x4), some (.int x5), some (.int x6), some (.int x7), some (.int x8), some (.int x9), some (.int ve), some (.int va), some (.int st), o13] [.int (nI (wrC μ m))] h (fun h' r => ∃ x, r = some (.int x) ∧ x = (wr4 y μ p m st va ve en).2 ∧ MG y ad h h' ∧ MW h' y ad (wr4 y μ p m st va ve en).1) := by
    unfold wr4
    have hap := m_append (g := g) (P := P) (xr := 0) mw mk hm8 enm hnm h6 ho md (hE en kd) wc
    generalize appM y μ m 0 en (wrC μ m) = res at hap
    refine s_148_349 (k3 := mw.1.1) (hc := hap) (kk := fun h1 x' ⟨q1, g1, mw1⟩ => ?_)
    subst q1
    by_cases q0 : res.2 = 0
    · rw [if_pos q0]
      refine s_148_359 (kt := fun z => absurd q0 z) (kf := fun _ => ?_)
      exact s_148_362 (k3 := mw1.1.1) (hc := m_answersM mw1 hp) (kk := fun h2 x' ⟨q1, g2, mw2⟩ => s_148_370 ⟨_, rfl, q1, g1.jn g2, mw2⟩)
    · rw [if_neg q0]
      refine s_148_359 (kt := fun _ => ?_) (kf := fun z => absurd z q0)
      -- from 391 on
      have fin : ∀ h2 μ2, MG y ad h h2 → MW h2 y ad μ2 → wrF res.1 (wrC μ m) st = μ2 → Ev g P 148 391 [some (va_rf (some (y 12))), some (.int (nI p)), some (.int (nI m)), some (.int x3), some (.int x4), some (.int x5), some (.int x6), some (.int x7), some (.int x8), some (.int x9), some (.int ve), some (.int va), some (.int st), some (.int (nI (wrC μ m)))] [] h2 (fun h' r => ∃ x, r = some (.int x) ∧ x = (wr5 (wrF res.1 (wrC μ m) st) p m st va ve).2 ∧ MG y ad h h' ∧ MW h' y ad (wr5 (wrF res.1 (wrC μ m) st) p m st va ve).1) := by
        intro h2 μ2 g2 mw2 e2
        rw [e2]
        unfold wr5
        by_cases qc : μ2.2.1 12 m = -1
        · rw [if_neg (fun z => z qc)]
          refine s_148_391 (k3 := mw2.1.1) (e5 := mw2.1.r12) (k6 := mw2.1.k12) (i7 := v8 mw2.1.n12) (kt := fun _ => ?_) (kf := fun z => absurd ((c12 mw2).trans qc) z)
          by_cases qs : st = 0
          · rw [if_pos qs]
            refine s_148_415 (kt := fun z => absurd qs z) (kf := fun _ => ?_)
            have e9 : hA h2 (ad 9) (nI m).toNatClampNeg = μ2.2.1 9 m := by rw [em]; exact mw2.2.2.2.1 9 m rfl
            refine s_148_420 (k3 := mw2.1.1) (e5 := mw2.1.r9) (k6 := mw2.1.k9) (i7 := v8 mw2.1.n9) (i8 := v8 mw2.1.n9) (kk := ?_)
            rw [e9, em]
            have mw3 := mw2.wA (r := 9) (i := m) (x := μ2.2.1 9 m + 1) rfl
            have g3 := mw2.gA (e := 9) (i := m) (x := μ2.2.1 9 m + 1) rfl
            generalize hpA h2 (ad 9) m (μ2.2.1 9 m + 1) = H3 at mw3 g3 ⊢
            exact s_148_430 (k3 := mw3.1.1) (hc := m_answersM mw3 hp) (kk := fun h4 x' ⟨q1, g4, mw4⟩ => s_148_441 ⟨_, rfl, q1, (g2.jn g3).jn g4, mw4⟩)
          · rw [if_neg qs]
            refine s_148_415 (kt := fun _ => ?_) (kf := fun z => absurd z qs)
            exact s_148_430 (k3 := mw2.1.1) (hc := m_answersM mw2 hp) (kk := fun h4 x' ⟨q1, g4, mw4⟩ => s_148_441 ⟨_, rfl, q1, g2.jn g4, mw4⟩)
        · rw [if_pos qc]
          refine s_148_391 (k3 := mw2.1.1) (e5 := mw2.1.r12) (k6 := mw2.1.k12) (i7 := v8 mw2.1.n12) (kt := fun z => absurd ((c12 mw2).symm.trans z) qc) (kf := fun _ => ?_)
          have mw3 : MW (hpA h2 (ad 48) (nI p).toNatClampNeg (-1)) y ad (uR μ2 48 p (-1)) := by rw [ep]; exact mw2.wA rfl
          have g3 : MG y ad h2 (hpA h2 (ad 48) (nI p).toNatClampNeg (-1)) := mw2.gA rfl
          exact s_148_401 (k3 := mw2.1.1) (e5 := mw2.1.r48) (k6 := mw2.1.k48) (i7 := vp mw2.1.n48) (hc := m_goesDown mw3 (by omega)) (kk := fun h4 ⟨g4, mw4⟩ => s_148_413 ⟨_, rfl, rfl, (g2.jn g3).jn g4, mw4⟩)
      by_cases qs : st = 0
      · refine s_148_371 (kt := fun z => absurd qs z) (kf := fun _ => ?_)
        by_cases qk : 0 < wrC μ m
        · refine s_148_376 (kt := fun z => absurd z (by rw [← nI_0]; exact nI_ge qk (by omega))) (kf := fun _ => ?_)
          refine s_148_381 (k3 := mw1.1.1) (kk := ?_)
          rw [mw1.n 22 (by decide) (by decide) rfl]
          exact fin _ _ (g1.jn (mw1.gN (k := 22) rfl)) (mw1.wN (k := 22) rfl (by decide) (by decide)) (by unfold wrF; rw [if_pos ⟨qs, qk⟩])
        · refine s_148_376 (kt := fun _ => fin h1 _ g1 mw1 (by unfold wrF; rw [if_neg (fun z => qk z.2)])) (kf := fun z => absurd (by rw [← nI_0]; exact nI_le (by omega) (by omega)) z)
      · exact s_148_371 (kt := fun _ => fin h1 _ g1 mw1 (by unfold wrF; rw [if_neg (fun z => qs z.1)])) (kf := fun z => absurd z qs)
  by_cases qc : μ.2.1 12 m = -1
  · have e : wrC μ m = 8 := by unfold wrC; rw [if_pos qc]
    rw [e] at go
    exact s_148_328 (k3 := mw.1.1) (e5 := mw.1.r12) (k6 := mw.1.k12) (i7 := v8 mw.1.n12) (kt := fun z => absurd ((c12 mw).trans qc) z) (kf := fun _ => s_148_338 go)
  · obtain ⟨k, hk, ek⟩ := ct.resolve_left qc
    have e : nI (wrC μ m) = hA h (ad 12) (nI m).toNatClampNeg := by
      rw [c12 mw]
      unfold wrC
      rw [if_neg qc, ek, nI_clamp (by omega)]
    rw [e] at go
    exact s_148_328 (k3 := mw.1.1) (e5 := mw.1.r12) (k6 := mw.1.k12) (i7 := v8 mw.1.n12) (kt := fun _ => s_148_343 (k3 := mw.1.1) (e5 := mw.1.r12) (k6 := mw.1.k12) (i7 := v8 mw.1.n12) (kk := go)) (kf := fun z => absurd ((c12 mw).symm.trans z) qc)
/-- from the STATUS on -/
theorem wr_2 {o12 o13 : Option Value} (mw : MW h y ad μ) (ok : wOK y μ p m) (hq : q < 240) : Ev g P 148 199 [some (va_rf (some (y 12))), some (.int (nI p)), some (.int (nI m)), some (.int (nI q)), some (.int ky), some (.int (nI c)), some (.int (nI n)), some (.int ac), some (.int x8), some (.int x9), some (.int ve), some (.int va), o12, o13] [.int st] h (fun h' r => ∃ x, r = some (.int x) ∧ x = (wr6 y μ p m c n q ky st va ve ac).2 ∧ MG y ad h h' ∧ MW h' y ad (wr6 y μ p m c n q ky st va ve ac).1) := by
  have y8 := ok.1.1.1.2
  have hm8 := ok.2.2.1
  have em : (nI m).toNatClampNeg = m := nI_clamp (by omega)
  have eq : (nI q).toNatClampNeg = q := nI_clamp (by omega)
  have v8 : ∀ {h : hpT} {a}, hN h a = 8 → vinD (nI m) (hN h a) := fun e => by rw [e]; exact vin_nI (by omega) (by decide)
  have vq : ∀ {h : hpT} {a}, hN h a = 240 → vinD (nI q) (hN h a) := fun e => by rw [e]; exact vin_nI hq (by decide)
  have v33 : ∀ {h : hpT} (n : Nat), n < 18 → HM h y ad → vinD (nI n) (hN h (ad 33)) := fun n hn hm => by rw [hm.n33]; exact vin_nI hn (by decide)
  refine s_148_199 (k3 := mw.1.1) (hc := m_blank (n18 := 18) rfl mw.1 mw.2.1) (kk := fun h1 ⟨xa, za⟩ => ?_)
  have mw1 := mw.sc xa (fun r i a => by omega) (fun k a => a.elim)
  unfold wr6
  by_cases qs : st = 0
  · rw [if_pos qs]
    have e9 : hA h1 (ad 9) (nI m).toNatClampNeg = μ.2.1 9 m := by rw [em]; exact mw1.2.2.2.1 9 m rfl
    have e40 : hA h1 (ad 40) (nI q).toNatClampNeg = μ.2.1 40 q := by rw [eq]; exact mw1.2.2.2.1 40 q rfl
    have e42 : hA h1 (ad 42) (nI q).toNatClampNeg = μ.2.1 42 q := by rw [eq]; exact mw1.2.2.2.1 42 q rfl
    subst qs
    refine s_148_205 (kt := fun _ => ?_) (kf := fun z => absurd rfl z)
    -- from 284 on
    have fin : Ev g P 148 284 [some (va_rf (some (y 12))), some (.int (nI p)), some (.int (nI m)), some (.int (nI q)), some (.int ky), some (.int (nI c)), some (.int (nI n)), some (.int ac), some (.int x8), some (.int x9), some (.int (μ.2.1 9 m + 1)), some (.int (wrV μ q)), some (.int 0), o13] [.int (wrK μ q + 1), .int 0, va_rf (hR h1 865 (y 12))] h1 (fun h' r => ∃ x, r = some (.int x) ∧ x = (wr4 y μ p m 0 (wrV μ q) (μ.2.1 9 m + 1) (efP (wrK μ q) ky (wrV μ q) (μ.2.1 9 m + 1), some (rsP c n ky 0 (wrV μ q) (μ.2.1 9 m + 1) ac))).2 ∧ MG y ad h h' ∧ MW h' y ad (wr4 y μ p m 0 (wrV μ q) (μ.2.1 9 m + 1) (efP (wrK μ q) ky (wrV μ q) (μ.2.1 9 m + 1), some (rsP c n ky 0 (wrV μ q) (μ.2.1 9 m + 1) ac))).1) := by
      have hk : wrK μ q = 2 ∨ wrK μ q = 3 := by
        unfold wrK
        split
        · exact Or.inr rfl
        · exact Or.inl rfl
      generalize wrK μ q = kd at hk
      generalize wrV μ q = vv
      generalize μ.2.1 9 m + 1 = vr
      refine s_148_284 (e2 := mw1.1.r33) (k3 := mw1.1.k33) (i4 := v33 0 (by decide) mw1.1) (e6 := rfl) (k7 := mw1.1.1) (e9 := mw1.1.r33) (k10 := mw1.1.k33) (i11 := v33 3 (by decide) mw1.1) (i12 := v33 5 (by decide) mw1.1) (kk := ?_)
      rw [show (0 : Int32).toNatClampNeg = 0 from rfl, show (3 : Int32).toNatClampNeg = 3 from rfl, show (5 : Int32).toNatClampNeg = 5 from rfl]
      have w1 := MF.wA mw1.1 mw1.2.1 (k := 33) (i := 0) (by decide) (kd + 1)
      have r1 : ∀ i, hA (hpA h1 (ad 33) 0 (kd + 1)) (ad 33) i = if 33 = 33 ∧ i = 0 then kd + 1 else hA h1 (ad 33) i := fun i => mw1.1.rA (by decide) (by decide)
      generalize hpA h1 (ad 33) 0 (kd + 1) = H2 at w1 r1 ⊢
      have mw2 := mw1.sc w1 (fun r i a => by omega) (fun k a => a.elim)
      have w2 := MF.wA mw2.1 mw2.2.1 (k := 33) (i := 3) (by decide) ky
      have r2 : ∀ i, hA (hpA H2 (ad 33) 3 ky) (ad 33) i = if 33 = 33 ∧ i = 3 then ky else hA H2 (ad 33) i := fun i => mw2.1.rA (by decide) (by decide)
      generalize hpA H2 (ad 33) 3 ky = H3 at w2 r2 ⊢
      have mw3 := mw2.sc w2 (fun r i a => by omega) (fun k a => a.elim)
      have w3 := MF.wA mw3.1 mw3.2.1 (k := 33) (i := 5) (by decide) vv
      have r3 : ∀ i, hA (hpA H3 (ad 33) 5 vv) (ad 33) i = if 33 = 33 ∧ i = 5 then vv else hA H3 (ad 33) i := fun i => mw3.1.rA (by decide) (by decide)
      generalize hpA H3 (ad 33) 5 vv = H4 at w3 r3 ⊢
      have mw4 := mw3.sc w3 (fun r i a => by omega) (fun k a => a.elim)
      have w4 := MF.wA mw4.1 mw4.2.1 (k := 33) (i := (6 : Int32).toNatClampNeg) (by decide) vr
      have r4 : ∀ i, hA (hpA H4 (ad 33) (6 : Int32).toNatClampNeg vr) (ad 33) i = if 33 = 33 ∧ i = 6 then vr else hA H4 (ad 33) i := fun i => mw4.1.rA (by decide) (by decide)
      have mw5 := mw4.sc w4 (fun r i a => by omega) (fun k a => a.elim)
      have z5 : ∀ f, f < 18 → hA (hpA H4 (ad 33) (6 : Int32).toNatClampNeg vr) (ad 33) f = efC kd ky vv vr f := by
        intro f hf
        rw [r4, r3, r2, r1, za f hf]
        unfold efC
        by_cases q6 : f = 6
        · rw [if_pos ⟨rfl, q6⟩, if_neg (by omega), if_neg (by omega), if_neg (by omega), if_pos q6]
        · rw [if_neg (fun a => q6 a.2)]
          by_cases q5 : f = 5
          · rw [if_pos ⟨rfl, q5⟩, if_neg (by omega), if_neg (by omega), if_pos q5]
          · rw [if_neg (fun a => q5 a.2)]
            by_cases q3 : f = 3
            · rw [if_pos ⟨rfl, q3⟩, if_neg (by omega), if_pos q3]
            · rw [if_neg (fun a => q3 a.2)]
              by_cases q0 : f = 0
              · rw [if_pos ⟨rfl, q0⟩, if_pos q0]
              · rw [if_neg (fun a => q0 a.2), if_neg q0, if_neg q3, if_neg q5, if_neg q6]
      have hres := m_resM (g := g) (P := P) (i := 1) (x2 := nI c) (x3 := nI n) (x4 := ky) (x5 := 0) (x6 := vv) (x7 := vr) (x8 := ac) mw5.1 mw5.2.1 (by decide)
      rw [show nI 1 = (1 : Int32) from rfl] at hres
      refine s_148_301 (k3 := mw4.1.1) (e5 := mw4.1.r33) (k6 := mw4.1.k33) (i7 := v33 6 (by decide) mw4.1) (hc := hres) (kk := fun h6 wr => ?_)
      have mw6 := mw5.sc wr.1 (fun r i a => by omega) (fun k a => a.elim)
      have md := md_2 hk wr (fun f hf => z5 f (by omega)) ((z5 17 (by omega)).trans rfl)
      have gg : MG y ad h h6 := ((((xa.gl.jn w1.gl).jn w2.gl).jn w3.gl).jn w4.gl).jn wr.1.gl
      refine Ev.imp (wr_3 (g := g) (P := P) mw6 ok md ?_) (fun h' r ⟨x, q1, q2, q3, q4⟩ => ⟨x, q1, q2, gg.jn q3, q4⟩)
      rw [ef_c kd hk 0 (by decide)]
      show ¬ kd + 1 = 0
      rcases hk with e | e
      · rw [e]; decide
      · rw [e]; decide
    by_cases q3 : μ.2.1 40 q = 3
    · have eV : wrV μ q = 0 := by unfold wrV; rw [if_pos q3]
      have eK : wrK μ q + 1 = 4 := by unfold wrK; rw [if_pos q3]; rfl
      rw [eK] at fin
      refine s_148_232 (k3 := mw1.1.1) (e5 := mw1.1.r9) (k6 := mw1.1.k9) (i7 := v8 mw1.1.n9) (e9 := mw1.1.r40) (k10 := mw1.1.k40) (i11 := vq mw1.1.n40) (kt := fun z => absurd (e40.trans q3) z) (kf := fun _ => s_148_252 ?_)
      rw [e9]
      refine s_148_262 (k3 := mw1.1.1) (e5 := mw1.1.r40) (k6 := mw1.1.k40) (i7 := vq mw1.1.n40) (kt := fun z => absurd (e40.trans q3) z) (kf := fun _ => s_148_279 ?_)
      rw [eV] at fin ⊢
      exact fin
    · have eV : wrV μ q = μ.2.1 42 q := by unfold wrV; rw [if_neg q3]
      have eK : wrK μ q + 1 = 3 := by unfold wrK; rw [if_neg q3]; rfl
      rw [eK] at fin
      refine s_148_232 (k3 := mw1.1.1) (e5 := mw1.1.r9) (k6 := mw1.1.k9) (i7 := v8 mw1.1.n9) (e9 := mw1.1.r40) (k10 := mw1.1.k40) (i11 := vq mw1.1.n40) (kt := fun _ => ?_) (kf := fun z => absurd (e40.symm.trans z) q3)
      rw [e9]
      refine s_148_256 (k3 := mw1.1.1) (e5 := mw1.1.r42) (k6 := mw1.1.k42) (i7 := vq mw1.1.n42) (kk := ?_)
      rw [e42, ← eV]
      exact s_148_262 (k3 := mw1.1.1) (e5 := mw1.1.r40) (k6 := mw1.1.k40) (i7 := vq mw1.1.n40) (kt := fun _ => s_148_283 fin) (kf := fun z => absurd (e40.symm.trans z) q3)
  · rw [if_neg qs]
    refine s_148_205 (kt := fun z => absurd z qs) (kf := fun _ => ?_)
    have hres := m_resM (g := g) (P := P) (i := 0) (x2 := nI c) (x3 := nI n) (x4 := ky) (x5 := st) (x6 := va) (x7 := ve) (x8 := ac) mw1.1 mw1.2.1 (by decide)
    rw [show nI 0 = (0 : Int32) from rfl] at hres
    refine s_148_210 (k3 := mw1.1.1) (hc := hres) (kk := fun h2 wr => s_148_229 ?_)
    have mw2 := mw1.sc wr.1 (fun r i a => by omega) (fun k a => a.elim)
    exact Ev.imp (wr_3 (g := g) (P := P) mw2 ok (md_1 wr za) (by rw [rs_c 0 (by decide)]; exact (by decide : ¬ (5 : Int32) = 0))) (fun h' r ⟨x, q1, q2, q3, q4⟩ => ⟨x, q1, q2, (xa.gl.jn wr.1.gl).jn q3, q4⟩)
end MY
