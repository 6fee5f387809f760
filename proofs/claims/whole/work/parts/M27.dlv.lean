/-! the model: writes, arrives, deliver -/
def wrA (μ : mT) (p m c : Nat) : Int32 := if acM μ (nI m) (nI c) < μ.2.1 52 p then μ.2.1 52 p else acM μ (nI m) (nI c)
def ovM (μ : mT) (o : Option (Nat × Nat × Nat)) (f : Nat) : Int32 := match o with
  | none => 0
  | some q => cel μ q f
def wrSt (μ : mT) (q : Nat) (ve : Int32) (o : Option (Nat × Nat × Nat)) : Int32 := if μ.2.1 40 q = 2 ∧ ¬ ve = μ.2.1 43 q then 2 else if μ.2.1 40 q = 3 ∧ o = none then 1 else 0
def wr7 (y : Nat → Nat) (μ : mT) (p m c n q : Nat) (ky : Int32) (r : Option (Nat × Nat × Nat)) : mT × Int32 := match r with
  | some r => (ansM μ p (cel μ r 4) (cel μ r 5) (cel μ r 6), 0)
  | none => wr6 y μ p m c n q ky (wrSt μ q (ovM μ (obM μ (nI m) ky) 6) (obM μ (nI m) ky)) (ovM μ (obM μ (nI m) ky) 5) (ovM μ (obM μ (nI m) ky) 6) (wrA μ p m c)
def wriM (y : Nat → Nat) (μ : mT) (p m c n q : Nat) (ky : Int32) : mT × Int32 := if wrA μ p m c ≤ nI n then wr7 y μ p m c n q ky (reM μ (nI m) (nI c) (nI n)) else (ansM μ p 5 0 0, 0)
def arr (y : Nat → Nat) (μ : mT) (p m c n : Nat) : mT × Int32 := if μ.2.1 5 m = 2 then (uR μ 48 p (-1), 1) else if μ.2.1 5 m = 1 then (μ, 2) else if ¬ μ.2.1 6 m = 0 then (ansM (fgtM μ m) p 3 0 0, 0) else if μ.2.1 7 (8 * m + tbM μ c n) = 0 then (ansM μ p 3 0 0, 0) else if μ.2.1 40 (40 * c + n - 1) = 0 then (reaM y μ p m (kyM μ c n), 0) else wriM y μ p m c n (40 * c + n - 1) (kyM μ c n)
section MZ
variable {g : gcT} {P : pmT} {h h' h1 h2 : hpT} {y ad : Nat → Nat} {i j k n nm m e f c v p q : Nat} {x x1 x2 x3 x4 x5 x6 x7 x8 x9 xr ky st va ve ac : Int32} {μ : mT} {Q : hpT → Option Value → Prop} {en : enT}
theorem oPx_n {b : Option (Nat × Nat × Nat)} (tb : TB h y ad μ.1) (vl : vld μ.1 x b) : oPx b = -1 ↔ b = none := by
  cases b with
  | none => exact ⟨fun _ => rfl, fun _ => rfl⟩
  | some p =>
    obtain ⟨qk, qe, qi⟩ := p
    obtain ⟨v1, v2, v3, v4⟩ := vl qk qe qi rfl
    have l6 := tb.2.1
    have l16 := (tb.th (fun _ => 0) v1).2
    refine ⟨fun q => ?_, fun q => by cases q⟩
    have q : nI (pIx qk qe qi 0) = -1 := q
    have hb : pIx qk qe qi 0 < 2 ^ 31 := by unfold pIx; omega
    have := nI_pos (n := pIx qk qe qi 0) hb
    rw [q] at this
    exact absurd this (by decide)
theorem cel_at (mw : MW h y ad μ) {r : Nat × Nat × Nat} (vl : vld μ.1 x (some r)) (f : Nat) (hf : f < 9) : vinD (oPx (some r) + nI f) (hN h (ad 28)) ∧ hA h (ad 28) (oPx (some r) + nI f).toNatClampNeg = cel μ r f := by
  obtain ⟨qk, qe, qi⟩ := r
  obtain ⟨v1, v2, v3, v4⟩ := vl qk qe qi rfl
  exact pcell mw.1 mw.2.2.1 v1 v3 v4 f hf
theorem m_writesM (mw : MW h y ad μ) (ok : wOK y μ p m) (hq : q < 240) (e49 : μ.2.1 49 p = nI c) (e50 : μ.2.1 50 p = nI n) : EvI g P 148 [va_rf (some (y 12)), .int (nI p), .int (nI m), .int (nI q), .int ky] h (fun h' r => r = (wriM y μ p m c n q ky).2 ∧ MG y ad h h' ∧ MW h' y ad (wriM y μ p m c n q ky).1) := by
  have hp := ok.2.1
  have ep : (nI p).toNatClampNeg = p := nI_clamp (by omega)
  have eq : (nI q).toNatClampNeg = q := nI_clamp (by omega)
  have vp : ∀ {h : hpT} {a}, hN h a = 40 → vinD (nI p) (hN h a) := fun e => by rw [e]; exact vin_nI hp (by decide)
  have vq : ∀ {h : hpT} {a}, hN h a = 240 → vinD (nI q) (hN h a) := fun e => by rw [e]; exact vin_nI hq (by decide)
  have c49 : hA h (ad 49) (nI p).toNatClampNeg = nI c := by rw [ep]; exact (mw.2.2.2.1 49 p rfl).trans e49
  have c50 : hA h (ad 50) (nI p).toNatClampNeg = nI n := by rw [ep]; exact (mw.2.2.2.1 50 p rfl).trans e50
  have c52 : hA h (ad 52) (nI p).toNatClampNeg = μ.2.1 52 p := by rw [ep]; exact mw.2.2.2.1 52 p rfl
  have hac := m_ackedIn (g := g) (P := P) (x1 := nI m) (x2 := nI c) mw.1 mw.2.2.1
  rw [mw.rw (r := 5) rfl] at hac
  have hac : EvI g P 122 [va_rf (some (y 12)), .int (nI m), .int (nI c)] h (fun h' r => h' = h ∧ r = acM μ (nI m) (nI c)) := hac
  rw [← c49] at hac
  refine e_148 (s_148_0 (k3 := mw.1.1) (e5 := mw.1.r49) (k6 := mw.1.k49) (i7 := vp mw.1.n49) (e9 := mw.1.r50) (k10 := mw.1.k50) (i11 := vp mw.1.n50) (hc := hac) (kk := fun h1 x' ⟨q1, q2⟩ => ?_))
  subst q1; subst q2
  rw [c49, c50]
  refine s_148_23 (k3 := mw.1.1) (e5 := mw.1.r52) (k6 := mw.1.k52) (i7 := vp mw.1.n52) (hc := m_184 _ _) (kk := fun h2 x' ⟨q1, q2⟩ => ?_)
  subst q1; subst q2
  rw [c52]
  show Ev g P 148 32 _ [.int (wrA μ p m c)] h2 _
  unfold wriM
  by_cases qa : wrA μ p m c ≤ nI n
  · rw [if_pos qa]
    refine s_148_32 (kt := fun _ => ?_) (kf := fun z => absurd qa z)
    have hre := m_resultIn (g := g) (P := P) (x1 := nI m) (x2 := nI c) (x3 := nI n) mw.1 mw.2.2.1
    rw [mw.rw (r := 5) rfl] at hre
    have hre : EvI g P 125 [va_rf (some (y 12)), .int (nI m), .int (nI c), .int (nI n)] h2 (fun h' r => h' = h2 ∧ r = oPx (reM μ (nI m) (nI c) (nI n))) := hre
    refine s_148_50 (k3 := mw.1.1) (hc := hre) (kk := fun h3 x' ⟨q1, q2⟩ => ?_)
    subst q1; subst q2
    have vr := reM_v (x := nI m) (c := nI c) (n := nI n) mw.2.2.1
    cases er : reM μ (nI m) (nI c) (nI n) with
    | some r =>
      rw [er] at vr
      have n1 : ¬ oPx (some r) = -1 := fun z => by cases (oPx_n mw.2.2.1 vr).mp z
      have p4 := cel_at mw vr 4 (by decide)
      have p5 := cel_at mw vr 5 (by decide)
      have p6 := cel_at mw vr 6 (by decide)
      rw [show nI 4 = (4 : Int32) from rfl] at p4
      rw [show nI 5 = (5 : Int32) from rfl] at p5
      rw [show nI 6 = (6 : Int32) from rfl] at p6
      refine s_148_59 (kt := fun z => absurd z n1) (kf := fun _ => ?_)
      have ha := m_answersM (g := g) (P := P) (p := p) (x2 := hA h3 (ad 28) (oPx (some r) + 4).toNatClampNeg) (x3 := hA h3 (ad 28) (oPx (some r) + 5).toNatClampNeg) (x4 := hA h3 (ad 28) (oPx (some r) + 6).toNatClampNeg) mw hp
      refine s_148_67 (k3 := mw.1.1) (e5 := mw.1.r28) (k6 := mw.1.k28) (i7 := p4.1) (i8 := p5.1) (i9 := p6.1) (hc := ha) (kk := fun h4 x' ⟨q1, g4, mw4⟩ => s_148_100 ⟨_, rfl, q1, g4, ?_⟩)
      rw [p4.2, p5.2, p6.2] at mw4
      exact mw4
    | none =>
      refine s_148_59 (kt := fun _ => ?_) (kf := fun z => absurd rfl z)
      refine s_148_101 (k3 := mw.1.1) (hc := m_obM mw) (kk := fun h4 x' ⟨q1, xa, mw4, _⟩ => ?_)
      subst q1
      have vo := obM_v (x := nI m) (k := ky) mw.2.2.1
      have c40 : hA h4 (ad 40) (nI q).toNatClampNeg = μ.2.1 40 q := by rw [eq]; exact mw4.2.2.2.1 40 q rfl
      have c43 : hA h4 (ad 43) (nI q).toNatClampNeg = μ.2.1 43 q := by rw [eq]; exact mw4.2.2.2.1 43 q rfl
      -- from 151 on
      have fin : ∀ o, obM μ (nI m) ky = o → Ev g P 148 151 [some (va_rf (some (y 12))), some (.int (nI p)), some (.int (nI m)), some (.int (nI q)), some (.int ky), some (.int (nI c)), some (.int (nI n)), some (.int (wrA μ p m c)), some (.int (oPx none)), some (.int (oPx o)), some (.int (ovM μ o 6)), none, none, none] [.int (ovM μ o 5)] h4 (fun h' r => ∃ x, r = some (.int x) ∧ x = (wr7 y μ p m c n q ky none).2 ∧ MG y ad h3 h' ∧ MW h' y ad (wr7 y μ p m c n q ky none).1) := by
        intro o eo
        have on := oPx_n mw.2.2.1 vo
        have ew : wr7 y μ p m c n q ky none = wr6 y μ p m c n q ky (wrSt μ q (ovM μ o 6) o) (ovM μ o 5) (ovM μ o 6) (wrA μ p m c) := by
          show wr6 y μ p m c n q ky (wrSt μ q (ovM μ (obM μ (nI m) ky) 6) (obM μ (nI m) ky)) (ovM μ (obM μ (nI m) ky) 5) (ovM μ (obM μ (nI m) ky) 6) (wrA μ p m c) = _
          rw [eo]
        rw [eo] at on
        rw [ew]
        have st : ∀ s, s = wrSt μ q (ovM μ o 6) o → Ev g P 148 199 [some (va_rf (some (y 12))), some (.int (nI p)), some (.int (nI m)), some (.int (nI q)), some (.int ky), some (.int (nI c)), some (.int (nI n)), some (.int (wrA μ p m c)), some (.int (oPx none)), some (.int (oPx o)), some (.int (ovM μ o 6)), some (.int (ovM μ o 5)), none, none] [.int s] h4 (fun h' r => ∃ x, r = some (.int x) ∧ x = (wr6 y μ p m c n q ky (wrSt μ q (ovM μ o 6) o) (ovM μ o 5) (ovM μ o 6) (wrA μ p m c)).2 ∧ MG y ad h3 h' ∧ MW h' y ad (wr6 y μ p m c n q ky (wrSt μ q (ovM μ o 6) o) (ovM μ o 5) (ovM μ o 6) (wrA μ p m c)).1) := by
          intro s es
          rw [← es]
          exact Ev.imp (wr_2 (g := g) (P := P) mw4 ok hq) (fun h' r ⟨x, q1, q2, q3, q4⟩ => ⟨x, q1, q2, xa.gl.jn q3, q4⟩)
        have s178 : ¬ (μ.2.1 40 q = 2 ∧ ¬ ovM μ o 6 = μ.2.1 43 q) → Ev g P 148 178 [some (va_rf (some (y 12))), some (.int (nI p)), some (.int (nI m)), some (.int (nI q)), some (.int ky), some (.int (nI c)), some (.int (nI n)), some (.int (wrA μ p m c)), some (.int (oPx none)), some (.int (oPx o)), some (.int (ovM μ o 6)), some (.int (ovM μ o 5)), none, none] [] h4 (fun h' r => ∃ x, r = some (.int x) ∧ x = (wr6 y μ p m c n q ky (wrSt μ q (ovM μ o 6) o) (ovM μ o 5) (ovM μ o 6) (wrA μ p m c)).2 ∧ MG y ad h3 h' ∧ MW h' y ad (wr6 y μ p m c n q ky (wrSt μ q (ovM μ o 6) o) (ovM μ o 5) (ovM μ o 6) (wrA μ p m c)).1) := by
          intro n2
          refine s_148_178 (k3 := mw4.1.1) (e5 := mw4.1.r40) (k6 := mw4.1.k40) (i7 := vq mw4.1.n40) (kt := fun z => s_148_198 (st 0 ?_)) (kf := fun z => s_148_188 (kt := fun z1 => s_148_198 (st 0 ?_)) (kf := fun z1 => s_148_194 (st 1 ?_)))
          · rw [c40] at z
            unfold wrSt
            rw [if_neg n2, if_neg (fun a => z a.1)]
          · unfold wrSt
            rw [if_neg n2, if_neg (fun a => z1 (on.mpr a.2))]
          · rw [c40] at z
            unfold wrSt
            rw [if_neg n2, if_pos ⟨z, on.mp z1⟩]
        refine s_148_151 (k3 := mw4.1.1) (e5 := mw4.1.r40) (k6 := mw4.1.k40) (i7 := vq mw4.1.n40) (kt := fun z => s178 (fun a => by rw [c40] at z; exact z a.1)) (kf := fun z => ?_)
        refine s_148_163 (k3 := mw4.1.1) (e5 := mw4.1.r43) (k6 := mw4.1.k43) (i7 := vq mw4.1.n43) (kt := fun z1 => s178 (fun a => by rw [c43] at z1; exact a.2 z1)) (kf := fun z1 => s_148_174 (st 2 ?_))
        rw [c40] at z
        rw [c43] at z1
        unfold wrSt
        rw [if_pos ⟨z, z1⟩]
      cases eo : obM μ (nI m) ky with
      | none =>
        refine s_148_108 (kt := fun z => absurd rfl z) (kf := fun _ => s_148_116 ?_)
        exact s_148_130 (kt := fun z => absurd rfl z) (kf := fun _ => s_148_138 (fin none eo))
      | some r =>
        rw [eo] at vo
        have n1 : ¬ oPx (some r) = -1 := fun z => by cases (oPx_n mw.2.2.1 vo).mp z
        have p5 := cel_at mw4 vo 5 (by decide)
        have p6 := cel_at mw4 vo 6 (by decide)
        rw [show nI 5 = (5 : Int32) from rfl] at p5
        rw [show nI 6 = (6 : Int32) from rfl] at p6
        refine s_148_108 (kt := fun _ => ?_) (kf := fun z => absurd z n1)
        refine s_148_120 (k3 := mw4.1.1) (e5 := mw4.1.r28) (k6 := mw4.1.k28) (i7 := p6.1) (kk := ?_)
        rw [p6.2]
        refine s_148_130 (kt := fun _ => ?_) (kf := fun z => absurd z n1)
        refine s_148_142 (k3 := mw4.1.1) (e5 := mw4.1.r28) (k6 := mw4.1.k28) (i7 := p5.1) (kk := ?_)
        rw [p5.2]
        have := fin (some r) eo
        exact this
  · rw [if_neg qa]
    refine s_148_32 (kt := fun z => absurd z qa) (kf := fun _ => ?_)
    exact s_148_41 (k3 := mw.1.1) (hc := m_answersM mw hp) (kk := fun h3 x' ⟨q1, g3, mw3⟩ => s_148_49 ⟨_, rfl, q1, g3, mw3⟩)
end MZ
