/-! the model: arrives, deliver -/
def msS (μ : mT) (p : Nat) : Nat := (μ.2.1 51 p).toNatClampNeg
def msC (μ : mT) (p : Nat) : Nat := (μ.2.1 49 p).toNatClampNeg
def msN (μ : mT) (p : Nat) : Nat := (μ.2.1 50 p).toNatClampNeg
def MSh (μ : mT) (p : Nat) : Prop := (μ.2.1 49 p = nI (msC μ p) ∧ msC μ p < 6) ∧ (μ.2.1 50 p = nI (msN μ p) ∧ 1 ≤ msN μ p ∧ msN μ p ≤ 40) ∧ ∃ k, k < 64 ∧ kyM μ (msC μ p) (msN μ p) = nI k
def MSg (y : Nat → Nat) (μ : mT) (p : Nat) : Prop := (μ.2.1 51 p = nI (msS μ p) ∧ msS μ p < y 20) ∧ MSh μ p
def gt1 (μ : mT) (p k : Nat) : mT := uR (uR (uR (uR μ 44 k 1) 45 k (μ.2.1 53 p)) 46 k (μ.2.1 54 p)) 47 k (μ.2.1 55 p)
def dl2 (μ : mT) (p : Nat) : mT × Int32 := if μ.2.1 53 p = 3 ∨ μ.2.1 53 p = 4 then (μ, 6) else if μ.2.1 44 (40 * msC μ p + msN μ p - 1) = 0 then (gt1 μ p (40 * msC μ p + msN μ p - 1), 4) else (μ, 5)
def dlv1 (y : Nat → Nat) (μ : mT) (x : Int32) : mT × Int32 := if imM μ x = 0 then (μ, -1) else if μ.2.1 48 x.toNatClampNeg = 0 then arr y μ x.toNatClampNeg (msS μ x.toNatClampNeg) (msC μ x.toNatClampNeg) (msN μ x.toNatClampNeg) else dl2 (uR μ 48 x.toNatClampNeg (-1)) x.toNatClampNeg
section MV
variable {g : gcT} {P : pmT} {h h' h1 h2 : hpT} {y ad : Nat → Nat} {i j k n nm m e f c v p q : Nat} {x x1 x2 x3 x4 x5 x6 x7 x8 x9 xr ky st va ve ac : Int32} {μ : mT} {Q : hpT → Option Value → Prop} {en : enT}
theorem m_arrives (mw : MW h y ad μ) (ok : wOK y μ p (msS μ p)) (ms : MSg y μ p) : EvI g P 149 [va_rf (some (y 12)), .int (nI p)] h (fun h' r => r = (arr y μ p (msS μ p) (msC μ p) (msN μ p)).2 ∧ MG y ad h h' ∧ MW h' y ad (arr y μ p (msS μ p) (msC μ p) (msN μ p)).1) := by
  obtain ⟨⟨e51, hm⟩, ⟨e49, hc⟩, ⟨e50, hn1, hn⟩, k, hk, ek⟩ := ms
  generalize msS μ p = m at *
  generalize msC μ p = c at *
  generalize msN μ p = n at *
  have hp := ok.2.1
  have y8 := ok.1.1.1.2
  obtain ⟨d1, d2⟩ := dv8 hk
  have ep : (nI p).toNatClampNeg = p := nI_clamp (by omega)
  have em : (nI m).toNatClampNeg = m := nI_clamp (by omega)
  have hlt : 40 * c + n - 1 < 240 := by omega
  have vp : ∀ {h : hpT} {a}, hN h a = 40 → vinD (nI p) (hN h a) := fun e => by rw [e]; exact vin_nI hp (by decide)
  have v8 : ∀ {h : hpT} {a}, hN h a = 8 → vinD (nI m) (hN h a) := fun e => by rw [e]; exact vin_nI (by omega) (by decide)
  have c51 : hA h (ad 51) (nI p).toNatClampNeg = nI m := by rw [ep]; exact (mw.2.2.2.1 51 p rfl).trans e51
  have c49 : hA h (ad 49) (nI p).toNatClampNeg = nI c := by rw [ep]; exact (mw.2.2.2.1 49 p rfl).trans e49
  have c50 : hA h (ad 50) (nI p).toNatClampNeg = nI n := by rw [ep]; exact (mw.2.2.2.1 50 p rfl).trans e50
  have eqx : (40 : Int32) * nI c + nI n - 1 = nI (40 * c + n - 1) := ix40p c n hn1
  have eq : (nI (40 * c + n - 1)).toNatClampNeg = 40 * c + n - 1 := nI_clamp (by omega)
  have c41 : hA h (ad 41) (nI (40 * c + n - 1)).toNatClampNeg = kyM μ c n := by rw [eq]; exact mw.2.2.2.1 41 _ rfl
  have c40 : hA h (ad 40) (nI (40 * c + n - 1)).toNatClampNeg = μ.2.1 40 (40 * c + n - 1) := by rw [eq]; exact mw.2.2.2.1 40 _ rfl
  have c5 : hA h (ad 5) (nI m).toNatClampNeg = μ.2.1 5 m := by rw [em]; exact mw.2.2.2.1 5 m rfl
  have c6 : hA h (ad 6) (nI m).toNatClampNeg = μ.2.1 6 m := by rw [em]; exact mw.2.2.2.1 6 m rfl
  have tb8 : tbM μ c n = k / 8 := by unfold tbM; rw [ek, d2]; exact nI_clamp (by omega)
  have e7x : (8 : Int32) * nI m + kyM μ c n / 8 = nI (8 * m + tbM μ c n) := by rw [ek, d2, tb8, ix8M]
  have c7 : hA h (ad 7) (nI (8 * m + tbM μ c n)).toNatClampNeg = μ.2.1 7 (8 * m + tbM μ c n) := by rw [nI_clamp (by omega)]; exact mw.2.2.2.1 7 _ rfl
  generalize hr : arr y μ p m c n = res
  unfold arr at hr
  refine e_149 (s_149_0 (k3 := mw.1.1) (e5 := mw.1.r51) (k6 := mw.1.k51) (i7 := vp mw.1.n51) (e9 := mw.1.r49) (k10 := mw.1.k49) (i11 := vp mw.1.n49) (e13 := mw.1.r50) (k14 := mw.1.k50) (i15 := vp mw.1.n50) (e17 := mw.1.r41) (k18 := mw.1.k41) (i19 := by rw [c49, c50, eqx, mw.1.n41]; exact vin_nI hlt (by decide)) (e21 := mw.1.r5) (k22 := mw.1.k5) (i23 := by rw [c51]; exact v8 mw.1.n5) (kt := fun z => ?_) (kf := fun z => ?_))
  · rw [c51, c5] at z
    rw [if_neg z] at hr
    rw [c51, c49, c50, eqx, c41]
    refine s_149_53 (k3 := mw.1.1) (e5 := mw.1.r5) (k6 := mw.1.k5) (i7 := v8 mw.1.n5) (kt := fun z1 => ?_) (kf := fun z1 => ?_)
    · rw [c5] at z1
      rw [if_neg z1] at hr
      refine s_149_65 (k3 := mw.1.1) (e5 := mw.1.r6) (k6 := mw.1.k6) (i7 := v8 mw.1.n6) (kt := fun z2 => ?_) (kf := fun z2 => ?_)
      · rw [c6] at z2
        rw [if_neg (fun a => a z2)] at hr
        refine s_149_88 (k3 := mw.1.1) (e5 := mw.1.r7) (k6 := mw.1.k7) (i7 := by rw [e7x, mw.1.n7]; exact vin_nI (by omega) (by decide)) (kt := fun z3 => ?_) (kf := fun z3 => ?_)
        · rw [e7x, c7] at z3
          rw [if_neg z3] at hr
          refine s_149_115 (k3 := mw.1.1) (e5 := mw.1.r40) (k6 := mw.1.k40) (i7 := by rw [mw.1.n40]; exact vin_nI hlt (by decide)) (kt := fun z4 => ?_) (kf := fun z4 => ?_)
          · rw [c40] at z4
            rw [if_neg z4] at hr
            have hw := m_writesM (g := g) (P := P) (ky := kyM μ c n) mw ok hlt e49 e50
            rw [hr] at hw
            exact s_149_135 (k3 := mw.1.1) (hc := hw) (kk := fun h1 x' ⟨q1, g1, mw1⟩ => s_149_144 ⟨_, rfl, q1, g1, mw1⟩)
          · rw [c40] at z4
            rw [if_pos z4] at hr
            subst hr
            obtain ⟨mk, hp', hm8, enm, hnm, h6, ho, ct, hE⟩ := ok
            exact s_149_124 (k3 := mw.1.1) (hc := m_readsM mw mk hp hm8 enm hnm h6 ho) (kk := fun h1 x' ⟨q1, g1, mw1⟩ => s_149_132 (s_149_144 ⟨_, rfl, q1, g1, mw1⟩))
        · rw [e7x, c7] at z3
          rw [if_pos z3] at hr
          subst hr
          exact s_149_106 (k3 := mw.1.1) (hc := m_answersM mw hp) (kk := fun h1 x' ⟨q1, g1, mw1⟩ => s_149_114 ⟨_, rfl, q1, g1, mw1⟩)
      · rw [c6] at z2
        rw [if_pos z2] at hr
        subst hr
        exact s_149_74 (k3 := mw.1.1) (hc := m_forgets mw (by omega)) (kk := fun h1 ⟨g1, mw1⟩ => s_149_79 (k3 := mw1.1.1) (hc := m_answersM mw1 hp) (kk := fun h2 x' ⟨q1, g2, mw2⟩ => s_149_87 ⟨_, rfl, q1, g1.jn g2, mw2⟩))
    · rw [c5] at z1
      rw [if_pos z1] at hr
      subst hr
      exact s_149_63 ⟨_, rfl, rfl, MF.rf mw.2.1, mw⟩
  · rw [c51, c5] at z
    rw [if_pos z] at hr
    subst hr
    refine s_149_44 (k3 := mw.1.1) (e5 := mw.1.r48) (k6 := mw.1.k48) (i7 := vp mw.1.n48) (hq := ?_)
    rw [ep]
    exact ⟨_, rfl, rfl, mw.gA rfl, mw.wA rfl⟩
theorem m_dl2 (mw : MW h y ad μ) (hp : p < 40) (e49 : μ.2.1 49 p = nI (msC μ p)) (hc : msC μ p < 6) (e50 : μ.2.1 50 p = nI (msN μ p)) (hn1 : 1 ≤ msN μ p) (hn : msN μ p ≤ 40) {o2 : Option Value} {q0 : Option Nat} (hq0 : q0 = some (ad 53)) : Ev g P 151 42 [some (va_rf (some (y 12))), some (.int (nI p)), o2] [.int (nI p), va_rf q0] h (fun h' r => ∃ x, r = some (.int x) ∧ x = (dl2 μ p).2 ∧ MG y ad h h' ∧ MW h' y ad (dl2 μ p).1) := by
  generalize hr : dl2 μ p = res
  unfold dl2 at hr
  generalize msC μ p = c at *
  generalize msN μ p = n at *
  have ep : (nI p).toNatClampNeg = p := nI_clamp (by omega)
  have vp : ∀ {h : hpT} {a}, hN h a = 40 → vinD (nI p) (hN h a) := fun e => by rw [e]; exact vin_nI hp (by decide)
  have hlt : 40 * c + n - 1 < 240 := by omega
  have eqx : (40 : Int32) * nI c + nI n - 1 = nI (40 * c + n - 1) := ix40p c n hn1
  have eq : (nI (40 * c + n - 1)).toNatClampNeg = 40 * c + n - 1 := nI_clamp (by omega)
  have vq : ∀ {h : hpT} {a}, hN h a = 240 → vinD (nI (40 * c + n - 1)) (hN h a) := fun e => by rw [e]; exact vin_nI hlt (by decide)
  have c53 : hA h (ad 53) (nI p).toNatClampNeg = μ.2.1 53 p := by rw [ep]; exact mw.2.2.2.1 53 p rfl
  have c49 : hA h (ad 49) (nI p).toNatClampNeg = nI c := by rw [ep]; exact (mw.2.2.2.1 49 p rfl).trans e49
  have c50 : hA h (ad 50) (nI p).toNatClampNeg = nI n := by rw [ep]; exact (mw.2.2.2.1 50 p rfl).trans e50
  have c44 : hA h (ad 44) (nI (40 * c + n - 1)).toNatClampNeg = μ.2.1 44 (40 * c + n - 1) := by rw [eq]; exact mw.2.2.2.1 44 _ rfl
  have six : (μ, (6 : Int32)) = res → Ev g P 151 57 [some (va_rf (some (y 12))), some (.int (nI p)), o2] [] h (fun h' r => ∃ x, r = some (.int x) ∧ x = res.2 ∧ MG y ad h h' ∧ MW h' y ad res.1) := fun e => by
    subst e; exact s_151_57 ⟨_, rfl, rfl, MF.rf mw.2.1, mw⟩
  refine s_151_42 (e2 := hq0) (k3 := mw.1.k53) (i4 := vp mw.1.n53) (kt := fun z => six ?_) (kf := fun z => ?_)
  · rw [c53] at z
    rw [if_pos (Or.inl z)] at hr
    exact hr
  · rw [c53] at z
    refine s_151_47 (k3 := mw.1.1) (e5 := mw.1.r53) (k6 := mw.1.k53) (i7 := vp mw.1.n53) (kt := fun z1 => ?_) (kf := fun z1 => six ?_)
    · rw [c53] at z1
      rw [if_neg (fun a => a.elim z z1)] at hr
      refine s_151_60 (k3 := mw.1.1) (e5 := mw.1.r49) (k6 := mw.1.k49) (i7 := vp mw.1.n49) (e9 := mw.1.r50) (k10 := mw.1.k50) (i11 := vp mw.1.n50) (e13 := mw.1.r44) (k14 := mw.1.k44) (i15 := by rw [c49, c50, eqx]; exact vq mw.1.n44) (kt := fun z2 => ?_) (kf := fun z2 => ?_)
      · rw [c49, c50, eqx, c44] at z2
        rw [if_pos z2] at hr
        subst hr
        rw [c49, c50, eqx]
        refine s_151_90 (k3 := mw.1.1) (e5 := mw.1.r44) (k6 := mw.1.k44) (i7 := vq mw.1.n44) (kk := ?_)
        rw [eq]
        have mw1 := mw.wA (r := 44) (i := 40 * c + n - 1) (x := 1) rfl
        have g1 := mw.gA (e := 44) (i := 40 * c + n - 1) (x := 1) rfl
        generalize hpA h (ad 44) (40 * c + n - 1) 1 = H1 at mw1 g1 ⊢
        refine s_151_107 (e2 := mw.1.r53) (k3 := mw1.1.k53) (i4 := vp mw1.1.n53) (e6 := mw.1.r45) (k7 := mw1.1.k45) (i8 := vq mw1.1.n45) (e10 := rfl) (k11 := mw1.1.1) (kk := ?_)
        have d53 : hA H1 (ad 53) (nI p).toNatClampNeg = μ.2.1 53 p := by rw [ep]; exact mw1.2.2.2.1 53 p rfl
        rw [eq, d53]
        have mw2 := mw1.wA (r := 45) (i := 40 * c + n - 1) (x := μ.2.1 53 p) rfl
        have g2 := mw1.gA (e := 45) (i := 40 * c + n - 1) (x := μ.2.1 53 p) rfl
        generalize hpA H1 (ad 45) (40 * c + n - 1) (μ.2.1 53 p) = H2 at mw2 g2 ⊢
        refine s_151_119 (e2 := mw1.1.r54) (k3 := mw2.1.k54) (i4 := vp mw2.1.n54) (e6 := mw1.1.r46) (k7 := mw2.1.k46) (i8 := vq mw2.1.n46) (e10 := rfl) (k11 := mw2.1.1) (kk := ?_)
        have d54 : hA H2 (ad 54) (nI p).toNatClampNeg = μ.2.1 54 p := by rw [ep]; exact mw2.2.2.2.1 54 p rfl
        rw [eq, d54]
        have mw3 := mw2.wA (r := 46) (i := 40 * c + n - 1) (x := μ.2.1 54 p) rfl
        have g3 := mw2.gA (e := 46) (i := 40 * c + n - 1) (x := μ.2.1 54 p) rfl
        generalize hpA H2 (ad 46) (40 * c + n - 1) (μ.2.1 54 p) = H3 at mw3 g3 ⊢
        refine s_151_131 (e2 := mw2.1.r55) (k3 := mw3.1.k55) (i4 := vp mw3.1.n55) (e6 := mw2.1.r47) (k7 := mw3.1.k47) (i8 := vq mw3.1.n47) (hq := ?_)
        have d55 : hA H3 (ad 55) (nI p).toNatClampNeg = μ.2.1 55 p := by rw [ep]; exact mw3.2.2.2.1 55 p rfl
        rw [eq, d55]
        exact ⟨_, rfl, rfl, ((g1.jn g2).jn g3).jn (mw3.gA rfl), mw3.wA rfl⟩
      · rw [c49, c50, eqx, c44] at z2
        rw [if_neg z2] at hr
        subst hr
        exact s_151_88 ⟨_, rfl, rfl, MF.rf mw.2.1, mw⟩
    · rw [c53] at z1
      rw [if_pos (Or.inr z1)] at hr
      exact hr
theorem m_deliverM (mw : MW h y ad μ) (ok : ∀ p, p < 40 → ¬ (sn0 μ).2.1 48 p = -1 → MSh (sn0 μ) p ∧ ((sn0 μ).2.1 48 p = 0 → ((sn0 μ).2.1 51 p = nI (msS (sn0 μ) p) ∧ msS (sn0 μ) p < y 20) ∧ wOK y (sn0 μ) p (msS (sn0 μ) p))) : EvI g P 151 [va_rf (some (y 12)), .int x1] h (fun h' r => r = (dlv1 y (sn0 μ) x1).2 ∧ MG y ad h h' ∧ MW h' y ad (dlv1 y (sn0 μ) x1).1) := by
  have mw0 : MW (hpI h 836 (y 12) 0) y ad (sn0 μ) := mw.wN (k := 4) rfl (by decide) (by decide)
  have g0 : MG y ad h (hpI h 836 (y 12) 0) := mw.gN (k := 4) rfl
  refine e_151 (s_151_0 (k3 := mw.1.1) (hc := m_isMsg mw0) (kk := fun h1 x' ⟨q1, q2⟩ => ?_))
  subst q1; subst q2
  generalize hpI h 836 (y 12) 0 = H0 at mw0 g0 ⊢
  generalize sn0 μ = μ at mw0 ok ⊢
  by_cases q : imM μ x1 = 0
  · have e : dlv1 y μ x1 = (μ, -1) := by unfold dlv1; rw [if_pos q]
    rw [e]
    exact s_151_10 (kt := fun z => absurd q z) (kf := fun _ => s_151_13 ⟨_, rfl, rfl, g0, mw0⟩)
  · obtain ⟨p, hp, ep1, nm⟩ := imM_n q
    subst ep1
    have ep : (nI p).toNatClampNeg = p := nI_clamp (by omega)
    have vp : vinD (nI p) (hN H0 (ad 48)) := by rw [mw0.1.n48]; exact vin_nI hp (by decide)
    obtain ⟨ms, ok2⟩ := ok p hp nm
    have c48 : hA H0 (ad 48) (nI p).toNatClampNeg = μ.2.1 48 p := by rw [ep]; exact mw0.2.2.2.1 48 p rfl
    refine s_151_10 (kt := fun _ => ?_) (kf := fun z => absurd z q)
    refine s_151_15 (k3 := mw0.1.1) (e5 := mw0.1.r48) (k6 := mw0.1.k48) (i7 := vp) (kt := fun z => ?_) (kf := fun z => ?_)
    · rw [c48] at z
      have e : dlv1 y μ (nI p) = dl2 (uR μ 48 p (-1)) p := by unfold dlv1; rw [if_neg q, ep, if_neg z]
      rw [e]
      refine s_151_30 (k3 := mw0.1.1) (e5 := mw0.1.r48) (k6 := mw0.1.k48) (i7 := vp) (kk := ?_)
      rw [ep]
      have mw1 := mw0.wA (r := 48) (i := p) (x := -1) rfl
      have g1 := mw0.gA (e := 48) (i := p) (x := -1) rfl
      have r53 := mw0.1.r53
      generalize hpA H0 (ad 48) p (-1) = H1 at mw1 g1 ⊢
      obtain ⟨⟨e49, hc⟩, ⟨e50, hn1, hn⟩, -⟩ := ms
      exact Ev.imp (m_dl2 (g := g) (P := P) mw1 hp e49 hc e50 hn1 hn r53) (fun h' r ⟨x, q1, q2, q3, q4⟩ => ⟨x, q1, q2, (g0.jn g1).jn q3, q4⟩)
    · rw [c48] at z
      have e : dlv1 y μ (nI p) = arr y μ p (msS μ p) (msC μ p) (msN μ p) := by unfold dlv1; rw [if_neg q, ep, if_pos z]
      rw [e]
      exact s_151_24 (k3 := mw0.1.1) (hc := m_arrives mw0 (ok2 z).2 ⟨(ok2 z).1, ms⟩) (kk := fun h1 x' ⟨q1, g1, mw1⟩ => s_151_29 ⟨_, rfl, q1, g0.jn g1, mw1⟩)
end MV
