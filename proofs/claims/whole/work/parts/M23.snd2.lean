/-! the model: send, again, answers -/
def snd1 (μ : mT) (x1 x2 x3 x4 x5 : Int32) : mT × Int32 := if x1 < 0 ∨ 5 < x1 then (μ, -1) else if x2 < 0 ∨ 3 < x2 then (μ, -1) else if x3 < 0 ∨ 63 < x3 then (μ, -1) else if μ.2.1 39 x1.toNatClampNeg = 40 then (μ, -1) else if μ.2.1 13 (x3 / 8).toNatClampNeg = -1 then (μ, -2) else if ¬ frM μ < 40 then (μ, -3) else (goM (sn1 μ x1.toNatClampNeg x2 x3 x4 x5) (frM μ) x1.toNatClampNeg (asN μ x1.toNatClampNeg + 1), nI (asN μ x1.toNatClampNeg + 1))
def aga1 (μ : mT) (x1 x2 : Int32) : mT × Int32 := if x1 < 0 ∨ 5 < x1 then (μ, -1) else if x2 < 1 ∨ μ.2.1 39 x1.toNatClampNeg < x2 then (μ, -1) else if μ.2.1 13 (tbM μ x1.toNatClampNeg x2.toNatClampNeg) = -1 then (μ, -2) else if ¬ frM μ < 40 then (μ, -3) else (goM μ (frM μ) x1.toNatClampNeg x2.toNatClampNeg, nI (frM μ))
def ansM (μ : mT) (p : Nat) (x2 x3 x4 : Int32) : mT := uR (uR (uR (uR μ 48 p 1) 53 p x2) 54 p x3) 55 p x4
section MQ2
variable {g : gcT} {P : pmT} {h h' h1 h2 : hpT} {y ad : Nat → Nat} {T T' : List slT} {i j k n nm m e f c v p : Nat} {x x1 x2 x3 x4 x5 x6 xr : Int32} {μ : mT} {Q : hpT → Option Value → Prop}
theorem rg_nI {b : Nat} (hb : b + 1 < 2 ^ 31) (h0 : ¬ x < 0) (h1 : ¬ nI b < x) : ∃ j, j ≤ b ∧ x = nI j := by
  obtain ⟨j, h2, h3, -⟩ := pk_mu h0 (fun z => h1 (Int32.lt_of_lt_of_le (nI_lt (Nat.lt_succ_self b) (by omega)) z)) hb
  exact ⟨j, by omega, h3⟩
theorem m_answersM (mw : MW h y ad μ) (hp : p < 40) : EvI g P 145 [va_rf (some (y 12)), .int (nI p), .int x2, .int x3, .int x4] h (fun h' r => r = 0 ∧ MG y ad h h' ∧ MW h' y ad (ansM μ p x2 x3 x4)) := by
  have ep : (nI p).toNatClampNeg = p := nI_clamp (by omega)
  have vp : ∀ {h : hpT} {a}, hN h a = 40 → vinD (nI p) (hN h a) := fun e => by rw [e]; exact vin_nI hp (by decide)
  refine e_145 (s_145_0 (k3 := mw.1.1) (e5 := mw.1.r48) (k6 := mw.1.k48) (i7 := vp mw.1.n48) (e9 := mw.1.r53) (k10 := mw.1.k53) (i11 := vp mw.1.n53) (e13 := mw.1.r54) (k14 := mw.1.k54) (i15 := vp mw.1.n54) (kk := ?_))
  rw [ep]
  have mw1 := mw.wA (r := 48) (i := p) (x := 1) rfl
  have g1 := mw.gA (e := 48) (i := p) (x := 1) rfl
  generalize hpA h (ad 48) p 1 = H1 at mw1 g1 ⊢
  have mw2 := mw1.wA (r := 53) (i := p) (x := x2) rfl
  have g2 := mw1.gA (e := 53) (i := p) (x := x2) rfl
  generalize hpA H1 (ad 53) p x2 = H2 at mw2 g2 ⊢
  have mw3 := mw2.wA (r := 54) (i := p) (x := x3) rfl
  have g3 := mw2.gA (e := 54) (i := p) (x := x3) rfl
  generalize hpA H2 (ad 54) p x3 = H3 at mw3 g3 ⊢
  refine s_145_21 (k3 := mw3.1.1) (e5 := mw3.1.r55) (k6 := mw3.1.k55) (i7 := vp mw3.1.n55) (hq := ?_)
  rw [ep]
  exact ⟨_, rfl, rfl, ((g1.jn g2).jn g3).jn (mw3.gA rfl), mw3.wA rfl⟩
theorem cq_sn {c k3 : Nat} (hc : c < 6) (cq : cqOK μ c) (n40 : ¬ asN μ c = 40) (hk3 : k3 < 64) : cqOK (sn1 μ c x2 (nI k3) x4 x5) c ∧ asN (sn1 μ c x2 (nI k3) x4 x5) c = asN μ c + 1 := by
  obtain ⟨a1, a2, a3⟩ := cq
  have e39 : (sn1 μ c x2 (nI k3) x4 x5).2.1 39 c = nI (asN μ c + 1) := if_pos ⟨rfl, rfl⟩
  have ea : asN (sn1 μ c x2 (nI k3) x4 x5) c = asN μ c + 1 := by
    unfold asN
    rw [e39]
    exact nI_clamp (by have : asN μ c ≤ 40 := a2; omega)
  refine ⟨⟨by rw [ea]; exact e39, by omega, fun q h1 h2 => ?_⟩, ea⟩
  rw [ea] at h2
  have ek : kyM (sn1 μ c x2 (nI k3) x4 x5) c q = if 40 * c + q - 1 = 40 * c + asN μ c then nI k3 else kyM μ c q := by
    show (if 41 = 41 ∧ 40 * c + q - 1 = 40 * c + asN μ c then nI k3 else kyM μ c q) = _
    by_cases z : 40 * c + q - 1 = 40 * c + asN μ c
    · rw [if_pos ⟨rfl, z⟩, if_pos z]
    · rw [if_neg (fun a => z a.2), if_neg z]
  rw [ek]
  split
  · exact ⟨k3, hk3, rfl⟩
  · exact a3 q h1 (by omega)
theorem m_sendM (mw : MW h y ad μ) (cq : ∀ c, c < 6 → cqOK (sn0 μ) c) : EvI g P 143 [va_rf (some (y 12)), .int x1, .int x2, .int x3, .int x4, .int x5] h (fun h' r => r = (snd1 (sn0 μ) x1 x2 x3 x4 x5).2 ∧ MG y ad h h' ∧ MW h' y ad (snd1 (sn0 μ) x1 x2 x3 x4 x5).1) := by
  have mw0 : MW (hpI h 836 (y 12) 0) y ad (sn0 μ) := mw.wN (k := 4) rfl (by decide) (by decide)
  have g0 : MG y ad h (hpI h 836 (y 12) 0) := mw.gN (k := 4) rfl
  generalize hr : snd1 (sn0 μ) x1 x2 x3 x4 x5 = res
  unfold snd1 at hr
  refine e_143 (s_143_0 (k3 := mw.1.1) (hc := m_in) (kk := fun h1 x' ⟨q1, q2⟩ => ?_))
  subst q1; subst q2
  generalize hpI h 836 (y 12) 0 = H0 at mw0 g0 ⊢
  generalize sn0 μ = μ at mw0 cq hr
  have bad : ∀ {o6 o7 : Option Value}, (μ, (-1 : Int32)) = res → Ev g P 143 44 [some (va_rf (some (y 12))), some (.int x1), some (.int x2), some (.int x3), some (.int x4), some (.int x5), o6, o7] [] H0 (fun h' r => ∃ x, r = some (.int x) ∧ x = res.2 ∧ MG y ad h h' ∧ MW h' y ad res.1) := fun e => by
    subst e; exact s_143_44 ⟨_, rfl, rfl, g0, mw0⟩
  by_cases b1 : x1 < 0 ∨ 5 < x1
  · rw [if_pos b1] at hr ⊢
    exact s_143_11 (kt := fun _ => bad hr) (kf := fun z => absurd rfl z)
  rw [if_neg b1] at hr ⊢
  refine s_143_11 (kt := fun z => absurd z (by decide)) (kf := fun _ => s_143_14 (hc := m_in) (kk := fun h1 x' ⟨q1, q2⟩ => ?_))
  subst q1; subst q2
  by_cases b2 : x2 < 0 ∨ 3 < x2
  · rw [if_pos b2] at hr ⊢
    exact s_143_20 (kt := fun _ => bad hr) (kf := fun z => absurd rfl z)
  rw [if_neg b2] at hr ⊢
  refine s_143_20 (kt := fun z => absurd z (by decide)) (kf := fun _ => s_143_23 (hc := m_in) (kk := fun h1 x' ⟨q1, q2⟩ => ?_))
  subst q1; subst q2
  by_cases b3 : x3 < 0 ∨ 63 < x3
  · rw [if_pos b3] at hr ⊢
    exact s_143_30 (kt := fun _ => bad hr) (kf := fun z => absurd rfl z)
  rw [if_neg b3] at hr ⊢
  refine s_143_30 (kt := fun z => absurd z (by decide)) (kf := fun _ => ?_)
  obtain ⟨c, hc, e1⟩ := rg_nI (x := x1) (b := 5) (by decide) (fun z => b1 (Or.inl z)) (fun z => b1 (Or.inr z))
  obtain ⟨k3, hk3, e3⟩ := rg_nI (x := x3) (b := 63) (by decide) (fun z => b3 (Or.inl z)) (fun z => b3 (Or.inr z))
  subst e1; subst e3
  have ec : (nI c).toNatClampNeg = c := nI_clamp (by omega)
  have cqc := cq c (by omega)
  obtain ⟨a1, a2, a3⟩ := id cqc
  obtain ⟨d1, d2⟩ := dv8 (k := k3) (by omega)
  rw [ec] at hr
  have v39 : ∀ {h : hpT}, HM h y ad → vinD (nI c) (hN h (ad 39)) := fun hm => by rw [hm.n39]; exact vin_nI (by omega) (by decide)
  have c39 : hA h1 (ad 39) (nI c).toNatClampNeg = μ.2.1 39 c := by rw [ec]; exact mw0.2.2.2.1 39 c rfl
  refine s_143_33 (k3 := mw0.1.1) (e5 := mw0.1.r39) (k6 := mw0.1.k39) (i7 := v39 mw0.1) (kt := fun z => ?_) (kf := fun z => ?_)
  · rw [c39] at z
    rw [if_neg z] at hr
    have n40 : ¬ asN μ c = 40 := fun q => z (by rw [a1, q]; rfl)
    have c13 : hA h1 (ad 13) (nI k3 / 8).toNatClampNeg = μ.2.1 13 (nI k3 / 8).toNatClampNeg := mw0.2.2.2.1 13 _ rfl
    refine s_143_46 (k3 := mw0.1.1) (e5 := mw0.1.r13) (k6 := mw0.1.k13) (i7 := by rw [d2, mw0.1.n13]; exact vin_nI (by omega) (by decide)) (kt := fun z1 => ?_) (kf := fun z1 => ?_)
    · rw [c13] at z1
      rw [if_neg z1] at hr
      refine s_143_62 (k3 := mw0.1.1) (hc := m_freeM mw0) (kk := fun h2 x' ⟨q1, q2⟩ => ?_)
      subst q1; subst q2
      by_cases bf : frM μ < 40
      · rw [if_neg (fun q => q bf)] at hr
        rw [if_pos bf]
        refine s_143_66 (kt := fun _ => ?_) (kf := fun z => absurd z (fun q => by
          have := nI_pos (n := frM μ) (by omega)
          rw [q] at this
          exact absurd this (by decide)))
        have hlt : 40 * c + asN μ c < 240 := by omega
        have c39' : hA h2 (ad 39) (nI c).toNatClampNeg = nI (asN μ c) := c39.trans a1
        have ei : 40 * nI c + hA h2 (ad 39) (nI c).toNatClampNeg = nI (40 * c + asN μ c) := by rw [c39', ix40]
        have vq : ∀ {h : hpT} {a}, hN h a = 240 → vinD (nI (40 * c + asN μ c)) (hN h a) := fun e => by rw [e]; exact vin_nI hlt (by decide)
        have eq : (nI (40 * c + asN μ c)).toNatClampNeg = 40 * c + asN μ c := nI_clamp (by omega)
        refine s_143_77 (k3 := mw0.1.1) (e5 := mw0.1.r39) (k6 := mw0.1.k39) (i7 := v39 mw0.1) (e9 := mw0.1.r40) (k10 := mw0.1.k40) (i11 := by rw [ei]; exact vq mw0.1.n40) (e13 := mw0.1.r41) (k14 := mw0.1.k41) (i15 := by rw [ei]; exact vq mw0.1.n41) (e17 := mw0.1.r42) (k18 := mw0.1.k42) (i19 := by rw [ei]; exact vq mw0.1.n42) (kk := ?_)
        rw [ei, eq]
        have mw1 := mw0.wA (r := 40) (i := 40 * c + asN μ c) (x := x2) rfl
        have g1 := mw0.gA (e := 40) (i := 40 * c + asN μ c) (x := x2) rfl
        generalize hpA h2 (ad 40) (40 * c + asN μ c) x2 = H1 at mw1 g1 ⊢
        have mw2 := mw1.wA (r := 41) (i := 40 * c + asN μ c) (x := nI k3) rfl
        have g2 := mw1.gA (e := 41) (i := 40 * c + asN μ c) (x := nI k3) rfl
        generalize hpA H1 (ad 41) (40 * c + asN μ c) (nI k3) = H2 at mw2 g2 ⊢
        have mw3 := mw2.wA (r := 42) (i := 40 * c + asN μ c) (x := x4) rfl
        have g3 := mw2.gA (e := 42) (i := 40 * c + asN μ c) (x := x4) rfl
        generalize hpA H2 (ad 42) (40 * c + asN μ c) x4 = H3 at mw3 g3 ⊢
        refine s_143_115 (k3 := mw3.1.1) (e5 := mw3.1.r43) (k6 := mw3.1.k43) (i7 := vq mw3.1.n43) (kk := ?_)
        rw [eq]
        have mw4 := mw3.wA (r := 43) (i := 40 * c + asN μ c) (x := x5) rfl
        have g4 := mw3.gA (e := 43) (i := 40 * c + asN μ c) (x := x5) rfl
        generalize hpA H3 (ad 43) (40 * c + asN μ c) x5 = H4 at mw4 g4 ⊢
        refine s_143_130 (e2 := mw3.1.r39) (k3 := mw4.1.k39) (i4 := v39 mw4.1) (e6 := mw3.1.r39) (k7 := mw4.1.k39) (i8 := v39 mw4.1) (e10 := rfl) (k11 := mw4.1.1) (kk := ?_)
        have c394 : hA H4 (ad 39) (nI c).toNatClampNeg = nI (asN μ c) := by rw [ec]; exact (mw4.2.2.2.1 39 c rfl).trans a1
        rw [c394, ec, nI_1]
        have mw5 := mw4.wA (r := 39) (i := c) (x := nI (asN μ c + 1)) rfl
        have g5 := mw4.gA (e := 39) (i := c) (x := nI (asN μ c + 1)) rfl
        generalize hpA H4 (ad 39) c (nI (asN μ c + 1)) = H5 at mw5 g5 ⊢
        have mw5 : MW H5 y ad (sn1 μ c x2 (nI k3) x4 x5) := mw5
        obtain ⟨cs, cs2⟩ := cq_sn (x2 := x2) (x4 := x4) (x5 := x5) (by omega) cqc n40 (show k3 < 64 by omega)
        have c395 : hA H5 (ad 39) (nI c).toNatClampNeg = nI (asN μ c + 1) := by rw [ec]; exact (mw5.2.2.2.1 39 c rfl).trans (by rw [cs.1, cs2])
        have hg := m_goes (g := g) (P := P) (n := asN μ c + 1) mw5 bf (show c < 6 by omega) (by omega) (by rw [cs2]; omega) cs
        rw [← c395] at hg
        refine s_143_143 (e2 := mw4.1.r39) (k3 := mw5.1.k39) (i4 := v39 mw5.1) (e6 := rfl) (k7 := mw5.1.1) (hc := hg) (kk := fun h6 ⟨g6, mw6⟩ => ?_)
        have c396 : hA h6 (ad 39) (nI c).toNatClampNeg = nI (asN μ c + 1) := by
          rw [ec]
          refine (mw6.2.2.2.1 39 c rfl).trans ?_
          show (sn1 μ c x2 (nI k3) x4 x5).2.1 39 c = _
          rw [cs.1, cs2]
        refine s_143_147 (k3 := mw6.1.1) (e5 := mw6.1.r39) (k6 := mw6.1.k39) (i7 := v39 mw6.1) (hq := ?_)
        rw [c396]
        subst hr
        exact ⟨_, rfl, rfl, (((((g0.jn g1).jn g2).jn g3).jn g4).jn g5).jn g6, mw6⟩
      · rw [if_pos bf] at hr
        rw [if_neg bf]
        subst hr
        exact s_143_66 (kt := fun z => absurd rfl z) (kf := fun _ => s_143_74 ⟨_, rfl, rfl, g0, mw0⟩)
    · rw [c13] at z1
      rw [if_pos z1] at hr
      subst hr
      exact s_143_59 ⟨_, rfl, rfl, g0, mw0⟩
  · rw [c39] at z
    rw [if_pos z] at hr
    exact bad hr
end MQ2
