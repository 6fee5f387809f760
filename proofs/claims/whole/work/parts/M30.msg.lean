/-! the model: got, twice, message -/
def tw8 (μ : mT) (t p : Nat) : mT := uR (uR (uR (uR (uR (uR (uR (uR μ 48 t (μ.2.1 48 p)) 49 t (μ.2.1 49 p)) 50 t (μ.2.1 50 p)) 51 t (μ.2.1 51 p)) 52 t (μ.2.1 52 p)) 53 t (μ.2.1 53 p)) 54 t (μ.2.1 54 p)) 55 t (μ.2.1 55 p)
def twi1 (μ : mT) (x : Int32) : mT × Int32 := if imM μ x = 0 then (μ, -1) else if ¬ frM μ < 40 then (μ, -3) else (tw8 μ (frM μ) x.toNatClampNeg, nI (frM μ))
def mg1 (μ : mT) (p : Nat) (x : Int32) : Int32 := if x = 0 then μ.2.1 48 p else if x = 1 then μ.2.1 49 p else if x = 2 then μ.2.1 50 p else if x = 3 then (if μ.2.1 48 p = 0 then μ.2.1 51 p else -1) else if x = 4 then (if μ.2.1 48 p = 1 then μ.2.1 53 p else -1) else μ.2.1 40 (40 * msC μ p + msN μ p - 1)
def mgM (μ : mT) (x1 x2 : Int32) : mT × Int32 := if imM μ x1 = 0 ∨ x2 < 0 ∨ 5 < x2 then (uN μ 4 1, 0) else (uN μ 4 0, mg1 μ x1.toNatClampNeg x2)
section MM
variable {g : gcT} {P : pmT} {h h' h1 h2 : hpT} {y ad : Nat → Nat} {i j k n nm m e f c v p q : Nat} {x x1 x2 x3 x4 x5 x6 x7 x8 x9 xr : Int32} {μ : mT} {Q : hpT → Option Value → Prop}
theorem m_gotM (mw : MW h y ad μ) (cq : ∀ c, c < 6 → cqOK (sn0 μ) c) : EvI g P 155 [va_rf (some (y 12)), .int x1, .int x2, .int x3] h (fun h' r => r = gotM (sn0 μ) x1 x2 x3 ∧ MG y ad h h' ∧ MW h' y ad (sn0 μ)) := by
  have mw0 : MW (hpI h 836 (y 12) 0) y ad (sn0 μ) := mw.wN (k := 4) rfl (by decide) (by decide)
  have g0 : MG y ad h (hpI h 836 (y 12) 0) := mw.gN (k := 4) rfl
  refine e_155 (s_155_0 (k3 := mw.1.1) (hc := m_in) (kk := fun h1 x' ⟨q1, q2⟩ => ?_))
  subst q1; subst q2
  generalize hpI h 836 (y 12) 0 = H0 at mw0 g0 ⊢
  generalize sn0 μ = μ at mw0 cq ⊢
  generalize hr : gotM μ x1 x2 x3 = res
  unfold gotM at hr
  have bad : ∀ {o4 : Option Value}, (-1000000 : Int32) = res → Ev g P 155 37 [some (va_rf (some (y 12))), some (.int x1), some (.int x2), some (.int x3), o4] [] H0 (fun h' r => ∃ x, r = some (.int x) ∧ x = res ∧ MG y ad h h' ∧ MW h' y ad μ) := fun e => by
    subst e; exact s_155_37 ⟨_, rfl, rfl, g0, mw0⟩
  by_cases b1 : x1 < 0 ∨ 5 < x1
  · rw [if_pos b1] at hr ⊢
    exact s_155_11 (kt := fun _ => bad hr) (kf := fun z => absurd rfl z)
  rw [if_neg b1] at hr ⊢
  obtain ⟨c, hc, e1⟩ := rg_nI (x := x1) (b := 5) (by decide) (fun z => b1 (Or.inl z)) (fun z => b1 (Or.inr z))
  subst e1
  have ec : (nI c).toNatClampNeg = c := nI_clamp (by omega)
  obtain ⟨a1, a2, a3⟩ := cq c (by omega)
  rw [ec] at hr
  have v39 : ∀ {h : hpT}, HM h y ad → vinD (nI c) (hN h (ad 39)) := fun hm => by rw [hm.n39]; exact vin_nI (by omega) (by decide)
  have c39 : hA H0 (ad 39) (nI c).toNatClampNeg = μ.2.1 39 c := by rw [ec]; exact mw0.2.2.2.1 39 c rfl
  have hin := m_in (g := g) (P := P) (h := H0) (x1 := x2) (x2 := 1) (x3 := hA H0 (ad 39) (nI c).toNatClampNeg)
  refine s_155_11 (kt := fun z => absurd z (by decide)) (kf := fun _ => s_155_14 (k3 := mw0.1.1) (e5 := mw0.1.r39) (k6 := mw0.1.k39) (i7 := v39 mw0.1) (hc := hin) (kk := fun h1 x' ⟨q1, q2⟩ => ?_))
  subst q1; subst q2
  rw [c39]
  by_cases b2 : x2 < 1 ∨ μ.2.1 39 c < x2
  · rw [if_pos b2] at hr ⊢
    exact s_155_25 (kt := fun _ => bad hr) (kf := fun z => absurd rfl z)
  rw [if_neg b2] at hr ⊢
  refine s_155_25 (kt := fun z => absurd z (by decide)) (kf := fun _ => s_155_28 (hc := m_in) (kk := fun h2 x' ⟨q1, q2⟩ => ?_))
  subst q1; subst q2
  by_cases b3 : x3 < 0 ∨ 2 < x3
  · rw [if_pos b3] at hr ⊢
    exact s_155_34 (kt := fun z => absurd rfl z) (kf := fun _ => bad hr)
  rw [if_neg b3] at hr ⊢
  refine s_155_34 (kt := fun _ => ?_) (kf := fun z => absurd z (by decide))
  have n0 : ¬ x2 < 0 := fun z => b2 (Or.inl (Int32.lt_trans z (by decide)))
  obtain ⟨n, hn, e2⟩ := rg_nI (x := x2) (b := asN μ c) (by omega) n0 (fun z => b2 (Or.inr (by rw [a1]; exact z)))
  subst e2
  have en : (nI n).toNatClampNeg = n := nI_clamp (by omega)
  have hn1 : 1 ≤ n := by
    rcases Nat.lt_or_ge n 1 with q | q
    · have e : n = 0 := by omega
      subst e
      exact absurd (Or.inl (by decide)) b2
    · exact q
  rw [en] at hr
  have hlt : 40 * c + n - 1 < 240 := by omega
  have eqx : (40 : Int32) * nI c + nI n - 1 = nI (40 * c + n - 1) := ix40p c n hn1
  have eq : (nI (40 * c + n - 1)).toNatClampNeg = 40 * c + n - 1 := nI_clamp (by omega)
  have vq : ∀ {h : hpT} {a}, hN h a = 240 → vinD (nI (40 * c + n - 1)) (hN h a) := fun e => by rw [e]; exact vin_nI hlt (by decide)
  have c44 : hA h2 (ad 44) (nI (40 * c + n - 1)).toNatClampNeg = μ.2.1 44 (40 * c + n - 1) := by rw [eq]; exact mw0.2.2.2.1 44 _ rfl
  have c45 : hA h2 (ad 45) (nI (40 * c + n - 1)).toNatClampNeg = μ.2.1 45 (40 * c + n - 1) := by rw [eq]; exact mw0.2.2.2.1 45 _ rfl
  have c46 : hA h2 (ad 46) (nI (40 * c + n - 1)).toNatClampNeg = μ.2.1 46 (40 * c + n - 1) := by rw [eq]; exact mw0.2.2.2.1 46 _ rfl
  have c47 : hA h2 (ad 47) (nI (40 * c + n - 1)).toNatClampNeg = μ.2.1 47 (40 * c + n - 1) := by rw [eq]; exact mw0.2.2.2.1 47 _ rfl
  refine s_155_41 (k3 := mw0.1.1) (e5 := mw0.1.r44) (k6 := mw0.1.k44) (i7 := by rw [eqx]; exact vq mw0.1.n44) (kt := fun z => ?_) (kf := fun z => ?_)
  · rw [eqx, c44] at z
    rw [if_neg z] at hr
    rw [eqx]
    by_cases q0 : x3 = 0
    · rw [if_pos q0] at hr
      refine s_155_65 (kt := fun z => absurd q0 z) (kf := fun _ => s_155_69 (k3 := mw0.1.1) (e5 := mw0.1.r45) (k6 := mw0.1.k45) (i7 := vq mw0.1.n45) (kk := s_155_101 ⟨_, rfl, ?_, g0, mw0⟩))
      rw [c45]; exact hr
    · rw [if_neg q0] at hr
      refine s_155_65 (kt := fun _ => ?_) (kf := fun z => absurd z q0)
      by_cases q1 : x3 = 1
      · rw [if_pos q1] at hr
        refine s_155_79 (kt := fun z => absurd q1 z) (kf := fun _ => s_155_84 (k3 := mw0.1.1) (e5 := mw0.1.r46) (k6 := mw0.1.k46) (i7 := vq mw0.1.n46) (kk := s_155_101 ⟨_, rfl, ?_, g0, mw0⟩))
        rw [c46]; exact hr
      · rw [if_neg q1] at hr
        refine s_155_79 (kt := fun _ => s_155_94 (k3 := mw0.1.1) (e5 := mw0.1.r47) (k6 := mw0.1.k47) (i7 := vq mw0.1.n47) (kk := s_155_101 ⟨_, rfl, ?_, g0, mw0⟩)) (kf := fun z => absurd z q1)
        rw [c47]; exact hr
  · rw [eqx, c44] at z
    rw [if_pos z] at hr
    subst hr
    exact s_155_61 ⟨_, rfl, rfl, g0, mw0⟩
theorem m_twiceM (mw : MW h y ad μ) : EvI g P 153 [va_rf (some (y 12)), .int x1] h (fun h' r => r = (twi1 (sn0 μ) x1).2 ∧ MG y ad h h' ∧ MW h' y ad (twi1 (sn0 μ) x1).1) := by
  have mw0 : MW (hpI h 836 (y 12) 0) y ad (sn0 μ) := mw.wN (k := 4) rfl (by decide) (by decide)
  have g0 : MG y ad h (hpI h 836 (y 12) 0) := mw.gN (k := 4) rfl
  refine e_153 (s_153_0 (k3 := mw.1.1) (hc := m_isMsg mw0) (kk := fun h1 x' ⟨q1, q2⟩ => ?_))
  subst q1; subst q2
  generalize hpI h 836 (y 12) 0 = H0 at mw0 g0 ⊢
  generalize sn0 μ = μ at mw0 ⊢
  generalize hr : twi1 μ x1 = res
  unfold twi1 at hr
  by_cases q : imM μ x1 = 0
  · rw [if_pos q] at hr
    subst hr
    exact s_153_10 (kt := fun z => absurd q z) (kf := fun _ => s_153_13 ⟨_, rfl, rfl, g0, mw0⟩)
  · rw [if_neg q] at hr
    obtain ⟨p, hp, ep1, -⟩ := imM_n q
    subst ep1
    have ep : (nI p).toNatClampNeg = p := nI_clamp (by omega)
    rw [ep] at hr
    refine s_153_10 (kt := fun _ => ?_) (kf := fun z => absurd z q)
    refine s_153_15 (k3 := mw0.1.1) (hc := m_freeM mw0) (kk := fun h1 x' ⟨q1, q2⟩ => ?_)
    subst q1; subst q2
    by_cases bf : frM μ < 40
    · rw [if_neg (fun q => q bf)] at hr
      rw [if_pos bf]
      generalize frM μ = t at *
      have et : (nI t).toNatClampNeg = t := nI_clamp (by omega)
      refine s_153_19 (kt := fun _ => ?_) (kf := fun z => absurd z (fun q => by
        have := nI_pos (n := t) (by omega)
        rw [q] at this
        exact absurd this (by decide)))
      have vp : ∀ {h : hpT} {a}, hN h a = 40 → vinD (nI p) (hN h a) := fun e => by rw [e]; exact vin_nI hp (by decide)
      have vt : ∀ {h : hpT} {a}, hN h a = 40 → vinD (nI t) (hN h a) := fun e => by rw [e]; exact vin_nI bf (by decide)
      refine s_153_28 (k3 := mw0.1.1) (e5 := mw0.1.r48) (k6 := mw0.1.k48) (i7 := vp mw0.1.n48) (i8 := vt mw0.1.n48) (kk := ?_)
      have d0 : hA h1 (ad 48) (nI p).toNatClampNeg = μ.2.1 48 p := by rw [ep]; exact mw0.2.2.2.1 48 p rfl
      rw [d0, et]
      have mw1 := mw0.wA (r := 48) (i := t) (x := μ.2.1 48 p) rfl
      have g1 := mw0.gA (e := 48) (i := t) (x := μ.2.1 48 p) rfl
      have r1 := mw0.1.r49
      generalize hpA h1 (ad 48) t (μ.2.1 48 p) = H1 at mw1 g1 ⊢
      refine s_153_50 (e2 := r1) (k3 := mw1.1.k49) (i4 := vp mw1.1.n49) (e6 := r1) (k7 := mw1.1.k49) (i8 := vt mw1.1.n49) (e10 := rfl) (k11 := mw1.1.1) (kk := ?_)
      have d1 : hA H1 (ad 49) (nI p).toNatClampNeg = μ.2.1 49 p := by rw [ep]; exact mw1.2.2.2.1 49 p rfl
      rw [d1, et]
      have mw2 := mw1.wA (r := 49) (i := t) (x := μ.2.1 49 p) rfl
      have g2 := mw1.gA (e := 49) (i := t) (x := μ.2.1 49 p) rfl
      have r2 := mw1.1.r50
      generalize hpA H1 (ad 49) t (μ.2.1 49 p) = H2 at mw2 g2 ⊢
      refine s_153_62 (e2 := r2) (k3 := mw2.1.k50) (i4 := vp mw2.1.n50) (e6 := r2) (k7 := mw2.1.k50) (i8 := vt mw2.1.n50) (e10 := rfl) (k11 := mw2.1.1) (kk := ?_)
      have d2 : hA H2 (ad 50) (nI p).toNatClampNeg = μ.2.1 50 p := by rw [ep]; exact mw2.2.2.2.1 50 p rfl
      rw [d2, et]
      have mw3 := mw2.wA (r := 50) (i := t) (x := μ.2.1 50 p) rfl
      have g3 := mw2.gA (e := 50) (i := t) (x := μ.2.1 50 p) rfl
      have r3 := mw2.1.r51
      generalize hpA H2 (ad 50) t (μ.2.1 50 p) = H3 at mw3 g3 ⊢
      refine s_153_74 (e2 := r3) (k3 := mw3.1.k51) (i4 := vp mw3.1.n51) (e6 := r3) (k7 := mw3.1.k51) (i8 := vt mw3.1.n51) (e10 := rfl) (k11 := mw3.1.1) (kk := ?_)
      have d3 : hA H3 (ad 51) (nI p).toNatClampNeg = μ.2.1 51 p := by rw [ep]; exact mw3.2.2.2.1 51 p rfl
      rw [d3, et]
      have mw4 := mw3.wA (r := 51) (i := t) (x := μ.2.1 51 p) rfl
      have g4 := mw3.gA (e := 51) (i := t) (x := μ.2.1 51 p) rfl
      have r4 := mw3.1.r52
      generalize hpA H3 (ad 51) t (μ.2.1 51 p) = H4 at mw4 g4 ⊢
      refine s_153_86 (e2 := r4) (k3 := mw4.1.k52) (i4 := vp mw4.1.n52) (e6 := r4) (k7 := mw4.1.k52) (i8 := vt mw4.1.n52) (e10 := rfl) (k11 := mw4.1.1) (kk := ?_)
      have d4 : hA H4 (ad 52) (nI p).toNatClampNeg = μ.2.1 52 p := by rw [ep]; exact mw4.2.2.2.1 52 p rfl
      rw [d4, et]
      have mw5 := mw4.wA (r := 52) (i := t) (x := μ.2.1 52 p) rfl
      have g5 := mw4.gA (e := 52) (i := t) (x := μ.2.1 52 p) rfl
      have r5 := mw4.1.r53
      generalize hpA H4 (ad 52) t (μ.2.1 52 p) = H5 at mw5 g5 ⊢
      refine s_153_98 (e2 := r5) (k3 := mw5.1.k53) (i4 := vp mw5.1.n53) (e6 := r5) (k7 := mw5.1.k53) (i8 := vt mw5.1.n53) (e10 := rfl) (k11 := mw5.1.1) (kk := ?_)
      have d5 : hA H5 (ad 53) (nI p).toNatClampNeg = μ.2.1 53 p := by rw [ep]; exact mw5.2.2.2.1 53 p rfl
      rw [d5, et]
      have mw6 := mw5.wA (r := 53) (i := t) (x := μ.2.1 53 p) rfl
      have g6 := mw5.gA (e := 53) (i := t) (x := μ.2.1 53 p) rfl
      have r6 := mw5.1.r54
      generalize hpA H5 (ad 53) t (μ.2.1 53 p) = H6 at mw6 g6 ⊢
      refine s_153_110 (e2 := r6) (k3 := mw6.1.k54) (i4 := vp mw6.1.n54) (e6 := r6) (k7 := mw6.1.k54) (i8 := vt mw6.1.n54) (e10 := rfl) (k11 := mw6.1.1) (kk := ?_)
      have d6 : hA H6 (ad 54) (nI p).toNatClampNeg = μ.2.1 54 p := by rw [ep]; exact mw6.2.2.2.1 54 p rfl
      rw [d6, et]
      have mw7 := mw6.wA (r := 54) (i := t) (x := μ.2.1 54 p) rfl
      have g7 := mw6.gA (e := 54) (i := t) (x := μ.2.1 54 p) rfl
      have r7 := mw6.1.r55
      generalize hpA H6 (ad 54) t (μ.2.1 54 p) = H7 at mw7 g7 ⊢
      refine s_153_122 (e2 := r7) (k3 := mw7.1.k55) (i4 := vp mw7.1.n55) (e6 := r7) (k7 := mw7.1.k55) (i8 := vt mw7.1.n55) (hq := ?_)
      have d7 : hA H7 (ad 55) (nI p).toNatClampNeg = μ.2.1 55 p := by rw [ep]; exact mw7.2.2.2.1 55 p rfl
      rw [d7, et]
      subst hr
      exact ⟨_, rfl, rfl, (((((((g0.jn g1).jn g2).jn g3).jn g4).jn g5).jn g6).jn g7).jn (mw7.gA rfl), mw7.wA rfl⟩
    · rw [if_pos bf] at hr
      rw [if_neg bf]
      subst hr
      exact s_153_19 (kt := fun z => absurd rfl z) (kf := fun _ => s_153_25 ⟨_, rfl, rfl, g0, mw0⟩)
end MM
