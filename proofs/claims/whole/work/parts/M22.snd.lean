/-! the model: ackedOf, free, goes, send, again -/
def akF (μ : mT) (c : Nat) : Nat → Nat → Nat
  | 0, k => k
  | d + 1, k => if μ.2.1 44 (40 * c + k) = 0 then k else akF μ c d (k + 1)
def asN (μ : mT) (c : Nat) : Nat := (μ.2.1 39 c).toNatClampNeg
def akM (μ : mT) (c : Nat) : Nat := akF μ c (asN μ c) 0
def frF (μ : mT) : Nat → Nat → Nat
  | 0, p => p
  | d + 1, p => if μ.2.1 48 p = -1 then p else frF μ d (p + 1)
def frM (μ : mT) : Nat := frF μ 40 0
def kyM (μ : mT) (c n : Nat) : Int32 := μ.2.1 41 (40 * c + n - 1)
def tbM (μ : mT) (c n : Nat) : Nat := (kyM μ c n / 8).toNatClampNeg
def goM (μ : mT) (p c n : Nat) : mT := uR (uR (uR (uR (uR μ 48 p 0) 49 p (nI c)) 50 p (nI n)) 51 p (μ.2.1 13 (tbM μ c n))) 52 p (nI (akM μ c + 1))
def cqOK (μ : mT) (c : Nat) : Prop := μ.2.1 39 c = nI (asN μ c) ∧ asN μ c ≤ 40 ∧ ∀ q, 1 ≤ q → q ≤ asN μ c → ∃ k, k < 64 ∧ kyM μ c q = nI k
def sn0 (μ : mT) : mT := uN μ 4 0
def sn1 (μ : mT) (c : Nat) (x2 x3 x4 x5 : Int32) : mT := uR (uR (uR (uR (uR μ 40 (40 * c + asN μ c) x2) 41 (40 * c + asN μ c) x3) 42 (40 * c + asN μ c) x4) 43 (40 * c + asN μ c) x5) 39 c (nI (asN μ c + 1))
section MQ
variable {g : gcT} {P : pmT} {h h' h1 h2 : hpT} {y ad : Nat → Nat} {T T' : List slT} {i j k n nm m e f c v p : Nat} {x x1 x2 x3 x4 x5 x6 xr : Int32} {A : Nat → Nat → Prop} {I : Nat → Prop} {μ : mT} {Q : hpT → Option Value → Prop} {en : enT}
theorem ix40 (c j : Nat) : (40 : Int32) * nI c + nI j = nI (40 * c + j) := by
  rw [show (40 : Int32) = nI 40 from rfl, pk_mul, nI_add]
theorem ix40p (c j : Nat) (hj : 1 ≤ j) : (40 : Int32) * nI c + nI j - 1 = nI (40 * c + j - 1) := by
  rw [ix40]
  have := nI_pred (40 * c + j - 1)
  rw [show 40 * c + j - 1 + 1 = 40 * c + j by omega] at this
  exact this
theorem akF_le : ∀ d k, akF μ c d k ≤ k + d := by
  intro d
  induction d with
  | zero => intro k; exact Nat.le_refl _
  | succ d ih =>
    intro k
    rw [akF]
    split
    · omega
    · have := ih (k + 1); omega
theorem frF_le : ∀ d k, frF μ d k ≤ k + d := by
  intro d
  induction d with
  | zero => intro k; exact Nat.le_refl _
  | succ d ih =>
    intro k
    rw [frF]
    split
    · omega
    · have := ih (k + 1); omega
theorem m_ackedOfM (mw : MW h y ad μ) (hc : c < 6) (e39 : μ.2.1 39 c = nI (asN μ c)) (ha : asN μ c ≤ 40) : EvI g P 140 [va_rf (some (y 12)), .int (nI c)] h (fun h' r => h' = h ∧ r = nI (akM μ c + 1)) := by
  have ec : (nI c).toNatClampNeg = c := nI_clamp (by omega)
  have c39 : hA h (ad 39) (nI c).toNatClampNeg = nI (asN μ c) := by rw [ec]; exact (mw.2.2.2.1 39 c rfl).trans e39
  have v39 : vinD (nI c) (hN h (ad 39)) := by rw [mw.1.n39]; exact vin_nI hc (by decide)
  refine e_140 (s_140_0 ?_)
  have go : ∀ d k, k + d = asN μ c → akF μ c d k = akM μ c → Ev g P 140 2 [some (va_rf (some (y 12))), some (.int (nI c)), some (.int (nI k))] [] h (fun h' r => ∃ x, r = some (.int x) ∧ h' = h ∧ x = nI (akM μ c + 1)) := by
    intro d
    induction d with
    | zero =>
      intro k hk ek
      have ek : k = akM μ c := ek
      refine s_140_2 (k3 := mw.1.1) (e5 := mw.1.r39) (k6 := mw.1.k39) (i7 := v39) (kt := fun _ => s_140_32 ⟨_, rfl, rfl, ?_⟩) (kf := fun z => absurd (by rw [c39]; exact nI_le (by omega) (by omega)) z)
      rw [nI_1, ek]
    | succ d ih =>
      intro k hk ek
      rw [akF] at ek
      have hlt : 40 * c + k < 240 := by omega
      have c44 : hA h (ad 44) (40 * nI c + nI k).toNatClampNeg = μ.2.1 44 (40 * c + k) := by rw [ix40, nI_clamp (by omega)]; exact mw.2.2.2.1 44 _ rfl
      refine s_140_2 (k3 := mw.1.1) (e5 := mw.1.r39) (k6 := mw.1.k39) (i7 := v39) (kt := fun z => absurd z (by rw [c39]; exact nI_ge (by omega) (by omega))) (kf := fun _ => ?_)
      refine s_140_12 (k3 := mw.1.1) (e5 := mw.1.r44) (k6 := mw.1.k44) (i7 := by rw [ix40, mw.1.n44]; exact vin_nI hlt (by decide)) (kt := fun z => s_140_32 ⟨_, rfl, rfl, ?_⟩) (kf := fun z => s_140_26 ?_)
      · rw [c44] at z
        rw [if_pos z] at ek
        rw [nI_1, ek]
      · rw [c44] at z
        rw [if_neg z] at ek
        rw [nI_1]
        exact ih (k + 1) (by omega) ek
  have := go (asN μ c) 0 (by omega) rfl
  rw [nI_0] at this
  exact this
theorem m_freeM (mw : MW h y ad μ) : EvI g P 141 [va_rf (some (y 12))] h (fun h' r => h' = h ∧ r = if frM μ < 40 then nI (frM μ) else -1) := by
  have e40 : (40 : Int32) = nI 40 := rfl
  refine e_141 (s_141_0 ?_)
  have fin : ∀ p, p ≤ 40 → p = frM μ → Ev g P 141 24 [some (va_rf (some (y 12))), some (.int (nI p))] [] h (fun h' r => ∃ x, r = some (.int x) ∧ h' = h ∧ x = if frM μ < 40 then nI (frM μ) else -1) := by
    intro p hp ep
    rw [← ep]
    by_cases q : p < 40
    · rw [if_pos q]
      exact s_141_24 (kt := fun z => absurd z (by rw [e40]; exact nI_ge q (by omega))) (kf := fun _ => s_141_30 (s_141_35 ⟨_, rfl, rfl, rfl⟩))
    · rw [if_neg q]
      exact s_141_24 (kt := fun _ => s_141_34 (s_141_35 ⟨_, rfl, rfl, rfl⟩)) (kf := fun z => absurd (by rw [e40]; exact nI_le (by omega) (by omega)) z)
  have go : ∀ d p, p + d = 40 → frF μ d p = frM μ → Ev g P 141 2 [some (va_rf (some (y 12))), some (.int (nI p))] [] h (fun h' r => ∃ x, r = some (.int x) ∧ h' = h ∧ x = if frM μ < 40 then nI (frM μ) else -1) := by
    intro d
    induction d with
    | zero =>
      intro p hp ep
      exact s_141_2 (kt := fun _ => fin p (by omega) ep) (kf := fun z => absurd (by rw [e40]; exact nI_le (by omega) (by omega)) z)
    | succ d ih =>
      intro p hp ep
      rw [frF] at ep
      have epp : (nI p).toNatClampNeg = p := nI_clamp (by omega)
      have c48 : hA h (ad 48) (nI p).toNatClampNeg = μ.2.1 48 p := by rw [epp]; exact mw.2.2.2.1 48 _ rfl
      refine s_141_2 (kt := fun z => absurd z (by rw [e40]; exact nI_ge (by omega) (by omega))) (kf := fun _ => ?_)
      refine s_141_8 (k3 := mw.1.1) (e5 := mw.1.r48) (k6 := mw.1.k48) (i7 := by rw [mw.1.n48]; exact vin_nI (by omega) (by decide)) (kt := fun z => fin p (by omega) ?_) (kf := fun z => s_141_18 ?_)
      · rw [c48] at z
        rw [if_pos z] at ep
        exact ep
      · rw [c48] at z
        rw [if_neg z] at ep
        rw [nI_1]
        exact ih (p + 1) (by omega) ep
  have := go 40 0 (by omega) rfl
  rw [nI_0] at this
  exact this
theorem dv8 {k : Nat} (hk : k < 64) : ((nI k) / 8).toNatClampNeg < 8 ∧ nI k / 8 = nI (k / 8) := by
  have : ∀ k, k < 64 → ((nI k) / 8).toNatClampNeg < 8 ∧ nI k / 8 = nI (k / 8) := by decide +kernel
  exact this k hk
theorem ak_u {r i : Nat} {v : Int32} (n1 : ¬ r = 39) (n2 : ¬ r = 44) (μ' : mT) : akM (uR μ' r i v) c = akM μ' c ∧ asN (uR μ' r i v) c = asN μ' c := by
  have e1 : asN (uR μ' r i v) c = asN μ' c := by
    show (if 39 = r ∧ c = i then v else μ'.2.1 39 c).toNatClampNeg = _
    rw [if_neg (fun a => n1 a.1.symm)]; rfl
  refine ⟨?_, e1⟩
  unfold akM
  rw [e1]
  have : ∀ d k, akF (uR μ' r i v) c d k = akF μ' c d k := by
    intro d
    induction d with
    | zero => intro k; rfl
    | succ d ih =>
      intro k
      have e44 : (uR μ' r i v).2.1 44 (40 * c + k) = μ'.2.1 44 (40 * c + k) := by
        show (if 44 = r ∧ 40 * c + k = i then v else μ'.2.1 44 (40 * c + k)) = _
        rw [if_neg (fun a => n2 a.1.symm)]
      rw [akF, akF, ih, e44]
  exact this _ _
theorem m_goes {n : Nat} (mw : MW h y ad μ) (hp : p < 40) (hc : c < 6) (hn : 1 ≤ n) (hn4 : n ≤ asN μ c) (cq : cqOK μ c) : EvV g P 142 [va_rf (some (y 12)), .int (nI p), .int (nI c), .int (nI n)] h (fun h' => MG y ad h h' ∧ MW h' y ad (goM μ p c n)) := by
  obtain ⟨e39, ha, hk⟩ := cq
  obtain ⟨k, hk6, ek⟩ := hk n hn hn4
  obtain ⟨d1, d2⟩ := dv8 hk6
  have ep : (nI p).toNatClampNeg = p := nI_clamp (by omega)
  have vp : ∀ {h : hpT} {a}, hN h a = 40 → vinD (nI p) (hN h a) := fun e => by rw [e]; exact vin_nI hp (by decide)
  refine e_142 (s_142_0 (k3 := mw.1.1) (e5 := mw.1.r48) (k6 := mw.1.k48) (i7 := vp mw.1.n48) (e9 := mw.1.r49) (k10 := mw.1.k49) (i11 := vp mw.1.n49) (e13 := mw.1.r50) (k14 := mw.1.k50) (i15 := vp mw.1.n50) (kk := ?_))
  rw [ep]
  have mw1 := mw.wA (r := 48) (i := p) (x := 0) rfl
  have g1 := mw.gA (e := 48) (i := p) (x := 0) rfl
  generalize hpA h (ad 48) p 0 = H1 at mw1 g1 ⊢
  have mw2 := mw1.wA (r := 49) (i := p) (x := nI c) rfl
  have g2 := mw1.gA (e := 49) (i := p) (x := nI c) rfl
  generalize hpA H1 (ad 49) p (nI c) = H2 at mw2 g2 ⊢
  have mw3 := mw2.wA (r := 50) (i := p) (x := nI n) rfl
  have g3 := mw2.gA (e := 50) (i := p) (x := nI n) rfl
  generalize hpA H2 (ad 50) p (nI n) = H3 at mw3 g3 ⊢
  have hlt : 40 * c + n - 1 < 240 := by omega
  have c41 : hA H3 (ad 41) ((40 * nI c + nI n) - 1).toNatClampNeg = kyM μ c n := by
    rw [ix40p c n hn, nI_clamp (by omega)]
    exact mw3.2.2.2.1 41 _ rfl
  have c13 : hA H3 (ad 13) (kyM μ c n / 8).toNatClampNeg = μ.2.1 13 (tbM μ c n) := mw3.2.2.2.1 13 _ rfl
  have mw4 : MW (hpA H3 (ad 51) (nI p).toNatClampNeg (μ.2.1 13 (tbM μ c n))) y ad (uR (uR (uR (uR μ 48 p 0) 49 p (nI c)) 50 p (nI n)) 51 p (μ.2.1 13 (tbM μ c n))) := by rw [ep]; exact mw3.wA rfl
  have g4 : MG y ad H3 (hpA H3 (ad 51) (nI p).toNatClampNeg (μ.2.1 13 (tbM μ c n))) := mw3.gA rfl
  have ea : akM (uR (uR (uR (uR μ 48 p 0) 49 p (nI c)) 50 p (nI n)) 51 p (μ.2.1 13 (tbM μ c n))) c = akM μ c ∧ asN (uR (uR (uR (uR μ 48 p 0) 49 p (nI c)) 50 p (nI n)) 51 p (μ.2.1 13 (tbM μ c n))) c = asN μ c := by
    refine ⟨?_, ?_⟩
    · rw [(ak_u (by decide) (by decide) _).1, (ak_u (by decide) (by decide) _).1, (ak_u (by decide) (by decide) _).1, (ak_u (by decide) (by decide) _).1]
    · rw [(ak_u (by decide) (by decide) _).2, (ak_u (by decide) (by decide) _).2, (ak_u (by decide) (by decide) _).2, (ak_u (by decide) (by decide) _).2]
  have hak := m_ackedOfM (g := g) (P := P) (c := c) mw4 hc (by rw [ea.2]; exact e39) (by rw [ea.2]; exact ha)
  rw [ea.1] at hak
  have hak' := hak
  rw [← c13] at hak'
  rw [← c41] at hak'
  refine s_142_21 (k3 := mw3.1.1) (e5 := mw3.1.r41) (k6 := mw3.1.k41) (i7 := by rw [ix40p c n hn, mw3.1.n41]; exact vin_nI hlt (by decide)) (e9 := mw3.1.r13) (k10 := mw3.1.k13) (i11 := by rw [c41, ek, d2, mw3.1.n13]; exact vin_nI (by omega) (by decide)) (e13 := mw3.1.r51) (k14 := mw3.1.k51) (i15 := vp mw3.1.n51) (hc := hak') (kk := fun h5 x' ⟨q1, q2⟩ => ?_)
  subst q1; subst q2
  rw [c41, c13]
  generalize hpA H3 (ad 51) (nI p).toNatClampNeg (μ.2.1 13 (tbM μ c n)) = H4 at mw4 g4 ⊢
  refine s_142_58 (e2 := mw3.1.r52) (k3 := mw4.1.k52) (i4 := vp mw4.1.n52) (hq := ?_)
  rw [ep]
  exact ⟨rfl, (((g1.jn g2).jn g3).jn g4).jn (mw4.gA rfl), mw4.wA rfl⟩
end MQ
