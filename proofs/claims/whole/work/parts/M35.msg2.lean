/-! the model: message -/
section MMs
variable {g : gcT} {P : pmT} {h h' h1 h2 : hpT} {y ad : Nat → Nat} {i j k n nm m e f c v p q d : Nat} {x x1 x2 x3 x4 : Int32} {μ μ' : mT}
theorem m_messageM (mw : MW h y ad μ) (ok : ∀ p, p < 40 → ¬ μ.2.1 48 p = -1 → MSh μ p) : EvI g P 154 [va_rf (some (y 12)), .int x1, .int x2] h (fun h' r => r = (mgM μ x1 x2).2 ∧ MG y ad h h' ∧ MW h' y ad (mgM μ x1 x2).1) := by
  refine e_154 (s_154_0 (k3 := mw.1.1) (hc := m_isMsg mw) (kk := fun h1 x' ⟨q1, q2⟩ => ?_))
  subst q1; subst q2
  generalize hr : mgM μ x1 x2 = res
  unfold mgM at hr
  have bad : (uN μ 4 1, (0 : Int32)) = res → Ev g P 154 22 [some (va_rf (some (y 12))), some (.int x1), some (.int x2)] [va_rf (some (y 12))] h1 (fun h' r => ∃ x, r = some (.int x) ∧ x = res.2 ∧ MG y ad h1 h' ∧ MW h' y ad res.1) := fun e => by
    subst e
    refine s_154_22 (s_154_23 (e2 := rfl) (k3 := mw.1.1) (e5 := rfl) (k6 := mw.1.1) (kk := ?_))
    have mw2 := mw.wN (k := 4) (f := 836) (x := 1) rfl (by decide) (by decide)
    have g2 := mw.gN (k := 4) (f := 836) (x := 1) rfl
    generalize hpI h1 836 (y 12) 1 = H2 at mw2 g2 ⊢
    have e4 : hI H2 836 (y 12) = 1 := mw2.n 4 (by decide) (by decide) rfl
    exact s_154_27 (e2 := rfl) (k3 := mw2.1.1) (kt := fun z => absurd z (by rw [e4]; decide)) (kf := fun _ => s_154_33 ⟨_, rfl, rfl, g2, mw2⟩)
  by_cases b1 : imM μ x1 = 0
  · rw [if_pos (Or.inl b1)] at hr
    exact s_154_6 (kt := fun _ => bad hr) (kf := fun z => absurd b1 z)
  · refine s_154_6 (kt := fun z => absurd z b1) (kf := fun _ => s_154_9 (hc := m_in) (kk := fun h2 x' ⟨q1, q2⟩ => ?_))
    subst q1; subst q2
    by_cases b2 : x2 < 0 ∨ 5 < x2
    · rw [if_pos (Or.inr b2)] at hr
      rw [if_pos b2]
      exact s_154_15 (kt := fun _ => bad hr) (kf := fun z => absurd rfl z)
    · rw [if_neg (fun a => a.elim b1 b2)] at hr
      rw [if_neg b2]
      refine s_154_15 (kt := fun z => absurd z (by decide)) (kf := fun _ => s_154_18 (s_154_23 (e2 := rfl) (k3 := mw.1.1) (e5 := rfl) (k6 := mw.1.1) (kk := ?_)))
      have mw2 := mw.wN (k := 4) (f := 836) (x := 0) rfl (by decide) (by decide)
      have g2 := mw.gN (k := 4) (f := 836) (x := 0) rfl
      generalize hpI h2 836 (y 12) 0 = H2 at mw2 g2 ⊢
      have e4 : hI H2 836 (y 12) = 0 := mw2.n 4 (by decide) (by decide) rfl
      obtain ⟨p, hp, ep1, nm⟩ := imM_n b1
      subst ep1
      have ep : (nI p).toNatClampNeg = p := nI_clamp (by omega)
      rw [ep] at hr
      obtain ⟨⟨e49, hc⟩, ⟨e50, hn1, hn⟩, -⟩ := ok p hp nm
      have vp : ∀ {h : hpT} {a}, hN h a = 40 → vinD (nI p) (hN h a) := fun e => by rw [e]; exact vin_nI hp (by decide)
      have rd : ∀ r, smR r = true → hA H2 (ad r) (nI p).toNatClampNeg = μ.2.1 r p := fun r q => by rw [ep]; exact mw2.2.2.2.1 r p q
      refine s_154_27 (e2 := rfl) (k3 := mw2.1.1) (kt := fun _ => ?_) (kf := fun z => absurd (by rw [e4]; decide) z)
      subst hr
      have fin : ∀ v, v = mg1 μ p x2 → ∃ x, some (Value.int v) = some (.int x) ∧ x = (uN μ 4 0, mg1 μ p x2).2 ∧ MG y ad h2 H2 ∧ MW H2 y ad (uN μ 4 0, mg1 μ p x2).1 := fun v e => ⟨_, rfl, e, g2, mw2⟩
      refine s_154_35 (k1000 := fun z => ?_) (k1001 := fun z => ?_) (k1002 := fun z => ?_) (k1003 := fun z => ?_) (k1004 := fun z => ?_) (kd := fun z => ?_)
      · exact s_154_72 (k3 := mw2.1.1) (e5 := mw2.1.r48) (k6 := mw2.1.k48) (i7 := vp mw2.1.n48) (hq := fin _ (by rw [rd 48 rfl]; unfold mg1; rw [if_pos z]))
      · exact s_154_79 (k3 := mw2.1.1) (e5 := mw2.1.r49) (k6 := mw2.1.k49) (i7 := vp mw2.1.n49) (hq := fin _ (by rw [rd 49 rfl]; subst z; rfl))
      · exact s_154_86 (k3 := mw2.1.1) (e5 := mw2.1.r50) (k6 := mw2.1.k50) (i7 := vp mw2.1.n50) (hq := fin _ (by rw [rd 50 rfl]; subst z; rfl))
      · subst z
        have e3 : mg1 μ p 3 = if μ.2.1 48 p = 0 then μ.2.1 51 p else -1 := rfl
        refine s_154_93 (k3 := mw2.1.1) (e5 := mw2.1.r48) (k6 := mw2.1.k48) (i7 := vp mw2.1.n48) (kt := fun z => s_154_111 (s_154_112 (fin _ ?_))) (kf := fun z => s_154_102 (k3 := mw2.1.1) (e5 := mw2.1.r51) (k6 := mw2.1.k51) (i7 := vp mw2.1.n51) (kk := s_154_112 (fin _ ?_)))
        · rw [rd 48 rfl] at z
          rw [e3, if_neg z]
        · rw [rd 48 rfl] at z
          rw [rd 51 rfl, e3, if_pos z]
      · subst z
        have e3 : mg1 μ p 4 = if μ.2.1 48 p = 1 then μ.2.1 53 p else -1 := rfl
        refine s_154_113 (k3 := mw2.1.1) (e5 := mw2.1.r48) (k6 := mw2.1.k48) (i7 := vp mw2.1.n48) (kt := fun z => s_154_132 (s_154_133 (fin _ ?_))) (kf := fun z => s_154_123 (k3 := mw2.1.1) (e5 := mw2.1.r53) (k6 := mw2.1.k53) (i7 := vp mw2.1.n53) (kk := s_154_133 (fin _ ?_)))
        · rw [rd 48 rfl] at z
          rw [e3, if_neg z]
        · rw [rd 48 rfl] at z
          rw [rd 53 rfl, e3, if_pos z]
      · have c49 : hA H2 (ad 49) (nI p).toNatClampNeg = nI (msC μ p) := (rd 49 rfl).trans e49
        have c50 : hA H2 (ad 50) (nI p).toNatClampNeg = nI (msN μ p) := (rd 50 rfl).trans e50
        have hlt : 40 * msC μ p + msN μ p - 1 < 240 := by omega
        have eqx : (40 : Int32) * nI (msC μ p) + nI (msN μ p) - 1 = nI (40 * msC μ p + msN μ p - 1) := ix40p _ _ hn1
        refine s_154_134 (k3 := mw2.1.1) (e5 := mw2.1.r49) (k6 := mw2.1.k49) (i7 := vp mw2.1.n49) (e9 := mw2.1.r50) (k10 := mw2.1.k50) (i11 := vp mw2.1.n50) (e13 := mw2.1.r40) (k14 := mw2.1.k40) (i15 := by rw [c49, c50, eqx, mw2.1.n40]; exact vin_nI hlt (by decide)) (hq := fin _ ?_)
        rw [c49, c50, eqx, nI_clamp (by omega), mw2.2.2.2.1 40 _ rfl]
        have n0 : ¬ x2 = 0 := fun q => by subst q; exact absurd z (by decide)
        have n1 : ¬ x2 = 1 := fun q => by subst q; exact absurd z (by decide)
        have n2 : ¬ x2 = 2 := fun q => by subst q; exact absurd z (by decide)
        have n3 : ¬ x2 = 3 := fun q => by subst q; exact absurd z (by decide)
        have n4 : ¬ x2 = 4 := fun q => by subst q; exact absurd z (by decide)
        unfold mg1
        rw [if_neg n0, if_neg n1, if_neg n2, if_neg n3, if_neg n4]
        rfl
end MMs
