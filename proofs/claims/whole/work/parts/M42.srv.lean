/-! the model: server -/
def sv1 (μ : mT) (m : Nat) (x : Int32) : Int32 := if x = 0 then μ.2.1 5 m else if x = 1 then (if μ.2.1 6 m = 0 then 0 else 1) else if x = 2 then nI (otM μ m 8) else if x = 3 then μ.2.1 9 m else if x = 4 then nI (sgN μ.1 (nI m)) else if x = 5 ∨ x = 6 ∨ x = 7 ∨ x = 8 then smW (smM μ (nI m) (μ.2.2 2)) x else if x = 9 then μ.2.1 12 m else if x = 10 then μ.2.1 11 m else if x = 11 then (if μ.2.1 10 m = -1 then -1 else nI (lNm (μ.1.getD (hdI μ m) sl0))) else -1
def svM (y : Nat → Nat) (μ : mT) (x1 x2 : Int32) : Int32 := if isM y x1 = 0 then -1 else sv1 μ x1.toNatClampNeg x2
section MSv
variable {g : gcT} {P : pmT} {h h' h1 h2 : hpT} {y ad : Nat → Nat} {i j k n nm m e f c v p q d : Nat} {x x1 x2 x3 x4 : Int32} {μ μ' : mT}
theorem m_serverM (mw : MW h y ad μ) (mk : MK0 y (sn0 μ)) (ho : ∀ m, m < y 20 → hdOK (sn0 μ) m) : EvI g P 179 [va_rf (some (y 12)), .int x1, .int x2] h (fun h' r => r = svM y (sn0 μ) x1 x2 ∧ MG y ad h h' ∧ MW h' y ad (sn0 μ)) := by
  have mw0 : MW (hpI h 836 (y 12) 0) y ad (sn0 μ) := mw.wN (k := 4) rfl (by decide) (by decide)
  have g0 : MG y ad h (hpI h 836 (y 12) 0) := mw.gN (k := 4) rfl
  refine e_179 (s_179_0 (k3 := mw.1.1) (hc := m_isSrvM mw0 mk) (kk := fun h1 x' ⟨q1, q2⟩ => ?_))
  subst q1; subst q2
  generalize hpI h 836 (y 12) 0 = H0 at mw0 g0 ⊢
  generalize sn0 μ = μ at mw0 mk ho ⊢
  unfold svM
  by_cases q : isM y x1 = 0
  · rw [if_pos q]
    exact s_179_10 (kt := fun z => absurd q z) (kf := fun _ => s_179_13 ⟨_, rfl, rfl, g0, mw0⟩)
  · rw [if_neg q]
    obtain ⟨m, hm, em1⟩ := isM_n mk.1.1 q
    subst em1
    have y8 := mk.1.1.2
    have l6 := mw0.2.2.1.2.1
    have em : (nI m).toNatClampNeg = m := nI_clamp (by omega)
    rw [em]
    have v8 : ∀ {h : hpT} {a}, hN h a = 8 → vinD (nI m) (hN h a) := fun e => by rw [e]; exact vin_nI (by omega) (by decide)
    have rd : ∀ r, smR r = true → hA H0 (ad r) (nI m).toNatClampNeg = μ.2.1 r m := fun r q => by rw [em]; exact mw0.2.2.2.1 r m q
    refine s_179_10 (kt := fun _ => ?_) (kf := fun z => absurd z q)
    have sm : ∀ w, (w = 5 ∨ w = 6 ∨ w = 7 ∨ w = 8) → smW (smM μ (nI m) (μ.2.2 2)) w = sv1 μ m w := fun w hw => by
      rcases hw with e | e | e | e <;> (subst e; rfl)
    have sumw : (x2 = 5 ∨ x2 = 6 ∨ x2 = 7 ∨ x2 = 8) → Ev g P 179 121 [some (va_rf (some (y 12))), some (.int (nI m)), some (.int x2)] [] H0 (fun h' r => ∃ x, r = some (.int x) ∧ x = sv1 μ m x2 ∧ MG y ad h h' ∧ MW h' y ad μ) := fun hw =>
      s_179_121 (k3 := mw0.1.1) (hc := m_sumM mw0) (kk := fun h1 x' ⟨q1, q2⟩ => by subst q1; exact s_179_127 ⟨_, rfl, q2.trans (sm x2 hw), g0, mw0⟩)
    refine s_179_15 (k1000 := fun z => ?_) (k1001 := fun z => ?_) (k1002 := fun z => ?_) (k1003 := fun z => ?_) (k1004 := fun z => ?_) (k1005 := fun z => sumw (Or.inl z)) (k1006 := fun z => sumw (Or.inr (Or.inl z))) (k1007 := fun z => sumw (Or.inr (Or.inr (Or.inl z)))) (k1008 := fun z => sumw (Or.inr (Or.inr (Or.inr z)))) (k1009 := fun z => ?_) (k1010 := fun z => ?_) (k1011 := fun z => ?_) (kd := fun z => ?_)
    · subst z; exact s_179_80 (k3 := mw0.1.1) (e5 := mw0.1.r5) (k6 := mw0.1.k5) (i7 := v8 mw0.1.n5) (hq := ⟨_, rfl, rd 5 rfl, g0, mw0⟩)
    · subst z
      have e : sv1 μ m 1 = if μ.2.1 6 m = 0 then 0 else 1 := rfl
      refine s_179_87 (k3 := mw0.1.1) (e5 := mw0.1.r6) (k6 := mw0.1.k6) (i7 := v8 mw0.1.n6) (kt := fun z => s_179_100 (s_179_101 ⟨_, rfl, ?_, g0, mw0⟩)) (kf := fun z => s_179_96 (s_179_101 ⟨_, rfl, ?_, g0, mw0⟩))
      · rw [rd 6 rfl] at z; rw [e, if_pos z]
      · rw [rd 6 rfl] at z; rw [e, if_neg z]
    · subst z
      exact s_179_102 (k3 := mw0.1.1) (hc := m_ownTab (n8 := 8) rfl mw0 (by omega)) (kk := fun h1 x' ⟨q1, q2⟩ => by subst q1; exact s_179_107 ⟨_, rfl, q2, g0, mw0⟩)
    · subst z; exact s_179_108 (k3 := mw0.1.1) (e5 := mw0.1.r9) (k6 := mw0.1.k9) (i7 := v8 mw0.1.n9) (hq := ⟨_, rfl, rd 9 rfl, g0, mw0⟩)
    · subst z
      exact s_179_115 (k3 := mw0.1.1) (hc := m_segsOf mw0.1 mw0.2.2.1) (kk := fun h1 x' ⟨q1, q2⟩ => by subst q1; exact s_179_120 ⟨_, rfl, q2, g0, mw0⟩)
    · subst z; exact s_179_128 (k3 := mw0.1.1) (e5 := mw0.1.r12) (k6 := mw0.1.k12) (i7 := v8 mw0.1.n12) (hq := ⟨_, rfl, rd 12 rfl, g0, mw0⟩)
    · subst z; exact s_179_135 (k3 := mw0.1.1) (e5 := mw0.1.r11) (k6 := mw0.1.k11) (i7 := v8 mw0.1.n11) (hq := ⟨_, rfl, rd 11 rfl, g0, mw0⟩)
    · subst z
      have e : sv1 μ m 11 = if μ.2.1 10 m = -1 then -1 else nI (lNm (μ.1.getD (hdI μ m) sl0)) := rfl
      refine s_179_142 (k3 := mw0.1.1) (e5 := mw0.1.r10) (k6 := mw0.1.k10) (i7 := v8 mw0.1.n10) (kt := fun z => ?_) (kf := fun z => s_179_152 (s_179_167 ⟨_, rfl, ?_, g0, mw0⟩))
      · rw [rd 10 rfl] at z
        obtain ⟨k, hk, ek⟩ := (ho m hm).resolve_left z
        have ekk : (nI k).toNatClampNeg = k := nI_clamp (by omega)
        refine s_179_156 (k3 := mw0.1.1) (e5 := mw0.1.r10) (k6 := mw0.1.k10) (i7 := v8 mw0.1.n10) (e9 := mw0.1.r25) (k10 := mw0.1.k25) (i11 := by rw [rd 10 rfl, ek, mw0.1.n25]; exact vin_nI (by omega) (by decide)) (kk := s_179_167 ⟨_, rfl, ?_, g0, mw0⟩)
        rw [rd 10 rfl, e, if_neg z]
        unfold hdI
        rw [ek, ekk]
        exact (mw0.2.2.1.s hk).1.2.1
      · rw [rd 10 rfl] at z; rw [e, if_pos z]
    · refine s_179_168 ⟨_, rfl, ?_, g0, mw0⟩
      have nz : ∀ k : Int32, (¬ (k.toInt < 0 ∨ 11 < k.toInt)) → ¬ x2 = k := fun k hk q => by subst q; exact hk z
      unfold sv1
      rw [if_neg (nz 0 (by decide)), if_neg (nz 1 (by decide)), if_neg (nz 2 (by decide)), if_neg (nz 3 (by decide)), if_neg (nz 4 (by decide)), if_neg (fun a => by rcases a with a | a | a | a; exact nz 5 (by decide) a; exact nz 6 (by decide) a; exact nz 7 (by decide) a; exact nz 8 (by decide) a), if_neg (nz 9 (by decide)), if_neg (nz 10 (by decide)), if_neg (nz 11 (by decide))]
end MSv
