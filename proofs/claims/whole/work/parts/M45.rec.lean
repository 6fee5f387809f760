/-! the model: takesOver, recovers -/
section MV3
variable {g : gcT} {P : pmT} {h h' h1 h2 : hpT} {y ad : Nat → Nat} {T T' : List slT} {i j k nm m e f c t v d : Nat} {x x1 x2 x3 x4 x5 x6 xr : Int32} {A : Nat → Nat → Prop} {I : Nat → Prop} {μ : mT} {Q : hpT → Option Value → Prop} {en : enT}
theorem clN_lt (x : Int32) : x.toNatClampNeg < 2 ^ 31 := by
  have e : x.toNatClampNeg = x.toInt.toNat := rfl
  have := x.toInt_lt
  omega
theorem tov_c {n6 : Nat} (h6 : n6 = 6) (hm : m < y 20) (ok : ∀ j i, j < 6 → i < (toL ((List.range j).foldl (toC y m x t) μ) x j).length → ApK y (((toL ((List.range j).foldl (toC y m x t) μ) x j).take i).foldl (toR y m x t j) ((List.range j).foldl (toC y m x t) μ)) m) (mw : MW h y ad μ) (kk : ∀ h' x5 o6 o7 o8, MG y ad h h' → MW h' y ad ((List.range n6).foldl (toC y m x t) μ) → Ev g P 171 279 [some (va_rf (some (y 12))), some (.int (nI m)), some (.int (nI t)), some (.int x), some (.int x4), some (.int x5), o6, o7, o8] [] h' Q) : ∀ o6 o7 o8, Ev g P 171 192 [some (va_rf (some (y 12))), some (.int (nI m)), some (.int (nI t)), some (.int x), some (.int x4), some (.int 0), o6, o7, o8] [] h Q := by
  have e6 : (6 : Int32) = nI n6 := by rw [h6]; rfl
  have lp := cnt_loop n6 (fun j h1 => MG y ad h h1 ∧ MW h1 y ad ((List.range j).foldl (toC y m x t) μ)) (fun j h1 => ∀ o6 o7 o8, Ev g P 171 192 [some (va_rf (some (y 12))), some (.int (nI m)), some (.int (nI t)), some (.int x), some (.int x4), some (.int (nI j)), o6, o7, o8] [] h1 Q) ?_ ?_ h ⟨MF.rf mw.2.1, mw⟩
  · rw [nI_0] at lp; exact lp
  · intro j h1 hj ⟨ga, mw1⟩ kn o6 o7 o8
    have aj := fun i => ok j i (by omega)
    rw [rfl_s] at kn
    generalize (List.range j).foldl (toC y m x t) μ = ν at mw1 kn aj
    refine s_171_192 (kt := fun z => absurd z (by rw [e6]; exact nI_ge hj (by omega))) (kf := fun _ => s_171_199 (k3 := mw1.1.1) (hc := m_acM mw1) (kk := fun h2 x' ⟨q1, q2⟩ => s_171_206 ?_))
    subst q1; subst q2
    have eb := nI_back (x := acM ν x (nI j)) (Int32.le_trans (by decide) acM_ge)
    have lt := clN_lt (acM ν x (nI j))
    unfold toL at aj
    have eC : toC y m x t ν j = (List.range' (acM ν x (nI j)).toNatClampNeg (41 - (acM ν x (nI j)).toNatClampNeg)).foldl (toR y m x t j) ν := rfl
    rw [eC] at kn
    rw [eb]
    generalize (acM ν x (nI j)).toNatClampNeg = a at lt aj kn ⊢
    refine tov_r (n40 := 40) rfl hm rfl lt (fun i hi => aj i (by rw [List.length_range']; exact hi)) mw1 (fun h3 x6 o7 o8 gb mw3 => s_171_273 ?_) _ _
    rw [nI_1]
    exact kn h3 ⟨ga.jn gb, mw3⟩ _ _ _
  · intro h1 ⟨ga, mw1⟩ o6 o7 o8
    exact s_171_192 (kt := fun _ => kk h1 _ _ _ _ ga mw1) (kf := fun z => absurd (by rw [e6]; exact nI_le (Nat.le_refl _) (by omega)) z)
theorem m_takesOver (mw : MW h y ad μ) (hm : m < y 20) (ht : t < 8) (ok : toOK y μ m t x) : EvV g P 171 [va_rf (some (y 12)), .int (nI m), .int (nI t), .int x] h (fun h' => MG y ad h h' ∧ MW h' y ad (tovM y μ m t x)) := by
  obtain ⟨ok0, ok1, ok2, ok3⟩ := ok
  have y8 := ok0.1.1.1.2
  have em : (nI m).toNatClampNeg = m := nI_clamp (by omega)
  have et : (nI t).toNatClampNeg = t := nI_clamp (by omega)
  have hlt : 8 * m + t < 64 := by omega
  have v8 : ∀ {h : hpT} {a}, hN h a = 8 → vinD (nI m) (hN h a) := fun e => by rw [e]; exact vin_nI (by omega) (by decide)
  have mw1 := mw.wA (r := 13) (i := t) (x := nI m) rfl
  have g1 := mw.gA (e := 13) (i := t) (x := nI m) rfl
  have mw2 := mw1.wA (r := 7) (i := 8 * m + t) (x := 1) rfl
  have g2 := mw1.gA (e := 7) (i := 8 * m + t) (x := 1) rfl
  have mw2 : MW _ y ad (toO μ m t) := mw2
  have go : ∀ H v4 o5 o6 o7 o8, MG y ad h H → MW H y ad (to1 y (toO μ m t) m x) → Ev g P 171 53 [some (va_rf (some (y 12))), some (.int (nI m)), some (.int (nI t)), some (.int x), some (.int v4), o5, o6, o7, o8] [] H (fun h' r => r = none ∧ MG y ad h h' ∧ MW h' y ad (tovM y μ m t x)) := by
    intro H v4 o5 o6 o7 o8 ga mwa
    refine s_171_53 (tov_n (n6 := 6) rfl hm ok1 mwa (fun h3 x5 o6 o7 o8 gb mwb => s_171_131 ?_) _ _ _)
    have e8 : (8 : Int32) * nI t = nI (8 * t) := by rw [show (8 : Int32) = nI 8 from rfl, pk_mul]
    rw [e8]
    refine tov_b (n8 := 8) rfl hm ht ok2 mwb (fun h4 x5 o6 o7 o8 gc mwc => s_171_189 ?_) _ _ _
    exact tov_c (n6 := 6) rfl hm ok3 mwc (fun h5 x5 o6 o7 o8 gd mwd => s_171_279 ⟨rfl, ((ga.jn gb).jn gc).jn gd, mwd⟩) _ _ _
  refine e_171 (s_171_0 (k3 := mw.1.1) (e5 := mw.1.r13) (k6 := mw.1.k13) (i7 := by rw [mw.1.n13]; exact vin_nI ht (by decide)) (e9 := mw.1.r7) (k10 := mw.1.k7) (i11 := by rw [ix8M, mw.1.n7]; exact vin_nI hlt (by decide)) (Q1 := fun h' r => h' = hpA (hpA h (ad 13) t (nI m)) (ad 7) (8 * m + t) 1 ∧ r = grM (toO μ m t) x) (hc := by rw [et, ix8M, nI_clamp (by omega)]; exact m_grM mw2) (kk := fun h3 x' ⟨q1, q2⟩ => ?_))
  subst q2
  have ga : MG y ad h h3 := by rw [q1]; exact g1.jn g2
  rw [← q1] at mw2
  clear q1
  have e9 : hA h3 (ad 9) (nI m).toNatClampNeg = (toO μ m t).2.1 9 m := by rw [em]; exact mw2.2.2.2.1 9 m rfl
  refine s_171_24 (k3 := mw2.1.1) (e5 := mw2.1.r9) (k6 := mw2.1.k9) (i7 := v8 mw2.1.n9) (kt := fun z => ?_) (kf := fun z => ?_)
  · rw [e9] at z
    have e1 : to1 y (toO μ m t) m x = toO μ m t := by unfold to1; rw [if_pos z]
    exact go h3 _ _ _ _ _ ga (by rw [e1]; exact mw2)
  · rw [e9] at z
    have e1 : to1 y (toO μ m t) m x = (opnM y (uR (toO μ m t) 9 m (grM (toO μ m t) x)) m 1).1 := by unfold to1; rw [if_neg z]
    have mw3 := mw2.wA (r := 9) (i := m) (x := grM (toO μ m t) x) rfl
    have g3 := mw2.gA (e := 9) (i := m) (x := grM (toO μ m t) x) rfl
    obtain ⟨a1, a2, a3, a4, -⟩ := ok0
    refine s_171_37 (k3 := mw2.1.1) (e5 := mw2.1.r9) (k6 := mw2.1.k9) (i7 := v8 mw2.1.n9) (Q1 := fun h' r => r = (opnM y (uR (toO μ m t) 9 m (grM (toO μ m t) x)) m 1).2 ∧ MF y ad AO IO (hpA h3 (ad 9) m (grM (toO μ m t) x)) h' ∧ MW h' y ad (opnM y (uR (toO μ m t) 9 m (grM (toO μ m t) x)) m 1).1) (hc := by rw [em]; exact m_opens mw3 a1 hm a2 a3 (Nat.lt_of_lt_of_le a4 (by decide))) (kk := fun h4 x' ⟨q1, q2, q3⟩ => s_171_51 ?_)
    exact go h4 _ _ _ _ _ ((ga.jn g3).jn q2.gl) (by rw [e1]; exact q3)
end MV3
