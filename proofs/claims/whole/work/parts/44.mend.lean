/-! Storage.mend -/
def nmN (z : svT) : Nat := z.2.2.1.toNatClampNeg
def spS (up : Int32) (N sv : Nat) (z : svT) : Int32 := spR up (mskL z.2.2.2.2.2) N (nmN z) sv
def mdP (up : Int32) (N rep sv : Nat) (z : svT) : Bool := decide (¬ nI rep ≤ bcX (mskL z.2.2.2.2.2 &&& up)) && decide (¬ spS up N sv z = -1)
theorem spS_N {up : Int32} {N sv : Nat} {z : svT} (hN0 : 0 < N) (e : ¬ spS up N sv z = -1) : ∃ v, v < N ∧ spS up N sv z = nI v := by
  unfold spS spR at e ⊢
  cases hf : (List.range N).find? (spP up (mskL z.2.2.2.2.2) N (nmN z) sv) with
  | none => rw [hf] at e; exact absurd rfl e
  | some i => exact ⟨ringN N (nmN z) sv i, ringN_lt hN0, rfl⟩
section MEND
variable {g : gcT} {P : pmT} {N U rep sv a s e L nm0 : Nat} {zs : List svT} {up : Int32} {h : hpT}
/-- a HOLDER comes to a SEGMENT of the LOG -/
def mdD (h : hpT) (N U a : Nat) (z : svT) (v : Nat) (h' : hpT) : Prop := ∃ h1, (sgV h1 z.1 N U z.2.1 z.2.2.1 z.2.2.2.1 z.2.2.2.2.1 (z.2.2.2.2.2 ++ [(v, z.2.2.2.2.1.length)]) ∧ Ch (fun x => x = z.1 ∨ x = z.2.1.2.2.2.1 ∨ x = z.2.1.2.2.2.2) 0 0 h h1 ∧ (∀ f, ¬ f = 522 → ¬ f = 523 → hI h1 f z.1 = hI h f z.1) ∧ hR h1 = hR h) ∧ h' = hpI h1 651 a (hI h1 651 a + 1)
theorem m_mend (w : hWF h) (k : stV h a e N U rep up nm0) (ks : hK h s = 10) (hsv : hI h 576 s = nI sv) (hL : hR h 584 s = some L) (kl : lgF g h N U L zs) (hN0 : 0 < N) (hNb : N ≤ 30) (hsb : sv < N) (hnm : ∀ z ∈ zs, z.2.2.1 = nI (nmN z) ∧ nmN z ≤ 100000000) (hfull : ∀ z ∈ zs, mdP up N rep sv z = true → z.2.2.2.2.2.length < N) : EvV g P 53 [va_rf (some a), va_rf (some s)] h (fun h' => (zs.find? (mdP up N rep sv) = none ∧ h' = h) ∨ ∃ z v, zs.find? (mdP up N rep sv) = some z ∧ spS up N sv z = nI v ∧ v < N ∧ mdD h N U a z v h') := by
  have kz : ∀ z ∈ zs, sgX h N U z := fun z hz => (kl.2.choose_spec.2.2 z hz).1
  obtain ⟨j1, j2, l, j3, j4, hsz, hgt⟩ := kl.calls (P := P)
  have k0 := k
  obtain ⟨k1, k2, k3, k4, k5, k6, k7, k8⟩ := k
  refine e_53 (s_53_0 ?_)
  have lp := find_loop zs (mdP up N rep sv) (fun i => ∀ o3 o4 : Option Value, Ev g P 53 2 [some (va_rf (some a)), some (va_rf (some s)), some (.int (nI i)), o3, o4] [] h (fun h' r => r = none ∧ ((zs.find? (mdP up N rep sv) = none ∧ h' = h) ∨ ∃ z v, zs.find? (mdP up N rep sv) = some z ∧ spS up N sv z = nI v ∧ v < N ∧ mdD h N U a z v h'))) (fun z => zs.find? (mdP up N rep sv) = some z) ?_ ?_ (fun _ e => e) ?_
  · rw [nI_0] at lp; exact lp none none
  · intro i hi hp hf o3 o4
    have hz := List.getElem_mem hi
    have kzi := kz _ hz
    have k9 := kzi.1.1
    have hm : hI h 523 zs[i].1 = mskL zs[i].2.2.2.2.2 := kzi.2.2.2.2.2.2.1
    have hfl := hfull _ hz hp
    have hp' : ¬ nI rep ≤ bcX (mskL zs[i].2.2.2.2.2 &&& up) ∧ ¬ spS up N sv zs[i] = -1 := by
      unfold mdP at hp
      simpa only [Bool.and_eq_true, decide_eq_true_eq] using hp
    obtain ⟨v, hv, ev⟩ := spS_N hN0 hp'.2
    refine s_53_2 (k3 := ks) (e5 := hL) (k6 := j1) (e8 := j3) (k9 := j4) (hc := hsz) (kk := fun h1 x ⟨e1, e2⟩ => ?_)
    subst e1; subst e2
    refine s_53_13 (kt := fun q => absurd q (nI_ge hi j2)) (kf := fun _ => ?_)
    refine s_53_16 (k3 := ks) (e5 := hL) (k6 := j1) (e8 := j3) (k9 := j4) (hc := hgt i hi) (kk := fun h2 x ⟨e1, e2⟩ => ?_)
    subst e1; subst e2
    have hbc : EvI g P 183 [.int ((hI h2 523 zs[i].1) &&& (hI h2 646 a))] h2 (fun h' r => h' = h2 ∧ r = bcX (mskL zs[i].2.2.2.2.2 &&& up)) := by rw [hm, k7]; exact m_bitCount
    refine s_53_27 (c1 := fun b eb => by cases eb; exact k9) (k4 := k9) (k7 := k1) (hc := hbc) (kk := fun h3 x ⟨e1, e2⟩ => ?_)
    subst e1; subst e2
    refine s_53_43 (k3 := k1) (kt := fun q => absurd (by rw [k5] at q; exact q) hp'.1) (kf := fun _ => ?_)
    have hsp : EvI g P 54 [va_rf (some a), va_rf (some zs[i].1), va_rf (some s)] h3 (fun h' r => h' = h3 ∧ r = spS up N sv zs[i]) := by
      have := m_spareFor (g := g) (P := P) (Or.inr ⟨nm0, k0⟩) ks hsv k9 (kzi.2.1.trans (hnm _ hz).1) hN0 hNb (hnm _ hz).2 hsb
      rw [hm] at this
      exact this
    refine s_53_50 (k3 := k1) (hc := hsp) (kk := fun h4 x ⟨e1, e2⟩ => ?_)
    subst e1; subst e2
    refine s_53_56 (kt := fun q => absurd q hp'.2) (kf := fun _ => ?_)
    rw [ev]
    refine s_53_64 (k3 := k9) (hc := m_addHolder w kzi hv hfl) (kk := fun h5 y => ?_)
    have ka5 : hK h5 a = 11 := by rw [(y.2.1.2.1 a (w.lt (by omega))).1]; exact k1
    exact s_53_70 (k3 := ka5) (hq := ⟨rfl, Or.inr ⟨zs[i], v, hf, ev, hv, h5, y, rfl⟩⟩)
  · intro i hi hp kn o3 o4
    have hz := List.getElem_mem hi
    have kzi := kz _ hz
    have k9 := kzi.1.1
    have hm : hI h 523 zs[i].1 = mskL zs[i].2.2.2.2.2 := kzi.2.2.2.2.2.2.1
    have hp' : ¬ (¬ nI rep ≤ bcX (mskL zs[i].2.2.2.2.2 &&& up) ∧ ¬ spS up N sv zs[i] = -1) := by
      intro q
      unfold mdP at hp
      rw [decide_eq_true q.1, decide_eq_true q.2] at hp
      cases hp
    refine s_53_2 (k3 := ks) (e5 := hL) (k6 := j1) (e8 := j3) (k9 := j4) (hc := hsz) (kk := fun h1 x ⟨e1, e2⟩ => ?_)
    subst e1; subst e2
    refine s_53_13 (kt := fun q => absurd q (nI_ge hi j2)) (kf := fun _ => ?_)
    refine s_53_16 (k3 := ks) (e5 := hL) (k6 := j1) (e8 := j3) (k9 := j4) (hc := hgt i hi) (kk := fun h2 x ⟨e1, e2⟩ => ?_)
    subst e1; subst e2
    have hbc : EvI g P 183 [.int ((hI h2 523 zs[i].1) &&& (hI h2 646 a))] h2 (fun h' r => h' = h2 ∧ r = bcX (mskL zs[i].2.2.2.2.2 &&& up)) := by rw [hm, k7]; exact m_bitCount
    refine s_53_27 (c1 := fun b eb => by cases eb; exact k9) (k4 := k9) (k7 := k1) (hc := hbc) (kk := fun h3 x ⟨e1, e2⟩ => ?_)
    subst e1; subst e2
    refine s_53_43 (k3 := k1) (kt := fun _ => s_53_81 (by rw [nI_1]; exact kn _ _)) (kf := fun q1 => ?_)
    rw [k5] at q1
    have hsp : EvI g P 54 [va_rf (some a), va_rf (some zs[i].1), va_rf (some s)] h3 (fun h' r => h' = h3 ∧ r = spS up N sv zs[i]) := by
      have := m_spareFor (g := g) (P := P) (Or.inr ⟨nm0, k0⟩) ks hsv k9 (kzi.2.1.trans (hnm _ hz).1) hN0 hNb (hnm _ hz).2 hsb
      rw [hm] at this
      exact this
    refine s_53_50 (k3 := k1) (hc := hsp) (kk := fun h4 x ⟨e1, e2⟩ => ?_)
    subst e1; subst e2
    exact s_53_56 (kt := fun _ => s_53_81 (by rw [nI_1]; exact kn _ _)) (kf := fun q2 => absurd ⟨q1, q2⟩ hp')
  · intro hn o3 o4
    refine s_53_2 (k3 := ks) (e5 := hL) (k6 := j1) (e8 := j3) (k9 := j4) (hc := hsz) (kk := fun h1 x ⟨e1, e2⟩ => ?_)
    subst e1; subst e2
    exact s_53_13 (kt := fun _ => s_53_87 ⟨rfl, Or.inl ⟨hn, rfl⟩⟩) (kf := fun q => absurd (nI_le (Nat.le_refl _) j2) q)
end MEND
