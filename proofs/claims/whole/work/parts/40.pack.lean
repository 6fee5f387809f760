/-! bitCount; endOfPacked, spareFor, canRecover -/
def bcX (x0 : Int32) : Int32 := ((((((((x0 - (((x0.toUInt32 >>> (Int32.toUInt32 1 &&& Int32.toUInt32 31)).toInt32) &&& 1431655765)) &&& 858993459) + ((((x0 - (((x0.toUInt32 >>> (Int32.toUInt32 1 &&& Int32.toUInt32 31)).toInt32) &&& 1431655765)).toUInt32 >>> (Int32.toUInt32 2 &&& Int32.toUInt32 31)).toInt32) &&& 858993459)) + (((((x0 - (((x0.toUInt32 >>> (Int32.toUInt32 1 &&& Int32.toUInt32 31)).toInt32) &&& 1431655765)) &&& 858993459) + ((((x0 - (((x0.toUInt32 >>> (Int32.toUInt32 1 &&& Int32.toUInt32 31)).toInt32) &&& 1431655765)).toUInt32 >>> (Int32.toUInt32 2 &&& Int32.toUInt32 31)).toInt32) &&& 858993459)).toUInt32 >>> (Int32.toUInt32 4 &&& Int32.toUInt32 31)).toInt32)) &&& 252645135) + (((((((x0 - (((x0.toUInt32 >>> (Int32.toUInt32 1 &&& Int32.toUInt32 31)).toInt32) &&& 1431655765)) &&& 858993459) + ((((x0 - (((x0.toUInt32 >>> (Int32.toUInt32 1 &&& Int32.toUInt32 31)).toInt32) &&& 1431655765)).toUInt32 >>> (Int32.toUInt32 2 &&& Int32.toUInt32 31)).toInt32) &&& 858993459)) + (((((x0 - (((x0.toUInt32 >>> (Int32.toUInt32 1 &&& Int32.toUInt32 31)).toInt32) &&& 1431655765)) &&& 858993459) + ((((x0 - (((x0.toUInt32 >>> (Int32.toUInt32 1 &&& Int32.toUInt32 31)).toInt32) &&& 1431655765)).toUInt32 >>> (Int32.toUInt32 2 &&& Int32.toUInt32 31)).toInt32) &&& 858993459)).toUInt32 >>> (Int32.toUInt32 4 &&& Int32.toUInt32 31)).toInt32)) &&& 252645135).toUInt32 >>> (Int32.toUInt32 8 &&& Int32.toUInt32 31)).toInt32)) + ((((((((x0 - (((x0.toUInt32 >>> (Int32.toUInt32 1 &&& Int32.toUInt32 31)).toInt32) &&& 1431655765)) &&& 858993459) + ((((x0 - (((x0.toUInt32 >>> (Int32.toUInt32 1 &&& Int32.toUInt32 31)).toInt32) &&& 1431655765)).toUInt32 >>> (Int32.toUInt32 2 &&& Int32.toUInt32 31)).toInt32) &&& 858993459)) + (((((x0 - (((x0.toUInt32 >>> (Int32.toUInt32 1 &&& Int32.toUInt32 31)).toInt32) &&& 1431655765)) &&& 858993459) + ((((x0 - (((x0.toUInt32 >>> (Int32.toUInt32 1 &&& Int32.toUInt32 31)).toInt32) &&& 1431655765)).toUInt32 >>> (Int32.toUInt32 2 &&& Int32.toUInt32 31)).toInt32) &&& 858993459)).toUInt32 >>> (Int32.toUInt32 4 &&& Int32.toUInt32 31)).toInt32)) &&& 252645135) + (((((((x0 - (((x0.toUInt32 >>> (Int32.toUInt32 1 &&& Int32.toUInt32 31)).toInt32) &&& 1431655765)) &&& 858993459) + ((((x0 - (((x0.toUInt32 >>> (Int32.toUInt32 1 &&& Int32.toUInt32 31)).toInt32) &&& 1431655765)).toUInt32 >>> (Int32.toUInt32 2 &&& Int32.toUInt32 31)).toInt32) &&& 858993459)) + (((((x0 - (((x0.toUInt32 >>> (Int32.toUInt32 1 &&& Int32.toUInt32 31)).toInt32) &&& 1431655765)) &&& 858993459) + ((((x0 - (((x0.toUInt32 >>> (Int32.toUInt32 1 &&& Int32.toUInt32 31)).toInt32) &&& 1431655765)).toUInt32 >>> (Int32.toUInt32 2 &&& Int32.toUInt32 31)).toInt32) &&& 858993459)).toUInt32 >>> (Int32.toUInt32 4 &&& Int32.toUInt32 31)).toInt32)) &&& 252645135).toUInt32 >>> (Int32.toUInt32 8 &&& Int32.toUInt32 31)).toInt32)).toUInt32 >>> (Int32.toUInt32 16 &&& Int32.toUInt32 31)).toInt32)) &&& 63)
def popN (m : Nat) : Nat := (List.range 8).foldl (fun t i => t + (m >>> i) % 2) 0
theorem bcX_N : ∀ m, m < 256 → bcX (nI m) = nI (popN m) := by decide +kernel
def epN (h : hpT) (U : Int32) : List Nat → Nat → Int32 → Nat
  | [], i, _ => i
  | x :: xs, i, t => if t + hI h 521 x ≤ U then epN h U xs (i + 1) (t + hI h 521 x) else i
def spP (up mask : Int32) (N nm sv i : Nat) : Bool := decide (¬ ringN N nm sv i = sv) && decide (shrB up (nI (ringN N nm sv i)) = 1) && decide (shrB mask (nI (ringN N nm sv i)) = 0)
def spR (up mask : Int32) (N nm sv : Nat) : Int32 := match (List.range N).find? (spP up mask N nm sv) with
  | some i => nI (ringN N nm sv i)
  | none => -1
section PACK
variable {g : gcT} {P : pmT} {N U rep nm sv a s e : Nat} {up : Int32} {h : hpT}
theorem m_bitCount {x : Int32} : EvI g P 183 [.int x] h (fun h' r => h' = h ∧ r = bcX x) := e_183 (s_183_0 ⟨_, rfl, rfl, rfl⟩)
theorem m_endOfPacked {l i0 : Nat} {xs : List Nat} (ka : hK h a = 11) (hl : hR h 645 a = some l) (kl : tLs g h 8 l xs) (hi0 : i0 ≤ xs.length) : EvI g P 50 [va_rf (some a), .int (nI i0)] h (fun h' r => h' = h ∧ r = nI (epN h (hI h 641 a) (xs.drop i0) i0 0)) := by
  have hlen := kl.1.len
  have kl1 := kl.1.1
  have hsz : EvI g P 191 [va_rf (hR h 645 a)] h (fun h' r => h' = h ∧ r = nI xs.length) := by rw [hl]; exact m_size kl.1
  have hgt : ∀ i (hi : i < xs.length), EvA g P 193 [va_rf (hR h 645 a), .int (nI i)] h (fun h' r => h' = h ∧ r = some xs[i]) := fun i hi => by rw [hl]; exact m_get kl.1 hi
  refine e_50 (s_50_0 ?_)
  have lp : ∀ d i (t : Int32), i + d = xs.length → Ev g P 50 4 [some (va_rf (some a)), some (.int (nI i0)), some (.int t), some (.int (nI i))] [] h (fun h' r => ∃ x, r = some (.int x) ∧ h' = h ∧ x = nI (epN h (hI h 641 a) (xs.drop i) i t)) := by
    intro d
    induction d with
    | zero =>
      intro i t hi
      refine s_50_4 (hc := hsz) (kk := fun h' x ⟨e1, e2⟩ => ?_)
      subst e1; subst e2
      refine s_50_12 (kt := fun _ => s_50_48 (hc := hsz) (kk := fun h' x ⟨e1, e2⟩ => ?_)) (kf := fun z => absurd (nI_le (by omega) (by omega)) z)
      subst e1; subst e2
      refine s_50_55 ⟨_, rfl, rfl, ?_⟩
      rw [List.drop_eq_nil_of_le (by omega), show xs.length = i from by omega]
      rfl
    | succ d ih =>
      intro i t hi
      have hix : i < xs.length := by omega
      refine s_50_4 (hc := hsz) (kk := fun h' x ⟨e1, e2⟩ => ?_)
      subst e1; subst e2
      refine s_50_12 (kt := fun z => absurd z (nI_ge hix (by omega))) (kf := fun _ => ?_)
      refine s_50_15 (hc := hgt i hix) (kk := fun h' x ⟨e1, e2⟩ => ?_)
      subst e1; subst e2
      have k9 := kl.2.2 _ (List.getElem_mem hix)
      rw [drop_cons hix]
      refine s_50_24 (c1 := fun b eb => by cases eb; exact k9) (k4 := k9) (kt := fun z => s_50_42 ?_) (kf := fun z => s_50_40 ⟨_, rfl, rfl, ?_⟩)
      · rw [nI_1]
        have := ih (i + 1) (t + hI h' 521 xs[i]) (by omega)
        rw [show epN h' (hI h' 641 a) (xs[i] :: xs.drop (i + 1)) i t = epN h' (hI h' 641 a) (xs.drop (i + 1)) (i + 1) (t + hI h' 521 xs[i]) from if_pos z]
        exact this
      · rw [show epN h' (hI h' 641 a) (xs[i] :: xs.drop (i + 1)) i t = i from if_neg z]
  exact lp (xs.length - i0) i0 0 (by omega)
theorem m_spareFor {z : Nat} (k : stV h a e N U rep up 0 ∨ ∃ x, stV h a e N U rep up x) (ks : hK h s = 10) (hsv : hI h 576 s = nI sv) (kz : hK h z = 9) (hnm : hI h 512 z = nI nm) (hN0 : 0 < N) (hNb : N ≤ 30) (hnb : nm ≤ 100000000) (hsb : sv < N) : EvI g P 54 [va_rf (some a), va_rf (some z), va_rf (some s)] h (fun h' r => h' = h ∧ r = spR up (hI h 523 z) N nm sv) := by
  have k : ∃ x, stV h a e N U rep up x := k.elim (fun q => ⟨0, q⟩) id
  obtain ⟨x0, k1, k2, k3, k4, k5, k6, k7, k8⟩ := k
  have hlenR : (List.range N).length = N := List.length_range
  have hring : ∀ i, i < N → EvI g P 44 [va_rf (some a), .int (hI h 512 z), va_rf (some s), .int (nI i)] h (fun h' r => h' = h ∧ r = nI (ringN N nm sv i)) := by
    intro i hi
    rw [hnm]
    have := m_ringAt (g := g) (P := P) (x := nI nm) (st := nI i) k1 ks k2 k3 (by rw [k4]; intro q; have := nI_inj (by omega) (by omega) (q.trans nI_0.symm); omega)
    rw [k4, hsv, ringF_N hN0 hNb hnb (by omega) (by omega)] at this
    exact this
  refine e_54 (s_54_0 ?_)
  have lp := find_loop (List.range N) (spP up (hI h 523 z) N nm sv) (fun i => ∀ o4 : Option Value, Ev g P 54 2 [some (va_rf (some a)), some (va_rf (some z)), some (va_rf (some s)), some (.int (nI i)), o4] [] h (fun h' r => ∃ x, r = some (.int x) ∧ h' = h ∧ x = spR up (hI h 523 z) N nm sv)) (fun i => (List.range N).find? (spP up (hI h 523 z) N nm sv) = some i) ?_ ?_ (fun _ e => e) ?_
  · rw [nI_0] at lp; exact lp none
  · intro i hi hp hf o4
    rw [List.getElem_range] at hp hf
    have hiN : i < N := by omega
    have rl : ringN N nm sv i < N := ringN_lt hN0
    unfold spP at hp
    simp only [Bool.and_eq_true, decide_eq_true_eq] at hp
    refine s_54_2 (k3 := k1) (e5 := k2) (k7 := k3) (kt := fun q => absurd q (by rw [k4]; exact nI_ge hiN (by omega))) (kf := fun _ => ?_)
    refine s_54_11 (k3 := kz) (k6 := k1) (hc := hring i hiN) (kk := fun h' x ⟨e1, e2⟩ => ?_)
    subst e1; subst e2
    refine s_54_21 (k3 := ks) (kt := fun q => absurd (nI_inj (by omega) (by omega) (q.trans hsv)) hp.1.1) (kf := fun _ => ?_)
    refine s_54_32 (k3 := k1) (hc := m_isUp k1) (kk := fun h'' x ⟨e1, e2⟩ => ?_)
    subst e1
    rw [k7, if_pos hp.1.2] at e2
    subst e2
    refine s_54_38 (kt := fun q => absurd q (by decide)) (kf := fun _ => ?_)
    refine s_54_41 (k3 := kz) (kt := fun q => absurd hp.2 q) (kf := fun _ => s_54_53 ⟨_, rfl, rfl, ?_⟩)
    unfold spR
    rw [hf]
  · intro i hi hp kn o4
    rw [List.getElem_range] at hp
    have hiN : i < N := by omega
    have rl : ringN N nm sv i < N := ringN_lt hN0
    have hp' : ¬ ((¬ ringN N nm sv i = sv ∧ shrB up (nI (ringN N nm sv i)) = 1) ∧ shrB (hI h 523 z) (nI (ringN N nm sv i)) = 0) := by
      intro q
      unfold spP at hp
      rw [decide_eq_true q.1.1, decide_eq_true q.1.2, decide_eq_true q.2] at hp
      cases hp
    refine s_54_2 (k3 := k1) (e5 := k2) (k7 := k3) (kt := fun q => absurd q (by rw [k4]; exact nI_ge hiN (by omega))) (kf := fun _ => ?_)
    refine s_54_11 (k3 := kz) (k6 := k1) (hc := hring i hiN) (kk := fun h' x ⟨e1, e2⟩ => ?_)
    subst e1; subst e2
    have next : ∀ o4, Ev g P 54 56 [some (va_rf (some a)), some (va_rf (some z)), some (va_rf (some s)), some (.int (nI i)), some (.int o4)] [] h' (fun h'' r => ∃ x, r = some (.int x) ∧ h'' = h' ∧ x = spR up (hI h' 523 z) N nm sv) := by
      intro o4
      refine s_54_56 ?_
      rw [nI_1]
      exact kn _
    refine s_54_21 (k3 := ks) (kt := fun _ => next _) (kf := fun q1 => ?_)
    refine s_54_32 (k3 := k1) (hc := m_isUp k1) (kk := fun h'' x ⟨e1, e2⟩ => ?_)
    subst e1
    rw [k7] at e2
    refine s_54_38 (kt := fun _ => next _) (kf := fun q2 => ?_)
    refine s_54_41 (k3 := kz) (kt := fun _ => next _) (kf := fun q3 => absurd ⟨⟨fun q => q1 (by rw [q]; exact hsv.symm), Decidable.byContradiction (fun q => q2 (by rw [e2]; exact if_neg q))⟩, q3⟩ hp')
  · intro hn o4
    rw [hlenR]
    refine s_54_2 (k3 := k1) (e5 := k2) (k7 := k3) (kt := fun _ => s_54_62 ⟨_, rfl, rfl, ?_⟩) (kf := fun q => absurd (by rw [k4]; exact nI_le (Nat.le_refl _) (by omega)) q)
    unfold spR
    rw [hn]
theorem m_canRecover {L : Nat} {zs : List svT} (ka : hK h a = 11) (k : lgF g h N U L zs) : EvI g P 55 [va_rf (some a), va_rf (some L)] h (fun h' r => h' = h ∧ r = if (hI h 640 a + 1 ≤ bcX (hI h 646 a)) ∧ ∀ z ∈ zs, ¬ (hI h 523 z.1) &&& (hI h 646 a) = 0 then 1 else 0) := by
  have kz : ∀ z ∈ zs, sgX h N U z := fun z hz => (k.2.choose_spec.2.2 z hz).1
  obtain ⟨j1, j2, l, j3, j4, hsz, hgt⟩ := k.calls (P := P)
  refine e_55 (s_55_0 (a1 := a) (k3 := ka) (hc := m_bitCount) (kk := fun h' x ⟨e1, e2⟩ => ?_))
  subst e1; subst e2
  refine s_55_7 (kt := fun z0 => s_55_18 ?_) (kf := fun z0 => s_55_16 ⟨_, rfl, rfl, (if_neg (fun q => z0 q.1)).symm⟩)
  have lp := find_loop zs (fun z => decide ((hI h' 523 z.1) &&& (hI h' 646 a) = 0)) (fun i => Ev g P 55 20 [some (va_rf (some a)), some (va_rf (some L)), some (.int (nI i))] [] h' (fun h'' r => ∃ x, r = some (.int x) ∧ h'' = h' ∧ x = if (hI h' 640 a + 1 ≤ bcX (hI h' 646 a)) ∧ ∀ z ∈ zs, ¬ (hI h' 523 z.1) &&& (hI h' 646 a) = 0 then 1 else 0)) (fun z => z ∈ zs ∧ (hI h' 523 z.1) &&& (hI h' 646 a) = 0) ?_ ?_ (fun z e => ⟨List.mem_of_find?_eq_some e, by have := List.find?_some e; simpa using this⟩) ?_
  · rw [nI_0] at lp; exact lp
  · intro i hi hp hf
    have hp : (hI h' 523 zs[i].1) &&& (hI h' 646 a) = 0 := by simpa using hp
    refine s_55_20 (hc := hsz) (kk := fun h2 x ⟨e1, e2⟩ => ?_)
    subst e1; subst e2
    refine s_55_28 (kt := fun q => absurd q (nI_ge hi j2)) (kf := fun _ => ?_)
    refine s_55_31 (hc := hgt i hi) (kk := fun h3 x ⟨e1, e2⟩ => ?_)
    subst e1; subst e2
    have k9 := (kz _ (List.getElem_mem hi)).1.1
    exact s_55_39 (c1 := fun b eb => by cases eb; exact k9) (k4 := k9) (k7 := ka) (kt := fun q => absurd hp q) (kf := fun _ => s_55_53 ⟨_, rfl, rfl, (if_neg (fun q => q.2 _ (List.getElem_mem hi) hp)).symm⟩)
  · intro i hi hp kn
    have hp : ¬ (hI h' 523 zs[i].1) &&& (hI h' 646 a) = 0 := by simpa using hp
    refine s_55_20 (hc := hsz) (kk := fun h2 x ⟨e1, e2⟩ => ?_)
    subst e1; subst e2
    refine s_55_28 (kt := fun q => absurd q (nI_ge hi j2)) (kf := fun _ => ?_)
    refine s_55_31 (hc := hgt i hi) (kk := fun h3 x ⟨e1, e2⟩ => ?_)
    subst e1; subst e2
    have k9 := (kz _ (List.getElem_mem hi)).1.1
    refine s_55_39 (c1 := fun b eb => by cases eb; exact k9) (k4 := k9) (k7 := ka) (kt := fun _ => s_55_55 ?_) (kf := fun q => absurd q hp)
    rw [nI_1]; exact kn
  · intro hn
    have hall : ∀ z ∈ zs, ¬ (hI h' 523 z.1) &&& (hI h' 646 a) = 0 := fun z hz => by have := List.find?_eq_none.mp hn z hz; simpa using this
    refine s_55_20 (hc := hsz) (kk := fun h2 x ⟨e1, e2⟩ => ?_)
    subst e1; subst e2
    exact s_55_28 (kt := fun _ => s_55_61 ⟨_, rfl, rfl, (if_pos ⟨z0, hall⟩).symm⟩) (kf := fun q => absurd (nI_le (Nat.le_refl _) j2) q)
end PACK
