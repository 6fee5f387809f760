/-! LogCluster.moved, Coordinator.forget -/
section MV
variable {g : gcT} {P : pmT} {h : hpT} {a b e N : Nat}
/-- the SERVERS' row -/
def srvV (h : hpT) (e : Nat) (ss : List Nat) : Prop := hK h e = 27 ∧ hN h e = ss.length ∧ ss.length ≤ 30 ∧ ∀ i (hi : i < ss.length), hB h e i = some ss[i] ∧ hK h ss[i] = 10
def stW (h : hpT) (b : Nat) (s : Nat) (x : Int32) (h' : hpT) : Prop := h' = hpI (hpI h 577 s x) 646 b (hI h' 646 b) ∧ hI h' 646 b = upS (hI h 646 b) (hI h 576 s) x ∧ Ch (fun y => y = b ∨ y = s) 0 0 h h' ∧ hR h' = hR h ∧ (∀ f, ¬ f = 577 → hI h' f s = hI h f s) ∧ hI h' 577 s = x ∧ (∀ f, ¬ f = 646 → hI h' f b = hI h f b)
theorem m_moved {ss : List Nat} {x fr to : Int32} (w : hWF h) (ka : hK h a = 13) (hb : hR h 768 a = some b) (kb : hK h b = 11) (he : hR h 643 b = some e) (ks : srvV h e ss) : EvI g P 93 [va_rf (some a), .int x, .int fr, .int to] h (fun h' r => (inF x (nI ss.length) = 0 ∧ h' = h ∧ r = 0) ∨ ∃ i, ∃ hi : i < ss.length, x = nI i ∧ ((¬ hI h 577 ss[i] = fr ∧ h' = h ∧ r = 0) ∨ (hI h 577 ss[i] = fr ∧ stW h b ss[i] to h' ∧ r = 1))) := by
  obtain ⟨k1, k2, k3, k4⟩ := ks
  have hin := m_isServer (g := g) (P := P) (x := x) ka hb kb he k1
  rw [k2] at hin
  refine e_93 (s_93_0 (k3 := ka) (hc := hin) (kk := fun h' v ⟨e1, e2⟩ => ?_))
  subst e1; subst e2
  refine s_93_5 (kt := fun z => s_93_24 ⟨_, rfl, Or.inl ⟨z, rfl, rfl⟩⟩) (kf := fun z => ?_)
  obtain ⟨i, hi, ei⟩ := inF_1 (by omega) z
  have ec : x.toNatClampNeg = i := by rw [ei]; exact nI_clamp (by omega)
  have hv : vinD x (hN h' e) := by rw [k2, ei]; exact vin_nI hi (by omega)
  have hB' : hB h' e x.toNatClampNeg = some ss[i] := by rw [ec]; exact (k4 i hi).1
  have ks := (k4 i hi).2
  have hst : EvV g P 41 [va_rf (hR h' 768 a), va_rf (hB h' e x.toNatClampNeg), .int to] h' (fun h'' => stW h' b ss[i] to h'') := by rw [hb, hB']; exact m_setState w kb ks
  refine s_93_8 (k3 := ka) (e5 := hb) (k6 := kb) (e8 := he) (k9 := k1) (i10 := hv) (e12 := hB') (k13 := ks) (kt := fun z1 => s_93_26 (k3 := ka) (e5 := hb) (k6 := kb) (e8 := he) (k9 := k1) (i10 := hv) (hc := hst) (kk := fun h2 y => s_93_43 ⟨_, rfl, Or.inr ⟨i, hi, ei, Or.inr ⟨z1, y, rfl⟩⟩⟩)) (kf := fun z1 => s_93_24 ⟨_, rfl, Or.inr ⟨i, hi, ei, Or.inl ⟨z1, rfl, rfl⟩⟩⟩)
end MV
