/-! Coordinator.heirOfNext; restart, sleep, wake -/
def tabN (h : hpT) (ow : Nat) (x : Int32) : Int32 := (List.range 8).foldl (tabF h ow x) 0
def heF (h : hpT) (ow : Nat) (ss : List Nat) (st : Option Nat × Int32) (i : Nat) : Option Nat × Int32 := if ¬ hI h 577 (ss.getD i 0) = 0 then st else if ¬ hI h 578 (ss.getD i 0) = 0 then st else if ¬ hI h 579 (ss.getD i 0) = 0 then st else if st.2 ≤ tabN h ow (nI i) then st else (some (ss.getD i 0), tabN h ow (nI i))
section HEIR
variable {g : gcT} {P : pmT} {h : hpT} {a b e ow : Nat} {ss : List Nat}
theorem m_heir (ka : hK h a = 4) (hb : hR h 192 a = some b) (kb : hK h b = 11) (he : hR h 643 b = some e) (ks : srvV h e ss) (hn : hR h 193 a = some ow) (kn : hK h ow = 20) (ln : hN h ow = 8) : EvA g P 14 [va_rf (some a)] h (fun h' r => h' = h ∧ r = ((List.range ss.length).foldl (heF h ow ss) (none, 9)).1) := by
  obtain ⟨k1, k2, k3, k4⟩ := ks
  refine e_14 (s_14_0 ?_)
  have lp := fold_loop (List.range ss.length) (heF h ow ss) (fun i st => ∀ o4 o5 : Option Value, Ev g P 14 7 [some (va_rf (some a)), some (va_rf st.1), some (.int st.2), some (.int (nI i)), o4, o5] [] h (fun h' r => ∃ x, r = some (va_rf x) ∧ h' = h ∧ x = ((List.range ss.length).foldl (heF h ow ss) (none, 9)).1)) ?_ (none, 9) ?_
  · rw [nI_0] at lp; exact lp none none
  · intro i st hi kn' o4 o5
    rw [List.getElem_range] at kn'
    rw [List.length_range] at hi
    have ei : (nI i).toNatClampNeg = i := nI_clamp (by omega)
    have hv : vinD (nI i) (hN h e) := by rw [k2]; exact vin_nI hi (by omega)
    have ed : ss.getD i 0 = ss[i] := by rw [List.getD_eq_getElem?_getD, List.getElem?_eq_getElem hi]; rfl
    have hB' : hB h e (nI i).toNatClampNeg = some ss[i] := by rw [ei]; exact (k4 i hi).1
    have k10 := (k4 i hi).2
    have next : ∀ st', st' = heF h ow ss st i → ∀ o5, Ev g P 14 73 [some (va_rf (some a)), some (va_rf st'.1), some (.int st'.2), some (.int (nI i)), some (va_rf (hB h e (nI i).toNatClampNeg)), some (.int o5)] [] h (fun h' r => ∃ x, r = some (va_rf x) ∧ h' = h ∧ x = ((List.range ss.length).foldl (heF h ow ss) (none, 9)).1) := by
      intro st' es o5
      refine s_14_73 ?_
      rw [nI_1, es]
      exact kn' _ _
    refine s_14_7 (k3 := ka) (e5 := hb) (k6 := kb) (e8 := he) (k10 := k1) (kt := fun z => absurd z (by rw [k2]; exact nI_ge hi (by omega))) (kf := fun _ => ?_)
    refine s_14_19 (k3 := ka) (e5 := hb) (k6 := kb) (e8 := he) (k9 := k1) (i10 := hv) (hc := m_tabletsOf ka hn kn ln) (kk := fun h' x ⟨e1, e2⟩ => ?_)
    subst e1
    have e2 : x = tabN h' ow (nI i) := e2
    subst e2
    refine s_14_35 (e2 := hB') (k3 := k10) (kt := fun z => next st (by unfold heF; rw [ed, if_pos z]) _) (kf := fun z1 => ?_)
    refine s_14_45 (e2 := hB') (k3 := k10) (kt := fun z => next st (by unfold heF; rw [ed, if_neg (not_not_intro z1), if_pos z]) _) (kf := fun z2 => ?_)
    refine s_14_53 (e2 := hB') (k3 := k10) (kt := fun z => next st (by unfold heF; rw [ed, if_neg (not_not_intro z1), if_neg (not_not_intro z2), if_pos z]) _) (kf := fun z3 => ?_)
    refine s_14_61 (kt := fun z => next st (by unfold heF; rw [ed, if_neg (not_not_intro z1), if_neg (not_not_intro z2), if_neg (not_not_intro z3), if_pos z]) _) (kf := fun z4 => s_14_67 ?_)
    exact next (hB h' e (nI i).toNatClampNeg, tabN h' ow (nI i)) (by unfold heF; rw [ed, if_neg (not_not_intro z1), if_neg (not_not_intro z2), if_neg (not_not_intro z3), if_neg z4, hB']) _
  · rw [List.length_range]
    intro o4 o5
    exact s_14_7 (k3 := ka) (e5 := hb) (k6 := kb) (e8 := he) (k10 := k1) (kt := fun _ => s_14_79 ⟨_, rfl, rfl, rfl⟩) (kf := fun z => absurd (by rw [k2]; exact nI_le (Nat.le_refl _) (by omega)) z)
/-- what restart, sleep and wake do -/
def mvD (h : hpT) (b : Nat) (ss : List Nat) (x fr to : Int32) (h' : hpT) (r : Int32) : Prop := (inF x (nI ss.length) = 0 ∧ h' = h ∧ r = 0) ∨ ∃ i, ∃ hi : i < ss.length, x = nI i ∧ ((¬ hI h 577 ss[i] = fr ∧ h' = h ∧ r = 0) ∨ (hI h 577 ss[i] = fr ∧ stW h b ss[i] to h' ∧ r = 1))
theorem mvD_b {x fr to r : Int32} {h' : hpT} (k : mvD h b ss x fr to h' r) : r = 0 ∨ r = 1 := by
  rcases k with ⟨-, -, k⟩ | ⟨i, hi, -, ⟨-, -, k⟩ | ⟨-, -, k⟩⟩
  · exact Or.inl k
  · exact Or.inl k
  · exact Or.inr k
theorem m_restart {x : Int32} (w : hWF h) (ka : hK h a = 13) (hb : hR h 768 a = some b) (kb : hK h b = 11) (he : hR h 643 b = some e) (ks : srvV h e ss) : EvI g P 72 [va_rf (some a), .int x] h (mvD h b ss x 2 0) := e_72 (s_72_0 (k3 := ka) (hc := m_moved w ka hb kb he ks) (kk := fun h' r k => s_72_7 (b1 := mvD_b k) (hq := ⟨_, rfl, k⟩)))
theorem m_sleep {x : Int32} (w : hWF h) (ka : hK h a = 13) (hb : hR h 768 a = some b) (kb : hK h b = 11) (he : hR h 643 b = some e) (ks : srvV h e ss) : EvI g P 73 [va_rf (some a), .int x] h (mvD h b ss x 0 1) := e_73 (s_73_0 (k3 := ka) (hc := m_moved w ka hb kb he ks) (kk := fun h' r k => s_73_7 (b1 := mvD_b k) (hq := ⟨_, rfl, k⟩)))
theorem m_wake {x : Int32} (w : hWF h) (ka : hK h a = 13) (hb : hR h 768 a = some b) (kb : hK h b = 11) (he : hR h 643 b = some e) (ks : srvV h e ss) : EvI g P 74 [va_rf (some a), .int x] h (mvD h b ss x 1 0) := e_74 (s_74_0 (k3 := ka) (hc := m_moved w ka hb kb he ks) (kk := fun h' r k => s_74_7 (b1 := mvD_b k) (hq := ⟨_, rfl, k⟩)))
end HEIR
