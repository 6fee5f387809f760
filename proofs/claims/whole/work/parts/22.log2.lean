/-! loops over lists -/
theorem fold_loop {α σ : Type} (l : List α) (f : σ → α → σ) (E : Nat → σ → Prop) (hs : ∀ i s (hi : i < l.length), E (i + 1) (f s l[i]) → E i s) (s : σ) (he : E l.length (l.foldl f s)) : E 0 s := by
  have : ∀ d i s, i + d = l.length → E l.length ((l.drop i).foldl f s) → E i s := by
    intro d
    induction d with
    | zero =>
      intro i s hi k
      rw [List.drop_eq_nil_of_le (by omega)] at k
      have e : i = l.length := by omega
      rw [e]; exact k
    | succ d ih =>
      intro i s hi k
      have hl : i < l.length := by omega
      rw [drop_cons hl, List.foldl_cons] at k
      exact hs i s hl (ih (i + 1) _ (by omega) k)
  exact this l.length 0 s (by omega) (by rw [List.drop_zero]; exact he)
theorem find_loop {α : Type} (l : List α) (p : α → Bool) (E : Nat → Prop) (Fd : α → Prop) (h1 : ∀ i (hi : i < l.length), p l[i] = true → Fd l[i] → E i) (h2 : ∀ i (hi : i < l.length), p l[i] = false → E (i + 1) → E i) (hf : ∀ x, l.find? p = some x → Fd x) (hn : l.find? p = none → E l.length) : E 0 := by
  have : ∀ d i, i + d = l.length → (∀ x, (l.drop i).find? p = some x → Fd x) → ((l.drop i).find? p = none → E l.length) → E i := by
    intro d
    induction d with
    | zero =>
      intro i hi _ k
      have e : i = l.length := by omega
      rw [List.drop_eq_nil_of_le (by omega)] at k
      rw [e]; exact k rfl
    | succ d ih =>
      intro i hi kf kn
      have hl : i < l.length := by omega
      rw [drop_cons hl] at kf kn
      cases hp : p l[i] with
      | true => exact h1 i hl hp (kf _ (by rw [List.find?_cons, hp]))
      | false =>
        refine h2 i hl hp (ih (i + 1) (by omega) (fun x hx => kf x (by rw [List.find?_cons, hp]; exact hx)) (fun hx => kn (by rw [List.find?_cons, hp]; exact hx)))
  exact this l.length 0 (by omega) (by rw [List.drop_zero]; exact hf) (by rw [List.drop_zero]; exact hn)
/-- a LOG: its SEGMENTS with the addresses of their PARTS -/
def lgZ (g : gcT) (h : hpT) (a : Nat) (zs : List (Nat × List Nat)) : Prop := hK h a = 5 ∧ ∃ l, hR h 256 a = some l ∧ tLs g h 8 l (zs.map (·.1)) ∧ ∀ z ∈ zs, sgW h z.1 z.2
theorem lgZ.w {g : gcT} {h : hpT} {a : Nat} {zs : List (Nat × List Nat)} (hl : lgZ g h a zs) : lgW g h a (zs.map (·.1)) (zs.map (·.2)) := by
  obtain ⟨k1, l, k2, k3, k4⟩ := hl
  refine ⟨k1, l, k2, k3, by simp, fun i hi hj => ?_⟩
  rw [List.length_map] at hi
  rw [List.getElem_map, List.getElem_map]
  exact k4 _ (List.getElem_mem hi)
def homF (h : hpT) (key : Int32) (s : Nat) (st : Int32 × Option Nat) (pa : Nat) : Int32 × Option Nat := if hI h 386 pa = 0 then st else if ¬ hI h 390 pa = key then st else if hI h 393 pa ≤ st.1 then st else (hI h 393 pa, if hI h 384 pa = 2 then some s else none)
def homL (h : hpT) (key : Int32) (zs : List (Nat × List Nat)) : Int32 × Option Nat := zs.foldl (fun st z => z.2.foldl (homF h key z.1) st) (0, none)
def objF (h : hpT) (key : Int32) (st : Option Nat) (pa : Nat) : Option Nat := if ¬ hI h 384 pa = 2 then st else if ¬ hI h 390 pa = key then st else match st with
  | none => some pa
  | some q => if hI h 393 pa ≤ hI h 393 q then st else some pa
def resP (h : hpT) (c n : Int32) (pa : Nat) : Bool := decide (hI h 384 pa = 4) && decide (hI h 388 pa = c) && decide (hI h 389 pa = n)
section LOG
variable {g : gcT} {P : pmT} {h : hpT}
theorem sgW.at {s : Nat} {ps : List Nat} (hs : sgW h s ps) : hK h s = 9 ∧ hI h 518 s = nI ps.length ∧ ps.length < 2 ^ 31 ∧ ∃ p, hR h 513 s = some p ∧ hK h p = 25 ∧ ∀ j (hj : j < ps.length), vinD (nI j) (hN h p) ∧ hB h p (nI j).toNatClampNeg = some ps[j] ∧ hK h ps[j] = 7 := by
  obtain ⟨s1, s2, p, s3, s4, s5, s6, s7⟩ := hs
  refine ⟨s1, s2, by omega, p, s3, s4, fun j hj => ⟨vin_nI (by omega) (by omega), ?_, (s7 j hj).2⟩⟩
  rw [nI_clamp (by omega)]; exact (s7 j hj).1
theorem lgZ.calls {a : Nat} {zs : List (Nat × List Nat)} (hl : lgZ g h a zs) : hK h a = 5 ∧ zs.length < 2 ^ 31 ∧ ∃ l, hR h 256 a = some l ∧ hK h l = 1 ∧ EvI g P 191 [va_rf (hR h 256 a)] h (fun h' r => h' = h ∧ r = nI zs.length) ∧ ∀ i (hi : i < zs.length), EvA g P 193 [va_rf (hR h 256 a), .int (nI i)] h (fun h' r => h' = h ∧ r = some zs[i].1) := by
  obtain ⟨k1, l, k2, k3, k4⟩ := hl
  have hlen := k3.1.len
  rw [List.length_map] at hlen
  refine ⟨k1, by omega, l, k2, k3.1.1, ?_, fun i hi => ?_⟩
  · have := m_size (P := P) k3.1
    rw [List.length_map] at this
    rw [k2]; exact this
  · have := m_get (P := P) (i := i) k3.1 (by rw [List.length_map]; exact hi)
    rw [List.getElem_map] at this
    rw [k2]; exact this
theorem m_homeOf {a : Nat} {key : Int32} {zs : List (Nat × List Nat)} (hl : lgZ g h a zs) : EvA g P 18 [va_rf (some a), .int key] h (fun h' r => h' = h ∧ r = (homL h key zs).2) := by
  have hsg := hl.2
  obtain ⟨-, -, -, hsg⟩ := hsg
  obtain ⟨k1, hlen, l, k2, kl, hsz, hgt⟩ := hl.calls (P := P)
  refine e_18 (s_18_0 ?_)
  have := fold_loop zs (fun st z => z.2.foldl (homF h key z.1) st) (fun i st => ∀ (o5 o6 o7 : Option Value), Ev g P 18 7 [some (va_rf (some a)), some (.int key), some (va_rf st.2), some (.int st.1), some (.int (nI i)), o5, o6, o7] [] h (fun h' r => ∃ x, r = some (va_rf x) ∧ h' = h ∧ x = (homL h key zs).2)) ?_ (0, none) ?_
  · rw [nI_0] at this
    exact this none none none
  · intro i st hi kn o5 o6 o7
    refine s_18_7 (hc := hsz) (kk := fun h' x ⟨e1, e2⟩ => ?_)
    subst e1; subst e2
    refine s_18_16 (kt := fun z => absurd z (nI_ge hi hlen)) (kf := fun _ => ?_)
    refine s_18_19 (hc := hgt i hi) (kk := fun h' x ⟨e1, e2⟩ => ?_)
    subst e1; subst e2
    have hs := hsg zs[i] (List.getElem_mem hi)
    refine s_18_28 (c1 := fun b eb => by cases eb; exact hs.1) (kk := ?_)
    obtain ⟨s1, s2, s5, p, s3, s4, s7⟩ := hs.at
    have inner := fold_loop zs[i].2 (homF h' key zs[i].1) (fun j st => ∀ (o7 : Option Value), Ev g P 18 36 [some (va_rf (some a)), some (.int key), some (va_rf st.2), some (.int st.1), some (.int (nI i)), some (va_rf (some zs[i].1)), some (.int (nI j)), o7] [] h' (fun h'' r => ∃ x, r = some (va_rf x) ∧ h'' = h' ∧ x = (homL h' key zs).2)) ?_ st ?_
    · rw [nI_0] at inner
      exact inner o7
    · intro j st hj kn o7
      obtain ⟨hv, eb, ek⟩ := s7 j hj
      refine s_18_36 (kt := fun z => absurd z (by rw [s2]; exact nI_ge hj s5)) (kf := fun _ => ?_)
      have next : ∀ st', st' = homF h' key zs[i].1 st zs[i].2[j] → Ev g P 18 104 [some (va_rf (some a)), some (.int key), some (va_rf st'.2), some (.int st'.1), some (.int (nI i)), some (va_rf (some zs[i].1)), some (.int (nI j)), some (va_rf (hB h' p (nI j).toNatClampNeg))] [] h' (fun h'' r => ∃ x, r = some (va_rf x) ∧ h'' = h' ∧ x = (homL h' key zs).2) := by
        intro st' e
        refine s_18_104 ?_
        rw [nI_1, e]
        exact kn _
      refine s_18_46 (kt := fun z => next st (by unfold homF; rw [if_pos z])) (kf := fun z1 => ?_)
      refine s_18_64 (e2 := eb) (kt := fun z => next st (by unfold homF; rw [if_neg z1, if_pos z])) (kf := fun z2 => ?_)
      refine s_18_73 (e2 := eb) (kt := fun z => next st (by unfold homF; rw [if_neg z1, if_neg (not_not_intro z2), if_pos z])) (kf := fun z3 => ?_)
      refine s_18_82 (e2 := eb) (kt := fun z => s_18_102 (s_18_103 (next (_, none) (by unfold homF; rw [if_neg z1, if_neg (not_not_intro z2), if_neg z3, if_neg z]; rfl)))) (kf := fun z => s_18_97 (s_18_103 (next (_, some _) (by unfold homF; rw [if_neg z1, if_neg (not_not_intro z2), if_neg z3, if_pos z]; rfl))))
    · intro o7
      refine s_18_36 (kt := fun _ => s_18_110 ?_) (kf := fun z => absurd (by rw [s2]; exact nI_le (Nat.le_refl _) s5) z)
      rw [nI_1]
      exact kn _ _ _
  · intro o5 o6 o7
    refine s_18_7 (hc := hsz) (kk := fun h' x ⟨e1, e2⟩ => ?_)
    subst e1; subst e2
    exact s_18_16 (kt := fun _ => s_18_116 ⟨_, rfl, rfl, rfl⟩) (kf := fun z => absurd (nI_le (Nat.le_refl _) hlen) z)
end LOG
