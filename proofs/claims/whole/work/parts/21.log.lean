/-! a LOG of the class: its SEGMENTS, and the addresses of their PARTS -/
def sgW (h : hpT) (s : Nat) (ps : List Nat) : Prop := hK h s = 9 ∧ hI h 518 s = nI ps.length ∧ ∃ p, hR h 513 s = some p ∧ hK h p = 25 ∧ ps.length ≤ hN h p ∧ hN h p ≤ 1000 ∧ ∀ j (hj : j < ps.length), hB h p j = some ps[j] ∧ hK h ps[j] = 7
def lgW (g : gcT) (h : hpT) (a : Nat) (xs : List Nat) (pss : List (List Nat)) : Prop := hK h a = 5 ∧ ∃ l, hR h 256 a = some l ∧ tLs g h 8 l xs ∧ xs.length = pss.length ∧ ∀ i (hi : i < xs.length) (hj : i < pss.length), sgW h xs[i] pss[i]
theorem aLs.len {g : gcT} {h : hpT} {l : Nat} {xs : List Nat} (hl : aLs g h l xs) : xs.length ≤ 1000000 := by
  obtain ⟨-, -, e, -, k⟩ := hl
  rcases k with ⟨-, rfl⟩ | ⟨-, -, q1, q2, -⟩
  · exact Nat.zero_le _
  · omega
theorem drop_cons {α : Type} {l : List α} {i : Nat} (hi : i < l.length) : l.drop i = l[i] :: l.drop (i + 1) := List.drop_eq_getElem_cons hi
def ackF (h : hpT) (c : Int32) (acc : Int32) (pa : Nat) : Int32 := if hI h 387 pa = 0 then acc else if ¬ hI h 388 pa = c then acc else if hI h 394 pa ≤ acc then acc else hI h 394 pa
section LOG
variable {g : gcT} {P : pmT} {h : hpT}
theorem m_ackedOf {a : Nat} {c : Int32} {xs : List Nat} {pss : List (List Nat)} (hl : lgW g h a xs pss) : EvI g P 20 [va_rf (some a), .int c] h (fun h' r => h' = h ∧ r = pss.flatten.foldl (ackF h c) 1) := by
  obtain ⟨k1, l, k2, k3, k4, k5⟩ := hl
  have kl : hK h l = 1 := k3.1.1
  have hlen := k3.1.len
  have hsz : EvI g P 191 [va_rf (hR h 256 a)] h (fun h' r => h' = h ∧ r = nI xs.length) := by rw [k2]; exact m_size k3.1
  have hgt : ∀ i (hi : i < xs.length), EvA g P 193 [va_rf (hR h 256 a), .int (nI i)] h (fun h' r => h' = h ∧ r = some xs[i]) := fun i hi => by rw [k2]; exact m_get k3.1 hi
  have inner : ∀ (Q : hpT → Option Value → Prop) (s : Nat) (ps : List Nat) (x3 : Int32), sgW h s ps → ∀ d j (acc : Int32) (o6 : Option Value), j + d = ps.length → (∀ (x5 : Int32) (o6 : Option Value), Ev g P 20 89 [some (va_rf (some a)), some (.int c), some (.int ((ps.drop j).foldl (ackF h c) acc)), some (.int x3), some (va_rf (some s)), some (.int x5), o6] [] h Q) → Ev g P 20 31 [some (va_rf (some a)), some (.int c), some (.int acc), some (.int x3), some (va_rf (some s)), some (.int (nI j)), o6] [] h Q := by
    intro Q s ps x3 hs
    obtain ⟨s1, s2, p, s3, s4, s5, s6, s7⟩ := hs
    intro d
    induction d with
    | zero =>
      intro j acc o6 hj kk
      refine s_20_31 (kt := fun _ => ?_) (kf := fun z => absurd (by rw [s2]; exact nI_le (by omega) (by omega)) z)
      have := kk (nI j) o6
      rw [List.drop_eq_nil_of_le (by omega)] at this
      exact this
    | succ d ih =>
      intro j acc o6 hj kk
      have hjl : j < ps.length := by omega
      rw [drop_cons hjl, List.foldl_cons] at kk
      have hv : vinD (nI j) (hN h p) := vin_nI (by omega) (by omega)
      have ec : (nI j).toNatClampNeg = j := nI_clamp (by omega)
      have eb : hB h p (nI j).toNatClampNeg = some ps[j] := by rw [ec]; exact (s7 j hjl).1
      have ek : hK h ps[j] = 7 := (s7 j hjl).2
      have next : ∀ (acc' : Int32), acc' = ackF h c acc ps[j] → Ev g P 20 83 [some (va_rf (some a)), some (.int c), some (.int acc'), some (.int x3), some (va_rf (some s)), some (.int (nI j)), some (va_rf (hB h p (nI j).toNatClampNeg))] [] h Q := by
        intro acc' ea
        refine s_20_83 ?_
        rw [nI_1]
        exact ih (j + 1) acc' _ (by omega) (fun x5 o6 => by rw [ea]; exact kk x5 o6)
      refine s_20_31 (kt := fun z => absurd z (by rw [s2]; exact nI_ge hjl (by omega))) (kf := fun _ => ?_)
      refine s_20_41 (kt := fun z => next acc (by unfold ackF; rw [if_pos z])) (kf := fun z1 => ?_)
      refine s_20_59 (e2 := eb) (kt := fun z => next acc (by unfold ackF; rw [if_neg z1, if_pos z])) (kf := fun z2 => ?_)
      refine s_20_68 (e2 := eb) (kt := fun z => next acc (by unfold ackF; rw [if_neg z1, if_neg (not_not_intro z2), if_pos z])) (kf := fun z3 => ?_)
      exact s_20_77 (e2 := eb) (kk := next _ (by unfold ackF; rw [if_neg z1, if_neg (not_not_intro z2), if_neg z3]))
  have outer : ∀ d i (acc : Int32) (o4 o5 o6 : Option Value), i + d = xs.length → Ev g P 20 4 [some (va_rf (some a)), some (.int c), some (.int acc), some (.int (nI i)), o4, o5, o6] [] h (fun h' r => ∃ x, r = some (.int x) ∧ h' = h ∧ x = (pss.drop i).flatten.foldl (ackF h c) acc) := by
    intro d
    induction d with
    | zero =>
      intro i acc o4 o5 o6 hi
      refine s_20_4 (hc := hsz) (kk := fun h' x ⟨e1, e2⟩ => ?_)
      subst e1; subst e2
      refine s_20_12 (kt := fun _ => s_20_95 ⟨_, rfl, rfl, ?_⟩) (kf := fun z => absurd (nI_le (by omega) (by omega)) z)
      rw [List.drop_eq_nil_of_le (by omega)]; rfl
    | succ d ih =>
      intro i acc o4 o5 o6 hi
      have hix : i < xs.length := by omega
      have hip : i < pss.length := by omega
      refine s_20_4 (hc := hsz) (kk := fun h' x ⟨e1, e2⟩ => ?_)
      subst e1; subst e2
      refine s_20_12 (kt := fun z => absurd z (nI_ge hix (by omega))) (kf := fun _ => ?_)
      refine s_20_15 (hc := hgt i hix) (kk := fun h' x ⟨e1, e2⟩ => ?_)
      subst e1; subst e2
      refine s_20_23 (c1 := fun b eb => by cases eb; exact (k5 i hix hip).1) (kk := ?_)
      have := inner (fun h'' r => ∃ x, r = some (.int x) ∧ h'' = h' ∧ x = (pss.drop i).flatten.foldl (ackF h' c) acc) xs[i] pss[i] (nI i) (k5 i hix hip) pss[i].length 0 acc o6 (by omega) (fun x5 o6' => by
        refine s_20_89 ?_
        rw [nI_1, List.drop_zero]
        have := ih (i + 1) (pss[i].foldl (ackF h' c) acc) (some (va_rf (some xs[i]))) (some (.int x5)) o6' (by omega)
        rw [drop_cons hip, List.flatten_cons, List.foldl_append]
        exact this)
      rw [nI_0] at this
      exact this
  have := outer xs.length 0 1 none none none (by omega)
  rw [nI_0, List.drop_zero] at this
  exact e_20 (s_20_0 this)
end LOG
