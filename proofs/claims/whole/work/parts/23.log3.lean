/-! LOG: an OBJECT, a RESULT, copies; a SEGMENT goes -/
def shrB (m s : Int32) : Int32 := (m >>> (s &&& 31)) &&& 1
section LOG
variable {g : gcT} {P : pmT} {h : hpT}
theorem m_objectHere {s : Nat} {key : Int32} {ps : List Nat} (hs : sgW h s ps) : EvA g P 37 [va_rf (some s), .int key] h (fun h' r => h' = h ∧ r = ps.foldl (objF h key) none) := by
  obtain ⟨s1, s2, s5, p, s3, s4, s7⟩ := hs.at
  refine e_37 (s_37_0 ?_)
  have inner := fold_loop ps (objF h key) (fun j st => (∀ q, st = some q → hK h q = 7) → ∀ (o4 : Option Value), Ev g P 37 4 [some (va_rf (some s)), some (.int key), some (va_rf st), some (.int (nI j)), o4] [] h (fun h'' r => ∃ x, r = some (va_rf x) ∧ h'' = h ∧ x = ps.foldl (objF h key) none)) ?_ none ?_
  · rw [nI_0] at inner
    exact inner (fun q e => by cases e) none
  · intro j st hj kn hq o4
    obtain ⟨hv, eb, ek⟩ := s7 j hj
    refine s_37_4 (kt := fun z => absurd z (by rw [s2]; exact nI_ge hj s5)) (kf := fun _ => ?_)
    have next : ∀ st', st' = objF h key st ps[j] → (∀ q, st' = some q → hK h q = 7) → Ev g P 37 57 [some (va_rf (some s)), some (.int key), some (va_rf st'), some (.int (nI j)), some (va_rf (hB h p (nI j).toNatClampNeg))] [] h (fun h'' r => ∃ x, r = some (va_rf x) ∧ h'' = h ∧ x = ps.foldl (objF h key) none) := by
      intro st' e hq'
      refine s_37_57 ?_
      rw [nI_1, e]
      rw [e] at hq'
      exact kn hq' _
    have new : objF h key st ps[j] = some ps[j] → Ev g P 37 54 [some (va_rf (some s)), some (.int key), some (va_rf st), some (.int (nI j)), some (va_rf (hB h p (nI j).toNatClampNeg))] [] h (fun h'' r => ∃ x, r = some (va_rf x) ∧ h'' = h ∧ x = ps.foldl (objF h key) none) := fun e => s_37_54 (next _ (by rw [eb, e]) (fun q e => by rw [eb] at e; cases e; exact ek))
    refine s_37_12 (kt := fun z => next st (by unfold objF; rw [if_pos z]) hq) (kf := fun z1 => ?_)
    refine s_37_29 (e2 := eb) (kt := fun z => next st (by unfold objF; rw [if_neg (not_not_intro z1), if_pos z]) hq) (kf := fun z2 => ?_)
    refine s_37_38 (kt := fun z => new (by unfold objF; rw [if_neg (not_not_intro z1), if_neg (not_not_intro z2), z])) (kf := fun z => ?_)
    obtain ⟨q, hq1⟩ := Option.ne_none_iff_exists'.mp z
    refine s_37_42 (e2 := eb) (e5 := hq1) (k6 := hq q hq1) (kt := fun z => next st (by unfold objF; rw [if_neg (not_not_intro z1), if_neg (not_not_intro z2), hq1]; exact (if_pos z).symm) hq) (kf := fun z => new (by unfold objF; rw [if_neg (not_not_intro z1), if_neg (not_not_intro z2), hq1]; exact if_neg z))
  · intro _ o4
    exact s_37_4 (kt := fun _ => s_37_63 ⟨_, rfl, rfl, rfl⟩) (kf := fun z => absurd (by rw [s2]; exact nI_le (Nat.le_refl _) s5) z)
theorem homL_in {key : Int32} {zs : List (Nat × List Nat)} {s : Nat} (e : (homL h key zs).2 = some s) : ∃ z ∈ zs, z.1 = s := by
  have in1 : ∀ (z : Nat × List Nat) (ps : List Nat) (st : Int32 × Option Nat), (ps.foldl (homF h key z.1) st).2 = some s → st.2 = some s ∨ z.1 = s := by
    intro z ps
    induction ps with
    | nil => exact fun st e => Or.inl e
    | cons p ps ih =>
      intro st e
      rcases ih _ e with k | k
      · unfold homF at k
        split at k
        · exact Or.inl k
        · split at k
          · exact Or.inl k
          · split at k
            · exact Or.inl k
            · replace k : (if hI h 384 p = 2 then some z.1 else none) = some s := k
              split at k
              · exact Or.inr (Option.some.inj k)
              · cases k
      · exact Or.inr k
  have out : ∀ (zs : List (Nat × List Nat)) (st : Int32 × Option Nat), (zs.foldl (fun st z => z.2.foldl (homF h key z.1) st) st).2 = some s → st.2 = some s ∨ ∃ z ∈ zs, z.1 = s := by
    intro zs
    induction zs with
    | nil => exact fun st e => Or.inl e
    | cons z zs ih =>
      intro st e
      rcases ih _ e with k | ⟨y, hy, k⟩
      · rcases in1 z z.2 st k with k | k
        · exact Or.inl k
        · exact Or.inr ⟨z, List.mem_cons_self, k⟩
      · exact Or.inr ⟨y, List.mem_cons_of_mem _ hy, k⟩
  rcases out zs _ e with k | k
  · cases k
  · exact k
/-- the parts of a SEGMENT of a LOG, by its address -/
def psOf (zs : List (Nat × List Nat)) (s : Nat) : List Nat := match zs.find? (fun z => z.1 == s) with
  | some z => z.2
  | none => []
theorem psOf_sg {a s : Nat} {zs : List (Nat × List Nat)} (hl : lgZ g h a zs) (hs : ∃ z ∈ zs, z.1 = s) : sgW h s (psOf zs s) := by
  obtain ⟨z, hz, e⟩ := hs
  unfold psOf
  cases hf : zs.find? (fun z => z.1 == s) with
  | none => exact absurd (List.find?_eq_none.mp hf z hz) (by simp [e])
  | some y =>
    have e1 := List.find?_some hf
    have e2 := List.mem_of_find?_eq_some hf
    obtain ⟨-, -, -, -, k⟩ := hl
    have := k y e2
    have e3 : y.1 = s := by simpa using e1
    rw [e3] at this
    exact this
def objL (h : hpT) (key : Int32) (zs : List (Nat × List Nat)) : Option Nat := match (homL h key zs).2 with
  | none => none
  | some s => (psOf zs s).foldl (objF h key) none
theorem m_objectOf {a : Nat} {key : Int32} {zs : List (Nat × List Nat)} (hl : lgZ g h a zs) : EvA g P 19 [va_rf (some a), .int key] h (fun h' r => h' = h ∧ r = objL h key zs) := by
  refine e_19 (s_19_0 (k3 := hl.1) (hc := m_homeOf hl) (kk := fun h' x ⟨e1, e2⟩ => ?_))
  subst e1
  refine s_19_5 (kt := fun z => ?_) (kf := fun z => s_19_10 (s_19_19 ⟨_, rfl, rfl, ?_⟩))
  · obtain ⟨s, hs⟩ := Option.ne_none_iff_exists'.mp z
    have hin := homL_in (e2 ▸ hs)
    have hsg := psOf_sg hl hin
    refine s_19_14 (e2 := hs) (k3 := hsg.1) (hc := hs ▸ m_objectHere hsg) (kk := fun h'' x' ⟨e1, e3⟩ => ?_)
    subst e1
    refine s_19_19 ⟨_, rfl, rfl, ?_⟩
    unfold objL
    rw [← e2, hs]; exact e3
  · unfold objL
    rw [← e2, z]
theorem m_resultOf {a : Nat} {c n : Int32} {zs : List (Nat × List Nat)} (hl : lgZ g h a zs) : EvA g P 21 [va_rf (some a), .int c, .int n] h (fun h' r => h' = h ∧ r = (zs.map (·.2)).flatten.find? (resP h c n)) := by
  have hsg := hl.2
  obtain ⟨-, -, -, hsg⟩ := hsg
  obtain ⟨k1, hlen, l, k2, kl, hsz, hgt⟩ := hl.calls (P := P)
  refine e_21 (s_21_0 ?_)
  have efl : ∀ zs : List (Nat × List Nat), (zs.map (·.2)).flatten.find? (resP h c n) = zs.findSome? (fun z => z.2.find? (resP h c n)) := by
    intro zs
    rw [List.find?_flatten, List.findSome?_map]; rfl
  rw [efl]
  have this : ∀ d i (o4 o5 o6 : Option Value), i + d = zs.length → Ev g P 21 2 [some (va_rf (some a)), some (.int c), some (.int n), some (.int (nI i)), o4, o5, o6] [] h (fun h' r => ∃ x, r = some (va_rf x) ∧ h' = h ∧ x = (zs.drop i).findSome? (fun z => z.2.find? (resP h c n))) := by
    intro d
    induction d with
    | zero =>
      intro i o4 o5 o6 hi
      refine s_21_2 (hc := hsz) (kk := fun h' x ⟨e1, e2⟩ => ?_)
      subst e1; subst e2
      refine s_21_10 (kt := fun _ => s_21_91 ⟨_, rfl, rfl, ?_⟩) (kf := fun z => absurd (nI_le (by omega) (by omega)) z)
      rw [List.drop_eq_nil_of_le (by omega)]; rfl
    | succ d ih =>
      intro i o4 o5 o6 hi
      have hix : i < zs.length := by omega
      refine s_21_2 (hc := hsz) (kk := fun h' x ⟨e1, e2⟩ => ?_)
      subst e1; subst e2
      refine s_21_10 (kt := fun z => absurd z (nI_ge hix hlen)) (kf := fun _ => ?_)
      refine s_21_13 (hc := hgt i hix) (kk := fun h' x ⟨e1, e2⟩ => ?_)
      subst e1; subst e2
      have hs := hsg zs[i] (List.getElem_mem hix)
      refine s_21_21 (c1 := fun b eb => by cases eb; exact hs.1) (kk := ?_)
      obtain ⟨s1, s2, s5, p, s3, s4, s7⟩ := hs.at
      rw [drop_cons hix]
      have inner := find_loop zs[i].2 (resP h' c n) (fun j => ∀ (o6 : Option Value), Ev g P 21 29 [some (va_rf (some a)), some (.int c), some (.int n), some (.int (nI i)), some (va_rf (some zs[i].1)), some (.int (nI j)), o6] [] h' (fun h'' r => ∃ x, r = some (va_rf x) ∧ h'' = h' ∧ x = (zs[i] :: zs.drop (i + 1)).findSome? (fun z => z.2.find? (resP h' c n)))) (fun x => zs[i].2.find? (resP h' c n) = some x) ?_ ?_ (fun x e => e) ?_
      · rw [nI_0] at inner
        exact inner o6
      · intro j hj hp hfd o6
        obtain ⟨hv, eb, ek⟩ := s7 j hj
        unfold resP at hp
        simp only [Bool.and_eq_true, decide_eq_true_eq] at hp
        refine s_21_29 (kt := fun z => absurd z (by rw [s2]; exact nI_ge hj s5)) (kf := fun _ => ?_)
        refine s_21_39 (kt := fun z => absurd hp.1.1 z) (kf := fun _ => ?_)
        refine s_21_58 (e2 := eb) (kt := fun z => absurd hp.1.2 z) (kf := fun _ => ?_)
        refine s_21_67 (e2 := eb) (kt := fun z => absurd hp.2 z) (kf := fun _ => ?_)
        exact s_21_76 ⟨_, rfl, rfl, by rw [List.findSome?_cons, hfd, eb]⟩
      · intro j hj hp kn o6
        obtain ⟨hv, eb, ek⟩ := s7 j hj
        have hp' : ¬ ((hI h' 384 zs[i].2[j] = 4 ∧ hI h' 388 zs[i].2[j] = c) ∧ hI h' 389 zs[i].2[j] = n) := by
          intro q
          unfold resP at hp
          rw [decide_eq_true q.1.1, decide_eq_true q.1.2, decide_eq_true q.2] at hp
          cases hp
        refine s_21_29 (kt := fun z => absurd z (by rw [s2]; exact nI_ge hj s5)) (kf := fun _ => ?_)
        have next : Ev g P 21 79 [some (va_rf (some a)), some (.int c), some (.int n), some (.int (nI i)), some (va_rf (some zs[i].1)), some (.int (nI j)), some (va_rf (hB h' p (nI j).toNatClampNeg))] [] h' (fun h'' r => ∃ x, r = some (va_rf x) ∧ h'' = h' ∧ x = (zs[i] :: zs.drop (i + 1)).findSome? (fun z => z.2.find? (resP h' c n))) := by
          refine s_21_79 ?_
          rw [nI_1]
          exact kn _
        refine s_21_39 (kt := fun _ => next) (kf := fun z1 => ?_)
        refine s_21_58 (e2 := eb) (kt := fun _ => next) (kf := fun z2 => ?_)
        exact s_21_67 (e2 := eb) (kt := fun _ => next) (kf := fun z3 => absurd ⟨⟨z1, z2⟩, z3⟩ hp')
      · intro hnone o6
        refine s_21_29 (kt := fun _ => s_21_85 ?_) (kf := fun z => absurd (by rw [s2]; exact nI_le (Nat.le_refl _) s5) z)
        rw [nI_1, List.findSome?_cons, hnone]
        exact ih (i + 1) _ _ _ (by omega)
  have := this zs.length 0 none none none (by omega)
  rw [nI_0, List.drop_zero] at this
  exact this
theorem m_copiesAt {a : Nat} {s : Int32} {zs : List (Nat × List Nat)} (hl : lgZ g h a zs) : EvI g P 23 [va_rf (some a), .int s] h (fun h' r => h' = h ∧ r = zs.foldl (fun t z => t + shrB (hI h 523 z.1) s) 0) := by
  have hsg := hl.2
  obtain ⟨-, -, -, hsg⟩ := hsg
  obtain ⟨k1, hlen, l, k2, kl, hsz, hgt⟩ := hl.calls (P := P)
  refine e_23 (s_23_0 ?_)
  have := fold_loop zs (fun t z => t + shrB (hI h 523 z.1) s) (fun i t => Ev g P 23 4 [some (va_rf (some a)), some (.int s), some (.int t), some (.int (nI i))] [] h (fun h' r => ∃ x, r = some (.int x) ∧ h' = h ∧ x = zs.foldl (fun t z => t + shrB (hI h 523 z.1) s) 0)) ?_ 0 ?_
  · rw [nI_0] at this
    exact this
  · intro i t hi kn
    refine s_23_4 (hc := hsz) (kk := fun h' x ⟨e1, e2⟩ => ?_)
    subst e1; subst e2
    refine s_23_12 (kt := fun z => absurd z (nI_ge hi hlen)) (kf := fun _ => ?_)
    refine s_23_15 (hc := hgt i hi) (kk := fun h' x ⟨e1, e2⟩ => ?_)
    subst e1; subst e2
    have hs := hsg zs[i] (List.getElem_mem hi)
    refine s_23_24 (c1 := fun b eb => by cases eb; exact hs.1) (k4 := hs.1) (kk := ?_)
    rw [nI_1]
    exact kn
  · refine s_23_4 (hc := hsz) (kk := fun h' x ⟨e1, e2⟩ => ?_)
    subst e1; subst e2
    exact s_23_12 (kt := fun _ => s_23_42 ⟨_, rfl, rfl, rfl⟩) (kf := fun z => absurd (nI_le (Nat.le_refl _) hlen) z)
end LOG
