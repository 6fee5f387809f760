/-! small helpers of the face -/
def nearF (v lo hi : Int32) : Int32 := if lo < (if v < hi then v else hi) then (if v < hi then v else hi) else lo
def inF (x n : Int32) : Int32 := if x < 0 then 0 else if n ≤ x then 0 else 1
theorem inF_1 {x : Int32} {n : Nat} (hn : n < 2 ^ 31) (e : ¬ inF x (nI n) = 0) : ∃ j, j < n ∧ x = nI j := by
  unfold inF at e
  by_cases h0 : x < 0
  · rw [if_pos h0] at e; exact absurd rfl e
  · by_cases h1 : nI n ≤ x
    · rw [if_neg h0, if_pos h1] at e; exact absurd rfl e
    · obtain ⟨j, h2, h3, -⟩ := pk_mu h0 h1 hn
      exact ⟨j, h2, h3⟩
section FACE
variable {g : gcT} {P : pmT} {h : hpT} {a : Nat}
theorem m_nearest {x y z : Int32} : EvI g P 88 [.int x, .int y, .int z] h (fun h' r => h' = h ∧ r = nearF x y z) := by
  refine e_88 (s_88_0 (hc := m_185 z x) (kk := fun h1 v ⟨e1, e2⟩ => ?_))
  subst e1; subst e2
  refine s_88_6 (hc := m_184 y _) (kk := fun h2 v ⟨e1, e2⟩ => s_88_9 ⟨_, rfl, e1, e2⟩)
theorem m_tabletOf {x : Int32} : EvI g P 89 [.int x] h (fun h' r => h' = h ∧ r = x / 8) := e_89 (s_89_0 ⟨_, rfl, rfl, rfl⟩)
theorem m_isClient {x : Int32} : EvI g P 90 [.int x] h (fun h' r => h' = h ∧ r = inF x 6) := by
  unfold inF
  exact e_90 (s_90_0 (kt := fun z => s_90_14 (s_90_15 (b1 := Or.inl rfl) (hq := ⟨_, rfl, rfl, (if_pos z).symm⟩))) (kf := fun z => s_90_4 (kt := fun z' => s_90_14 (s_90_15 (b1 := Or.inl rfl) (hq := ⟨_, rfl, rfl, by rw [if_neg z, if_pos z']⟩))) (kf := fun z' => s_90_10 (s_90_15 (b1 := Or.inr rfl) (hq := ⟨_, rfl, rfl, by rw [if_neg z, if_neg z']⟩)))))
theorem m_isKey {x : Int32} : EvI g P 91 [.int x] h (fun h' r => h' = h ∧ r = inF x 64) := by
  unfold inF
  exact e_91 (s_91_0 (kt := fun z => s_91_14 (s_91_15 (b1 := Or.inl rfl) (hq := ⟨_, rfl, rfl, (if_pos z).symm⟩))) (kf := fun z => s_91_4 (kt := fun z' => s_91_14 (s_91_15 (b1 := Or.inl rfl) (hq := ⟨_, rfl, rfl, by rw [if_neg z, if_pos z']⟩))) (kf := fun z' => s_91_10 (s_91_15 (b1 := Or.inr rfl) (hq := ⟨_, rfl, rfl, by rw [if_neg z, if_neg z']⟩)))))
theorem m_isServer {b e : Nat} {x : Int32} (ka : hK h a = 13) (hb : hR h 768 a = some b) (kb : hK h b = 11) (he : hR h 643 b = some e) (ke : hK h e = 27) : EvI g P 92 [va_rf (some a), .int x] h (fun h' r => h' = h ∧ r = inF x (nI (hN h e))) := by
  unfold inF
  exact e_92 (s_92_0 (kt := fun z => s_92_20 (s_92_21 (b1 := Or.inl rfl) (hq := ⟨_, rfl, rfl, (if_pos z).symm⟩))) (kf := fun z => s_92_4 (k10 := ke) (kt := fun z' => s_92_20 (s_92_21 (b1 := Or.inl rfl) (hq := ⟨_, rfl, rfl, by rw [if_neg z, if_pos z']⟩))) (kf := fun z' => s_92_16 (s_92_21 (b1 := Or.inr rfl) (hq := ⟨_, rfl, rfl, by rw [if_neg z, if_neg z']⟩)))))
/-- the place's message, if there is one -/
def msgO (h : hpT) (nt : Nat) (x : Int32) : Option Nat := if x < 0 then none else if x < 40 then hB h nt x.toNatClampNeg else none
theorem m_messageAt {nt : Nat} {x : Int32} (ka : hK h a = 13) (hn : hR h 771 a = some nt) (kn : hK h nt = 24) (ln : hN h nt = 40) : EvA g P 95 [va_rf (some a), .int x] h (fun h' r => h' = h ∧ r = msgO h nt x) := by
  unfold msgO
  refine e_95 (s_95_0 (kt := fun z => s_95_13 (s_95_23 ⟨_, rfl, rfl, (if_pos z).symm⟩)) (kf := fun z => s_95_4 (k7 := kn) (kt := fun z' => ?_) (kf := fun z' => s_95_13 (s_95_23 ⟨_, rfl, rfl, ?_⟩))))
  · rw [ln] at z'
    obtain ⟨j, h2, h3, -⟩ := pk_mu (L := 40) z (Int32.not_le.mpr z') (by decide)
    refine s_95_17 (k6 := kn) (i7 := by rw [ln, h3]; exact vin_nI h2 (by decide)) (kk := s_95_23 ⟨_, rfl, rfl, ?_⟩)
    rw [if_neg z, if_pos (show x < 40 from z')]
  · rw [ln] at z'
    rw [if_neg z, if_neg (show ¬ x < 40 from z')]
/-- the first free place of the NET, or -1 -/
def freeN (h : hpT) (nt : Nat) : Int32 := match (List.range 40).find? (fun i => (hB h nt i).isNone) with
  | some i => nI i
  | none => -1
theorem m_freePlace {nt : Nat} (ka : hK h a = 13) (hn : hR h 771 a = some nt) (kn : hK h nt = 24) (ln : hN h nt = 40) : EvI g P 96 [va_rf (some a)] h (fun h' r => h' = h ∧ r = freeN h nt) := by
  refine e_96 (s_96_0 ?_)
  have lp := find_loop (List.range 40) (fun i => (hB h nt i).isNone) (fun i => Ev g P 96 2 [some (va_rf (some a)), some (.int (nI i))] [] h (fun h' r => ∃ x, r = some (.int x) ∧ h' = h ∧ x = freeN h nt)) (fun i => (List.range 40).find? (fun i => (hB h nt i).isNone) = some i) ?_ ?_ (fun _ e => e) ?_
  · rw [nI_0] at lp; exact lp
  · intro i hi hp hf
    rw [List.getElem_range] at hp hf
    rw [List.length_range] at hi
    have hp : hB h nt i = none := by simpa using hp
    have ei : (nI i).toNatClampNeg = i := nI_clamp (by omega)
    refine s_96_2 (k7 := kn) (kt := fun z => absurd z (by rw [ln]; exact nI_ge hi (by omega))) (kf := fun _ => ?_)
    refine s_96_11 (k6 := kn) (i7 := by rw [ln]; exact vin_nI (by omega) (by omega)) (kt := fun z => absurd (by rw [ei]; exact hp) z) (kf := fun _ => s_96_20 ⟨_, rfl, rfl, ?_⟩)
    unfold freeN; rw [hf]
  · intro i hi hp kn'
    rw [List.getElem_range] at hp
    rw [List.length_range] at hi
    have hp : ¬ hB h nt i = none := by intro q; rw [q] at hp; cases hp
    have ei : (nI i).toNatClampNeg = i := nI_clamp (by omega)
    refine s_96_2 (k7 := kn) (kt := fun z => absurd z (by rw [ln]; exact nI_ge hi (by omega))) (kf := fun _ => ?_)
    refine s_96_11 (k6 := kn) (i7 := by rw [ln]; exact vin_nI (by omega) (by omega)) (kt := fun _ => s_96_22 ?_) (kf := fun z => absurd (by rw [ei] at z; exact z) hp)
    rw [nI_1]; exact kn'
  · intro hn'
    rw [List.length_range]
    refine s_96_2 (k7 := kn) (kt := fun _ => s_96_28 ⟨_, rfl, rfl, ?_⟩) (kf := fun z => absurd (by rw [ln]; exact nI_le (Nat.le_refl _) (by omega)) z)
    unfold freeN; rw [hn']
def cntF (h : hpT) (nt : Nat) (t : Int32) (i : Nat) : Int32 := if hB h nt i = none then t else t + 1
theorem m_messagesInNet {nt : Nat} (ka : hK h a = 13) (hn : hR h 771 a = some nt) (kn : hK h nt = 24) (ln : hN h nt = 40) : EvI g P 98 [va_rf (some a)] h (fun h' r => h' = h ∧ r = (List.range 40).foldl (cntF h nt) 0) := by
  refine e_98 (s_98_0 ?_)
  have lp := fold_loop (List.range 40) (cntF h nt) (fun i t => Ev g P 98 4 [some (va_rf (some a)), some (.int t), some (.int (nI i))] [] h (fun h' r => ∃ x, r = some (.int x) ∧ h' = h ∧ x = (List.range 40).foldl (cntF h nt) 0)) ?_ 0 ?_
  · rw [nI_0] at lp; exact lp
  · intro i t hi kn'
    rw [List.getElem_range] at kn'
    rw [List.length_range] at hi
    have ei : (nI i).toNatClampNeg = i := nI_clamp (by omega)
    unfold cntF at kn'
    refine s_98_4 (k7 := kn) (kt := fun z => absurd z (by rw [ln]; exact nI_ge hi (by omega))) (kf := fun _ => ?_)
    refine s_98_13 (k6 := kn) (i7 := by rw [ln]; exact vin_nI (by omega) (by omega)) (kt := fun z => s_98_25 ?_) (kf := fun z => s_98_22 (s_98_25 ?_))
    · rw [ei] at z; rw [if_pos z] at kn'; rw [nI_1]; exact kn'
    · rw [ei] at z; rw [if_neg z] at kn'; rw [nI_1]; exact kn'
  · rw [List.length_range]
    exact s_98_4 (k7 := kn) (kt := fun _ => s_98_31 ⟨_, rfl, rfl, rfl⟩) (kf := fun z => absurd (by rw [ln]; exact nI_le (Nat.le_refl _) (by omega)) z)
/-- how many TABLETS a SERVER (or -1) has by the MAP -/
def tabF (h : hpT) (ow : Nat) (x : Int32) (t : Int32) (i : Nat) : Int32 := if hA h ow i = x then t + 1 else t
theorem m_tabletsOf {ow : Nat} {x : Int32} (ka : hK h a = 4) (hn : hR h 193 a = some ow) (kn : hK h ow = 20) (ln : hN h ow = 8) : EvI g P 6 [va_rf (some a), .int x] h (fun h' r => h' = h ∧ r = (List.range 8).foldl (tabF h ow x) 0) := by
  refine e_6 (s_6_0 ?_)
  have lp := fold_loop (List.range 8) (tabF h ow x) (fun i t => Ev g P 6 4 [some (va_rf (some a)), some (.int x), some (.int t), some (.int (nI i))] [] h (fun h' r => ∃ y, r = some (.int y) ∧ h' = h ∧ y = (List.range 8).foldl (tabF h ow x) 0)) ?_ 0 ?_
  · rw [nI_0] at lp; exact lp
  · intro i t hi kn'
    rw [List.getElem_range] at kn'
    rw [List.length_range] at hi
    have ei : (nI i).toNatClampNeg = i := nI_clamp (by omega)
    unfold tabF at kn'
    refine s_6_4 (k7 := kn) (kt := fun z => absurd z (by rw [ln]; exact nI_ge hi (by omega))) (kf := fun _ => ?_)
    refine s_6_13 (k6 := kn) (i7 := by rw [ln]; exact vin_nI (by omega) (by omega)) (kt := fun z => s_6_26 ?_) (kf := fun z => s_6_23 (s_6_26 ?_))
    · rw [ei] at z; rw [if_neg z] at kn'; rw [nI_1]; exact kn'
    · rw [ei] at z; rw [if_pos z] at kn'; rw [nI_1]; exact kn'
  · rw [List.length_range]
    exact s_6_4 (k7 := kn) (kt := fun _ => s_6_32 ⟨_, rfl, rfl, rfl⟩) (kf := fun z => absurd (by rw [ln]; exact nI_le (Nat.le_refl _) (by omega)) z)
end FACE
