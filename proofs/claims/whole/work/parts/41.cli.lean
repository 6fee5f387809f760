/-! Storage.write; the clients -/
section WR
variable {g : gcT} {P : pmT} {N U a s L : Nat} {T : svT} {h : hpT}
theorem m_write0 {r2 r3 : Option Nat} {x : Int32} (ks : hK h s = 10) (hl : hR h 584 s = some L) (kL : hK h L = 5) (hh : hR h 257 L = none) : EvV g P 52 [va_rf (some a), va_rf (some s), va_rf r2, va_rf r3, .int x] h (fun h' => h' = h) := e_52 (s_52_0 (k3 := ks) (e5 := hl) (k6 := kL) (kt := fun _ => s_52_47 ⟨rfl, rfl⟩) (kf := fun z => absurd hh z))
theorem m_write {r1 : Option Nat} {q c : Nat} {cut : Int32} (w : hWF h) (ka : hK h a = 11) (ks : hK h s = 10) (hl : hR h 584 s = some L) (kL : hK h L = 5) (hh : hR h 257 L = some T.1) (kT : sgX h N U T) (hq1 : ∀ p, r1 = some p → ptK h p) (hq : ptK h q) (hn : (zPs T).length + (r1.toList ++ [q]).length ≤ U) (hcut : (cut = -1 ∧ c = T.2.2.2.2.2.length) ∨ (¬ cut = -1 ∧ cut = nI c ∧ c < 2 ^ 31)) : EvV g P 52 [va_rf (some a), va_rf (some s), va_rf r1, va_rf (some q), .int cut] h (fun h' => ∃ h1, entH h T.1 N U T.2.1 T.2.2.1 T.2.2.2.1 T.2.2.2.2.1 T.2.2.2.2.2 (r1.toList ++ [q]) c h1 ∧ h' = hpI h1 650 a (hI h1 650 a + 1)) := by
  have kh : hK h T.1 = 9 := kT.1.1
  have h522 : hI h 522 T.1 = nI T.2.2.2.2.2.length := kT.2.2.2.2.1
  have hlN := kT.2.2.2.2.2.1
  have hNb := kT.1.2.2.2.2.2.2.2.2.2.2.2.2.2.2.2
  have hcb : c < 2 ^ 31 := by rcases hcut with ⟨-, q⟩ | ⟨-, -, q⟩ <;> omega
  have hadd : EvV g P 35 [va_rf (some T.1), va_rf r1, va_rf (some q), .int (nI c)] h (fun h' => entH h T.1 N U T.2.1 T.2.2.1 T.2.2.2.1 T.2.2.2.2.1 T.2.2.2.2.2 (r1.toList ++ [q]) c h') := by
    cases r1 with
    | none => exact m_addEntry1 w kT hq hn hcb
    | some p => exact m_addEntry2 w kT (hq1 p rfl) hq hn hcb
  refine e_52 (s_52_0 (k3 := ks) (e5 := hl) (k6 := kL) (kt := fun z => absurd (hh.symm.trans z) (by intro e; cases e)) (kf := fun _ => ?_))
  rw [hh]
  have fin : Ev g P 52 34 [some (va_rf (some a)), some (va_rf (some s)), some (va_rf r1), some (va_rf (some q)), some (.int cut), some (va_rf (some T.1))] [.int (nI c), va_rf (some q), va_rf r1, va_rf (some T.1)] h (fun h' x => x = none ∧ ∃ h1, entH h T.1 N U T.2.1 T.2.2.1 T.2.2.2.1 T.2.2.2.2.1 T.2.2.2.2.2 (r1.toList ++ [q]) c h1 ∧ h' = hpI h1 650 a (hI h1 650 a + 1)) := by
    refine s_52_34 (k3 := kh) (hc := hadd) (kk := fun h1 k1 => ?_)
    have ka1 : hK h1 a = 11 := by rw [(k1.2.1.2.1 a (w.lt (by omega))).1]; exact ka
    exact s_52_37 (k3 := ka1) (kk := s_52_47 ⟨rfl, h1, k1, rfl⟩)
  refine s_52_14 (kt := fun z => s_52_32 ?_) (kf := fun z => s_52_24 (k3 := kh) (kk := ?_))
  · rcases hcut with ⟨q1, -⟩ | ⟨-, q2, -⟩
    · exact absurd q1 z
    · rw [q2] at fin ⊢; exact fin
  · rcases hcut with ⟨-, q2⟩ | ⟨q1, -⟩
    · rw [h522, ← q2]; exact fin
    · exact absurd z q1
end WR
section CLI
variable {g : gcT} {P : pmT} {c rq an used : Nat} {h : hpT}
/-- a client: its rows, how many numbers it used -/
def clV (h : hpT) (c rq an used : Nat) : Prop := hK h c = 3 ∧ hR h 128 c = some rq ∧ hR h 129 c = some an ∧ hK h rq = 26 ∧ hN h rq = 40 ∧ hK h an = 22 ∧ hN h an = 40 ∧ hI h 130 c = nI used ∧ used ≤ 40
def loN (h : hpT) (an used : Nat) : Nat := ((List.range used).find? (fun i => (hB h an i).isNone)).getD used + 1
theorem m_leastOpen (k : clV h c rq an used) : EvI g P 4 [va_rf (some c)] h (fun h' r => h' = h ∧ r = nI (loN h an used)) := by
  obtain ⟨k1, k2, k3, k4, k5, k6, k7, k8, k9⟩ := k
  refine e_4 (s_4_0 ?_)
  have lp := find_loop (List.range used) (fun i => (hB h an i).isNone) (fun i => Ev g P 4 2 [some (va_rf (some c)), some (.int (nI i))] [] h (fun h' r => ∃ x, r = some (.int x) ∧ h' = h ∧ x = nI (loN h an used))) (fun i => (List.range used).find? (fun i => (hB h an i).isNone) = some i) ?_ ?_ (fun _ e => e) ?_
  · rw [nI_0] at lp; exact lp
  · intro i hi hp hf
    rw [List.getElem_range] at hp hf
    rw [List.length_range] at hi
    have hp : hB h an i = none := by simpa using hp
    have ei : (nI i).toNatClampNeg = i := nI_clamp (by omega)
    refine s_4_2 (k3 := k1) (kt := fun z => absurd z (by rw [k8]; exact nI_ge hi (by omega))) (kf := fun _ => ?_)
    refine s_4_10 (k3 := k1) (e5 := k3) (k6 := k6) (i7 := by rw [k7]; exact vin_nI (by omega) (by omega)) (kt := fun z => absurd (by rw [ei]; exact hp) z) (kf := fun _ => s_4_19 ⟨_, rfl, rfl, ?_⟩)
    rw [nI_1]; unfold loN; rw [hf]; rfl
  · intro i hi hp kn
    rw [List.getElem_range] at hp
    rw [List.length_range] at hi
    have hp : ¬ hB h an i = none := by intro q; rw [q] at hp; cases hp
    have ei : (nI i).toNatClampNeg = i := nI_clamp (by omega)
    refine s_4_2 (k3 := k1) (kt := fun z => absurd z (by rw [k8]; exact nI_ge hi (by omega))) (kf := fun _ => ?_)
    refine s_4_10 (k3 := k1) (e5 := k3) (k6 := k6) (i7 := by rw [k7]; exact vin_nI (by omega) (by omega)) (kt := fun _ => s_4_23 ?_) (kf := fun z => absurd (by rw [ei] at z; exact z) hp)
    rw [nI_1]; exact kn
  · intro hn
    rw [List.length_range]
    refine s_4_2 (k3 := k1) (kt := fun _ => s_4_29 (k3 := k1) (hq := ⟨_, rfl, rfl, ?_⟩)) (kf := fun z => absurd (by rw [k8]; exact nI_le (Nat.le_refl _) (by omega)) z)
    rw [k8, nI_1]; unfold loN; rw [hn]; rfl
theorem m_keep (k : clV h c rq an used) (hu : used < 40) {q : Nat} (hq : hK h q = 8) : EvV g P 2 [va_rf (some c), va_rf (some q)] h (fun h' => h' = hpI (hpB h rq used (some q)) 130 c (nI (used + 1))) := by
  obtain ⟨k1, k2, k3, k4, k5, k6, k7, k8, k9⟩ := k
  have ec : (hI h 130 c).toNatClampNeg = used := by rw [k8]; exact nI_clamp (by omega)
  refine e_2 (s_2_0 (k3 := k1) (e5 := k2) (k7 := k4) (kt := fun z => absurd z (by rw [k5, k8]; exact nI_ge hu (by omega))) (kf := fun _ => s_2_12 (k3 := k1) (e5 := k2) (k6 := k4) (i7 := by rw [k5, k8]; exact vin_nI hu (by omega)) (c8 := fun b e => by cases e; rw [hq]; decide) (kk := s_2_32 ⟨rfl, ?_⟩)))
  rw [ec, k8, nI_1]
theorem m_take (k : clV h c rq an used) {n q : Nat} (h1 : 1 ≤ n) (h2 : n ≤ 40) (hq : hK h q = 2) : EvI g P 3 [va_rf (some c), .int (nI n), va_rf (some q)] h (fun h' r => if hI h 64 q = 3 ∨ hI h 64 q = 4 then h' = h ∧ r = 6 else if hB h an (n - 1) = none then h' = hpB h an (n - 1) (some q) ∧ r = 4 else h' = h ∧ r = 5) := by
  obtain ⟨k1, k2, k3, k4, k5, k6, k7, k8, k9⟩ := k
  have em : nI n - 1 = nI (n - 1) := by
    have := nI_1 (n - 1)
    rw [show n - 1 + 1 = n from by omega] at this
    rw [← this, Int32.add_sub_cancel]
  have ec : (nI (n - 1)).toNatClampNeg = n - 1 := nI_clamp (by omega)
  have hv : vinD (nI n - 1) (hN h an) := by rw [em, k7]; exact vin_nI (by omega) (by omega)
  refine e_3 (s_3_0 (k3 := hq) (kt := fun z => s_3_16 ⟨_, rfl, ?_⟩) (kf := fun z => s_3_8 (k3 := hq) (kt := fun z' => ?_) (kf := fun z' => s_3_16 ⟨_, rfl, ?_⟩)))
  · rw [if_pos (Or.inl z)]; exact ⟨rfl, rfl⟩
  · have nn : ¬ (hI h 64 q = 3 ∨ hI h 64 q = 4) := by rintro (e | e) <;> contradiction
    refine s_3_19 (kt := fun y => absurd y ?_) (kf := fun _ => s_3_24 (k3 := k1) (e5 := k3) (k7 := k6) (kt := fun y => absurd y ?_) (kf := fun _ => s_3_33 (k3 := k1) (e5 := k3) (k6 := k6) (i7 := hv) (kt := fun y => s_3_46 (k3 := k1) (e5 := k3) (k6 := k6) (i7 := hv) (c8 := fun b e => by cases e; rw [hq]; decide) (hq := ⟨_, rfl, ?_⟩)) (kf := fun y => s_3_44 ⟨_, rfl, ?_⟩)))
    · intro y
      have : nI 1 ≤ nI n := nI_le h1 (by omega)
      exact absurd y (Int32.not_lt.mpr this)
    · intro y
      rw [k7] at y
      exact absurd y (Int32.not_lt.mpr (nI_le h2 (by omega)))
    · rw [em, ec] at y ⊢
      rw [if_neg nn, if_pos y]; exact ⟨rfl, rfl⟩
    · rw [em, ec] at y
      rw [if_neg nn, if_neg y]; exact ⟨rfl, rfl⟩
  · rw [if_pos (Or.inr z')]; exact ⟨rfl, rfl⟩
end CLI
