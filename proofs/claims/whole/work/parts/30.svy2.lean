/-! the Survey begins anew; whether a PART is LIVE -/
theorem cnt_loop (n : Nat) (I E : Nat → hpT → Prop) (hs : ∀ i h, i < n → I i h → (∀ h', I (i + 1) h' → E (i + 1) h') → E i h) (he : ∀ h, I n h → E n h) (h : hpT) (h0 : I 0 h) : E 0 h := by
  have : ∀ d i, i + d = n → ∀ h, I i h → E i h := by
    intro d
    induction d with
    | zero =>
      intro i hi h k
      have e : i = n := by omega
      subst e
      exact he h k
    | succ d ih =>
      intro i hi h k
      exact hs i h (by omega) k (fun h' k' => ih (i + 1) (by omega) h' k')
  exact this n 0 (by omega) h h0
def bg0 (S : syT) : Prop := (∀ i, i < 6 → S.1 i = 1 ∧ S.2.1 i = 0) ∧ (∀ i, i < 64 → S.2.2.1 i = 0 ∧ S.2.2.2.1 i = none) ∧ S.2.2.2.2 = 0
def lOK (h : hpT) (q : Nat) : Prop := ∀ s, hR h 395 q = some s → hK h s = 9
def goneF (h : hpT) (q : Nat) : Int32 := match hR h 395 q with
  | none => 0
  | some s => if hI h 524 s = 0 then 1 else 0
def livF (h : hpT) (q : Nat) (S : syT) : Int32 × syT :=
  if hI h 384 q = 2 then (if hI h 393 q = S.2.2.1 (hI h 390 q).toNatClampNeg then 1 else 0, S)
  else if hI h 384 q = 3 then (goneF h q, S)
  else if hI h 384 q = 4 then (if hI h 389 q < S.1 (hI h 388 q).toNatClampNeg then 0 else 1, S)
  else if ¬ hI h 384 q = 1 then (0, S)
  else if ¬ hI h 394 q = S.1 (hI h 388 q).toNatClampNeg then (0, S)
  else if ¬ S.2.1 (hI h 388 q).toNatClampNeg = 0 then (0, S)
  else (1, S.1, u1 S.2.1 (hI h 388 q).toNatClampNeg 1, S.2.2)
section SVY
variable {g : gcT} {P : pmT} {v q : Nat} {R : arT}
theorem m_begin {h : hpT} (w : hWF h) (k : svA h v R) : EvV g P 57 [va_rf (some v)] h (fun h' => ∃ S, bg0 S ∧ svC v R S h h') := by
  have k0 := k
  obtain ⟨k1, k2, k3, k4, k5, k6, k7, k8, k9, k10, k11, k12, k13⟩ := k
  have lv : v < hS h := w.lt (by omega)
  have l1 : R.1 < hS h := w.lt (by omega)
  have l2 : R.2.1 < hS h := w.lt (by omega)
  have l3 : R.2.2.1 < hS h := w.lt (by omega)
  have l4 : R.2.2.2.1 < hS h := w.lt (by omega)
  have c0 := (Ch.wI (f := 709) (a := v) w 0 lv).mono (B := svS v R) (fun a _ z => by unfold svS; simp [z]) (Nat.le_refl _) (Nat.le_refl _)
  refine e_57 (s_57_0 (kk := ?_))
  have n12 : ¬ R.1 = R.2.1 := kinds_ne (h := h) (by omega)
  have n23 : ¬ R.2.1 = R.2.2.1 := kinds_ne (h := h) (by omega)
  have lp2 : ∀ h1, (svA h1 v R ∧ Ch (svS v R) 0 0 h h1 ∧ hR h1 = hR h ∧ hI h1 709 v = 0 ∧ ∀ j, j < 6 → hA h1 R.1 j = 1 ∧ hA h1 R.2.1 j = 0) → Ev g P 57 38 [some (va_rf (some v)), some (.int 0)] [] h1 (fun h' x => x = none ∧ ∃ S, bg0 S ∧ svC v R S h h') := by
    intro h1 hh1
    have := cnt_loop 64 (fun i h1 => svA h1 v R ∧ Ch (svS v R) 0 0 h h1 ∧ hR h1 = hR h ∧ hI h1 709 v = 0 ∧ (∀ j, j < 6 → hA h1 R.1 j = 1 ∧ hA h1 R.2.1 j = 0) ∧ ∀ j, j < i → hA h1 R.2.2.1 j = 0 ∧ hB h1 R.2.2.2.1 j = none) (fun i h1 => Ev g P 57 38 [some (va_rf (some v)), some (.int (nI i))] [] h1 (fun h' x => x = none ∧ ∃ S, bg0 S ∧ svC v R S h h')) ?_ ?_ h1 ?_
    · rw [nI_0] at this; exact this
    · intro i h1 hi ⟨a1, a2, a3, a4, a5, a6⟩ kn
      obtain ⟨k1, k2, k3, k4, k5, k6, k7, k8, k9, k10, k11, k12, k13⟩ := a1
      have ei : (nI i).toNatClampNeg = i := nI_clamp (by omega)
      refine s_57_38 (e5 := k4) (k7 := k9.1) (kt := fun z => absurd z (by rw [k9.2]; exact nI_ge hi (by omega))) (kf := fun _ => ?_)
      refine s_57_47 (e5 := k4) (k6 := k9.1) (i7 := by rw [k9.2]; exact vin_nI hi (by omega)) (e9 := k5) (k10 := k10.1) (i11 := by rw [k10.2]; exact vin_nI hi (by omega)) (kk := ?_)
      rw [ei, nI_1]
      have c1 := Ch.wA (a := R.2.2.1) (i := i) a2.2.2.1 0 (Nat.lt_of_lt_of_le l3 a2.1.1)
      have c2 := Ch.wB (a := R.2.2.2.1) (i := i) c1.2.2.1 none (Nat.lt_of_lt_of_le l4 a2.1.1)
      have cc := (c1.tr c2).mono (B := svS v R) (fun a _ z => by unfold svS; rcases z with z | z <;> simp [z]) (Nat.le_refl _) (Nat.le_refl _)
      have c3 := (a2.tr cc).mono (B := svS v R) (fun _ _ z => z.elim id id) (Nat.le_refl _) (Nat.le_refl _)
      refine kn _ ⟨k0.ch w c3 (fun f => congrFun (congrFun a3 f) v), c3, a3, a4, fun j hj => ?_, fun j hj => ?_⟩
      · show hA (hpA h1 R.2.2.1 i 0) R.1 j = 1 ∧ hA (hpA h1 R.2.2.1 i 0) R.2.1 j = 0
        rw [hA_u, hA_u, if_neg k12, if_neg n23]
        exact a5 j hj
      · show hA (hpA h1 R.2.2.1 i 0) R.2.2.1 j = 0 ∧ hB (hpB (hpA h1 R.2.2.1 i 0) R.2.2.2.1 i none) R.2.2.2.1 j = none
        rw [hA_u, hB_u, if_pos rfl, if_pos rfl]
        show (if j = i then (0 : Int32) else hA h1 R.2.2.1 j) = 0 ∧ (if j = i then none else hB h1 R.2.2.2.1 j) = none
        by_cases e : j = i
        · rw [if_pos e, if_pos e]; exact ⟨rfl, rfl⟩
        · rw [if_neg e, if_neg e]; exact a6 j (by omega)
    · intro h1 ⟨a1, a2, a3, a4, a5, a6⟩
      have a1' := a1
      obtain ⟨k1, k2, k3, k4, k5, k6, k7, k8, k9, k10, k11, k12, k13⟩ := a1
      refine s_57_38 (e5 := k4) (k7 := k9.1) (kt := fun _ => s_57_67 ⟨rfl, syOf h1 v R, ⟨a5, a6, a4⟩, a1', rfl, a2, a3⟩) (kf := fun z => absurd (by rw [k9.2]; exact nI_le (Nat.le_refl _) (by omega)) z)
    · obtain ⟨a1, a2, a3, a4, a5⟩ := hh1
      exact ⟨a1, a2, a3, a4, a5, fun j hj => absurd hj (Nat.not_lt_zero _)⟩
  have := cnt_loop 6 (fun i h1 => svA h1 v R ∧ Ch (svS v R) 0 0 h h1 ∧ hR h1 = hR h ∧ hI h1 709 v = 0 ∧ ∀ j, j < i → hA h1 R.1 j = 1 ∧ hA h1 R.2.1 j = 0) (fun i h1 => Ev g P 57 7 [some (va_rf (some v)), some (.int (nI i))] [] h1 (fun h' x => x = none ∧ ∃ S, bg0 S ∧ svC v R S h h')) ?_ ?_ (hpI h 709 v 0) ?_
  · rw [nI_0] at this; exact this
  · intro i h1 hi ⟨a1, a2, a3, a4, a5⟩ kn
    obtain ⟨k1, k2, k3, k4, k5, k6, k7, k8, k9, k10, k11, k12, k13⟩ := a1
    have ei : (nI i).toNatClampNeg = i := nI_clamp (by omega)
    refine s_57_7 (e5 := k2) (k7 := k7.1) (kt := fun z => absurd z (by rw [k7.2]; exact nI_ge hi (by omega))) (kf := fun _ => ?_)
    refine s_57_16 (e5 := k2) (k6 := k7.1) (i7 := by rw [k7.2]; exact vin_nI hi (by omega)) (e9 := k3) (k10 := k8.1) (i11 := by rw [k8.2]; exact vin_nI hi (by omega)) (kk := ?_)
    rw [ei, nI_1]
    have c1 := Ch.wA (a := R.1) (i := i) a2.2.2.1 1 (Nat.lt_of_lt_of_le l1 a2.1.1)
    have c2 := Ch.wA (a := R.2.1) (i := i) c1.2.2.1 0 (Nat.lt_of_lt_of_le l2 a2.1.1)
    have cc := (c1.tr c2).mono (B := svS v R) (fun a _ z => by unfold svS; rcases z with z | z <;> simp [z]) (Nat.le_refl _) (Nat.le_refl _)
    have c3 := (a2.tr cc).mono (B := svS v R) (fun _ _ z => z.elim id id) (Nat.le_refl _) (Nat.le_refl _)
    refine kn _ ⟨k0.ch w c3 (fun f => congrFun (congrFun a3 f) v), c3, a3, a4, fun j hj => ?_⟩
    rw [hA_u, if_neg n12, hA_u, if_pos rfl, hA_u, if_pos rfl, hA_u, if_neg (fun e => n12 e.symm)]
    show (if j = i then (1 : Int32) else hA h1 R.1 j) = 1 ∧ (if j = i then (0 : Int32) else hA h1 R.2.1 j) = 0
    by_cases e : j = i
    · rw [if_pos e, if_pos e]; exact ⟨rfl, rfl⟩
    · rw [if_neg e, if_neg e]; exact a5 j (by omega)
  · intro h1 ⟨a1, a2, a3, a4, a5⟩
    have a1' := a1
    obtain ⟨k1, k2, k3, k4, k5, k6, k7, k8, k9, k10, k11, k12, k13⟩ := a1
    exact s_57_7 (e5 := k2) (k7 := k7.1) (kt := fun _ => s_57_36 (lp2 h1 ⟨a1', a2, a3, a4, a5⟩)) (kf := fun z => absurd (by rw [k7.2]; exact nI_le (Nat.le_refl _) (by omega)) z)
  · exact ⟨k0.ch w c0 (fun _ => rfl), c0, rfl, by rw [rI_I, if_pos ⟨rfl, rfl⟩], fun j hj => absurd hj (Nat.not_lt_zero _)⟩
theorem m_isLive {h : hpT} (w : hWF h) (k : svA h v R) (hq : pOK h q) (hl : lOK h q) : EvI g P 60 [va_rf (some v), va_rf (some q)] h (fun h' x => x = (livF h q (syOf h v R)).1 ∧ (x = 0 ∨ x = 1) ∧ svC v R (livF h q (syOf h v R)).2 h h') := by
  have k0 := k
  have hq0 := hq
  obtain ⟨k1, k2, k3, k4, k5, k6, k7, k8, k9, k10, k11, k12, k13⟩ := k
  obtain ⟨q1, q2, q3⟩ := hq
  refine e_60 (s_60_0 (k3 := q1.1) (kt := fun z2 => ?_) (kf := fun z => ?_))
  · refine s_60_30 (k3 := q1.1) (kt := fun z3 => ?_) (kf := fun z3 => ?_)
    · refine s_60_61 (k3 := q1.1) (kt := fun z4 => ?_) (kf := fun z4 => ?_)
      · refine s_60_91 (k3 := q1.1) (kt := fun z5 => s_60_127 ⟨_, rfl, ?_⟩) (kf := fun z5 => ?_)
        · have e : livF h q (syOf h v R) = (0, syOf h v R) := by unfold livF; rw [if_neg z2, if_neg z3, if_neg z4, if_pos z5]
          rw [e]; exact ⟨rfl, Or.inl rfl, svC.rf w k0⟩
        · have hv := q2 (by rw [q1.2.2.2, z5]; decide)
          refine s_60_99 (k3 := q1.1) (e8 := k2) (k9 := k7.1) (i10 := by rw [k7.2]; exact hv) (kt := fun z6 => s_60_127 ⟨_, rfl, ?_⟩) (kf := fun z6 => ?_)
          · have e : livF h q (syOf h v R) = (0, syOf h v R) := by unfold livF; rw [if_neg z2, if_neg z3, if_neg z4, if_neg (not_not_intro z5)]; exact if_pos z6
            rw [e]; exact ⟨rfl, Or.inl rfl, svC.rf w k0⟩
          · refine s_60_115 (k3 := k1) (k6 := q1.1) (e8 := k3) (k9 := k8.1) (i10 := by rw [k8.2]; exact hv) (kt := fun z7 => ?_) (kf := fun z7 => s_60_127 ⟨_, rfl, ?_⟩)
            · refine s_60_129 (k3 := k1) (k6 := q1.1) (e8 := k3) (k9 := k8.1) (i10 := by rw [k8.2]; exact hv) (hq := ⟨_, rfl, ?_⟩)
              have e : livF h q (syOf h v R) = (1, (syOf h v R).1, u1 (syOf h v R).2.1 (hI h 388 q).toNatClampNeg 1, (syOf h v R).2.2) := by unfold livF; rw [if_neg z2, if_neg z3, if_neg z4, if_neg (not_not_intro z5), if_neg (not_not_intro (show hI h 394 q = (syOf h v R).1 _ from z6))]; exact if_neg (not_not_intro z7)
              rw [e]
              have c1 := Ch.wA (a := R.2.1) (i := (hI h 388 q).toNatClampNeg) w 1 (w.lt (by omega))
              have cc := c1.mono (B := svS v R) (fun a _ z => by unfold svS; simp [z]) (Nat.le_refl _) (Nat.le_refl _)
              refine ⟨rfl, Or.inr rfl, k0.ch w cc (fun _ => rfl), ?_, cc, rfl⟩
              unfold syOf
              rw [hA_u, hA_u, hA_u, if_neg (kinds_ne (h := h) (by omega)), if_pos rfl, if_neg (kinds_ne (h := h) (by omega))]
              rfl
            · have e : livF h q (syOf h v R) = (0, syOf h v R) := by unfold livF; rw [if_neg z2, if_neg z3, if_neg z4, if_neg (not_not_intro z5), if_neg (not_not_intro (show hI h 394 q = (syOf h v R).1 _ from z6))]; exact if_pos z7
              rw [e]; exact ⟨rfl, Or.inl rfl, svC.rf w k0⟩
      · have hv := q2 (by rw [q1.2.2.2, z4]; decide)
        have e : livF h q (syOf h v R) = (if hI h 389 q < hA h R.1 (hI h 388 q).toNatClampNeg then 0 else 1, syOf h v R) := by unfold livF; rw [if_neg z2, if_neg z3, if_pos z4]; rfl
        rw [e]
        refine s_60_69 (k3 := q1.1) (e8 := k2) (k9 := k7.1) (i10 := by rw [k7.2]; exact hv) (kt := fun z => s_60_89 (s_60_90 (b1 := Or.inl rfl) (hq := ⟨_, rfl, (if_pos z).symm, Or.inl rfl, svC.rf w k0⟩))) (kf := fun z => s_60_85 (s_60_90 (b1 := Or.inr rfl) (hq := ⟨_, rfl, (if_neg z).symm, Or.inr rfl, svC.rf w k0⟩)))
    · have e : livF h q (syOf h v R) = (goneF h q, syOf h v R) := by unfold livF; rw [if_neg z2, if_pos z3]
      rw [e]
      refine s_60_38 (k3 := q1.1) (kt := fun z => s_60_59 (s_60_60 (b1 := Or.inl rfl) (hq := ⟨_, rfl, ?_, Or.inl rfl, svC.rf w k0⟩))) (kf := fun z => ?_)
      · unfold goneF; rw [z]
      · obtain ⟨s, hs⟩ := Option.ne_none_iff_exists'.mp z
        refine s_60_45 (k3 := q1.1) (e5 := hs) (k6 := hl s hs) (kt := fun z => s_60_59 (s_60_60 (b1 := Or.inl rfl) (hq := ⟨_, rfl, ?_, Or.inl rfl, svC.rf w k0⟩))) (kf := fun z => s_60_55 (s_60_60 (b1 := Or.inr rfl) (hq := ⟨_, rfl, ?_, Or.inr rfl, svC.rf w k0⟩)))
        · unfold goneF; rw [hs]; exact (if_neg z).symm
        · unfold goneF; rw [hs]; exact (if_pos z).symm
  · have hv := q3 (by rw [q1.2.2.1, z]; decide)
    have e : livF h q (syOf h v R) = (if hI h 393 q = hA h R.2.2.1 (hI h 390 q).toNatClampNeg then 1 else 0, syOf h v R) := by unfold livF; rw [if_pos z]; rfl
    rw [e]
    exact s_60_8 (k3 := q1.1) (e8 := k4) (k9 := k9.1) (i10 := by rw [k9.2]; exact hv) (kt := fun z => s_60_28 (s_60_29 (b1 := Or.inl rfl) (hq := ⟨_, rfl, (if_neg z).symm, Or.inl rfl, svC.rf w k0⟩))) (kf := fun z => s_60_24 (s_60_29 (b1 := Or.inr rfl) (hq := ⟨_, rfl, (if_pos z).symm, Or.inr rfl, svC.rf w k0⟩)))
end SVY
