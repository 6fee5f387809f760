/-! the Survey -/
abbrev syT := (Nat → Int32) × (Nat → Int32) × (Nat → Int32) × (Nat → Option Nat) × Int32
def svA (h : hpT) (v : Nat) (R : arT) : Prop := hK h v = 12 ∧ hR h 704 v = some R.1 ∧ hR h 705 v = some R.2.1 ∧ hR h 706 v = some R.2.2.1 ∧ hR h 707 v = some R.2.2.2.1 ∧ hR h 708 v = some R.2.2.2.2 ∧ (hK h R.1 = 20 ∧ hN h R.1 = 6) ∧ (hK h R.2.1 = 21 ∧ hN h R.2.1 = 6) ∧ (hK h R.2.2.1 = 20 ∧ hN h R.2.2.1 = 64) ∧ (hK h R.2.2.2.1 = 25 ∧ hN h R.2.2.2.1 = 64) ∧ (hK h R.2.2.2.2 = 25 ∧ hN h R.2.2.2.2 = 240) ∧ ¬ R.1 = R.2.2.1 ∧ ¬ R.2.2.2.1 = R.2.2.2.2
def syOf (h : hpT) (v : Nat) (R : arT) : syT := (hA h R.1, hA h R.2.1, hA h R.2.2.1, hB h R.2.2.2.1, hI h 709 v)
def svS (v : Nat) (R : arT) (a : Nat) : Prop := a = v ∨ a = R.1 ∨ a = R.2.1 ∨ a = R.2.2.1 ∨ a = R.2.2.2.1
def svC (v : Nat) (R : arT) (S : syT) (h h' : hpT) : Prop := svA h' v R ∧ syOf h' v R = S ∧ Ch (svS v R) 0 0 h h' ∧ hR h' = hR h
def pOK (h : hpT) (q : Nat) : Prop := ptK h q ∧ (¬ hI h 387 q = 0 → vinD (hI h 388 q) 6) ∧ (¬ hI h 386 q = 0 → vinD (hI h 390 q) 64)
theorem hA_u {h : hpT} {a i : Nat} {v : Int32} (b : Nat) : hA (hpA h a i v) b = if b = a then u1 (hA h a) i v else hA h b := by
  funext j
  rw [rA_A]
  by_cases e : b = a
  · subst e
    rw [if_pos rfl]
    show _ = (if j = i then v else hA h b j)
    by_cases e' : j = i
    · rw [if_pos ⟨rfl, e'⟩, if_pos e']
    · rw [if_neg (fun q => e' q.2), if_neg e']
  · rw [if_neg e, if_neg (fun q => e q.1)]
theorem hB_u {h : hpT} {a i : Nat} {v : Option Nat} (b : Nat) : hB (hpB h a i v) b = if b = a then u1 (hB h a) i v else hB h b := by
  funext j
  rw [rB_B]
  by_cases e : b = a
  · subst e
    rw [if_pos rfl]
    show _ = (if j = i then v else hB h b j)
    by_cases e' : j = i
    · rw [if_pos ⟨rfl, e'⟩, if_pos e']
    · rw [if_neg (fun q => e' q.2), if_neg e']
  · rw [if_neg e, if_neg (fun q => e q.1)]
theorem svA.ch {h h' : hpT} {v : Nat} {R : arT} {A : Nat → Prop} {c m : Nat} (k : svA h v R) (w : hWF h) (x : Ch A c m h h') (er : ∀ f, hR h' f v = hR h f v) : svA h' v R := by
  have k0 := k
  obtain ⟨k1, k2, k3, k4, k5, k6, k7, k8, k9, k10, k11, k12, k13⟩ := k
  unfold svA
  rw [(x.2.1 v (w.lt (by omega))).1, er, er, er, er, er, (x.2.1 R.1 (w.lt (by omega))).1, (x.2.1 R.2.1 (w.lt (by omega))).1, (x.2.1 R.2.2.1 (w.lt (by omega))).1, (x.2.1 R.2.2.2.1 (w.lt (by omega))).1, (x.2.1 R.2.2.2.2 (w.lt (by omega))).1, (x.2.1 R.1 (w.lt (by omega))).2, (x.2.1 R.2.1 (w.lt (by omega))).2, (x.2.1 R.2.2.1 (w.lt (by omega))).2, (x.2.1 R.2.2.2.1 (w.lt (by omega))).2, (x.2.1 R.2.2.2.2 (w.lt (by omega))).2]
  exact k0
def lr1 (h : hpT) (q : Nat) (S : syT) : syT := if hI h 393 q ≤ S.2.2.2.2 then S else (S.1, S.2.1, S.2.2.1, S.2.2.2.1, hI h 393 q)
def lr2 (h : hpT) (q : Nat) (S : syT) : syT := if hI h 387 q = 0 then S else if hI h 394 q ≤ S.1 (hI h 388 q).toNatClampNeg then S else (u1 S.1 (hI h 388 q).toNatClampNeg (hI h 394 q), u1 S.2.1 (hI h 388 q).toNatClampNeg 0, S.2.2)
def lr3 (h : hpT) (q : Nat) (S : syT) : syT := if ¬ hI h 384 q = 4 then S else if ¬ hI h 394 q = S.1 (hI h 388 q).toNatClampNeg then S else (S.1, u1 S.2.1 (hI h 388 q).toNatClampNeg 1, S.2.2)
def lr4 (h : hpT) (q : Nat) (S : syT) : syT := if hI h 386 q = 0 then S else if hI h 393 q ≤ S.2.2.1 (hI h 390 q).toNatClampNeg then S else (S.1, S.2.1, u1 S.2.2.1 (hI h 390 q).toNatClampNeg (hI h 393 q), u1 S.2.2.2.1 (hI h 390 q).toNatClampNeg (if hI h 384 q = 2 then some q else none), S.2.2.2.2)
def lrn (h : hpT) (q : Nat) (S : syT) : syT := lr4 h q (lr3 h q (lr2 h q (lr1 h q S)))
section SVY
variable {g : gcT} {P : pmT} {v q : Nat} {R : arT}
theorem pOK.sm {h h' : hpT} {q : Nat} (k : pOK h q) (e : Sm h h' q) : pOK h' q := by
  obtain ⟨k1, k2, k3⟩ := k
  refine ⟨k1.sm e, ?_, ?_⟩
  · rw [(e.2.1 387).1, (e.2.1 388).1]; exact k2
  · rw [(e.2.1 386).1, (e.2.1 390).1]; exact k3
theorem svS.no {h : hpT} {a : Nat} (k : svA h v R) (ha : hK h a = 7) : ¬ svS v R a := by
  obtain ⟨k1, -, -, -, -, -, k7, k8, k9, k10, k11, -⟩ := k
  rintro (z | z | z | z | z) <;> (rw [z] at ha; omega)
theorem lr_eq {h h' : hpT} (e : Sm h h' q) (S : syT) : lr1 h' q S = lr1 h q S ∧ lr2 h' q S = lr2 h q S ∧ lr3 h' q S = lr3 h q S ∧ lr4 h' q S = lr4 h q S := by
  unfold lr1 lr2 lr3 lr4
  rw [(e.2.1 393).1, (e.2.1 387).1, (e.2.1 394).1, (e.2.1 388).1, (e.2.1 384).1, (e.2.1 386).1, (e.2.1 390).1]
  exact ⟨rfl, rfl, rfl, rfl⟩
theorem svC.rf {h : hpT} (w : hWF h) (k : svA h v R) : svC v R (syOf h v R) h h := ⟨k, rfl, Ch.rf w _, rfl⟩
theorem svC.tr {h h1 h2 : hpT} {S1 S2 : syT} (a : svC v R S1 h h1) (b : svC v R S2 h1 h2) : svC v R S2 h h2 := ⟨b.1, b.2.1, (a.2.2.1.tr b.2.2.1).mono (fun _ _ z => z.elim id id) (Nat.le_refl _) (Nat.le_refl _), b.2.2.2.trans a.2.2.2⟩
theorem kinds_ne {h : hpT} {a b : Nat} (n : ¬ hK h a = hK h b) : ¬ a = b := fun e => n (by rw [e])
theorem m_58_4 {h : hpT} (w : hWF h) (k : svA h v R) (hq : pOK h q) : Ev g P 58 99 [some (va_rf (some v)), some (va_rf (some q))] [] h (fun h' x => x = none ∧ svC v R (lr4 h q (syOf h v R)) h h') := by
  have k0 := k
  obtain ⟨k1, k2, k3, k4, k5, k6, k7, k8, k9, k10, k11, k12, k13⟩ := k
  obtain ⟨q1, q2, q3⟩ := hq
  have id : lr4 h q (syOf h v R) = syOf h v R → Ev g P 58 157 [some (va_rf (some v)), some (va_rf (some q))] [] h (fun h' x => x = none ∧ svC v R (lr4 h q (syOf h v R)) h h') := fun e => s_58_157 ⟨rfl, by rw [e]; exact svC.rf w k0⟩
  refine s_58_99 (k3 := q1.1) (kt := fun z => id (by unfold lr4; rw [if_pos z])) (kf := fun z1 => ?_)
  have hv := q3 z1
  refine s_58_106 (k3 := q1.1) (e8 := k4) (k9 := k9.1) (i10 := by rw [k9.2]; exact hv) (kt := fun z => id (by unfold lr4; rw [if_neg z1]; exact if_pos z)) (kf := fun z2 => ?_)
  have fin : ∀ o : Option Nat, o = (if hI h 384 q = 2 then some q else none) → Ev g P 58 156 [some (va_rf (some v)), some (va_rf (some q))] [va_rf o, .int (hI h 390 q), va_rf (hR h 707 v)] (hpA h R.2.2.1 (hI h 390 q).toNatClampNeg (hI h 393 q)) (fun h' x => x = none ∧ svC v R (lr4 h q (syOf h v R)) h h') := by
    intro o eo
    have ob : ∀ b, o = some b → hK h b = 7 := by
      intro b e
      rw [eo] at e
      split at e
      · cases e; exact q1.1
      · cases e
    have c1 := Ch.wA (a := R.2.2.1) (i := (hI h 390 q).toNatClampNeg) w (hI h 393 q) (w.lt (by omega))
    have c2 := Ch.wB (a := R.2.2.2.1) (i := (hI h 390 q).toNatClampNeg) c1.2.2.1 o (w.lt (by omega))
    refine x_58_156 (e2 := k5) (k3 := k10.1) (i4 := by show vinD _ (hN h _); rw [k10.2]; exact hv) (c5 := fun b e => by show 1 ≤ hK h b ∧ hK h b ≤ 14 ∧ cmpO (25 - 20) (hK h b - 1) = true; rw [ob b e]; decide) (kk := s_58_157 ⟨rfl, ?_⟩)
    have cc := (c1.tr c2).mono (B := svS v R) (fun a _ z => by unfold svS; rcases z with z | z <;> simp [z]) (Nat.le_refl _) (Nat.le_refl _)
    refine ⟨k0.ch w cc (fun _ => rfl), ?_, cc, rfl⟩
    unfold lr4
    rw [if_neg z1, if_neg (show ¬ hI h 393 q ≤ (syOf h v R).2.2.1 _ from z2)]
    unfold syOf
    show (hA (hpA h R.2.2.1 _ _) R.1, hA (hpA h R.2.2.1 _ _) R.2.1, hA (hpA h R.2.2.1 _ _) R.2.2.1, hB (hpB _ R.2.2.2.1 _ o) R.2.2.2.1, hI h 709 v) = _
    rw [hA_u, hA_u, hA_u, hB_u, if_neg k12, if_neg (kinds_ne (h := h) (by omega)), if_pos rfl, if_pos rfl, eo]
    rfl
  exact s_58_122 (k3 := k1) (k6 := q1.1) (e8 := k4) (k9 := k9.1) (i10 := by rw [k9.2]; exact hv) (kt := fun z => s_58_155 (fin none (by rw [if_neg z]))) (kf := fun z => s_58_151 (fin (some q) (by rw [if_pos z])))
theorem m_58_3 {h : hpT} (w : hWF h) (k : svA h v R) (hq : pOK h q) : Ev g P 58 65 [some (va_rf (some v)), some (va_rf (some q))] [] h (fun h' x => x = none ∧ svC v R (lr4 h q (lr3 h q (syOf h v R))) h h') := by
  have k0 := k
  have hq0 := hq
  obtain ⟨k1, k2, k3, k4, k5, k6, k7, k8, k9, k10, k11, k12, k13⟩ := k
  obtain ⟨q1, q2, q3⟩ := hq
  have id : lr3 h q (syOf h v R) = syOf h v R → Ev g P 58 99 [some (va_rf (some v)), some (va_rf (some q))] [] h (fun h' x => x = none ∧ svC v R (lr4 h q (lr3 h q (syOf h v R))) h h') := fun e => by rw [e]; exact m_58_4 w k0 hq0
  refine s_58_65 (k3 := q1.1) (kt := fun z => id (by unfold lr3; rw [if_pos z])) (kf := fun z1 => ?_)
  have hv := q2 (by rw [q1.2.2.2, z1]; decide)
  refine s_58_73 (k3 := q1.1) (e8 := k2) (k9 := k7.1) (i10 := by rw [k7.2]; exact hv) (kt := fun z => id (by unfold lr3; rw [if_neg (not_not_intro z1)]; exact if_pos z)) (kf := fun z2 => ?_)
  have c1 := Ch.wA (a := R.2.1) (i := (hI h 388 q).toNatClampNeg) w 1 (w.lt (by omega))
  have cc := c1.mono (B := svS v R) (fun a _ z => by unfold svS; simp [z]) (Nat.le_refl _) (Nat.le_refl _)
  refine s_58_89 (k3 := k1) (k6 := q1.1) (e8 := k3) (k9 := k8.1) (i10 := by rw [k8.2]; exact hv) (kk := ?_)
  have sm : Sm h (hpA h R.2.1 (hI h 388 q).toNatClampNeg 1) q := cc.sm (svS.no k0 q1.1) (w.lt (by have := q1.1; omega))
  have step : svC v R (lr3 h q (syOf h v R)) h (hpA h R.2.1 (hI h 388 q).toNatClampNeg 1) := by
    refine ⟨k0.ch w cc (fun _ => rfl), ?_, cc, rfl⟩
    unfold lr3
    rw [if_neg (not_not_intro z1), if_neg (not_not_intro (show hI h 394 q = (syOf h v R).1 _ from z2))]
    unfold syOf
    rw [hA_u, hA_u, hA_u, if_neg (kinds_ne (h := h) (by omega)), if_pos rfl, if_neg (kinds_ne (h := h) (by omega))]
    rfl
  refine Ev.imp (m_58_4 cc.2.2.1 step.1 (hq0.sm sm)) (fun h' x ⟨e1, e2⟩ => ⟨e1, ?_⟩)
  rw [step.2.1, (lr_eq sm _).2.2.2] at e2
  exact step.tr e2
theorem m_58_2 {h : hpT} (w : hWF h) (k : svA h v R) (hq : pOK h q) : Ev g P 58 19 [some (va_rf (some v)), some (va_rf (some q))] [] h (fun h' x => x = none ∧ svC v R (lr4 h q (lr3 h q (lr2 h q (syOf h v R)))) h h') := by
  have k0 := k
  have hq0 := hq
  obtain ⟨k1, k2, k3, k4, k5, k6, k7, k8, k9, k10, k11, k12, k13⟩ := k
  obtain ⟨q1, q2, q3⟩ := hq
  have id : lr2 h q (syOf h v R) = syOf h v R → Ev g P 58 65 [some (va_rf (some v)), some (va_rf (some q))] [] h (fun h' x => x = none ∧ svC v R (lr4 h q (lr3 h q (lr2 h q (syOf h v R)))) h h') := fun e => by rw [e]; exact m_58_3 w k0 hq0
  refine s_58_19 (k3 := q1.1) (kt := fun z => id (by unfold lr2; rw [if_pos z])) (kf := fun z1 => ?_)
  have hv := q2 z1
  refine s_58_26 (k3 := q1.1) (e8 := k2) (k9 := k7.1) (i10 := by rw [k7.2]; exact hv) (kt := fun z => id (by unfold lr2; rw [if_neg z1]; exact if_pos z)) (kf := fun z2 => ?_)
  have c1 := Ch.wA (a := R.1) (i := (hI h 388 q).toNatClampNeg) w (hI h 394 q) (w.lt (by omega))
  have c2 := Ch.wA (a := R.2.1) (i := (hI h 388 q).toNatClampNeg) c1.2.2.1 0 (w.lt (by omega))
  have cc := (c1.tr c2).mono (B := svS v R) (fun a _ z => by unfold svS; rcases z with z | z <;> simp [z]) (Nat.le_refl _) (Nat.le_refl _)
  refine s_58_42 (k3 := k1) (k6 := q1.1) (e8 := k2) (k9 := k7.1) (i10 := by rw [k7.2]; exact hv) (e12 := k3) (k13 := k8.1) (i14 := by rw [k8.2]; exact hv) (kk := ?_)
  have sm : Sm h (hpA (hpA h R.1 (hI h 388 q).toNatClampNeg (hI h 394 q)) R.2.1 (hI h 388 q).toNatClampNeg 0) q := cc.sm (svS.no k0 q1.1) (w.lt (by have := q1.1; omega))
  have step : svC v R (lr2 h q (syOf h v R)) h (hpA (hpA h R.1 (hI h 388 q).toNatClampNeg (hI h 394 q)) R.2.1 (hI h 388 q).toNatClampNeg 0) := by
    refine ⟨k0.ch w cc (fun _ => rfl), ?_, cc, rfl⟩
    unfold lr2
    rw [if_neg z1, if_neg (show ¬ hI h 394 q ≤ (syOf h v R).1 _ from z2)]
    unfold syOf
    have e1 : hA (hpA (hpA h R.1 (hI h 388 q).toNatClampNeg (hI h 394 q)) R.2.1 (hI h 388 q).toNatClampNeg 0) R.1 = u1 (hA h R.1) (hI h 388 q).toNatClampNeg (hI h 394 q) := by rw [hA_u, if_neg (kinds_ne (h := h) (by omega)), hA_u, if_pos rfl]
    have e2 : hA (hpA (hpA h R.1 (hI h 388 q).toNatClampNeg (hI h 394 q)) R.2.1 (hI h 388 q).toNatClampNeg 0) R.2.1 = u1 (hA h R.2.1) (hI h 388 q).toNatClampNeg 0 := by rw [hA_u, if_pos rfl, hA_u, if_neg (kinds_ne (h := h) (by omega))]
    have e3 : hA (hpA (hpA h R.1 (hI h 388 q).toNatClampNeg (hI h 394 q)) R.2.1 (hI h 388 q).toNatClampNeg 0) R.2.2.1 = hA h R.2.2.1 := by rw [hA_u, if_neg (kinds_ne (h := h) (by omega)), hA_u, if_neg (fun e => k12 e.symm)]
    rw [e1, e2, e3]
    rfl
  refine Ev.imp (m_58_3 cc.2.2.1 step.1 (hq0.sm sm)) (fun h' x ⟨e1, e2⟩ => ⟨e1, ?_⟩)
  rw [step.2.1, (lr_eq sm _).2.2.2, (lr_eq sm _).2.2.1] at e2
  exact step.tr e2
theorem m_learn {h : hpT} (w : hWF h) (k : svA h v R) (hq : pOK h q) : EvV g P 58 [va_rf (some v), va_rf (some q)] h (fun h' => svC v R (lrn h q (syOf h v R)) h h') := by
  have k0 := k
  have hq0 := hq
  obtain ⟨k1, k2, k3, k4, k5, k6, k7, k8, k9, k10, k11, k12, k13⟩ := k
  obtain ⟨q1, q2, q3⟩ := hq
  refine e_58 (s_58_0 (k3 := q1.1) (k6 := k1) (kt := fun z => ?_) (kf := fun z => s_58_11 (k3 := q1.1) (k6 := k1) (kk := ?_)))
  · have e : lrn h q (syOf h v R) = lr4 h q (lr3 h q (lr2 h q (syOf h v R))) := by
      unfold lrn lr1
      rw [if_pos (show hI h 393 q ≤ (syOf h v R).2.2.2.2 from z)]
    rw [e]
    exact m_58_2 w k0 hq0
  · have c1 := Ch.wI (f := 709) (a := v) w (hI h 393 q) (w.lt (by omega))
    have cc := c1.mono (B := svS v R) (fun a _ z => by unfold svS; simp [z]) (Nat.le_refl _) (Nat.le_refl _)
    have sm : Sm h (hpI h 709 v (hI h 393 q)) q := cc.sm (svS.no k0 q1.1) (w.lt (by have := q1.1; omega))
    have step : svC v R (lr1 h q (syOf h v R)) h (hpI h 709 v (hI h 393 q)) := by
      refine ⟨k0.ch w cc (fun _ => rfl), ?_, cc, rfl⟩
      unfold lr1
      rw [if_neg (show ¬ hI h 393 q ≤ (syOf h v R).2.2.2.2 from z)]
      unfold syOf
      rw [rI_I, if_pos ⟨rfl, rfl⟩]
      rfl
    refine Ev.imp (m_58_2 cc.2.2.1 step.1 (hq0.sm sm)) (fun h' x ⟨e1, e2⟩ => ⟨e1, ?_⟩)
    rw [step.2.1, (lr_eq sm _).2.2.2, (lr_eq sm _).2.2.1, (lr_eq sm _).2.1] at e2
    exact step.tr e2
end SVY
