/-! the model: what is read of a LOG, isHeadGood, loses, goesDown, forgets -/
def obM (μ : mT) (x k : Int32) : Option (Nat × Nat × Nat) := tFold (objM k (tFold (verM k) (thT (μ.2.1 5) μ.1) μ.1 x 0)) (thT (μ.2.1 5) μ.1) μ.1 x none
def reM (μ : mT) (x c n : Int32) : Option (Nat × Nat × Nat) := tFold (resM c n) (thT (μ.2.1 5) μ.1) μ.1 x none
def acM (μ : mT) (x c : Int32) : Int32 := tFold (ackM c) (thT (μ.2.1 5) μ.1) μ.1 x 1
def grM (μ : mT) (x : Int32) : Int32 := tFold greM (thT (μ.2.1 5) μ.1) μ.1 x 0
def vld (T : List slT) (x : Int32) (b : Option (Nat × Nat × Nat)) : Prop := ∀ k e i, b = some (k, e, i) → k < T.length ∧ lLg (T.getD k sl0) = x ∧ e < (lEn (T.getD k sl0)).length ∧ i < 2
def hgM (μ : mT) (m : Nat) : Int32 := if μ.2.1 10 m = -1 then 0 else if hoU (μ.2.1 5) (μ.1.getD (μ.2.1 10 m).toNatClampNeg sl0) = (lHo (μ.1.getD (μ.2.1 10 m).toNatClampNeg sl0)).length then 1 else 0
def hdOK (μ : mT) (m : Nat) : Prop := μ.2.1 10 m = -1 ∨ ∃ k, k < μ.1.length ∧ μ.2.1 10 m = nI k
def lgT (T : List slT) (x v : Int32) : List slT := T.map (fun s => if lLg s = x then (v, s.2) else s)
def los0 (μ : mT) (m n : Nat) : mT := (μ.1, fun r i => if r = 7 ∧ 8 * m ≤ i ∧ i < 8 * m + n then 0 else μ.2.1 r i, μ.2.2)
def losM (μ : mT) (m : Nat) : mT := uR (uR (uR (uR (los0 μ m 8) 9 m 0) 10 m (-1)) 6 m 0) 12 m (-1)
def onN (μ : mT) (x : Int32) : Nat := owN (μ.2.1 13) x
def dwnM (μ : mT) (m : Nat) : mT := uR (losM (uR (uT μ (lgT μ.1 (nI m) (if 0 < onN μ (nI m) ∧ μ.2.1 8 m = 0 then 8 + nI m else 99))) 8 m (if ¬ μ.2.1 8 m = 0 ∨ 0 < onN μ (nI m) then 1 else 0)) m) 5 m 2
def fgtM (μ : mT) (m : Nat) : mT := uN (losM (uT μ (lgT μ.1 (nI m) 99)) m) 20 (μ.2.2 20 + 1)
section MR
variable {g : gcT} {P : pmT} {h h' h1 : hpT} {y ad : Nat → Nat} {T T' : List slT} {i j k nm m e f c v : Nat} {x x1 x2 x3 x4 x5 x6 : Int32} {A : Nat → Nat → Prop} {I : Nat → Prop} {μ : mT} {Q : hpT → Option Value → Prop}
theorem fold_inv {α σ : Type} (p : σ → Prop) (f : σ → α → σ) : ∀ (l : List α), (∀ b a, a ∈ l → p b → p (f b a)) → ∀ b, p b → p (l.foldl f b) := by
  intro l
  induction l with
  | nil => intro _ b hb; exact hb
  | cons a l ih => intro hf b hb; exact ih (fun b a' ha => hf b a' (List.mem_cons_of_mem _ ha)) _ (hf b a List.mem_cons_self hb)
theorem tF_inv {σ : Type} {f : σ → Nat → Nat → Nat → (Nat → Int32) → σ} {th : Nat → Nat} {b0 : σ} (p : σ → Prop) (h0 : p b0) (hth : ∀ k, k < T.length → th k ≤ (lEn (T.getD k sl0)).length) (hf : ∀ b k e i, k < T.length → lLg (T.getD k sl0) = x → e < (lEn (T.getD k sl0)).length → i < 2 → p b → p (f b k e i (mE ((lEn (T.getD k sl0)).getD e en0) i))) : p (tFold f th T x b0) := by
  unfold tFold
  refine fold_inv p _ _ (fun b k hk hb => ?_) b0 h0
  have hk := List.mem_range.mp hk
  unfold slF
  split
  · exact hb
  · rename_i q
    refine fold_inv p _ _ (fun b e he hb => ?_) b hb
    have he := Nat.lt_of_lt_of_le (List.mem_range.mp he) (hth k hk)
    unfold ent2
    exact hf _ k e 1 hk (Decidable.not_not.mp q) he (by decide) (hf _ k e 0 hk (Decidable.not_not.mp q) he (by decide) hb)
theorem thT_le {st : Nat → Int32} (tb : TB h y ad T) : ∀ k, k < T.length → thT st T k ≤ (lEn (T.getD k sl0)).length := fun k hk => (tb.th st hk).1
theorem obM_v (tb : TB h y ad μ.1) {k : Int32} : vld μ.1 x (obM μ x k) := by
  refine tF_inv (p := vld μ.1 x) (fun _ _ _ q => by cases q) (thT_le tb) (fun b k e i hk hl he hi hb => ?_)
  unfold objM
  cases b with
  | some _ => exact hb
  | none =>
    dsimp only
    split
    · exact fun _ _ _ q => by cases q
    · split
      · exact fun _ _ _ q => by cases q
      · split
        · exact fun _ _ _ q => by cases q
        · intro _ _ _ q; cases q; exact ⟨hk, hl, he, hi⟩
theorem reM_v (tb : TB h y ad μ.1) {c n : Int32} : vld μ.1 x (reM μ x c n) := by
  refine tF_inv (p := vld μ.1 x) (fun _ _ _ q => by cases q) (thT_le tb) (fun b k e i hk hl he hi hb => ?_)
  unfold resM
  cases b with
  | some _ => exact hb
  | none =>
    dsimp only
    split
    · exact fun _ _ _ q => by cases q
    · split
      · exact fun _ _ _ q => by cases q
      · split
        · exact fun _ _ _ q => by cases q
        · intro _ _ _ q; cases q; exact ⟨hk, hl, he, hi⟩
theorem m_obM (mw : MW h y ad μ) : EvI g P 124 [va_rf (some (y 12)), .int x1, .int x2] h (fun h' r => r = oPx (obM μ x1 x2) ∧ MF y ad (fun _ _ => False) (fun k => k = 32) h h' ∧ MW h' y ad μ ∧ ∀ k e i, obM μ x1 x2 = some (k, e, i) → hI h' 864 (y 12) = nI k) := by
  have z := m_objectIn (g := g) (P := P) (x1 := x1) (x2 := x2) mw.1 mw.2.2.1
  rw [mw.rw (r := 5) rfl] at z
  have z : EvI g P 124 [va_rf (some (y 12)), .int x1, .int x2] h (fun h' r => r = oPx (obM μ x1 x2) ∧ fsH h y (obM μ x1 x2) h') := z
  refine Ev.imp z (fun h' r ⟨xx, q1, q2, q3⟩ => ⟨xx, q1, q2, ?_⟩)
  cases e : obM μ x1 x2 with
  | none =>
    rw [e] at q3
    have q3 : h' = h := q3
    subst q3
    exact ⟨MF.rf mw.2.1, mw, fun _ _ _ q => by cases q⟩
  | some p =>
    rw [e] at q3
    have q3 : h' = hpI h 864 (y 12) (nI p.1) := q3
    have xa := MF.wf mw.1 mw.2.1 (k := 32) (f := 864) rfl (nI p.1)
    have i1 : hI (hpI h 864 (y 12) (nI p.1)) 864 (y 12) = nI p.1 := by rw [rI_I, if_pos ⟨rfl, rfl⟩]
    rw [← q3] at xa i1
    exact ⟨xa, mw.sc xa (fun r i a => a.elim) (fun k a => a), fun k e i q => by cases q; exact i1⟩
theorem m_headGood (mw : MW h y ad μ) (hm8 : m < 8) (ho : hdOK μ m) : EvI g P 135 [va_rf (some (y 12)), .int (nI m)] h (fun h' r => h' = h ∧ r = hgM μ m) := by
  have em : (nI m).toNatClampNeg = m := nI_clamp (by omega)
  have l6 := mw.2.2.1.2.1
  have e10 : hA h (ad 10) (nI m).toNatClampNeg = μ.2.1 10 m := by rw [em]; exact mw.2.2.2.1 10 m rfl
  have v10 : vinD (nI m) (hN h (ad 10)) := by rw [mw.1.n10]; exact vin_nI hm8 (by decide)
  refine e_135 (s_135_0 (k3 := mw.1.1) (e5 := mw.1.r10) (k6 := mw.1.k10) (i7 := v10) (kt := fun z => s_135_38 (s_135_39 (Or.inl rfl) ⟨_, rfl, rfl, ?_⟩)) (kf := fun z => ?_))
  · rw [e10] at z
    unfold hgM; rw [if_pos z]
  · rw [e10] at z
    obtain ⟨k, hk, ek⟩ := ho.resolve_left z
    have ek' : (nI k).toNatClampNeg = k := nI_clamp (by omega)
    have hh := m_holdersUp (g := g) (P := P) mw.1 mw.2.2.1 hk
    rw [mw.rw (r := 5) rfl] at hh
    have hh' := hh
    rw [← ek, ← e10] at hh'
    refine s_135_10 (k3 := mw.1.1) (e5 := mw.1.r10) (k6 := mw.1.k10) (i7 := v10) (hc := hh') (kk := fun h1 x' ⟨q1, q2⟩ => ?_)
    subst q1; subst q2
    have e29 := (mw.2.2.1.s hk).2.2.1
    have l8 := (mw.2.2.1.s hk).2.2.2.1
    have hb : hoU (μ.2.1 5) (μ.1.getD k sl0) ≤ 8 := by
      have : ∀ (l : List (Nat × Nat)) (t : Nat), l.foldl (fun t x => if μ.2.1 5 x.1 = 0 then t + 1 else t) t ≤ t + l.length := by
        intro l
        induction l with
        | nil => intro t; exact Nat.le_refl _
        | cons a l ih =>
          intro t
          rw [List.foldl_cons, List.length_cons]
          refine Nat.le_trans (ih _) ?_
          split <;> omega
      have := this (lHo (μ.1.getD k sl0)) 0
      unfold hoU
      omega
    refine s_135_20 (k3 := mw.1.1) (e5 := mw.1.r10) (k6 := mw.1.k10) (i7 := v10) (e9 := mw.1.r29) (k10 := mw.1.k29) (i11 := by rw [e10, ek, mw.1.n29]; exact vin_nI (by omega) (by decide)) (kt := fun z1 => s_135_38 (s_135_39 (Or.inl rfl) ⟨_, rfl, rfl, ?_⟩)) (kf := fun z1 => s_135_34 (s_135_39 (Or.inr rfl) ⟨_, rfl, rfl, ?_⟩))
    · rw [e10, ek, ek', e29] at z1
      unfold hgM
      rw [if_neg z, ek, ek', if_neg (fun q => z1 (by rw [q]))]
    · rw [e10, ek, ek', e29] at z1
      unfold hgM
      rw [if_neg z, ek, ek', if_pos (nI_inj (by omega) (by omega) z1)]
end MR
