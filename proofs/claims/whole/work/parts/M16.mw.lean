/-! the model: its state, opens -/
abbrev mT := List slT × (Nat → Nat → Int32) × (Nat → Int32)
def smR (r : Nat) : Bool := aKM r && (decide (r ≤ 13) || decide (39 ≤ r))
def MW (h : hpT) (y ad : Nat → Nat) (μ : mT) : Prop := HM h y ad ∧ hWF h ∧ TB h y ad μ.1 ∧ (∀ r i, smR r = true → hA h (ad r) i = μ.2.1 r i) ∧ ∀ k, ¬ k = 23 → ¬ k = 32 → hI h (832 + k) (y 12) = μ.2.2 k
def uR (μ : mT) (r i : Nat) (v : Int32) : mT := (μ.1, fun r' i' => if r' = r ∧ i' = i then v else μ.2.1 r' i', μ.2.2)
def uN (μ : mT) (k : Nat) (v : Int32) : mT := (μ.1, μ.2.1, fun k' => if k' = k then v else μ.2.2 k')
def uT (μ : mT) (T : List slT) : mT := (T, μ.2)
def MK0 (y : Nat → Nat) (μ : mT) : Prop := yOK y ∧ μ.2.2 0 = nI (y 20) ∧ μ.2.2 1 = nI (y 21) ∧ μ.2.2 2 = nI (y 22) ∧ μ.2.2 3 = nI (y 23)
def dgP (v : Int32) : pT := ((0, -1, -1, -1, 0, 0, v, 0), -1)
def nmM (μ : mT) : Nat := (μ.2.2 16).toNatClampNeg
def clR (y : Nat → Nat) (μ : mT) (m : Nat) : List slT × Nat × Nat := clnM (μ.2.1 5) (y 20) (y 22) (y 21) (nmM μ) m μ.1
def clMu (y : Nat → Nat) (μ : mT) (m : Nat) : mT := uN (uN (uT μ (clR y μ m).1) 16 (nI (clR y μ m).2.1)) 17 (μ.2.2 17 + nI (clR y μ m).2.2)
def opn2 (y : Nat → Nat) (μ : mT) (m : Nat) : mT := if sgN μ.1 (nI m) < y 23 - 1 then uR μ 10 m (-1) else clMu y (uR μ 10 m (-1)) m
def nsR (y : Nat → Nat) (μ : mT) (m : Nat) : List (Nat × Nat) := nsM (μ.2.1 5) (y 20) (y 21) (nmM μ) m (y 20 - 1)
def opn3 (y : Nat → Nat) (μ : mT) (m : Nat) : mT := uR (uN (uT μ (nwT μ.1 (cmS (nI m, nmM μ, true, [], nsR y μ m) (dgP (μ.2.1 9 m), none) 8))) 16 (nI (nmM μ + 1))) 10 m (nI (nwI μ.1))
def opnM (y : Nat → Nat) (μ : mT) (m : Nat) (x : Int32) : mT × Int32 := if ¬ μ.2.2 14 = 0 ∨ upB (μ.2.1 5) (y 20) (nI m) < y 21 then (μ, 0) else if x = 0 ∧ y 23 ≤ sgN (opn2 y μ m).1 (nI m) then (opn2 y μ m, 0) else (opn3 y (opn2 y μ m) m, 1)
section MW
variable {g : gcT} {P : pmT} {h h' h1 : hpT} {y ad : Nat → Nat} {T T' : List slT} {i j k nm m e f c v r : Nat} {x x1 x2 x3 x4 x5 x6 : Int32} {A : Nat → Nat → Prop} {I : Nat → Prop} {μ : mT} {Q : hpT → Option Value → Prop}
theorem smR_a (q : smR r = true) : aKM r = true ∧ (r ≤ 13 ∨ 39 ≤ r) := by
  unfold smR at q
  rw [Bool.and_eq_true, Bool.or_eq_true] at q
  exact ⟨q.1, q.2.imp of_decide_eq_true of_decide_eq_true⟩
theorem MW.rw (mw : MW h y ad μ) (q : smR r = true) : hA h (ad r) = μ.2.1 r := funext fun i => mw.2.2.2.1 r i q
theorem MW.n (mw : MW h y ad μ) (k : Nat) (n1 : ¬ k = 23) (n2 : ¬ k = 32) {f : Nat} (e : f = 832 + k) : hI h f (y 12) = μ.2.2 k := by subst e; exact mw.2.2.2.2 k n1 n2
theorem MW.mk (mw : MW h y ad μ) (x : MF y ad A I h h') (tb : TB h' y ad T') {ρ : Nat → Nat → Int32} {ν : Nat → Int32} (hρ : ∀ r i, smR r = true → hA h' (ad r) i = ρ r i) (hν : ∀ k, ¬ k = 23 → ¬ k = 32 → hI h' (832 + k) (y 12) = ν k) : MW h' y ad (T', ρ, ν) := ⟨mw.1.mf x, x.1.2.2.2, tb, hρ, hν⟩
theorem MW.st (mw : MW h y ad μ) (x : MF y ad A I h h') (tb : TB h' y ad T') (ha : ∀ r i, A r i → 24 ≤ r ∧ r ≤ 38) (hi : ∀ k, I k → k = 23 ∨ k = 32) : MW h' y ad (uT μ T') := mw.mk x tb (fun r i q => by
  have q' := smR_a q
  rw [MF.a mw.1 x q'.1 (fun a => by have := ha r i a; omega)]
  exact mw.2.2.2.1 r i q) (fun k n1 n2 => by
  rw [x.i (fun a => by have := hi k a; omega)]
  exact mw.2.2.2.2 k n1 n2)
theorem MW.sc (mw : MW h y ad μ) (x : MF y ad A I h h') (ha : ∀ r i, A r i → 33 ≤ r ∧ r ≤ 38) (hi : ∀ k, I k → k = 32) : MW h' y ad μ := mw.st x (mw.2.2.1.keep mw.1 x (fun r i q a z => by
  have := ha r i a
  rcases z with ⟨z, -⟩ | ⟨z, -⟩ | ⟨z, -⟩ <;> omega) (fun q => by have := hi _ q; omega)) (fun r i a => by have := ha r i a; omega) (fun k q => Or.inr (hi k q))
theorem MW.wA (mw : MW h y ad μ) (q : smR r = true) : MW (hpA h (ad r) i x) y ad (uR μ r i x) := by
  have q' := smR_a q
  have xa := MF.wA mw.1 mw.2.1 (k := r) (i := i) q'.1 x
  refine mw.mk xa (mw.2.2.1.keep mw.1 xa (fun r' i' q a z => ?_) (fun q => q)) (fun r' i' z => ?_) (fun k n1 n2 => ?_)
  · have := a.1
    rcases z with ⟨z, -⟩ | ⟨z, -⟩ | ⟨z, -⟩ <;> omega
  · rw [mw.1.rA q'.1 (smR_a z).1, mw.2.2.2.1 r' i' z]
  · rw [rI_A]; exact mw.2.2.2.2 k n1 n2
theorem MW.wN (mw : MW h y ad μ) {f : Nat} (e : f = 832 + k) (n1 : ¬ k = 23) (n2 : ¬ k = 32) : MW (hpI h f (y 12) x) y ad (uN μ k x) := by
  have xa := MF.wf mw.1 mw.2.1 (k := k) e x
  refine mw.mk xa (mw.2.2.1.keep mw.1 xa (fun r' i' q a z => a) (fun q => n1 q.symm)) (fun r' i' z => ?_) (fun k' n1 n2 => ?_)
  · rw [rA_I]; exact mw.2.2.2.1 r' i' z
  · subst e
    rw [rI_I]
    by_cases q : k' = k
    · rw [if_pos ⟨by rw [q], rfl⟩, if_pos q]
    · rw [if_neg (fun z => q (by omega)), if_neg q]; exact mw.2.2.2.2 k' n1 n2
theorem dg_c (v : Int32) : ∀ f, f < 9 → mPt (dgP v) f = if f = 0 then 1 else if f = 6 then v else 0
  | 0, _ => rfl
  | 1, _ => rfl
  | 2, _ => rfl
  | 3, _ => rfl
  | 4, _ => rfl
  | 5, _ => rfl
  | 6, _ => rfl
  | 7, _ => rfl
  | 8, _ => rfl
  | _ + 9, q => absurd q (by omega)
theorem opn_k {n18 : Nat} (h18 : n18 = 18) (hm : HM h y ad) (w : hWF h) (kk : ∀ h2 x3, MF y ad (fun r _ => r = 37) (fun _ => False) h h2 → (∀ f, f < n18 → hA h2 (ad 37) f = hA h (ad 33) f) → Ev g P 134 103 [some (va_rf (some (y 12))), some (.int x1), some (.int x2), some (.int x3)] [] h2 Q) : Ev g P 134 79 [some (va_rf (some (y 12))), some (.int x1), some (.int x2), some (.int 0)] [] h Q := by
  have e18 : (18 : Int32) = nI n18 := by rw [h18]; rfl
  have lp := cnt_loop n18 (fun j h1 => MF y ad (fun r _ => r = 37) (fun _ => False) h h1 ∧ ∀ f, f < j → hA h1 (ad 37) f = hA h (ad 33) f) (fun j h1 => Ev g P 134 79 [some (va_rf (some (y 12))), some (.int x1), some (.int x2), some (.int (nI j))] [] h1 Q) ?_ ?_ h ⟨MF.rf w, fun f hf => absurd hf (Nat.not_lt_zero _)⟩
  · rw [nI_0] at lp; exact lp
  · intro j h1 hj ⟨xa, z⟩ kn
    have m1 := hm.mf xa
    have ej : (nI j).toNatClampNeg = j := nI_clamp (by omega)
    have e33 : hA h1 (ad 33) j = hA h (ad 33) j := MF.a hm xa (by decide) (by decide)
    refine s_134_79 (kt := fun z => absurd z (by rw [e18]; exact nI_ge hj (by omega))) (kf := fun _ => s_134_85 (k3 := m1.1) (e5 := m1.r33) (k6 := m1.k33) (i7 := by rw [m1.n33]; exact vin_nI (by omega) (by decide)) (e9 := m1.r37) (k10 := m1.k37) (i11 := by rw [m1.n37]; exact vin_nI (by omega) (by decide)) (kk := ?_))
    rw [ej, nI_1, e33]
    refine kn _ ⟨xa.join ((MF.wA m1 xa.1.2.2.2 (by decide) _).mono (fun r i q => q.1) (fun r q => q)), fun f hf => ?_⟩
    rw [m1.rA (by decide) (by decide)]
    by_cases q : f = j
    · rw [if_pos ⟨rfl, q⟩, q]
    · rw [if_neg (fun z => q z.2)]; exact z f (by omega)
  · intro h1 ⟨xa, z⟩
    exact s_134_79 (kt := fun _ => kk h1 _ xa z) (kf := fun z => absurd (by rw [e18]; exact nI_le (Nat.le_refl _) (by omega)) z)
theorem opn_b {n18 : Nat} (h18 : n18 = 18) (hm : HM h y ad) (w : hWF h) (kk : ∀ h2 x3, MF y ad (fun r _ => r = 33) (fun _ => False) h h2 → (∀ f, f < n18 → hA h2 (ad 33) f = hA h (ad 37) f) → Ev g P 134 165 [some (va_rf (some (y 12))), some (.int x1), some (.int x2), some (.int x3)] [] h2 Q) : Ev g P 134 141 [some (va_rf (some (y 12))), some (.int x1), some (.int x2), some (.int 0)] [] h Q := by
  have e18 : (18 : Int32) = nI n18 := by rw [h18]; rfl
  have lp := cnt_loop n18 (fun j h1 => MF y ad (fun r _ => r = 33) (fun _ => False) h h1 ∧ ∀ f, f < j → hA h1 (ad 33) f = hA h (ad 37) f) (fun j h1 => Ev g P 134 141 [some (va_rf (some (y 12))), some (.int x1), some (.int x2), some (.int (nI j))] [] h1 Q) ?_ ?_ h ⟨MF.rf w, fun f hf => absurd hf (Nat.not_lt_zero _)⟩
  · rw [nI_0] at lp; exact lp
  · intro j h1 hj ⟨xa, z⟩ kn
    have m1 := hm.mf xa
    have ej : (nI j).toNatClampNeg = j := nI_clamp (by omega)
    have e33 : hA h1 (ad 37) j = hA h (ad 37) j := MF.a hm xa (by decide) (by decide)
    refine s_134_141 (kt := fun z => absurd z (by rw [e18]; exact nI_ge hj (by omega))) (kf := fun _ => s_134_147 (k3 := m1.1) (e5 := m1.r37) (k6 := m1.k37) (i7 := by rw [m1.n37]; exact vin_nI (by omega) (by decide)) (e9 := m1.r33) (k10 := m1.k33) (i11 := by rw [m1.n33]; exact vin_nI (by omega) (by decide)) (kk := ?_))
    rw [ej, nI_1, e33]
    refine kn _ ⟨xa.join ((MF.wA m1 xa.1.2.2.2 (by decide) _).mono (fun r i q => q.1) (fun r q => q)), fun f hf => ?_⟩
    rw [m1.rA (by decide) (by decide)]
    by_cases q : f = j
    · rw [if_pos ⟨rfl, q⟩, q]
    · rw [if_neg (fun z => q z.2)]; exact z f (by omega)
  · intro h1 ⟨xa, z⟩
    exact s_134_141 (kt := fun _ => kk h1 _ xa z) (kf := fun z => absurd (by rw [e18]; exact nI_le (Nat.le_refl _) (by omega)) z)
end MW
