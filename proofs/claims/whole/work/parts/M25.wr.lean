/-! the model: result, writes -/
def rsP (c n : Nat) (ky st va ve ac : Int32) : pT := ((4, nI c, nI n, ky, st, va, ve, ac), -1)
def efP (kd ky va ve : Int32) : pT := ((kd, -1, -1, ky, 0, va, ve, 0), if kd = 3 then 0 else -1)
def WRs (h : hpT) (y ad : Nat → Nat) (i : Nat) (V : Nat → Int32) (n : Nat) (h1 : hpT) : Prop := MF y ad (fun r _ => r = 33) (fun _ => False) h h1 ∧ (∀ f, f < n → hA h1 (ad 33) (9 * i + f) = V f) ∧ ∀ j, ¬ (9 * i ≤ j ∧ j < 9 * i + 8) → hA h1 (ad 33) j = hA h (ad 33) j
section MX
variable {g : gcT} {P : pmT} {h h' h1 h2 : hpT} {y ad : Nat → Nat} {i j k n nm m e f c v p : Nat} {x x1 x2 x3 x4 x5 x6 x7 x8 xr ky st va ve ac : Int32} {μ : mT} {Q : hpT → Option Value → Prop} {V : Nat → Int32} {en : enT}
theorem ix9 (i f : Nat) : (9 : Int32) * nI i + nI f = nI (9 * i + f) := by
  rw [show (9 : Int32) = nI 9 from rfl, pk_mul, nI_add]
theorem WRs.one (hm : HM h y ad) (w : WRs h y ad i V n h1) (hn : n < 8) (hv : x = V n) : WRs h y ad i V (n + 1) (hpA h1 (ad 33) (9 * i + n) x) := by
  obtain ⟨w1, w2, w3⟩ := w
  have m1 := hm.mf w1
  refine ⟨w1.join ((MF.wA m1 w1.1.2.2.2 (by decide) _).mono (fun r i q => q.1) (fun r q => q)), fun f hf => ?_, fun j hj => ?_⟩
  · rw [m1.rA (by decide) (by decide)]
    by_cases q : f = n
    · rw [if_pos ⟨rfl, by omega⟩, q]; exact hv
    · rw [if_neg (fun z => q (by omega))]; exact w2 f (by omega)
  · rw [m1.rA (by decide) (by decide), if_neg (fun z => hj (by omega))]
    exact w3 j hj
theorem m_resM (hm : HM h y ad) (w : hWF h) (hi : i < 2) : EvV g P 147 [va_rf (some (y 12)), .int (nI i), .int x2, .int x3, .int x4, .int x5, .int x6, .int x7, .int x8] h (fun h' => WRs h y ad i (rsCl x2 x3 x4 x5 x6 x7 x8) 8 h') := by
  have ix : ∀ f : Nat, (9 : Int32) * nI i + nI f = nI (9 * i + f) := fun f => ix9 i f
  have vi : ∀ {h : hpT} (f : Nat), f < 9 → HM h y ad → vinD (9 * nI i + nI f) (hN h (ad 33)) := fun f hf hm => by rw [ix, hm.n33]; exact vin_nI (by omega) (by decide)
  have cl : ∀ f : Nat, f < 9 → ((9 : Int32) * nI i + nI f).toNatClampNeg = 9 * i + f := fun f hf => by rw [ix]; exact nI_clamp (by omega)
  have k0 := cl 0 (by decide)
  have k1 := cl 1 (by decide)
  have k2 := cl 2 (by decide)
  have k3 := cl 3 (by decide)
  have k4 := cl 4 (by decide)
  have k5 := cl 5 (by decide)
  have k6 := cl 6 (by decide)
  have k7 := cl 7 (by decide)
  have e0 : nI 0 = 0 := rfl
  have e1 : nI 1 = 1 := rfl
  have e2 : nI 2 = 2 := rfl
  have e3 : nI 3 = 3 := rfl
  have e4 : nI 4 = 4 := rfl
  have e5 : nI 5 = 5 := rfl
  have e6 : nI 6 = 6 := rfl
  have e7 : nI 7 = 7 := rfl
  rw [e0] at k0
  rw [e1] at k1
  rw [e2] at k2
  rw [e3] at k3
  rw [e4] at k4
  rw [e5] at k5
  rw [e6] at k6
  rw [e7] at k7
  have w0 : WRs h y ad i (rsCl x2 x3 x4 x5 x6 x7 x8) 0 h := ⟨MF.rf w, fun f hf => absurd hf (Nat.not_lt_zero _), fun _ _ => rfl⟩
  refine e_147 (s_147_0 (k3 := hm.1) (e5 := hm.r33) (k6 := hm.k33) (i7 := vi 0 (by decide) hm) (i8 := vi 1 (by decide) hm) (i9 := vi 2 (by decide) hm) (kk := ?_))
  rw [k0, k1, k2]
  have w3 := ((w0.one hm (x := 5) (by decide) rfl).one hm (x := x2) (by decide) rfl).one hm (x := x3) (by decide) rfl
  generalize hpA (hpA (hpA h (ad 33) (9 * i + 0) 5) (ad 33) (9 * i + 1) x2) (ad 33) (9 * i + 2) x3 = H3 at w3 ⊢
  have m3 := hm.mf w3.1
  refine s_147_36 (k3 := m3.1) (e5 := m3.r33) (k6 := m3.k33) (i7 := vi 3 (by decide) m3) (i8 := vi 4 (by decide) m3) (i9 := vi 5 (by decide) m3) (kk := ?_)
  rw [k3, k4, k5]
  have w6 := ((w3.one hm (x := x4) (by decide) rfl).one hm (x := x5) (by decide) rfl).one hm (x := x6) (by decide) rfl
  generalize hpA (hpA (hpA H3 (ad 33) (9 * i + 3) x4) (ad 33) (9 * i + 4) x5) (ad 33) (9 * i + 5) x6 = H6 at w6 ⊢
  have m6 := hm.mf w6.1
  refine s_147_69 (k3 := m6.1) (e5 := m6.r33) (k6 := m6.k33) (i7 := vi 6 (by decide) m6) (i8 := vi 7 (by decide) m6) (hq := ?_)
  rw [k6, k7]
  exact ⟨rfl, (w6.one hm (x := x7) (by decide) rfl).one hm (x := x8) (by decide) rfl⟩
theorem rs_c : ∀ f, f < 8 → mPt (rsP c n ky st va ve ac) f = rsCl (nI c) (nI n) ky st va ve ac f
  | 0, _ => rfl
  | 1, _ => rfl
  | 2, _ => rfl
  | 3, _ => rfl
  | 4, _ => rfl
  | 5, _ => rfl
  | 6, _ => rfl
  | 7, _ => rfl
  | _ + 8, q => absurd q (by omega)
def efC (kd ky va ve : Int32) (f : Nat) : Int32 := if f = 0 then kd + 1 else if f = 3 then ky else if f = 5 then va else if f = 6 then ve else 0
theorem ef_c (kd : Int32) (hk : kd = 2 ∨ kd = 3) : ∀ f, f < 9 → mPt (efP kd ky va ve) f = efC kd ky va ve f := by
  rcases hk with q | q
  · subst q
    intro f hf
    match f, hf with
    | 0, _ => rfl
    | 1, _ => rfl
    | 2, _ => rfl
    | 3, _ => rfl
    | 4, _ => rfl
    | 5, _ => rfl
    | 6, _ => rfl
    | 7, _ => rfl
    | 8, _ => rfl
  · subst q
    intro f hf
    match f, hf with
    | 0, _ => rfl
    | 1, _ => rfl
    | 2, _ => rfl
    | 3, _ => rfl
    | 4, _ => rfl
    | 5, _ => rfl
    | 6, _ => rfl
    | 7, _ => rfl
    | 8, _ => rfl
/-- the RESULT alone -/
theorem md_1 (w : WRs h y ad 0 (rsCl (nI c) (nI n) ky st va ve ac) 8 h1) (z : ∀ f, f < 18 → hA h (ad 33) f = 0) : MD h1 ad (rsP c n ky st va ve ac, none) := by
  obtain ⟨-, w2, w3⟩ := w
  intro f hf
  refine ⟨?_, ?_⟩
  · by_cases q : f = 8
    · rw [q, w3 8 (by omega), z 8 (by omega)]; rfl
    · have := w2 f (by omega)
      rw [show 9 * 0 + f = f by omega] at this
      rw [this]
      exact (rs_c f (by omega)).symm
  · rw [w3 (9 + f) (by omega), z (9 + f) (by omega)]; rfl
/-- OBJECT or TOMB, and the RESULT -/
theorem md_2 {kd : Int32} (hk : kd = 2 ∨ kd = 3) (w : WRs h y ad 1 (rsCl (nI c) (nI n) ky st va ve ac) 8 h1) (z1 : ∀ f, f < 9 → hA h (ad 33) f = efC kd ky va ve f) (z2 : hA h (ad 33) 17 = 0) : MD h1 ad (efP kd ky va ve, some (rsP c n ky st va ve ac)) := by
  obtain ⟨-, w2, w3⟩ := w
  intro f hf
  refine ⟨?_, ?_⟩
  · rw [w3 f (by omega), z1 f hf]
    exact (ef_c kd hk f hf).symm
  · by_cases q : f = 8
    · rw [q, w3 17 (by omega), z2]; rfl
    · have := w2 f (by omega)
      rw [show 9 * 1 + f = 9 + f by omega] at this
      rw [this]
      exact (rs_c f (by omega)).symm
end MX
