/-! the model: takesOver -/
def ApK (y : Nat → Nat) (μ : mT) (m : Nat) : Prop := MK0 y μ ∧ μ.2.2 16 = nI (nmM μ) ∧ nmM μ ≤ 80000 ∧ μ.1.length < 5998 ∧ hdOK μ m ∧ hEm y μ m
def toO (μ : mT) (m t : Nat) : mT := uR (uR μ 13 t (nI m)) 7 (8 * m + t) 1
def to1 (y : Nat → Nat) (μ : mT) (m : Nat) (x : Int32) : mT := if grM μ x ≤ μ.2.1 9 m then μ else (opnM y (uR μ 9 m (grM μ x)) m 1).1
def ntP (c : Nat) (a : Int32) : pT := ((1, nI c, -1, -1, 0, 0, 0, a), -1)
def ptM (μ : mT) (q : Nat × Nat × Nat) : pT := if q.2.2 = 0 then ((lEn (μ.1.getD q.1 sl0)).getD q.2.1 en0).1 else ((lEn (μ.1.getD q.1 sl0)).getD q.2.1 en0).2.getD (dgP 0)
def toN (y : Nat → Nat) (m : Nat) (x : Int32) (μ : mT) (c : Nat) : mT := if acM μ x (nI c) ≤ acM μ (nI m) (nI c) then μ else (appM y μ m 1 (ntP c (acM μ x (nI c)), none) 8).1
def toB (y : Nat → Nat) (m : Nat) (x : Int32) (t : Nat) (μ : mT) (j : Nat) : mT := match obM μ x (nI (8 * t + j)) with
  | none => μ
  | some q => (appM y μ m 1 (ptM μ q, none) 8).1
def toR (y : Nat → Nat) (m : Nat) (x : Int32) (t c : Nat) (μ : mT) (k : Nat) : mT := match reM μ x (nI c) (nI k) with
  | none => μ
  | some q => if cel μ q 3 / 8 = nI t then (appM y μ m 1 (ptM μ q, none) 8).1 else μ
def toL (μ : mT) (x : Int32) (c : Nat) : List Nat := List.range' (acM μ x (nI c)).toNatClampNeg (41 - (acM μ x (nI c)).toNatClampNeg)
def toC (y : Nat → Nat) (m : Nat) (x : Int32) (t : Nat) (μ : mT) (c : Nat) : mT := (toL μ x c).foldl (toR y m x t c) μ
def tov1 (y : Nat → Nat) (μ : mT) (m t : Nat) (x : Int32) (n : Nat) : mT := (List.range n).foldl (toN y m x) (to1 y (toO μ m t) m x)
def tov2 (y : Nat → Nat) (μ : mT) (m t : Nat) (x : Int32) (n : Nat) : mT := (List.range n).foldl (toB y m x t) (tov1 y μ m t x 6)
def tov3 (y : Nat → Nat) (μ : mT) (m t : Nat) (x : Int32) (n : Nat) : mT := (List.range n).foldl (toC y m x t) (tov2 y μ m t x 8)
def tovM (y : Nat → Nat) (μ : mT) (m t : Nat) (x : Int32) : mT := tov3 y μ m t x 6
def toOK (y : Nat → Nat) (μ : mT) (m t : Nat) (x : Int32) : Prop := ApK y (toO μ m t) m ∧ (∀ j, j < 6 → ApK y (tov1 y μ m t x j) m) ∧ (∀ j, j < 8 → ApK y (tov2 y μ m t x j) m) ∧ ∀ j i, j < 6 → i < (toL (tov3 y μ m t x j) x j).length → ApK y (((toL (tov3 y μ m t x j) x j).take i).foldl (toR y m x t j) (tov3 y μ m t x j)) m
section MV
variable {g : gcT} {P : pmT} {h h' h1 h2 : hpT} {y ad : Nat → Nat} {T T' : List slT} {i j k nm m e f c t v : Nat} {x x1 x2 x3 x4 x5 x6 xr : Int32} {A : Nat → Nat → Prop} {I : Nat → Prop} {μ : mT} {Q : hpT → Option Value → Prop} {en : enT}
theorem m_acM (mw : MW h y ad μ) : EvI g P 122 [va_rf (some (y 12)), .int x1, .int x2] h (fun h' r => h' = h ∧ r = acM μ x1 x2) := by
  have z := m_ackedIn (g := g) (P := P) (x1 := x1) (x2 := x2) mw.1 mw.2.2.1
  rw [mw.rw (r := 5) rfl] at z
  exact z
theorem m_reM (mw : MW h y ad μ) : EvI g P 125 [va_rf (some (y 12)), .int x1, .int x2, .int x3] h (fun h' r => h' = h ∧ r = oPx (reM μ x1 x2 x3)) := by
  have z := m_resultIn (g := g) (P := P) (x1 := x1) (x2 := x2) (x3 := x3) mw.1 mw.2.2.1
  rw [mw.rw (r := 5) rfl] at z
  exact z
theorem m_grM (mw : MW h y ad μ) : EvI g P 170 [va_rf (some (y 12)), .int x1] h (fun h' r => h' = h ∧ r = grM μ x1) := by
  have z := m_greatest (g := g) (P := P) (x1 := x1) mw.1 mw.2.2.1
  rw [mw.rw (r := 5) rfl] at z
  exact z
def kdV (μ : mT) (v : Int32) (b : Option (Nat × Nat × Nat)) : Prop := ∀ q, b = some q → cel μ q 0 = v
theorem obM_k (tb : TB h y ad μ.1) {k : Int32} : kdV μ 3 (obM μ x k) := by
  refine tF_inv (p := kdV μ 3) (fun _ q => by cases q) (thT_le tb) (fun b k e i hk hl he hi hb => ?_)
  unfold objM
  cases b with
  | some _ => exact hb
  | none =>
    dsimp only
    split
    · exact fun _ q => by cases q
    · rename_i z
      split
      · exact fun _ q => by cases q
      · split
        · exact fun _ q => by cases q
        · intro _ q; cases q; exact Decidable.not_not.mp z
theorem reM_k (tb : TB h y ad μ.1) {c n : Int32} : kdV μ 5 (reM μ x c n) := by
  refine tF_inv (p := kdV μ 5) (fun _ q => by cases q) (thT_le tb) (fun b k e i hk hl he hi hb => ?_)
  unfold resM
  cases b with
  | some _ => exact hb
  | none =>
    dsimp only
    split
    · exact fun _ q => by cases q
    · rename_i z
      split
      · exact fun _ q => by cases q
      · split
        · exact fun _ q => by cases q
        · intro _ q; cases q; exact Decidable.not_not.mp z
theorem acM_ge : (1 : Int32) ≤ acM μ x x1 := by
  unfold acM tFold
  refine fold_inv (fun b => (1 : Int32) ≤ b) _ _ (fun b k _ hb => ?_) 1 (by decide)
  unfold slF
  split
  · exact hb
  · refine fold_inv (fun b => (1 : Int32) ≤ b) _ _ (fun b e _ hb => ?_) b hb
    have st : ∀ (b : Int32) r, (1 : Int32) ≤ b → (1 : Int32) ≤ ackM x1 b 0 0 0 r := fun b r hb => by
      unfold ackM
      split
      · exact hb
      · split
        · exact hb
        · split
          · exact hb
          · rename_i z
            exact Int32.le_trans hb (Int32.le_of_lt (Int32.not_le.mp z))
    unfold ent2
    exact st _ _ (st _ _ hb)
theorem nI_back (q : (0 : Int32) ≤ x) : x = nI x.toNatClampNeg := by
  unfold nI
  have h0 : (0 : Int) ≤ x.toInt := by
    have := Int32.le_iff_toInt_le.mp q
    simpa using this
  apply Int32.toInt_inj.mp
  have e : x.toNatClampNeg = x.toInt.toNat := rfl
  rw [e]
  have hb := x.toInt_lt
  rw [Int32.toInt_ofNat_of_lt (by omega)]
  omega
theorem ptM_md {q : Nat × Nat × Nat} (mw : MW h y ad μ) (vl : vld μ.1 x (some q)) (nz : ¬ cel μ q 0 = 0) : EvV g P 130 [va_rf (some (y 12)), .int (oPx (some q))] h (fun h' => MF y ad (fun r _ => r = 33) (fun _ => False) h h' ∧ MD h' ad (ptM μ q, none)) := by
  obtain ⟨qk, qe, qi⟩ := q
  obtain ⟨v1, v2, v3, v4⟩ := vl qk qe qi rfl
  refine Ev.imp (m_makeOf (g := g) (P := P) (n9 := 9) rfl mw.1 mw.2.1 mw.2.2.1 v1 v3 v4) (fun h' r ⟨q0, q1, q2, q3⟩ => ⟨q0, q1, fun f hf => ⟨?_, q3 f hf⟩⟩)
  rw [q2 f hf]
  show mE ((lEn (μ.1.getD qk sl0)).getD qe en0) qi f = mPt (if qi = 0 then ((lEn (μ.1.getD qk sl0)).getD qe en0).1 else ((lEn (μ.1.getD qk sl0)).getD qe en0).2.getD (dgP 0)) f
  have nz : ¬ mE ((lEn (μ.1.getD qk sl0)).getD qe en0) qi 0 = 0 := nz
  generalize (lEn (μ.1.getD qk sl0)).getD qe en0 = E at nz ⊢
  unfold mE at nz ⊢
  by_cases z : qi = 0
  · rw [if_pos z, if_pos z]
  · rw [if_neg z] at nz
    rw [if_neg z, if_neg z]
    cases e2 : E.2 with
    | none => rw [e2] at nz; exact absurd rfl nz
    | some p => rfl
theorem ptM_k {q : Nat × Nat × Nat} (nz : ¬ cel μ q 0 = 0) : mPt (ptM μ q) 0 = cel μ q 0 := by
  obtain ⟨qk, qe, qi⟩ := q
  have nz : ¬ mE ((lEn (μ.1.getD qk sl0)).getD qe en0) qi 0 = 0 := nz
  show mPt (if qi = 0 then ((lEn (μ.1.getD qk sl0)).getD qe en0).1 else ((lEn (μ.1.getD qk sl0)).getD qe en0).2.getD (dgP 0)) 0 = mE ((lEn (μ.1.getD qk sl0)).getD qe en0) qi 0
  generalize (lEn (μ.1.getD qk sl0)).getD qe en0 = E at nz ⊢
  unfold mE at nz ⊢
  by_cases z : qi = 0
  · rw [if_pos z, if_pos z]
  · rw [if_neg z] at nz
    rw [if_neg z, if_neg z]
    cases e2 : E.2 with
    | none => rw [e2] at nz; exact absurd rfl nz
    | some p => rfl
theorem ApK.app (ap : ApK y μ m) (hm : m < y 20) (mw : MW h y ad μ) (md : MD h ad en) (nz : ¬ mPt en.1 0 = 0) : EvI g P 136 [va_rf (some (y 12)), .int (nI m), .int 1, .int 8] h (fun h' _ => MG y ad h h' ∧ MW h' y ad (appM y μ m 1 en 8).1) := by
  obtain ⟨a1, a2, a3, a4, a5, a6⟩ := ap
  exact Ev.imp (m_append (g := g) (P := P) (xr := 1) (c := 8) mw a1 hm a2 a3 a4 a5 md (a6 en nz) (by omega)) (fun h' r ⟨x, q1, _, q3, q4⟩ => ⟨x, q1, q3, q4⟩)
end MV
