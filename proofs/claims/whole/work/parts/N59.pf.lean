-- what is true of the PARTS of every LOG, and of a SERVER's own
def PFx (cl : List kcT) (B : Int32) (p : pT) : Prop := PK p ∧ ¬ pKd p = -1 ∧ (¬ kM (pKd p) = 0 → (1 : Int32) ≤ pVe p) ∧ pVe p ≤ B ∧ (pKd p = 4 → pAc p ≤ pNu p ∧ ∃ c n, c < 6 ∧ 1 ≤ n ∧ n ≤ (cl.getD c cl0).1.length ∧ pCl p = nI c ∧ pNu p = nI n ∧ pKy p = ((cl.getD c cl0).1.getD (n - 1) rq0).2.1)
def tbK (tb ky : Int32) : Prop := ∃ t, t < 8 ∧ ky / 8 = nI t ∧ shrB tb (nI t) = 1
def PO (sf tb : Int32) (p : pT) : Prop := (¬ kM (pKd p) = 0 → pVe p ≤ sf ∧ tbK tb (pKy p)) ∧ (pKd p = 4 → tbK tb (pKy p))
def LPx (cl : List kcT) (B : Int32) (A : alT) : Prop := (∀ p ∈ allP A, PFx cl B p) ∧ UQ (allP A)
def LOx (cl : List kcT) (B sf tb : Int32) (A : alT) : Prop := LPx cl B A ∧ ∀ p ∈ allP A, PO sf tb p
noncomputable def dcE (p : pT) (z : pT) : Bool := @decide (z = p) (Classical.propDecidable _)
theorem dcE_t {p z : pT} : dcE p z = true ↔ z = p := by
  unfold dcE
  exact @decide_eq_true_iff (z = p) (Classical.propDecidable _)
section
variable {A A' : alT} {q : pT → Bool} {N U nm c : Nat} {np : List pT} {g : agT} {cl cl' : List kcT} {B B' sf sf' tb v : Int32}
theorem PFx.mono {p : pT} (h : PFx cl B p) (hB : B ≤ B') (hc : ∀ c n, c < 6 → 1 ≤ n → n ≤ (cl.getD c cl0).1.length → n ≤ (cl'.getD c cl0).1.length ∧ (cl'.getD c cl0).1.getD (n - 1) rq0 = (cl.getD c cl0).1.getD (n - 1) rq0) : PFx cl' B' p := by
  refine ⟨h.1, h.2.1, h.2.2.1, Int32.le_trans h.2.2.2.1 hB, fun k => ?_⟩
  obtain ⟨a1, c, n, c1, c2, c3, c4, c5, c6⟩ := h.2.2.2.2 k
  obtain ⟨b1, b2⟩ := hc c n c1 c2 c3
  exact ⟨a1, c, n, c1, c2, b1, c4, c5, by rw [b2]; exact c6⟩
theorem PFx.b {p : pT} (h : PFx cl B p) (hB : B ≤ B') : PFx cl B' p := h.mono hB (fun _ _ _ _ z => ⟨z, rfl⟩)
theorem LPx.b (h : LPx cl B A) (hB : B ≤ B') : LPx cl B' A := ⟨fun p hp => (h.1 p hp).b hB, h.2⟩
theorem PFx.pv {p : pT} (h : PFx cl B p) (l : ∀ c, c < 6 → (cl.getD c cl0).1.length ≤ 40) : PV0 p := ⟨h.1, fun k => by
  obtain ⟨a1, c, n, c1, c2, c3, c4, c5, c6⟩ := h.2.2.2.2 k
  exact ⟨c, n, c1, c2, Nat.le_trans c3 (l c c1), c4, c5⟩, h.2.1, fun k => (h.2.2.2.2 k).1⟩
theorem PFx.dg (hv : v ≤ B) : PFx cl B (dgP v) := ⟨(dg_V v).1, (dg_V v).2.2.1, fun z => absurd rfl z, hv, fun z => absurd z (show ¬ (0 : Int32) = 4 by decide)⟩
theorem PO.dg : PO sf tb (dgP v) := ⟨fun z => absurd rfl z, fun z => absurd z (show ¬ (0 : Int32) = 4 by decide)⟩
theorem dg_qV {k w : Int32} : dg1 (qV k w) v = 0 := rfl
theorem dg_rA {k w : Int32} : dg1 (resA k w) v = 0 := rfl
theorem cn_in (h : ∀ q, (allP A').countP q ≤ (allP A).countP q + dg1 q v) : ∀ p ∈ allP A', p ∈ allP A ∨ p = dgP v := fun p hp => by
  have h1 := h (dcE p)
  have h2 : 0 < (allP A').countP (dcE p) := List.countP_pos_iff.mpr ⟨p, hp, dcE_t.mpr rfl⟩
  by_cases w : dgP v = p
  · exact Or.inr w.symm
  · have e : dg1 (dcE p) v = 0 := by
      unfold dg1
      rw [if_neg (fun z => w (dcE_t.mp z))]
    rw [e] at h1
    obtain ⟨z, z1, z2⟩ := List.countP_pos_iff.mp (show 0 < (allP A).countP (dcE p) by omega)
    rw [dcE_t.mp z2] at z1
    exact Or.inl z1
theorem cn_UQ (h : ∀ q, (allP A').countP q ≤ (allP A).countP q + dg1 q v) (u : UQ (allP A)) : UQ (allP A') := by
  rw [UQ_c] at u ⊢
  refine ⟨fun k w => ?_, fun k w => ?_⟩
  · have := h (qV k w)
    rw [dg_qV] at this
    exact Nat.le_trans this (u.1 k w)
  · have := h (resA k w)
    rw [dg_rA] at this
    exact Nat.le_trans this (u.2 k w)
theorem LOx.cn (h : ∀ q, (allP A').countP q ≤ (allP A).countP q + dg1 q v) (L : LOx cl B sf tb A) (hv : v ≤ B) : LOx cl B sf tb A' := by
  refine ⟨⟨fun p hp => ?_, cn_UQ h L.1.2⟩, fun p hp => ?_⟩
  · rcases cn_in h p hp with w | w
    · exact L.1.1 p w
    · rw [w]; exact PFx.dg hv
  · rcases cn_in h p hp with w | w
    · exact L.2 p w
    · rw [w]; exact PO.dg
theorem wr_in (e : ∀ q, (allP A').countP q = (allP A).countP q + np.countP q) : ∀ p ∈ allP A', p ∈ allP A ∨ p ∈ np := fun p hp => by
  have h1 := e (dcE p)
  have h2 : 0 < (allP A').countP (dcE p) := List.countP_pos_iff.mpr ⟨p, hp, dcE_t.mpr rfl⟩
  rw [← List.countP_append] at h1
  obtain ⟨z, z1, z2⟩ := List.countP_pos_iff.mp (show 0 < (allP A ++ np).countP (dcE p) by omega)
  rw [dcE_t.mp z2] at z1
  exact List.mem_append.mp z1
theorem wr_UQ (e : ∀ q, (allP A').countP q = (allP A).countP q + np.countP q) (u : UQ (allP A ++ np)) : UQ (allP A') := by
  rw [UQ_c] at u ⊢
  exact ⟨fun k w => by rw [e, ← List.countP_append]; exact u.1 k w, fun k w => by rw [e, ← List.countP_append]; exact u.2 k w⟩
theorem LPx.w (e : ∀ q, (allP A').countP q = (allP A).countP q + np.countP q) (L : LPx cl B A) (hB : B ≤ B') (hp : ∀ p ∈ np, PFx cl B' p) (u : UQ (allP A ++ np)) : LPx cl B' A' := ⟨fun p h => by
  rcases wr_in e p h with w | w
  · exact (L.1 p w).b hB
  · exact hp p w, wr_UQ e u⟩
theorem LOx.w (e : ∀ q, (allP A').countP q = (allP A).countP q + np.countP q) (L : LOx cl B sf tb A) (hB : B ≤ B') (hs : sf ≤ sf') (hp : ∀ p ∈ np, PFx cl B' p ∧ PO sf' tb p) (u : UQ (allP A ++ np)) : LOx cl B' sf' tb A' := ⟨LPx.w e L.1 hB (fun p h => (hp p h).1) u, fun p h => by
  rcases wr_in e p h with w | w
  · have := L.2 p w
    exact ⟨fun z => ⟨Int32.le_trans (this.1 z).1 hs, (this.1 z).2⟩, this.2⟩
  · exact (hp p w).2⟩
theorem LOx.sff (L : LOx cl B sf tb A) (hs : sf ≤ sf') : LOx cl B sf' tb A := ⟨L.1, fun p h => ⟨fun z => ⟨Int32.le_trans ((L.2 p h).1 z).1 hs, ((L.2 p h).1 z).2⟩, (L.2 p h).2⟩⟩
theorem LOx.e : LOx cl B sf tb e0L := ⟨⟨(fun p hp => by cases hp), List.Pairwise.nil⟩, fun p hp => by cases hp⟩
theorem LgO.e : LgO N U nm e0L := ⟨List.Pairwise.nil, (fun u hu => by cases hu), Or.inl rfl, fun g hg => by cases hg⟩
end
