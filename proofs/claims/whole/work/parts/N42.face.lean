/-! the two sides: all of both; calls that touch one server's state -/
def CqR (μ : mT) (c : Nat) (k : kcT) : Prop := (μ.2.1 39 c = nI k.1.length ∧ k.1.length ≤ 40) ∧ (∀ n, n < k.1.length → μ.2.1 40 (40 * c + n) = (k.1.getD n rq0).1 ∧ μ.2.1 41 (40 * c + n) = (k.1.getD n rq0).2.1 ∧ μ.2.1 42 (40 * c + n) = (k.1.getD n rq0).2.2.1 ∧ μ.2.1 43 (40 * c + n) = (k.1.getD n rq0).2.2.2) ∧ ∀ n, n < 40 → (μ.2.1 44 (40 * c + n) = 0 ∧ k.2 n = none) ∨ (μ.2.1 44 (40 * c + n) = 1 ∧ ∃ v, k.2 n = some v ∧ μ.2.1 45 (40 * c + n) = v.1 ∧ μ.2.1 46 (40 * c + n) = v.2.1 ∧ μ.2.1 47 (40 * c + n) = v.2.2)
def NtR (y : Nat → Nat) (μ : mT) (cl : List kcT) (p : Nat) (o : Option msT) : Prop := (μ.2.1 48 p = -1 ∧ o = none) ∨ ∃ x, o = some x ∧ (μ.2.1 49 p = nI x.1 ∧ μ.2.1 50 p = nI x.2.1 ∧ μ.2.1 52 p = x.2.2.1) ∧ ((μ.2.1 48 p = 0 ∧ ∃ t, t < y 20 ∧ x.2.2.2.1 = some t ∧ x.2.2.2.2 = none ∧ μ.2.1 51 p = nI t) ∨ (μ.2.1 48 p = 1 ∧ ∃ v, x.2.2.2.2 = some v ∧ μ.2.1 53 p = v.1 ∧ μ.2.1 54 p = v.2.1 ∧ μ.2.1 55 p = v.2.2)) ∧ x.1 < 6 ∧ 1 ≤ x.2.1 ∧ x.2.1 ≤ (cl.getD x.1 cl0).1.length
def FR (y : Nat → Nat) (F : fcT) (μ : mT) : Prop := MR y (fSt F) μ ∧ ((fCl F).length = 6 ∧ ∀ c, c < 6 → CqR μ c ((fCl F).getD c cl0)) ∧ (∀ p, p < 40 → NtR y μ (fCl F) p (fNt F p)) ∧ μ.2.2 15 = nI (fCk F) ∧ μ.2.2 22 = nI (fEf F)
section FC
variable {x x' v xr z a b : Int32} {A A' B D : alT} {k e i j N U rep nm m up L M t r f : Nat} {y : Nat → Nat} {S S' : stA} {μ μ' : mT} {F F' : fcT} {cl : List kcT} {p c : Nat} {q : kcT} {o : Option msT}
def rwE (μ μ' : mT) : Prop := ∀ r k, 39 ≤ r → r ≤ 55 → μ'.2.1 r k = μ.2.1 r k
theorem CqR.eq (h : CqR μ c q) (e : rwE μ μ') : CqR μ' c q := by
  obtain ⟨⟨h1, h2⟩, h3, h4⟩ := h
  refine ⟨⟨by rw [e 39 _ (by decide) (by decide)]; exact h1, h2⟩, fun n hn => ?_, fun n hn => ?_⟩
  · rw [e 40 _ (by decide) (by decide), e 41 _ (by decide) (by decide), e 42 _ (by decide) (by decide), e 43 _ (by decide) (by decide)]
    exact h3 n hn
  · rw [e 44 _ (by decide) (by decide), e 45 _ (by decide) (by decide), e 46 _ (by decide) (by decide), e 47 _ (by decide) (by decide)]
    exact h4 n hn
theorem NtR.eq (h : NtR y μ cl p o) (e : rwE μ μ') : NtR y μ' cl p o := by
  unfold NtR at h ⊢
  rw [e 48 _ (by decide) (by decide), e 49 _ (by decide) (by decide), e 50 _ (by decide) (by decide), e 51 _ (by decide) (by decide), e 52 _ (by decide) (by decide), e 53 _ (by decide) (by decide), e 54 _ (by decide) (by decide), e 55 _ (by decide) (by decide)]
  exact h
theorem FR.st (h : FR y F μ) (mr : MR y S' μ') (e : rwE μ μ') (e15 : μ'.2.2 15 = μ.2.2 15) (e22 : μ'.2.2 22 = μ.2.2 22) : FR y (setS F S') μ' := ⟨mr, ⟨h.2.1.1, fun c hc => (h.2.1.2 c hc).eq e⟩, fun p hp => (h.2.2.1 p hp).eq e, e15.trans h.2.2.2.1, e22.trans h.2.2.2.2⟩
theorem FR.sn (h : FR y F μ) : FR y F (sn0 μ) := ⟨h.1.num (fun k _ _ h4 => if_neg h4), h.2.1, h.2.2.1, h.2.2.2⟩
theorem is_F (hy : 4 ≤ y 20 ∧ y 20 ≤ 8) : isM y x = inF x (nI (y 20)) := by
  unfold isM inF
  by_cases q1 : x < 0
  · rw [if_pos (Or.inl q1), if_pos q1]
  · rw [if_neg q1]
    have em : nI (y 20) - 1 = nI (y 20 - 1) := by
      have := nI_pred (y 20 - 1)
      rw [show y 20 - 1 + 1 = y 20 by omega] at this
      exact this
    have eb := nI_back (x := x) (Int32.not_lt.mp q1)
    have lt := clN_lt x
    rw [em]
    generalize x.toNatClampNeg = n at eb lt
    subst eb
    by_cases q2 : y 20 ≤ n
    · rw [if_pos (Or.inr (nI_lt (by omega) (by omega))), if_pos (nI_le q2 (by omega))]
    · rw [if_neg (fun w => w.elim q1 (fun w => by
        have := (nI_leI (a := n) (b := y 20 - 1) (by omega) (by omega)).mpr (by omega)
        exact Int32.not_lt.mpr this w)), if_neg (fun w => q2 ((nI_leI (by omega) (by omega)).mp w))]
theorem dwn_row (h : 39 ≤ r) : (dwnM μ i).2.1 r k = μ.2.1 r k := by
  show (if r = 5 ∧ k = i then 2 else losR2 (uR μ 8 i (if ¬ μ.2.1 8 i = 0 ∨ 0 < onN μ (nI i) then 1 else 0)) i r k) = _
  rw [if_neg (by omega)]
  unfold losR2
  rw [if_neg (by omega), if_neg (by omega), if_neg (by omega), if_neg (by omega), if_neg (by omega)]
  exact if_neg (by omega)
theorem crash_R (h : FR y F μ) (sv : ∀ i, i < y 20 → SvI ((tSv (fSt F)).getD i sr0)) : FR y (crsA y F x).1 (crsM y (sn0 μ) x).1 ∧ (crsM y (sn0 μ) x).2 = (crsA y F x).2 := by
  have h0 := h.sn
  have hy := h.1.1.1.1
  generalize sn0 μ = ν at h0
  have mr := h0.1
  unfold crsM crsA
  rw [is_F hy]
  by_cases q : inF x (nI (y 20)) = 0
  · rw [if_pos q, if_pos q]; exact ⟨h0, rfl⟩
  · rw [if_neg q, if_neg q]
    obtain ⟨i, hi, ei⟩ := isM_n (x := x) hy (by rw [is_F hy]; exact q)
    subst ei
    rw [nI_clamp (by omega)]
    have a1 := (mr.2.2.2.2.1 i hi).1.1
    rw [a1]
    by_cases q2 : sSt ((tSv (fSt F)).getD i sr0) = 2
    · rw [if_pos q2, if_pos q2]; exact ⟨h0, rfl⟩
    · rw [if_neg q2, if_neg q2]
      exact ⟨h0.st (dwn_R mr hi (sv i hi)) (fun r k h1 _ => dwn_row h1) rfl rfl, rfl⟩
theorem MR.st5 (mr : MR y S μ) (hi : i < y 20) : MR y (stS S i v) (uR μ 5 i v) := by
  have mr0 := mr
  obtain ⟨-, ⟨l1, l2, l3, l4⟩, ⟨n1, n2, n3, n4, n5, n6, n7, n8⟩, ow, sv, de, dd, sp, lb⟩ := mr
  obtain ⟨⟨a1, a2, a3, a4, a5, a6⟩, bb, c, d, e⟩ := sv i hi
  exact MR.sv (z' := stX ((tSv S).getD i sr0) v) (c' := tFo S) mr0 hi rfl (fun r k h1 h2 => if_neg (fun w => h1 (by omega) w.2)) (fun r k h => if_neg (by omega)) (fun _ _ => rfl) n7 (fun k hk _ _ => ⟨hk, rfl⟩) ⟨⟨if_pos ⟨rfl, rfl⟩, a2, a3, a4, a5, a6⟩, bb, c, d, e⟩ (fun _ _ _ _ _ r => r) sp (fun s hs => Or.inr (Or.inr (Or.inr (lb s hs))))
theorem MR.cu12 (mr : MR y S μ) (hi : i < y 20) : MR y (cuS S i v) (uR μ 12 i v) := by
  have mr0 := mr
  obtain ⟨-, ⟨l1, l2, l3, l4⟩, ⟨n1, n2, n3, n4, n5, n6, n7, n8⟩, ow, sv, de, dd, sp, lb⟩ := mr
  obtain ⟨⟨a1, a2, a3, a4, a5, a6⟩, bb, c, d, e⟩ := sv i hi
  exact MR.sv (z' := cuX ((tSv S).getD i sr0) v) (c' := tFo S) mr0 hi rfl (fun r k h1 h2 => if_neg (fun w => h1 (by omega) w.2)) (fun r k h => if_neg (by omega)) (fun _ _ => rfl) n7 (fun k hk _ _ => ⟨hk, rfl⟩) ⟨⟨a1, a2, a3, a4, a5, if_pos ⟨rfl, rfl⟩⟩, bb, c, d, e⟩ (fun _ _ _ _ _ r => r) sp (fun s hs => Or.inr (Or.inr (Or.inr (lb s hs))))
theorem from_R (h : FR y F μ) : FR y (mvdA y F x a b).1 (frmM y (sn0 μ) x a b).1 ∧ (frmM y (sn0 μ) x a b).2 = (mvdA y F x a b).2 := by
  have h0 := h.sn
  have hy := h.1.1.1.1
  generalize sn0 μ = ν at h0
  have mr := h0.1
  unfold frmM mvdA
  rw [is_F hy]
  by_cases q : inF x (nI (y 20)) = 0
  · rw [if_pos q, if_pos q]; exact ⟨h0, rfl⟩
  · rw [if_neg q, if_neg q]
    obtain ⟨i, hi, ei⟩ := isM_n (x := x) hy (by rw [is_F hy]; exact q)
    subst ei
    rw [nI_clamp (by omega)]
    have a1 := (mr.2.2.2.2.1 i hi).1.1
    rw [a1]
    by_cases q2 : sSt ((tSv (fSt F)).getD i sr0) = a
    · rw [if_pos q2, if_neg (fun w => w q2)]
      exact ⟨h0.st (mr.st5 hi) (fun r k h1 _ => if_neg (by omega)) rfl rfl, rfl⟩
    · rw [if_neg q2, if_pos q2]; exact ⟨h0, rfl⟩
theorem cut_R (h : FR y F μ) : FR y (cutA y F x z).1 (cutM y (sn0 μ) x z).1 ∧ (cutM y (sn0 μ) x z).2 = (cutA y F x z).2 := by
  have h0 := h.sn
  have hy := h.1.1.1.1
  generalize sn0 μ = ν at h0
  have mr := h0.1
  unfold cutM cutA
  rw [is_F hy]
  by_cases q : inF x (nI (y 20)) = 0
  · rw [if_pos q, if_pos (Or.inl q)]; exact ⟨h0, rfl⟩
  · rw [if_neg q]
    obtain ⟨i, hi, ei⟩ := isM_n (x := x) hy (by rw [is_F hy]; exact q)
    subst ei
    rw [nI_clamp (by omega)]
    have a1 := (mr.2.2.2.2.1 i hi).1.1
    rw [a1]
    by_cases q3 : z < -1 ∨ nI (y 21) < z
    · rw [if_pos (show inF (nI i) (nI (y 20)) = 0 ∨ z < -1 ∨ ¬ z ≤ nI (y 21) from Or.inr (q3.imp id Int32.not_le.mpr))]
      split
      · exact ⟨h0, rfl⟩
      · exact ⟨h0, rfl⟩
    · rw [if_neg (show ¬ (inF (nI i) (nI (y 20)) = 0 ∨ z < -1 ∨ ¬ z ≤ nI (y 21)) from fun w => w.elim q (fun w => q3 (w.imp id Int32.not_le.mp)))]
      by_cases q2 : sSt ((tSv (fSt F)).getD i sr0) = 0
      · rw [if_neg (show ¬ ¬ sSt ((tSv (fSt F)).getD i sr0) = 0 from fun w => w q2), if_neg q3, if_neg (show ¬ ¬ sSt ((tSv (fSt F)).getD i sr0) = 0 from fun w => w q2)]
        exact ⟨h0.st (mr.cu12 hi) (fun r k h1 _ => if_neg (by omega)) rfl rfl, rfl⟩
      · rw [if_pos q2, if_pos q2]; exact ⟨h0, rfl⟩
theorem coord_R (h : FR y F μ) : FR y (corA F x) (uN (sn0 μ) 14 x) := by
  have h0 := h.sn
  generalize sn0 μ = ν at h0
  obtain ⟨mr, r1, r2, r3, r4⟩ := h0
  obtain ⟨k0, l, ⟨n1, n2, n3, n4, n5, n6, n7, n8⟩, rest⟩ := mr
  exact ⟨⟨k0, l, ⟨(show (if (14 : Nat) = 14 then x else ν.2.2 14) = x from if_pos rfl), n2, n3, n4, n5, n6, n7, n8⟩, rest⟩, r1, r2, r3, r4⟩
theorem tick1_R (h : FR y F μ) (hT : μ.1.length < 2 ^ 31) (hp : tkP y (fSt F) μ) (e : rwE μ (on1 y μ).1) (e15 : (on1 y μ).1.2.2 15 = μ.2.2 15 + 1) (e22 : (on1 y μ).1.2.2 22 = μ.2.2 22) : FR y ((tkT y (fSt F)).1, fCl F, fNt F, fCk F + 1, fEf F) (on1 y μ).1 ∧ (on1 y μ).2 = (tkT y (fSt F)).2 := by
  obtain ⟨m1, m2⟩ := on1_R h.1 hT hp
  exact ⟨⟨m1, ⟨h.2.1.1, fun c hc => (h.2.1.2 c hc).eq e⟩, fun p hp => (h.2.2.1 p hp).eq e, by rw [e15, h.2.2.2.1, nI_1]; rfl, e22.trans h.2.2.2.2⟩, m2⟩
end FC
