/-! the two sides: the NET and the clients -/
section NT
variable {x x1 x2 x3 v : Int32} {k e i j N t r f n c p d : Nat} {y : Nat → Nat} {S S' : stA} {μ μ' : mT} {F F' : fcT} {cl : List kcT} {q : kcT} {o u : Option msT} {xx : msT}
theorem in_F (hn : n < 1000) : inF x (nI (n + 1)) = 0 ↔ (x < 0 ∨ nI n < x) := by
  unfold inF
  by_cases q1 : x < 0
  · rw [if_pos q1]; exact ⟨fun _ => Or.inl q1, fun _ => rfl⟩
  · rw [if_neg q1]
    have eb := nI_back (x := x) (Int32.not_lt.mp q1)
    have lt := clN_lt x
    generalize x.toNatClampNeg = m at eb lt
    subst eb
    by_cases q2 : n + 1 ≤ m
    · rw [if_pos (nI_le q2 (by omega))]
      exact ⟨fun _ => Or.inr (nI_lt (by omega) (by omega)), fun _ => rfl⟩
    · rw [if_neg (fun w => q2 ((nI_leI (by omega) (by omega)).mp w))]
      refine ⟨fun w => absurd w (by decide), fun w => absurd (w.resolve_left q1) (Int32.not_lt.mpr (nI_le (by omega) (by omega)))⟩
theorem in_n (hn : n < 1000) (h : ¬ inF x (nI (n + 1)) = 0) : ∃ m, m ≤ n ∧ x = nI m := by
  rw [in_F hn] at h
  have q1 : ¬ x < 0 := fun w => h (Or.inl w)
  have eb := nI_back (x := x) (Int32.not_lt.mp q1)
  have lt := clN_lt x
  generalize x.toNatClampNeg = m at eb lt
  subst eb
  refine ⟨m, ?_, rfl⟩
  rcases Nat.lt_or_ge n m with w | w
  · exact absurd (Or.inr (nI_lt w (by omega))) h
  · exact w
theorem MR.rows (mr : MR y S μ) (e1 : μ'.1 = μ.1) (e2 : μ'.2.2 = μ.2.2) (er : ∀ r k, r < 39 ∨ 55 < r → μ'.2.1 r k = μ.2.1 r k) : MR y S μ' := by
  obtain ⟨T, ρ, ν⟩ := μ'
  have e1 : T = μ.1 := e1
  have e2 : ν = μ.2.2 := e2
  subst e1; subst e2
  have er : ∀ r k, r < 39 ∨ 55 < r → ρ r k = μ.2.1 r k := er
  obtain ⟨k0, l, nn, ow, sv, de, dd, sp, lb⟩ := mr
  refine ⟨k0, l, nn, fun t ht => (er 13 t (by omega)).trans (ow t ht), fun i hi => ?_, fun j hj => ?_, fun j k hj hk e => dd j k hj hk (by rw [← er 57 j (by omega), ← er 57 k (by omega)]; exact e), sp, fun s hs => ?_⟩
  · obtain ⟨⟨a1, a2, a3, a4, a5, a6⟩, b, c, d, e⟩ := sv i hi
    refine ⟨⟨(er 5 i (by omega)).trans a1, (er 6 i (by omega)).trans a2, (er 8 i (by omega)).trans a3, (er 9 i (by omega)).trans a4, (er 11 i (by omega)).trans a5, (er 12 i (by omega)).trans a6⟩, fun t ht => (er 7 _ (by omega)).trans (b t ht), ?_, d, e⟩
    rcases c with ⟨h1, h2⟩ | ⟨k, h1, h2, h3, h4⟩
    · exact Or.inl ⟨h1, (er 10 i (by omega)).trans h2⟩
    · exact Or.inr ⟨k, h1, (er 10 i (by omega)).trans h2, h3, h4⟩
  · obtain ⟨⟨e, e1, e2⟩, d2, d3⟩ := de j hj
    have e57 : ρ 57 j = μ.2.1 57 j := er 57 j (by omega)
    refine ⟨⟨e, e1, e57.trans e2⟩, fun t ht => (er 58 _ (by omega)).trans (d2 t ht), ?_⟩
    show LgR μ.1 (ρ 57 j) _
    rw [e57]; exact d3
  · rcases lb s hs with q | q | q | ⟨j, j1, j2⟩
    · exact Or.inl q
    · exact Or.inr (Or.inl q)
    · exact Or.inr (Or.inr (Or.inl q))
    · exact Or.inr (Or.inr (Or.inr ⟨j, j1, j2.trans (er 57 j (by omega)).symm⟩))
theorem NtR.at (h : NtR y μ cl p o) (e : ∀ r, 48 ≤ r → r ≤ 55 → μ'.2.1 r p = μ.2.1 r p) : NtR y μ' cl p o := by
  unfold NtR at h ⊢
  rw [e 48 (by decide) (by decide), e 49 (by decide) (by decide), e 50 (by decide) (by decide), e 51 (by decide) (by decide), e 52 (by decide) (by decide), e 53 (by decide) (by decide), e 54 (by decide) (by decide), e 55 (by decide) (by decide)]
  exact h
/-- one place of the NET changes -/
theorem FR.net (h : FR y F μ) (e1 : μ'.1 = μ.1) (e2 : μ'.2.2 = μ.2.2) (er : ∀ r k, ¬ (48 ≤ r ∧ r ≤ 55 ∧ k = p) → μ'.2.1 r k = μ.2.1 r k) (hp : NtR y μ' (fCl F) p u) : FR y (netA F p u) μ' := by
  obtain ⟨mr, ⟨c1, c2⟩, nt, r3, r4⟩ := h
  refine ⟨mr.rows e1 e2 (fun r k hr => er r k (by omega)), ⟨c1, fun c hc => ?_⟩, fun p' hp' => ?_, by rw [e2]; exact r3, by rw [e2]; exact r4⟩
  · obtain ⟨⟨h1, h2⟩, h3, h4⟩ := c2 c hc
    refine ⟨⟨(er 39 _ (by omega)).trans h1, h2⟩, fun n hn => ?_, fun n hn => ?_⟩
    · rw [er 40 _ (by omega), er 41 _ (by omega), er 42 _ (by omega), er 43 _ (by omega)]
      exact h3 n hn
    · rw [er 44 _ (by omega), er 45 _ (by omega), er 46 _ (by omega), er 47 _ (by omega)]
      exact h4 n hn
  · show NtR y μ' (fCl F) p' (u1 (fNt F) p u p')
    by_cases q : p' = p
    · subst q; rw [u1_y]; exact hp
    · rw [u1_n q]
      exact (nt p' hp').at (fun r h1 h2 => er r p' (by omega))
theorem ms_0 (h : NtR y μ cl p o) : μ.2.1 48 p = -1 ↔ o = none := by
  rcases h with ⟨h1, h2⟩ | ⟨x, h1, -, h3, -⟩
  · exact ⟨fun _ => h2, fun _ => h1⟩
  · refine ⟨fun w => ?_, fun w => by rw [h1] at w; cases w⟩
    rcases h3 with h3 | h3
    · rw [h3.1] at w; exact absurd w (by decide)
    · rw [h3.1] at w; exact absurd w (by decide)
/-- is there a message? -/
theorem im_R (h : FR y F μ) : (imM μ x = 0 ∧ msgA F x = none) ∨ ∃ p xx, p < 40 ∧ x = nI p ∧ ¬ imM μ x = 0 ∧ fNt F p = some xx ∧ msgA F x = some (p, xx) := by
  unfold imM msgA
  have i40 := in_F (x := x) (n := 39) (by decide)
  have i40 : inF x 40 = 0 ↔ (x < 0 ∨ 39 < x) := i40
  by_cases q : x < 0 ∨ 39 < x
  · rw [if_pos q, if_pos (i40.mpr q)]; exact Or.inl ⟨rfl, rfl⟩
  · obtain ⟨p, hp, ep⟩ := in_n (x := x) (n := 39) (by decide) (fun w => q (i40.mp w))
    subst ep
    rw [if_neg q, if_neg (fun w => q (i40.mp w)), nI_clamp (by omega)]
    have m0 := ms_0 (h.2.2.1 p (by omega))
    by_cases q2 : μ.2.1 48 p = -1
    · rw [if_pos q2, m0.mp q2]; exact Or.inl ⟨rfl, rfl⟩
    · rw [if_neg q2]
      cases e : fNt F p with
      | none => exact absurd (m0.mpr e) q2
      | some xx => exact Or.inr ⟨p, xx, by omega, rfl, by decide, e, rfl⟩
theorem drop_R (h : FR y F μ) : FR y (drpA F x).1 (drp1 (sn0 μ) x).1 ∧ (drp1 (sn0 μ) x).2 = (drpA F x).2 := by
  have h0 := h.sn
  generalize sn0 μ = ν at h0
  unfold drp1 drpA
  rcases im_R (x := x) h0 with ⟨q1, q2⟩ | ⟨p, xx, hp, ep, q1, q2, q3⟩
  · rw [if_pos q1, q2]; exact ⟨h0, rfl⟩
  · rw [if_neg q1, q3, ep, nI_clamp (by omega)]
    exact ⟨h0.net rfl rfl (fun r k hk => if_neg (by omega)) (Or.inl ⟨if_pos ⟨rfl, rfl⟩, rfl⟩), rfl⟩
theorem fr_f : ∀ (d p : Nat) (nt : Nat → Option msT), (∀ q, q < p + d → (μ.2.1 48 q = -1 ↔ nt q = none)) → (List.range' p d).find? (fun i => (nt i).isNone) = if frF μ d p < p + d then some (frF μ d p) else none := by
  intro d
  induction d with
  | zero => intro p nt _; rw [if_neg (by unfold frF; omega)]; rfl
  | succ d ih =>
    intro p nt h
    rw [List.range'_succ, List.find?_cons]
    have hp := h p (by omega)
    show _ = if (if μ.2.1 48 p = -1 then p else frF μ d (p + 1)) < p + (d + 1) then some (if μ.2.1 48 p = -1 then p else frF μ d (p + 1)) else none
    by_cases q : μ.2.1 48 p = -1
    · rw [hp.mp q, if_pos q, if_pos (by omega)]; rfl
    · rw [if_neg q]
      have : (nt p).isNone = false := by
        cases e : nt p with
        | none => exact absurd (hp.mpr e) q
        | some _ => rfl
      rw [this, ih (p + 1) nt (fun q hq => h q (by omega)), show p + 1 + d = p + (d + 1) by omega]
theorem fp_R (h : FR y F μ) : fpA (fNt F) = if frM μ < 40 then some (frM μ) else none := by
  have := fr_f (μ := μ) 40 0 (fNt F) (fun q hq => ms_0 (h.2.2.1 q (by omega)))
  rw [← List.range_eq_range'] at this
  exact this
theorem twice_R (h : FR y F μ) : FR y (twiA F x).1 (twi1 (sn0 μ) x).1 ∧ (twi1 (sn0 μ) x).2 = (twiA F x).2 := by
  have h0 := h.sn
  generalize sn0 μ = ν at h0
  have fp := fp_R h0
  unfold twi1 twiA
  rcases im_R (x := x) h0 with ⟨q1, q2⟩ | ⟨p, xx, hp, ep, q1, q2, q3⟩
  · rw [if_pos q1, q2]; exact ⟨h0, rfl⟩
  · rw [if_neg q1, q3, ep, nI_clamp (by omega)]
    dsimp only
    rw [fp]
    by_cases w : frM ν < 40
    · rw [if_pos w, if_neg (fun z => z w)]
      refine ⟨?_, rfl⟩
      have src := h0.2.2.1 p hp
      rw [q2] at src
      generalize frM ν = t at w
      refine h0.net rfl rfl (fun r k hk => ?_) ?_
      · show (if r = 55 ∧ k = t then _ else if r = 54 ∧ k = t then _ else if r = 53 ∧ k = t then _ else if r = 52 ∧ k = t then _ else if r = 51 ∧ k = t then _ else if r = 50 ∧ k = t then _ else if r = 49 ∧ k = t then _ else if r = 48 ∧ k = t then _ else ν.2.1 r k) = _
        rw [if_neg (by omega), if_neg (by omega), if_neg (by omega), if_neg (by omega), if_neg (by omega), if_neg (by omega), if_neg (by omega), if_neg (by omega)]
      · have cp : ∀ r, 48 ≤ r → r ≤ 55 → (tw8 ν t p).2.1 r t = ν.2.1 r p := fun r h1 h2 => by
          have : r = 48 ∨ r = 49 ∨ r = 50 ∨ r = 51 ∨ r = 52 ∨ r = 53 ∨ r = 54 ∨ r = 55 := by omega
          show (if r = 55 ∧ t = t then ν.2.1 55 p else if r = 54 ∧ t = t then ν.2.1 54 p else if r = 53 ∧ t = t then ν.2.1 53 p else if r = 52 ∧ t = t then ν.2.1 52 p else if r = 51 ∧ t = t then ν.2.1 51 p else if r = 50 ∧ t = t then ν.2.1 50 p else if r = 49 ∧ t = t then ν.2.1 49 p else if r = 48 ∧ t = t then ν.2.1 48 p else ν.2.1 r t) = _
          rcases this with z | z | z | z | z | z | z | z <;> subst z <;> simp
        rcases src with ⟨a1, a2⟩ | ⟨x0, a1, a2, a3, a4⟩
        · cases a2
        · cases a1
          refine Or.inr ⟨xx, rfl, ?_, ?_, a4⟩
          · rw [cp 49 (by decide) (by decide), cp 50 (by decide) (by decide), cp 52 (by decide) (by decide)]; exact a2
          · rw [cp 48 (by decide) (by decide), cp 51 (by decide) (by decide), cp 53 (by decide) (by decide), cp 54 (by decide) (by decide), cp 55 (by decide) (by decide)]; exact a3
    · rw [if_neg w, if_pos w]; exact ⟨h0, rfl⟩
theorem owner_R (h : FR y F μ) : ownM (sn0 μ) x = ownrA F x := by
  have h0 := h.sn
  generalize sn0 μ = ν at h0
  unfold ownM ownrA
  have i8 := in_F (x := x) (n := 7) (by decide)
  have i8 : inF x 8 = 0 ↔ (x < 0 ∨ 7 < x) := i8
  by_cases q : x < 0 ∨ 7 < x
  · rw [if_pos q, if_pos (i8.mpr q)]
  · rw [if_neg q, if_neg (fun w => q (i8.mp w))]
    obtain ⟨t, ht, et⟩ := in_n (x := x) (n := 7) (by decide) (fun w => q (i8.mp w))
    rw [et, nI_clamp (by omega)]
    exact h0.1.2.2.2.1 t (by omega)
end NT
