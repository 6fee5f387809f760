/-! the two sides: acked, got, again -/
section CI
variable {x x1 x2 x3 v ky : Int32} {k e i j N t r f n c p d m : Nat} {y : Nat → Nat} {S S' : stA} {μ μ' : mT} {F F' : fcT} {cl : List kcT} {q : kcT} {o u : Option msT} {xx : msT}
theorem cq_0 (h : CqR μ c q) (hn : n < 40) : μ.2.1 44 (40 * c + n) = 0 ↔ q.2 n = none := by
  rcases h.2.2 n hn with ⟨h1, h2⟩ | ⟨h1, v, h2, -⟩
  · exact ⟨fun _ => h2, fun _ => h1⟩
  · exact ⟨fun w => by rw [h1] at w; exact absurd w (by decide), fun w => by rw [h2] at w; cases w⟩
theorem as_R (h : CqR μ c q) : asN μ c = q.1.length := by
  unfold asN
  rw [h.1.1]
  exact nI_clamp (by have := h.1.2; omega)
theorem ak_f (h : CqR μ c q) : ∀ (d k : Nat), k + d ≤ 40 → ((List.range' k d).find? (fun i => (q.2 i).isNone)).getD (k + d) = akF μ c d k := by
  intro d
  induction d with
  | zero => intro k _; rfl
  | succ d ih =>
    intro k hk
    rw [List.range'_succ, List.find?_cons]
    have h0 := cq_0 h (n := k) (by omega)
    show _ = if μ.2.1 44 (40 * c + k) = 0 then k else akF μ c d (k + 1)
    by_cases w : μ.2.1 44 (40 * c + k) = 0
    · rw [if_pos w, h0.mp w]; rfl
    · rw [if_neg w]
      have : (q.2 k).isNone = false := by
        cases e : q.2 k with
        | none => exact absurd (h0.mpr e) w
        | some _ => rfl
      rw [this, ← ih (k + 1) (by omega), show k + 1 + d = k + (d + 1) by omega]
theorem ak_R (h : CqR μ c q) : akM μ c + 1 = loA q := by
  unfold akM loA
  rw [as_R h, ← ak_f h q.1.length 0 (by have := h.1.2; omega), ← List.range_eq_range', Nat.zero_add]
theorem acked_R (h : FR y F μ) : akdM (sn0 μ) x = ackdA F x := by
  have h0 := h.sn
  generalize sn0 μ = ν at h0
  unfold akdM ackdA
  have i6 := in_F (x := x) (n := 5) (by decide)
  have i6 : inF x 6 = 0 ↔ (x < 0 ∨ 5 < x) := i6
  by_cases w : x < 0 ∨ 5 < x
  · rw [if_pos w, if_pos (i6.mpr w)]
  · rw [if_neg w, if_neg (fun z => w (i6.mp z))]
    obtain ⟨c, hc, ec⟩ := in_n (x := x) (n := 5) (by decide) (fun z => w (i6.mp z))
    rw [ec, nI_clamp (by omega), ak_R (h0.2.1.2 c (by omega))]
/-- a request that was sent -/
theorem rq_R (h : FR y F μ) : ((x1 < 0 ∨ 5 < x1 ∨ x2 < 1 ∨ μ.2.1 39 x1.toNatClampNeg < x2) ∧ rqI F x1 x2 = none) ∨ ∃ c n, c < 6 ∧ 1 ≤ n ∧ n ≤ ((fCl F).getD c cl0).1.length ∧ n ≤ 40 ∧ x1 = nI c ∧ x2 = nI n ∧ rqI F x1 x2 = some (c, n) ∧ ¬ (x1 < 0 ∨ 5 < x1) ∧ ¬ (x2 < 1 ∨ μ.2.1 39 c < x2) := by
  have i6 := in_F (x := x1) (n := 5) (by decide)
  have i6 : inF x1 6 = 0 ↔ (x1 < 0 ∨ 5 < x1) := i6
  unfold rqI
  by_cases w : x1 < 0 ∨ 5 < x1
  · rw [if_pos (Or.inl (i6.mpr w))]
    exact Or.inl ⟨w.elim Or.inl (fun w => Or.inr (Or.inl w)), rfl⟩
  · obtain ⟨c, hc, ec⟩ := in_n (x := x1) (n := 5) (by decide) (fun z => w (i6.mp z))
    subst ec
    rw [nI_clamp (by omega)]
    have cq := h.2.1.2 c (by omega)
    have e39 := cq.1.1
    have l40 := cq.1.2
    by_cases w2 : x2 < 1 ∨ ¬ x2 ≤ nI ((fCl F).getD c cl0).1.length
    · rw [if_pos (Or.inr w2)]
      refine Or.inl ⟨Or.inr (Or.inr ?_), rfl⟩
      rw [e39]
      exact w2.imp id Int32.not_le.mp
    · rw [if_neg (fun z => z.elim (fun z => w (i6.mp z)) w2)]
      have g1 : ¬ x2 < 1 := fun z => w2 (Or.inl z)
      have g2 : x2 ≤ nI ((fCl F).getD c cl0).1.length := Decidable.not_not.mp (fun z => w2 (Or.inr z))
      have eb := nI_back (x := x2) (Int32.le_trans (by decide) (Int32.not_lt.mp g1))
      have lt := clN_lt x2
      have n1 : 1 ≤ x2.toNatClampNeg := by
        have g := Int32.not_lt.mp g1
        rw [eb, show (1 : Int32) = nI 1 from rfl, nI_leI (by decide) (by omega)] at g
        exact g
      have n2 : x2.toNatClampNeg ≤ ((fCl F).getD c cl0).1.length := by
        rw [eb, nI_leI (by omega) (by omega)] at g2
        exact g2
      refine Or.inr ⟨c, x2.toNatClampNeg, by omega, n1, n2, by omega, rfl, eb, rfl, w, fun z => w2 (z.imp id (fun z => ?_))⟩
      rw [e39] at z
      exact Int32.not_le.mpr z
theorem got_R (h : FR y F μ) : gotM (sn0 μ) x1 x2 x3 = gotA F x1 x2 x3 := by
  have h0 := h.sn
  generalize sn0 μ = ν at h0
  unfold gotM gotA
  rcases rq_R (x1 := x1) (x2 := x2) h0 with ⟨q1, q2⟩ | ⟨c, n, hc, h1, h2, h40, e1, e2, q2, q3, q4⟩
  · rw [q2]
    dsimp only
    by_cases w : x1 < 0 ∨ 5 < x1
    · rw [if_pos w]
    · rw [if_neg w, if_pos]
      rcases q1 with z | z | z | z
      · exact absurd (Or.inl z) w
      · exact absurd (Or.inr z) w
      · exact Or.inl z
      · exact Or.inr z
  · rw [q2]
    subst e1; subst e2
    rw [if_neg q3, nI_clamp (by omega), if_neg q4, nI_clamp (by omega)]
    dsimp only
    have cq := h0.2.1.2 c hc
    rw [show 40 * c + n - 1 = 40 * c + (n - 1) by omega]
    rcases cq.2.2 (n - 1) (by omega) with ⟨g1, g2⟩ | ⟨g1, v, g2, g3, g4, g5⟩
    · rw [g2]
      dsimp only
      split
      · rfl
      · rfl
    · rw [g2]
      dsimp only
      have n0 : ¬ ν.2.1 44 (40 * c + (n - 1)) = 0 := by rw [g1]; decide
      by_cases k0 : x3 = 0
      · subst k0
        rw [if_neg (by decide), if_neg n0, if_pos rfl, if_pos rfl]; exact g3
      · by_cases k1 : x3 = 1
        · subst k1
          rw [if_neg (by decide), if_neg n0, if_neg k0, if_pos rfl, if_neg k0, if_pos rfl]; exact g4
        · by_cases k2 : x3 = 2
          · subst k2
            rw [if_neg (by decide), if_neg n0, if_neg k0, if_neg k1, if_neg k0, if_neg k1, if_pos rfl]; exact g5
          · have w : x3 < 0 ∨ 2 < x3 := by
              apply Decidable.byContradiction
              intro z
              have i3 := in_n (x := x3) (n := 2) (by decide) (fun u => z ((in_F (n := 2) (by decide)).mp u))
              obtain ⟨m, hm, em⟩ := i3
              have : m = 0 ∨ m = 1 ∨ m = 2 := by omega
              rcases this with u | u | u
              · exact k0 (by rw [em, u]; rfl)
              · exact k1 (by rw [em, u]; rfl)
              · exact k2 (by rw [em, u]; rfl)
            rw [if_pos w, if_neg k0, if_neg k1, if_neg k2]
/-- a message goes out -/
theorem post_R (h : FR y F μ) (hc : c < 6) (h1 : 1 ≤ n) (h2 : n ≤ ((fCl F).getD c cl0).1.length) (hk : ∃ k, k < 64 ∧ (((fCl F).getD c cl0).1.getD (n - 1) rq0).2.1 = nI k) (ho : owOK y (fSt F)) : (owF (fSt F) (((fCl F).getD c cl0).1.getD (n - 1) rq0).2.1 = -1 ↔ μ.2.1 13 (tbM μ c n) = -1) ∧ (¬ μ.2.1 13 (tbM μ c n) = -1 → frM μ < 40 → FR y (postA F c n (((fCl F).getD c cl0).1.getD (n - 1) rq0).2.1).1 (goM μ (frM μ) c n) ∧ (postA F c n (((fCl F).getD c cl0).1.getD (n - 1) rq0).2.1).2 = nI (frM μ)) := by
  obtain ⟨k, hk, ek⟩ := hk
  have cq := h.2.1.2 c hc
  have l40 := cq.1.2
  have e41 : kyM μ c n = nI k := by
    unfold kyM
    rw [show 40 * c + n - 1 = 40 * c + (n - 1) by omega, (cq.2.1 (n - 1) (by omega)).2.1, ek]
  have et : tbM μ c n = k / 8 := by
    unfold tbM
    rw [e41, show (8 : Int32) = nI 8 from rfl, pk_div (by omega) (by decide) (by decide)]
    exact nI_clamp (by omega)
  have eo : μ.2.1 13 (tbM μ c n) = owF (fSt F) (nI k) := by
    unfold owF
    rw [et, show (8 : Int32) = nI 8 from rfl, pk_div (by omega) (by decide) (by decide), nI_clamp (by omega)]
    exact h.1.2.2.2.1 (k / 8) (by omega)
  rw [ek]
  refine ⟨by rw [eo], fun n1 hf => ?_⟩
  rw [eo] at n1
  have fp := fp_R h
  rw [if_pos hf] at fp
  unfold postA
  rw [if_neg n1, fp]
  refine ⟨?_, rfl⟩
  have ow : ∃ j, j < y 20 ∧ owF (fSt F) (nI k) = nI j := by
    have := ho (k / 8) (by omega)
    have e : owF (fSt F) (nI k) = (tOw (fSt F)).getD (k / 8) 0 := by
      unfold owF
      rw [show (8 : Int32) = nI 8 from rfl, pk_div (by omega) (by decide) (by decide), nI_clamp (by omega)]
    rw [e] at n1 ⊢
    exact this.resolve_left n1
  obtain ⟨j, hj, ej⟩ := ow
  have y8 := h.1.1.1.1.2
  have lo := ak_R cq
  generalize frM μ = p0 at hf
  have g48 : (goM μ p0 c n).2.1 48 p0 = 0 := by unfold goM uR; simp
  have g49 : (goM μ p0 c n).2.1 49 p0 = nI c := by unfold goM uR; simp
  have g50 : (goM μ p0 c n).2.1 50 p0 = nI n := by unfold goM uR; simp
  have g51 : (goM μ p0 c n).2.1 51 p0 = μ.2.1 13 (tbM μ c n) := by unfold goM uR; simp
  have g52 : (goM μ p0 c n).2.1 52 p0 = nI (akM μ c + 1) := by unfold goM uR; simp
  refine h.net rfl rfl (fun r k' hk' => ?_) (Or.inr ⟨_, rfl, ⟨g49, g50, by rw [g52, lo]⟩, Or.inl ⟨g48, j, hj, by rw [ej, nI_clamp (by omega)], rfl, by rw [g51, eo, ej]⟩, hc, h1, h2⟩)
  show (if r = 52 ∧ k' = p0 then nI (akM μ c + 1) else if r = 51 ∧ k' = p0 then μ.2.1 13 (tbM μ c n) else if r = 50 ∧ k' = p0 then nI n else if r = 49 ∧ k' = p0 then nI c else if r = 48 ∧ k' = p0 then 0 else μ.2.1 r k') = _
  rw [if_neg (by omega), if_neg (by omega), if_neg (by omega), if_neg (by omega), if_neg (by omega)]
/-- again -/
theorem again_R (h : FR y F μ) (rq : rqOK F) (ho : owOK y (fSt F)) : FR y (agaA F x1 x2).1 (aga1 (sn0 μ) x1 x2).1 ∧ (aga1 (sn0 μ) x1 x2).2 = (agaA F x1 x2).2 := by
  have h0 := h.sn
  generalize sn0 μ = ν at h0
  unfold aga1 agaA
  rcases rq_R (x1 := x1) (x2 := x2) h0 with ⟨q1, q2⟩ | ⟨c, n, hc, h1, h2, h40, e1, e2, q2, q3, q4⟩
  · rw [q2]
    by_cases w : x1 < 0 ∨ 5 < x1
    · rw [if_pos w]; exact ⟨h0, rfl⟩
    · have w2 : x2 < 1 ∨ ν.2.1 39 x1.toNatClampNeg < x2 := by
        rcases q1 with z | z | z | z
        · exact absurd (Or.inl z) w
        · exact absurd (Or.inr z) w
        · exact Or.inl z
        · exact Or.inr z
      rw [if_neg w, if_pos w2]; exact ⟨h0, rfl⟩
  · rw [q2]
    subst e1; subst e2
    rw [if_neg q3, nI_clamp (by omega), if_neg q4, nI_clamp (by omega)]
    dsimp only
    have rk := (rq c hc (n - 1) (by omega)).1
    have hk : ∃ k, k < 64 ∧ (((fCl F).getD c cl0).1.getD (n - 1) rq0).2.1 = nI k := by
      obtain ⟨k, k1, k2⟩ := in_n (x := (((fCl F).getD c cl0).1.getD (n - 1) rq0).2.1) (n := 63) (by decide) (by
        show ¬ inF _ 64 = 0
        rw [rk]; decide)
      exact ⟨k, by omega, k2⟩
    obtain ⟨p1, p2⟩ := post_R h0 hc h1 h2 hk ho
    by_cases w1 : ν.2.1 13 (tbM ν c n) = -1
    · rw [if_pos w1]
      unfold postA
      rw [if_pos (p1.mpr w1)]
      exact ⟨h0, rfl⟩
    · rw [if_neg w1]
      by_cases w2 : frM ν < 40
      · rw [if_neg (fun z => z w2)]
        obtain ⟨r1, r2⟩ := p2 w1 w2
        exact ⟨r1, r2.symm⟩
      · rw [if_pos w2]
        have fp := fp_R h0
        rw [if_neg w2] at fp
        unfold postA
        rw [if_neg (fun z => w1 (p1.mp z)), fp]
        exact ⟨h0, rfl⟩
end CI
