/-! the two sides: send -/
/-- no ANSWER before its request -/
def AnI (F : fcT) : Prop := ∀ c, c < 6 → ∀ n, ((fCl F).getD c cl0).1.length ≤ n → ((fCl F).getD c cl0).2 n = none
section SD
variable {x x1 x2 x3 x4 x5 v ky : Int32} {k e i j N t r f n c p d m : Nat} {y : Nat → Nat} {S S' : stA} {μ μ' : mT} {F F' : fcT} {cl : List kcT} {q : kcT} {o u : Option msT} {xx : msT} {rq : rqT}
theorem frF_e (e : ∀ p, μ'.2.1 48 p = μ.2.1 48 p) : ∀ d p, frF μ' d p = frF μ d p := by
  intro d
  induction d with
  | zero => intro p; rfl
  | succ d ih =>
    intro p
    show (if μ'.2.1 48 p = -1 then p else frF μ' d (p + 1)) = if μ.2.1 48 p = -1 then p else frF μ d (p + 1)
    rw [e, ih]
theorem lo_k (h : q.2 q.1.length = none) : loA (q.1 ++ [rq], q.2) = loA q := by
  unfold loA
  show ((List.range (q.1 ++ [rq]).length).find? (fun i => (q.2 i).isNone)).getD (q.1 ++ [rq]).length + 1 = _
  rw [List.length_append, List.length_singleton, List.range_succ, List.find?_append, List.find?_cons, h]
  cases (List.range q.1.length).find? (fun i => (q.2 i).isNone) <;> rfl
theorem keep_R (h : FR y F μ) (hc : c < 6) (hl : ((fCl F).getD c cl0).1.length < 40) : FR y (keepA F c (x2, x3, x4, x5)) (sn1 μ c x2 x3 x4 x5) := by
  obtain ⟨mr, ⟨c1, c2⟩, nt, r3, r4⟩ := h
  have cq := c2 c hc
  have ea := as_R cq
  have er : ∀ r k, sn1 μ c x2 x3 x4 x5 = sn1 μ c x2 x3 x4 x5 → (sn1 μ c x2 x3 x4 x5).2.1 r k = if r = 39 ∧ k = c then nI (asN μ c + 1) else if r = 43 ∧ k = 40 * c + asN μ c then x5 else if r = 42 ∧ k = 40 * c + asN μ c then x4 else if r = 41 ∧ k = 40 * c + asN μ c then x3 else if r = 40 ∧ k = 40 * c + asN μ c then x2 else μ.2.1 r k := fun r k _ => rfl
  have er := fun r k => er r k rfl
  rw [ea] at er
  have oth : ∀ r k, r < 39 ∨ 43 < r → (sn1 μ c x2 x3 x4 x5).2.1 r k = μ.2.1 r k := fun r k hr => by rw [er, if_neg (by omega), if_neg (by omega), if_neg (by omega), if_neg (by omega), if_neg (by omega)]
  have lenS : ∀ c', (((fCl F).set c (((fCl F).getD c cl0).1 ++ [(x2, x3, x4, x5)], ((fCl F).getD c cl0).2)).getD c' cl0) = if c' = c then (((fCl F).getD c cl0).1 ++ [(x2, x3, x4, x5)], ((fCl F).getD c cl0).2) else (fCl F).getD c' cl0 := fun c' => by
    by_cases w : c' = c
    · subst w
      rw [if_pos rfl, List.getD_eq_getElem?_getD, List.getElem?_set_self (by omega)]; rfl
    · rw [if_neg w, List.getD_eq_getElem?_getD, List.getElem?_set_ne (fun z => w z.symm), ← List.getD_eq_getElem?_getD]
  refine ⟨mr.rows rfl rfl (fun r k hr => oth r k (by omega)), ⟨by show ((fCl F).set c _).length = 6; rw [List.length_set]; exact c1, fun c' hc' => ?_⟩, fun p hp => ?_, r3, r4⟩
  · show CqR _ c' (((fCl F).set c (((fCl F).getD c cl0).1 ++ [(x2, x3, x4, x5)], ((fCl F).getD c cl0).2)).getD c' cl0)
    rw [lenS]
    have cq' := c2 c' hc'
    by_cases w : c' = c
    · subst w
      rw [if_pos rfl]
      refine ⟨⟨?_, ?_⟩, fun n hn => ?_, fun n hn => ?_⟩
      · rw [er, if_pos ⟨rfl, rfl⟩]
        show _ = nI (_ ++ [_]).length
        rw [List.length_append]; rfl
      · show (_ ++ [_]).length ≤ 40
        rw [List.length_append, List.length_singleton]; omega
      · have hn : n < (((fCl F).getD c' cl0).1 ++ [(x2, x3, x4, x5)]).length := hn
        rw [List.length_append, List.length_singleton] at hn
        show _ = ((((fCl F).getD c' cl0).1 ++ [(x2, x3, x4, x5)]).getD n rq0).1 ∧ _ = ((((fCl F).getD c' cl0).1 ++ [(x2, x3, x4, x5)]).getD n rq0).2.1 ∧ _ = ((((fCl F).getD c' cl0).1 ++ [(x2, x3, x4, x5)]).getD n rq0).2.2.1 ∧ _ = ((((fCl F).getD c' cl0).1 ++ [(x2, x3, x4, x5)]).getD n rq0).2.2.2
        by_cases z : n < ((fCl F).getD c' cl0).1.length
        · have eg : (((fCl F).getD c' cl0).1 ++ [(x2, x3, x4, x5)]).getD n rq0 = ((fCl F).getD c' cl0).1.getD n rq0 := by
            rw [List.getD_eq_getElem?_getD, List.getElem?_append_left z, ← List.getD_eq_getElem?_getD]
          rw [eg]
          have o := cq'.2.1 n z
          have same : ∀ r, 40 ≤ r → (sn1 μ c' x2 x3 x4 x5).2.1 r (40 * c' + n) = μ.2.1 r (40 * c' + n) := fun r hr => by rw [er, if_neg (by omega), if_neg (by omega), if_neg (by omega), if_neg (by omega), if_neg (by omega)]
          rw [same 40 (by omega), same 41 (by omega), same 42 (by omega), same 43 (by omega)]
          exact o
        · have zn : n = ((fCl F).getD c' cl0).1.length := by omega
          have eg : (((fCl F).getD c' cl0).1 ++ [(x2, x3, x4, x5)]).getD n rq0 = (x2, x3, x4, x5) := by
            rw [List.getD_eq_getElem?_getD, List.getElem?_append_right (by omega), zn, Nat.sub_self]; rfl
          rw [eg, zn]
          refine ⟨?_, ?_, ?_, ?_⟩
          · rw [er, if_neg (by omega), if_neg (by omega), if_neg (by omega), if_neg (by omega), if_pos ⟨rfl, rfl⟩]
          · rw [er, if_neg (by omega), if_neg (by omega), if_neg (by omega), if_pos ⟨rfl, rfl⟩]
          · rw [er, if_neg (by omega), if_neg (by omega), if_pos ⟨rfl, rfl⟩]
          · rw [er, if_neg (by omega), if_pos ⟨rfl, rfl⟩]
      · rw [oth 44 _ (by omega), oth 45 _ (by omega), oth 46 _ (by omega), oth 47 _ (by omega)]
        exact cq'.2.2 n hn
    · rw [if_neg w]
      have same : ∀ r k, 39 ≤ r → r ≤ 47 → (r = 39 → k = c') → (¬ r = 39 → 40 * c' ≤ k ∧ k < 40 * c' + 40) → (sn1 μ c x2 x3 x4 x5).2.1 r k = μ.2.1 r k := fun r k _ _ h1 h2 => by
        rw [er]
        by_cases z : r = 39
        · have := h1 z
          rw [if_neg (by omega), if_neg (by omega), if_neg (by omega), if_neg (by omega), if_neg (by omega)]
        · have := h2 z
          rw [if_neg (by omega), if_neg (by omega), if_neg (by omega), if_neg (by omega), if_neg (by omega)]
      obtain ⟨⟨h1, h2⟩, h3, h4⟩ := cq'
      refine ⟨⟨(same 39 c' (by decide) (by decide) (fun _ => rfl) (fun z => absurd rfl z)).trans h1, h2⟩, fun n hn => ?_, fun n hn => ?_⟩
      · have a : ∀ r, 40 ≤ r → r ≤ 47 → (sn1 μ c x2 x3 x4 x5).2.1 r (40 * c' + n) = μ.2.1 r (40 * c' + n) := fun r u1 u2 => same r _ (by omega) u2 (fun z => by omega) (fun _ => by omega)
        rw [a 40 (by decide) (by decide), a 41 (by decide) (by decide), a 42 (by decide) (by decide), a 43 (by decide) (by decide)]
        exact h3 n hn
      · rw [oth 44 _ (by omega), oth 45 _ (by omega), oth 46 _ (by omega), oth 47 _ (by omega)]
        exact h4 n hn
  · have o := (nt p hp).at (μ' := sn1 μ c x2 x3 x4 x5) (fun r h1 h2 => oth r p (by omega))
    rcases o with o | ⟨xx, a1, a2, a3, a4, a5, a6⟩
    · exact Or.inl o
    · refine Or.inr ⟨xx, a1, a2, a3, a4, a5, ?_⟩
      show xx.2.1 ≤ (((fCl F).set c (((fCl F).getD c cl0).1 ++ [(x2, x3, x4, x5)], ((fCl F).getD c cl0).2)).getD xx.1 cl0).1.length
      rw [lenS]
      by_cases w : xx.1 = c
      · rw [if_pos w]
        show _ ≤ (_ ++ [_]).length
        rw [List.length_append, ← w]
        exact Nat.le_add_right_of_le a6
      · rw [if_neg w]; exact a6
theorem send_R (h : FR y F μ) (an : AnI F) (ho : owOK y (fSt F)) : FR y (sendA F x1 x2 x3 x4 x5).1 (snd1 (sn0 μ) x1 x2 x3 x4 x5).1 ∧ (snd1 (sn0 μ) x1 x2 x3 x4 x5).2 = (sendA F x1 x2 x3 x4 x5).2 := by
  have h0 := h.sn
  generalize sn0 μ = ν at h0
  unfold snd1 sendA
  have i6 : inF x1 6 = 0 ↔ (x1 < 0 ∨ 5 < x1) := in_F (x := x1) (n := 5) (by decide)
  have i64 : inF x3 64 = 0 ↔ (x3 < 0 ∨ 63 < x3) := in_F (x := x3) (n := 63) (by decide)
  by_cases w1 : x1 < 0 ∨ 5 < x1
  · rw [if_pos w1, if_pos (Or.inl (i6.mpr w1))]; exact ⟨h0, rfl⟩
  · rw [if_neg w1]
    by_cases w2 : x2 < 0 ∨ 3 < x2
    · rw [if_pos w2, if_pos (w2.elim (fun z => Or.inr (Or.inl z)) (fun z => Or.inr (Or.inr (Or.inl z))))]; exact ⟨h0, rfl⟩
    · rw [if_neg w2]
      by_cases w3 : x3 < 0 ∨ 63 < x3
      · rw [if_pos w3, if_pos (Or.inr (Or.inr (Or.inr (i64.mpr w3))))]; exact ⟨h0, rfl⟩
      · rw [if_neg w3, if_neg (show ¬ (inF x1 6 = 0 ∨ x2 < 0 ∨ 3 < x2 ∨ inF x3 64 = 0) from fun z => by
          rcases z with z | z | z | z
          · exact w1 (i6.mp z)
          · exact w2 (Or.inl z)
          · exact w2 (Or.inr z)
          · exact w3 (i64.mp z))]
        obtain ⟨c, hc, ec⟩ := in_n (x := x1) (n := 5) (by decide) (fun z => w1 (i6.mp z))
        obtain ⟨k, hk, ek⟩ := in_n (x := x3) (n := 63) (by decide) (fun z => w3 (i64.mp z))
        subst ec
        rw [nI_clamp (by omega)]
        have cq := h0.2.1.2 c (by omega)
        have l40 := cq.1.2
        have ea := as_R cq
        have e40 : ν.2.1 39 c = 40 ↔ ¬ ((fCl F).getD c cl0).1.length < 40 := by
          rw [cq.1.1, show (40 : Int32) = nI 40 from rfl]
          constructor
          · intro z; have := nI_inj (by omega) (by omega) z; omega
          · intro z; rw [show ((fCl F).getD c cl0).1.length = 40 by omega]
        by_cases w4 : ν.2.1 39 c = 40
        · rw [if_pos w4, if_pos (e40.mp w4)]; exact ⟨h0, rfl⟩
        · have l39 : ((fCl F).getD c cl0).1.length < 40 := Decidable.not_not.mp (fun z => w4 (e40.mpr z))
          rw [if_neg w4, if_neg (fun z => z l39)]
          have eo : ν.2.1 13 (x3 / 8).toNatClampNeg = owF (fSt F) x3 := by
            unfold owF
            rw [ek, show (8 : Int32) = nI 8 from rfl, pk_div (by omega) (by decide) (by decide), nI_clamp (by omega)]
            exact h0.1.2.2.2.1 (k / 8) (by omega)
          rw [eo]
          by_cases w5 : owF (fSt F) x3 = -1
          · rw [if_pos w5, if_pos w5]; exact ⟨h0, rfl⟩
          · rw [if_neg w5, if_neg w5]
            have fp := fp_R h0
            by_cases w6 : frM ν < 40
            · rw [if_neg (fun z => z w6)]
              rw [if_pos w6] at fp
              rw [fp]
              dsimp only
              have kr := keep_R (x2 := x2) (x3 := x3) (x4 := x4) (x5 := x5) h0 (show c < 6 by omega) l39
              have c6 := h0.2.1.1
              have eC : (fCl (keepA F c (x2, x3, x4, x5))).getD c cl0 = (((fCl F).getD c cl0).1 ++ [(x2, x3, x4, x5)], ((fCl F).getD c cl0).2) := by
                show ((fCl F).set c _).getD c cl0 = _
                rw [List.getD_eq_getElem?_getD, List.getElem?_set_self (by omega)]; rfl
              have eR : (((fCl (keepA F c (x2, x3, x4, x5))).getD c cl0).1.getD (((fCl F).getD c cl0).1.length + 1 - 1) rq0) = (x2, x3, x4, x5) := by
                rw [eC, Nat.add_sub_cancel, List.getD_eq_getElem?_getD, List.getElem?_append_right (Nat.le_refl _), Nat.sub_self]; rfl
              have ef : frM (sn1 ν c x2 x3 x4 x5) = frM ν := frF_e (fun p => rfl) 40 0
              obtain ⟨p1, p2⟩ := post_R (n := ((fCl F).getD c cl0).1.length + 1) kr (show c < 6 by omega) (by omega) (by rw [eC]; show _ ≤ (_ ++ [_]).length; rw [List.length_append, List.length_singleton]; exact Nat.le_refl _) (by rw [eR]; exact ⟨k, by omega, ek⟩) ho
              rw [eR] at p1 p2
              have no : ¬ (sn1 ν c x2 x3 x4 x5).2.1 13 (tbM (sn1 ν c x2 x3 x4 x5) c (((fCl F).getD c cl0).1.length + 1)) = -1 := fun z => w5 (p1.mpr z)
              obtain ⟨r1, r2⟩ := p2 no (by rw [ef]; exact w6)
              rw [ef] at r1
              rw [ea]
              refine ⟨?_, rfl⟩
              have ln := an c (by omega) _ (Nat.le_refl _)
              have eF : (postA (keepA F c (x2, x3, x4, x5)) c (((fCl F).getD c cl0).1.length + 1) x3).1 = keepA (postA F c (((fCl F).getD c cl0).1.length + 1) x3).1 c (x2, x3, x4, x5) := by
                unfold postA
                have e1 : owF (fSt (keepA F c (x2, x3, x4, x5))) x3 = owF (fSt F) x3 := rfl
                have e2 : fpA (fNt (keepA F c (x2, x3, x4, x5))) = some (frM ν) := fp
                rw [e1, if_neg w5, if_neg w5, e2, fp]
                dsimp only
                rw [eC, lo_k ln]
                rfl
              rw [← eF]
              exact r1
            · rw [if_pos w6]
              rw [if_neg w6] at fp
              rw [fp]
              exact ⟨h0, rfl⟩
end SD
