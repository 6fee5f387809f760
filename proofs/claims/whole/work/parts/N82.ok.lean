-- what the model's calls ask, out of FR and the INVARIANT
section
variable {x x' v : Int32} {B : Int32} {k i j m c n p q K κ : Nat} {cl : List kcT} {y : Nat → Nat} {S : stA} {μ ν : mT} {F : fcT}
theorem fr_cq (h : FR y F μ) (ok : rqOK F) : ∀ c, c < 6 → cqOK μ c := fun c hc => by
  obtain ⟨⟨a1, a2⟩, a3, -⟩ := h.2.1.2 c hc
  have e : asN μ c = ((fCl F).getD c cl0).1.length := by
    unfold asN
    rw [a1, nI_clamp (by omega)]
  refine ⟨by rw [e]; exact a1, by rw [e]; exact a2, fun q h1 h2 => ?_⟩
  rw [e] at h2
  obtain ⟨o1, -⟩ := ok c hc (q - 1) (by omega)
  obtain ⟨k, k1, k2⟩ := inF_1 (x := (((fCl F).getD c cl0).1.getD (q - 1) rq0).2.1) (n := 64) (by decide) (by rw [show nI 64 = 64 from rfl, o1]; decide)
  refine ⟨k, k1, ?_⟩
  unfold kyM
  rw [show 40 * c + q - 1 = 40 * c + (q - 1) by omega, (a3 (q - 1) (by omega)).2.1]
  exact k2
theorem fr_ms (h : FR y F μ) (ok : rqOK F) : ∀ p, p < 40 → ¬ μ.2.1 48 p = -1 → MSh μ p ∧ (μ.2.1 48 p = 0 → μ.2.1 51 p = nI (msS μ p) ∧ msS μ p < y 20) := fun p hp n1 => by
  have y8 := h.1.1.1.1.2
  rcases h.2.2.1 p hp with ⟨w, -⟩ | ⟨x, e, ⟨e49, e50, e52⟩, kind, c6, n1', n2⟩
  · exact absurd w n1
  · have l := (h.2.1.2 x.1 c6).1.2
    have ec : msC μ p = x.1 := by unfold msC; rw [e49, nI_clamp (by omega)]
    have en : msN μ p = x.2.1 := by unfold msN; rw [e50, nI_clamp (by omega)]
    obtain ⟨-, -, cq⟩ := fr_cq h ok x.1 c6
    have ea : asN μ x.1 = ((fCl F).getD x.1 cl0).1.length := by
      unfold asN
      rw [(h.2.1.2 x.1 c6).1.1, nI_clamp (by omega)]
    refine ⟨⟨⟨by rw [ec]; exact e49, by rw [ec]; exact c6⟩, ⟨by rw [en]; exact e50, by rw [en]; exact n1', by rw [en]; omega⟩, ?_⟩, fun w => ?_⟩
    · rw [ec, en]
      exact cq x.2.1 n1' (by rw [ea]; exact n2)
    · rcases kind with ⟨-, t, t1, -, -, t4⟩ | ⟨w1, -⟩
      · have es : msS μ p = t := by unfold msS; rw [t4, nI_clamp (by omega)]
        rw [es]; exact ⟨t4, t1⟩
      · rw [w] at w1; exact absurd w1 (by decide)
theorem fr_dv (h : FR y F μ) (hc : CF y F K) (hL : μ.1.length ≤ 5700) : ∀ p, p < 40 → ¬ μ.2.1 48 p = -1 → MSh μ p ∧ (μ.2.1 48 p = 0 → (μ.2.1 51 p = nI (msS μ p) ∧ msS μ p < y 20) ∧ wOK y μ p (msS μ p)) := fun p hp n1 => by
  obtain ⟨a1, a2⟩ := fr_ms h hc.2.2.1 p hp n1
  refine ⟨a1, fun w => ⟨a2 w, ?_⟩⟩
  have hm := (a2 w).2
  have mr := h.1
  have e12 := (mr.2.2.2.2.1 _ hm).1.2.2.2.2.2
  refine ⟨mr.1, hp, hm, by rw [mr.nmE]; exact mr.2.2.1.2.1, by rw [mr.nmE]; exact mr.2.1.2.2.2, by omega, hdOK_R mr hm, ?_, hEm_R mr (by omega) hm⟩
  unfold ctOK
  rw [e12]
  rcases (hc.1.2.2.1 _ hm).1.2.2.2.2 with z | ⟨k, k1, k2⟩
  · exact Or.inl z
  · exact Or.inr ⟨k, by omega, k2⟩
theorem dwn_len : (dwnM μ m).1.length = μ.1.length := by
  show (lgT μ.1 _ _).length = _
  exact lg_len
theorem fgt_len : (fgtM μ m).1.length = μ.1.length := by
  show (lgT μ.1 _ _).length = _
  exact lg_len
theorem wr5_len {st va ve : Int32} : (wr5 μ p m st va ve).1.1.length = μ.1.length := by
  unfold wr5
  split
  · exact dwn_len
  · show (if st = 0 then uR μ 9 m (μ.2.1 9 m + 1) else μ : mT).1.length = _
    split <;> rfl
theorem wrF_1 {st : Int32} : (wrF μ k st).1 = μ.1 := by
  unfold wrF
  split <;> rfl
theorem wr4_5 {st va ve : Int32} {en : enT} (mr : MR y S μ) (hm : m < y 20) (hL : μ.1.length ≤ 5700) (sl : sLN y S ≤ 5690) : (wr4 y μ p m st va ve en).1.1.length ≤ 5700 := by
  have a := app_5 (xr := 0) (en := en) (c := wrC μ m) mr hm hL sl
  unfold wr4
  split
  · exact a
  · rw [wr5_len, wrF_1]; exact a
theorem arr_5 (mr : MR y S μ) (hm : m < y 20) (hL : μ.1.length ≤ 5700) (sl : sLN y S ≤ 5690) : (arr y μ p m c n).1.1.length ≤ 5700 := by
  unfold arr
  split
  · exact hL
  · split
    · exact hL
    · split
      · show (fgtM μ m).1.length ≤ _
        rw [fgt_len]; exact hL
      · split
        · exact hL
        · split
          · have r1 : (rd1 y μ m).1.1.length ≤ 5700 := by
              unfold rd1
              split
              · exact hL
              · exact opn_5 mr hm hL sl
            show (reaM y μ p m (kyM μ c n)).1.length ≤ _
            unfold reaM
            split
            · exact r1
            · unfold rd2
              split <;> exact r1
          · unfold wriM
            split
            · unfold wr7
              split
              · exact hL
              · unfold wr6
                split <;> exact wr4_5 mr hm hL sl
            · exact hL
theorem dlv_5 (h : FR y F μ) (hc : CF y F K) (rx : RX y (fCl F) (fSt F)) (hL : μ.1.length ≤ 5700) : (dlv1 y μ x).1.1.length ≤ 5700 := by
  have sl := SL_le rx h.1.1.1 hc.1.1.2.2
  unfold dlv1
  by_cases q : imM μ x = 0
  · rw [if_pos q]; exact hL
  · rw [if_neg q]
    obtain ⟨p, hp, ep1, nm⟩ := imM_n q
    subst ep1
    rw [nI_clamp (by omega)]
    split
    · next w => exact arr_5 h.1 ((fr_ms h hc.2.2.1 p hp nm).2 w).2 hL sl
    · show (dl2 (uR μ 48 p (-1)) p).1.1.length ≤ _
      unfold dl2
      split
      · exact hL
      · split <;> exact hL
theorem crs_5 : (crsM y μ x).1.1.length = μ.1.length := by
  unfold crsM
  split
  · rfl
  · split
    · rfl
    · exact dwn_len
end
