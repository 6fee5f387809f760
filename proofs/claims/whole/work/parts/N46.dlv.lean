/-! the two sides: deliver; ANSWERS, and what a server answers without writing -/
section DV
variable {x x1 x2 x3 x4 x5 v ky : Int32} {k e i j N t r f n c p d m : Nat} {y : Nat → Nat} {S S' : stA} {μ μ' : mT} {F F' : fcT} {cl : List kcT} {q : kcT} {o u : Option msT} {xx : msT} {an : anT}
/-- a message becomes an ANSWER -/
theorem ans_R (h : FR y F μ) (hp : p < 40) (e : fNt F p = some xx) : FR y (netA F p (some (xx.1, xx.2.1, xx.2.2.1, none, some an))) (ansM μ p an.1 an.2.1 an.2.2) := by
  have src := h.2.2.1 p hp
  rw [e] at src
  have g48 : (ansM μ p an.1 an.2.1 an.2.2).2.1 48 p = 1 := by unfold ansM uR; simp
  have g53 : (ansM μ p an.1 an.2.1 an.2.2).2.1 53 p = an.1 := by unfold ansM uR; simp
  have g54 : (ansM μ p an.1 an.2.1 an.2.2).2.1 54 p = an.2.1 := by unfold ansM uR; simp
  have g55 : (ansM μ p an.1 an.2.1 an.2.2).2.1 55 p = an.2.2 := by unfold ansM uR; simp
  have g49 : (ansM μ p an.1 an.2.1 an.2.2).2.1 49 p = μ.2.1 49 p := by unfold ansM uR; simp
  have g50 : (ansM μ p an.1 an.2.1 an.2.2).2.1 50 p = μ.2.1 50 p := by unfold ansM uR; simp
  have g52 : (ansM μ p an.1 an.2.1 an.2.2).2.1 52 p = μ.2.1 52 p := by unfold ansM uR; simp
  rcases src with ⟨a1, a2⟩ | ⟨x0, a1, a2, a3, a4⟩
  · cases a2
  · cases a1
    refine h.net rfl rfl (fun r k hk => ?_) (Or.inr ⟨_, rfl, ⟨g49.trans a2.1, g50.trans a2.2.1, g52.trans a2.2.2⟩, Or.inr ⟨g48, an, rfl, g53, g54, g55⟩, a4⟩)
    show (if r = 55 ∧ k = p then an.2.2 else if r = 54 ∧ k = p then an.2.1 else if r = 53 ∧ k = p then an.1 else if r = 48 ∧ k = p then 1 else μ.2.1 r k) = _
    rw [if_neg (by omega), if_neg (by omega), if_neg (by omega), if_neg (by omega)]
/-- an ANSWER comes to its client -/
theorem dl2_R (h : FR y F μ) (hp : p < 40) (e : fNt F p = some xx) (ea : xx.2.2.2.2 = some an) : FR y (if an.1 = 3 ∨ an.1 = 4 then (netA F p none, 6) else (match ((fCl F).getD xx.1 cl0).2 (xx.2.1 - 1) with | none => (ansW (netA F p none) xx.1 xx.2.1 an, 4) | some _ => (netA F p none, 5)) : fcT × Int32).1 (dl2 (uR μ 48 p (-1)) p).1 ∧ (dl2 (uR μ 48 p (-1)) p).2 = (if an.1 = 3 ∨ an.1 = 4 then (netA F p none, 6) else (match ((fCl F).getD xx.1 cl0).2 (xx.2.1 - 1) with | none => (ansW (netA F p none) xx.1 xx.2.1 an, 4) | some _ => (netA F p none, 5)) : fcT × Int32).2 := by
  have src := h.2.2.1 p hp
  rw [e] at src
  have fr : FR y (netA F p none) (uR μ 48 p (-1)) := h.net rfl rfl (fun r k hk => if_neg (by omega)) (Or.inl ⟨if_pos ⟨rfl, rfl⟩, rfl⟩)
  rcases src with ⟨a1, a2⟩ | ⟨x0, a1, ⟨a2, a3, a4⟩, a5, c6, n1, n2⟩
  · cases a2
  · cases a1
    rcases a5 with ⟨b1, t, b2, b3, b4, b5⟩ | ⟨b1, v, b2, b3, b4, b5⟩
    · rw [ea] at b4; cases b4
    · rw [ea] at b2
      cases b2
      have l40 := (h.2.1.2 xx.1 c6).1.2
      have rr : ∀ r k, ¬ r = 48 → (uR μ 48 p (-1)).2.1 r k = μ.2.1 r k := fun r k hr => if_neg (fun w => hr w.1)
      have mC : msC (uR μ 48 p (-1)) p = xx.1 := by unfold msC; rw [rr 49 p (by decide), a2]; exact nI_clamp (by omega)
      have mN : msN (uR μ 48 p (-1)) p = xx.2.1 := by unfold msN; rw [rr 50 p (by decide), a3]; exact nI_clamp (by omega)
      unfold dl2
      rw [mC, mN, rr 53 p (by decide), b3]
      by_cases w : an.1 = 3 ∨ an.1 = 4
      · rw [if_pos w, if_pos w]; exact ⟨fr, rfl⟩
      · rw [if_neg w, if_neg w, rr 44 _ (by decide), show 40 * xx.1 + xx.2.1 - 1 = 40 * xx.1 + (xx.2.1 - 1) by omega]
        have cq := h.2.1.2 xx.1 c6
        have c0 := cq_0 cq (n := xx.2.1 - 1) (by omega)
        by_cases w2 : μ.2.1 44 (40 * xx.1 + (xx.2.1 - 1)) = 0
        · rw [if_pos w2, c0.mp w2]
          refine ⟨?_, rfl⟩
          dsimp only
          -- the client's row
          obtain ⟨mr, ⟨f1, f2⟩, nt, r3, r4⟩ := fr
          have er : ∀ r k, (gt1 (uR μ 48 p (-1)) p (40 * xx.1 + (xx.2.1 - 1))).2.1 r k = if r = 47 ∧ k = 40 * xx.1 + (xx.2.1 - 1) then an.2.2 else if r = 46 ∧ k = 40 * xx.1 + (xx.2.1 - 1) then an.2.1 else if r = 45 ∧ k = 40 * xx.1 + (xx.2.1 - 1) then an.1 else if r = 44 ∧ k = 40 * xx.1 + (xx.2.1 - 1) then 1 else (uR μ 48 p (-1)).2.1 r k := fun r k => by
            show (if r = 47 ∧ k = 40 * xx.1 + (xx.2.1 - 1) then (uR μ 48 p (-1)).2.1 55 p else if r = 46 ∧ k = 40 * xx.1 + (xx.2.1 - 1) then (uR μ 48 p (-1)).2.1 54 p else if r = 45 ∧ k = 40 * xx.1 + (xx.2.1 - 1) then (uR μ 48 p (-1)).2.1 53 p else if r = 44 ∧ k = 40 * xx.1 + (xx.2.1 - 1) then 1 else (uR μ 48 p (-1)).2.1 r k) = _
            rw [rr 55 p (by decide), rr 54 p (by decide), rr 53 p (by decide), b3, b4, b5]
          have oth : ∀ r k, r < 44 ∨ 47 < r → (gt1 (uR μ 48 p (-1)) p (40 * xx.1 + (xx.2.1 - 1))).2.1 r k = (uR μ 48 p (-1)).2.1 r k := fun r k hr => by rw [er, if_neg (by omega), if_neg (by omega), if_neg (by omega), if_neg (by omega)]
          have gS : ∀ c', (((fCl F).set xx.1 (((fCl F).getD xx.1 cl0).1, u1 ((fCl F).getD xx.1 cl0).2 (xx.2.1 - 1) (some an))).getD c' cl0) = if c' = xx.1 then (((fCl F).getD xx.1 cl0).1, u1 ((fCl F).getD xx.1 cl0).2 (xx.2.1 - 1) (some an)) else (fCl F).getD c' cl0 := fun c' => by
            have f1 : (fCl F).length = 6 := f1
            by_cases z : c' = xx.1
            · rw [z, if_pos rfl, List.getD_eq_getElem?_getD, List.getElem?_set_self (by omega)]; rfl
            · rw [if_neg z, List.getD_eq_getElem?_getD, List.getElem?_set_ne (fun u => z u.symm), ← List.getD_eq_getElem?_getD]
          refine ⟨mr.rows rfl rfl (fun r k hr => oth r k (by omega)), ⟨by show ((fCl F).set xx.1 _).length = 6; rw [List.length_set]; exact f1, fun c' hc' => ?_⟩, fun p' hp' => ?_, r3, r4⟩
          · show CqR _ c' (((fCl F).set xx.1 (((fCl F).getD xx.1 cl0).1, u1 ((fCl F).getD xx.1 cl0).2 (xx.2.1 - 1) (some an))).getD c' cl0)
            rw [gS]
            have cq' : CqR (uR μ 48 p (-1)) c' ((fCl F).getD c' cl0) := f2 c' hc'
            by_cases z : c' = xx.1
            · subst z
              rw [if_pos rfl]
              obtain ⟨⟨g1, g2⟩, g3, g4⟩ := cq'
              refine ⟨⟨(oth 39 _ (by omega)).trans g1, g2⟩, fun n hn => ?_, fun n hn => ?_⟩
              · rw [oth 40 _ (by omega), oth 41 _ (by omega), oth 42 _ (by omega), oth 43 _ (by omega)]; exact g3 n hn
              · show (_ ∧ u1 ((fCl F).getD xx.1 cl0).2 (xx.2.1 - 1) (some an) n = none) ∨ (_ ∧ ∃ v, u1 ((fCl F).getD xx.1 cl0).2 (xx.2.1 - 1) (some an) n = some v ∧ _)
                by_cases z2 : n = xx.2.1 - 1
                · subst z2
                  refine Or.inr ⟨by rw [er, if_neg (by omega), if_neg (by omega), if_neg (by omega), if_pos ⟨rfl, rfl⟩], an, u1_y, by rw [er, if_neg (by omega), if_neg (by omega), if_pos ⟨rfl, rfl⟩], by rw [er, if_neg (by omega), if_pos ⟨rfl, rfl⟩], by rw [er, if_pos ⟨rfl, rfl⟩]⟩
                · rw [u1_n z2]
                  have same : ∀ r, (gt1 (uR μ 48 p (-1)) p (40 * xx.1 + (xx.2.1 - 1))).2.1 r (40 * xx.1 + n) = (uR μ 48 p (-1)).2.1 r (40 * xx.1 + n) := fun r => by rw [er, if_neg (by omega), if_neg (by omega), if_neg (by omega), if_neg (by omega)]
                  rw [same, same, same, same]
                  exact g4 n hn
            · rw [if_neg z]
              obtain ⟨⟨g1, g2⟩, g3, g4⟩ := cq'
              refine ⟨⟨(oth 39 _ (by omega)).trans g1, g2⟩, fun n hn => ?_, fun n hn => ?_⟩
              · rw [oth 40 _ (by omega), oth 41 _ (by omega), oth 42 _ (by omega), oth 43 _ (by omega)]; exact g3 n hn
              · have same : ∀ r, (gt1 (uR μ 48 p (-1)) p (40 * xx.1 + (xx.2.1 - 1))).2.1 r (40 * c' + n) = (uR μ 48 p (-1)).2.1 r (40 * c' + n) := fun r => by rw [er, if_neg (by omega), if_neg (by omega), if_neg (by omega), if_neg (by omega)]
                rw [same, same, same, same]
                exact g4 n hn
          · have o := (nt p' hp').at (μ' := gt1 (uR μ 48 p (-1)) p (40 * xx.1 + (xx.2.1 - 1))) (fun r h1 h2 => oth r p' (by omega))
            have o : NtR y _ (fCl F) p' (u1 (fNt F) p none p') := o
            rcases o with o | ⟨x0, o1, o2, o3, o4, o5, o6⟩
            · exact Or.inl o
            · refine Or.inr ⟨x0, o1, o2, o3, o4, o5, ?_⟩
              show x0.2.1 ≤ (((fCl F).set xx.1 (((fCl F).getD xx.1 cl0).1, u1 ((fCl F).getD xx.1 cl0).2 (xx.2.1 - 1) (some an))).getD x0.1 cl0).1.length
              rw [gS]
              split
              · rename_i z; rw [← z]; exact o6
              · exact o6
        · rw [if_neg w2]
          cases eq : ((fCl F).getD xx.1 cl0).2 (xx.2.1 - 1) with
          | none => exact absurd (c0.mpr eq) w2
          | some _ => exact ⟨fr, rfl⟩
end DV
