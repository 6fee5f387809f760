/-! the two sides: a server changes -/
section CH
variable {x v ky ak st va ve ac : Int32} {k e i j N t f n c p m cc : Nat} {y : Nat → Nat} {S S' : stA} {μ μ' : mT} {F F' : fcT} {xx : msT} {an : anT} {en : enT} {d : anT × Option ptT} {r : rqT} {o : Option (Nat × Nat × Nat)} {old : Option pT}
theorem rq_row (h : FR y F μ) (hc : c < 6) (h1 : 1 ≤ n) (h2 : n ≤ ((fCl F).getD c cl0).1.length) : μ.2.1 40 (40 * c + n - 1) = (rqF F c n).1 ∧ μ.2.1 41 (40 * c + n - 1) = (rqF F c n).2.1 ∧ μ.2.1 42 (40 * c + n - 1) = (rqF F c n).2.2.1 ∧ μ.2.1 43 (40 * c + n - 1) = (rqF F c n).2.2.2 := by
  have := (h.2.1.2 c hc).2.1 (n - 1) (by omega)
  rw [show 40 * c + n - 1 = 40 * c + (n - 1) by omega]
  exact this
theorem dec_s (sf : Int32) : (decA sf r old).1.1 = 0 ↔ (decA sf r old).2.isSome = true := by
  unfold decA
  split
  · exact ⟨fun w => absurd w (show ¬ (2 : Int32) = 0 by decide), (fun w => by cases w)⟩
  · split
    · cases old with
      | none => exact ⟨fun w => absurd w (show ¬ (1 : Int32) = 0 by decide), (fun w => by cases w)⟩
      | some _ => exact ⟨fun _ => rfl, fun _ => rfl⟩
    · exact ⟨fun _ => rfl, fun _ => rfl⟩
theorem dec_k (sf : Int32) {w : ptT} (h : (decA sf r old).2 = some w) : w.1 = 2 ∨ w.1 = 3 := by
  unfold decA at h
  split at h
  · cases h
  · split at h
    · cases old with
      | none => cases h
      | some _ => cases h; exact Or.inr rfl
    · cases h; exact Or.inl rfl
theorem wr6_R {q : Nat} (e40 : μ.2.1 40 q = r.1) (e42 : μ.2.1 42 q = r.2.2.1) (e43 : μ.2.1 43 q = r.2.2.2) (e9 : μ.2.1 9 i = x) (eo : o.map (ptM μ) = old) (nz : ∀ w, o = some w → ¬ cel μ w 0 = 0) : wr6 y μ p i c n q r.2.1 (wrSt μ q (ovM μ o 6) o) (ovM μ o 5) (ovM μ o 6) ac = wr4 y μ p i (decA x r old).1.1 (decA x r old).1.2.1 (decA x r old).1.2.2 (efE (decA x r old).2 (resQ c n r ac (decA x r old).1)) := by
  have v6 : ovM μ o 6 = oVe old := by
    rw [← eo]
    cases o with
    | none => rfl
    | some w => exact ptM_f (nz w rfl) 6
  have v5 : ovM μ o 5 = oVa old := by
    rw [← eo]
    cases o with
    | none => rfl
    | some w => exact ptM_f (nz w rfl) 5
  have on : o = none ↔ old = none := by
    rw [← eo]
    cases o with
    | none => exact ⟨fun _ => rfl, fun _ => rfl⟩
    | some w => exact ⟨(fun z => by cases z), (fun z => by cases z)⟩
  rw [v5, v6]
  unfold wrSt wr6 wrV wrK
  rw [e40, e42, e43, e9]
  unfold decA
  by_cases q1 : r.1 = 2 ∧ ¬ oVe old = r.2.2.2
  · rw [if_pos q1, if_pos q1, if_neg (show ¬ (2 : Int32) = 0 by decide)]; rfl
  · rw [if_neg q1, if_neg q1]
    by_cases q2 : r.1 = 3
    · cases old with
      | none =>
        rw [if_pos (show r.1 = 3 ∧ o = none from ⟨q2, on.mpr rfl⟩), if_neg (show ¬ (1 : Int32) = 0 by decide), if_pos q2]; rfl
      | some z =>
        rw [if_neg (show ¬ (r.1 = 3 ∧ o = none) from fun w => by have := on.mp w.2; cases this), if_pos q2, if_pos rfl, if_pos q2, if_pos q2]; rfl
    · rw [if_neg (show ¬ (r.1 = 3 ∧ o = none) from fun w => q2 w.1), if_neg q2, if_pos rfl, if_neg q2, if_neg q2]; rfl
theorem sv_set {z : srA} (hi : i < (tSv S).length) {rest} : (tSv (((tSv S).set i z, rest) : stA)).getD i sr0 = z := by
  show ((tSv S).set i z).getD i sr0 = z
  rw [List.getD_eq_getElem?_getD, List.getElem?_set_self hi]; rfl
theorem ch_sv (hi : i < (tSv S).length) {W : alT × Nat × Int32 × Int32} {ps : List pT} : ∃ B, (tSv (wrS (rmW S i W) i ps cc)).getD i sr0 = stLg ((tSv S).getD i sr0) B := by
  have l1 : i < (tSv (rmW S i W)).length := by
    show i < ((tSv S).set i _).length
    rw [List.length_set]; exact hi
  have e1 : (tSv (rmW S i W)).getD i sr0 = stLg ((tSv S).getD i sr0) W.1 := sv_set hi
  have e2 : (tSv (wrS (rmW S i W) i ps cc)).getD i sr0 = stLg ((tSv (rmW S i W)).getD i sr0) (wrtA (sLg ((tSv (rmW S i W)).getD i sr0)) ps cc) := sv_set l1
  refine ⟨wrtA (sLg ((tSv (rmW S i W)).getD i sr0)) ps cc, ?_⟩
  rw [e2, e1]; rfl
theorem drp_F (h : FR y F μ) : FR y (netA F p none) (uR μ 48 p (-1)) := h.net rfl rfl (fun r k hk => if_neg (by omega)) (Or.inl ⟨if_pos ⟨rfl, rfl⟩, rfl⟩)
theorem FR.ef (h : FR y F μ) {b : Bool} {e' : Nat} (he : e' = if b = true then fEf F + 1 else fEf F) : FR y (fSt F, fCl F, fNt F, fCk F, e') (if b = true then uN μ 22 (μ.2.2 22 + 1) else μ) := by
  subst he
  cases b with
  | false => rw [if_neg (by decide), if_neg (by decide)]; exact h
  | true =>
    rw [if_pos rfl, if_pos rfl]
    refine ⟨h.1.num (fun k _ h2 _ => if_neg h2), h.2.1, h.2.2.1, h.2.2.2.1, ?_⟩
    show (if (22 : Nat) = 22 then μ.2.2 22 + 1 else μ.2.2 22) = _
    rw [if_pos rfl, h.2.2.2.2, nI_1]; rfl
theorem wr4_R (h : FR y F μ) (hT : μ.1.length < 2 ^ 31 - 9) (hi : i < y 20) (hp : p < 40) (ex : fNt F p = some xx) (li : LI (tNm (fSt F)) (sLg ((tSv (fSt F)).getD i sr0))) (sv0 : SvI ((tSv (fSt F)).getD i sr0)) (hd : ∀ w, d.2 = some w → w.1 = 2 ∨ w.1 = 3) (hs : d.1.1 = 0 ↔ d.2.isSome = true) (hnm : (chW y (fSt F) i d.2).2.1 ≤ 80000) (uq : UQ (allP (chW y (fSt F) i d.2).1)) (v1 : vr1 (allP (chW y (fSt F) i d.2).1)) (hh : ∀ w, d.2 = some w → w.1 = 3 → ¬ (chW y (fSt F) i d.2).2.2.2 = 0 → ∃ u, (homA w.2.2.2.1 (chW y (fSt F) i d.2).1.1).2 = some u) : FR y (dlvZ (chgB y F i c n r ak d) p xx).1 (wr4 y μ p i d.1.1 d.1.2.1 d.1.2.2 (efE d.2 (resQ c n r ak d.1))).1 ∧ (wr4 y μ p i d.1.1 d.1.2.1 d.1.2.2 (efE d.2 (resQ c n r ak d.1))).2 = (dlvZ (chgB y F i c n r ak d) p xx).2 := by
  have ls : i < (tSv (fSt F)).length := by rw [h.1.2.1.1]; exact hi
  have a6 := (h.1.2.2.2.2.1 i hi).1.2.2.2.2.2
  have a4 := (h.1.2.2.2.2.1 i hi).1.2.2.2.1
  have cp := (cp_eq sv0.2.2.2.2 a6).2
  obtain ⟨f1, f2, f3⟩ := chg_F (R := resQ c n r ak d.1) h hT hi li rfl hd hnm sv0.2.2.2.2 uq v1 hh
  unfold wr4 chgB chS2
  have arr : ∀ {r' k}, ¬ r' = 10 → (appM y μ i 0 (efE d.2 (resQ c n r ak d.1)) (wrC μ i)).1.2.1 r' k = μ.2.1 r' k := fun h => app_row h
  have an : ∀ {k}, ¬ k = 16 → ¬ k = 17 → ¬ k = 19 → (appM y μ i 0 (efE d.2 (resQ c n r ak d.1)) (wrC μ i)).1.2.2 k = μ.2.2 k := fun h1 h2 h3 => app_num h1 h2 h3
  rw [f1]
  generalize (appM y μ i 0 (efE d.2 (resQ c n r ak d.1)) (wrC μ i)).1 = μ1 at f2 f3 arr an
  by_cases w : (chW y (fSt F) i d.2).2.2.2 = 0
  · rw [if_pos w, if_pos w]
    have fr := h.st (f2 w) (fun r k h1 _ => arr (by omega)) (an (by decide) (by decide) (by decide)) (an (by decide) (by decide) (by decide))
    exact ⟨ans_R (an := (4, 0, 0)) fr hp ex, rfl⟩
  · rw [if_neg w, if_neg w]
    have fr := h.st (f3 w) (fun r k h1 _ => arr (by omega)) (an (by decide) (by decide) (by decide)) (an (by decide) (by decide) (by decide))
    obtain ⟨B, eB⟩ := ch_sv (cc := cpN (sCu ((tSv (fSt F)).getD i sr0))) (W := chW y (fSt F) i d.2) (ps := (d.2.map (effQ (chW y (fSt F) i d.2).1.1)).toList ++ [resQ c n r ak d.1]) ls
    generalize wrS (rmW (fSt F) i (chW y (fSt F) i d.2)) i ((d.2.map (effQ (chW y (fSt F) i d.2).1.1)).toList ++ [resQ c n r ak d.1]) (cpN (sCu ((tSv (fSt F)).getD i sr0))) = S2 at fr eB
    have fe := fr.ef (b := decide (d.1.1 = 0 ∧ 0 < wrC μ i)) (e' := chEf F (sCu ((tSv (fSt F)).getD i sr0)) d.2) (by
      unfold chEf
      by_cases z : d.1.1 = 0 ∧ 0 < wrC μ i
      · rw [if_pos ⟨hs.mp z.1, cp.mpr z.2⟩, if_pos (decide_eq_true z)]; rfl
      · rw [if_neg (fun u => z ⟨hs.mpr u.1, cp.mp u.2⟩), if_neg (by rw [decide_eq_false z]; decide)]; rfl)
    have ew : (if decide (d.1.1 = 0 ∧ 0 < wrC μ i) = true then uN μ1 22 (μ1.2.2 22 + 1) else μ1) = wrF μ1 (wrC μ i) d.1.1 := by
      unfold wrF
      by_cases z : d.1.1 = 0 ∧ 0 < wrC μ i
      · rw [if_pos (decide_eq_true z), if_pos z]
      · rw [if_neg (by rw [decide_eq_false z]; decide), if_neg z]
    rw [ew] at fe
    have rw2 : ∀ {r k}, ¬ r = 10 → (wrF μ1 (wrC μ i) d.1.1).2.1 r k = μ.2.1 r k := fun h => by
      unfold wrF
      split
      · exact arr h
      · exact arr h
    generalize wrF μ1 (wrC μ i) d.1.1 = μ2 at fe rw2
    unfold wr5
    rw [rw2 (r := 12) (by decide), rw2 (r := 9) (by decide), a6, a4]
    have sv2 : SvI ((tSv S2).getD i sr0) := by rw [eB]; exact sv0
    by_cases z : sCu ((tSv (fSt F)).getD i sr0) = -1
    · rw [if_neg (show ¬ ¬ sCu ((tSv (fSt F)).getD i sr0) = -1 from fun u => u z), if_neg (show ¬ ¬ sCu ((tSv (fSt F)).getD i sr0) = -1 from fun u => u z)]
      by_cases u : d.1.1 = 0
      · rw [if_pos u, if_pos (hs.mp u)]
        have fs := fe.st (S' := sfS S2 i (sSf ((tSv (fSt F)).getD i sr0) + 1)) (fe.1.sf hi) (fun r k h1 _ => if_neg (by omega)) rfl rfl
        exact ⟨ans_R (an := d.1) fs hp ex, rfl⟩
      · rw [if_neg u, if_neg (fun b => u (hs.mpr b))]
        exact ⟨ans_R (an := d.1) fe hp ex, rfl⟩
    · rw [if_pos z, if_pos z]
      have fd := drp_F (p := p) fe
      exact ⟨fd.st (S' := bdA S2 i) (dwn_R fd.1 hi sv2) (fun r k h1 _ => dwn_row h1) rfl rfl, rfl⟩
end CH
