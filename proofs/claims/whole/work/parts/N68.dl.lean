-- what a delivery asks: out of the INVARIANT
section
variable {A A1 : alT} {L : List agT} {y : Nat → Nat} {i c n k K : Nat} {cl : List kcT} {B ky need lim v : Int32} {S : stA} {F : fcT} {r : rqT} {μ : mT} {p : pT}
theorem opn1_ob (mr : MR y S μ) (hi : i < y 20) (li : LI (tNm S) (sLg ((tSv S).getD i sr0))) (hp : obS (allP (sLg ((tSv S).getD i sr0))) ky = some p) : p ∈ ((opn1 (y 20) (y 22) (y 21) (y 23) (nI (upN (tSv S))) (tNm S) i (sLg ((tSv S).getD i sr0))).1.map (·.2.1)).flatten := by
  have upr := mr.upr
  obtain ⟨⟨k0, k1, k2, k3, k4⟩, ⟨l1, l2, l3, l4⟩, -, ow, sv, de, dd, sp, lb⟩ := mr
  obtain ⟨a1, a2, a3, a4, a5⟩ := sv i hi
  obtain ⟨yo1, yo2, yo3, yo4⟩ := k0
  unfold opn1
  generalize sLg ((tSv S).getD i sr0) = A at *
  split
  · obtain ⟨⟨c1, c2, c3, c4, c5⟩, c6, c7⟩ := cln_R (hd := none) (U := y 22) a4 (SP.ho sp) (SP.nb sp) (SP.ev sp) li.1 upr yo1.1 yo1.2 hi yo2.2 li.2 (by omega)
    exact keep_ob a4 c1 (SP.ho sp) (SP.nb sp) (SP.ev sp) yo1.1 yo1.2 hi yo2.2 (fun s hs => (sp s hs).2.2.2.2.2) hp
  · exact List.mem_of_find?_eq_some hp
theorem mkr_ob (mr : MR y S μ) (hi : i < y 20) (li : LI (tNm S) (sLg ((tSv S).getD i sr0))) (hp : obS (allP (sLg ((tSv S).getD i sr0))) ky = some p) : p ∈ allP (mkrS y S i need lim).1 := by
  have h := opn1_ob mr hi li hp
  have h0 := List.mem_of_find?_eq_some hp
  unfold mkrS mkrA opnA
  generalize opn1 (y 20) (y 22) (y 21) (y 23) (nI (upN (tSv S))) (tNm S) i (sLg ((tSv S).getD i sr0)) = O at h
  split
  · exact h0
  · split
    · exact h0
    · split
      · exact h
      · show p ∈ ((O.1 ++ [_]).map (fun u : agT => u.2.1)).flatten
        rw [List.map_append, List.flatten_append]
        exact List.mem_append_left _ h
theorem hm_some (uq : UQ ((L.map (·.2.1)).flatten)) (v1 : vr1 ((L.map (·.2.1)).flatten)) (hp : p ∈ (L.map (·.2.1)).flatten) (ho : obF ky (verA ((L.map (·.2.1)).flatten) ky) p = true) : ∃ u, (homA ky L).2 = some u := by
  have h := hm_all (ky := ky) uq v1
  cases e : (homA ky L).2 with
  | some u => exact ⟨u, rfl⟩
  | none =>
    exfalso
    have h3 := h.2.2.1 e
    rw [h.1, prL_2] at h3
    rw [← prL_2] at hp
    obtain ⟨x, x1, x2⟩ := List.mem_map.mp hp
    have := h3 x x1
    rw [x2, ho] at this
    cases this
theorem home_ok (uq : UQ (allP A1)) (v1 : vr1 (allP A1)) (sub : ∀ q ∈ allP A1, q ∈ allP A ∨ q = dgP v) (hp : obS (allP A) ky = some p) (v0 : vr1 (allP A)) (hin : p ∈ allP A1) : ∃ u, (homA ky A1.1).2 = some u := by
  have h1 := obF_t.mp (List.find?_some hp)
  have h2 := List.mem_of_find?_eq_some hp
  have kp : ¬ kM (pKd p) = 0 := by rw [h1.1]; decide
  have le : pVe p ≤ verA (allP A1) ky := verA_ge hin kp h1.2.1
  have ge : verA (allP A1) ky ≤ verA (allP A) ky := by
    rcases ver_at (ky := ky) (allP A1) 0 with e | ⟨q, q1, q2, q3, q4⟩
    · have := v0 p h2 kp
      unfold verA at le
      rw [e] at le
      exact absurd (Int32.le_trans this le) (by decide)
    · show (allP A1).foldl (verG ky) 0 ≤ _
      rw [← q4]
      rcases sub q q1 with z | z
      · exact verA_ge z q2 q3
      · rw [z] at q2; exact absurd rfl q2
  refine hm_some uq v1 hin (obF_t.mpr ⟨h1.1, h1.2.1, ?_⟩)
  rw [h1.2.2] at le ⊢
  exact Int32.le_antisymm le ge
theorem CX.li (h : CX y cl B S) (hi : i < y 20) : LI (tNm S) (sLg ((tSv S).getD i sr0)) := by
  have sx := h.2.2.1 i hi
  exact ⟨fun u hu p hp => (sx.2.2.2.1.2.1.1 p (al_in hu hp)).1, fun u hu => (sx.2.2.2.1.1.2.1 u hu).1⟩
theorem LOx.v1 {sf tb : Int32} (h : LOx cl B sf tb A) : vr1 (allP A) := fun p hp k => (h.1.1 p hp).2.2.1 k
theorem ch_old {w : ptT} (e : (chD F i r).2 = some w) (k3 : w.1 = 3) : w.2.2.2.1 = r.2.1 ∧ ∃ p, objA r.2.1 (sLg ((tSv (fSt F)).getD i sr0)).1 = some p := by
  unfold chD decA at e
  split at e
  · cases e
  · split at e
    · split at e
      · cases e
      · next p hp =>
        cases e
        exact ⟨rfl, p, hp⟩
    · cases e
      exact absurd k3 (show ¬ (2 : Int32) = 3 by decide)
/-- makeRoom leaves what a delivery wants -/
theorem CX.mk {S : stA} (h : CX y cl B S) (hy : yOK y) (hi : i < y 20) : (mkrS y S i need lim).2.1 ≤ tNm S + 2 ∧ UQ (allP (mkrS y S i need lim).1) ∧ vr1 (allP (mkrS y S i need lim).1) ∧ ∀ q ∈ allP (mkrS y S i need lim).1, q ∈ allP (sLg ((tSv S).getD i sr0)) ∨ q = dgP (sSf ((tSv S).getD i sr0)) := by
  have sx := h.2.2.1 i hi
  obtain ⟨⟨y1, y2⟩, yy2, ⟨y3, y4⟩, yy4⟩ := hy
  obtain ⟨b1, b2, b3, b4, b5⟩ := mkA_o (W := mkrS y S i need lim) rfl h.up y1 y2 hi (by omega) sx.2.2.2.1.1
  have lo1 := sx.2.2.2.1.2.cn b3 sx.2.2.1.2
  exact ⟨b2.2.1, lo1.1.2, lo1.v1, cn_in b3⟩
theorem CX.home (h : CX y (fCl F) B (fSt F)) (mr : MR y (fSt F) μ) (hy : yOK y) (hi : i < y 20) {w : ptT} (e : (chD F i r).2 = some w) (k3 : w.1 = 3) : ∃ u, (homA w.2.2.2.1 (chW y (fSt F) i (chD F i r).2).1.1).2 = some u := by
  have sx := h.2.2.1 i hi
  obtain ⟨e1, p, hp⟩ := ch_old e k3
  rw [objA_S sx.2.2.2.1.2.1.2 sx.2.2.2.1.2.v1] at hp
  obtain ⟨m1, m2, m3, m4⟩ := h.mk (need := unQ (chD F i r).2) (lim := 1) hy hi
  rw [e1]
  exact home_ok m2 m3 m4 hp sx.2.2.2.1.2.v1 (mkr_ob mr hi (h.li hi) hp)
theorem cf_dlI (h : CF y F K) (hr : FR y F μ) (hy : yOK y) (hnm : tNm (fSt F) + 2 ≤ 80000) (hi : i < y 20) : dlI y F i c n := by
  have cx := h.1
  have sx := cx.2.2.1 i hi
  obtain ⟨a1, a2, a3, -⟩ := cx.mk (need := 0) (lim := 1) hy hi
  obtain ⟨b1, b2, b3, -⟩ := cx.mk (need := unQ (chD F i (rqF F c n)).2) (lim := 1) hy hi
  refine ⟨cx.li hi, fun g hg => ?_, sx.1, ⟨sx.2.2.2.1.2.1.2, sx.2.2.2.1.2.v1⟩, ⟨Nat.le_trans a1 hnm, a2, a3⟩, Nat.le_trans b1 hnm, b2, b3, fun w e k3 _ => cx.home hr.1 hy hi e k3⟩
  obtain ⟨k, k1, k2⟩ := sx.2.2.2.1.1.2.2.2 g hg
  rw [k2]
  have := hy.2.2.1.2
  exact (nI_le_iff (by omega) (by omega)).mpr k1
theorem cf_srvP (h : CF y F K) (hr : FR y F μ) (hy : yOK y) (hnm : tNm (fSt F) + 2 ≤ 80000) (hi : i < y 20) (hc : c < 6) (h1 : 1 ≤ n) (hn : n ≤ ((fCl F).getD c cl0).1.length) : srvP y F i c n (rqF F c n) := by
  have cx := h.1
  obtain ⟨f1, f2, -⟩ := cx.fnc hi
  have sx := f1.2.2.1 i hi
  obtain ⟨a1, a2, a3, -⟩ := f1.mk (need := 0) (lim := 1) hy hi
  obtain ⟨b1, b2, b3, -⟩ := f1.mk (need := unQ (chD (fncA F i) i (rqF F c n)).2) (lim := 1) hy hi
  have en : tNm (fSt (fncA F i)) = tNm (fSt F) := fnc_o.2.2.2.1
  refine ⟨hc, (h.2.2.1 c hc (n - 1) (by omega)).1, by omega, ?_, sx.1.2.2.2.2, fun w e k3 _ => ?_⟩
  · show (mkrS _ _ _ _ _).2.1 ≤ _
    omega
  · by_cases q : sFe ((tSv (fSt F)).getD i sr0) = 0
    · have eF : fncA F i = F := by
        unfold fncA
        rw [if_neg (fun z => z q)]
      rw [eF] at e ⊢
      exact cx.home hr.1 hy hi e k3
    · exfalso
      have ls : i < (tSv (fSt F)).length := by rw [cx.1.1]; exact hi
      obtain ⟨-, p, hp⟩ := ch_old e k3
      have el : sLg ((tSv (fSt (fncA F i))).getD i sr0) = e0L := by
        unfold fncA
        rw [if_pos q]
        show sLg (((tSv (fSt F)).set i _).getD i sr0) = _
        rw [gd_eq ls]; rfl
      rw [el] at hp
      cases hp
end
