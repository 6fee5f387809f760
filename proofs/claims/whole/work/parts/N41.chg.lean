/-! the two sides: a tomb's home; what a change writes -/
section CG2
variable {x x' v xr ky c n : Int32} {A A' B D : alT} {k e i j N U rep nm m up L M t r a f : Nat} {y : Nat → Nat} {S S' : stA} {μ μ' : mT} {p q : pT} {w : Nat × Nat × Nat} {u u' : agT} {en : enT}
theorem UQ.seg (uq : UQ (allP A)) (hu : u ∈ A.1) (hu' : u' ∈ A.1) (hp : p ∈ u.2.1) (hq : q ∈ u'.2.1) (h : smV p q) : u = u' := by
  unfold allP at uq
  generalize A.1 = L at *
  induction L with
  | nil => cases hu
  | cons a L ih =>
    rw [List.map_cons, List.flatten_cons] at uq
    obtain ⟨p1, p2, p3⟩ := List.pairwise_append.mp uq
    have inL : ∀ {b : agT} {p : pT}, b ∈ L → p ∈ b.2.1 → p ∈ (L.map (·.2.1)).flatten := fun hb hp => List.mem_flatten.mpr ⟨_, List.mem_map_of_mem hb, hp⟩
    rcases List.mem_cons.mp hu with z | z <;> rcases List.mem_cons.mp hu' with z' | z'
    · rw [z, z']
    · subst z; exact absurd h (p3 p hp q (inL z' hq)).1
    · subst z'; exact absurd h.sy (p3 q hq p (inL z hp)).1
    · exact ih p2 z z'
theorem obM_v2 (e : obM μ x ky = some w) (mr : MR y S μ) : w.1 < μ.1.length ∧ lLg (μ.1.getD w.1 sl0) = x ∧ w.2.1 < (lEn (μ.1.getD w.1 sl0)).length ∧ w.2.2 < 2 := by
  have : vld μ.1 x (obM μ x ky) := by
    refine tF_inv (p := vld μ.1 x) (fun _ _ _ q => by cases q) (th_le (SP.ho mr.2.2.2.2.2.2.2.1)) (fun b k e i hk hl he hi hb => ?_)
    unfold objM
    cases b with
    | some _ => exact hb
    | none =>
      dsimp only
      split
      · exact fun _ _ _ q => by cases q
      · split
        · exact fun _ _ _ q => by cases q
        · split
          · exact fun _ _ _ q => by cases q
          · intro _ _ _ q; cases q; exact ⟨hk, hl, he, hi⟩
  obtain ⟨a, b, d⟩ := w
  exact this a b d e
theorem ptM_in (nz : ¬ cel μ w 0 = 0) (he : w.2.1 < (lEn (μ.1.getD w.1 sl0)).length) (hi : w.2.2 < 2) : ptM μ w ∈ enS (lEn (μ.1.getD w.1 sl0)) := by
  obtain ⟨qk, qe, qi⟩ := w
  have nz : ¬ mE ((lEn (μ.1.getD qk sl0)).getD qe en0) qi 0 = 0 := nz
  have he : qe < (lEn (μ.1.getD qk sl0)).length := he
  show (if qi = 0 then ((lEn (μ.1.getD qk sl0)).getD qe en0).1 else ((lEn (μ.1.getD qk sl0)).getD qe en0).2.getD (dgP 0)) ∈ _
  have hm : (lEn (μ.1.getD qk sl0)).getD qe en0 ∈ lEn (μ.1.getD qk sl0) := by rw [at_E he]; exact List.getElem_mem he
  refine List.mem_flatMap.mpr ⟨_, hm, ?_⟩
  generalize (lEn (μ.1.getD qk sl0)).getD qe en0 = E at nz
  unfold mE at nz
  unfold enP
  by_cases z : qi = 0
  · rw [if_pos z]; exact List.mem_cons_self
  · rw [if_neg z] at nz
    rw [if_neg z]
    cases e2 : E.2 with
    | none => rw [e2] at nz; exact absurd rfl nz
    | some p => exact List.mem_cons_of_mem _ List.mem_cons_self
theorem home_R (mr : MR y S μ) (hi : i < y 20) (uq : UQ (allP (sLg ((tSv S).getD i sr0)))) (v1 : vr1 (allP (sLg ((tSv S).getD i sr0)))) (h : (homA ky (sLg ((tSv S).getD i sr0)).1).2 = some u) : ∃ w, obM μ (nI i) ky = some w ∧ lNm (μ.1.getD w.1 sl0) = u.1 := by
  have a4 := (mr.2.2.2.2.1 i hi).2.2.2.1
  obtain ⟨h1, h2, h3, h4⟩ := hm_all (ky := ky) (A := (sLg ((tSv S).getD i sr0)).1) uq v1
  obtain ⟨p2, p3, p4⟩ := h2 u h
  have pm : p2 ∈ u.2.1 ∧ u ∈ (sLg ((tSv S).getD i sr0)).1 := by
    unfold prL at p3
    obtain ⟨u', u1, u2⟩ := List.mem_flatMap.mp p3
    obtain ⟨p', q3, q4⟩ := List.mem_map.mp u2
    cases q4
    exact ⟨q3, u1⟩
  have ob := own_ob (ky := ky) mr hi uq v1
  rw [objA_S uq v1] at ob
  have p2m : p2 ∈ allP (sLg ((tSv S).getD i sr0)) := allP_mem.mpr ⟨u, pm.2, pm.1⟩
  rw [prL_2] at h1
  have h1 : (homA ky (sLg ((tSv S).getD i sr0)).1).1 = verA (allP (sLg ((tSv S).getD i sr0))) ky := h1
  rw [h1] at p4
  have ob : (obM μ (nI i) ky).map (ptM μ) = (allP (sLg ((tSv S).getD i sr0))).find? (obF ky (verA (allP (sLg ((tSv S).getD i sr0))) ky)) := ob
  cases ef : (allP (sLg ((tSv S).getD i sr0))).find? (obF ky (verA (allP (sLg ((tSv S).getD i sr0))) ky)) with
  | none => exact absurd p4 (List.find?_eq_none.mp ef p2 p2m)
  | some p =>
    rw [ef] at ob
    cases em : obM μ (nI i) ky with
    | none => rw [em] at ob; cases ob
    | some w =>
      rw [em] at ob
      have ob : ptM μ w = p := Option.some.inj ob
      obtain ⟨v1', v2, v3, v4⟩ := obM_v2 em mr
      have nz : ¬ cel μ w 0 = 0 := by rw [obM_k2 em mr]; decide
      have pin := ptM_in nz v3 v4
      rw [ob] at pin
      have ag := a4.mem (fl_at v1' v2)
      obtain ⟨a1, a2, a3⟩ := obF_t.mp (List.find?_some ef)
      obtain ⟨b1, b2, b3⟩ := obF_t.mp p4
      have eu := uq.seg ag pm.2 (p := p) (q := p2) pin pm.1 ⟨kM_2 a1, kM_2 b1, a2.trans b2.symm, a3.trans b3.symm⟩
      refine ⟨w, rfl, ?_⟩
      rw [← eu]; rfl
/-- an ENTRY of a change, written by both; np: its PARTS on the class's side -/
theorem chg_R (mr : MR y S μ) (hT : μ.1.length < 2 ^ 31 - 9) (hi : i < y 20) (li : LI (tNm S) (sLg ((tSv S).getD i sr0))) {u0 cc cc' : Nat} {np : List pT} (hun : unT en = nI u0) (hn : u0 ≤ 4) (nz : ¬ mPt en.1 0 = 0) (hnm : (mkrS y S i (nI u0) 1).2.1 ≤ 80000) (hc : ∀ (hs : List (Nat × Nat)) (n : Nat), hs.length < 8 → updH hs cc n = updH hs cc' n) (hnp : ¬ (mkrS y S i (nI u0) 1).2.2.2 = 0 → enP (tmE (ap1 y μ i 0 en).1 i en) = np ∧ enV (tmE (ap1 y μ i 0 en).1 i en) ∧ ∀ p ∈ np, ¬ pKd p = -1) : (appM y μ i 0 en cc).2 = (mkrS y S i (nI u0) 1).2.2.2 ∧ ((mkrS y S i (nI u0) 1).2.2.2 = 0 → MR y (rmW S i (mkrS y S i (nI u0) 1)) (appM y μ i 0 en cc).1) ∧ (¬ (mkrS y S i (nI u0) 1).2.2.2 = 0 → MR y (wrS (rmW S i (mkrS y S i (nI u0) 1)) i np cc') (appM y μ i 0 en cc).1) := by
  obtain ⟨m1, m2⟩ := mkr_R (lim := 1) (xr := 0) mr (by omega) hi li hun hn ⟨fun _ => rfl, fun _ => by decide⟩ hnm
  have ls : i < (tSv S).length := by rw [mr.2.1.1]; exact hi
  have r01 : (mkrS y S i (nI u0) 1).2.2.2 = 0 ∨ (mkrS y S i (nI u0) 1).2.2.2 = 1 := by
    unfold mkrS mkrA
    split
    · exact Or.inr rfl
    · unfold opnA
      split
      · exact Or.inl rfl
      · split
        · exact Or.inl rfl
        · exact Or.inr rfl
  unfold appM
  by_cases q : (mkrS y S i (nI u0) 1).2.2.2 = 0
  · rw [m2, if_pos q]
    exact ⟨q.symm, fun _ => m1, fun w => absurd q w⟩
  · rw [m2, if_neg q]
    refine ⟨(r01.resolve_left q).symm, fun w => absurd w q, fun _ => ?_⟩
    obtain ⟨n1, n2, n3⟩ := hnp q
    have hE := ap1_E (xr := 0) mr hT hi nz (by rw [m2]; exact q)
    have hl := ap1_len (i := i) (xr := 0) (en := en) mr
    have := wr_R (c := cc) (c' := cc') (en := en) m1 (by omega) hi (by rw [rm_lg ls]; exact mkr_hd q) hE ⟨n2, by rw [n1]; exact n3⟩ hc
    rw [n1] at this
    exact this
theorem cp_eq {cut : Int32} (h : cut = -1 ∨ ∃ k, k ≤ 3 ∧ cut = nI k) (ec : μ.2.1 12 i = cut) : (∀ (hs : List (Nat × Nat)) (n : Nat), hs.length < 8 → updH hs (wrC μ i) n = updH hs (cpN cut) n) ∧ (¬ cut = 0 ↔ 0 < wrC μ i) := by
  unfold wrC cpN
  rw [ec]
  rcases h with h | ⟨k, hk, h⟩
  · rw [if_pos h, if_pos h]
    exact ⟨upd_all, fun _ => by decide, fun _ => by rw [h]; decide⟩
  · have n1 : ¬ cut = -1 := by rw [h]; exact nI_n1 (by omega)
    rw [if_neg n1, if_neg n1, h, nI_clamp (by omega)]
    refine ⟨fun _ _ _ => rfl, fun w => ?_, fun w z => ?_⟩
    · rcases Nat.eq_zero_or_pos k with z | z
      · rw [z] at w; exact absurd rfl w
      · exact z
    · have := nI_inj (a := k) (b := 0) (by omega) (by omega) (z.trans nI_0.symm)
      omega
end CG2
