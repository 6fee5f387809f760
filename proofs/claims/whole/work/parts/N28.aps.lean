/-! the two sides: a PART is written at a recovery -/
section AS
variable {φ : pT → Prop} {q : pT → Bool} {T T' T2 : List slT} {x x' v n xr lim need : Int32} {A A' B : alT} {st : Nat → Int32} {k e i j N U rep nm m c c' dl r d t mem : Nat} {s s' : slT} {hd : Option Nat} {y : Nat → Nat} {S S' : stA} {μ μ' : mT} {z z' : srA} {en : enT} {p : pT} {up aw safe : Int32}
theorem mkr_hd (h : ¬ (mkrA N U rep mem up aw nm i safe need lim A).2.2.2 = 0) : ¬ (mkrA N U rep mem up aw nm i safe need lim A).1.2.1 = none := by
  unfold mkrA at h ⊢
  by_cases q : hdB U up need A = true
  · rw [if_pos q]
    intro e
    have e : A.2.1 = none := e
    have : hdG A = none := by unfold hdG; rw [e]
    unfold hdB at q
    rw [this] at q
    cases q
  · rw [if_neg q] at h ⊢
    unfold opnA at h ⊢
    split at h
    · exact absurd rfl h
    · rename_i q1
      rw [if_neg q1]
      split at h
      · exact absurd rfl h
      · rename_i q2
        rw [if_neg q2]
        intro e
        cases e
theorem opn_len (mr : MR y S μ) : (opn2 y μ i).1.length ≤ μ.1.length + 1 ∧ (opnM y μ i xr).1.1.length ≤ μ.1.length + 2 := by
  have enm := mr.nmE
  obtain ⟨-, ⟨-, -, -, l4⟩, ⟨-, n2, -⟩, -⟩ := mr
  have b := (opn2_b (y := y) (m := i) (μ := μ) (by rw [enm]; exact n2) (by rw [enm]; exact l4)).1
  refine ⟨b, ?_⟩
  rcases opn_3 (y := y) (μ := μ) (i := i) (xr := xr) with e | e | e
  · rw [e]; omega
  · rw [e]; omega
  · rw [e]
    show (nwT (opn2 y μ i).1 _).length ≤ _
    exact Nat.le_trans (nwT_le _) (by omega)
theorem ap1_len (mr : MR y S μ) : (ap1 y μ i xr en).1.1.length ≤ μ.1.length + 2 := by
  unfold ap1
  split
  · exact (opn_len mr).2
  · exact Nat.le_add_right _ _
theorem ap1_E (mr : MR y S μ) (hT : μ.1.length < 2 ^ 31 - 9) (hi : i < y 20) (nz : ¬ mPt en.1 0 = 0) (hs : ¬ (ap1 y μ i xr en).2 = 0) : (lEn ((ap1 y μ i xr en).1.1.getD (hdI (ap1 y μ i xr en).1 i) sl0)).length < 16 := by
  have ol := (opn_len (i := i) (xr := xr) mr).1
  unfold ap1 at hs ⊢
  by_cases q : apC y μ i en = true
  · rw [if_pos q] at hs ⊢
    have e : opnM y μ i xr = (opn3 y (opn2 y μ i) i, 1) := by
      unfold opnM at hs ⊢
      split at hs
      · exact absurd rfl hs
      · rename_i q1
        rw [if_neg q1]
        split at hs
        · exact absurd rfl hs
        · rename_i q2
          rw [if_neg q2]
    rw [e]
    have lt := nwT_len (opn2 y μ i).1 (cmS (nI i, nmM (opn2 y μ i), true, [], nsR y (opn2 y μ i) i) (dgP ((opn2 y μ i).2.1 9 i), none) 8)
    have nl := nwI_le (opn2 y μ i).1
    have eh : hdI (opn3 y (opn2 y μ i) i) i = nwI (opn2 y μ i).1 := by
      have : (opn3 y (opn2 y μ i) i).2.1 10 i = nI (nwI (opn2 y μ i).1) := if_pos ⟨rfl, rfl⟩
      unfold hdI
      rw [this]
      exact nI_clamp (by omega)
    show (lEn ((opn3 y (opn2 y μ i) i).1.getD (hdI (opn3 y (opn2 y μ i) i) i) sl0)).length < 16
    rw [eh]
    show (lEn ((nwT (opn2 y μ i).1 (cmS (nI i, nmM (opn2 y μ i), true, [], nsR y (opn2 y μ i) i) (dgP ((opn2 y μ i).2.1 9 i), none) 8)).getD (nwI (opn2 y μ i).1) sl0)).length < 16
    rw [lt.2]
    exact (by decide : (1 : Nat) < 16)
  · rw [if_neg q]
    have q : apC y μ i en = false := by simpa using q
    have hT' : μ.1.length < 2 ^ 31 := by omega
    exact hEm_R mr hT' hi en nz q
theorem rm_lg {W : alT × Nat × Int32 × Int32} (hi : i < (tSv S).length) : sLg ((tSv (rmW S i W)).getD i sr0) = W.1 := by
  show sLg (((tSv S).set i (stLg ((tSv S).getD i sr0) W.1)).getD i sr0) = _
  rw [List.getD_eq_getElem?_getD, List.getElem?_set_self hi]; rfl
theorem tm_id (k3 : ¬ pKd p = 3) : tmE μ i (p, none) = (p, none) := by
  unfold tmE
  exact if_neg (fun w => k3 ((kd_1 (v := 3) (by decide)).mp w))
theorem un_1 (k1 : ¬ pKd p = -1) : ∃ u, unT (p, none) = nI u ∧ kU (pKd p) = nI u ∧ u ≤ 4 := by
  obtain ⟨u, u1, u2, u3⟩ := kU_12 (pKd p)
  refine ⟨u, ?_, u1, by omega⟩
  show mU (mPt p 0) + 0 = _
  rw [mU_K k1, u1, Int32.add_zero]
theorem upd_all : ∀ (hs : List (Nat × Nat)) (n : Nat), hs.length < 8 → updH hs 8 n = updH hs 100 n := fun hs n h => by rw [updH_all (by omega), updH_all (by omega)]
theorem aps_R (mr : MR y S μ) (hT : μ.1.length < 2 ^ 31 - 9) (hi : i < y 20) (li : LI (tNm S) (sLg ((tSv S).getD i sr0))) (k3 : ¬ pKd p = 3) (k1 : ¬ pKd p = -1) (hnm : (mkrS y S i (kU (pKd p)) 0).2.1 ≤ 80000) : MR y (apS y i S p) (appM y μ i 1 (p, none) 8).1 := by
  obtain ⟨u, e1, e2, e3⟩ := un_1 k1
  unfold apS appM
  rw [e2] at hnm ⊢
  obtain ⟨m1, m2⟩ := mkr_R (lim := 0) (xr := 1) mr (by omega) hi li e1 e3 ⟨fun w => absurd rfl w, fun w => absurd w (by decide)⟩ hnm
  rw [m2]
  by_cases q : (mkrS y S i (nI u) 0).2.2.2 = 0
  · rw [if_pos q, if_pos q]
    exact m1
  · rw [if_neg q, if_neg q]
    have ls : i < (tSv S).length := by rw [mr.2.1.1]; exact hi
    have nz : ¬ mPt ((p, none) : enT).1 0 = 0 := fun w => k1 ((kd_1 (v := -1) (by decide)).mp w)
    have hE := ap1_E (xr := 1) mr hT hi nz (by rw [m2]; exact q)
    have hl := ap1_len (i := i) (xr := 1) (en := (p, none)) mr
    have evp : enV (tmE (ap1 y μ i 1 (p, none)).1 i (p, none)) ∧ ∀ w ∈ enP (tmE (ap1 y μ i 1 (p, none)).1 i (p, none)), ¬ pKd w = -1 := by
      rw [tm_id k3]
      exact ⟨(fun _ w => by cases w), fun w hw => by rw [List.mem_singleton.mp hw]; exact k1⟩
    have := wr_R (c := 8) (c' := 100) (en := (p, none)) m1 (by omega) hi (by rw [rm_lg ls]; exact mkr_hd q) hE evp upd_all
    rw [tm_id k3] at this
    exact this
/-- what is true of all PARTS stays so -/
theorem aps_GQ (mr : MR y S μ) (hT : μ.1.length < 2 ^ 31 - 9) (hi : i < y 20) (li : LI (tNm S) (sLg ((tSv S).getD i sr0))) (k3 : ¬ pKd p = 3) (k1 : ¬ pKd p = -1) (hnm : (mkrS y S i (kU (pKd p)) 0).2.1 ≤ 80000) : (GQ φ μ.1 → (∀ v, φ (dgP v)) → φ p → GQ φ (appM y μ i 1 (p, none) 8).1.1) ∧ ((∀ v, q (dgP v) = false) → cnT q (appM y μ i 1 (p, none) 8).1.1 (nI i) ≤ cnT q μ.1 (nI i) + if q p = true then 1 else 0) := by
  obtain ⟨u, e1, e2, e3⟩ := un_1 k1
  rw [e2] at hnm
  obtain ⟨m1, m2⟩ := mkr_R (lim := 0) (xr := 1) mr (by omega) hi li e1 e3 ⟨fun w => absurd rfl w, fun w => absurd w (by decide)⟩ hnm
  have ls : i < (tSv S).length := by rw [mr.2.1.1]; exact hi
  have hl := ap1_len (i := i) (xr := 1) (en := (p, none)) mr
  have y8 := mr.1.1.1.2
  have g1 : GQ φ μ.1 → (∀ v, φ (dgP v)) → GQ φ (ap1 y μ i 1 (p, none)).1.1 := fun h hd => by
    unfold ap1
    split
    · exact opn_GQ mr hi h hd
    · exact h
  have c1 : (∀ v, q (dgP v) = false) → cnT q (ap1 y μ i 1 (p, none)).1.1 (nI i) ≤ cnT q μ.1 (nI i) := fun hq => by
    unfold ap1
    split
    · exact opn_cn mr hi hq
    · exact Nat.le_refl _
  unfold appM
  by_cases w : (ap1 y μ i 1 (p, none)).2 = 0
  · rw [if_pos w]
    exact ⟨fun h hd _ => g1 h hd, fun hq => Nat.le_trans (c1 hq) (Nat.le_add_right _ _)⟩
  · rw [if_neg w]
    rw [m2] at w
    have hh : ¬ (sLg ((tSv (rmW S i (mkrS y S i (nI u) 0))).getD i sr0)).2.1 = none := by rw [rm_lg ls]; exact mkr_hd w
    have hdr := (m1.2.2.2.2.1 i hi).2.2.1
    rcases hdr with ⟨a1, a2⟩ | ⟨k, b1, b2, b3, b4⟩
    · exact absurd a1 hh
    · have ek : hdI (ap1 y μ i 1 (p, none)).1 i = k := by unfold hdI; rw [b2]; exact nI_clamp (by omega)
      refine ⟨fun h hd hp => ?_, fun hq => ?_⟩
      · exact apT_GQ (by rw [ek]; exact b1) (by rw [ek, b3]; exact nI_9 (by omega)) (g1 h hd) (by rw [tm_id k3]; exact fun w hw => by rw [List.mem_singleton.mp hw]; exact hp)
      · show cnT q (apT (ap1 y μ i 1 (p, none)).1 i (p, none) 8).1 (nI i) ≤ _
        rw [apT_cn (by rw [ek]; exact b1) (by rw [ek]; exact b3), tm_id k3]
        have := c1 hq
        have e : (enP ((p, none) : enT)).countP q = if q p = true then 1 else 0 := by
          show [p].countP q = _
          rw [List.countP_cons, List.countP_nil, Nat.zero_add]
        rw [e]
        omega
end AS
