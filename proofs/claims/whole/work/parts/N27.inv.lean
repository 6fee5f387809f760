/-! the two sides: what stays true of the slots when a HEAD is opened and when an ENTRY is written -/
def GQ (φ : pT → Prop) (T : List slT) : Prop := ∀ s ∈ T, ¬ lLg s = 99 → ∀ p ∈ enS (lEn s), φ p
section IV
variable {φ : pT → Prop} {q : pT → Bool} {T T' T2 : List slT} {x x' v n xr lim need : Int32} {A A' B : alT} {st : Nat → Int32} {k e i j N U rep nm m up c c' dl r d t : Nat} {s s' : slT} {hd : Option Nat} {y : Nat → Nat} {S S' : stA} {μ μ' : mT} {z z' : srA} {en : enT}
theorem opn2_GQ (mr : MR y S μ) (hi : i < y 20) (h : GQ φ μ.1) : GQ φ (opn2 y μ i).1 := by
  obtain ⟨⟨k0, k1, k2, k3, k4⟩, ⟨l1, l2, l3, l4⟩, -, ow, sv, de, dd, sp, lb⟩ := mr
  obtain ⟨a1, a2, a3, a4, a5⟩ := sv i hi
  obtain ⟨yo1, yo2, yo3, yo4⟩ := k0
  unfold opn2
  split
  · exact h
  · show GQ φ (clnM (μ.2.1 5) (y 20) (y 22) (y 21) (nmM (uR μ 10 i (-1))) i μ.1).1
    refine cln_P (U := y 22) (P := fun s => ¬ lLg s = 99 → ∀ p ∈ enS (lEn s), φ p) (fun s _ z => absurd rfl z) yo3.2 (fun s hs => (sp s hs).2.2.2.2.2) (fun ps hl hps _ => ?_) h a4 (SP.nb sp)
    obtain ⟨s1, s2, s3⟩ := ns_p (st := μ.2.1 5) (rep := y 21) (nm := nmM (uR μ 10 i (-1))) yo1.1 yo1.2 hi
    rw [(pk_ag (by omega) (fun x hx => (s2 x hx).1)).1]
    intro p hp
    have hp : p ∈ enS (ps.map (fun p => (p, none))) := hp
    rw [enS_1] at hp
    obtain ⟨s, t1, t2, t3⟩ := hps p hp
    exact h s t1 (by rw [t2]; exact nI_9 (by omega)) p t3
theorem opn2_cn (mr : MR y S μ) (hi : i < y 20) : cnT q (opn2 y μ i).1 (nI i) ≤ cnT q μ.1 (nI i) := by
  obtain ⟨⟨k0, k1, k2, k3, k4⟩, ⟨l1, l2, l3, l4⟩, -, ow, sv, de, dd, sp, lb⟩ := mr
  obtain ⟨a1, a2, a3, a4, a5⟩ := sv i hi
  obtain ⟨yo1, yo2, yo3, yo4⟩ := k0
  unfold opn2
  split
  · exact Nat.le_refl _
  · exact cn_cln (U := y 22) a4 (SP.nb sp) yo1.1 yo1.2 hi yo2.2
theorem opn_3 : (opnM y μ i xr).1 = μ ∨ (opnM y μ i xr).1 = opn2 y μ i ∨ (opnM y μ i xr).1 = opn3 y (opn2 y μ i) i := by
  unfold opnM
  split
  · exact Or.inl rfl
  · split
    · exact Or.inr (Or.inl rfl)
    · exact Or.inr (Or.inr rfl)
theorem enS_dg {v : Int32} {hs : List (Nat × Nat)} : enS (lEn (cmS (x, nm, true, [], hs) (dgP v, none) 8)) = [dgP v] := rfl
theorem opn_GQ (mr : MR y S μ) (hi : i < y 20) (h : GQ φ μ.1) (hd : ∀ v, φ (dgP v)) : GQ φ (opnM y μ i xr).1.1 := by
  have h2 := opn2_GQ mr hi h
  rcases opn_3 (y := y) (μ := μ) (i := i) (xr := xr) with e | e | e
  · rw [e]; exact h
  · rw [e]; exact h2
  · rw [e]
    intro s hs n99 p hp
    rcases nw_mem hs with w | w
    · exact h2 s w n99 p hp
    · rw [w, enS_dg] at hp
      rw [List.mem_singleton.mp hp]
      exact hd _
theorem opn_cn (mr : MR y S μ) (hi : i < y 20) (hq : ∀ v, q (dgP v) = false) : cnT q (opnM y μ i xr).1.1 (nI i) ≤ cnT q μ.1 (nI i) := by
  have h2 := opn2_cn (q := q) mr hi
  have y8 := mr.1.1.1.2
  rcases opn_3 (y := y) (μ := μ) (i := i) (xr := xr) with e | e | e
  · rw [e]; exact Nat.le_refl _
  · rw [e]; exact h2
  · rw [e]
    show cnT q (nwT (opn2 y μ i).1 (cmS (nI i, nmM (opn2 y μ i), true, [], nsR y (opn2 y μ i) i) (dgP ((opn2 y μ i).2.1 9 i), none) 8)) (nI i) ≤ _
    rw [cn_nw (nI_9 (by omega)) rfl]
    have : cnS q (cmS (nI i, nmM (opn2 y μ i), true, [], nsR y (opn2 y μ i) i) (dgP ((opn2 y μ i).2.1 9 i), none) 8) = 0 := by
      unfold cnS
      rw [enS_dg, List.countP_cons, hq]; rfl
    omega
theorem cm_S : enS (lEn (cmS s en c)) = enS (lEn s) ++ enP en := by
  show enS (lEn s ++ [en]) = _
  rw [enS_app]
  congr 1
  show enP en ++ [] = _
  rw [List.append_nil]
theorem apT_GQ (hk : hdI μ i < μ.1.length) (hl : ¬ lLg (μ.1.getD (hdI μ i) sl0) = 99) (h : GQ φ μ.1) (hp : ∀ p ∈ enP (tmE μ i en), φ p) : GQ φ (apT μ i en c).1 := by
  intro s hs n99 p hpp
  have hs : s ∈ μ.1.set (hdI μ i) (cmS (μ.1.getD (hdI μ i) sl0) (tmE μ i en) c) := hs
  rcases List.mem_or_eq_of_mem_set hs with w | w
  · exact h s w n99 p hpp
  · rw [w, cm_S] at hpp
    rcases List.mem_append.mp hpp with u | u
    · exact h _ (T_at hk) hl p u
    · exact hp p u
theorem apT_cn (hk : hdI μ i < μ.1.length) (hl : lLg (μ.1.getD (hdI μ i) sl0) = x) : cnT q (apT μ i en c).1 x = cnT q μ.1 x + (enP (tmE μ i en)).countP q := by
  show cnT q (μ.1.set (hdI μ i) (cmS (μ.1.getD (hdI μ i) sl0) (tmE μ i en) c)) x = _
  obtain ⟨e1, e2⟩ := er_perm sl0 μ.1 (hdI μ i) hk
  have p1 := e1.filter (lbX x)
  have p2 := (e2 (cmS (μ.1.getD (hdI μ i) sl0) (tmE μ i en) c)).filter (lbX x)
  rw [lb_y hl] at p1
  rw [lb_y (s := cmS (μ.1.getD (hdI μ i) sl0) (tmE μ i en) c) (x := x) hl] at p2
  unfold cnT
  rw [cn_perm p1, cn_perm p2, List.map_cons, List.sum_cons, List.map_cons, List.sum_cons]
  have : cnS q (cmS (μ.1.getD (hdI μ i) sl0) (tmE μ i en) c) = cnS q (μ.1.getD (hdI μ i) sl0) + (enP (tmE μ i en)).countP q := by
    unfold cnS
    rw [cm_S, List.countP_append]
  omega
/-- the LOG's names lie below the next -/
theorem opnA_nm {N U rep mem : Nat} {up aw safe : Int32} (h : ∀ u ∈ A.1, u.1 < nm) : (∀ u ∈ (opnA N U rep mem up aw nm i safe lim A).1.1, u.1 < (opnA N U rep mem up aw nm i safe lim A).2.1) ∧ nm ≤ (opnA N U rep mem up aw nm i safe lim A).2.1 ∧ (opnA N U rep mem up aw nm i safe lim A).2.1 ≤ nm + 2 := by
  have cl : (∀ u ∈ (opn1 N U rep mem up nm i A).1, u.1 < (opn1 N U rep mem up nm i A).2.1) ∧ nm ≤ (opn1 N U rep mem up nm i A).2.1 ∧ (opn1 N U rep mem up nm i A).2.1 ≤ nm + 1 := by
    unfold opn1
    split
    · unfold clnA
      split
      · refine ⟨fun u hu => ?_, Nat.le_succ _, Nat.le_refl _⟩
        rcases List.mem_append.mp hu with w | w
        · exact Nat.lt_succ_of_lt (h u (List.mem_filter.mp w).1)
        · rw [List.mem_singleton.mp w]; exact Nat.lt_succ_self _
      · exact ⟨fun u hu => h u (List.mem_filter.mp hu).1, Nat.le_refl _, Nat.le_succ _⟩
    · exact ⟨h, Nat.le_refl _, Nat.le_succ _⟩
  unfold opnA
  generalize opn1 N U rep mem up nm i A = O at cl
  split
  · exact ⟨h, Nat.le_refl _, Nat.le_add_right _ _⟩
  · split
    · exact ⟨cl.1, cl.2.1, by show O.2.1 ≤ _; omega⟩
    · refine ⟨fun u hu => ?_, by show nm ≤ O.2.1 + 1; omega, by show O.2.1 + 1 ≤ _; omega⟩
      rcases List.mem_append.mp hu with w | w
      · exact Nat.lt_succ_of_lt (cl.1 u w)
      · rw [List.mem_singleton.mp w]; exact Nat.lt_succ_self _
theorem wrtA_nm {np : List pT} (h : ∀ u ∈ A.1, u.1 < nm) : ∀ u ∈ (wrtA A np c).1, u.1 < nm := fun u hu => by
  unfold wrtA at hu
  obtain ⟨w, w1, w2⟩ := List.mem_map.mp hu
  subst w2
  have := h w w1
  split
  · exact this
  · exact this
theorem GQ.li (r : LgR T (nI i) A) (h : GQ φ T) (hi : i < 8) : ∀ u ∈ A.1, ∀ p ∈ u.2.1, φ p := fun u hu p hp => by
  obtain ⟨s, s1, s2⟩ := r.mem' hu
  subst s2
  obtain ⟨t1, t2⟩ := fl_mem (F := []) s1
  exact h s t1 (by rw [t2]; exact nI_9 (by omega)) p hp
end IV
