-- the form of a SERVER's own LOG; OPENING and making room keep it
def hF (N : Nat) (u : agT) : Prop := hG N u ∧ ∀ w ∈ u.2.2.2, w.2 = u.2.2.1.length
def LgO (N U nm : Nat) (A : alT) : Prop := A.1.Pairwise (fun a b => a.1 < b.1) ∧ (∀ u ∈ A.1, u.1 < nm ∧ hF N u) ∧ (A.2.1 = none ∨ A.2.1 = A.2.2) ∧ ∀ g, hdG A = some g → ∃ k, k ≤ U ∧ unsA g.2.1 = nI k
def dg1 (q : pT → Bool) (v : Int32) : Nat := if q (dgP v) = true then 1 else 0
section
variable {A : alT} {q : pT → Bool} {lt : Option Nat} {N U rep mem nm m ub : Nat} {st : Nat → Int32} {aw safe lim need : Int32}
theorem srv_up {sv : List srA} : UPR (fun i => sSt (sv.getD i sr0)) sv.length (upN sv) := ⟨upN_lt _, fun i hi => upN_bit _ i hi⟩
theorem nsH_p (u : UPR st N ub) (h4 : 4 ≤ N) (h8 : N ≤ 8) (hm : m < N) : ((nsH (nI ub) N rep nm m N).map (·.1)).Nodup ∧ (∀ x ∈ nsH (nI ub) N rep nm m N, x.2 = 0 ∧ x.1 < N) ∧ (nsH (nI ub) N rep nm m N).length ≤ rep ∧ ∀ x ∈ nsH (nI ub) N rep nm m N, st x.1 = 0 := by
  rw [← ns_MH u h4 h8 hm, ns_G h4 h8 hm]
  have := ns_ok (st := st) (N := N) (rep := rep) (rgL N ((7 * nm + 3 * m) % N) 0 N m) [] (by
    rw [List.map_nil, List.nil_append]
    exact rgL_nd N (by omega) h4 _ (Nat.mod_lt _ (by omega)) m hm) (fun x hx => by cases hx) (fun v hv => ((rgL_len (by omega) hm _ _).2 v hv).1) (fun x hx => by cases hx) (Nat.zero_le _)
  refine ⟨this.1, this.2.1, this.2.2.1, fun x hx => ?_⟩
  rcases this.2.2.2 x hx with w | w
  · cases w
  · exact w.2
theorem hG_m {u : agT} {hs : List (Nat × Nat)} {n : Nat} (h1 : (hs.map (·.1)).Nodup) (h2 : ∀ x ∈ hs, x.1 < N) (e : u.2.2.2 = hs.map (fun x => (x.1, n))) (en : u.2.2.1.length = n) : hF N u := by
  refine ⟨⟨?_, fun x hx => ?_⟩, fun w hw => ?_⟩
  · rw [e, List.map_map]
    exact h1
  · rw [e] at hx
    obtain ⟨z, z1, z2⟩ := List.mem_map.mp hx
    rw [← z2]; exact h2 z z1
  · rw [e] at hw
    obtain ⟨z, z1, z2⟩ := List.mem_map.mp hw
    rw [← z2, en]
theorem pw_nd {L : List agT} (h : L.Pairwise (fun a b => a.1 < b.1)) : (L.map (·.1)).Nodup := by
  refine List.pairwise_map.mpr (h.imp (fun w => ?_))
  exact Nat.ne_of_lt w
theorem op1_o (u : UPR st N ub) (h4 : 4 ≤ N) (h8 : N ≤ 8) (hm : m < N) (L : LgO N U nm A) : (opn1 N U rep mem (nI ub) nm m A).1.Pairwise (fun a b => a.1 < b.1) ∧ (∀ v ∈ (opn1 N U rep mem (nI ub) nm m A).1, v.1 < (opn1 N U rep mem (nI ub) nm m A).2.1 ∧ hF N v) ∧ (nm ≤ (opn1 N U rep mem (nI ub) nm m A).2.1 ∧ (opn1 N U rep mem (nI ub) nm m A).2.1 ≤ nm + 1) ∧ (opn1 N U rep mem (nI ub) nm m A).1.length ≤ A.1.length ∧ ∀ q, ((((opn1 N U rep mem (nI ub) nm m A).1).map (·.2.1)).flatten).countP q ≤ (allP A).countP q := by
  obtain ⟨pw, hn, -, -⟩ := L
  unfold opn1
  split
  · refine ⟨?_, ?_, ?_, clA_l (pw_nd pw), fun q => clA_c (pw_nd pw)⟩
    · unfold clnA
      split
      · refine List.pairwise_append.mpr ⟨pw.sublist List.filter_sublist, List.pairwise_singleton _ _, fun a ha b hb => ?_⟩
        rw [List.mem_singleton.mp hb]
        exact (hn a (List.mem_filter.mp ha).1).1
      · exact pw.sublist List.filter_sublist
    · unfold clnA
      split
      · intro v hv
        rcases List.mem_append.mp hv with w | w
        · exact ⟨Nat.lt_succ_of_lt (hn v (List.mem_filter.mp w).1).1, (hn v (List.mem_filter.mp w).1).2⟩
        · rw [List.mem_singleton.mp w]
          obtain ⟨n1, n2, -, -⟩ := nsH_p (rep := rep) (nm := nm) u h4 h8 hm
          refine ⟨Nat.lt_succ_self _, hG_m n1 (fun x hx => (n2 x hx).2) rfl ?_⟩
          show ((List.range _).map _).length = _
          rw [List.length_map, List.length_range]
      · exact fun v hv => hn v (List.mem_filter.mp hv).1
    · unfold clnA
      split
      · exact ⟨Nat.le_succ _, Nat.le_refl _⟩
      · exact ⟨Nat.le_refl _, Nat.le_succ _⟩
  · exact ⟨pw, hn, ⟨Nat.le_refl _, Nat.le_succ _⟩, Nat.le_refl _, fun q => Nat.le_refl _⟩
theorem find_lt {L : List agT} {g : agT} (h : ∀ v ∈ L, v.1 < g.1) : (L ++ [g]).find? (fun z => z.1 == g.1) = some g := by
  rw [List.find?_append, List.find?_eq_none.mpr (fun v hv => by
    have := h v hv
    rw [beq_false_of_ne (Nat.ne_of_lt this)]; decide), Option.none_or, List.find?_cons, beq_self_eq_true]
theorem opA_o {W : alT × Nat × Int32 × Int32} (e : W = opnA N U rep mem (nI ub) aw nm m safe lim A) (u : UPR st N ub) (h4 : 4 ≤ N) (h8 : N ≤ 8) (hm : m < N) (hU : 1 ≤ U) (L : LgO N U nm A) : LgO N U W.2.1 W.1 ∧ (nm ≤ W.2.1 ∧ W.2.1 ≤ nm + 2 ∧ W.1.1.length + nm ≤ A.1.length + W.2.1 ∧ (¬ lim = 0 → W.1.1.length ≤ A.1.length ∨ W.1.1.length ≤ mem)) ∧ (∀ q, (allP W.1).countP q ≤ (allP A).countP q + dg1 q safe) ∧ (¬ W.2.2.2 = 0 → ∃ g, hdG W.1 = some g ∧ g.2.1 = [dgP safe] ∧ mskL g.2.2.2 &&& (nI ub ^^^ (-1)) = 0) ∧ (W.2.2.2 = 0 → lim = 0 → W.1 = A ∧ W.2.1 = nm) := by
  obtain ⟨o1, o2, o3, o4, o5⟩ := op1_o (rep := rep) (mem := mem) u h4 h8 hm L
  unfold opnA at e
  generalize opn1 N U rep mem (nI ub) nm m A = O at o1 o2 o3 o4 o5 e
  by_cases q1 : ¬ aw = 0 ∨ ¬ nI rep ≤ bcX (nI ub &&& (bitS (nI m) ^^^ (-1)))
  · rw [if_pos q1] at e
    subst e
    exact ⟨L, ⟨Nat.le_refl _, Nat.le_add_right _ _, Nat.le_refl _, fun _ => Or.inl (Nat.le_refl _)⟩, fun q => Nat.le_add_right _ _, fun z => absurd rfl z, fun _ _ => ⟨rfl, rfl⟩⟩
  · rw [if_neg q1] at e
    by_cases q2 : ¬ lim = 0 ∧ mem ≤ O.1.length
    · rw [if_pos q2] at e
      subst e
      refine ⟨⟨o1, o2, Or.inl rfl, fun g hg => by cases hg⟩, ⟨o3.1, by show O.2.1 ≤ _; omega, by show O.1.length + nm ≤ _ + O.2.1; omega, fun _ => Or.inl o4⟩, fun q => Nat.le_trans (o5 q) (Nat.le_add_right _ _), fun z => absurd rfl z, fun _ z => absurd z q2.1⟩
    · rw [if_neg q2] at e
      obtain ⟨n1, n2, n3, n4⟩ := nsH_p (rep := rep) (nm := O.2.1) u h4 h8 hm
      have hd : hdG W.1 = some (dgG O.2.1 (nsH (nI ub) N rep O.2.1 m N) safe) := by
        rw [e]
        exact find_lt (g := dgG O.2.1 (nsH (nI ub) N rep O.2.1 m N) safe) (fun v hv => (o2 v hv).1)
      have fF : hF N (dgG O.2.1 (nsH (nI ub) N rep O.2.1 m N) safe) := hG_m n1 (fun x hx => (n2 x hx).2) rfl rfl
      subst e
      refine ⟨⟨?_, fun v hv => ?_, Or.inr rfl, fun g hg => ?_⟩, ⟨by show nm ≤ O.2.1 + 1; omega, by show O.2.1 + 1 ≤ _; omega, ?_, fun w => ?_⟩, fun q => ?_, fun _ => ⟨_, hd, rfl, ?_⟩, fun z => absurd z (show ¬ (1 : Int32) = 0 by decide)⟩
      · refine List.pairwise_append.mpr ⟨o1, List.pairwise_singleton _ _, fun a ha b hb => ?_⟩
        rw [List.mem_singleton.mp hb]
        exact (o2 a ha).1
      · rcases List.mem_append.mp hv with w | w
        · exact ⟨Nat.lt_succ_of_lt (o2 v w).1, (o2 v w).2⟩
        · rw [List.mem_singleton.mp w]
          exact ⟨Nat.lt_succ_self _, fF⟩
      · rw [hd] at hg
        cases hg
        exact ⟨1, hU, rfl⟩
      · show (O.1 ++ [_]).length + nm ≤ _ + (O.2.1 + 1)
        rw [List.length_append, List.length_singleton]; omega
      · right
        show (O.1 ++ [_]).length ≤ _
        rw [List.length_append, List.length_singleton]
        have : ¬ mem ≤ O.1.length := fun z => q2 ⟨w, z⟩
        omega
      · show (((O.1 ++ [dgG O.2.1 (nsH (nI ub) N rep O.2.1 m N) safe]).map (·.2.1)).flatten).countP q ≤ _
        rw [List.map_append, List.flatten_append, List.countP_append]
        have e1 : (([dgG O.2.1 (nsH (nI ub) N rep O.2.1 m N) safe].map (·.2.1)).flatten).countP q = dg1 q safe := by
          show [dgP safe].countP q = _
          rw [List.countP_cons, List.countP_nil, Nat.zero_add]
          rfl
        have := o5 q
        omega
      · refine (u.hol h8 fF.1).2.mpr (fun x hx => ?_)
        obtain ⟨z, z1, z2⟩ := List.mem_map.mp hx
        rw [← z2]
        exact n4 z z1
/-- what making room leaves -/
theorem mkA_o {W : alT × Nat × Int32 × Int32} (e : W = mkrA N U rep mem (nI ub) aw nm m safe need lim A) (u : UPR st N ub) (h4 : 4 ≤ N) (h8 : N ≤ 8) (hm : m < N) (hU : 1 ≤ U) (L : LgO N U nm A) : LgO N U W.2.1 W.1 ∧ (nm ≤ W.2.1 ∧ W.2.1 ≤ nm + 2 ∧ W.1.1.length + nm ≤ A.1.length + W.2.1 ∧ (¬ lim = 0 → W.1.1.length ≤ A.1.length ∨ W.1.1.length ≤ mem)) ∧ (∀ q, (allP W.1).countP q ≤ (allP A).countP q + dg1 q safe) ∧ (¬ W.2.2.2 = 0 → (hdB U (nI ub) need A = true ∧ W.1 = A ∧ W.2.1 = nm) ∨ (¬ hdB U (nI ub) need A = true ∧ ∃ g, hdG W.1 = some g ∧ g.2.1 = [dgP safe] ∧ mskL g.2.2.2 &&& (nI ub ^^^ (-1)) = 0)) ∧ (W.2.2.2 = 0 → lim = 0 → W.1 = A ∧ W.2.1 = nm) := by
  unfold mkrA at e
  by_cases q1 : hdB U (nI ub) need A = true
  · rw [if_pos q1] at e
    subst e
    exact ⟨L, ⟨Nat.le_refl _, Nat.le_add_right _ _, Nat.le_refl _, fun _ => Or.inl (Nat.le_refl _)⟩, fun q => Nat.le_add_right _ _, fun _ => Or.inl ⟨q1, rfl, rfl⟩, fun z => absurd z (show ¬ (1 : Int32) = 0 by decide)⟩
  · rw [if_neg q1] at e
    obtain ⟨a1, a2, a3, a4, a5⟩ := opA_o e u h4 h8 hm hU L
    exact ⟨a1, a2, a3, fun z => Or.inr ⟨q1, a4 z⟩, a5⟩
theorem hdB_g {up : Int32} (h : hdB U up need A = true) : ∃ g, hdG A = some g ∧ mskL g.2.2.2 &&& (up ^^^ (-1)) = 0 ∧ unsA g.2.1 + need ≤ nI U := by
  unfold hdB at h
  split at h
  · cases h
  · next g hg =>
    rw [Bool.and_eq_true, decide_eq_true_eq, decide_eq_true_eq] at h
    exact ⟨g, hg, h.1, h.2⟩
/-- room was made: the HEAD takes what is needed -/
theorem mkA_hd {W : alT × Nat × Int32 × Int32} {n : Nat} (e : W = mkrA N U rep mem (nI ub) aw nm m safe (nI n) lim A) (u : UPR st N ub) (h4 : 4 ≤ N) (h8 : N ≤ 8) (hm : m < N) (hU : 6 ≤ U) (hU2 : U ≤ 16) (hn : n ≤ 4) (L : LgO N U nm A) (hs : ¬ W.2.2.2 = 0) : ∃ g k, hdG W.1 = some g ∧ unsA g.2.1 = nI k ∧ k + n ≤ U ∧ mskL g.2.2.2 &&& (nI ub ^^^ (-1)) = 0 := by
  obtain ⟨a1, a2, a3, a4, a5⟩ := mkA_o e u h4 h8 hm (by omega) L
  rcases a4 hs with ⟨b1, b2, b3⟩ | ⟨b1, g, g1, g2, g3⟩
  · obtain ⟨g, g1, g2, g3⟩ := hdB_g b1
    obtain ⟨k, k1, k2⟩ := L.2.2.2 g g1
    refine ⟨g, k, by rw [b2]; exact g1, k2, ?_, g2⟩
    rw [k2] at g3
    have e2 : nI k + nI n = nI (k + n) := by
      show Int32.ofNat k + Int32.ofNat n = Int32.ofNat (k + n)
      rw [Int32.ofNat_add]
    rw [e2] at g3
    exact (nI_le_iff (by omega) (by omega)).mp g3
  · exact ⟨g, 1, g1, by rw [g2]; rfl, by omega, g3⟩
end
