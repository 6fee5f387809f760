/-! the two sides: a LOG gets another label; DOWN, forgetting -/
def e0L : alT := ([], none, none)
section DW
variable {T T' T2 : List slT} {x x' v n xr lim need : Int32} {A A' B : alT} {st : Nat → Int32} {k e i j N U rep nm m up c c' dl : Nat} {s s' : slT} {hd : Option Nat} {y : Nat → Nat} {S S' : stA} {μ μ' : mT} {z z' : srA}
theorem lgE_l (h : lLg s = x) : lgE x v s = (v, s.2) := if_pos h
theorem lgE_n (h : ¬ lLg s = x) : lgE x v s = s := if_neg h
theorem lg_len : (lgT T x v).length = T.length := List.length_map _
theorem lg_at (hk : k < T.length) : (lgT T x v).getD k sl0 = lgE x v (T.getD k sl0) := by
  unfold lgT
  rw [List.getD_eq_getElem?_getD, List.getElem?_map, List.getElem?_eq_getElem hk, List.getD_eq_getElem?_getD, List.getElem?_eq_getElem hk]
  rfl
theorem lg_o (h1 : ¬ x' = x) (h2 : ¬ x' = v) : (lgT T x v).filter (lbX x') = T.filter (lbX x') := by
  unfold lgT
  induction T with
  | nil => rfl
  | cons s T ih =>
    rw [List.map_cons]
    by_cases q : lLg s = x
    · rw [if_pos q, lb_n (s := (v, s.2)) (fun z => h2 (Eq.symm z)), lb_n (fun z => h1 (z.symm.trans q)), ih]
    · rw [if_neg q]
      by_cases q2 : lLg s = x'
      · rw [lb_y q2, lb_y q2, ih]
      · rw [lb_n q2, lb_n q2, ih]
theorem lg_x (h : ¬ x = v) : (lgT T x v).filter (lbX x) = [] := by
  unfold lgT
  induction T with
  | nil => rfl
  | cons s T ih =>
    rw [List.map_cons]
    by_cases q : lLg s = x
    · rw [if_pos q, lb_n (s := (v, s.2)) (fun z => h (Eq.symm z)), ih]
    · rw [if_neg q, lb_n q, ih]
theorem lg_v (h : ¬ x = v) (e : T.filter (lbX v) = []) : (lgT T x v).filter (lbX v) = (T.filter (lbX x)).map (fun s => (v, s.2)) := by
  unfold lgT
  induction T with
  | nil => rfl
  | cons s T ih =>
    have nv : ¬ lLg s = v := fun z => by rw [lb_y z] at e; cases e
    rw [lb_n nv] at e
    rw [List.map_cons]
    by_cases q : lLg s = x
    · rw [if_pos q, lb_y (s := (v, s.2)) (x := v) rfl, lb_y q, List.map_cons, ih e]
    · rw [if_neg q, lb_n nv, lb_n q, ih e]
theorem LgR.emp (h : T.filter (lbX x) = []) : LgR T x e0L := by
  refine LF.g ?_
  rw [h]
  exact ⟨List.Perm.refl _, List.Pairwise.nil, Or.inl ⟨rfl, fun s hs => by cases hs⟩⟩
theorem LgR.nil (r : LgR T x A) (h : A.1 = []) : T.filter (lbX x) = [] := by
  have := r.1
  rw [h] at this
  exact List.map_eq_nil_iff.mp this.eq_nil
theorem LgR.lab (r : LgR T x A) (e : T.filter (lbX v) = []) (h : ¬ x = v) : LgR (lgT T x v) v A := by
  refine LF.g ?_
  rw [lg_v h e]
  obtain ⟨r1, r2, r3⟩ := r.f
  refine ⟨?_, r2, ?_⟩
  · rw [List.map_map]
    exact r1
  · rcases r3 with ⟨h1, h2⟩ | ⟨s, s1, s2, s3, s4⟩
    · refine Or.inl ⟨h1, fun t ht => ?_⟩
      obtain ⟨w, w1, w2⟩ := List.mem_map.mp ht
      subst w2
      exact h2 w w1
    · refine Or.inr ⟨(v, s.2), List.mem_map_of_mem s1, s2, s3, fun t ht ho => ?_⟩
      obtain ⟨w, w1, w2⟩ := List.mem_map.mp ht
      subst w2
      exact s4 w w1 ho
theorem LgR.lbo (r : LgR T x' A) (h1 : ¬ x' = x) (h2 : ¬ x' = v) : LgR (lgT T x v) x' A := by
  refine LF.g ?_
  rw [lg_o h1 h2]
  exact r.f
theorem KE.lg : KE T (lgT T x v) x := fun j hj n1 _ => ⟨by rw [lg_len]; exact hj, by rw [lg_at hj, lgE_n n1]⟩
theorem SP.lb (h : SP N s) (hv : ∀ i, i < 8 → ¬ v = nI i) : SP N (v, s.2) := ⟨h.1, h.2.1, h.2.2.1, h.2.2.2.1, fun i hi e => absurd e (hv i hi), h.2.2.2.2.2⟩
theorem lg_mem (h : s ∈ lgT T x v) : (∃ w ∈ T, lLg w = x ∧ s = (v, w.2)) ∨ (s ∈ T ∧ ¬ lLg s = x) := by
  unfold lgT at h
  obtain ⟨w, w1, w2⟩ := List.mem_map.mp h
  by_cases q : lLg w = x
  · rw [if_pos q] at w2
    exact Or.inl ⟨w, w1, q, w2.symm⟩
  · rw [if_neg q] at w2
    rw [← w2]
    exact Or.inr ⟨w1, q⟩
/-- a server that isn't touched -/
theorem MRs.kp (h : MRs μ j z) (hj : j < 8) (hi : i < 8) (nj : ¬ j = i) (hr : ∀ r k, ¬ r = 57 → ¬ r = 58 → ¬ r = 13 → (¬ r = 7 → ¬ k = i) → (r = 7 → ¬ k / 8 = i) → μ'.2.1 r k = μ.2.1 r k) (ke : KE μ.1 μ'.1 (nI i)) (l1 : ∀ B, LgR μ.1 (nI j) B → LgR μ'.1 (nI j) B) (l2 : ∀ B, LgR μ.1 (8 + nI j) B → LgR μ'.1 (8 + nI j) B) : MRs μ' j z := by
  obtain ⟨⟨a1, a2, a3, a4, a5, a6⟩, b, c, d, e⟩ := h
  have rr : ∀ r, ¬ r = 57 → ¬ r = 58 → ¬ r = 13 → ¬ r = 7 → μ'.2.1 r j = μ.2.1 r j := fun r z1 z2 z3 z4 => hr r j z1 z2 z3 (fun _ => nj) (fun q => absurd q z4)
  refine ⟨⟨(rr 5 (by decide) (by decide) (by decide) (by decide)).trans a1, (rr 6 (by decide) (by decide) (by decide) (by decide)).trans a2, (rr 8 (by decide) (by decide) (by decide) (by decide)).trans a3, (rr 9 (by decide) (by decide) (by decide) (by decide)).trans a4, (rr 11 (by decide) (by decide) (by decide) (by decide)).trans a5, (rr 12 (by decide) (by decide) (by decide) (by decide)).trans a6⟩, fun t ht => (hr 7 (8 * j + t) (by decide) (by decide) (by decide) (fun q => absurd rfl q) (fun _ => by omega)).trans (b t ht), ?_, l1 _ d, l2 _ e⟩
  exact HdR.ke (T' := μ'.1) (ρ := μ'.2.1) (ν := μ'.2.2) c ke hj hi nj (rr 10 (by decide) (by decide) (by decide) (by decide))
/-- SERVER i changes, its LOGS too; the Coordinator's things don't -/
theorem MR.sv (mr : MR y S μ) (hi : i < y 20) (el : S' = ((tSv S).set i z', S.2.1, S.2.2.1, S.2.2.2.1, S.2.2.2.2.1, c')) (hr : ∀ r k, (¬ r = 7 → ¬ k = i) → (r = 7 → ¬ k / 8 = i) → μ'.2.1 r k = μ.2.1 r k) (hr2 : ∀ r k, r = 57 ∨ r = 58 ∨ r = 13 → μ'.2.1 r k = μ.2.1 r k) (hν : ∀ k, ¬ k = 20 → μ'.2.2 k = μ.2.2 k) (h20 : μ'.2.2 20 = nI c') (ke : KE μ.1 μ'.1 (nI i)) (ms : MRs μ' i z') (ot : ∀ x' B, ¬ x' = nI i → ¬ x' = 8 + nI i → ¬ x' = 99 → LgR μ.1 x' B → LgR μ'.1 x' B) (sp : ∀ s ∈ μ'.1, SP (y 20) s) (lb : ∀ s ∈ μ'.1, lLg s = 99 ∨ lLg s = nI i ∨ lLg s = 8 + nI i ∨ LBl y μ (tDe S).length s) : MR y S' μ' := by
  subst el
  obtain ⟨⟨k0, k1, k2, k3, k4⟩, ⟨l1, l2, l3, l4⟩, ⟨n1, n2, n3, n4, n5, n6, n7, n8⟩, ow, sv, de, dd, s1, s2⟩ := mr
  have y8 := k0.1.2
  have nn : ∀ k, ¬ k = 20 → μ'.2.2 k = μ.2.2 k := hν
  refine ⟨⟨k0, (nn 0 (by decide)).trans k1, (nn 1 (by decide)).trans k2, (nn 2 (by decide)).trans k3, (nn 3 (by decide)).trans k4⟩, ⟨by show ((tSv S).set i _).length = _; rw [List.length_set]; exact l1, l2, l3, l4⟩, ⟨(nn 14 (by decide)).trans n1, (nn 16 (by decide)).trans n2, (nn 17 (by decide)).trans n3, (nn 19 (by decide)).trans n4, (nn 21 (by decide)).trans n5, (nn 18 (by decide)).trans n6, h20, (nn 56 (by decide)).trans n8⟩, fun t ht => (hr2 13 t (by omega)).trans (ow t ht), fun j hj => ?_, fun j hj => ?_, fun j k hj hk e => dd j k hj hk (by rw [hr2 57 j (by omega), hr2 57 k (by omega)] at e; exact e), sp, fun s hs => ?_⟩
  · show MRs _ j (((tSv S).set i z').getD j sr0)
    by_cases q : j = i
    · subst q
      have e : ((tSv S).set j z').getD j sr0 = z' := by
        rw [List.getD_eq_getElem?_getD, List.getElem?_set_self (by omega)]; rfl
      rw [e]
      exact ms
    · have e : ((tSv S).set i z').getD j sr0 = (tSv S).getD j sr0 := by
        rw [List.getD_eq_getElem?_getD, List.getElem?_set_ne (fun z => q z.symm), ← List.getD_eq_getElem?_getD]
      rw [e]
      have nj : ¬ nI j = nI i := fun z => q (nI_inj (by omega) (by omega) z)
      have a8 : ¬ nI j = 8 + nI i := fun z => by rw [n8_I] at z; have := nI_inj (by omega) (by omega) z; omega
      have b8 : ¬ 8 + nI j = nI i := fun z => by rw [n8_I] at z; have := nI_inj (by omega) (by omega) z; omega
      have c8 : ¬ 8 + nI j = 8 + nI i := fun z => by rw [n8_I, n8_I] at z; have := nI_inj (by omega) (by omega) z; omega
      exact (sv j hj).kp (by omega) (by omega) q (fun r k _ _ _ z4 z5 => hr r k z4 z5) ke (fun B => ot _ B nj a8 (nI_9 (by omega))) (fun B => ot _ B b8 c8 (by rw [n8_I]; exact nI_9 (by omega)))
  · obtain ⟨⟨e, e1, e2⟩, d2, d3⟩ := de j hj
    have e57 : μ'.2.1 57 j = μ.2.1 57 j := hr2 57 j (by omega)
    refine ⟨⟨e, e1, e57.trans e2⟩, fun t ht => (hr2 58 _ (by omega)).trans (d2 t ht), ?_⟩
    rw [e57]
    refine ot _ _ (fun z => ?_) (fun z => ?_) (fun z => ?_) d3
    · rw [e2, n16_I] at z; have := nI_inj (by omega) (by omega) z; omega
    · rw [e2, n16_I, n8_I] at z; have := nI_inj (by omega) (by omega) z; omega
    · rw [e2, n16_I] at z; exact nI_9 (by omega) z
  · rcases lb s hs with q | q | q | q | q | q | ⟨j, j1, j2⟩
    · exact Or.inl q
    · exact Or.inr (Or.inl ⟨i, hi, q⟩)
    · exact Or.inr (Or.inr (Or.inl ⟨i, hi, q⟩))
    · exact Or.inl q
    · exact Or.inr (Or.inl q)
    · exact Or.inr (Or.inr (Or.inl q))
    · exact Or.inr (Or.inr (Or.inr ⟨j, j1, by rw [hr2 57 j (by omega)]; exact j2⟩))
end DW
