/-! the two sides: all of the store -/
def lgO (o : Option alT) : alT := o.getD ([], none, none)
def HdR (μ : mT) (i : Nat) (h : Option Nat) : Prop := (h = none ∧ μ.2.1 10 i = -1) ∨ ∃ k, k < μ.1.length ∧ μ.2.1 10 i = nI k ∧ lLg (μ.1.getD k sl0) = nI i ∧ h = some (lNm (μ.1.getD k sl0))
def MRs (μ : mT) (i : Nat) (x : srA) : Prop := (μ.2.1 5 i = sSt x ∧ μ.2.1 6 i = sFe x ∧ μ.2.1 8 i = sLo x ∧ μ.2.1 9 i = sSf x ∧ μ.2.1 11 i = sMi x ∧ μ.2.1 12 i = sCu x) ∧ (∀ t, t < 8 → μ.2.1 7 (8 * i + t) = shrB (sTb x) (nI t)) ∧ HdR μ i (sLg x).2.1 ∧ LgR μ.1 (nI i) (sLg x) ∧ LgR μ.1 (8 + nI i) (lgO (sLL x))
def MRd (μ : mT) (j : Nat) (d : alT × Int32) : Prop := (∃ e, e < 16 ∧ μ.2.1 57 j = 16 + nI e) ∧ (∀ t, t < 8 → μ.2.1 58 (8 * j + t) = shrB d.2 (nI t)) ∧ LgR μ.1 (μ.2.1 57 j) d.1
/-- a slot as it must be -/
def SP (N : Nat) (s : slT) : Prop := (∀ z ∈ lHo s, z.2 ≤ (lEn s).length) ∧ lNm s ≤ 100000 ∧ EV (lEn s) ∧ (((lHo s).map (·.1)).Nodup ∧ (∀ z ∈ lHo s, z.1 < N) ∧ (lHo s).length < 8) ∧ (∀ i, i < 8 → lLg s = nI i → ∀ z ∈ lHo s, ¬ z.1 = i) ∧ (lEn s).length ≤ 16
def LBl (y : Nat → Nat) (μ : mT) (dl : Nat) (s : slT) : Prop := lLg s = 99 ∨ (∃ i, i < y 20 ∧ lLg s = nI i) ∨ (∃ i, i < y 20 ∧ lLg s = 8 + nI i) ∨ ∃ j, j < dl ∧ lLg s = μ.2.1 57 j
def MRn (S : stA) (μ : mT) : Prop := μ.2.2 14 = tAw S ∧ μ.2.2 16 = nI (tNm S) ∧ μ.2.2 17 = tCl S ∧ μ.2.2 19 = tAp S ∧ μ.2.2 21 = tMe S ∧ μ.2.2 18 = nI (tDs S) ∧ μ.2.2 20 = nI (tFo S) ∧ μ.2.2 56 = nI (tDe S).length
def MR (y : Nat → Nat) (S : stA) (μ : mT) : Prop := MK0 y μ ∧ ((tSv S).length = y 20 ∧ (tOw S).length = 8 ∧ (tDe S).length ≤ 16 ∧ tNm S ≤ 80000) ∧ MRn S μ ∧ (∀ t, t < 8 → μ.2.1 13 t = (tOw S).getD t 0) ∧ (∀ i, i < y 20 → MRs μ i ((tSv S).getD i sr0)) ∧ (∀ j, j < (tDe S).length → MRd μ j ((tDe S).getD j d0A)) ∧ (∀ j k, j < (tDe S).length → k < (tDe S).length → μ.2.1 57 j = μ.2.1 57 k → j = k) ∧ (∀ s ∈ μ.1, SP (y 20) s) ∧ ∀ s ∈ μ.1, LBl y μ (tDe S).length s
section MRS
variable {T T' : List slT} {x x' c n : Int32} {A A' B : alT} {st : Nat → Int32} {k e i j N U rep nm m up : Nat} {s s' : slT} {hd : Option Nat} {y : Nat → Nat} {S S' : stA} {μ μ' : mT} {hs : List (Nat × Nat)}
theorem SP.ho (h : ∀ s ∈ T, SP N s) : HOl T := fun s hs => (h s hs).1
theorem SP.nb (h : ∀ s ∈ T, SP N s) : NB T := fun s hs => (h s hs).2.1
theorem SP.ev (h : ∀ s ∈ T, SP N s) : EVT T := fun s hs => (h s hs).2.2.1
theorem cln_P {P : slT → Prop} (hg : ∀ s, P s → P (goS s)) (hU : U ≤ 16) (l16 : ∀ s ∈ T, (lEn s).length ≤ 16) (hN : ∀ ps : List pT, ps.length ≤ 16 → (∀ p ∈ ps, ∃ s ∈ T, lLg s = nI m ∧ p ∈ enS (lEn s)) → P (ps.foldl cmP (nI m, nm, false, [], nsM st N rep nm m (N - 1)))) (h : ∀ s ∈ T, P s) (r : LgR T (nI m) A) (nb : NB T) : ∀ s ∈ (clnM st N U rep nm m T).1, P s := by
  obtain ⟨g1, g2⟩ := clG_p (st := st) r nb
  unfold clnM clnT
  generalize clG st T (nI m) (chL T (nI m)) = G at g1 g2
  have lG : ∀ k ∈ G.take (mZ st T G), k < T.length := fun k hk => (g2 k (List.mem_of_mem_take hk)).1
  split
  · refine goL_mem hg _ _ (fun s hs => ?_) (fun k hk => ?_)
    · rcases nw_mem hs with z | z
      · exact goL_mem hg _ _ h lG s z
      · rw [z]
        refine hN _ (pk_cap hU (fun k hk => l16 _ (T_at (g2 k hk).1))) (fun p hp => ?_)
        obtain ⟨k, k1, k2⟩ := List.mem_flatMap.mp hp
        exact ⟨_, T_at (g2 k (List.mem_of_mem_drop (pk_mem k k1))).1, (g2 k (List.mem_of_mem_drop (pk_mem k k1))).2.1, liP_mem k2⟩
    · have k1 := (g2 k (List.mem_of_mem_drop (pk_mem k hk))).1
      unfold nwT
      split
      · rw [List.length_set, goL_len]; exact k1
      · rw [List.length_append, goL_len]; omega
  · exact goL_mem hg _ _ h lG
theorem SP.go (h : SP N s) : SP N (goS s) := ⟨h.1, h.2.1, h.2.2.1, h.2.2.2.1, (fun i hi e => by
  have e : (99 : Int32) = nI i := e
  have := nI_inj (a := 99) (b := i) (by omega) (by omega) e
  omega), h.2.2.2.2.2⟩
/-- a new slot as it must be -/
theorem SP.new (h4 : 4 ≤ N) (h8 : N ≤ 8) (hm : m < N) (hr : rep ≤ 3) (hnm : nm ≤ 90000) {ps : List pT} {o : Bool} (hl : ps.length ≤ 16) (hp : ∀ p ∈ ps, ¬ pKd p = -1) : SP N (nI m, nm, o, ps.map (fun p => (p, none)), (nsM st N rep nm m (N - 1)).map (fun x => (x.1, ps.length))) := by
  obtain ⟨s1, s2, s3⟩ := ns_p (st := st) (rep := rep) (nm := nm) h4 h8 hm
  have rg := ns_G (st := st) (rep := rep) (nm := nm) h4 h8 hm
  have ok := ns_ok (st := st) (N := N) (rep := rep) (rgL N ((7 * nm + 3 * m) % N) 0 N m) [] (by
    rw [List.map_nil, List.nil_append]
    exact rgL_nd N (by omega) h4 _ (Nat.mod_lt _ (by omega)) m hm) (fun x hx => by cases hx) (fun v hv => ((rgL_len (by omega) hm _ _).2 v hv).1) (fun x hx => by cases hx) (Nat.zero_le _)
  rw [← rg] at ok
  have mm : ∀ {z : Nat × Nat}, z ∈ (nsM st N rep nm m (N - 1)).map (fun x => (x.1, ps.length)) → ∃ w ∈ nsM st N rep nm m (N - 1), z.1 = w.1 ∧ z.2 = ps.length := fun hz => by
    obtain ⟨w, w1, w2⟩ := List.mem_map.mp hz
    subst w2
    exact ⟨w, w1, rfl, rfl⟩
  refine ⟨fun z hz => ?_, by show nm ≤ 100000; omega, ⟨fun e he q hq => ?_, fun p hp' => ?_⟩, ⟨?_, fun z hz => ?_, ?_⟩, fun i hi e z hz => ?_, by show (ps.map _).length ≤ 16; rw [List.length_map]; exact hl⟩
  · obtain ⟨w, -, -, w2⟩ := mm hz
    rw [w2]
    show ps.length ≤ (ps.map _).length
    rw [List.length_map]; exact Nat.le_refl _
  · obtain ⟨p, -, hp'⟩ := List.mem_map.mp he
    subst hp'
    cases hq
  · have hp' : p ∈ enS (ps.map (fun p => (p, none))) := hp'
    rw [enS_1] at hp'
    exact hp p hp'
  · show ((List.map (fun x : Nat × Nat => (x.1, ps.length)) _).map (fun x : Nat × Nat => x.1)).Nodup
    rw [List.map_map]; exact s1
  · obtain ⟨w, w1, w2, -⟩ := mm hz
    rw [w2]; exact (s2 w w1).2
  · show (List.map _ _).length < 8
    rw [List.length_map]; omega
  · obtain ⟨w, w1, w2, -⟩ := mm hz
    have em : m = i := nI_inj (by omega) (by omega) e
    rw [w2, ← em]
    rcases ok.2.2.2 w w1 with q | q
    · cases q
    · exact ((rgL_len (by omega) hm _ _).2 _ q.1).2
theorem nI_9 (h : m < 99) : ¬ nI m = 99 := fun z => by
  have := nI_inj (a := m) (b := 99) (by omega) (by omega) z
  omega
theorem n8_I (i : Nat) : (8 : Int32) + nI i = nI (8 + i) := by rw [show (8 : Int32) = nI 8 from rfl, nI_add]
theorem n16_I (i : Nat) : (16 : Int32) + nI i = nI (16 + i) := by rw [show (16 : Int32) = nI 16 from rfl, nI_add]
/-- SERVER i's LOG changes, and names, CLEANINGS, what is written and mended -/
theorem MR.log (mr : MR y S μ) (hi : i < y 20) {ρ : Nat → Nat → Int32} {ν : Nat → Int32} {cl ap me : Int32} (el : S' = ((tSv S).set i (stLg ((tSv S).getD i sr0) A'), (tAw S, nm, cl, ap, me), S.2.2)) (hρ : ∀ r k, ¬ (r = 10 ∧ k = i) → ρ r k = μ.2.1 r k) (hν : ∀ k, ¬ k = 16 → ¬ k = 17 → ¬ k = 19 → ¬ k = 21 → ν k = μ.2.2 k) (h16 : ν 16 = nI nm) (h17 : ν 17 = cl) (h19 : ν 19 = ap) (h21 : ν 21 = me) (hnm : nm ≤ 80000) (lr : LgR T' (nI i) A') (ot : ∀ x' B, ¬ x' = nI i → ¬ x' = 99 → LgR μ.1 x' B → LgR T' x' B) (hh : HdR (T', ρ, ν) i A'.2.1) (sp : ∀ s ∈ T', SP (y 20) s) (lb : ∀ s ∈ T', lLg s = nI i ∨ LBl y μ (tDe S).length s) (hdo : ∀ j, ¬ j = i → j < y 20 → ∀ h, HdR μ j h → HdR (T', ρ, ν) j h) : MR y S' (T', ρ, ν) := by
  subst el
  obtain ⟨⟨k0, k1, k2, k3, k4⟩, ⟨l1, l2, l3, l4⟩, ⟨n1, n2, n3, n4, n5, n6, n7, n8⟩, ow, sv, de, dd, s1, s2⟩ := mr
  have y8 := k0.1.2
  refine ⟨⟨k0, (hν 0 (by decide) (by decide) (by decide) (by decide)).trans k1, (hν 1 (by decide) (by decide) (by decide) (by decide)).trans k2, (hν 2 (by decide) (by decide) (by decide) (by decide)).trans k3, (hν 3 (by decide) (by decide) (by decide) (by decide)).trans k4⟩, ⟨by show ((tSv S).set i _).length = _; rw [List.length_set]; exact l1, l2, l3, hnm⟩, ⟨(hν 14 (by decide) (by decide) (by decide) (by decide)).trans n1, h16, h17, h19, h21, (hν 18 (by decide) (by decide) (by decide) (by decide)).trans n6, (hν 20 (by decide) (by decide) (by decide) (by decide)).trans n7, (hν 56 (by decide) (by decide) (by decide) (by decide)).trans n8⟩, fun t ht => ?_, fun j hj => ?_, fun j hj => ?_, fun j k hj hk e => ?_, sp, fun s hs => ?_⟩
  · rw [show (T', ρ, ν).2.1 13 t = ρ 13 t from rfl, hρ 13 t (by omega)]; exact ow t ht
  · have n99 : ¬ (8 + nI j : Int32) = 99 := by rw [n8_I]; exact nI_9 (by omega)
    have nij : ¬ (8 + nI j : Int32) = nI i := fun z => by
      rw [n8_I] at z
      have := nI_inj (by omega) (by omega) z
      omega
    obtain ⟨a1, a2, a3, a4, a5⟩ := sv j hj
    have rr : ∀ r k, ¬ r = 10 → (T', ρ, ν).2.1 r k = μ.2.1 r k := fun r k h => hρ r k (fun z => h z.1)
    by_cases q : j = i
    · subst q
      have e : ((tSv S).set j (stLg ((tSv S).getD j sr0) A')).getD j sr0 = stLg ((tSv S).getD j sr0) A' := by
        rw [List.getD_eq_getElem?_getD, List.getElem?_set_self (by omega)]; rfl
      show MRs _ j (((tSv S).set j (stLg ((tSv S).getD j sr0) A')).getD j sr0)
      rw [e]
      refine ⟨by rw [rr _ _ (by decide), rr _ _ (by decide), rr _ _ (by decide), rr _ _ (by decide), rr _ _ (by decide), rr _ _ (by decide)]; exact a1, fun t ht => by rw [rr _ _ (by decide)]; exact a2 t ht, hh, lr, ot _ _ nij n99 a5⟩
    · have e : ((tSv S).set i (stLg ((tSv S).getD i sr0) A')).getD j sr0 = (tSv S).getD j sr0 := by
        rw [List.getD_eq_getElem?_getD, List.getElem?_set_ne (fun z => q z.symm), ← List.getD_eq_getElem?_getD]
      show MRs _ j (((tSv S).set i (stLg ((tSv S).getD i sr0) A')).getD j sr0)
      rw [e]
      have nj : ¬ nI j = nI i := fun z => q (nI_inj (by omega) (by omega) z)
      exact ⟨by rw [rr _ _ (by decide), rr _ _ (by decide), rr _ _ (by decide), rr _ _ (by decide), rr _ _ (by decide), rr _ _ (by decide)]; exact a1, fun t ht => by rw [rr _ _ (by decide)]; exact a2 t ht, hdo j q hj _ a3, ot _ _ nj (nI_9 (by omega)) a4, ot _ _ nij n99 a5⟩
  · obtain ⟨⟨e, e1, e2⟩, d2, d3⟩ := de j hj
    have e57 : (T', ρ, ν).2.1 57 j = μ.2.1 57 j := hρ 57 j (by omega)
    refine ⟨⟨e, e1, by rw [e57]; exact e2⟩, fun t ht => by rw [show (T', ρ, ν).2.1 58 (8 * j + t) = ρ 58 (8 * j + t) from rfl, hρ 58 _ (by omega)]; exact d2 t ht, ?_⟩
    rw [e57]
    refine ot _ _ (fun z => ?_) (fun z => ?_) d3
    · rw [e2, n16_I] at z
      have := nI_inj (by omega) (by omega) z
      omega
    · rw [e2, n16_I] at z
      exact nI_9 (by omega) z
  · rw [show (T', ρ, ν).2.1 57 j = ρ 57 j from rfl, show (T', ρ, ν).2.1 57 k = ρ 57 k from rfl, hρ 57 j (by omega), hρ 57 k (by omega)] at e
    exact dd j k hj hk e
  · rcases lb s hs with q | q
    · exact Or.inr (Or.inl ⟨i, hi, q⟩)
    · rcases q with q | q | q | ⟨j, j1, j2⟩
      · exact Or.inl q
      · exact Or.inr (Or.inl q)
      · exact Or.inr (Or.inr (Or.inl q))
      · exact Or.inr (Or.inr (Or.inr ⟨j, j1, by rw [show (T', ρ, ν).2.1 57 j = ρ 57 j from rfl, hρ 57 j (by omega)]; exact j2⟩))
end MRS
