/-! the two sides: what is LIVE; the class's way -/
def ntQ (k c a : Int32) (q : pT) : Bool := decide (pKd q = k) && decide (pCl q = c) && decide (pAc q = a)
def liveS (ps : List pT) (nms : List Nat) (l1 : List pT) (p : pT) : Int32 :=
  if pKd p = 2 then (if pVe p = verA ps (pKy p) then 1 else 0)
  else if pKd p = 3 then (if nms.any (fun n => decide (p.2 = nI n)) = true then 1 else 0)
  else if pKd p = 4 then (if pNu p < ackA ps (pCl p) then 0 else 1)
  else if ¬ pKd p = 1 then 0
  else if ¬ pAc p = ackA ps (pCl p) then 0
  else if (ps.any (ntQ 4 (pCl p) (pAc p)) || l1.any (ntQ 1 (pCl p) (pAc p))) = true then 0 else 1
def mrkS (ps : List pT) (nms : List Nat) : List pT → List pT → List Int32
  | _, [] => []
  | l1, p :: qs => liveS ps nms l1 p :: mrkS ps nms (l1 ++ [p]) qs
def lvF (ps : List pT) (nms : List Nat) : List pT → List pT → List pT
  | _, [] => []
  | l1, p :: qs => (if liveS ps nms l1 p = 0 then [] else [p]) ++ lvF ps nms (l1 ++ [p]) qs
def lvN (ps : List pT) (nms : List Nat) : List pT → List pT → Int32 → Int32
  | _, [], t => t
  | l1, p :: qs, t => lvN ps nms (l1 ++ [p]) qs (t + (if liveS ps nms l1 p = 0 then 0 else kU (pKd p)))
def mkB (ps : List pT) (nms : List Nat) : List pT → List agT → List (List Int32 × Int32)
  | _, [] => []
  | l1, u :: A => (mrkS ps nms l1 u.2.1, lvN ps nms l1 u.2.1 0) :: mkB ps nms (l1 ++ u.2.1) A
/-- clients and keys in their ranges -/
def PK (p : pT) : Prop := (¬ kT (pKd p) = 0 → ∃ c, c < 6 ∧ pCl p = nI c) ∧ (¬ kM (pKd p) = 0 → ∃ k, k < 64 ∧ pKy p = nI k)
def SJ (l : List pT) (S : saT) : Prop := (∀ c, c < 6 → S.1 c = ackA l (nI c) ∧ (S.2.1 c = 0 ↔ l.any (ntQ 4 (nI c) (ackA l (nI c))) = false)) ∧ ∀ k, k < 64 → S.2.2 k = verA l (nI k)
def SI (ps l1 : List pT) (S : saT) : Prop := (∀ c, c < 6 → S.1 c = ackA ps (nI c) ∧ (S.2.1 c = 0 ↔ (ps.any (ntQ 4 (nI c) (ackA ps (nI c))) || l1.any (ntQ 1 (nI c) (ackA ps (nI c)))) = false)) ∧ ∀ k, k < 64 → S.2.2 k = verA ps (nI k)
section LV
variable {ps qs l l1 : List pT} {p q : pT} {nms : List Nat} {c n a : Int32} {A : List agT} {u : agT} {S : saT}
theorem ntQ_t {k : Int32} : ntQ k c a q = true ↔ pKd q = k ∧ pCl q = c ∧ pAc q = a := by
  unfold ntQ
  rw [Bool.and_eq_true, Bool.and_eq_true, decide_eq_true_eq, decide_eq_true_eq, decide_eq_true_eq]
  exact ⟨fun h => ⟨h.1.1, h.1.2, h.2⟩, fun h => ⟨⟨h.1, h.2.1⟩, h.2.2⟩⟩
theorem kT_4 (h : pKd p = 4) : ¬ kT (pKd p) = 0 := by rw [h]; decide
theorem kT_1 (h : pKd p = 1) : ¬ kT (pKd p) = 0 := by rw [h]; decide
theorem ackG_ge (z : Int32) (p : pT) : z ≤ ackG c z p ∧ (¬ kT (pKd p) = 0 → pCl p = c → pAc p ≤ ackG c z p) := by
  unfold ackG
  by_cases q : kT (pKd p) = 0
  · rw [if_pos q]; exact ⟨Int32.le_refl _, fun z => absurd q z⟩
  · rw [if_neg q]
    by_cases q2 : pCl p = c
    · rw [if_neg (fun z => z q2)]
      have := mxI_le (pAc p) z
      unfold mxI at this
      exact ⟨this.1, fun _ _ => this.2⟩
    · rw [if_pos q2]; exact ⟨Int32.le_refl _, fun _ z => absurd z q2⟩
theorem ackF_ge : ∀ (ps : List pT) (z : Int32), z ≤ ps.foldl (ackG c) z ∧ ∀ p ∈ ps, ¬ kT (pKd p) = 0 → pCl p = c → pAc p ≤ ps.foldl (ackG c) z := by
  intro ps
  induction ps with
  | nil => intro z; exact ⟨Int32.le_refl _, fun _ h => by cases h⟩
  | cons a ps ih =>
    intro z
    rw [List.foldl_cons]
    obtain ⟨i1, i2⟩ := ih (ackG c z a)
    obtain ⟨g1, g2⟩ := ackG_ge (c := c) z a
    refine ⟨Int32.le_trans g1 i1, fun p hp k1 k2 => ?_⟩
    rcases List.mem_cons.mp hp with e | e
    · subst e; exact Int32.le_trans (g2 k1 k2) i1
    · exact i2 p e k1 k2
theorem ackA_ge (hp : p ∈ ps) (k1 : ¬ kT (pKd p) = 0) (k2 : pCl p = c) : pAc p ≤ ackA ps c := (ackF_ge ps 1).2 p hp k1 k2
theorem ackA_app : ackA (l ++ [p]) c = ackG c (ackA l c) p := by unfold ackA; rw [List.foldl_append]; rfl
theorem verA_app {k : Int32} : verA (l ++ [p]) k = verG k (verA l k) p := by unfold verA; rw [List.foldl_append]; rfl
theorem u1_n {α : Type} {f : Nat → α} {i j : Nat} {v : α} (h : ¬ j = i) : u1 f i v j = f j := by unfold u1; rw [if_neg h]
theorem u1_y {α : Type} {f : Nat → α} {i : Nat} {v : α} : u1 f i v i = v := by unfold u1; rw [if_pos rfl]
theorem any_app {f : pT → Bool} : (l ++ [p]).any f = (l.any f || f p) := by rw [List.any_append]; simp
theorem lrn_4 (h : SJ l S) (pk : PK p) : ∀ k, k < 64 → (lrnA S p).2.2 k = verA (l ++ [p]) (nI k) := by
  intro k hk
  have e : (la3 p (la2 p S)).2.2 = S.2.2 := by
    have e2 : (la2 p S).2.2 = S.2.2 := by
      unfold la2
      split
      · rfl
      · split <;> rfl
    generalize la2 p S = S2 at e2
    unfold la3
    split
    · exact e2
    · split <;> exact e2
  rw [verA_app, ← h.2 k hk]
  unfold lrnA la4 verG
  by_cases q : kM (pKd p) = 0
  · rw [if_pos q, if_pos q, e]
  · rw [if_neg q, if_neg q]
    obtain ⟨k0, hk0, ek⟩ := pk.2 q
    rw [ek, nI_clamp (by omega)]
    by_cases qk : k = k0
    · subst qk
      rw [e]
      by_cases q3 : pVe p ≤ S.2.2 k
      · rw [if_pos q3, if_neg (show ¬ ¬ nI k = nI k from fun z => z rfl), if_pos q3, e]
      · rw [if_neg q3, if_neg (show ¬ ¬ nI k = nI k from fun z => z rfl), if_neg q3]
        exact u1_y
    · have ne : ¬ nI k0 = nI k := fun z => qk (nI_inj (by omega) (by omega) z).symm
      rw [if_pos ne]
      split
      · rw [e]
      · show u1 (la3 p (la2 p S)).2.2 k0 _ k = _
        rw [u1_n qk, e]
theorem lrn_c (h : SJ l S) (pk : PK p) : ∀ c, c < 6 → (la3 p (la2 p S)).1 c = ackA (l ++ [p]) (nI c) ∧ ((la3 p (la2 p S)).2.1 c = 0 ↔ (l ++ [p]).any (ntQ 4 (nI c) (ackA (l ++ [p]) (nI c))) = false) := by
  intro c hc
  obtain ⟨h1, h2⟩ := h.1 c hc
  by_cases q : kT (pKd p) = 0
  · have n4 : ¬ pKd p = 4 := fun z => kT_4 z q
    have e : la3 p (la2 p S) = S := by unfold la3 la2; rw [if_pos n4, if_pos q]
    have ea : ackA (l ++ [p]) (nI c) = ackA l (nI c) := by rw [ackA_app]; unfold ackG; rw [if_pos q]
    have en : ntQ 4 (nI c) (ackA l (nI c)) p = false := Bool.eq_false_iff.mpr (fun z => n4 (ntQ_t.mp z).1)
    rw [e, ea, any_app, en, Bool.or_false]
    exact ⟨h1, h2⟩
  · obtain ⟨c0, hc0, ec⟩ := pk.1 q
    have cl : (pCl p).toNatClampNeg = c0 := by rw [ec]; exact nI_clamp (by omega)
    obtain ⟨h3, h4⟩ := h.1 c0 hc0
    by_cases qc : c = c0
    · subst qc
      by_cases q2 : pAc p ≤ S.1 c
      · have e2 : la2 p S = S := by unfold la2; rw [if_neg q, cl, if_pos q2]
        have ea : ackA (l ++ [p]) (nI c) = ackA l (nI c) := by
          rw [ackA_app]; unfold ackG; rw [if_neg q, if_neg (fun z => z ec), ← h1, if_pos q2]
        rw [e2, ea, any_app]
        by_cases q4 : pKd p = 4
        · by_cases q5 : pAc p = S.1 c
          · have e3 : la3 p S = (S.1, u1 S.2.1 c 1, S.2.2) := by unfold la3; rw [if_neg (fun z => z q4), cl, if_neg (fun z => z q5)]
            rw [e3]
            have en : ntQ 4 (nI c) (ackA l (nI c)) p = true := ntQ_t.mpr ⟨q4, ec, by rw [q5, h1]⟩
            rw [en, Bool.or_true]
            refine ⟨h1, fun z => ?_, fun z => absurd z (by decide)⟩
            have z : u1 S.2.1 c 1 c = 0 := z
            rw [u1_y] at z
            exact absurd z (by decide)
          · have e3 : la3 p S = S := by unfold la3; rw [if_neg (fun z => z q4), cl, if_pos q5]
            have en : ntQ 4 (nI c) (ackA l (nI c)) p = false := Bool.eq_false_iff.mpr (fun z => q5 (by rw [h1]; exact (ntQ_t.mp z).2.2))
            rw [e3, en, Bool.or_false]
            exact ⟨h1, h2⟩
        · have e3 : la3 p S = S := by unfold la3; rw [if_pos q4]
          have en : ntQ 4 (nI c) (ackA l (nI c)) p = false := Bool.eq_false_iff.mpr (fun z => q4 (ntQ_t.mp z).1)
          rw [e3, en, Bool.or_false]
          exact ⟨h1, h2⟩
      · have e2 : la2 p S = (u1 S.1 c (pAc p), u1 S.2.1 c 0, S.2.2) := by unfold la2; rw [if_neg q, cl, if_neg q2]
        have ea : ackA (l ++ [p]) (nI c) = pAc p := by
          rw [ackA_app]; unfold ackG; rw [if_neg q, if_neg (fun z => z ec), ← h1, if_neg q2]
        have none_ : l.any (ntQ 4 (nI c) (pAc p)) = false := by
          refine Bool.eq_false_iff.mpr (fun z => ?_)
          obtain ⟨r, r1, r2⟩ := List.any_eq_true.mp z
          obtain ⟨r3, r4, r5⟩ := ntQ_t.mp r2
          have := ackA_ge r1 (kT_4 r3) r4
          rw [r5, ← h1] at this
          exact q2 this
        rw [e2, ea, any_app, none_, Bool.false_or]
        by_cases q4 : pKd p = 4
        · have e3 : la3 p (u1 S.1 c (pAc p), u1 S.2.1 c 0, S.2.2) = (u1 S.1 c (pAc p), u1 (u1 S.2.1 c 0) c 1, S.2.2) := by
            unfold la3
            rw [if_neg (fun z => z q4), cl]
            show (if ¬ pAc p = u1 S.1 c (pAc p) c then _ else _) = _
            rw [u1_y, if_neg (fun z => z rfl)]
          rw [e3, ntQ_t.mpr ⟨q4, ec, rfl⟩]
          refine ⟨u1_y, fun z => ?_, fun z => absurd z (by decide)⟩
          have z : u1 (u1 S.2.1 c 0) c 1 c = 0 := z
          rw [u1_y] at z
          exact absurd z (by decide)
        · have e3 : la3 p (u1 S.1 c (pAc p), u1 S.2.1 c 0, S.2.2) = (u1 S.1 c (pAc p), u1 S.2.1 c 0, S.2.2) := by unfold la3; rw [if_pos q4]
          rw [e3, Bool.eq_false_iff.mpr (fun z => q4 (ntQ_t.mp z).1)]
          exact ⟨u1_y, fun _ => rfl, fun _ => u1_y⟩
    · have ne : ¬ pCl p = nI c := fun z => qc (nI_inj (by omega) (by omega) (ec.symm.trans z)).symm
      have ea : ackA (l ++ [p]) (nI c) = ackA l (nI c) := by rw [ackA_app]; unfold ackG; rw [if_neg q, if_pos ne]
      have en : ntQ 4 (nI c) (ackA l (nI c)) p = false := Bool.eq_false_iff.mpr (fun z => ne (ntQ_t.mp z).2.1)
      have e1 : (la3 p (la2 p S)).1 c = S.1 c ∧ (la3 p (la2 p S)).2.1 c = S.2.1 c := by
        have e2 : (la2 p S).1 c = S.1 c ∧ (la2 p S).2.1 c = S.2.1 c := by
          unfold la2
          rw [if_neg q, cl]
          split
          · exact ⟨rfl, rfl⟩
          · exact ⟨u1_n qc, u1_n qc⟩
        unfold la3
        rw [cl]
        split
        · exact e2
        · split
          · exact e2
          · exact ⟨e2.1, (u1_n qc).trans e2.2⟩
      rw [e1.1, e1.2, ea, any_app, en, Bool.or_false]
      exact ⟨h1, h2⟩
theorem lrn_s (h : SJ l S) (pk : PK p) : SJ (l ++ [p]) (lrnA S p) := by
  refine ⟨fun c hc => ?_, lrn_4 h pk⟩
  have e : (lrnA S p).1 = (la3 p (la2 p S)).1 ∧ (lrnA S p).2.1 = (la3 p (la2 p S)).2.1 := by
    unfold lrnA la4
    split
    · exact ⟨rfl, rfl⟩
    · split <;> exact ⟨rfl, rfl⟩
  rw [e.1, e.2]
  exact lrn_c h pk c hc
theorem lrn_all (pk : ∀ p ∈ l, PK p) : SJ l (l.foldl lrnA b0A) := by
  have : ∀ (l l0 : List pT) (S : saT), SJ l0 S → (∀ p ∈ l, PK p) → SJ (l0 ++ l) (l.foldl lrnA S) := by
    intro l
    induction l with
    | nil => intro l0 S h _; rw [List.append_nil]; exact h
    | cons a l ih =>
      intro l0 S h hp
      have := ih (l0 ++ [a]) _ (lrn_s h (hp a List.mem_cons_self)) (fun p hp' => hp p (List.mem_cons_of_mem _ hp'))
      rw [List.append_assoc] at this
      exact this
  exact this l [] b0A ⟨fun c _ => ⟨rfl, fun _ => rfl, fun _ => rfl⟩, fun k _ => rfl⟩ pk
end LV
