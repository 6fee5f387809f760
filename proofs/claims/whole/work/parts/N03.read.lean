/-! the two sides: what is read of a LOG -/
def mxI (a z : Int32) : Int32 := if a ≤ z then z else a
section RD
variable {T : List slT} {x c n ky : Int32} {A : alT} {st : Nat → Int32} {μ : mT} {k : Nat} {s : slT}
theorem mxI_t (a z : Int32) : (mxI a z).toInt = max a.toInt z.toInt := by
  unfold mxI
  by_cases q : a ≤ z
  · rw [if_pos q]
    have := Int32.le_iff_toInt_le.mp q
    omega
  · rw [if_neg q]
    have := Int32.lt_iff_toInt_lt.mp (Int32.not_le.mp q)
    omega
theorem mxI_c (a b z : Int32) : mxI b (mxI a z) = mxI a (mxI b z) := by
  apply Int32.toInt_inj.mp
  rw [mxI_t, mxI_t, mxI_t, mxI_t]
  omega
theorem mx_comm {α : Type} {f : Int32 → α → Int32} (g : α → Bool) (v : α → Int32) (h1 : ∀ z a, g a = true → f z a = mxI (v a) z) (h2 : ∀ z a, g a = false → f z a = z) (z : Int32) (a b : α) : f (f z a) b = f (f z b) a := by
  cases ga : g a with
  | true =>
    cases gb : g b with
    | true => rw [h1 z a ga, h1 _ b gb, h1 z b gb, h1 _ a ga, mxI_c]
    | false => rw [h1 z a ga, h2 _ b gb, h2 z b gb, h1 _ a ga]
  | false =>
    cases gb : g b with
    | true => rw [h2 z a ga, h1 _ b gb, h2 _ a ga]
    | false => rw [h2 z a ga, h2 _ b gb, h2 _ a ga]
theorem kd_1 {k v w : Int32} (h : w = v + 1) : k + 1 = w ↔ k = v := by
  subst h
  constructor
  · intro q
    have := congrArg (· - 1) q
    simpa using this
  · intro q; rw [q]
theorem kT_n {k : Int32} : kT k = 0 ↔ ¬ (k = 4 ∨ k = 1) := by
  unfold kT
  by_cases q : k = 4 ∨ k = 1
  · rw [if_pos q]; exact ⟨fun z => absurd z (by decide), fun z => absurd q z⟩
  · rw [if_neg q]; exact ⟨fun _ => q, fun _ => rfl⟩
theorem kM_n {k : Int32} : kM k = 0 ↔ ¬ (k = 2 ∨ k = 3) := by
  unfold kM
  by_cases q : k = 2 ∨ k = 3
  · rw [if_pos q]; exact ⟨fun z => absurd z (by decide), fun z => absurd q z⟩
  · rw [if_neg q]; exact ⟨fun _ => q, fun _ => rfl⟩
theorem ackM_G (b : Int32) (k e i : Nat) (p : pT) : ackM c b k e i (mPt p) = ackG c b p := by
  unfold ackM ackG
  show (if ¬ (pKd p + 1 = 2 ∨ pKd p + 1 = 5) then b else if ¬ (if kT (pKd p) = 0 then 0 else pCl p) = c then b else if pAc p ≤ b then b else pAc p) = _
  by_cases q : kT (pKd p) = 0
  · have e0 : ¬ (pKd p + 1 = 2 ∨ pKd p + 1 = 5) := fun z => kT_n.mp q (z.elim (fun a => Or.inr ((kd_1 (v := 1) (by decide)).mp a)) (fun a => Or.inl ((kd_1 (v := 4) (by decide)).mp a)))
    rw [if_pos e0]
    exact (if_pos q).symm
  · have e1 : pKd p + 1 = 2 ∨ pKd p + 1 = 5 := by
      rcases Decidable.not_not.mp (fun z => q (kT_n.mpr z)) with a | a
      · exact Or.inr ((kd_1 (v := 4) (by decide)).mpr a)
      · exact Or.inl ((kd_1 (v := 1) (by decide)).mpr a)
    rw [if_neg (fun z => z e1), if_neg q, if_neg q]
theorem verM_G (b : Int32) (k e i : Nat) (p : pT) : verM ky b k e i (mPt p) = verG ky b p := by
  unfold verM verG
  show (if ¬ (pKd p + 1 = 3 ∨ pKd p + 1 = 4) then b else if ¬ (if pKd p = 0 ∨ pKd p = 1 then 0 else pKy p) = ky then b else if pVe p ≤ b then b else pVe p) = _
  by_cases q : kM (pKd p) = 0
  · have e0 : ¬ (pKd p + 1 = 3 ∨ pKd p + 1 = 4) := fun z => kM_n.mp q (z.elim (fun a => Or.inl ((kd_1 (v := 2) (by decide)).mp a)) (fun a => Or.inr ((kd_1 (v := 3) (by decide)).mp a)))
    rw [if_pos e0]
    exact (if_pos q).symm
  · have q' : pKd p = 2 ∨ pKd p = 3 := Decidable.not_not.mp (fun z => q (kM_n.mpr z))
    have e1 : pKd p + 1 = 3 ∨ pKd p + 1 = 4 := q'.elim (fun a => Or.inl ((kd_1 (v := 2) (by decide)).mpr a)) (fun a => Or.inr ((kd_1 (v := 3) (by decide)).mpr a))
    have e2 : ¬ (pKd p = 0 ∨ pKd p = 1) := fun z => by rcases q' with a | a <;> rw [a] at z <;> rcases z with z | z <;> exact absurd z (by decide)
    rw [if_neg (fun z => z e1), if_neg e2, if_neg q]
theorem ackG_c (z : Int32) (p q : pT) : ackG c (ackG c z p) q = ackG c (ackG c z q) p := by
  refine mx_comm (f := ackG c) (fun p => decide (¬ kT (pKd p) = 0 ∧ pCl p = c)) pAc (fun z a h => ?_) (fun z a h => ?_) z p q
  · have h := of_decide_eq_true h
    unfold ackG mxI
    rw [if_neg h.1, if_neg (fun z => z h.2)]
  · have h := of_decide_eq_false h
    unfold ackG
    by_cases q : kT (pKd a) = 0
    · rw [if_pos q]
    · rw [if_neg q, if_pos (fun e => h ⟨q, e⟩)]
theorem verG_c (z : Int32) (p q : pT) : verG ky (verG ky z p) q = verG ky (verG ky z q) p := by
  refine mx_comm (f := verG ky) (fun p => decide (¬ kM (pKd p) = 0 ∧ pKy p = ky)) pVe (fun z a h => ?_) (fun z a h => ?_) z p q
  · have h := of_decide_eq_true h
    unfold verG mxI
    rw [if_neg h.1, if_neg (fun z => z h.2)]
  · have h := of_decide_eq_false h
    unfold verG
    by_cases q : kM (pKd a) = 0
    · rw [if_pos q]
    · rw [if_neg q, if_pos (fun e => h ⟨q, e⟩)]
theorem grG_c (z : Int32) (p q : pT) : grG (grG z p) q = grG (grG z q) p := by
  refine mx_comm (f := grG) (fun _ => true) pVe (fun z a _ => rfl) (fun z a h => by cases h) z p q
theorem ackA_perm {l l' : List pT} (h : l.Perm l') : ackA l c = ackA l' c := h.foldl_eq' (fun a _ b _ z => ackG_c z a b) 1
theorem verA_perm {l l' : List pT} (h : l.Perm l') : verA l ky = verA l' ky := h.foldl_eq' (fun a _ b _ z => verG_c z a b) 0
theorem find_perm {α : Type} {p : α → Bool} : ∀ {l l' : List α}, l.Perm l' → (∀ a b, a ∈ l → b ∈ l → p a = true → p b = true → a = b) → l.find? p = l'.find? p := by
  intro l l' h u
  cases e : l.find? p with
  | none =>
    rw [List.find?_eq_none] at e
    exact (List.find?_eq_none.mpr (fun a ha => e a (h.mem_iff.mpr ha))).symm
  | some a =>
    cases e' : l'.find? p with
    | none =>
      rw [List.find?_eq_none] at e'
      exact absurd (List.find?_some e) (e' a (h.mem_iff.mp (List.mem_of_find?_eq_some e)))
    | some b => rw [u a b (List.mem_of_find?_eq_some e) (h.mem_iff.mpr (List.mem_of_find?_eq_some e')) (List.find?_some e) (List.find?_some e')]
/-- what a slot has, its HOLDERS have no more of -/
def HOl (T : List slT) : Prop := ∀ s ∈ T, ∀ z ∈ lHo s, z.2 ≤ (lEn s).length
theorem mst_le {m : Nat} : ∀ (l : List (Nat × Nat)) (b : Nat), b ≤ m → (∀ z ∈ l, z.2 ≤ m) → l.foldl (mstU st) b ≤ m := by
  intro l
  induction l with
  | nil => intro b hb _; exact hb
  | cons a l ih =>
    intro b hb hl
    refine ih _ ?_ (fun z hz => hl z (List.mem_cons_of_mem _ hz))
    unfold mstU
    split
    · exact hl a List.mem_cons_self
    · exact hb
theorem th_le (ho : HOl T) : ∀ k, k < T.length → thT st T k ≤ (lEn (T.getD k sl0)).length := by
  intro k hk
  unfold thT
  split
  · exact Nat.le_refl _
  · split
    · exact Nat.le_refl _
    · exact mst_le _ 0 (Nat.zero_le _) (ho _ (T_at hk))
theorem LgR.acG (r : LgR μ.1 x A) (ho : HOl μ.1) : acM μ x c = ackA (rdQ (μ.2.1 5) μ.1 x A.2.2) c := by
  unfold acM
  rw [tF_flat (f := ackM c) (f' := fun b r => ackM c b 0 0 0 r) (fun _ _ _ _ _ => rfl) (fun b r q => by unfold ackM; rw [if_pos (by rw [q]; decide)]) (th_le ho), r.fl]
  have : (fun b p => ackM c b 0 0 0 (mPt p)) = ackG c := funext fun b => funext fun p => ackM_G b 0 0 0 p
  rw [this]; rfl
theorem LgR.veG (r : LgR T x A) (ho : HOl T) : tFold (verM ky) (thT st T) T x 0 = verA (rdQ st T x A.2.2) ky := by
  rw [tF_flat (f := verM ky) (f' := fun b r => verM ky b 0 0 0 r) (fun _ _ _ _ _ => rfl) (fun b r q => by unfold verM; rw [if_pos (by rw [q]; decide)]) (th_le ho), r.fl]
  have : (fun b p => verM ky b 0 0 0 (mPt p)) = verG ky := funext fun b => funext fun p => verM_G b 0 0 0 p
  rw [this]; rfl
theorem LgR.gtG (r : LgR μ.1 x A) (ho : HOl μ.1) (hk : ∀ p ∈ rdQ (μ.2.1 5) μ.1 x A.2.2, ¬ pKd p = -1) : grM μ x = (rdQ (μ.2.1 5) μ.1 x A.2.2).foldl grG 0 := by
  unfold grM
  rw [tF_flat (f := greM) (f' := fun b r => greM b 0 0 0 r) (fun _ _ _ _ _ => rfl) (fun b r q => by unfold greM; rw [if_pos q]) (th_le ho), r.fl]
  generalize rdQ (μ.2.1 5) μ.1 x A.2.2 = l at hk
  have : ∀ (l : List pT) (b : Int32), (∀ p ∈ l, ¬ pKd p = -1) → l.foldl (fun b p => greM b 0 0 0 (mPt p)) b = l.foldl grG b := by
    intro l
    induction l with
    | nil => intro b _; rfl
    | cons p l ih =>
      intro b hl
      rw [List.foldl_cons, List.foldl_cons]
      have e : greM b 0 0 0 (mPt p) = grG b p := by
        unfold greM grG
        exact if_neg (fun q => hl p List.mem_cons_self ((kd_1 (v := -1) (by decide)).mp q))
      rw [e]
      exact ih _ (fun p hp => hl p (List.mem_cons_of_mem _ hp))
  exact this l 0 hk
theorem LgR.obG (r : LgR μ.1 x A) (ho : HOl μ.1) : (obM μ x ky).map (ptM μ) = obS (rdQ (μ.2.1 5) μ.1 x A.2.2) ky := by
  unfold obM obS
  rw [r.veG ho]
  generalize verA (rdQ (μ.2.1 5) μ.1 x A.2.2) ky = v
  have := tF_find (f := objM ky v) (φ := fun r => decide (r 0 = 3) && decide (r 3 = ky) && decide (r 6 = v)) (T := μ.1) (x := x) (th := thT (μ.2.1 5) μ.1) (fun k e i r => by
    unfold objM
    dsimp only
    by_cases q1 : r 0 = 3
    · rw [if_neg (fun z => z q1)]
      by_cases q2 : r 3 = ky
      · rw [if_neg (fun z => z q2)]
        by_cases q3 : r 6 = v
        · rw [if_neg (fun z => z q3), if_pos (by simp [q1, q2, q3])]
        · rw [if_pos q3, if_neg (by simp [q3])]
      · rw [if_pos q2, if_neg (by simp [q2])]
    · rw [if_pos q1, if_neg (by simp [q1])]) (fun _ _ _ _ _ => rfl) (fun r q => by simp [q]) (th_le ho)
  rw [r.fl] at this
  have e : (fun p => decide (mPt p 0 = 3) && decide (mPt p 3 = ky) && decide (mPt p 6 = v)) = obF ky v := funext fun p => by
    unfold obF
    show (decide (pKd p + 1 = 3) && decide ((if pKd p = 0 ∨ pKd p = 1 then 0 else pKy p) = ky) && decide (pVe p = v)) = _
    by_cases q : pKd p = 2
    · rw [if_neg (by rw [q]; decide), q]; rfl
    · rw [decide_eq_false q, decide_eq_false (fun z => q ((kd_1 (v := 2) (w := 3) (by decide)).mp z))]; rfl
  rw [e] at this
  exact this
theorem LgR.reG (r : LgR μ.1 x A) (ho : HOl μ.1) : (reM μ x c n).map (ptM μ) = (rdQ (μ.2.1 5) μ.1 x A.2.2).find? (resA c n) := by
  unfold reM
  have := tF_find (f := resM c n) (φ := fun r => decide (r 0 = 5) && decide (r 1 = c) && decide (r 2 = n)) (T := μ.1) (x := x) (th := thT (μ.2.1 5) μ.1) (fun k e i r => by
    unfold resM
    dsimp only
    by_cases q1 : r 0 = 5
    · rw [if_neg (fun z => z q1)]
      by_cases q2 : r 1 = c
      · rw [if_neg (fun z => z q2)]
        by_cases q3 : r 2 = n
        · rw [if_neg (fun z => z q3), if_pos (by simp [q1, q2, q3])]
        · rw [if_pos q3, if_neg (by simp [q3])]
      · rw [if_pos q2, if_neg (by simp [q2])]
    · rw [if_pos q1, if_neg (by simp [q1])]) (fun _ _ _ _ _ => rfl) (fun r q => by simp [q]) (th_le ho)
  rw [r.fl] at this
  have e : (fun p => decide (mPt p 0 = 5) && decide (mPt p 1 = c) && decide (mPt p 2 = n)) = resA c n := funext fun p => by
    unfold resA
    show (decide (pKd p + 1 = 5) && decide ((if kT (pKd p) = 0 then 0 else pCl p) = c) && decide ((if pKd p = 4 then pNu p else 0) = n)) = _
    by_cases q : pKd p = 4
    · rw [if_pos q, q]; rfl
    · rw [decide_eq_false q, decide_eq_false (fun z => q ((kd_1 (v := 4) (w := 5) (by decide)).mp z))]; rfl
  rw [e] at this
  exact this
end RD
