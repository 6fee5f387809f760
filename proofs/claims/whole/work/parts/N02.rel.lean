/-! the two sides: a LOG -/
def LaR (F : List slT) (n : Option Nat) : Prop := (n = none ∧ ∀ s ∈ F, lOp s = false) ∨ ∃ s, s ∈ F ∧ lOp s = true ∧ n = some (lNm s) ∧ ∀ s' ∈ F, lOp s' = true → lNm s' ≤ lNm s
def LgR (T : List slT) (x : Int32) (A : alT) : Prop := ((T.filter (lbX x)).map agS).Perm A.1 ∧ A.1.Pairwise (fun a b => a.1 < b.1) ∧ LaR (T.filter (lbX x)) A.2.2
def verG (ky acc : Int32) (p : pT) : Int32 := if kM (pKd p) = 0 then acc else if ¬ pKy p = ky then acc else if pVe p ≤ acc then acc else pVe p
def verA (ps : List pT) (ky : Int32) : Int32 := ps.foldl (verG ky) 0
def obF (ky v : Int32) (p : pT) : Bool := decide (pKd p = 2) && decide (pKy p = ky) && decide (pVe p = v)
def obS (ps : List pT) (ky : Int32) : Option pT := ps.find? (obF ky (verA ps ky))
def grG (acc : Int32) (p : pT) : Int32 := if pVe p ≤ acc then acc else pVe p
/-- what is read of a slot -/
def tSl (st : Nat → Int32) (x : Int32) (lt : Option Nat) (s : slT) : Nat := if x < 16 then (lEn s).length else if ¬ lt = some (lNm s) then (lEn s).length else (lHo s).foldl (mstU st) 0
def rdQ (st : Nat → Int32) (T : List slT) (x : Int32) (lt : Option Nat) : List pT := (T.filter (lbX x)).flatMap (fun s => enS ((lEn s).take (tSl st x lt s)))
section RL
variable {T : List slT} {x c n ky : Int32} {A : alT} {st : Nat → Int32} {μ : mT} {k : Nat} {s : slT}
theorem fl_mem {F : List slT} (h : s ∈ T.filter (lbX x)) : s ∈ T ∧ lLg s = x := by
  rw [List.mem_filter] at h
  exact ⟨h.1, of_decide_eq_true h.2⟩
theorem T_at (hk : k < T.length) : T.getD k sl0 ∈ T := by
  rw [List.getD_eq_getElem?_getD, List.getElem?_eq_getElem hk]
  exact List.getElem_mem hk
theorem fl_at (hk : k < T.length) (q : lLg (T.getD k sl0) = x) : T.getD k sl0 ∈ T.filter (lbX x) := List.mem_filter.mpr ⟨T_at hk, decide_eq_true q⟩
theorem at_fl (h : s ∈ T.filter (lbX x)) : ∃ k, k < T.length ∧ T.getD k sl0 = s ∧ lLg s = x := by
  obtain ⟨h1, h2⟩ := fl_mem (F := []) h
  obtain ⟨k, hk, e⟩ := List.mem_iff_getElem.mp h1
  exact ⟨k, hk, by rw [List.getD_eq_getElem?_getD, List.getElem?_eq_getElem hk]; exact e, h2⟩
theorem LgR.nd (r : LgR T x A) : (T.filter (lbX x)).Pairwise (fun a b => ¬ lNm a = lNm b) := by
  have h1 : A.1.Pairwise (fun a b => ¬ a.1 = b.1) := r.2.1.imp (fun q e => by omega)
  have h2 := r.1.symm.pairwise h1 (fun q e => q e.symm)
  rw [List.pairwise_map] at h2
  exact h2
theorem LgR.inj (r : LgR T x A) {s s' : slT} (h : s ∈ T.filter (lbX x)) (h' : s' ∈ T.filter (lbX x)) (e : lNm s = lNm s') : s = s' := by
  have nd := r.nd
  generalize T.filter (lbX x) = F at h h' nd
  induction F with
  | nil => cases h
  | cons a F ih =>
    rw [List.pairwise_cons] at nd
    rcases List.mem_cons.mp h with q | q <;> rcases List.mem_cons.mp h' with q' | q'
    · rw [q, q']
    · subst q; exact absurd e (nd.1 s' q')
    · subst q'; exact absurd e.symm (nd.1 s q)
    · exact ih q q' nd.2
theorem LgR.mem (r : LgR T x A) {s : slT} (h : s ∈ T.filter (lbX x)) : agS s ∈ A.1 := r.1.mem_iff.mp (List.mem_map_of_mem h)
theorem LgR.mem' (r : LgR T x A) {u : agT} (h : u ∈ A.1) : ∃ s ∈ T.filter (lbX x), agS s = u := by
  have := r.1.mem_iff.mpr h
  exact List.mem_map.mp this
/-- the latest OPENED -/
theorem la_p : ∀ (l : List Nat) (b : Option Nat), (∀ k, b = some k → lLg (T.getD k sl0) = x ∧ lOp (T.getD k sl0) = true) → (∀ k, l.foldl (laF T x) b = some k → lLg (T.getD k sl0) = x ∧ lOp (T.getD k sl0) = true) := by
  intro l
  induction l with
  | nil => intro b hb k hk; exact hb k hk
  | cons a l ih =>
    intro b hb k hk
    refine ih _ (fun k hk => ?_) k hk
    unfold laF at hk
    split at hk
    · exact hb k hk
    · rename_i q1
      split at hk
      · exact hb k hk
      · rename_i q2
        have pa : lLg (T.getD a sl0) = x ∧ lOp (T.getD a sl0) = true := ⟨Decidable.not_not.mp q1, by simpa using q2⟩
        split at hk
        · cases hk; exact pa
        · split at hk
          · exact hb k hk
          · cases hk; exact pa
theorem la_lt (q : laT T x = some k) : k < T.length := by
  have := fold_inv (fun b : Option Nat => ∀ k, b = some k → k < T.length) (laF T x) (List.range T.length) (fun b a ha hb k e => by
    unfold laF at e
    split at e
    · exact hb k e
    · split at e
      · exact hb k e
      · split at e
        · cases e; exact List.mem_range.mp ha
        · split at e
          · exact hb k e
          · cases e; exact List.mem_range.mp ha) none (fun k e => by cases e)
  exact this k q
theorem la_mx : ∀ (l : List Nat) (b : Option Nat) (j : Nat), (j ∈ l ∧ lLg (T.getD j sl0) = x ∧ lOp (T.getD j sl0) = true) ∨ b = some j → ∃ k, l.foldl (laF T x) b = some k ∧ lNm (T.getD j sl0) ≤ lNm (T.getD k sl0) := by
  intro l
  induction l with
  | nil =>
    intro b j h
    rcases h with ⟨h, -⟩ | h
    · cases h
    · exact ⟨j, h, Nat.le_refl _⟩
  | cons a l ih =>
    intro b j h
    rw [List.foldl_cons]
    rcases h with ⟨h, h1, h2⟩ | h
    · rcases List.mem_cons.mp h with e | e
      · subst e
        unfold laF
        rw [if_neg (fun z => z h1), if_neg (by rw [h2]; decide)]
        cases b with
        | none => exact ih (some j) j (Or.inr rfl)
        | some k =>
          dsimp only
          by_cases q : lNm (T.getD j sl0) ≤ lNm (T.getD k sl0)
          · rw [if_pos q]
            obtain ⟨k', e1, e2⟩ := ih (some k) k (Or.inr rfl)
            exact ⟨k', e1, Nat.le_trans q e2⟩
          · rw [if_neg q]
            exact ih (some j) j (Or.inr rfl)
      · exact ih _ j (Or.inl ⟨e, h1, h2⟩)
    · subst h
      unfold laF
      split
      · exact ih _ j (Or.inr rfl)
      · split
        · exact ih _ j (Or.inr rfl)
        · dsimp only
          split
          · exact ih _ j (Or.inr rfl)
          · rename_i q
            obtain ⟨k', e1, e2⟩ := ih (some a) a (Or.inr rfl)
            exact ⟨k', e1, by omega⟩
theorem LgR.la (r : LgR T x A) (hk : k < T.length) (q : lLg (T.getD k sl0) = x) : laT T x = some k ↔ A.2.2 = some (lNm (T.getD k sl0)) := by
  have lk := fl_at hk q
  constructor
  · intro e
    obtain ⟨-, p2⟩ := la_p (List.range T.length) none (fun k e => by cases e) k e
    rcases r.2.2 with ⟨-, z⟩ | ⟨s, s1, s2, s3, s4⟩
    · have := z _ lk
      rw [p2] at this
      cases this
    · obtain ⟨j, hj, ej, lj⟩ := at_fl s1
      obtain ⟨k', e1, e2⟩ := la_mx (T := T) (x := x) (List.range T.length) none j (Or.inl ⟨List.mem_range.mpr hj, by rw [ej]; exact lj, by rw [ej]; exact s2⟩)
      rw [show (List.range T.length).foldl (laF T x) none = some k from e] at e1
      cases e1
      rw [ej] at e2
      have := s4 _ lk p2
      rw [s3, Nat.le_antisymm e2 this]
  · intro e
    rcases r.2.2 with ⟨z, -⟩ | ⟨s, s1, s2, s3, s4⟩
    · rw [z] at e; cases e
    · rw [e] at s3
      have en : lNm (T.getD k sl0) = lNm s := Option.some.inj s3
      have es := r.inj lk s1 en
      obtain ⟨k', e1, e2⟩ := la_mx (T := T) (x := x) (List.range T.length) none k (Or.inl ⟨List.mem_range.mpr hk, q, by rw [es]; exact s2⟩)
      obtain ⟨p1, p2⟩ := la_p (List.range T.length) none (fun k e => by cases e) k' e1
      have lk' := la_lt (k := k') (T := T) (x := x) e1
      have := s4 _ (fl_at lk' p1) p2
      rw [es] at e2
      have ee := r.inj (fl_at lk' p1) s1 (Nat.le_antisymm this e2)
      show (List.range T.length).foldl (laF T x) none = some k
      rw [e1]
      -- the same slot: the same place
      have nd := r.nd
      have : k' = k := by
        rcases Nat.lt_trichotomy k' k with z | z | z
        · have ps : (T.filter (lbX x)).Pairwise (fun a b => ¬ lNm a = lNm b) := nd
          rw [List.pairwise_filter] at ps
          have := List.pairwise_iff_getElem.mp ps k' k lk' hk z
          have g1 : T.getD k' sl0 = T[k'] := by rw [List.getD_eq_getElem?_getD, List.getElem?_eq_getElem lk']; rfl
          have g2 : T.getD k sl0 = T[k] := by rw [List.getD_eq_getElem?_getD, List.getElem?_eq_getElem hk]; rfl
          rw [← g1, ← g2] at this
          exact absurd (by rw [ee, es]) (this (decide_eq_true p1) (decide_eq_true q))
        · exact z
        · have ps : (T.filter (lbX x)).Pairwise (fun a b => ¬ lNm a = lNm b) := nd
          rw [List.pairwise_filter] at ps
          have := List.pairwise_iff_getElem.mp ps k k' hk lk' z
          have g1 : T.getD k' sl0 = T[k'] := by rw [List.getD_eq_getElem?_getD, List.getElem?_eq_getElem lk']; rfl
          have g2 : T.getD k sl0 = T[k] := by rw [List.getD_eq_getElem?_getD, List.getElem?_eq_getElem hk]; rfl
          rw [← g1, ← g2] at this
          exact absurd (by rw [ee, es]) (this (decide_eq_true q) (decide_eq_true p1))
      rw [this]
theorem LgR.th (r : LgR T x A) (hk : k < T.length) (q : lLg (T.getD k sl0) = x) : thT st T k = tSl st x A.2.2 (T.getD k sl0) := by
  unfold thT tSl
  rw [q]
  by_cases q1 : x < 16
  · rw [if_pos q1, if_pos q1]
  · rw [if_neg q1, if_neg q1]
    by_cases q2 : laT T x = some k
    · rw [if_neg (fun z => z q2), if_neg (fun z => z ((r.la hk q).mp q2))]
    · rw [if_pos q2, if_pos (fun z => q2 ((r.la hk q).mpr z))]
theorem LgR.fl (r : LgR T x A) : flT T x (thT st T) = rdQ st T x A.2.2 := flT_eq (fun k hk q => r.th hk q)
theorem LgR.all (r : LgR T x A) (hx : x < 16) : (rdQ st T x A.2.2).Perm (allP A) := by
  unfold rdQ allP
  have e : (fun s => enS ((lEn s).take (tSl st x A.2.2 s))) = fun s => (agS s).2.1 := funext fun s => by
    unfold tSl
    rw [if_pos hx, List.take_length]; rfl
  rw [e, ← List.flatMap_def]
  have : (T.filter (lbX x)).flatMap (fun s => (agS s).2.1) = ((T.filter (lbX x)).map agS).flatMap (·.2.1) := by rw [List.flatMap_map]
  rw [this]
  exact r.1.flatMap_right _
end RL
