/-! the two sides: the ring, a new SEGMENT's HOLDERS, the HOLDER that is wanting -/
def nsG (st : Nat → Int32) (rep : Nat) (hs : List (Nat × Nat)) (v : Nat) : List (Nat × Nat) := if rep ≤ hs.length then hs else if st v = 0 then hs ++ [(v, 0)] else hs
section RG
variable {st : Nat → Int32} {N up m b k rep nm : Nat} {hs : List (Nat × Nat)} {s : slT} {μ : mT} {y : Nat → Nat}
theorem rgL_m : ∀ (d k : Nat), rgL N b k d m = ((List.range d).map (fun i => (b + k + i) % N)).filter (fun v => decide (¬ v = m)) := by
  intro d
  induction d with
  | zero => intro k; rfl
  | succ d ih =>
    intro k
    rw [List.range_succ_eq_map, List.map_cons, List.map_map, List.filter_cons]
    have e : ((fun i => (b + k + i) % N) ∘ Nat.succ) = fun i => (b + (k + 1) + i) % N := funext fun i => by
      show (b + k + (i + 1)) % N = _
      congr 1
      omega
    rw [e]
    show (if (b + k) % N = m then rgL N b (k + 1) d m else (b + k) % N :: rgL N b (k + 1) d m) = _
    rw [ih (k + 1)]
    by_cases q : (b + k) % N = m
    · rw [if_pos q, if_neg (by simp [q])]
    · rw [if_neg q, if_pos (by simp [q])]; rfl
theorem rgL_r : rgL N ((7 * nm + 3 * m) % N) 0 N m = ((List.range N).map (ringN N nm m)).filter (fun v => decide (¬ v = m)) := by
  rw [rgL_m]
  congr 2
  funext i
  unfold ringN
  rw [Nat.add_zero, Nat.mod_add_mod]
theorem fo_fil {α σ : Type} (p : α → Bool) (f : σ → α → σ) : ∀ (l : List α) (b : σ), (l.filter p).foldl f b = l.foldl (fun b a => if p a = true then f b a else b) b := by
  intro l
  induction l with
  | nil => intro b; rfl
  | cons a l ih =>
    intro b
    rw [List.filter_cons, List.foldl_cons]
    by_cases q : p a = true
    · rw [if_pos q, if_pos q, List.foldl_cons, ih]
    · rw [if_neg q, if_neg q, ih]
theorem ns_MH (u : UPR st N up) (h4 : 4 ≤ N) (h8 : N ≤ 8) (hm : m < N) : nsM st N rep nm m (N - 1) = nsH (nI up) N rep nm m N := by
  have len := rgL_full N (by omega) h4 ((7 * nm + 3 * m) % N) (Nat.mod_lt _ (by omega)) m hm
  have e1 : nsM st N rep nm m (N - 1) = (rgL N ((7 * nm + 3 * m) % N) 0 N m).foldl (nsG st rep) [] := by
    have := rg_take (nsG st rep) 0 (N - 1) (rgL N ((7 * nm + 3 * m) % N) 0 N m) [] (by omega)
    rw [← len, List.take_length] at this
    rw [← this, len]
    rfl
  rw [e1, rgL_r, fo_fil, List.foldl_map]
  unfold nsH
  have : ∀ (l : List Nat) (hs : List (Nat × Nat)), l.foldl (fun b i => if decide (¬ ringN N nm m i = m) = true then nsG st rep b (ringN N nm m i) else b) hs = l.foldl (nsF (nI up) N rep nm m) hs := by
    intro l
    induction l with
    | nil => intro hs; rfl
    | cons i l ih =>
      intro hs
      rw [List.foldl_cons, List.foldl_cons, ih]
      congr 1
      unfold nsF nsG
      have lt : ringN N nm m i < N := Nat.mod_lt _ (by omega)
      have sh := u.sh h8 lt
      by_cases q : ringN N nm m i = m
      · rw [if_neg (show ¬ decide (¬ ringN N nm m i = m) = true by simp [q]), if_pos q]
        split <;> rfl
      · rw [if_pos (show decide (¬ ringN N nm m i = m) = true by simp [q]), if_neg q]
        by_cases q2 : st (ringN N nm m i) = 0
        · rw [if_pos q2, if_pos (sh.mpr q2)]
        · rw [if_neg q2, if_neg (fun z => q2 (sh.mp z))]
  exact this _ _
theorem ns_ok : ∀ (l : List Nat) (hs : List (Nat × Nat)), (hs.map (·.1) ++ l).Nodup → (∀ x ∈ hs, x.2 = 0) → (∀ v ∈ l, v < N) → (∀ x ∈ hs, x.1 < N) → hs.length ≤ rep → ((l.foldl (nsG st rep) hs).map (·.1)).Nodup ∧ (∀ x ∈ l.foldl (nsG st rep) hs, x.2 = 0 ∧ x.1 < N) ∧ (l.foldl (nsG st rep) hs).length ≤ rep ∧ ∀ x ∈ l.foldl (nsG st rep) hs, x ∈ hs ∨ (x.1 ∈ l ∧ st x.1 = 0) := by
  intro l
  induction l with
  | nil => intro hs nd z1 _ z3 z4; rw [List.append_nil] at nd; exact ⟨nd, fun x hx => ⟨z1 x hx, z3 x hx⟩, z4, fun x hx => Or.inl hx⟩
  | cons v l ih =>
    intro hs nd z1 z2 z3 z4
    rw [List.foldl_cons]
    have nd' : (hs.map (·.1) ++ l).Nodup := nd.sublist (List.Sublist.append_left (List.sublist_cons_self v l) _)
    obtain ⟨j1, j2, j3, j4⟩ := ih hs nd' z1 (fun v hv => z2 v (List.mem_cons_of_mem _ hv)) z3 z4
    have keep : ((l.foldl (nsG st rep) hs).map (·.1)).Nodup ∧ (∀ x ∈ l.foldl (nsG st rep) hs, x.2 = 0 ∧ x.1 < N) ∧ (l.foldl (nsG st rep) hs).length ≤ rep ∧ ∀ x ∈ l.foldl (nsG st rep) hs, x ∈ hs ∨ (x.1 ∈ v :: l ∧ st x.1 = 0) := ⟨j1, j2, j3, fun x hx => (j4 x hx).imp id (fun z => ⟨List.mem_cons_of_mem _ z.1, z.2⟩)⟩
    by_cases q1 : rep ≤ hs.length
    · have e : nsG st rep hs v = hs := by unfold nsG; rw [if_pos q1]
      rw [e]
      exact keep
    · by_cases q2 : st v = 0
      · have e : nsG st rep hs v = hs ++ [(v, 0)] := by unfold nsG; rw [if_neg q1, if_pos q2]
        rw [e]
        have nd2 : (List.map (fun x : Nat × Nat => x.1) (hs ++ [(v, 0)]) ++ l).Nodup := by
          rw [List.map_append, List.append_assoc]
          exact nd
        obtain ⟨i1, i2, i3, i4⟩ := ih (hs ++ [(v, 0)]) nd2 (fun x hx => by
          rcases List.mem_append.mp hx with z | z
          · exact z1 x z
          · rw [List.mem_singleton.mp z]) (fun v hv => z2 v (List.mem_cons_of_mem _ hv)) (fun x hx => by
          rcases List.mem_append.mp hx with z | z
          · exact z3 x z
          · rw [List.mem_singleton.mp z]; exact z2 v List.mem_cons_self) (by rw [List.length_append]; show hs.length + 1 ≤ rep; omega)
        refine ⟨i1, i2, i3, fun x hx => ?_⟩
        rcases i4 x hx with z | z
        · rcases List.mem_append.mp z with z | z
          · exact Or.inl z
          · rw [List.mem_singleton.mp z]; exact Or.inr ⟨List.mem_cons_self, q2⟩
        · exact Or.inr ⟨List.mem_cons_of_mem _ z.1, z.2⟩
      · have e : nsG st rep hs v = hs := by unfold nsG; rw [if_neg q1, if_neg q2]
        rw [e]
        exact keep
theorem sp_R (u : UPR st N up) (h4 : 4 ≤ N) (h8 : N ≤ 8) (hm : m < N) (g : ∀ x ∈ hs, x.1 < N) : spR (nI up) (mskL hs) N nm m = oI ((rgL N ((7 * nm + 3 * m) % N) 0 N m).find? (fun v => decide (st v = 0) && !hs.any (fun x => decide (nI x.1 = nI v)))) := by
  obtain ⟨mk, k1, k2, k3⟩ := msk_N hs (fun x hx => Nat.lt_of_lt_of_le (g x hx) h8)
  rw [rgL_r, List.find?_filter, List.find?_map]
  unfold spR
  have e : ((fun a => decide (¬ a = m) && (decide (st a = 0) && !hs.any (fun x => decide (nI x.1 = nI a)))) ∘ ringN N nm m) = spP (nI up) (mskL hs) N nm m := funext fun i => by
    show (decide (¬ ringN N nm m i = m) && (decide (st (ringN N nm m i) = 0) && !hs.any (fun x => decide (nI x.1 = nI (ringN N nm m i))))) = _
    unfold spP
    have lt : ringN N nm m i < N := Nat.mod_lt _ (by omega)
    have sh := u.sh h8 lt
    rw [Bool.and_assoc]
    congr 1
    generalize ringN N nm m i = v at lt sh
    rw [k2, sh_N mk k1 v (by omega), decide_eq_decide.mpr sh]
    congr 1
    have : hs.any (fun x => decide (nI x.1 = nI v)) = mk.testBit v := by
      rw [Bool.eq_iff_iff, k3 v (by omega), List.any_eq_true]
      constructor
      · intro ⟨x, x1, x2⟩
        have xe := nI_inj (by have := g x x1; omega) (by omega) (of_decide_eq_true x2)
        exact List.mem_map.mpr ⟨x, x1, xe⟩
      · intro z
        obtain ⟨x, x1, x2⟩ := List.mem_map.mp z
        exact ⟨x, x1, decide_eq_true (by rw [x2])⟩
    rw [this]
    cases mk.testBit v <;> rfl
  simp only [Bool.decide_and, Bool.decide_eq_true]
  rw [e]
  cases (List.range N).find? (spP (nI up) (mskL hs) N nm m) <;> rfl
end RG
