-- an ENTRY written to the HEAD, on the class's side
def LgD (N nm : Nat) (A : alT) : Prop := A.1.Pairwise (fun a b => a.1 < b.1) ∧ (∀ u ∈ A.1, u.1 < nm ∧ hG N u) ∧ ∀ u ∈ A.1, ¬ A.2.2 = some u.1 → ∀ w ∈ u.2.2.2, w.2 = u.2.2.1.length
section
variable {A : alT} {q : pT → Bool} {N U nm c : Nat} {np : List pT} {g : agT}
theorem LgO.d (L : LgO N U nm A) : LgD N nm A := ⟨L.1, fun u hu => ⟨(L.2.1 u hu).1, (L.2.1 u hu).2.1⟩, fun u hu _ => (L.2.1 u hu).2.2⟩
theorem hd_at (h : hdG A = some g) : A.2.1 = some g.1 ∧ g ∈ A.1 := by
  unfold hdG at h
  split at h
  · cases h
  · next n hn =>
    have := List.find?_some h
    rw [beq_iff_eq] at this
    exact ⟨by rw [hn, this], List.mem_of_find?_eq_some h⟩
theorem wr_hd (h : hdG A = some g) : hdG (wrtA A np c) = some (addG g np c) := by
  obtain ⟨h1, h2⟩ := hd_at h
  unfold hdG at h
  unfold hdG wrtA
  rw [h1] at h ⊢
  show List.find? _ (A.1.map _) = _
  rw [List.find?_map]
  have e : ((fun z : agT => z.1 == g.1) ∘ fun x : agT => if some x.1 = some g.1 then addG x np c else x) = fun z : agT => z.1 == g.1 := funext fun x => by
    show ((if some x.1 = some g.1 then addG x np c else x).1 == g.1) = _
    split <;> rfl
  rw [e]
  have h : A.1.find? (fun z => z.1 == g.1) = some g := h
  rw [h]
  show some (if some g.1 = some g.1 then addG g np c else g) = _
  rw [if_pos rfl]
theorem wr_sum {n : Nat} : ∀ (L : List agT), (L.map (·.1)).Nodup → (L.map (fun x : agT => (if some x.1 = some n then addG x np c else x).2.1.countP q)).sum = (L.map (fun x : agT => x.2.1.countP q)).sum + (if n ∈ L.map (·.1) then np.countP q else 0) := by
  intro L
  induction L with
  | nil => intro _; rfl
  | cons a L ih =>
    intro nd
    rw [List.map_cons, List.nodup_cons] at nd
    have i := ih nd.2
    rw [List.map_cons, List.map_cons, List.map_cons, List.sum_cons, List.sum_cons, i]
    by_cases w : a.1 = n
    · rw [if_pos (show some a.1 = some n by rw [w]), if_neg (show ¬ n ∈ L.map (·.1) by rw [← w]; exact nd.1), if_pos (show n ∈ a.1 :: L.map (·.1) by rw [← w]; exact List.mem_cons_self)]
      show (a.2.1 ++ np).countP q + _ = _
      rw [List.countP_append]
      omega
    · rw [if_neg (show ¬ some a.1 = some n from fun z => w (Option.some.inj z))]
      by_cases w2 : n ∈ L.map (·.1)
      · rw [if_pos w2, if_pos (List.mem_cons_of_mem _ w2)]; omega
      · rw [if_neg w2, if_neg (fun z => (List.mem_cons.mp z).elim (fun z => w z.symm) w2)]; omega
theorem wr_c (L : A.1.Pairwise (fun a b => a.1 < b.1)) (h : hdG A = some g) : (allP (wrtA A np c)).countP q = (allP A).countP q + np.countP q := by
  obtain ⟨h1, h2⟩ := hd_at h
  rw [alP_c, alP_c]
  unfold wrtA
  rw [h1]
  show ((A.1.map _).map _).sum = _
  rw [List.map_map]
  have := wr_sum (q := q) (np := np) (c := c) (n := g.1) A.1 (pw_nd L)
  rw [if_pos (List.mem_map_of_mem h2)] at this
  exact this
theorem un_app (a b : List pT) : unsA (a ++ b) = unsA a + unsA b := by
  have : ∀ (l : List pT) (t : Int32), l.foldl (fun t p => t + kU (pKd p)) t = t + l.foldl (fun t p => t + kU (pKd p)) 0 := by
    intro l
    induction l with
    | nil => intro t; exact (Int32.add_zero t).symm
    | cons p l ih =>
      intro t
      rw [List.foldl_cons, List.foldl_cons, ih, ih (0 + _), Int32.zero_add, Int32.add_assoc]
  unfold unsA
  rw [List.foldl_append, this]
theorem hs_len {u : agT} (h : hG N u) : u.2.2.2.length ≤ N := by
  have h1 : (u.2.2.2.map (·.1)).Nodup := h.1
  have h2 : ∀ v ∈ u.2.2.2.map (·.1), v < N := fun v hv => by
    obtain ⟨x, x1, x2⟩ := List.mem_map.mp hv
    rw [← x2]; exact h.2 x x1
  have h3 := nd_len N _ h1 h2
  rw [List.length_map] at h3
  exact h3
theorem add_G (h : hG N g) : hG N (addG g np c) := by
  refine ⟨?_, fun x hx => ?_⟩
  · show ((updH _ _ _).map _).Nodup
    rw [updH_f]; exact h.1
  · obtain ⟨w, w1, w2, -⟩ := updH_m hx
    rw [w2]; exact h.2 w w1
theorem wr_D (L : LgO N U nm A) (h : hdG A = some g) : LgD N nm (wrtA A np c) := by
  obtain ⟨h1, h2⟩ := hd_at h
  obtain ⟨pw, hn, hl, hu⟩ := L
  have lt : A.2.2 = some g.1 := by
    rcases hl with w | w
    · rw [h1] at w; cases w
    · rw [← w]; exact h1
  refine ⟨?_, fun u hu => ?_, fun u hu ne => ?_⟩
  · refine List.pairwise_map.mpr (pw.imp (fun {a b} w => ?_))
    split <;> split <;> exact w
  · obtain ⟨v, v1, v2⟩ := List.mem_map.mp hu
    subst v2
    split
    · exact ⟨(hn v v1).1, add_G (hn v v1).2.1⟩
    · exact ⟨(hn v v1).1, (hn v v1).2.1⟩
  · obtain ⟨v, v1, v2⟩ := List.mem_map.mp hu
    subst v2
    split at ne
    · next w =>
      rw [h1] at w
      exact absurd (show A.2.2 = some v.1 by rw [lt, w]) ne
    · next w =>
      rw [if_neg w]
      exact (hn v v1).2.2
theorem wr_O {k n : Nat} (L : LgO N U nm A) (h : hdG A = some g) (hk : unsA g.2.1 = nI k) (hp : unsA np = nI n) (hU : k + n ≤ U) (h8 : N ≤ 8) (hc : 8 ≤ c) : LgO N U nm (wrtA A np c) := by
  have d := wr_D (np := np) (c := c) L h
  refine ⟨d.1, fun u hu => ⟨(d.2.1 u hu).1, (d.2.1 u hu).2, ?_⟩, L.2.2.1, fun g' hg' => ?_⟩
  · obtain ⟨v, v1, v2⟩ := List.mem_map.mp hu
    subst v2
    have hv := (L.2.1 v v1).2
    split
    · intro w hw
      have hw : w ∈ updH v.2.2.2 c (v.2.2.1.length + 1) := hw
      have := hs_len hv.1
      rw [updH_all (by omega)] at hw
      obtain ⟨z, z1, z2⟩ := List.mem_map.mp hw
      rw [← z2]
      show _ = (v.2.2.1 ++ [_]).length
      rw [List.length_append, List.length_singleton]
    · exact hv.2
  · rw [wr_hd h] at hg'
    cases hg'
    refine ⟨k + n, hU, ?_⟩
    show unsA (g.2.1 ++ np) = _
    rw [un_app, hk, hp]
    show Int32.ofNat k + Int32.ofNat n = Int32.ofNat (k + n)
    rw [Int32.ofNat_add]
theorem al_in {u : agT} {p : pT} (hu : u ∈ A.1) (hp : p ∈ u.2.1) : p ∈ allP A := List.mem_flatten.mpr ⟨u.2.1, List.mem_map_of_mem hu, hp⟩
theorem al_at {p : pT} (h : p ∈ allP A) : ∃ u ∈ A.1, p ∈ u.2.1 := by
  obtain ⟨l, l1, l2⟩ := List.mem_flatten.mp h
  obtain ⟨u, u1, u2⟩ := List.mem_map.mp l1
  exact ⟨u, u1, by rw [u2]; exact l2⟩
end
