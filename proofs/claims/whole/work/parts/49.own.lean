/-! who holds what: o tells of an address which object holds it -/
def ownZ (o : Nat → Nat) (z : svT) : Prop := o z.2.1.1 = z.1 ∧ o z.2.1.2.1 = z.1 ∧ o z.2.1.2.2.1 = z.1 ∧ o z.2.1.2.2.2.1 = z.1 ∧ o z.2.1.2.2.2.2 = z.1
def ownV (o : Nat → Nat) (v : Nat) (R : arT) : Prop := o R.1 = v ∧ o R.2.1 = v ∧ o R.2.2.1 = v ∧ o R.2.2.2.1 = v ∧ o R.2.2.2.2 = v
/-- a list is held by b, and holds its row -/
def ownL (h : hpT) (o : Nat → Nat) (b l : Nat) : Prop := o l = b ∧ ∀ e, hR h 1 l = some e → hK h e = 28 → o e = l
/-- a LOG, good: its NAMES go up, nothing in it is gone, all of it is its own -/
def lgG (g : gcT) (h : hpT) (o : Nat → Nat) (N U L : Nat) (zs : List svT) : Prop := lgF g h N U L zs ∧ (∀ l, hR h 256 L = some l → ownL h o L l) ∧ (∀ z ∈ zs, ownZ o z ∧ o z.1 = L ∧ hI h 524 z.1 = 0) ∧ (∀ z ∈ zs, z.2.2.1 = nI (nmN z) ∧ nmN z ≤ 100000000) ∧ (zs.map nmN).Pairwise (· < ·)
section OWN
variable {g : gcT} {o : Nat → Nat} {N U L v : Nat} {R : arT} {zs : List svT} {h : hpT}
theorem lgG.names (k : lgG g h o N U L zs) : ∀ i j (hi : i < zs.length) (hj : j < zs.length), nmN zs[i] = nmN zs[j] → i = j := by
  intro i j hi hj e
  have pw := List.pairwise_iff_getElem.mp k.2.2.2.2
  rcases Nat.lt_trichotomy i j with q | q | q
  · have := pw i j (by rw [List.length_map]; exact hi) (by rw [List.length_map]; exact hj) q
    rw [List.getElem_map, List.getElem_map] at this
    omega
  · exact q
  · have := pw j i (by rw [List.length_map]; exact hj) (by rw [List.length_map]; exact hi) q
    rw [List.getElem_map, List.getElem_map] at this
    omega
theorem lgG.sg (k : lgG g h o N U L zs) : ∀ z ∈ zs, sgX h N U z := fun z hz => (k.1.2.choose_spec.2.2 z hz).1
theorem lgG.nd1 (k : lgG g h o N U L zs) : ∀ i j (hi : i < zs.length) (hj : j < zs.length), zs[i].1 = zs[j].1 → i = j := by
  intro i j hi hj e
  refine k.names i j hi hj ?_
  have e1 := (k.sg _ (List.getElem_mem hi)).2.1
  have e2 := (k.sg _ (List.getElem_mem hj)).2.1
  rw [e] at e1
  unfold nmN
  rw [← e1, ← e2]
theorem lgG.nd2 (k : lgG g h o N U L zs) : ∀ i j (hi : i < zs.length) (hj : j < zs.length), zLv zs[i] = zLv zs[j] → i = j := by
  intro i j hi hj e
  refine k.nd1 i j hi hj ?_
  have e1 := (k.2.2.1 _ (List.getElem_mem hi)).1.2.1
  have e2 := (k.2.2.1 _ (List.getElem_mem hj)).1.2.1
  unfold zLv at e
  rw [← e1, e, e2]
theorem lgG.sep (k : lgG g h o N U L zs) (kv : svA h v R) (ov : ownV o v R) : sepV v R zs ∧ ∀ z ∈ zs, ¬ z.2.1.1 = R.2.2.2.2 := by
  have key : ∀ z ∈ zs, ∀ a, o a = z.1 → ¬ hK h a = 12 → ¬ svS v R a ∧ ¬ a = R.2.2.2.2 := by
    intro z hz a ha k12
    have k9 := (k.sg z hz).1.1
    have nv : ¬ z.1 = v := fun q => by rw [q, kv.1] at k9; exact absurd k9 (by decide)
    obtain ⟨o1, o2, o3, o4, o5⟩ := ov
    refine ⟨?_, fun q => ?_⟩
    · rintro (q | q | q | q | q)
      · rw [q] at k12; exact k12 kv.1
      · rw [q, o1] at ha; exact nv ha.symm
      · rw [q, o2] at ha; exact nv ha.symm
      · rw [q, o3] at ha; exact nv ha.symm
      · rw [q, o4] at ha; exact nv ha.symm
    · rw [q, o5] at ha; exact nv ha.symm
  constructor
  · intro z hz
    obtain ⟨a1, -, -, -, -, -, a7, a8, a9, a10, a11, -⟩ := (k.sg z hz).1
    obtain ⟨p1, p2, p3, p4, p5⟩ := (k.2.2.1 z hz).1
    exact ⟨(key z hz _ p1 (by omega)).1, (key z hz _ p2 (by omega)).1, (key z hz _ p3 (by omega)).1, (key z hz _ p4 (by omega)).1, (key z hz _ p5 (by omega)).1⟩
  · intro z hz
    obtain ⟨a1, -, -, -, -, -, a7, -⟩ := (k.sg z hz).1
    exact (key z hz _ (k.2.2.1 z hz).1.1 (by omega)).2
end OWN
