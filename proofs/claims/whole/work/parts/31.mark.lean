/-! a LOG with all of its SEGMENTS; what is LIVE in it -/
abbrev svT := Nat × arT × Int32 × List Nat × List Nat × List (Nat × Nat)
def zPs (z : svT) : List Nat := z.2.2.2.1
def zLv (z : svT) : Nat := z.2.1.2.1
def sgX (h : hpT) (N U : Nat) (z : svT) : Prop := sgV h z.1 N U z.2.1 z.2.2.1 z.2.2.2.1 z.2.2.2.2.1 z.2.2.2.2.2
def lgF (g : gcT) (h : hpT) (N U L : Nat) (zs : List svT) : Prop := hK h L = 5 ∧ ∃ l, hR h 256 L = some l ∧ tLs g h 8 l (zs.map (·.1)) ∧ ∀ z ∈ zs, sgX h N U z ∧ ∀ q ∈ zPs z, pOK h q ∧ lOK h q
def mkS (v : Nat) (R : arT) (zs : List svT) (a : Nat) : Prop := svS v R a ∨ ∃ z ∈ zs, a = z.1 ∨ a = zLv z
def mkC (v : Nat) (R : arT) (zs : List svT) (h h' : hpT) : Prop := Ch (mkS v R zs) 0 0 h h' ∧ hR h' = hR h ∧ ∀ z ∈ zs, ∀ f, ¬ f = 521 → hI h' f z.1 = hI h f z.1
def sepV (v : Nat) (R : arT) (zs : List svT) : Prop := ∀ z ∈ zs, ¬ svS v R z.2.1.1 ∧ ¬ svS v R z.2.1.2.1 ∧ ¬ svS v R z.2.1.2.2.1 ∧ ¬ svS v R z.2.1.2.2.2.1 ∧ ¬ svS v R z.2.1.2.2.2.2
def lvA (h : hpT) (acc : List Int32 × Int32 × syT) (q : Nat) : List Int32 × Int32 × syT := (acc.1 ++ [(livF h q acc.2.2).1], acc.2.1 + (if (livF h q acc.2.2).1 = 0 then 0 else hI h 385 q), (livF h q acc.2.2).2)
def lvS (h : hpT) (S : syT) (ps : List Nat) : List Int32 × Int32 × syT := ps.foldl (lvA h) ([], 0, S)
theorem take_1 {α : Type} {l : List α} {j : Nat} (hj : j < l.length) : l.take (j + 1) = l.take j ++ [l[j]] := (List.take_append_getElem hj).symm
theorem lvS_1 {h : hpT} {S : syT} {ps : List Nat} {j : Nat} (hj : j < ps.length) : lvS h S (ps.take (j + 1)) = lvA h (lvS h S (ps.take j)) ps[j] := by
  unfold lvS
  rw [take_1 hj, List.foldl_append]
  rfl
theorem lvS_len {h : hpT} {S : syT} (ps : List Nat) : (lvS h S ps).1.length = ps.length := by
  have : ∀ (ps : List Nat) acc, (ps.foldl (lvA h) acc).1.length = acc.1.length + ps.length := by
    intro ps
    induction ps with
    | nil => exact fun acc => rfl
    | cons p ps ih =>
      intro acc
      rw [List.foldl_cons, ih]
      unfold lvA
      rw [List.length_append]
      show acc.1.length + 1 + ps.length = acc.1.length + (ps.length + 1)
      omega
  unfold lvS
  rw [this]
  exact Nat.zero_add _
section MARK
variable {g : gcT} {P : pmT} {v N U L : Nat} {R : arT} {zs : List svT} {h h' : hpT}
theorem lgF.z (k : lgF g h N U L zs) : lgZ g h L (zs.map (fun z => (z.1, zPs z))) := by
  obtain ⟨k1, l, k2, k3, k4⟩ := k
  refine ⟨k1, l, k2, ?_, fun z hz => ?_⟩
  · rw [List.map_map]; exact k3
  · obtain ⟨y, hy, e⟩ := List.mem_map.mp hz
    rw [← e]
    exact (k4 y hy).1.w
theorem lgF.calls (k : lgF g h N U L zs) : hK h L = 5 ∧ zs.length < 2 ^ 31 ∧ ∃ l, hR h 256 L = some l ∧ hK h l = 1 ∧ EvI g P 191 [va_rf (hR h 256 L)] h (fun h' r => h' = h ∧ r = nI zs.length) ∧ ∀ i (hi : i < zs.length), EvA g P 193 [va_rf (hR h 256 L), .int (nI i)] h (fun h' r => h' = h ∧ r = some zs[i].1) := by
  obtain ⟨k1, k2, l, k3, k4, k5, k6⟩ := k.z.calls (P := P)
  rw [List.length_map] at k2 k5
  refine ⟨k1, k2, l, k3, k4, k5, fun i hi => ?_⟩
  have := k6 i (by rw [List.length_map]; exact hi)
  rw [List.getElem_map] at this
  exact this
theorem mkS.no {a : Nat} (kv : svA h v R) (kz : ∀ z ∈ zs, sgX h N U z) (n1 : ¬ svS v R a) (n2 : ¬ hK h a = 9) (n3 : ¬ hK h a = 21) : ¬ mkS v R zs a := by
  rintro (z | ⟨z, hz, e | e⟩)
  · exact n1 z
  · rw [e] at n2; exact n2 (kz z hz).1.1
  · rw [e] at n3; exact n3 (kz z hz).1.2.2.2.2.2.2.2.1.1
theorem mkS.no7 {a : Nat} (kv : svA h v R) (kz : ∀ z ∈ zs, sgX h N U z) (ha : hK h a = 7) : ¬ mkS v R zs a := mkS.no kv kz (svS.no kv ha) (by omega) (by omega)
theorem mkC.sg (w : hWF h) (kv : svA h v R) (kz : ∀ z ∈ zs, sgX h N U z) (sep : sepV v R zs) (c : mkC v R zs h h') : ∀ z ∈ zs, sgX h' N U z := by
  intro z hz
  have k := kz z hz
  obtain ⟨l0, l1, l2, l3, l4, l5, l6⟩ := sgV.lts w k
  obtain ⟨c1, c2, c3⟩ := c
  obtain ⟨n1, n2, n3, n4, n5⟩ := sep z hz
  obtain ⟨a, n, ⟨p1, p2, p3, p4⟩, ⟨q1, q2, q3⟩, ⟨t1, t2, t3, t4⟩⟩ := k
  have a' := a
  obtain ⟨a1, a2, a3, a4, a5, a6, a7, a8, a9, a10, a11, -⟩ := a'
  have ep : ∀ p ∈ zPs z, Sm h h' p := fun p hp => c1.sm (mkS.no7 kv kz (l6 p hp).2) (l6 p hp).1
  have e1 : Sm h h' z.2.1.1 := c1.sm (mkS.no kv kz n1 (by omega) (by omega)) l1
  have e3 : Sm h h' z.2.1.2.2.1 := c1.sm (mkS.no kv kz n3 (by omega) (by omega)) l3
  have e4 : Sm h h' z.2.1.2.2.2.1 := c1.sm (mkS.no kv kz n4 (by omega) (by omega)) l4
  have e5 : Sm h h' z.2.1.2.2.2.2 := c1.sm (mkS.no kv kz n5 (by omega) (by omega)) l5
  refine ⟨?_, ?_, ⟨?_, p2, ?_, fun j hj => ⟨?_, (p4 j hj).2.sm (ep _ (List.getElem_mem hj))⟩⟩, ⟨?_, q2, fun j hj => ⟨?_, (q3 j hj).2⟩⟩, ⟨?_, t2, ?_, fun j hj => ⟨?_, ?_, (t4 j hj).2.2⟩⟩⟩
  · unfold sgA
    rw [c2, (c1.2.1 _ l0).1, (c1.2.1 _ l1).1, (c1.2.1 _ l2).1, (c1.2.1 _ l3).1, (c1.2.1 _ l4).1, (c1.2.1 _ l5).1, (c1.2.1 _ l1).2, (c1.2.1 _ l2).2, (c1.2.1 _ l3).2, (c1.2.1 _ l4).2, (c1.2.1 _ l5).2]
    exact a
  · rw [c3 z hz 512 (by decide)]; exact n
  · rw [c3 z hz 518 (by decide)]; exact p1
  · rw [c3 z hz 520 (by decide), p3]; exact (unS_eq (fun p hp => ((ep p hp).2.1 385).1)).symm
  · rw [(e1.2.2.2 j).2]; exact (p4 j hj).1
  · rw [c3 z hz 519 (by decide)]; exact q1
  · rw [(e3.2.2.2 j).1]; exact (q3 j hj).1
  · rw [c3 z hz 522 (by decide)]; exact t1
  · rw [c3 z hz 523 (by decide)]; exact t3
  · rw [(e4.2.2.2 j).1]; exact (t4 j hj).1
  · rw [(e5.2.2.2 j).1]; exact (t4 j hj).2.1
theorem mkC.lg (w : hWF h) (kv : svA h v R) (k : lgF g h N U L zs) (sep : sepV v R zs) (hg : gOK g h) (c : mkC v R zs h h') : lgF g h' N U L zs := by
  have k' := k
  obtain ⟨k1, l, k2, k3, k4⟩ := k
  have kz : ∀ z ∈ zs, sgX h N U z := fun z hz => (k4 z hz).1
  have kz' := mkC.sg w kv kz sep c
  obtain ⟨c1, c2, c3⟩ := c
  have no : ∀ a, ¬ svS v R a → ¬ hK h a = 9 → ¬ hK h a = 21 → ¬ mkS v R zs a := fun a => mkS.no kv kz
  have nS : ∀ a, (hK h a = 5 ∨ hK h a = 1 ∨ hK h a = 28) → ¬ svS v R a := by
    obtain ⟨j1, -, -, -, -, -, j7, j8, j9, j10, -⟩ := kv
    rintro a ha (z | z | z | z | z) <;> (rw [z] at ha; omega)
  have kL : hK h' L = 5 := by rw [(c1.2.1 L (w.lt (by omega))).1]; exact k1
  obtain ⟨⟨b1, b2, e, b3, b4⟩, b5, b6⟩ := k3
  have sl : Sm h h' l := c1.sm (no l (nS l (by omega)) (by omega) (by omega)) (w.lt (by omega))
  refine ⟨kL, l, by rw [c2]; exact k2, ⟨⟨by rw [sl.1]; exact b1, by rw [(sl.2.1 2).1]; exact b2, e, by rw [c2]; exact b3, ?_⟩, b5, fun x hx => ?_⟩, fun z hz => ⟨kz' z hz, fun q hq => ?_⟩⟩
  · rcases b4 with b4 | ⟨d1, d2, d3, d4, d5⟩
    · exact Or.inl b4
    · have se : Sm h h' e := c1.sm (no e (nS e (by omega)) (by omega) (by omega)) (w.lt (by omega))
      refine Or.inr ⟨by rw [se.1]; exact d1, by rw [se.2.2.1]; exact d2, by rw [se.2.2.1]; exact d3, by rw [se.2.2.1]; exact d4, fun i hi => ?_⟩
      rw [(se.2.2.2 i).2]; exact d5 i hi
  · rw [(c1.2.1 x (w.lt (by rw [b6 x hx]; omega))).1]; exact b6 x hx
  · obtain ⟨o1, o2⟩ := (k4 z hz).2 q hq
    have sq : Sm h h' q := c1.sm (mkS.no7 kv kz o1.1.1) (w.lt (by rw [o1.1.1]; decide))
    refine ⟨o1.sm sq, fun s hs => ?_⟩
    rw [c2] at hs
    have := o2 s hs
    rw [(c1.2.1 s (w.lt (by omega))).1]; exact this
theorem mkC.liv (w : hWF h) (kv : svA h v R) (kz : ∀ z ∈ zs, sgX h N U z) (c : mkC v R zs h h') {q : Nat} (hq : pOK h q) (hl : lOK h q) (S : syT) : livF h' q S = livF h q S := by
  obtain ⟨c1, c2, c3⟩ := c
  have sq : Sm h h' q := c1.sm (mkS.no7 kv kz hq.1.1) (w.lt (by rw [hq.1.1]; decide))
  have eg : goneF h' q = goneF h q := by
    unfold goneF
    rw [c2]
    cases hs : hR h 395 q with
    | none => rfl
    | some s =>
      have ks := hl s hs
      have e : hI h' 524 s = hI h 524 s := by
        by_cases hm : ∃ z ∈ zs, s = z.1
        · obtain ⟨z, hz, e⟩ := hm
          rw [e]; exact c3 z hz 524 (by decide)
        · refine ((c1.sm ?_ (w.lt (by omega))).2.1 524).1
          rintro (z | ⟨z, hz, e | e⟩)
          · obtain ⟨j1, -, -, -, -, -, j7, j8, j9, j10, -⟩ := kv
            rcases z with z | z | z | z | z <;> (rw [z] at ks; omega)
          · exact hm ⟨z, hz, e⟩
          · have := (kz z hz).1.2.2.2.2.2.2.2.1.1
            rw [e] at ks
            unfold zLv at ks
            omega
      show (if hI h' 524 s = 0 then (1 : Int32) else 0) = if hI h 524 s = 0 then 1 else 0
      rw [e]
  unfold livF
  rw [eg, (sq.2.1 384).1, (sq.2.1 393).1, (sq.2.1 390).1, (sq.2.1 389).1, (sq.2.1 388).1, (sq.2.1 394).1]
theorem svC.mk {S : syT} (c : svC v R S h h') (kv : svA h v R) (kz : ∀ z ∈ zs, sgX h N U z) (w : hWF h) : mkC v R zs h h' := by
  refine ⟨c.2.2.1.mono (fun a _ z => Or.inl z) (Nat.le_refl _) (Nat.le_refl _), c.2.2.2, fun z hz f _ => ?_⟩
  have ks := (kz z hz).1.1
  refine ((c.2.2.1.sm ?_ (w.lt (by omega))).2.1 f).1
  obtain ⟨j1, -, -, -, -, -, j7, j8, j9, j10, -⟩ := kv
  rintro (q | q | q | q | q) <;> (rw [q] at ks; omega)
theorem mkC.tr {h1 : hpT} (a : mkC v R zs h h1) (b : mkC v R zs h1 h') : mkC v R zs h h' := ⟨(a.1.tr b.1).mono (fun _ _ z => z.elim id id) (Nat.le_refl _) (Nat.le_refl _), b.2.1.trans a.2.1, fun z hz f nf => (b.2.2 z hz f nf).trans (a.2.2 z hz f nf)⟩
theorem mkC.rf (w : hWF h) : mkC v R zs h h := ⟨Ch.rf w _, rfl, fun _ _ _ _ => rfl⟩
end MARK
