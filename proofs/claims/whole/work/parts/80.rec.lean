/-! Coordinator.recoverDead: what it needs -/
abbrev d0A : alT × Int32 := (([], none, none), 0)
def canA (y : Nat → Nat) (S : stA) (A : alT) : Bool := decide (nI (y 21) + 1 ≤ bcX (nI (upN (tSv S)))) && A.1.all (fun u => decide (¬ mskL u.2.2.2 &&& nI (upN (tSv S)) = 0))
def heA (S : stA) (st : Option Nat × Int32) (i : Nat) : Option Nat × Int32 := if ¬ sSt ((tSv S).getD i sr0) = 0 then st else if ¬ sFe ((tSv S).getD i sr0) = 0 then st else if ¬ sLo ((tSv S).getD i sr0) = 0 then st else if st.2 ≤ tabA (tOw S) (nI i) then st else (some i, tabA (tOw S) (nI i))
def heirA (y : Nat → Nat) (S : stA) : Option Nat := ((List.range (y 20)).foldl (heA S) (none, 9)).1
def stb (S : stA) (j : Nat) (u : Int32) : stA := (S.1, S.2.1, tOw S, (tDe S).set j (((tDe S).getD j d0A).1, u), tDs S, tFo S)
def dtb (S : stA) (j t : Nat) : stA := stb S j (((tDe S).getD j d0A).2 &&& ((1 <<< (nI t &&& 31)) ^^^ (-1)))
def rmD (S : stA) (j : Nat) : stA := (S.1, S.2.1, tOw S, (tDe S).eraseIdx j, tDs S, tFo S)
section REC
variable {g : gcT} {P : pmT} {o o' w w' : Nat → Nat} {y : Nat → Nat} {R R2 : arT} {h h' : hpT} {B : Nat → Prop} {i j t c m : Nat} {ss : List Nat} {Ls : List lsT} {Ds Ds' : List (Nat × Nat)} {S S' : stA} {ps : psT} {kc km kc' km' dd' ff' : Nat} {ow' : List Int32} {de' : List (alT × Int32)}
theorem RS.can (kS : RS g h o w y R R2 ss Ls Ds S) (hj : j < Ds.length) : EvI g P 55 [va_rf (some (y 0)), va_rf (some (Ds.getD j (0, 0)).1)] h (fun h' r => h' = h ∧ r = if canA y S ((tDe S).getD j d0A).1 = true then 1 else 0) := by
  obtain ⟨k0, k1, k4, kse, kde⟩ := kS.kinds
  obtain ⟨⟨xs, st⟩, -⟩ := kS.2.2.1
  obtain ⟨-, -, -, -, s5, s6, s7, s8⟩ := st.1
  obtain ⟨zs, kl, hd, lt, ea⟩ := (kS.2.2.2.2.1.2.2 j hj).1.1
  have hc := m_canRecover (P := P) k0 kl.1.1
  refine Ev.imp hc (fun h' r ⟨v, er, e1, e2⟩ => ⟨v, er, e1, ?_⟩)
  rw [e2, s5, s7]
  have e : ((nI (y 21) + 1 ≤ bcX (nI (upN (tSv S)))) ∧ ∀ z ∈ zs, ¬ (hI h 523 z.1) &&& (nI (upN (tSv S))) = 0) ↔ canA y S ((tDe S).getD j d0A).1 = true := by
    unfold canA
    rw [Bool.and_eq_true, decide_eq_true_eq, List.all_eq_true, ← ea]
    refine and_congr_right (fun _ => ⟨fun k u hu => ?_, fun k z hz => ?_⟩)
    · obtain ⟨z, hz, ez⟩ := List.mem_map.mp hu
      rw [decide_eq_true_eq, ← ez]
      have := k z hz
      rw [(kl.1.sg z hz).2.2.2.2.2.2.1] at this
      exact this
    · have := k (aG h z) (List.mem_map_of_mem hz)
      rw [decide_eq_true_eq] at this
      rw [(kl.1.sg z hz).2.2.2.2.2.2.1]
      exact this
  by_cases q : canA y S ((tDe S).getD j d0A).1 = true
  · rw [if_pos q, if_pos (e.mpr q)]
  · rw [if_neg q, if_neg (fun z => q (e.mp z))]
theorem tabN_A (kd : rsD g h o y R2 Ds (tOw S) (tDs S) (tFo S)) (v : Int32) : tabN h (y 5) v = tabA (tOw S) v := by
  obtain ⟨-, ⟨b1, b2, b3, b4, b5, b6⟩, -⟩ := kd
  unfold tabN tabA
  have : ∀ (l : List Nat) (t : Int32), (∀ j ∈ l, j < 8) → l.foldl (tabF h (y 5) v) t = l.foldl (fun t j => if (tOw S).getD j 0 = v then t + 1 else t) t := by
    intro l
    induction l with
    | nil => intro t _; rw [List.foldl_nil, List.foldl_nil]
    | cons j l ih =>
      intro t hl
      rw [List.foldl_cons, List.foldl_cons]
      have : tabF h (y 5) v t j = if (tOw S).getD j 0 = v then t + 1 else t := by
        unfold tabF
        rw [b6 j (hl j List.mem_cons_self)]
      rw [this]
      exact ih _ (fun j hj => hl j (List.mem_cons_of_mem _ hj))
  exact this _ 0 (fun j hj => List.mem_range.mp hj)
theorem RS.heir (kS : RS g h o w y R R2 ss Ls Ds S) : EvA g P 14 [va_rf (some (y 4))] h (fun h' r => h' = h ∧ r = (heirA y S).map (fun i => ss.getD i 0)) := by
  obtain ⟨k0, k1, k4, kse, kde⟩ := kS.kinds
  have kD := kS.2.2.2.2.2
  obtain ⟨⟨xs, st⟩, -⟩ := kS.2.2.1
  have e643 : hR h 643 (y 0) = some (y 1) := st.1.2.1
  obtain ⟨⟨l1, l2, l3⟩, ⟨v, oe⟩, kb⟩ := kS.2.2.2.1
  obtain ⟨b1, b2, b3, b4, b5, b6⟩ := kD.2.1
  have hh := m_heir (g := g) (P := P) k4 kD.1.2.2 k0 e643 v b1 b2 b3
  refine Ev.imp hh (fun h' r ⟨x, er, e1, e2⟩ => ⟨x, er, e1, ?_⟩)
  rw [e2, l1]
  have tb := tabN_A kD
  have key : ∀ (l : List Nat) (st st' : Option Nat × Int32), (∀ i ∈ l, i < y 20) → st.1 = st'.1.map (fun i => ss.getD i 0) → st.2 = st'.2 → (l.foldl (heF h (y 5) ss) st).1 = (l.foldl (heA S) st').1.map (fun i => ss.getD i 0) := by
    intro l
    induction l with
    | nil => intro st st' _ e _; rw [List.foldl_nil, List.foldl_nil]; exact e
    | cons i l ih =>
      intro st st' hl e f
      rw [List.foldl_cons, List.foldl_cons]
      have hi := hl i List.mem_cons_self
      obtain ⟨-, ⟨c1, c2, c3, -⟩, -⟩ := kb i hi
      have e1 : (heF h (y 5) ss st i).1 = (heA S st' i).1.map (fun i => ss.getD i 0) ∧ (heF h (y 5) ss st i).2 = (heA S st' i).2 := by
        unfold heF heA
        rw [c1, c2, c3, tb, f]
        split
        · exact ⟨e, f⟩
        · split
          · exact ⟨e, f⟩
          · split
            · exact ⟨e, f⟩
            · split
              · exact ⟨e, f⟩
              · exact ⟨rfl, rfl⟩
      exact ih _ _ (fun j hj => hl j (List.mem_cons_of_mem _ hj)) e1.1 e1.2
  exact key _ _ _ (fun i hi => List.mem_range.mp hi) rfl rfl
theorem heirA_lt (e : heirA y S = some i) : i < y 20 := by
  have key : ∀ (l : List Nat) (st : Option Nat × Int32), (∀ i ∈ l, i < y 20) → (∀ i, st.1 = some i → i < y 20) → ∀ i, (l.foldl (heA S) st).1 = some i → i < y 20 := by
    intro l
    induction l with
    | nil => intro st _ e i hi; exact e i hi
    | cons a l ih =>
      intro st hl e i hi
      rw [List.foldl_cons] at hi
      refine ih _ (fun j hj => hl j (List.mem_cons_of_mem _ hj)) (fun i hi => ?_) i hi
      unfold heA at hi
      split at hi
      · exact e i hi
      · split at hi
        · exact e i hi
        · split at hi
          · exact e i hi
          · split at hi
            · exact e i hi
            · have hi : some a = some i := hi
              cases hi
              exact hl a List.mem_cons_self
  exact key _ (none, 9) (fun i hi => List.mem_range.mp hi) (fun i hi => by cases hi) i e
theorem rsC.ne (kC : rsC g h o w y Ds de' t) (hi : i < Ds.length) (hj : j < Ds.length) (n : ¬ i = j) : ¬ (Ds.getD i (0, 0)).1 = (Ds.getD j (0, 0)).1 := by
  have gd : ∀ k (hk : k < Ds.length), (Ds.getD k (0, 0)).1 = (Ds.map (·.1))[k]'(by rw [List.length_map]; exact hk) := by
    intro k hk
    rw [List.getElem_map, List.getD_eq_getElem?_getD, List.getElem?_eq_getElem hk]; rfl
  have pw := List.pairwise_iff_getElem.mp kC.2.1
  rw [gd i hi, gd j hj]
  rcases Nat.lt_trichotomy i j with q | q | q
  · exact pw i j _ _ q
  · exact absurd q n
  · exact fun e => pw j i _ _ q e.symm
theorem RS.stb (kS : RS g h o w y R R2 ss Ls Ds S) (hj : j < Ds.length) (u : Int32) : RS g (hpI h 259 (Ds.getD j (0, 0)).1 u) o w y R R2 ss Ls Ds (stb S j u) ∧ CG (fun z => z = (Ds.getD j (0, 0)).1) 0 0 h o (hpI h 259 (Ds.getD j (0, 0)).1 u) o ∧ fxC g (hpI h 259 (Ds.getD j (0, 0)).1 u) y = fxC g h y := by
  obtain ⟨k0, k1, k4, kse, kde⟩ := kS.kinds
  obtain ⟨⟨wf, hg, ok⟩, ⟨yo, hnm, k9, k12⟩, kA, kB, kC, kD⟩ := kS
  obtain ⟨kL, oL, wL⟩ := kde j hj
  have cg : CG (fun z => z = (Ds.getD j (0, 0)).1) 0 0 h o (hpI h 259 (Ds.getD j (0, 0)).1 u) o := CG.wI wf ok (by omega) (by omega) (by rw [oL]; exact oL) (by decide)
  have neL : ∀ z, ¬ hK h z = 5 → ¬ z = (Ds.getD j (0, 0)).1 := fun z hz => kinds_ne (h := h) (by omega)
  have neW : ∀ z, ¬ w z = 2 → ¬ z = (Ds.getD j (0, 0)).1 := fun z hz q => hz (by rw [q]; exact wL)
  refine ⟨⟨⟨cg.w, hg.ch cg.1, ok⟩, ⟨yo, hnm, k9, k12⟩, rsA.fr wf hg kA cg (neL _ (by omega)), rsB.fr wf hg kB cg (fun i hi => ?_) (neL _ (by omega)) (Nat.le_refl _), ⟨?_, kC.2.1, fun i hi => ?_⟩, rsD.wL kD (by decide)⟩, cg, rfl⟩
  · obtain ⟨t1, t2, t3, t4, t5, t6⟩ := kse i hi
    exact ⟨neL _ (by omega), neW _ (by omega), fun z hz => neW _ (by have := (t6 z hz).2.2; omega)⟩
  · show _ = ((tDe S).set j _).length
    rw [List.length_set]; exact kC.1
  · show dedR _ _ _ _ _ _ _ _ (((tDe S).set j (((tDe S).getD j d0A).1, u)).getD i _)
    have lD : Ds.length = (tDe S).length := kC.1
    by_cases q : i = j
    · subst q
      rw [gS (by omega)]
      exact ⟨(kC.2.2 i hi).1.wT, wL⟩
    · rw [gN q]
      exact ⟨(kC.2.2 i hi).1.fr wf hg cg (rsC.ne kC hi hj q) (Nat.le_refl _), (kC.2.2 i hi).2⟩
theorem RS.kpC (kS : RS g h o w y R R2 ss Ls Ds S) (cg : CG (fun z => z = y 4) c m h o h' o') (kd : rsD g h' o' y R2 Ds' ow' dd' ff') (kC : rsC g h o w y Ds' de' (tNm S)) : RS g h' o' w y R R2 ss Ls Ds' (S.1, S.2.1, ow', de', dd', ff') ∧ CG (Bs y) c m h o h' o' ∧ capO g h' (y 3) = capO g h (y 3) := by
  obtain ⟨k0, k1, k4, kse, -⟩ := kS.kinds
  obtain ⟨⟨wf, hg, ok⟩, ⟨yo, hnm, k9, k12⟩, kA, kB, -, kD⟩ := kS
  have ne : ∀ z, ¬ hK h z = 4 → ¬ z = y 4 := fun z hz => kinds_ne (h := h) (by omega)
  refine ⟨⟨⟨cg.w, hg.ch cg.1, cg.2.2.1⟩, ⟨yo, hnm, by rw [(cg.1.2.1 _ (wf.lt (by omega))).1]; exact k9, by rw [(cg.1.2.1 _ (wf.lt (by omega))).1]; exact k12⟩, rsA.fr wf hg kA cg (ne _ (by omega)), rsB.fr wf hg kB cg (fun j hj => ⟨ne _ (by have := (kse j hj).1; omega), ne _ (by have := (kse j hj).2.2.1; omega), fun z hz => ne _ (by have := ((kse j hj).2.2.2.2.2 z hz).1; omega)⟩) (ne _ (by omega)) (Nat.le_refl _), rsC.fr wf hg kC cg (fun j hj => ne _ (by have := (kC.2.2 j hj).1.1.r.2; omega)) (Nat.le_refl _) (fun _ _ => rfl), kd⟩, cg.mono ok (fun z _ q => ?_) (Nat.le_refl _) (Nat.le_refl _), ?_⟩
  · rw [q]; exact ⟨kinds_ne (h := h) (by omega), kinds_ne (h := h) (by omega)⟩
  · obtain ⟨⟨xs, st⟩, -⟩ := kA
    have := st.2.2.2.2.1.1.1
    exact capO.fr wf st.2.2.2.2.1 cg.1 (cg.sm wf (by rw [st.2.2.2.2.2.1, st.2.1.1]; exact ne _ (by omega)) (by omega))
theorem getD_er {α : Type} {l : List α} {i j : Nat} {d : α} : (l.eraseIdx j).getD i d = if i < j then l.getD i d else l.getD (i + 1) d := by
  rw [List.getD_eq_getElem?_getD, List.getElem?_eraseIdx]
  split
  · rw [List.getD_eq_getElem?_getD]
  · rw [List.getD_eq_getElem?_getD]
theorem RS.rm6 (kS : RS g h o w y R R2 ss Ls Ds S) (hj : j < Ds.length) : EvA g P 197 [va_rf (some (y 6)), .int (nI j)] h (fun h' _ => RS g h' o w y R R2 ss Ls (Ds.eraseIdx j) (rmD S j) ∧ CG (Bs y) 0 0 h o h' o ∧ fxC g h' y = fxC g h y) := by
  have kS' := kS
  obtain ⟨⟨wf, hg, ok⟩, ⟨yo, hnm, k9, k12⟩, kA, kB, kC, kD⟩ := kS'
  have n68 := yo.2.2.2.2.2
  obtain ⟨⟨a1, a2, a3⟩, ⟨b1, b2, b3, b4, b5, b6⟩, ⟨c1, c2, c3⟩, ⟨d1, d2, d3, d4⟩, ⟨e1, ⟨ms, e2⟩, e3⟩, f1, f2⟩ := kD
  refine Ev.imp (m_remove wf hg c2 (i := j) (by rw [List.length_map]; exact hj)) (fun h' r ⟨x, er, _, A1, A2, A3, A4⟩ => ⟨x, er, ?_⟩)
  have cg := cgL wf hg c2 c3 a2 A4 (fun _ _ => rfl) ok
  have so : ∀ z, ¬ hK h z = 0 → ¬ hK h z = 1 → ¬ hK h z = 28 → Sm h h' z := by
    intro z z0 z1 z28
    refine A4.sm ?_ (wf.lt z0)
    rintro (q | q)
    · rw [q] at z1; exact z1 c2.1.1
    · rcases row28 hg c2 z q with q | q <;> contradiction
  have k8 := e2.1.1
  have k7 := d2.1
  have s8 : Sm h h' (y 8) := by
    refine A4.sm ?_ (wf.lt (by omega))
    rintro (q | q)
    · exact n68 q.symm
    · rcases row28 hg c2 _ q with q | q <;> omega
  have s4 := so (y 4) (by omega) (by omega) (by omega)
  have s5 := so (y 5) (by omega) (by omega) (by omega)
  have s7 := so (y 7) (by omega) (by omega) (by omega)
  have t8 : tLs g h' 6 (y 8) ms := by
    refine e2.fr wf A4 s8 (fun d hd kd => A4.sm ?_ (wf.lt (by omega)))
    rintro (q | q)
    · rw [q] at kd; have := c2.1.1; omega
    · exact n68 ((c3.2 d q kd).symm.trans (e3.2 d hd kd))
  have ow6 : ownL h' o (y 4) (y 6) := by
    refine ⟨c3.1, fun d hd kd => ?_⟩
    rw [A3] at hd
    rcases row28 hg c2 d hd with z | z
    · obtain ⟨⟨-, -, d', b3', b4'⟩, -, -⟩ := c2
      rw [b3'] at hd
      cases hd
      rcases b4' with ⟨b4', -⟩ | ⟨b4', -⟩
      · rw [b4', (A4.2.1 _ hg.2.2.2.2).1, hg.2.1] at kd
        exact absurd kd (by decide)
      · omega
    · exact c3.2 d hd z
  have em : rmv (Ds.map (·.1)) j = (Ds.eraseIdx j).map (·.1) := by
    unfold rmv
    rw [List.eraseIdx_eq_take_drop_succ, List.map_append, List.map_take, List.map_drop]
  rw [em] at A1
  have kd : rsD g h' o y R2 (Ds.eraseIdx j) (tOw S) (tDs S) (tFo S) := ⟨⟨by rw [s4.1]; exact a1, a2, by rw [(s4.2.1 192).2]; exact a3⟩, ⟨by rw [(s4.2.1 193).2]; exact b1, by rw [s5.1]; exact b2, by rw [s5.2.2.1]; exact b3, b4, b5, fun j hj => by rw [(s5.2.2.2 j).1]; exact b6 j hj⟩, ⟨by rw [(s4.2.1 194).2]; exact c1, A1, ow6⟩, ⟨by rw [(s4.2.1 195).2]; exact d1, d2.ch wf cg.1 (fun f => (s7.2.1 f).2), d3, d4⟩, ⟨by rw [(s4.2.1 196).2]; exact e1, ⟨ms, t8⟩, ownL.fr wf hg e2 e3 cg s8⟩, by rw [(s4.2.1 197).1]; exact f1, by rw [(s4.2.1 198).1]; exact f2⟩
  have lD : Ds.length = (tDe S).length := kC.1
  have kC' : rsC g h o w y (Ds.eraseIdx j) ((tDe S).eraseIdx j) (tNm S) := by
    refine ⟨by rw [List.length_eraseIdx, List.length_eraseIdx, lD], ?_, fun i hi => ?_⟩
    · exact kC.2.1.sublist ((List.eraseIdx_sublist _ _).map _)
    · rw [List.length_eraseIdx, if_pos hj] at hi
      rw [getD_er, getD_er]
      split
      · exact kC.2.2 i (by omega)
      · exact kC.2.2 (i + 1) (by omega)
  obtain ⟨r1, r2, r3⟩ := RS.kpC kS cg kd kC'
  exact ⟨r1, r2, by unfold fxC; rw [r3, A2, capO.fr wf e2 A4 s8]⟩
theorem sum_er (f : Nat × Nat → Nat) : ∀ (l : List (Nat × Nat)) (j : Nat), ((l.eraseIdx j).map f).sum ≤ (l.map f).sum := by
  intro l
  induction l with
  | nil => intro j; rw [List.eraseIdx_nil]; exact Nat.le_refl _
  | cons a l ih =>
    intro j
    cases j with
    | zero => rw [List.eraseIdx_cons_zero, List.map_cons, List.sum_cons]; omega
    | succ j =>
      rw [List.eraseIdx_cons_succ, List.map_cons, List.sum_cons, List.map_cons, List.sum_cons]
      have := ih j
      omega
end REC
