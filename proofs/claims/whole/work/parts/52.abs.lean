/-! PARTS and SEGMENTS without addresses; what is LIVE, told without addresses -/
abbrev pT := ptT × Int32
def hmF (h : hpT) (q : Nat) : Int32 := match hR h 395 q with
  | some s => hI h 512 s
  | none => -1
def pA (h : hpT) (q : Nat) : pT := (ptv h q, hmF h q)
def pKd (p : pT) : Int32 := p.1.1
def pCl (p : pT) : Int32 := p.1.2.1
def pNu (p : pT) : Int32 := p.1.2.2.1
def pKy (p : pT) : Int32 := p.1.2.2.2.1
def pSt (p : pT) : Int32 := p.1.2.2.2.2.1
def pVa (p : pT) : Int32 := p.1.2.2.2.2.2.1
def pVe (p : pT) : Int32 := p.1.2.2.2.2.2.2.1
def pAc (p : pT) : Int32 := p.1.2.2.2.2.2.2.2
/-- NAME, PARTS, ends of ENTRIES, HOLDERS (server, ENTRIES held) -/
abbrev agT := Nat × List pT × List Nat × List (Nat × Nat)
def aG (h : hpT) (z : svT) : agT := (nmN z, (zPs z).map (pA h), z.2.2.2.2.1, z.2.2.2.2.2)
abbrev saT := (Nat → Int32) × (Nat → Int32) × (Nat → Int32)
def prj (S : syT) : saT := (S.1, S.2.1, S.2.2.1)
def saE (S T : saT) : Prop := (∀ i, i < 6 → S.1 i = T.1 i ∧ S.2.1 i = T.2.1 i) ∧ ∀ i, i < 64 → S.2.2 i = T.2.2 i
def la2 (p : pT) (S : saT) : saT := if kT (pKd p) = 0 then S else if pAc p ≤ S.1 (pCl p).toNatClampNeg then S else (u1 S.1 (pCl p).toNatClampNeg (pAc p), u1 S.2.1 (pCl p).toNatClampNeg 0, S.2.2)
def la3 (p : pT) (S : saT) : saT := if ¬ pKd p = 4 then S else if ¬ pAc p = S.1 (pCl p).toNatClampNeg then S else (S.1, u1 S.2.1 (pCl p).toNatClampNeg 1, S.2.2)
def la4 (p : pT) (S : saT) : saT := if kM (pKd p) = 0 then S else if pVe p ≤ S.2.2 (pKy p).toNatClampNeg then S else (S.1, S.2.1, u1 S.2.2 (pKy p).toNatClampNeg (pVe p))
def lrnA (S : saT) (p : pT) : saT := la4 p (la3 p (la2 p S))
def livA (nms : List Nat) (S : saT) (p : pT) : Int32 × saT :=
  if pKd p = 2 then (if pVe p = S.2.2 (pKy p).toNatClampNeg then 1 else 0, S)
  else if pKd p = 3 then (if nms.any (fun n => decide (p.2 = nI n)) = true then 1 else 0, S)
  else if pKd p = 4 then (if pNu p < S.1 (pCl p).toNatClampNeg then 0 else 1, S)
  else if ¬ pKd p = 1 then (0, S)
  else if ¬ pAc p = S.1 (pCl p).toNatClampNeg then (0, S)
  else if ¬ S.2.1 (pCl p).toNatClampNeg = 0 then (0, S)
  else (1, S.1, u1 S.2.1 (pCl p).toNatClampNeg 1, S.2.2)
def lv1 (nms : List Nat) (acc : List Int32 × Int32 × saT) (p : pT) : List Int32 × Int32 × saT := (acc.1 ++ [(livA nms acc.2.2 p).1], acc.2.1 + (if (livA nms acc.2.2 p).1 = 0 then 0 else kU (pKd p)), (livA nms acc.2.2 p).2)
def lvSA (nms : List Nat) (S : saT) (ps : List pT) : List Int32 × Int32 × saT := ps.foldl (lv1 nms) ([], 0, S)
def b0A : saT := (fun _ => 1, fun _ => 0, fun _ => 0)
def mk1 (nms : List Nat) (acc : List (List Int32 × Int32) × saT) (a : agT) : List (List Int32 × Int32) × saT := (acc.1 ++ [((lvSA nms acc.2 a.2.1).1, (lvSA nms acc.2 a.2.1).2.1)], (lvSA nms acc.2 a.2.1).2.2)
def mkA (A : List agT) : List (List Int32 × Int32) := (A.foldl (mk1 (A.map (·.1))) ([], ((A.map (·.2.1)).flatten).foldl lrnA b0A)).1
section ABS
variable {g : gcT} {o : Nat → Nat} {h h' : hpT} {N U L nx : Nat} {zs : List svT}
theorem pA_sm {q : Nat} (e : Sm h h' q) (eh : ∀ s, hR h 395 q = some s → hI h' 512 s = hI h 512 s) : pA h' q = pA h q := by
  unfold pA ptv hmF
  rw [(e.2.1 384).1, (e.2.1 388).1, (e.2.1 389).1, (e.2.1 390).1, (e.2.1 391).1, (e.2.1 392).1, (e.2.1 393).1, (e.2.1 394).1, (e.2.1 395).2]
  cases hs : hR h 395 q with
  | none => rfl
  | some s =>
    dsimp only
    rw [eh s hs]
theorem saE.rf (S : saT) : saE S S := ⟨fun _ _ => ⟨rfl, rfl⟩, fun _ _ => rfl⟩
theorem vin_lt {x : Int32} {n : Nat} (v : vinD x n) : x.toNatClampNeg < n := by
  rcases Nat.lt_or_ge x.toNatClampNeg n with q | q
  · exact q
  · exact absurd (Or.inr q) v
theorem lrn_A {q : Nat} (k : pOK h q) {S : syT} {T : saT} (e : saE (prj S) T) : saE (prj (lrn h q S)) (lrnA T (pA h q)) := by
  obtain ⟨⟨-, -, km, kt⟩, k2, k3⟩ := k
  have e1 : prj (lr1 h q S) = prj S := by unfold lr1; split <;> rfl
  have e2 : saE (prj (lr2 h q (lr1 h q S))) (la2 (pA h q) T) := by
    rw [← e1] at e
    generalize lr1 h q S = S1 at e
    unfold lr2 la2
    by_cases c1 : hI h 387 q = 0
    · rw [if_pos c1, if_pos (show kT (pKd (pA h q)) = 0 from kt.symm.trans c1)]; exact e
    · have hc := vin_lt (k2 c1)
      rw [if_neg c1, if_neg (show ¬ kT (pKd (pA h q)) = 0 from fun z => c1 (kt.trans z))]
      show saE (prj (if hI h 394 q ≤ S1.1 (hI h 388 q).toNatClampNeg then _ else _)) (if hI h 394 q ≤ T.1 (hI h 388 q).toNatClampNeg then _ else _)
      rw [← (e.1 _ hc).1]
      show saE (prj (if hI h 394 q ≤ S1.1 (hI h 388 q).toNatClampNeg then _ else _)) (if hI h 394 q ≤ S1.1 (hI h 388 q).toNatClampNeg then _ else _)
      split
      · exact e
      · refine ⟨fun j hj => ⟨?_, ?_⟩, e.2⟩
        · show (if j = _ then _ else S1.1 j) = if j = _ then _ else T.1 j
          rw [← (e.1 j hj).1]; rfl
        · show (if j = _ then _ else S1.2.1 j) = if j = _ then _ else T.2.1 j
          rw [← (e.1 j hj).2]; rfl
  have e3 : saE (prj (lr3 h q (lr2 h q (lr1 h q S)))) (la3 (pA h q) (la2 (pA h q) T)) := by
    generalize lr2 h q (lr1 h q S) = S1 at e2
    generalize la2 (pA h q) T = T1 at e2
    unfold lr3 la3
    show saE (prj (if ¬ hI h 384 q = 4 then _ else _)) (if ¬ hI h 384 q = 4 then _ else _)
    by_cases c1 : hI h 384 q = 4
    · rw [if_neg (not_not_intro c1), if_neg (not_not_intro c1)]
      have c387 : ¬ hI h 387 q = 0 := by rw [kt, c1]; decide
      have hc := vin_lt (k2 c387)
      show saE (prj (if ¬ hI h 394 q = S1.1 (hI h 388 q).toNatClampNeg then _ else _)) (if ¬ hI h 394 q = T1.1 (hI h 388 q).toNatClampNeg then _ else _)
      rw [← (e2.1 _ hc).1]
      show saE (prj (if ¬ hI h 394 q = S1.1 (hI h 388 q).toNatClampNeg then _ else _)) (if ¬ hI h 394 q = S1.1 (hI h 388 q).toNatClampNeg then _ else _)
      split
      · exact e2
      · refine ⟨fun j hj => ⟨(e2.1 j hj).1, ?_⟩, e2.2⟩
        show (if j = _ then _ else S1.2.1 j) = if j = _ then _ else T1.2.1 j
        rw [← (e2.1 j hj).2]; rfl
    · rw [if_pos c1, if_pos c1]; exact e2
  unfold lrn lrnA
  generalize lr3 h q (lr2 h q (lr1 h q S)) = S1 at e3
  generalize la3 (pA h q) (la2 (pA h q) T) = T1 at e3
  unfold lr4 la4
  by_cases c1 : hI h 386 q = 0
  · rw [if_pos c1, if_pos (show kM (pKd (pA h q)) = 0 from km.symm.trans c1)]; exact e3
  · have hc := vin_lt (k3 c1)
    rw [if_neg c1, if_neg (show ¬ kM (pKd (pA h q)) = 0 from fun z => c1 (km.trans z))]
    show saE (prj (if hI h 393 q ≤ S1.2.2.1 (hI h 390 q).toNatClampNeg then _ else _)) (if hI h 393 q ≤ T1.2.2 (hI h 390 q).toNatClampNeg then _ else _)
    rw [← e3.2 _ hc]
    show saE (prj (if hI h 393 q ≤ S1.2.2.1 (hI h 390 q).toNatClampNeg then _ else _)) (if hI h 393 q ≤ S1.2.2.1 (hI h 390 q).toNatClampNeg then _ else _)
    split
    · exact e3
    · refine ⟨e3.1, fun j hj => ?_⟩
      show (if j = _ then _ else S1.2.2.1 j) = if j = _ then _ else T1.2.2 j
      rw [← e3.2 j hj]; rfl
theorem tomb_A (k : lgK g h o N U L nx zs) (hx : nx ≤ 100000000) {z : svT} (hz : z ∈ zs) {q : Nat} (hq : q ∈ zPs z) (e3 : hI h 384 q = 3) : goneF h q = if (zs.map nmN).any (fun n => decide ((pA h q).2 = nI n)) = true then 1 else 0 := by
  obtain ⟨s, n, a1, a2, a3, a4, a5, a6, a7⟩ := k.2.2.2 z hz q hq e3
  have e : (pA h q).2 = nI n := by
    show hmF h q = _
    unfold hmF
    rw [a1]; exact a4
  unfold goneF
  rw [a1, e]
  show (if hI h 524 s = 0 then (1 : Int32) else 0) = _
  by_cases c : hI h 524 s = 0
  · rw [if_pos c, if_pos]
    obtain ⟨y, hy, ey⟩ := a6 c
    refine List.any_eq_true.mpr ⟨nmN y, List.mem_map_of_mem hy, decide_eq_true ?_⟩
    have := (k.1.sg y hy).2.1
    rw [ey, a4, (k.1.2.2.2.1 y hy).1] at this
    exact this
  · rw [if_neg c, if_neg]
    intro q'
    obtain ⟨x, hx', ex⟩ := List.any_eq_true.mp q'
    obtain ⟨y, hy, ey⟩ := List.mem_map.mp hx'
    have ex := of_decide_eq_true ex
    have hyn := k.2.2.1 y hy
    have : n = x := nI_inj (by omega) (by omega) ex
    have := a7 y hy (by omega)
    exact c (by rw [← this]; exact (k.1.2.2.1 y hy).2.2)
theorem liv_A (k : lgK g h o N U L nx zs) (hx : nx ≤ 100000000) {z : svT} (hz : z ∈ zs) {q : Nat} (hq : q ∈ zPs z) {S : syT} {T : saT} (e : saE (prj S) T) : (livF h q S).1 = (livA (zs.map nmN) T (pA h q)).1 ∧ saE (prj (livF h q S).2) (livA (zs.map nmN) T (pA h q)).2 := by
  obtain ⟨⟨⟨-, -, km, kt⟩, k2, k3⟩, -⟩ := (k.1.1.2.choose_spec.2.2 z hz).2 q hq
  have hcl : kT (hI h 384 q) ≠ 0 → (hI h 388 q).toNatClampNeg < 6 := fun c => vin_lt (k2 (by rw [kt]; exact c))
  have hky : kM (hI h 384 q) ≠ 0 → (hI h 390 q).toNatClampNeg < 64 := fun c => vin_lt (k3 (by rw [km]; exact c))
  unfold livF livA
  by_cases c2 : hI h 384 q = 2
  · rw [if_pos c2, if_pos (show pKd (pA h q) = 2 from c2)]
    refine ⟨?_, e⟩
    show (if hI h 393 q = S.2.2.1 (hI h 390 q).toNatClampNeg then (1 : Int32) else 0) = if hI h 393 q = T.2.2 (hI h 390 q).toNatClampNeg then 1 else 0
    rw [← e.2 _ (hky (by rw [c2]; decide))]; rfl
  rw [if_neg c2, if_neg (show ¬ pKd (pA h q) = 2 from c2)]
  by_cases c3 : hI h 384 q = 3
  · rw [if_pos c3, if_pos (show pKd (pA h q) = 3 from c3)]
    exact ⟨tomb_A k hx hz hq c3, e⟩
  rw [if_neg c3, if_neg (show ¬ pKd (pA h q) = 3 from c3)]
  by_cases c4 : hI h 384 q = 4
  · rw [if_pos c4, if_pos (show pKd (pA h q) = 4 from c4)]
    refine ⟨?_, e⟩
    show (if hI h 389 q < S.1 (hI h 388 q).toNatClampNeg then (0 : Int32) else 1) = if hI h 389 q < T.1 (hI h 388 q).toNatClampNeg then 0 else 1
    rw [← (e.1 _ (hcl (by rw [c4]; decide))).1]; rfl
  rw [if_neg c4, if_neg (show ¬ pKd (pA h q) = 4 from c4)]
  by_cases c1 : hI h 384 q = 1
  · rw [if_neg (not_not_intro c1), if_neg (show ¬ ¬ pKd (pA h q) = 1 from not_not_intro c1)]
    have hc := hcl (by rw [c1]; decide)
    show (if ¬ hI h 394 q = S.1 (hI h 388 q).toNatClampNeg then ((0 : Int32), S) else _).1 = (if ¬ hI h 394 q = T.1 (hI h 388 q).toNatClampNeg then ((0 : Int32), T) else if ¬ T.2.1 (hI h 388 q).toNatClampNeg = 0 then (0, T) else (1, T.1, u1 T.2.1 (hI h 388 q).toNatClampNeg 1, T.2.2)).1 ∧ saE (prj (if ¬ hI h 394 q = S.1 (hI h 388 q).toNatClampNeg then ((0 : Int32), S) else _).2) (if ¬ hI h 394 q = T.1 (hI h 388 q).toNatClampNeg then ((0 : Int32), T) else if ¬ T.2.1 (hI h 388 q).toNatClampNeg = 0 then (0, T) else (1, T.1, u1 T.2.1 (hI h 388 q).toNatClampNeg 1, T.2.2)).2
    rw [← (e.1 _ hc).1, ← (e.1 _ hc).2]
    show (if ¬ hI h 394 q = S.1 (hI h 388 q).toNatClampNeg then ((0 : Int32), S) else _).1 = (if ¬ hI h 394 q = S.1 (hI h 388 q).toNatClampNeg then ((0 : Int32), T) else if ¬ S.2.1 (hI h 388 q).toNatClampNeg = 0 then (0, T) else (1, T.1, u1 T.2.1 (hI h 388 q).toNatClampNeg 1, T.2.2)).1 ∧ saE (prj (if ¬ hI h 394 q = S.1 (hI h 388 q).toNatClampNeg then ((0 : Int32), S) else _).2) (if ¬ hI h 394 q = S.1 (hI h 388 q).toNatClampNeg then ((0 : Int32), T) else if ¬ S.2.1 (hI h 388 q).toNatClampNeg = 0 then (0, T) else (1, T.1, u1 T.2.1 (hI h 388 q).toNatClampNeg 1, T.2.2)).2
    by_cases d1 : hI h 394 q = S.1 (hI h 388 q).toNatClampNeg
    · rw [if_neg (not_not_intro d1), if_neg (not_not_intro d1)]
      by_cases d2 : S.2.1 (hI h 388 q).toNatClampNeg = 0
      · rw [if_neg (not_not_intro d2), if_neg (not_not_intro d2)]
        refine ⟨rfl, fun j hj => ⟨(e.1 j hj).1, ?_⟩, e.2⟩
        show (if j = _ then _ else S.2.1 j) = if j = _ then _ else T.2.1 j
        rw [← (e.1 j hj).2]; rfl
      · rw [if_pos d2, if_pos d2]; exact ⟨rfl, e⟩
    · rw [if_pos d1, if_pos d1]; exact ⟨rfl, e⟩
  · rw [if_pos c1, if_pos (show ¬ pKd (pA h q) = 1 from c1)]; exact ⟨rfl, e⟩
theorem lvS_A (k : lgK g h o N U L nx zs) (hx : nx ≤ 100000000) {z : svT} (hz : z ∈ zs) {S : syT} {T : saT} (e : saE (prj S) T) : (lvS h S (zPs z)).1 = (lvSA (zs.map nmN) T ((zPs z).map (pA h))).1 ∧ (lvS h S (zPs z)).2.1 = (lvSA (zs.map nmN) T ((zPs z).map (pA h))).2.1 ∧ saE (prj (lvS h S (zPs z)).2.2) (lvSA (zs.map nmN) T ((zPs z).map (pA h))).2.2 := by
  have : ∀ (ps : List Nat) (acc : List Int32 × Int32 × syT) (acc' : List Int32 × Int32 × saT), (∀ q ∈ ps, q ∈ zPs z) → acc.1 = acc'.1 → acc.2.1 = acc'.2.1 → saE (prj acc.2.2) acc'.2.2 → (ps.foldl (lvA h) acc).1 = ((ps.map (pA h)).foldl (lv1 (zs.map nmN)) acc').1 ∧ (ps.foldl (lvA h) acc).2.1 = ((ps.map (pA h)).foldl (lv1 (zs.map nmN)) acc').2.1 ∧ saE (prj (ps.foldl (lvA h) acc).2.2) ((ps.map (pA h)).foldl (lv1 (zs.map nmN)) acc').2.2 := by
    intro ps
    induction ps with
    | nil => intro acc acc' _ e1 e2 e3; exact ⟨e1, e2, e3⟩
    | cons q ps ih =>
      intro acc acc' hm e1 e2 e3
      have hq := hm q List.mem_cons_self
      obtain ⟨f1, f2⟩ := liv_A k hx hz hq e3
      have k385 := ((k.1.1.2.choose_spec.2.2 z hz).2 q hq).1.1.2.1
      rw [List.foldl_cons, List.map_cons, List.foldl_cons]
      refine ih _ _ (fun y hy => hm y (List.mem_cons_of_mem _ hy)) ?_ ?_ f2
      · show acc.1 ++ [(livF h q acc.2.2).1] = acc'.1 ++ [(livA (zs.map nmN) acc'.2.2 (pA h q)).1]
        rw [e1, f1]
      · show acc.2.1 + (if (livF h q acc.2.2).1 = 0 then 0 else hI h 385 q) = acc'.2.1 + (if (livA (zs.map nmN) acc'.2.2 (pA h q)).1 = 0 then 0 else kU (hI h 384 q))
        rw [e2, f1, k385]
  exact this (zPs z) ([], 0, S) ([], 0, T) (fun _ hq => hq) rfl rfl e
theorem lrL_A (k : lgK g h o N U L nx zs) {S : syT} {T : saT} (e : saE (prj S) T) : saE (prj (lrL h zs S)) ((((zs.map (aG h)).map (·.2.1)).flatten).foldl lrnA T) := by
  have : ∀ (ps : List Nat) (S : syT) (T : saT), (∀ q ∈ ps, pOK h q) → saE (prj S) T → saE (prj (ps.foldl (fun S q => lrn h q S) S)) ((ps.map (pA h)).foldl lrnA T) := by
    intro ps
    induction ps with
    | nil => intro S T _ e; exact e
    | cons q ps ih =>
      intro S T hm e
      rw [List.foldl_cons, List.map_cons, List.foldl_cons]
      exact ih _ _ (fun y hy => hm y (List.mem_cons_of_mem _ hy)) (lrn_A (hm q List.mem_cons_self) e)
  have e2 : ((zs.map (aG h)).map (·.2.1)).flatten = ((zs.map zPs).flatten).map (pA h) := by
    rw [List.map_map, List.map_flatten, List.map_map]
    rfl
  rw [e2]
  refine this _ S T (fun q hq => ?_) e
  obtain ⟨l, hl, hql⟩ := List.mem_flatten.mp hq
  obtain ⟨z, hz, ez⟩ := List.mem_map.mp hl
  rw [← ez] at hql
  exact ((k.1.1.2.choose_spec.2.2 z hz).2 q hql).1
/-- what markLive leaves, told without addresses -/
theorem mark_A (k : lgK g h o N U L nx zs) (hx : nx ≤ 100000000) {S : syT} (bS : bg0 S) (km : ∀ i (hi : i < zs.length), lvR h (lvT h (lrL h zs S) zs i) zs[i] h') : (mkA (zs.map (aG h))).length = zs.length ∧ ∀ i (hi : i < zs.length), ∃ x, (mkA (zs.map (aG h)))[i]? = some x ∧ x.1.length = (zPs zs[i]).length ∧ hI h' 521 zs[i].1 = x.2 ∧ ∀ j, j < (zPs zs[i]).length → hA h' (zLv zs[i]) j = x.1.getD j 0 := by
  have e0 : saE (prj (lrL h zs S)) ((((zs.map (aG h)).map (·.2.1)).flatten).foldl lrnA b0A) := lrL_A k ⟨fun i hi => bS.1 i hi, fun i hi => (bS.2.1 i hi).1⟩
  unfold mkA
  rw [show (zs.map (aG h)).map (·.1) = zs.map nmN by rw [List.map_map]; rfl]
  generalize (((zs.map (aG h)).map (·.2.1)).flatten).foldl lrnA b0A = T at e0
  generalize lrL h zs S = S1 at e0 km
  have key : ∀ i, i ≤ zs.length → (((zs.take i).map (aG h)).foldl (mk1 (zs.map nmN)) ([], T)).1.length = i ∧ saE (prj (lvT h S1 zs i)) (((zs.take i).map (aG h)).foldl (mk1 (zs.map nmN)) ([], T)).2 ∧ ∀ j (hj : j < i) (hz : j < zs.length), ∃ x, (((zs.take i).map (aG h)).foldl (mk1 (zs.map nmN)) ([], T)).1[j]? = some x ∧ x.1.length = (zPs zs[j]).length ∧ hI h' 521 zs[j].1 = x.2 ∧ ∀ t, t < (zPs zs[j]).length → hA h' (zLv zs[j]) t = x.1.getD t 0 := by
    intro i
    induction i with
    | zero => intro _; exact ⟨rfl, e0, fun j hj => absurd hj (Nat.not_lt_zero _)⟩
    | succ i ih =>
      intro hi
      have hil : i < zs.length := hi
      obtain ⟨r1, r2, r3⟩ := ih (by omega)
      have hz := List.getElem_mem hil
      obtain ⟨f1, f2, f3⟩ := lvS_A k hx hz r2
      obtain ⟨m1, m2⟩ := km i hil
      rw [take_1 hil, List.map_append, List.foldl_append]
      rw [List.map_cons, List.map_nil, List.foldl_cons, List.foldl_nil]
      generalize (((zs.take i).map (aG h)).foldl (mk1 (zs.map nmN)) ([], T)) = acc at r1 r2 r3 f1 f2 f3 ⊢
      refine ⟨?_, ?_, fun j hj hjl => ?_⟩
      · show (acc.1 ++ [_]).length = _
        rw [List.length_append, r1]; rfl
      · have : lvT h S1 zs (i + 1) = (lvS h (lvT h S1 zs i) (zPs zs[i])).2.2 := by
          unfold lvT
          rw [take_1 hil, List.foldl_append]; rfl
        rw [this]
        exact f3
      · show ∃ x, (acc.1 ++ [_])[j]? = some x ∧ _
        by_cases c : j < i
        · rw [List.getElem?_append_left (by omega)]
          exact r3 j c hjl
        · have ej : j = i := by omega
          subst ej
          rw [List.getElem?_append_right (by omega), r1, Nat.sub_self]
          refine ⟨_, rfl, ?_, ?_, fun t ht => ?_⟩
          · show (lvSA (zs.map nmN) acc.2 ((zPs zs[j]).map (pA h))).1.length = _
            rw [← f1, lvS_len]
          · rw [m1]; exact f2
          · rw [m2 t ht]
            show _ = (lvSA (zs.map nmN) acc.2 ((zPs zs[j]).map (pA h))).1.getD t 0
            rw [← f1]
  have := key zs.length (Nat.le_refl _)
  rw [List.take_length] at this
  exact ⟨this.1, fun i hi => this.2.2 i hi hi⟩
end ABS
