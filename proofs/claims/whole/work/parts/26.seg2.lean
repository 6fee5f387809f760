/-! a SEGMENT: an ENTRY comes -/
theorem mskL_map (hs : List (Nat × Nat)) : mskL hs = (hs.map (·.1)).foldl (fun m x => m ||| (1 <<< (nI x &&& 31))) 0 := by
  unfold mskL
  rw [List.foldl_map]
def updH (hs : List (Nat × Nat)) (c n : Nat) : List (Nat × Nat) := hs.mapIdx (fun i x => if i < c then (x.1, n) else x)
theorem updH_len (hs : List (Nat × Nat)) (c n : Nat) : (updH hs c n).length = hs.length := by unfold updH; rw [List.length_mapIdx]
theorem updH_get (hs : List (Nat × Nat)) (c n : Nat) {i : Nat} (hi : i < (updH hs c n).length) (hi' : i < hs.length) : (updH hs c n)[i] = if i < c then (hs[i].1, n) else hs[i] := List.getElem_mapIdx (h := hi)
theorem updH_0 (hs : List (Nat × Nat)) (n : Nat) : updH hs 0 n = hs := by
  refine List.ext_getElem (updH_len _ _ _) (fun i h1 h2 => ?_)
  rw [updH_get hs 0 n h1 h2, if_neg (Nat.not_lt_zero _)]
theorem updH_ge (hs : List (Nat × Nat)) {c n : Nat} (hc : hs.length ≤ c) : updH hs c n = updH hs hs.length n := by
  refine List.ext_getElem (by rw [updH_len, updH_len]) (fun i h1 h2 => ?_)
  have hi : i < hs.length := by rw [updH_len] at h1; exact h1
  rw [updH_get hs c n h1 hi, updH_get hs hs.length n h2 hi, if_pos (by omega), if_pos hi]
theorem updH_1 (hs : List (Nat × Nat)) {c n : Nat} (hc : c < hs.length) (hc' : c < (updH hs c n).length) : updH hs (c + 1) n = (updH hs c n).set c ((updH hs c n)[c].1, n) := by
  refine List.ext_getElem (by rw [List.length_set, updH_len, updH_len]) (fun i h1 h2 => ?_)
  have hi : i < hs.length := by rw [updH_len] at h1; exact h1
  rw [updH_get hs (c + 1) n h1 hi, List.getElem_set]
  by_cases e : c = i
  · subst e
    rw [if_pos (by omega), if_pos rfl, updH_get hs c n hc' hc, if_neg (by omega)]
  · rw [if_neg e, updH_get hs c n (by rw [updH_len]; exact hi) hi]
    by_cases q : i < c
    · rw [if_pos q, if_pos (by omega)]
    · rw [if_neg q, if_neg (by omega)]
section SEG
variable {g : gcT} {P : pmT} {h : hpT} {s N U : Nat} {r : arT} {nm : Int32} {ps es : List Nat} {hs : List (Nat × Nat)}
def segP (h : hpT) (s p q n : Nat) (u : Int32) : hpT := hpI (hpI (hpB h p n (some q)) 518 s (nI (n + 1))) 520 s u
theorem sgV.part (w : hWF h) (k : sgV h s N U r nm ps es hs) {q : Nat} (hq : ptK h q) (hn : ps.length < U) : sgV (segP h s r.1 q ps.length (unS h ps + hI h 385 q)) s N U r nm (ps ++ [q]) es hs ∧ Ch (fun a => a = s ∨ a = r.1) 0 0 h (segP h s r.1 q ps.length (unS h ps + hI h 385 q)) ∧ (∀ f, ¬ f = 518 → ¬ f = 520 → hI (segP h s r.1 q ps.length (unS h ps + hI h 385 q)) f s = hI h f s) ∧ hR (segP h s r.1 q ps.length (unS h ps + hI h 385 q)) = hR h := by
  obtain ⟨l0, l1, l2, l3, l4, l5, l6⟩ := k.lts w
  have k0 := k
  obtain ⟨⟨a1, a2, a3, a4, a5, a6, a7, a8, a9, a10, a11, a12, a13, a14, a15, a16⟩, n, ⟨p1, p2, p3, p4⟩, ⟨q1, q2, q3⟩, ⟨t1, t2, t3, t4⟩⟩ := k
  have c1 := Ch.wB (a := r.1) (i := ps.length) w (some q) l1
  have c3 := Ch.wI (f := 518) (a := s) c1.2.2.1 (nI (ps.length + 1)) l0
  have c4 := Ch.wI (f := 520) (a := s) c3.2.2.1 (unS h ps + hI h 385 q) l0
  have cc := (c1.tr (c3.tr c4)).mono (B := fun a => a = s ∨ a = r.1) (fun a _ q => by rcases q with q | (q | q) <;> simp [q]) (Nat.le_refl _) (Nat.le_refl _)
  generalize hH : segP h s r.1 q ps.length (unS h ps + hI h 385 q) = H
  have cc' : Ch (fun a => a = s ∨ a = r.1) 0 0 h H := by rw [← hH]; exact cc
  have fI : ∀ f, ¬ f = 518 → ¬ f = 520 → hI H f s = hI h f s := fun f n1 n2 => by rw [← hH]; unfold segP; rw [rI_I, if_neg (fun q => n2 q.1), rI_I, if_neg (fun q => n1 q.1)]; rfl
  have fR : hR H = hR h := by rw [← hH]; rfl
  have fKN : hK H = hK h ∧ hN H = hN h ∧ hA H = hA h := by rw [← hH]; exact ⟨rfl, rfl, rfl⟩
  have fB : ∀ a i, hB H a i = if a = r.1 ∧ i = ps.length then some q else hB h a i := fun a i => by rw [← hH]; rfl
  have f7 : ∀ p, hK h p = 7 → Sm h H p := fun p hp => cc'.sm (by rintro (q | q) <;> (rw [q] at hp; omega)) (w.lt (by omega))
  have fp : ∀ p ∈ ps, Sm h H p := fun p hp => f7 p (l6 p hp).2
  refine ⟨⟨?_, ?_, ⟨?_, ?_, ?_, fun j hj => ?_⟩, ⟨?_, ?_, fun j hj => ⟨?_, ?_⟩⟩, ⟨?_, t2, ?_, fun j hj => ?_⟩⟩, cc', fI, fR⟩
  · unfold sgA
    rw [fR, fKN.1, fKN.2.1]
    exact k0.1
  · rw [fI 512 (by decide) (by decide)]; exact n
  · rw [← hH]; unfold segP; rw [rI_I, if_neg (fun q => absurd q.1 (by decide)), rI_I, if_pos ⟨rfl, rfl⟩, List.length_append]; rfl
  · rw [List.length_append]; exact hn
  · have : unS H (ps ++ [q]) = unS h ps + hI h 385 q := by
      rw [unS_eq (h := h) (ps := ps ++ [q]) (fun p hp => ?_)]
      · unfold unS; rw [List.foldl_append]; rfl
      · rcases List.mem_append.mp hp with z | z
        · exact ((fp p z).2.1 385).1
        · rw [List.mem_singleton.mp z]; exact ((f7 q hq.1).2.1 385).1
    rw [this, ← hH]; unfold segP; rw [rI_I, if_pos ⟨rfl, rfl⟩]
  · rcases getA hj with ⟨hj', e⟩ | ⟨hj', e⟩
    · rw [e, fB, if_neg (fun q => absurd q.2 (by omega))]
      exact ⟨(p4 j hj').1, (p4 j hj').2.sm (fp _ (List.getElem_mem hj'))⟩
    · rw [e, fB, if_pos ⟨rfl, hj'⟩]
      exact ⟨rfl, hq.sm (f7 q hq.1)⟩
  · rw [fI 519 (by decide) (by decide)]; exact q1
  · rw [List.length_append]; exact Nat.le_trans q2 (Nat.le_add_right _ _)
  · rw [fKN.2.2]; exact (q3 j hj).1
  · rw [List.length_append]; exact Nat.le_trans (q3 j hj).2 (Nat.le_add_right _ _)
  · rw [fI 522 (by decide) (by decide)]; exact t1
  · rw [fI 523 (by decide) (by decide)]; exact t3
  · rw [fKN.2.2]; exact t4 j hj
def segE (h : hpT) (s en n m : Nat) : hpT := hpI (hpA h en m (nI n)) 519 s (nI (m + 1))
theorem sgV.entry (w : hWF h) (k : sgV h s N U r nm ps es hs) (hn : es.length < ps.length) : sgV (segE h s r.2.2.1 ps.length es.length) s N U r nm ps (es ++ [ps.length]) hs ∧ Ch (fun a => a = s ∨ a = r.2.2.1) 0 0 h (segE h s r.2.2.1 ps.length es.length) ∧ (∀ f, ¬ f = 519 → hI (segE h s r.2.2.1 ps.length es.length) f s = hI h f s) ∧ hR (segE h s r.2.2.1 ps.length es.length) = hR h := by
  obtain ⟨l0, l1, l2, l3, l4, l5, l6⟩ := k.lts w
  have k0 := k
  obtain ⟨⟨a1, a2, a3, a4, a5, a6, a7, a8, a9, a10, a11, a12, a13, a14, a15, a16⟩, n, ⟨p1, p2, p3, p4⟩, ⟨q1, q2, q3⟩, ⟨t1, t2, t3, t4⟩⟩ := k
  have c1 := Ch.wA (a := r.2.2.1) (i := es.length) w (nI ps.length) l3
  have c3 := Ch.wI (f := 519) (a := s) c1.2.2.1 (nI (es.length + 1)) l0
  have cc := (c1.tr c3).mono (B := fun a => a = s ∨ a = r.2.2.1) (fun a _ q => by rcases q with q | q <;> simp [q]) (Nat.le_refl _) (Nat.le_refl _)
  generalize hH : segE h s r.2.2.1 ps.length es.length = H
  have cc' : Ch (fun a => a = s ∨ a = r.2.2.1) 0 0 h H := by rw [← hH]; exact cc
  have fI : ∀ f, ¬ f = 519 → hI H f s = hI h f s := fun f n1 => by rw [← hH]; unfold segE; rw [rI_I, if_neg (fun q => n1 q.1)]; rfl
  have fR : hR H = hR h := by rw [← hH]; rfl
  have fKN : hK H = hK h ∧ hN H = hN h ∧ hB H = hB h := by rw [← hH]; exact ⟨rfl, rfl, rfl⟩
  have fA : ∀ a i, hA H a i = if a = r.2.2.1 ∧ i = es.length then nI ps.length else hA h a i := fun a i => by rw [← hH]; rfl
  have f7 : ∀ p, hK h p = 7 → Sm h H p := fun p hp => cc'.sm (by rintro (q | q) <;> (rw [q] at hp; omega)) (w.lt (by omega))
  have fp : ∀ p ∈ ps, Sm h H p := fun p hp => f7 p (l6 p hp).2
  refine ⟨⟨?_, ?_, ⟨?_, p2, ?_, fun j hj => ?_⟩, ⟨?_, ?_, fun j hj => ?_⟩, ⟨?_, t2, ?_, fun j hj => ?_⟩⟩, cc', fI, fR⟩
  · unfold sgA
    rw [fR, fKN.1, fKN.2.1]
    exact k0.1
  · rw [fI 512 (by decide)]; exact n
  · rw [fI 518 (by decide)]; exact p1
  · rw [fI 520 (by decide), p3]; exact (unS_eq (fun p hp => ((fp p hp).2.1 385).1)).symm
  · rw [fKN.2.2]; exact ⟨(p4 j hj).1, (p4 j hj).2.sm (fp _ (List.getElem_mem hj))⟩
  · rw [← hH]; unfold segE; rw [rI_I, if_pos ⟨rfl, rfl⟩, List.length_append]; rfl
  · rw [List.length_append]; exact hn
  · rcases getA hj with ⟨hj', e⟩ | ⟨hj', e⟩
    · rw [e, fA, if_neg (fun q => absurd q.2 (by omega))]
      exact q3 j hj'
    · rw [e, fA, if_pos ⟨rfl, hj'⟩]
      exact ⟨rfl, Nat.le_refl _⟩
  · rw [fI 522 (by decide)]; exact t1
  · rw [fI 523 (by decide)]; exact t3
  · rw [fA, if_neg (fun q => a12 q.1.symm), fA, if_neg (fun q => a13 q.1.symm), List.length_append]
    exact ⟨(t4 j hj).1, (t4 j hj).2.1, (t4 j hj).2.2.1, Nat.le_trans (t4 j hj).2.2.2 (Nat.le_add_right _ _)⟩
theorem sgV.held (w : hWF h) (k : sgV h s N U r nm ps es hs) {i : Nat} (hi : i < hs.length) : sgV (hpA h r.2.2.2.2 i (nI es.length)) s N U r nm ps es (hs.set i (hs[i].1, es.length)) ∧ Ch (fun a => a = r.2.2.2.2) 0 0 h (hpA h r.2.2.2.2 i (nI es.length)) := by
  obtain ⟨l0, l1, l2, l3, l4, l5, l6⟩ := k.lts w
  have k0 := k
  obtain ⟨⟨a1, a2, a3, a4, a5, a6, a7, a8, a9, a10, a11, a12, a13, a14, a15, a16⟩, n, ⟨p1, p2, p3, p4⟩, ⟨q1, q2, q3⟩, ⟨t1, t2, t3, t4⟩⟩ := k
  have cc := Ch.wA (a := r.2.2.2.2) (i := i) w (nI es.length) l5
  have fA : ∀ a j, hA (hpA h r.2.2.2.2 i (nI es.length)) a j = if a = r.2.2.2.2 ∧ j = i then nI es.length else hA h a j := fun a i => rfl
  have fp : ∀ p ∈ ps, Sm h (hpA h r.2.2.2.2 i (nI es.length)) p := fun p hp => cc.sm (by intro q; have := (l6 p hp).2; rw [q] at this; omega) (l6 p hp).1
  refine ⟨⟨k0.1, n, ⟨p1, p2, ?_, fun j hj => ⟨(p4 j hj).1, (p4 j hj).2.sm (fp _ (List.getElem_mem hj))⟩⟩, ⟨q1, q2, fun j hj => ?_⟩, ⟨?_, ?_, ?_, fun j hj => ?_⟩⟩, cc⟩
  · exact p3.trans (unS_eq (fun p hp => ((fp p hp).2.1 385).1)).symm
  · rw [fA, if_neg (fun q => a13 q.1)]; exact q3 j hj
  · rw [List.length_set]; exact t1
  · rw [List.length_set]; exact t2
  · have e : mskL (hs.set i (hs[i].1, es.length)) = mskL hs := by
      rw [mskL_map, mskL_map, List.map_set]
      congr 1
      refine List.ext_getElem (by simp) (fun j h1 h2 => ?_)
      rw [List.getElem_set]
      split
      · rename_i e; subst e; rw [List.getElem_map]
      · rfl
    rw [e]; exact t3
  · have hj' : j < hs.length := by rw [List.length_set] at hj; exact hj
    rw [List.getElem_set, fA, if_neg (fun q => a14 q.1), fA]
    by_cases e : i = j
    · subst e
      rw [if_pos rfl, if_pos ⟨rfl, rfl⟩]
      exact ⟨(t4 i hj').1, rfl, (t4 i hj').2.2.1, Nat.le_refl _⟩
    · rw [if_neg e, if_neg (fun q => e q.2.symm)]
      exact t4 j hj'
theorem cmp25 {q : Nat} (hq : hK h q = 7) : ∀ b, some q = some b → 1 ≤ hK h b ∧ hK h b ≤ 14 ∧ cmpO (25 - 20) (hK h b - 1) = true := by
  intro b e
  cases e
  rw [hq]
  decide
/-- the loop over the first of the HOLDERS -/
theorem m_35_loop {r1 r2 : Option Nat} {x4 : Int32} {c : Nat} (hc : c < 2 ^ 31) : ∀ d i (h : hpT) (hs : List (Nat × Nat)), hWF h → sgV h s N U r nm ps es (updH hs i es.length) → i + d = hs.length → Ev g P 35 123 [some (va_rf (some s)), some (va_rf r1), some (va_rf r2), some (.int (nI c)), some (.int x4), some (.int (nI i))] [] h (fun h' x => x = none ∧ sgV h' s N U r nm ps es (updH hs (max i c) es.length) ∧ Ch (fun a => a = r.2.2.2.2) 0 0 h h' ∧ (∀ f, hI h' f = hI h f) ∧ hR h' = hR h) := by
  intro d
  induction d with
  | zero =>
    intro i h hs w k hi
    have k1 := k.1
    have k5 := k.2.2.2.2.1
    rw [updH_len] at k5
    have hN := k.2.2.2.2.2.1
    rw [updH_len] at hN
    have hU := k.1
    obtain ⟨a1, -, -, -, -, -, -, -, -, -, -, -, -, -, -, a16⟩ := hU
    have e : updH hs (max i c) es.length = updH hs i es.length := by
      rw [updH_ge hs (c := max i c) (by omega), updH_ge hs (c := i) (by omega)]
    have fin : Ev g P 35 155 [some (va_rf (some s)), some (va_rf r1), some (va_rf r2), some (.int (nI c)), some (.int x4), some (.int (nI i))] [] h (fun h' x => x = none ∧ sgV h' s N U r nm ps es (updH hs (max i c) es.length) ∧ Ch (fun a => a = r.2.2.2.2) 0 0 h h' ∧ (∀ f, hI h' f = hI h f) ∧ hR h' = hR h) := s_35_155 ⟨rfl, by rw [e]; exact k, Ch.rf w _, fun _ => rfl, rfl⟩
    exact s_35_123 (kt := fun _ => fin) (kf := fun _ => s_35_129 (k3 := a1) (kt := fun _ => fin) (kf := fun z => absurd (by rw [k5]; exact nI_le (by omega) (by omega)) z))
  | succ d ih =>
    intro i h hs w k hi
    have k5 := k.2.2.2.2.1
    rw [updH_len] at k5
    have hN' := k.2.2.2.2.2.1
    rw [updH_len] at hN'
    obtain ⟨a1, -, -, -, -, a6, -, -, -, -, a11, -, -, -, a15, a16⟩ := k.1
    have q1 := k.2.2.2.1.1
    have hil : i < hs.length := by omega
    have hil' : i < (updH hs i es.length).length := by rw [updH_len]; exact hil
    have ei : (nI i).toNatClampNeg = i := nI_clamp (by omega)
    refine s_35_123 (kt := fun z => s_35_155 ⟨rfl, ?_, Ch.rf w _, fun _ => rfl, rfl⟩) (kf := fun z => s_35_129 (k3 := a1) (kt := fun z => absurd z (by rw [k5]; exact nI_ge hil (by omega))) (kf := fun _ => s_35_138 (k3 := a1) (e5 := a6) (k6 := a11.1) (i7 := by rw [a11.2]; exact vin_nI (by omega) (by omega)) (kk := ?_)))
    · have : c ≤ i := by
        rcases Nat.lt_or_ge i c with q | q
        · exact absurd z (nI_ge q hc)
        · exact q
      rw [Nat.max_eq_left this]; exact k
    · have hic : i < c := by
        rcases Nat.lt_or_ge i c with q | q
        · exact q
        · exact absurd (nI_le q (by omega)) z
      rw [ei, q1, nI_1]
      have s1 := k.held w hil'
      rw [← updH_1 hs hil hil'] at s1
      have := ih (i + 1) _ hs s1.2.2.2.1 s1.1 (by omega)
      rw [show max (i + 1) c = max i c from by omega] at this
      refine Ev.imp this (fun h' x ⟨e1, e2, e3, e4, e5⟩ => ⟨e1, e2, ?_, e4, e5⟩)
      exact (s1.2.tr e3).mono (fun a _ q => q.elim id id) (Nat.le_refl _) (Nat.le_refl _)
end SEG
