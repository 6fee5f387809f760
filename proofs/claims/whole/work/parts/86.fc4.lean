/-! the face: send -/
section FC
variable {g : gcT} {P : pmT} {o o' w w' : Nat → Nat} {y : Nat → Nat} {R R2 : arT} {h h' h1 : hpT} {B : Nat → Prop} {i j t c m n p q : Nat} {ss : List Nat} {Ls : List lsT} {Ds : List (Nat × Nat)} {S S' : stA} {cs : csT} {F F' : fcT} {cl : List kcT} {nt : Nat → Option msT} {x : msT} {r : rqT} {v : anT} {ck ef : Nat} {u : Option Nat} {ua : Option anT} {x1 x2 x3 x4 x5 : Int32}
theorem gD_set {α : Type} {l : List α} {i j : Nat} {x d : α} (hi : i < l.length) : (l.set i x).getD j d = if j = i then x else l.getD j d := by
  by_cases e : j = i
  · rw [e, if_pos rfl, gS hi]
  · rw [if_neg e, gN e]
theorem gD_app {α : Type} {l : List α} {x d : α} : (l ++ [x]).getD l.length d = x := by
  rw [List.getD_eq_getElem?_getD, List.getElem?_append_right (Nat.le_refl _), Nat.sub_self]; rfl
theorem msgV.keep {cl : List kcT} (k : msgV h o y ss cl m x) (hi : i < cl.length) : msgV h o y ss (cl.set i ((cl.getD i cl0).1 ++ [r], (cl.getD i cl0).2)) m x := by
  obtain ⟨k1, k2, ⟨k3, k3', k3''⟩, ⟨q, k4, k5, k6⟩, k7⟩ := k
  refine ⟨k1, k2, ⟨k3, k3', ?_⟩, ⟨q, k4, k5, ?_⟩, k7⟩
  · rw [gD_set hi]
    split
    · rename_i e
      rw [List.length_append, ← e]; omega
    · exact k3''
  · rw [gD_set hi]
    split
    · rename_i e
      rw [List.getD_eq_getElem?_getD, ← e, List.getElem?_append_left (by omega), ← List.getD_eq_getElem?_getD]
      exact k6
    · exact k6
theorem fcR.keep (k : fcR h o y ss cs F) (hi : i < 6) (hl : ((fCl F).getD i cl0).1.length < 40) (hq : o q = y 9) (kq : reqV h q i (((fCl F).getD i cl0).1.length + 1) r) : fcR (hpI (hpB h (cs.getD i cs0).2.1 ((fCl F).getD i cl0).1.length (some q)) 130 (cs.getD i cs0).1 (nI (((fCl F).getD i cl0).1.length + 1))) o y ss (cs.set i ((cs.getD i cs0).1, (cs.getD i cs0).2.1, (cs.getD i cs0).2.2.1, ((fCl F).getD i cl0).1.length + 1)) (keepA F i r) := by
  obtain ⟨kA, kB, kC, kD, kE⟩ := k
  have at' := fun i (hi : i < 6) => cs_at kB.1 hi
  obtain ⟨f1, d1, d2, d3, d4, d5, d6, d7, d8, d9⟩ := at' i hi
  obtain ⟨c1, c2, c3⟩ := kC.2 i hi
  have k10 := kB.1.2.2.1
  have k11 := kA.2.2.1
  have lcs : cs.length = 6 := kB.1.2.2.2.2.1
  have lcl : (fCl F).length = 6 := kC.1
  have k9 : hK h (y 9) = 13 := kB.1.1
  have ndj := kB.2.2.2
  -- reads of the new heap
  have eI : ∀ f a, ¬ f = 130 → hI (hpI (hpB h (cs.getD i cs0).2.1 ((fCl F).getD i cl0).1.length (some q)) 130 (cs.getD i cs0).1 (nI (((fCl F).getD i cl0).1.length + 1))) f a = hI h f a := fun f a hf => by
    rw [rI_I, if_neg (fun z => hf z.1)]; rfl
  have eI' : ∀ a, ¬ a = (cs.getD i cs0).1 → hI (hpI (hpB h (cs.getD i cs0).2.1 ((fCl F).getD i cl0).1.length (some q)) 130 (cs.getD i cs0).1 (nI (((fCl F).getD i cl0).1.length + 1))) 130 a = hI h 130 a := fun a hf => by
    rw [rI_I, if_neg (fun z => hf z.2)]; rfl
  have eI0 : hI (hpI (hpB h (cs.getD i cs0).2.1 ((fCl F).getD i cl0).1.length (some q)) 130 (cs.getD i cs0).1 (nI (((fCl F).getD i cl0).1.length + 1))) 130 (cs.getD i cs0).1 = nI (((fCl F).getD i cl0).1.length + 1) := by
    rw [rI_I, if_pos ⟨rfl, rfl⟩]
  have eB : ∀ a k, hB (hpI (hpB h (cs.getD i cs0).2.1 ((fCl F).getD i cl0).1.length (some q)) 130 (cs.getD i cs0).1 (nI (((fCl F).getD i cl0).1.length + 1))) a k = if a = (cs.getD i cs0).2.1 ∧ k = ((fCl F).getD i cl0).1.length then some q else hB h a k := fun a k => rB_B _ _ _ _ _ _
  have sm : Sm9 h o (y 9) (hpI (hpB h (cs.getD i cs0).2.1 ((fCl F).getD i cl0).1.length (some q)) 130 (cs.getD i cs0).1 (nI (((fCl F).getD i cl0).1.length + 1))) o := by
    intro z _ z0 z1 z2 z3 z4 z5
    have n1 : ¬ z = (cs.getD i cs0).2.1 := fun e => z1 (by rw [e]; exact d4)
    have n2 : ¬ z = (cs.getD i cs0).1 := fun e => z4 (by rw [e]; exact d1)
    refine ⟨⟨rfl, fun f => ⟨?_, rfl⟩, rfl, fun k => ⟨rfl, ?_⟩⟩, rfl⟩
    · by_cases hf : f = 130
      · rw [hf]; exact eI' z n2
      · exact eI f z hf
    · rw [eB, if_neg (fun e => n1 e.1)]
  have eK : hK (hpI (hpB h (cs.getD i cs0).2.1 ((fCl F).getD i cl0).1.length (some q)) 130 (cs.getD i cs0).1 (nI (((fCl F).getD i cl0).1.length + 1))) = hK h := rfl
  have eR : hR (hpI (hpB h (cs.getD i cs0).2.1 ((fCl F).getD i cl0).1.length (some q)) 130 (cs.getD i cs0).1 (nI (((fCl F).getD i cl0).1.length + 1))) = hR h := rfl
  have eN : hN (hpI (hpB h (cs.getD i cs0).2.1 ((fCl F).getD i cl0).1.length (some q)) 130 (cs.getD i cs0).1 (nI (((fCl F).getD i cl0).1.length + 1))) = hN h := rfl
  generalize hpI (hpB h (cs.getD i cs0).2.1 ((fCl F).getD i cl0).1.length (some q)) 130 (cs.getD i cs0).1 (nI (((fCl F).getD i cl0).1.length + 1)) = H at *
  have gcs : ∀ j, (cs.set i ((cs.getD i cs0).1, (cs.getD i cs0).2.1, (cs.getD i cs0).2.2.1, ((fCl F).getD i cl0).1.length + 1)).getD j cs0 = if j = i then ((cs.getD i cs0).1, (cs.getD i cs0).2.1, (cs.getD i cs0).2.2.1, ((fCl F).getD i cl0).1.length + 1) else cs.getD j cs0 := fun j => gD_set (by omega)
  have gcl : ∀ j, ((fCl F).set i (((fCl F).getD i cl0).1 ++ [r], ((fCl F).getD i cl0).2)).getD j cl0 = if j = i then (((fCl F).getD i cl0).1 ++ [r], ((fCl F).getD i cl0).2) else (fCl F).getD j cl0 := fun j => gD_set (by omega)
  have g3 : ∀ j, ((cs.set i ((cs.getD i cs0).1, (cs.getD i cs0).2.1, (cs.getD i cs0).2.2.1, ((fCl F).getD i cl0).1.length + 1)).getD j cs0).1 = (cs.getD j cs0).1 ∧ ((cs.set i ((cs.getD i cs0).1, (cs.getD i cs0).2.1, (cs.getD i cs0).2.2.1, ((fCl F).getD i cl0).1.length + 1)).getD j cs0).2.1 = (cs.getD j cs0).2.1 ∧ ((cs.set i ((cs.getD i cs0).1, (cs.getD i cs0).2.1, (cs.getD i cs0).2.2.1, ((fCl F).getD i cl0).1.length + 1)).getD j cs0).2.2.1 = (cs.getD j cs0).2.2.1 := by
    intro j
    rw [gcs]
    split
    · rename_i e
      rw [e]; exact ⟨rfl, rfl, rfl⟩
    · exact ⟨rfl, rfl, rfl⟩
  have lCS : (cs.set i ((cs.getD i cs0).1, (cs.getD i cs0).2.1, (cs.getD i cs0).2.2.1, ((fCl F).getD i cl0).1.length + 1)).length = 6 := by rw [List.length_set]; exact lcs
  generalize cs.set i ((cs.getD i cs0).1, (cs.getD i cs0).2.1, (cs.getD i cs0).2.2.1, ((fCl F).getD i cl0).1.length + 1) = CS at *
  have n10 : ¬ y 10 = (cs.getD i cs0).2.1 := kinds_ne (h := h) (by omega)
  have n11 : ¬ y 11 = (cs.getD i cs0).2.1 := kinds_ne (h := h) (by omega)
  obtain ⟨⟨a1, a2, a3⟩, a4, a5, a6, a7⟩ := kA
  obtain ⟨b1, b2, b3, b4, b5, b6⟩ := kB.1
  refine ⟨⟨⟨a1, by rw [eR]; exact a2, by rw [eR]; exact a3⟩, by rw [eR]; exact a4, by rw [eK]; exact a5, by rw [eN]; exact a6, a7⟩, ⟨⟨by rw [eK]; exact b1, by rw [eR]; exact b2, by rw [eK]; exact b3, by rw [eN]; exact b4, lCS, fun j hj => ?_⟩, kB.2.1, fun j hj => ?_, fun j j' hj hj' hn => ?_⟩, ⟨by show ((fCl F).set i _).length = 6; rw [List.length_set]; exact lcl, fun j hj => ?_⟩, fun p hp => ?_, ⟨by rw [eI _ _ (by decide)]; exact kE.1, by rw [eI _ _ (by decide)]; exact kE.2⟩⟩
  · have e : CS[j] = CS.getD j cs0 := by rw [List.getD_eq_getElem?_getD, List.getElem?_eq_getElem hj]; rfl
    obtain ⟨t1, s1, s2, s3, s4, s5, s6, s7, s8, s9⟩ := at' j (by omega)
    obtain ⟨g31, g32, g33⟩ := g3 j
    rw [e, g31, g32, g33]
    refine ⟨by rw [eB, if_neg (fun z => n10 z.1)]; exact t1, by rw [eK]; exact s1, by rw [eR]; exact s2, by rw [eR]; exact s3, by rw [eK]; exact s4, by rw [eN]; exact s5, by rw [eK]; exact s6, by rw [eN]; exact s7, ?_, ?_⟩
    · rw [gcs]
      split
      · rename_i ej
        subst ej
        exact eI0
      · rename_i ej
        rw [eI' _ (ndj j i (by omega) hi ej).1]
        exact s8
    · rw [gcs]
      split
      · show _ + 1 ≤ 40
        omega
      · exact s9
  · obtain ⟨g31, g32, g33⟩ := g3 j
    rw [g31, g32, g33]
    exact kB.2.2.1 j hj
  · obtain ⟨g31, g32, g33⟩ := g3 j
    obtain ⟨g41, g42, g43⟩ := g3 j'
    rw [g31, g32, g33, g41, g42, g43]
    exact ndj j j' hj hj' hn
  · obtain ⟨g31, g32, g33⟩ := g3 j
    obtain ⟨t1, s1, s2, s3, s4, s5, s6, s7, s8, s9⟩ := at' j hj
    obtain ⟨v1, v2, v3⟩ := kC.2 j hj
    show _ = (((fCl F).set i (((fCl F).getD i cl0).1 ++ [r], ((fCl F).getD i cl0).2)).getD j cl0).1.length ∧ (∀ n, n < (((fCl F).set i (((fCl F).getD i cl0).1 ++ [r], ((fCl F).getD i cl0).2)).getD j cl0).1.length → ∃ q, hB H (CS.getD j cs0).2.1 n = some q ∧ o q = y 9 ∧ reqV H q j (n + 1) ((((fCl F).set i (((fCl F).getD i cl0).1 ++ [r], ((fCl F).getD i cl0).2)).getD j cl0).1.getD n rq0)) ∧ ∀ n, n < 40 → ansO H o (y 9) (hB H (CS.getD j cs0).2.2.1 n) ((((fCl F).set i (((fCl F).getD i cl0).1 ++ [r], ((fCl F).getD i cl0).2)).getD j cl0).2 n)
    have old : ∀ q n r', o q = y 9 → reqV h q j n r' → reqV H q j n r' := fun q n r' h1 h2 => by
      have := h2.1
      exact h2.fr (sm q h1 (by omega) (by omega) (by omega) (by omega) (by omega) (by omega)).1
    have n3 : ¬ (cs.getD j cs0).2.2.1 = (cs.getD i cs0).2.1 := kinds_ne (h := h) (by omega)
    rw [g32, g33, gcs, gcl]
    by_cases ej : j = i
    · subst ej
      rw [if_pos rfl, if_pos rfl]
      refine ⟨by rw [List.length_append]; rfl, fun n hn => ?_, fun n hn => by rw [eB, if_neg (fun z => n3 z.1)]; exact (v3 n hn).fr sm⟩
      rw [List.length_append] at hn
      have hn : n < ((fCl F).getD j cl0).1.length + 1 := hn
      by_cases en : n = ((fCl F).getD j cl0).1.length
      · refine ⟨q, by rw [eB, if_pos ⟨rfl, en⟩], hq, ?_⟩
        show reqV H q j (n + 1) ((((fCl F).getD j cl0).1 ++ [r]).getD n rq0)
        rw [List.getD_eq_getElem?_getD, List.getElem?_append_right (by omega), en, Nat.sub_self]
        exact old q _ r hq kq
      · obtain ⟨q', e1, e2, e3⟩ := v2 n (by omega)
        refine ⟨q', by rw [eB, if_neg (fun z => en z.2)]; exact e1, e2, ?_⟩
        show reqV H q' j (n + 1) ((((fCl F).getD j cl0).1 ++ [r]).getD n rq0)
        rw [List.getD_eq_getElem?_getD, List.getElem?_append_left (by omega), ← List.getD_eq_getElem?_getD]
        exact old q' _ _ e2 e3
    · rw [if_neg ej, if_neg ej]
      have n2 := (ndj j i hj hi ej).2.1
      refine ⟨v1, fun n hn => ?_, fun n hn => by rw [eB, if_neg (fun z => n3 z.1)]; exact (v3 n hn).fr sm⟩
      obtain ⟨q', e1, e2, e3⟩ := v2 n hn
      exact ⟨q', by rw [eB, if_neg (fun z => n2 z.1)]; exact e1, e2, old q' _ _ e2 e3⟩
  · rcases kD p hp with ⟨e1, e2⟩ | ⟨m, x, e1, e2, e3⟩
    · exact Or.inl ⟨by rw [eB, if_neg (fun z => n11 z.1)]; exact e1, e2⟩
    · exact Or.inr ⟨m, x, by rw [eB, if_neg (fun z => n11 z.1)]; exact e1, e2, (e3.keep (by omega)).fr sm⟩
theorem m_send (kS : RS g h o w y R R2 ss Ls Ds (fSt F)) (kF : fcR h o y ss cs F) (how : owOK y (fSt F)) : EvI g P 63 [va_rf (some (y 9)), .int x1, .int x2, .int x3, .int x4, .int x5] h (fun h' z => z = (sendA F x1 x2 x3 x4 x5).2 ∧ StpF g h o y R R2 ss Ls Ds 2 (nf 5 + nf 7) (sendA F x1 x2 x3 x4 x5).1 h') := by
  have wf := kS.1.1
  have ok := kS.1.2.2
  have k9 := kS.2.1.2.2.1
  have no : inF x1 6 = 0 ∨ x2 < 0 ∨ 3 < x2 ∨ inF x3 64 = 0 → sendA F x1 x2 x3 x4 x5 = (F, -1) := fun z => if_pos z
  have rf0 : StpF g h o y R R2 ss Ls Ds 2 (nf 5 + nf 7) F h := (StpF.rf kS kF).le (by omega) (by omega)
  refine e_63 (s_63_0 (hc := m_isClient) (kk := fun h2 z ⟨e1, e2⟩ => ?_))
  subst e1; subst e2
  refine s_63_4 (kt := fun z => s_63_23 ⟨_, rfl, by rw [no (Or.inl z)]; exact ⟨rfl, rf0⟩⟩) (kf := fun z1 => ?_)
  refine s_63_7 (kt := fun z => s_63_23 ⟨_, rfl, by rw [no (Or.inr (Or.inl z))]; exact ⟨rfl, rf0⟩⟩) (kf := fun z2 => ?_)
  refine s_63_11 (kt := fun z => s_63_23 ⟨_, rfl, by rw [no (Or.inr (Or.inr (Or.inl z)))]; exact ⟨rfl, rf0⟩⟩) (kf := fun z3 => ?_)
  refine s_63_16 (hc := m_isKey) (kk := fun h3 z ⟨e1, e2⟩ => ?_)
  subst e1; subst e2
  refine s_63_20 (kt := fun z4 => ?_) (kf := fun z => s_63_23 ⟨_, rfl, by rw [no (Or.inr (Or.inr (Or.inr z)))]; exact ⟨rfl, rf0⟩⟩)
  have n4 : ¬ (inF x1 6 = 0 ∨ x2 < 0 ∨ 3 < x2 ∨ inF x3 64 = 0) := by
    rintro (q | q | q | q)
    · exact z1 q
    · exact z2 q
    · exact z3 q
    · exact z4 q
  obtain ⟨i, hi6, ei⟩ := inF_1 (n := 6) (by decide) z1
  have ec : x1.toNatClampNeg = i := by rw [ei]; exact nI_clamp (by omega)
  obtain ⟨k1, k2, k3, k4, k5, k6⟩ := kF.2.1.1
  obtain ⟨f1, f2⟩ := cs_at kF.2.1.1 hi6
  have f2' := f2
  obtain ⟨d1, d2, d3, d4, d5, d6, d7, d8, d9⟩ := f2'
  obtain ⟨c1, c2, c3⟩ := kF.2.2.1.2 i hi6
  have eB : hB h3 (y 10) x1.toNatClampNeg = some (cs.getD i cs0).1 := by rw [ec]; exact f1
  rw [c1] at d9
  have e130 : hI h3 130 (cs.getD i cs0).1 = nI ((fCl F).getD i cl0).1.length := by rw [d8, c1]
  refine s_63_25 (k3 := k9) (e5 := k2) (k6 := k3) (i7 := by rw [k4, ei]; exact vin_nI hi6 (by decide)) (e9 := eB) (k10 := d1) (kt := fun z => ?_) (kf := fun z => s_63_43 ⟨_, rfl, ?_⟩)
  · rw [e130] at z
    have hl : ((fCl F).getD i cl0).1.length < 40 := (nI_ltI (by omega) (by decide)).mp z
    rw [eB]
    refine s_63_45 (kk := ?_)
    have lt : ∀ a, ¬ hK h3 a = 0 → a < hS h3 := fun a ha => wf.lt ha
    refine s_63_48 (k3 := by rw [hK_O (lt _ (by omega))]; exact d1) (e5 := rfl) (hc := m_32 (hK_O_new h3 7)) (kk := fun h4 e => ?_)
    have e130' : hI (hpO h3 7) 130 (cs.getD i cs0).1 = nI ((fCl F).getD i cl0).1.length := e130
    rw [e130', nI_1] at e
    have w0 := wf.O 7
    have tot : Ch (fun z => z = hS h3) 0 0 (hpO h3 7) h4 := by rw [e]; exact Ch.wIs _ w0 (Nat.lt_succ_self _)
    have ch4 : Ch (fun _ => False) 1 (nf 7) h3 h4 := Ch.new (A := fun _ => False) wf tot
    have cg4 := cgN (o := o) (y := y) wf ok k9 ch4
    have kq : reqV h4 (hS h3) i (((fCl F).getD i cl0).1.length + 1) (x2, x3, x4, x5) := by
      rw [e]
      refine ⟨by rw [wIs_K]; exact hK_O_new h3 7, ?_, ?_, ?_, ?_, ?_, ?_⟩
      · rw [rI_wIs, if_pos rfl]; exact ei
      · rw [rI_wIs, if_pos rfl]; rfl
      · rw [rI_wIs, if_pos rfl]; rfl
      · rw [rI_wIs, if_pos rfl]; rfl
      · rw [rI_wIs, if_pos rfl]; rfl
      · rw [rI_wIs, if_pos rfl]; rfl
    have kF4 := fcR.fr wf k9 kF cg4 (fun q => q)
    have kS4 := (RS.f9 kS cg4 (fun _ q => q.elim)).1
    have k94 := kS4.2.1.2.2.1
    have hS4 : hS h4 = hS h3 + 1 := by rw [e, wIs_S]; rfl
    have e451 : hI h4 451 (hS h3) = x3 := kq.2.2.2.2.1
    have hk1 : inF x3 64 = 1 := by
      unfold inF at z4 ⊢
      by_cases q1 : x3 < 0
      · rw [if_pos q1] at z4; exact absurd rfl z4
      · rw [if_neg q1] at z4 ⊢
        by_cases q2 : (64 : Int32) ≤ x3
        · rw [if_pos q2] at z4; exact absurd rfl z4
        · rw [if_neg q2]
    have hpo := m_post (P := P) (i := i) kS4 kF4 how hi6 kq.1 (by rw [e451]; exact hk1)
    rw [e451] at hpo
    have n40 : ¬ ¬ ((fCl F).getD x1.toNatClampNeg cl0).1.length < 40 := not_not_intro (by rw [ec]; exact hl)
    have stp4 : StpF g h3 o y R R2 ss Ls Ds 2 (nf 5 + nf 7) F h4 := (StpF.y9 kS (cg4.mono ok (fun _ _ q => q.elim) (Nat.le_refl _) (Nat.le_refl _)) kF4).le (by omega) (by omega)
    refine s_63_66 (k3 := k94) (hc := hpo) (kk := fun h5 z q => ?_)
    rcases q with ⟨q1, q2, q3⟩ | ⟨q1, q2, q3, q4⟩ | ⟨p, t, h6, q1, q2, q3, q4, q5, q6, q7⟩
    · have eP : sendA F x1 x2 x3 x4 x5 = (F, -2) := by unfold sendA; rw [if_neg n4, if_neg n40, if_pos q1]
      rw [eP, q2, q3]
      exact s_63_76 (kt := fun z => absurd z (by decide)) (kf := fun _ => s_63_83 ⟨_, rfl, rfl, stp4⟩)
    · have eP : sendA F x1 x2 x3 x4 x5 = (F, -3) := by unfold sendA; rw [if_neg n4, if_neg n40, if_neg q1, q2]
      rw [eP, q3, q4]
      exact s_63_76 (kt := fun z => absurd z (by decide)) (kf := fun _ => s_63_83 ⟨_, rfl, rfl, stp4⟩)
    · have eP : sendA F x1 x2 x3 x4 x5 = (netA (keepA F i (x2, x3, x4, x5)) p (some (i, ((fCl F).getD i cl0).1.length + 1, nI (loA ((fCl F).getD i cl0)), some t, none)), nI (((fCl F).getD i cl0).1.length + 1)) := by
        unfold sendA
        rw [if_neg n4, if_neg n40, if_neg q1, q4]
        dsimp only
        rw [ec]
        unfold postA
        rw [if_neg q1, q4, q2, nI_clamp (by have := kS.2.1.1.1.2; omega)]
        rfl
      rw [eP, q5, q6]
      have hp := fpA_lt q4
      -- the new MESSAGE
      have cg6 := cgN (o := oX o h3 (y 9)) (y := y) cg4.w cg4.2.2.1 k94 q7.1
      have kF6 := fcR.fr cg4.w k94 kF4 cg6 (fun q => q)
      have kS6 := (RS.f9 kS4 cg6 (fun _ q => q.elim)).1
      have oq4 : oX o h3 (y 9) (hS h3) = y 9 := if_neg (Nat.lt_irrefl _)
      have lq4 : hS h3 < hS h4 := by omega
      have sq6 : Sm h4 h6 (hS h3) := q7.1.sm (fun q => q) lq4
      have oq6 : oX (oX o h3 (y 9)) h4 (y 9) (hS h3) = y 9 := (if_pos lq4).trans oq4
      have kq6 := kq.fr sq6
      obtain ⟨g1, g2⟩ := cs_at kF6.2.1.1 hi6
      rw [c1] at g2
      have k11 := kF6.1.2.2.1
      have nrq : ¬ y 11 = (cs.getD i cs0).2.1 := kinds_ne (h := h6) (by have := g2.2.2.2.1; omega)
      have g2' : clV (hpB h6 (y 11) p (some (hS h4))) (cs.getD i cs0).1 (cs.getD i cs0).2.1 (cs.getD i cs0).2.2.1 ((fCl F).getD i cl0).1.length := g2
      refine s_63_76 (kt := fun _ => ?_) (kf := fun z => absurd (nI_pos' (by omega)) z)
      refine s_63_86 (k3 := g2.1) (hc := m_keep g2' hl (q := hS h3) kq6.1) (kk := fun h7 e7 => ?_)
      have kF7 := kF6.keep (r := (x2, x3, x4, x5)) hi6 hl oq6 kq6
      have e7' : h7 = hpB (hpI (hpB h6 (cs.getD i cs0).2.1 ((fCl F).getD i cl0).1.length (some (hS h3))) 130 (cs.getD i cs0).1 (nI (((fCl F).getD i cl0).1.length + 1))) (y 11) p (some (hS h4)) := by
        rw [e7, hpB_comm nrq]; rfl
      have lK : (fCl F).length = 6 := kF.2.2.1.1
      have gK : ((fCl F).set i (((fCl F).getD i cl0).1 ++ [(x2, x3, x4, x5)], ((fCl F).getD i cl0).2)).getD i cl0 = (((fCl F).getD i cl0).1 ++ [(x2, x3, x4, x5)], ((fCl F).getD i cl0).2) := gS (by omega)
      have hm : msgV h6 (oX (oX o h3 (y 9)) h4 (y 9)) y ss (fCl (keepA F i (x2, x3, x4, x5))) (hS h4) (i, ((fCl F).getD i cl0).1.length + 1, nI (loA ((fCl F).getD i cl0)), some t, none) := by
        refine msgV.new (t := some t) k94 cg4.w q7 hi6 ?_ oq4 ?_ rfl (fun z ez => by cases ez; exact q3) (Or.inl ⟨rfl, rfl⟩)
        · show _ ∧ _ ≤ (((fCl F).set i (((fCl F).getD i cl0).1 ++ [(x2, x3, x4, x5)], ((fCl F).getD i cl0).2)).getD i cl0).1.length
          rw [gK, List.length_append]
          exact ⟨by omega, Nat.le_refl _⟩
        · show reqV _ _ _ _ ((((fCl F).set i (((fCl F).getD i cl0).1 ++ [(x2, x3, x4, x5)], ((fCl F).getD i cl0).2)).getD i cl0).1.getD (((fCl F).getD i cl0).1.length + 1 - 1) rq0)
          rw [gK, Nat.add_sub_cancel, gD_app]
          exact kq
      have w6 := cg6.w
      have ok6 := cg6.2.2.1
      have o9 := kF6.1.1.1
      obtain ⟨ob1, ob2, ob3⟩ := kF6.2.1.2.2.1 i hi6
      have cgB : CG (fun z => z = y 9) 0 0 h6 (oX (oX o h3 (y 9)) h4 (y 9)) (hpI (hpB h6 (cs.getD i cs0).2.1 ((fCl F).getD i cl0).1.length (some (hS h3))) 130 (cs.getD i cs0).1 (nI (((fCl F).getD i cl0).1.length + 1))) (oX (oX o h3 (y 9)) h4 (y 9)) := by
        have z1 : CG (fun z => z = y 9) 0 0 h6 (oX (oX o h3 (y 9)) h4 (y 9)) (hpB h6 (cs.getD i cs0).2.1 ((fCl F).getD i cl0).1.length (some (hS h3))) (oX (oX o h3 (y 9)) h4 (y 9)) := CG.of0 (Ch.wB w6 _ (w6.lt (by have := g2.2.2.2.1; omega))) ok6 (fun z _ q => by rw [q]; exact ⟨by have := g2.2.2.2.1; omega, Or.inr (by rw [ob2]; exact o9)⟩) (fun _ _ => rfl)
        have kc3 : hK (hpB h6 (cs.getD i cs0).2.1 ((fCl F).getD i cl0).1.length (some (hS h3))) (cs.getD i cs0).1 = 3 := g2.1
        exact CG.tr w6 ok6 z1 (CG.wI z1.w ok6 (by omega) (by omega) (by rw [ob1]; exact o9) (by decide))
      have sm7 : Sm9 h6 (oX (oX o h3 (y 9)) h4 (y 9)) (y 9) (hpI (hpB h6 (cs.getD i cs0).2.1 ((fCl F).getD i cl0).1.length (some (hS h3))) 130 (cs.getD i cs0).1 (nI (((fCl F).getD i cl0).1.length + 1))) (oX (oX o h3 (y 9)) h4 (y 9)) := by
        intro z _ z0 z1 z2 z3 z4 z5
        have kk1 := g2.1
        have kk2 := g2.2.2.2.1
        have n1 : ¬ z = (cs.getD i cs0).2.1 := fun e => z1 (by rw [e]; exact kk2)
        have n2 : ¬ z = (cs.getD i cs0).1 := fun e => z4 (by rw [e]; exact kk1)
        exact ⟨⟨rfl, fun f => ⟨by rw [rI_I, if_neg (fun e => n2 e.2)]; rfl, rfl⟩, rfl, fun k => ⟨rfl, by show (if z = _ ∧ k = _ then _ else hB h6 z k) = _; rw [if_neg (fun e => n1 e.1)]⟩⟩, rfl⟩
      have kF8 := kF7.net hp (Or.inr ⟨hS h4, _, rfl, rfl, hm.fr sm7⟩)
      have cgN8 := CG.net (p := p) (um := some (hS h4)) cgB.w ok6 kF7.1
      rw [← e7'] at kF8 cgN8
      have cgT := CG.tr wf ok (CG.tr wf ok (cg4.mono ok (B' := fun z => z = y 9) (fun _ _ q => q.elim) (Nat.le_refl _) (Nat.le_refl _)) (cg6.mono cg4.2.2.1 (fun _ _ q => q.elim) (Nat.le_refl _) (Nat.le_refl _))) (CG.tr w6 ok6 cgB cgN8)
      have s449 : hI h7 449 (hS h3) = nI (((fCl F).getD i cl0).1.length + 1) := by
        rw [e7']
        show hI (hpI (hpB h6 (cs.getD i cs0).2.1 ((fCl F).getD i cl0).1.length (some (hS h3))) 130 (cs.getD i cs0).1 (nI (((fCl F).getD i cl0).1.length + 1))) 449 (hS h3) = _
        rw [rI_I, if_neg (fun z => absurd z.1 (by decide))]
        exact kq6.2.2.1
      have k8 : hK h7 (hS h3) = 8 := by rw [e7']; exact kq6.1
      refine s_63_93 (k3 := k8) (hq := ⟨_, rfl, s449, ?_⟩)
      have fin : StpF g h3 o y R R2 ss Ls Ds (1 + 1 + (0 + 0)) (nf 7 + nf 5 + (0 + 0)) (netA (keepA F i (x2, x3, x4, x5)) p (some (i, ((fCl F).getD i cl0).1.length + 1, nI (loA ((fCl F).getD i cl0)), some t, none))) h7 := StpF.y9 kS cgT kF8
      exact fin.le (by omega) (by omega)
  · rw [e130] at z
    have n40 : ¬ ((fCl F).getD x1.toNatClampNeg cl0).1.length < 40 := fun q => z (by rw [ec] at q; exact nI_lt (b := 40) q (by decide))
    have eP : sendA F x1 x2 x3 x4 x5 = (F, -1) := by unfold sendA; rw [if_neg n4, if_pos n40]
    rw [eP]
    exact ⟨rfl, rf0⟩
end FC
