/-! the two sides: a DEAD LOG's tablets are recovered -/
def RJ (y : Nat → Nat) (L M j : Nat) (x : Int32) (D : alT) (up : Nat) (S : stA) (μ : mT) : Prop := RI y 0 L M (tDe S) up j x S μ ∧ (j < (tDe S).length ∧ ((tDe S).getD j d0A).1 = D ∧ ∃ b, b < 256 ∧ ((tDe S).getD j d0A).2 = nI b) ∧ ∀ i, i < y 20 → ∃ b, b < 256 ∧ sTb ((tSv S).getD i sr0) = nI b
section RC
variable {x x' v xr : Int32} {A A' B D : alT} {k e i j N U rep nm m c n up L M t r a : Nat} {p : pT} {l rd : List pT} {ky : Int32} {y : Nat → Nat} {S S' : stA} {μ μ' : mT} {de d : List (alT × Int32)} {ps : psT} {z' : srA}
theorem set_tb {f : srA → srA} (hf : ∀ z, sTb (f z) = sTb z) : ∀ i' (S : stA), sTb (((tSv S).set i (f ((tSv S).getD i sr0))).getD i' sr0) = sTb ((tSv S).getD i' sr0) := fun i' S => by
  by_cases q : i' = i
  · subst q
    rcases Nat.lt_or_ge i' (tSv S).length with h | h
    · rw [List.getD_eq_getElem?_getD, List.getElem?_set_self h]
      exact hf _
    · rw [List.set_eq_of_length_le h]
  · rw [List.getD_eq_getElem?_getD, List.getElem?_set_ne (fun w => q w.symm), ← List.getD_eq_getElem?_getD]
theorem rm_tb {W : alT × Nat × Int32 × Int32} (i' : Nat) : sTb ((tSv (rmW S i W)).getD i' sr0) = sTb ((tSv S).getD i' sr0) := set_tb (i := i) (f := fun z => stLg z W.1) (fun _ => rfl) i' S
theorem wr_tb {np : List pT} (i' : Nat) : sTb ((tSv (wrS S i np c)).getD i' sr0) = sTb ((tSv S).getD i' sr0) := set_tb (i := i) (f := fun z => stLg z (wrtA (sLg z) np c)) (fun _ => rfl) i' S
theorem sf_tb (i' : Nat) : sTb ((tSv (sfS S i v)).getD i' sr0) = sTb ((tSv S).getD i' sr0) := set_tb (i := i) (f := fun z => sfX z v) (fun _ => rfl) i' S
theorem aps_tb (i' : Nat) : sTb ((tSv (apS y i S p)).getD i' sr0) = sTb ((tSv S).getD i' sr0) := by
  unfold apS
  split
  · exact rm_tb i'
  · exact (wr_tb i').trans (rm_tb i')
theorem apL_tb (i' : Nat) : ∀ (l : List pT) (S : stA), sTb ((tSv (apL y i S l)).getD i' sr0) = sTb ((tSv S).getD i' sr0) := by
  intro l
  induction l with
  | nil => intro S; rfl
  | cons p l ih => intro S; exact (ih (apS y i S p)).trans (aps_tb i')
theorem tkS_tb {ps : psT} (ht : t < 8) (h : ∀ i', i' < y 20 → ∃ b, b < 256 ∧ sTb ((tSv S).getD i' sr0) = nI b) (hi : i < y 20) (ls : (tSv S).length = y 20) : ∀ i', i' < y 20 → ∃ b, b < 256 ∧ sTb ((tSv (tkS y ps S i t)).getD i' sr0) = nI b := by
  intro i' hi'
  unfold tkS
  rw [apL_tb]
  have e2 : sTb ((tSv (tk2 y ps.1 (tk1 S i t) i)).getD i' sr0) = sTb ((tSv (tk1 S i t)).getD i' sr0) := by
    unfold tk2
    split
    · rfl
    · exact (rm_tb i').trans (sf_tb i')
  rw [e2]
  show ∃ b, b < 256 ∧ sTb (((tSv S).set i (tbX ((tSv S).getD i sr0) t)).getD i' sr0) = nI b
  by_cases q : i' = i
  · subst q
    obtain ⟨b, hb, eb⟩ := h i' hi'
    obtain ⟨o1, o2⟩ := or_N b hb t ht
    refine ⟨b ||| 2 ^ t, o2, ?_⟩
    rw [List.getD_eq_getElem?_getD, List.getElem?_set_self (by omega)]
    show sTb ((tSv S).getD i' sr0) ||| (1 <<< (nI t &&& 31)) = _
    rw [eb]; exact o1
  · rw [List.getD_eq_getElem?_getD, List.getElem?_set_ne (fun w => q w.symm), ← List.getD_eq_getElem?_getD]
    exact h i' hi'
theorem rcT_no (hn : heirA y S = none) : ∀ (l : List Nat) (k : Nat), l.foldl (rcT y ps j) (S, k) = (S, k) := by
  intro l
  induction l with
  | nil => intro k; rfl
  | cons t l ih =>
    intro k
    rw [List.foldl_cons]
    have : rcT y ps j (S, k) t = (S, k) := by
      unfold rcT
      split
      · rfl
      · dsimp only
        rw [hn]
    rw [this]
    exact ih k
theorem sh_01 {b : Nat} (hb : b < 256) (ht : t < 8) : shrB (nI b) (nI t) = 0 ∨ shrB (nI b) (nI t) = 1 := by
  rw [sh_N b hb t ht]
  cases b.testBit t
  · exact Or.inl rfl
  · exact Or.inr rfl
theorem setD_g (d' : alT × Int32) (hj : j < de.length) : (de.set j d').getD j d0A = d' := by
  rw [List.getD_eq_getElem?_getD, List.getElem?_set_self hj]; rfl
theorem RJ.step (h : RJ y L M j x D up S μ) (hi : i < y 20) (ht : t < 8) (di : DI D) (hu : upH (nI up) D) (hL : L + 520 < 2 ^ 31 - 9) (hM : M + 520 ≤ 80000) : RJ y (L + 510) (M + 510) j x D up (tkS y (psA (rdP (nI up) D)) (dtb S j t) i t) (uR (tovM y μ i t x) 58 (8 * j + t) 0) ∧ ((tDe (tkS y (psA (rdP (nI up) D)) (dtb S j t) i t)).getD j d0A).2 = ((tDe S).getD j d0A).2 &&& ((1 <<< (nI t &&& 31)) ^^^ (-1)) := by
  obtain ⟨ri, ⟨hj, hD, b, hb, eb⟩, tb⟩ := h
  have r1 := tkS_R (i := i) ri hi hj ht (tb i hi) (by rw [hD]; exact di) (by rw [hD]; exact hu) hL hM
  rw [hD] at r1
  have eS : tkS y (psA (rdP (nI up) D)) (dtb S j t) i t = dtb (tkS y (psA (rdP (nI up) D)) S i t) j t := by
    rw [dtb_D, tkS_D, dtb_D, r1.2.2.2.2.2.1]
  rw [eS]
  have tb' := tkS_tb (ps := psA (rdP (nI up) D)) (t := t) (i := i) ht tb hi ri.1.2.1.1
  generalize tkS y (psA (rdP (nI up) D)) S i t = S1 at r1 tb' ⊢
  generalize tovM y μ i t x = μ1 at r1 ⊢
  obtain ⟨mr, gq, nm, hl, hm, hd, hup, hx⟩ := r1
  have hj1 : j < (tDe S1).length := by rw [hd]; exact hj
  have mc := mr.clr (t := t) hj1 ht (by rw [hd]; exact ⟨b, hb, eb⟩)
  obtain ⟨c1, c2⟩ := clr_B b hb t ht
  have ed : tDe (dtb S1 j t) = (tDe S1).set j (((tDe S1).getD j d0A).1, ((tDe S1).getD j d0A).2 &&& ((1 <<< (nI t &&& 31)) ^^^ (-1))) := rfl
  have eg : (tDe (dtb S1 j t)).getD j d0A = (((tDe S1).getD j d0A).1, ((tDe S1).getD j d0A).2 &&& ((1 <<< (nI t &&& 31)) ^^^ (-1))) := by rw [ed]; exact setD_g _ hj1
  refine ⟨⟨⟨mc, gq, nm, hl, hm, rfl, hup, hx⟩, ⟨by rw [ed, List.length_set]; exact hj1, by rw [eg, hd]; exact hD, b &&& (255 ^^^ 2 ^ t), c2, by rw [eg, hd, eb]; exact c1⟩, tb'⟩, ?_⟩
  rw [eg, hd]
theorem ar_1 {L n C : Nat} (h : L + 520 * (n + 1 + 1) < C) : L + 520 < C ∧ L + 510 + 520 * (n + 1) < C ∧ L + 520 * (n + 1) < C := by omega
theorem ar_2 {L n C : Nat} (h : L + 520 * (n + 1 + 1) ≤ C) : L + 520 ≤ C ∧ L + 510 + 520 * (n + 1) ≤ C ∧ L + 520 * (n + 1) ≤ C := by omega
theorem rcG_R (di : DI D) (hu : upH (nI up) D) : ∀ (n t L M : Nat) (S : stA) (μ : mT) (k : Nat), t + n = 8 → RJ y L M j x D up S μ → (∀ t', t' < t → shrB ((tDe S).getD j d0A).2 (nI t') = 0) → L + 520 * (n + 1) < 2 ^ 31 - 9 → M + 520 * (n + 1) ≤ 80000 → RJ y (L + 510 * n) (M + 510 * n) j x D up ((List.range' t n).foldl (rcT y (psA (rdP (nI up) D)) j) (S, k)).1 (rcG y j x (List.range' t n) μ).1 ∧ (¬ (rcG y j x (List.range' t n) μ).2 = 0 → ((tDe ((List.range' t n).foldl (rcT y (psA (rdP (nI up) D)) j) (S, k)).1).getD j d0A).2 = 0) ∧ ((rcG y j x (List.range' t n) μ).2 = 0 → ¬ ((tDe ((List.range' t n).foldl (rcT y (psA (rdP (nI up) D)) j) (S, k)).1).getD j d0A).2 = 0) := by
  intro n
  induction n with
  | zero =>
    intro t L M S μ k e h hb _ _
    refine ⟨h, fun _ => ?_, fun w => absurd w (show ¬ (1 : Int32) = 0 by decide)⟩
    obtain ⟨-, ⟨hj, hD, b, hb8, eb⟩, -⟩ := h
    show ((tDe S).getD j d0A).2 = 0
    have b0 : b = 0 := by
      refine Nat.eq_of_testBit_eq (fun t' => ?_)
      rw [Nat.zero_testBit]
      by_cases q : t' < 8
      · have := hb t' (by omega)
        rw [eb, sh_N b hb8 t' q] at this
        cases e : b.testBit t' with
        | false => rfl
        | true => rw [e] at this; exact absurd this (by decide)
      · exact Nat.testBit_lt_two_pow (Nat.lt_of_lt_of_le hb8 (Nat.pow_le_pow_right (n := 2) (i := 8) (by decide) (by omega)))
    rw [eb, b0]; rfl
  | succ n ih =>
    intro t L M S μ k e h hb hL hM
    have hL3 := ar_1 hL
    have hM3 := ar_2 hM
    obtain ⟨ri, ⟨hj, hD, b, hb8, eb⟩, tb⟩ := h
    have ht : t < 8 := by omega
    have r58 := (ri.1.2.2.2.2.2.1 j hj).2.1 t ht
    have sh := sh_01 (t := t) hb8 ht
    rw [← eb] at sh
    rw [List.range'_succ, List.foldl_cons]
    by_cases q : shrB ((tDe S).getD j d0A).2 (nI t) = 1
    · have nz : ¬ μ.2.1 58 (8 * j + t) = 0 := by rw [r58, q]; decide
      cases en : noM y μ with
      | none =>
        have hn : heirA y S = none := (he_R ri.1).trans en
        have eG : rcG y j x (t :: List.range' (t + 1) n) μ = (μ, 0) := by
          show (if _ then _ else _) = _
          rw [if_neg nz, en]
        have eT : rcT y (psA (rdP (nI up) D)) j (S, k) t = (S, k) := by
          unfold rcT
          split
          · rfl
          · dsimp only
            rw [hn]
        rw [eG, eT, rcT_no hn]
        refine ⟨⟨ri.mono (by omega) (by omega), ⟨hj, hD, b, hb8, eb⟩, tb⟩, fun w => absurd rfl w, fun _ w => ?_⟩
        have w : ((tDe S).getD j d0A).2 = 0 := w
        rw [w, sh_0 t ht] at q
        exact absurd q (by decide)
      | some i =>
        have hn : heirA y S = some i := (he_R ri.1).trans en
        have hi := noM_lt en
        have eG : rcG y j x (t :: List.range' (t + 1) n) μ = rcG y j x (List.range' (t + 1) n) (uR (tovM y μ i t x) 58 (8 * j + t) 0) := by
          show (if _ then _ else _) = _
          rw [if_neg nz, en]
        have eT : rcT y (psA (rdP (nI up) D)) j (S, k) t = (tkS y (psA (rdP (nI up) D)) (dtb S j t) i t, k + 1) := by
          unfold rcT
          rw [if_neg (show ¬ ¬ ((((tDe S).getD j d0A).2 >>> (nI t &&& 31)) &&& 1) = 1 from fun w => w q)]
          dsimp only
          rw [hn]
        rw [eG, eT]
        obtain ⟨s1, s2⟩ := RJ.step (i := i) (t := t) ⟨ri, ⟨hj, hD, b, hb8, eb⟩, tb⟩ hi ht di hu hL3.1 hM3.1
        obtain ⟨c1, c2⟩ := clr_B b hb8 t ht
        have := ih (t + 1) (L + 510) (M + 510) _ _ (k + 1) (by omega) s1 (fun t' ht' => by
          rw [s2, eb, c1, sh_N _ c2 t' (by omega), clr_t ht (by omega)]
          by_cases w : t' = t
          · rw [if_pos w]; rfl
          · rw [if_neg w]
            have := hb t' (by omega)
            rw [eb, sh_N b hb8 t' (by omega)] at this
            exact this) hL3.2.1 hM3.2.1
        rw [show L + 510 * (n + 1) = L + 510 + 510 * n by omega, show M + 510 * (n + 1) = M + 510 + 510 * n by omega]
        exact this
    · have q0 : shrB ((tDe S).getD j d0A).2 (nI t) = 0 := sh.resolve_right q
      have z0 : μ.2.1 58 (8 * j + t) = 0 := r58.trans q0
      have eG : rcG y j x (t :: List.range' (t + 1) n) μ = rcG y j x (List.range' (t + 1) n) μ := by
        show (if _ then _ else _) = _
        rw [if_pos z0]
      have eT : rcT y (psA (rdP (nI up) D)) j (S, k) t = (S, k) := by
        unfold rcT
        rw [if_pos (show ¬ ((((tDe S).getD j d0A).2 >>> (nI t &&& 31)) &&& 1) = 1 from q)]
      rw [eG, eT]
      have := ih (t + 1) L M S μ k (by omega) ⟨ri, ⟨hj, hD, b, hb8, eb⟩, tb⟩ (fun t' ht' => by
        by_cases w : t' = t
        · rw [w]; exact q0
        · exact hb t' (by omega)) hL3.2.2 hM3.2.2
      obtain ⟨t1, t2, t3⟩ := this
      obtain ⟨u1, u2, u3⟩ := t1
      exact ⟨⟨u1.mono (by omega) (by omega), u2, u3⟩, t2, t3⟩
end RC
