/-! the two sides: the heir; a DEAD LOG's tablets, one after the other -/
def setD (S : stA) (d : List (alT × Int32)) : stA := (S.1, S.2.1, tOw S, d, tDs S, tFo S)
section HE
variable {x x' v xr : Int32} {A A' B D : alT} {k e i j N U rep nm m c n up L M t r a : Nat} {p : pT} {l rd : List pT} {ky : Int32} {y : Nat → Nat} {S S' : stA} {μ μ' : mT} {de d : List (alT × Int32)} {ps : psT} {z' : srA}
theorem he_R (mr : MR y S μ) : heirA y S = noM y μ := by
  obtain ⟨⟨k0, -⟩, -, -, ow, sv, -⟩ := mr
  have y8 := k0.1.2
  unfold heirA noM
  have : ∀ (l : List Nat) (st : Option Nat × Int32) (b : Option Nat), (∀ s ∈ l, s < y 20) → st.1 = b → (b = none → st.2 = 9) → (∀ k, b = some k → st.2 = nI (onN μ (nI k))) → (l.foldl (heA S) st).1 = l.foldl (noF μ) b := by
    intro l
    induction l with
    | nil => intro st b _ h _ _; exact h
    | cons s l ih =>
      intro st b hl h1 h2 h3
      rw [List.foldl_cons, List.foldl_cons]
      have hs := hl s List.mem_cons_self
      obtain ⟨⟨a1, a2, a3, -⟩, -⟩ := sv s hs
      have keep : heA S st s = st → noF μ b s = b → (l.foldl (heA S) (heA S st s)).1 = l.foldl (noF μ) (noF μ b s) := fun e1 e2 => by
        rw [e1, e2]
        exact ih st b (fun s hs => hl s (List.mem_cons_of_mem _ hs)) h1 h2 h3
      by_cases q1 : sSt ((tSv S).getD s sr0) = 0
      · by_cases q2 : sFe ((tSv S).getD s sr0) = 0
        · by_cases q3 : sLo ((tSv S).getD s sr0) = 0
          · have tb : tabA (tOw S) (nI s) = nI (onN μ (nI s)) := tab_N ow
            have on8 := onN_le (μ := μ) (x := nI s)
            have cond : (st.2 ≤ tabA (tOw S) (nI s)) ↔ noB μ b s = false := by
              rw [tb]
              cases b with
              | none =>
                rw [h2 rfl, show (9 : Int32) = nI 9 from rfl, nI_leI (by decide) (by omega)]
                exact ⟨fun w => by omega, fun w => by cases w⟩
              | some k =>
                rw [h3 k rfl, nI_leI (Nat.lt_of_le_of_lt onN_le (by decide)) (by omega)]
                show _ ↔ decide (onN μ (nI s) < onN μ (nI k)) = false
                rw [decide_eq_false_iff_not]
                omega
            by_cases q4 : st.2 ≤ tabA (tOw S) (nI s)
            · refine keep ?_ ?_
              · unfold heA
                rw [if_neg (show ¬ ¬ _ from fun w => w q1), if_neg (show ¬ ¬ _ from fun w => w q2), if_neg (show ¬ ¬ _ from fun w => w q3), if_pos q4]
              · unfold noF
                rw [if_neg]
                intro w
                rw [cond.mp q4] at w
                exact absurd w.2.2.2 (by decide)
            · have e1 : heA S st s = (some s, tabA (tOw S) (nI s)) := by
                unfold heA
                rw [if_neg (show ¬ ¬ _ from fun w => w q1), if_neg (show ¬ ¬ _ from fun w => w q2), if_neg (show ¬ ¬ _ from fun w => w q3), if_neg q4]
              have nb : noB μ b s = true := by
                cases e : noB μ b s with
                | true => rfl
                | false => exact absurd (cond.mpr e) q4
              have e2 : noF μ b s = some s := by
                unfold noF
                rw [if_pos ⟨a1.trans q1, a2.trans q2, a3.trans q3, nb⟩]
              rw [e1, e2]
              exact ih _ _ (fun s hs => hl s (List.mem_cons_of_mem _ hs)) rfl (fun w => by cases w) (fun k w => by cases w; exact tb)
          · refine keep ?_ ?_
            · unfold heA
              rw [if_neg (show ¬ ¬ _ from fun w => w q1), if_neg (show ¬ ¬ _ from fun w => w q2), if_pos q3]
            · unfold noF
              rw [if_neg (fun w => q3 (a3.symm.trans w.2.2.1))]
        · refine keep ?_ ?_
          · unfold heA
            rw [if_neg (show ¬ ¬ _ from fun w => w q1), if_pos q2]
          · unfold noF
            rw [if_neg (fun w => q2 (a2.symm.trans w.2.1))]
      · refine keep ?_ ?_
        · unfold heA
          rw [if_pos q1]
        · unfold noF
          rw [if_neg (fun w => q1 (a1.symm.trans w.1))]
  exact this (List.range (y 20)) (none, 9) none (fun s hs => List.mem_range.mp hs) rfl (fun _ => rfl) (fun k w => by cases w)
theorem apS_D : apS y i (setD S d) p = setD (apS y i S p) d := by
  unfold apS
  have e : mkrS y (setD S d) i (kU (pKd p)) 0 = mkrS y S i (kU (pKd p)) 0 := rfl
  rw [e]
  split <;> rfl
theorem apL_D : ∀ (l : List pT) (S : stA), apL y i (setD S d) l = setD (apL y i S l) d := by
  intro l
  induction l with
  | nil => intro S; rfl
  | cons p l ih =>
    intro S
    show apL y i (apS y i (setD S d) p) l = setD (apL y i (apS y i S p) l) d
    rw [apS_D, ih]
theorem tkS_D {ps : psT} : tkS y ps (setD S d) i t = setD (tkS y ps S i t) d := by
  unfold tkS
  have e1 : tk2 y ps.1 (tk1 (setD S d) i t) i = setD (tk2 y ps.1 (tk1 S i t) i) d := by
    unfold tk2
    have c : sSf ((tSv (tk1 (setD S d) i t)).getD i sr0) = sSf ((tSv (tk1 S i t)).getD i sr0) := rfl
    rw [c]
    split <;> rfl
  rw [e1, apL_D]
  rfl
theorem dtb_D : dtb S j t = setD S ((tDe S).set j (((tDe S).getD j d0A).1, ((tDe S).getD j d0A).2 &&& ((1 <<< (nI t &&& 31)) ^^^ (-1)))) := rfl
theorem clr_B : ∀ b, b < 256 → ∀ t, t < 8 → nI b &&& ((1 <<< (nI t &&& 31)) ^^^ (-1)) = nI (b &&& (255 ^^^ 2 ^ t)) ∧ b &&& (255 ^^^ 2 ^ t) < 256 := by decide +kernel
theorem clr_t {b : Nat} (ht : t < 8) {t' : Nat} (ht' : t' < 8) : (b &&& (255 ^^^ 2 ^ t)).testBit t' = if t' = t then false else b.testBit t' := by
  rw [Nat.testBit_and, Nat.testBit_xor, Nat.testBit_two_pow, show 255 = 2 ^ 8 - 1 from rfl, Nat.testBit_two_pow_sub_one, decide_eq_true ht']
  by_cases q : t' = t
  · subst q
    rw [if_pos rfl, decide_eq_true rfl]
    simp
  · rw [if_neg q, decide_eq_false (fun w => q w.symm)]
    simp
/-- a tablet leaves a DEAD LOG -/
theorem MR.clr (mr : MR y S μ) (hj : j < (tDe S).length) (ht : t < 8) (hb : ∃ b, b < 256 ∧ ((tDe S).getD j d0A).2 = nI b) : MR y (dtb S j t) (uR μ 58 (8 * j + t) 0) := by
  obtain ⟨b, hb, eb⟩ := hb
  obtain ⟨k0, ⟨l1, l2, l3, l4⟩, ⟨n1, n2, n3, n4, n5, n6, n7, n8⟩, ow, sv, de, dd, sp, lb⟩ := mr
  have len : (tDe (dtb S j t)).length = (tDe S).length := by
    show ((tDe S).set j _).length = _
    rw [List.length_set]
  refine ⟨k0, ⟨l1, l2, by rw [len]; exact l3, l4⟩, ⟨n1, n2, n3, n4, n5, n6, n7, by rw [len]; exact n8⟩, ow, sv, fun j' hj' => ?_, fun j' k hj' hk e => dd j' k (by rw [len] at hj'; exact hj') (by rw [len] at hk; exact hk) e, sp, by rw [len]; exact lb⟩
  rw [len] at hj'
  obtain ⟨e1, e2, e3⟩ := de j' hj'
  show MRd _ j' (((tDe S).set j (((tDe S).getD j d0A).1, ((tDe S).getD j d0A).2 &&& ((1 <<< (nI t &&& 31)) ^^^ (-1)))).getD j' d0A)
  by_cases q : j' = j
  · subst q
    have eg : ((tDe S).set j' (((tDe S).getD j' d0A).1, ((tDe S).getD j' d0A).2 &&& ((1 <<< (nI t &&& 31)) ^^^ (-1)))).getD j' d0A = (((tDe S).getD j' d0A).1, ((tDe S).getD j' d0A).2 &&& ((1 <<< (nI t &&& 31)) ^^^ (-1))) := by
      rw [List.getD_eq_getElem?_getD, List.getElem?_set_self hj']; rfl
    rw [eg]
    refine ⟨e1, fun t' ht' => ?_, e3⟩
    have o := e2 t' ht'
    rw [eb, sh_N b hb t' ht'] at o
    show (if (58 : Nat) = 58 ∧ 8 * j' + t' = 8 * j' + t then 0 else μ.2.1 58 (8 * j' + t')) = shrB (((tDe S).getD j' d0A).2 &&& ((1 <<< (nI t &&& 31)) ^^^ (-1))) (nI t')
    obtain ⟨c1, c2⟩ := clr_B b hb t ht
    rw [eb, c1, sh_N _ c2 t' ht', clr_t ht ht', o]
    by_cases w : t' = t
    · rw [if_pos ⟨rfl, by rw [w]⟩, if_pos w]; rfl
    · rw [if_neg (fun z => w (by omega)), if_neg w]
  · have eg : ((tDe S).set j (((tDe S).getD j d0A).1, ((tDe S).getD j d0A).2 &&& ((1 <<< (nI t &&& 31)) ^^^ (-1)))).getD j' d0A = (tDe S).getD j' d0A := by
      rw [List.getD_eq_getElem?_getD, List.getElem?_set_ne (fun w => q w.symm), ← List.getD_eq_getElem?_getD]
    rw [eg]
    refine ⟨e1, fun t' ht' => ?_, e3⟩
    show (if (58 : Nat) = 58 ∧ 8 * j' + t' = 8 * j + t then 0 else μ.2.1 58 (8 * j' + t')) = _
    rw [if_neg (by omega)]
    exact e2 t' ht'
end HE
