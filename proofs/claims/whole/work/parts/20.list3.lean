/-- with an element more at i -/
def insL (xs : List Nat) (i b : Nat) : List Nat := xs.take i ++ b :: xs.drop i
theorem insL_len {xs : List Nat} {i b : Nat} (hi : i ≤ xs.length) : (insL xs i b).length = xs.length + 1 := by
  unfold insL
  rw [List.length_append, List.length_take, List.length_cons, List.length_drop]
  omega
theorem insL_get {xs : List Nat} {i b j : Nat} (hi : i ≤ xs.length) (hj : j < (insL xs i b).length) : (insL xs i b)[j]? = if j < i then xs[j]? else if j = i then some b else xs[j - 1]? := by
  unfold insL
  by_cases c : j < i
  · rw [if_pos c, List.getElem?_append_left (by rw [List.length_take]; omega), List.getElem?_take_of_lt c]
  · rw [if_neg c, List.getElem?_append_right (by rw [List.length_take]; omega), List.length_take, Nat.min_eq_left hi]
    by_cases d : j = i
    · rw [if_pos d, d, Nat.sub_self]; rfl
    · rw [if_neg d, show j - i = (j - i - 1) + 1 by omega, List.getElem?_cons_succ, List.getElem?_drop]
      congr 1
      omega
theorem insL_mem {xs : List Nat} {i b x : Nat} (hx : x ∈ insL xs i b) : x = b ∨ x ∈ xs := by
  unfold insL at hx
  rcases List.mem_append.mp hx with z | z
  · exact Or.inr (List.mem_of_mem_take z)
  · rcases List.mem_cons.mp z with z | z
    · exact Or.inl z
    · exact Or.inr (List.mem_of_mem_drop z)
section LIST3
variable {g : gcT} {P : pmT} {h : hpT}
theorem m_200 {l i n : Nat} (k1 : hK h l = 1) (k2 : hI h 2 l = nI n) (hi : i ≤ n) (hn : n < 2 ^ 31) : EvV g P 200 [va_rf (some l), .int (nI i)] h (fun h' => h' = h) :=
  e_200 (s_200_0 (kt := fun z => absurd z (by rw [k2]; exact nI_nlt hi hn)) (kf := fun _ => s_200_8 (kt := fun _ => s_200_25 ⟨rfl, rfl⟩) (kf := fun z => absurd (nI_pos' (by omega)) z)))
/-- add(i, x) -/
theorem m_addAt (hP6 : P 206 = cpyO) {l b c i : Nat} {xs : List Nat} (w : hWF h) (hg : gOK g h) (hl : tLs g h c l xs) (hb : hK h b = c + 1) (hi : i ≤ xs.length) (hn : xs.length ≤ 400000) : EvV g P 196 [va_rf (some l), .int (nI i), va_rf (some b)] h (fun h' => Added g h l (insL xs i b) c xs.length h') := by
  have hok := hl.ok
  obtain ⟨hl, hc, hx⟩ := hl
  have hl' := hl
  obtain ⟨k1, k2, e0, k3, k4⟩ := hl
  have hll : l < hS h := w.lt (by omega)
  have hbl : b < hS h := w.lt (by omega)
  have c1 := Ch.wI (f := 0) (a := l) w (hI h 0 l + 1) hll
  generalize hh : hpI h 0 l (hI h 0 l + 1) = h0 at c1
  have a1 : hK h0 l = 1 := by rw [← hh]; exact k1
  have a2 : hI h0 2 l = nI xs.length := by rw [← hh, rI_I, if_neg (by omega)]; exact k2
  have a3 : hR h0 1 l = some e0 := by rw [← hh]; exact k3
  have aK : ∀ a, hK h0 a = hK h a := fun a => by rw [← hh]; rfl
  have aN : ∀ a, hN h0 a = hN h a := fun a => by rw [← hh]; rfl
  have aB : ∀ a j, hB h0 a j = hB h a j := fun a j => by rw [← hh]; rfl
  have aS : hS h0 = hS h := by rw [← hh]; rfl
  have hel : ∀ z, e0 = z → z ≠ g.2.2.2 → z < hS h := fun z hz hne => by
    rcases k4 with ⟨q, -⟩ | ⟨q, -⟩
    · exact absurd (hz.symm.trans q) hne
    · rw [hz] at q; exact w.lt (by omega)
  -- from 38 on, with a row that has room
  have fin : ∀ (h1 : hpT) (e1 n : Nat), hWF h1 → hS h ≤ hS h1 → hK h1 l = 1 → hI h1 2 l = nI xs.length → hR h1 1 l = some e1 → hK h1 e1 = 28 → e1 < hS h1 → hN h1 e1 = n → xs.length < n → n ≤ 1000000 → (∀ j (hj : j < xs.length), hB h1 e1 j = some xs[j]) → (∀ a, a < hS h → hK h1 a = hK h a) → e1 ≠ g.2.2.2 → capO g h l ≤ n → n ≤ max (capO g h l) (2 * xs.length + 10) → (hR h 1 l = some e1 ∨ hS h ≤ e1) → Ch (fun a => a = l ∨ hR h 1 l = some a) (n - capO g h l) (4 * (n - capO g h l)) h h1 → Ev g P 196 38 [some (va_rf (some l)), some (.int (nI i)), some (va_rf (some b)), some (.int (nI xs.length)), some (va_rf (some e1))] [] h1 (fun h' r => r = none ∧ Added g h l (insL xs i b) c xs.length h') := by
    intro h1 e1 n w1 f0 f1 f2 f3 f4 f5 f6 f7 f8 f9 f10 f11 f12 f13 f14 f15
    have s1 : (nI (i + 1)).toNatClampNeg = i + 1 := nI_clamp (by omega)
    have s2 : (nI i).toNatClampNeg = i := nI_clamp (by omega)
    have s3 : (nI (xs.length - i)).toNatClampNeg = xs.length - i := nI_clamp (by omega)
    refine o_al d_196_38 rfl (o_iln d_196_40 rfl (o_al d_196_41 rfl (o_iln d_196_43 rfl (o_ic (v := 1) d_196_44 (by decide) (o_add d_196_45 (o_iln d_196_46 rfl (o_iln d_196_47 rfl (o_sub d_196_48 ?_))))))))
    rw [nI_1, pk_sub hi]
    refine o_cpy d_196_49 (by decide +kernel) rfl rfl f4 (nI_pos (by omega)) (nI_pos (by omega)) (nI_pos (by omega)) (by rw [s2, s3]; omega) (by rw [s1, s3]; omega) ?_ (by simp) (by decide) ?_
    · refine List.any_eq_true.mpr ⟨c, by rcases hc with rfl | rfl | rfl <;> simp, List.all_eq_true.mpr fun j hj => ?_⟩
      rw [s3] at hj
      have hj2 : i + j < xs.length := by have := List.mem_range.mp hj; omega
      rw [s2, f9 _ hj2]
      have hkx := hx _ (List.getElem_mem hj2)
      simp only [f10 _ (w.lt (by omega : hK h xs[i + j] ≠ 0)), hkx]
      simp
    · rw [s1, s2, s3]
      have d := Ch.mC (a := e1) (sp := i) (dp := i + 1) (n := xs.length - i) w1 f5
      have hv : vinD (nI i) (hN (hpCp h1 e1 i (i + 1) (xs.length - i)) e1) := by
        show vinD (nI i) (hN h1 e1)
        rw [f6]; exact vin_nI (by omega) (by omega)
      have hlen := insL_len (b := b) hi
      have hkb : hK h1 b = c + 1 := by rw [f10 b hbl]; exact hb
      refine s_196_52 (i4 := hv) (c5 := fun b' eb => ?_) (hq := ⟨rfl, ⟨⟨f1, ?_, e1, f3, Or.inr ⟨f4, by show 1 ≤ hN h1 e1; omega, by show _ ≤ hN h1 e1; omega, by show hN h1 e1 ≤ _; omega, fun j hj => ?_⟩⟩, hc, fun x hx2 => ?_⟩, ?_, ?_, ?_, fun e' he' => ?_⟩)
      · cases eb
        show 1 ≤ hK h1 b ∧ hK h1 b ≤ 14 ∧ cmpO (28 - 20) (hK h1 b - 1) = true
        rw [hkb]
        rcases hc with rfl | rfl | rfl <;> decide
      · rw [rI_I, if_pos ⟨rfl, rfl⟩, nI_1, hlen]
      · rw [rB_I, rB_B, s2, rB_C]
        have := insL_get hi hj
        by_cases cj : j = i
        · rw [if_pos ⟨rfl, cj⟩]
          rw [if_neg (by omega), if_pos cj, List.getElem?_eq_getElem hj] at this
          exact this.symm
        · rw [if_neg (fun z => cj z.2)]
          by_cases cl : j < i
          · rw [if_neg (by omega), f9 j (by omega)]
            rw [if_pos cl, List.getElem?_eq_getElem hj, List.getElem?_eq_getElem (by omega : j < xs.length)] at this
            exact this.symm
          · rw [if_pos (by omega), show i + (j - (i + 1)) = j - 1 by omega, f9 (j - 1) (by omega)]
            rw [if_neg cl, if_neg cj, List.getElem?_eq_getElem hj, List.getElem?_eq_getElem (by omega : j - 1 < xs.length)] at this
            exact this.symm
      · rcases insL_mem hx2 with z | z
        · rw [z]; exact hkb
        · exact (f10 x (w.lt (by have := hx x z; omega))).trans (hx x z)
      · have : capO g (hpI (hpB (hpCp h1 e1 i (i + 1) (xs.length - i)) e1 (nI i).toNatClampNeg (some b)) 2 l (nI xs.length + 1)) l = n := by
          unfold capO
          rw [show hR (hpI (hpB (hpCp h1 e1 i (i + 1) (xs.length - i)) e1 (nI i).toNatClampNeg (some b)) 2 l (nI xs.length + 1)) 1 l = some e1 from f3]
          dsimp only
          rw [if_neg f11]; exact f6
        rw [this]; exact f12
      · have : capO g (hpI (hpB (hpCp h1 e1 i (i + 1) (xs.length - i)) e1 (nI i).toNatClampNeg (some b)) 2 l (nI xs.length + 1)) l = n := by
          unfold capO
          rw [show hR (hpI (hpB (hpCp h1 e1 i (i + 1) (xs.length - i)) e1 (nI i).toNatClampNeg (some b)) 2 l (nI xs.length + 1)) 1 l = some e1 from f3]
          dsimp only
          rw [if_neg f11]; exact f6
        rw [this]; exact f13
      · have : capO g (hpI (hpB (hpCp h1 e1 i (i + 1) (xs.length - i)) e1 (nI i).toNatClampNeg (some b)) 2 l (nI xs.length + 1)) l = n := by
          unfold capO
          rw [show hR (hpI (hpB (hpCp h1 e1 i (i + 1) (xs.length - i)) e1 (nI i).toNatClampNeg (some b)) 2 l (nI xs.length + 1)) 1 l = some e1 from f3]
          dsimp only
          rw [if_neg f11]; exact f6
        rw [this]
        have d2 := Ch.wB (i := (nI i).toNatClampNeg) d.2.2.1 (some b) (Nat.lt_of_lt_of_le f5 d.1.1)
        have d3 := Ch.wI (f := 2) (a := l) d2.2.2.1 (nI xs.length + 1) (Nat.lt_of_lt_of_le (Nat.lt_of_lt_of_le (Nat.lt_of_lt_of_le hll f0) d.1.1) d2.1.1)
        refine (((f15.tr d).tr d2).tr d3).mono (fun a ha z => ?_) (by omega) (by omega)
        rcases z with ((z | z) | z) | z
        · exact z
        · rcases f14 with q | q
          · exact Or.inr (by rw [z]; exact q)
          · omega
        · rcases f14 with q | q
          · exact Or.inr (by rw [z]; exact q)
          · omega
        · exact Or.inl z
      · have : e' = e1 := Option.some.inj (he'.symm.trans f3)
        rw [this]; exact f14
  have cap0 : capO g h0 l = capO g h l := by unfold capO; rw [a3, k3]; dsimp only; rw [aN]
  -- growing
  have grow : capO g h l = xs.length → Ev g P 196 32 [some (va_rf (some l)), some (.int (nI i)), some (va_rf (some b)), some (.int (nI xs.length)), some (va_rf (some e0))] [] h0 (fun h' r => r = none ∧ Added g h l (insL xs i b) c xs.length h') := by
    intro hcap
    have hla0 : aLs g h0 l xs := by rw [← hh]; exact hl'
    have hg0 : gOK g h0 := by rw [← hh]; exact hg
    have hgrow := m_189 (P := P) hP6 c1.2.2.1 hg0 hla0 (cap0.trans hcap) (by omega) (by rw [← hh]; exact hok)
    generalize hN2 : (if xs.length = 0 then 10 else xs.length + max 1 (xs.length / 2)) = n2 at hgrow
    have hn2 : xs.length < n2 ∧ n2 ≤ 2 * xs.length + 10 ∧ n2 ≤ 4 * (n2 - xs.length) := by
      rw [← hN2]
      split <;> omega
    have m190 : EvA g P 190 [va_rf (some l)] h0 (Grown g h0 l n2 xs) := by
      refine e_190 (s_190_0 (hc := by rw [a2, nI_1]; exact hgrow) (kk := fun h' x q => s_190_10 ⟨_, rfl, q⟩))
    refine s_196_32 (hc := m190) (kk := fun h1 x q => s_196_36 ?_)
    obtain ⟨e', rfl, g1, g2, g3, g4, g5, g6, g7⟩ := q
    have hge : e' ≠ g.2.2.2 := by intro z; have := hg.2.2.2.2; omega
    refine fin h1 e' n2 g7.2.2.1 (by have := g7.1.1; omega) (((g7.2.1 l (by omega)).1).trans a1) (g6.trans a2) g1 g3 (g7.2.2.1.lt (by omega)) g4 hn2.1 (by omega) g5 (fun a ha => ((g7.2.1 a (by omega)).1).trans (aK a)) hge (by omega) (by omega) (Or.inr (by omega)) ((c1.tr g7).mono (fun a _ z => z.elim Or.inl Or.inl) (by omega) (by omega))
  refine e_196 (s_196_0 (hc := m_200 k1 k2 hi (by omega)) (kk := fun h' eh => ?_))
  subst eh
  rcases k4 with ⟨rfl, rfl⟩ | ⟨k4, k41, k5, k6, k7⟩
  · -- the empty one
    have hcap : capO g h' l = ([] : List Nat).length := by unfold capO; rw [k3]; dsimp only; rw [if_pos rfl]; rfl
    refine o_aln d_196_5 rfl (o_dpA d_196_6 (o_gI (c := 0) (f := 0) d_196_7 (by decide +kernel) (by decide) (by decide) rfl k1 (o_ic (v := 1) d_196_10 (by decide) (o_add d_196_11 (o_pI (c := 0) (f := 0) d_196_12 (by decide +kernel) (by decide) (by decide) (by decide) rfl k1 ?_)))))
    show Ev g P 196 15 _ _ (hpI h' 0 l (hI h' 0 l + 1)) _
    rw [hh]
    refine o_aln d_196_15 rfl (o_gI (c := 0) (f := 2) d_196_16 (by decide +kernel) (by decide) (by decide) rfl a1 (o_dpI d_196_19 (o_isn d_196_20 (Nat.le_of_ble_eq_true rfl) rfl (o_aln d_196_21 rfl (o_gR (c := 0) (f := 1) d_196_22 (by decide +kernel) (by decide) (by decide) rfl a1 (o_dpA d_196_25 (o_as d_196_26 (Nat.le_of_ble_eq_true rfl) rfl ?_)))))))
    have a2' : hI h0 (64 * 0 + 2) l = nI 0 := a2
    have a3' : hR h0 (64 * 0 + 1) l = some g.2.2.2 := a3
    rw [a2', a3']
    refine o_lenE d_196_28 rfl (by rw [aK]; exact hg.2.1) hg.2.2.1 (o_c_ne (t := 38) d_196_29 (by decide) (fun z => absurd rfl z) (fun _ => grow hcap))
  · have hne : e0 ≠ g.2.2.2 := fun z => by rw [z] at k4; have := hg.2.1; omega
    have hcp : capO g h' l = hN h' e0 := by
      unfold capO
      rw [k3]
      dsimp only
      rw [if_neg hne]
    refine s_196_5 (a4 := e0) (t6 := 28) (k7 := k4) (kt := fun z => ?_) (kf := fun z => ?_)
    · rw [hh, k2, k3]
      have hlt : xs.length < hN h' e0 := by
        rcases Nat.lt_or_ge xs.length (hN h' e0) with q | q
        · exact q
        · exact absurd (by rw [k2, show xs.length = hN h' e0 by omega]) z
      exact fin h0 e0 (hN h' e0) c1.2.2.1 (by omega) a1 a2 a3 (by rw [aK]; exact k4) (by have := hel e0 rfl hne; omega) (aN e0) hlt k6 (fun j hj => by rw [aB]; exact k7 j hj) (fun a _ => aK a) hne (by omega) (by omega) (Or.inl k3) (c1.mono (fun a _ z => Or.inl z) (by omega) (by omega))
    · rw [hh, k2, k3]
      have : xs.length = hN h' e0 := by rw [k2] at z; exact (nI_eq (by omega) (by omega)).mp z
      exact grow (by omega)
/-- clear() -/
theorem m_clear {l c : Nat} {xs : List Nat} (w : hWF h) (hg : gOK g h) (hl : tLs g h c l xs) : EvV g P 199 [va_rf (some l)] h (fun h' => tLs g h' c l [] ∧ capO g h' l = capO g h l ∧ hR h' 1 l = hR h 1 l ∧ Ch (fun a => a = l ∨ hR h 1 l = some a) 0 0 h h') := by
  obtain ⟨⟨k1, k2, e0, k3, k4⟩, hc, hx⟩ := hl
  have hll : l < hS h := w.lt (by omega)
  have c1 := Ch.wI (f := 0) (a := l) w (hI h 0 l + 1) hll
  have c2 := Ch.wI (f := 2) (a := l) c1.2.2.1 0 (Nat.lt_of_lt_of_le hll c1.1.1)
  have c3 := (c1.tr c2).mono (B := fun a => a = l ∨ hR h 1 l = some a) (c' := 0) (m' := 0) (fun a _ z => z.elim Or.inl Or.inl) (by omega) (by omega)
  have loop : ∀ d j (h1 : hpT), j + d = xs.length → hWF h1 → hK h1 l = 1 → hI h1 2 l = 0 → hR h1 1 l = some e0 → (xs.length ≠ 0 → hK h1 e0 = 28 ∧ hN h1 e0 = hN h e0) → hN h1 e0 = hN h e0 → hK h1 e0 = hK h e0 → Ch (fun a => a = l ∨ hR h 1 l = some a) 0 0 h h1 → Ev g P 199 27 [some (va_rf (some l)), some (va_rf (some e0)), some (.int (nI xs.length)), some (.int (nI j))] [] h1 (fun h' r => r = none ∧ tLs g h' c l [] ∧ capO g h' l = capO g h l ∧ hR h' 1 l = hR h 1 l ∧ Ch (fun a => a = l ∨ hR h 1 l = some a) 0 0 h h') := by
    have hlen : xs.length ≤ 1000000 := by rcases k4 with ⟨-, rfl⟩ | ⟨-, -, q1, q2, -⟩; exact Nat.zero_le _; omega
    intro d
    induction d with
    | zero =>
      intro j h1 hj w1 b1 b2 b3 b4 b5 b6 b7
      refine s_199_27 (kt := fun _ => s_199_42 ⟨rfl, ⟨⟨b1, b2, e0, b3, ?_⟩, hc, fun x hx2 => absurd hx2 List.not_mem_nil⟩, ?_, b3.trans k3.symm, b7⟩) (kf := fun z => absurd (by rw [show j = xs.length by omega]; exact nI_le (Nat.le_refl _) (by omega)) z)
      · rcases k4 with ⟨q, -⟩ | ⟨q1, q2, q3, q4, -⟩
        · exact Or.inl ⟨q, rfl⟩
        · exact Or.inr ⟨b6.trans q1, by omega, Nat.zero_le _, by omega, fun i hi => absurd hi (Nat.not_lt_zero _)⟩
      · unfold capO
        rw [b3, k3]
        dsimp only
        rw [b5]
    | succ d ih =>
      intro j h1 hj w1 b1 b2 b3 b4 b5 b6 b7
      have b4' := b4 (by omega)
      have hel : e0 < hS h1 := w1.lt (by omega)
      have hge : xs.length ≤ hN h e0 := by rcases k4 with ⟨-, rfl⟩ | ⟨-, -, q1, q2, -⟩; exact Nat.zero_le _; exact q1
      have hge2 : hN h e0 ≤ 1000000 := by
        rcases k4 with ⟨-, q⟩ | ⟨-, -, q1, q2, -⟩
        · subst q; simp at hj
        · exact q2
      have hv : vinD (nI j) (hN h1 e0) := by rw [b5]; exact vin_nI (by omega) (by omega)
      refine s_199_27 (kt := fun z => absurd ((nI_leI (by omega) (by omega)).mp z) (by omega)) (kf := fun _ => ?_)
      refine s_199_32 (k3 := b4'.1) (i4 := hv) (kk := ?_)
      rw [nI_1]
      have c := Ch.wB (i := (nI j).toNatClampNeg) w1 none hel
      exact ih (j + 1) _ (by omega) c.2.2.1 b1 b2 b3 (fun _ => ⟨b4'.1, b5⟩) b5 b6 ((b7.tr c).mono (fun a _ z => z.elim id (fun z => Or.inr (by rw [z]; exact k3))) (by omega) (by omega))
  have key := loop xs.length 0 _ (by omega) c2.2.2.1 k1 (by rw [rI_I, if_pos ⟨rfl, rfl⟩]) k3 (fun hne => by
    rcases k4 with ⟨-, q⟩ | ⟨q1, -⟩
    · rw [q] at hne; exact absurd rfl hne
    · exact ⟨q1, rfl⟩) rfl rfl c3
  rw [nI_0, ← k2, ← k3] at key
  exact e_199 (s_199_0 (kk := key))
end LIST3
