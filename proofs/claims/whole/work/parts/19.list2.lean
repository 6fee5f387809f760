/-- a list of objects of one class -/
def tLs (g : gcT) (h : hpT) (c l : Nat) (xs : List Nat) : Prop := aLs g h l xs ∧ (c = 4 ∨ c = 6 ∨ c = 8) ∧ ∀ x ∈ xs, hK h x = c + 1
theorem okE_of {h : hpT} {c e n : Nat} {xs : List Nat} (hc : c = 4 ∨ c = 6 ∨ c = 8) (hx : ∀ x ∈ xs, hK h x = c + 1) (hn : n ≤ xs.length) (hB' : ∀ i (hi : i < xs.length), hB h e i = some xs[i]) : okE h e n = true := by
  unfold okE
  refine List.any_eq_true.mpr ⟨c, by rcases hc with rfl | rfl | rfl <;> simp, List.all_eq_true.mpr fun i hi => ?_⟩
  have hi' : i < xs.length := Nat.lt_of_lt_of_le (List.mem_range.mp hi) hn
  rw [hB' i hi']
  simp [hx _ (List.getElem_mem hi')]
theorem tLs.ok {g : gcT} {h : hpT} {c l : Nat} {xs : List Nat} (hl : tLs g h c l xs) : ∀ e, hR h 1 l = some e → okE h e xs.length = true := by
  obtain ⟨⟨k1, k2, e0, k3, k4⟩, hc, hx⟩ := hl
  intro e he
  have ee : e0 = e := Option.some.inj (k3.symm.trans he)
  subst ee
  rcases k4 with ⟨rfl, rfl⟩ | ⟨k4, k41, k5, k6, k7⟩
  · rfl
  · exact okE_of hc hx (Nat.le_refl _) k7
section LIST2
variable {g : gcT} {P : pmT} {h : hpT}
/-- what adding gives -/
def Added (g : gcT) (h : hpT) (l : Nat) (ys : List Nat) (c n : Nat) (h' : hpT) : Prop := tLs g h' c l ys ∧ capO g h l ≤ capO g h' l ∧ capO g h' l ≤ max (capO g h l) (2 * n + 10) ∧ Ch (fun a => a = l ∨ hR h 1 l = some a) (capO g h' l - capO g h l) (4 * (capO g h' l - capO g h l)) h h' ∧ ∀ e', hR h' 1 l = some e' → hR h 1 l = some e' ∨ hS h ≤ e'
theorem m_add (hP6 : P 206 = cpyO) {l b c : Nat} {xs : List Nat} (w : hWF h) (hg : gOK g h) (hl : tLs g h c l xs) (hb : hK h b = c + 1) (hn : xs.length ≤ 400000) : EvI g P 195 [va_rf (some l), va_rf (some b)] h (fun h' r => r = 1 ∧ Added g h l (xs ++ [b]) c xs.length h') := by
  have hok := hl.ok
  obtain ⟨hl, hc, hx⟩ := hl
  have hl' := hl
  obtain ⟨k1, k2, e0, k3, k4⟩ := hl
  have hll : l < hS h := w.lt (by omega)
  have c1 := Ch.wI (f := 0) (a := l) w (hI h 0 l + 1) hll
  have hla : aLs g (hpI h 0 l (hI h 0 l + 1)) l xs := hl'
  refine e_195 (s_195_0 (hc := by rw [k2, k3]; exact m_194 hP6 c1.2.2.1 hg hla k3 (by rw [rK_I, hb]; omega) hn hok) (kk := fun h' q => s_195_23 ⟨1, rfl, rfl, ?_⟩))
  obtain ⟨q1, q2, q3, q4, q5⟩ := q
  refine ⟨⟨q1, hc, fun x hx2 => ?_⟩, q2, q3, (c1.tr q4).mono (fun a ha z => ?_) (by show 0 + _ ≤ _; rw [Nat.zero_add]; exact Nat.le_refl _) (by show 0 + _ ≤ _; rw [Nat.zero_add]; exact Nat.le_refl _), fun e' he' => ?_⟩
  · have hk : hK h x = c + 1 := by
      rcases List.mem_append.mp hx2 with z | z
      · exact hx x z
      · rw [List.mem_singleton.mp z]; exact hb
    have hxl : x < hS h := w.lt (by omega)
    exact ((q4.2.1 x hxl).1).trans hk
  · rcases z with z | z | z
    · exact Or.inl z
    · exact Or.inl z
    · exact Or.inr (by rw [z]; exact k3)
  · rcases q5 e' he' with z | z
    · exact Or.inl (by rw [z]; exact k3)
    · exact Or.inr z
theorem o_cpy {k pc idx a : Nat} {L : lcT} {st : List Value} {Q : hpT → Option Value → Prop} {r r' : Option Nat} {sp dp n : Int32} (hd : decode (mB k) pc = .ok (.invokestatic idx, 3)) (hm : ml (mO k) idx = some 1001) (hr : r = some a) (hr' : r' = some a) (hk : hK h a = 28) (h1 : ¬ sp < 0) (h2 : ¬ dp < 0) (h3 : ¬ n < 0) (h4 : sp.toNatClampNeg + n.toNatClampNeg ≤ hN h a) (h5 : dp.toNatClampNeg + n.toNatClampNeg ≤ hN h a) (hel : ([4, 6, 8].any fun c => (List.range n.toNatClampNeg).all fun i => match hB h a (sp.toNatClampNeg + i) with | none => true | some y => hK h y == c + 1) = true) (hs : (st.map fun v => v.category).sum ≤ 8) (hw : 1 ≤ mF k ∧ 40 ≤ mW k)
    (kk : Ev g P k (pc + 3) L st (hpCp h a sp.toNatClampNeg dp.toNatClampNeg n.toNatClampNeg) Q) : Ev g P k pc L (.int n :: .int dp :: va_rf r' :: .int sp :: va_rf r :: st) h Q := by
  subst hr; subst hr'
  refine Ev.sp hd rfl ?_ ?_ kk
  · show (ml (mO k) idx).bind _ = _
    rw [hm]; rfl
  · show (if ml (mO k) idx = some 1001 ∧ _ then some _ else none) = _
    rw [if_pos ⟨hm, rfl, hk, h1, h2, h3, h4, h5, hel, hs, hw.1, hw.2⟩]
    rfl
theorem Ch.mC {a sp dp n : Nat} (w : hWF h) (ha : a < hS h) : Ch (fun x => x = a) 0 0 h (hpCp h a sp dp n) := by
  refine ⟨⟨Nat.le_refl _, fun x nx _ => ⟨rfl, fun _ => ⟨rfl, rfl⟩, rfl, fun i => ⟨rfl, ?_⟩⟩⟩, fun _ _ => ⟨rfl, rfl⟩, ?_, Nat.le_refl _, Nat.le_refl _⟩
  · show (if x = a then _ else hB h x i) = _
    rw [if_neg nx]
  · intro b hb
    have hb' : hS h ≤ b := hb
    obtain ⟨w1, w2, w3⟩ := w b hb'
    refine ⟨w1, w2, fun i => ⟨(w3 i).1, ?_⟩⟩
    show (if b = a then _ else hB h b i) = none
    rw [if_neg (by omega)]
    exact (w3 i).2
theorem rB_C (a sp dp n i : Nat) : hB (hpCp h a sp dp n) a i = if dp ≤ i ∧ i < dp + n then hB h a (sp + (i - dp)) else hB h a i := by
  show (if a = a then va_cpy (hB h a) (hB h a) sp dp n i else _) = _
  rw [if_pos rfl]
  rfl
/-- without the element at i -/
def rmv (xs : List Nat) (i : Nat) : List Nat := xs.take i ++ xs.drop (i + 1)
theorem rmv_len {xs : List Nat} {i : Nat} (hi : i < xs.length) : (rmv xs i).length = xs.length - 1 := by
  unfold rmv
  rw [List.length_append, List.length_take, List.length_drop]
  omega
theorem rmv_get {xs : List Nat} {i j : Nat} (hi : i < xs.length) (hj : j < (rmv xs i).length) : (rmv xs i)[j]? = if j < i then xs[j]? else xs[j + 1]? := by
  unfold rmv
  by_cases c : j < i
  · rw [if_pos c, List.getElem?_append_left (by rw [List.length_take]; omega), List.getElem?_take_of_lt c]
  · rw [if_neg c, List.getElem?_append_right (by rw [List.length_take]; omega), List.getElem?_drop, List.length_take]
    congr 1
    omega
theorem m_198 {l e i c : Nat} {xs : List Nat} (w : hWF h) (hg : gOK g h) (hl : tLs g h c l xs) (he : hR h 1 l = some e) (hi : i < xs.length) : EvV g P 198 [va_rf (some l), va_rf (some e), .int (nI i)] h (fun h' => tLs g h' c l (rmv xs i) ∧ capO g h' l = capO g h l ∧ hR h' 1 l = some e ∧ Ch (fun a => a = l ∨ a = e) 0 0 h h') := by
  obtain ⟨⟨k1, k2, e0, k3, k4⟩, hc, hx⟩ := hl
  have ee : e0 = e := Option.some.inj (k3.symm.trans he)
  subst ee
  rcases k4 with ⟨rfl, rfl⟩ | ⟨k4, k41, k5, k6, k7⟩
  · exact absurd hi (Nat.not_lt_zero _)
  have hll : l < hS h := w.lt (by omega)
  have hel : e0 < hS h := w.lt (by omega)
  have hsz : hI h 2 l - 1 = nI (xs.length - 1) := by
    rw [k2]
    have := pk_sub (a := xs.length) (b := 1) (by omega)
    exact this
  have c1 := Ch.wI (f := 0) (a := l) w (hI h 0 l + 1) hll
  -- the end: size and the last place
  have fin : ∀ (h1 : hpT) (x3 : Int32), hWF h1 → hS h ≤ hS h1 → x3 = nI (xs.length - 1) → hK h1 l = 1 → hR h1 1 l = some e0 → hK h1 e0 = 28 → hN h1 e0 = hN h e0 → (∀ j (hj : j < (rmv xs i).length), hB h1 e0 j = some (rmv xs i)[j]) → (∀ x ∈ xs, hK h1 x = c + 1) → Ch (fun a => a = l ∨ a = e0) 0 0 h h1 → Ev g P 198 34 [some (va_rf (some l)), some (va_rf (some e0)), some (.int (nI i)), some (.int x3)] [] h1 (fun h' r => r = none ∧ tLs g h' c l (rmv xs i) ∧ capO g h' l = capO g h l ∧ hR h' 1 l = some e0 ∧ Ch (fun a => a = l ∨ a = e0) 0 0 h h') := by
    intro h1 x3 w1 hs1 ex b1 b2 b3 b4 b5 b6 b7
    subst ex
    have ec : (nI (xs.length - 1)).toNatClampNeg = xs.length - 1 := nI_clamp (by omega)
    have hv : vinD (nI (xs.length - 1)) (hN h1 e0) := by rw [b4]; exact vin_nI (by omega) (by omega)
    have hlen := rmv_len hi
    refine s_198_34 (i7 := hv) (hq := ⟨rfl, ⟨⟨b1, ?_, e0, b2, Or.inr ⟨b3, by show 1 ≤ hN h1 e0; omega, by show _ ≤ hN h1 e0; omega, by show hN h1 e0 ≤ _; omega, fun j hj => ?_⟩⟩, hc, fun x hx2 => ?_⟩, ?_, b2, ?_⟩)
    · rw [rI_B, rI_I, if_pos ⟨rfl, rfl⟩, hlen]
    · rw [rB_B, ec, if_neg (fun z => by omega), rB_I]
      exact b5 j hj
    · refine b6 x ?_
      unfold rmv at hx2
      rcases List.mem_append.mp hx2 with z | z
      · exact List.mem_of_mem_take z
      · exact List.mem_of_mem_drop z
    · unfold capO
      rw [show hR (hpB (hpI h1 2 l (nI (xs.length - 1))) e0 (nI (xs.length - 1)).toNatClampNeg none) 1 l = some e0 from b2, k3]
      dsimp only
      rw [show hN (hpB (hpI h1 2 l (nI (xs.length - 1))) e0 (nI (xs.length - 1)).toNatClampNeg none) e0 = hN h e0 from b4]
    · have d1 := Ch.wI (f := 2) (a := l) w1 (nI (xs.length - 1)) (Nat.lt_of_lt_of_le hll hs1)
      have d2 := Ch.wB (i := (nI (xs.length - 1)).toNatClampNeg) d1.2.2.1 none (Nat.lt_of_lt_of_le (Nat.lt_of_lt_of_le hel hs1) d1.1.1)
      exact ((b7.tr d1).tr d2).mono (fun a ha z => by rcases z with (z | z) | z; exact z; exact Or.inl z; exact Or.inr z) (by omega) (by omega)
  refine e_198 (s_198_0 (kt := fun z => ?_) (kf := fun z => ?_))
  · rw [hsz] at z
    have hlast : i = xs.length - 1 := by have := (nI_leI (by omega) (by omega)).mp z; omega
    refine fin _ _ c1.2.2.1 c1.1.1 hsz k1 k3 k4 rfl (fun j hj => ?_) hx (c1.mono (fun a _ z => Or.inl z) (by omega) (by omega))
    have hlen := rmv_len hi
    have hj2 : j < xs.length := by omega
    rw [rB_I, k7 j hj2]
    have := rmv_get hi hj
    rw [if_pos (by omega), List.getElem?_eq_getElem hj, List.getElem?_eq_getElem hj2] at this
    exact this.symm
  · rw [hsz] at z
    have hlt : i < xs.length - 1 := by
      rcases Nat.lt_or_ge i (xs.length - 1) with q | q
      · exact q
      · exact absurd (nI_le q (by omega)) z
    have e1 : nI i + 1 = nI (i + 1) := nI_1 i
    have e2 : hI h 2 l - 1 - nI i = nI (xs.length - 1 - i) := by rw [hsz]; exact pk_sub (by omega)
    have s1 : (nI (i + 1)).toNatClampNeg = i + 1 := nI_clamp (by omega)
    have s2 : (nI i).toNatClampNeg = i := nI_clamp (by omega)
    have s3 : (nI (xs.length - 1 - i)).toNatClampNeg = xs.length - 1 - i := nI_clamp (by omega)
    refine o_aln d_198_22 rfl (o_iln d_198_23 rfl (o_ic (v := 1) d_198_24 (by decide) (o_add d_198_25 (o_aln d_198_26 rfl (o_iln d_198_27 rfl (o_iln d_198_28 rfl (o_iln d_198_29 rfl (o_sub d_198_30 ?_))))))))
    rw [e1, e2]
    refine o_cpy d_198_31 (by decide +kernel) rfl rfl k4 (nI_pos (by omega)) (nI_pos (by omega)) (nI_pos (by omega)) (by rw [s1, s3]; show _ ≤ hN h e0; omega) (by rw [s2, s3]; show _ ≤ hN h e0; omega) ?_ (by simp) (by decide) ?_
    · refine List.any_eq_true.mpr ⟨c, by rcases hc with rfl | rfl | rfl <;> simp, List.all_eq_true.mpr fun j hj => ?_⟩
      rw [s3] at hj
      have hj' := List.mem_range.mp hj
      have hj2 : i + 1 + j < xs.length := by omega
      rw [s1, rB_I, k7 _ hj2]
      simp only [rK_I, hx _ (List.getElem_mem hj2)]
      simp
    · rw [s1, s2, s3]
      have d := Ch.mC (a := e0) (sp := i + 1) (dp := i) (n := xs.length - 1 - i) c1.2.2.1 (Nat.lt_of_lt_of_le hel c1.1.1)
      have hlen := rmv_len hi
      refine fin _ _ d.2.2.1 d.1.1 hsz k1 k3 k4 rfl (fun j hj => ?_) hx ((c1.tr d).mono (fun a _ z => z) (by omega) (by omega))
      rw [rB_C]
      have := rmv_get hi hj
      by_cases cj : j < i
      · rw [if_neg (by omega), rB_I, k7 j (by omega)]
        rw [if_pos cj, List.getElem?_eq_getElem hj, List.getElem?_eq_getElem (by omega : j < xs.length)] at this
        exact this.symm
      · rw [if_pos (by omega), rB_I, show i + 1 + (j - i) = j + 1 by omega, k7 (j + 1) (by omega)]
        rw [if_neg cj, List.getElem?_eq_getElem hj, List.getElem?_eq_getElem (by omega : j + 1 < xs.length)] at this
        exact this.symm
theorem m_remove {l i c : Nat} {xs : List Nat} (w : hWF h) (hg : gOK g h) (hl : tLs g h c l xs) (hi : i < xs.length) : EvA g P 197 [va_rf (some l), .int (nI i)] h (fun h' r => r = some xs[i] ∧ tLs g h' c l (rmv xs i) ∧ capO g h' l = capO g h l ∧ hR h' 1 l = hR h 1 l ∧ Ch (fun a => a = l ∨ hR h 1 l = some a) 0 0 h h') := by
  have hl' := hl
  obtain ⟨⟨k1, k2, e0, k3, k4⟩, hc, hx⟩ := hl
  rcases k4 with ⟨rfl, rfl⟩ | ⟨k4, k41, k5, k6, k7⟩
  · exact absurd hi (Nat.not_lt_zero _)
  have hv : vinD (nI i) (hN h e0) := vin_nI (by omega) (by omega)
  refine e_197 (s_197_0 (hc := m_201 (nI_pos (by omega)) (by rw [k2]; exact nI_lt hi (by omega))) (kk := fun h' z ⟨e1, e2⟩ => ?_))
  subst e1; subst e2
  refine s_197_8 (hc := by rw [k3]; exact m_198 w hg hl' k3 hi) (kk := fun h1 q => s_197_24 ⟨_, rfl, ?_, ?_⟩)
  · rw [nI_clamp (by omega), k7 i hi]
  · obtain ⟨q1, q2, q3, q4⟩ := q
    exact ⟨q1, q2, q3.trans k3.symm, q4.mono (fun a _ z => z.elim Or.inl (fun z => Or.inr (by rw [z]; exact k3))) (by omega) (by omega)⟩
end LIST2
