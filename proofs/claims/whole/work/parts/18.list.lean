/-! ArrayList: making one, adding, removing, clearing -/
/-- the elements of a row are all of one of the classes that lists hold -/
def okE (h : hpT) (a n : Nat) : Bool := [4, 6, 8].any fun c => (List.range n).all fun i => match hB h a i with | none => true | some y => hK h y == c + 1
/-- Arrays.copyOf(row, n) -/
def hpY (h : hpT) (a n : Nat) : hpT := ((hS h + 1, hC h + 1, hM h + n), u1 (hK h) (hS h) 28, h.2.2.1, h.2.2.2.1, u1 (hN h) (hS h) n, h.2.2.2.2.2.1, fun x y => if x = hS h then (if y < n ∧ y < hN h a then hB h a y else none) else hB h x y)
def cpyO (As : List Value) (h : hpT) : Option (hpT × Option Value) := match As with
  | [.ref a, .int n] => if hK h a = 28 ∧ ¬ n < 0 ∧ n.toNatClampNeg ≤ 2000000 ∧ hN h a ≤ 2000000 ∧ okE h a (min n.toNatClampNeg (hN h a)) = true then some (hpY h a n.toNatClampNeg, some (.ref (hS h))) else none
  | _ => none
theorem hpY_K {h : hpT} {a n b : Nat} (hb : b < hS h) : hK (hpY h a n) b = hK h b ∧ hN (hpY h a n) b = hN h b ∧ ∀ i, hB (hpY h a n) b i = hB h b i := by
  have hne := Nat.ne_of_lt hb
  refine ⟨?_, ?_, fun i => ?_⟩
  · show u1 (hK h) (hS h) 28 b = _; simp [u1, hne]
  · show u1 (hN h) (hS h) n b = _; simp [u1, hne]
  · show (if b = hS h then _ else hB h b i) = _; rw [if_neg hne]
theorem hpY_new (h : hpT) (a n : Nat) : hK (hpY h a n) (hS h) = 28 ∧ hN (hpY h a n) (hS h) = n ∧ ∀ i, i < n → i < hN h a → hB (hpY h a n) (hS h) i = hB h a i := by
  refine ⟨?_, ?_, fun i h1 h2 => ?_⟩
  · show u1 (hK h) (hS h) 28 (hS h) = _; simp [u1]
  · show u1 (hN h) (hS h) n (hS h) = _; simp [u1]
  · show (if hS h = hS h then (if i < n ∧ i < hN h a then hB h a i else none) else _) = _
    rw [if_pos rfl, if_pos ⟨h1, h2⟩]
theorem Ch.mY {h : hpT} (w : hWF h) (a n : Nat) : Ch (fun _ => False) 1 n h (hpY h a n) := by
  refine ⟨⟨Nat.le_succ _, fun x _ hl => ⟨(hpY_K hl).1, fun _ => ⟨rfl, rfl⟩, (hpY_K hl).2.1, fun i => ⟨rfl, (hpY_K hl).2.2 i⟩⟩⟩, fun b hb => ⟨(hpY_K hb).1, (hpY_K hb).2.1⟩, ?_, Nat.le_refl _, Nat.le_refl _⟩
  intro b hb
  have hb' : hS h + 1 ≤ b := hb
  obtain ⟨w1, w2, w3⟩ := w b (by omega)
  have hne : b ≠ hS h := by omega
  refine ⟨?_, w2, fun i => ⟨(w3 i).1, ?_⟩⟩
  · show u1 (hK h) (hS h) 28 b = 0; simp [u1, hne, w1]
  · show (if b = hS h then _ else hB h b i) = none; rw [if_neg hne]; exact (w3 i).2
/-- how many places a list has -/
def capO (g : gcT) (h : hpT) (l : Nat) : Nat := match hR h 1 l with
  | some e => if e = g.2.2.2 then 0 else hN h e
  | none => 0
/-- what the lists take as given of the constants of a run -/
def gOK (g : gcT) (h : hpT) : Prop := hK h g.1 = 0 ∧ hK h g.2.2.2 = 0 ∧ (¬ g.2.2.2 = g.1) ∧ g.1 < hS h ∧ g.2.2.2 < hS h
section LIST
variable {g : gcT} {P : pmT} {h : hpT}
theorem m_186 {l : Nat} : EvV g P 186 [va_rf (some l)] h (fun h' => h' = h) := e_186 (s_186_0 (kk := s_186_4 ⟨rfl, rfl⟩))
theorem m_187 {l : Nat} (k1 : hK h l = 1) : EvV g P 187 [va_rf (some l)] h (fun h' => h' = hpI h 0 l 0) := e_187 (s_187_0 (hc := m_186) (kk := fun h' e => by subst e; exact s_187_4 (hq := ⟨rfl, rfl⟩)))
theorem m_188 {l : Nat} (k1 : hK h l = 1) : EvV g P 188 [va_rf (some l)] h (fun h' => h' = hpR (hpI h 0 l 0) 1 l (some g.2.2.2)) := e_188 (s_188_0 (hc := m_187 k1) (kk := fun h' e => by subst e; exact s_188_4 (k3 := k1) (hq := ⟨rfl, rfl⟩)))
/-- newLength of a full list -/
theorem m_202 {n : Nat} (hn : n ≤ 1000000) (h1 : 1 ≤ n) : EvI g P 202 [.int (nI n), .int (nI (n + 1) - nI n), .int (nI n >>> ((1 : Int32) &&& 31))] h (fun h' r => h' = h ∧ r = nI (n + max 1 (n / 2))) := by
  have es : nI n >>> ((1 : Int32) &&& 31) = nI (n / 2) := by
    have k := pk_shrN (n := n) (by omega) ((1 : Int32) &&& 31) 1 (by decide)
    rw [Nat.pow_one] at k
    exact k
  have ed : nI (n + 1) - nI n = nI 1 := by
    have k := pk_sub (a := n + 1) (b := n) (by omega)
    rw [Nat.add_sub_cancel_left] at k
    exact k
  have em : (if nI 1 < nI (n / 2) then nI (n / 2) else nI 1) = nI (max 1 (n / 2)) := by
    by_cases c : 1 < n / 2
    · rw [if_pos (nI_lt c (by omega)), Nat.max_eq_right (by omega)]
    · rw [if_neg (nI_nlt (by omega) (by decide)), Nat.max_eq_left (by omega)]
  rw [es, ed]
  refine e_202 (s_202_0 (hc := m_184 _ _) (kk := fun h' x ⟨e1, e2⟩ => ?_))
  subst e1
  rw [em] at e2
  subst e2
  have ea : nI n + nI (max 1 (n / 2)) = nI (n + max 1 (n / 2)) := nI_add _ _
  refine s_202_6 (fun z => absurd z ?_) (fun _ => ?_)
  · rw [ea]; exact nI_nle (by omega) (by omega)
  · rw [ea]
    exact s_202_13 (fun z => absurd z (show ¬ nI 2147483639 < nI (n + max 1 (n / 2)) from nI_nlt (by omega) (by decide))) (fun _ => s_202_19 ⟨_, rfl, rfl, rfl⟩)
/-- what a grown list is -/
def Grown (g : gcT) (h : hpT) (l n : Nat) (xs : List Nat) (h' : hpT) (r : Option Nat) : Prop := ∃ e', r = some e' ∧ hR h' 1 l = some e' ∧ hS h ≤ e' ∧ hK h' e' = 28 ∧ hN h' e' = n ∧ (∀ i (hi : i < xs.length), hB h' e' i = some xs[i]) ∧ hI h' 2 l = hI h 2 l ∧ Ch (fun a => a = l) 1 n h h'
theorem m_189 (hP6 : P 206 = cpyO) {l : Nat} {xs : List Nat} (w : hWF h) (hg : gOK g h) (hl : aLs g h l xs) (hc : capO g h l = xs.length) (hn : xs.length ≤ 500000) (hok : ∀ e, hR h 1 l = some e → okE h e xs.length = true) : EvA g P 189 [va_rf (some l), .int (nI (xs.length + 1))] h (Grown g h l (if xs.length = 0 then 10 else xs.length + max 1 (xs.length / 2)) xs) := by
  obtain ⟨k1, k2, e, k3, k4⟩ := hl
  have hll : l < hS h := w.lt (by omega)
  rcases k4 with ⟨rfl, rfl⟩ | ⟨k4, k41, k5, k6, k7⟩
  · -- the empty one
    refine e_189 ?_
    refine o_aln d_189_0 rfl (o_gR (c := 0) (f := 1) d_189_1 (by decide +kernel) (by decide) (by decide) rfl k1 (o_lenE d_189_4 k3 hg.2.1 hg.2.2.1 (o_isn d_189_5 (Nat.le_of_ble_eq_true rfl) rfl (o_iln d_189_6 rfl (o_z_gt (t := 20) d_189_7 (by decide) (fun z => absurd z (by decide)) (fun _ => ?_))))))
    refine s_189_10 (kt := fun _ => ?_) (kf := fun z => absurd k3 z)
    refine s_189_45 (hc := m_184 _ _) (kk := fun h' x ⟨e1, e2⟩ => ?_)
    subst e1
    have ex : x = nI 10 := e2.trans (by decide)
    subst ex
    refine s_189_52 (b1 := by decide) (kk := ?_)
    have ec : (nI 10).toNatClampNeg = 10 := by decide
    rw [ec]
    have kl : hK (hpW h' 8 10) l = 1 := by rw [(hK_W hll).1]; exact k1
    refine s_189_55 (k3 := kl) (hq := ⟨_, rfl, hS h', rfl, ?_, Nat.le_refl _, (hK_W_new h' 8 10).1, (hK_W_new h' 8 10).2, fun i hi => absurd hi (Nat.not_lt_zero _), rfl, ?_⟩)
    · rw [rR_R, if_pos ⟨rfl, rfl⟩]
    · have c1 := Ch.mW w 8 10
      have c2 := Ch.wR (f := 1) (a := l) c1.2.2.1 (some (hS h')) (Nat.lt_of_lt_of_le hll c1.1.1)
      exact (c1.tr c2).mono (fun a _ z => z.elim False.elim id) (by omega) (Nat.le_refl _)
  · have hne : e ≠ g.2.2.2 := fun z => by rw [z] at k4; have := hg.2.1; omega
    have hcap : hN h e = xs.length := by
      unfold capO at hc
      rw [k3] at hc
      dsimp only at hc
      rw [if_neg hne] at hc
      exact hc
    by_cases h0 : xs.length = 0
    · omega
    · rw [if_neg h0]
      refine e_189 ?_
      refine s_189_0 (kt := fun _ => ?_) (kf := fun z => absurd (show nI 0 < nI (hN h e) from nI_lt (by omega) (by omega)) z)
      rw [hcap]
      refine s_189_20 (hc := m_202 (by omega) (by omega)) (kk := fun h' x ⟨e1, e2⟩ => ?_)
      subst e1; subst e2
      have hnn : xs.length + max 1 (xs.length / 2) ≤ 1000000 := by omega
      have ecl : (nI (xs.length + max 1 (xs.length / 2))).toNatClampNeg = xs.length + max 1 (xs.length / 2) := nI_clamp (by omega)
      -- istore_3; aload_0; aload_0; getfield; iload_3; copyOf
      refine o_isn d_189_30 (Nat.le_of_ble_eq_true rfl) rfl (o_aln d_189_31 rfl (o_aln d_189_32 rfl (o_gR (c := 0) (f := 1) d_189_33 (by decide +kernel) (by decide) (by decide) rfl k1 (o_iln d_189_36 rfl ?_))))
      refine Ev.pr (j := 206) (As := [.ref e, .int (nI (xs.length + max 1 (xs.length / 2)))]) (rest := [va_rf (some l)]) d_189_37 rfl (clO_s (by decide +kernel) ⟨by decide, by decide⟩ (by rw [k3]; rfl) rfl) (Or.inr rfl) ⟨by simp [cat_rf, cat_int], by simp [Value.category], Nat.le_of_ble_eq_true rfl, by decide, by decide⟩ (by rw [hP6]; exact if_pos ⟨k4, nI_pos (by omega), by rw [ecl]; omega, by rw [hcap]; omega, by rw [ecl, hcap, Nat.min_eq_right (by omega)]; exact hok e k3⟩) ?_
      rw [ecl]
      have kl : hK (hpY h' e (xs.length + max 1 (xs.length / 2))) l = 1 := by rw [(hpY_K hll).1]; exact k1
      obtain ⟨n1, n2, n3⟩ := hpY_new h' e (xs.length + max 1 (xs.length / 2))
      refine s_189_40 (q1 := some (hS h')) (q0 := some l) (k3 := kl) (hq := ⟨_, rfl, hS h', rfl, ?_, Nat.le_refl _, n1, n2, fun i hi => ?_, rfl, ?_⟩)
      · rw [rR_R, if_pos ⟨rfl, rfl⟩]
      · rw [rB_R, n3 i (by omega) (by omega)]; exact k7 i hi
      · have c1 := Ch.mY w e (xs.length + max 1 (xs.length / 2))
        have c2 := Ch.wR (f := 1) (a := l) c1.2.2.1 (some (hS h')) (Nat.lt_of_lt_of_le hll c1.1.1)
        exact (c1.tr c2).mono (fun a _ z => z.elim False.elim id) (by omega) (by omega)
/-- add(x): at the end, with or without growing -/
theorem m_194 (hP6 : P 206 = cpyO) {l b e : Nat} {xs : List Nat} (w : hWF h) (hg : gOK g h) (hl : aLs g h l xs) (he : hR h 1 l = some e) (hb : hK h b = 5 ∨ hK h b = 7 ∨ hK h b = 9) (hn : xs.length ≤ 400000) (hok : ∀ e, hR h 1 l = some e → okE h e xs.length = true) : EvV g P 194 [va_rf (some l), va_rf (some b), va_rf (some e), .int (nI xs.length)] h (fun h' => aLs g h' l (xs ++ [b]) ∧ capO g h l ≤ capO g h' l ∧ capO g h' l ≤ max (capO g h l) (2 * xs.length + 10) ∧ Ch (fun a => a = l ∨ a = e) (capO g h' l - capO g h l) (4 * (capO g h' l - capO g h l)) h h' ∧ ∀ e', hR h' 1 l = some e' → e' = e ∨ hS h ≤ e') := by
  have hl' := hl
  obtain ⟨k1, k2, e0, k3, k4⟩ := hl
  have ee : e0 = e := Option.some.inj (k3.symm.trans he)
  subst ee
  have hll : l < hS h := w.lt (by omega)
  have hbl : b < hS h := w.lt (by omega)
  -- the store into a row that has room
  have store : ∀ (h1 : hpT) (e1 n : Nat), hWF h1 → hK h1 l = 1 → hK h1 b = hK h b → hR h1 1 l = some e1 → hK h1 e1 = 28 → hN h1 e1 = n → xs.length < n → n ≤ 1000000 → (∀ i (hi : i < xs.length), hB h1 e1 i = some xs[i]) → e1 ≠ g.2.2.2 → aLs g (hpI (hpB h1 e1 (nI xs.length).toNatClampNeg (some b)) 2 l (nI xs.length + 1)) l (xs ++ [b]) ∧ capO g (hpI (hpB h1 e1 (nI xs.length).toNatClampNeg (some b)) 2 l (nI xs.length + 1)) l = n := by
    intro h1 e1 n w1 a1 a2 a3 a4 a5 a6 a7 a8 a9
    have ec : (nI xs.length).toNatClampNeg = xs.length := nI_clamp (by omega)
    rw [ec]
    refine ⟨⟨a1, ?_, e1, a3, Or.inr ⟨a4, ?_, ?_, ?_, fun i hi => ?_⟩⟩, ?_⟩
    · rw [rI_I, if_pos ⟨rfl, rfl⟩, nI_1, List.length_append]; rfl
    · show 1 ≤ hN h1 e1; omega
    · show (xs ++ [b]).length ≤ hN h1 e1; rw [List.length_append, List.length_singleton]; omega
    · show hN h1 e1 ≤ _; omega
    · rw [rB_I, rB_B]
      by_cases c : i = xs.length
      · subst c
        rw [if_pos ⟨rfl, rfl⟩]
        simp
      · rw [if_neg (fun z => c z.2)]
        have hlt : i < xs.length := by rw [List.length_append, List.length_singleton] at hi; omega
        rw [a8 i hlt, List.getElem_append_left hlt]
    · unfold capO
      rw [show hR (hpI (hpB h1 e1 xs.length (some b)) 2 l (nI xs.length + 1)) 1 l = some e1 from a3]
      dsimp only
      rw [if_neg a9]
      exact a5
  have cok : ∀ (h1 : hpT), hK h1 b = hK h b → ∀ b', some b = some b' → 1 ≤ hK h1 b' ∧ hK h1 b' ≤ 14 ∧ cmpO (28 - 20) (hK h1 b' - 1) = true := by
    intro h1 hk b' e
    cases e
    rw [hk]
    rcases hb with z | z | z <;> (rw [z]; decide)
  by_cases hcap : capO g h l = xs.length
  · -- it grows
    have hgrow := m_189 (P := P) hP6 w hg hl' hcap (by omega) hok
    generalize hN2 : (if xs.length = 0 then 10 else xs.length + max 1 (xs.length / 2)) = n2 at hgrow
    have hn2 : xs.length < n2 ∧ n2 ≤ 2 * xs.length + 10 ∧ n2 ≤ 4 * (n2 - xs.length) := by
      rw [← hN2]
      split <;> omega
    have m190 : EvA g P 190 [va_rf (some l)] h (Grown g h l n2 xs) := by
      refine e_190 (s_190_0 (hc := by rw [k2, nI_1]; exact hgrow) (kk := fun h' x q => s_190_10 ⟨_, rfl, q⟩))
    have behind : Ev g P 194 6 [some (va_rf (some l)), some (va_rf (some b)), some (va_rf (some e0)), some (.int (nI xs.length))] [] h (fun h' r => r = none ∧ aLs g h' l (xs ++ [b]) ∧ capO g h l ≤ capO g h' l ∧ capO g h' l ≤ max (capO g h l) (2 * xs.length + 10) ∧ Ch (fun a => a = l ∨ a = e0) (capO g h' l - capO g h l) (4 * (capO g h' l - capO g h l)) h h' ∧ ∀ e', hR h' 1 l = some e' → e' = e0 ∨ hS h ≤ e') := by
      refine s_194_6 (hc := m190) (kk := fun h1 x q => s_194_10 ?_)
      obtain ⟨e', rfl, g1, g2, g3, g4, g5, g6, g7⟩ := q
      have w1 : hWF h1 := g7.2.2.1
      have kl1 : hK h1 l = 1 := by rw [(g7.2.1 l hll).1]; exact k1
      have kb1 : hK h1 b = hK h b := (g7.2.1 b hbl).1
      have he1 : e' < hS h1 := w1.lt (by omega)
      have hge : e' ≠ g.2.2.2 := by
        intro z
        have := hg.2.2.2.2
        omega
      have hv : vinD (nI xs.length) (hN h1 e') := by rw [g4]; exact vin_nI hn2.1 (by omega)
      obtain ⟨t1, t2⟩ := store h1 e' n2 w1 kl1 kb1 g1 g3 g4 hn2.1 (by omega) g5 hge
      refine s_194_11 (i4 := hv) (c5 := cok h1 kb1) (hq := ⟨rfl, t1, ?_, ?_, ?_, ?_⟩)
      · rw [t2]; omega
      · rw [t2]; omega
      · rw [t2]
        have c1 := Ch.wB (i := (nI xs.length).toNatClampNeg) w1 (some b) he1
        have c2 := Ch.wI (f := 2) (a := l) c1.2.2.1 (nI xs.length + 1) (Nat.lt_of_lt_of_le (Nat.lt_of_lt_of_le hll g7.1.1) c1.1.1)
        refine ((g7.tr c1).tr c2).mono (fun a ha z => ?_) (by omega) (by omega)
        rcases z with (z | z) | z
        · exact Or.inl z
        · subst z; omega
        · exact Or.inl z
      · intro e2 he2
        have : e2 = e' := Option.some.inj (he2.symm.trans g1)
        subst this
        exact Or.inr g2
    refine e_194 ?_
    rcases k4 with ⟨rfl, rfl⟩ | ⟨k4, k41, k5, k6, k7⟩
    · refine o_iln d_194_0 rfl (o_aln d_194_1 rfl (o_lenE d_194_2 rfl hg.2.1 hg.2.2.1 (o_c_ne (t := 11) d_194_3 (by decide) (fun z => absurd rfl z) (fun _ => behind))))
    · have hne : e0 ≠ g.2.2.2 := fun z => by rw [z] at k4; have := hg.2.1; omega
      have hN1 : hN h e0 = xs.length := by
        unfold capO at hcap
        rw [k3] at hcap
        dsimp only at hcap
        rw [if_neg hne] at hcap
        exact hcap
      exact s_194_0 (a1 := e0) (t3 := 28) (k4 := k4) (kt := fun z => absurd (by rw [hN1]) z) (kf := fun _ => behind)
  · rcases k4 with ⟨rfl, rfl⟩ | ⟨k4, k41, k5, k6, k7⟩
    · exact absurd (by unfold capO; rw [k3]; dsimp only; rw [if_pos rfl]; rfl) hcap
    · have hne : e0 ≠ g.2.2.2 := fun z => by rw [z] at k4; have := hg.2.1; omega
      have hcp : capO g h l = hN h e0 := by
        unfold capO
        rw [k3]
        dsimp only
        rw [if_neg hne]
      have hlt : xs.length < hN h e0 := by omega
      have hv : vinD (nI xs.length) (hN h e0) := vin_nI hlt (by omega)
      have hel : e0 < hS h := w.lt (by omega)
      obtain ⟨t1, t2⟩ := store h e0 (hN h e0) w k1 rfl k3 k4 rfl hlt k6 k7 hne
      refine e_194 (s_194_0 (a1 := e0) (t3 := 28) (k4 := k4) (kt := fun _ => ?_) (kf := fun z => absurd ((nI_eq (by omega) (by omega)).mp z) (by omega)))
      refine s_194_11 (i4 := hv) (c5 := cok h rfl) (hq := ⟨rfl, t1, ?_, ?_, ?_, ?_⟩)
      · rw [t2]; omega
      · rw [t2]; omega
      · have c1 := Ch.wB (i := (nI xs.length).toNatClampNeg) w (some b) hel
        have c2 := Ch.wI (f := 2) (a := l) c1.2.2.1 (nI xs.length + 1) (Nat.lt_of_lt_of_le hll c1.1.1)
        exact (c1.tr c2).mono (fun a ha z => z.elim Or.inr Or.inl) (by omega) (by omega)
      · intro e2 he2
        exact Or.inl (Option.some.inj (he2.symm.trans k3))
end LIST
