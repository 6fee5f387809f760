/-! the model: clean, its loops over the segments that are packed -/
section MK2
variable {g : gcT} {P : pmT} {h h' h1 : hpT} {y ad : Nat → Nat} {T T1 : List slT} {s s' : slT} {i j k n N rep nm m e f c v to a b k8 : Nat} {x1 x2 x3 x4 x5 x6 : Int32} {A : Nat → Nat → Prop} {I : Nat → Prop} {st : Nat → Int32} {Q : hpT → Option Value → Prop}
theorem nwT_in (hk : k < T.length) (hn : ¬ k = nwI T) (s : slT) : k < (nwT T s).length ∧ (nwT T s).getD k sl0 = T.getD k sl0 := by
  have h1 : k < (nwT T s).length := by
    unfold nwT
    split
    · rw [List.length_set]; exact hk
    · rw [List.length_append]; exact Nat.lt_succ_of_lt hk
  exact ⟨h1, (nwT_oth T s h1 hn).2⟩
theorem cmP_len : ∀ (l : List pT) (s : slT), (lEn (l.foldl cmP s)).length = (lEn s).length + l.length := by
  intro l
  induction l with
  | nil => intro s; rfl
  | cons p l ih =>
    intro s
    rw [List.foldl_cons, ih, List.length_cons]
    have : (lEn (cmP s p)).length = (lEn s).length + 1 := by
      show (lEn s ++ [(p, none)]).length = _
      rw [List.length_append]; rfl
    omega
theorem fl_fm {α β σ : Type} (c : σ → β → σ) (f : α → List β) : ∀ (l : List α) (s : σ), (l.flatMap f).foldl c s = l.foldl (fun s e => (f e).foldl c s) s := by
  intro l
  induction l with
  | nil => intro s; rfl
  | cons e l ih => intro s; rw [List.flatMap_cons, List.foldl_append, ih, List.foldl_cons]
theorem fm_dr {α β : Type} {f : α → List β} {l : List α} {i : Nat} (hi : i < l.length) : ((l.drop i).flatMap f).length = (f l[i]).length + ((l.drop (i + 1)).flatMap f).length := by
  rw [List.drop_eq_getElem_cons hi, List.flatMap_cons, List.length_append]
/-- one segment of the packing -/
theorem cln_e (hm : HM h y ad) (w : hWF h) (tb : TB h y ad (nwT T1 s)) (hk : k < T1.length) (hn : ¬ k = nwI T1) (hz : T1.getD k sl0 = T.getD k sl0) (e36 : ∀ e, e < (lEn (T.getD k sl0)).length → ∀ i, i < 2 → hA h (ad 36) ((k * 16 + e) * 2 + i) = livT st T k e i) (hr : (lEn s).length + (liP st T k).length ≤ 16) {o11 : Option Value} (kk : ∀ h2 x10 o11, MF y ad (fun r _ => 27 ≤ r ∧ r ≤ 33) (fun _ => False) h h2 → TB h2 y ad (nwT T1 ((liP st T k).foldl cmP s)) → Ev g P 133 407 [some (va_rf (some (y 12))), some (.int (nI m)), some (.int x2), some (.int x3), some (.int x4), some (.int x5), some (.int x6), some (.int (nI (nwI T1))), some (.int (nI k8)), some (.int (nI k)), some (.int x10), o11] [] h2 Q) : Ev g P 133 328 [some (va_rf (some (y 12))), some (.int (nI m)), some (.int x2), some (.int x3), some (.int x4), some (.int x5), some (.int x6), some (.int (nI (nwI T1))), some (.int (nI k8)), some (.int (nI k)), some (.int 0), o11] [] h Q := by
  have l6 := tb.2.1
  have hkl := (nwT_in hk hn s).1
  have l16 := (tb.th (fun _ => 0) hkl).2
  rw [(nwT_in hk hn s).2, hz] at l16
  have ek : (nI k).toNatClampNeg = k := nI_clamp (by omega)
  have rl : (List.range (lEn (T.getD k sl0)).length).length = (lEn (T.getD k sl0)).length := List.length_range
  have e27 : ∀ h1 s', TB h1 y ad (nwT T1 s') → hA h1 (ad 27) (nI k).toNatClampNeg = nI (lEn (T.getD k sl0)).length := by
    intro h1 s' tb1
    have := (tb1.s (nwT_in hk hn s').1).2.1.1
    rw [(nwT_in hk hn s').2, hz] at this
    rw [ek]; exact this
  have lp := fold_loop (List.range (lEn (T.getD k sl0)).length) (fun s e => (liE st T k e).foldl cmP s) (fun e s' => ∀ h1 o11, MF y ad (fun r _ => 27 ≤ r ∧ r ≤ 33) (fun _ => False) h h1 → TB h1 y ad (nwT T1 s') → (lEn s').length + (((List.range (lEn (T.getD k sl0)).length).drop e).flatMap (liE st T k)).length ≤ 16 → Ev g P 133 328 [some (va_rf (some (y 12))), some (.int (nI m)), some (.int x2), some (.int x3), some (.int x4), some (.int x5), some (.int x6), some (.int (nI (nwI T1))), some (.int (nI k8)), some (.int (nI k)), some (.int (nI e)), o11] [] h1 Q) ?_ s ?_
  · rw [nI_0] at lp
    exact lp h o11 (MF.rf w) tb hr
  · intro e s' he kn h1 o11 x tb1 hr1
    rw [fm_dr he] at hr1
    rw [List.getElem_range] at hr1 kn
    rw [rl] at he
    have hr0 : (liE st T k e).length = (li1 st T k e 0).length + (li1 st T k e 1).length := List.length_append
    have m1 := hm.mf x
    have r36 : ∀ h2, MF y ad (fun r _ => 27 ≤ r ∧ r ≤ 33) (fun _ => False) h h2 → ∀ i, i < 2 → hA h2 (ad 36) ((k * 16 + e) * 2 + i) = livT st T k e i := fun h2 x2 i hi => by
      rw [MF.a hm x2 (by decide) (fun q => absurd q.2 (by decide))]; exact e36 e he i hi
    refine s_133_328 (k3 := m1.1) (e5 := m1.r27) (k6 := m1.k27) (i7 := by rw [m1.n27]; exact vin_nI (by omega) (by decide)) (kt := fun z => absurd z (by rw [e27 _ _ tb1]; exact nI_ge he (by omega))) (kf := fun _ => s_133_340 ?_)
    refine s_133_343 (kt := fun z => absurd z (by decide)) (kf := fun _ => ?_)
    have s0 := cln_i (g := g) (P := P) (Q := Q) (m := m) (x2 := x2) (x3 := x3) (x4 := x4) (x5 := x5) (x6 := x6) (k8 := k8) (i := 0) (st := st) m1 x.1.2.2.2 tb1 (nwT_in hk hn s').1 ((nwT_in hk hn s').2.trans hz) he (by decide) (r36 _ x 0 (by decide)) (by omega) (fun h2 xa tb2 => s_133_395 ?_)
    · rw [nI_0] at s0; exact s0
    have x02 := x.join xa
    have m2 := hm.mf x02
    have cl := cmP_len (li1 st T k e 0) s'
    rw [show nI 0 + 1 = nI 1 from rfl]
    refine s_133_343 (kt := fun z => absurd z (by decide)) (kf := fun _ => ?_)
    refine cln_i (g := g) (P := P) (Q := Q) (i := 1) (st := st) m2 x02.1.2.2.2 tb2 (nwT_in hk hn _).1 ((nwT_in hk hn _).2.trans hz) he (by decide) (r36 _ x02 1 (by decide)) (by omega) (fun h3 xb tb3 => s_133_395 ?_)
    rw [show nI 1 + 1 = (2 : Int32) from rfl]
    refine s_133_343 (kt := fun _ => s_133_401 ?_) (kf := fun z => absurd (by decide) z)
    rw [nI_1]
    have ef : (liE st T k e).foldl cmP s' = (li1 st T k e 1).foldl cmP ((li1 st T k e 0).foldl cmP s') := List.foldl_append
    have cl2 := cmP_len (liE st T k e) s'
    exact kn h3 _ (x02.join xb) (by rw [ef]; exact tb3) (by omega)
  · intro h1 o11 x tb1 _
    rw [rl]
    have m1 := hm.mf x
    refine s_133_328 (k3 := m1.1) (e5 := m1.r27) (k6 := m1.k27) (i7 := by rw [m1.n27]; exact vin_nI (by omega) (by decide)) (kt := fun _ => kk h1 _ o11 x ?_) (kf := fun z => absurd (by rw [e27 _ _ tb1]; exact nI_le (Nat.le_refl _) (by omega)) z)
    unfold liP
    rw [fl_fm]; exact tb1
/-- all segments of the packing -/
theorem cln_c {L : List Nat} (hm : HM h y ad) (w : hWF h) (tb : TB h y ad (nwT T1 s)) (hL : ∀ k ∈ L, k < T1.length ∧ ¬ k = nwI T1 ∧ T1.getD k sl0 = T.getD k sl0 ∧ ∀ e, e < (lEn (T.getD k sl0)).length → ∀ i, i < 2 → hA h (ad 36) ((k * 16 + e) * 2 + i) = livT st T k e i) (e34 : ∀ j, (hj : j < L.length) → hA h (ad 34) (a + j) = nI L[j]) (hb : b = a + L.length) (hb6 : b ≤ 6000) (hr : (lEn s).length + (L.flatMap (liP st T)).length ≤ 16) {o9 o10 o11 : Option Value} (kk : ∀ h2 o9 o10 o11, MF y ad (fun r _ => 27 ≤ r ∧ r ≤ 33) (fun _ => False) h h2 → TB h2 y ad (nwT T1 ((L.flatMap (liP st T)).foldl cmP s)) → Ev g P 133 413 [some (va_rf (some (y 12))), some (.int (nI m)), some (.int x2), some (.int x3), some (.int x4), some (.int (nI b)), some (.int x6), some (.int (nI (nwI T1))), some (.int (nI b)), o9, o10, o11] [] h2 Q) : Ev g P 133 309 [some (va_rf (some (y 12))), some (.int (nI m)), some (.int x2), some (.int x3), some (.int x4), some (.int (nI b)), some (.int x6), some (.int (nI (nwI T1))), some (.int (nI a)), o9, o10, o11] [] h Q := by
  have lp := fold_loop L (fun s k => (liP st T k).foldl cmP s) (fun j s' => ∀ h1 o9 o10 o11, MF y ad (fun r _ => 27 ≤ r ∧ r ≤ 33) (fun _ => False) h h1 → TB h1 y ad (nwT T1 s') → (lEn s').length + ((L.drop j).flatMap (liP st T)).length ≤ 16 → Ev g P 133 309 [some (va_rf (some (y 12))), some (.int (nI m)), some (.int x2), some (.int x3), some (.int x4), some (.int (nI b)), some (.int x6), some (.int (nI (nwI T1))), some (.int (nI (a + j))), o9, o10, o11] [] h1 Q) ?_ s ?_
  · exact lp h _ _ _ (MF.rf w) tb hr
  · intro j s' hj kn h1 o9 o10 o11 x tb1 hr1
    rw [fm_dr hj] at hr1
    have m1 := hm.mf x
    obtain ⟨k1, k2, k3, k4⟩ := hL _ (List.getElem_mem hj)
    have ej : (nI (a + j)).toNatClampNeg = a + j := nI_clamp (by omega)
    have c34 : hA h1 (ad 34) (a + j) = nI L[j] := by rw [MF.a hm x (by decide) (fun q => absurd q.2 (by decide))]; exact e34 j hj
    refine s_133_309 (kt := fun z => absurd z (nI_ge (by omega) (by omega))) (kf := fun _ => ?_)
    refine s_133_316 (k3 := m1.1) (e5 := m1.r34) (k6 := m1.k34) (i7 := by rw [m1.n34]; exact vin_nI (by omega) (by decide)) (kk := ?_)
    rw [ej, c34]
    refine cln_e (st := st) m1 x.1.2.2.2 tb1 k1 k2 k3 (fun e he i hi => by rw [MF.a hm x (by decide) (fun q => absurd q.2 (by decide))]; exact k4 e he i hi) (by omega) (fun h2 x10 o11 xa tb2 => s_133_407 ?_)
    rw [nI_1]
    have cl := cmP_len (liP st T L[j]) s'
    exact kn h2 _ _ _ (x.join xa) tb2 (by omega)
  · intro h1 o9 o10 o11 x tb1 _
    rw [← hb]
    refine s_133_309 (kt := fun _ => kk h1 _ _ _ x ?_) (kf := fun z => absurd (nI_le (Nat.le_refl _) (by omega)) z)
    rw [fl_fm]; exact tb1
/-- the segments packed go -/
theorem cln_g {L : List Nat} {x7 : Int32} (hm : HM h y ad) (w : hWF h) (tb : TB h y ad T) (hL : ∀ k ∈ L, k < T.length) (e34 : ∀ j, (hj : j < L.length) → hA h (ad 34) (a + j) = nI L[j]) (hb : b = a + L.length) (hb6 : b ≤ 6000) {o9 o10 o11 : Option Value} (kk : ∀ h2 x8, MF y ad (fun r _ => r = 24) (fun _ => False) h h2 → TB h2 y ad (goL T L) → Ev g P 133 444 [some (va_rf (some (y 12))), some (.int (nI m)), some (.int x2), some (.int x3), some (.int x4), some (.int (nI b)), some (.int x6), some (.int x7), x8, o9, o10, o11] [] h2 Q) : Ev g P 133 417 [some (va_rf (some (y 12))), some (.int (nI m)), some (.int x2), some (.int x3), some (.int x4), some (.int (nI b)), some (.int x6), some (.int x7), some (.int (nI a)), o9, o10, o11] [] h Q := by
  have l6 := tb.2.1
  have lp := fold_loop L goT (fun j T' => ∀ h1, MF y ad (fun r _ => r = 24) (fun _ => False) h h1 → TB h1 y ad T' → T'.length = T.length → Ev g P 133 417 [some (va_rf (some (y 12))), some (.int (nI m)), some (.int x2), some (.int x3), some (.int x4), some (.int (nI b)), some (.int x6), some (.int x7), some (.int (nI (a + j))), o9, o10, o11] [] h1 Q) ?_ T ?_
  · exact lp h (MF.rf w) tb rfl
  · intro j T' hj kn h1 x tb1 hl
    have m1 := hm.mf x
    have k1 := hL _ (List.getElem_mem hj)
    have ej : (nI (a + j)).toNatClampNeg = a + j := nI_clamp (by omega)
    have c34 : hA h1 (ad 34) (a + j) = nI L[j] := by rw [MF.a hm x (by decide) (fun q => absurd q (by decide))]; exact e34 j hj
    refine s_133_417 (kt := fun z => absurd z (nI_ge (by omega) (by omega))) (kf := fun _ => ?_)
    refine s_133_424 (k3 := m1.1) (e5 := m1.r34) (k6 := m1.k34) (i7 := by rw [m1.n34]; exact vin_nI (by omega) (by decide)) (e9 := m1.r24) (k10 := m1.k24) (i11 := by rw [ej, c34, m1.n24]; exact vin_nI (by omega) (by decide)) (kk := ?_)
    rw [ej, c34, nI_clamp (by omega), nI_1]
    exact kn _ (x.join ((MF.wA m1 x.1.2.2.2 (by decide) _).mono (fun r i q => q.1) (fun r q => q))) (TB.go m1 x.1.2.2.2 tb1 (by omega)) (goT_len.trans hl)
  · intro h1 x tb1 _
    rw [← hb]
    exact s_133_417 (kt := fun _ => kk h1 _ x tb1) (kf := fun z => absurd (nI_le (Nat.le_refl _) (by omega)) z)
end MK2
