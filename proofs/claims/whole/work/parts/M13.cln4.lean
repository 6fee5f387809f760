/-! the model: clean, the LIVE parts and the sorting -/
def Chn (T : List slT) (x : Int32) : Int32 → List Nat → Prop
  | n, [] => nxT T x n = none
  | n, k :: C => nxT T x n = some k ∧ Chn T x (nI (lNm (T.getD k sl0))) C
section MK4
variable {g : gcT} {P : pmT} {h h' h1 : hpT} {y ad : Nat → Nat} {T T1 : List slT} {s s' : slT} {i j k n N U rep nm m e f c v to a b k8 : Nat} {x1 x2 x3 x4 x5 x6 : Int32} {A : Nat → Nat → Prop} {I : Nat → Prop} {st : Nat → Int32} {Q : hpT → Option Value → Prop} {G C : List Nat}
theorem livT_01 : livT st T k e i = 0 ∨ livT st T k e i = 1 := by
  unfold livT
  split
  · unfold ntL
    split
    · exact Or.inl rfl
    · split
      · exact Or.inl rfl
      · exact Or.inr rfl
  · split
    · split
      · exact Or.inr rfl
      · exact Or.inl rfl
    · split
      · split
        · exact Or.inr rfl
        · exact Or.inl rfl
      · split
        · split
          · exact Or.inl rfl
          · exact Or.inr rfl
        · exact Or.inl rfl
theorem oI_eq {b : Option Nat} (hk : k < 2 ^ 31) (hb : ∀ k', b = some k' → k' < 2 ^ 31) : nI k = oI b ↔ some k = b := by
  cases b with
  | none => exact ⟨fun q => absurd q (oI_ne (g := k) hk), fun q => by cases q⟩
  | some k' => exact ⟨fun q => by rw [nI_inj hk (hb k' rfl) q], fun q => by cases q; rfl⟩
/-- LIVE or not, the PARTS of a segment -/
theorem cln_l {o5 o6 o7 o8 o9 o10 o11 : Option Value} (hm : HM h y ad) (w : hWF h) (tb : TB h y ad T) (est : st = hA h (ad 5)) (hk : k < T.length) (kk : ∀ h2 x5 o6, MF y ad (fun r i => r = 36 ∧ i / 32 = k) (fun _ => False) h h2 → (∀ e, e < (lEn (T.getD k sl0)).length → ∀ i, i < 2 → hA h2 (ad 36) ((k * 16 + e) * 2 + i) = livT st T k e i) → Ev g P 133 86 [some (va_rf (some (y 12))), some (.int x1), some (.int x2), some (.int x3), some (.int (nI k)), some (.int x5), o6, o7, o8, o9, o10, o11] [] h2 Q) : Ev g P 133 22 [some (va_rf (some (y 12))), some (.int x1), some (.int x2), some (.int x3), some (.int (nI k)), o5, o6, o7, o8, o9, o10, o11] [] h Q := by
  have l6 := tb.2.1
  have l16 := (tb.th (fun _ => 0) hk).2
  have ek : (nI k).toNatClampNeg = k := nI_clamp (by omega)
  have nC : ∀ {r i q}, (r = 36 ∧ i / 32 = k) → ¬ CSl q r i := fun a z => by rcases z with ⟨z, -⟩ | ⟨z, -⟩ | ⟨z, -⟩ <;> omega
  refine s_133_22 ?_
  -- one PART
  have one : ∀ (h1 : hpT) (e i : Nat), MF y ad (fun r i => r = 36 ∧ i / 32 = k) (fun _ => False) h h1 → e < (lEn (T.getD k sl0)).length → i < 2 → (∀ h2, MF y ad (fun r i => r = 36 ∧ i / 32 = k) (fun _ => False) h h2 → (∀ q, hA h2 (ad 36) q = if q = (k * 16 + e) * 2 + i then livT st T k e i else hA h1 (ad 36) q) → Ev g P 133 40 [some (va_rf (some (y 12))), some (.int x1), some (.int x2), some (.int x3), some (.int (nI k)), some (.int (nI e)), some (.int (nI (i + 1))), o7, o8, o9, o10, o11] [] h2 Q) → Ev g P 133 46 [some (va_rf (some (y 12))), some (.int x1), some (.int x2), some (.int x3), some (.int (nI k)), some (.int (nI e)), some (.int (nI i)), o7, o8, o9, o10, o11] [] h1 Q := by
    intro h1 e i x he hi kn
    have m1 := hm.mf x
    have tb1 : TB h1 y ad T := tb.keep hm x (fun r i q a => nC a) (fun q => q)
    have e5 : hA h1 (ad 5) = st := by
      rw [est]; funext v
      exact MF.a hm x (by decide) (fun q => absurd q.1 (by decide))
    have hl := m_isLiveM (g := g) (P := P) m1 tb1 hk he hi
    rw [e5] at hl
    refine s_133_46 (k3 := m1.1) (hc := hl) (kk := fun h2 x' ⟨q1, q2⟩ => ?_)
    subst q1; subst q2
    have hlt : (k * 16 + e) * 2 + i < 192000 := by omega
    refine s_133_73 (e2 := m1.r36) (k3 := m1.k36) (i4 := by rw [ixL, m1.n36]; exact vin_nI hlt (by decide)) (b5 := livT_01) (kk := ?_)
    rw [ixL, nI_clamp (by omega), nI_1]
    refine kn _ (x.join ((MF.wA m1 x.1.2.2.2 (by decide) _).mono (fun r q z => ⟨z.1, by omega⟩) (fun r q => q))) (fun q => ?_)
    rw [m1.rA (by decide) (by decide)]
    by_cases z : q = (k * 16 + e) * 2 + i
    · rw [if_pos ⟨rfl, z⟩, if_pos z]
    · rw [if_neg (fun a => z a.2), if_neg z]
  have go : ∀ d e h1 o6, e + d = (lEn (T.getD k sl0)).length → MF y ad (fun r i => r = 36 ∧ i / 32 = k) (fun _ => False) h h1 → (∀ e', e' < e → ∀ i, i < 2 → hA h1 (ad 36) ((k * 16 + e') * 2 + i) = livT st T k e' i) → Ev g P 133 25 [some (va_rf (some (y 12))), some (.int x1), some (.int x2), some (.int x3), some (.int (nI k)), some (.int (nI e)), o6, o7, o8, o9, o10, o11] [] h1 Q := by
    intro d
    induction d with
    | zero =>
      intro e h1 o6 he x z
      have m1 := hm.mf x
      have tb1 : TB h1 y ad T := tb.keep hm x (fun r i q a => nC a) (fun q => q)
      have e27 := (tb1.s hk).2.1.1
      exact s_133_25 (k3 := m1.1) (e5 := m1.r27) (k6 := m1.k27) (i7 := by rw [m1.n27]; exact vin_nI (by omega) (by decide)) (kt := fun _ => kk h1 _ _ x (fun e' he' => z e' (by omega))) (kf := fun q => absurd (by rw [ek, e27]; exact nI_le (by omega) (by omega)) q)
    | succ d ih =>
      intro e h1 o6 he x z
      have m1 := hm.mf x
      have tb1 : TB h1 y ad T := tb.keep hm x (fun r i q a => nC a) (fun q => q)
      have e27 := (tb1.s hk).2.1.1
      refine s_133_25 (k3 := m1.1) (e5 := m1.r27) (k6 := m1.k27) (i7 := by rw [m1.n27]; exact vin_nI (by omega) (by decide)) (kt := fun q => absurd q (by rw [ek, e27]; exact nI_ge (by omega) (by omega))) (kf := fun _ => s_133_37 ?_)
      refine s_133_40 (kt := fun q => absurd q (by decide)) (kf := fun _ => ?_)
      have o0 := one h1 e 0 x (by omega) (by decide) (fun h2 xa za => ?_)
      · rw [nI_0] at o0; exact o0
      refine s_133_40 (kt := fun q => absurd q (by decide)) (kf := fun _ => ?_)
      refine one h2 e 1 xa (by omega) (by decide) (fun h3 xb zb => ?_)
      refine s_133_40 (kt := fun _ => s_133_80 ?_) (kf := fun q => absurd (by decide) q)
      rw [nI_1]
      refine ih (e + 1) h3 _ (by omega) xb (fun e' he' i hi => ?_)
      rw [zb, za]
      by_cases q1 : (k * 16 + e') * 2 + i = (k * 16 + e) * 2 + 1
      · have e1 : e' = e := by omega
        have e2 : i = 1 := by omega
        rw [if_pos q1, e1, e2]
      · rw [if_neg q1]
        by_cases q0 : (k * 16 + e') * 2 + i = (k * 16 + e) * 2 + 0
        · have e1 : e' = e := by omega
          have e2 : i = 0 := by omega
          rw [if_pos q0, e1, e2]
        · rw [if_neg q0]
          exact z e' (by omega) i hi
  have := go (lEn (T.getD k sl0)).length 0 h o6 (by omega) (MF.rf w) (fun e' he' => absurd he' (Nat.not_lt_zero _))
  rw [nI_0] at this
  exact this
theorem insN_get {q : Nat} (hq : q ≤ G.length) (hj : j < (G.take q ++ k :: G.drop q).length) : (G.take q ++ k :: G.drop q)[j] = if z : j < q then G[j] else if z' : j = q then k else G[j - 1]'(by rw [List.length_append, List.length_cons, List.length_take, List.length_drop] at hj; omega) := by
  have lt : (G.take q).length = q := by rw [List.length_take]; omega
  rw [List.getElem_append]
  by_cases z : j < q
  · rw [dif_pos z, dif_pos (by rw [lt]; exact z), List.getElem_take]
  · rw [dif_neg z, dif_neg (by rw [lt]; exact z)]
    by_cases z' : j = q
    · rw [dif_pos z']
      simp only [lt, z', Nat.sub_self, List.getElem_cons_zero]
    · rw [dif_neg z']
      have e : j - (G.take q).length = (j - 1 - q) + 1 := by rw [lt]; omega
      simp only [e, List.getElem_cons_succ, List.getElem_drop]
      congr 1
      omega
/-- the place in the sorted row -/
theorem cln_s {o7 o8 o9 o10 o11 : Option Value} (hm : HM h y ad) (w : hWF h) (sr : SRow h ad st T G) (hl : G.length < 6000) (hG : ∀ k ∈ G, k < 6000) (hk : k < 6000) (kk : ∀ h2 x5 o6, MF y ad (fun r _ => r = 34 ∨ r = 35) (fun _ => False) h h2 → SRow h2 ad st T (G.take (plcC (G.map (cM st T)) (cM st T k) G.length) ++ k :: G.drop (plcC (G.map (cM st T)) (cM st T k) G.length)) → Ev g P 133 184 [some (va_rf (some (y 12))), some (.int x1), some (.int x2), some (.int (nI (G.length + 1))), some (.int (nI k)), some (.int x5), o6, o7, o8, o9, o10, o11] [] h2 Q) : Ev g P 133 106 [some (va_rf (some (y 12))), some (.int x1), some (.int x2), some (.int (nI G.length)), some (.int (nI k)), some (.int (lvuT st T k)), some (.int (nI G.length)), o7, o8, o9, o10, o11] [] h Q := by
  -- at the place q
  have fin : ∀ q h1, q ≤ G.length → q = plcC (G.map (cM st T)) (cM st T k) G.length → MF y ad (fun r _ => r = 34 ∨ r = 35) (fun _ => False) h h1 → (∀ j, (hj : j < G.length) → j < q → hA h1 (ad 34) j = nI G[j] ∧ hA h1 (ad 35) j = lvuT st T G[j]) → (∀ j, (hj : j < G.length) → q ≤ j → hA h1 (ad 34) (j + 1) = nI G[j] ∧ hA h1 (ad 35) (j + 1) = lvuT st T G[j]) → Ev g P 133 163 [some (va_rf (some (y 12))), some (.int x1), some (.int x2), some (.int (nI G.length)), some (.int (nI k)), some (.int (lvuT st T k)), some (.int (nI q)), o7, o8, o9, o10, o11] [] h1 Q := by
    intro q h1 hq eq x za zb
    have m1 := hm.mf x
    have eq' : (nI q).toNatClampNeg = q := nI_clamp (by omega)
    refine s_133_163 (k3 := m1.1) (e5 := m1.r34) (k6 := m1.k34) (i7 := by rw [m1.n34]; exact vin_nI (by omega) (by decide)) (e9 := m1.r35) (k10 := m1.k35) (i11 := by rw [m1.n35]; exact vin_nI (by omega) (by decide)) (kk := ?_)
    rw [eq', nI_1]
    have xa := MF.wA m1 x.1.2.2.2 (k := 34) (i := q) (by decide) (nI k)
    have ra : ∀ r i, aKM r = true → hA (hpA h1 (ad 34) q (nI k)) (ad r) i = if r = 34 ∧ i = q then nI k else hA h1 (ad r) i := fun r i hr => m1.rA (by decide) hr
    generalize hpA h1 (ad 34) q (nI k) = H2 at xa ra ⊢
    have m2 := m1.mf xa
    have xb := MF.wA m2 xa.1.2.2.2 (k := 35) (i := q) (by decide) (lvuT st T k)
    have rb : ∀ r i, aKM r = true → hA (hpA H2 (ad 35) q (lvuT st T k)) (ad r) i = if r = 35 ∧ i = q then lvuT st T k else hA H2 (ad r) i := fun r i hr => m2.rA (by decide) hr
    generalize hpA H2 (ad 35) q (lvuT st T k) = H3 at xb rb ⊢
    refine kk H3 _ _ ((x.join (xa.mono (fun r i z => Or.inl z.1) (fun r z => z))).join (xb.mono (fun r i z => Or.inr z.1) (fun r z => z))) ?_
    rw [← eq]
    intro j hj
    have r34 : hA H3 (ad 34) j = if j = q then nI k else hA h1 (ad 34) j := by
      rw [rb _ _ (by decide), if_neg (fun z => absurd z.1 (by decide)), ra _ _ (by decide)]
      by_cases z : j = q
      · rw [if_pos ⟨rfl, z⟩, if_pos z]
      · rw [if_neg (fun a => z a.2), if_neg z]
    have r35 : hA H3 (ad 35) j = if j = q then lvuT st T k else hA h1 (ad 35) j := by
      rw [rb _ _ (by decide)]
      by_cases z : j = q
      · rw [if_pos ⟨rfl, z⟩, if_pos z]
      · rw [if_neg (fun a => z a.2), if_neg z, ra _ _ (by decide), if_neg (fun z => absurd z.1 (by decide))]
    have hj' : j < G.length + 1 := by rw [List.length_append, List.length_cons, List.length_take, List.length_drop] at hj; omega
    rw [r34, r35, insN_get hq hj]
    by_cases z : j < q
    · rw [dif_pos z, if_neg (by omega), if_neg (by omega)]
      exact za j (by omega) z
    · rw [dif_neg z]
      by_cases z' : j = q
      · rw [dif_pos z', if_pos z', if_pos z']; exact ⟨rfl, rfl⟩
      · rw [dif_neg z', if_neg z', if_neg z']
        have := zb (j - 1) (by omega) (by omega)
        have e : j - 1 + 1 = j := by omega
        rw [e] at this
        exact this
  have go : ∀ p h1, p ≤ G.length → plcC (G.map (cM st T)) (cM st T k) p = plcC (G.map (cM st T)) (cM st T k) G.length → MF y ad (fun r _ => r = 34 ∨ r = 35) (fun _ => False) h h1 → (∀ j, (hj : j < G.length) → j < p → hA h1 (ad 34) j = nI G[j] ∧ hA h1 (ad 35) j = lvuT st T G[j]) → (∀ j, (hj : j < G.length) → p ≤ j → hA h1 (ad 34) (j + 1) = nI G[j] ∧ hA h1 (ad 35) (j + 1) = lvuT st T G[j]) → Ev g P 133 106 [some (va_rf (some (y 12))), some (.int x1), some (.int x2), some (.int (nI G.length)), some (.int (nI k)), some (.int (lvuT st T k)), some (.int (nI p)), o7, o8, o9, o10, o11] [] h1 Q := by
    intro p
    induction p with
    | zero =>
      intro h1 hp ep x za zb
      exact s_133_106 (kt := fun _ => fin 0 h1 hp ep x za zb) (kf := fun z => absurd (by decide) z)
    | succ p ih =>
      intro h1 hp ep x za zb
      have m1 := hm.mf x
      have e1 : nI (p + 1) - 1 = nI p := nI_pred p
      have e0 : (nI p).toNatClampNeg = p := nI_clamp (by omega)
      have e2 : (nI (p + 1)).toNatClampNeg = p + 1 := nI_clamp (by omega)
      obtain ⟨v34, v35⟩ := za p (by omega) (by omega)
      have gd : ((G.map (cM st T)).getD p (0, 0, [])).2.1 = lvuT st T G[p] := by
        rw [gD_lt (by rw [List.length_map]; omega), List.getElem_map]; rfl
      rw [plcC, gd] at ep
      refine s_133_106 (kt := fun z => absurd z (by rw [← nI_0]; exact nI_ge (by omega) (by omega))) (kf := fun _ => ?_)
      refine s_133_111 (k3 := m1.1) (e5 := m1.r35) (k6 := m1.k35) (i7 := by rw [e1, m1.n35]; exact vin_nI (by omega) (by decide)) (kt := fun z => ?_) (kf := fun z => ?_)
      · rw [e1, e0, v35] at z
        rw [if_pos (show lvuT st T G[p] ≤ (cM st T k).2.1 from z)] at ep
        exact fin (p + 1) h1 hp ep x za zb
      · rw [e1, e0, v35] at z
        rw [if_neg (show ¬ lvuT st T G[p] ≤ (cM st T k).2.1 from z)] at ep
        refine s_133_125 (k3 := m1.1) (e5 := m1.r34) (k6 := m1.k34) (i7 := by rw [e1, m1.n34]; exact vin_nI (by omega) (by decide)) (i8 := by rw [m1.n34]; exact vin_nI (by omega) (by decide)) (kk := ?_)
        rw [e1, e0, e2, v34]
        have xa := MF.wA m1 x.1.2.2.2 (k := 34) (i := p + 1) (by decide) (nI G[p])
        have ra : ∀ r i, aKM r = true → hA (hpA h1 (ad 34) (p + 1) (nI G[p])) (ad r) i = if r = 34 ∧ i = p + 1 then nI G[p] else hA h1 (ad r) i := fun r i hr => m1.rA (by decide) hr
        generalize hpA h1 (ad 34) (p + 1) (nI G[p]) = H2 at xa ra ⊢
        have m2 := m1.mf xa
        refine s_133_155 (e2 := m1.r35) (k3 := m2.k35) (i4 := by rw [m2.n35]; exact vin_nI (by omega) (by decide)) (e6 := m1.r35) (k7 := m2.k35) (i8 := by rw [m2.n35]; exact vin_nI (by omega) (by decide)) (kk := ?_)
        have v35' : hA H2 (ad 35) p = lvuT st T G[p] := by rw [ra _ _ (by decide), if_neg (fun z => absurd z.1 (by decide))]; exact v35
        rw [e0, e2, v35', nI_m1]
        have xb := MF.wA m2 xa.1.2.2.2 (k := 35) (i := p + 1) (by decide) (lvuT st T G[p])
        have rb : ∀ r i, aKM r = true → hA (hpA H2 (ad 35) (p + 1) (lvuT st T G[p])) (ad r) i = if r = 35 ∧ i = p + 1 then lvuT st T G[p] else hA H2 (ad r) i := fun r i hr => m2.rA (by decide) hr
        generalize hpA H2 (ad 35) (p + 1) (lvuT st T G[p]) = H3 at xb rb ⊢
        have r34 : ∀ j, hA H3 (ad 34) j = if j = p + 1 then nI G[p] else hA h1 (ad 34) j := fun j => by
          rw [rb _ _ (by decide), if_neg (fun z => absurd z.1 (by decide)), ra _ _ (by decide)]
          by_cases z : j = p + 1
          · rw [if_pos ⟨rfl, z⟩, if_pos z]
          · rw [if_neg (fun a => z a.2), if_neg z]
        have r35 : ∀ j, hA H3 (ad 35) j = if j = p + 1 then lvuT st T G[p] else hA h1 (ad 35) j := fun j => by
          rw [rb _ _ (by decide)]
          by_cases z : j = p + 1
          · rw [if_pos ⟨rfl, z⟩, if_pos z]
          · rw [if_neg (fun a => z a.2), if_neg z, ra _ _ (by decide), if_neg (fun z => absurd z.1 (by decide))]
        refine ih H3 (by omega) ep ((x.join (xa.mono (fun r i z => Or.inl z.1) (fun r z => z))).join (xb.mono (fun r i z => Or.inr z.1) (fun r z => z))) (fun j hj hjp => ?_) (fun j hj hjp => ?_)
        · rw [r34, r35, if_neg (by omega), if_neg (by omega)]
          exact za j hj (by omega)
        · rw [r34, r35]
          by_cases z : j = p
          · subst z
            rw [if_pos rfl, if_pos rfl]; exact ⟨rfl, rfl⟩
          · rw [if_neg (by omega), if_neg (by omega)]
            exact zb j hj (by omega)
  exact go G.length h (Nat.le_refl _) rfl (MF.rf w) (fun j hj _ => sr j hj) (fun j hj q => absurd hj (by omega))
end MK4
