/-! the model: clean, from the sorted row on -/
def mZ (st : Nat → Int32) (T : List slT) (G : List Nat) : Nat := zN (G.map (cM st T))
def mEn (st : Nat → Int32) (T : List slT) (U : Nat) (G : List Nat) : Nat := epC (nI U) ((G.map (cM st T)).drop (mZ st T G)) (mZ st T G) 0
def mPk (st : Nat → Int32) (T : List slT) (U : Nat) (G : List Nat) : List Nat := (G.drop (mZ st T G)).take (mEn st T U G - mZ st T G)
def clnT (st : Nat → Int32) (N U rep nm m : Nat) (T : List slT) (G : List Nat) : List slT × Nat × Nat := if 2 ≤ mEn st T U G - mZ st T G then (goL (nwT (goL T (G.take (mZ st T G))) (((mPk st T U G).flatMap (liP st T)).foldl cmP (nI m, nm, false, [], nsM st N rep nm m (N - 1)))) (mPk st T U G), nm + 1, 1) else (goL T (G.take (mZ st T G)), nm, if 0 < mZ st T G then 1 else 0)
def SRow (h : hpT) (ad : Nat → Nat) (st : Nat → Int32) (T : List slT) (G : List Nat) : Prop := ∀ j, (hj : j < G.length) → hA h (ad 34) j = nI G[j] ∧ hA h (ad 35) j = lvuT st T G[j]
section MK3
variable {g : gcT} {P : pmT} {h h' h1 : hpT} {y ad : Nat → Nat} {T T1 : List slT} {s s' : slT} {i j k n N U rep nm m e f c v to a b k8 : Nat} {x1 x2 x3 x4 x5 x6 : Int32} {A : Nat → Nat → Prop} {I : Nat → Prop} {st : Nat → Int32} {Q : hpT → Option Value → Prop} {G : List Nat}
theorem zN_z : ∀ (cs : List cT) (j : Nat), (hj : j < cs.length) → j < zN cs → cs[j].2.1 = 0 := by
  intro cs
  induction cs with
  | nil => intro j hj; exact absurd hj (Nat.not_lt_zero _)
  | cons c cs ih =>
    intro j hj q
    rw [zN] at q
    split at q
    · rename_i z
      cases j with
      | zero => exact z
      | succ j => exact ih j (Nat.lt_of_succ_lt_succ hj) (by omega)
    · exact absurd q (Nat.not_lt_zero _)
theorem zN_n : ∀ (cs : List cT), (hj : zN cs < cs.length) → ¬ (cs[zN cs]).2.1 = 0 := by
  intro cs
  induction cs with
  | nil => intro hj; exact absurd hj (Nat.not_lt_zero _)
  | cons c cs ih =>
    intro hj
    by_cases z : c.2.1 = 0
    · have e : zN (c :: cs) = zN cs + 1 := by rw [zN, if_pos z]
      have hj' : zN cs < cs.length := by rw [e] at hj; exact Nat.lt_of_succ_lt_succ hj
      have := ih hj'
      have e2 : (c :: cs)[zN (c :: cs)] = cs[zN cs] := by
        simp only [e, List.getElem_cons_succ]
      rw [e2]; exact this
    · have e : zN (c :: cs) = 0 := by rw [zN, if_neg z]
      have e2 : (c :: cs)[zN (c :: cs)] = c := by simp only [e, List.getElem_cons_zero]
      rw [e2]; exact z
theorem goL_app (T : List slT) (G : List Nat) (k : Nat) : goL T (G ++ [k]) = goT (goL T G) k := by
  unfold goL
  rw [List.foldl_append]; rfl
theorem goL_oth : ∀ (G : List Nat) (T : List slT), ¬ k ∈ G → (goL T G).getD k sl0 = T.getD k sl0 := by
  intro G
  induction G with
  | nil => intro T _; rfl
  | cons a G ih =>
    intro T n
    have e : goL T (a :: G) = goL (goT T a) G := rfl
    rw [e, ih _ (fun q => n (List.mem_cons_of_mem _ q))]
    exact gN (fun q => n (q ▸ List.mem_cons_self))
/-- the loop over the segments with no LIVE UNITS -/
theorem cln_z {o5 o6 o7 o8 o9 o10 o11 : Option Value} (hm : HM h y ad) (w : hWF h) (tb : TB h y ad T) (hG : ∀ k ∈ G, k < T.length) (hl : G.length ≤ 6000) (sr : SRow h ad st T G) (kk : ∀ h2, MF y ad (fun r _ => r = 24) (fun _ => False) h h2 → TB h2 y ad (goL T (G.take (mZ st T G))) → Ev g P 133 240 [some (va_rf (some (y 12))), some (.int (nI m)), some (.int x2), some (.int (nI G.length)), some (.int (nI (mZ st T G))), o5, o6, o7, o8, o9, o10, o11] [] h2 Q) : Ev g P 133 204 [some (va_rf (some (y 12))), some (.int (nI m)), some (.int x2), some (.int (nI G.length)), some (.int 0), o5, o6, o7, o8, o9, o10, o11] [] h Q := by
  have l6 := tb.2.1
  have zl : mZ st T G ≤ G.length := by have := zN_le (G.map (cM st T)); rw [List.length_map] at this; exact this
  have r35 : ∀ h1, MF y ad (fun r _ => r = 24) (fun _ => False) h h1 → ∀ j, (hj : j < G.length) → hA h1 (ad 35) (nI j).toNatClampNeg = ((G.map (cM st T))[j]'(by rw [List.length_map]; exact hj)).2.1 := by
    intro h1 x j hj
    rw [nI_clamp (by omega), MF.a hm x (by decide) (fun q => absurd q (by decide)), (sr j hj).2, List.getElem_map]; rfl
  have lp := cnt_loop (mZ st T G) (fun j h1 => MF y ad (fun r _ => r = 24) (fun _ => False) h h1 ∧ TB h1 y ad (goL T (G.take j))) (fun j h1 => Ev g P 133 204 [some (va_rf (some (y 12))), some (.int (nI m)), some (.int x2), some (.int (nI G.length)), some (.int (nI j)), o5, o6, o7, o8, o9, o10, o11] [] h1 Q) ?_ ?_ h ⟨MF.rf w, tb⟩
  · rw [nI_0] at lp; exact lp
  · intro j h1 hj ⟨x, tb1⟩ kn
    have hj' : j < G.length := by omega
    have m1 := hm.mf x
    have ej : (nI j).toNatClampNeg = j := nI_clamp (by omega)
    have hk := hG _ (List.getElem_mem hj')
    have c34 : hA h1 (ad 34) j = nI G[j] := by rw [MF.a hm x (by decide) (fun q => absurd q (by decide))]; exact (sr j hj').1
    refine s_133_204 (kt := fun z => absurd z (nI_ge hj' (by omega))) (kf := fun _ => ?_)
    refine s_133_210 (k3 := m1.1) (e5 := m1.r35) (k6 := m1.k35) (i7 := by rw [m1.n35]; exact vin_nI (by omega) (by decide)) (kt := fun z => absurd (by rw [r35 h1 x j hj']; exact zN_z _ _ _ hj) z) (kf := fun _ => ?_)
    refine s_133_220 (k3 := m1.1) (e5 := m1.r34) (k6 := m1.k34) (i7 := by rw [m1.n34]; exact vin_nI (by omega) (by decide)) (e9 := m1.r24) (k10 := m1.k24) (i11 := by rw [ej, c34, m1.n24]; exact vin_nI (by omega) (by decide)) (kk := ?_)
    rw [ej, c34, nI_clamp (by omega), nI_1]
    refine kn _ ⟨x.join ((MF.wA m1 x.1.2.2.2 (by decide) _).mono (fun r i q => q.1) (fun r q => q)), ?_⟩
    rw [List.take_succ_eq_append_getElem hj', goL_app]
    exact TB.go m1 x.1.2.2.2 tb1 (by rw [goL_len]; exact hk)
  · intro h1 ⟨x, tb1⟩
    have m1 := hm.mf x
    by_cases q : mZ st T G < G.length
    · refine s_133_204 (kt := fun z => absurd z (nI_ge q (by omega))) (kf := fun _ => ?_)
      refine s_133_210 (k3 := m1.1) (e5 := m1.r35) (k6 := m1.k35) (i7 := by rw [m1.n35]; exact vin_nI (by omega) (by decide)) (kt := fun _ => kk h1 x tb1) (kf := fun z => absurd ((r35 h1 x _ q).symm.trans z) (zN_n (G.map (cM st T)) (by rw [List.length_map]; exact q)))
    · exact s_133_204 (kt := fun _ => kk h1 x tb1) (kf := fun z => absurd (nI_le (by omega) (by omega)) z)
/-- the loop that finds how many are packed -/
theorem cln_b {o7 o8 o9 o10 o11 : Option Value} (hm : HM h y ad) (hl : G.length ≤ 6000) (eU : hI h 834 (y 12) = nI U) (e35 : ∀ j, (hj : j < G.length) → hA h (ad 35) j = (cM st T G[j]).2.1) (kk : ∀ b x6, b ≤ G.length → b = mEn st T U G → Ev g P 133 288 [some (va_rf (some (y 12))), some (.int (nI m)), some (.int x2), some (.int (nI G.length)), some (.int (nI (mZ st T G))), some (.int (nI b)), some (.int x6), o7, o8, o9, o10, o11] [] h Q) : Ev g P 133 247 [some (va_rf (some (y 12))), some (.int (nI m)), some (.int x2), some (.int (nI G.length)), some (.int (nI (mZ st T G))), some (.int (nI (mZ st T G))), some (.int 0), o7, o8, o9, o10, o11] [] h Q := by
  have zl : mZ st T G ≤ G.length := by have := zN_le (G.map (cM st T)); rw [List.length_map] at this; exact this
  have go : ∀ d j t, j + d = G.length → epC (nI U) ((G.map (cM st T)).drop j) j t = mEn st T U G → Ev g P 133 247 [some (va_rf (some (y 12))), some (.int (nI m)), some (.int x2), some (.int (nI G.length)), some (.int (nI (mZ st T G))), some (.int (nI j)), some (.int t), o7, o8, o9, o10, o11] [] h Q := by
    intro d
    induction d with
    | zero =>
      intro j t hj he
      have ej : j = G.length := by omega
      rw [List.drop_of_length_le (by rw [List.length_map]; omega), epC] at he
      exact s_133_247 (kt := fun _ => kk j t (by omega) he) (kf := fun z => absurd (nI_le (by omega) (by omega)) z)
    | succ d ih =>
      intro j t hj he
      have hj' : j < G.length := by omega
      have ej : (nI j).toNatClampNeg = j := nI_clamp (by omega)
      rw [List.drop_eq_getElem_cons (by rw [List.length_map]; exact hj'), epC, List.getElem_map] at he
      refine s_133_247 (kt := fun z => absurd z (nI_ge hj' (by omega))) (kf := fun _ => ?_)
      refine s_133_253 (k3 := hm.1) (e5 := hm.r35) (k6 := hm.k35) (i7 := by rw [hm.n35]; exact vin_nI (by omega) (by decide)) (kt := fun z => ?_) (kf := fun z => s_133_270 (k3 := hm.1) (e5 := hm.r35) (k6 := hm.k35) (i7 := by rw [hm.n35]; exact vin_nI (by omega) (by decide)) (kk := ?_))
      · rw [ej, e35 j hj', eU] at z
        rw [if_neg (by rw [Int32.not_le]; exact z)] at he
        exact kk j t (by omega) he
      · rw [ej, e35 j hj', eU, Int32.not_lt] at z
        rw [if_pos z] at he
        rw [ej, e35 j hj', nI_1]
        exact ih (j + 1) _ (by omega) he
  exact go (G.length - mZ st T G) (mZ st T G) 0 (by omega) rfl
theorem pk_mem (k : Nat) (hk : k ∈ mPk st T U G) : k ∈ G.drop (mZ st T G) := List.mem_of_mem_take hk
/-- from the sorted row on -/
theorem cln_2 {o4 o5 o6 o7 o8 o9 o10 o11 : Option Value} {vc : Int32} (hm : HM h y ad) (w : hWF h) (tb : TB h y ad T) (est : st = hA h (ad 5)) (eN : hI h 832 (y 12) = nI N) (eR : hI h 833 (y 12) = nI rep) (eU : hI h 834 (y 12) = nI U) (eO : hI h 848 (y 12) = nI nm) (eC : hI h 849 (y 12) = vc) (h4N : 4 ≤ N) (hN8 : N ≤ 8) (hr : rep ≤ 3) (hm8 : m < N) (hnm : nm ≤ 100000) (h6 : T.length < 6000) (hG : ∀ k ∈ G, k < T.length ∧ lLg (T.getD k sl0) = nI m) (nd : G.Nodup) (hl : G.length ≤ 6000) (sr : SRow h ad st T G) (e36 : ∀ k ∈ G, ∀ e, e < (lEn (T.getD k sl0)).length → ∀ i, i < 2 → hA h (ad 36) ((k * 16 + e) * 2 + i) = livT st T k e i) (cap : ((mPk st T U G).flatMap (liP st T)).length ≤ 16) (kk : ∀ h', MF y ad (fun r _ => 24 ≤ r ∧ r ≤ 36) (fun k => k = 23 ∨ k = 16 ∨ k = 17) h h' → TB h' y ad (clnT st N U rep nm m T G).1 → hI h' 848 (y 12) = nI (clnT st N U rep nm m T G).2.1 → hI h' 849 (y 12) = vc + nI (clnT st N U rep nm m T G).2.2 → Q h' none) : Ev g P 133 201 [some (va_rf (some (y 12))), some (.int (nI m)), some (.int x2), some (.int (nI G.length)), some (.int x4), o5, o6, o7, o8, o9, o10, o11] [] h Q := by
  have zl : mZ st T G ≤ G.length := by have := zN_le (G.map (cM st T)); rw [List.length_map] at this; exact this
  refine s_133_201 (cln_z (st := st) hm w tb (fun k hk => (hG k hk).1) hl sr (fun h1 xa tb1 => s_133_240 ?_))
  have m1 := hm.mf xa
  have xa' : MF y ad (fun r _ => 24 ≤ r ∧ r ≤ 36) (fun k => k = 23 ∨ k = 16 ∨ k = 17) h h1 := xa.mono (fun r i q => by omega) (fun r q => q.elim)
  have ii : ∀ {h2}, MF y ad (fun r _ => r = 24) (fun _ => False) h h2 → ∀ k, hI h2 (832 + k) (y 12) = hI h (832 + k) (y 12) := fun x k => x.i (fun q => q)
  refine cln_b (st := st) (T := T) (U := U) m1 hl ((ii xa 2).trans eU) (fun j hj => by rw [MF.a hm xa (by decide) (fun q => absurd q (by decide)), (sr j hj).2]; rfl) (fun b x6 hb eb => ?_)
  have zb : mZ st T G ≤ b := by
    rw [eb]
    exact (ep_ge _ _ _).1
  have esub : nI b - nI (mZ st T G) = nI (b - mZ st T G) := nI_sb zb
  have e1 : (1 : Int32) = nI 1 := rfl
  by_cases q : 2 ≤ b - mZ st T G
  · have ec : clnT st N U rep nm m T G = (goL (nwT (goL T (G.take (mZ st T G))) (((mPk st T U G).flatMap (liP st T)).foldl cmP (nI m, nm, false, [], nsM st N rep nm m (N - 1)))) (mPk st T U G), nm + 1, 1) := by
      unfold clnT
      rw [← eb, if_pos q]
    rw [ec] at kk
    have nle : ¬ nI b - nI (mZ st T G) ≤ 1 := by rw [esub, e1]; exact nI_ge (by omega) (by omega)
    refine s_133_288 (kt := fun z => absurd z nle) (kf := fun _ => ?_)
    have n6 : nwI (goL T (G.take (mZ st T G))) < 6000 := by have := nwI_le (goL T (G.take (mZ st T G))); rw [goL_len] at this; omega
    have hns := m_newSeg (g := g) (P := P) (b := false) (xb := 0) m1 xa.1.2.2.2 tb1 ((ii xa 0).trans eN) ((ii xa 1).trans eR) ((ii xa 16).trans eO) h4N hN8 hr hm8 hnm n6 rfl
    have e5 : hA h1 (ad 5) = st := by
      rw [est]
      funext v
      exact MF.a hm xa (by decide) (fun q => absurd q (by decide))
    rw [e5] at hns
    refine s_133_297 (k3 := m1.1) (hc := hns) (kk := fun h2 x' ⟨q1, xb, o2, tb2⟩ => ?_)
    subst q1
    have xb' : MF y ad (fun r _ => 24 ≤ r ∧ r ≤ 36) (fun k => k = 23 ∨ k = 16 ∨ k = 17) h h2 := xa'.join (xb.mono (fun r i q => by rcases q with ⟨q, -⟩ | ⟨q, -⟩ | ⟨q, -⟩ <;> omega) (fun r q => by rcases q with q | q; exact Or.inl q; exact Or.inr (Or.inl q)))
    have m2 := hm.mf xb'
    have s3 : ∀ {r i}, 33 ≤ r → aKM r = true → hA h2 (ad r) i = hA h (ad r) i := fun hr hk => by
      rw [MF.a m1 xb hk (fun q => by rcases q with ⟨q, -⟩ | ⟨q, -⟩ | ⟨q, -⟩ <;> omega), MF.a hm xa hk (fun q => by omega)]
    have lpk : (mPk st T U G).length = b - mZ st T G := by
      unfold mPk
      rw [← eb, List.length_take, List.length_drop]; omega
    have e34 : ∀ {h3}, (∀ i, hA h3 (ad 34) i = hA h2 (ad 34) i) → ∀ j, (hj : j < (mPk st T U G).length) → hA h3 (ad 34) (mZ st T G + j) = nI (mPk st T U G)[j] := by
      intro h3 hh j hj
      rw [lpk] at hj
      rw [hh, s3 (by decide) (by decide), (sr (mZ st T G + j) (by omega)).1]
      congr 1
      simp only [mPk, List.getElem_take, List.getElem_drop]
    have dis : ∀ k ∈ mPk st T U G, k ∈ G ∧ ¬ k ∈ G.take (mZ st T G) := by
      intro k hk
      have hd := pk_mem k hk
      refine ⟨List.mem_of_mem_drop hd, fun ht => ?_⟩
      have nd' := nd
      rw [← List.take_append_drop (mZ st T G) G] at nd'
      exact (List.nodup_append.mp nd').2.2 k ht k hd rfl
    refine s_133_303 ?_
    refine cln_c (T := T) (st := st) (L := mPk st T U G) m2 xb'.1.2.2.2 tb2 (fun k hk => ?_) (e34 (fun _ => rfl)) (by rw [lpk]; omega) (by omega) (by show 0 + _ ≤ 16; omega) (fun h3 o9 o10 o11 xc tb3 => s_133_413 ?_)
    · obtain ⟨d1, d2⟩ := dis k hk
      obtain ⟨g1, g2⟩ := hG k d1
      have go := goL_oth (k := k) (G.take (mZ st T G)) T d2
      have kl : k < (goL T (G.take (mZ st T G))).length := by rw [goL_len]; exact g1
      refine ⟨kl, fun en => ?_, go, fun e he i hi => by rw [s3 (by decide) (by decide)]; exact e36 k d1 e he i hi⟩
      have hw : (goL T (G.take (mZ st T G))).findIdx (fun s => decide (lLg s = 99)) < (goL T (G.take (mZ st T G))).length := by
        show nwI (goL T (G.take (mZ st T G))) < _
        rw [← en]; exact kl
      have p := List.findIdx_getElem (w := hw)
      have en' : (goL T (G.take (mZ st T G))).findIdx (fun s => decide (lLg s = 99)) = k := en.symm
      simp only [en'] at p
      have p := of_decide_eq_true p
      rw [← gD_lt (d := sl0) kl, go, g2] at p
      have : nI m = nI 99 := p
      have := nI_inj (by omega) (by omega) this
      omega
    have xc' : MF y ad (fun r _ => 24 ≤ r ∧ r ≤ 36) (fun k => k = 23 ∨ k = 16 ∨ k = 17) h h3 := xb'.join (xc.mono (fun r i q => by omega) (fun r q => q.elim))
    have m3 := hm.mf xc'
    refine cln_g (L := mPk st T U G) m3 xc'.1.2.2.2 tb3 (fun k hk => ?_) (e34 (fun i => MF.a m2 xc (by decide) (fun q => absurd q.2 (by decide)))) (by rw [lpk]; omega) (by omega) (fun h4 o8 xd tb4 => ?_)
    · have := (hG k (dis k hk).1).1
      have h1 : k < (goL T (G.take (mZ st T G))).length := by rw [goL_len]; exact this
      unfold nwT
      split
      · rw [List.length_set]; exact h1
      · rw [List.length_append]; exact Nat.lt_of_lt_of_le h1 (Nat.le_add_right _ _)
    have xd' : MF y ad (fun r _ => 24 ≤ r ∧ r ≤ 36) (fun k => k = 23 ∨ k = 16 ∨ k = 17) h h4 := xc'.join (xd.mono (fun r i q => by omega) (fun r q => q.elim))
    have m4 := hm.mf xd'
    have o4' : hI h4 848 (y 12) = nI (nm + 1) := by rw [show (848 : Nat) = 832 + 16 from rfl, xd.i (fun q => q), xc.i (fun q => q)]; exact o2
    have c4 : hI h4 849 (y 12) = vc := by rw [show (849 : Nat) = 832 + 17 from rfl, xd.i (fun q => q), xc.i (fun q => q), xb.i (by decide), xa.i (fun q => q)]; exact eC
    have fin : Ev g P 133 458 [some (va_rf (some (y 12))), some (.int (nI m)), some (.int x2), some (.int (nI G.length)), some (.int (nI (mZ st T G))), some (.int (nI b)), some (.int x6), some (.int (nI (nwI (goL T (G.take (mZ st T G)))))), o8, o9, o10, o11] [] h4 Q := by
      refine s_133_458 (k3 := m4.1) (kk := s_133_468 ?_)
      rw [c4]
      have xe := MF.wf m4 xd'.1.2.2.2 (k := 17) (f := 849) rfl (vc + 1)
      have i1 : hI (hpI h4 849 (y 12) (vc + 1)) 849 (y 12) = vc + 1 := by rw [rI_I, if_pos ⟨rfl, rfl⟩]
      generalize hpI h4 849 (y 12) (vc + 1) = H5 at xe i1 ⊢
      refine kk H5 (xd'.join (xe.mono (fun r i q => q.elim) (fun r q => Or.inr (Or.inr q)))) (tb4.keep m4 xe (fun r i q a z => a) (fun q => absurd q (by decide))) ?_ i1
      rw [show (848 : Nat) = 832 + 16 from rfl, xe.i (by decide)]; exact o4'
    exact s_133_444 (kt := fun _ => fin) (kf := fun _ => s_133_449 (kt := fun z => absurd z nle) (kf := fun _ => fin))
  · have ec : clnT st N U rep nm m T G = (goL T (G.take (mZ st T G)), nm, if 0 < mZ st T G then 1 else 0) := by
      unfold clnT
      rw [← eb, if_neg q]
    rw [ec] at kk
    have le : nI b - nI (mZ st T G) ≤ 1 := by rw [esub, e1]; exact nI_le (by omega) (by omega)
    refine s_133_288 (kt := fun _ => ?_) (kf := fun z => absurd le z)
    have o1 : hI h1 848 (y 12) = nI nm := (ii xa 16).trans eO
    have c1 : hI h1 849 (y 12) = vc := (ii xa 17).trans eC
    by_cases q0 : 0 < mZ st T G
    · refine s_133_444 (kt := fun _ => ?_) (kf := fun z => absurd (by rw [← nI_0]; rw [Int32.lt_iff_le_and_ne]; exact ⟨nI_le (by omega) (by omega), fun q => by have := nI_inj (by omega) (by omega) q; omega⟩) z)
      refine s_133_458 (k3 := m1.1) (kk := s_133_468 ?_)
      rw [c1]
      rw [if_pos q0] at kk
      have xe := MF.wf m1 xa'.1.2.2.2 (k := 17) (f := 849) rfl (vc + 1)
      have i1 : hI (hpI h1 849 (y 12) (vc + 1)) 849 (y 12) = vc + 1 := by rw [rI_I, if_pos ⟨rfl, rfl⟩]
      generalize hpI h1 849 (y 12) (vc + 1) = H5 at xe i1 ⊢
      refine kk H5 (xa'.join (xe.mono (fun r i q => q.elim) (fun r q => Or.inr (Or.inr q)))) (tb1.keep m1 xe (fun r i q a z => a) (fun q => absurd q (by decide))) ?_ i1
      rw [show (848 : Nat) = 832 + 16 from rfl, xe.i (by decide)]; exact o1
    · have z0 : mZ st T G = 0 := by omega
      rw [if_neg q0] at kk
      refine s_133_444 (kt := fun z => absurd z (by rw [z0]; decide)) (kf := fun _ => s_133_449 (kt := fun _ => s_133_468 ?_) (kf := fun z => absurd le z))
      refine kk h1 xa' tb1 o1 ?_
      rw [c1, nI_0, Int32.add_zero]
end MK3
