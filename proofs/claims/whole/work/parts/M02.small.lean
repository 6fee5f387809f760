/-! the model: small methods -/
def upB (st : Nat → Int32) (N : Nat) (x : Int32) : Nat := (List.range N).foldl (fun t s => if ¬ nI s = x ∧ st s = 0 then t + 1 else t) 0
def owN (ow : Nat → Int32) (x : Int32) : Nat := (List.range 8).foldl (fun t j => if ow j = x then t + 1 else t) 0
def mU (k : Int32) : Int32 := if k = 0 then 0 else if k = 3 then 2 else 1
def unT (e : enT) : Int32 := mU (mPt e.1 0) + mU (mPo e.2 0)
def usT (E : List enT) : Int32 := E.foldl (fun t e => t + unT e) 0
def sgN (T : List slT) (x : Int32) : Nat := T.foldl (fun t s => if lLg s = x then t + 1 else t) 0
def nxF (T : List slT) (x n : Int32) (b : Option Nat) (g : Nat) : Option Nat := if ¬ lLg (T.getD g sl0) = x then b else if nI (lNm (T.getD g sl0)) ≤ n then b else match b with
  | none => some g
  | some k => if lNm (T.getD k sl0) ≤ lNm (T.getD g sl0) then b else some g
def nxT (T : List slT) (x n : Int32) : Option Nat := (List.range T.length).foldl (nxF T x n) none
def laF (T : List slT) (x : Int32) (b : Option Nat) (g : Nat) : Option Nat := if ¬ lLg (T.getD g sl0) = x then b else if lOp (T.getD g sl0) = false then b else match b with
  | none => some g
  | some k => if lNm (T.getD g sl0) ≤ lNm (T.getD k sl0) then b else some g
def laT (T : List slT) (x : Int32) : Option Nat := (List.range T.length).foldl (laF T x) none
def oI (b : Option Nat) : Int32 := match b with
  | none => -1
  | some g => nI g
def hoU (st : Nat → Int32) (s : slT) : Nat := (lHo s).foldl (fun t x => if st x.1 = 0 then t + 1 else t) 0
def mstU (st : Nat → Int32) (m : Nat) (x : Nat × Nat) : Nat := if st x.1 = 0 ∧ m < x.2 then x.2 else m
def thT (st : Nat → Int32) (T : List slT) (g : Nat) : Nat := if lLg (T.getD g sl0) < 16 then (lEn (T.getD g sl0)).length else if ¬ laT T (lLg (T.getD g sl0)) = some g then (lEn (T.getD g sl0)).length else (lHo (T.getD g sl0)).foldl (mstU st) 0
theorem ix8 (g k : Nat) : 8 * nI g + nI k = nI (8 * g + k) := by
  rw [show (8 : Int32) = nI 8 from rfl, pk_mul, nI_add]
theorem ixP (g e i f : Nat) : (((nI g * 16 + nI e) * 2 + nI i) * 9 + nI f) = nI (pIx g e i f) := by
  unfold pIx
  rw [show (16 : Int32) = nI 16 from rfl, show (2 : Int32) = nI 2 from rfl, show (9 : Int32) = nI 9 from rfl, pk_mul, nI_add, pk_mul, nI_add, pk_mul, nI_add]
theorem oI_ne {g : Nat} (h : g < 2 ^ 31) : ¬ oI (some g) = -1 := fun q => by
  have q : nI g = -1 := q
  have := nI_pos (n := g) h
  rw [q] at this
  exact this (by decide)
theorem gD_lt {α : Type} {l : List α} {i : Nat} {d : α} (h : i < l.length) : l.getD i d = l[i] := by
  rw [List.getD_eq_getElem?_getD, List.getElem?_eq_getElem h]; rfl
section MS
variable {g : gcT} {P : pmT} {h h' h1 : hpT} {y ad : Nat → Nat} {T : List slT} {i j k n N : Nat} {x1 x2 x3 : Int32}
theorem m_in : EvI g P 100 [.int x1, .int x2, .int x3] h (fun h' r => h' = h ∧ r = if x1 < x2 ∨ x3 < x1 then 0 else 1) := by
  refine e_100 (s_100_0 (kt := fun z => s_100_14 (s_100_15 (b1 := Or.inl rfl) (hq := ⟨_, rfl, rfl, (if_pos (Or.inl z)).symm⟩))) (kf := fun z => s_100_5 (kt := fun z1 => s_100_14 (s_100_15 (b1 := Or.inl rfl) (hq := ⟨_, rfl, rfl, (if_pos (Or.inr z1)).symm⟩))) (kf := fun z1 => s_100_10 (s_100_15 (b1 := Or.inr rfl) (hq := ⟨_, rfl, rfl, ?_⟩)))))
  rw [if_neg (by rintro (q | q); exact z q; exact z1 q)]
theorem m_near : EvI g P 101 [.int x1, .int x2, .int x3] h (fun h' r => h' = h ∧ r = if ¬ x2 ≤ x1 then x2 else if ¬ x1 ≤ x3 then x3 else x1) := by
  refine e_101 (s_101_0 (kt := fun z => s_101_9 (kt := fun z1 => s_101_18 (s_101_19 ⟨_, rfl, rfl, ?_⟩)) (kf := fun z1 => s_101_14 (s_101_19 ⟨_, rfl, rfl, ?_⟩))) (kf := fun z => s_101_5 (s_101_19 ⟨_, rfl, rfl, (if_pos z).symm⟩)))
  · rw [if_neg (not_not_intro z), if_neg (not_not_intro z1)]
  · rw [if_neg (not_not_intro z), if_pos z1]
theorem m_isUpM (m : HM h y ad) (hi : i < 8) : EvI g P 105 [va_rf (some (y 12)), .int (nI i)] h (fun h' r => h' = h ∧ r = if hA h (ad 5) i = 0 then 1 else 0) := by
  have ei : (nI i).toNatClampNeg = i := nI_clamp (by omega)
  refine e_105 (s_105_0 (k3 := m.1) (e5 := m.r5) (k6 := m.k5) (i7 := by rw [m.n5]; exact vin_nI hi (by decide)) (kt := fun z => s_105_13 (s_105_14 (b1 := Or.inl rfl) (hq := ⟨_, rfl, rfl, ?_⟩))) (kf := fun z => s_105_9 (s_105_14 (b1 := Or.inr rfl) (hq := ⟨_, rfl, rfl, ?_⟩))))
  · rw [ei] at z; rw [if_neg z]
  · rw [ei] at z; rw [if_pos z]
theorem m_upBut (m : HM h y ad) (eN : hI h 832 (y 12) = nI N) (hN : N ≤ 8) : EvI g P 106 [va_rf (some (y 12)), .int x1] h (fun h' r => h' = h ∧ r = nI (upB (hA h (ad 5)) N x1)) := by
  refine e_106 (s_106_0 ?_)
  have lp := fold_loop (List.range N) (fun t s => if ¬ nI s = x1 ∧ hA h (ad 5) s = 0 then t + 1 else t) (fun s t => Ev g P 106 4 [some (va_rf (some (y 12))), some (.int x1), some (.int (nI t)), some (.int (nI s))] [] h (fun h' r => ∃ x, r = some (.int x) ∧ h' = h ∧ x = nI (upB (hA h (ad 5)) N x1))) ?_ 0 ?_
  · rw [nI_0] at lp; exact lp
  · intro s t hs kn
    rw [List.getElem_range] at kn
    rw [List.length_range] at hs
    have no : ¬ (¬ nI s = x1 ∧ hA h (ad 5) s = 0) → Ev g P 106 30 [some (va_rf (some (y 12))), some (.int x1), some (.int (nI t)), some (.int (nI s))] [.int (nI t)] h (fun h' r => ∃ x, r = some (.int x) ∧ h' = h ∧ x = nI (upB (hA h (ad 5)) N x1)) := by
      intro q
      rw [if_neg q] at kn
      refine s_106_30 (s_106_31 ?_)
      rw [Int32.add_zero, nI_1]; exact kn
    refine s_106_4 (k3 := m.1) (kt := fun z => absurd z (by rw [eN]; exact nI_ge hs (by omega))) (kf := fun _ => s_106_12 (kt := fun z => no (fun q => q.1 z)) (kf := fun z => ?_))
    refine s_106_18 (k3 := m.1) (hc := m_isUpM m (by omega)) (kk := fun h2 x ⟨e1, e2⟩ => ?_)
    subst e1; subst e2
    by_cases q : hA h2 (ad 5) s = 0
    · rw [if_pos q]
      rw [if_pos ⟨z, q⟩] at kn
      refine s_106_23 (kt := fun z => absurd z (by decide)) (kf := fun _ => s_106_26 (s_106_31 ?_))
      rw [nI_1, nI_1]; exact kn
    · rw [if_neg q]
      exact s_106_23 (kt := fun _ => no (fun z => q z.2)) (kf := fun z => absurd rfl z)
  · rw [List.length_range]
    exact s_106_4 (k3 := m.1) (kt := fun _ => s_106_39 ⟨_, rfl, rfl, rfl⟩) (kf := fun z => absurd (by rw [eN]; exact nI_le (Nat.le_refl _) (by omega)) z)
theorem m_owns {n8 : Nat} (h8 : n8 = 8) (m : HM h y ad) : EvI g P 107 [va_rf (some (y 12)), .int x1] h (fun h' r => h' = h ∧ r = nI ((List.range n8).foldl (fun t j => if hA h (ad 13) j = x1 then t + 1 else t) 0)) := by
  have e8 : (8 : Int32) = nI n8 := by rw [h8]; rfl
  refine e_107 (s_107_0 ?_)
  have lp := fold_loop (List.range n8) (fun t s => if hA h (ad 13) s = x1 then t + 1 else t) (fun s t => Ev g P 107 4 [some (va_rf (some (y 12))), some (.int x1), some (.int (nI t)), some (.int (nI s))] [] h (fun h' r => ∃ x, r = some (.int x) ∧ h' = h ∧ x = nI ((List.range n8).foldl (fun t j => if hA h (ad 13) j = x1 then t + 1 else t) 0))) ?_ 0 ?_
  · rw [nI_0] at lp; exact lp
  · intro s t hs kn
    rw [List.getElem_range] at kn
    rw [List.length_range] at hs
    have ei : (nI s).toNatClampNeg = s := nI_clamp (by omega)
    refine s_107_4 (kt := fun z => absurd z (by rw [e8]; exact nI_ge hs (by omega))) (kf := fun _ => ?_)
    refine s_107_10 (k3 := m.1) (e5 := m.r13) (k6 := m.k13) (i7 := by rw [m.n13]; exact vin_nI (by omega) (by decide)) (kt := fun z => s_107_25 (s_107_26 ?_)) (kf := fun z => s_107_21 (s_107_26 ?_))
    · rw [ei] at z
      rw [if_neg z] at kn
      rw [Int32.add_zero, nI_1]; exact kn
    · rw [ei] at z
      rw [if_pos z] at kn
      rw [nI_1, nI_1]; exact kn
  · rw [List.length_range]
    exact s_107_4 (kt := fun _ => s_107_34 ⟨_, rfl, rfl, rfl⟩) (kf := fun z => absurd (by rw [e8]; exact nI_le (Nat.le_refl _) (by omega)) z)
theorem m_atM {e i f : Nat} {k : Nat} : EvI g P 108 [.int (nI k), .int (nI e), .int (nI i), .int (nI f)] h (fun h' r => h' = h ∧ r = nI (pIx k e i f)) := e_108 (s_108_0 ⟨_, rfl, rfl, ixP k e i f⟩)
theorem m_unitsM : EvI g P 109 [.int x1] h (fun h' r => h' = h ∧ r = mU x1) := by
  refine e_109 (s_109_0 (kt := fun z => s_109_8 (kt := fun z1 => s_109_17 (s_109_18 ⟨_, rfl, rfl, ?_⟩)) (kf := fun z1 => s_109_13 (s_109_18 ⟨_, rfl, rfl, ?_⟩))) (kf := fun z => s_109_4 (s_109_18 ⟨_, rfl, rfl, ?_⟩)))
  · unfold mU; rw [if_neg z, if_neg z1]
  · unfold mU; rw [if_neg z, if_pos z1]
  · unfold mU; rw [if_pos z]
theorem pIx_lt {g e i f : Nat} (hg : g < 6000) (he : e < 16) (hi : i < 2) (hf : f < 9) : pIx g e i f < 1728000 := by unfold pIx; omega
theorem TB.s (tb : TB h y ad T) (hk : k < T.length) : SL h ad k (T.getD k sl0) := tb.2.2 k hk
theorem m_entU (m : HM h y ad) (tb : TB h y ad T) (hk : k < T.length) (hj : j < (lEn (T.getD k sl0)).length) : EvI g P 110 [va_rf (some (y 12)), .int (nI k), .int (nI j)] h (fun h' r => h' = h ∧ r = unT ((lEn (T.getD k sl0)).getD j en0)) := by
  have l6 := tb.2.1
  obtain ⟨-, ⟨-, l16, ke⟩, -⟩ := tb.s hk
  have v0 : vinD (nI (pIx k j 0 0)) (hN h (ad 28)) := by rw [m.n28]; exact vin_nI (pIx_lt (by omega) (by omega) (by omega) (by omega)) (by decide)
  have v1 : vinD (nI (pIx k j 1 0)) (hN h (ad 28)) := by rw [m.n28]; exact vin_nI (pIx_lt (by omega) (by omega) (by omega) (by omega)) (by decide)
  have c0 : (nI (pIx k j 0 0)).toNatClampNeg = pIx k j 0 0 := nI_clamp (by have := pIx_lt (g := k) (e := j) (i := 0) (f := 0) (by omega) (by omega) (by omega) (by omega); omega)
  have c1 : (nI (pIx k j 1 0)).toNatClampNeg = pIx k j 1 0 := nI_clamp (by have := pIx_lt (g := k) (e := j) (i := 1) (f := 0) (by omega) (by omega) (by omega) (by omega); omega)
  refine e_110 (s_110_0 (k3 := m.1) (hc := m_atM (i := 0) (f := 0)) (kk := fun h2 x ⟨e1, e2⟩ => ?_))
  subst e1; subst e2
  refine s_110_11 (e2 := m.r28) (k3 := m.k28) (i4 := v0) (hc := m_unitsM) (kk := fun h3 x ⟨e1, e2⟩ => ?_)
  subst e1; subst e2
  refine s_110_15 (k3 := m.1) (hc := m_atM (i := 1) (f := 0)) (kk := fun h2 x ⟨e1, e2⟩ => ?_)
  subst e1; subst e2
  refine s_110_26 (e2 := m.r28) (k3 := m.k28) (i4 := v1) (hc := m_unitsM) (kk := fun h3 x ⟨e1, e2⟩ => s_110_30 ⟨_, rfl, e1, ?_⟩)
  rw [e2, c0, c1, (ke j hj 0 (by omega)).1, (ke j hj 0 (by omega)).2]
  rfl
theorem m_used (m : HM h y ad) (tb : TB h y ad T) (hk : k < T.length) : EvI g P 111 [va_rf (some (y 12)), .int (nI k)] h (fun h' r => h' = h ∧ r = usT (lEn (T.getD k sl0))) := by
  have l6 := tb.2.1
  obtain ⟨-, ⟨e27, l16, -⟩, -⟩ := tb.s hk
  have ec : (nI k).toNatClampNeg = k := nI_clamp (by omega)
  have vk : vinD (nI k) (hN h (ad 27)) := by rw [m.n27]; exact vin_nI (by omega) (by decide)
  refine e_111 (s_111_0 ?_)
  have lp := fold_loop (lEn (T.getD k sl0)) (fun t e => t + unT e) (fun s t => Ev g P 111 4 [some (va_rf (some (y 12))), some (.int (nI k)), some (.int t), some (.int (nI s))] [] h (fun h' r => ∃ x, r = some (.int x) ∧ h' = h ∧ x = usT (lEn (T.getD k sl0)))) ?_ 0 ?_
  · rw [nI_0] at lp; exact lp
  · intro s t hs kn
    refine s_111_4 (k3 := m.1) (e5 := m.r27) (k6 := m.k27) (i7 := vk) (kt := fun z => absurd z (by rw [ec, e27]; exact nI_ge hs (by omega))) (kf := fun _ => ?_)
    refine s_111_14 (k3 := m.1) (hc := m_entU m tb hk hs) (kk := fun h2 x ⟨e1, e2⟩ => s_111_21 ?_)
    subst e1; subst e2
    rw [nI_1, gD_lt hs]; exact kn
  · exact s_111_4 (k3 := m.1) (e5 := m.r27) (k6 := m.k27) (i7 := vk) (kt := fun _ => s_111_29 ⟨_, rfl, rfl, rfl⟩) (kf := fun z => absurd (by rw [ec, e27]; exact nI_le (Nat.le_refl _) (by omega)) z)
theorem m_segsOf (m : HM h y ad) (tb : TB h y ad T) : EvI g P 112 [va_rf (some (y 12)), .int x1] h (fun h' r => h' = h ∧ r = nI (sgN T x1)) := by
  have l6 := tb.2.1
  refine e_112 (s_112_0 ?_)
  have lp := fold_loop T (fun t s => if lLg s = x1 then t + 1 else t) (fun s t => Ev g P 112 4 [some (va_rf (some (y 12))), some (.int x1), some (.int (nI t)), some (.int (nI s))] [] h (fun h' r => ∃ x, r = some (.int x) ∧ h' = h ∧ x = nI (sgN T x1))) ?_ 0 ?_
  · rw [nI_0] at lp; exact lp
  · intro s t hs kn
    have ei : (nI s).toNatClampNeg = s := nI_clamp (by omega)
    have e24 := (tb.s hs).1.1
    rw [gD_lt hs] at e24
    refine s_112_4 (k3 := m.1) (kt := fun z => absurd z (by rw [tb.1]; exact nI_ge hs (by omega))) (kf := fun _ => ?_)
    refine s_112_12 (k3 := m.1) (e5 := m.r24) (k6 := m.k24) (i7 := by rw [m.n24]; exact vin_nI (by omega) (by decide)) (kt := fun z => s_112_27 (s_112_28 ?_)) (kf := fun z => s_112_23 (s_112_28 ?_))
    · rw [ei, e24] at z
      rw [if_neg z] at kn
      rw [Int32.add_zero, nI_1]; exact kn
    · rw [ei, e24] at z
      rw [if_pos z] at kn
      rw [nI_1, nI_1]; exact kn
  · exact s_112_4 (k3 := m.1) (kt := fun _ => s_112_36 ⟨_, rfl, rfl, rfl⟩) (kf := fun z => absurd (by rw [tb.1]; exact nI_le (Nat.le_refl _) (by omega)) z)
theorem nxT_lt : ∀ (l : List Nat) (b : Option Nat), (∀ g ∈ l, g < n) → (∀ k, b = some k → k < n) → ∀ k, l.foldl (nxF T x1 x2) b = some k → k < n := by
  intro l
  induction l with
  | nil => intro b _ hb k hk; exact hb k hk
  | cons a l ih =>
    intro b hl hb k hk
    refine ih _ (fun g hg => hl g (List.mem_cons_of_mem _ hg)) (fun k hk => ?_) k hk
    have ha := hl a List.mem_cons_self
    unfold nxF at hk
    split at hk
    · exact hb k hk
    · split at hk
      · exact hb k hk
      · split at hk
        · cases hk; exact ha
        · split at hk
          · exact hb k hk
          · cases hk; exact ha
theorem laT_lt : ∀ (l : List Nat) (b : Option Nat), (∀ g ∈ l, g < n) → (∀ k, b = some k → k < n) → ∀ k, l.foldl (laF T x1) b = some k → k < n := by
  intro l
  induction l with
  | nil => intro b _ hb k hk; exact hb k hk
  | cons a l ih =>
    intro b hl hb k hk
    refine ih _ (fun g hg => hl g (List.mem_cons_of_mem _ hg)) (fun k hk => ?_) k hk
    have ha := hl a List.mem_cons_self
    unfold laF at hk
    split at hk
    · exact hb k hk
    · split at hk
      · exact hb k hk
      · split at hk
        · cases hk; exact ha
        · split at hk
          · exact hb k hk
          · cases hk; exact ha
theorem m_next (m : HM h y ad) (tb : TB h y ad T) : EvI g P 113 [va_rf (some (y 12)), .int x1, .int x2] h (fun h' r => h' = h ∧ r = oI (nxT T x1 x2)) := by
  have l6 := tb.2.1
  refine e_113 (s_113_0 ?_)
  have lp := fold_loop (List.range T.length) (nxF T x1 x2) (fun s b => (∀ k, b = some k → k < T.length) → Ev g P 113 5 [some (va_rf (some (y 12))), some (.int x1), some (.int x2), some (.int (oI b)), some (.int (nI s))] [] h (fun h' r => ∃ x, r = some (.int x) ∧ h' = h ∧ x = oI (nxT T x1 x2))) ?_ none ?_
  · rw [nI_0] at lp; exact lp (fun k hk => by cases hk)
  · intro s b hs kn hb
    rw [List.getElem_range] at kn
    rw [List.length_range] at hs
    have ei : (nI s).toNatClampNeg = s := nI_clamp (by omega)
    obtain ⟨e24, e25, -, lnm⟩ := (tb.s hs).1
    have next : ∀ b', b' = nxF T x1 x2 b s → (∀ k, b' = some k → k < T.length) → Ev g P 113 60 [some (va_rf (some (y 12))), some (.int x1), some (.int x2), some (.int (oI b')), some (.int (nI s))] [] h (fun h' r => ∃ x, r = some (.int x) ∧ h' = h ∧ x = oI (nxT T x1 x2)) := by
      intro b' eb hb'
      refine s_113_60 ?_
      rw [nI_1]
      rw [eb] at hb' ⊢
      exact kn hb'
    have vs : ∀ {a}, hN h a = 6000 → vinD (nI s) (hN h a) := fun e => by rw [e]; exact vin_nI (by omega) (by decide)
    refine s_113_5 (k3 := m.1) (kt := fun z => absurd z (by rw [tb.1]; exact nI_ge hs (by omega))) (kf := fun _ => ?_)
    refine s_113_14 (k3 := m.1) (e5 := m.r24) (k6 := m.k24) (i7 := vs m.n24) (kt := fun z => next b ?_ hb) (kf := fun z => ?_)
    · rw [ei, e24] at z
      unfold nxF
      rw [if_pos z]
    · rw [ei, e24] at z
      refine s_113_25 (k3 := m.1) (e5 := m.r25) (k6 := m.k25) (i7 := vs m.n25) (kt := fun z1 => next b ?_ hb) (kf := fun z1 => ?_)
      · rw [ei, e25] at z1
        unfold nxF
        rw [if_neg (not_not_intro z), if_pos z1]
      · rw [ei, e25] at z1
        have here : b = none ∨ (∃ k, b = some k ∧ ¬ lNm (T.getD k sl0) ≤ lNm (T.getD s sl0)) → some s = nxF T x1 x2 b s := by
          intro q
          unfold nxF
          rw [if_neg (not_not_intro z), if_neg z1]
          rcases q with q | ⟨k, q, q'⟩
          · rw [q]
          · rw [q]
            dsimp only
            rw [if_neg q']
        cases b with
        | none => exact s_113_36 (kt := fun _ => s_113_57 (next (some s) (here (Or.inl rfl)) (fun k hk => by cases hk; exact hs))) (kf := fun q => absurd rfl q)
        | some k =>
          have hk := hb k rfl
          obtain ⟨-, e25k, -, lnk⟩ := (tb.s hk).1
          have ek : (nI k).toNatClampNeg = k := nI_clamp (by omega)
          refine s_113_36 (kt := fun q => absurd q (oI_ne (by omega))) (kf := fun _ => ?_)
          refine s_113_41 (k3 := m.1) (e5 := m.r25) (k6 := m.k25) (i7 := vs m.n25) (i8 := by show vinD (nI k) _; rw [m.n25]; exact vin_nI (by omega) (by decide)) (kt := fun q => next (some k) ?_ hb) (kf := fun q => s_113_57 (next (some s) (here (Or.inr ⟨k, rfl, ?_⟩)) (fun k hk => by cases hk; exact hs)))
          · have q : hA h (ad 25) (nI k).toNatClampNeg ≤ hA h (ad 25) (nI s).toNatClampNeg := q
            rw [ek, ei, e25k, e25] at q
            unfold nxF
            rw [if_neg (not_not_intro z), if_neg z1]
            dsimp only
            rw [if_pos ((nI_leI (by omega) (by omega)).mp q)]
          · have q : ¬ hA h (ad 25) (nI k).toNatClampNeg ≤ hA h (ad 25) (nI s).toNatClampNeg := q
            rw [ek, ei, e25k, e25] at q
            exact fun z => q ((nI_leI (by omega) (by omega)).mpr z)
  · rw [List.length_range]
    intro _
    exact s_113_5 (k3 := m.1) (kt := fun _ => s_113_66 ⟨_, rfl, rfl, rfl⟩) (kf := fun z => absurd (by rw [tb.1]; exact nI_le (Nat.le_refl _) (by omega)) z)
theorem m_hasName (m : HM h y ad) (tb : TB h y ad T) : EvI g P 114 [va_rf (some (y 12)), .int x1, .int x2] h (fun h' r => h' = h ∧ r = if T.any (fun s => decide (lLg s = x1) && decide (nI (lNm s) = x2)) = true then 1 else 0) := by
  have l6 := tb.2.1
  refine e_114 (s_114_0 ?_)
  have lp := find_loop T (fun s => decide (lLg s = x1) && decide (nI (lNm s) = x2)) (fun s => Ev g P 114 2 [some (va_rf (some (y 12))), some (.int x1), some (.int x2), some (.int (nI s))] [] h (fun h' r => ∃ x, r = some (.int x) ∧ h' = h ∧ x = if T.any (fun s => decide (lLg s = x1) && decide (nI (lNm s) = x2)) = true then 1 else 0)) (fun _ => T.any (fun s => decide (lLg s = x1) && decide (nI (lNm s) = x2)) = true) ?_ ?_ (fun x hx => List.any_eq_true.mpr ⟨x, List.mem_of_find?_eq_some hx, by have q := List.find?_some hx; exact q⟩) ?_
  · rw [nI_0] at lp; exact lp
  · intro s hs hp hf
    have ei : (nI s).toNatClampNeg = s := nI_clamp (by omega)
    obtain ⟨e24, e25, -, lnm⟩ := (tb.s hs).1
    rw [gD_lt hs] at e24 e25
    have vs : ∀ {a}, hN h a = 6000 → vinD (nI s) (hN h a) := fun e => by rw [e]; exact vin_nI (by omega) (by decide)
    rw [Bool.and_eq_true, decide_eq_true_eq, decide_eq_true_eq] at hp
    refine s_114_2 (k3 := m.1) (kt := fun z => absurd z (by rw [tb.1]; exact nI_ge hs (by omega))) (kf := fun _ => ?_)
    exact s_114_10 (k3 := m.1) (e5 := m.r24) (k6 := m.k24) (i7 := vs m.n24) (kt := fun z => absurd (by rw [ei, e24]; exact hp.1) z) (kf := fun _ => s_114_20 (k3 := m.1) (e5 := m.r25) (k6 := m.k25) (i7 := vs m.n25) (kt := fun z => absurd (by rw [ei, e25]; exact hp.2) z) (kf := fun _ => s_114_30 ⟨_, rfl, rfl, (if_pos hf).symm⟩))
  · intro s hs hp kn
    have ei : (nI s).toNatClampNeg = s := nI_clamp (by omega)
    obtain ⟨e24, e25, -, lnm⟩ := (tb.s hs).1
    rw [gD_lt hs] at e24 e25
    have vs : ∀ {a}, hN h a = 6000 → vinD (nI s) (hN h a) := fun e => by rw [e]; exact vin_nI (by omega) (by decide)
    have np : ¬ (lLg T[s] = x1 ∧ nI (lNm T[s]) = x2) := fun q => by
      rw [Bool.and_eq_false_iff, decide_eq_false_iff_not, decide_eq_false_iff_not] at hp
      exact hp.elim (fun z => z q.1) (fun z => z q.2)
    have go : Ev g P 114 32 [some (va_rf (some (y 12))), some (.int x1), some (.int x2), some (.int (nI s))] [] h (fun h' r => ∃ x, r = some (.int x) ∧ h' = h ∧ x = if T.any (fun s => decide (lLg s = x1) && decide (nI (lNm s) = x2)) = true then 1 else 0) := by
      refine s_114_32 ?_
      rw [nI_1]; exact kn
    refine s_114_2 (k3 := m.1) (kt := fun z => absurd z (by rw [tb.1]; exact nI_ge hs (by omega))) (kf := fun _ => ?_)
    exact s_114_10 (k3 := m.1) (e5 := m.r24) (k6 := m.k24) (i7 := vs m.n24) (kt := fun _ => go) (kf := fun z => s_114_20 (k3 := m.1) (e5 := m.r25) (k6 := m.k25) (i7 := vs m.n25) (kt := fun _ => go) (kf := fun z1 => absurd ⟨by rw [ei, e24] at z; exact z, by rw [ei, e25] at z1; exact z1⟩ np))
  · intro hn
    refine s_114_2 (k3 := m.1) (kt := fun _ => s_114_38 ⟨_, rfl, rfl, ?_⟩) (kf := fun z => absurd (by rw [tb.1]; exact nI_le (Nat.le_refl _) (by omega)) z)
    rw [if_neg]
    intro q
    obtain ⟨x, hx, px⟩ := List.any_eq_true.mp q
    exact absurd px (List.find?_eq_none.mp hn x hx)
theorem m_latest (m : HM h y ad) (tb : TB h y ad T) : EvI g P 115 [va_rf (some (y 12)), .int x1] h (fun h' r => h' = h ∧ r = oI (laT T x1)) := by
  have l6 := tb.2.1
  refine e_115 (s_115_0 ?_)
  have lp := fold_loop (List.range T.length) (laF T x1) (fun s b => (∀ k, b = some k → k < T.length) → Ev g P 115 4 [some (va_rf (some (y 12))), some (.int x1), some (.int (oI b)), some (.int (nI s))] [] h (fun h' r => ∃ x, r = some (.int x) ∧ h' = h ∧ x = oI (laT T x1))) ?_ none ?_
  · rw [nI_0] at lp; exact lp (fun k hk => by cases hk)
  · intro s b hs kn hb
    rw [List.getElem_range] at kn
    rw [List.length_range] at hs
    have ei : (nI s).toNatClampNeg = s := nI_clamp (by omega)
    obtain ⟨e24, e25, e26, lnm⟩ := (tb.s hs).1
    have next : ∀ b', b' = laF T x1 b s → (∀ k, b' = some k → k < T.length) → Ev g P 115 53 [some (va_rf (some (y 12))), some (.int x1), some (.int (oI b')), some (.int (nI s))] [] h (fun h' r => ∃ x, r = some (.int x) ∧ h' = h ∧ x = oI (laT T x1)) := by
      intro b' eb hb'
      refine s_115_53 ?_
      rw [nI_1]
      rw [eb] at hb' ⊢
      exact kn hb'
    have vs : ∀ {a}, hN h a = 6000 → vinD (nI s) (hN h a) := fun e => by rw [e]; exact vin_nI (by omega) (by decide)
    refine s_115_4 (k3 := m.1) (kt := fun z => absurd z (by rw [tb.1]; exact nI_ge hs (by omega))) (kf := fun _ => ?_)
    refine s_115_12 (k3 := m.1) (e5 := m.r24) (k6 := m.k24) (i7 := vs m.n24) (kt := fun z => next b ?_ hb) (kf := fun z => ?_)
    · rw [ei, e24] at z
      unfold laF
      rw [if_pos z]
    · rw [ei, e24] at z
      refine s_115_22 (k3 := m.1) (e5 := m.r26) (k6 := m.k26) (i7 := vs m.n26) (kt := fun z1 => next b ?_ hb) (kf := fun z1 => ?_)
      · rw [ei, e26] at z1
        unfold laF
        rw [if_neg (not_not_intro z), if_pos]
        cases ho : lOp (T.getD s sl0) with
        | false => rfl
        | true => rw [ho] at z1; exact absurd z1 (by decide)
      · rw [ei, e26] at z1
        have z1 : ¬ lOp (T.getD s sl0) = false := fun q => by rw [q] at z1; exact z1 (by decide)
        have here : b = none ∨ (∃ k, b = some k ∧ ¬ lNm (T.getD s sl0) ≤ lNm (T.getD k sl0)) → some s = laF T x1 b s := by
          intro q
          unfold laF
          rw [if_neg (not_not_intro z), if_neg z1]
          rcases q with q | ⟨k, q, q'⟩
          · rw [q]
          · rw [q]
            dsimp only
            rw [if_neg q']
        cases b with
        | none => exact s_115_31 (kt := fun _ => s_115_51 (next (some s) (here (Or.inl rfl)) (fun k hk => by cases hk; exact hs))) (kf := fun q => absurd rfl q)
        | some k =>
          have hk := hb k rfl
          obtain ⟨-, e25k, -, lnk⟩ := (tb.s hk).1
          have ek : (nI k).toNatClampNeg = k := nI_clamp (by omega)
          refine s_115_31 (kt := fun q => absurd q (oI_ne (by omega))) (kf := fun _ => ?_)
          refine s_115_36 (k3 := m.1) (e5 := m.r25) (k6 := m.k25) (i7 := vs m.n25) (i8 := by show vinD (nI k) _; rw [m.n25]; exact vin_nI (by omega) (by decide)) (kt := fun q => next (some k) ?_ hb) (kf := fun q => s_115_51 (next (some s) (here (Or.inr ⟨k, rfl, ?_⟩)) (fun k hk => by cases hk; exact hs)))
          · have q : hA h (ad 25) (nI s).toNatClampNeg ≤ hA h (ad 25) (nI k).toNatClampNeg := q
            rw [ek, ei, e25k, e25] at q
            unfold laF
            rw [if_neg (not_not_intro z), if_neg z1]
            dsimp only
            rw [if_pos ((nI_leI (by omega) (by omega)).mp q)]
          · have q : ¬ hA h (ad 25) (nI s).toNatClampNeg ≤ hA h (ad 25) (nI k).toNatClampNeg := q
            rw [ek, ei, e25k, e25] at q
            exact fun z => q ((nI_leI (by omega) (by omega)).mpr z)
  · rw [List.length_range]
    intro _
    exact s_115_4 (k3 := m.1) (kt := fun _ => s_115_59 ⟨_, rfl, rfl, rfl⟩) (kf := fun z => absurd (by rw [tb.1]; exact nI_le (Nat.le_refl _) (by omega)) z)
end MS
