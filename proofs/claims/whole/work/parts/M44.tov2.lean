/-! the model: takesOver, its loops -/
section MV2
variable {g : gcT} {P : pmT} {h h' h1 h2 : hpT} {y ad : Nat → Nat} {T T' : List slT} {i j k nm m e f c t v : Nat} {x x1 x2 x3 x4 x5 x6 xr : Int32} {A : Nat → Nat → Prop} {I : Nat → Prop} {μ : mT} {Q : hpT → Option Value → Prop} {en : enT}
theorem nt_c (c : Nat) (v : Int32) : ∀ f, f < 9 → mPt (ntP c v) f = if f = 0 then 2 else if f = 1 then nI c else if f = 7 then v else 0
  | 0, _ => rfl
  | 1, _ => rfl
  | 2, _ => rfl
  | 3, _ => rfl
  | 4, _ => rfl
  | 5, _ => rfl
  | 6, _ => rfl
  | 7, _ => rfl
  | 8, _ => rfl
  | _ + 9, q => absurd q (by omega)
theorem rfl_s {α : Type} (f : α → Nat → α) (a : α) (j : Nat) : (List.range (j + 1)).foldl f a = f ((List.range j).foldl f a) j := by rw [List.range_succ, List.foldl_append]; rfl
theorem tov_n {n6 : Nat} (h6 : n6 = 6) (hm : m < y 20) (ok : ∀ j, j < 6 → ApK y ((List.range j).foldl (toN y m x) μ) m) (mw : MW h y ad μ) (kk : ∀ h' x5 o6 o7 o8, MG y ad h h' → MW h' y ad ((List.range n6).foldl (toN y m x) μ) → Ev g P 171 131 [some (va_rf (some (y 12))), some (.int (nI m)), some (.int (nI t)), some (.int x), some (.int x4), some (.int x5), o6, o7, o8] [] h' Q) : ∀ o6 o7 o8, Ev g P 171 56 [some (va_rf (some (y 12))), some (.int (nI m)), some (.int (nI t)), some (.int x), some (.int x4), some (.int 0), o6, o7, o8] [] h Q := by
  have e6 : (6 : Int32) = nI n6 := by rw [h6]; rfl
  have lp := cnt_loop n6 (fun j h1 => MG y ad h h1 ∧ MW h1 y ad ((List.range j).foldl (toN y m x) μ)) (fun j h1 => ∀ o6 o7 o8, Ev g P 171 56 [some (va_rf (some (y 12))), some (.int (nI m)), some (.int (nI t)), some (.int x), some (.int x4), some (.int (nI j)), o6, o7, o8] [] h1 Q) ?_ ?_ h ⟨MF.rf mw.2.1, mw⟩
  · rw [nI_0] at lp; exact lp
  · intro j h1 hj ⟨ga, mw1⟩ kn o6 o7 o8
    have aj := ok j (by omega)
    rw [rfl_s] at kn
    generalize (List.range j).foldl (toN y m x) μ = ν at mw1 kn aj
    refine s_171_56 (kt := fun z => absurd z (by rw [e6]; exact nI_ge hj (by omega))) (kf := fun _ => s_171_63 (k3 := mw1.1.1) (hc := m_acM mw1) (kk := fun h2 x' ⟨q1, q2⟩ => ?_))
    subst q1; subst q2
    refine s_171_70 (k3 := mw1.1.1) (hc := m_acM mw1) (kk := fun h2 x' ⟨q1, q2⟩ => ?_)
    subst q1; subst q2
    refine s_171_81 (kt := fun z => ?_) (kf := fun z => s_171_84 (s_171_125 ?_))
    · have nl : ¬ acM ν x (nI j) ≤ acM ν (nI m) (nI j) := Int32.not_le.mpr z
      have eN : toN y m x ν j = (appM y ν m 1 (ntP j (acM ν x (nI j)), none) 8).1 := by unfold toN; rw [if_neg nl]
      refine s_171_87 (k3 := mw1.1.1) (hc := m_blank (n18 := 18) rfl mw1.1 mw1.2.1) (kk := fun h3 ⟨xb, zb⟩ => ?_)
      have mw2 := mw1.sc xb (fun r i a => by omega) (fun k a => a.elim)
      refine s_171_91 (k3 := mw2.1.1) (e5 := mw2.1.r33) (k6 := mw2.1.k33) (i7 := by rw [mw2.1.n33]; exact vin_nI (n := 0) (by decide) (by decide)) (i8 := by rw [mw2.1.n33]; exact vin_nI (n := 1) (by decide) (by decide)) (i9 := by rw [mw2.1.n33]; exact vin_nI (n := 7) (by decide) (by decide)) (kk := ?_)
      rw [show (0 : Int32).toNatClampNeg = 0 from rfl, show (1 : Int32).toNatClampNeg = 1 from rfl, show (7 : Int32).toNatClampNeg = 7 from rfl]
      have wr : ∀ {H : hpT} (i : Nat) (v : Int32), MW H y ad ν → MW (hpA H (ad 33) i v) y ad ν ∧ MG y ad H (hpA H (ad 33) i v) ∧ ∀ r i', aKM r = true → hA (hpA H (ad 33) i v) (ad r) i' = if r = 33 ∧ i' = i then v else hA H (ad r) i' := fun i v w => ⟨w.sc (MF.wA w.1 w.2.1 (k := 33) (by decide) v) (fun r i a => by omega) (fun k a => a.elim), (MF.wA w.1 w.2.1 (k := 33) (by decide) v).gl, fun r i' hr => w.1.rA (by decide) hr⟩
      obtain ⟨mw3, g3, r3⟩ := wr 0 2 mw2
      generalize hpA h3 (ad 33) 0 2 = H3 at mw3 g3 r3 ⊢
      obtain ⟨mw4, g4, r4⟩ := wr 1 (nI j) mw3
      generalize hpA H3 (ad 33) 1 (nI j) = H4 at mw4 g4 r4 ⊢
      obtain ⟨mw5, g5, r5⟩ := wr 7 (acM ν x (nI j)) mw4
      generalize hpA H4 (ad 33) 7 (acM ν x (nI j)) = H5 at mw5 g5 r5 ⊢
      have made : ∀ f, f < 18 → hA H5 (ad 33) f = if f = 0 then 2 else if f = 1 then nI j else if f = 7 then acM ν x (nI j) else 0 := fun f hf => by
        rw [r5 _ _ (by decide)]
        by_cases q7 : f = 7
        · rw [if_pos ⟨rfl, q7⟩, if_neg (by omega), if_neg (by omega), if_pos q7]
        · rw [if_neg (fun a => q7 a.2), r4 _ _ (by decide)]
          by_cases q1 : f = 1
          · rw [if_pos ⟨rfl, q1⟩, if_neg (by omega), if_pos q1]
          · rw [if_neg (fun a => q1 a.2), r3 _ _ (by decide)]
            by_cases q0 : f = 0
            · rw [if_pos ⟨rfl, q0⟩, if_pos q0]
            · rw [if_neg (fun a => q0 a.2), if_neg q0, if_neg q1, if_neg q7]
              exact zb f hf
      have md : MD H5 ad (ntP j (acM ν x (nI j)), none) := fun f hf => ⟨by rw [made f (by omega)]; exact (nt_c _ _ f hf).symm, by rw [made (9 + f) (by omega), if_neg (by omega), if_neg (by omega), if_neg (by omega)]; rfl⟩
      refine s_171_115 (k3 := mw5.1.1) (hc := aj.app hm mw5 md (show ¬ (1 + 1 : Int32) = 0 by decide)) (kk := fun h6 x' ⟨ga6, mw6⟩ => s_171_123 (s_171_125 ?_))
      rw [nI_1]
      exact kn h6 ⟨((((ga.jn xb.gl).jn g3).jn g4).jn g5).jn ga6, by rw [eN]; exact mw6⟩ _ _ _
    · have eN : toN y m x ν j = ν := by unfold toN; rw [if_pos (Int32.not_lt.mp z)]
      rw [nI_1]
      exact kn h2 ⟨ga, by rw [eN]; exact mw1⟩ _ _ _
  · intro h1 ⟨ga, mw1⟩ o6 o7 o8
    exact s_171_56 (kt := fun _ => kk h1 _ _ _ _ ga mw1) (kf := fun z => absurd (by rw [e6]; exact nI_le (Nat.le_refl _) (by omega)) z)
theorem tov_b {n8 : Nat} (h8 : n8 = 8) (hm : m < y 20) (ht : t < 8) (ok : ∀ j, j < 8 → ApK y ((List.range j).foldl (toB y m x t) μ) m) (mw : MW h y ad μ) (kk : ∀ h' x5 o6 o7 o8, MG y ad h h' → MW h' y ad ((List.range n8).foldl (toB y m x t) μ) → Ev g P 171 189 [some (va_rf (some (y 12))), some (.int (nI m)), some (.int (nI t)), some (.int x), some (.int x4), some (.int x5), o6, o7, o8] [] h' Q) : ∀ o6 o7 o8, Ev g P 171 137 [some (va_rf (some (y 12))), some (.int (nI m)), some (.int (nI t)), some (.int x), some (.int x4), some (.int (nI (8 * t))), o6, o7, o8] [] h Q := by
  have e8 : (8 : Int32) * nI t + 8 = nI (8 * t + n8) := by rw [show (8 : Int32) * nI t + 8 = 8 * nI t + nI 8 from rfl, ix8M, h8]
  refine cnt_loop n8 (fun j h1 => MG y ad h h1 ∧ MW h1 y ad ((List.range j).foldl (toB y m x t) μ)) (fun j h1 => ∀ o6 o7 o8, Ev g P 171 137 [some (va_rf (some (y 12))), some (.int (nI m)), some (.int (nI t)), some (.int x), some (.int x4), some (.int (nI (8 * t + j))), o6, o7, o8] [] h1 Q) ?_ ?_ h ⟨MF.rf mw.2.1, mw⟩
  · intro j h1 hj ⟨ga, mw1⟩ kn o6 o7 o8
    have aj := ok j (by omega)
    rw [rfl_s] at kn
    generalize (List.range j).foldl (toB y m x t) μ = ν at mw1 kn aj
    refine s_171_137 (kt := fun z => absurd z (by rw [e8]; exact nI_ge (by omega) (by omega))) (kf := fun _ => s_171_149 (k3 := mw1.1.1) (hc := m_obM mw1) (kk := fun h2 x' ⟨q1, xa, mw2, _⟩ => ?_))
    subst q1
    have vl := obM_v (x := x) (k := nI (8 * t + j)) mw1.2.2.1
    have kd := obM_k (x := x) (k := nI (8 * t + j)) mw1.2.2.1
    have ga2 := ga.jn xa.gl
    cases eo : obM ν x (nI (8 * t + j)) with
    | none =>
      have eB : toB y m x t ν j = ν := by unfold toB; rw [eo]
      refine s_171_156 (kt := fun z => absurd rfl z) (kf := fun _ => s_171_164 (s_171_183 ?_))
      rw [nI_1, Nat.add_assoc]
      exact kn h2 ⟨ga2, by rw [eB]; exact mw2⟩ _ _ _
    | some q =>
      rw [eo] at vl
      have kd := kd q eo
      have nz : ¬ cel ν q 0 = 0 := by rw [kd]; decide
      have eB : toB y m x t ν j = (appM y ν m 1 (ptM ν q, none) 8).1 := by unfold toB; rw [eo]
      have nn : ¬ oPx (some q) = -1 := fun z => by cases (oPx_n mw1.2.2.1 vl).mp z
      refine s_171_156 (kt := fun _ => ?_) (kf := fun z => absurd z nn)
      refine s_171_167 (k3 := mw2.1.1) (hc := ptM_md mw2 vl nz) (kk := fun h3 ⟨xb, md⟩ => ?_)
      have mw3 := mw2.sc xb (fun r i a => by omega) (fun k a => a.elim)
      refine s_171_173 (k3 := mw3.1.1) (hc := aj.app hm mw3 md (by show ¬ mPt (ptM ν q) 0 = 0; rw [ptM_k nz]; exact nz)) (kk := fun h4 x' ⟨gb, mw4⟩ => s_171_181 (s_171_183 ?_))
      rw [nI_1, Nat.add_assoc]
      exact kn h4 ⟨(ga2.jn xb.gl).jn gb, by rw [eB]; exact mw4⟩ _ _ _
  · intro h1 ⟨ga, mw1⟩ o6 o7 o8
    exact s_171_137 (kt := fun _ => kk h1 _ _ _ _ ga mw1) (kf := fun z => absurd (by rw [e8]; exact nI_le (Nat.le_refl _) (by omega)) z)
theorem tov_r {a n n40 : Nat} (h40 : n40 = 40) (hm : m < y 20) (han : n = 41 - a) (ha : a < 2 ^ 31) (ok : ∀ i, i < n → ApK y (((List.range' a n).take i).foldl (toR y m x t c) μ) m) (mw : MW h y ad μ) (kk : ∀ h' x6 o7 o8, MG y ad h h' → MW h' y ad ((List.range' a n).foldl (toR y m x t c) μ) → Ev g P 171 273 [some (va_rf (some (y 12))), some (.int (nI m)), some (.int (nI t)), some (.int x), some (.int x4), some (.int (nI c)), some (.int x6), o7, o8] [] h' Q) : ∀ o7 o8, Ev g P 171 208 [some (va_rf (some (y 12))), some (.int (nI m)), some (.int (nI t)), some (.int x), some (.int x4), some (.int (nI c)), some (.int (nI a)), o7, o8] [] h Q := by
  have e40 : (40 : Int32) = nI n40 := by rw [h40]; rfl
  refine cnt_loop n (fun i h1 => MG y ad h h1 ∧ MW h1 y ad (((List.range' a n).take i).foldl (toR y m x t c) μ)) (fun i h1 => ∀ o7 o8, Ev g P 171 208 [some (va_rf (some (y 12))), some (.int (nI m)), some (.int (nI t)), some (.int x), some (.int x4), some (.int (nI c)), some (.int (nI (a + i))), o7, o8] [] h1 Q) ?_ ?_ h ⟨MF.rf mw.2.1, mw⟩
  · intro i h1 hi ⟨ga, mw1⟩ kn o7 o8
    have ai := ok i hi
    rw [List.take_succ_eq_append_getElem (by rw [List.length_range']; exact hi), List.foldl_append, List.getElem_range', Nat.one_mul] at kn
    simp only [List.foldl_cons, List.foldl_nil] at kn
    generalize ((List.range' a n).take i).foldl (toR y m x t c) μ = ν at mw1 kn ai
    refine s_171_208 (kt := fun z => absurd (nI_le (show a + i ≤ n40 by omega) (by omega)) (by rw [← e40]; exact Int32.not_le.mpr z)) (kf := fun _ => s_171_215 (k3 := mw1.1.1) (hc := m_reM mw1) (kk := fun h2 x' ⟨q1, q2⟩ => ?_))
    subst q1; subst q2
    have vl := reM_v (x := x) (c := nI c) (n := nI (a + i)) mw1.2.2.1
    have kd := reM_k (x := x) (c := nI c) (n := nI (a + i)) mw1.2.2.1
    cases eo : reM ν x (nI c) (nI (a + i)) with
    | none =>
      have eB : toR y m x t c ν (a + i) = ν := by unfold toR; rw [eo]
      refine s_171_224 (kt := fun _ => s_171_267 ?_) (kf := fun z => absurd rfl z)
      rw [nI_1, Nat.add_assoc]
      exact kn h2 ⟨ga, by rw [eB]; exact mw1⟩ _ _
    | some q =>
      rw [eo] at vl
      have kd := kd q eo
      have nz : ¬ cel ν q 0 = 0 := by rw [kd]; decide
      have nn : ¬ oPx (some q) = -1 := fun z => by cases (oPx_n mw1.2.2.1 vl).mp z
      obtain ⟨c1, c2⟩ := cel_at mw1 vl 3 (by decide)
      rw [show nI 3 = (3 : Int32) from rfl] at c1 c2
      refine s_171_224 (kt := fun z => absurd z nn) (kf := fun _ => ?_)
      refine s_171_232 (k3 := mw1.1.1) (e5 := mw1.1.r28) (k6 := mw1.1.k28) (i7 := c1) (kt := fun z => ?_) (kf := fun z => s_171_248 (s_171_267 ?_))
      · rw [c2] at z
        have eB : toR y m x t c ν (a + i) = (appM y ν m 1 (ptM ν q, none) 8).1 := by unfold toR; rw [eo]; exact if_pos z
        refine s_171_251 (k3 := mw1.1.1) (hc := ptM_md mw1 vl nz) (kk := fun h3 ⟨xb, md⟩ => ?_)
        have mw3 := mw1.sc xb (fun r i a => by omega) (fun k a => a.elim)
        refine s_171_257 (k3 := mw3.1.1) (hc := ai.app hm mw3 md (by show ¬ mPt (ptM ν q) 0 = 0; rw [ptM_k nz]; exact nz)) (kk := fun h4 x' ⟨gb, mw4⟩ => s_171_265 (s_171_267 ?_))
        rw [nI_1, Nat.add_assoc]
        exact kn h4 ⟨(ga.jn xb.gl).jn gb, by rw [eB]; exact mw4⟩ _ _
      · rw [c2] at z
        have eB : toR y m x t c ν (a + i) = ν := by unfold toR; rw [eo]; exact if_neg z
        rw [nI_1, Nat.add_assoc]
        exact kn h2 ⟨ga, by rw [eB]; exact mw1⟩ _ _
  · intro h1 ⟨ga, mw1⟩ o7 o8
    rw [List.take_of_length_le (by rw [List.length_range']; exact Nat.le_refl _)] at mw1
    exact s_171_208 (kt := fun _ => kk h1 _ _ _ ga mw1) (kf := fun z => absurd (by rw [e40]; exact nI_lt (show n40 < a + n by omega) (by omega)) z)
end MV2
