/-! the model: newSegment -/
def nwI (T : List slT) : Nat := T.findIdx (fun s => decide (lLg s = 99))
def nwT (T : List slT) (s : slT) : List slT := if nwI T < T.length then T.set (nwI T) s else T ++ [s]
def nsMF (st : Nat → Int32) (N rep nm m : Nat) (hs : List (Nat × Nat)) (i : Nat) : List (Nat × Nat) := if rep ≤ hs.length then hs else if st ((rgL N ((7 * nm + 3 * m) % N) 0 N m).getD i 0) = 0 then hs ++ [((rgL N ((7 * nm + 3 * m) % N) 0 N m).getD i 0, 0)] else hs
def nsM (st : Nat → Int32) (N rep nm m n : Nat) : List (Nat × Nat) := (List.range n).foldl (nsMF st N rep nm m) []
theorem nwI_le (T : List slT) : nwI T ≤ T.length := List.findIdx_le_length
theorem nwT_len (T : List slT) (s : slT) : nwI T < (nwT T s).length ∧ (nwT T s).getD (nwI T) sl0 = s := by
  unfold nwT
  split
  · rename_i q
    exact ⟨by rw [List.length_set]; exact q, gS q⟩
  · rename_i q
    have e : nwI T = T.length := by have := nwI_le T; omega
    rw [e]
    exact ⟨by rw [List.length_append]; exact Nat.lt_succ_self _, gD_app⟩
theorem nwT_set (T : List slT) (s s' : slT) : (nwT T s).set (nwI T) s' = nwT T s' := by
  unfold nwT
  split
  · rw [List.set_set]
  · rename_i q
    have e : nwI T = T.length := by have := nwI_le T; omega
    rw [e, List.set_append_right _ _ (Nat.le_refl _), Nat.sub_self]; rfl
theorem nwT_oth (T : List slT) (s : slT) {q : Nat} (hq : q < (nwT T s).length) (n : ¬ q = nwI T) : q < T.length ∧ (nwT T s).getD q sl0 = T.getD q sl0 := by
  unfold nwT at hq ⊢
  split at hq
  · rename_i z
    rw [List.length_set] at hq
    rw [if_pos z]
    exact ⟨hq, gN n⟩
  · rename_i z
    have e : nwI T = T.length := by have := nwI_le T; omega
    rw [List.length_append] at hq
    have hq : q < T.length + 1 := hq
    have hq' : q < T.length := by omega
    rw [if_neg z]
    exact ⟨hq', by rw [List.getD_eq_getElem?_getD, List.getElem?_append_left hq', ← List.getD_eq_getElem?_getD]⟩
theorem rgL_len {N b m : Nat} (hN : 0 < N) (hm : m < N) : ∀ k d, (rgL N b k d m).length ≤ d ∧ ∀ x ∈ rgL N b k d m, x < N ∧ ¬ x = m := by
  intro k d
  induction d generalizing k with
  | zero => exact ⟨Nat.le_refl _, fun x hx => by cases hx⟩
  | succ d ih =>
    rw [rgL]
    obtain ⟨a, b'⟩ := ih (k + 1)
    split
    · exact ⟨by omega, b'⟩
    · rename_i q
      refine ⟨by rw [List.length_cons]; omega, fun x hx => ?_⟩
      rcases List.mem_cons.mp hx with z | z
      · rw [z]; exact ⟨Nat.mod_lt _ hN, q⟩
      · exact b' x z
theorem rgL_full : ∀ N, N < 9 → 4 ≤ N → ∀ b, b < N → ∀ m, m < N → (rgL N b 0 N m).length = N - 1 := by decide +kernel
section MN
variable {g : gcT} {P : pmT} {h h' h1 : hpT} {y ad : Nat → Nat} {T : List slT} {s s' : slT} {i j k n N rep nm m e f c v : Nat} {x1 x2 x3 x4 : Int32} {A : Nat → Nat → Prop} {I : Nat → Prop} {en : enT} {b : Bool}
theorem MF.wf (m : HM h y ad) (w : hWF h) {f : Nat} (hf : f = 832 + k) (v : Int32) : MF y ad (fun _ _ => False) (fun k' => k' = k) h (hpI h f (y 12) v) := by
  subst hf; exact MF.wI m w v
theorem nsM_1 {st : Nat → Int32} : nsM st N rep nm m (n + 1) = nsMF st N rep nm m (nsM st N rep nm m n) n := by
  unfold nsM
  rw [List.range_succ, List.foldl_append]; rfl
theorem nsM_full {st : Nat → Int32} (hf : rep ≤ (nsM st N rep nm m n).length) : ∀ d, nsM st N rep nm m (n + d) = nsM st N rep nm m n := by
  intro d
  induction d with
  | zero => rfl
  | succ d ih =>
    rw [← Nat.add_assoc, nsM_1, ih]
    unfold nsMF
    rw [if_pos hf]
theorem nsM_len {st : Nat → Int32} : ∀ n, (nsM st N rep nm m n).length ≤ rep ∨ (nsM st N rep nm m n).length = 0 := by
  intro n
  induction n with
  | zero => exact Or.inr rfl
  | succ n ih =>
    rw [nsM_1]
    unfold nsMF
    split
    · exact ih
    · rename_i q
      split
      · rw [List.length_append]
        exact Or.inl (by show _ + 1 ≤ rep; omega)
      · exact ih
/-- from the loop over the RING on -/
theorem news_2 (hm : HM h y ad) (w : hWF h) (tb : TB h y ad (nwT T (nI m, nm, b, [], []))) (eN : hI h 832 (y 12) = nI N) (eR : hI h 833 (y 12) = nI rep) (h4N : 4 ≤ N) (hN8 : N ≤ 8) (hr : rep ≤ 3) (hm8 : m < N) (hnm : nm ≤ 100000) {xb : Int32} : Ev g P 120 96 [some (va_rf (some (y 12))), some (.int (nI m)), some (.int xb), some (.int (nI (nwI T))), some (.int 0)] [] h (fun h' r => ∃ x, r = some (.int x) ∧ x = nI (nwI T) ∧ MF y ad (fun r i => CSl (nwI T) r i) (fun _ => False) h h' ∧ TB h' y ad (nwT T (nI m, nm, b, [], nsM (hA h (ad 5)) N rep nm m (N - 1)))) := by
  have l6 := tb.2.1
  have hlt := (nwT_len T (nI m, nm, b, [], [])).1
  have ei : (nI (nwI T)).toNatClampNeg = nwI T := nI_clamp (by omega)
  have hb := Nat.mod_lt (7 * nm + 3 * m) (show 0 < N by omega)
  have rl := rgL_full N (by omega) h4N _ hb m hm8
  have rb := (rgL_len (N := N) (b := (7 * nm + 3 * m) % N) (by omega) hm8 0 N).2
  have eN1 : nI N - 1 = nI (N - 1) := by
    have := nI_pred (N - 1)
    rw [show N - 1 + 1 = N by omega] at this
    exact this
  have lp := cnt_loop (N - 1) (fun i h1 => MF y ad (fun r i => CSl (nwI T) r i) (fun _ => False) h h1 ∧ TB h1 y ad (nwT T (nI m, nm, b, [], nsM (hA h (ad 5)) N rep nm m i))) (fun i h1 => Ev g P 120 96 [some (va_rf (some (y 12))), some (.int (nI m)), some (.int xb), some (.int (nI (nwI T))), some (.int (nI i))] [] h1 (fun h' r => ∃ x, r = some (.int x) ∧ x = nI (nwI T) ∧ MF y ad (fun r i => CSl (nwI T) r i) (fun _ => False) h h' ∧ TB h' y ad (nwT T (nI m, nm, b, [], nsM (hA h (ad 5)) N rep nm m (N - 1))))) ?_ ?_ h ⟨MF.rf w, tb⟩
  · rw [nI_0] at lp; exact lp
  · intro i h1 hi ⟨x, tb1⟩ kn
    have m1 := hm.mf x
    have w1 := x.1.2.2.2
    have eN' : hI h1 832 (y 12) = nI N := by rw [show (832 : Nat) = 832 + 0 from rfl, x.i (fun q => q)]; exact eN
    have eR' : hI h1 833 (y 12) = nI rep := by rw [show (833 : Nat) = 832 + 1 from rfl, x.i (fun q => q)]; exact eR
    have e5 : ∀ v, hA h1 (ad 5) v = hA h (ad 5) v := fun v => MF.a hm x (by decide) (fun q => by rcases q with ⟨q, -⟩ | ⟨q, -⟩ | ⟨q, -⟩ <;> omega)
    have sl := tb1.s (nwT_len T (nI m, nm, b, [], nsM (hA h (ad 5)) N rep nm m i)).1
    rw [(nwT_len T (nI m, nm, b, [], nsM (hA h (ad 5)) N rep nm m i)).2] at sl
    obtain ⟨⟨-, e25, -⟩, -, e29, l8, -⟩ := sl
    have e25 : hA h1 (ad 25) (nwI T) = nI nm := e25
    have e29 : hA h1 (ad 29) (nwI T) = nI (nsM (hA h (ad 5)) N rep nm m i).length := e29
    have vs : ∀ {a}, hN h1 a = 6000 → vinD (nI (nwI T)) (hN h1 a) := fun e => by rw [e]; exact vin_nI (by omega) (by decide)
    have ln := nsM_len (st := hA h (ad 5)) (N := N) (rep := rep) (nm := nm) (m := m) i
    refine s_120_96 (k3 := m1.1) (kt := fun z => absurd z (by rw [eN', eN1]; exact nI_ge hi (by omega))) (kf := fun _ => ?_)
    refine s_120_107 (k3 := m1.1) (e5 := m1.r29) (k6 := m1.k29) (i7 := vs m1.n29) (kt := fun z => s_120_164 ⟨_, rfl, rfl, x, ?_⟩) (kf := fun z => ?_)
    · rw [ei, eR', e29] at z
      have hf := (nI_leI (by omega) (by omega)).mp z
      have := nsM_full (st := hA h (ad 5)) hf (N - 1 - i)
      rw [show i + (N - 1 - i) = N - 1 by omega] at this
      rw [this]; exact tb1
    · rw [ei, eR', e29] at z
      have hf : ¬ rep ≤ (nsM (hA h (ad 5)) N rep nm m i).length := fun q => z (nI_le q (by omega))
      have hil : i < (rgL N ((7 * nm + 3 * m) % N) 0 N m).length := by rw [rl]; exact hi
      have hrg := m_ring (g := g) (P := P) (nm := nm) (m := m) (l := i) m1 eN' (by omega) hN8 hnm (by omega) hil (by omega)
      have hrb := rb _ (by rw [gD_lt hil]; exact List.getElem_mem hil : (rgL N ((7 * nm + 3 * m) % N) 0 N m).getD i 0 ∈ _)
      have e1 : nsM (hA h (ad 5)) N rep nm m (i + 1) = if hA h (ad 5) ((rgL N ((7 * nm + 3 * m) % N) 0 N m).getD i 0) = 0 then nsM (hA h (ad 5)) N rep nm m i ++ [((rgL N ((7 * nm + 3 * m) % N) 0 N m).getD i 0, 0)] else nsM (hA h (ad 5)) N rep nm m i := by
        rw [nsM_1]; unfold nsMF; rw [if_neg hf]
      generalize (rgL N ((7 * nm + 3 * m) % N) 0 N m).getD i 0 = v at hrg hrb e1
      have ec25 : hA h1 (ad 25) (nI (nwI T)).toNatClampNeg = nI nm := by rw [ei]; exact e25
      rw [← ec25] at hrg
      refine s_120_120 (k3 := m1.1) (e5 := m1.r25) (k6 := m1.k25) (i7 := vs m1.n25) (hc := hrg) (kk := fun h2 x' ⟨q1, q2⟩ => ?_)
      subst q1; subst q2
      refine s_120_134 (e2 := rfl) (k3 := m1.1) (hc := m_isUpM m1 (i := v) (by omega)) (kk := fun h3 x' ⟨q1, q2⟩ => ?_)
      subst q1; subst q2
      by_cases q : hA h3 (ad 5) v = 0
      · rw [if_pos q]
        rw [e5] at q
        rw [if_pos q] at e1
        refine s_120_137 (kt := fun z => absurd z (by decide)) (kf := fun _ => ?_)
        refine s_120_140 (k3 := m1.1) (e5 := m1.r25) (k6 := m1.k25) (i7 := vs m1.n25) (hc := hrg) (kk := fun h4 x' ⟨q1, q2⟩ => ?_)
        subst q1; subst q2
        have had := m_addHolder' (g := g) (P := P) (v := v) m1 w1 tb1 (nwT_len T (nI m, nm, b, [], nsM (hA h (ad 5)) N rep nm m i)).1 (by rw [(nwT_len T _).2]; show (nsM (hA h (ad 5)) N rep nm m i).length < 8; omega) (by omega)
        refine s_120_155 (e2 := rfl) (k3 := m1.1) (hc := had) (kk := fun h5 ⟨x5, tb5⟩ => s_120_158 ?_)
        rw [nI_1]
        refine kn h5 ⟨x.join (x5.mono (fun r i q => ?_) (fun r q => q)), ?_⟩
        · rcases q with q | q
          · exact Or.inl ⟨Or.inr (Or.inr (Or.inr (Or.inr q.1))), q.2⟩
          · exact Or.inr (Or.inr q)
        · rw [(nwT_len T _).2, nwT_set] at tb5
          rw [e1]
          exact tb5
      · rw [if_neg q]
        rw [e5] at q
        rw [if_neg q] at e1
        refine s_120_137 (kt := fun _ => s_120_158 ?_) (kf := fun z => absurd rfl z)
        rw [nI_1]
        exact kn h3 ⟨x, by rw [e1]; exact tb1⟩
  · intro h1 ⟨x, tb1⟩
    have m1 := hm.mf x
    have eN' : hI h1 832 (y 12) = nI N := by rw [show (832 : Nat) = 832 + 0 from rfl, x.i (fun q => q)]; exact eN
    exact s_120_96 (k3 := m1.1) (kt := fun _ => s_120_164 ⟨_, rfl, rfl, x, tb1⟩) (kf := fun z => absurd (by rw [eN', eN1]; exact nI_le (Nat.le_refl _) (by omega)) z)
theorem m_newSeg (hm : HM h y ad) (w : hWF h) (tb : TB h y ad T) (eN : hI h 832 (y 12) = nI N) (eR : hI h 833 (y 12) = nI rep) (eO : hI h 848 (y 12) = nI nm) (h4N : 4 ≤ N) (hN8 : N ≤ 8) (hr : rep ≤ 3) (hm8 : m < N) (hnm : nm ≤ 100000) (h6 : nwI T < 6000) {xb : Int32} (hb : xb = if b = true then 1 else 0) : EvI g P 120 [va_rf (some (y 12)), .int (nI m), .int xb] h (fun h' r => r = nI (nwI T) ∧ MF y ad (fun r i => CSl (nwI T) r i) (fun k => k = 23 ∨ k = 16) h h' ∧ hI h' 848 (y 12) = nI (nm + 1) ∧ TB h' y ad (nwT T (nI m, nm, b, [], nsM (hA h (ad 5)) N rep nm m (N - 1)))) := by
  have l6 := tb.2.1
  have hle := nwI_le T
  refine e_120 (s_120_0 ?_)
  -- from 45 on, at the place g
  have go : ∀ h1, MF y ad (fun _ _ => False) (fun k => k = 23) h h1 → hI h1 855 (y 12) = nI (nwT T sl0).length → Ev g P 120 45 [some (va_rf (some (y 12))), some (.int (nI m)), some (.int xb), some (.int (nI (nwI T))), none] [] h1 (fun h' r => ∃ x, r = some (.int x) ∧ x = nI (nwI T) ∧ MF y ad (fun r i => CSl (nwI T) r i) (fun k => k = 23 ∨ k = 16) h h' ∧ hI h' 848 (y 12) = nI (nm + 1) ∧ TB h' y ad (nwT T (nI m, nm, b, [], nsM (hA h (ad 5)) N rep nm m (N - 1)))) := by
    intro h1 x1 e855
    have m1 := hm.mf x1
    have w1 := x1.1.2.2.2
    have ei : (nI (nwI T)).toNatClampNeg = nwI T := nI_clamp (by omega)
    have vs : ∀ {h : hpT} {a}, hN h a = 6000 → vinD (nI (nwI T)) (hN h a) := fun e => by rw [e]; exact vin_nI h6 (by decide)
    have e848 : hI h1 848 (y 12) = nI nm := by rw [show (848 : Nat) = 832 + 16 from rfl, x1.i (by decide)]; exact eO
    refine s_120_45 (k3 := m1.1) (e5 := m1.r24) (k6 := m1.k24) (i7 := vs m1.n24) (e9 := m1.r25) (k10 := m1.k25) (i11 := vs m1.n25) (e13 := m1.r26) (k14 := m1.k26) (i15 := vs m1.n26) (b16 := by rw [hb]; split; exact Or.inr rfl; exact Or.inl rfl) (kk := ?_)
    rw [ei, e848]
    have x2 := MF.wA m1 w1 (k := 24) (i := nwI T) (by decide) (nI m)
    have r2 : ∀ r i, aKM r = true → hA (hpA h1 (ad 24) (nwI T) (nI m)) (ad r) i = if r = 24 ∧ i = nwI T then nI m else hA h1 (ad r) i := fun r i hr => m1.rA (by decide) hr
    generalize hpA h1 (ad 24) (nwI T) (nI m) = H2 at x2 r2 ⊢
    have m2 := m1.mf x2
    have x3 := MF.wA m2 x2.1.2.2.2 (k := 25) (i := nwI T) (by decide) (nI nm)
    have r3 : ∀ r i, aKM r = true → hA (hpA H2 (ad 25) (nwI T) (nI nm)) (ad r) i = if r = 25 ∧ i = nwI T then nI nm else hA H2 (ad r) i := fun r i hr => m2.rA (by decide) hr
    generalize hpA H2 (ad 25) (nwI T) (nI nm) = H3 at x3 r3 ⊢
    have m3 := m2.mf x3
    have x4 := MF.wA m3 x3.1.2.2.2 (k := 26) (i := nwI T) (by decide) xb
    have r4 : ∀ r i, aKM r = true → hA (hpA H3 (ad 26) (nwI T) xb) (ad r) i = if r = 26 ∧ i = nwI T then xb else hA H3 (ad r) i := fun r i hr => m3.rA (by decide) hr
    generalize hpA H3 (ad 26) (nwI T) xb = H4 at x4 r4 ⊢
    have m4 := m3.mf x4
    refine s_120_69 (k3 := m4.1) (e5 := m4.r27) (k6 := m4.k27) (i7 := vs m4.n27) (e9 := m4.r29) (k10 := m4.k29) (i11 := vs m4.n29) (kk := s_120_93 ?_)
    rw [ei]
    have x14 := ((x1.tr x2).tr x3).tr x4
    have e848' : hI H4 848 (y 12) = nI nm := by rw [show (848 : Nat) = 832 + 16 from rfl, x14.i (by decide)]; exact eO
    rw [e848', nI_1]
    have x5 := MF.wA m4 x4.1.2.2.2 (k := 27) (i := nwI T) (by decide) 0
    have r5 : ∀ r i, aKM r = true → hA (hpA H4 (ad 27) (nwI T) 0) (ad r) i = if r = 27 ∧ i = nwI T then 0 else hA H4 (ad r) i := fun r i hr => m4.rA (by decide) hr
    generalize hpA H4 (ad 27) (nwI T) 0 = H5 at x5 r5 ⊢
    have m5 := m4.mf x5
    have x6 := MF.wA m5 x5.1.2.2.2 (k := 29) (i := nwI T) (by decide) 0
    have r6 : ∀ r i, aKM r = true → hA (hpA H5 (ad 29) (nwI T) 0) (ad r) i = if r = 29 ∧ i = nwI T then 0 else hA H5 (ad r) i := fun r i hr => m5.rA (by decide) hr
    generalize hpA H5 (ad 29) (nwI T) 0 = H6 at x6 r6 ⊢
    have m6 := m5.mf x6
    have x7 := MF.wf m6 x6.1.2.2.2 (k := 16) (f := 848) rfl (nI (nm + 1))
    have r7 : ∀ r i, hA (hpI H6 848 (y 12) (nI (nm + 1))) (ad r) i = hA H6 (ad r) i := fun _ _ => by rw [rA_I]
    have i7 : hI (hpI H6 848 (y 12) (nI (nm + 1))) 848 (y 12) = nI (nm + 1) := by rw [rI_I, if_pos ⟨rfl, rfl⟩]
    generalize hpI H6 848 (y 12) (nI (nm + 1)) = H7 at x7 r7 i7 ⊢
    have m7 := m6.mf x7
    have xt : MF y ad (fun r i => CSl (nwI T) r i) (fun k => k = 23 ∨ k = 16) h H7 := (((x14.tr x5).tr x6).tr x7).mono (fun r i q => by
      rcases q with (((((q | q) | q) | q) | q) | q) | q
      · exact q.elim
      · exact Or.inl ⟨Or.inl q.1, q.2⟩
      · exact Or.inl ⟨Or.inr (Or.inl q.1), q.2⟩
      · exact Or.inl ⟨Or.inr (Or.inr (Or.inl q.1)), q.2⟩
      · exact Or.inl ⟨Or.inr (Or.inr (Or.inr (Or.inl q.1))), q.2⟩
      · exact Or.inl ⟨Or.inr (Or.inr (Or.inr (Or.inr q.1))), q.2⟩
      · exact q.elim) (fun r q => by
      rcases q with (((((q | q) | q) | q) | q) | q) | q
      · exact Or.inl q
      all_goals first | exact q.elim | exact Or.inr q)
    have len : ∀ s, (nwT T s).length = (nwT T sl0).length := fun s => by
      unfold nwT
      split
      · rw [List.length_set, List.length_set]
      · rw [List.length_append, List.length_append]; rfl
    have l60 : (nwT T sl0).length ≤ 6000 := by
      unfold nwT
      split
      · rw [List.length_set]; exact l6
      · rw [List.length_append]; show T.length + 1 ≤ 6000; omega
    have tb7 : TB H7 y ad (nwT T (nI m, nm, b, [], [])) := by
      refine ⟨?_, by rw [len]; exact l60, fun q hq => ?_⟩
      · have xx := (((((x2.tr x3).tr x4).tr x5).tr x6).tr x7)
        rw [len, show (855 : Nat) = 832 + 23 from rfl, xx.i (by decide)]
        exact e855
      · by_cases eq : q = nwI T
        · rw [eq, (nwT_len T _).2]
          refine ⟨⟨?_, ?_, ?_, hnm⟩, ⟨?_, Nat.zero_le _, fun e he => absurd he (Nat.not_lt_zero _)⟩, ?_, Nat.zero_le _, fun e he => absurd he (Nat.not_lt_zero _)⟩
          · rw [r7, r6 _ _ (by decide), if_neg (fun z => absurd z.1 (by decide)), r5 _ _ (by decide), if_neg (fun z => absurd z.1 (by decide)), r4 _ _ (by decide), if_neg (fun z => absurd z.1 (by decide)), r3 _ _ (by decide), if_neg (fun z => absurd z.1 (by decide)), r2 _ _ (by decide), if_pos ⟨rfl, rfl⟩]; rfl
          · rw [r7, r6 _ _ (by decide), if_neg (fun z => absurd z.1 (by decide)), r5 _ _ (by decide), if_neg (fun z => absurd z.1 (by decide)), r4 _ _ (by decide), if_neg (fun z => absurd z.1 (by decide)), r3 _ _ (by decide), if_pos ⟨rfl, rfl⟩]; rfl
          · rw [r7, r6 _ _ (by decide), if_neg (fun z => absurd z.1 (by decide)), r5 _ _ (by decide), if_neg (fun z => absurd z.1 (by decide)), r4 _ _ (by decide), if_pos ⟨rfl, rfl⟩]; exact hb
          · rw [r7, r6 _ _ (by decide), if_neg (fun z => absurd z.1 (by decide)), r5 _ _ (by decide), if_pos ⟨rfl, rfl⟩]; rfl
          · rw [r7, r6 _ _ (by decide), if_pos ⟨rfl, rfl⟩]; rfl
        · obtain ⟨q1, q2⟩ := nwT_oth T _ hq eq
          rw [q2]
          refine (tb.s q1).fr (fun r i z => MF.a hm xt (CSl_a z) (fun a => eq ?_))
          rcases z with ⟨z, z'⟩ | ⟨z, z'⟩ | ⟨z, z'⟩ <;> rcases a with ⟨a, a'⟩ | ⟨a, a'⟩ | ⟨a, a'⟩ <;> omega
    have eN7 : hI H7 832 (y 12) = nI N := by rw [show (832 : Nat) = 832 + 0 from rfl, xt.i (by decide)]; exact eN
    have eR7 : hI H7 833 (y 12) = nI rep := by rw [show (833 : Nat) = 832 + 1 from rfl, xt.i (by decide)]; exact eR
    have e5 : hA H7 (ad 5) = hA h (ad 5) := by
      funext v
      exact MF.a hm xt (by decide) (fun q => by rcases q with ⟨q, -⟩ | ⟨q, -⟩ | ⟨q, -⟩ <;> omega)
    refine Ev.imp (news_2 (g := g) (P := P) (xb := xb) m7 xt.1.2.2.2 tb7 eN7 eR7 h4N hN8 hr hm8 hnm) (fun h' r ⟨x, q1, q2, q3, q4⟩ => ⟨x, q1, q2, (xt.tr q3).mono (fun r i q => q.elim id id) (fun r q => q.elim id (fun q => q.elim)), ?_, by rw [e5] at q4; exact q4⟩)
    rw [show (848 : Nat) = 832 + 16 from rfl, q3.i (fun q => q)]; exact i7
  -- the search
  have lp := find_loop T (fun s => decide (lLg s = 99)) (fun s => (T.findIdx (fun s => decide (lLg s = 99)) = nwI T) ∧ (s ≤ nwI T → Ev g P 120 2 [some (va_rf (some (y 12))), some (.int (nI m)), some (.int xb), some (.int (nI s)), none] [] h (fun h' r => ∃ x, r = some (.int x) ∧ x = nI (nwI T) ∧ MF y ad (fun r i => CSl (nwI T) r i) (fun k => k = 23 ∨ k = 16) h h' ∧ hI h' 848 (y 12) = nI (nm + 1) ∧ TB h' y ad (nwT T (nI m, nm, b, [], nsM (hA h (ad 5)) N rep nm m (N - 1)))))) (fun _ => True) ?_ ?_ (fun _ _ => trivial) ?_
  · have := lp.2 (Nat.zero_le _)
    rw [nI_0] at this
    exact this
  · intro s hs hp _
    refine ⟨rfl, fun hle' => ?_⟩
    have es : s = nwI T := by
      have : nwI T ≤ s := by
        rcases Nat.lt_or_ge s (nwI T) with q | q
        · exact absurd hp (by have := List.not_of_lt_findIdx (p := fun s => decide (lLg s = 99)) q; simp [this])
        · exact q
      omega
    have ei : (nI s).toNatClampNeg = s := nI_clamp (by omega)
    have e24 := (tb.s hs).1.1
    rw [gD_lt hs] at e24
    refine s_120_2 (k3 := hm.1) (kt := fun z => absurd z (by rw [tb.1]; exact nI_ge hs (by omega))) (kf := fun _ => ?_)
    refine s_120_10 (k3 := hm.1) (e5 := hm.r24) (k6 := hm.k24) (i7 := by rw [hm.n24]; exact vin_nI (by omega) (by decide)) (kt := fun _ => ?_) (kf := fun z => absurd (by rw [ei, e24]; exact of_decide_eq_true hp) z)
    refine s_120_27 (k3 := hm.1) (kt := fun _ => ?_) (kf := fun z => absurd (by rw [tb.1] at z; exact nI_inj (by omega) (by omega) z) (by omega))
    rw [es]
    refine go h (MF.rf w) ?_
    unfold nwT
    rw [if_pos (by omega), List.length_set]
    exact tb.1
  · intro s hs hp kn
    refine ⟨rfl, fun hle' => ?_⟩
    have ei : (nI s).toNatClampNeg = s := nI_clamp (by omega)
    have e24 := (tb.s hs).1.1
    rw [gD_lt hs] at e24
    have hlt : s + 1 ≤ nwI T := by
      rcases Nat.lt_or_ge s (nwI T) with q | q
      · exact q
      · have e : s = nwI T := by omega
        have hw : T.findIdx (fun s => decide (lLg s = 99)) < T.length := by show nwI T < T.length; omega
        have := List.findIdx_getElem (w := hw)
        have e' : T.findIdx (fun s => decide (lLg s = 99)) = s := e.symm
        simp only [e'] at this
        rw [hp] at this
        cases this
    refine s_120_2 (k3 := hm.1) (kt := fun z => absurd z (by rw [tb.1]; exact nI_ge hs (by omega))) (kf := fun _ => ?_)
    refine s_120_10 (k3 := hm.1) (e5 := hm.r24) (k6 := hm.k24) (i7 := by rw [hm.n24]; exact vin_nI (by omega) (by decide)) (kt := fun z => absurd (by rw [ei, e24] at z; exact z) (of_decide_eq_false hp)) (kf := fun _ => s_120_21 ?_)
    rw [nI_1]; exact kn.2 hlt
  · intro hn
    refine ⟨rfl, fun hle' => ?_⟩
    have es : nwI T = T.length := by omega
    refine s_120_2 (k3 := hm.1) (kt := fun _ => ?_) (kf := fun z => absurd (by rw [tb.1]; exact nI_le (Nat.le_refl _) (by omega)) z)
    refine s_120_27 (k3 := hm.1) (kt := fun z => absurd (by rw [tb.1]) z) (kf := fun _ => s_120_35 (k3 := hm.1) (kk := ?_))
    rw [tb.1, nI_1, ← es]
    have x0 := MF.wf hm w (k := 23) (f := 855) rfl (nI (nwI T + 1))
    refine go _ x0 ?_
    rw [rI_I, if_pos ⟨rfl, rfl⟩]
    unfold nwT
    rw [if_neg (by omega), List.length_append, es]; rfl
end MN
