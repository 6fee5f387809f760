/-! the model: loses, goesDown, forgets -/
def MG (y ad : Nat → Nat) (h h' : hpT) : Prop := MF y ad (fun _ _ => True) (fun _ => True) h h'
section ML
variable {g : gcT} {P : pmT} {h h' h1 h2 : hpT} {y ad : Nat → Nat} {T T' : List slT} {i j k nm m e f c v : Nat} {x x1 x2 x3 x4 x5 x6 : Int32} {A : Nat → Nat → Prop} {I : Nat → Prop} {μ : mT} {Q : hpT → Option Value → Prop}
theorem MF.gl (x : MF y ad A I h h') : MG y ad h h' := x.mono (fun _ _ _ => trivial) (fun _ _ => trivial)
theorem MG.jn (x : MG y ad h h1) (z : MG y ad h1 h2) : MG y ad h h2 := MF.join x z
theorem MW.gA (mw : MW h y ad μ) (q : smR e = true) : MG y ad h (hpA h (ad e) i x) := (MF.wA mw.1 mw.2.1 (smR_a q).1 x).gl
theorem MW.gN (mw : MW h y ad μ) {f : Nat} (e : f = 832 + k) : MG y ad h (hpI h f (y 12) x) := (MF.wf mw.1 mw.2.1 e x).gl
theorem ix8M (m j : Nat) : (8 : Int32) * nI m + nI j = nI (8 * m + j) := by
  rw [show (8 : Int32) = nI 8 from rfl, pk_mul, nI_add]
theorem m_loses {n8 : Nat} (h8 : n8 = 8) (mw : MW h y ad μ) (hm8 : m < 8) : EvV g P 137 [va_rf (some (y 12)), .int (nI m)] h (fun h' => MG y ad h h' ∧ MW h' y ad (losM μ m)) := by
  have e8 : (8 : Int32) = nI n8 := by rw [h8]; rfl
  have em : (nI m).toNatClampNeg = m := nI_clamp (by omega)
  refine e_137 (s_137_0 ?_)
  have lp := cnt_loop n8 (fun j h1 => MG y ad h h1 ∧ MW h1 y ad (los0 μ m j)) (fun j h1 => Ev g P 137 2 [some (va_rf (some (y 12))), some (.int (nI m)), some (.int (nI j))] [] h1 (fun h' r => r = none ∧ MG y ad h h' ∧ MW h' y ad (losM μ m))) ?_ ?_ h ⟨MF.rf mw.2.1, ?_⟩
  · rw [nI_0] at lp; exact lp
  · intro j h1 hj ⟨xa, mw1⟩ kn
    have hlt : 8 * m + j < 64 := by omega
    refine s_137_2 (kt := fun z => absurd z (by rw [e8]; exact nI_ge hj (by omega))) (kf := fun _ => s_137_8 (k3 := mw1.1.1) (e5 := mw1.1.r7) (k6 := mw1.1.k7) (i7 := by rw [ix8M, mw1.1.n7]; exact vin_nI hlt (by decide)) (kk := ?_))
    rw [ix8M, nI_clamp (by omega), nI_1]
    refine kn _ ⟨xa.jn (mw1.gA rfl), ?_⟩
    have := mw1.wA (r := 7) (i := 8 * m + j) (x := 0) rfl
    have e : uR (los0 μ m j) 7 (8 * m + j) 0 = los0 μ m (j + 1) := by
      refine congrArg (fun ρ => (μ.1, ρ, μ.2.2)) (funext fun r => funext fun i => ?_)
      show (if r = 7 ∧ i = 8 * m + j then 0 else if r = 7 ∧ 8 * m ≤ i ∧ i < 8 * m + j then 0 else μ.2.1 r i) = if r = 7 ∧ 8 * m ≤ i ∧ i < 8 * m + (j + 1) then 0 else μ.2.1 r i
      by_cases q : r = 7 ∧ 8 * m ≤ i ∧ i < 8 * m + (j + 1)
      · rw [if_pos q]
        by_cases q1 : r = 7 ∧ i = 8 * m + j
        · rw [if_pos q1]
        · rw [if_neg q1, if_pos ⟨q.1, q.2.1, by have := q.1; omega⟩]
      · rw [if_neg q, if_neg (fun z => q ⟨z.1, by omega, by omega⟩), if_neg (fun z => q ⟨z.1, by omega, by omega⟩)]
    rw [e] at this
    exact this
  · intro h1 ⟨xa, mw1⟩
    have v8 : ∀ {h : hpT} {a}, hN h a = 8 → vinD (nI m) (hN h a) := fun e => by rw [e]; exact vin_nI hm8 (by decide)
    refine s_137_2 (kt := fun _ => ?_) (kf := fun z => absurd (by rw [e8]; exact nI_le (Nat.le_refl _) (by omega)) z)
    subst h8
    refine s_137_26 (k3 := mw1.1.1) (e5 := mw1.1.r9) (k6 := mw1.1.k9) (i7 := v8 mw1.1.n9) (e9 := mw1.1.r10) (k10 := mw1.1.k10) (i11 := v8 mw1.1.n10) (e13 := mw1.1.r6) (k14 := mw1.1.k6) (i15 := v8 mw1.1.n6) (kk := ?_)
    rw [em]
    have mw2 := mw1.wA (r := 9) (i := m) (x := 0) rfl
    have g2 := mw1.gA (e := 9) (i := m) (x := 0) rfl
    generalize hpA h1 (ad 9) m 0 = H2 at mw2 g2 ⊢
    have mw3 := mw2.wA (r := 10) (i := m) (x := -1) rfl
    have g3 := mw2.gA (e := 10) (i := m) (x := -1) rfl
    generalize hpA H2 (ad 10) m (-1) = H3 at mw3 g3 ⊢
    have mw4 := mw3.wA (r := 6) (i := m) (x := 0) rfl
    have g4 := mw3.gA (e := 6) (i := m) (x := 0) rfl
    generalize hpA H3 (ad 6) m 0 = H4 at mw4 g4 ⊢
    refine s_137_47 (k3 := mw4.1.1) (e5 := mw4.1.r12) (k6 := mw4.1.k12) (i7 := v8 mw4.1.n12) (hq := ?_)
    rw [em]
    exact ⟨rfl, (((xa.jn g2).jn g3).jn g4).jn (mw4.gA rfl), mw4.wA rfl⟩
  · have e : los0 μ m 0 = μ := by
      refine congrArg (fun ρ => (μ.1, ρ, μ.2.2)) (funext fun r => funext fun i => ?_)
      show (if r = 7 ∧ 8 * m ≤ i ∧ i < 8 * m + 0 then 0 else μ.2.1 r i) = _
      rw [if_neg (fun z => by omega)]
    rw [e]; exact mw
def lgE (x v : Int32) (s : slT) : slT := if lLg s = x then (v, s.2) else s
def lgJ (T : List slT) (x v : Int32) (j : Nat) : List slT := (T.take j).map (lgE x v) ++ T.drop j
theorem lgJ_len : (lgJ T x x1 j).length = T.length := by
  unfold lgJ
  rw [List.length_append, List.length_map, List.length_take, List.length_drop]; omega
theorem lgJ_get (hj : j < T.length) : (lgJ T x x1 j).getD j sl0 = T[j] := by
  unfold lgJ
  rw [List.getD_eq_getElem?_getD, List.getElem?_append_right (by rw [List.length_map, List.length_take]; omega), List.length_map, List.length_take, Nat.min_eq_left (by omega), Nat.sub_self, List.getElem?_drop, Nat.add_zero, List.getElem?_eq_getElem hj]; rfl
theorem lgJ_s (hj : j < T.length) : lgJ T x x1 (j + 1) = (lgJ T x x1 j).set j (lgE x x1 T[j]) := by
  unfold lgJ
  rw [List.take_succ_eq_append_getElem hj, List.map_append, List.set_append_right _ _ (by rw [List.length_map, List.length_take]; omega), List.length_map, List.length_take, Nat.min_eq_left (by omega), Nat.sub_self, List.drop_eq_getElem_cons hj, List.append_assoc]; rfl
theorem lgJ_n (hj : j < T.length) (q : ¬ lLg T[j] = x) : lgJ T x x1 (j + 1) = lgJ T x x1 j := by
  unfold lgJ
  rw [List.take_succ_eq_append_getElem hj, List.map_append, List.drop_eq_getElem_cons hj, List.append_assoc]
  show _ ++ ([lgE x x1 T[j]] ++ _) = _
  unfold lgE
  rw [if_neg q]; rfl
theorem lgJ_e : lgJ T x x1 T.length = lgT T x x1 := by
  unfold lgJ
  rw [List.take_length, List.drop_length, List.append_nil]; rfl
theorem MW.lg (mw : MW h y ad μ) (hk : k < μ.1.length) : MW (hpA h (ad 24) k x) y ad (uT μ (μ.1.set k (x, (μ.1.getD k sl0).2))) := by
  have xa := MF.wA mw.1 mw.2.1 (k := 24) (i := k) (by decide) x
  refine mw.st xa (TB.set mw.1 mw.2.2.1 xa (fun r i q a z => ?_) (fun q => q) ?_) (fun r i a => by omega) (fun k a => a.elim)
  · rcases z with ⟨z, z'⟩ | ⟨z, z'⟩ | ⟨z, z'⟩ <;> omega
  · obtain ⟨⟨a1, a2, a3, a4⟩, ⟨b1, b2, b3⟩, c1, c2, c3⟩ := mw.2.2.1.s hk
    have rd : ∀ r i, aKM r = true → ¬ r = 24 → hA (hpA h (ad 24) k x) (ad r) i = hA h (ad r) i := fun r i hr n => by
      rw [mw.1.rA (by decide) hr, if_neg (fun z => n z.1)]
    refine ⟨⟨?_, ?_, ?_, a4⟩, ⟨?_, b2, fun e he f hf => ?_⟩, ?_, c2, fun j hj => ?_⟩
    · rw [mw.1.rA (by decide) (by decide), if_pos ⟨rfl, rfl⟩]; rfl
    · rw [rd _ _ (by decide) (by decide)]; exact a2
    · rw [rd _ _ (by decide) (by decide)]; exact a3
    · rw [rd _ _ (by decide) (by decide)]; exact b1
    · rw [rd _ _ (by decide) (by decide), rd _ _ (by decide) (by decide)]; exact b3 e he f hf
    · rw [rd _ _ (by decide) (by decide)]; exact c1
    · rw [rd _ _ (by decide) (by decide), rd _ _ (by decide) (by decide)]; exact c3 j hj
theorem lg_step (hj : j < μ.1.length) (q : lLg μ.1[j] = x) : uT (uT μ (lgJ μ.1 x x1 j)) ((uT μ (lgJ μ.1 x x1 j)).1.set j (x1, ((uT μ (lgJ μ.1 x x1 j)).1.getD j sl0).2)) = uT μ (lgJ μ.1 x x1 (j + 1)) := by
  show (_, μ.2) = (_, μ.2)
  refine congrArg (fun T => (T, μ.2)) ?_
  show (lgJ μ.1 x x1 j).set j (x1, ((lgJ μ.1 x x1 j).getD j sl0).2) = _
  rw [lgJ_get hj, lgJ_s hj]
  unfold lgE
  rw [if_pos q]
theorem m_forgets (mw : MW h y ad μ) (hm8 : m < 8) : EvV g P 139 [va_rf (some (y 12)), .int (nI m)] h (fun h' => MG y ad h h' ∧ MW h' y ad (fgtM μ m)) := by
  have l6 := mw.2.2.1.2.1
  refine e_139 (s_139_0 ?_)
  have lp := cnt_loop μ.1.length (fun j h1 => MG y ad h h1 ∧ MW h1 y ad (uT μ (lgJ μ.1 (nI m) 99 j))) (fun j h1 => Ev g P 139 2 [some (va_rf (some (y 12))), some (.int (nI m)), some (.int (nI j))] [] h1 (fun h' r => r = none ∧ MG y ad h h' ∧ MW h' y ad (fgtM μ m))) ?_ ?_ h ⟨MF.rf mw.2.1, mw⟩
  · rw [nI_0] at lp; exact lp
  · intro j h1 hj ⟨xa, mw1⟩ kn
    have ej : (nI j).toNatClampNeg = j := nI_clamp (by omega)
    have e23 : hI h1 855 (y 12) = nI μ.1.length := by
      have := mw1.2.2.1.1
      rw [this]
      show nI (lgJ μ.1 (nI m) 99 j).length = _
      rw [lgJ_len]
    have hj' : j < (uT μ (lgJ μ.1 (nI m) 99 j)).1.length := by
      show j < (lgJ μ.1 (nI m) 99 j).length
      rw [lgJ_len]; exact hj
    have e24 : hA h1 (ad 24) j = lLg μ.1[j] := by
      have := (mw1.2.2.1.s hj').1.1
      rw [this]
      show lLg ((lgJ μ.1 (nI m) 99 j).getD j sl0) = _
      rw [lgJ_get hj]
    have v24 : vinD (nI j) (hN h1 (ad 24)) := by rw [mw1.1.n24]; exact vin_nI (by omega) (by decide)
    refine s_139_2 (k3 := mw1.1.1) (kt := fun z => absurd z (by rw [e23]; exact nI_ge hj (by omega))) (kf := fun _ => ?_)
    refine s_139_10 (k3 := mw1.1.1) (e5 := mw1.1.r24) (k6 := mw1.1.k24) (i7 := v24) (kt := fun z => s_139_28 ?_) (kf := fun z => s_139_20 (k3 := mw1.1.1) (e5 := mw1.1.r24) (k6 := mw1.1.k24) (i7 := v24) (kk := s_139_28 ?_))
    · rw [ej, e24] at z
      rw [nI_1]
      exact kn h1 ⟨xa, by rw [lgJ_n hj z]; exact mw1⟩
    · rw [ej, e24] at z
      rw [nI_1, ej]
      have := mw1.lg (x := 99) hj'
      rw [lg_step hj z] at this
      exact kn _ ⟨xa.jn (MF.wA mw1.1 mw1.2.1 (by decide) _).gl, this⟩
  · intro h1 ⟨xa, mw1⟩
    rw [lgJ_e] at mw1
    have e23 : hI h1 855 (y 12) = nI μ.1.length := by
      have := mw1.2.2.1.1
      rw [this]
      show nI (lgT μ.1 (nI m) 99).length = _
      unfold lgT
      rw [List.length_map]
    refine s_139_2 (k3 := mw1.1.1) (kt := fun _ => ?_) (kf := fun z => absurd (by rw [e23]; exact nI_le (Nat.le_refl _) (by omega)) z)
    refine s_139_34 (k3 := mw1.1.1) (hc := m_loses (n8 := 8) rfl mw1 hm8) (kk := fun h2 ⟨xb, mw2⟩ => s_139_39 (k3 := mw2.1.1) (hq := ?_))
    rw [mw2.n 20 (by decide) (by decide) rfl]
    exact ⟨rfl, (xa.jn xb).jn (mw2.gN (k := 20) rfl), mw2.wN (k := 20) rfl (by decide) (by decide)⟩
end ML
