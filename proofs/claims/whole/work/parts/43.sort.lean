/-! Storage.sortForCleaning -/
def plc (h : hpT) (xs : List Nat) (s : Nat) : Nat → Nat
  | 0 => 0
  | p + 1 => if hI h 521 (xs.getD p 0) ≤ hI h 521 s then p + 1 else plc h xs s p
theorem plc_le (h : hpT) (xs : List Nat) (s : Nat) : ∀ p, plc h xs s p ≤ p := by
  intro p
  induction p with
  | zero => exact Nat.le_refl _
  | succ p ih =>
    unfold plc
    split
    · exact Nat.le_refl _
    · omega
def insS (h : hpT) (lt : Option Nat) (xs : List Nat) (s : Nat) : List Nat := if some s = lt then xs else insL xs (plc h xs s xs.length) s
/-- a list that grew: what is made, what is left alone -/
def Grew (g : gcT) (l n : Nat) (h h' : hpT) : Prop := capO g h l ≤ capO g h' l ∧ capO g h' l ≤ max (capO g h l) (2 * n + 10) ∧ Ch (fun a => a = l ∨ hR h 1 l = some a) (capO g h' l - capO g h l) (4 * (capO g h' l - capO g h l)) h h' ∧ ∀ e', hR h' 1 l = some e' → hR h 1 l = some e' ∨ hS h ≤ e'
theorem Grew.tr {g : gcT} {l n n' : Nat} {h h1 h2 : hpT} (a : Grew g l n h h1) (b : Grew g l n' h1 h2) (hn : n ≤ n') : Grew g l n' h h2 := by
  obtain ⟨a1, a2, a3, a4⟩ := a
  obtain ⟨b1, b2, b3, b4⟩ := b
  refine ⟨by omega, by omega, (a3.tr b3).mono (fun x hx q => ?_) (by omega) (by omega), fun e' he' => ?_⟩
  · rcases q with q | q | q
    · exact q
    · exact Or.inl q
    · rcases a4 x q with z | z
      · exact Or.inr z
      · omega
  · rcases b4 e' he' with z | z
    · exact a4 e' z
    · have := a3.1.1
      exact Or.inr (by omega)
theorem insS_len {h : hpT} {lt : Option Nat} {xs : List Nat} {s : Nat} : (insS h lt xs s).length ≤ xs.length + 1 := by
  unfold insS
  split
  · omega
  · rw [insL_len (plc_le _ _ _ _)]; exact Nat.le_refl _
section SORT
variable {g : gcT} {P : pmT} {N U L a l : Nat} {zs : List svT} {h : hpT}
theorem m_sort (hP6 : P 206 = cpyO) (w : hWF h) (hg : gOK g h) (ka : hK h a = 11) (hl : hR h 645 a = some l) {xs0 : List Nat} (kl : tLs g h 8 l xs0) (k : lgF g h N U L zs) (hz : zs.length ≤ 100000) (nl : ∀ l', hR h 256 L = some l' → ¬ l' = l ∧ ∀ e, hR h 1 l' = some e → hK h e = 28 → ¬ hR h 1 l = some e) : EvV g P 49 [va_rf (some a), va_rf (some L)] h (fun h' => tLs g h' 8 l ((zs.map (·.1)).foldl (insS h (hR h 258 L)) []) ∧ Grew g l zs.length h h' ∧ lgF g h' N U L zs) := by
  have nA : ∀ y, ¬ hK h y = 0 → ¬ hK h y = 1 → ¬ hK h y = 28 → ¬ (y = l ∨ hR h 1 l = some y) := by
    rintro y y1 y2 y3 (e | e)
    · rw [e] at y2; exact y2 kl.1.1
    · obtain ⟨⟨-, -, e', b3, b4⟩, -, -⟩ := kl
      rw [b3] at e
      cases e
      rcases b4 with ⟨b4, -⟩ | ⟨b4, -⟩
      · exact y1 (b4 ▸ hg.2.1)
      · exact y3 b4
  have kLL := k.1
  have kz : ∀ z ∈ zs, sgX h N U z := fun z hz => (k.2.choose_spec.2.2 z hz).1
  have kq : ∀ z ∈ zs, ∀ q ∈ zPs z, pOK h q ∧ lOK h q := fun z hz => (k.2.choose_spec.2.2 z hz).2
  have lg : ∀ {h1 c m}, Ch (fun y => y = l ∨ hR h 1 l = some y) c m h h1 → lgF g h1 N U L zs := by
    intro h1 c m x
    refine lgF.fr w k x (nA L (by omega) (by omega) (by omega)) (fun l' hl' => ?_) (fun z hz => ?_) (fun z hz q hq => ?_)
    · obtain ⟨n1, n2⟩ := nl l' hl'
      have k28 := k.2
      obtain ⟨l2, q2, q3, -⟩ := k28
      rw [q2] at hl'
      cases hl'
      refine ⟨fun q => q.elim n1 (fun q => ?_), fun e he k28 q => q.elim (fun q => ?_) (n2 e he k28)⟩
      · obtain ⟨⟨-, -, e', b3, b4⟩, -, -⟩ := kl
        rw [b3] at q
        cases q
        have k1 := q3.1.1
        rcases b4 with ⟨b4, -⟩ | ⟨b4, -⟩
        · rw [b4, hg.2.1] at k1; exact absurd k1 (by decide)
        · omega
      · rw [q] at k28; have := kl.1.1; omega
    · obtain ⟨a1, -, -, -, -, -, a7, a8, a9, a10, a11, -⟩ := (kz z hz).1
      exact ⟨nA _ (by omega) (by omega) (by omega), nA _ (by omega) (by omega) (by omega), nA _ (by omega) (by omega) (by omega), nA _ (by omega) (by omega) (by omega), nA _ (by omega) (by omega) (by omega), nA _ (by omega) (by omega) (by omega)⟩
    · have := (kq z hz q hq).1.1.1
      exact nA _ (by omega) (by omega) (by omega)
  have hclr : EvV g P 199 [va_rf (hR h 645 a)] h (fun h' => tLs g h' 8 l [] ∧ capO g h' l = capO g h l ∧ hR h' 1 l = hR h 1 l ∧ Ch (fun a => a = l ∨ hR h 1 l = some a) 0 0 h h') := by rw [hl]; exact m_clear w hg kl
  refine e_49 (s_49_0 (k3 := ka) (e5 := hl) (k6 := kl.1.1) (hc := hclr) (kk := fun h1 ⟨c1, c2, c3, c4⟩ => s_49_7 ?_))
  have lp := cnt_loop zs.length (fun i h2 => tLs g h2 8 l (((zs.map (·.1)).take i).foldl (insS h (hR h 258 L)) []) ∧ (((zs.map (·.1)).take i).foldl (insS h (hR h 258 L)) []).length ≤ i ∧ (∀ y ∈ ((zs.map (·.1)).take i).foldl (insS h (hR h 258 L)) [], hK h y = 9) ∧ Grew g l i h h2) (fun i h2 => ∀ o3 o4 : Option Value, Ev g P 49 9 [some (va_rf (some a)), some (va_rf (some L)), some (.int (nI i)), o3, o4] [] h2 (fun h' r => r = none ∧ tLs g h' 8 l ((zs.map (·.1)).foldl (insS h (hR h 258 L)) []) ∧ Grew g l zs.length h h' ∧ lgF g h' N U L zs)) ?_ ?_ h1 ⟨c1, Nat.le_refl _, fun y hy => absurd hy List.not_mem_nil, by omega, by omega, c4.mono (fun _ _ q => q) (Nat.zero_le _) (Nat.zero_le _), fun e' he' => by rw [c3] at he'; exact Or.inl he'⟩
  · rw [nI_0] at lp; exact lp none none
  · intro i h2 hi ⟨d1, d2, d3, d4⟩ kn o3 o4
    have x2 := d4.2.2.1
    have k2 := lg x2
    have w2 := x2.2.2.1
    obtain ⟨j1, j2, l', j3, j4, hsz, hgt⟩ := k2.calls (P := P)
    have ka2 : hK h2 a = 11 := by rw [(x2.2.1 a (w.lt (by omega))).1]; exact ka
    have sa : Sm h h2 a := x2.sm (nA a (by omega) (by omega) (by omega)) (w.lt (by omega))
    have sL : Sm h h2 L := x2.sm (nA L (by omega) (by omega) (by omega)) (w.lt (by omega))
    have hl2 : hR h2 645 a = some l := by rw [(sa.2.1 645).2]; exact hl
    have hzi := List.getElem_mem hi
    have k9 : hK h zs[i].1 = 9 := (kz _ hzi).1.1
    have k92 : hK h2 zs[i].1 = 9 := by rw [(x2.2.1 _ (w.lt (by omega))).1]; exact k9
    have hg2 : gOK g h2 := by
      obtain ⟨g1, g2, g3, g4, g5⟩ := hg
      exact ⟨by rw [(x2.2.1 _ g4).1]; exact g1, by rw [(x2.2.1 _ g5).1]; exact g2, g3, Nat.lt_of_lt_of_le g4 x2.1.1, Nat.lt_of_lt_of_le g5 x2.1.1⟩
    have s9 : ∀ y, hK h y = 9 → hI h2 521 y = hI h 521 y := fun y hy => ((x2.sm (nA y (by omega) (by omega) (by omega)) (w.lt (by omega))).2.1 521).1
    have etk : (zs.map (·.1)).take (i + 1) = (zs.map (·.1)).take i ++ [zs[i].1] := by
      rw [take_1 (by rw [List.length_map]; exact hi), List.getElem_map]
    have efd : ((zs.map (·.1)).take (i + 1)).foldl (insS h (hR h 258 L)) [] = insS h (hR h 258 L) (((zs.map (·.1)).take i).foldl (insS h (hR h 258 L)) []) zs[i].1 := by
      rw [etk, List.foldl_append]; rfl
    generalize ((zs.map (·.1)).take i).foldl (insS h (hR h 258 L)) [] = ys at d1 d2 d3 efd
    refine s_49_9 (hc := hsz) (kk := fun h' x ⟨e1, e2⟩ => ?_)
    subst e1; subst e2
    refine s_49_17 (kt := fun z => absurd z (nI_ge hi j2)) (kf := fun _ => ?_)
    refine s_49_20 (hc := hgt i hi) (kk := fun h3 x ⟨e1, e2⟩ => ?_)
    subst e1; subst e2
    refine s_49_28 (c1 := fun b eb => by cases eb; exact k92) (k4 := j1) (kt := fun z => s_49_94 ?_) (kf := fun z => ?_)
    · rw [(sL.2.1 258).2] at z
      rw [nI_1]
      have e : insS h (hR h 258 L) ys zs[i].1 = ys := by unfold insS; rw [if_pos z]
      refine kn _ ⟨by rw [efd, e]; exact d1, by rw [efd, e]; omega, by rw [efd, e]; exact d3, d4.1, by have := d4.2.1; omega, d4.2.2⟩ _ _
    · rw [(sL.2.1 258).2] at z
      have hyl := d1.1.len
      have e : insS h (hR h 258 L) ys zs[i].1 = insL ys (plc h ys zs[i].1 ys.length) zs[i].1 := by unfold insS; rw [if_neg z]
      have hsz2 : EvI g P 191 [va_rf (hR h3 645 a)] h3 (fun h' r => h' = h3 ∧ r = nI ys.length) := by rw [hl2]; exact m_size d1.1
      refine s_49_40 (k3 := ka2) (e5 := hl2) (k6 := d1.1.1) (hc := hsz2) (kk := fun h4 x ⟨e1, e2⟩ => s_49_47 ?_)
      subst e1; subst e2
      have wl : ∀ p, p ≤ ys.length → plc h ys zs[i].1 p = plc h ys zs[i].1 ys.length → Ev g P 49 49 [some (va_rf (some a)), some (va_rf (some L)), some (.int (nI i)), some (va_rf (some zs[i].1)), some (.int (nI p))] [] h4 (fun h' r => r = none ∧ tLs g h' 8 l ((zs.map (·.1)).foldl (insS h (hR h 258 L)) []) ∧ Grew g l zs.length h h' ∧ lgF g h' N U L zs) := by
        have done : ∀ p, p = plc h ys zs[i].1 ys.length → Ev g P 49 84 [some (va_rf (some a)), some (va_rf (some L)), some (.int (nI i)), some (va_rf (some zs[i].1)), some (.int (nI p))] [] h4 (fun h' r => r = none ∧ tLs g h' 8 l ((zs.map (·.1)).foldl (insS h (hR h 258 L)) []) ∧ Grew g l zs.length h h' ∧ lgF g h' N U L zs) := by
          intro p ep
          have hpl : p ≤ ys.length := by rw [ep]; exact plc_le _ _ _ _
          have hadd : EvV g P 196 [va_rf (hR h4 645 a), .int (nI p), va_rf (some zs[i].1)] h4 (fun h' => Added g h4 l (insL ys p zs[i].1) 8 ys.length h') := by rw [hl2]; exact m_addAt hP6 w2 hg2 d1 k92 hpl (by omega)
          refine s_49_84 (k3 := ka2) (e5 := hl2) (k6 := d1.1.1) (hc := hadd) (kk := fun h5 ⟨q1, q2, q3, q4, q5⟩ => s_49_94 ?_)
          rw [nI_1]
          have gr : Grew g l i h4 h5 := ⟨q2, by omega, q4, q5⟩
          refine kn _ ⟨by rw [efd, e, ← ep]; exact q1, by rw [efd]; exact Nat.le_trans insS_len (by omega), ?_, d4.tr ⟨gr.1, by have := gr.2.1; omega, gr.2.2⟩ (by omega)⟩ _ _
          rw [efd, e]
          intro y hy
          unfold insL at hy
          rcases List.mem_append.mp hy with q | q
          · exact d3 y (List.mem_of_mem_take q)
          · rcases List.mem_cons.mp q with q | q
            · rw [q]; exact k9
            · exact d3 y (List.mem_of_mem_drop q)
        intro p
        induction p with
        | zero =>
          intro _ ep
          exact s_49_49 (kt := fun _ => done 0 ep) (kf := fun z => absurd (by rw [nI_0]; decide) z)
        | succ p ih =>
          intro hp ep
          have em : nI (p + 1) - 1 = nI p := by rw [← nI_1, Int32.add_sub_cancel]
          have ep' : nI (p + 1) + (-1) = nI p := by rw [← em, Int32.sub_eq_add_neg]
          have hpl : p < ys.length := hp
          have ky : hK h ys[p] = 9 := d3 _ (List.getElem_mem hpl)
          have ky4 : hK h4 ys[p] = 9 := d1.2.2 _ (List.getElem_mem hpl)
          have ed : ys.getD p 0 = ys[p] := by rw [List.getD_eq_getElem?_getD, List.getElem?_eq_getElem hpl]; rfl
          have hgt2 : EvA g P 193 [va_rf (hR h4 645 a), .int (nI (p + 1) - 1)] h4 (fun h' r => h' = h4 ∧ r = some ys[p]) := by rw [hl2, em]; exact m_get d1.1 hpl
          refine s_49_49 (kt := fun z => ?_) (kf := fun _ => s_49_54 (k3 := ka2) (e5 := hl2) (k6 := d1.1.1) (hc := hgt2) (kk := fun h5 x ⟨e1, e2⟩ => ?_))
          · have : nI 0 < nI (p + 1) := nI_lt (by omega) (by omega)
            rw [nI_0] at this
            exact absurd this (Int32.not_lt.mpr z)
          · subst e1; subst e2
            refine s_49_65 (c1 := fun b eb => by cases eb; exact ky4) (k4 := ky4) (k7 := k92) (kt := fun z => done (p + 1) ?_) (kf := fun z => s_49_78 ?_)
            · rw [s9 _ ky, s9 _ k9] at z
              rw [← ep]
              unfold plc
              rw [ed, if_pos z]
            · rw [s9 _ ky, s9 _ k9] at z
              rw [ep']
              refine ih (by omega) ?_
              rw [← ep]
              show _ = plc h ys zs[i].1 (p + 1)
              unfold plc
              rw [ed, if_neg z]
              cases p <;> rfl
      exact wl ys.length (Nat.le_refl _) rfl
  · intro h2 ⟨d1, d2, d3, d4⟩ o3 o4
    have k2 := lg d4.2.2.1
    obtain ⟨j1, j2, l', j3, j4, hsz, hgt⟩ := k2.calls (P := P)
    refine s_49_9 (hc := hsz) (kk := fun h' x ⟨e1, e2⟩ => ?_)
    subst e1; subst e2
    have etk : (zs.map (·.1)).take zs.length = zs.map (·.1) := by
      have := List.take_length (l := zs.map (·.1))
      rw [List.length_map] at this
      exact this
    rw [etk] at d1
    exact s_49_17 (kt := fun _ => s_49_100 ⟨rfl, d1, d4, k2⟩) (kf := fun z => absurd (nI_le (Nat.le_refl _) j2) z)
end SORT
