/-! Survey.readDead; a LOG that isn't touched -/
def rdN (up : Int32) (z : svT) : Nat := match z.2.2.2.2.2.foldl (mostF up) 0 with
  | 0 => 0
  | m + 1 => z.2.2.2.2.1.getD m 0
def rdL (up : Int32) (zs : List svT) : List Nat := (zs.map (fun z => (zPs z).take (rdN up z))).flatten
def rIx (h : hpT) (q : Nat) : Int32 := ((hI h 388 q) * 40 + hI h 389 q) - 1
def rOK (h : hpT) (q : Nat) : Prop := hI h 384 q = 4 → vinD (rIx h q) 240
def resF (h : hpT) (m : Nat → Option Nat) (q : Nat) : Nat → Option Nat := if hI h 384 q = 4 then u1 m (rIx h q).toNatClampNeg (some q) else m
def svS' (v : Nat) (R : arT) (a : Nat) : Prop := svS v R a ∨ a = R.2.2.2.2
def rdC (v : Nat) (R : arT) (S : syT) (m : Nat → Option Nat) (h h' : hpT) : Prop := svA h' v R ∧ syOf h' v R = S ∧ hB h' R.2.2.2.2 = m ∧ Ch (svS' v R) 0 0 h h' ∧ hR h' = hR h
section READ
variable {g : gcT} {P : pmT} {v N U L : Nat} {R : arT} {zs : List svT} {h h' : hpT}
theorem lgF.fr {A : Nat → Prop} {c m : Nat} (w : hWF h) (k : lgF g h N U L zs) (x : Ch A c m h h') (nL : ¬ A L) (nl : ∀ l, hR h 256 L = some l → ¬ A l ∧ ∀ e, hR h 1 l = some e → hK h e = 28 → ¬ A e) (nz : ∀ z ∈ zs, ¬ A z.1 ∧ ¬ A z.2.1.1 ∧ ¬ A z.2.1.2.1 ∧ ¬ A z.2.1.2.2.1 ∧ ¬ A z.2.1.2.2.2.1 ∧ ¬ A z.2.1.2.2.2.2) (np : ∀ z ∈ zs, ∀ q ∈ zPs z, ¬ A q) : lgF g h' N U L zs := by
  obtain ⟨k1, l, k2, ⟨⟨b1, b2, e, b3, b4⟩, b5, b6⟩, k4⟩ := k
  have sL := x.sm nL (w.lt (by omega))
  obtain ⟨n1, n2⟩ := nl l k2
  have sl := x.sm n1 (w.lt (by omega))
  refine ⟨by rw [sL.1]; exact k1, l, by rw [(sL.2.1 256).2]; exact k2, ⟨⟨by rw [sl.1]; exact b1, by rw [(sl.2.1 2).1]; exact b2, e, by rw [(sl.2.1 1).2]; exact b3, ?_⟩, b5, fun y hy => ?_⟩, fun z hz => ⟨?_, fun q hq => ?_⟩⟩
  · rcases b4 with b4 | ⟨d1, d2, d3, d4, d5⟩
    · exact Or.inl b4
    · have se : Sm h h' e := x.sm (n2 e b3 d1) (w.lt (by omega))
      refine Or.inr ⟨by rw [se.1]; exact d1, by rw [se.2.2.1]; exact d2, by rw [se.2.2.1]; exact d3, by rw [se.2.2.1]; exact d4, fun i hi => ?_⟩
      rw [(se.2.2.2 i).2]; exact d5 i hi
  · rw [(x.2.1 y (w.lt (by rw [b6 y hy]; omega))).1]; exact b6 y hy
  · have kz := (k4 z hz).1
    obtain ⟨l0, l1, l2, l3, l4, l5, l6⟩ := sgV.lts w kz
    obtain ⟨m0, m1, m2, m3, m4, m5⟩ := nz z hz
    exact sgV.fr kz (x.sm m0 l0) (x.sm m1 l1) (x.sm m2 l2) (x.sm m3 l3) (x.sm m4 l4) (x.sm m5 l5) (fun p hp => x.sm (np z hz p hp) (l6 p hp).1)
  · obtain ⟨o1, o2⟩ := (k4 z hz).2 q hq
    have sq : Sm h h' q := x.sm (np z hz q hq) (w.lt (by rw [o1.1.1]; decide))
    refine ⟨o1.sm sq, fun s hs => ?_⟩
    rw [(sq.2.1 395).2] at hs
    have := o2 s hs
    rw [(x.2.1 s (w.lt (by omega))).1]; exact this
theorem svS'.no {a : Nat} (k : svA h v R) (ha : hK h a = 7 ∨ hK h a = 9 ∨ hK h a = 5 ∨ hK h a = 1 ∨ hK h a = 28) : ¬ svS' v R a := by
  obtain ⟨k1, -, -, -, -, -, k7, k8, k9, k10, k11, -⟩ := k
  rintro ((z | z | z | z | z) | z) <;> (rw [z] at ha; omega)
theorem rdC.lg {S : syT} {m : Nat → Option Nat} (w : hWF h) (kv : svA h v R) (k : lgF g h N U L zs) (sep : sepV v R zs) (sep' : ∀ z ∈ zs, ¬ z.2.1.1 = R.2.2.2.2) (c : rdC v R S m h h') : lgF g h' N U L zs := by
  have k0 := k
  obtain ⟨k1, l, k2, ⟨⟨b1, -⟩, -, -⟩, k4⟩ := k
  have kr := kv
  obtain ⟨-, -, -, -, -, -, k7, k8, k9, k10, k11, -⟩ := kr
  refine lgF.fr w k0 c.2.2.2.1 (svS'.no kv (by omega)) (fun l' hl' => ?_) (fun z hz => ?_) (fun z hz q hq => svS'.no kv (Or.inl ((k4 z hz).2 q hq).1.1.1))
  · rw [k2] at hl'
    cases hl'
    exact ⟨svS'.no kv (by omega), fun e _ he => svS'.no kv (by omega)⟩
  · obtain ⟨a1, -, -, -, -, -, a7, a8, a9, a10, a11, -⟩ := (k4 z hz).1.1
    obtain ⟨s1, s2, s3, s4, s5⟩ := sep z hz
    refine ⟨svS'.no kv (by omega), fun q => q.elim s1 (sep' z hz), fun q => q.elim s2 (fun e => ?_), fun q => q.elim s3 (fun e => ?_), fun q => q.elim s4 (fun e => ?_), fun q => q.elim s5 (fun e => ?_)⟩
    · rw [e] at a8; omega
    · rw [e] at a9; omega
    · rw [e] at a10; omega
    · rw [e] at a11; omega
theorem m_readDead (w : hWF h) (kv : svA h v R) (k : lgF g h N U L zs) (sep : sepV v R zs) (sep' : ∀ z ∈ zs, ¬ z.2.1.1 = R.2.2.2.2) {up : Int32} (hr : ∀ z ∈ zs, ∀ q ∈ zPs z, rOK h q) : EvV g P 61 [va_rf (some v), va_rf (some L), .int up] h (fun h' => ∃ S m, bg0 S ∧ (∀ i, i < 240 → m i = none) ∧ rdC v R ((rdL up zs).foldl (fun S q => lrn h q S) S) ((rdL up zs).foldl (resF h) m) h h') := by
  have kq : ∀ z ∈ zs, ∀ q ∈ zPs z, pOK h q ∧ lOK h q := fun z hz => (k.2.choose_spec.2.2 z hz).2
  have lr : R.2.2.2.2 < hS h := w.lt (by have := kv.2.2.2.2.2.2.2.2.2.2.1.1; omega)
  have smq : ∀ {S m h'}, rdC v R S m h h' → ∀ z ∈ zs, ∀ q ∈ zPs z, Sm h h' q := fun c z hz q hq => c.2.2.2.1.sm (svS'.no kv (Or.inl (kq z hz q hq).1.1.1)) (w.lt (by rw [(kq z hz q hq).1.1.1]; decide))
  refine e_61 (s_61_0 (k3 := kv.1) (hc := m_begin w kv) (kk := fun h1 ⟨S, bS, c1⟩ => s_61_4 ?_))
  -- the second part: all SEGMENTS
  have part2 : ∀ h2 m, (∀ i, i < 240 → m i = none) → rdC v R S m h h2 → Ev g P 61 30 [some (va_rf (some v)), some (va_rf (some L)), some (.int up), some (.int 0), none, none, none, none] [] h2 (fun h' x => x = none ∧ ∃ S m, bg0 S ∧ (∀ i, i < 240 → m i = none) ∧ rdC v R ((rdL up zs).foldl (fun S q => lrn h q S) S) ((rdL up zs).foldl (resF h) m) h h') := by
    intro h2 m0 hm0 c2
    have outer := cnt_loop zs.length (fun i h1 => rdC v R ((rdL up (zs.take i)).foldl (fun S q => lrn h q S) S) ((rdL up (zs.take i)).foldl (resF h) m0) h h1) (fun i h1 => ∀ (o4 o5 o6 o7 : Option Value), Ev g P 61 30 [some (va_rf (some v)), some (va_rf (some L)), some (.int up), some (.int (nI i)), o4, o5, o6, o7] [] h1 (fun h' x => x = none ∧ ∃ S m, bg0 S ∧ (∀ i, i < 240 → m i = none) ∧ rdC v R ((rdL up zs).foldl (fun S q => lrn h q S) S) ((rdL up zs).foldl (resF h) m) h h')) ?_ ?_ h2 (by rw [List.take_zero]; exact c2)
    · rw [nI_0] at outer
      exact outer none none none none
    · intro i h3 hi c3 kn o4 o5 o6 o7
      have k3 := rdC.lg w kv k sep sep' c3
      obtain ⟨j1, j2, l, j3, j4, hsz, hgt⟩ := k3.calls (P := P)
      refine s_61_30 (hc := hsz) (kk := fun h' x ⟨e1, e2⟩ => ?_)
      subst e1; subst e2
      refine s_61_38 (kt := fun z => absurd z (nI_ge hi j2)) (kf := fun _ => ?_)
      refine s_61_41 (hc := hgt i hi) (kk := fun h'' x ⟨e1, e2⟩ => ?_)
      subst e1; subst e2
      have hz := List.getElem_mem hi
      have kz3 := (k3.2.choose_spec.2.2 _ hz).1
      have ks3 := kz3.1.1
      refine s_61_49 (c1 := fun b eb => by cases eb; exact ks3) (k4 := ks3) (hc := m_partsReadable kz3) (kk := fun h4 x ⟨e1, e2⟩ => ?_)
      subst e1
      have e2 : x = nI (rdN up zs[i]) := e2
      subst e2
      have hrd : rdN up zs[i] ≤ (zPs zs[i]).length := by
        unfold rdN
        obtain ⟨-, -, -, ⟨q1, q2, q3⟩, -⟩ := kz3
        split
        · exact Nat.zero_le _
        · rename_i m _
          rw [List.getD_eq_getElem?_getD]
          cases hm : zs[i].2.2.2.2.1[m]? with
          | none => exact Nat.zero_le _
          | some y =>
            obtain ⟨hl, e⟩ := List.getElem?_eq_some_iff.mp hm
            rw [← e]
            exact (q3 m hl).2
      have hpl : (zPs zs[i]).length ≤ 100 := Nat.le_trans kz3.2.2.1.2.1 kz3.1.2.2.2.2.2.2.2.2.2.2.2.2.2.2.1
      refine s_61_60 ?_
      have inner := cnt_loop (rdN up zs[i]) (fun j h4 => rdC v R (((zPs zs[i]).take j).foldl (fun S q => lrn h q S) ((rdL up (zs.take i)).foldl (fun S q => lrn h q S) S)) (((zPs zs[i]).take j).foldl (resF h) ((rdL up (zs.take i)).foldl (resF h) m0)) h h4) (fun j h4 => ∀ (o7 : Option Value), Ev g P 61 65 [some (va_rf (some v)), some (va_rf (some L)), some (.int up), some (.int (nI i)), some (va_rf (some zs[i].1)), some (.int (nI (rdN up zs[i]))), some (.int (nI j)), o7] [] h4 (fun h' x => x = none ∧ ∃ S m, bg0 S ∧ (∀ i, i < 240 → m i = none) ∧ rdC v R ((rdL up zs).foldl (fun S q => lrn h q S) S) ((rdL up zs).foldl (resF h) m) h h')) ?_ ?_ h4 (by rw [List.take_zero]; exact c3)
      · rw [nI_0] at inner
        exact inner o7
      · intro j h5 hj c5 kn5 o7
        have hjl : j < (zPs zs[i]).length := by omega
        have k5 := rdC.lg w kv k sep sep' c5
        obtain ⟨s1, s2, s5, p, s3, s4, s7⟩ := (sgV.w (k5.2.choose_spec.2.2 _ hz).1).at
        obtain ⟨hv, eb, ek⟩ := s7 j hjl
        have eb : hB h5 p (nI j).toNatClampNeg = some (zPs zs[i])[j] := eb
        have hq := kq _ hz _ (List.getElem_mem hjl)
        have sq := smq c5 _ hz _ (List.getElem_mem hjl)
        have hq5 := ((k5.2.choose_spec.2.2 _ hz).2 _ (List.getElem_mem hjl)).1
        have w5 := c5.2.2.2.1.2.2.1
        have hln : EvV g P 58 [va_rf (some v), va_rf (hB h5 p (nI j).toNatClampNeg)] h5 (fun h' => svC v R (lrn h5 (zPs zs[i])[j] (syOf h5 v R)) h5 h') := by rw [eb]; exact m_learn w5 c5.1 hq5
        refine s_61_65 (kt := fun z => absurd z (nI_ge hj (by omega))) (kf := fun _ => ?_)
        refine s_61_72 (k3 := s1) (e5 := s3) (k6 := s4) (i7 := hv) (k10 := c5.1.1) (hc := hln) (kk := fun h6 c6 => ?_)
        have e6 : lrn h5 (zPs zs[i])[j] (syOf h5 v R) = lrn h (zPs zs[i])[j] (((zPs zs[i]).take j).foldl (fun S q => lrn h q S) ((rdL up (zs.take i)).foldl (fun S q => lrn h q S) S)) := by
          rw [c5.2.1]
          unfold lrn
          rw [(lr_eq sq _).1, (lr_eq sq _).2.1, (lr_eq sq _).2.2.1, (lr_eq sq _).2.2.2]
        rw [e6] at c6
        have l5 : R.2.2.2.2 < hS h5 := Nat.lt_of_lt_of_le lr c5.2.2.2.1.1.1
        have eB6 : hB h6 R.2.2.2.2 = hB h5 R.2.2.2.2 := by
          funext t
          refine ((c6.2.2.1.sm ?_ l5).2.2.2 t).2
          obtain ⟨u1, -, -, -, -, -, u7, u8, u9, u10, u11, -, u13⟩ := c5.1
          rintro (z | z | z | z | z)
          · rw [z] at u11; omega
          · rw [z] at u11; omega
          · rw [z] at u11; omega
          · rw [z] at u11; omega
          · exact u13 z.symm
        have c6' : rdC v R (((zPs zs[i]).take (j + 1)).foldl (fun S q => lrn h q S) ((rdL up (zs.take i)).foldl (fun S q => lrn h q S) S)) (((zPs zs[i]).take j).foldl (resF h) ((rdL up (zs.take i)).foldl (resF h) m0)) h h6 := by
          refine ⟨c6.1, ?_, eB6.trans c5.2.2.1, (c5.2.2.2.1.tr c6.2.2.1).mono (fun a _ z => z.elim id Or.inl) (Nat.le_refl _) (Nat.le_refl _), c6.2.2.2.trans c5.2.2.2.2⟩
          rw [take_1 hjl, List.foldl_append]
          exact c6.2.1
        have sq6 := smq c6' _ hz _ (List.getElem_mem hjl)
        have w6 := c6'.2.2.2.1.2.2.1
        have ek6 : hK h6 (zPs zs[i])[j] = 7 := by rw [sq6.1]; exact hq.1.1.1
        have next : ∀ h7, rdC v R (((zPs zs[i]).take (j + 1)).foldl (fun S q => lrn h q S) ((rdL up (zs.take i)).foldl (fun S q => lrn h q S) S)) (((zPs zs[i]).take (j + 1)).foldl (resF h) ((rdL up (zs.take i)).foldl (resF h) m0)) h h7 → Ev g P 61 120 [some (va_rf (some v)), some (va_rf (some L)), some (.int up), some (.int (nI i)), some (va_rf (some zs[i].1)), some (.int (nI (rdN up zs[i]))), some (.int (nI j)), some (va_rf (hB h5 p (nI j).toNatClampNeg))] [] h7 (fun h' x => x = none ∧ ∃ S m, bg0 S ∧ (∀ i, i < 240 → m i = none) ∧ rdC v R ((rdL up zs).foldl (fun S q => lrn h q S) S) ((rdL up zs).foldl (resF h) m) h h') := by
          intro h7 c7
          refine s_61_120 ?_
          rw [nI_1]
          exact kn5 _ c7 _
        refine s_61_88 (e2 := eb) (k3 := ek6) (kt := fun z => next h6 ?_) (kf := fun z => ?_)
        · have z : ¬ hI h6 384 (zPs zs[i])[j] = 4 := z
          rw [(sq6.2.1 384).1] at z
          have : ((zPs zs[i]).take (j + 1)).foldl (resF h) ((rdL up (zs.take i)).foldl (resF h) m0) = ((zPs zs[i]).take j).foldl (resF h) ((rdL up (zs.take i)).foldl (resF h) m0) := by
            rw [take_1 hjl, List.foldl_append]
            show resF h _ (zPs zs[i])[j] = _
            unfold resF
            rw [if_neg z]
          rw [this]; exact c6'
        · have z : hI h6 384 (zPs zs[i])[j] = 4 := z
          rw [(sq6.2.1 384).1] at z
          have hix : vinD (rIx h (zPs zs[i])[j]) 240 := hr _ hz _ (List.getElem_mem hjl) z
          have ex : ((hI h6 388 (zPs zs[i])[j]) * 40 + hI h6 389 (zPs zs[i])[j]) - 1 = rIx h (zPs zs[i])[j] := by unfold rIx; rw [(sq6.2.1 388).1, (sq6.2.1 389).1]
          have u := c6'.1
          have l6 : R.2.2.2.2 < hS h6 := Nat.lt_of_lt_of_le lr c6'.2.2.2.1.1.1
          refine s_61_97 (k3 := u.1) (e5 := eb) (k6 := ek6) (e8 := u.2.2.2.2.2.1) (k9 := u.2.2.2.2.2.2.2.2.2.2.1.1) (i10 := by rw [ex, u.2.2.2.2.2.2.2.2.2.2.1.2]; exact hix) (c11 := fun b e => by rw [eb] at e; cases e; rw [ek6]; decide) (kk := next _ ?_)
          rw [ex, eb]
          have cB := (Ch.wB (a := R.2.2.2.2) (i := (rIx h (zPs zs[i])[j]).toNatClampNeg) w6 (some (zPs zs[i])[j]) l6).mono (B := svS' v R) (fun a _ e => Or.inr e) (Nat.le_refl _) (Nat.le_refl _)
          refine ⟨u.ch w6 cB (fun _ => rfl), ?_, ?_, (c6'.2.2.2.1.tr cB).mono (fun a _ z => z.elim id id) (Nat.le_refl _) (Nat.le_refl _), c6'.2.2.2.2⟩
          · rw [← c6'.2.1]
            unfold syOf
            rw [hB_u, if_neg u.2.2.2.2.2.2.2.2.2.2.2.2]
            rfl
          · rw [take_1 hjl, List.foldl_append, hB_u, if_pos rfl, c6'.2.2.1]
            show _ = resF h _ (zPs zs[i])[j]
            unfold resF
            rw [if_pos z]
      · intro h5 c5 o7
        refine s_61_65 (kt := fun _ => s_61_126 ?_) (kf := fun z => absurd (nI_le (Nat.le_refl _) (by omega)) z)
        rw [nI_1]
        refine kn _ ?_ _ _ _ _
        have e : rdL up (zs.take (i + 1)) = rdL up (zs.take i) ++ (zPs zs[i]).take (rdN up zs[i]) := by
          unfold rdL
          rw [take_1 hi, List.map_append, List.flatten_append]
          show _ ++ ([(zPs zs[i]).take (rdN up zs[i])].flatten) = _
          rw [List.flatten_cons, List.flatten_nil, List.append_nil]
        rw [e, List.foldl_append, List.foldl_append]
        exact c5
    · intro h3 c3 o4 o5 o6 o7
      have k3 := rdC.lg w kv k sep sep' c3
      obtain ⟨j1, j2, l, j3, j4, hsz, hgt⟩ := k3.calls (P := P)
      refine s_61_30 (hc := hsz) (kk := fun h' x ⟨e1, e2⟩ => ?_)
      subst e1; subst e2
      rw [List.take_length] at c3
      exact s_61_38 (kt := fun _ => s_61_132 ⟨rfl, S, m0, bS, hm0, c3⟩) (kf := fun z => absurd (nI_le (Nat.le_refl _) j2) z)
  -- the first part: RESULTS are forgotten
  have c1' : rdC v R S (hB h1 R.2.2.2.2) h h1 := ⟨c1.1, c1.2.1, rfl, c1.2.2.1.mono (fun a _ z => Or.inl z) (Nat.le_refl _) (Nat.le_refl _), c1.2.2.2⟩
  have first := cnt_loop 240 (fun i h2 => ∃ m, (∀ t, t < i → m t = none) ∧ rdC v R S m h h2) (fun i h2 => Ev g P 61 6 [some (va_rf (some v)), some (va_rf (some L)), some (.int up), some (.int (nI i)), none, none, none, none] [] h2 (fun h' x => x = none ∧ ∃ S m, bg0 S ∧ (∀ i, i < 240 → m i = none) ∧ rdC v R ((rdL up zs).foldl (fun S q => lrn h q S) S) ((rdL up zs).foldl (resF h) m) h h')) ?_ ?_ h1 ⟨_, fun t ht => absurd ht (Nat.not_lt_zero _), c1'⟩
  · rw [nI_0] at first
    exact first
  · intro i h2 hi ⟨m, hm, c2⟩ kn
    have u := c2.1
    have w2 := c2.2.2.2.1.2.2.1
    have l2 : R.2.2.2.2 < hS h2 := Nat.lt_of_lt_of_le lr c2.2.2.2.1.1.1
    have ei : (nI i).toNatClampNeg = i := nI_clamp (by omega)
    refine s_61_6 (k3 := u.1) (e5 := u.2.2.2.2.2.1) (k7 := u.2.2.2.2.2.2.2.2.2.2.1.1) (kt := fun z => absurd z (by rw [u.2.2.2.2.2.2.2.2.2.2.1.2]; exact nI_ge hi (by omega))) (kf := fun _ => ?_)
    refine s_61_15 (k3 := u.1) (e5 := u.2.2.2.2.2.1) (k6 := u.2.2.2.2.2.2.2.2.2.2.1.1) (i7 := by rw [u.2.2.2.2.2.2.2.2.2.2.1.2]; exact vin_nI hi (by omega)) (kk := ?_)
    rw [ei, nI_1]
    have cB := (Ch.wB (a := R.2.2.2.2) (i := i) w2 none l2).mono (B := svS' v R) (fun a _ e => Or.inr e) (Nat.le_refl _) (Nat.le_refl _)
    refine kn _ ⟨u1 m i none, fun t ht => ?_, u.ch w2 cB (fun _ => rfl), ?_, ?_, (c2.2.2.2.1.tr cB).mono (fun a _ z => z.elim id id) (Nat.le_refl _) (Nat.le_refl _), c2.2.2.2.2⟩
    · show (if t = i then none else m t) = none
      by_cases e : t = i
      · rw [if_pos e]
      · rw [if_neg e]; exact hm t (by omega)
    · rw [← c2.2.1]
      unfold syOf
      rw [hB_u, if_neg u.2.2.2.2.2.2.2.2.2.2.2.2]
      rfl
    · rw [hB_u, if_pos rfl, c2.2.2.1]
  · intro h2 ⟨m, hm, c2⟩
    have u := c2.1
    exact s_61_6 (k3 := u.1) (e5 := u.2.2.2.2.2.1) (k7 := u.2.2.2.2.2.2.2.2.2.2.1.1) (kt := fun _ => s_61_28 (part2 h2 m hm c2)) (kf := fun z => absurd (by rw [u.2.2.2.2.2.2.2.2.2.2.1.2]; exact nI_le (Nat.le_refl _) (by omega)) z)
end READ
