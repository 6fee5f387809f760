/-! Survey.markLive: its second half -/
theorem getD_app {l : List Int32} {x d : Int32} {m : Nat} (hm : m < l.length + 1) : (l ++ [x]).getD m d = if m < l.length then l.getD m d else x := by
  rw [List.getD_eq_getElem?_getD, List.getD_eq_getElem?_getD, List.getElem?_append]
  by_cases e : m < l.length
  · rw [if_pos e, if_pos e]
  · rw [if_neg e, if_neg e, show m - l.length = 0 from by omega]; rfl
def lvT (h : hpT) (S : syT) (zs : List svT) (i : Nat) : syT := (zs.take i).foldl (fun S z => (lvS h S (zPs z)).2.2) S
/-- what a SEGMENT's marks say -/
def lvR (h : hpT) (S : syT) (z : svT) (h' : hpT) : Prop := hI h' 521 z.1 = (lvS h S (zPs z)).2.1 ∧ ∀ j, j < (zPs z).length → hA h' (zLv z) j = (lvS h S (zPs z)).1.getD j 0
theorem lvR.kp {h h1 h2 : hpT} {S : syT} {z : svT} (k : lvR h S z h1) (e1 : hI h2 521 z.1 = hI h1 521 z.1) (e2 : hA h2 (zLv z) = hA h1 (zLv z)) : lvR h S z h2 := by
  unfold lvR
  rw [e1, e2]; exact k
section MARK
variable {g : gcT} {P : pmT} {v N U L : Nat} {R : arT} {zs : List svT} {h : hpT}
theorem m_59_2 (w : hWF h) (hg : gOK g h) (kv : svA h v R) (k : lgF g h N U L zs) (sep : sepV v R zs) (nd1 : ∀ i j (hi : i < zs.length) (hj : j < zs.length), zs[i].1 = zs[j].1 → i = j) (nd2 : ∀ i j (hi : i < zs.length) (hj : j < zs.length), zLv zs[i] = zLv zs[j] → i = j) (o3 o4 : Option Value) : Ev g P 59 66 [some (va_rf (some v)), some (va_rf (some L)), some (.int 0), o3, o4] [] h (fun h' x => x = none ∧ svA h' v R ∧ mkC v R zs h h' ∧ ∀ i (hi : i < zs.length), lvR h (lvT h (syOf h v R) zs i) zs[i] h') := by
  have kz : ∀ z ∈ zs, sgX h N U z := fun z hz => (k.2.choose_spec.2.2 z hz).1
  have kq : ∀ z ∈ zs, ∀ q ∈ zPs z, pOK h q ∧ lOK h q := fun z hz => (k.2.choose_spec.2.2 z hz).2
  have outer := cnt_loop zs.length (fun i h1 => svA h1 v R ∧ mkC v R zs h h1 ∧ syOf h1 v R = lvT h (syOf h v R) zs i ∧ ∀ m (hm : m < zs.length), m < i → lvR h (lvT h (syOf h v R) zs m) zs[m] h1) (fun i h1 => ∀ (o3 o4 : Option Value), Ev g P 59 66 [some (va_rf (some v)), some (va_rf (some L)), some (.int (nI i)), o3, o4] [] h1 (fun h' x => x = none ∧ svA h' v R ∧ mkC v R zs h h' ∧ ∀ i (hi : i < zs.length), lvR h (lvT h (syOf h v R) zs i) zs[i] h')) ?_ ?_ h ⟨kv, mkC.rf w, rfl, fun m _ hm => absurd hm (Nat.not_lt_zero _)⟩
  · rw [nI_0] at outer
    exact outer o3 o4
  · intro i h1 hi ⟨d1, mc, d3, d4⟩ kn o3 o4
    have k1 := mkC.lg w kv k sep hg mc
    obtain ⟨j1, j2, l, j3, j4, hsz, hgt⟩ := k1.calls (P := P)
    refine s_59_66 (hc := hsz) (kk := fun h' x ⟨e1, e2⟩ => ?_)
    subst e1; subst e2
    refine s_59_74 (kt := fun z => absurd z (nI_ge hi j2)) (kf := fun _ => ?_)
    refine s_59_77 (hc := hgt i hi) (kk := fun h'' x ⟨e1, e2⟩ => ?_)
    subst e1; subst e2
    have hz := List.getElem_mem hi
    have kz1 := mkC.sg w kv kz sep mc
    have w1 := mc.1.2.2.1
    have ks1 := (kz1 _ hz).1.1
    have lz : zs[i].1 < hS h'' := w1.lt (by omega)
    refine s_59_85 (c1 := fun b eb => by cases eb; exact ks1) (k4 := ks1) (kk := ?_)
    have wI : ∀ (h3 : hpT) (y : Int32), hWF h3 → zs[i].1 < hS h3 → mkC v R zs h3 (hpI h3 521 zs[i].1 y) := fun h3 y w3 l3 => ⟨(Ch.wI (f := 521) (a := zs[i].1) w3 y l3).mono (fun a _ e => Or.inr ⟨zs[i], hz, Or.inl e⟩) (Nat.le_refl _) (Nat.le_refl _), rfl, fun z _ f nf => by rw [rI_I, if_neg (fun e => nf e.1)]⟩
    have kI : ∀ (h3 : hpT) (y : Int32) m (hm : m < zs.length), m < i → lvR h (lvT h (syOf h v R) zs m) zs[m] h3 → lvR h (lvT h (syOf h v R) zs m) zs[m] (hpI h3 521 zs[i].1 y) := fun h3 y m hm hmi k => k.kp (by rw [rI_I, if_neg (fun e => by have := nd1 m i hm hi e.2; omega)]) rfl
    have c0 := wI h'' 0 w1 lz
    have inner := cnt_loop (zPs zs[i]).length (fun j h2 => svA h2 v R ∧ mkC v R zs h h2 ∧ syOf h2 v R = (lvS h (lvT h (syOf h v R) zs i) ((zPs zs[i]).take j)).2.2 ∧ hI h2 521 zs[i].1 = (lvS h (lvT h (syOf h v R) zs i) ((zPs zs[i]).take j)).2.1 ∧ (∀ m, m < j → hA h2 (zLv zs[i]) m = (lvS h (lvT h (syOf h v R) zs i) ((zPs zs[i]).take j)).1.getD m 0) ∧ ∀ m (hm : m < zs.length), m < i → lvR h (lvT h (syOf h v R) zs m) zs[m] h2) (fun j h2 => Ev g P 59 97 [some (va_rf (some v)), some (va_rf (some L)), some (.int (nI i)), some (va_rf (some zs[i].1)), some (.int (nI j))] [] h2 (fun h' x => x = none ∧ svA h' v R ∧ mkC v R zs h h' ∧ ∀ i (hi : i < zs.length), lvR h (lvT h (syOf h v R) zs i) zs[i] h')) ?_ ?_ (hpI h'' 521 zs[i].1 0) ?_
    · rw [nI_0] at inner
      exact inner
    · intro j h2 hj ⟨f1, mc2, f3, f4, f5, f6⟩ kn2
      have kz2 := mkC.sg w kv kz sep mc2
      have w2 := mc2.1.2.2.1
      obtain ⟨s1, s2, s5, p, s3, s4, s7⟩ := (sgV.w (kz2 _ hz)).at
      obtain ⟨hv, eb, ek⟩ := s7 j hj
      obtain ⟨⟨a1, a2, a3, a4, a5, a6, a7, a8, -, -, -, -, -, -, a15, -⟩, -, ⟨p1, p2, p3, p4⟩, -⟩ := kz2 _ hz
      have hq := kq _ hz _ (List.getElem_mem hj)
      have sq : Sm h h2 (zPs zs[i])[j] := mc2.1.sm (mkS.no7 kv kz hq.1.1.1) (w.lt (by rw [hq.1.1.1]; decide))
      have hq2 := ((mkC.lg w kv k sep hg mc2).2.choose_spec.2.2 _ hz).2 _ (List.getElem_mem hj)
      have ps2 : (zPs zs[i]).length ≤ U := p2
      have ei : (nI j).toNatClampNeg = j := nI_clamp (by omega)
      have hvl : vinD (nI j) (hN h2 (zLv zs[i])) := by rw [show hN h2 (zLv zs[i]) = U from a8.2]; exact vin_nI (by omega) (by omega)
      have hlv : EvI g P 60 [va_rf (some v), va_rf (hB h2 p (nI j).toNatClampNeg)] h2 (fun h' x => x = (livF h2 (zPs zs[i])[j] (syOf h2 v R)).1 ∧ (x = 0 ∨ x = 1) ∧ svC v R (livF h2 (zPs zs[i])[j] (syOf h2 v R)).2 h2 h') := by rw [eb]; exact m_isLive w2 f1 hq2.1 hq2.2
      refine s_59_97 (k3 := s1) (kt := fun z => absurd z (by rw [s2]; exact nI_ge hj s5)) (kf := fun _ => ?_)
      refine s_59_106 (k3 := s1) (e5 := s3) (k6 := s4) (i7 := hv) (k10 := f1.1) (hc := hlv) (kk := fun h3 x ⟨x1, x2, x3⟩ => ?_)
      have x1 : x = (livF h2 (zPs zs[i])[j] (syOf h2 v R)).1 := x1
      have x3 : svC v R (livF h2 (zPs zs[i])[j] (syOf h2 v R)).2 h2 h3 := x3
      rw [mkC.liv w kv kz mc2 hq.1 hq.2, f3] at x1 x3
      have mc3 := mc2.tr (x3.mk f1 kz2 w2)
      have kz3 := mkC.sg w kv kz sep mc3
      have w3 := mc3.1.2.2.1
      have kl3 : hK h3 (zLv zs[i]) = 21 := (kz3 _ hz).1.2.2.2.2.2.2.2.1.1
      have nl3 : hN h3 (zLv zs[i]) = U := (kz3 _ hz).1.2.2.2.2.2.2.2.1.2
      have ll3 : zLv zs[i] < hS h3 := w3.lt (by omega)
      have ks3 : hK h3 zs[i].1 = 9 := (kz3 _ hz).1.1
      have lz3 : zs[i].1 < hS h3 := w3.lt (by omega)
      have hvl3 : vinD (nI j) (hN h3 (zLv zs[i])) := by rw [nl3]; exact vin_nI (by omega) (by omega)
      refine s_59_123 (e2 := a3) (k3 := kl3) (i4 := hvl3) (b5 := x2) (k8 := ks3) (kk := ?_)
      rw [ei]
      have r514 : hR h3 514 zs[i].1 = some (zLv zs[i]) := (kz3 _ hz).1.2.2.1
      have cA : mkC v R zs h3 (hpA h3 (zLv zs[i]) j x) := ⟨(Ch.wA (a := zLv zs[i]) (i := j) w3 x ll3).mono (fun a _ e => Or.inr ⟨zs[i], hz, Or.inr e⟩) (Nat.le_refl _) (Nat.le_refl _), rfl, fun _ _ _ _ => rfl⟩
      have mc4 := mc3.tr cA
      have sepz := sep _ hz
      have nS : ∀ a, a = R.1 ∨ a = R.2.1 ∨ a = R.2.2.1 → ¬ a = zLv zs[i] := fun a ha e => sepz.2.1 (by unfold svS; unfold zLv at e; rw [← e]; rcases ha with q | q | q <;> simp [q])
      have sv4 : svA (hpA h3 (zLv zs[i]) j x) v R := x3.1.ch w3 cA.1 (fun _ => rfl)
      have sy4 : syOf (hpA h3 (zLv zs[i]) j x) v R = syOf h3 v R := by
        unfold syOf
        rw [hA_u, hA_u, hA_u, if_neg (nS _ (Or.inl rfl)), if_neg (nS _ (Or.inr (Or.inl rfl))), if_neg (nS _ (Or.inr (Or.inr rfl)))]
        rfl
      have e521 : hI h3 521 zs[i].1 = hI h2 521 zs[i].1 := by
        refine ((x3.2.2.1.sm ?_ (w2.lt (by omega))).2.1 521).1
        obtain ⟨j1, -, -, -, -, -, j7, j8, j9, j10, -⟩ := f1
        rintro (q | q | q | q | q) <;> (rw [q] at a1; omega)
      have eLv : ∀ m (hm : m < zs.length), hA h3 (zLv zs[m]) = hA h2 (zLv zs[m]) := by
        intro m hm
        funext t
        exact ((x3.2.2.1.sm (sep _ (List.getElem_mem hm)).2.1 (w2.lt (by have := (kz2 _ (List.getElem_mem hm)).1.2.2.2.2.2.2.2.1.1; omega))).2.2.2 t).1
      have fin : ∀ y, y = (if x = 0 then 0 else hI h 385 (zPs zs[i])[j]) → Ev g P 59 153 [some (va_rf (some v)), some (va_rf (some L)), some (.int (nI i)), some (va_rf (some zs[i].1)), some (.int (nI j))] [.int y, .int (hI h3 521 zs[i].1), va_rf (some zs[i].1)] (hpA h3 (zLv zs[i]) j x) (fun h' x => x = none ∧ svA h' v R ∧ mkC v R zs h h' ∧ ∀ i (hi : i < zs.length), lvR h (lvT h (syOf h v R) zs i) zs[i] h') := by
        intro y ey
        refine s_59_153 (k3 := ks3) (kk := ?_)
        rw [nI_1]
        have cI := wI (hpA h3 (zLv zs[i]) j x) (hI h3 521 zs[i].1 + y) cA.1.2.2.1 lz3
        refine kn2 _ ⟨sv4.ch cA.1.2.2.1 cI.1 (fun _ => rfl), mc4.tr cI, ?_, ?_, fun m hm => ?_, fun m hm hmi => kI _ _ m hm hmi ?_⟩
        · rw [lvS_1 hj]
          show syOf (hpI (hpA h3 (zLv zs[i]) j x) 521 zs[i].1 (hI h3 521 zs[i].1 + y)) v R = (livF h (zPs zs[i])[j] _).2
          rw [← x3.2.1, ← sy4]
          unfold syOf
          rw [rI_I, if_neg (fun e => absurd e.1 (by decide))]
          rfl
        · rw [lvS_1 hj, rI_I, if_pos ⟨rfl, rfl⟩, e521, f4, ey, x1]
          rfl
        · rw [lvS_1 hj]
          show hA (hpA h3 (zLv zs[i]) j x) (zLv zs[i]) m = ((lvS h _ ((zPs zs[i]).take j)).1 ++ [_]).getD m 0
          have hlen : (lvS h (lvT h (syOf h v R) zs i) ((zPs zs[i]).take j)).1.length = j := by rw [lvS_len, List.length_take]; omega
          rw [getD_app (by rw [hlen]; exact hm), hlen, hA_u, if_pos rfl]
          show (if m = j then x else hA h3 (zLv zs[i]) m) = _
          by_cases e : m = j
          · rw [if_pos e, if_neg (by omega), x1]
          · rw [if_neg e, if_pos (by omega), eLv i hi]; exact f5 m (by omega)
        · refine (f6 m hm hmi).kp ?_ ?_
          · show hI h3 521 zs[m].1 = hI h2 521 zs[m].1
            have a1 := (kz2 _ (List.getElem_mem hm)).1.1
            refine ((x3.2.2.1.sm ?_ (w2.lt (by omega))).2.1 521).1
            obtain ⟨j1, -, -, -, -, -, j7, j8, j9, j10, -⟩ := f1
            rintro (q | q | q | q | q) <;> (rw [q] at a1; omega)
          · rw [hA_u, if_neg (fun e => by have := nd2 m i hm hi e; omega)]; exact eLv m hm
      have rx : hA (hpA h3 (zLv zs[i]) j x) (zLv zs[i]) (nI j).toNatClampNeg = x := by
        rw [ei, hA_u, if_pos rfl]
        show (if j = j then x else _) = x
        rw [if_pos rfl]
      refine s_59_135 (e2 := r514) (k3 := kl3) (i4 := hvl3) (kt := fun z => s_59_152 (fin 0 ?_)) (kf := fun z => ?_)
      · have z : x = 0 := rx.symm.trans z
        rw [if_pos z]
      · have z : ¬ x = 0 := fun e => z (rx.trans e)
        obtain ⟨t1, t2, t5, p', t3, t4, t7⟩ := (sgV.w (kz3 _ hz)).at
        obtain ⟨tv, tb, tk⟩ := t7 j hj
        refine s_59_139 (k3 := ks3) (e5 := t3) (k6 := t4) (i7 := tv) (e9 := tb) (k10 := tk) (kk := fin _ ?_)
        rw [if_neg z]
        have sq3 : Sm h h3 (zPs zs[i])[j] := mc3.1.sm (mkS.no7 kv kz hq.1.1.1) (w.lt (by rw [hq.1.1.1]; decide))
        exact (sq3.2.1 385).1
    · intro h2 ⟨f1, mc2, f3, f4, f5, f6⟩
      have kz2 := mkC.sg w kv kz sep mc2
      obtain ⟨s1, s2, s5, -⟩ := (sgV.w (kz2 _ hz)).at
      rw [List.take_length] at f3 f4 f5
      refine s_59_97 (k3 := s1) (kt := fun _ => s_59_163 ?_) (kf := fun z => absurd (by rw [s2]; exact nI_le (Nat.le_refl _) s5) z)
      rw [nI_1]
      refine kn _ ⟨f1, mc2, ?_, fun m hm hmi => ?_⟩ _ _
      · unfold lvT
        rw [take_1 hi, List.foldl_append]
        exact f3
      · by_cases e : m = i
        · subst e
          exact ⟨f4, f5⟩
        · exact f6 m hm (by omega)
    · refine ⟨d1.ch w1 c0.1 (fun _ => rfl), mc.tr c0, ?_, ?_, fun m hm => absurd hm (Nat.not_lt_zero _), fun m hm hmi => kI _ _ m hm hmi (d4 m hm hmi)⟩
      · rw [List.take_zero]
        show syOf _ v R = lvT h (syOf h v R) zs i
        rw [← d3]
        unfold syOf
        rw [rI_I, if_neg (fun e => absurd e.1 (by decide))]
        rfl
      · rw [List.take_zero, rI_I, if_pos ⟨rfl, rfl⟩]
        rfl
  · intro h1 ⟨d1, mc, d3, d4⟩ o3 o4
    have k1 := mkC.lg w kv k sep hg mc
    obtain ⟨j1, j2, l, j3, j4, hsz, hgt⟩ := k1.calls (P := P)
    refine s_59_66 (hc := hsz) (kk := fun h' x ⟨e1, e2⟩ => ?_)
    subst e1; subst e2
    exact s_59_74 (kt := fun _ => s_59_169 ⟨rfl, d1, mc, fun i hi => d4 i hi hi⟩) (kf := fun z => absurd (nI_le (Nat.le_refl _) j2) z)
end MARK
