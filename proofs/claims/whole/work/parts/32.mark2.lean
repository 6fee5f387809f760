/-! Survey.markLive -/
section MARK
variable {g : gcT} {P : pmT} {v N U L : Nat} {R : arT} {zs : List svT} {h : hpT}
/-- its first half: all PARTS are learnt -/
theorem m_59_1 {Q : hpT → Option Value → Prop} (w : hWF h) (hg : gOK g h) (kv : svA h v R) (k : lgF g h N U L zs) (sep : sepV v R zs) (kk : ∀ h' (o2 o3 o4 : Option Value), svC v R ((zs.map zPs).flatten.foldl (fun S q => lrn h q S) (syOf h v R)) h h' → Ev g P 59 64 [some (va_rf (some v)), some (va_rf (some L)), some (.int (nI zs.length)), o3, o4] [] h' Q) (o3 o4 : Option Value) : Ev g P 59 6 [some (va_rf (some v)), some (va_rf (some L)), some (.int 0), o3, o4] [] h Q := by
  have kz : ∀ z ∈ zs, sgX h N U z := fun z hz => (k.2.choose_spec.2.2 z hz).1
  have kq : ∀ z ∈ zs, ∀ q ∈ zPs z, pOK h q ∧ lOK h q := fun z hz => (k.2.choose_spec.2.2 z hz).2
  have outer := cnt_loop zs.length (fun i h1 => svC v R (((zs.take i).map zPs).flatten.foldl (fun S q => lrn h q S) (syOf h v R)) h h1) (fun i h1 => ∀ (o3 o4 : Option Value), Ev g P 59 6 [some (va_rf (some v)), some (va_rf (some L)), some (.int (nI i)), o3, o4] [] h1 Q) ?_ ?_ h (by rw [List.take_zero]; exact svC.rf w kv)
  · rw [nI_0] at outer
    exact outer o3 o4
  · intro i h1 hi c1 kn o3 o4
    have mc := c1.mk kv kz w
    have k1 := mkC.lg w kv k sep hg mc
    obtain ⟨j1, j2, l, j3, j4, hsz, hgt⟩ := k1.calls (P := P)
    refine s_59_6 (hc := hsz) (kk := fun h' x ⟨e1, e2⟩ => ?_)
    subst e1; subst e2
    refine s_59_14 (kt := fun z => absurd z (nI_ge hi j2)) (kf := fun _ => ?_)
    refine s_59_17 (hc := hgt i hi) (kk := fun h'' x ⟨e1, e2⟩ => ?_)
    subst e1; subst e2
    have hz := List.getElem_mem hi
    have kz1 := mkC.sg w kv kz sep mc
    refine s_59_25 (c1 := fun b eb => by cases eb; exact (kz1 _ hz).1.1) (kk := ?_)
    have inner := cnt_loop (zPs zs[i]).length (fun j h2 => svC v R (((zPs zs[i]).take j).foldl (fun S q => lrn h q S) (((zs.take i).map zPs).flatten.foldl (fun S q => lrn h q S) (syOf h v R))) h h2) (fun j h2 => Ev g P 59 32 [some (va_rf (some v)), some (va_rf (some L)), some (.int (nI i)), some (va_rf (some zs[i].1)), some (.int (nI j))] [] h2 Q) ?_ ?_ h'' (by rw [List.take_zero]; exact c1)
    · rw [nI_0] at inner
      exact inner
    · intro j h2 hj c2 kn2
      have mc2 := c2.mk kv kz w
      have kz2 := mkC.sg w kv kz sep mc2
      obtain ⟨s1, s2, s5, p, s3, s4, s7⟩ := (sgV.w (kz2 _ hz)).at
      obtain ⟨hv, eb, ek⟩ := s7 j hj
      have hq := kq _ hz _ (List.getElem_mem hj)
      have sq : Sm h h2 (zPs zs[i])[j] := mc2.1.sm (mkS.no7 kv kz hq.1.1.1) (w.lt (by rw [hq.1.1.1]; decide))
      refine s_59_32 (k3 := s1) (kt := fun z => absurd z (by rw [s2]; exact nI_ge hj s5)) (kf := fun _ => ?_)
      refine s_59_41 (k3 := s1) (e5 := s3) (k6 := s4) (i7 := hv) (k10 := c2.1.1) (hc := by rw [eb]; exact m_learn c2.2.2.1.2.2.1 c2.1 (hq.1.sm sq)) (kk := fun h3 c3 => s_59_52 ?_)
      rw [nI_1]
      refine kn2 _ ?_
      rw [take_1 hj, List.foldl_append]
      have c3 : svC v R (lrn h2 (zPs zs[i])[j] (syOf h2 v R)) h2 h3 := c3
      rw [c2.2.1] at c3
      have e : lrn h2 (zPs zs[i])[j] = lrn h (zPs zs[i])[j] := by
        funext S
        unfold lrn
        rw [(lr_eq sq _).1, (lr_eq sq _).2.1, (lr_eq sq _).2.2.1, (lr_eq sq _).2.2.2]
      rw [e] at c3
      exact c2.tr c3
    · intro h2 c2
      have mc2 := c2.mk kv kz w
      have kz2 := mkC.sg w kv kz sep mc2
      obtain ⟨s1, s2, s5, -⟩ := (sgV.w (kz2 _ hz)).at
      refine s_59_32 (k3 := s1) (kt := fun _ => s_59_58 ?_) (kf := fun z => absurd (by rw [s2]; exact nI_le (Nat.le_refl _) s5) z)
      rw [nI_1]
      refine kn _ ?_ _ _
      rw [take_1 hi, List.map_append, List.flatten_append, List.foldl_append]
      rw [List.take_length] at c2
      show svC v R (([zPs zs[i]].flatten).foldl _ _) h h2
      rw [List.flatten_cons, List.flatten_nil, List.append_nil]
      exact c2
  · intro h1 c1 o3 o4
    have mc := c1.mk kv kz w
    have k1 := mkC.lg w kv k sep hg mc
    obtain ⟨j1, j2, l, j3, j4, hsz, hgt⟩ := k1.calls (P := P)
    refine s_59_6 (hc := hsz) (kk := fun h' x ⟨e1, e2⟩ => ?_)
    subst e1; subst e2
    refine s_59_14 (kt := fun _ => kk _ none _ _ ?_) (kf := fun z => absurd (nI_le (Nat.le_refl _) j2) z)
    rw [List.take_length] at c1
    exact c1
end MARK
