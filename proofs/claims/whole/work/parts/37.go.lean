/-! Log.letGo -/
section GO
variable {g : gcT} {P : pmT} {N U L : Nat} {zs : List svT} {h : hpT}
theorem lgF.wI (k : lgF g h N U L zs) {f a : Nat} {y : Int32} (hf : f = 521 ∨ 524 ≤ f) : lgF g (hpI h f a y) N U L zs := by
  have eI : ∀ f', f' ≤ 520 ∨ f' = 522 ∨ f' = 523 → ∀ b, hI (hpI h f a y) f' b = hI h f' b := fun f' hf' b => by rw [rI_I, if_neg (fun q => by omega)]
  obtain ⟨k1, l, k2, ⟨⟨b1, b2, e, b3, b4⟩, b5, b6⟩, k4⟩ := k
  have eP : ∀ q, ptK h q → ptK (hpI h f a y) q := fun q ⟨q1, q2, q3, q4⟩ => ⟨q1, by rw [eI 385 (by omega), eI 384 (by omega)]; exact q2, by rw [eI 386 (by omega), eI 384 (by omega)]; exact q3, by rw [eI 387 (by omega), eI 384 (by omega)]; exact q4⟩
  refine ⟨k1, l, k2, ⟨⟨b1, by rw [eI 2 (by omega)]; exact b2, e, b3, b4⟩, b5, b6⟩, fun z hz => ?_⟩
  obtain ⟨⟨c1, c2, ⟨p1, p2, p3, p4⟩, ⟨q1, q2, q3⟩, ⟨t1, t2, t3, t4⟩⟩, c3⟩ := k4 z hz
  refine ⟨⟨c1, by rw [eI 512 (by omega)]; exact c2, ⟨by rw [eI 518 (by omega)]; exact p1, p2, ?_, fun j hj => ⟨(p4 j hj).1, eP _ (p4 j hj).2⟩⟩, ⟨by rw [eI 519 (by omega)]; exact q1, q2, q3⟩, ⟨by rw [eI 522 (by omega)]; exact t1, t2, by rw [eI 523 (by omega)]; exact t3, t4⟩⟩, fun q hq => ⟨⟨eP q (c3 q hq).1.1, ?_, ?_⟩, (c3 q hq).2⟩⟩
  · rw [eI 520 (by omega), p3]
    exact (unS_eq (fun p _ => eI 385 (by omega) p)).symm
  · rw [eI 387 (by omega), eI 388 (by omega)]; exact (c3 q hq).1.2.1
  · rw [eI 386 (by omega), eI 390 (by omega)]; exact (c3 q hq).1.2.2
def rmZ (zs : List svT) (i : Nat) : List svT := zs.take i ++ zs.drop (i + 1)
theorem rmZ_sub {i : Nat} {z : svT} (hz : z ∈ rmZ zs i) : z ∈ zs := by
  rcases List.mem_append.mp hz with q | q
  · exact List.mem_of_mem_take q
  · exact List.mem_of_mem_drop q
theorem m_letGo (w : hWF h) (hg : gOK g h) {l i : Nat} (hi : i < zs.length) (k : lgF g h N U L zs) (hl : hR h 256 L = some l) (nd : ∀ j (hj : j < zs.length), zs[j].2.2.1 = zs[i].2.2.1 → j = i) : EvV g P 22 [va_rf (some L), va_rf (some zs[i].1)] h (fun h' => lgF g h' N U L (rmZ zs i) ∧ hI h' 524 zs[i].1 = 1 ∧ (∀ f, ¬ f = 524 → hI h' f zs[i].1 = hI h f zs[i].1) ∧ hR h' 256 L = some l ∧ hR h' 1 l = hR h 1 l ∧ capO g h' l = capO g h l ∧ Ch (fun a => a = zs[i].1 ∨ a = l ∨ hR h 1 l = some a) 0 0 h h') := by
  have hz := List.getElem_mem hi
  have kz : ∀ z ∈ zs, sgX h N U z := fun z hz => (k.2.choose_spec.2.2 z hz).1
  have ks : hK h zs[i].1 = 9 := (kz _ hz).1.1
  have ls : zs[i].1 < hS h := w.lt (by omega)
  have c0 := Ch.wI (f := 524) (a := zs[i].1) w 1 ls
  have k1 : lgF g (hpI h 524 zs[i].1 1) N U L zs := k.wI (Or.inr (by decide))
  have g1 : hI (hpI h 524 zs[i].1 1) 524 zs[i].1 = 1 := by rw [rI_I, if_pos ⟨rfl, rfl⟩]
  have g2 : ∀ f, ¬ f = 524 → ∀ b, hI (hpI h 524 zs[i].1 1) f b = hI h f b := fun f nf' b => by rw [rI_I, if_neg (fun q => nf' q.1)]
  refine e_22 (s_22_0 (k3 := ks) (kk := ?_))
  have r1 : hR (hpI h 524 zs[i].1 1) = hR h := rfl
  have hg1 : gOK g (hpI h 524 zs[i].1 1) := hg
  have cap1 : capO g (hpI h 524 zs[i].1 1) l = capO g h l := rfl
  have nm1 : ∀ j (hj : j < zs.length), hI (hpI h 524 zs[i].1 1) 512 zs[j].1 = zs[j].2.2.1 := fun j hj => by rw [g2 512 (by decide)]; exact (kz _ (List.getElem_mem hj)).2.1
  generalize hpI h 524 zs[i].1 1 = H at c0 k1 g1 g2 r1 hg1 cap1 nm1 ⊢
  have wH := c0.2.2.1
  have kz1 : ∀ z ∈ zs, sgX H N U z := fun z hz => (k1.2.choose_spec.2.2 z hz).1
  have ks1 : hK H zs[i].1 = 9 := (kz1 _ hz).1.1
  obtain ⟨j1, j2, l', j3, j4, hsz, hgt⟩ := k1.calls (P := P)
  have el : l' = l := by rw [r1, hl] at j3; exact (Option.some.inj j3).symm
  subst el
  have lp := cnt_loop i (fun _ h1 => h1 = H) (fun j h1 => Ev g P 22 7 [some (va_rf (some L)), some (va_rf (some zs[i].1)), some (.int (nI j))] [] h1 (fun h' x => x = none ∧ lgF g h' N U L (rmZ zs i) ∧ hI h' 524 zs[i].1 = 1 ∧ (∀ f, ¬ f = 524 → hI h' f zs[i].1 = hI h f zs[i].1) ∧ hR h' 256 L = some l' ∧ hR h' 1 l' = hR h 1 l' ∧ capO g h' l' = capO g h l' ∧ Ch (fun a => a = zs[i].1 ∨ a = l' ∨ hR h 1 l' = some a) 0 0 h h')) ?_ ?_ H rfl
  · rw [nI_0] at lp; exact lp
  · intro j h1 hj e kn
    subst e
    have hjl : j < zs.length := by omega
    refine s_22_7 (hc := hsz) (kk := fun h2 x ⟨e1, e2⟩ => ?_)
    subst e1; subst e2
    refine s_22_15 (kt := fun z => absurd z (nI_ge hjl j2)) (kf := fun _ => ?_)
    refine s_22_18 (hc := hgt j hjl) (kk := fun h3 x ⟨e1, e2⟩ => ?_)
    subst e1; subst e2
    have kj := (kz1 _ (List.getElem_mem hjl)).1.1
    refine s_22_26 (c1 := fun b eb => by cases eb; exact kj) (k4 := kj) (k7 := ks1) (kt := fun _ => s_22_49 ?_) (kf := fun z => ?_)
    · rw [nI_1]; exact kn _ rfl
    · rw [nm1 j hjl, nm1 i hi] at z
      have := nd j hjl z
      omega
  · intro h1 e
    subst e
    refine s_22_7 (hc := hsz) (kk := fun h2 x ⟨e1, e2⟩ => ?_)
    subst e1; subst e2
    refine s_22_15 (kt := fun z => absurd z (nI_ge hi j2)) (kf := fun _ => ?_)
    refine s_22_18 (hc := hgt i hi) (kk := fun h3 x ⟨e1, e2⟩ => ?_)
    subst e1; subst e2
    refine s_22_26 (c1 := fun b eb => by cases eb; exact ks1) (k4 := ks1) (k7 := ks1) (kt := fun z => absurd rfl z) (kf := fun _ => ?_)
    obtain ⟨q1, l2, q2, q3, q4⟩ := k1
    have el2 : l2 = l' := by rw [j3] at q2; exact (Option.some.inj q2).symm
    subst el2
    have hrm : EvA g P 197 [va_rf (hR h3 256 L), .int (nI i)] h3 (fun h' r => r = some (zs.map (·.1))[i]! ∧ tLs g h' 8 l2 (rmv (zs.map (·.1)) i) ∧ capO g h' l2 = capO g h3 l2 ∧ hR h' 1 l2 = hR h3 1 l2 ∧ Ch (fun a => a = l2 ∨ hR h3 1 l2 = some a) 0 0 h3 h') := by
      rw [j3]
      have hil : i < (zs.map (·.1)).length := by rw [List.length_map]; exact hi
      have := m_remove (P := P) wH hg1 q3 hil
      rw [getElem!_pos (zs.map (·.1)) i hil]
      exact this
    refine s_22_39 (hc := hrm) (kk := fun h4 x ⟨z1, z2, z3, z4, z5⟩ => s_22_47 ⟨rfl, ?_⟩)
    have ke : ∀ a, hR h3 1 l2 = some a → hK h3 a = 0 ∨ hK h3 a = 28 := by
      intro a ha
      obtain ⟨⟨-, -, e, b3, b4⟩, -, -⟩ := q3
      rw [b3] at ha
      cases ha
      rcases b4 with ⟨b4, -⟩ | ⟨b4, -⟩
      · exact Or.inl (b4 ▸ hg1.2.1)
      · exact Or.inr b4
    have nA : ∀ a, ¬ hK h3 a = 0 → ¬ hK h3 a = 1 → ¬ hK h3 a = 28 → ¬ (a = l2 ∨ hR h3 1 l2 = some a) := by
      rintro a a1 a2 a3 (e | e)
      · rw [e] at a2; exact a2 j4
      · rcases ke a e with q | q <;> contradiction
    have sL : Sm h3 h4 L := z5.sm (nA L (by omega) (by omega) (by omega)) (wH.lt (by omega))
    have ss : Sm h3 h4 zs[i].1 := z5.sm (nA _ (by omega) (by omega) (by omega)) (wH.lt (by omega))
    refine ⟨⟨by rw [sL.1]; exact q1, l2, by rw [(sL.2.1 256).2]; exact j3, ?_, fun z hz' => ?_⟩, ?_, fun f nf' => ?_, ?_, ?_, z3.trans cap1, ?_⟩
    · have e : (rmZ zs i).map (·.1) = rmv (zs.map (·.1)) i := by
        unfold rmZ rmv
        rw [List.map_append, List.map_take, List.map_drop]
      rw [e]; exact z2
    · have hzz := rmZ_sub hz'
      have kzz := kz1 z hzz
      obtain ⟨l0, l1, l2', l3, l4, l5, l6⟩ := sgV.lts wH kzz
      obtain ⟨a1, -, -, -, -, -, a7, a8, a9, a10, a11, -⟩ := kzz.1
      have sp : ∀ q ∈ zPs z, Sm h3 h4 q := fun q hq => z5.sm (nA q (by rw [(l6 q hq).2]; decide) (by rw [(l6 q hq).2]; decide) (by rw [(l6 q hq).2]; decide)) (l6 q hq).1
      refine ⟨sgV.fr kzz (z5.sm (nA _ (by omega) (by omega) (by omega)) l0) (z5.sm (nA _ (by omega) (by omega) (by omega)) l1) (z5.sm (nA _ (by omega) (by omega) (by omega)) l2') (z5.sm (nA _ (by omega) (by omega) (by omega)) l3) (z5.sm (nA _ (by omega) (by omega) (by omega)) l4) (z5.sm (nA _ (by omega) (by omega) (by omega)) l5) sp, fun q hq => ?_⟩
      obtain ⟨o1, o2⟩ := (q4 z hzz).2 q hq
      refine ⟨o1.sm (sp q hq), fun s hs => ?_⟩
      rw [((sp q hq).2.1 395).2] at hs
      have := o2 s hs
      rw [(z5.2.1 s (wH.lt (by omega))).1]; exact this
    · rw [(ss.2.1 524).1]; exact g1
    · rw [(ss.2.1 f).1]; exact g2 f nf' _
    · rw [(sL.2.1 256).2]; exact j3
    · rw [z4, r1]
    · refine (c0.tr z5).mono (fun a _ q => ?_) (Nat.le_refl _) (Nat.le_refl _)
      rcases q with q | q | q
      · exact Or.inl q
      · exact Or.inr (Or.inl q)
      · rw [r1] at q; exact Or.inr (Or.inr q)
end GO
