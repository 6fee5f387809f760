/-! Storage.clean, whole -/
section CLEAN
variable {g : gcT} {P : pmT} {o o' : Nat → Nat} {h h' : hpT} {a b e v l N U L rep nm nx s sv cl : Nat} {R : arT} {up : Int32} {xs xs' ys : List Nat} {zs ts : List svT} {B : Nat → Prop} {c m c' m' : Nat}
theorem row28 (hg : gOK g h) (kl : tLs g h cl l ys) : ∀ d, hR h 1 l = some d → hK h d = 0 ∨ hK h d = 28 := by
  intro d hd
  obtain ⟨⟨-, -, e, b3, b4⟩, -, -⟩ := kl
  rw [b3] at hd
  cases hd
  rcases b4 with ⟨b4, -⟩ | ⟨b4, -⟩
  · exact Or.inl (b4 ▸ hg.2.1)
  · exact Or.inr b4
theorem cgL (w : hWF h) (hg : gOK g h) (kl : tLs g h cl l ys) (ow : ownL h o b l) (rb : o b = b) (x : Ch (fun y => y = l ∨ hR h 1 l = some y) c m h h') (e : ∀ a, a < hS h → o' a = o a) (ok : oOK o') : CG (fun y => y = b) c m h o h' o' := by
  have k1 := kl.1.1
  refine CG.of x (fun a ha q => ?_) e ok (nm9 w x (fun a q => ?_))
  · rcases q with q | q
    · rw [q]; exact ⟨by omega, Or.inr (by rw [ow.1]; exact rb)⟩
    · rcases row28 hg kl a q with z | z
      · exact ⟨by omega, Or.inl z⟩
      · exact ⟨by omega, Or.inr (by rw [ow.2 a q z, ow.1])⟩
  · rcases q with q | q
    · rw [q]; omega
    · rcases row28 hg kl a q with z | z <;> omega
theorem stR.list (w : hWF h) (hg : gOK g h) (st : stR g h o a e v R l N U rep up nm xs) (x : Ch (fun y => y = l ∨ hR h 1 l = some y) c m h h') (eo : ∀ a, a < hS h → o' a = o a) (kl' : tLs g h' 8 l xs') (ow' : ownL h' o' a l) : stR g h' o' a e v R l N U rep up nm xs' ∧ ∀ y, ¬ hK h y = 0 → ¬ hK h y = 1 → ¬ hK h y = 28 → Sm h h' y := by
  obtain ⟨⟨s1, s2, s3, s4, s5, s6, s7, s8⟩, ⟨r1, r2⟩, ⟨v1, v2, v3, v4⟩, l1, l2, l3⟩ := st
  have so : ∀ y, ¬ hK h y = 0 → ¬ hK h y = 1 → ¬ hK h y = 28 → Sm h h' y := by
    intro y y0 y1 y28
    refine x.sm ?_ (w.lt y0)
    rintro (q | q)
    · rw [q] at y1; exact y1 l2.1.1
    · rcases row28 hg l2 y q with z | z <;> contradiction
  have sa := so a (by omega) (by omega) (by omega)
  have kv := v2.1
  have sv := so v (by omega) (by omega) (by omega)
  have le : e < hS h := w.lt (by omega)
  exact ⟨⟨⟨by rw [sa.1]; exact s1, by rw [(sa.2.1 643).2]; exact s2, by rw [(x.2.1 e le).1]; exact s3, by rw [(x.2.1 e le).2]; exact s4, by rw [(sa.2.1 640).1]; exact s5, by rw [(sa.2.1 641).1]; exact s6, by rw [(sa.2.1 646).1]; exact s7, by rw [(sa.2.1 648).1]; exact s8⟩, ⟨by rw [eo a (w.lt (by omega))]; exact r1, by rw [eo e le]; exact r2⟩, ⟨by rw [(sa.2.1 644).2]; exact v1, v2.ch w x (fun f => (sv.2.1 f).2), ownV.fr w v2 v3 eo, by rw [eo v (v2.lts w).1]; exact v4⟩, by rw [(sa.2.1 645).2]; exact l1, kl', ow'⟩, so⟩
theorem tLs.wI (k : tLs g h cl l ys) {f a : Nat} {y : Int32} (hf : ¬ f = 2) : tLs g (hpI h f a y) cl l ys := by
  obtain ⟨⟨b1, b2, d⟩, b5⟩ := k
  exact ⟨⟨b1, by rw [rI_I, if_neg (fun q => hf q.1.symm)]; exact b2, d⟩, b5⟩
theorem stR.wI (st : stR g h o a e v R l N U rep up nm xs) {f : Nat} {y : Int32} (hf : f = 647 ∨ 649 ≤ f) : stR g (hpI h f a y) o a e v R l N U rep up nm xs := by
  obtain ⟨⟨s1, s2, s3, s4, s5, s6, s7, s8⟩, r, vv, l1, l2, l3⟩ := st
  have eI : ∀ f', f' = 640 ∨ f' = 641 ∨ f' = 646 ∨ f' = 648 → hI (hpI h f a y) f' a = hI h f' a := fun f' hf' => by rw [rI_I, if_neg (fun q => by omega)]
  exact ⟨⟨s1, s2, s3, s4, by rw [eI 640 (by omega)]; exact s5, by rw [eI 641 (by omega)]; exact s6, by rw [eI 646 (by omega)]; exact s7, by rw [eI 648 (by omega)]; exact s8⟩, r, vv, l1, l2.wI (by omega), l3⟩
theorem clean_3 {n0 : Nat} {x4 x5 : Int32} {o6 o7 : Option Value} (w : hWF h) (hg : gOK g h) (ok : oOK o) (st : stR g h o a e v R l N U rep up nm xs) (hn : n0 < 2 ^ 31) : Ev g P 48 174 [some (va_rf (some a)), some (va_rf (some s)), some (va_rf (some L)), some (.int (nI n0)), some (.int x4), some (.int x5), o6, o7] [] h (fun h' r => r = none ∧ CG (fun y => y = a) 0 0 h o h' o ∧ stR g h' o a e v R l N U rep up nm [] ∧ (∀ f, ¬ f = 649 → hI h' f a = hI h f a) ∧ (∀ f, hR h' f a = hR h f a) ∧ hI h' 649 a = hI h 649 a + (if 0 < n0 ∨ ¬ x5 = 0 then 1 else 0) ∧ capO g h' l = capO g h l) := by
  have ra := st.2.1.1
  have ka := st.1.1
  have la : a < hS h := w.lt (by omega)
  have fin : ∀ hh, CG (fun y => y = a) 0 0 h o hh o → stR g hh o a e v R l N U rep up nm xs → (∀ f, ¬ f = 649 → hI hh f a = hI h f a) → (∀ f, hR hh f a = hR h f a) → hI hh 649 a = hI h 649 a + (if 0 < n0 ∨ ¬ x5 = 0 then 1 else 0) → capO g hh l = capO g h l → Ev g P 48 193 [some (va_rf (some a)), some (va_rf (some s)), some (va_rf (some L)), some (.int (nI n0)), some (.int x4), some (.int x5), o6, o7] [] hh (fun h' r => r = none ∧ CG (fun y => y = a) 0 0 h o h' o ∧ stR g h' o a e v R l N U rep up nm [] ∧ (∀ f, ¬ f = 649 → hI h' f a = hI h f a) ∧ (∀ f, hR h' f a = hR h f a) ∧ hI h' 649 a = hI h 649 a + (if 0 < n0 ∨ ¬ x5 = 0 then 1 else 0) ∧ capO g h' l = capO g h l) := by
    intro hh cg sth f1 f2 f3 f4
    have wh := cg.w
    have hgh := hg.ch cg.1
    have hl := sth.2.2.2.1
    have kl := sth.2.2.2.2.1
    have ow := sth.2.2.2.2.2
    have hclr : EvV g P 199 [va_rf (hR hh 645 a)] hh (fun h' => tLs g h' 8 l [] ∧ capO g h' l = capO g hh l ∧ hR h' 1 l = hR hh 1 l ∧ Ch (fun y => y = l ∨ hR hh 1 l = some y) 0 0 hh h') := by rw [hl]; exact m_clear wh hgh kl
    refine s_48_193 (k3 := sth.1.1) (e5 := hl) (k6 := kl.1.1) (hc := hclr) (kk := fun h9 ⟨d1, d2, d3, d4⟩ => s_48_200 ⟨rfl, ?_⟩)
    have cg9 := cgL wh hgh kl ow ra d4 (fun _ _ => rfl) ok
    have ow9 : ownL h9 o a l := by
      refine ⟨ow.1, fun d hd kd => ?_⟩
      rw [d3] at hd
      rcases row28 hgh kl d hd with z | z
      · obtain ⟨⟨-, -, d', b3, b4⟩, -, -⟩ := kl
        rw [b3] at hd
        cases hd
        rcases b4 with ⟨b4, -⟩ | ⟨b4, -⟩
        · rw [b4, (d4.2.1 _ hgh.2.2.2.2).1, hgh.2.1] at kd
          exact absurd kd (by decide)
        · omega
      · exact ow.2 d hd z
    obtain ⟨st9, so⟩ := stR.list wh hgh sth d4 (fun _ _ => rfl) d1 ow9
    have kah := sth.1.1
    have sa := so a (by omega) (by omega) (by omega)
    exact ⟨CG.tr w ok cg cg9, st9, fun f hf => by rw [(sa.2.1 f).1]; exact f1 f hf, fun f => by rw [(sa.2.1 f).2]; exact f2 f, by rw [(sa.2.1 649).1]; exact f3, d2.trans f4⟩
  have inc : 0 < n0 ∨ ¬ x5 = 0 → Ev g P 48 183 [some (va_rf (some a)), some (va_rf (some s)), some (va_rf (some L)), some (.int (nI n0)), some (.int x4), some (.int x5), o6, o7] [] h (fun h' r => r = none ∧ CG (fun y => y = a) 0 0 h o h' o ∧ stR g h' o a e v R l N U rep up nm [] ∧ (∀ f, ¬ f = 649 → hI h' f a = hI h f a) ∧ (∀ f, hR h' f a = hR h f a) ∧ hI h' 649 a = hI h 649 a + (if 0 < n0 ∨ ¬ x5 = 0 then 1 else 0) ∧ capO g h' l = capO g h l) := by
    intro hc
    have cw := Ch.wI (f := 649) (a := a) w (hI h 649 a + 1) la
    refine s_48_183 (k3 := ka) (kk := fin _ (CG.of0 cw ok (fun x _ hx => ⟨by rw [hx]; omega, Or.inr (by rw [hx, ra]; exact ra)⟩) (nm9 w cw (fun x hx => by rw [hx]; omega))) (st.wI (Or.inr (by decide))) (fun f hf => by rw [rI_I, if_neg (fun q => hf q.1)]) (fun f => rfl) (by rw [rI_I, if_pos ⟨rfl, rfl⟩, if_pos hc]) rfl)
  refine s_48_174 (kt := fun z => inc (Or.inl ?_)) (kf := fun z => s_48_178 (kt := fun z5 => ?_) (kf := fun z5 => inc (Or.inr z5)))
  · rcases Nat.eq_zero_or_pos n0 with q | q
    · rw [q, nI_0] at z; exact absurd z (by decide)
    · exact q
  · refine fin h (CG.rf w ok _) st (fun _ _ => rfl) (fun _ => rfl) ?_ rfl
    rw [if_neg, Int32.add_zero]
    rintro (q | q)
    · exact z (by rw [← nI_0]; exact nI_lt q hn)
    · exact q z5
theorem zs_nodup (k : lgG g h o N U L zs) : (zs.map (·.1)).Nodup := by
  unfold List.Nodup
  rw [List.pairwise_iff_getElem]
  intro i j hi hj hij
  rw [List.getElem_map, List.getElem_map]
  intro q
  rw [List.length_map] at hi hj
  have := k.nd1 i j hi hj q
  omega
theorem aG_map (w : hWF h) (k : lgG g h o N U L zs) (x : CG B c m h o h' o') : ∀ z ∈ zs, aG h' z = aG h z := by
  intro z hz
  unfold aG
  have := (k.1.2.choose_spec.2.2 z hz).2
  rw [List.map_congr_left (fun q hq => pA.cg w (this q hq).1.1.1 (this q hq).2 x)]
theorem rmS_N (inj : ∀ z ∈ zs, ∀ t ∈ ts, (nmN z = nmN t ↔ z.1 = t.1)) : (rmS zs ts).map (aG h) = rmN (zs.map (aG h)) (ts.map nmN) := by
  have e1 : rmS zs ts = zs.filter (fun z => !((ts.map (·.1)).contains z.1)) := by
    clear inj
    induction ts generalizing zs with
    | nil => exact (List.filter_eq_self.mpr (fun _ _ => rfl)).symm
    | cons t ts ih =>
      show rmS (rmA zs t.1) ts = _
      rw [ih]
      unfold rmA
      rw [List.filter_filter]
      refine List.filter_congr (fun z _ => ?_)
      rw [List.map_cons, List.contains_cons]
      by_cases q : z.1 = t.1
      · simp [q]
      · simp [q]
  rw [e1]
  unfold rmN
  rw [List.filter_map]
  refine congrArg _ (List.filter_congr (fun z hz => ?_))
  have : (ts.map (·.1)).contains z.1 = (ts.map nmN).contains (nmN z) := by
    rw [Bool.eq_iff_iff, List.contains_iff_mem, List.contains_iff_mem, List.mem_map, List.mem_map]
    constructor
    · rintro ⟨t, ht, e⟩
      exact ⟨t, ht, ((inj z hz t ht).mpr e.symm).symm⟩
    · rintro ⟨t, ht, e⟩
      exact ⟨t, ht, ((inj z hz t ht).mp e.symm).symm⟩
  rw [this]
  rfl
theorem cz_A (k : lgK g h o N U L nx zs) (hx : nx ≤ 100000000) {S : syT} (bS : bg0 S) (km : ∀ i (hi : i < zs.length), lvR h (lvT h (lrL h zs S) zs i) zs[i] h') (eG : ∀ z ∈ zs, aG h' z = aG h z) : zs.map (cz h') = crA (zs.map (aG h)) := by
  obtain ⟨m1, m2⟩ := mark_A k hx bS km
  unfold crA
  refine List.ext_getElem? (fun i => ?_)
  rw [List.getElem?_map, List.getElem?_zipWith, List.getElem?_map]
  by_cases hi : i < zs.length
  · obtain ⟨x, x1, x2, x3, x4⟩ := m2 i hi
    rw [List.getElem?_eq_getElem hi, x1]
    show some (cz h' zs[i]) = some _
    have ez := eG _ (List.getElem_mem hi)
    have ep : (zPs zs[i]).map (pA h') = (zPs zs[i]).map (pA h) := congrArg (fun z : agT => z.2.1) ez
    show some ((nmN zs[i], hI h' 521 zs[i].1, _) : cT) = some (nmN zs[i], x.2, lpA x.1 ((zPs zs[i]).map (pA h)))
    rw [x3, ← ep]
    refine congrArg some (congrArg (fun l => (nmN zs[i], x.2, l)) ?_)
    unfold liveL lpA
    rw [List.length_map, List.map_flatMap, List.flatMap_def, List.flatMap_def]
    refine congrArg List.flatten (List.map_congr_left (fun j hj => ?_))
    have hj := List.mem_range.mp hj
    rw [x4 j hj]
    by_cases q : x.1.getD j 0 = 0
    · rw [if_pos q, if_pos q]; rfl
    · rw [if_neg q, if_neg q, List.getElem?_map, List.getElem?_eq_getElem hj, List.getD_eq_getElem?_getD, List.getElem?_eq_getElem hj]
      rfl
  · rw [List.getElem?_eq_none (by omega)]
    rfl
theorem addL_A {h : hpT} : ∀ (ls : List Nat) (t : svT), zPs t = [] → t.2.2.2.2.1 = [] → (∀ x ∈ t.2.2.2.2.2, x.2 = 0) → aG h (ls.foldl addE t) = pkG (nmN t) t.2.2.2.2.2 (ls.map (pA h)) := by
  intro ls t e1 e2 e3
  have key : ∀ n, n ≤ ls.length → (((ls.take n).foldl addE t).2.2.2.2.1 = (List.range n).map (· + 1)) ∧ (((ls.take n).foldl addE t).2.2.2.2.2 = t.2.2.2.2.2.map (fun x => (x.1, n))) := by
    intro n
    induction n with
    | zero =>
      intro _
      refine ⟨e2, ?_⟩
      show t.2.2.2.2.2 = _
      refine (List.map_id' _).symm.trans (List.map_congr_left (fun x hx => ?_))
      rw [← e3 x hx]
    | succ n ih =>
      intro hn
      obtain ⟨i1, i2⟩ := ih (by omega)
      have hnl : n < ls.length := hn
      rw [take_1 hnl, List.foldl_append]
      have f4 := (addL_fix (ls.take n) t).2.2.2
      generalize (ls.take n).foldl addE t = t' at i1 i2 f4
      have hlen : t'.2.2.2.1.length = n := by
        have : zPs t' = ls.take n := by rw [f4, e1, List.nil_append]
        show (zPs t').length = n
        rw [this, List.length_take]; omega
      constructor
      · show t'.2.2.2.2.1 ++ [t'.2.2.2.1.length + 1] = _
        rw [i1, hlen, List.range_succ, List.map_append]; rfl
      · show updH t'.2.2.2.2.2 t'.2.2.2.2.2.length (t'.2.2.2.2.1.length + 1) = _
        rw [i1, i2, List.length_map, List.length_map, List.length_range]
        unfold updH
        refine List.ext_getElem (by rw [List.length_mapIdx, List.length_map, List.length_map]) (fun i h1 h2 => ?_)
        rw [List.getElem_mapIdx, List.getElem_map, List.getElem_map]
        rw [List.length_mapIdx, List.length_map] at h1
        rw [if_pos h1]
  obtain ⟨k1, k2⟩ := key ls.length (Nat.le_refl _)
  rw [List.take_length] at k1 k2
  obtain ⟨f1, f2, f3, f4⟩ := addL_fix ls t
  unfold aG pkG
  rw [k1, k2, f4, e1, List.nil_append, List.length_map]
  have : nmN (ls.foldl addE t) = nmN t := by unfold nmN; rw [f3]
  rw [this]
theorem nsH_0 {up : Int32} {N rep nm sv : Nat} : ∀ i, ∀ x ∈ nsH up N rep nm sv i, x.2 = 0 := by
  intro i
  induction i with
  | zero => intro x hx; exact absurd hx List.not_mem_nil
  | succ i ih =>
    intro x hx
    rw [nsH_1] at hx
    unfold nsF at hx
    split at hx
    · exact ih x hx
    · split at hx
      · exact ih x hx
      · split at hx
        · rcases List.mem_append.mp hx with q | q
          · exact ih x q
          · rw [List.mem_singleton] at q; rw [q]
        · exact ih x hx
end CLEAN
