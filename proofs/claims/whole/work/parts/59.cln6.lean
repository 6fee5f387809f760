section CLEAN
variable {g : gcT} {P : pmT} {o o' : Nat → Nat} {h h' : hpT} {a b e v l ll N U L rep nm nx s sv cl : Nat} {R : arT} {up : Int32} {xs0 : List Nat} {zs ts : List svT} {t : svT} {B : Nat → Prop} {c m c' m' : Nat} {ltn : Option Nat}
theorem cz_sm (s1 : Sm h h' t.1) (s2 : Sm h h' (zLv t)) (ep : ∀ q ∈ zPs t, pA h' q = pA h q) : cz h' t = cz h t := by
  have eL : hA h' (zLv t) = hA h (zLv t) := funext (fun i => (s2.2.2.2 i).1)
  unfold cz
  rw [(s1.2.1 521).1, eL]
  refine congrArg (fun x => (nmN t, hI h 521 t.1, x)) (List.map_congr_left (fun q hq => ep q (liveL_mem (Nat.le_refl _) hq)))
theorem fm_cz (ls : List svT) : (ls.flatMap (fun z => liveL (hA h (zLv z)) (zPs z) (zPs z).length)).map (pA h) = (ls.map (cz h)).flatMap (·.2.2) := by
  induction ls with
  | nil => rfl
  | cons z ls ih =>
    rw [List.flatMap_cons, List.map_append, ih, List.map_cons, List.flatMap_cons]
    rfl
theorem nI_sb {a b : Nat} (hb : b ≤ a) : nI a - nI b = nI (a - b) := by
  have : nI a = nI (a - b) + nI b := by rw [nI_ad, Nat.sub_add_cancel hb]
  rw [this, Int32.add_sub_cancel]
/-- what CLEANING leaves -/
def clnR (g : gcT) (h : hpT) (o : Nat → Nat) (a e v : Nat) (R : arT) (l ll N U L rep : Nat) (up : Int32) (nm sv : Nat) (ltn : Option Nat) (zs : List svT) (h' : hpT) : Prop := ∃ o' zs', CG (fun y => y = a ∨ y = L) (6 * ((clnA N U rep up nm sv ltn (zs.map (aG h))).2.1 - nm) + ((capO g h' l - capO g h l) + (capO g h' ll - capO g h ll))) ((nf 8 + (3 * U + 2 * N)) * ((clnA N U rep up nm sv ltn (zs.map (aG h))).2.1 - nm) + 4 * ((capO g h' l - capO g h l) + (capO g h' ll - capO g h ll))) h o h' o' ∧ stR g h' o' a e v R l N U rep up (clnA N U rep up nm sv ltn (zs.map (aG h))).2.1 [] ∧ lgK g h' o' N U L (clnA N U rep up nm sv ltn (zs.map (aG h))).2.1 zs' ∧ zs'.map (aG h') = (clnA N U rep up nm sv ltn (zs.map (aG h))).1 ∧ Sm h h' L ∧ (∀ f, ¬ f = 648 → ¬ f = 649 → hI h' f a = hI h f a) ∧ (∀ f, hR h' f a = hR h f a) ∧ hI h' 649 a = hI h 649 a + (clnA N U rep up nm sv ltn (zs.map (aG h))).2.2 ∧ (∀ z ∈ zs, some z.1 = hR h 258 L → z ∈ zs') ∧ (capO g h l ≤ capO g h' l ∧ capO g h' l ≤ max (capO g h l) (2 * zs.length + 10)) ∧ (capO g h ll ≤ capO g h' ll ∧ capO g h' ll ≤ max (capO g h ll) (2 * zs.length + 10)) ∧ ((clnA N U rep up nm sv ltn (zs.map (aG h))).2.1 = nm → capO g h' ll = capO g h ll)
theorem m_clean (hP6 : P 206 = cpyO) (w : hWF h) (hg : gOK g h) (ok : oOK o) (st : stR g h o a e v R l N U rep up nm xs0) (kl : lgK g h o N U L nm zs) (hll : hR h 256 L = some ll) (ks : hK h s = 10) (os : o s = s) (hsL : hR h 584 s = some L) (hsv : hI h 576 s = nI sv) (hN0 : 0 < N) (hNb : N ≤ 30) (hUb : U ≤ 100) (hrb : rep ≤ N) (hnb : nm ≤ 99999999) (hsb : sv < N) (hz : zs.length ≤ 100000) (hlt : ∀ z ∈ zs, some z.1 = hR h 258 L ↔ some (nmN z) = ltn) : EvV g P 48 [va_rf (some a), va_rf (some s)] h (clnR g h o a e v R l ll N U L rep up nm sv ltn zs) := by
  have st' := st
  obtain ⟨⟨s1, s2, s3, s4, s5, s6, s7, s8⟩, ⟨r1, r2⟩, ⟨v1, v2, v3, v4⟩, l1, l2, l3⟩ := st'
  have kG := kl.1
  have kL := kG.1.1
  have nLa : ¬ L = a := kinds_ne (h := h) (by omega)
  have naL : ¬ a = L := fun q => nLa q.symm
  have sep := kG.sep v2 v3
  have hmark : EvV g P 59 [va_rf (hR h 644 a), va_rf (hR h 584 s)] h (fun h' => ∃ S, bg0 S ∧ svA h' v R ∧ mkC v R zs h h' ∧ ∀ i (hi : i < zs.length), lvR h (lvT h (lrL h zs S) zs i) zs[i] h') := by rw [v1, hsL]; exact m_markLive w hg v2 kG.1 sep.1 kG.nd1 kG.nd2
  refine e_48 (s_48_0 (k3 := ks) (k6 := s1) (e8 := v1) (k9 := v2.1) (hc := hmark) (kk := fun h1 ⟨S, bS, kv1, mc, km⟩ => ?_))
  rw [hsL]
  obtain ⟨cg1, st1, kl1, smk, eG1, k91⟩ := stR.mark w hg ok st kl mc kv1
  have w1 := cg1.w
  have hg1 := hg.ch cg1.1
  have ecz := cz_A kl (by omega) bS km eG1
  have nl : ∀ l', hR h1 256 L = some l' → ¬ l' = l ∧ ∀ d, hR h1 1 l' = some d → hK h1 d = 28 → ¬ hR h1 1 l = some d := by
    intro l' hl'
    have ow' := kl1.1.2.1 l' hl'
    have owl := st1.2.2.2.2.2
    have n1 : ¬ l' = l := fun q => by
      have := ow'.1
      rw [q, owl.1] at this
      exact nLa this.symm
    exact ⟨n1, fun d hd kd hd' => n1 (by rw [← ow'.2 d hd kd, owl.2 d hd' kd])⟩
  refine s_48_13 (k3 := st1.1.1) (hc := m_sort hP6 w1 hg1 st1.1.1 st1.2.2.2.1 st1.2.2.2.2.1 kl1.1.1 hz nl) (kk := fun h2 ⟨t1, gr, lg2⟩ => s_48_18 ?_)
  have sL1 := smk L (by omega)
  have sa1 := smk a (by omega)
  have e258 : hR h1 258 L = hR h 258 L := (sL1.2.1 258).2
  obtain ⟨ts, q1, q2, q3, q4, q5⟩ := srt_Z (h := h1) (lt := hR h1 258 L) (ltn := ltn) zs [] (by rw [e258]; exact hlt) (zs_nodup kl1.1) (fun _ ht => absurd ht List.not_mem_nil) List.nodup_nil (fun _ ht => absurd ht List.not_mem_nil)
  rw [List.map_nil] at q1 q2
  rw [q1] at t1
  rw [e258] at q5
  have hts : ∀ t ∈ ts, t ∈ zs := fun t ht => (q3 t ht).elim (fun q => absurd q List.not_mem_nil) id
  generalize hA0 : zs.map (aG h) = A at ecz
  have ecs : ts.map (cz h1) = clC ltn A := by rw [← q2, ecz]; rfl
  obtain ⟨cg2, ow2⟩ := Grew.cg w1 ok hg1 st1.2.2.2.2.1 st1.2.2.2.2.2 r1 gr t1
  generalize oX o h1 l = o2 at cg2 ow2
  have ok2 := cg2.2.2.1
  have kl2 := lgK.fr w1 hg1 kl1 cg2 nLa
  obtain ⟨st2, so2⟩ := stR.list w1 hg1 st1 gr.2.2.1 cg2.2.1 t1 ow2
  have w2 := cg2.w
  have hg2 := hg1.ch cg2.1
  have k9z : ∀ {h''}, (∀ z ∈ zs, sgX h'' N U z) → ∀ z ∈ zs, hK h'' z.1 = 9 ∧ hK h'' (zLv z) = 21 := fun k z hz => ⟨(k z hz).1.1, (k z hz).1.2.2.2.2.2.2.2.1.1⟩
  have ecz2 : ∀ t ∈ ts, cz h2 t = cz h1 t := by
    intro t ht
    obtain ⟨d1, d2⟩ := k9z kl1.1.sg t (hts t ht)
    refine cz_sm (so2 _ (by omega) (by omega) (by omega)) (so2 _ (by omega) (by omega) (by omega)) (fun q hq => ?_)
    have := (kl1.1.1.2.choose_spec.2.2 t (hts t ht)).2 q hq
    exact pA.cg w1 this.1.1.1 this.2 cg2
  have ecs2 : ts.map (cz h2) = clC ltn A := by rw [← ecs]; exact List.map_congr_left ecz2
  have en0 : zN (ts.map (cz h2)) = clZ ltn A := by rw [ecs2]; rfl
  refine clean_1 w2 hg2 ok2 st2 kl2 hts q4 (fun h3 c3 => ?_)
  rw [en0] at c3 ⊢
  have hlen2 := t1.1.len
  rw [List.length_map] at hlen2
  have hn0l : clZ ltn A ≤ ts.length := by rw [← en0]; have := zN_le (ts.map (cz h2)); rw [List.length_map] at this; exact this
  have w3 := c3.1.w
  have hg3 := hg2.ch c3.1.1
  have st3 := stR.fr w2 hg2 st2 c3.1 naL
  have hEg := ep_ge (U := nI U) ((clC ltn A).drop (clZ ltn A)) (clZ ltn A) 0
  have hcl : (clC ltn A).length = ts.length := by rw [← ecs2, List.length_map]
  have hn0E : clZ ltn A ≤ clE U ltn A := hEg.1
  have hEl : clE U ltn A ≤ ts.length := by
    have := hEg.2
    rw [List.length_drop, hcl] at this
    show epC _ _ _ _ ≤ _
    omega
  have hE : epN h3 (hI h3 641 a) ((ts.map (·.1)).drop (clZ ltn A)) (clZ ltn A) 0 = clE U ltn A := by
    rw [st3.1.2.2.2.2.2.1, ← List.map_drop, ep_C (h := h2) (fun t ht => c3.2.2.2.1 t.1 (k9z kl2.1.sg t (hts t (List.mem_of_mem_drop ht))).1 521 (by decide)), List.map_drop, ecs2]
    rfl
  have hep := m_endOfPacked (g := g) (P := P) (i0 := clZ ltn A) st3.1.1 st3.2.2.2.1 st3.2.2.2.2.1 (by rw [List.length_map]; exact hn0l)
  rw [hE] at hep
  -- from h to h3
  have cg1' : CG (fun y => y = a ∨ y = L) 0 0 h o h1 o := cg1
  have cg2' : CG (fun y => y = a ∨ y = L) (capO g h2 l - capO g h1 l) (4 * (capO g h2 l - capO g h1 l)) h1 o h2 o2 := cg2.mono ok (fun y _ q => Or.inl q) (Nat.le_refl _) (Nat.le_refl _)
  have cg3' : CG (fun y => y = a ∨ y = L) 0 0 h2 o2 h3 o2 := c3.1.mono ok2 (fun y _ q => Or.inr q) (Nat.le_refl _) (Nat.le_refl _)
  have cg03 := CG.tr w ok (CG.tr w ok cg1' cg2') cg3'
  have kll := l2.1.1
  have lltl := kG.1.2
  obtain ⟨ll', lle, tll, -⟩ := lltl
  rw [hll] at lle
  cases lle
  have kll' := tll.1.1
  have cap1 : capO g h1 l = capO g h l := capO.fr w l2 cg1.1 (smk l (by omega))
  have cap1L : capO g h1 ll = capO g h ll := capO.fr w tll cg1.1 (smk ll (by omega))
  have hll1 : hR h1 256 L = some ll := by rw [(sL1.2.1 256).2]; exact hll
  have tll1 : tLs g h1 8 ll (zs.map (·.1)) := by
    obtain ⟨-, y, y1, y2, -⟩ := kl1.1.1
    rw [hll1] at y1
    cases y1
    exact y2
  have cap2L : capO g h2 ll = capO g h1 ll := capO.fr w1 tll1 cg2.1 (cg2.sm w1 (by rw [(kl1.1.2.1 ll hll1).1, kl1.2.1]; exact nLa) (by have := tll1.1.1; omega))
  have sL2 : Sm h1 h2 L := cg2.sm w1 (by rw [kl1.2.1, kl1.2.1]; exact nLa) (by have := kl1.1.1.1; omega)
  have hll2 : hR h2 256 L = some ll := by rw [(sL2.2.1 256).2]; exact hll1
  have cap3L : capO g h3 ll = capO g h2 ll := c3.2.2.2.2.2 ll hll2
  have kl2t := st2.2.2.2.2.1
  have cap3 : capO g h3 l = capO g h2 l := capO.fr w2 kl2t c3.1.1 (c3.1.sm w2 (by rw [st2.2.2.2.2.2.1, st2.2.1.1]; exact naL) (by have := kl2t.1.1; omega))
  have capg := gr.1
  have capg2 := gr.2.1
  have sL3 : Sm h h3 L := (sL1.tr sL2).tr c3.2.2.1
  have ka1 := st1.1.1
  have ka2 := st2.1.1
  have sa3 : Sm h h3 a := (sa1.tr (so2 a (by omega) (by omega) (by omega))).tr (c3.2.2.2.2.1 a (by omega) (by omega) (by omega) (by omega))
  have hll3 : hR h3 256 L = some ll := by rw [(sL3.2.1 256).2]; exact hll
  have inj : ∀ n, ∀ z ∈ zs, ∀ t ∈ ts.take n, (nmN z = nmN t ↔ z.1 = t.1) := by
    intro n z hz t ht
    obtain ⟨i, hi, ei⟩ := List.getElem_of_mem hz
    obtain ⟨j, hj, ej⟩ := List.getElem_of_mem (hts t (List.mem_of_mem_take ht))
    rw [← ei, ← ej]
    constructor
    · intro q
      have := kG.names i j hi hj q
      subst this
      rfl
    · intro q
      have := kG.nd1 i j hi hj q
      subst this
      rfl
  have tkn : ∀ n, (ts.take n).map nmN = ((clC ltn A).take n).map (·.1) := by
    intro n
    rw [← ecs2, ← List.map_take, List.map_map]
    rfl
  have lat : ∀ n, ∀ z ∈ zs, some z.1 = hR h 258 L → z ∈ rmS zs (ts.take n) := fun n z hz ez => rmS_mem.mpr ⟨hz, fun t ht q => q5 t (List.mem_of_mem_take ht) (by rw [← q]; exact ez)⟩
  refine s_48_69 (k3 := st3.1.1) (hc := hep) (kk := fun h3' x ⟨e1, e2⟩ => ?_)
  subst e1; subst e2
  have tail : ∀ (x5 : Int32) (o6 o7 : Option Value) (h6 : hpT) (o6' : Nat → Nat) (c6 m6 nm6 : Nat) (zs6 : List svT) (W : List agT × Nat × Int32), CG (fun y => y = a ∨ y = L) c6 m6 h o h6 o6' → stR g h6 o6' a e v R l N U rep up nm6 (ts.map (·.1)) → lgK g h6 o6' N U L nm6 zs6 → (∀ z ∈ zs6, aG h6 z ∈ W.1) → zs6.map (aG h6) = W.1 → Sm h h6 L → (∀ f, ¬ f = 648 → hI h6 f a = hI h f a) → (∀ f, hR h6 f a = hR h f a) → W.2.1 = nm6 → W.2.2 = (if 0 < clZ ltn A ∨ ¬ x5 = 0 then 1 else 0) → clnA N U rep up nm sv ltn A = W → (∀ z ∈ zs, some z.1 = hR h 258 L → z ∈ zs6) → capO g h6 l = capO g h3' l → capO g h ll ≤ capO g h6 ll → capO g h6 ll ≤ max (capO g h ll) (2 * zs.length + 10) → (W.2.1 = nm → capO g h6 ll = capO g h ll) → c6 ≤ 6 * (W.2.1 - nm) + ((capO g h3' l - capO g h l) + (capO g h6 ll - capO g h ll)) → m6 ≤ (nf 8 + (3 * U + 2 * N)) * (W.2.1 - nm) + 4 * ((capO g h3' l - capO g h l) + (capO g h6 ll - capO g h ll)) → Ev g P 48 174 [some (va_rf (some a)), some (va_rf (some s)), some (va_rf (some L)), some (.int (nI (clZ ltn A))), some (.int (nI (clE U ltn A))), some (.int x5), o6, o7] [] h6 (fun h' r => r = none ∧ clnR g h o a e v R l ll N U L rep up nm sv ltn zs h') := by
    intro x5 o6 o7 h6 o6' c6 m6 nm6 zs6 W cg6 st6 kl6 _ ea6 sL6 fi fr ew1 ew2 eW lat6 cpl cpL cpL2 cpL3 hc6 hm6
    have w6 := cg6.w
    have hg6 := hg.ch cg6.1
    have ok6 := cg6.2.2.1
    refine Ev.imp (clean_3 w6 hg6 ok6 st6 (by omega)) (fun h9 r ⟨er, d1, d2, d3, d4, d5, d6⟩ => ⟨er, ?_⟩)
    have d1' : CG (fun y => y = a ∨ y = L) 0 0 h6 o6' h9 o6' := d1.mono ok6 (fun y _ q => Or.inl q) (Nat.le_refl _) (Nat.le_refl _)
    have kl9 := lgK.fr w6 hg6 kl6 d1 nLa
    have hll6 : hR h6 256 L = some ll := by rw [(sL6.2.1 256).2]; exact hll
    have tl6 : tLs g h6 8 ll (zs6.map (·.1)) := by
      obtain ⟨-, y, y1, y2, -⟩ := kl6.1.1
      rw [hll6] at y1
      cases y1
      exact y2
    have cp9 : capO g h9 ll = capO g h6 ll := capO.fr w6 tl6 d1.1 (d1.sm w6 (by rw [(kl6.1.2.1 ll hll6).1, kl6.2.1]; exact nLa) (by have := tl6.1.1; omega))
    have sL9 : Sm h6 h9 L := d1.sm w6 (by rw [kl6.2.1, kl6.2.1]; exact nLa) (by have := kl6.1.1.1; omega)
    refine ⟨o6', zs6, (CG.tr w ok cg6 d1').mono ok (fun _ _ q => q) ?_ ?_, ?_, ?_, ?_, sL6.tr sL9, fun f hf hf' => ?_, fun f => ?_, ?_, lat6, ?_, ?_, ?_⟩
    · rw [d6, cp9, cpl, hA0, eW]; exact hc6
    · rw [d6, cp9, cpl, hA0, eW]; exact hm6
    · rw [hA0, eW, ew1]; exact d2
    · rw [hA0, eW, ew1]; exact kl9
    · rw [hA0, eW, ← ea6]; exact List.map_congr_left (aG_map w6 kl6.1 d1)
    · rw [d3 f hf', fi f hf]
    · rw [d4 f, fr f]
    · rw [hA0, eW, ew2, d5, fi 649 (by decide)]
    · rw [d6, cpl, cap3, ← cap1]; exact ⟨capg, capg2⟩
    · rw [cp9]; exact ⟨cpL, cpL2⟩
    · rw [cp9, hA0, eW]; exact cpL3
  have eGm : ∀ {c6 m6 h6 o6'}, CG (fun y => y = a ∨ y = L) c6 m6 h o h6 o6' → ∀ n, (rmS zs (ts.take n)).map (aG h6) = rmN A (((clC ltn A).take n).map (·.1)) := by
    intro c6 m6 h6 o6' cg n
    rw [← tkn, ← hA0, ← rmS_N (inj n)]
    exact List.map_congr_left (fun z hz => aG_map w kG cg z (rmS_mem.mp hz).1)
  refine s_48_74 (kt := fun z => s_48_88 (s_48_89 (kt := fun _ => ?_) (kf := fun z => absurd rfl z))) (kf := fun z => s_48_84 (s_48_89 (kt := fun z => absurd z (by decide)) (kf := fun _ => ?_)))
  · rw [nI_sb hn0E] at z
    have hnp : ¬ 2 ≤ clE U ltn A - clZ ltn A := fun q => absurd z (Int32.not_lt.mpr (by have := nI_le q (b := clE U ltn A - clZ ltn A) (by omega); exact this))
    have eW : clnA N U rep up nm sv ltn A = (rmN A (((clC ltn A).take (clZ ltn A)).map (·.1)), nm, if 0 < clZ ltn A then 1 else 0) := if_neg hnp
    refine tail 0 _ _ h3' o2 _ _ nm (rmS zs (ts.take (clZ ltn A))) _ cg03 st3 c3.2.1 ?_ (eGm cg03 _) sL3 (fun f _ => (sa3.2.1 f).1) (fun f => (sa3.2.1 f).2) rfl ?_ eW (lat _) rfl (by omega) (by omega) (fun _ => by omega) ?_ ?_
    · intro z' hz'
      show aG h3' z' ∈ rmN A _
      rw [← eGm cg03]
      exact List.mem_map_of_mem hz'
    · show (if 0 < clZ ltn A then (1 : Int32) else 0) = _
      by_cases q : 0 < clZ ltn A
      · rw [if_pos q, if_pos (Or.inl q)]
      · rw [if_neg q, if_neg (fun z => z.elim q (fun z => z rfl))]
    · rw [cap3, ← cap1]; omega
    · show _ ≤ (nf 8 + (3 * U + 2 * N)) * (nm - nm) + _
      rw [cap3, ← cap1, Nat.sub_self, Nat.mul_zero]; omega
  · rw [nI_sb hn0E] at z
    have hpk : 2 ≤ clE U ltn A - clZ ltn A := by
      rcases Nat.lt_or_ge (clE U ltn A - clZ ltn A) 2 with q | q
      · exact absurd (nI_lt q (by omega)) z
      · exact q
    have eW : clnA N U rep up nm sv ltn A = (rmN A (((clC ltn A).take (clE U ltn A)).map (·.1)) ++ [pkG nm (nsH up N rep nm sv N) (clP U ltn A)], nm + 1, 1) := if_pos hpk
    have ls : s < hS h := w.lt (by omega)
    have ss3 : Sm h h3' s := cg03.sm w (by rw [os, os]; rintro (q | q); exact absurd q (kinds_ne (h := h) (by omega)); exact absurd q (kinds_ne (h := h) (by omega))) (by omega)
    refine s_48_96 (k3 := st3.1.1) (hc := m_newSegment w3 st3.1 (by rw [ss3.1]; exact ks) (by rw [(ss3.2.1 576).1]; exact hsv) hN0 hNb hUb hrb (by omega) hsb) (kk := fun h4 x ⟨ex, n1, n2, n3, n4, n5, n6, n7⟩ => s_48_101 ?_)
    subst ex
    have ka3 := st3.1.1
    have ra3 := st3.2.1.1
    have L3 : L < hS h3' := w3.lt (by have := c3.2.1.1.1.1; omega)
    have eo4 : ∀ x, x < hS h3' → (fun x => if x < hS h3' then o2 x else hS h3') x = o2 x := fun x hx => if_pos hx
    have on4 : ∀ x, hS h3' ≤ x → (fun x => if x < hS h3' then o2 x else hS h3') x = hS h3' := fun x hx => if_neg (by omega)
    have ok4 : oOK (fun x => if x < hS h3' then o2 x else hS h3') := fun x => by
      show (if x < hS h3' then o2 x else hS h3') ≤ x
      split
      · exact ok2 x
      · omega
    generalize (fun x => if x < hS h3' then o2 x else hS h3') = o4 at eo4 on4 ok4
    have cg4 : CG (fun y => y = a) 6 (nf 8 + (3 * U + 2 * N)) h3' o2 h4 o4 := CG.of n7 (fun x _ hx => ⟨by rw [hx]; omega, Or.inr (by rw [hx, ra3]; exact ra3)⟩) eo4 ok4 (nm9 w3 n7 (fun x hx => by rw [hx]; omega))
    have w4 := cg4.w
    have hg4 := hg3.ch cg4.1
    have kl4 := lgK.fr w3 hg3 c3.2.1 cg4 nLa
    have st4 := stR.fa w3 hg3 st3 n7 eo4 n4 n6
    have cg04 := CG.tr w ok cg03 (cg4.mono ok2 (fun y _ q => Or.inl q) (Nat.le_refl _) (Nat.le_refl _) : CG (fun y => y = a ∨ y = L) 6 (nf 8 + (3 * U + 2 * N)) h3' o2 h4 o4)
    have hlv4 : ∀ z ∈ ts, hK h4 z.1 = 9 ∧ hK h4 (zLv z) = 21 := by
      intro z' hz'
      obtain ⟨d1, d2⟩ := k9z kG.sg z' (hts z' hz')
      rw [(cg04.1.2.1 _ (w.lt (by omega))).1, (cg04.1.2.1 (zLv z') (w.lt (by omega))).1]
      exact ⟨d1, d2⟩
    have ecz4 : ∀ t ∈ ts, cz h4 t = cz h2 t := by
      intro t ht
      obtain ⟨d1, d2⟩ := k9z kl2.1.sg t (hts t ht)
      have k3t : ∀ y, ¬ hK h2 y = 0 → hK h3' y = hK h2 y := fun y hy => (c3.1.1.2.1 y (w2.lt hy)).1
      have hx := (kl2.1.1.2.choose_spec.2.2 t (hts t ht)).2
      have s21 : Sm h2 h4 (zLv t) := (c3.2.2.2.2.1 _ (by omega) (by omega) (by omega) (by omega)).tr (n7.sm (fun q => by rw [← q, k3t _ (by omega)] at ka3; omega) (w3.lt (by rw [k3t _ (by omega)]; omega)))
      have e521 : hI h4 521 t.1 = hI h2 521 t.1 := by
        rw [((n7.sm (fun q => by rw [← q, k3t _ (by omega)] at ka3; omega) (w3.lt (by rw [k3t _ (by omega)]; omega)) : Sm h3' h4 t.1).2.1 521).1]
        exact c3.2.2.2.1 t.1 d1 521 (by decide)
      have eL : hA h4 (zLv t) = hA h2 (zLv t) := funext (fun i => (s21.2.2.2 i).1)
      unfold cz
      rw [e521, eL]
      refine congrArg (fun x => (nmN t, hI h2 521 t.1, x)) (List.map_congr_left (fun q hq => ?_))
      have hq := liveL_mem (Nat.le_refl _) hq
      have k7 := (hx q hq).1.1.1
      rw [pA.cg w3 (by rw [k3t q (by omega)]; exact k7) (lOK.cg w2 k7 (hx q hq).2 c3.1) cg4, pA.cg w2 k7 (hx q hq).2 c3.1]
    have ecs4 : ts.map (cz h4) = clC ltn A := by rw [← ecs2]; exact List.map_congr_left ecz4
    have efm : (((ts.drop (clZ ltn A)).take (clE U ltn A - clZ ltn A)).flatMap (fun z => liveL (hA h4 (zLv z)) (zPs z) (zPs z).length)).map (pA h4) = clP U ltn A := by
      rw [fm_cz, List.map_take, List.map_drop, ecs4]
      rfl
    have hfit : (((ts.drop (clZ ltn A)).take (clE U ltn A - clZ ltn A)).flatMap (fun z => liveL (hA h4 (zLv z)) (zPs z) (zPs z).length)).length ≤ U := by
      rw [← List.length_map (f := pA h4), efm]
      have := ep_fit hUb ((clC ltn A).drop (clZ ltn A)) (clZ ltn A) 0 (fun c hc => by
        have hc := List.mem_of_mem_drop hc
        rw [← ecs] at hc
        obtain ⟨t, ht, et⟩ := List.mem_map.mp hc
        have hcr : c ∈ crA A := by rw [← ecz, ← et]; exact List.mem_map_of_mem (hts t ht)
        obtain ⟨k, k1, k2, b, hb, k3, k4⟩ := mkA_fit c hcr
        rw [← hA0] at hb
        obtain ⟨z, hz', ez⟩ := List.mem_map.mp hb
        have hle : (zPs z).length ≤ U := (kG.sg z hz').2.2.1.2.1
        rw [← ez] at k4
        have k4 : k ≤ 2 * ((zPs z).map (pA h)).length := k4
        rw [List.length_map] at k4
        exact ⟨k, k1, k2, by omega⟩) (Nat.zero_le _)
      rw [nI_0, Nat.zero_add] at this
      exact this
    have c0 : clT g h4 o4 N U L nm (rmS zs (ts.take (clZ ltn A))) (hS h3', (hS h3' + 1, hS h3' + 2, hS h3' + 3, hS h3' + 4, hS h3' + 5), nI nm, [], [], nsH up N rep nm sv N) h4 := ⟨CG.rf w4 ok4 _, kl4, Sm.rf _ _, fun _ _ _ _ _ => rfl, fun _ _ _ _ _ _ => Sm.rf _ _, fun _ _ => rfl, n1, ⟨on4 _ (Nat.le_refl _), on4 (hS h3' + 1) (by omega), on4 (hS h3' + 2) (by omega), on4 (hS h3' + 3) (by omega), on4 (hS h3' + 4) (by omega), on4 (hS h3' + 5) (by omega)⟩, n3, fun q hq => absurd hq List.not_mem_nil⟩
    refine clean_2 (t := (hS h3', (hS h3' + 1, hS h3' + 2, hS h3' + 3, hS h3' + 4, hS h3' + 5), nI nm, [], [], nsH up N rep nm sv N)) w4 hg4 ok4 st4 hts q4 hn0E hEl hlv4 rfl hfit c0 (fun h5 o7 c5 => ?_)
    have f0 := addL_fix (((ts.drop (clZ ltn A)).take (clE U ltn A - clZ ltn A)).flatMap (fun z => liveL (hA h4 (zLv z)) (zPs z) (zPs z).length)) (hS h3', (hS h3' + 1, hS h3' + 2, hS h3' + 3, hS h3' + 4, hS h3' + 5), nI nm, [], [], nsH up N rep nm sv N)
    have aGt := addL_A (h := h4) (((ts.drop (clZ ltn A)).take (clE U ltn A - clZ ltn A)).flatMap (fun z => liveL (hA h4 (zLv z)) (zPs z) (zPs z).length)) (hS h3', (hS h3' + 1, hS h3' + 2, hS h3' + 3, hS h3' + 4, hS h3' + 5), nI nm, [], [], nsH up N rep nm sv N) rfl rfl (nsH_0 N)
    rw [efm, show nmN (hS h3', (hS h3' + 1, hS h3' + 2, hS h3' + 3, hS h3' + 4, hS h3' + 5), nI nm, [], [], nsH up N rep nm sv N) = nm from nI_clamp (by omega)] at aGt
    generalize List.foldl addE (hS h3', (hS h3' + 1, hS h3' + 2, hS h3' + 3, hS h3' + 4, hS h3' + 5), nI nm, [], [], nsH up N rep nm sv N) (((ts.drop (clZ ltn A)).take (clE U ltn A - clZ ltn A)).flatMap (fun z => liveL (hA h4 (zLv z)) (zPs z) (zPs z).length)) = tt at c5 f0 aGt
    obtain ⟨f1, f2, f3, f4⟩ := f0
    have f4 : zPs tt = ((ts.drop (clZ ltn A)).take (clE U ltn A - clZ ltn A)).flatMap (fun z => liveL (hA h4 (zLv z)) (zPs z) (zPs z).length) := f4
    have f1 : tt.1 = hS h3' := f1
    have f3 : tt.2.2.1 = nI nm := f3
    have c5' := c5
    obtain ⟨y1, y2, y3, y4, y5, y6, y7, y8, y9, y10⟩ := c5'
    have w5 := y1.w
    have hg5 := hg4.ch y1.1
    have hll4 : hR h4 256 L = some ll := by
      have sL4 : Sm h3' h4 L := cg4.sm w3 (by rw [c3.2.1.2.1, c3.2.1.2.1]; exact nLa) (by have := c3.2.1.1.1.1; omega)
      rw [(sL4.2.1 256).2]; exact hll3
    have hll5 : hR h5 256 L = some ll := by rw [(y3.2.1 256).2]; exact hll4
    have hlen5 : (rmS zs (ts.take (clE U ltn A))).length ≤ zs.length := by
      have e1 : ∀ (ts zs : List svT), (rmS zs ts).length ≤ zs.length := by
        intro ts
        induction ts with
        | nil => exact fun _ => Nat.le_refl _
        | cons t ts ih => exact fun zs => Nat.le_trans (ih (rmA zs t.1)) (List.length_filter_le _ _)
      exact e1 _ _
    have hadd : EvI g P 195 [va_rf (hR h5 256 L), va_rf (some (hS h3'))] h5 (fun h' _ => ∃ o' o'', CG (fun y => y = L) (capO g h' ll - capO g h5 ll) (4 * (capO g h' ll - capO g h5 ll)) h5 o4 h' o'' ∧ (∀ x, ¬ x = tt.1 → o' x = o'' x) ∧ oOK o' ∧ lgK g h' o' N U L (nm + 1) (rmS zs (ts.take (clE U ltn A)) ++ [tt]) ∧ (capO g h5 ll ≤ capO g h' ll ∧ capO g h' ll ≤ max (capO g h5 ll) (2 * (rmS zs (ts.take (clE U ltn A))).length + 10)) ∧ ∀ y, ¬ hK h5 y = 0 → ¬ hK h5 y = 1 → ¬ hK h5 y = 28 → Sm h5 h' y) := by
      rw [hll5, ← f1]
      exact lgK.add hP6 w5 hg5 ok4 y2 y7 y8 y9 y10 f3 hnb (by rw [f1]; omega) hll5 (by omega)
    have y2L := y2.1.1.1
    refine s_48_164 (k3 := y2L) (e5 := hll5) (k6 := (by obtain ⟨-, y, z1, z2, -⟩ := y2.1.1; rw [hll5] at z1; cases z1; exact z2.1.1)) (hc := hadd) (kk := fun h6 x ⟨o6, o6', b1, b2, b3, b4, b5, b6⟩ => s_48_173 ?_)
    have w6 := b1.w
    have cg45 : CG (fun y => y = a ∨ y = L ∨ y = hS h3') 0 0 h4 o4 h5 o4 := y1.mono ok4 (fun y _ q => by rw [f1] at q; exact Or.inr q) (Nat.le_refl _) (Nat.le_refl _)
    have cg56 : CG (fun y => y = a ∨ y = L ∨ y = hS h3') (capO g h6 ll - capO g h5 ll) (4 * (capO g h6 ll - capO g h5 ll)) h5 o4 h6 o6' := b1.mono ok4 (fun y _ q => Or.inr (Or.inl q)) (Nat.le_refl _) (Nat.le_refl _)
    have cg04' : CG (fun y => y = a ∨ y = L ∨ y = hS h3') _ _ h o h4 o4 := cg04.mono ok (fun y _ q => q.imp id Or.inl) (Nat.le_refl _) (Nat.le_refl _)
    have lt03 : hS h ≤ hS h3' := cg03.1.1.1
    have cg06 := ((CG.tr w ok (CG.tr w ok cg04' cg45) cg56).mono ok (fun y hy q => by rcases q with q | q | q; exact Or.inl q; exact Or.inr q; omega) (Nat.le_refl _) (Nat.le_refl _) : CG (fun y => y = a ∨ y = L) _ _ h o h6 o6').ow (o2 := o6) (fun x hx => by rw [b2 x (by rw [f1]; omega)]; exact (CG.tr w ok (CG.tr w ok cg04' cg45) cg56).2.1 x hx) b3
    have st5 := stR.fr w4 hg4 st4 y1 (by rw [f1]; rintro (q | q); exact naL q; have := w3.lt (a := a) (by omega); omega)
    have st6' := stR.fr w5 hg5 st5 b1 naL
    have st6 : stR g h6 o6 a e v R l N U rep up (nm + 1) (ts.map (·.1)) := by
      obtain ⟨z1, ⟨z2, z3⟩, ⟨z4, z5, ⟨p1, p2, p3, p4, p5⟩, z6⟩, z7, z8, z9, z10⟩ := st6'
      have ne : ∀ y, ¬ hK h6 y = 9 → o6 y = o6' y := fun y hy => b2 y (fun q => hy (by rw [q]; have := y7.1.1; rw [(b1.1.2.1 tt.1 (w5.lt (by omega))).1]; exact this))
      have z1' := z1
      obtain ⟨za, -, ze, -⟩ := z1'
      have zv := z5
      obtain ⟨j1, -, -, -, -, -, j7, j8, j9, j10, j11, -⟩ := zv
      have zl := z8.1.1
      exact ⟨z1, ⟨by rw [ne a (by omega)]; exact z2, by rw [ne e (by omega)]; exact z3⟩, ⟨z4, z5, ⟨by rw [ne _ (by omega)]; exact p1, by rw [ne _ (by omega)]; exact p2, by rw [ne _ (by omega)]; exact p3, by rw [ne _ (by omega)]; exact p4, by rw [ne _ (by omega)]; exact p5⟩, by rw [ne v (by omega)]; exact z6⟩, z7, z8, by rw [ne l (by omega)]; exact z9, fun d hd kd => by rw [ne d (by omega)]; exact z10 d hd kd⟩
    have ka4 : hK h4 a = 11 := st4.1.1
    have sa45 : Sm h4 h5 a := y5 a (by omega) (by omega) (by omega) (by omega) (by rw [f1, st4.2.1.1]; have := w3.lt (a := a) (by omega); omega)
    have ka5 : hK h5 a = 11 := st5.1.1
    have sa56 : Sm h5 h6 a := b6 a (by omega) (by omega) (by omega)
    have sL4 : Sm h3' h4 L := cg4.sm w3 (by rw [c3.2.1.2.1, c3.2.1.2.1]; exact nLa) (by have := c3.2.1.1.1.1; omega)
    have sL6 : Sm h h6 L := ((sL3.tr sL4).tr y3).tr (b6 L (by omega) (by omega) (by omega))
    have cap4L : capO g h4 ll = capO g h3' ll := by
      obtain ⟨-, y, z1, z2, -⟩ := c3.2.1.1.1
      rw [hll3] at z1
      cases z1
      exact capO.fr w3 z2 cg4.1 (cg4.sm w3 (by rw [(c3.2.1.1.2.1 ll hll3).1, c3.2.1.2.1]; exact nLa) (by have := z2.1.1; omega))
    have cap5L : capO g h5 ll = capO g h4 ll := y6 ll hll4
    have kl3t := st3.2.2.2.2.1
    have kl4t := st4.2.2.2.2.1
    have kl5t := st5.2.2.2.2.1
    have cap4 : capO g h4 l = capO g h3' l := capO.fr w3 kl3t n7 (n7.sm (fun q => by have := kl3t.1.1; rw [q] at this; omega) (w3.lt (by have := kl3t.1.1; omega)))
    have cap5 : capO g h5 l = capO g h4 l := capO.fr w4 kl4t y1.1 (y1.sm w4 (by rw [st4.2.2.2.2.2.1, st4.2.1.1, f1]; rintro (q | q); exact naL q; have := w3.lt (a := a) (by omega); omega) (by have := kl4t.1.1; omega))
    have cap6 : capO g h6 l = capO g h5 l := capO.fr w5 kl5t b1.1 (b1.sm w5 (by rw [st5.2.2.2.2.2.1, st5.2.1.1]; exact naL) (by have := kl5t.1.1; omega))
    have ea6 : (rmS zs (ts.take (clE U ltn A)) ++ [tt]).map (aG h6) = rmN A (((clC ltn A).take (clE U ltn A)).map (·.1)) ++ [pkG nm (nsH up N rep nm sv N) (clP U ltn A)] := by
      rw [List.map_append, eGm cg06, List.map_cons, List.map_nil]
      have : aG h6 tt = aG h4 tt := by
        unfold aG
        have : (zPs tt).map (pA h6) = (zPs tt).map (pA h4) := by
          refine List.map_congr_left (fun q hq => ?_)
          rw [f4] at hq
          obtain ⟨z', hz', hq'⟩ := List.mem_flatMap.mp hq
          have hzz := hts z' (List.mem_of_mem_drop (List.mem_of_mem_take hz'))
          have hqz := liveL_mem (Nat.le_refl _) hq'
          have hx := (kG.1.2.choose_spec.2.2 z' hzz).2 q hqz
          rw [pA.cg w hx.1.1.1 hx.2 cg06, pA.cg w hx.1.1.1 hx.2 cg04]
        rw [this]
      rw [this, aGt]
    refine tail 1 _ _ h6 o6 _ _ (nm + 1) _ _ cg06 st6 b4 ?_ ea6 sL6 (fun f hf => ?_) (fun f => ?_) rfl ?_ eW (fun z hz ez => List.mem_append_left _ (lat _ z hz ez)) ?_ (by omega) (by omega) (fun q => absurd q (Nat.succ_ne_self _)) ?_ ?_
    · intro z' hz'
      rw [← ea6]
      exact List.mem_map_of_mem hz'
    · rw [(sa56.2.1 f).1, (sa45.2.1 f).1, n5 f hf, (sa3.2.1 f).1]
    · rw [(sa56.2.1 f).2, (sa45.2.1 f).2, n6 f, (sa3.2.1 f).2]
    · exact (if_pos (Or.inr (by decide))).symm
    · omega
    · show _ ≤ 6 * (nm + 1 - nm) + _
      rw [cap3, ← cap1]; omega
    · show _ ≤ (nf 8 + (3 * U + 2 * N)) * (nm + 1 - nm) + _
      rw [cap3, ← cap1, show nm + 1 - nm = 1 by omega, Nat.mul_one]; omega
end CLEAN
