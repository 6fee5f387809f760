/-! Storage.open, makeRoom -/
def opnR (g : gcT) (h : hpT) (o : Nat → Nat) (a e v : Nat) (R : arT) (l ll N U L rep : Nat) (up : Int32) (n nm0 : Nat) (W : alT × Nat × Int32 × Int32) (h' : hpT) : Prop := ∃ o', CG (fun y => y = a ∨ y = L) (7 * (W.2.1 - nm0) + ((capO g h' l - capO g h l) + (capO g h' ll - capO g h ll))) ((nf 8 + (3 * U + 2 * N) + nf 6) * (W.2.1 - nm0) + 4 * ((capO g h' l - capO g h l) + (capO g h' ll - capO g h ll))) h o h' o' ∧ (∃ xs, stR g h' o' a e v R l N U rep up W.2.1 xs) ∧ lgR g h' o' N U L W.2.1 W.1 ∧ (∀ f, hI h' f L = hI h f L) ∧ hR h' 256 L = hR h 256 L ∧ (∀ f, ¬ f = 648 → ¬ f = 649 → hI h' f a = hI h f a) ∧ (∀ f, hR h' f a = hR h f a) ∧ hI h' 649 a = hI h 649 a + W.2.2.1 ∧ (capO g h l ≤ capO g h' l ∧ capO g h' l ≤ max (capO g h l) (2 * (n + 1) + 10)) ∧ (capO g h ll ≤ capO g h' ll ∧ capO g h' ll ≤ max (capO g h ll) (2 * (n + 1) + 10)) ∧ (W.2.1 = nm0 → capO g h' ll = capO g h ll)
section OPEN
variable {g : gcT} {P : pmT} {o o' : Nat → Nat} {h h' : hpT} {a b e v l ll N U L rep mem nm nx nx' s sv cl : Nat} {R : arT} {up safe lim aw : Int32} {xs0 : List Nat} {zs ts : List svT} {t : svT} {B : Nat → Prop} {c m c' m' : Nat} {A : alT}
theorem clnA_len {N U rep : Nat} {up : Int32} {nm sv : Nat} {lt : Option Nat} {A : List agT} : (clnA N U rep up nm sv lt A).1.length ≤ A.length + 1 ∧ (clnA N U rep up nm sv lt A).2.1 ≤ nm + 1 ∧ nm ≤ (clnA N U rep up nm sv lt A).2.1 := by
  unfold clnA
  split
  · refine ⟨?_, Nat.le_refl _, Nat.le_succ _⟩
    show (_ ++ [_]).length ≤ _
    rw [List.length_append]
    have := List.length_filter_le (fun a : agT => !((((clC lt A).take (clE U lt A)).map (·.1)).contains a.1)) A
    show (rmN A _).length + 1 ≤ _
    unfold rmN
    omega
  · refine ⟨?_, Nat.le_succ _, Nat.le_refl _⟩
    exact Nat.le_succ_of_le (List.length_filter_le _ _)
theorem opn1_len {A : alT} : (opn1 N U rep mem up nm sv A).1.length ≤ A.1.length + 1 ∧ (opn1 N U rep mem up nm sv A).2.1 ≤ nm + 1 ∧ nm ≤ (opn1 N U rep mem up nm sv A).2.1 := by
  unfold opn1
  split
  · exact clnA_len
  · exact ⟨Nat.le_succ _, Nat.le_succ _, Nat.le_refl _⟩
theorem hdK.lt {r n : Option Nat} (k : hdK r zs n) (nd : ∀ z ∈ zs, ∀ y ∈ zs, (z.1 = y.1 ↔ nmN z = nmN y)) : ∀ z ∈ zs, some z.1 = r ↔ some (nmN z) = n := by
  intro z hz
  rcases k with ⟨k1, k2⟩ | ⟨y, hy, k1, k2⟩
  · rw [k1, k2]; exact ⟨fun q => absurd q (by simp), fun q => absurd q (by simp)⟩
  · rw [k1, k2]
    exact ⟨fun q => by rw [(nd z hz y hy).mp (Option.some.inj q)], fun q => by rw [(nd z hz y hy).mpr (Option.some.inj q)]⟩
theorem lgG.inj (k : lgG g h o N U L zs) : ∀ z ∈ zs, ∀ y ∈ zs, (z.1 = y.1 ↔ nmN z = nmN y) := by
  intro z hz y hy
  obtain ⟨i, hi, ei⟩ := List.getElem_of_mem hz
  obtain ⟨j, hj, ej⟩ := List.getElem_of_mem hy
  rw [← ei, ← ej]
  constructor
  · intro q
    have := k.nd1 i j hi hj q
    subst this
    rfl
  · intro q
    have := k.names i j hi hj q
    subst this
    rfl
theorem m_open (hP6 : P 206 = cpyO) (w : hWF h) (hg : gOK g h) (ok : oOK o) (st : stR g h o a e v R l N U rep up nm xs0) (kR : lgR g h o N U L nm A) (hll : hR h 256 L = some ll) (ks : hK h s = 10) (os : o s = s) (hsL : hR h 584 s = some L) (hsv : hI h 576 s = nI sv) (hsafe : hI h 581 s = safe) (hmem : hI h 642 a = nI mem) (haw : hI h 647 a = aw) (hN0 : 0 < N) (hNb : N ≤ 30) (hUb : U ≤ 100) (hU1 : 1 ≤ U) (hrb : rep ≤ N) (hm1 : 1 ≤ mem) (hm2 : mem ≤ 1000) (hnb : nm ≤ 99999980) (hsb : sv < N) (hz : A.1.length ≤ 90000) : EvI g P 46 [va_rf (some a), va_rf (some s), .int lim] h (fun h' r => r = (opnA N U rep mem up aw nm sv safe lim A).2.2.2 ∧ opnR g h o a e v R l ll N U L rep up A.1.length nm (opnA N U rep mem up aw nm sv safe lim A) h') := by
  obtain ⟨zs, kl, hd, lt, ea⟩ := kR
  have zlen : zs.length = A.1.length := by rw [← ea, List.length_map]
  have kL := kl.1.1.1
  have ka := st.1.1
  have ra := st.2.1.1
  have nLa : ¬ L = a := kinds_ne (h := h) (by omega)
  have naL : ¬ a = L := fun q => nLa q.symm
  have lL : L < hS h := w.lt (by omega)
  have nsa : ¬ s = a := kinds_ne (h := h) (by omega)
  have nsL : ¬ s = L := kinds_ne (h := h) (by omega)
  have refuse : (¬ aw = 0 ∨ ¬ nI rep ≤ bcX (up &&& (bitS (nI sv) ^^^ (-1)))) → ∃ x, some (.int 0) = some (Value.int x) ∧ x = (opnA N U rep mem up aw nm sv safe lim A).2.2.2 ∧ opnR g h o a e v R l ll N U L rep up A.1.length nm (opnA N U rep mem up aw nm sv safe lim A) h := by
    intro q
    have e : opnA N U rep mem up aw nm sv safe lim A = (A, nm, 0, 0) := if_pos q
    rw [e]
    exact ⟨0, rfl, rfl, o, (CG.rf w ok _).mono ok (fun _ _ q => q) (Nat.zero_le _) (Nat.zero_le _), ⟨xs0, st⟩, ⟨zs, kl, hd, lt, ea⟩, fun _ => rfl, rfl, fun _ _ _ => rfl, fun _ => rfl, (Int32.add_zero _).symm, ⟨Nat.le_refl _, Nat.le_max_left _ _⟩, ⟨Nat.le_refl _, Nat.le_max_left _ _⟩, fun _ => rfl⟩
  refine e_46 (s_46_0 (k3 := ka) (kt := fun z => s_46_30 (refuse (Or.inl (by rw [← haw]; exact z)))) (kf := fun z0 => ?_))
  rw [haw] at z0
  refine s_46_7 (a1 := a) (a4 := s) (k3 := ka) (k6 := ks) (hc := m_bitCount) (kk := fun h1 x ⟨e1, e2⟩ => ?_)
  subst e1; subst e2
  have e646 : hI h1 646 a = up := st.1.2.2.2.2.2.2.1
  have e640 : hI h1 640 a = nI rep := st.1.2.2.2.2.1
  rw [e646, hsv]
  refine s_46_23 (k3 := ka) (kt := fun z1 => ?_) (kf := fun z1 => s_46_30 (refuse (Or.inr (by rw [← e640]; exact z1))))
  rw [e640] at z1
  have nref : ¬ (¬ aw = 0 ∨ ¬ nI rep ≤ bcX (up &&& (bitS (nI sv) ^^^ (-1)))) := fun q => q.elim (fun q => q z0) (fun q => q z1)
  -- the end, from 63
  have fin : ∀ h2 o2 zs2 nm2 xs2 c2 m2, CG (fun y => y = a ∨ y = L) c2 m2 h1 o h2 o2 → stR g h2 o2 a e v R l N U rep up nm2 xs2 → lgK g h2 o2 N U L nm2 zs2 → zs2.map (aG h2) = (opn1 N U rep mem up nm sv A).1 → nm2 = (opn1 N U rep mem up nm sv A).2.1 → hR h2 257 L = none → hdK (hR h2 258 L) zs2 A.2.2 → (∀ f, hI h2 f L = hI h1 f L) → hR h2 256 L = some ll → (∀ f, ¬ f = 648 → ¬ f = 649 → hI h2 f a = hI h1 f a) → (∀ f, hR h2 f a = hR h1 f a) → hI h2 649 a = hI h1 649 a + (opn1 N U rep mem up nm sv A).2.2 → (capO g h1 l ≤ capO g h2 l ∧ capO g h2 l ≤ max (capO g h1 l) (2 * A.1.length + 10)) → (capO g h1 ll ≤ capO g h2 ll ∧ capO g h2 ll ≤ max (capO g h1 ll) (2 * A.1.length + 10)) → (nm2 = nm → capO g h2 ll = capO g h1 ll) → c2 ≤ 6 * (nm2 - nm) + ((capO g h2 l - capO g h1 l) + (capO g h2 ll - capO g h1 ll)) → m2 ≤ (nf 8 + (3 * U + 2 * N)) * (nm2 - nm) + 4 * ((capO g h2 l - capO g h1 l) + (capO g h2 ll - capO g h1 ll)) → Ev g P 46 63 [some (va_rf (some a)), some (va_rf (some s)), some (.int lim), some (va_rf (some L)), none] [] h2 (fun h' r => ∃ x, r = some (.int x) ∧ x = (opnA N U rep mem up aw nm sv safe lim A).2.2.2 ∧ opnR g h1 o a e v R l ll N U L rep up A.1.length nm (opnA N U rep mem up aw nm sv safe lim A) h') := by
    intro h2 o2 zs2 nm2 xs2 c2 m2 cg st2 kl2 ea2 en hd2 lt2 iL rL ia ra' i649 cpl cpL cpE hc hm
    have w2 := cg.w
    have hg2 := hg.ch cg.1
    have ok2 := cg.2.2.1
    have lens := opn1_len (N := N) (U := U) (rep := rep) (mem := mem) (up := up) (nm := nm) (sv := sv) (A := A)
    rw [← ea2, List.length_map] at lens
    have ss : Sm h1 h2 s := cg.sm w (by rw [os, os]; rintro (q | q); exact nsa q; exact nsL q) (by omega)
    have ks2 : hK h2 s = 10 := by rw [ss.1]; exact ks
    have os2 : o2 s = s := by rw [cg.2.1 s (w.lt (by omega))]; exact os
    have ka2 := st2.1.1
    have tl2 : tLs g h2 8 ll (zs2.map (·.1)) := by
      obtain ⟨-, y, y1, y2, -⟩ := kl2.1.1
      rw [rL] at y1
      cases y1
      exact y2
    -- opening
    have opening : ¬ (¬ lim = 0 ∧ mem ≤ (opn1 N U rep mem up nm sv A).1.length) → Ev g P 46 83 [some (va_rf (some a)), some (va_rf (some s)), some (.int lim), some (va_rf (some L)), none] [] h2 (fun h' r => ∃ x, r = some (.int x) ∧ x = (opnA N U rep mem up aw nm sv safe lim A).2.2.2 ∧ opnR g h1 o a e v R l ll N U L rep up A.1.length nm (opnA N U rep mem up aw nm sv safe lim A) h') := by
      intro hq
      have eW : opnA N U rep mem up aw nm sv safe lim A = (((opn1 N U rep mem up nm sv A).1 ++ [dgG (opn1 N U rep mem up nm sv A).2.1 (nsH up N rep (opn1 N U rep mem up nm sv A).2.1 sv N) safe], some (opn1 N U rep mem up nm sv A).2.1, some (opn1 N U rep mem up nm sv A).2.1), (opn1 N U rep mem up nm sv A).2.1 + 1, (opn1 N U rep mem up nm sv A).2.2, 1) := by
        unfold opnA
        rw [if_neg nref, if_neg hq]
      rw [← en, ← ea2] at eW
      refine Ev.imp (open_2 (safe := safe) (sv := sv) hP6 w2 hg2 ok2 st2 kl2 rL ks2 os2 (by rw [(ss.2.1 576).1]; exact hsv) (by rw [(ss.2.1 581).1]; exact hsafe) hN0 hNb hUb hU1 hrb (by omega) hsb (by omega)) (fun h' r ⟨er, o', zs', y1, y2, y3, y4, y5, y6, y7, y8, y9, y10, y11, y12⟩ => ⟨1, er, ?_⟩)
      rw [eW]
      refine ⟨rfl, o', (CG.tr w ok cg y1).mono ok (fun _ _ q => q) ?_ ?_, ⟨xs2, y2⟩, ⟨zs', y3, y5, y6, y4⟩, fun f => ?_, ?_, fun f f1 f2 => ?_, fun f => ?_, ?_, ?_, ?_, ?_⟩
      · show _ ≤ 7 * (nm2 + 1 - nm) + _
        rw [y11]; omega
      · show _ ≤ (nf 8 + (3 * U + 2 * N) + nf 6) * (nm2 + 1 - nm) + _
        rw [y11]
        rcases Nat.eq_or_lt_of_le lens.2.2 with q | q
        · rw [← en] at q
          rw [show nm2 - nm = 0 by omega, Nat.mul_zero] at hm
          rw [show nm2 + 1 - nm = 1 by omega, Nat.mul_one]; omega
        · rw [← en] at q
          have := lens.2.1
          rw [← en] at this
          rw [show nm2 - nm = 1 by omega, Nat.mul_one] at hm
          rw [show nm2 + 1 - nm = 2 by omega]; omega
      · rw [y7 f, iL f]
      · rw [y8, rL, hll]
      · rw [y9 f f1, ia f f1 f2]
      · rw [y10 f, ra' f]
      · rw [y9 649 (by decide), i649]
      · rw [y11]; omega
      · omega
      · intro q
        have q : nm2 + 1 = nm := q
        omega
    refine s_46_63 (kt := fun z => opening (fun q => q.1 z)) (kf := fun z => ?_)
    have hsz : EvI g P 191 [va_rf (hR h2 256 L)] h2 (fun h' r => h' = h2 ∧ r = nI zs2.length) := by
      have := m_size (P := P) tl2.1
      rw [List.length_map] at this
      rw [rL]; exact this
    refine s_46_67 (k3 := kl2.1.1.1) (e5 := rL) (k6 := tl2.1.1) (hc := hsz) (kk := fun h3 x ⟨e1, e2⟩ => ?_)
    subst e1; subst e2
    have hmem2 : hI h3 642 a = nI mem := by rw [ia 642 (by decide) (by decide)]; exact hmem
    refine s_46_74 (k3 := ka2) (kt := fun z2 => opening (fun q => ?_)) (kf := fun z2 => s_46_81 ?_)
    · rw [hmem2] at z2
      rw [← ea2, List.length_map] at q
      exact absurd (nI_le q.2 (by omega)) (Int32.not_le.mpr z2)
    · rw [hmem2] at z2
      have hq : ¬ lim = 0 ∧ mem ≤ (opn1 N U rep mem up nm sv A).1.length := by
        refine ⟨z, ?_⟩
        rw [← ea2, List.length_map]
        rcases Nat.lt_or_ge zs2.length mem with q | q
        · exact absurd (nI_lt q (by omega)) z2
        · exact q
      have eW : opnA N U rep mem up aw nm sv safe lim A = (((opn1 N U rep mem up nm sv A).1, none, A.2.2), (opn1 N U rep mem up nm sv A).2.1, (opn1 N U rep mem up nm sv A).2.2, 0) := by
        unfold opnA
        rw [if_neg nref, if_pos hq]
      rw [← en] at eW
      rw [eW]
      refine ⟨0, rfl, rfl, o2, cg.mono ok (fun _ _ q => q) ?_ ?_, ⟨xs2, st2⟩, ⟨zs2, kl2, Or.inl ⟨hd2, rfl⟩, lt2, ea2⟩, iL, by rw [rL, hll], ia, ra', i649, by omega, by omega, cpE⟩
      · show _ ≤ 7 * (nm2 - nm) + _
        omega
      · show _ ≤ (nf 8 + (3 * U + 2 * N) + nf 6) * (nm2 - nm) + _
        rcases Nat.eq_or_lt_of_le lens.2.2 with q | q
        · rw [← en] at q
          rw [show nm2 - nm = 0 by omega, Nat.mul_zero] at hm ⊢; omega
        · rw [← en] at q
          have := lens.2.1
          rw [← en] at this
          rw [show nm2 - nm = 1 by omega, Nat.mul_one] at hm ⊢; omega
  -- the HEAD goes
  have tl : tLs g h1 8 ll (zs.map (·.1)) := by
    obtain ⟨-, y, y1, y2, -⟩ := kl.1.1
    rw [hll] at y1
    cases y1
    exact y2
  have kl0 := lgK.wR (f := 257) (b := L) (r := none) kl (by decide)
  have cg0 : CG (fun y => y = L) 0 0 h1 o (hpR h1 257 L none) o := CG.wR w ok (by omega) (by omega) (by rw [kl.2.1]; exact kl.2.1)
  have st0 := stR.fr w hg st cg0 naL
  have g0 : ∀ z, aG (hpR h1 257 L none) z = aG h1 z := fun z => aG.wR (by decide)
  have R0 : ∀ f x, ¬ (f = 257 ∧ x = L) → hR (hpR h1 257 L none) f x = hR h1 f x := fun f x q => by rw [rR_R, if_neg q]
  have R01 : hR (hpR h1 257 L none) 257 L = none := by rw [rR_R, if_pos ⟨rfl, rfl⟩]
  have I0 : hI (hpR h1 257 L none) = hI h1 := rfl
  have NK0 : hN (hpR h1 257 L none) = hN h1 ∧ hK (hpR h1 257 L none) = hK h1 := ⟨rfl, rfl⟩
  have hsz : EvI g P 191 [va_rf (hR h1 256 L)] (hpR h1 257 L none) (fun h' r => h' = hpR h1 257 L none ∧ r = nI zs.length) := by
    obtain ⟨-, y, y1, y2, -⟩ := kl0.1.1
    rw [R0 256 L (by omega), hll] at y1
    cases y1
    have := m_size (P := P) y2.1
    rw [List.length_map] at this
    rw [hll]; exact this
  refine s_46_32 (k3 := ks) (e5 := hsL) (k6 := kL) (e8 := hll) (k9 := tl.1.1) (hc := hsz) (kk := fun h2 x ⟨e1, e2⟩ => ?_)
  subst e2
  rw [hsL]
  subst e1
  generalize hpR h1 257 L none = H0 at kl0 cg0 st0 g0 R0 R01 I0 NK0 ⊢
  have w0 := cg0.w
  have hg0 := hg.ch cg0.1
  have cap0 : ∀ x, capO g H0 x = capO g h1 x := fun x => by
    unfold capO
    rw [R0 1 x (by omega), NK0.1]
  have hmem0 : hI H0 642 a = nI mem := by rw [I0]; exact hmem
  have em : nI mem - 1 = nI (mem - 1) := by
    rw [show (1 : Int32) = nI 1 from rfl, nI_sb hm1]
  refine s_46_49 (k3 := st0.1.1) (kt := fun z => ?_) (kf := fun z => ?_)
  · rw [hmem0, em] at z
    have hlt : ¬ mem - 1 ≤ A.1.length := fun q => absurd (nI_le (by rw [zlen]; exact q) (by omega)) (Int32.not_le.mpr z)
    have e1 : opn1 N U rep mem up nm sv A = (A.1, nm, 0) := if_neg hlt
    refine fin H0 o zs nm xs0 0 0 (cg0.mono ok (fun y _ q => Or.inr q) (Nat.le_refl _) (Nat.le_refl _)) st0 kl0 ?_ (by rw [e1]) R01 (by rw [R0 258 L (by omega)]; exact lt) (fun f => by rw [I0]) (by rw [R0 256 L (by omega)]; exact hll) (fun f _ _ => by rw [I0]) (fun f => R0 f a (fun q => naL q.2)) (by rw [e1, I0]; exact (Int32.add_zero _).symm) (by rw [cap0]; omega) (by rw [cap0]; omega) (fun _ => cap0 ll) (Nat.zero_le _) (Nat.zero_le _)
    rw [e1, ← ea]
    exact List.map_congr_left (fun z _ => g0 z)
  · rw [hmem0, em] at z
    have hge : mem - 1 ≤ A.1.length := by
      rcases Nat.lt_or_ge A.1.length (mem - 1) with q | q
      · exact absurd (nI_lt (by rw [zlen]; exact q) (by omega)) z
      · exact q
    have e1 : opn1 N U rep mem up nm sv A = clnA N U rep up nm sv A.2.2 A.1 := if_pos hge
    have s0 : Sm h1 H0 s := cg0.sm w (by rw [os, os]; exact nsL) (by omega)
    have hlt0 : ∀ z ∈ zs, some z.1 = hR H0 258 L ↔ some (nmN z) = A.2.2 := by
      rw [R0 258 L (by omega)]
      exact lt.lt kl.1.inj
    have eaH : zs.map (aG H0) = A.1 := by rw [← ea]; exact List.map_congr_left (fun z _ => g0 z)
    refine s_46_58 (k3 := st0.1.1) (hc := m_clean (ll := ll) (sv := sv) (ltn := A.2.2) hP6 w0 hg0 ok st0 kl0 (by rw [R0 256 L (by omega)]; exact hll) (by rw [s0.1]; exact ks) os (by rw [(s0.2.1 584).2]; exact hsL) (by rw [(s0.2.1 576).1]; exact hsv) hN0 hNb hUb hrb (by omega) hsb (by omega) hlt0) (kk := fun h3 ⟨o3, zs3, y1, y2, y3, y4, y5, y6, y7, y8, y9, y10, y11, y12⟩ => ?_)
    rw [eaH, ← e1] at y1 y2 y3 y4 y8 y12
    rw [cap0, cap0] at y1
    rw [cap0] at y10 y11 y12
    rw [zlen] at y10 y11
    refine fin h3 o3 zs3 _ [] _ _ (CG.tr w ok (cg0.mono ok (fun y _ q => Or.inr q) (Nat.le_refl _) (Nat.le_refl _)) y1) y2 y3 y4 rfl (by rw [(y5.2.1 257).2]; exact R01) ?_ (fun f => by rw [(y5.2.1 f).1, I0]) (by rw [(y5.2.1 256).2, R0 256 L (by omega)]; exact hll) (fun f f1 f2 => by rw [y6 f f1 f2, I0]) (fun f => by rw [y7 f]; exact R0 f a (fun q => naL q.2)) (by rw [y8, I0]) y10 y11 y12 (by omega) (by omega)
    rw [(y5.2.1 258).2, R0 258 L (by omega)]
    rcases lt with q | ⟨z, hz, q1, q2⟩
    · exact Or.inl q
    · exact Or.inr ⟨z, y9 z hz (by rw [R0 258 L (by omega)]; exact q1.symm), q1, q2⟩
end OPEN
