/-! Storage.clean: packing -/
def tOwn (o : Nat → Nat) (t : svT) : Prop := o t.1 = t.1 ∧ ownZ o t
def clT (g : gcT) (h3 : hpT) (o : Nat → Nat) (N U L nx : Nat) (zs : List svT) (t : svT) (h : hpT) : Prop := CG (fun y => y = L ∨ y = t.1) 0 0 h3 o h o ∧ lgK g h o N U L nx zs ∧ Sm h3 h L ∧ (∀ y, hK h3 y = 9 → ¬ y = t.1 → ∀ f, ¬ f = 524 → hI h f y = hI h3 f y) ∧ (∀ y, ¬ hK h3 y = 0 → ¬ hK h3 y = 9 → ¬ hK h3 y = 1 → ¬ hK h3 y = 28 → ¬ o y = t.1 → Sm h3 h y) ∧ (∀ l, hR h3 256 L = some l → capO g h l = capO g h3 l) ∧ sgX h N U t ∧ tOwn o t ∧ hI h 524 t.1 = 0 ∧ ∀ q ∈ zPs t, pOK h q ∧ lOK h q ∧ tmK h o L nx zs q
theorem liveL_mem {lv : Nat → Int32} {ps : List Nat} : ∀ {n q : Nat}, n ≤ ps.length → q ∈ liveL lv ps n → q ∈ ps := by
  intro n
  induction n with
  | zero => intro q _ hq; exact absurd hq List.not_mem_nil
  | succ n ih =>
    intro q hn hq
    rw [liveL_1] at hq
    rcases List.mem_append.mp hq with z | z
    · exact ih (by omega) z
    · split at z
      · exact absurd z List.not_mem_nil
      · rw [List.mem_singleton] at z
        rw [z, List.getD_eq_getElem?_getD, List.getElem?_eq_getElem (by omega)]
        exact List.getElem_mem _
theorem liveL_mono {lv : Nat → Int32} {ps : List Nat} : ∀ (d n : Nat), (liveL lv ps n).length ≤ (liveL lv ps (n + d)).length := by
  intro d
  induction d with
  | zero => exact fun _ => Nat.le_refl _
  | succ d ih =>
    intro n
    rw [← Nat.add_assoc, liveL_1, List.length_append]
    exact Nat.le_trans (ih n) (Nat.le_add_right _ _)
section CLEAN
variable {g : gcT} {P : pmT} {o o' : Nat → Nat} {h h' h3 : hpT} {a e v l N U L rep nm nx s : Nat} {R : arT} {up : Int32} {zs ts : List svT} {t z : svT} {Q : hpT → Option Value → Prop} {B : Nat → Prop} {c m : Nat}
theorem sgX.cg (w : hWF h) (k : sgX h N U t) (ow : tOwn o t) (x : CG B c m h o h' o') (nB : ¬ B t.1) : sgX h' N U t := by
  obtain ⟨r, p1, p2, p3, p4, p5⟩ := ow
  have k0 : sgX h N U t := k
  obtain ⟨a1, -, -, -, -, -, a7, a8, a9, a10, a11, -⟩ := k.1
  have lt := sgV.lts w k0
  exact sgV.fr k0 (x.sm w (by rw [r, r]; exact nB) (by omega)) (x.sm w (by rw [p1, r]; exact nB) (by omega)) (x.sm w (by rw [p2, r]; exact nB) (by omega)) (x.sm w (by rw [p3, r]; exact nB) (by omega)) (x.sm w (by rw [p4, r]; exact nB) (by omega)) (x.sm w (by rw [p5, r]; exact nB) (by omega)) (fun p hp => x.smp (lt.2.2.2.2.2.2 p hp).2 w)
theorem lOK.cg (w : hWF h) {q : Nat} (kq : hK h q = 7) (k : lOK h q) (x : CG B c m h o h' o') : lOK h' q := by
  intro s hs
  rw [((x.smp kq w).2.1 395).2] at hs
  have := k s hs
  rw [(x.1.2.1 s (w.lt (by omega))).1]; exact this
theorem pA.cg (w : hWF h) {q : Nat} (kq : hK h q = 7) (k : lOK h q) (x : CG B c m h o h' o') : pA h' q = pA h q := pA_sm (x.smp kq w) (fun s hs => x.2.2.2 s (k s hs))
theorem tS_own (ow : tOwn o t) {x : Nat} (hx : tS t x) : o x = t.1 := by
  obtain ⟨r, p1, p2, p3, p4, p5⟩ := ow
  rcases hx with q | q | q | q
  · rw [q]; exact r
  · rw [q]; exact p1
  · rw [q]; exact p3
  · rw [q]; exact p5
theorem clT.copy (w3 : hWF h3) (hg3 : gOK g h3) (ok : oOK o) (ct : clT g h3 o N U L nx zs t h) (hz : z ∈ zs) (lz3 : hK h3 (zLv z) = 21) (hfit : (zPs t).length + (liveL (hA h3 (zLv z)) (zPs z) (zPs z).length).length ≤ U) : EvV g P 51 [va_rf (some z.1), va_rf (some t.1)] h (fun h' => clT g h3 o N U L nx zs ((liveL (hA h3 (zLv z)) (zPs z) (zPs z).length).foldl addE t) h') := by
  obtain ⟨c1, c2, c3, c4, c5, c6, c7, c8, c9, c10⟩ := ct
  have w := c1.w
  have hg := hg3.ch c1.1
  have kL := c2.1.1.1
  have kz := c2.1.sg z hz
  have k9t := c7.1.1
  have nLt : ¬ L = t.1 := kinds_ne (h := h) (by omega)
  have c8' := c8
  obtain ⟨r, p1, p2, p3, p4, p5⟩ := c8'
  have ozL := (c2.1.2.2.1 z hz).2.1
  have nzt : ¬ z.1 = t.1 := fun q => by rw [q, r] at ozL; exact nLt ozL.symm
  obtain ⟨q1, q2, q3, q4, q5⟩ := (c2.1.2.2.1 z hz).1
  have nS : ∀ x, ¬ o x = t.1 → ¬ tS t x := fun x nx hx => nx (tS_own c8 hx)
  have ko : ∀ y, ¬ hK h3 y = 0 → hK h y = hK h3 y := fun y hy => (c1.1.2.1 y (w3.lt hy)).1
  have kz' := kz.1
  obtain ⟨a1, -, -, -, -, -, a7, a8, a9, a10, a11, -⟩ := kz'
  have eL : hA h (zLv z) = hA h3 (zLv z) := by
    funext i
    exact ((c5 (zLv z) (by omega) (by omega) (by omega) (by omega) (by show ¬ o z.2.1.2.1 = _; rw [q2]; exact nzt)).2.2.2 i).1
  have hcp := m_copyLive (g := g) (P := P) w kz c7 (nS _ (by rw [ozL]; exact nLt)) (nS _ (by rw [q1]; exact nzt)) (nS _ (by rw [q2]; exact nzt)) (nS _ (by rw [q3]; exact nzt)) (nS _ (by rw [q4]; exact nzt)) (nS _ (by rw [q5]; exact nzt)) (fun i hi => by
    rw [eL]
    have := liveL_mono (lv := hA h3 (zLv z)) (ps := zPs z) ((zPs z).length - i) i
    rw [show i + ((zPs z).length - i) = (zPs z).length by omega] at this
    omega)
  rw [eL] at hcp
  refine Ev.imp hcp (fun h' r' ⟨er, x1, x2, x3, x4⟩ => ⟨er, ?_⟩)
  have hlm : ∀ q ∈ liveL (hA h3 (zLv z)) (zPs z) (zPs z).length, q ∈ zPs z := fun q hq => liveL_mem (Nat.le_refl _) hq
  obtain ⟨f1, f2, f3, f4⟩ := addL_fix (liveL (hA h3 (zLv z)) (zPs z) (zPs z).length) t
  generalize liveL (hA h3 (zLv z)) (zPs z) (zPs z).length = lv at x1 hlm f1 f2 f3 f4 ⊢
  generalize ht' : lv.foldl addE t = t' at x1 f1 f2 f3 f4 ⊢
  have kt := c7.1
  obtain ⟨b1, -, -, -, -, -, b7, b8, b9, b10, b11, -⟩ := kt
  have n9 : ∀ y, hK h y = 9 → ¬ y = t.1 → Sm h h' y := by
    intro y hy ny
    refine x2.sm ?_ (w.lt (by omega))
    rintro (q | q | q | q)
    · exact ny q
    · rw [q] at hy; omega
    · rw [q] at hy; omega
    · rw [q] at hy; omega
  have nm : ∀ y, hK h y = 9 → hI h' 512 y = hI h 512 y := by
    intro y hy
    by_cases q : y = t.1
    · rw [q]; exact x3 512 (by decide) (by decide) (by decide)
    · exact ((n9 y hy q).2.1 512).1
  have cg : CG (fun y => y = t.1) 0 0 h o h' o := CG.of0 x2 ok (fun x _ hx => ⟨by
    rcases hx with q | q | q | q
    · rw [q]; omega
    · rw [q]; omega
    · rw [q]; omega
    · rw [q]; omega, Or.inr (by rw [tS_own c8 hx]; exact r)⟩) nm
  have cg2 : CG (fun y => y = L ∨ y = t.1) 0 0 h o h' o := cg.mono ok (fun y _ q => Or.inr q) (Nat.le_refl _) (Nat.le_refl _)
  have sL : Sm h h' L := cg.sm w (by rw [c2.2.1, c2.2.1]; exact nLt) (by omega)
  refine ⟨?_, lgK.fr w hg c2 cg nLt, c3.tr sL, fun y hy ny f hf => ?_, fun y y0 y9 y1 y28 yo => ?_, fun l' hl' => ?_, x1, ?_, ?_, fun q hq => ?_⟩
  · rw [f1]; exact CG.tr w3 ok c1 cg2
  · rw [f1] at ny
    rw [((n9 y (by rw [ko y (by omega)]; exact hy) ny).2.1 f).1]; exact c4 y hy ny f hf
  · rw [f1] at yo
    exact (c5 y y0 y9 y1 y28 yo).tr (x2.sm (nS y yo) (w.lt (by rw [ko y y0]; exact y0)))
  · have hl2 : hR h 256 L = some l' := by rw [(c3.2.1 256).2]; exact hl'
    obtain ⟨-, l2, d1, d2, -⟩ := c2.1.1
    rw [hl2] at d1
    cases d1
    have := d2.1.1
    rw [capO.fr w d2 x2 (cg.sm w (by rw [(c2.1.2.1 l' hl2).1, c2.2.1]; exact nLt) (by omega))]
    exact c6 l' hl'
  · refine ⟨by rw [f1]; exact r, ?_⟩
    unfold ownZ
    rw [f1, f2]
    exact ⟨p1, p2, p3, p4, p5⟩
  · rw [f1, x3 524 (by decide) (by decide) (by decide)]; exact c9
  · rw [f4] at hq
    have old : pOK h q ∧ lOK h q ∧ tmK h o L nx zs q := by
      rcases List.mem_append.mp hq with d | d
      · exact c10 q d
      · have hqz := hlm q d
        have := (c2.1.1.2.choose_spec.2.2 z hz).2 q hqz
        exact ⟨this.1, this.2, c2.2.2.2 z hz q hqz⟩
    have kq := old.1.1.1
    exact ⟨old.1.sm (cg.smp kq w), lOK.cg w kq old.2.1 cg, tmK.fr w cg nLt c2.2.1 kq old.2.2⟩
theorem clT.letGo (w3 : hWF h3) (hg3 : gOK g h3) (ok : oOK o) (ct : clT g h3 o N U L nx zs t h) (hz : z ∈ zs) : EvV g P 22 [va_rf (some L), va_rf (some z.1)] h (fun h' => clT g h3 o N U L nx (rmA zs z.1) t h') := by
  obtain ⟨c1, c2, c3, c4, c5, c6, c7, c8, c9, c10⟩ := ct
  have w := c1.w
  have hg := hg3.ch c1.1
  have kL := c2.1.1.1
  have k9t := c7.1.1
  have nLt : ¬ t.1 = L := kinds_ne (h := h) (by omega)
  have ozL := (c2.1.2.2.1 z hz).2.1
  have nzt : ¬ t.1 = z.1 := fun q => by rw [← q, c8.1] at ozL; exact nLt ozL
  have ko : ∀ y, ¬ hK h3 y = 0 → hK h y = hK h3 y := fun y hy => (c1.1.2.1 y (w3.lt hy)).1
  refine Ev.imp (lgK.letGo w hg ok c2 hz) (fun h' r ⟨er, x1, x2, x3, x4, x5, x6, x7, x8⟩ => ⟨er, CG.tr w3 ok c1 (x1.mono ok (fun y _ q => Or.inl q) (Nat.le_refl _) (Nat.le_refl _)), x2, c3.tr x3, fun y hy ny f hf => ?_, fun y y0 y9 y1 y28 yo => ?_, fun l' hl' => ?_, sgX.cg w c7 c8 x1 nLt, c8, ?_, fun q hq => ?_⟩)
  · rw [x4 y (by rw [ko y (by omega)]; exact hy) f hf]; exact c4 y hy ny f hf
  · exact (c5 y y0 y9 y1 y28 yo).tr (x5 y (by rw [ko y y0]; exact y0) (by rw [ko y y0]; exact y9) (by rw [ko y y0]; exact y1) (by rw [ko y y0]; exact y28))
  · rw [x7 l' (by rw [(c3.2.1 256).2]; exact hl')]; exact c6 l' hl'
  · rw [((x6 t.1 k9t nzt).2.1 524).1]; exact c9
  · obtain ⟨d1, d2, d3⟩ := c10 q hq
    exact ⟨d1.sm (x1.smp d1.1.1 w), lOK.cg w d1.1.1 d2 x1, x8 q d1.1.1 d3⟩
theorem take_fm {α β : Type} {f : α → List β} {l : List α} {i : Nat} (hi : i < l.length) : (l.take (i + 1)).flatMap f = (l.take i).flatMap f ++ f l[i] := by
  rw [take_1 hi, List.flatMap_append, List.flatMap_cons, List.flatMap_nil, List.append_nil]
theorem fm_mono {α β : Type} {f : α → List β} {l : List α} : ∀ (d i : Nat), ((l.take i).flatMap f).length ≤ ((l.take (i + d)).flatMap f).length := by
  intro d
  induction d with
  | zero => exact fun _ => Nat.le_refl _
  | succ d ih =>
    intro i
    refine Nat.le_trans (ih i) ?_
    rw [← Nat.add_assoc]
    by_cases c : i + d < l.length
    · rw [take_fm c, List.length_append]; exact Nat.le_add_right _ _
    · rw [List.take_of_length_le (by omega), List.take_of_length_le (by omega)]; exact Nat.le_refl _
theorem clean_2 {n0 E : Nat} {x5 : Int32} (w3 : hWF h3) (hg3 : gOK g h3) (ok : oOK o) (st3 : stR g h3 o a e v R l N U rep up nm (ts.map (·.1))) (hts : ∀ t ∈ ts, t ∈ zs) (nd : (ts.map (·.1)).Nodup) (hn0 : n0 ≤ E) (hE : E ≤ ts.length) (hlv : ∀ z ∈ ts, hK h3 z.1 = 9 ∧ hK h3 (zLv z) = 21) (t0e : zPs t = []) (hfit : (((ts.drop n0).take (E - n0)).flatMap (fun z => liveL (hA h3 (zLv z)) (zPs z) (zPs z).length)).length ≤ U) (c0 : clT g h3 o N U L nx (rmS zs (ts.take n0)) t h3) (kk : ∀ h' o7, clT g h3 o N U L nx (rmS zs (ts.take E)) ((((ts.drop n0).take (E - n0)).flatMap (fun z => liveL (hA h3 (zLv z)) (zPs z) (zPs z).length)).foldl addE t) h' → Ev g P 48 164 [some (va_rf (some a)), some (va_rf (some s)), some (va_rf (some L)), some (.int (nI n0)), some (.int (nI E)), some (.int x5), some (va_rf (some t.1)), some (.int o7)] [] h' Q) : Ev g P 48 106 [some (va_rf (some a)), some (va_rf (some s)), some (va_rf (some L)), some (.int (nI n0)), some (.int (nI E)), some (.int x5), some (va_rf (some t.1)), some (.int (nI n0))] [] h3 Q := by
  have kL := c0.2.1.1.1.1
  have ka := st3.1.1
  have nLa : ¬ a = L := kinds_ne (h := h3) (by omega)
  have k9t := c0.2.2.2.2.2.2.1.1.1
  have nta : ¬ a = t.1 := kinds_ne (h := h3) (by omega)
  have hll := st3.2.2.2.2.1.1.len
  rw [List.length_map] at hll
  generalize hf : (fun z : svT => liveL (hA h3 (zLv z)) (zPs z) (zPs z).length) = lf at hfit kk
  have lp : ∀ d j h', j + d = E - n0 → clT g h3 o N U L nx (rmS zs (ts.take (n0 + j))) ((((ts.drop n0).take j).flatMap lf).foldl addE t) h' → Ev g P 48 106 [some (va_rf (some a)), some (va_rf (some s)), some (va_rf (some L)), some (.int (nI n0)), some (.int (nI E)), some (.int x5), some (va_rf (some t.1)), some (.int (nI (n0 + j)))] [] h' Q := by
    intro d
    induction d with
    | zero =>
      intro j h' hj ct
      have ej : j = E - n0 := by omega
      subst ej
      rw [show n0 + (E - n0) = E by omega] at ct ⊢
      exact s_48_106 (kt := fun _ => kk _ _ ct) (kf := fun q => absurd (nI_le (Nat.le_refl _) (by omega)) q)
    | succ d ih =>
      intro j h' hj ct
      have hjt : n0 + j < ts.length := by omega
      have hjd : j < (ts.drop n0).length := by rw [List.length_drop]; omega
      have ed : (ts.drop n0)[j] = ts[n0 + j] := List.getElem_drop
      have ht := List.getElem_mem hjt
      obtain ⟨f1, f2, f3, f4⟩ := addL_fix (((ts.drop n0).take j).flatMap lf) t
      have cgt := ct.1
      rw [f1] at cgt
      have st := stR.fr w3 hg3 st3 cgt (by rintro (q | q); exact nLa q; exact nta q)
      obtain ⟨⟨ka', -⟩, -, -, hl', kl', -⟩ := st
      have hsz : EvI g P 191 [va_rf (hR h' 645 a)] h' (fun h'' r => h'' = h' ∧ r = nI ts.length) := by
        have := m_size (P := P) kl'.1
        rw [List.length_map] at this
        rw [hl']; exact this
      have hgt : ∀ {h''}, tLs g h'' 8 l (ts.map (·.1)) → hR h'' 645 a = some l → EvA g P 193 [va_rf (hR h'' 645 a), .int (nI (n0 + j))] h'' (fun h4 r => h4 = h'' ∧ r = some ts[n0 + j].1) := by
        intro h'' q1 q2
        have := m_get (P := P) (i := n0 + j) q1.1 (by rw [List.length_map]; exact hjt)
        rw [List.getElem_map] at this
        rw [q2]; exact this
      obtain ⟨k90, k210⟩ := hlv _ ht
      have k9' : hK h' ts[n0 + j].1 = 9 := by rw [(ct.1.1.2.1 _ (w3.lt (by omega))).1]; exact k90
      have hmem : ts[n0 + j] ∈ rmS zs (ts.take (n0 + j)) := by
        refine rmS_mem.mpr ⟨hts _ ht, fun y hy q => ?_⟩
        obtain ⟨i, hi, ei⟩ := List.getElem_of_mem hy
        rw [List.length_take] at hi
        rw [List.getElem_take] at ei
        have pw := List.pairwise_iff_getElem.mp nd i (n0 + j) (by rw [List.length_map]; omega) (by rw [List.length_map]; omega) (by omega)
        rw [List.getElem_map, List.getElem_map, ei] at pw
        exact pw q.symm
      refine s_48_106 (kt := fun q => absurd q (nI_ge (by omega) (by omega))) (kf := fun _ => ?_)
      refine s_48_113 (k3 := ka') (e5 := hl') (k6 := kl'.1.1) (hc := hsz) (kk := fun h2 x ⟨e1, e2⟩ => ?_)
      subst e1; subst e2
      refine s_48_122 (kt := fun q => absurd q (nI_ge hjt (by omega))) (kf := fun _ => ?_)
      refine s_48_125 (k3 := ka') (e5 := hl') (k6 := kl'.1.1) (hc := hgt kl' hl') (kk := fun h2 x ⟨e1, e2⟩ => ?_)
      subst e1; subst e2
      have hfit' : (zPs ((((ts.drop n0).take j).flatMap lf).foldl addE t)).length + (liveL (hA h3 (zLv ts[n0 + j])) (zPs ts[n0 + j]) (zPs ts[n0 + j]).length).length ≤ U := by
        rw [f4, t0e, List.nil_append]
        have m1 := fm_mono (f := lf) (l := ts.drop n0) (E - n0 - (j + 1)) (j + 1)
        rw [show j + 1 + (E - n0 - (j + 1)) = E - n0 by omega, take_fm hjd, List.length_append, ed, ← hf] at m1
        rw [← hf] at hfit ⊢
        exact Nat.le_trans m1 hfit
      have hcp := clT.copy (P := P) w3 hg3 ok ct hmem k210 hfit'
      rw [f1] at hcp
      refine s_48_134 (c1 := fun b eb => by cases eb; exact k9') (hc := hcp) (kk := fun h4 c4 => ?_)
      have cgt4 := c4.1
      rw [(addL_fix _ _).1, f1] at cgt4
      have st4 := stR.fr w3 hg3 st3 cgt4 (by rintro (q | q); exact nLa q; exact nta q)
      obtain ⟨⟨ka4, -⟩, -, -, hl4, kl4, -⟩ := st4
      have k94 : hK h4 ts[n0 + j].1 = 9 := by rw [(c4.1.1.2.1 _ (w3.lt (by omega))).1]; exact k90
      refine s_48_142 (k3 := ka4) (e5 := hl4) (k6 := kl4.1.1) (hc := hgt kl4 hl4) (kk := fun h2 x ⟨e1, e2⟩ => ?_)
      subst e1; subst e2
      refine s_48_152 (c1 := fun b eb => by cases eb; exact k94) (k4 := c4.2.1.1.1.1) (hc := clT.letGo w3 hg3 ok c4 hmem) (kk := fun h5 c5 => s_48_158 ?_)
      rw [nI_1]
      refine ih (j + 1) h5 (by omega) ?_
      rw [← Nat.add_assoc, rmS_1 hjt, take_fm hjd, List.foldl_append, ed, ← hf]
      rw [← hf] at c5
      exact c5
  exact lp (E - n0) 0 h3 (by omega) (by rw [List.take_zero]; exact c0)
end CLEAN
