/-! Storage.clean: its loops -/
theorem Sm.tr {h h1 h2 : hpT} {a : Nat} (x : Sm h h1 a) (y : Sm h1 h2 a) : Sm h h2 a := ⟨y.1.trans x.1, fun f => ⟨(y.2.1 f).1.trans (x.2.1 f).1, (y.2.1 f).2.trans (x.2.1 f).2⟩, y.2.2.1.trans x.2.2.1, fun i => ⟨(y.2.2.2 i).1.trans (x.2.2.2 i).1, (y.2.2.2 i).2.trans (x.2.2.2 i).2⟩⟩
theorem Sm.rf (h : hpT) (a : Nat) : Sm h h a := ⟨rfl, fun _ => ⟨rfl, rfl⟩, rfl, fun _ => ⟨rfl, rfl⟩⟩
theorem nI_ad (a b : Nat) : nI a + nI b = nI (a + b) := (Int32.ofNat_add a b).symm
theorem nI_le_iff {a b : Nat} (ha : a < 2 ^ 31) (hb : b < 2 ^ 31) : nI a ≤ nI b ↔ a ≤ b := by
  constructor
  · intro q
    rcases Nat.lt_or_ge b a with z | z
    · exact absurd q (nI_ge z ha)
    · exact z
  · exact fun q => nI_le q hb
theorem ep_fit {U : Nat} (hU : U ≤ 100) : ∀ (cs : List cT) (i t : Nat), (∀ c ∈ cs, ∃ k, c.2.1 = nI k ∧ c.2.2.length ≤ k ∧ k ≤ 1000) → t ≤ U → t + ((cs.take (epC (nI U) cs i (nI t) - i)).flatMap (·.2.2)).length ≤ U := by
  intro cs
  induction cs with
  | nil => intro i t _ ht; simpa using ht
  | cons c cs ih =>
    intro i t hc ht
    obtain ⟨k, k1, k2, k3⟩ := hc c List.mem_cons_self
    unfold epC
    rw [k1, nI_ad]
    by_cases q : t + k ≤ U
    · rw [if_pos ((nI_le_iff (by omega) (by omega)).mpr q)]
      have := ih (i + 1) (t + k) (fun c hc' => hc c (List.mem_cons_of_mem _ hc')) q
      have g := (ep_ge (U := nI U) cs (i + 1) (nI (t + k))).1
      have e : epC (nI U) cs (i + 1) (nI (t + k)) - i = (epC (nI U) cs (i + 1) (nI (t + k)) - (i + 1)) + 1 := by omega
      rw [e, List.take_succ_cons, List.flatMap_cons, List.length_append]
      omega
    · rw [if_neg (fun z => q ((nI_le_iff (by omega) (by omega)).mp z)), Nat.sub_self]
      simpa using ht
def clS (g : gcT) (h0 : hpT) (o : Nat → Nat) (N U L nx : Nat) (zs : List svT) (h : hpT) : Prop := CG (fun y => y = L) 0 0 h0 o h o ∧ lgK g h o N U L nx zs ∧ Sm h0 h L ∧ (∀ y, hK h0 y = 9 → ∀ f, ¬ f = 524 → hI h f y = hI h0 f y) ∧ (∀ y, ¬ hK h0 y = 0 → ¬ hK h0 y = 9 → ¬ hK h0 y = 1 → ¬ hK h0 y = 28 → Sm h0 h y) ∧ ∀ l, hR h0 256 L = some l → capO g h l = capO g h0 l
section CLEAN
variable {g : gcT} {P : pmT} {o : Nat → Nat} {h0 : hpT} {a e v l N U L rep nm nx s : Nat} {R : arT} {up : Int32} {zs ts : List svT} {Q : hpT → Option Value → Prop}
theorem clS.letGo {h : hpT} (w0 : hWF h0) (hg0 : gOK g h0) (ok : oOK o) (c : clS g h0 o N U L nx zs h) {z : svT} (hz : z ∈ zs) : EvV g P 22 [va_rf (some L), va_rf (some z.1)] h (fun h' => clS g h0 o N U L nx (rmA zs z.1) h' ∧ ∀ q, hK h0 q = 7 → tmK h o L nx zs q → tmK h' o L nx (rmA zs z.1) q) := by
  obtain ⟨c1, c2, c3, c4, c5, c6⟩ := c
  have hg := hg0.ch c1.1
  have kk : ∀ y, ¬ hK h0 y = 0 → hK h y = hK h0 y := fun y hy => (c1.1.2.1 y (w0.lt hy)).1
  have kL := c2.1.1.1
  refine Ev.imp (lgK.letGo c1.w hg ok c2 hz) (fun h' r ⟨er, x1, x2, x3, x4, x5, x6, x7, x8⟩ => ⟨er, ⟨CG.tr w0 ok c1 x1, x2, c3.tr x3, fun y hy f hf => ?_, fun y y0 y9 y1 y28 => ?_, fun l' hl' => ?_⟩, fun q hq => x8 q (by rw [kk q (by omega)]; exact hq)⟩)
  · rw [x4 y (by rw [kk y (by omega)]; exact hy) f hf]; exact c4 y hy f hf
  · exact (c5 y y0 y9 y1 y28).tr (x5 y (by rw [kk y y0]; exact y0) (by rw [kk y y0]; exact y9) (by rw [kk y y0]; exact y1) (by rw [kk y y0]; exact y28))
  · rw [x7 l' (by rw [(c3.2.1 256).2]; exact hl')]; exact c6 l' hl'
theorem clean_1 (w0 : hWF h0) (hg0 : gOK g h0) (ok : oOK o) (st0 : stR g h0 o a e v R l N U rep up nm (ts.map (·.1))) (kl0 : lgK g h0 o N U L nx zs) (hts : ∀ t ∈ ts, t ∈ zs) (nd : (ts.map (·.1)).Nodup) (kk : ∀ h', clS g h0 o N U L nx (rmS zs (ts.take (zN (ts.map (cz h0))))) h' → Ev g P 48 69 [some (va_rf (some a)), some (va_rf (some s)), some (va_rf (some L)), some (.int (nI (zN (ts.map (cz h0))))), none, none, none, none] [] h' Q) : Ev g P 48 20 [some (va_rf (some a)), some (va_rf (some s)), some (va_rf (some L)), some (.int 0), none, none, none, none] [] h0 Q := by
  have kL := kl0.1.1.1
  have ka := st0.1.1
  have nLa : ¬ a = L := kinds_ne (h := h0) (by omega)
  have k9 : ∀ t ∈ ts, hK h0 t.1 = 9 := fun t ht => (kl0.1.sg t (hts t ht)).1.1
  have lp : ∀ d i h', i + d = ts.length → i + zN ((ts.drop i).map (cz h0)) = zN (ts.map (cz h0)) → clS g h0 o N U L nx (rmS zs (ts.take i)) h' → Ev g P 48 20 [some (va_rf (some a)), some (va_rf (some s)), some (va_rf (some L)), some (.int (nI i)), none, none, none, none] [] h' Q := by
    intro d
    induction d with
    | zero =>
      intro i h' hi en c
      have st := stR.fr w0 hg0 st0 c.1 nLa
      obtain ⟨⟨ka', -⟩, -, -, hl', kl', -⟩ := st
      have hlen := kl'.1.len
      rw [List.length_map] at hlen
      have hsz : EvI g P 191 [va_rf (hR h' 645 a)] h' (fun h'' r => h'' = h' ∧ r = nI ts.length) := by
        have := m_size (P := P) kl'.1
        rw [List.length_map] at this
        rw [hl']; exact this
      refine s_48_20 (k3 := ka') (e5 := hl') (k6 := kl'.1.1) (hc := hsz) (kk := fun h2 x ⟨e1, e2⟩ => ?_)
      subst e1; subst e2
      refine s_48_28 (kt := fun _ => ?_) (kf := fun z => absurd (nI_le (by omega) (by omega)) z)
      rw [List.drop_eq_nil_of_le (by omega)] at en
      have en : i = zN (ts.map (cz h0)) := en
      rw [en] at c ⊢
      exact kk _ c
    | succ d ih =>
      intro i h' hi en c
      have hit : i < ts.length := by omega
      have st := stR.fr w0 hg0 st0 c.1 nLa
      obtain ⟨⟨ka', -⟩, -, -, hl', kl', -⟩ := st
      have hlen := kl'.1.len
      rw [List.length_map] at hlen
      have hsz : EvI g P 191 [va_rf (hR h' 645 a)] h' (fun h'' r => h'' = h' ∧ r = nI ts.length) := by
        have := m_size (P := P) kl'.1
        rw [List.length_map] at this
        rw [hl']; exact this
      have hgt : EvA g P 193 [va_rf (hR h' 645 a), .int (nI i)] h' (fun h'' r => h'' = h' ∧ r = some ts[i].1) := by
        have := m_get (P := P) (i := i) kl'.1 (by rw [List.length_map]; exact hit)
        rw [List.getElem_map] at this
        rw [hl']; exact this
      have ht := List.getElem_mem hit
      have k90 := k9 _ ht
      have k9' : hK h' ts[i].1 = 9 := by rw [(c.1.1.2.1 _ (w0.lt (by omega))).1]; exact k90
      have lu : hI h' 521 ts[i].1 = hI h0 521 ts[i].1 := c.2.2.2.1 _ k90 521 (by decide)
      rw [drop_cons hit, List.map_cons] at en
      refine s_48_20 (k3 := ka') (e5 := hl') (k6 := kl'.1.1) (hc := hsz) (kk := fun h2 x ⟨e1, e2⟩ => ?_)
      subst e1; subst e2
      refine s_48_28 (kt := fun z => absurd z (nI_ge hit (by omega))) (kf := fun _ => ?_)
      refine s_48_31 (k3 := ka') (e5 := hl') (k6 := kl'.1.1) (hc := hgt) (kk := fun h2 x ⟨e1, e2⟩ => ?_)
      subst e1; subst e2
      refine s_48_39 (c1 := fun b eb => by cases eb; exact k9') (k4 := k9') (kt := fun z => ?_) (kf := fun z => ?_)
      · rw [lu] at z
        have e0 : zN (cz h0 ts[i] :: (ts.drop (i + 1)).map (cz h0)) = 0 := if_neg z
        rw [e0, Nat.add_zero] at en
        rw [← en] at kk
        exact kk _ c
      · rw [lu] at z
        have e0 : zN (cz h0 ts[i] :: (ts.drop (i + 1)).map (cz h0)) = zN ((ts.drop (i + 1)).map (cz h0)) + 1 := if_pos z
        rw [e0] at en
        refine s_48_48 (k3 := ka') (e5 := hl') (k6 := kl'.1.1) (hc := hgt) (kk := fun h3 x ⟨e1, e2⟩ => ?_)
        subst e1; subst e2
        have hmem : ts[i] ∈ rmS zs (ts.take i) := by
          refine rmS_mem.mpr ⟨hts _ ht, fun t ht' q => ?_⟩
          obtain ⟨j, hj, ej⟩ := List.getElem_of_mem ht'
          rw [List.length_take] at hj
          rw [List.getElem_take] at ej
          have pw := List.pairwise_iff_getElem.mp nd j i (by rw [List.length_map]; omega) (by rw [List.length_map]; omega) (by omega)
          rw [List.getElem_map, List.getElem_map, ej] at pw
          exact pw q.symm
        refine s_48_57 (c1 := fun b eb => by cases eb; exact k9') (k4 := c.2.1.1.1.1) (hc := clS.letGo w0 hg0 ok c hmem) (kk := fun h4 ⟨c4, _⟩ => s_48_63 ?_)
        rw [nI_1]
        refine ih (i + 1) h4 (by omega) (by omega) ?_
        rw [rmS_1 hit]; exact c4
  have := lp ts.length 0 h0 (by omega) (by rw [List.drop_zero]; exact Nat.zero_add _) ⟨CG.rf w0 ok _, kl0, Sm.rf _ _, fun _ _ _ _ => rfl, fun _ _ _ _ _ => Sm.rf _ _, fun _ _ => rfl⟩
  rw [nI_0] at this
  exact this
end CLEAN
