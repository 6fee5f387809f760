/-! the face: requestOf, post, send, again, drop, twice, got, acked -/
def rqI (F : fcT) (c n : Int32) : Option (Nat × Nat) := if inF c 6 = 0 ∨ n < 1 ∨ ¬ n ≤ nI ((fCl F).getD c.toNatClampNeg cl0).1.length then none else some (c.toNatClampNeg, n.toNatClampNeg)
def newM (h h1 : hpT) (q : Nat) (a : Int32) (t n : Option Nat) : Prop := Ch (fun _ => False) 1 (nf 5) h h1 ∧ hS h1 = hS h + 1 ∧ hK h1 (hS h) = 6 ∧ hR h1 320 (hS h) = some q ∧ hI h1 321 (hS h) = a ∧ hR h1 322 (hS h) = t ∧ hR h1 323 (hS h) = n
def owF (S : stA) (ky : Int32) : Int32 := (tOw S).getD (ky / 8).toNatClampNeg 0
def owOK (y : Nat → Nat) (S : stA) : Prop := ∀ t, t < 8 → (tOw S).getD t 0 = -1 ∨ ∃ j, j < y 20 ∧ (tOw S).getD t 0 = nI j
def postA (F : fcT) (i n : Nat) (ky : Int32) : fcT × Int32 := if owF (fSt F) ky = -1 then (F, -2) else match fpA (fNt F) with
  | none => (F, -3)
  | some p => ((fSt F, fCl F, u1 (fNt F) p (some (i, n, nI (loA ((fCl F).getD i cl0)), some (owF (fSt F) ky).toNatClampNeg, none)), fCk F, fEf F), nI p)
def keepA (F : fcT) (i : Nat) (r : rqT) : fcT := (fSt F, (fCl F).set i (((fCl F).getD i cl0).1 ++ [r], ((fCl F).getD i cl0).2), fNt F, fCk F, fEf F)
def sendA (F : fcT) (c k ky a b : Int32) : fcT × Int32 :=
  if inF c 6 = 0 ∨ k < 0 ∨ 3 < k ∨ inF ky 64 = 0 then (F, -1)
  else if ¬ ((fCl F).getD c.toNatClampNeg cl0).1.length < 40 then (F, -1)
  else if owF (fSt F) ky = -1 then (F, -2)
  else match fpA (fNt F) with
  | none => (F, -3)
  | some _ => (keepA (postA F c.toNatClampNeg (((fCl F).getD c.toNatClampNeg cl0).1.length + 1) ky).1 c.toNatClampNeg (k, ky, a, b), nI (((fCl F).getD c.toNatClampNeg cl0).1.length + 1))
def agaA (F : fcT) (c n : Int32) : fcT × Int32 := match rqI F c n with
  | none => (F, -1)
  | some (i, m) => postA F i m (((fCl F).getD i cl0).1.getD (m - 1) rq0).2.1
def msgA (F : fcT) (p : Int32) : Option (Nat × msT) := if inF p 40 = 0 then none else (fNt F p.toNatClampNeg).map (fun x => (p.toNatClampNeg, x))
def netA (F : fcT) (p : Nat) (u : Option msT) : fcT := (fSt F, fCl F, u1 (fNt F) p u, fCk F, fEf F)
def drpA (F : fcT) (p : Int32) : fcT × Int32 := match msgA F p with
  | none => (F, 0)
  | some (j, _) => (netA F j none, 1)
def twiA (F : fcT) (p : Int32) : fcT × Int32 := match msgA F p with
  | none => (F, -1)
  | some (_, x) => match fpA (fNt F) with
    | none => (F, -3)
    | some q => (netA F q (some x), nI q)
def gotA (F : fcT) (c n k : Int32) : Int32 := match rqI F c n with
  | none => -1000000
  | some (i, m) => match ((fCl F).getD i cl0).2 (m - 1) with
    | none => -1000000
    | some v => if k = 0 then v.1 else if k = 1 then v.2.1 else if k = 2 then v.2.2 else -1000000
def ackdA (F : fcT) (c : Int32) : Int32 := if inF c 6 = 0 then -1 else nI (loA ((fCl F).getD c.toNatClampNeg cl0))
section FC
variable {g : gcT} {P : pmT} {o o' w w' : Nat → Nat} {y : Nat → Nat} {R R2 : arT} {h h' h1 : hpT} {B : Nat → Prop} {i j t c m n p q : Nat} {ss : List Nat} {Ls : List lsT} {Ds : List (Nat × Nat)} {S S' : stA} {cs : csT} {F : fcT} {cl : List kcT} {nt : Nat → Option msT} {x : msT} {r : rqT} {v : anT} {ck ef : Nat} {u : Option Nat} {ua : Option anT} {x1 x2 x3 x4 x5 : Int32}
theorem fcR.req (k9 : hK h (y 9) = 13) (k : fcR h o y ss cs F) : EvA g P 94 [va_rf (some (y 9)), .int x1, .int x2] h (fun h' z => h' = h ∧ ((rqI F x1 x2 = none ∧ z = none) ∨ ∃ i n q, rqI F x1 x2 = some (i, n) ∧ x1 = nI i ∧ x2 = nI n ∧ i < 6 ∧ 1 ≤ n ∧ n ≤ ((fCl F).getD i cl0).1.length ∧ z = some q ∧ o q = y 9 ∧ reqV h q i n (((fCl F).getD i cl0).1.getD (n - 1) rq0))) := by
  refine e_94 (s_94_0 (hc := m_isClient) (kk := fun h' v ⟨e1, e2⟩ => ?_))
  subst e1; subst e2
  obtain ⟨k1, k2, k3, k4, k5, k6⟩ := k.2.1.1
  refine s_94_4 (kt := fun z => s_94_25 ⟨_, rfl, rfl, Or.inl ⟨if_pos (Or.inl z), rfl⟩⟩) (kf := fun z => ?_)
  obtain ⟨i, hi6, ei⟩ := inF_1 (n := 6) (by decide) z
  have ec : x1.toNatClampNeg = i := by rw [ei]; exact nI_clamp (by omega)
  obtain ⟨c1, c2⟩ := cs_at k.2.1.1 hi6
  obtain ⟨d1, d2, d3, d4, d5, d6, d7, d8, d9⟩ := c2
  obtain ⟨f1, f2, f3⟩ := k.2.2.1.2 i hi6
  have hb : hB h' (y 10) x1.toNatClampNeg = some (cs.getD i cs0).1 := by rw [ec]; exact c1
  have hv : vinD x1 (hN h' (y 10)) := by rw [k4, ei]; exact vin_nI hi6 (by decide)
  refine s_94_7 (kt := fun z1 => s_94_25 ⟨_, rfl, rfl, Or.inl ⟨if_pos (Or.inr (Or.inl z1)), rfl⟩⟩) (kf := fun z1 => ?_)
  refine s_94_12 (k3 := k1) (e5 := k2) (k6 := k3) (i7 := hv) (e9 := hb) (k10 := d1) (kt := fun z2 => ?_) (kf := fun z2 => s_94_25 ⟨_, rfl, rfl, Or.inl ⟨if_pos (Or.inr (Or.inr ?_)), rfl⟩⟩)
  · rw [d8, f1] at z2
    rw [f1] at d9
    have h0 : ¬ x2 < 0 := fun q => z1 (Int32.lt_trans q (by decide))
    obtain ⟨n, hn, en⟩ := nI_of h0
    have hn1 : 1 ≤ n := by
      rcases Nat.eq_zero_or_pos n with q | q
      · rw [en, q, nI_0] at z1; exact absurd (by decide) z1
      · exact q
    have hn2 : n ≤ ((fCl F).getD i cl0).1.length := by
      rw [en] at z2
      exact (nI_leI hn (by omega)).mp z2
    have em : x2 - 1 = nI (n - 1) := by
      have := nI_1 (n - 1)
      rw [show n - 1 + 1 = n from by omega] at this
      rw [en, ← this, Int32.add_sub_cancel]
    obtain ⟨q, g1, g2, g3⟩ := f2 (n - 1) (by omega)
    rw [show n - 1 + 1 = n from by omega] at g3
    refine s_94_27 (k3 := k1) (e5 := k2) (k6 := k3) (i7 := hv) (e9 := hb) (k10 := d1) (e12 := d2) (k13 := d4) (i14 := by rw [em, d5]; exact vin_nI (by omega) (by decide)) (hq := ⟨_, rfl, rfl, Or.inr ⟨i, n, q, ?_, ei, en, hi6, hn1, hn2, ?_, g2, g3⟩⟩)
    · unfold rqI
      rw [if_neg, ec, en, nI_clamp hn]
      rintro (q1 | q1 | q1)
      · exact z q1
      · exact z1 q1
      · rw [ec, en] at q1
        exact q1 (nI_le hn2 (by omega))
    · rw [em, nI_clamp (by omega)]; exact g1
  · rw [d8, f1] at z2
    rw [ec]; exact z2
theorem newM_of (wf : hWF h) {a : Int32} {tg an : Option Nat} : newM h (hpR (hpR (hpI (hpR (hpO h 5) 320 (hS h) (some q)) 321 (hS h) a) 322 (hS h) tg) 323 (hS h) an) q a tg an := by
  have w0 := wf.O 5
  have l0 : hS h < hS (hpO h 5) := Nat.lt_succ_self _
  have z1 := Ch.wR w0 (f := 320) (some q) l0
  have z2 := Ch.wI z1.2.2.1 (f := 321) (a := hS h) a l0
  have z3 := Ch.wR z2.2.2.1 (f := 322) (a := hS h) tg l0
  have z4 := Ch.wR z3.2.2.1 (f := 323) (a := hS h) an l0
  have tot := (((z1.tr z2).tr z3).tr z4).mono (B := fun z => z = hS h) (fun a _ q => by rcases q with ((q | q) | q) | q <;> exact q) (Nat.le_refl _) (Nat.le_refl _)
  refine ⟨Ch.new (A := fun _ => False) wf tot, rfl, hK_O_new h 5, ?_, ?_, ?_, ?_⟩
  · show u2 (u2 (u2 (hR (hpO h 5)) 320 (hS h) (some q)) 322 (hS h) tg) 323 (hS h) an 320 (hS h) = _
    simp [u2]
  · show u2 (hI (hpO h 5)) 321 (hS h) a 321 (hS h) = _
    simp [u2]
  · show u2 (u2 (u2 (hR (hpO h 5)) 320 (hS h) (some q)) 322 (hS h) tg) 323 (hS h) an 322 (hS h) = _
    simp [u2]
  · show u2 (u2 (u2 (hR (hpO h 5)) 320 (hS h) (some q)) 322 (hS h) tg) 323 (hS h) an 323 (hS h) = _
    simp [u2]
theorem m_post (kS : RS g h o w y R R2 ss Ls Ds (fSt F)) (kF : fcR h o y ss cs F) (how : owOK y (fSt F)) (hi : i < 6) (hq : hK h q = 8) (hky : inF (hI h 451 q) 64 = 1) : EvI g P 97 [va_rf (some (y 9)), va_rf (some q), va_rf (some (cs.getD i cs0).1)] h (fun h' r => (owF (fSt F) (hI h 451 q) = -1 ∧ h' = h ∧ r = -2) ∨ (¬ owF (fSt F) (hI h 451 q) = -1 ∧ fpA (fNt F) = none ∧ h' = h ∧ r = -3) ∨ ∃ p t h1, ¬ owF (fSt F) (hI h 451 q) = -1 ∧ owF (fSt F) (hI h 451 q) = nI t ∧ t < y 20 ∧ fpA (fNt F) = some p ∧ r = nI p ∧ h' = hpB h1 (y 11) p (some (hS h)) ∧ newM h h1 q (nI (loA ((fCl F).getD i cl0))) (some (ss.getD t 0)) none) := by
  obtain ⟨k0, k1, k4, kse, kde⟩ := kS.kinds
  have wf := kS.1.1
  have k9 := kS.2.1.2.2.1
  have kD := kS.2.2.2.2.2
  obtain ⟨⟨a1, a2, a3⟩, a4, a5, a6, a7⟩ := kF.1
  obtain ⟨b1, b2, b3, b4, b5, b6⟩ := kD.2.1
  obtain ⟨⟨xs, st⟩, -⟩ := kS.2.2.1
  have e643 : hR h 643 (y 0) = some (y 1) := st.1.2.1
  obtain ⟨⟨l1, l2, l3⟩, ⟨⟨v1, v2, v3, v4⟩, oe⟩, kb⟩ := kS.2.2.2.1
  obtain ⟨ky, hk64, eky⟩ := inF_1 (n := 64) (x := hI h 451 q) (by decide) (by rw [show nI 64 = (64 : Int32) from rfl, hky]; decide)
  have e8 : hI h 451 q / 8 = nI (ky / 8) := by
    have : ∀ k, k < 64 → nI k / 8 = nI (k / 8) := by decide +kernel
    rw [eky]; exact this ky hk64
  have hc8 : (nI (ky / 8)).toNatClampNeg = ky / 8 := nI_clamp (by omega)
  have eo : hA h (y 5) (ky / 8) = owF (fSt F) (hI h 451 q) := by
    rw [b6 _ (by omega)]
    unfold owF
    rw [e8, hc8]
  refine e_97 (s_97_0 (k3 := k9) (e5 := a3) (k6 := k4) (k9 := hq) (hc := m_tabletOf) (kk := fun h2 x ⟨e1, e2⟩ => ?_))
  subst e1; subst e2
  refine s_97_14 (e2 := b1) (k3 := b2) (i4 := by rw [e8, b3]; exact vin_nI (by omega) (by decide)) (kt := fun z => ?_) (kf := fun z => s_97_21 ⟨_, rfl, Or.inl ⟨by rw [e8, hc8, eo] at z; exact z, rfl, rfl⟩⟩)
  rw [e8, hc8, eo] at z ⊢
  refine s_97_24 (k3 := k9) (hc := m_freePlace k9 a4 a5 a6) (kk := fun h3 x ⟨e1, e2⟩ => ?_)
  subst e1
  rw [kF.free] at e2
  cases ef : fpA (fNt F) with
  | none =>
    rw [ef] at e2
    have e2 : x = -1 := e2
    exact s_97_28 (kt := fun z => absurd e2 z) (kf := fun _ => s_97_36 ⟨_, rfl, Or.inr (Or.inl ⟨z, rfl, rfl, rfl⟩)⟩)
  | some p =>
    rw [ef] at e2
    have e2 : x = nI p := e2
    subst e2
    have hp := fpA_lt ef
    obtain ⟨t, ht, et⟩ : ∃ t, t < y 20 ∧ owF (fSt F) (hI h3 451 q) = nI t := by
      rcases how (ky / 8) (by omega) with q1 | q1
      · exfalso
        apply z
        unfold owF
        rw [e8, hc8]; exact q1
      · obtain ⟨t, h1, h2⟩ := q1
        refine ⟨t, h1, ?_⟩
        unfold owF
        rw [e8, hc8]; exact h2
    refine s_97_28 (kt := fun _ => ?_) (kf := fun q1 => absurd q1 (by
      have : ∀ p, p < 40 → ¬ nI p = -1 := by decide +kernel
      exact this p hp))
    refine s_97_39 (k3 := k9) (kk := ?_)
    have wO := wf.O 5
    have cO := Ch.mO wf 5
    have lt : ∀ a, ¬ hK h3 a = 0 → a < hS h3 := fun a ha => wf.lt ha
    obtain ⟨f1, f2⟩ := cs_at kF.2.1.1 hi
    have f2' : clV (hpO h3 5) (cs.getD i cs0).1 (cs.getD i cs0).2.1 (cs.getD i cs0).2.2.1 (cs.getD i cs0).2.2.2 := by
      obtain ⟨d1, d2, d3, d4, d5, d6, d7, d8, d9⟩ := f2
      exact ⟨by rw [hK_O (lt _ (by omega))]; exact d1, d2, d3, by rw [hK_O (lt _ (by omega))]; exact d4, d5, by rw [hK_O (lt _ (by omega))]; exact d6, d7, d8, d9⟩
    refine s_97_48 (k3 := f2'.1) (hc := m_leastOpen f2') (kk := fun h4 x ⟨e1, e2⟩ => ?_)
    subst e1
    have e2 : x = nI (loA ((fCl F).getD i cl0)) := by
      rw [e2, ← kF.lo hi]; rfl
    subst e2
    have l20 : y 20 < 2 ^ 31 := by have := kS.2.1.1.1.2; omega
    have ek : ∀ a, ¬ hK h3 a = 0 → hK (hpO h3 5) a = hK h3 a := fun a ha => hK_O (lt a ha)
    refine s_97_54 (k3 := by rw [ek _ (by omega)]; exact k9) (e5 := a2) (k6 := by rw [ek _ (by omega)]; exact k0) (e8 := e643) (k9 := by rw [ek _ (by omega)]; exact v1) (i10 := by rw [et]; show vinD (nI t) (hN h3 (y 1)); rw [v2, l1]; exact vin_nI ht l20) (e12 := rfl) (hc := m_24 (hK_O_new h3 5)) (kk := fun h5 e => ?_)
    have et' : (owF (fSt F) (hI h3 451 q)).toNatClampNeg = t := by rw [et]; exact nI_clamp (by omega)
    have eB : hB (hpO h3 5) (y 1) t = some (ss.getD t 0) := by
      have : t < ss.length := by omega
      have := (v4 t this).1
      rw [List.getD_eq_getElem?_getD, List.getElem?_eq_getElem (by omega)]
      exact this
    rw [et', eB] at e
    have hS5 : hS h5 = hS h3 + 1 := by rw [e]; rfl
    have hnew : newM h3 h5 q (nI (loA ((fCl F).getD i cl0))) (some (ss.getD t 0)) none := by rw [e]; exact newM_of wf
    have k11 : hK h5 (y 11) = 24 := by rw [(hnew.1.2.1 _ (lt _ (by omega))).1]; exact a5
    have n11 : hN h5 (y 11) = 40 := by rw [(hnew.1.2.1 _ (lt _ (by omega))).2]; exact a6
    refine x_97_67 (e2 := a4) (k3 := k11) (i4 := by rw [n11]; exact vin_nI hp (by decide)) (c5 := fun b eb => by cases eb; rw [hnew.2.2.1]; decide) (hq := ⟨_, rfl, Or.inr (Or.inr ⟨p, t, h5, z, et, ht, rfl, rfl, ?_, hnew⟩)⟩)
    rw [nI_clamp (by omega)]
end FC
