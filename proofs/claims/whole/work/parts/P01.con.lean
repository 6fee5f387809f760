-- the class's constructors: Storage
def eLs (g : gcT) (h : hpT) (l : Nat) : Prop := hK h l = 1 ∧ hI h 2 l = 0 ∧ hR h 1 l = some g.2.2.2
def srvN (g : gcT) (h : hpT) (s k : Nat) (tb : Int32) : Prop := (hK h s = 10 ∧ (∀ f, hI h f s = lk [(577, 0), (582, -1), (576, nI k), (580, tb)] f 0) ∧ hR h 584 s = some (s + 1) ∧ ∀ f, ¬ f = 584 → hR h f s = none) ∧ (hK h (s + 1) = 5 ∧ hR h 256 (s + 1) = some (s + 2) ∧ hR h 257 (s + 1) = none ∧ hR h 258 (s + 1) = none ∧ hI h 259 (s + 1) = 0) ∧ eLs g h (s + 2)
def upI (n : Nat) : Int32 := (List.range n).foldl (fun u i => u ||| (1 <<< (nI i &&& 31))) 0
def con40 (g : gcT) (h : hpT) (a N i : Nat) (rep U mem : Int32) (h' : hpT) : Prop := Ch (fun b => b = a) (8 + 3 * i) (1000 + 100 * i) h h' ∧ hS h' = hS h + 8 + 3 * i ∧ (hR h' 644 a = some (hS h) ∧ svA h' (hS h) (hS h + 1, hS h + 2, hS h + 3, hS h + 4, hS h + 5)) ∧ (hR h' 645 a = some (hS h + 6) ∧ eLs g h' (hS h + 6)) ∧ (hR h' 643 a = some (hS h + 7) ∧ hK h' (hS h + 7) = 27 ∧ hN h' (hS h + 7) = N) ∧ (∀ f, hI h' f a = lk [(640, rep), (641, U), (642, mem), (646, upI i)] f 0) ∧ ∀ k, k < i → hB h' (hS h + 7) k = some (hS h + 8 + 3 * k) ∧ srvN g h' (hS h + 8 + 3 * k) k 0
section
variable {g : gcT} {P : pmT} {h h' : hpT} {a s k l v N i : Nat} {tb rep U mem : Int32} {R : arT} {A : Nat → Prop} {c m : Nat}
theorem lk4 {u : Int32} {f : Nat} : lk [(640, rep), (641, U), (642, mem), (646, u)] f 0 = if 646 = f then u else lk [(640, rep), (641, U), (642, mem)] f 0 := rfl
theorem lkV {x u : Int32} {f : Nat} : lk [(577, 0), (582, -1), (576, x), (580, u)] f 0 = if 580 = f then u else lk [(577, 0), (582, -1), (576, x)] f 0 := rfl
theorem eLs.sm (x : eLs g h l) (q : Sm h h' l) : eLs g h' l := ⟨by rw [q.1]; exact x.1, by rw [(q.2.1 2).1]; exact x.2.1, by rw [(q.2.1 1).2]; exact x.2.2⟩
theorem srvN.sm (x : srvN g h s k tb) (q0 : Sm h h' s) (q1 : Sm h h' (s + 1)) (q2 : Sm h h' (s + 2)) : srvN g h' s k tb := by
  obtain ⟨⟨a1, a2, a3, a4⟩, ⟨b1, b2, b3, b4, b5⟩, e⟩ := x
  exact ⟨⟨by rw [q0.1]; exact a1, fun f => by rw [(q0.2.1 f).1]; exact a2 f, by rw [(q0.2.1 584).2]; exact a3, fun f hf => by rw [(q0.2.1 f).2]; exact a4 f hf⟩, ⟨by rw [q1.1]; exact b1, by rw [(q1.2.1 256).2]; exact b2, by rw [(q1.2.1 257).2]; exact b3, by rw [(q1.2.1 258).2]; exact b4, by rw [(q1.2.1 259).1]; exact b5⟩, e.sm q2⟩
theorem svA.smm (x : svA h v R) (q : ∀ a, ¬ hK h a = 0 → a = v ∨ a = R.1 ∨ a = R.2.1 ∨ a = R.2.2.1 ∨ a = R.2.2.2.1 ∨ a = R.2.2.2.2 → Sm h h' a) : svA h' v R := by
  obtain ⟨k0, e1, e2, e3, e4, e5, ⟨k1, n1⟩, ⟨k2, n2⟩, ⟨k3, n3⟩, ⟨k4, n4⟩, ⟨k5, n5⟩, d1, d2⟩ := x
  have q0 := q v (by omega) (Or.inl rfl)
  have q1 := q R.1 (by omega) (Or.inr (Or.inl rfl))
  have q2 := q R.2.1 (by omega) (Or.inr (Or.inr (Or.inl rfl)))
  have q3 := q R.2.2.1 (by omega) (Or.inr (Or.inr (Or.inr (Or.inl rfl))))
  have q4 := q R.2.2.2.1 (by omega) (Or.inr (Or.inr (Or.inr (Or.inr (Or.inl rfl)))))
  have q5 := q R.2.2.2.2 (by omega) (Or.inr (Or.inr (Or.inr (Or.inr (Or.inr rfl)))))
  exact ⟨by rw [q0.1]; exact k0, by rw [(q0.2.1 704).2]; exact e1, by rw [(q0.2.1 705).2]; exact e2, by rw [(q0.2.1 706).2]; exact e3, by rw [(q0.2.1 707).2]; exact e4, by rw [(q0.2.1 708).2]; exact e5, ⟨by rw [q1.1]; exact k1, by rw [q1.2.2.1]; exact n1⟩, ⟨by rw [q2.1]; exact k2, by rw [q2.2.2.1]; exact n2⟩, ⟨by rw [q3.1]; exact k3, by rw [q3.2.2.1]; exact n3⟩, ⟨by rw [q4.1]; exact k4, by rw [q4.2.2.1]; exact n4⟩, ⟨by rw [q5.1]; exact k5, by rw [q5.2.2.1]; exact n5⟩, d1, d2⟩
/-- a new, empty list -/
theorem new_list (w : hWF h) : EvV g P 188 [va_rf (some (hS h))] (hpO h 0) (fun h' => eLs g h' (hS h) ∧ Ch (fun _ => False) 1 (nf 0) h h' ∧ hS h' = hS h + 1) := by
  have c1 := Ch.mO w 0
  have w1 := c1.2.2.1
  have k1 : hK (hpO h 0) (hS h) = 1 := hK_O_new h 0
  have z : ∀ f, hI (hpO h 0) f (hS h) = 0 := fun f => ((w (hS h) (Nat.le_refl _)).2.1 f).1
  refine Ev.imp (m_188 k1) (fun h' r ⟨e1, e⟩ => ⟨e1, ?_⟩)
  subst e
  have hl : hS h < hS (hpO h 0) := Nat.lt_succ_self _
  have c2 := Ch.wI (f := 0) w1 (0 : Int32) hl
  have c3 := Ch.wR (f := 1) c2.2.2.1 (some g.2.2.2) hl
  refine ⟨⟨k1, ?_, ?_⟩, ((c1.tr c2).tr c3).mono (fun a ha q => ?_) (Nat.le_refl _) (Nat.le_refl _), rfl⟩
  · show hI (hpI (hpO h 0) 0 (hS h) 0) 2 (hS h) = 0
    rw [rI_I, if_neg (fun q => absurd q.1 (by decide))]
    exact z 2
  · rw [rR_R, if_pos ⟨rfl, rfl⟩]
  · rcases q with (q | q) | q
    · exact q
    · omega
    · omega
/-- one more SERVER -/
theorem con40_l (w : hWF h) (hN8 : N ≤ 8) (ka : hK h a = 11) : ∀ (d i : Nat) (h1 : hpT), i + d = N → con40 g h a N i rep U mem h1 → Ev g P 40 53 [some (va_rf (some a)), some (.int (nI N)), some (.int rep), some (.int U), some (.int mem), some (.int (nI i))] [] h1 (fun h' r => r = none ∧ con40 g h a N N rep U mem h') := by
  intro d
  induction d with
  | zero =>
    intro i h1 e x
    have : i = N := by omega
    subst this
    have x0 := x
    obtain ⟨c1, s1, -, -, ⟨e1, e2, e3⟩, -⟩ := x
    have ha : a < hS h := w.lt (by omega)
    have k1 : hK h1 a = 11 := by rw [(c1.2.1 a ha).1]; exact ka
    exact s_40_53 (k3 := k1) (e5 := e1) (k7 := e2) (kt := fun _ => s_40_98 ⟨rfl, x0⟩) (kf := fun z => absurd (by rw [e3]; exact Int32.le_refl _) z)
  | succ d ih =>
    intro i h1 e x
    have x0 := x
    obtain ⟨c1, s1, ⟨e4, sv⟩, ⟨e5, el⟩, ⟨e1, e2, e3⟩, fi, ss⟩ := x
    have ha : a < hS h := w.lt (by omega)
    have w1 := c1.2.2.1
    have k1 : hK h1 a = 11 := by rw [(c1.2.1 a ha).1]; exact ka
    have hi : i < N := by omega
    refine s_40_53 (k3 := k1) (e5 := e1) (k7 := e2) (kt := fun z => absurd z (by rw [e3]; exact nI_ge hi (by omega))) (kf := fun _ => ?_)
    refine s_40_63 (k3 := k1) (kk := ?_)
    have c2 := Ch.mO w1 9
    have w2 := c2.2.2.1
    have kn : hK (hpO h1 9) (hS h1) = 10 := hK_O_new h1 9
    have z0 : ∀ f, hI (hpO h1 9) f (hS h1) = 0 ∧ hR (hpO h1 9) f (hS h1) = none := fun f => (w1 (hS h1) (Nat.le_refl _)).2.1 f
    have e1' : hR h1 643 a = some (hS h + 7) := e1
    rw [e1']
    refine s_40_72 (hc := m_server (g := g) (P := P) (x := nI i) w2 kn) (kk := fun h3 ⟨n1, n2, n3, n4, ⟨n5, n6⟩, n7, n8, n9, n10, n11⟩ => ?_)
    have hs2 : hS (hpO h1 9) = hS h1 + 1 := rfl
    rw [hs2] at n2 n3 n4 n5 n6 n8 n9
    obtain ⟨m1, l, m2, ⟨⟨m3, m4, -⟩, -⟩, -⟩ := n1 0 0
    rw [hs2] at m1 m2
    rw [n5] at m2
    cases m2
    have c3 : Ch (fun _ => False) 3 (nf 9 + (nf 4 + nf 0)) h1 h3 := (c2.tr n7).mono (fun b hb q => q.elim id (fun q => by have : b = hS h1 := q; omega)) (Nat.le_refl _) (Nat.le_refl _)
    have w3 := c3.2.2.1
    have sm3 : ∀ b, b < hS h1 → Sm h1 h3 b := fun b hb => c3.sm (fun q => q) hb
    have k7 : hK h3 (hS h + 7) = 27 := by rw [(sm3 _ (by omega)).1]; exact e2
    have n7' : hN h3 (hS h + 7) = N := by rw [(sm3 _ (by omega)).2.2.1]; exact e3
    have ks : hK h3 (hS h1) = 10 := by rw [(n7.2.1 (hS h1) (by rw [hs2]; omega)).1]; exact kn
    have ka3 : hK h3 a = 11 := by rw [(sm3 a (by omega)).1]; exact k1
    refine x_40_78 (k3 := k7) (i4 := by rw [n7']; exact vin_nI hi (by omega)) (c5 := fun b hb => by cases hb; rw [ks]; decide) (e7 := rfl) (k8 := ka3) (kk := ?_)
    have ei : hI h3 646 a = upI i := by rw [((sm3 a (by omega)).2.1 646).1, fi]; rfl
    rw [nI_clamp (by omega), nI_1, ei]
    have c4 := Ch.wB (i := i) w3 (some (hS h1)) (a := hS h + 7) (by omega)
    have c5 := Ch.wI (f := 646) c4.2.2.1 (upI i ||| (1 <<< (nI i &&& 31))) (a := a) (by show a < hS h3; omega)
    have eu : upI i ||| (1 <<< (nI i &&& 31)) = upI (i + 1) := by
      unfold upI
      rw [List.range_succ, List.foldl_append]
      rfl
    rw [eu] at c5 ⊢
    have c35 := (c3.tr (c4.tr c5))
    have smb : ∀ b, b < hS h3 → ¬ b = a → ¬ b = hS h + 7 → Sm h3 (hpI (hpB h3 (hS h + 7) i (some (hS h1))) 646 a (upI (i + 1))) b := fun b hb n1 n2 => (c4.tr c5).sm (fun q => q.elim n2 n1) hb
    have smc : ∀ b, b < hS h1 → ¬ b = a → ¬ b = hS h + 7 → Sm h1 (hpI (hpB h3 (hS h + 7) i (some (hS h1))) 646 a (upI (i + 1))) b := fun b hb n1 n2 => c35.sm (fun q => q.elim id (fun q => q.elim n2 n1)) hb
    have hB7 : ∀ k, hB (hpI (hpB h3 (hS h + 7) i (some (hS h1))) 646 a (upI (i + 1))) (hS h + 7) k = if k = i then some (hS h1) else hB h1 (hS h + 7) k := fun k => by
      show hB (hpB h3 (hS h + 7) i (some (hS h1))) (hS h + 7) k = _
      rw [rB_B]
      by_cases q : k = i
      · rw [if_pos ⟨rfl, q⟩, if_pos q]
      · rw [if_neg (fun z => q z.2), if_neg q, ((sm3 _ (by omega)).2.2.2 k).2]
    have hIa : ∀ f, hI (hpI (hpB h3 (hS h + 7) i (some (hS h1))) 646 a (upI (i + 1))) f a = if f = 646 then upI (i + 1) else hI h1 f a := fun f => by
      rw [rI_I]
      by_cases q : f = 646
      · rw [if_pos ⟨q, rfl⟩, if_pos q]
      · rw [if_neg (fun z => q z.1), if_neg q]
        show hI h3 f a = _
        rw [((sm3 a (by omega)).2.1 f).1]
    have hRa : ∀ f, hR (hpI (hpB h3 (hS h + 7) i (some (hS h1))) 646 a (upI (i + 1))) f a = hR h1 f a := fun f => by
      show hR h3 f a = _
      rw [((sm3 a (by omega)).2.1 f).2]
    have kk7 : hK (hpI (hpB h3 (hS h + 7) i (some (hS h1))) 646 a (upI (i + 1))) (hS h + 7) = 27 ∧ hN (hpI (hpB h3 (hS h + 7) i (some (hS h1))) 646 a (upI (i + 1))) (hS h + 7) = N := ⟨k7, n7'⟩
    have hSS : hS (hpI (hpB h3 (hS h + 7) i (some (hS h1))) 646 a (upI (i + 1))) = hS h3 := rfl
    generalize hpI (hpB h3 (hS h + 7) i (some (hS h1))) 646 a (upI (i + 1)) = H at c35 smb smc hB7 hIa hRa kk7 hSS ⊢
    refine ih (i + 1) H (by omega) ⟨(c1.tr c35).mono (fun b hb q => ?_) (by omega) (by show _ + (nf 9 + (nf 4 + nf 0) + (0 + 0)) ≤ _; have : nf 9 + (nf 4 + nf 0) ≤ 100 := (by decide); omega), by omega, ⟨by rw [hRa]; exact e4, sv.smm (fun b hb q => ?_)⟩, ⟨by rw [hRa]; exact e5, el.sm (smc _ (by omega) (by omega) (by omega))⟩, ⟨by rw [hRa]; exact e1, kk7⟩, fun f => ?_, fun k hk => ?_⟩
    · rcases q with q | q | q | q
      · exact q
      · exact q.elim
      · have q : b = hS h + 7 := q; omega
      · exact q
    · refine smc b (w1.lt hb) ?_ ?_
      · rcases q with q | q | q | q | q | q <;> first | omega | (simp only at q; omega)
      · rcases q with q | q | q | q | q | q <;> first | omega | (simp only at q; omega)
    · rw [hIa]
      by_cases q : f = 646
      · rw [if_pos q, q]; rfl
      · rw [if_neg q, fi, lk4, lk4, if_neg (fun z => q z.symm), if_neg (fun z => q z.symm)]
    · rw [hB7]
      by_cases q : k = i
      · subst q
        rw [if_pos rfl, s1]
        refine ⟨rfl, ?_⟩
        have es : hS h1 = hS h + 8 + 3 * k := s1
        have b0 := smb (hS h1) (by omega) (by omega) (by omega)
        have b1 := smb (hS h1 + 1) (by omega) (by omega) (by omega)
        have b2 := smb (hS h1 + 2) (by omega) (by omega) (by omega)
        rw [← es]
        have sN : srvN g h3 (hS h1) k 0 := by
          refine ⟨⟨ks, fun f => ?_, n9, fun f hf => ?_⟩, ⟨m1, n5, n2, n3, n4⟩, m3, m4, n6⟩
          · rw [n11 f, (z0 f).1, lkV]
            by_cases q : 580 = f
            · subst q; rfl
            · rw [if_neg q]
          · rw [n10 f hf, (z0 f).2]
        exact sN.sm b0 b1 b2
      · rw [if_neg q]
        obtain ⟨p1, p2⟩ := ss k (by omega)
        exact ⟨p1, p2.sm (smc _ (by omega) (by omega) (by omega)) (smc _ (by omega) (by omega) (by omega)) (smc _ (by omega) (by omega) (by omega))⟩
/-- new Storage -/
theorem m_40 (w : hWF h) (hN8 : N ≤ 8) (ka : hK h a = 11) (z0 : ∀ f, hI h f a = 0) : EvV g P 40 [va_rf (some a), .int (nI N), .int rep, .int U, .int mem] h (con40 g h a N N rep U mem) := by
  have ha : a < hS h := w.lt (by omega)
  refine e_40 (s_40_0 (kk := s_40_4 (kk := ?_)))
  have c1 := Ch.mO w 11
  have w1 := c1.2.2.1
  have k1 : hK (hpO h 11) (hS h) = 12 := hK_O_new h 11
  have s1 : hS (hpO h 11) = hS h + 1 := rfl
  refine s_40_8 (hc := m_survey (g := g) (P := P) w1 k1) (kk := fun h2 ⟨n1, n2, n3⟩ => ?_)
  rw [s1] at n1 n3
  have c2 : Ch (fun _ => False) 6 (nf 11 + 380) h h2 := (c1.tr n2).mono (fun b hb q => q.elim id (fun q => by have : b = hS h := q; omega)) (Nat.le_refl _) (Nat.le_refl _)
  have w2 := c2.2.2.1
  have sm2 : ∀ b, b < hS h → Sm h h2 b := fun b hb => c2.sm (fun q => q) hb
  have ka2 : hK h2 a = 11 := by rw [(sm2 a ha).1]; exact ka
  refine s_40_12 (k3 := ka2) (kk := ?_)
  have c3 := Ch.wR (f := 644) w2 (some (hS h)) (a := a) (by omega)
  have hS3 : hS (hpR h2 644 a (some (hS h))) = hS h + 6 := n3
  have i3 : hI (hpR h2 644 a (some (hS h))) = hI h2 := rfl
  have r3 : ∀ f, hR (hpR h2 644 a (some (hS h))) f a = if f = 644 then some (hS h) else hR h2 f a := fun f => by
    rw [rR_R]
    by_cases q : f = 644
    · rw [if_pos ⟨q, rfl⟩, if_pos q]
    · rw [if_neg (fun z => q z.1), if_neg q]
  have ka3 : hK (hpR h2 644 a (some (hS h))) a = 11 := ka2
  have c23 := (c2.tr c3).mono (B := fun b => b = a) (fun b hb q => q.elim (fun q => q.elim) id) (Nat.le_refl _) (Nat.le_refl _)
  have sv3 : svA (hpR h2 644 a (some (hS h))) (hS h) (hS h + 1, hS h + 2, hS h + 3, hS h + 4, hS h + 5) := n1.smm (fun b hb q => c3.sm (fun z => by
    have z : b = a := z
    rcases q with q | q | q | q | q | q <;> first | omega | (simp only at q; omega)) (w2.lt hb))
  generalize hpR h2 644 a (some (hS h)) = H3 at c3 hS3 i3 r3 ka3 c23 sv3 ⊢
  have w3 := c3.2.2.1
  refine s_40_19 (hc := new_list w3) (kk := fun h4 ⟨m1, m2, m3⟩ => ?_)
  have w4 := m2.2.2.1
  have sm4 : ∀ b, b < hS H3 → Sm H3 h4 b := fun b hb => m2.sm (fun q => q) hb
  have ka4 : hK h4 a = 11 := by rw [(sm4 a (by omega)).1]; exact ka3
  refine s_40_23 (k3 := ka4) (k6 := ka4) (kk := ?_)
  have c5 := Ch.wR (f := 645) w4 (some (hS H3)) (a := a) (by omega)
  have c6 := Ch.wI (f := 640) c5.2.2.1 rep (a := a) (by show a < hS h4; omega)
  have c7 := Ch.wI (f := 641) c6.2.2.1 U (a := a) (by show a < hS h4; omega)
  have c8 := Ch.wI (f := 642) c7.2.2.1 mem (a := a) (by show a < hS h4; omega)
  have hI7 : hK (hpI (hpI (hpR h4 645 a (some (hS H3))) 640 a rep) 641 a U) a = 11 := ka4
  refine s_40_36 (k3 := hI7) (b4 := ⟨Int32.not_lt.mpr ((nI_le_iff (a := 0) (by omega) (by omega)).mpr (by omega)), by rw [nI_clamp (by omega)]; omega⟩) (kk := ?_)
  rw [nI_clamp (by omega)]
  have hI8 : ∀ f, hI (hpI (hpI (hpI (hpR h4 645 a (some (hS H3))) 640 a rep) 641 a U) 642 a mem) f a = lk [(640, rep), (641, U), (642, mem)] f 0 := fun f => by
    rw [rI_I, rI_I, rI_I]
    have e3 : lk [(640, rep), (641, U), (642, mem)] f 0 = if 642 = f then mem else if 641 = f then U else if 640 = f then rep else 0 := rfl
    rw [e3]
    by_cases q1 : f = 642
    · rw [if_pos (show f = 642 ∧ a = a from ⟨q1, rfl⟩), if_pos (show 642 = f from q1.symm)]
    · rw [if_neg (show ¬ (f = 642 ∧ a = a) from fun z => q1 z.1), if_neg (show ¬ 642 = f from fun z => q1 z.symm)]
      by_cases q2 : f = 641
      · rw [if_pos (show f = 641 ∧ a = a from ⟨q2, rfl⟩), if_pos (show 641 = f from q2.symm)]
      · rw [if_neg (show ¬ (f = 641 ∧ a = a) from fun z => q2 z.1), if_neg (show ¬ 641 = f from fun z => q2 z.symm)]
        by_cases q3 : f = 640
        · rw [if_pos (show f = 640 ∧ a = a from ⟨q3, rfl⟩), if_pos (show 640 = f from q3.symm)]
        · rw [if_neg (show ¬ (f = 640 ∧ a = a) from fun z => q3 z.1), if_neg (show ¬ 640 = f from fun z => q3 z.symm)]
          show hI h4 f a = 0
          rw [((sm4 a (by omega)).2.1 f).1, i3, ((sm2 a ha).2.1 f).1]
          exact z0 f
  have hR8 : ∀ f, hR (hpI (hpI (hpI (hpR h4 645 a (some (hS H3))) 640 a rep) 641 a U) 642 a mem) f a = if f = 645 then some (hS H3) else hR H3 f a := fun f => by
    show hR (hpR h4 645 a (some (hS H3))) f a = _
    rw [rR_R]
    by_cases q : f = 645
    · rw [if_pos ⟨q, rfl⟩, if_pos q]
    · rw [if_neg (fun z => q z.1), if_neg q, ((sm4 a (by omega)).2.1 f).2]
  have c58 := ((c5.tr c6).tr (c7.tr c8)).mono (B := fun b => b = a) (fun b hb q => by rcases q with (q | q) | (q | q) <;> exact q) (Nat.le_refl _) (Nat.le_refl _)
  have hS8 : hS (hpI (hpI (hpI (hpR h4 645 a (some (hS H3))) 640 a rep) 641 a U) 642 a mem) = hS h + 7 := by show hS h4 = _; omega
  have ka8 : hK (hpI (hpI (hpI (hpR h4 645 a (some (hS H3))) 640 a rep) 641 a U) 642 a mem) a = 11 := ka4
  generalize hpI (hpI (hpI (hpR h4 645 a (some (hS H3))) 640 a rep) 641 a U) 642 a mem = H8 at hI8 hR8 c58 hS8 ka8 ⊢
  have w8 := c58.2.2.1
  have c9 := Ch.mW w8 7 N
  have w9 := c9.2.2.1
  have kn := hK_W_new H8 7 N
  have sm9 : ∀ b, b < hS H8 → Sm H8 (hpW H8 7 N) b := fun b hb => c9.sm (fun q => q) hb
  have hS9 : hS (hpW H8 7 N) = hS h + 8 := by show hS H8 + 1 = _; omega
  generalize hpW H8 7 N = H9 at c9 w9 kn sm9 hS9 ⊢
  rw [hS8] at kn ⊢
  have ka9 : hK H9 a = 11 := by rw [(sm9 a (by omega)).1]; exact ka8
  refine s_40_47 (k3 := ka9) (kk := ?_)
  have c10 := Ch.wR (f := 643) w9 (some (hS h + 7)) (a := a) (by omega)
  have hI10 : hI (hpR H9 643 a (some (hS h + 7))) = hI H9 := rfl
  have hR10 : ∀ f, hR (hpR H9 643 a (some (hS h + 7))) f a = if f = 643 then some (hS h + 7) else hR H8 f a := fun f => by
    rw [rR_R]
    by_cases q : f = 643
    · rw [if_pos ⟨q, rfl⟩, if_pos q]
    · rw [if_neg (fun z => q z.1), if_neg q, ((sm9 a (by omega)).2.1 f).2]
  have hK10 : hK (hpR H9 643 a (some (hS h + 7))) (hS h + 7) = 27 ∧ hN (hpR H9 643 a (some (hS h + 7))) (hS h + 7) = N := kn
  have hS10 : hS (hpR H9 643 a (some (hS h + 7))) = hS h + 8 := hS9
  generalize hpR H9 643 a (some (hS h + 7)) = H10 at c10 hI10 hR10 hK10 hS10 ⊢
  have cl : Ch (fun b => b = a) 8 (nf 11 + 380 + nf 0 + N) h H10 := ((((c23.tr m2).tr c58).tr c9).tr c10).mono (fun b hb q => by
    rcases q with (((q | q) | q) | q) | q
    · exact q
    · exact q.elim
    · exact q
    · exact q.elim
    · exact q) (by omega) (by omega)
  have far : ∀ b, b < hS H3 → ¬ b = a → Sm H3 H10 b := fun b hb nb => (((m2.tr c58).tr c9).tr c10).sm (fun q => by
    rcases q with ((q | q) | q) | q
    · exact q
    · exact nb q
    · exact q
    · exact nb q) hb
  rw [← nI_0]
  refine con40_l w hN8 ka N 0 H10 (by omega) ⟨cl.mono (fun _ _ q => q) (by omega) (by have n11 : nf 11 ≤ 100 := (by decide); have n00 : nf 0 ≤ 100 := (by decide); omega), by omega, ⟨?_, sv3.smm (fun b hb q => ?_)⟩, ⟨?_, ?_⟩, ⟨?_, hK10⟩, fun f => ?_, fun k hk => absurd hk (Nat.not_lt_zero _)⟩
  · rw [hR10, if_neg (by decide), hR8, if_neg (by decide), r3, if_pos rfl]
  · refine far b (w3.lt hb) ?_
    rcases q with q | q | q | q | q | q <;> first | omega | (simp only at q; omega)
  · rw [hR10, if_neg (by decide), hR8, if_pos rfl, hS3]
  · rw [hS3] at m1
    exact m1.sm (((c58.tr c9).tr c10).sm (fun q => by
      rcases q with (q | q) | q
      · have q : hS h + 6 = a := q; omega
      · exact q
      · have q : hS h + 6 = a := q; omega) (by omega))
  · rw [hR10, if_pos rfl]
  · rw [hI10, ((sm9 a (by omega)).2.1 f).1, hI8]
    rw [lk4]
    by_cases q : 646 = f
    · subst q; rfl
    · rw [if_neg q]
end
