-- the class's constructors: Coordinator
def tbI (N k n : Nat) : Int32 := (List.range n).foldl (fun u t => if t % N = k then u ||| (1 <<< (nI t &&& 31)) else u) 0
def con5 (g : gcT) (h : hpT) (c a e s0 N n : Nat) (h' : hpT) : Prop := Ch (fun b => b = c ∨ ∃ k, k < N ∧ b = s0 + 3 * k) 9 1000 h h' ∧ hS h' = hS h + 9 ∧ (hR h' 193 c = some (hS h) ∧ hK h' (hS h) = 20 ∧ hN h' (hS h) = 8 ∧ ∀ t, t < n → hA h' (hS h) t = nI (t % N)) ∧ (hR h' 194 c = some (hS h + 1) ∧ eLs g h' (hS h + 1)) ∧ (hR h' 195 c = some (hS h + 2) ∧ svA h' (hS h + 2) (hS h + 3, hS h + 4, hS h + 5, hS h + 6, hS h + 7)) ∧ (hR h' 196 c = some (hS h + 8) ∧ eLs g h' (hS h + 8)) ∧ (hR h' 192 c = some a ∧ ∀ f, hI h' f c = 0) ∧ ∀ k, k < N → srvN g h' (s0 + 3 * k) k (tbI N k n)
section
variable {g : gcT} {P : pmT} {h h' : hpT} {a c e s0 k l v N i n : Nat} {tb : Int32} {R : arT} {m : Nat}
theorem srvN.tbs (x : srvN g h v k tb) {u : Int32} : srvN g (hpI h 580 v u) v k u := by
  obtain ⟨⟨a1, a2, a3, a4⟩, ⟨b1, b2, b3, b4, b5⟩, e1, e2, e3⟩ := x
  refine ⟨⟨a1, fun f => ?_, a3, a4⟩, ⟨b1, b2, b3, b4, ?_⟩, e1, ?_, e3⟩
  · rw [rI_I]
    by_cases q : f = 580
    · rw [if_pos ⟨q, rfl⟩, q]; rfl
    · rw [if_neg (fun z => q z.1), a2, lkV, lkV, if_neg (fun z => q z.symm), if_neg (fun z => q z.symm)]
  · rw [rI_I, if_neg (fun z => absurd z.1 (by decide))]; exact b5
  · rw [rI_I, if_neg (fun z => absurd z.1 (by decide))]; exact e2
theorem con5_l (w : hWF h) (h4 : 4 ≤ N) (hN8 : N ≤ 8) (kc : hK h c = 4) (ka : hK h a = 11) (ra : hR h 643 a = some e) (ke : hK h e = 27) (ne : hN h e = N) (he : ∀ k, k < N → hB h e k = some (s0 + 3 * k) ∧ hK h (s0 + 3 * k) = 10) : ∀ (d i : Nat) (h1 : hpT), i + d = 8 → con5 g h c a e s0 N i h1 → ∀ o3, Ev g P 5 52 [some (va_rf (some c)), some (va_rf (some a)), some (.int (nI i)), o3] [] h1 (fun h' r => r = none ∧ con5 g h c a e s0 N 8 h') := by
  intro d
  induction d with
  | zero =>
    intro i h1 ei x o3
    have : i = 8 := by omega
    subst this
    have x0 := x
    obtain ⟨c1, s1, ⟨e1, e2, e3, e4⟩, -⟩ := x
    have hc : c < hS h := w.lt (by omega)
    have k1 : hK h1 c = 4 := by rw [(c1.2.1 c hc).1]; exact kc
    exact s_5_52 (k3 := k1) (e5 := e1) (k7 := e2) (kt := fun _ => s_5_99 ⟨rfl, x0⟩) (kf := fun z => absurd (by rw [e3]; exact Int32.le_refl _) z)
  | succ d ih =>
    intro i h1 ei x o3
    obtain ⟨c1, s1, ⟨e1, e2, e3, e4⟩, ⟨r1, l1⟩, ⟨r2, sv⟩, ⟨r3, l3⟩, ⟨r4, ic⟩, ss⟩ := x
    have hc : c < hS h := w.lt (by omega)
    have hha : a < hS h := w.lt (by omega)
    have hhe : e < hS h := w.lt (by omega)
    have w1 := c1.2.2.1
    have k1 : hK h1 c = 4 := by rw [(c1.2.1 c hc).1]; exact kc
    have hi : i < 8 := by omega
    have ns : ∀ b, ¬ hK h b = 10 → ¬ b = c → b < hS h → Sm h h1 b := fun b h1 h2 h3 => c1.sm (fun q => by
      rcases q with q | ⟨k, q1, q2⟩
      · exact h2 q
      · rw [q2] at h1; exact h1 (he k q1).2) h3
    have sa := ns a (by omega) (fun z => by rw [z] at ka; omega) hha
    have se := ns e (by omega) (fun z => by rw [z] at ke; omega) hhe
    refine s_5_52 (k3 := k1) (e5 := e1) (k7 := e2) (kt := fun z => absurd z (by rw [e3]; exact nI_ge hi (by omega))) (kf := fun _ => ?_)
    have en : hN h1 e = N := by rw [se.2.2.1]; exact ne
    have ke1 : hK h1 e = 27 := by rw [se.1]; exact ke
    have rem : nI i - nI i / nI (hN h1 e) * nI (hN h1 e) = nI (i % N) := by
      rw [en]
      exact pk_rem (by omega) (by omega) (by omega)
    refine s_5_61 (k3 := by rw [sa.1]; exact ka) (e5 := by rw [(sa.2.1 643).2]; exact ra) (k7 := ke1) (n9 := by rw [en]; intro z; have := nI_inj (a := N) (b := 0) (by omega) (by omega) z; omega) (e11 := rfl) (k12 := k1) (e14 := e1) (k15 := e2) (i16 := by rw [e3]; exact vin_nI hi (by decide)) (kk := ?_)
    rw [rem, (sa.2.1 643).2, ra, nI_clamp (by omega)]
    have hm : i % N < N := Nat.mod_lt _ (by omega)
    have c2 := Ch.wA (i := i) w1 (nI (i % N)) (a := hS h) (by omega)
    have hB2 : hB (hpA h1 (hS h) i (nI (i % N))) = hB h1 := rfl
    have hK2 : hK (hpA h1 (hS h) i (nI (i % N))) = hK h1 := rfl
    have hN2 : hN (hpA h1 (hS h) i (nI (i % N))) = hN h1 := rfl
    have hI2 : hI (hpA h1 (hS h) i (nI (i % N))) = hI h1 := rfl
    have hR2 : hR (hpA h1 (hS h) i (nI (i % N))) = hR h1 := rfl
    have hS2 : hS (hpA h1 (hS h) i (nI (i % N))) = hS h1 := rfl
    have hA2 : ∀ t, hA (hpA h1 (hS h) i (nI (i % N))) (hS h) t = if t = i then nI (i % N) else hA h1 (hS h) t := fun t => by
      rw [rA_A]
      by_cases q : t = i
      · rw [if_pos ⟨rfl, q⟩, if_pos q]
      · rw [if_neg (fun z => q z.2), if_neg q]
    generalize hpA h1 (hS h) i (nI (i % N)) = H2 at c2 hB2 hK2 hN2 hI2 hR2 hS2 hA2 ⊢
    have e6 : hB H2 e (nI (i % N)).toNatClampNeg = some (s0 + 3 * (i % N)) := by
      rw [nI_clamp (by omega), hB2, (se.2.2.2 _).2]; exact (he _ hm).1
    obtain ⟨sm1, sm2⟩ := he (i % N) hm
    have sk := ss (i % N) hm
    refine x_5_81 (k3 := by rw [hK2, se.1]; exact ke) (i4 := by rw [hN2, en]; exact vin_nI hm (by omega)) (e6 := e6) (k7 := by rw [hK2]; exact sk.1.1) (kk := ?_)
    have i580 : hI H2 580 (s0 + 3 * (i % N)) = tbI N (i % N) i := by rw [hI2, sk.1.2.1]; rfl
    rw [i580, nI_1]
    have hsl : s0 + 3 * (i % N) < hS H2 := by rw [hS2]; exact w1.lt (by rw [sk.1.1]; omega)
    have c3 := Ch.wI (f := 580) c2.2.2.1 (tbI N (i % N) i ||| (1 <<< (nI i &&& 31))) (a := s0 + 3 * (i % N)) hsl
    have s2N : ∀ k, k < N → srvN g H2 (s0 + 3 * k) k (tbI N k i) := fun k hk => by
      have x := ss k hk
      have l0 : s0 + 3 * k < hS h := w.lt (by rw [(he k hk).2]; omega)
      have b : ∀ b, ¬ b = hS h → b < hS h1 → Sm h1 H2 b := fun b nb hb => c2.sm nb hb
      have q1 : s0 + 3 * k + 1 < hS h1 := w1.lt (by rw [x.2.1.1]; omega)
      have q2 : s0 + 3 * k + 2 < hS h1 := w1.lt (by rw [x.2.2.1]; omega)
      have kk1 : ¬ s0 + 3 * k + 1 = hS h := fun z => by have := x.2.1.1; rw [z] at this; omega
      have kk2 : ¬ s0 + 3 * k + 2 = hS h := fun z => by have := x.2.2.1; rw [z] at this; omega
      exact x.sm (b _ (by omega) (by omega)) (b _ kk1 q1) (b _ kk2 q2)
    have fin : ∀ k, k < N → srvN g (hpI H2 580 (s0 + 3 * (i % N)) (tbI N (i % N) i ||| (1 <<< (nI i &&& 31)))) (s0 + 3 * k) k (tbI N k (i + 1)) := fun k hk => by
      have et : tbI N k (i + 1) = if i % N = k then tbI N k i ||| (1 <<< (nI i &&& 31)) else tbI N k i := by
        unfold tbI
        rw [List.range_succ, List.foldl_append]; rfl
      by_cases q : i % N = k
      · rw [et, if_pos q]
        subst q
        exact (s2N (i % N) hm).tbs
      · rw [et, if_neg q]
        have x := s2N k hk
        have b : ∀ b, ¬ b = s0 + 3 * (i % N) → b < hS H2 → Sm H2 (hpI H2 580 (s0 + 3 * (i % N)) (tbI N (i % N) i ||| (1 <<< (nI i &&& 31)))) b := fun b nb hb => c3.sm nb hb
        have w2 := c2.2.2.1
        have kx := (s2N (i % N) hm).1.1
        exact x.sm (b _ (by omega) (w2.lt (by rw [x.1.1]; omega))) (b _ (fun z => by have := x.2.1.1; rw [z, kx] at this; omega) (w2.lt (by rw [x.2.1.1]; omega))) (b _ (fun z => by have := x.2.2.1; rw [z, kx] at this; omega) (w2.lt (by rw [x.2.2.1]; omega)))
    have c23 := c2.tr c3
    have far : ∀ b, b < hS h1 → ¬ b = hS h → ¬ b = s0 + 3 * (i % N) → Sm h1 (hpI H2 580 (s0 + 3 * (i % N)) (tbI N (i % N) i ||| (1 <<< (nI i &&& 31)))) b := fun b hb n1 n2 => c23.sm (fun q => q.elim n1 n2) hb
    have hR3 : ∀ f, hR (hpI H2 580 (s0 + 3 * (i % N)) (tbI N (i % N) i ||| (1 <<< (nI i &&& 31)))) f c = hR h1 f c := fun f => by
      show hR H2 f c = _
      rw [hR2]
    have hA3 : ∀ t, hA (hpI H2 580 (s0 + 3 * (i % N)) (tbI N (i % N) i ||| (1 <<< (nI i &&& 31)))) (hS h) t = if t = i then nI (i % N) else hA h1 (hS h) t := hA2
    have kS3 : hK (hpI H2 580 (s0 + 3 * (i % N)) (tbI N (i % N) i ||| (1 <<< (nI i &&& 31)))) (hS h) = 20 ∧ hN (hpI H2 580 (s0 + 3 * (i % N)) (tbI N (i % N) i ||| (1 <<< (nI i &&& 31)))) (hS h) = 8 := ⟨by show hK H2 _ = _; rw [hK2]; exact e2, by show hN H2 _ = _; rw [hN2]; exact e3⟩
    have hS3 : hS (hpI H2 580 (s0 + 3 * (i % N)) (tbI N (i % N) i ||| (1 <<< (nI i &&& 31)))) = hS h1 := hS2
    have ls0 : s0 + 3 * (i % N) < hS h := w.lt (by rw [sm2]; omega)
    generalize hpI H2 580 (s0 + 3 * (i % N)) (tbI N (i % N) i ||| (1 <<< (nI i &&& 31))) = H3 at fin c23 far hR3 hA3 kS3 hS3 ⊢
    have nc : ¬ c = s0 + 3 * (i % N) := fun z => by rw [z] at kc; omega
    refine ih (i + 1) H3 (by omega) ⟨(c1.tr c23).mono (fun b hb q => ?_) (Nat.le_refl _) (Nat.le_refl _), by omega, ⟨by rw [hR3]; exact e1, kS3.1, kS3.2, fun t ht => ?_⟩, ⟨by rw [hR3]; exact r1, l1.sm (far _ (by omega) (by omega) (by omega))⟩, ⟨by rw [hR3]; exact r2, sv.smm (fun b hb q => far b (w1.lt hb) ?_ ?_)⟩, ⟨by rw [hR3]; exact r3, l3.sm (far _ (by omega) (by omega) (by omega))⟩, ⟨by rw [hR3]; exact r4, fun f => ?_⟩, fin⟩ _
    · rcases q with q | q | q
      · exact q
      · have q : b = hS h := q; omega
      · exact Or.inr ⟨i % N, hm, q⟩
    · rw [hA3]
      by_cases q : t = i
      · rw [if_pos q, q]
      · rw [if_neg q]; exact e4 t (by omega)
    · rcases q with q | q | q | q | q | q <;> first | omega | (simp only at q; omega)
    · rcases q with q | q | q | q | q | q <;> first | omega | (simp only at q; omega)
    · rw [((far c (by omega) (by omega) nc).2.1 f).1]; exact ic f
theorem ar_s {x y : Nat} (h1 : x ≤ 100) (h2 : y ≤ 100) : 8 + y + 0 + (x + 380) + 0 + y + (0 + 0) ≤ 1000 := by omega
/-- new Coordinator -/
theorem m_5 (w : hWF h) (h4 : 4 ≤ N) (hN8 : N ≤ 8) (kc : hK h c = 4) (z0 : ∀ f, hI h f c = 0) (ka : hK h a = 11) (ra : hR h 643 a = some e) (ke : hK h e = 27) (ne : hN h e = N) (he : ∀ k, k < N → hB h e k = some (s0 + 3 * k) ∧ srvN g h (s0 + 3 * k) k 0) : EvV g P 5 [va_rf (some c), va_rf (some a)] h (con5 g h c a e s0 N 8) := by
  have hc : c < hS h := w.lt (by omega)
  refine e_5 (s_5_0 (kk := s_5_4 (kk := ?_)))
  show Ev g P 5 9 _ [va_rf (some (hS h)), va_rf (some c)] (hpW h 0 8) _
  obtain ⟨d1, v1, u1, n1, x1, y1, i1⟩ := mkR_sp (f := 193) (t := 0) (n := 8) w hc
  refine s_5_9 (k3 := by rw [(hK_W hc).1]; exact kc) (kk := ?_)
  show Ev g P 5 16 _ [va_rf (some (hS (mkR h c 193 0 8))), va_rf (some c)] (hpO (mkR h c 193 0 8) 0) _
  have k1 : hK (mkR h c 193 0 8) c = 4 := by rw [(d1.2.1 c hc).1]; exact kc
  generalize mkR h c 193 0 8 = H1 at d1 v1 u1 n1 x1 y1 i1 k1 ⊢
  have w1 := d1.2.2.1
  refine s_5_16 (hc := new_list w1) (kk := fun h2 ⟨l1, c2, s2⟩ => ?_)
  rw [v1] at l1
  have w2 := c2.2.2.1
  have sm2 : ∀ b, b < hS H1 → Sm H1 h2 b := fun b hb => c2.sm (fun q => q) hb
  have k2 : hK h2 c = 4 := by rw [(sm2 c (by omega)).1]; exact k1
  refine s_5_20 (k3 := k2) (kk := ?_)
  have c3 := Ch.wR (f := 194) w2 (some (hS H1)) (a := c) (by omega)
  have hR3 : ∀ f, hR (hpR h2 194 c (some (hS H1))) f c = if f = 194 then some (hS H1) else hR H1 f c := fun f => by
    rw [rR_R]
    by_cases q : f = 194
    · rw [if_pos ⟨q, rfl⟩, if_pos q]
    · rw [if_neg (fun z => q z.1), if_neg q, ((sm2 c (by omega)).2.1 f).2]
  have hI3 : ∀ f, hI (hpR h2 194 c (some (hS H1))) f c = 0 := fun f => by
    show hI h2 f c = 0
    rw [((sm2 c (by omega)).2.1 f).1, i1]; exact z0 f
  have k3 : hK (hpR h2 194 c (some (hS H1))) c = 4 := k2
  have s3 : hS (hpR h2 194 c (some (hS H1))) = hS h + 2 := by show hS h2 = _; omega
  generalize hpR h2 194 c (some (hS H1)) = H3 at c3 hR3 hI3 k3 s3 ⊢
  have w3 := c3.2.2.1
  have c4 := Ch.mO w3 11
  have w4 := c4.2.2.1
  have k4 : hK (hpO H3 11) (hS H3) = 12 := hK_O_new H3 11
  refine s_5_27 (hc := m_survey (g := g) (P := P) w4 k4) (kk := fun h5 ⟨m1, m2, m3⟩ => ?_)
  have s4 : hS (hpO H3 11) = hS h + 3 := by show hS H3 + 1 = _; omega
  rw [s4] at m1 m3
  have c5 : Ch (fun _ => False) 6 (nf 11 + 380) H3 h5 := (c4.tr m2).mono (fun b hb q => q.elim id (fun q => by have : b = hS H3 := q; omega)) (Nat.le_refl _) (Nat.le_refl _)
  rw [s3] at m1
  have w5 := c5.2.2.1
  have sm5 : ∀ b, b < hS H3 → Sm H3 h5 b := fun b hb => c5.sm (fun q => q) hb
  have k5 : hK h5 c = 4 := by rw [(sm5 c (by omega)).1]; exact k3
  refine s_5_31 (k3 := k5) (kk := ?_)
  have c6 := Ch.wR (f := 195) w5 (some (hS H3)) (a := c) (by omega)
  have hR6 : ∀ f, hR (hpR h5 195 c (some (hS H3))) f c = if f = 195 then some (hS H3) else hR H3 f c := fun f => by
    rw [rR_R]
    by_cases q : f = 195
    · rw [if_pos ⟨q, rfl⟩, if_pos q]
    · rw [if_neg (fun z => q z.1), if_neg q, ((sm5 c (by omega)).2.1 f).2]
  have hI6 : ∀ f, hI (hpR h5 195 c (some (hS H3))) f c = 0 := fun f => by
    show hI h5 f c = 0
    rw [((sm5 c (by omega)).2.1 f).1]; exact hI3 f
  have k6 : hK (hpR h5 195 c (some (hS H3))) c = 4 := k5
  have s6 : hS (hpR h5 195 c (some (hS H3))) = hS h + 8 := by show hS h5 = _; omega
  have sv6 : svA (hpR h5 195 c (some (hS H3))) (hS h + 2) (hS h + 3, hS h + 4, hS h + 5, hS h + 6, hS h + 7) := m1.smm (fun b hb q => c6.sm (fun z => by
    have z : b = c := z
    rcases q with q | q | q | q | q | q <;> first | omega | (simp only at q; omega)) (w5.lt hb))
  generalize hpR h5 195 c (some (hS H3)) = H6 at c6 hR6 hI6 k6 s6 sv6 ⊢
  have w6 := c6.2.2.1
  refine s_5_38 (hc := new_list w6) (kk := fun h7 ⟨l2, c7, s7⟩ => ?_)
  rw [s6] at l2
  have w7 := c7.2.2.1
  have sm7 : ∀ b, b < hS H6 → Sm H6 h7 b := fun b hb => c7.sm (fun q => q) hb
  have k7 : hK h7 c = 4 := by rw [(sm7 c (by omega)).1]; exact k6
  refine s_5_42 (k3 := k7) (e5 := rfl) (k6 := k7) (kk := ?_)
  have c8 := Ch.wR (f := 196) w7 (some (hS H6)) (a := c) (by omega)
  have c9 := Ch.wR (f := 192) c8.2.2.1 (some a) (a := c) (by show c < hS h7; omega)
  have hR9 : ∀ f, hR (hpR (hpR h7 196 c (some (hS H6))) 192 c (some a)) f c = if f = 192 then some a else if f = 196 then some (hS H6) else hR H6 f c := fun f => by
    rw [rR_R]
    by_cases q : f = 192
    · rw [if_pos ⟨q, rfl⟩, if_pos q]
    · rw [if_neg (fun z => q z.1), if_neg q, rR_R]
      by_cases q2 : f = 196
      · rw [if_pos ⟨q2, rfl⟩, if_pos q2]
      · rw [if_neg (fun z => q2 z.1), if_neg q2, ((sm7 c (by omega)).2.1 f).2]
  have hI9 : ∀ f, hI (hpR (hpR h7 196 c (some (hS H6))) 192 c (some a)) f c = 0 := fun f => by
    show hI h7 f c = 0
    rw [((sm7 c (by omega)).2.1 f).1]; exact hI6 f
  have s9 : hS (hpR (hpR h7 196 c (some (hS H6))) 192 c (some a)) = hS h + 9 := by show hS h7 = _; omega
  have c89 := (c8.tr c9).mono (B := fun b => b = c) (fun b hb q => q.elim id id) (Nat.le_refl _) (Nat.le_refl _)
  generalize hpR (hpR h7 196 c (some (hS H6))) 192 c (some a) = H9 at c89 hR9 hI9 s9 ⊢
  have n11 : nf 11 ≤ 100 := by decide
  have n00 : nf 0 ≤ 100 := by decide
  have cl : Ch (fun b => b = c) 9 1000 h H9 := ((((((d1.tr c2).tr c3).tr c5).tr c6).tr c7).tr c89).mono (fun b hb q => by
    rcases q with (((((q | q) | q) | q) | q) | q) | q
    · exact q
    · exact q.elim
    · exact q
    · exact q.elim
    · exact q
    · exact q.elim
    · exact q) (by omega) (ar_s n11 n00)
  have f1 : ∀ b, b < hS H1 → ¬ b = c → Sm H1 H9 b := fun b hb nb => (((((c2.tr c3).tr c5).tr c6).tr c7).tr c89).sm (fun q => by
    rcases q with ((((q | q) | q) | q) | q) | q
    · exact q
    · exact nb q
    · exact q
    · exact nb q
    · exact q
    · exact nb q) hb
  have f2 : ∀ b, b < hS h2 → ¬ b = c → Sm h2 H9 b := fun b hb nb => ((((c3.tr c5).tr c6).tr c7).tr c89).sm (fun q => by
    rcases q with (((q | q) | q) | q) | q
    · exact nb q
    · exact q
    · exact nb q
    · exact q
    · exact nb q) hb
  have f6 : ∀ b, b < hS H6 → ¬ b = c → Sm H6 H9 b := fun b hb nb => (c7.tr c89).sm (fun q => by
    rcases q with q | q
    · exact q
    · exact nb q) hb
  have f7 : ∀ b, b < hS h7 → ¬ b = c → Sm h7 H9 b := fun b hb nb => c89.sm nb hb
  have f0 : ∀ b, b < hS h → ¬ b = c → Sm h H9 b := fun b hb nb => cl.sm nb hb
  have q1 := f1 (hS h) (by omega) (by omega)
  rw [show ((0 : Int32)) = nI 0 from rfl]
  refine con5_l w h4 hN8 kc ka ra ke ne (fun k hk => ⟨(he k hk).1, (he k hk).2.1.1⟩) 8 0 H9 rfl ⟨cl.mono (fun b _ q => Or.inl q) (Nat.le_refl _) (Nat.le_refl _), s9, ⟨?_, by rw [q1.1]; exact u1, by rw [q1.2.2.1]; exact n1, fun t ht => absurd ht (Nat.not_lt_zero _)⟩, ⟨?_, l1.sm (f2 _ (by omega) (by omega))⟩, ⟨?_, sv6.smm (fun b hb q => f6 b (w6.lt hb) ?_)⟩, ⟨?_, l2.sm (f7 _ (by omega) (by omega))⟩, ⟨?_, hI9⟩, fun k hk => ?_⟩ none
  · rw [hR9, if_neg (by decide), if_neg (by decide), hR6, if_neg (by decide), hR3, if_neg (by decide)]; exact x1
  · rw [hR9, if_neg (by decide), if_neg (by decide), hR6, if_neg (by decide), hR3, if_pos rfl, v1]
  · rw [hR9, if_neg (by decide), if_neg (by decide), hR6, if_pos rfl, s3]
  · rcases q with q | q | q | q | q | q <;> first | omega | (simp only at q; omega)
  · rw [hR9, if_neg (by decide), if_pos rfl, s6]
  · rw [hR9, if_pos rfl]
  · obtain ⟨-, x⟩ := he k hk
    have y0 := w.lt (a := s0 + 3 * k) (by rw [x.1.1]; omega)
    have y1 := w.lt (a := s0 + 3 * k + 1) (by rw [x.2.1.1]; omega)
    have y2 := w.lt (a := s0 + 3 * k + 2) (by rw [x.2.2.1]; omega)
    exact x.sm (f0 _ y0 (fun z => by have := x.1.1; rw [z] at this; omega)) (f0 _ y1 (fun z => by have := x.2.1.1; rw [z] at this; omega)) (f0 _ y2 (fun z => by have := x.2.2.1; rw [z] at this; omega))
end
