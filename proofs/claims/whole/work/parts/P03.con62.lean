-- the class's constructors: LogCluster
def st0 (g : gcT) (h : hpT) (b N : Nat) (rep U mem : Int32) (tb : Nat → Int32) : Prop := (hK h b = 11 ∧ (∀ f, hI h f b = lk [(640, rep), (641, U), (642, mem), (646, upI N)] f 0)) ∧ (hR h 644 b = some (b + 1) ∧ svA h (b + 1) (b + 2, b + 3, b + 4, b + 5, b + 6)) ∧ (hR h 645 b = some (b + 7) ∧ eLs g h (b + 7)) ∧ (hR h 643 b = some (b + 8) ∧ hK h (b + 8) = 27 ∧ hN h (b + 8) = N) ∧ ∀ k, k < N → hB h (b + 8) k = some (b + 9 + 3 * k) ∧ srvN g h (b + 9 + 3 * k) k (tb k)
def co0 (g : gcT) (h : hpT) (b e N : Nat) : Prop := (hK h e = 4 ∧ ∀ f, hI h f e = 0) ∧ (hR h 193 e = some (e + 1) ∧ hK h (e + 1) = 20 ∧ hN h (e + 1) = 8 ∧ ∀ t, t < 8 → hA h (e + 1) t = nI (t % N)) ∧ (hR h 194 e = some (e + 2) ∧ eLs g h (e + 2)) ∧ (hR h 195 e = some (e + 3) ∧ svA h (e + 3) (e + 4, e + 5, e + 6, e + 7, e + 8)) ∧ (hR h 196 e = some (e + 9) ∧ eLs g h (e + 9)) ∧ hR h 192 e = some b
def cli0 (h : hpT) (e n : Nat) : Prop := ∀ i, i < n → hB h (e + 10) i = some (e + 11 + 3 * i) ∧ clV h (e + 11 + 3 * i) (e + 12 + 3 * i) (e + 13 + 3 * i) 0 ∧ ∀ j, hB h (e + 12 + 3 * i) j = none ∧ hB h (e + 13 + 3 * i) j = none
section
variable {g : gcT} {P : pmT} {h h' : hpT} {a b c e s0 k l v N i n : Nat} {rep U mem x1 x2 x3 x4 : Int32} {tb : Nat → Int32} {R : arT} {m : Nat}
theorem st0.sm (x : st0 g h b N rep U mem tb) (w : hWF h) (q : ∀ z, b ≤ z → z < b + 9 + 3 * N → Sm h h' z) : st0 g h' b N rep U mem tb := by
  obtain ⟨⟨a1, a2⟩, ⟨b1, b2⟩, ⟨c1, c2⟩, ⟨d1, d2, d3⟩, e1⟩ := x
  have q0 := q b (by omega) (by omega)
  have q8 := q (b + 8) (by omega) (by omega)
  refine ⟨⟨by rw [q0.1]; exact a1, fun f => by rw [(q0.2.1 f).1]; exact a2 f⟩, ⟨by rw [(q0.2.1 644).2]; exact b1, b2.smm (fun z hz p => q z ?_ ?_)⟩, ⟨by rw [(q0.2.1 645).2]; exact c1, c2.sm (q _ (by omega) (by omega))⟩, ⟨by rw [(q0.2.1 643).2]; exact d1, by rw [q8.1]; exact d2, by rw [q8.2.2.1]; exact d3⟩, fun k hk => ⟨by rw [(q8.2.2.2 k).2]; exact (e1 k hk).1, (e1 k hk).2.sm (q _ (by omega) (by omega)) (q _ (by omega) (by omega)) (q _ (by omega) (by omega))⟩⟩
  · rcases p with p | p | p | p | p | p <;> first | omega | (simp only at p; omega)
  · rcases p with p | p | p | p | p | p <;> first | omega | (simp only at p; omega)
theorem co0.sm (x : co0 g h b e N) (q : ∀ z, e ≤ z → z < e + 10 → Sm h h' z) : co0 g h' b e N := by
  obtain ⟨⟨a1, a2⟩, ⟨b1, b2, b3, b4⟩, ⟨c1, c2⟩, ⟨d1, d2⟩, ⟨f1, f2⟩, g1⟩ := x
  have q0 := q e (by omega) (by omega)
  have q1 := q (e + 1) (by omega) (by omega)
  refine ⟨⟨by rw [q0.1]; exact a1, fun f => by rw [(q0.2.1 f).1]; exact a2 f⟩, ⟨by rw [(q0.2.1 193).2]; exact b1, by rw [q1.1]; exact b2, by rw [q1.2.2.1]; exact b3, fun t ht => by rw [(q1.2.2.2 t).1]; exact b4 t ht⟩, ⟨by rw [(q0.2.1 194).2]; exact c1, c2.sm (q _ (by omega) (by omega))⟩, ⟨by rw [(q0.2.1 195).2]; exact d1, d2.smm (fun z hz p => q z ?_ ?_)⟩, ⟨by rw [(q0.2.1 196).2]; exact f1, f2.sm (q _ (by omega) (by omega))⟩, by rw [(q0.2.1 192).2]; exact g1⟩
  · rcases p with p | p | p | p | p | p <;> first | omega | (simp only at p; omega)
  · rcases p with p | p | p | p | p | p <;> first | omega | (simp only at p; omega)
theorem clV.sm {rq an u : Nat} (x : clV h c rq an u) (q0 : Sm h h' c) (q1 : Sm h h' rq) (q2 : Sm h h' an) : clV h' c rq an u := by
  obtain ⟨a1, a2, a3, a4, a5, a6, a7, a8, a9⟩ := x
  exact ⟨by rw [q0.1]; exact a1, by rw [(q0.2.1 128).2]; exact a2, by rw [(q0.2.1 129).2]; exact a3, by rw [q1.1]; exact a4, by rw [q1.2.2.1]; exact a5, by rw [q2.1]; exact a6, by rw [q2.2.2.1]; exact a7, by rw [(q0.2.1 130).1]; exact a8, a9⟩
theorem cli0.sm (x : cli0 h e n) (q : ∀ z, e + 10 ≤ z → z < e + 11 + 3 * n → Sm h h' z) : cli0 h' e n := fun i hi => by
  obtain ⟨x1, x2, x3⟩ := x i hi
  have q1 := q (e + 12 + 3 * i) (by omega) (by omega)
  have q2 := q (e + 13 + 3 * i) (by omega) (by omega)
  exact ⟨by rw [((q (e + 10) (by omega) (by omega)).2.2.2 i).2]; exact x1, x2.sm (q _ (by omega) (by omega)) q1 q2, fun j => ⟨by rw [(q1.2.2.2 j).2]; exact (x3 j).1, by rw [(q2.2.2.2 j).2]; exact (x3 j).2⟩⟩
def con62 (g : gcT) (h : hpT) (a b e N : Nat) (rep U mem : Int32) (n : Nat) (h' : hpT) : Prop := (Ch (fun z => z = a) (30 + 3 * N + 3 * n) (4000 + 100 * N + 100 * n) h h' ∧ hS h' = e + 11 + 3 * n) ∧ (hR h' 768 a = some b ∧ hR h' 769 a = some e ∧ hR h' 770 a = some (e + 10) ∧ ∀ f, hI h' f a = 0) ∧ st0 g h' b N rep U mem (fun k => tbI N k 8) ∧ co0 g h' b e N ∧ (hK h' (e + 10) = 23 ∧ hN h' (e + 10) = 6) ∧ cli0 h' e n
theorem con62_l (w : hWF h) (ka : hK h a = 13) (eb : b = hS h) (ee : e = hS h + 9 + 3 * N) {Q : hpT → Option Value → Prop} (kk : ∀ h1, con62 g h a b e N rep U mem 6 h1 → ∀ x5, Ev g P 62 101 [some (va_rf (some a)), some (.int x1), some (.int x2), some (.int x3), some (.int x4), some (.int x5)] [] h1 Q) : ∀ (d i : Nat) (h1 : hpT), i + d = 6 → con62 g h a b e N rep U mem i h1 → Ev g P 62 71 [some (va_rf (some a)), some (.int x1), some (.int x2), some (.int x3), some (.int x4), some (.int (nI i))] [] h1 Q := by
  intro d
  induction d with
  | zero =>
    intro i h1 ei x
    have : i = 6 := by omega
    subst this
    have x0 := x
    obtain ⟨⟨c1, s1⟩, ⟨r1, r2, r3, i1⟩, st, co, ⟨k10, n10⟩, cl⟩ := x
    have ha : a < hS h := w.lt (by omega)
    have k1 : hK h1 a = 13 := by rw [(c1.2.1 a ha).1]; exact ka
    exact s_62_71 (k3 := k1) (e5 := r3) (k7 := k10) (kt := fun _ => kk h1 x0 _) (kf := fun z => absurd (by rw [n10]; exact Int32.le_refl _) z)
  | succ d ih =>
    intro i h1 ei x
    obtain ⟨⟨c1, s1⟩, ⟨r1, r2, r3, i1⟩, st, co, ⟨k10, n10⟩, cl⟩ := x
    have ha : a < hS h := w.lt (by omega)
    have w1 := c1.2.2.1
    have k1 : hK h1 a = 13 := by rw [(c1.2.1 a ha).1]; exact ka
    have hi : i < 6 := by omega
    refine s_62_71 (k3 := k1) (e5 := r3) (k7 := k10) (kt := fun z => absurd z (by rw [n10]; exact nI_ge hi (by omega))) (kf := fun _ => ?_)
    refine s_62_81 (k3 := k1) (kk := ?_)
    have c2 := Ch.mO w1 2
    have w2 := c2.2.2.1
    have kn : hK (hpO h1 2) (hS h1) = 3 := hK_O_new h1 2
    have z0 : hI (hpO h1 2) 130 (hS h1) = 0 := ((w1 (hS h1) (Nat.le_refl _)).2.1 130).1
    rw [r3]
    refine s_62_90 (hc := m_client (g := g) (P := P) w2 kn z0) (kk := fun h3 ⟨n1, n2, n3, n4, n5⟩ => ?_)
    have hs2 : hS (hpO h1 2) = hS h1 + 1 := rfl
    rw [hs2] at n1 n3 n4 n5
    have c3 : Ch (fun _ => False) 3 (nf 2 + 80) h1 h3 := (c2.tr n2).mono (fun z hz q => q.elim id (fun q => by have : z = hS h1 := q; omega)) (Nat.le_refl _) (Nat.le_refl _)
    have w3 := c3.2.2.1
    have sm3 : ∀ z, z < hS h1 → Sm h1 h3 z := fun z hz => c3.sm (fun q => q) hz
    have k103 : hK h3 (e + 10) = 23 := by rw [(sm3 _ (by omega)).1]; exact k10
    have n103 : hN h3 (e + 10) = 6 := by rw [(sm3 _ (by omega)).2.2.1]; exact n10
    refine x_62_94 (k3 := k103) (i4 := by rw [n103]; exact vin_nI hi (by decide)) (c5 := fun z hz => by cases hz; rw [n1.1]; decide) (kk := ?_)
    rw [nI_clamp (by omega), nI_1]
    have c4 := Ch.wB (i := i) w3 (some (hS h1)) (a := e + 10) (by omega)
    have far : ∀ z, z < hS h1 → ¬ z = e + 10 → Sm h1 (hpB h3 (e + 10) i (some (hS h1))) z := fun z hz nz => (c3.tr c4).sm (fun q => q.elim id nz) hz
    have fa3 : ∀ z, z < hS h3 → ¬ z = e + 10 → Sm h3 (hpB h3 (e + 10) i (some (hS h1))) z := fun z hz nz => c4.sm nz hz
    have hB4 : ∀ j, hB (hpB h3 (e + 10) i (some (hS h1))) (e + 10) j = if j = i then some (hS h1) else hB h1 (e + 10) j := fun j => by
      rw [rB_B]
      by_cases q : j = i
      · rw [if_pos ⟨rfl, q⟩, if_pos q]
      · rw [if_neg (fun z => q z.2), if_neg q, ((sm3 _ (by omega)).2.2.2 j).2]
    have kn4 : hK (hpB h3 (e + 10) i (some (hS h1))) (e + 10) = 23 ∧ hN (hpB h3 (e + 10) i (some (hS h1))) (e + 10) = 6 := ⟨k103, n103⟩
    have s4 : hS (hpB h3 (e + 10) i (some (hS h1))) = hS h1 + 3 := by show hS h3 = _; omega
    have c14 := c1.tr (c3.tr c4)
    generalize hpB h3 (e + 10) i (some (hS h1)) = H at far fa3 hB4 kn4 s4 c14 ⊢
    have sa := far a (by omega) (by omega)
    refine ih (i + 1) H (by omega) ⟨⟨c14.mono (fun z hz q => ?_) (by omega) (by have : nf 2 + 80 ≤ 100 := (by decide); omega), by omega⟩, ⟨by rw [(sa.2.1 768).2]; exact r1, by rw [(sa.2.1 769).2]; exact r2, by rw [(sa.2.1 770).2]; exact r3, fun f => by rw [(sa.2.1 f).1]; exact i1 f⟩, st.sm w1 (fun z z1 z2 => far z (by omega) (by omega)), co.sm (fun z z1 z2 => far z (by omega) (by omega)), kn4, fun j hj => ?_⟩
    · rcases q with q | q | q
      · exact q
      · exact q.elim
      · have q : z = e + 10 := q; omega
    · rw [hB4]
      by_cases q : j = i
      · subst q
        have es : hS h1 = e + 11 + 3 * j := s1
        rw [if_pos rfl, es]
        have f1 := fa3 (hS h1 + 1) (by omega) (by omega)
        have f2 := fa3 (hS h1 + 2) (by omega) (by omega)
        have cv := n1.sm (fa3 (hS h1) (by omega) (by omega)) f1 f2
        rw [es] at cv f1 f2 n4 n5
        rw [show e + 11 + 3 * j + 1 + 1 = e + 13 + 3 * j by omega, show e + 11 + 3 * j + 1 = e + 12 + 3 * j by omega] at cv
        exact ⟨rfl, cv, fun j' => ⟨by rw [show e + 12 + 3 * j = e + 11 + 3 * j + 1 by omega, (f1.2.2.2 j').2]; exact n4 j', by rw [show e + 13 + 3 * j = e + 11 + 3 * j + 2 by omega, (f2.2.2.2 j').2]; exact n5 j'⟩⟩
      · rw [if_neg q]
        obtain ⟨y1, y2, y3⟩ := cl j (by omega)
        have f1 := far (e + 12 + 3 * j) (by omega) (by omega)
        have f2 := far (e + 13 + 3 * j) (by omega) (by omega)
        exact ⟨y1, y2.sm (far _ (by omega) (by omega)) f1 f2, fun j' => ⟨by rw [(f1.2.2.2 j').2]; exact (y3 j').1, by rw [(f2.2.2.2 j').2]; exact (y3 j').2⟩⟩
def new62 (g : gcT) (h : hpT) (a b e N : Nat) (rep U mem : Int32) (h' : hpT) : Prop := (Ch (fun z => z = a) (60 + 3 * N) (5000 + 100 * N) h h' ∧ hS h' = e + 30) ∧ (hR h' 768 a = some b ∧ hR h' 769 a = some e ∧ hR h' 770 a = some (e + 10) ∧ hR h' 771 a = some (e + 29) ∧ ∀ f, hI h' f a = 0) ∧ st0 g h' b N rep U mem (fun k => tbI N k 8) ∧ co0 g h' b e N ∧ ((hK h' (e + 10) = 23 ∧ hN h' (e + 10) = 6) ∧ cli0 h' e 6) ∧ hK h' (e + 29) = 24 ∧ hN h' (e + 29) = 40 ∧ ∀ j, hB h' (e + 29) j = none
/-- new LogCluster -/
theorem m_62 (w : hWF h) (ka : hK h a = 13) (z0 : ∀ f, hI h f a = 0) (h4 : 4 ≤ N) (hN8 : N ≤ 8) (p1 : nearF x1 4 8 = nI N) (p2 : nearF x2 2 3 = rep) (p3 : nearF x3 6 16 = U) (p4 : nearF x4 5 16 = mem) : EvV g P 62 [va_rf (some a), .int x1, .int x2, .int x3, .int x4] h (new62 g h a (hS h) (hS h + 9 + 3 * N) N rep U mem) := by
  have ha : a < hS h := w.lt (by omega)
  refine e_62 (s_62_0 (kk := s_62_4 (kk := ?_)))
  refine s_62_8 (hc := m_nearest) (kk := fun h' x ⟨q1, q2⟩ => ?_)
  subst q1; subst q2
  refine s_62_16 (hc := m_nearest) (kk := fun h' x ⟨q1, q2⟩ => ?_)
  subst q1; subst q2
  refine s_62_22 (hc := m_nearest) (kk := fun h' x ⟨q1, q2⟩ => ?_)
  subst q1; subst q2
  refine s_62_30 (hc := m_nearest) (kk := fun h' x ⟨q1, q2⟩ => ?_)
  subst q1; subst q2
  rw [p1, p2, p3, p4]
  have c1 := Ch.mO w 10
  have w1 := c1.2.2.1
  have kb : hK (hpO h 10) (hS h) = 11 := hK_O_new h 10
  have zb : ∀ f, hI (hpO h 10) f (hS h) = 0 := fun f => ((w (hS h) (Nat.le_refl _)).2.1 f).1
  have s1 : hS (hpO h 10) = hS h + 1 := rfl
  refine s_62_38 (hc := m_40 (g := g) (P := P) (rep := rep) (U := U) (mem := mem) w1 hN8 kb zb) (kk := fun h2 x => ?_)
  obtain ⟨c2, s2, ⟨r1, sv⟩, ⟨r2, el⟩, ⟨r3, k8, n8⟩, fi, ss⟩ := x
  rw [s1] at s2 r1 sv r2 el r3 k8 n8 ss
  have w2 := c2.2.2.1
  have c12 : Ch (fun _ => False) (9 + 3 * N) (nf 10 + (1000 + 100 * N)) h h2 := (c1.tr c2).mono (fun z hz q => q.elim id (fun q => by have : z = hS h := q; omega)) (by omega) (Nat.le_refl _)
  have sm2 : ∀ z, z < hS h → Sm h h2 z := fun z hz => c12.sm (fun q => q) hz
  have ka2 : hK h2 a = 13 := by rw [(sm2 a ha).1]; exact ka
  have kb2 : hK h2 (hS h) = 11 := by rw [(c2.2.1 (hS h) (by omega)).1]; exact kb
  have st2 : st0 g h2 (hS h) N rep U mem (fun _ => 0) := ⟨⟨kb2, fi⟩, ⟨r1, sv⟩, ⟨r2, el⟩, ⟨r3, k8, n8⟩, fun k hk => by
    have := ss k hk
    rw [show hS h + 1 + 7 = hS h + 8 by omega, show hS h + 1 + 8 + 3 * k = hS h + 9 + 3 * k by omega] at this
    exact this⟩
  refine s_62_41 (k3 := ka2) (kk := ?_)
  have c3 := Ch.wR (f := 768) w2 (some (hS h)) (a := a) (by omega)
  have hR3 : ∀ f, hR (hpR h2 768 a (some (hS h))) f a = if f = 768 then some (hS h) else hR h2 f a := fun f => by
    rw [rR_R]
    by_cases q : f = 768
    · rw [if_pos ⟨q, rfl⟩, if_pos q]
    · rw [if_neg (fun z => q z.1), if_neg q]
  have hI3 : ∀ f, hI (hpR h2 768 a (some (hS h))) f a = 0 := fun f => by
    show hI h2 f a = 0
    rw [((sm2 a ha).2.1 f).1]; exact z0 f
  have ka3 : hK (hpR h2 768 a (some (hS h))) a = 13 := ka2
  have s3 : hS (hpR h2 768 a (some (hS h))) = hS h + 9 + 3 * N := by show hS h2 = _; omega
  have st3 : st0 g (hpR h2 768 a (some (hS h))) (hS h) N rep U mem (fun _ => 0) := st2.sm w2 (fun z z1 z2 => c3.sm (fun q => by have q : z = a := q; omega) (by omega))
  have c13 := c12.tr c3
  generalize hpR h2 768 a (some (hS h)) = H3 at c3 hR3 hI3 ka3 s3 st3 c13 ⊢
  have w3 := c3.2.2.1
  have c4 := Ch.mO w3 3
  have w4 := c4.2.2.1
  have ke4 : hK (hpO H3 3) (hS H3) = 4 := hK_O_new H3 3
  have ze : ∀ f, hI (hpO H3 3) f (hS H3) = 0 := fun f => ((w3 (hS H3) (Nat.le_refl _)).2.1 f).1
  have sm4 : ∀ z, z < hS H3 → Sm H3 (hpO H3 3) z := fun z hz => c4.sm (fun q => q) hz
  have s4 : hS (hpO H3 3) = hS h + 10 + 3 * N := by show hS H3 + 1 = _; omega
  have st4 : st0 g (hpO H3 3) (hS h) N rep U mem (fun _ => 0) := st3.sm w3 (fun z z1 z2 => sm4 z (by omega))
  have ka4 : hK (hpO H3 3) a = 13 := by rw [(sm4 a (by omega)).1]; exact ka3
  have hR4 : ∀ f, hR (hpO H3 3) f a = hR H3 f a := fun f => ((sm4 a (by omega)).2.1 f).2
  have hI4 : ∀ f, hI (hpO H3 3) f a = 0 := fun f => by rw [((sm4 a (by omega)).2.1 f).1]; exact hI3 f
  generalize hpO H3 3 = H4 at c4 w4 ke4 ze sm4 s4 st4 ka4 hR4 hI4 ⊢
  have r768 : hR H4 768 a = some (hS h) := by rw [hR4, hR3, if_pos rfl]
  obtain ⟨⟨kb4, ib4⟩, x2, x3', ⟨r43, k43, n43⟩, ss4⟩ := st4
  refine s_62_48 (k3 := ka4) (e5 := rfl) (hc := by rw [r768]; exact m_5 (g := g) (P := P) (s0 := hS h + 9) w4 h4 hN8 ke4 ze kb4 r43 k43 n43 ss4) (Q1 := con5 g H4 (hS H3) (hS h) (hS h + 8) (hS h + 9) N 8) (kk := fun h5 x => ?_)
  obtain ⟨c5, s5, ⟨t1, t2, t3, t4⟩, ⟨t5, t6⟩, ⟨t7, t8⟩, ⟨t9, t10⟩, ⟨t11, t12⟩, t13⟩ := x
  rw [s3] at t1 t5 t7 t9 t11 t12
  rw [s4] at t1 t2 t3 t4 t5 t6 t7 t8 t9 t10 s5
  have w5 := c5.2.2.1
  have cx : ∀ z, z < hS H4 → ¬ hK H4 z = 10 → ¬ z = hS H3 → Sm H4 h5 z := fun z hz n1 n2 => c5.sm (fun q => by
    rcases q with q | ⟨k, q1, q2⟩
    · exact n2 q
    · rw [q2] at n1; exact n1 (ss4 k q1).2.1.1) hz
  have sa5 := cx a (by omega) (by omega) (by omega)
  have st5 : st0 g h5 (hS h) N rep U mem (fun k => tbI N k 8) := by
    have q0 := cx (hS h) (by omega) (by omega) (by omega)
    have q8 := cx (hS h + 8) (by omega) (by omega) (by omega)
    refine ⟨⟨by rw [q0.1]; exact kb4, fun f => by rw [(q0.2.1 f).1]; exact ib4 f⟩, ⟨by rw [(q0.2.1 644).2]; exact x2.1, ?_⟩, ⟨by rw [(q0.2.1 645).2]; exact x3'.1, x3'.2.sm (cx _ (by omega) (by have := x3'.2.1; omega) (by omega))⟩, ⟨by rw [(q0.2.1 643).2]; exact r43, by rw [q8.1]; exact k43, by rw [q8.2.2.1]; exact n43⟩, fun k hk => ⟨by rw [(q8.2.2.2 k).2]; exact (ss4 k hk).1, t13 k hk⟩⟩
    have sv := x2.2
    refine sv.smm (fun z hz p => cx z (w4.lt hz) ?_ ?_)
    · obtain ⟨k0, -, -, -, -, -, ⟨k1, -⟩, ⟨k2, -⟩, ⟨k3, -⟩, ⟨k4, -⟩, ⟨k5, -⟩, -⟩ := sv
      rcases p with p | p | p | p | p | p <;> rw [p] <;> omega
    · rcases p with p | p | p | p | p | p <;> first | omega | (simp only at p; omega)
  have ke5 : hK h5 (hS h + 9 + 3 * N) = 4 := by rw [(c5.2.1 _ (by omega)).1, ← s3]; exact ke4
  have co5 : co0 g h5 (hS h) (hS h + 9 + 3 * N) N := ⟨⟨ke5, t12⟩, ⟨by rw [t1]; congr 1; omega, by rw [show hS h + 9 + 3 * N + 1 = hS h + 10 + 3 * N by omega]; exact t2, by rw [show hS h + 9 + 3 * N + 1 = hS h + 10 + 3 * N by omega]; exact t3, fun t ht => by rw [show hS h + 9 + 3 * N + 1 = hS h + 10 + 3 * N by omega]; exact t4 t ht⟩, ⟨by rw [t5]; congr 1; omega, by rw [show hS h + 9 + 3 * N + 2 = hS h + 10 + 3 * N + 1 by omega]; exact t6⟩, ⟨by rw [t7]; congr 1; omega, by
    rw [show hS h + 9 + 3 * N + 3 = hS h + 10 + 3 * N + 2 by omega, show hS h + 9 + 3 * N + 4 = hS h + 10 + 3 * N + 3 by omega, show hS h + 9 + 3 * N + 5 = hS h + 10 + 3 * N + 4 by omega, show hS h + 9 + 3 * N + 6 = hS h + 10 + 3 * N + 5 by omega, show hS h + 9 + 3 * N + 7 = hS h + 10 + 3 * N + 6 by omega, show hS h + 9 + 3 * N + 8 = hS h + 10 + 3 * N + 7 by omega]
    exact t8⟩, ⟨by rw [t9]; congr 1; omega, by rw [show hS h + 9 + 3 * N + 9 = hS h + 10 + 3 * N + 8 by omega]; exact t10⟩, t11⟩
  have c15 : Ch (fun z => z = a) (19 + 3 * N) (nf 10 + (1000 + 100 * N) + nf 3 + 1000) h h5 := ((c13.tr c4).tr c5).mono (fun z hz q => by
    rcases q with ((q | q) | q) | (q | ⟨k, q1, q2⟩)
    · exact q.elim
    · exact q
    · exact q.elim
    · omega
    · omega) (by omega) (by omega)
  have ka5 : hK h5 a = 13 := by rw [sa5.1]; exact ka4
  refine s_62_56 (k3 := ka5) (kk := ?_)
  show Ev g P 62 65 _ [va_rf (some (hS (hpR h5 769 a (some (hS H3))))), va_rf (some a)] (hpW (hpR h5 769 a (some (hS H3))) 3 6) _
  rw [s3]
  have c6 := Ch.wR (f := 769) w5 (some (hS h + 9 + 3 * N)) (a := a) (by omega)
  have hR6 : ∀ f, hR (hpR h5 769 a (some (hS h + 9 + 3 * N))) f a = if f = 769 then some (hS h + 9 + 3 * N) else if f = 768 then some (hS h) else hR h2 f a := fun f => by
    rw [rR_R]
    by_cases q : f = 769
    · rw [if_pos ⟨q, rfl⟩, if_pos q]
    · rw [if_neg (fun z => q z.1), if_neg q, (sa5.2.1 f).2, hR4, hR3]
  have hI6 : ∀ f, hI (hpR h5 769 a (some (hS h + 9 + 3 * N))) f a = 0 := fun f => by
    show hI h5 f a = 0
    rw [(sa5.2.1 f).1]; exact hI4 f
  have ka6 : hK (hpR h5 769 a (some (hS h + 9 + 3 * N))) a = 13 := ka5
  have s6 : hS (hpR h5 769 a (some (hS h + 9 + 3 * N))) = hS h + 9 + 3 * N + 10 := by show hS h5 = _; omega
  have st6 := st5.sm w5 (fun z z1 z2 => c6.sm (fun q => by have q : z = a := q; omega) (by omega))
  have co6 := co5.sm (fun z z1 z2 => c6.sm (fun q => by have q : z = a := q; omega) (by omega))
  have c16 := c15.tr c6
  generalize hpR h5 769 a (some (hS h + 9 + 3 * N)) = H6 at c6 hR6 hI6 ka6 s6 st6 co6 c16 ⊢
  have w6 := c6.2.2.1
  have c7 := Ch.mW w6 3 6
  have w7 := c7.2.2.1
  have kn := hK_W_new H6 3 6
  have sm7 : ∀ z, z < hS H6 → Sm H6 (hpW H6 3 6) z := fun z hz => c7.sm (fun q => q) hz
  have s7 : hS (hpW H6 3 6) = hS h + 9 + 3 * N + 11 := by show hS H6 + 1 = _; omega
  have ka7 : hK (hpW H6 3 6) a = 13 := by rw [(sm7 a (by omega)).1]; exact ka6
  rw [s6] at kn
  generalize hpW H6 3 6 = H7 at c7 w7 kn sm7 s7 ka7 ⊢
  rw [s6]
  refine s_62_65 (k3 := ka7) (kk := ?_)
  have c8 := Ch.wR (f := 770) w7 (some (hS h + 9 + 3 * N + 10)) (a := a) (by omega)
  have far : ∀ z, z < hS H6 → ¬ z = a → Sm H6 (hpR H7 770 a (some (hS h + 9 + 3 * N + 10))) z := fun z hz nz => (c7.tr c8).sm (fun q => q.elim id nz) hz
  have hR8 : ∀ f, hR (hpR H7 770 a (some (hS h + 9 + 3 * N + 10))) f a = if f = 770 then some (hS h + 9 + 3 * N + 10) else hR H6 f a := fun f => by
    rw [rR_R]
    by_cases q : f = 770
    · rw [if_pos ⟨q, rfl⟩, if_pos q]
    · rw [if_neg (fun z => q z.1), if_neg q, ((sm7 a (by omega)).2.1 f).2]
  have hI8 : ∀ f, hI (hpR H7 770 a (some (hS h + 9 + 3 * N + 10))) f a = 0 := fun f => by
    show hI H7 f a = 0
    rw [((sm7 a (by omega)).2.1 f).1]; exact hI6 f
  have kn8 : hK (hpR H7 770 a (some (hS h + 9 + 3 * N + 10))) (hS h + 9 + 3 * N + 10) = 23 ∧ hN (hpR H7 770 a (some (hS h + 9 + 3 * N + 10))) (hS h + 9 + 3 * N + 10) = 6 := kn
  have s8 : hS (hpR H7 770 a (some (hS h + 9 + 3 * N + 10))) = hS h + 9 + 3 * N + 11 := s7
  have c18 := (c16.tr c7).tr c8
  generalize hpR H7 770 a (some (hS h + 9 + 3 * N + 10)) = H8 at c8 far hR8 hI8 kn8 s8 c18 ⊢
  rw [show ((0 : Int32)) = nI 0 from rfl]
  have nfb : nf 10 ≤ 100 := by decide
  have nfc : nf 3 ≤ 100 := by decide
  refine con62_l (rep := rep) (U := U) (mem := mem) (N := N) w ka rfl rfl (fun h9 x x5 => ?_) 6 0 H8 rfl ⟨⟨c18.mono (fun z hz q => ?_) (by omega) (by omega), s8⟩, ⟨?_, ?_, ?_, hI8⟩, st6.sm w6 (fun z z1 z2 => far z (by omega) (by omega)), co6.sm (fun z z1 z2 => far z (by omega) (by omega)), kn8, fun i hi => absurd hi (Nat.not_lt_zero _)⟩
  · -- the net
    obtain ⟨⟨c9, s9⟩, ⟨r1, r2, r3, i1⟩, st9, co9, k10, cl9⟩ := x
    have w9 := c9.2.2.1
    have ka9 : hK h9 a = 13 := by rw [(c9.2.1 a ha).1]; exact ka
    refine s_62_101 (kk := ?_)
    show Ev g P 62 107 _ [va_rf (some (hS h9)), va_rf (some a)] (hpW h9 4 40) _
    have c10 := Ch.mW w9 4 40
    have w10 := c10.2.2.1
    have kn := hK_W_new h9 4 40
    have zB : ∀ j, hB (hpW h9 4 40) (hS h9) j = none := fun j => ((w9 (hS h9) (Nat.le_refl _)).2.2 j).2
    have sm10 : ∀ z, z < hS h9 → Sm h9 (hpW h9 4 40) z := fun z hz => c10.sm (fun q => q) hz
    have s10 : hS (hpW h9 4 40) = hS h + 9 + 3 * N + 30 := by show hS h9 + 1 = _; omega
    have ka10 : hK (hpW h9 4 40) a = 13 := by rw [(sm10 a (by omega)).1]; exact ka9
    have e9 : hS h9 = hS h + 9 + 3 * N + 29 := by omega
    generalize hpW h9 4 40 = H10 at c10 w10 kn zB sm10 s10 ka10 ⊢
    rw [e9] at kn zB ⊢
    have c11 := Ch.wR (f := 771) w10 (some (hS h + 9 + 3 * N + 29)) (a := a) (by omega)
    have fa : ∀ z, z < hS h9 → ¬ z = a → Sm h9 (hpR H10 771 a (some (hS h + 9 + 3 * N + 29))) z := fun z hz nz => (c10.tr c11).sm (fun q => q.elim id nz) hz
    have hR11 : ∀ f, hR (hpR H10 771 a (some (hS h + 9 + 3 * N + 29))) f a = if f = 771 then some (hS h + 9 + 3 * N + 29) else hR h9 f a := fun f => by
      rw [rR_R]
      by_cases q : f = 771
      · rw [if_pos ⟨q, rfl⟩, if_pos q]
      · rw [if_neg (fun z => q z.1), if_neg q, ((sm10 a (by omega)).2.1 f).2]
    refine s_62_107 (k3 := ka10) (hq := ⟨rfl, ⟨((c9.tr c10).tr c11).mono (fun z hz q => ?_) (by omega) (by omega), s10⟩, ⟨by rw [hR11, if_neg (by decide)]; exact r1, by rw [hR11, if_neg (by decide)]; exact r2, by rw [hR11, if_neg (by decide)]; exact r3, by rw [hR11, if_pos rfl], fun f => ?_⟩, st9.sm w9 (fun z z1 z2 => fa z (by omega) (by omega)), co9.sm (fun z z1 z2 => fa z (by omega) (by omega)), ⟨?_, cl9.sm (fun z z1 z2 => fa z (by omega) (by omega))⟩, kn.1, kn.2, zB⟩)
    · rcases q with (q | q) | q
      · exact q
      · exact q.elim
      · exact q
    · show hI H10 f a = 0
      rw [((sm10 a (by omega)).2.1 f).1]; exact i1 f
    · have q := fa (hS h + 9 + 3 * N + 10) (by omega) (by omega)
      exact ⟨by rw [q.1]; exact k10.1, by rw [q.2.2.1]; exact k10.2⟩
  · rcases q with ((q | q) | q) | q
    · exact q
    · exact q
    · exact q.elim
    · exact q
  · rw [hR8, if_neg (by decide), hR6, if_neg (by decide), if_pos rfl]
  · rw [hR8, if_neg (by decide), hR6, if_pos rfl]
  · rw [hR8, if_pos rfl]
end
