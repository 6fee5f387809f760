/-! the model: clean -/
section MK5
variable {g : gcT} {P : pmT} {h h' h1 : hpT} {y ad : Nat → Nat} {T T1 : List slT} {s s' : slT} {i j k n N U rep nm m e f c v to a b k8 : Nat} {x1 x2 x3 x4 x5 x6 : Int32} {A : Nat → Nat → Prop} {I : Nat → Prop} {st : Nat → Int32} {Q : hpT → Option Value → Prop} {G C : List Nat} {lt : Option Nat}
theorem insG_pm : insG st T lt G k = G ∨ (insG st T lt G k).Perm (k :: G) := by
  unfold insG
  split
  · exact Or.inl rfl
  · refine Or.inr (List.perm_middle.trans (List.Perm.cons _ ?_))
    rw [List.take_append_drop]
theorem insG_len : (insG st T lt G k).length ≤ G.length + 1 := by
  rcases insG_pm (st := st) (T := T) (lt := lt) (G := G) (k := k) with q | q
  · rw [q]; exact Nat.le_succ _
  · exact Nat.le_of_eq q.length_eq
theorem insG_mem {z : Nat} (hz : z ∈ insG st T lt G k) : z = k ∨ z ∈ G := by
  rcases insG_pm (st := st) (T := T) (lt := lt) (G := G) (k := k) with q | q
  · rw [q] at hz; exact Or.inr hz
  · exact List.mem_cons.mp (q.mem_iff.mp hz)
theorem clG_ok : ∀ (C G : List Nat), (G ++ C).Nodup → (C.foldl (insG st T lt) G).Nodup ∧ (∀ z ∈ C.foldl (insG st T lt) G, z ∈ G ∨ z ∈ C) ∧ (C.foldl (insG st T lt) G).length ≤ G.length + C.length := by
  intro C
  induction C with
  | nil => intro G nd; rw [List.append_nil] at nd; exact ⟨nd, fun z hz => Or.inl hz, Nat.le_refl _⟩
  | cons k C ih =>
    intro G nd
    rw [List.foldl_cons]
    have nd' : (insG st T lt G k ++ C).Nodup := by
      have p : (G ++ k :: C).Perm (k :: G ++ C) := List.perm_middle
      have nd2 := p.nodup_iff.mp nd
      rcases insG_pm (st := st) (T := T) (lt := lt) (G := G) (k := k) with q | q
      · rw [q]; exact (List.nodup_cons.mp nd2).2
      · exact (q.append_right C).nodup_iff.mpr nd2
    obtain ⟨a1, a2, a3⟩ := ih _ nd'
    refine ⟨a1, fun z hz => ?_, ?_⟩
    · rcases a2 z hz with q | q
      · rcases insG_mem q with q | q
        · exact Or.inr (q ▸ List.mem_cons_self)
        · exact Or.inl q
      · exact Or.inr (List.mem_cons_of_mem _ q)
    · have := insG_len (st := st) (T := T) (lt := lt) (G := G) (k := k)
      rw [List.length_cons]; omega
theorem laT_b (tb : TB h y ad T) {x : Int32} : ∀ k', laT T x = some k' → k' < T.length := fun k' q => laT_lt (n := T.length) (List.range T.length) none (fun g hg => List.mem_range.mp hg) (fun k q => by cases q) k' q
/-- the loop over the LOG's segments -/
theorem cln_n {o7 o8 o9 o10 o11 : Option Value} (hm : HM h y ad) (w : hWF h) (tb : TB h y ad T) (est : st = hA h (ad 5)) (kk : ∀ h2 o5 o6 x4, MF y ad (fun r _ => 34 ≤ r ∧ r ≤ 36) (fun _ => False) h h2 → SRow h2 ad st T (clG st T x1 C) → (∀ k ∈ clG st T x1 C, ∀ e, e < (lEn (T.getD k sl0)).length → ∀ i, i < 2 → hA h2 (ad 36) ((k * 16 + e) * 2 + i) = livT st T k e i) → Ev g P 133 201 [some (va_rf (some (y 12))), some (.int x1), some (.int (oI (laT T x1))), some (.int (nI (clG st T x1 C).length)), some (.int x4), o5, o6, o7, o8, o9, o10, o11] [] h2 Q) : ∀ (D G : List Nat) (n : Int32) (h1 : hpT) (o5 o6 : Option Value), Chn T x1 n D → (∀ k ∈ D, k < T.length) → G.length + D.length ≤ 6000 → D.foldl (insG st T (laT T x1)) G = clG st T x1 C → (∀ k ∈ G, k < T.length) → MF y ad (fun r _ => 34 ≤ r ∧ r ≤ 36) (fun _ => False) h h1 → SRow h1 ad st T G → (∀ k ∈ G, ∀ e, e < (lEn (T.getD k sl0)).length → ∀ i, i < 2 → hA h1 (ad 36) ((k * 16 + e) * 2 + i) = livT st T k e i) → Ev g P 133 16 [some (va_rf (some (y 12))), some (.int x1), some (.int (oI (laT T x1))), some (.int (nI G.length)), some (.int (oI (nxT T x1 n))), o5, o6, o7, o8, o9, o10, o11] [] h1 Q := by
  have l6 := tb.2.1
  intro D
  induction D with
  | nil =>
    intro G n h1 o5 o6 ch hD hl eG hG x sr e36
    have ch : nxT T x1 n = none := ch
    have eG : G = clG st T x1 C := eG
    rw [ch]
    subst eG
    exact s_133_16 (kt := fun _ => kk h1 _ _ _ x sr e36) (kf := fun z => absurd rfl z)
  | cons k D ih =>
    intro G n h1 o5 o6 ch hD hl eG hG x sr e36
    obtain ⟨c1, c2⟩ := ch
    rw [c1]
    have hk := hD k List.mem_cons_self
    have ek : (nI k).toNatClampNeg = k := nI_clamp (by omega)
    have hl : G.length + (D.length + 1) ≤ 6000 := hl
    have m1 := hm.mf x
    have nC : ∀ {A : Nat → Nat → Prop}, (∀ r i, A r i → 34 ≤ r) → ∀ r i q, A r i → ¬ CSl q r i := fun hh r i q a z => by
      have := hh r i a
      rcases z with ⟨z, -⟩ | ⟨z, -⟩ | ⟨z, -⟩ <;> omega
    have tb1 : TB h1 y ad T := tb.keep hm x (nC (fun r i a => a.1)) (fun q => q)
    have st1 : st = hA h1 (ad 5) := by
      rw [est]; funext v
      exact (MF.a hm x (by decide) (fun q => absurd q.1 (by decide))).symm
    -- on to the next
    have nx : ∀ G' h2 x5 o6, G' = insG st T (laT T x1) G k → MF y ad (fun r _ => 34 ≤ r ∧ r ≤ 36) (fun _ => False) h h2 → SRow h2 ad st T G' → (∀ k ∈ G', ∀ e, e < (lEn (T.getD k sl0)).length → ∀ i, i < 2 → hA h2 (ad 36) ((k * 16 + e) * 2 + i) = livT st T k e i) → Ev g P 133 184 [some (va_rf (some (y 12))), some (.int x1), some (.int (oI (laT T x1))), some (.int (nI G'.length)), some (.int (nI k)), some (.int x5), o6, o7, o8, o9, o10, o11] [] h2 Q := by
      intro G' h2 x5 o6 eG' x2 sr2 e2
      have m2 := hm.mf x2
      have tb2 : TB h2 y ad T := tb.keep hm x2 (nC (fun r i a => a.1)) (fun q => q)
      have e25 := (tb2.s hk).1.2.1
      refine s_133_184 (k3 := m2.1) (e5 := m2.r25) (k6 := m2.k25) (i7 := by rw [m2.n25]; exact vin_nI (by omega) (by decide)) (hc := m_next m2 tb2) (kk := fun h3 x' ⟨q1, q2⟩ => s_133_196 ?_)
      subst q1; subst q2
      rw [ek, e25]
      have il := insG_len (st := st) (T := T) (lt := laT T x1) (G := G) (k := k)
      refine ih G' _ h3 _ _ c2 (fun z hz => hD z (List.mem_cons_of_mem _ hz)) (by rw [eG']; omega) (by rw [eG']; exact eG) (fun z hz => ?_) x2 sr2 e2
      rw [eG'] at hz
      rcases insG_mem hz with q | q
      · rw [q]; exact hk
      · exact hG z q
    refine s_133_16 (kt := fun z => absurd z (oI_ne (by omega))) (kf := fun _ => ?_)
    refine cln_l (st := st) m1 x.1.2.2.2 tb1 st1 hk (fun h2 x5 o6 xa za => ?_)
    have xa' : MF y ad (fun r _ => 34 ≤ r ∧ r ≤ 36) (fun _ => False) h h2 := x.join (xa.mono (fun r i q => by omega) (fun r q => q))
    have m2 := hm.mf xa'
    have tb2 : TB h2 y ad T := tb.keep hm xa' (nC (fun r i a => a.1)) (fun q => q)
    have sr2 : SRow h2 ad st T G := fun j hj => by
      rw [MF.a m1 xa (by decide) (fun q => absurd q.1 (by decide)), MF.a m1 xa (by decide) (fun q => absurd q.1 (by decide))]
      exact sr j hj
    have l16 : ∀ z, z < T.length → (lEn (T.getD z sl0)).length ≤ 16 := fun z hz => (tb.th (fun _ => 0) hz).2
    have e2 : ∀ z, z = k ∨ z ∈ G → ∀ e, e < (lEn (T.getD z sl0)).length → ∀ i, i < 2 → hA h2 (ad 36) ((z * 16 + e) * 2 + i) = livT st T z e i := by
      intro z hz e he i hi
      by_cases zk : z = k
      · subst zk; exact za e he i hi
      · have hzG := hz.resolve_left zk
        have := l16 z (hG z hzG)
        rw [MF.a m1 xa (by decide) (fun q => zk (by have := q.2; omega))]
        exact e36 z hzG e he i hi
    have oe := oI_eq (k := k) (b := laT T x1) (by omega) (fun k' q => by have := laT_b tb k' q; omega)
    by_cases q : some k = laT T x1
    · have ei : insG st T (laT T x1) G k = G := by unfold insG; rw [if_pos q]
      refine s_133_86 (kt := fun z => absurd (oe.mpr q) z) (kf := fun _ => s_133_92 ?_)
      exact nx G h2 _ _ ei.symm xa' sr2 (fun z hz => e2 z (Or.inr hz))
    · have ei : insG st T (laT T x1) G k = G.take (plcC (G.map (cM st T)) (cM st T k) G.length) ++ k :: G.drop (plcC (G.map (cM st T)) (cM st T k) G.length) := by unfold insG; rw [if_neg q]
      refine s_133_86 (kt := fun _ => ?_) (kf := fun z => absurd (oe.mp z) q)
      have st2 : hA h2 (ad 5) = st := by
        rw [st1]; funext v
        exact MF.a m1 xa (by decide) (fun q => absurd q.1 (by decide))
      have hlu := m_liveUnits (g := g) (P := P) m2 tb2 hk
      rw [st2] at hlu
      refine s_133_95 (k3 := m2.1) (hc := hlu) (kk := fun h3 x' ⟨q1, q2⟩ => s_133_101 ?_)
      subst q1; subst q2
      refine cln_s (st := st) m2 xa'.1.2.2.2 sr2 (by omega) (fun z hz => by have := hG z hz; omega) (by omega) (fun h4 x5 o6 xb sr4 => ?_)
      have xb' : MF y ad (fun r _ => 34 ≤ r ∧ r ≤ 36) (fun _ => False) h h4 := xa'.join (xb.mono (fun r i q => by omega) (fun r q => q))
      rw [← ei] at sr4
      have ll : (insG st T (laT T x1) G k).length = G.length + 1 := by
        rcases insG_pm (st := st) (T := T) (lt := laT T x1) (G := G) (k := k) with p | p
        · exfalso
          rw [ei] at p
          have := congrArg List.length p
          rw [List.length_append, List.length_cons, List.length_take, List.length_drop] at this
          omega
        · exact p.length_eq
      have := nx _ h4 x5 o6 rfl xb' sr4 (fun z hz e he i hi => by
        rw [MF.a m2 xb (by decide) (fun q => by omega)]
        exact e2 z (insG_mem hz) e he i hi)
      rw [ll] at this
      exact this
theorem m_cleanM {vc : Int32} (hm : HM h y ad) (w : hWF h) (tb : TB h y ad T) (est : st = hA h (ad 5)) (eN : hI h 832 (y 12) = nI N) (eR : hI h 833 (y 12) = nI rep) (eU : hI h 834 (y 12) = nI U) (eO : hI h 848 (y 12) = nI nm) (eC : hI h 849 (y 12) = vc) (h4N : 4 ≤ N) (hN8 : N ≤ 8) (hr : rep ≤ 3) (hm8 : m < N) (hnm : nm ≤ 100000) (h6 : T.length < 6000) (ch : Chn T (nI m) (-1) C) (hC : ∀ k ∈ C, k < T.length ∧ lLg (T.getD k sl0) = nI m) (nd : C.Nodup) (hl : C.length ≤ 6000) (cap : ((mPk st T U (clG st T (nI m) C)).flatMap (liP st T)).length ≤ 16) : EvV g P 133 [va_rf (some (y 12)), .int (nI m)] h (fun h' => MF y ad (fun r _ => 24 ≤ r ∧ r ≤ 36) (fun k => k = 23 ∨ k = 16 ∨ k = 17) h h' ∧ TB h' y ad (clnT st N U rep nm m T (clG st T (nI m) C)).1 ∧ hI h' 848 (y 12) = nI (clnT st N U rep nm m T (clG st T (nI m) C)).2.1 ∧ hI h' 849 (y 12) = vc + nI (clnT st N U rep nm m T (clG st T (nI m) C)).2.2) := by
  obtain ⟨n1, n2, n3⟩ := clG_ok (st := st) (T := T) (lt := laT T (nI m)) C [] nd
  have n2 : ∀ z ∈ clG st T (nI m) C, z ∈ C := fun z hz => (n2 z hz).resolve_left (fun q => by cases q)
  have n3 : (clG st T (nI m) C).length ≤ 0 + C.length := n3
  refine e_133 (s_133_0 (k3 := hm.1) (hc := m_latest hm tb) (kk := fun h1 x' ⟨q1, q2⟩ => ?_))
  subst q1; subst q2
  refine s_133_5 (k3 := hm.1) (hc := m_next hm tb) (kk := fun h2 x' ⟨q1, q2⟩ => s_133_14 ?_)
  subst q1; subst q2
  have go := cln_n (g := g) (P := P) (x1 := nI m) (st := st) (C := C) (o7 := none) (o8 := none) (o9 := none) (o10 := none) (o11 := none) (Q := fun h' r => r = none ∧ MF y ad (fun r _ => 24 ≤ r ∧ r ≤ 36) (fun k => k = 23 ∨ k = 16 ∨ k = 17) h2 h' ∧ TB h' y ad (clnT st N U rep nm m T (clG st T (nI m) C)).1 ∧ hI h' 848 (y 12) = nI (clnT st N U rep nm m T (clG st T (nI m) C)).2.1 ∧ hI h' 849 (y 12) = vc + nI (clnT st N U rep nm m T (clG st T (nI m) C)).2.2) hm w tb est (fun h3 o5 o6 x4 xa sr e36 => ?_) C [] (-1) h2 none none ch (fun k hk => (hC k hk).1) (by rw [List.length_nil]; omega) rfl (fun k hk => by cases hk) (MF.rf w) (fun j hj => absurd hj (Nat.not_lt_zero _)) (fun k hk => by cases hk)
  · exact go
  have m3 := hm.mf xa
  have tb3 : TB h3 y ad T := tb.keep hm xa (fun r i q a z => by rcases z with ⟨z, -⟩ | ⟨z, -⟩ | ⟨z, -⟩ <;> omega) (fun q => q)
  have st3 : st = hA h3 (ad 5) := by
    rw [est]; funext v
    exact (MF.a hm xa (by decide) (fun q => absurd q.1 (by decide))).symm
  have ii : ∀ k, hI h3 (832 + k) (y 12) = hI h2 (832 + k) (y 12) := fun k => xa.i (fun q => q)
  exact cln_2 (o4 := none) (st := st) m3 xa.1.2.2.2 tb3 st3 ((ii 0).trans eN) ((ii 1).trans eR) ((ii 2).trans eU) ((ii 16).trans eO) ((ii 17).trans eC) h4N hN8 hr hm8 hnm h6 (fun k hk => hC k (n2 k hk)) n1 (by omega) sr e36 cap (fun h' xb t1 t2 t3 => ⟨rfl, (xa.tr xb).mono (fun r i q => by omega) (fun r q => q.elim (fun q => q.elim) id), t1, t2, t3⟩)
end MK5
