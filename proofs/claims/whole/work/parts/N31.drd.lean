/-! the two sides: a DEAD LOG that can be read, read by both -/
/-- a LOG's PARTS and HOLDERS as they must be -/
def PV0 (p : pT) : Prop := PK p ∧ RNp p ∧ ¬ pKd p = -1 ∧ (pKd p = 4 → pAc p ≤ pNu p)
def DI (D : alT) : Prop := (∀ p ∈ allP D, PV0 p) ∧ UQ (allP D) ∧ vr1 (allP D) ∧ ∀ u ∈ D.1, ¬ D.2.2 = some u.1 → ∀ w ∈ u.2.2.2, w.2 = u.2.2.1.length
def upH (up : Int32) (D : alT) : Prop := ∀ u ∈ D.1, ¬ mskL u.2.2.2 &&& up = 0
section DR
variable {T T' T2 : List slT} {x x' v : Int32} {A A' B D : alT} {st : Nat → Int32} {k e i j N U rep nm m c n up : Nat} {s s' : slT} {p : pT} {l rd : List pT} {ky : Int32} {hs : List (Nat × Nat)} {y : Nat → Nat} {S : stA} {μ : mT}
theorem ho_any (u : UPR st N up) (h8 : N ≤ 8) (g : ∀ w ∈ hs, w.1 < N) : mskL hs &&& nI up = 0 ↔ ∀ w ∈ hs, ¬ st w.1 = 0 := by
  obtain ⟨mk, k1, k2, k3⟩ := msk_N hs (fun w hw => Nat.lt_of_lt_of_le (g w hw) h8)
  have l := lt256 u.1 h8
  rw [k2, nI_and]
  have lt : mk &&& up < 256 := Nat.lt_of_le_of_lt Nat.and_le_left k1
  have e0 : nI (mk &&& up) = 0 ↔ mk &&& up = 0 := ⟨fun z => nI_inj (by omega) (by omega) (z.trans nI_0.symm), fun z => by rw [z]; rfl⟩
  rw [e0]
  constructor
  · intro z w hw h0
    have wN := g w hw
    have tb : (mk &&& up).testBit w.1 = false := by rw [z, Nat.zero_testBit]
    rw [Nat.testBit_and, (k3 w.1 (by omega)).mpr (List.mem_map_of_mem hw), (u.2 w.1 wN).mpr h0] at tb
    exact absurd tb (by decide)
  · intro z
    refine Nat.eq_of_testBit_eq (fun b => ?_)
    rw [Nat.zero_testBit, Nat.testBit_and]
    by_cases q : b < 8
    · cases e : mk.testBit b with
      | false => rfl
      | true =>
        obtain ⟨w, w1, w2⟩ := List.mem_map.mp ((k3 b q).mp e)
        have := z w w1
        rw [Bool.true_and]
        refine Bool.eq_false_iff.mpr (fun t => this ?_)
        rw [w2]
        exact (u.2 b (by rw [← w2]; exact g w w1)).mp t
    · rw [Nat.testBit_lt_two_pow (x := mk) (i := b) (Nat.lt_of_lt_of_le k1 (Nat.pow_le_pow_right (n := 2) (i := 8) (by decide) (by omega))), Bool.false_and]
/-- the dead LOG of place j, read by both -/
theorem dr_P (mr : MR y S μ) (hj : j < (tDe S).length) (di : DI ((tDe S).getD j d0A).1) (hu : upH (nI (upN (tSv S))) ((tDe S).getD j d0A).1) : LgR μ.1 (μ.2.1 57 j) ((tDe S).getD j d0A).1 ∧ (rdQ (μ.2.1 5) μ.1 (μ.2.1 57 j) ((tDe S).getD j d0A).1.2.2).Perm (rdP (nI (upN (tSv S))) ((tDe S).getD j d0A).1) := by
  have upr := mr.upr
  obtain ⟨⟨k0, -⟩, ⟨l1, l2, l3, l4⟩, -, ow, sv, de, dd, sp, lb⟩ := mr
  obtain ⟨⟨e, e1, e2⟩, d2, d3⟩ := de j hj
  have y8 := k0.1.2
  refine ⟨d3, rd_P d3 (fun w => ?_) upr y8 sp (fun s hs q z hz => ?_) (fun s hs => ?_)⟩
  · rw [e2, n16_I, show (16 : Int32) = nI 16 from rfl] at w
    exact absurd (nI_le (show 16 ≤ 16 + e by omega) (by omega)) (Int32.not_le.mpr w)
  · have := di.2.2.2 (agS s) (d3.mem hs) q z hz
    rw [this]
    exact endL_len _ _
  · have := hu (agS s) (d3.mem hs)
    have sps := sp s (fl_mem (F := []) hs).1
    rw [show (agS s).2.2.2 = lHo s from rfl, ho_any upr y8 sps.2.2.2.1.2.1] at this
    apply Decidable.byContradiction
    intro z
    exact this (fun w hw h0 => z ⟨w, hw, h0⟩)
theorem dr_d (di : DI D) {up : Int32} : (∀ p ∈ rdP up D, PK p) ∧ (∀ p ∈ rdP up D, RNp p) ∧ (∀ p ∈ rdP up D, ¬ pKd p = -1) ∧ UQ (rdP up D) ∧ vr1 (rdP up D) := by
  have sub := rd_sub (A := D) (up := up)
  exact ⟨fun p hp => (di.1 p (sub.subset hp)).1, fun p hp => (di.1 p (sub.subset hp)).2.1, fun p hp => (di.1 p (sub.subset hp)).2.2.1, List.Pairwise.sublist sub di.2.1, fun p hp => di.2.2.1 p (sub.subset hp)⟩
theorem DRD (mr : MR y S μ) (hj : j < (tDe S).length) (di : DI ((tDe S).getD j d0A).1) (hu : upH (nI (upN (tSv S))) ((tDe S).getD j d0A).1) : grM μ (μ.2.1 57 j) = (rcP S j).1 ∧ (∀ c, c < 6 → acM μ (μ.2.1 57 j) (nI c) = (rcP S j).2.1 c) ∧ (∀ k, k < 64 → (obM μ (μ.2.1 57 j) (nI k)).map (ptM μ) = (rcP S j).2.2.1 k) ∧ ∀ c n, c < 6 → 1 ≤ n → n ≤ 40 → (reM μ (μ.2.1 57 j) (nI c) (nI n)).map (ptM μ) = (rcP S j).2.2.2 (c * 40 + n - 1) := by
  obtain ⟨lr, pm⟩ := dr_P mr hj di hu
  obtain ⟨i1, i2, i3, i4, i5⟩ := dr_d (up := nI (upN (tSv S))) di
  have ho : HOl μ.1 := SP.ho mr.2.2.2.2.2.2.2.1
  have uq' := i4.perm pm.symm
  unfold rcP
  refine ⟨?_, fun c hc => ?_, fun k hk => ?_, fun c n hc h1 h40 => ?_⟩
  · rw [lr.gtG ho (fun p hp => i3 p (pm.mem_iff.mp hp)), ps_gr]
    exact pm.foldl_eq' (fun a _ b _ w => grG_c w a b) 0
  · rw [lr.acG ho, ps_ac i1 hc]
    exact ackA_perm pm
  · rw [lr.obG ho, ps_ob i1 i4 i5 hk]
    exact obS_perm uq' pm
  · rw [lr.reG ho, ps_re i2 i4 hc h1 h40]
    exact res_perm uq' pm
/-- whether it can be recovered -/
theorem can_R (mr : MR y S μ) (hj : j < (tDe S).length) : canA y S ((tDe S).getD j d0A).1 = !rcN y μ j := by
  have upr := mr.upr
  obtain ⟨⟨k0, -⟩, ⟨l1, l2, l3, l4⟩, -, ow, sv, de, dd, sp, lb⟩ := mr
  obtain ⟨⟨e, e1, e2⟩, d2, d3⟩ := de j hj
  obtain ⟨yo1, yo2, yo3, yo4⟩ := k0
  unfold canA rcN
  rw [Bool.not_or, upr.all yo1.2, nI_1]
  have ub : upB (μ.2.1 5) (y 20) (-1) ≤ 8 := by
    unfold upB
    rw [fo_cnt, Nat.zero_add]
    exact Nat.le_trans List.countP_le_length (by rw [List.length_range]; exact yo1.2)
  congr 1
  · rw [← decide_not]
    refine decide_eq_decide.mpr ?_
    rw [nI_leI (by omega) (by omega)]
    omega
  · have e3 : ((tDe S).getD j d0A).1.1.all (fun u => decide (¬ mskL u.2.2.2 &&& nI (upN (tSv S)) = 0)) = !μ.1.any (crP μ (μ.2.1 57 j)) := by
      rw [← d3.1.all_eq, List.all_map, Bool.eq_iff_iff, List.all_eq_true, Bool.not_eq_true', List.any_eq_false]
      constructor
      · intro h s hs z
        unfold crP at z
        rw [Bool.and_eq_true, decide_eq_true_eq, decide_eq_true_eq] at z
        have := h s (List.mem_filter.mpr ⟨hs, decide_eq_true z.1⟩)
        have this : ¬ mskL (lHo s) &&& nI (upN (tSv S)) = 0 := of_decide_eq_true this
        rw [ho_any upr yo1.2 (sp s hs).2.2.2.1.2.1] at this
        refine this (fun w hw h0 => ?_)
        have z2 := z.2
        rw [hoU_c, List.countP_eq_zero] at z2
        exact z2 w.1 (List.mem_map_of_mem hw) (decide_eq_true h0)
      · intro h s hs
        obtain ⟨t1, t2⟩ := fl_mem (F := []) hs
        have := h s t1
        refine decide_eq_true (fun z => this ?_)
        have z : mskL (lHo s) &&& nI (upN (tSv S)) = 0 := z
        rw [ho_any upr yo1.2 (sp s t1).2.2.2.1.2.1] at z
        unfold crP
        rw [Bool.and_eq_true, decide_eq_true_eq, decide_eq_true_eq]
        refine ⟨t2, ?_⟩
        rw [hoU_c, List.countP_eq_zero]
        intro v hv hd
        obtain ⟨w, w1, w2⟩ := List.mem_map.mp hv
        subst w2
        exact z w w1 (of_decide_eq_true hd)
    rw [e3]
    unfold crM
    cases μ.1.any (crP μ (μ.2.1 57 j)) <;> rfl
end DR
