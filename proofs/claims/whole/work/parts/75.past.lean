/-! the Survey of a DEAD LOG, without addresses -/
abbrev psT := Int32 × (Nat → Int32) × (Nat → Option pT) × (Nat → Option pT)
def lrnO (st : saT × (Nat → Option pT) × Int32) (p : pT) : saT × (Nat → Option pT) × Int32 := (lrnA st.1 p, (if kM (pKd p) = 0 then st.2.1 else if pVe p ≤ st.1.2.2 (pKy p).toNatClampNeg then st.2.1 else u1 st.2.1 (pKy p).toNatClampNeg (if pKd p = 2 then some p else none)), if pVe p ≤ st.2.2 then st.2.2 else pVe p)
def rIxA (p : pT) : Int32 := (pCl p * 40 + pNu p) - 1
def rsF (m : Nat → Option pT) (p : pT) : Nat → Option pT := if pKd p = 4 then u1 m (rIxA p).toNatClampNeg (some p) else m
def psA (rd : List pT) : psT := ((rd.foldl lrnO (b0A, fun _ => none, 0)).2.2, (rd.foldl lrnO (b0A, fun _ => none, 0)).1.1, (rd.foldl lrnO (b0A, fun _ => none, 0)).2.1, rd.foldl rsF (fun _ => none))
def rdG (up : Int32) (u : agT) : List pT := u.2.1.take (match u.2.2.2.foldl (mostF up) 0 with | 0 => 0 | m + 1 => u.2.2.1.getD m 0)
def rdP (up : Int32) (A : alT) : List pT := (A.1.map (rdG up)).flatten
/-- a PART in a row of the Survey -/
def oRl (h : hpT) (kd : Int32) (a : Option Nat) (b : Option pT) : Prop := (a = none ∧ b = none) ∨ ∃ q p, a = some q ∧ b = some p ∧ pOK h q ∧ lOK h q ∧ hI h 384 q = kd ∧ pA h q = p
def pstH (h : hpT) (y : Nat → Nat) (R2 : arT) (ps : psT) : Prop := hI h 709 (y 7) = ps.1 ∧ (∀ i, i < 6 → hA h R2.1 i = ps.2.1 i) ∧ (∀ k, k < 64 → oRl h 2 (hB h R2.2.2.2.1 k) (ps.2.2.1 k)) ∧ (∀ j, j < 240 → oRl h 4 (hB h R2.2.2.2.2 j) (ps.2.2.2 j))
theorem vin_eq {x : Int32} {n : Nat} (v : vinD x n) (hn : n < 2 ^ 31) : ∃ j, j < n ∧ x = nI j := by
  have h0 : ¬ x < 0 := fun z => v (Or.inl z)
  have h1 : ¬ nI n ≤ x := fun z => v (Or.inr (by
    have e := Int32.le_iff_toInt_le.mp z
    have e2 : (nI n).toInt = n := by
      have h2 : (nI n).toNatClampNeg = n := nI_clamp hn
      have h3 : ¬ (nI n) < 0 := nI_pos hn
      have h4 : ¬ (nI n).toInt < 0 := fun q => h3 (Int32.lt_iff_toInt_lt.mpr q)
      have h5 : (nI n).toInt.toNat = n := h2
      omega
    show n ≤ x.toInt.toNat
    omega))
  obtain ⟨j, hj, ej, -⟩ := pk_mu h0 h1 hn
  exact ⟨j, hj, ej⟩
section PAST
variable {g : gcT} {P : pmT} {o o' w w' : Nat → Nat} {y : Nat → Nat} {R R2 : arT} {h h' : hpT} {B : Nat → Prop} {i c m k : Nat} {ss : List Nat} {Ls : List lsT} {Ds : List (Nat × Nat)} {S : stA} {ps : psT} {ow : List Int32} {dd ff : Nat}
theorem oRl.fr {kd : Int32} {a : Option Nat} {b : Option pT} (wf : hWF h) (k : oRl h kd a b) (cg : CG B c m h o h' o') : oRl h' kd a b := by
  rcases k with k | ⟨q, p, k1, k2, k3, k4, k5, k6⟩
  · exact Or.inl k
  · have k7 := k3.1.1
    have sq := cg.smp k7 wf
    exact Or.inr ⟨q, p, k1, k2, k3.sm sq, lOK.cg wf k7 k4 cg, by rw [(sq.2.1 384).1]; exact k5, by rw [pA.cg wf k7 k4 cg]; exact k6⟩
theorem pstH.fr (wf : hWF h) (kd : rsD g h o y R2 Ds ow dd ff) (k : pstH h y R2 ps) (cg : CG B c m h o h' o') (nB : ¬ B (y 4)) : pstH h' y R2 ps := by
  obtain ⟨⟨a1, a2, a3⟩, -, -, ⟨d1, d2, d3, d4⟩, -⟩ := kd
  obtain ⟨j1, -, -, -, -, -, j7, j8, j9, j10, j11, -⟩ := d2
  obtain ⟨o1, o2, o3, o4, o5⟩ := d3
  have s7 := cg.sm wf (a := y 7) (by rw [d4, a2]; exact nB) (by omega)
  have r1 := cg.sm wf (a := R2.1) (by rw [o1, d4]; exact nB) (by omega)
  have r4 := cg.sm wf (a := R2.2.2.2.1) (by rw [o4, d4]; exact nB) (by omega)
  have r5 := cg.sm wf (a := R2.2.2.2.2) (by rw [o5, d4]; exact nB) (by omega)
  obtain ⟨k1, k2, k3, k4⟩ := k
  exact ⟨by rw [(s7.2.1 709).1]; exact k1, fun i hi => by rw [(r1.2.2.2 i).1]; exact k2 i hi, fun j hj => by rw [(r4.2.2.2 j).2]; exact (k3 j hj).fr wf cg, fun j hj => by rw [(r5.2.2.2 j).2]; exact (k4 j hj).fr wf cg⟩
/-- the class's Survey and that without addresses -/
def syR (h : hpT) (S : syT) (st : saT × (Nat → Option pT) × Int32) : Prop := saE (prj S) st.1 ∧ (∀ k, k < 64 → oRl h 2 (S.2.2.2.1 k) (st.2.1 k)) ∧ S.2.2.2.2 = st.2.2
theorem lrn_O {q : Nat} (k : pOK h q) (kl : lOK h q) {S : syT} {st : saT × (Nat → Option pT) × Int32} (e : syR h S st) : syR h (lrn h q S) (lrnO st (pA h q)) := by
  obtain ⟨e1, e2, e3⟩ := e
  have k0 := k
  obtain ⟨⟨-, -, km, kt⟩, k2, k3⟩ := k
  have f1 : (lr1 h q S).2.2.2.1 = S.2.2.2.1 ∧ (lr1 h q S).2.2.1 = S.2.2.1 ∧ (lr1 h q S).2.2.2.2 = if hI h 393 q ≤ S.2.2.2.2 then S.2.2.2.2 else hI h 393 q := by
    unfold lr1
    by_cases z : hI h 393 q ≤ S.2.2.2.2
    · rw [if_pos z, if_pos z]; exact ⟨rfl, rfl, rfl⟩
    · rw [if_neg z, if_neg z]; exact ⟨rfl, rfl, rfl⟩
  have f2 : ∀ T : syT, (lr2 h q T).2.2 = T.2.2 := by
    intro T
    unfold lr2
    split
    · rfl
    · split <;> rfl
  have f3 : ∀ T : syT, (lr3 h q T).2.2 = T.2.2 := by
    intro T
    unfold lr3
    split
    · rfl
    · split <;> rfl
  have f23 : (lr3 h q (lr2 h q (lr1 h q S))).2.2 = (lr1 h q S).2.2 := by rw [f3, f2]
  refine ⟨lrn_A k0 e1, ?_, ?_⟩
  · show ∀ k, k < 64 → oRl h 2 ((lr4 h q (lr3 h q (lr2 h q (lr1 h q S)))).2.2.2.1 k) ((if kM (pKd (pA h q)) = 0 then st.2.1 else if pVe (pA h q) ≤ st.1.2.2 (pKy (pA h q)).toNatClampNeg then st.2.1 else u1 st.2.1 (pKy (pA h q)).toNatClampNeg (if pKd (pA h q) = 2 then some (pA h q) else none)) k)
    generalize lr3 h q (lr2 h q (lr1 h q S)) = T at f23
    have g1 : T.2.2.2.1 = S.2.2.2.1 := by rw [f23]; exact f1.1
    have g2 : T.2.2.1 = S.2.2.1 := by rw [f23]; exact f1.2.1
    unfold lr4
    by_cases c1 : hI h 386 q = 0
    · rw [if_pos c1, if_pos (show kM (pKd (pA h q)) = 0 from km.symm.trans c1), g1]; exact e2
    · have hc := vin_lt (k3 c1)
      rw [if_neg c1, if_neg (show ¬ kM (pKd (pA h q)) = 0 from fun z => c1 (km.trans z))]
      have ev : T.2.2.1 (hI h 390 q).toNatClampNeg = st.1.2.2 (hI h 390 q).toNatClampNeg := by rw [g2]; exact e1.2 _ hc
      by_cases c2 : hI h 393 q ≤ T.2.2.1 (hI h 390 q).toNatClampNeg
      · rw [if_pos c2, if_pos (show pVe (pA h q) ≤ st.1.2.2 (pKy (pA h q)).toNatClampNeg from by show hI h 393 q ≤ st.1.2.2 (hI h 390 q).toNatClampNeg; rw [← ev]; exact c2), g1]; exact e2
      · rw [if_neg c2, if_neg (show ¬ pVe (pA h q) ≤ st.1.2.2 (pKy (pA h q)).toNatClampNeg from by show ¬ hI h 393 q ≤ st.1.2.2 (hI h 390 q).toNatClampNeg; rw [← ev]; exact c2)]
        intro k hk
        show oRl h 2 (if k = (hI h 390 q).toNatClampNeg then (if hI h 384 q = 2 then some q else none) else T.2.2.2.1 k) (if k = (hI h 390 q).toNatClampNeg then (if hI h 384 q = 2 then some (pA h q) else none) else st.2.1 k)
        by_cases ck : k = (hI h 390 q).toNatClampNeg
        · rw [if_pos ck, if_pos ck]
          by_cases c3 : hI h 384 q = 2
          · rw [if_pos c3, if_pos c3]; exact Or.inr ⟨q, _, rfl, rfl, k0, kl, c3, rfl⟩
          · rw [if_neg c3, if_neg c3]; exact Or.inl ⟨rfl, rfl⟩
        · rw [if_neg ck, if_neg ck, g1]; exact e2 k hk
  · show (lr4 h q (lr3 h q (lr2 h q (lr1 h q S)))).2.2.2.2 = if hI h 393 q ≤ st.2.2 then st.2.2 else hI h 393 q
    have g4 : ∀ T : syT, (lr4 h q T).2.2.2.2 = T.2.2.2.2 := by
      intro T
      unfold lr4
      split
      · rfl
      · split <;> rfl
    rw [g4, f23, f1.2.2, e3]
theorem lrn_Os : ∀ (l : List Nat) (S : syT) (st : saT × (Nat → Option pT) × Int32), (∀ q ∈ l, pOK h q ∧ lOK h q) → syR h S st → syR h (l.foldl (fun S q => lrn h q S) S) ((l.map (pA h)).foldl lrnO st) := by
  intro l
  induction l with
  | nil => intro S st _ e; exact e
  | cons q l ih =>
    intro S st hq e
    rw [List.foldl_cons, List.map_cons, List.foldl_cons]
    exact ih _ _ (fun x hx => hq x (List.mem_cons_of_mem _ hx)) (lrn_O (hq q List.mem_cons_self).1 (hq q List.mem_cons_self).2 e)
theorem res_Os : ∀ (l : List Nat) (m : Nat → Option Nat) (m' : Nat → Option pT), (∀ q ∈ l, pOK h q ∧ lOK h q) → (∀ j, j < 240 → oRl h 4 (m j) (m' j)) → ∀ j, j < 240 → oRl h 4 (l.foldl (resF h) m j) ((l.map (pA h)).foldl rsF m' j) := by
  intro l
  induction l with
  | nil => intro m m' _ e; exact e
  | cons q l ih =>
    intro m m' hq e
    rw [List.foldl_cons, List.map_cons, List.foldl_cons]
    refine ih _ _ (fun x hx => hq x (List.mem_cons_of_mem _ hx)) ?_
    intro j hj
    unfold resF rsF
    by_cases c : hI h 384 q = 4
    · rw [if_pos c, if_pos (show pKd (pA h q) = 4 from c)]
      show oRl h 4 (if j = (rIx h q).toNatClampNeg then some q else m j) (if j = (rIx h q).toNatClampNeg then some (pA h q) else m' j)
      by_cases cj : j = (rIx h q).toNatClampNeg
      · rw [if_pos cj, if_pos cj]; exact Or.inr ⟨q, _, rfl, rfl, (hq q List.mem_cons_self).1, (hq q List.mem_cons_self).2, c, rfl⟩
      · rw [if_neg cj, if_neg cj]; exact e j hj
    · rw [if_neg c, if_neg (show ¬ pKd (pA h q) = 4 from c)]; exact e j hj
theorem rd_map {zs : List svT} (up : Int32) : (rdL up zs).map (pA h) = ((zs.map (aG h)).map (rdG up)).flatten := by
  unfold rdL
  rw [List.map_flatten, List.map_map, List.map_map]
  refine congrArg List.flatten (List.map_congr_left (fun z _ => ?_))
  show ((zPs z).take (rdN up z)).map (pA h) = ((zPs z).map (pA h)).take (rdN up z)
  rw [List.map_take]
/-- readDead of the DEAD LOG j -/
theorem RS.read {j : Nat} (kS : RS g h o w y R R2 ss Ls Ds S) (hj : j < Ds.length) (hI1 : I1 (y 20) ((tDe S).getD j (([], none, none), 0)).1) : EvV g P 61 [va_rf (some (y 7)), va_rf (some (Ds.getD j (0, 0)).1), .int (nI (upN (tSv S)))] h (fun h' => RS g h' o w y R R2 ss Ls Ds S ∧ CG (fun z => z = y 4) 0 0 h o h' o ∧ fxC g h' y = fxC g h y ∧ pstH h' y R2 (psA (rdP (nI (upN (tSv S))) ((tDe S).getD j (([], none, none), 0)).1))) := by
  obtain ⟨k0, k1, k4, kse, kde⟩ := kS.kinds
  have kS' := kS
  obtain ⟨⟨wf, hg, ok⟩, ⟨yo, hnm, k9, k12⟩, kA, kB, kC, kD⟩ := kS'
  obtain ⟨⟨zs, kl, hd, lt, ea⟩, -⟩ := (kC.2.2 j hj).1
  have kD' := kD
  obtain ⟨⟨a1, a2, a3⟩, b, ⟨c1, c2, c3⟩, ⟨d1, d2, d3, d4⟩, ⟨e1, ⟨ms, e2⟩, e3⟩, f1, f2⟩ := kD'
  have sep := kl.1.sep d2 d3
  have kzq := kl.1.1.2.choose_spec.2.2
  have hr : ∀ z ∈ zs, ∀ q ∈ zPs z, rOK h q := by
    intro z hz q hq e4
    obtain ⟨n, n1, n2, n3⟩ := (hI1 (aG h z) (by rw [← ea]; exact List.mem_map_of_mem hz)).2 (pA h q) (List.mem_map_of_mem hq) e4
    have n3 : hI h 389 q = nI n := n3
    have hp := ((kzq z hz).2 q hq).1
    have h387 : ¬ hI h 387 q = 0 := by rw [hp.1.2.2.2, e4]; decide
    have hv := hp.2.1 h387
    obtain ⟨u, hu, eu⟩ := vin_eq hv (by decide)
    have : rIx h q = nI (u * 40 + n - 1) := by
      unfold rIx
      rw [n3, eu, show (40 : Int32) = nI 40 from rfl, pk_mul, nI_ad, show (1 : Int32) = nI 1 from rfl, nI_sb (by omega)]
    rw [this]
    exact vin_nI (by omega) (by decide)
  refine Ev.imp (m_readDead wf d2 kl.1.1 sep.1 sep.2 hr) (fun h' r ⟨er, Sy, mr, bS, bm, q1, q2, q3, q4, q5⟩ => ⟨er, ?_⟩)
  have d2' := d2
  obtain ⟨j1, -, -, -, -, -, j7, j8, j9, j10, j11, -⟩ := d2'
  have d3' := d3
  obtain ⟨o1, o2, o3, o4, o5⟩ := d3'
  have cg : CG (fun z => z = y 4) 0 0 h o h' o := by
    refine CG.of0 q4 ok (fun z _ hz => ?_) (nm9 wf q4 (fun z hz => ?_))
    · rcases hz with (q | q | q | q | q) | q
      · rw [q]; exact ⟨by omega, Or.inr (by rw [d4]; exact a2)⟩
      · rw [q]; exact ⟨by omega, Or.inr (by rw [o1]; exact d4)⟩
      · rw [q]; exact ⟨by omega, Or.inr (by rw [o2]; exact d4)⟩
      · rw [q]; exact ⟨by omega, Or.inr (by rw [o3]; exact d4)⟩
      · rw [q]; exact ⟨by omega, Or.inr (by rw [o4]; exact d4)⟩
      · rw [q]; exact ⟨by omega, Or.inr (by rw [o5]; exact d4)⟩
    · rcases hz with (q | q | q | q | q) | q <;> (rw [q]; omega)
  have no : ∀ z, ¬ hK h z = 0 → (hK h z = 4 ∨ hK h z = 1 ∨ hK h z = 28) → Sm h h' z := by
    intro z z0 hz
    refine q4.sm ?_ (wf.lt z0)
    rintro ((q | q | q | q | q) | q) <;> (rw [q] at hz; omega)
  have s4 := no (y 4) (by omega) (by omega)
  have k6 := c2.1.1
  have k8 := e2.1.1
  have s6 := no (y 6) (by omega) (by omega)
  have s8 := no (y 8) (by omega) (by omega)
  have kd' : rsD g h' o y R2 Ds (tOw S) (tDs S) (tFo S) := by
    obtain ⟨b1, b2, b3, b4, b5, b6⟩ := b
    have s5 : Sm h h' (y 5) := by
      refine q4.sm ?_ (wf.lt (by omega))
      rintro ((q | q | q | q | q) | q)
      · rw [q] at b2; omega
      · rw [q, o1] at b4; rw [b4, a1] at j1; exact absurd j1 (by decide)
      · rw [q] at b2; omega
      · rw [q, o3] at b4; rw [b4, a1] at j1; exact absurd j1 (by decide)
      · rw [q] at b2; omega
      · rw [q] at b2; omega
    refine ⟨⟨by rw [s4.1]; exact a1, a2, by rw [q5]; exact a3⟩, ⟨by rw [q5]; exact b1, by rw [s5.1]; exact b2, by rw [s5.2.2.1]; exact b3, b4, b5, fun i hi => by rw [(s5.2.2.2 i).1]; exact b6 i hi⟩, ⟨by rw [q5]; exact c1, c2.fr wf q4 s6 (fun d _ kd => no d (by omega) (by omega)), ownL.fr wf hg c2 c3 cg s6⟩, ⟨by rw [q5]; exact d1, q1, d3, d4⟩, ⟨by rw [q5]; exact e1, ⟨ms, e2.fr wf q4 s8 (fun d _ kd => no d (by omega) (by omega))⟩, ownL.fr wf hg e2 e3 cg s8⟩, by rw [(s4.2.1 197).1]; exact f1, by rw [(s4.2.1 198).1]; exact f2⟩
  obtain ⟨r1, r2, r3⟩ := RS.kp kS cg kd'
  have hqs : ∀ q ∈ rdL (nI (upN (tSv S))) zs, pOK h q ∧ lOK h q := by
    intro q hq
    unfold rdL at hq
    obtain ⟨l, hl, hql⟩ := List.mem_flatten.mp hq
    obtain ⟨z, hz, ez⟩ := List.mem_map.mp hl
    rw [← ez] at hql
    exact (kzq z hz).2 q (List.mem_of_mem_take hql)
  have sR : syR h ((rdL (nI (upN (tSv S))) zs).foldl (fun S q => lrn h q S) Sy) (((rdL (nI (upN (tSv S))) zs).map (pA h)).foldl lrnO (b0A, fun _ => none, 0)) := lrn_Os _ _ _ hqs ⟨⟨fun i hi => bS.1 i hi, fun i hi => (bS.2.1 i hi).1⟩, fun k hk => Or.inl ⟨(bS.2.1 k hk).2, rfl⟩, bS.2.2⟩
  have rR := res_Os (h := h) (rdL (nI (upN (tSv S))) zs) mr (fun _ => none) hqs (fun j hj => Or.inl ⟨bm j hj, rfl⟩)
  have erd : (rdL (nI (upN (tSv S))) zs).map (pA h) = rdP (nI (upN (tSv S))) ((tDe S).getD j (([], none, none), 0)).1 := by
    rw [rd_map, ea]
    rfl
  rw [erd] at sR rR
  refine ⟨r1, cg, ?_, ?_⟩
  · unfold fxC
    rw [r3, capO.fr wf c2 q4 s6, capO.fr wf e2 q4 s8]
  · have q2' := q2
    unfold syOf at q2'
    generalize (rdL (nI (upN (tSv S))) zs).foldl (fun S q => lrn h q S) Sy = S9 at sR q2'
    have z1 : hA h' R2.1 = S9.1 := congrArg (fun s : syT => s.1) q2'
    have z4 : hB h' R2.2.2.2.1 = S9.2.2.2.1 := congrArg (fun s : syT => s.2.2.2.1) q2'
    have z5 : hI h' 709 (y 7) = S9.2.2.2.2 := congrArg (fun s : syT => s.2.2.2.2) q2'
    refine ⟨by rw [z5]; exact sR.2.2, fun i hi => by rw [z1]; exact (sR.1.1 i hi).1, fun k hk => ?_, fun k hk => ?_⟩
    · rw [z4]
      exact (sR.2.1 k hk).fr wf cg
    · rw [q3]
      exact (rR k hk).fr wf cg
end PAST
