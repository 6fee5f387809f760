section GATH
variable {g : gcT} {P : pmT} {o o' w w' : Nat → Nat} {y : Nat → Nat} {R R2 : arT} {h h' : hpT} {i t : Nat} {ss : List Nat} {Ls : List lsT} {Ds : List (Nat × Nat)} {S : stA} {ps : psT}
theorem mvN_len (ps : psT) (A : alT) : ∀ n, (mvN ps A n).length ≤ n := by
  intro n
  induction n with
  | zero => exact Nat.le_refl _
  | succ n ih =>
    unfold mvN at ih ⊢
    rw [fm_1, List.length_append]
    split
    · show _ + 0 ≤ _; omega
    · show _ + 1 ≤ _; omega
theorem mvO_len (ps : psT) (t : Nat) : ∀ n, (mvO ps t n).length ≤ n := by
  intro n
  induction n with
  | zero => exact Nat.le_refl _
  | succ n ih =>
    unfold mvO at ih ⊢
    rw [fm_1, List.length_append]
    cases ps.2.2.1 (t * 8 + n) with
    | none => show _ + 0 ≤ _; omega
    | some p => show _ + 1 ≤ _; omega
theorem mvR_len (ps : psT) (t : Nat) : ∀ n, (mvR ps t n).length ≤ n := by
  intro n
  induction n with
  | zero => exact Nat.le_refl _
  | succ n ih =>
    unfold mvR at ih ⊢
    rw [fm_1, List.length_append]
    have : (mvRf ps t n).length ≤ 1 := by
      unfold mvRf
      split
      · exact Nat.zero_le _
      · split
        · exact Nat.zero_le _
        · split
          · exact Nat.zero_le _
          · exact Nat.le_refl _
    omega
theorem m_gather {n6 n8 n240 : Nat} (h6 : n6 = 6) (h8 : n8 = 8) (h240 : n240 = 240) (hP6 : P 206 = cpyO) (kS : RS g h o w y R R2 ss Ls Ds S) (hi : i < y 20) (ht : t < 8) (kp : pstH h y R2 ps) : EvV g P 16 [va_rf (some (y 4)), va_rf (some (Ls.getD i ls0).1), .int (nI t)] h (fun h' => ∃ n, n ≤ n6 ∧ mvI g h o w y R R2 ss Ls Ds S ps n (mvN ps (sLg ((tSv S).getD i sr0)) n6 ++ mvO ps t n8 ++ mvR ps t n240) h') := by
  obtain ⟨k0, k1, k4, kse, kde⟩ := kS.kinds
  have wf := kS.1.1
  have hg := kS.1.2.1
  have ok := kS.1.2.2
  have kD := kS.2.2.2.2.2
  have n68 := kS.2.1.1.2.2.2.2.2
  obtain ⟨ms0, e2⟩ := kD.2.2.2.2.1.2.1
  have r196 := kD.2.2.2.2.1.1
  have hclr : EvV g P 199 [va_rf (hR h 196 (y 4))] h (fun h' => tLs g h' 6 (y 8) [] ∧ capO g h' (y 8) = capO g h (y 8) ∧ hR h' 1 (y 8) = hR h 1 (y 8) ∧ Ch (fun z => z = y 8 ∨ hR h 1 (y 8) = some z) 0 0 h h') := by rw [r196]; exact m_clear wf hg e2
  refine e_16 (s_16_0 (k3 := k4) (e5 := r196) (k6 := e2.1.1) (hc := hclr) (kk := fun h1 ⟨c1, c2, c3, c4⟩ => s_16_7 ?_))
  have cgc := cgL wf hg e2 kD.2.2.2.2.1.2.2 kD.1.2.1 c4 (fun _ _ => rfl) ok
  have ow8 : ownL h1 o (y 4) (y 8) := by
    have ow := kD.2.2.2.2.1.2.2
    refine ⟨ow.1, fun d hd kd => ?_⟩
    rw [c3] at hd
    rcases row28 hg e2 d hd with z | z
    · obtain ⟨⟨-, -, d', b3, b4⟩, -, -⟩ := e2
      rw [b3] at hd
      cases hd
      rcases b4 with ⟨b4, -⟩ | ⟨b4, -⟩
      · rw [b4, (c4.2.1 _ hg.2.2.2.2).1, hg.2.1] at kd
        exact absurd kd (by decide)
      · omega
    · exact ow.2 d hd z
  obtain ⟨q1, q2, q3⟩ := rsD.l8 wf hg n68 kD e2 c4 c1 cgc ow8
  obtain ⟨r1, r2, r3⟩ := RS.kp kS cgc q1
  have m0 : mvI g h o w y R R2 ss Ls Ds S ps 0 [] h1 := by
    refine ⟨o, _, _, [], r1, cgc, ?_, ?_, c1, fun q hq => absurd hq List.not_mem_nil, rfl⟩
    · have hx : fxC g h1 y = fxC g h y := by
        unfold fxC
        rw [r3, q3, c2]
      have := Cst.of (L0 := Ls) (L1 := Ls) (D0 := Ds) (D1 := Ds) (a := 0) (b := 0) cgc hx (Nat.le_refl _) (Nat.le_refl _)
      exact this
    · obtain ⟨⟨a1, a2, a3⟩, -, -, ⟨u1, u2, u3, u4⟩, -⟩ := kD
      obtain ⟨j1, -, -, -, -, -, j7, j8, j9, j10, j11, -⟩ := u2
      obtain ⟨z1, z2, z3, z4⟩ := kp
      have s7 := q2 (y 7) (by omega) (by omega) (by omega)
      have t1 := q2 R2.1 (by omega) (by omega) (by omega)
      have t4 := q2 R2.2.2.2.1 (by omega) (by omega) (by omega)
      have t5 := q2 R2.2.2.2.2 (by omega) (by omega) (by omega)
      exact ⟨by rw [(s7.2.1 709).1]; exact z1, fun i hi => by rw [(t1.2.2.2 i).1]; exact z2 i hi, fun j hj => by rw [(t4.2.2.2 j).2]; exact (z3 j hj).fr wf cgc, fun j hj => by rw [(t5.2.2.2 j).2]; exact (z4 j hj).fr wf cgc⟩
  have lenN := mvN_len ps (sLg ((tSv S).getD i sr0)) n6
  have lenO := mvO_len ps t n8
  -- the third loop
  have lp3 : ∀ h1, (∃ n, n ≤ n6 ∧ mvI g h o w y R R2 ss Ls Ds S ps n (mvN ps (sLg ((tSv S).getD i sr0)) n6 ++ mvO ps t n8) h1) → ∀ o4 : Option Value, Ev g P 16 106 [some (va_rf (some (y 4))), some (va_rf (some (Ls.getD i ls0).1)), some (.int (nI t)), some (.int 0), o4] [] h1 (fun h' r => r = none ∧ ∃ n, n ≤ n6 ∧ mvI g h o w y R R2 ss Ls Ds S ps n (mvN ps (sLg ((tSv S).getD i sr0)) n6 ++ mvO ps t n8 ++ mvR ps t n240) h') := by
    intro h1 hJ o4
    have lp := cnt_loop n240 (fun j h1 => ∃ n, n ≤ n6 ∧ mvI g h o w y R R2 ss Ls Ds S ps n (mvN ps (sLg ((tSv S).getD i sr0)) n6 ++ mvO ps t n8 ++ mvR ps t j) h1) (fun j h1 => ∀ o4 : Option Value, Ev g P 16 106 [some (va_rf (some (y 4))), some (va_rf (some (Ls.getD i ls0).1)), some (.int (nI t)), some (.int (nI j)), o4] [] h1 (fun h' r => r = none ∧ ∃ n, n ≤ n6 ∧ mvI g h o w y R R2 ss Ls Ds S ps n (mvN ps (sLg ((tSv S).getD i sr0)) n6 ++ mvO ps t n8 ++ mvR ps t n240) h')) ?_ ?_ h1 (by
      obtain ⟨n, n1, n2⟩ := hJ
      exact ⟨n, n1, by rw [show mvR ps t 0 = [] from rfl, List.append_nil]; exact n2⟩)
    · rw [nI_0] at lp; exact lp o4
    · intro j h2 hj ⟨n, n1, n2⟩ kn o4
      have n2' := n2
      obtain ⟨o2, cc, mm, ms, m1, m2, m3, m4, m5, m6, m7⟩ := n2'
      obtain ⟨k02, k12, k42, kse2, kde2⟩ := m1.kinds
      have kD2 := m1.2.2.2.2.2
      obtain ⟨u1, u2, u3, u4⟩ := kD2.2.2.2.1
      obtain ⟨j1, j2, j3, j4, j5, j6, j7, j8, j9, j10, j11, -⟩ := u2
      have ej : (nI j).toNatClampNeg = j := nI_clamp (by omega)
      have hv : vinD (nI j) (hN h2 R2.2.2.2.2) := by rw [j11.2]; exact vin_nI (by omega) (by omega)
      have hlen : (mvN ps (sLg ((tSv S).getD i sr0)) n6 ++ mvO ps t n8 ++ mvR ps t j).length ≤ 1000 := by
        have := mvR_len ps t j
        rw [List.length_append, List.length_append]
        omega
      have skip : mvRf ps t j = [] → ∀ r4, Ev g P 16 177 [some (va_rf (some (y 4))), some (va_rf (some (Ls.getD i ls0).1)), some (.int (nI t)), some (.int (nI j)), some (va_rf r4)] [] h2 (fun h' r => r = none ∧ ∃ n, n ≤ n6 ∧ mvI g h o w y R R2 ss Ls Ds S ps n (mvN ps (sLg ((tSv S).getD i sr0)) n6 ++ mvO ps t n8 ++ mvR ps t n240) h') := by
        intro e r4
        refine s_16_177 ?_
        rw [nI_1]
        refine kn h2 ⟨n, n1, ?_⟩ _
        have : mvR ps t (j + 1) = mvR ps t j := by
          unfold mvR
          rw [fm_1, e, List.append_nil]
        rw [this]; exact n2
      refine s_16_106 (k3 := k42) (e5 := u1) (k6 := j1) (e8 := j6) (k10 := j11.1) (kt := fun z => absurd z (by rw [j11.2]; exact nI_ge (by omega) (by omega))) (kf := fun _ => ?_)
      rcases m4.2.2.2 j (by omega) with ⟨b1, b2⟩ | ⟨q, p, b1, b2, b3, b4, b5, b6⟩
      · refine s_16_118 (k3 := k42) (e5 := u1) (k6 := j1) (e8 := j6) (k9 := j11.1) (i10 := hv) (kt := fun _ => skip (by unfold mvRf; rw [b2]) _) (kf := fun z => absurd (by rw [ej]; exact b1) z)
      · refine s_16_118 (k3 := k42) (e5 := u1) (k6 := j1) (e8 := j6) (k9 := j11.1) (i10 := hv) (kt := fun z => by rw [ej, b1] at z; cases z) (kf := fun _ => ?_)
        rw [ej, b1]
        have k7 := b3.1.1
        have eky : hI h2 390 q = pKy p := by rw [← b6]; rfl
        have ecl : hI h2 388 q = pCl p := by rw [← b6]; rfl
        have enu : hI h2 389 q = pNu p := by rw [← b6]; rfl
        have hcl : vinD (hI h2 388 q) 6 := b3.2.1 (by rw [b3.1.2.2.2, b5]; decide)
        refine s_16_134 (k3 := k7) (hc := m_tabletOf) (kk := fun h3 x ⟨e1, e2⟩ => ?_)
        subst e1; subst e2
        rw [eky]
        refine s_16_142 (kt := fun z => skip (by unfold mvRf; rw [b2]; dsimp only; rw [if_pos z]) _) (kf := fun z => ?_)
        have ea : hA h3 R2.1 (hI h3 388 q).toNatClampNeg = ps.2.1 (pCl p).toNatClampNeg := by
          rw [ecl] at hcl ⊢
          exact m4.2.1 _ (vin_lt hcl)
        refine s_16_146 (k3 := k7) (k6 := k42) (e8 := u1) (k9 := j1) (e11 := j2) (k12 := j7.1) (i13 := by rw [j7.2]; exact hcl) (kt := fun z2 => skip ?_ _) (kf := fun z2 => ?_)
        · rw [ea, enu] at z2
          unfold mvRf
          rw [b2]
          dsimp only
          rw [if_neg (not_not_intro z), if_pos z2]
        · rw [ea, enu] at z2
          have hgd : gdP h3 q := ⟨b3, b4, by rw [b5]; decide⟩
          have hadd := mvI.add (P := P) hP6 wf ok n2 hgd hlen
          have r196' := kD2.2.2.2.2.1.1
          rw [← r196'] at hadd
          refine s_16_167 (k3 := k42) (e5 := r196') (k6 := m5.1.1) (hc := hadd) (kk := fun h4 x hm => s_16_176 (s_16_177 ?_))
          rw [nI_1]
          refine kn h4 ⟨n, n1, ?_⟩ _
          have : mvR ps t (j + 1) = mvR ps t j ++ [pA h3 q] := by
            unfold mvR
            rw [fm_1]
            congr 1
            unfold mvRf
            rw [b2]
            dsimp only
            rw [if_neg (not_not_intro z), if_neg z2, b6]
          rw [this, ← List.append_assoc]
          exact hm
    · intro h2 hI2 o4
      have hI2' := hI2
      obtain ⟨n, n1, o2, cc, mm, ms, m1, m2, m3, m4, m5, m6, m7⟩ := hI2'
      obtain ⟨k02, k12, k42, kse2, kde2⟩ := m1.kinds
      have kD2 := m1.2.2.2.2.2
      obtain ⟨u1, u2, u3, u4⟩ := kD2.2.2.2.1
      obtain ⟨j1, j2, j3, j4, j5, j6, j7, j8, j9, j10, j11, -⟩ := u2
      exact s_16_106 (k3 := k42) (e5 := u1) (k6 := j1) (e8 := j6) (k10 := j11.1) (kt := fun _ => s_16_183 ⟨rfl, hI2⟩) (kf := fun z => absurd (by rw [j11.2]; exact nI_le (by omega) (by omega)) z)
  -- the second loop
  have lp2 : ∀ h1, (∃ n, n ≤ n6 ∧ mvI g h o w y R R2 ss Ls Ds S ps n (mvN ps (sLg ((tSv S).getD i sr0)) n6) h1) → ∀ o4 : Option Value, Ev g P 16 61 [some (va_rf (some (y 4))), some (va_rf (some (Ls.getD i ls0).1)), some (.int (nI t)), some (.int 0), o4] [] h1 (fun h' r => r = none ∧ ∃ n, n ≤ n6 ∧ mvI g h o w y R R2 ss Ls Ds S ps n (mvN ps (sLg ((tSv S).getD i sr0)) n6 ++ mvO ps t n8 ++ mvR ps t n240) h') := by
    intro h1 hJ o4
    have lp := cnt_loop n8 (fun j h1 => ∃ n, n ≤ n6 ∧ mvI g h o w y R R2 ss Ls Ds S ps n (mvN ps (sLg ((tSv S).getD i sr0)) n6 ++ mvO ps t j) h1) (fun j h1 => ∀ o4 : Option Value, Ev g P 16 61 [some (va_rf (some (y 4))), some (va_rf (some (Ls.getD i ls0).1)), some (.int (nI t)), some (.int (nI j)), o4] [] h1 (fun h' r => r = none ∧ ∃ n, n ≤ n6 ∧ mvI g h o w y R R2 ss Ls Ds S ps n (mvN ps (sLg ((tSv S).getD i sr0)) n6 ++ mvO ps t n8 ++ mvR ps t n240) h')) ?_ ?_ h1 (by
      obtain ⟨n, n1, n2⟩ := hJ
      exact ⟨n, n1, by rw [show mvO ps t 0 = [] from rfl, List.append_nil]; exact n2⟩)
    · rw [nI_0] at lp; exact lp o4
    · intro j h2 hj ⟨n, n1, n2⟩ kn o4
      have n2' := n2
      obtain ⟨o2, cc, mm, ms, m1, m2, m3, m4, m5, m6, m7⟩ := n2'
      obtain ⟨k02, k12, k42, kse2, kde2⟩ := m1.kinds
      have kD2 := m1.2.2.2.2.2
      obtain ⟨u1, u2, u3, u4⟩ := kD2.2.2.2.1
      obtain ⟨j1, j2, j3, j4, j5, j6, j7, j8, j9, j10, j11, -⟩ := u2
      have ex : (nI t * 8) + nI j = nI (t * 8 + j) := by rw [show (8 : Int32) = nI 8 from rfl, pk_mul, nI_ad]
      have ej : (nI (t * 8 + j)).toNatClampNeg = t * 8 + j := nI_clamp (by omega)
      have hv : vinD ((nI t * 8) + nI j) (hN h2 R2.2.2.2.1) := by rw [ex, j10.2]; exact vin_nI (by omega) (by omega)
      have hlen : (mvN ps (sLg ((tSv S).getD i sr0)) n6 ++ mvO ps t j).length ≤ 1000 := by
        have := mvO_len ps t j
        rw [List.length_append]
        omega
      refine s_16_61 (kt := fun z => ?_) (kf := fun _ => ?_)
      · rw [show (8 : Int32) = nI 8 from rfl, nI_le_iff (by omega) (by omega)] at z
        omega
      rcases m4.2.2.1 (t * 8 + j) (by omega) with ⟨b1, b2⟩ | ⟨q, p, b1, b2, b3, b4, b5, b6⟩
      · refine s_16_67 (k3 := k42) (e5 := u1) (k6 := j1) (e8 := j5) (k9 := j10.1) (i10 := hv) (kt := fun _ => s_16_98 ?_) (kf := fun z => absurd (by rw [ex, ej]; exact b1) z)
        rw [nI_1]
        refine kn h2 ⟨n, n1, ?_⟩ _
        have : mvO ps t (j + 1) = mvO ps t j := by
          unfold mvO
          rw [fm_1, b2]
          exact List.append_nil _
        rw [this]; exact n2
      · refine s_16_67 (k3 := k42) (e5 := u1) (k6 := j1) (e8 := j5) (k9 := j10.1) (i10 := hv) (kt := fun z => by rw [ex, ej, b1] at z; cases z) (kf := fun _ => ?_)
        rw [ex, ej, b1]
        have hgd : gdP h2 q := ⟨b3, b4, by rw [b5]; decide⟩
        have hadd := mvI.add (P := P) hP6 wf ok n2 hgd hlen
        have r196' := kD2.2.2.2.2.1.1
        rw [← r196'] at hadd
        refine s_16_88 (k3 := k42) (e5 := r196') (k6 := m5.1.1) (hc := hadd) (kk := fun h4 x hm => s_16_97 (s_16_98 ?_))
        rw [nI_1]
        refine kn h4 ⟨n, n1, ?_⟩ _
        have : mvO ps t (j + 1) = mvO ps t j ++ [pA h2 q] := by
          unfold mvO
          rw [fm_1, b2, b6]
          rfl
        rw [this, ← List.append_assoc]
        exact hm
    · intro h2 hI2 o4
      exact s_16_61 (kt := fun _ => s_16_104 (lp3 h2 hI2 _)) (kf := fun z => absurd (by rw [show (8 : Int32) = nI 8 from rfl, nI_le_iff (by omega) (by omega)]; omega) z)
  -- the first loop
  have lp := cnt_loop n6 (fun j h1 => ∃ n, n ≤ j ∧ mvI g h o w y R R2 ss Ls Ds S ps n (mvN ps (sLg ((tSv S).getD i sr0)) j) h1) (fun j h1 => ∀ o4 : Option Value, Ev g P 16 9 [some (va_rf (some (y 4))), some (va_rf (some (Ls.getD i ls0).1)), some (.int (nI t)), some (.int (nI j)), o4] [] h1 (fun h' r => r = none ∧ ∃ n, n ≤ n6 ∧ mvI g h o w y R R2 ss Ls Ds S ps n (mvN ps (sLg ((tSv S).getD i sr0)) n6 ++ mvO ps t n8 ++ mvR ps t n240) h')) ?_ ?_ h1 ⟨0, Nat.le_refl _, m0⟩
  · rw [nI_0] at lp; exact lp none
  · intro j h2 hj ⟨n, n1, n2⟩ kn o4
    have n2' := n2
    obtain ⟨o2, cc, mm, ms, m1, m2, m3, m4, m5, m6, m7⟩ := n2'
    obtain ⟨k02, k12, k42, kse2, kde2⟩ := m1.kinds
    have kD2 := m1.2.2.2.2.2
    obtain ⟨u1, u2, u3, u4⟩ := kD2.2.2.2.1
    obtain ⟨j1, j2, j3, j4, j5, j6, j7, j8, j9, j10, j11, -⟩ := u2
    have ej : (nI j).toNatClampNeg = j := nI_clamp (by omega)
    have hv : vinD (nI j) (hN h2 R2.1) := by rw [j7.2]; exact vin_nI (by omega) (by omega)
    refine s_16_9 (kt := fun z => ?_) (kf := fun _ => ?_)
    · rw [show (6 : Int32) = nI 6 from rfl, nI_le_iff (by omega) (by omega)] at z
      omega
    refine s_16_15 (k3 := k42) (e5 := u1) (k6 := j1) (e8 := j2) (k9 := j7.1) (i10 := hv) (k13 := (kse2 i hi).2.2.1) (hc := RS.ack m1 hi) (kk := fun h3 x ⟨e1, e2⟩ => ?_)
    subst e1; subst e2
    have ea : hA h3 R2.1 (nI j).toNatClampNeg = ps.2.1 j := by rw [ej]; exact m4.2.1 j (by omega)
    rw [ea]
    refine s_16_29 (kt := fun z => s_16_53 ?_) (kf := fun z => ?_)
    · rw [nI_1]
      refine kn h3 ⟨n, by omega, ?_⟩ _
      have : mvN ps (sLg ((tSv S).getD i sr0)) (j + 1) = mvN ps (sLg ((tSv S).getD i sr0)) j := by
        unfold mvN
        rw [fm_1, if_pos z, List.append_nil]
      rw [this]; exact n2
    · have hnt := m_note (g := g) (P := P) m1.1.1 (x := nI j) (y := hA h3 R2.1 (nI j).toNatClampNeg)
      refine s_16_32 (k3 := k42) (e5 := u1) (k6 := j1) (e8 := j2) (k9 := j7.1) (i10 := hv) (hc := hnt) (kk := fun h4 x ⟨e1, e2⟩ => ?_)
      subst e1
      rw [ea] at e2
      obtain ⟨v1, v2, v3⟩ := mvI.new wf ok n2 e2 rfl (vin_nI (by omega) (by omega))
      have r196' := kD2.2.2.2.2.1.1
      rw [r196']
      have hadd := mvI.add (P := P) hP6 wf ok v1 v2 (by have := mvN_len ps (sLg ((tSv S).getD i sr0)) j; omega)
      refine s_16_49 (k3 := (by obtain ⟨_, _, _, _, _, _, _, _, v5, _⟩ := v1; exact v5.1.1)) (hc := hadd) (kk := fun h5 x hm => s_16_52 (s_16_53 ?_))
      rw [nI_1]
      refine kn h5 ⟨n + 1, by omega, ?_⟩ _
      have : mvN ps (sLg ((tSv S).getD i sr0)) (j + 1) = mvN ps (sLg ((tSv S).getD i sr0)) j ++ [pA h4 (hS h3)] := by
        unfold mvN
        rw [fm_1, if_neg z, v3]
        rfl
      rw [this]
      exact hm
  · intro h2 hI2 o4
    exact s_16_9 (kt := fun _ => s_16_59 (lp2 h2 hI2 _)) (kf := fun z => absurd (by rw [show (6 : Int32) = nI 6 from rfl, nI_le_iff (by omega) (by omega)]; omega) z)
end GATH
