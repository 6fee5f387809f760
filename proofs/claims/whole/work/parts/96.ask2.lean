/-! server, segment, peek, count -/
def srqA (y : Nat → Nat) (F : fcT) (x k : Int32) : Int32 := if inF x (nI (y 20)) = 0 then -1 else
  if k = 0 then sSt ((tSv (fSt F)).getD x.toNatClampNeg sr0)
  else if k = 1 then (if sFe ((tSv (fSt F)).getD x.toNatClampNeg sr0) = 0 then 0 else 1)
  else if k = 2 then bcX (sTb ((tSv (fSt F)).getD x.toNatClampNeg sr0))
  else if k = 3 then sSf ((tSv (fSt F)).getD x.toNatClampNeg sr0)
  else if k = 4 then nI (sLg ((tSv (fSt F)).getD x.toNatClampNeg sr0)).1.length
  else if k = 5 ∨ k = 6 ∨ k = 7 then untA (y 22) (sLg ((tSv (fSt F)).getD x.toNatClampNeg sr0)).1 k
  else if k = 8 then cpsS (y 20) (fSt F) x
  else if k = 9 then sCu ((tSv (fSt F)).getD x.toNatClampNeg sr0)
  else if k = 10 then sMi ((tSv (fSt F)).getD x.toNatClampNeg sr0)
  else if k = 11 then (match (sLg ((tSv (fSt F)).getD x.toNatClampNeg sr0)).2.1 with
    | none => -1
    | some n => nI n)
  else -1
def sgqA (y : Nat → Nat) (F : fcT) (x k q : Int32) : Int32 := if inF x (nI (y 20)) = 0 then -1 else if inF k (nI (sLg ((tSv (fSt F)).getD x.toNatClampNeg sr0)).1.length) = 0 then -1 else
  if q = 0 then nI ((sLg ((tSv (fSt F)).getD x.toNatClampNeg sr0)).1.getD k.toNatClampNeg (0, [], [], [])).1
  else if q = 1 then nI ((sLg ((tSv (fSt F)).getD x.toNatClampNeg sr0)).1.getD k.toNatClampNeg (0, [], [], [])).2.2.1.length
  else if q = 2 then unsA ((sLg ((tSv (fSt F)).getD x.toNatClampNeg sr0)).1.getD k.toNatClampNeg (0, [], [], [])).2.1
  else if q = 3 then lvU (sLg ((tSv (fSt F)).getD x.toNatClampNeg sr0)).1 k.toNatClampNeg
  else if q = 4 then nI ((sLg ((tSv (fSt F)).getD x.toNatClampNeg sr0)).1.getD k.toNatClampNeg (0, [], [], [])).2.2.2.length
  else if q = 5 then bcX (mskL ((sLg ((tSv (fSt F)).getD x.toNatClampNeg sr0)).1.getD k.toNatClampNeg (0, [], [], [])).2.2.2 &&& nI (upN (tSv (fSt F))))
  else -1
def pekA (y : Nat → Nat) (F : fcT) (x k q : Int32) : Int32 := if inF x (nI (y 20)) = 0 ∨ inF k 64 = 0 ∨ q < 0 ∨ ¬ q ≤ 1 then -1 else if q = 0 then (match objA k (sLg ((tSv (fSt F)).getD x.toNatClampNeg sr0)).1 with
  | none => -1
  | some p => pVa p) else (match objA k (sLg ((tSv (fSt F)).getD x.toNatClampNeg sr0)).1 with
  | none => 0
  | some p => pVe p)
def netN (nt : Nat → Option msT) : Int32 := (List.range 40).foldl (fun t i => if (nt i).isNone = true then t else t + 1) 0
def cntA (F : fcT) (k : Int32) : Int32 :=
  if k = 0 then nI (fCk F) else if k = 1 then netN (fNt F) else if k = 2 then nI (tNm (fSt F)) else if k = 3 then tCl (fSt F)
  else if k = 4 then nI (tDe (fSt F)).length else if k = 5 then tabA (tOw (fSt F)) (-1) else if k = 6 then nI (tDs (fSt F)) else if k = 7 then tAp (fSt F)
  else if k = 8 then nI (tFo (fSt F)) else if k = 9 then (if tAw (fSt F) = 0 then 0 else 1) else if k = 10 then tMe (fSt F) else if k = 11 then nI (fEf F) else -1
theorem tI_no {x : Int32} {lo hi : Int} (h : x.toInt < lo ∨ hi < x.toInt) {k : Int32} (hk : lo ≤ k.toInt ∧ k.toInt ≤ hi) : ¬ x = k := fun e => by rw [e] at h; omega
section ASK
variable {g : gcT} {P : pmT} {o o' w w' : Nat → Nat} {y : Nat → Nat} {R R2 : arT} {h h' h1 h2 : hpT} {B : Nat → Prop} {i j t c m n p q e N U L nx : Nat} {ss : List Nat} {Ls L1 : List lsT} {Ds D1 : List (Nat × Nat)} {S S' : stA} {cs : csT} {F F' : fcT} {x1 x2 x3 st : Int32} {zs : List svT}
theorem StpF.bk (kS : RS g h o w y R R2 ss Ls Ds (fSt F)) (kF : fcR h o y ss cs F) (q1 : RS g h' o w y R R2 ss Ls Ds (fSt F)) (q2 : CG (Bk y) 0 0 h o h' o) (q3 : fxC g h' y = fxC g h y) : StpF g h o y R R2 ss Ls Ds 0 0 F h' := ⟨o, w, Ls, Ds, cs, 0, 0, q1, fcR.fr kS.1.1 kS.2.1.2.2.1 kF q2 (fun q => q.1 rfl), q2.mono kS.1.2.2 (fun _ _ q => q.2.1) (Nat.le_refl _) (Nat.le_refl _), Cst.of q2 q3 (Nat.le_refl _) (Nat.le_refl _)⟩
theorem m_server_q (kS : RS g h o w y R R2 ss Ls Ds (fSt F)) (kF : fcR h o y ss cs F) : EvI g P 79 [va_rf (some (y 9)), .int x1, .int x2] h (fun h' z => z = srqA y F x1 x2 ∧ StpF g h o y R R2 ss Ls Ds 0 0 F h') := by
  obtain ⟨k0, k1, k4, kse, kde⟩ := kS.kinds
  have k9 := kS.2.1.2.2.1
  obtain ⟨⟨a1, a2, a3⟩, -⟩ := kF.1
  obtain ⟨⟨xs, st⟩, -⟩ := kS.2.2.1
  have e643 : hR h 643 (y 0) = some (y 1) := st.1.2.1
  have rf0 := StpF.rf kS kF
  refine e_79 (s_79_0 (k3 := k9) (hc := m_isSrv kS kF.1) (kk := fun h2 z ⟨e1, e2⟩ => ?_))
  subst e1; subst e2
  refine s_79_5 (kt := fun z => ?_) (kf := fun z => s_79_8 ⟨_, rfl, (if_pos z).symm, rf0⟩)
  obtain ⟨i, hi, ei, ec, hv, hB⟩ := kS.at z
  obtain ⟨⟨b1, b2, b3⟩, ⟨c1, c2, c3, c4, c5, c6, c7⟩, dd, f0, ⟨f1, f2⟩, -⟩ := kS.2.2.2.1.2.2 i hi
  unfold srqA
  rw [if_neg z, ec]
  obtain ⟨zs, kl, hd, lt, ea⟩ := f1.1
  obtain ⟨jc1, jc2, l, jc3, jc4, hsz, hgt⟩ := kl.1.1.calls (P := P)
  have lz : zs.length = (sLg ((tSv (fSt F)).getD i sr0)).1.length := by rw [← ea, List.length_map]
  have unt : ∀ k : Int32, x2 = k → k = 5 ∨ k = 6 ∨ k = 7 → Ev g P 79 126 [some (va_rf (some (y 9))), some (.int x1), some (.int x2), some (va_rf (some (ss.getD i 0)))] [] h2 (fun h' z => ∃ x, z = some (.int x) ∧ x = untA (y 22) (sLg ((tSv (fSt F)).getD i sr0)).1 x2 ∧ StpF g h2 o y R R2 ss Ls Ds 0 0 F h') := by
    intro k _ _
    have hun := m_units (P := P) (x2 := x2) kS kF.1 hi
    rw [← f0] at hun
    exact s_79_126 (k3 := b1) (k6 := k9) (hc := hun) (kk := fun h3 x ⟨e1, q1, q2, q3⟩ => s_79_135 ⟨_, rfl, e1, StpF.bk kS kF q1 q2 q3⟩)
  have n2 : ∀ {a b : Int32}, x2 = a → ¬ a = b → ¬ x2 = b := fun h1 h2 h3 => h2 (h1.symm.trans h3)
  refine s_79_10 (k3 := k9) (e5 := a2) (k6 := k0) (e8 := e643) (k9 := k1) (i10 := hv) (k1000 := fun q => ?_) (k1001 := fun q => ?_) (k1002 := fun q => ?_) (k1003 := fun q => ?_) (k1004 := fun q => ?_) (k1005 := fun q => ?_) (k1006 := fun q => ?_) (k1007 := fun q => ?_) (k1008 := fun q => ?_) (k1009 := fun q => ?_) (k1010 := fun q => ?_) (k1011 := fun q => ?_) (kd := fun q => ?_)
  all_goals rw [hB]
  · rw [if_pos q]
    exact s_79_84 (k3 := b1) (hq := ⟨_, rfl, c1, rf0⟩)
  · rw [if_neg (n2 q (by decide)), if_pos q]
    refine s_79_89 (k3 := b1) (kt := fun z => s_79_100 (s_79_101 ⟨_, rfl, ?_, rf0⟩)) (kf := fun z => s_79_96 (s_79_101 ⟨_, rfl, ?_, rf0⟩))
    · rw [c2] at z; rw [if_pos z]
    · rw [c2] at z; rw [if_neg z]
  · rw [if_neg (n2 q (by decide)), if_neg (n2 q (by decide)), if_pos q]
    refine s_79_102 (k3 := b1) (hc := m_bitCount) (kk := fun h3 x ⟨e1, e2⟩ => s_79_109 ⟨_, rfl, by rw [e2, c4], by rw [e1]; exact rf0⟩)
  · rw [if_neg (n2 q (by decide)), if_neg (n2 q (by decide)), if_neg (n2 q (by decide)), if_pos q]
    exact s_79_110 (k3 := b1) (hq := ⟨_, rfl, c5, rf0⟩)
  · rw [if_neg (n2 q (by decide)), if_neg (n2 q (by decide)), if_neg (n2 q (by decide)), if_neg (n2 q (by decide)), if_pos q]
    exact s_79_115 (k3 := b1) (e5 := f0) (k6 := jc1) (e8 := jc3) (k9 := jc4) (hc := hsz) (kk := fun h3 x ⟨e1, e2⟩ => s_79_125 ⟨_, rfl, by rw [e2, lz], by rw [e1]; exact rf0⟩)
  · rw [if_neg (n2 q (by decide)), if_neg (n2 q (by decide)), if_neg (n2 q (by decide)), if_neg (n2 q (by decide)), if_neg (n2 q (by decide)), if_pos (Or.inl q)]
    exact unt 5 q (Or.inl rfl)
  · rw [if_neg (n2 q (by decide)), if_neg (n2 q (by decide)), if_neg (n2 q (by decide)), if_neg (n2 q (by decide)), if_neg (n2 q (by decide)), if_pos (Or.inr (Or.inl q))]
    exact unt 6 q (Or.inr (Or.inl rfl))
  · rw [if_neg (n2 q (by decide)), if_neg (n2 q (by decide)), if_neg (n2 q (by decide)), if_neg (n2 q (by decide)), if_neg (n2 q (by decide)), if_pos (Or.inr (Or.inr q))]
    exact unt 7 q (Or.inr (Or.inr rfl))
  · have n567 : ¬ (x2 = 5 ∨ x2 = 6 ∨ x2 = 7) := by
      rintro (z | z | z)
      · exact n2 q (by decide) z
      · exact n2 q (by decide) z
      · exact n2 q (by decide) z
    rw [if_neg (n2 q (by decide)), if_neg (n2 q (by decide)), if_neg (n2 q (by decide)), if_neg (n2 q (by decide)), if_neg (n2 q (by decide)), if_neg n567, if_pos q]
    have hcp := RS.cps (P := P) (s := x1) kS
    rw [← a3] at hcp
    exact s_79_136 (k3 := k9) (e5 := a3) (k6 := k4) (hc := hcp) (kk := fun h3 x ⟨e1, e2⟩ => s_79_144 ⟨_, rfl, e2, by rw [e1]; exact rf0⟩)
  · have n567 : ¬ (x2 = 5 ∨ x2 = 6 ∨ x2 = 7) := by
      rintro (z | z | z)
      · exact n2 q (by decide) z
      · exact n2 q (by decide) z
      · exact n2 q (by decide) z
    rw [if_neg (n2 q (by decide)), if_neg (n2 q (by decide)), if_neg (n2 q (by decide)), if_neg (n2 q (by decide)), if_neg (n2 q (by decide)), if_neg n567, if_neg (n2 q (by decide)), if_pos q]
    exact s_79_145 (k3 := b1) (hq := ⟨_, rfl, c6, rf0⟩)
  · have n567 : ¬ (x2 = 5 ∨ x2 = 6 ∨ x2 = 7) := by
      rintro (z | z | z)
      · exact n2 q (by decide) z
      · exact n2 q (by decide) z
      · exact n2 q (by decide) z
    rw [if_neg (n2 q (by decide)), if_neg (n2 q (by decide)), if_neg (n2 q (by decide)), if_neg (n2 q (by decide)), if_neg (n2 q (by decide)), if_neg n567, if_neg (n2 q (by decide)), if_neg (n2 q (by decide)), if_pos q]
    exact s_79_150 (k3 := b1) (hq := ⟨_, rfl, c7, rf0⟩)
  · have n567 : ¬ (x2 = 5 ∨ x2 = 6 ∨ x2 = 7) := by
      rintro (z | z | z)
      · exact n2 q (by decide) z
      · exact n2 q (by decide) z
      · exact n2 q (by decide) z
    rw [if_neg (n2 q (by decide)), if_neg (n2 q (by decide)), if_neg (n2 q (by decide)), if_neg (n2 q (by decide)), if_neg (n2 q (by decide)), if_neg n567, if_neg (n2 q (by decide)), if_neg (n2 q (by decide)), if_neg (n2 q (by decide)), if_pos q]
    rcases hd with ⟨d1, d2⟩ | ⟨T, hT, d1, d2⟩
    · rw [d2]
      exact s_79_155 (k3 := b1) (e5 := f0) (k6 := jc1) (kt := fun z => absurd d1 z) (kf := fun _ => s_79_165 (s_79_179 ⟨_, rfl, rfl, rf0⟩))
    · rw [d2]
      have kT := kl.1.sg T hT
      refine s_79_155 (k3 := b1) (e5 := f0) (k6 := jc1) (kt := fun _ => s_79_169 (k3 := b1) (e5 := f0) (k6 := jc1) (e8 := d1) (k9 := kT.1.1) (kk := s_79_179 ⟨_, rfl, ?_, rf0⟩)) (kf := fun z => by rw [d1] at z; cases z)
      rw [kT.2.1]; exact (kl.1.2.2.2.1 T hT).1
  · have n567 : ¬ (x2 = 5 ∨ x2 = 6 ∨ x2 = 7) := by
      rintro (z | z | z)
      · exact tI_no q (by decide) z
      · exact tI_no q (by decide) z
      · exact tI_no q (by decide) z
    rw [if_neg (tI_no q (by decide)), if_neg (tI_no q (by decide)), if_neg (tI_no q (by decide)), if_neg (tI_no q (by decide)), if_neg (tI_no q (by decide)), if_neg n567, if_neg (tI_no q (by decide)), if_neg (tI_no q (by decide)), if_neg (tI_no q (by decide)), if_neg (tI_no q (by decide))]
    exact s_79_180 ⟨_, rfl, rfl, rf0⟩
theorem m_segment_q (kS : RS g h o w y R R2 ss Ls Ds (fSt F)) (kF : fcR h o y ss cs F) : EvI g P 80 [va_rf (some (y 9)), .int x1, .int x2, .int x3] h (fun h' z => z = sgqA y F x1 x2 x3 ∧ StpF g h o y R R2 ss Ls Ds 0 0 F h') := by
  obtain ⟨k0, k1, k4, kse, kde⟩ := kS.kinds
  have wf := kS.1.1
  have k9 := kS.2.1.2.2.1
  obtain ⟨⟨a1, a2, a3⟩, -⟩ := kF.1
  obtain ⟨⟨xs, st⟩, -⟩ := kS.2.2.1
  have e643 : hR h 643 (y 0) = some (y 1) := st.1.2.1
  have e644 := st.2.2.1.1
  have e646 : hI h 646 (y 0) = nI (upN (tSv (fSt F))) := st.1.2.2.2.2.2.2.1
  have rf0 := StpF.rf kS kF
  refine e_80 (s_80_0 (k3 := k9) (hc := m_isSrv kS kF.1) (kk := fun h2 z ⟨e1, e2⟩ => ?_))
  subst e1; subst e2
  refine s_80_5 (kt := fun z => s_80_34 ⟨_, rfl, (if_pos z).symm, rf0⟩) (kf := fun z => ?_)
  obtain ⟨i, hi, ei, ec, hv, hB⟩ := kS.at z
  obtain ⟨⟨b1, b2, b3⟩, ⟨c1, c2, c3, c4, c5, c6, c7⟩, dd, f0, ⟨f1, f2⟩, -⟩ := kS.2.2.2.1.2.2 i hi
  unfold sgqA
  rw [if_neg z, ec]
  obtain ⟨zs, kl, hd, lt, ea⟩ := f1.1
  obtain ⟨jc1, jc2, l, jc3, jc4, hsz, hgt⟩ := kl.1.1.calls (P := P)
  have lz : zs.length = (sLg ((tSv (fSt F)).getD i sr0)).1.length := by rw [← ea, List.length_map]
  refine s_80_8 (kt := fun z1 => s_80_34 ⟨_, rfl, ?_, rf0⟩) (kf := fun z1 => ?_)
  · rw [if_pos]
    unfold inF
    rw [if_pos z1]
  · refine s_80_12 (k3 := k9) (e5 := a2) (k6 := k0) (e8 := e643) (k9 := k1) (i10 := hv) (e12 := hB) (k13 := b1) (e15 := f0) (k16 := jc1) (e18 := jc3) (k19 := jc4) (hc := hsz) (kk := fun h3 x ⟨e1, e2⟩ => ?_)
    subst e1; subst e2
    refine s_80_31 (kt := fun z2 => ?_) (kf := fun z2 => s_80_34 ⟨_, rfl, ?_, rf0⟩)
    · have hx : ¬ inF x2 (nI (sLg ((tSv (fSt F)).getD i sr0)).1.length) = 0 := by
        unfold inF
        rw [← lz, if_neg z1, if_neg (Int32.not_le.mpr z2)]; decide
      rw [if_neg hx]
      rw [← lz] at hx
      obtain ⟨j, hj, ej⟩ := inF_1 (by omega) hx
      have ecj : x2.toNatClampNeg = j := by rw [ej]; exact nI_clamp (by omega)
      have hgt' := hgt j hj
      rw [← ej] at hgt'
      have eg : (sLg ((tSv (fSt F)).getD i sr0)).1.getD j (0, [], [], []) = aG h3 zs[j] := by
        rw [← ea, List.getD_eq_getElem?_getD, List.getElem?_map, List.getElem?_eq_getElem hj]; rfl
      rw [ecj, eg]
      have kz := kl.1.sg _ (List.getElem_mem hj)
      have k9z := kz.1.1
      refine s_80_36 (k3 := k9) (e5 := a2) (k6 := k0) (e8 := e643) (k9 := k1) (i10 := hv) (e12 := hB) (k13 := b1) (e15 := f0) (k16 := jc1) (e18 := jc3) (k19 := jc4) (hc := hgt') (kk := fun h4 x ⟨e1, e2⟩ => ?_)
      subst e1; subst e2
      have n2 : ∀ {a b : Int32}, x3 = a → ¬ a = b → ¬ x3 = b := fun h1 h2 h3 => h2 (h1.symm.trans h3)
      refine s_80_59 (c1 := fun a ea => by cases ea; exact k9z) (k1000 := fun q => ?_) (k1001 := fun q => ?_) (k1002 := fun q => ?_) (k1003 := fun q => ?_) (k1004 := fun q => ?_) (k1005 := fun q => ?_) (kd := fun q => ?_)
      · rw [if_pos q]
        exact s_80_104 (k3 := k9z) (hq := ⟨_, rfl, by rw [kz.2.1]; exact (kl.1.2.2.2.1 _ (List.getElem_mem hj)).1, rf0⟩)
      · rw [if_neg (n2 q (by decide)), if_pos q]
        exact s_80_110 (k3 := k9z) (hq := ⟨_, rfl, kz.2.2.2.1.1, rf0⟩)
      · rw [if_neg (n2 q (by decide)), if_neg (n2 q (by decide)), if_pos q]
        exact s_80_116 (k3 := k9z) (hq := ⟨_, rfl, lgS.un ⟨kl, hd, lt, ea⟩ (List.getElem_mem hj), rf0⟩)
      · rw [if_neg (n2 q (by decide)), if_neg (n2 q (by decide)), if_neg (n2 q (by decide)), if_pos q]
        have hmk := RS.mark (P := P) kS hi
        rw [← e644, ← f0] at hmk
        refine s_80_122 (k3 := k9) (e5 := a2) (k6 := k0) (e8 := e644) (k9 := st.2.2.1.2.1.1) (hc := hmk) (kk := fun h5 ⟨q1, q2, q3, zs', ls1, ls2, hl⟩ => ?_)
        have k95 : hK h5 zs[j].1 = 9 := by rw [(q2.1.2.1 _ (wf.lt (by omega))).1]; exact k9z
        refine s_80_134 (k3 := k95) (hq := ⟨_, rfl, ?_, StpF.bk kS kF q1 q2 q3⟩)
        have ezs : zs'.map (·.1) = zs.map (·.1) := by
          obtain ⟨-, l1, m1, ⟨⟨-, -, d1, m2, m3⟩, -⟩, -⟩ := ls2.1.1.1
          obtain ⟨-, l2, m1', ⟨⟨-, -, d2, m2', m3'⟩, -⟩, -⟩ := kl.1.1
          rw [m1] at m1'
          cases m1'
          rw [m2] at m2'
          cases m2'
          have len : zs'.length = zs.length := by
            have h1 : (zs'.map (aG h4)).length = (zs.map (aG h4)).length := by rw [ls2.2.2.2, ea]
            rw [List.length_map, List.length_map] at h1
            exact h1
          refine List.ext_getElem (by rw [List.length_map, List.length_map, len]) (fun k hk1 hk2 => ?_)
          have hz2 : (zs.map (·.1)).length ≠ 0 := by omega
          rcases m3 with ⟨-, m3⟩ | ⟨-, -, -, -, m3⟩
          · rw [m3] at hk1; exact absurd hk1 (Nat.not_lt_zero _)
          · rcases m3' with ⟨-, m3'⟩ | ⟨-, -, -, -, m3'⟩
            · rw [m3'] at hk2; exact absurd hk2 (Nat.not_lt_zero _)
            · have := (m3 k hk1).symm.trans (m3' k hk2)
              exact Option.some.inj this
        have lj : j < zs'.length := by
          have : (zs'.map (·.1)).length = (zs.map (·.1)).length := by rw [ezs]
          rw [List.length_map, List.length_map] at this
          omega
        have ej : zs'[j].1 = zs[j].1 := by
          have e1 : (zs'.map (·.1))[j]'(by rw [List.length_map]; exact lj) = (zs.map (·.1))[j]'(by rw [List.length_map]; exact hj) := by simp only [ezs]
          rw [List.getElem_map, List.getElem_map] at e1
          exact e1
        rw [← ej]
        exact hl j lj
      · rw [if_neg (n2 q (by decide)), if_neg (n2 q (by decide)), if_neg (n2 q (by decide)), if_neg (n2 q (by decide)), if_pos q]
        exact s_80_140 (k3 := k9z) (hq := ⟨_, rfl, kz.2.2.2.2.1, rf0⟩)
      · rw [if_neg (n2 q (by decide)), if_neg (n2 q (by decide)), if_neg (n2 q (by decide)), if_neg (n2 q (by decide)), if_neg (n2 q (by decide)), if_pos q]
        refine s_80_146 (k3 := k9z) (k6 := k9) (e8 := a2) (k9 := k0) (hc := m_bitCount) (kk := fun h5 x ⟨e1, e2⟩ => s_80_162 ⟨_, rfl, ?_, by rw [e1]; exact rf0⟩)
        rw [e2, kz.2.2.2.2.2.2.1, e646]; rfl
      · rw [if_neg (tI_no q (by decide)), if_neg (tI_no q (by decide)), if_neg (tI_no q (by decide)), if_neg (tI_no q (by decide)), if_neg (tI_no q (by decide)), if_neg (tI_no q (by decide))]
        exact s_80_163 ⟨_, rfl, rfl, rf0⟩
    · rw [if_pos]
      unfold inF
      rw [← lz, if_neg z1, if_pos (Int32.not_lt.mp z2)]
theorem m_peek (kS : RS g h o w y R R2 ss Ls Ds (fSt F)) (kF : fcR h o y ss cs F) : EvI g P 81 [va_rf (some (y 9)), .int x1, .int x2, .int x3] h (fun h' z => h' = h ∧ z = pekA y F x1 x2 x3) := by
  obtain ⟨k0, k1, k4, kse, kde⟩ := kS.kinds
  have k9 := kS.2.1.2.2.1
  obtain ⟨⟨a1, a2, a3⟩, -⟩ := kF.1
  obtain ⟨⟨xs, st⟩, -⟩ := kS.2.2.1
  have e643 : hR h 643 (y 0) = some (y 1) := st.1.2.1
  have no : inF x1 (nI (y 20)) = 0 ∨ inF x2 64 = 0 ∨ x3 < 0 ∨ ¬ x3 ≤ 1 → -1 = pekA y F x1 x2 x3 := fun z => (if_pos z).symm
  refine e_81 (s_81_0 (k3 := k9) (hc := m_isSrv kS kF.1) (kk := fun h2 z ⟨e1, e2⟩ => ?_))
  subst e1; subst e2
  refine s_81_5 (kt := fun z => s_81_24 ⟨_, rfl, rfl, no (Or.inl z)⟩) (kf := fun z => ?_)
  refine s_81_8 (hc := m_isKey) (kk := fun h3 z ⟨e1, e2⟩ => ?_)
  subst e1; subst e2
  refine s_81_12 (kt := fun z => s_81_24 ⟨_, rfl, rfl, no (Or.inr (Or.inl z))⟩) (kf := fun z1 => ?_)
  refine s_81_15 (kt := fun z => s_81_24 ⟨_, rfl, rfl, no (Or.inr (Or.inr (Or.inl z)))⟩) (kf := fun z2 => ?_)
  refine s_81_19 (kt := fun z3 => ?_) (kf := fun z => s_81_24 ⟨_, rfl, rfl, no (Or.inr (Or.inr (Or.inr z)))⟩)
  have n4 : ¬ (inF x1 (nI (y 20)) = 0 ∨ inF x2 64 = 0 ∨ x3 < 0 ∨ ¬ x3 ≤ 1) := by
    rintro (q | q | q | q)
    · exact z q
    · exact z1 q
    · exact z2 q
    · exact q z3
  obtain ⟨i, hi, ei, ec, hv, hB⟩ := kS.at z
  obtain ⟨⟨b1, b2, b3⟩, -, -, f0, ⟨f1, f2⟩, -⟩ := kS.2.2.2.1.2.2 i hi
  unfold pekA
  rw [if_neg n4, ec]
  obtain ⟨zs, kl, hd, lt, ea⟩ := f1.1
  have hob := m_obj (P := P) (ky := x2) kl
  rw [ea, ← f0] at hob
  refine s_81_26 (k3 := k9) (e5 := a2) (k6 := k0) (e8 := e643) (k9 := k1) (i10 := hv) (e12 := hB) (k13 := b1) (e15 := f0) (k16 := f1.1.r.2) (hc := hob) (kk := fun h4 x ⟨e1, e2⟩ => ?_)
  subst e1
  rcases e2 with ⟨q1, q2⟩ | ⟨q, q1, q2, q3⟩
  · subst q1
    rw [q2]
    refine s_81_42 (kt := fun q => ?_) (kf := fun q => ?_)
    · rw [if_neg q]
      exact s_81_63 (kt := fun z => absurd rfl z) (kf := fun _ => s_81_68 (s_81_77 ⟨_, rfl, rfl, rfl⟩))
    · rw [if_pos q]
      exact s_81_48 (kt := fun z => absurd rfl z) (kf := fun _ => s_81_53 (s_81_62 ⟨_, rfl, rfl, rfl⟩))
  · subst q1
    rw [q2]
    refine s_81_42 (kt := fun q => ?_) (kf := fun q => ?_)
    · rw [if_neg q]
      exact s_81_63 (kt := fun _ => s_81_72 (k3 := q3.1) (kk := s_81_77 ⟨_, rfl, rfl, rfl⟩)) (kf := fun z => by cases z)
    · rw [if_pos q]
      exact s_81_48 (kt := fun _ => s_81_57 (k3 := q3.1) (kk := s_81_62 ⟨_, rfl, rfl, rfl⟩)) (kf := fun z => by cases z)
theorem m_count (kS : RS g h o w y R R2 ss Ls Ds (fSt F)) (kF : fcR h o y ss cs F) : EvI g P 82 [va_rf (some (y 9)), .int x1] h (fun h' z => h' = h ∧ z = cntA F x1) := by
  obtain ⟨k0, k1, k4, kse, kde⟩ := kS.kinds
  have k9 := kS.2.1.2.2.1
  obtain ⟨⟨a1, a2, a3⟩, a4, a5, a6, a7⟩ := kF.1
  obtain ⟨⟨xs, st⟩, ⟨i1, i2, i3, i4, i5⟩, -⟩ := kS.2.2.1
  have kD := kS.2.2.2.2.2
  have lD : Ds.length = (tDe (fSt F)).length := kS.2.2.2.2.1.1
  have n2 : ∀ {a b : Int32}, x1 = a → ¬ a = b → ¬ x1 = b := fun h1 h2 h3 => h2 (h1.symm.trans h3)
  unfold cntA
  refine e_82 (s_82_0 (k1000 := fun q => ?_) (k1001 := fun q => ?_) (k1002 := fun q => ?_) (k1003 := fun q => ?_) (k1004 := fun q => ?_) (k1005 := fun q => ?_) (k1006 := fun q => ?_) (k1007 := fun q => ?_) (k1008 := fun q => ?_) (k1009 := fun q => ?_) (k1010 := fun q => ?_) (k1011 := fun q => ?_) (kd := fun q => ?_))
  · rw [if_pos q]
    exact s_82_64 (k3 := k9) (hq := ⟨_, rfl, rfl, kF.2.2.2.2.1⟩)
  · rw [if_neg (n2 q (by decide)), if_pos q]
    refine s_82_69 (k3 := k9) (hc := m_messagesInNet k9 a4 a5 a6) (kk := fun h2 x ⟨e1, e2⟩ => s_82_73 ⟨_, rfl, e1, ?_⟩)
    rw [e2]
    unfold netN
    have key : ∀ (l : List Nat) (t : Int32), (∀ j ∈ l, j < 40) → l.foldl (cntF h (y 11)) t = l.foldl (fun t i => if (fNt F i).isNone = true then t else t + 1) t := by
      intro l
      induction l with
      | nil => intro t _; rw [List.foldl_nil, List.foldl_nil]
      | cons j l ih =>
        intro t hl
        rw [List.foldl_cons, List.foldl_cons]
        have : cntF h (y 11) t j = if (fNt F j).isNone = true then t else t + 1 := by
          unfold cntF
          rcases kF.2.2.2.1 j (hl j List.mem_cons_self) with ⟨e1, e2⟩ | ⟨m, x, e1, e2, -⟩
          · rw [if_pos e1, e2]; rfl
          · rw [if_neg (by rw [e1]; exact fun z => by cases z), e2]; rfl
        rw [this]
        exact ih _ (fun j hj => hl j (List.mem_cons_of_mem _ hj))
    exact key _ 0 (fun j hj => List.mem_range.mp hj)
  · rw [if_neg (n2 q (by decide)), if_neg (n2 q (by decide)), if_pos q]
    exact s_82_74 (k3 := k9) (e5 := a2) (k6 := k0) (hq := ⟨_, rfl, rfl, st.1.2.2.2.2.2.2.2⟩)
  · rw [if_neg (n2 q (by decide)), if_neg (n2 q (by decide)), if_neg (n2 q (by decide)), if_pos q]
    exact s_82_82 (k3 := k9) (e5 := a2) (k6 := k0) (hq := ⟨_, rfl, rfl, i3⟩)
  · rw [if_neg (n2 q (by decide)), if_neg (n2 q (by decide)), if_neg (n2 q (by decide)), if_neg (n2 q (by decide)), if_pos q]
    have hsz := m_size (P := P) kD.2.2.1.2.1.1
    rw [← kD.2.2.1.1] at hsz
    exact s_82_90 (k3 := k9) (e5 := a3) (k6 := k4) (e8 := kD.2.2.1.1) (k9 := kD.2.2.1.2.1.1.1) (hc := hsz) (kk := fun h2 x ⟨e1, e2⟩ => s_82_100 ⟨_, rfl, e1, by rw [e2, List.length_map, lD]⟩)
  · rw [if_neg (n2 q (by decide)), if_neg (n2 q (by decide)), if_neg (n2 q (by decide)), if_neg (n2 q (by decide)), if_neg (n2 q (by decide)), if_pos q]
    have htab := tab_A (g := g) (P := P) (a := 0) kD (v := -1)
    rw [← a3] at htab
    exact s_82_101 (k3 := k9) (e5 := a3) (k6 := k4) (hc := htab) (kk := fun h2 x ⟨e1, e2⟩ => s_82_109 ⟨_, rfl, e1, e2⟩)
  · rw [if_neg (n2 q (by decide)), if_neg (n2 q (by decide)), if_neg (n2 q (by decide)), if_neg (n2 q (by decide)), if_neg (n2 q (by decide)), if_neg (n2 q (by decide)), if_pos q]
    exact s_82_110 (k3 := k9) (e5 := a3) (k6 := k4) (hq := ⟨_, rfl, rfl, kD.2.2.2.2.2.1⟩)
  · rw [if_neg (n2 q (by decide)), if_neg (n2 q (by decide)), if_neg (n2 q (by decide)), if_neg (n2 q (by decide)), if_neg (n2 q (by decide)), if_neg (n2 q (by decide)), if_neg (n2 q (by decide)), if_pos q]
    exact s_82_118 (k3 := k9) (e5 := a2) (k6 := k0) (hq := ⟨_, rfl, rfl, i4⟩)
  · rw [if_neg (n2 q (by decide)), if_neg (n2 q (by decide)), if_neg (n2 q (by decide)), if_neg (n2 q (by decide)), if_neg (n2 q (by decide)), if_neg (n2 q (by decide)), if_neg (n2 q (by decide)), if_neg (n2 q (by decide)), if_pos q]
    exact s_82_126 (k3 := k9) (e5 := a3) (k6 := k4) (hq := ⟨_, rfl, rfl, kD.2.2.2.2.2.2⟩)
  · rw [if_neg (n2 q (by decide)), if_neg (n2 q (by decide)), if_neg (n2 q (by decide)), if_neg (n2 q (by decide)), if_neg (n2 q (by decide)), if_neg (n2 q (by decide)), if_neg (n2 q (by decide)), if_neg (n2 q (by decide)), if_neg (n2 q (by decide)), if_pos q]
    have i2' : hI h 647 (y 0) = tAw (fSt F) := i2
    refine s_82_134 (k3 := k9) (e5 := a2) (k6 := k0) (kt := fun z => s_82_148 (s_82_149 ⟨_, rfl, rfl, ?_⟩)) (kf := fun z => s_82_144 (s_82_149 ⟨_, rfl, rfl, ?_⟩))
    · rw [i2'] at z; rw [if_pos z]
    · rw [i2'] at z; rw [if_neg z]
  · rw [if_neg (n2 q (by decide)), if_neg (n2 q (by decide)), if_neg (n2 q (by decide)), if_neg (n2 q (by decide)), if_neg (n2 q (by decide)), if_neg (n2 q (by decide)), if_neg (n2 q (by decide)), if_neg (n2 q (by decide)), if_neg (n2 q (by decide)), if_neg (n2 q (by decide)), if_pos q]
    exact s_82_150 (k3 := k9) (e5 := a2) (k6 := k0) (hq := ⟨_, rfl, rfl, i5⟩)
  · rw [if_neg (n2 q (by decide)), if_neg (n2 q (by decide)), if_neg (n2 q (by decide)), if_neg (n2 q (by decide)), if_neg (n2 q (by decide)), if_neg (n2 q (by decide)), if_neg (n2 q (by decide)), if_neg (n2 q (by decide)), if_neg (n2 q (by decide)), if_neg (n2 q (by decide)), if_neg (n2 q (by decide)), if_pos q]
    exact s_82_158 (k3 := k9) (hq := ⟨_, rfl, rfl, kF.2.2.2.2.2⟩)
  · rw [if_neg (tI_no q (by decide)), if_neg (tI_no q (by decide)), if_neg (tI_no q (by decide)), if_neg (tI_no q (by decide)), if_neg (tI_no q (by decide)), if_neg (tI_no q (by decide)), if_neg (tI_no q (by decide)), if_neg (tI_no q (by decide)), if_neg (tI_no q (by decide)), if_neg (tI_no q (by decide)), if_neg (tI_no q (by decide)), if_neg (tI_no q (by decide))]
    exact s_82_163 ⟨_, rfl, rfl, rfl⟩
end ASK
