/-! Storage.makeRoom -/
def unsA (ps : List pT) : Int32 := ps.foldl (fun t p => t + kU (pKd p)) 0
def hdG (A : alT) : Option agT := match A.2.1 with
  | none => none
  | some n => A.1.find? (fun g => g.1 == n)
def hdB (U : Nat) (up need : Int32) (A : alT) : Bool := match hdG A with
  | none => false
  | some g => decide (mskL g.2.2.2 &&& (up ^^^ (-1)) = 0) && decide (unsA g.2.1 + need ≤ nI U)
def mkrA (N U rep mem : Nat) (up aw : Int32) (nm sv : Nat) (safe need lim : Int32) (A : alT) : alT × Nat × Int32 × Int32 := if hdB U up need A = true then (A, nm, 0, 1) else opnA N U rep mem up aw nm sv safe lim A
section ROOM
variable {g : gcT} {P : pmT} {o o' : Nat → Nat} {h h' : hpT} {a b e v l ll N U L rep mem nm nx nx' s sv cl : Nat} {R : arT} {up safe lim aw need : Int32} {xs0 : List Nat} {zs ts : List svT} {t : svT} {B : Nat → Prop} {c m c' m' : Nat} {A : alT}
theorem find_nm (k : lgG g h o N U L zs) {z : svT} (hz : z ∈ zs) : (zs.map (aG h)).find? (fun g => g.1 == nmN z) = some (aG h z) := by
  obtain ⟨i, hi, ei⟩ := List.getElem_of_mem hz
  subst ei
  rw [List.find?_eq_some_iff_getElem]
  refine ⟨by show (nmN zs[i] == nmN zs[i]) = true; exact beq_self_eq_true _, i, by rw [List.length_map]; exact hi, by rw [List.getElem_map], fun j hj => ?_⟩
  rw [List.getElem_map]
  show (!(nmN zs[j] == nmN zs[i])) = true
  have : ¬ nmN zs[j] = nmN zs[i] := fun q => by
    have := k.names j i (by omega) hi q
    omega
  simp [this]
theorem uns_A (ps : List Nat) (hq : ∀ q ∈ ps, ptK h q) : unS h ps = unsA (ps.map (pA h)) := by
  unfold unS unsA
  rw [List.foldl_map]
  have : ∀ (ps : List Nat) (t : Int32), (∀ q ∈ ps, ptK h q) → ps.foldl (fun t p => t + hI h 385 p) t = ps.foldl (fun t q => t + kU (pKd (pA h q))) t := by
    intro ps
    induction ps with
    | nil => intro t _; rw [List.foldl_nil, List.foldl_nil]
    | cons q ps ih =>
      intro t hq
      rw [List.foldl_cons, List.foldl_cons, (hq q List.mem_cons_self).2.1]
      exact ih _ (fun y hy => hq y (List.mem_cons_of_mem _ hy))
  exact this ps 0 hq
theorem m_makeRoom (hP6 : P 206 = cpyO) (w : hWF h) (hg : gOK g h) (ok : oOK o) (st : stR g h o a e v R l N U rep up nm xs0) (kR : lgR g h o N U L nm A) (hll : hR h 256 L = some ll) (ks : hK h s = 10) (os : o s = s) (hsL : hR h 584 s = some L) (hsv : hI h 576 s = nI sv) (hsafe : hI h 581 s = safe) (hmem : hI h 642 a = nI mem) (haw : hI h 647 a = aw) (hN0 : 0 < N) (hNb : N ≤ 30) (hUb : U ≤ 100) (hU1 : 1 ≤ U) (hrb : rep ≤ N) (hm1 : 1 ≤ mem) (hm2 : mem ≤ 1000) (hnb : nm ≤ 99999980) (hsb : sv < N) (hz : A.1.length ≤ 90000) : EvI g P 45 [va_rf (some a), va_rf (some s), .int need, .int lim] h (fun h' r => r = (mkrA N U rep mem up aw nm sv safe need lim A).2.2.2 ∧ opnR g h o a e v R l ll N U L rep up A.1.length nm (mkrA N U rep mem up aw nm sv safe need lim A) h') := by
  have kR' := kR
  obtain ⟨zs, kl, hd, lt, ea⟩ := kR'
  have kL := kl.1.1.1
  have ka := st.1.1
  have e646 : hI h 646 a = up := st.1.2.2.2.2.2.2.1
  have e641 : hI h 641 a = nI U := st.1.2.2.2.2.2.1
  have opens : hdB U up need A = false → ∀ r4, Ev g P 45 39 [some (va_rf (some a)), some (va_rf (some s)), some (.int need), some (.int lim), some (va_rf r4)] [] h (fun h' r => ∃ x, r = some (.int x) ∧ x = (mkrA N U rep mem up aw nm sv safe need lim A).2.2.2 ∧ opnR g h o a e v R l ll N U L rep up A.1.length nm (mkrA N U rep mem up aw nm sv safe need lim A) h') := by
    intro hb r4
    have eW : mkrA N U rep mem up aw nm sv safe need lim A = opnA N U rep mem up aw nm sv safe lim A := if_neg (by rw [hb]; decide)
    rw [eW]
    refine s_45_39 (k3 := ka) (hc := m_open (lim := lim) hP6 w hg ok st kR hll ks os hsL hsv hsafe hmem haw hN0 hNb hUb hU1 hrb hm1 hm2 hnb hsb hz) (kk := fun h1 x ⟨e1, e2⟩ => s_45_45 (b1 := ?_) (hq := ⟨_, rfl, e1, e2⟩))
    rw [e1]
    unfold opnA
    split
    · exact Or.inl rfl
    · split
      · exact Or.inl rfl
      · exact Or.inr rfl
  refine e_45 (s_45_0 (k3 := ks) (e5 := hsL) (k6 := kL) (kt := fun z => opens ?_ _) (kf := fun z => ?_))
  · rcases hd with ⟨-, q⟩ | ⟨y, -, q, -⟩
    · unfold hdB hdG
      rw [q]
    · rw [z] at q; cases q
  · rcases hd with ⟨q, -⟩ | ⟨y, hy, q1, q2⟩
    · exact absurd q z
    · have ky := kl.1.sg y hy
      have k9 : hK h y.1 = 9 := ky.1.1
      have eG : hdG A = some (aG h y) := by
        unfold hdG
        rw [q2, ← ea]
        exact find_nm kl.1 hy
      have em : hI h 523 y.1 = mskL y.2.2.2.2.2 := ky.2.2.2.2.2.2.1
      have eu : hI h 520 y.1 = unsA ((zPs y).map (pA h)) := by
        rw [← uns_A (zPs y) (fun q hq => ((kl.1.1.2.choose_spec.2.2 y hy).2 q hq).1.1)]
        exact ky.2.2.1.2.2.1
      have eB : hdB U up need A = (decide (mskL y.2.2.2.2.2 &&& (up ^^^ (-1)) = 0) && decide (unsA ((zPs y).map (pA h)) + need ≤ nI U)) := by
        unfold hdB
        rw [eG]
        rfl
      have hau : EvI g P 43 [va_rf (some a), va_rf (hR h 257 L)] h (fun h' r => h' = h ∧ r = if (mskL y.2.2.2.2.2) &&& (up ^^^ (-1)) = 0 then 1 else 0) := by
        rw [q1]
        have := m_allUp (g := g) (P := P) ka k9
        rw [em, e646] at this
        exact this
      refine s_45_14 (k3 := ka) (hc := hau) (kk := fun h1 x ⟨e1, e2⟩ => ?_)
      subst e1
      by_cases c1 : mskL y.2.2.2.2.2 &&& (up ^^^ (-1)) = 0
      · rw [if_pos c1] at e2
        subst e2
        refine s_45_20 (kt := fun z => absurd z (by decide)) (kf := fun _ => ?_)
        refine s_45_23 (e2 := q1) (k3 := k9) (k6 := ka) (kt := fun z => opens ?_ _) (kf := fun z => s_45_37 ?_)
        · rw [e641, eu] at z
          rw [eB, decide_eq_false (Int32.not_le.mpr z), Bool.and_false]
        · rw [e641, eu] at z
          have hb : hdB U up need A = true := by rw [eB, decide_eq_true c1, decide_eq_true (Int32.not_lt.mp z)]; rfl
          have eW : mkrA N U rep mem up aw nm sv safe need lim A = (A, nm, 0, 1) := if_pos hb
          rw [eW]
          exact ⟨1, rfl, rfl, o, (CG.rf w ok _).mono ok (fun _ _ q => q) (Nat.zero_le _) (Nat.zero_le _), ⟨xs0, st⟩, kR, fun _ => rfl, rfl, fun _ _ _ => rfl, fun _ => rfl, (Int32.add_zero _).symm, ⟨Nat.le_refl _, Nat.le_max_left _ _⟩, ⟨Nat.le_refl _, Nat.le_max_left _ _⟩, fun _ => rfl⟩
      · rw [if_neg c1] at e2
        subst e2
        refine s_45_20 (kt := fun _ => opens ?_ _) (kf := fun z => absurd rfl z)
        rw [eB, decide_eq_false c1, Bool.false_and]
end ROOM
/-! an ENTRY comes into a SEGMENT of a LOG -/
def addG (x : agT) (np : List pT) (c : Nat) : agT := (x.1, x.2.1 ++ np, x.2.2.1 ++ [x.2.1.length + np.length], updH x.2.2.2 c (x.2.2.1.length + 1))
def wrtA (A : alT) (np : List pT) (c : Nat) : alT := (A.1.map (fun x => if some x.1 = A.2.1 then addG x np c else x), A.2.1, A.2.2)
def entZ (T : svT) (np : List Nat) (c : Nat) : svT := (T.1, T.2.1, T.2.2.1, T.2.2.2.1 ++ np, T.2.2.2.2.1 ++ [T.2.2.2.1.length + np.length], updH T.2.2.2.2.2 c (T.2.2.2.2.1.length + 1))
def repZ (zs : List svT) (T' : svT) : List svT := zs.map (fun z => if z.1 = T'.1 then T' else z)
section ENT
variable {g : gcT} {P : pmT} {o o' : Nat → Nat} {h h' : hpT} {N U L nx : Nat} {zs : List svT} {T T' : svT} {np : List Nat} {c : Nat} {A : alT}
theorem repZ_mem {z : svT} (hz : z ∈ repZ zs T') : (z = T' ∧ ∃ y ∈ zs, y.1 = T'.1) ∨ (z ∈ zs ∧ ¬ z.1 = T'.1) := by
  obtain ⟨y, hy, e⟩ := List.mem_map.mp hz
  by_cases q : y.1 = T'.1
  · rw [if_pos q] at e; exact Or.inl ⟨e.symm, y, hy, q⟩
  · rw [if_neg q] at e; rw [← e]; exact Or.inr ⟨hy, q⟩
def rwS (T : svT) (y : Nat) : Prop := y = T.1 ∨ y = T.2.1.1 ∨ y = T.2.1.2.1 ∨ y = T.2.1.2.2.1 ∨ y = T.2.1.2.2.2.1 ∨ y = T.2.1.2.2.2.2
theorem repZ_1 : (repZ zs T').map (·.1) = zs.map (·.1) := by
  unfold repZ
  rw [List.map_map]
  refine List.map_congr_left (fun z _ => ?_)
  show (if z.1 = T'.1 then T' else z).1 = z.1
  split
  · rename_i q; exact q.symm
  · rfl
theorem repZ_n (inj : ∀ z ∈ zs, z.1 = T'.1 → nmN z = nmN T') : (repZ zs T').map nmN = zs.map nmN := by
  unfold repZ
  rw [List.map_map]
  refine List.map_congr_left (fun z hz => ?_)
  show nmN (if z.1 = T'.1 then T' else z) = nmN z
  split
  · rename_i q; exact (inj z hz q).symm
  · rfl
/-- a SEGMENT of a LOG gets other PARTS, ends or HOLDERS -/
theorem lgK.seg (w : hWF h) (hg : gOK g h) (ok : oOK o) (k : lgK g h o N U L nx zs) (hT : T ∈ zs) (e1 : T'.1 = T.1) (e2 : T'.2.1 = T.2.1) (e3 : T'.2.2.1 = T.2.2.1) (kT : sgX h' N U T') (x : Ch (rwS T) 0 0 h h') (i5 : hI h' 512 T.1 = hI h 512 T.1 ∧ hI h' 524 T.1 = hI h 524 T.1) (pt : ∀ q ∈ zPs T', pOK h' q ∧ lOK h' q ∧ tmK h' o L nx zs q) : CG (fun y => y = L) 0 0 h o h' o ∧ lgK g h' o N U L nx (repZ zs T') ∧ ∀ y, ¬ hK h y = 0 → ¬ rwS T y → Sm h h' y := by
  have kL := k.1.1.1
  obtain ⟨kG, kr, kn, kt⟩ := k
  have kz := kG.sg
  have kzq := kG.1.2.choose_spec.2.2
  have kT1 := (kz T hT).1
  obtain ⟨a1, -, -, -, -, -, a7, a8, a9, a10, a11, -⟩ := kT1
  obtain ⟨⟨p1, p2, p3, p4, p5⟩, oT, gT⟩ := kG.2.2.1 T hT
  have nLT : ¬ L = T.1 := kinds_ne (h := h) (by omega)
  have rw7 : ∀ y, rwS T y → ¬ hK h y = 7 ∧ ¬ hK h y = 1 ∧ ¬ hK h y = 28 ∧ ¬ hK h y = 5 ∧ ¬ hK h y = 0 := by
    rintro y (q | q | q | q | q | q) <;> (rw [q]; omega)
  have rwo : ∀ y, rwS T y → y = T.1 ∨ o y = T.1 := by
    rintro y (q | q | q | q | q | q)
    · exact Or.inl q
    · rw [q]; exact Or.inr p1
    · rw [q]; exact Or.inr p2
    · rw [q]; exact Or.inr p3
    · rw [q]; exact Or.inr p4
    · rw [q]; exact Or.inr p5
  have rw9 : ∀ y, rwS T y → hK h y = 9 → y = T.1 := by
    rintro y (q | q | q | q | q | q) hy
    · exact q
    all_goals (rw [q] at hy; omega)
  have sm : ∀ y, ¬ hK h y = 0 → ¬ rwS T y → Sm h h' y := fun y h0 n => x.sm n (w.lt h0)
  have nm : ∀ y, hK h y = 9 → hI h' 512 y = hI h 512 y ∧ hI h' 524 y = hI h 524 y := by
    intro y hy
    by_cases q : y = T.1
    · rw [q]; exact i5
    · have := sm y (by omega) (fun z => q (rw9 y z hy))
      exact ⟨(this.2.1 512).1, (this.2.1 524).1⟩
  have cg : CG (fun y => y = L) 0 0 h o h' o := CG.of0 x ok (fun y _ hy => ⟨(rw7 y hy).1, Or.inr (by
    rcases rwo y hy with q | q
    · rw [q, oT]; exact kr
    · rw [q]; exact oT)⟩) (fun y hy => (nm y hy).1)
  have sL := sm L (by omega) (fun q => (rw7 L q).2.2.2.1 kL)
  have hz1 : ∀ z ∈ zs, z.1 = T'.1 → z = T := by
    intro z hz q
    obtain ⟨i, hi, ei⟩ := List.getElem_of_mem hz
    obtain ⟨j, hj, ej⟩ := List.getElem_of_mem hT
    rw [e1, ← ei, ← ej] at q
    have := kG.nd1 i j hi hj q
    subst this
    rw [← ei, ← ej]
  have nT : nmN T' = nmN T := by unfold nmN; rw [e3]
  have inj : ∀ z ∈ zs, z.1 = T'.1 → nmN z = nmN T' := fun z hz q => by rw [hz1 z hz q, nT]
  -- TOMBS
  have tmr : ∀ q, tmK h' o L nx zs q → tmK h' o L nx (repZ zs T') q := by
    intro q kq e
    obtain ⟨s, n, b1, b2, b3, b4, b5, b6, b7⟩ := kq e
    refine ⟨s, n, b1, b2, b3, b4, b5, fun z => ?_, fun y hy ey => ?_⟩
    · obtain ⟨y, hy, ey⟩ := b6 z
      refine ⟨if y.1 = T'.1 then T' else y, List.mem_map_of_mem hy, ?_⟩
      split
      · rename_i z; rw [← z]; exact ey
      · exact ey
    · rcases repZ_mem hy with ⟨z, y', hy', ey'⟩ | ⟨z, -⟩
      · rw [z, e1]
        exact b7 T hT (by rw [← nT, ← z]; exact ey)
      · exact b7 y z ey
  have hkz : ∀ z ∈ zs, ¬ z.1 = T'.1 → sgX h' N U z := by
    intro z hz nz
    have nzT : ¬ z.1 = T.1 := fun q => nz (q.trans e1.symm)
    have kzz := kz z hz
    have lt := sgV.lts w kzz
    have kz1 := kzz.1
    obtain ⟨b1, -, -, -, -, -, b7, b8, b9, b10, b11, -⟩ := kz1
    obtain ⟨q1, q2, q3, q4, q5⟩ := (kG.2.2.1 z hz).1
    have nr : ∀ y, ¬ hK h y = 0 → ¬ hK h y = 9 → o y = z.1 → Sm h h' y := fun y y0 y9 yo => sm y y0 (fun q => (rwo y q).elim (fun q => y9 (by rw [q]; exact a1)) (fun q => nzT (yo.symm.trans q)))
    exact sgV.fr kzz (sm _ (by omega) (fun q => nzT (rw9 _ q b1))) (nr _ (by omega) (by omega) q1) (nr _ (by omega) (by omega) q2) (nr _ (by omega) (by omega) q3) (nr _ (by omega) (by omega) q4) (nr _ (by omega) (by omega) q5) (fun p hp => by have := (lt.2.2.2.2.2.2 p hp).2; exact sm p (by omega) (fun q => (rw7 p q).1 this))
  obtain ⟨-, l, hl, tl, -⟩ := kG.1
  have kl := tl.1.1
  have sl := sm l (by omega) (fun q => (rw7 l q).2.1 kl)
  refine ⟨cg, ⟨⟨⟨by rw [sL.1]; exact kL, l, by rw [(sL.2.1 256).2]; exact hl, ?_, fun z hz => ?_⟩, fun l' hl' => ?_, fun z hz => ?_, fun z hz => ?_, ?_⟩, kr, fun z hz => ?_, fun z hz q hq => ?_⟩, sm⟩
  · rw [repZ_1]
    exact tl.fr w x sl (fun d _ kd => sm d (by omega) (fun q => (rw7 d q).2.2.1 kd))
  · rcases repZ_mem hz with ⟨q, -⟩ | ⟨q, nq⟩
    · rw [q]; exact ⟨kT, fun p hp => ⟨(pt p hp).1, (pt p hp).2.1⟩⟩
    · refine ⟨hkz z q nq, fun p hp => ?_⟩
      obtain ⟨o1, o2⟩ := (kzq z q).2 p hp
      have k7 := o1.1.1
      exact ⟨o1.sm (sm p (by omega) (fun q => (rw7 p q).1 k7)), lOK.cg w k7 o2 cg⟩
  · rw [(sL.2.1 256).2, hl] at hl'
    cases hl'
    exact ownL.fr w hg tl (kG.2.1 l hl) cg sl
  · rcases repZ_mem hz with ⟨q, -⟩ | ⟨q, nq⟩
    · rw [q]
      unfold ownZ
      rw [e1, e2]
      exact ⟨⟨p1, p2, p3, p4, p5⟩, oT, by rw [i5.2]; exact gT⟩
    · exact ⟨(kG.2.2.1 z q).1, (kG.2.2.1 z q).2.1, by rw [(nm z.1 (kz z q).1.1).2]; exact (kG.2.2.1 z q).2.2⟩
  · rcases repZ_mem hz with ⟨q, -⟩ | ⟨q, nq⟩
    · rw [q, nT, e3]; exact kG.2.2.2.1 T hT
    · exact kG.2.2.2.1 z q
  · rw [repZ_n inj]; exact kG.2.2.2.2
  · rcases repZ_mem hz with ⟨q, -⟩ | ⟨q, nq⟩
    · rw [q, nT]; exact kn T hT
    · exact kn z q
  · rcases repZ_mem hz with ⟨q', -⟩ | ⟨q', nq⟩
    · rw [q'] at hq
      exact tmr q (pt q hq).2.2
    · refine tmr q (fun e => ?_)
      have k7 := ((kzq z q').2 q hq).1.1.1
      have sq := sm q (by omega) (fun z => (rw7 q z).1 k7)
      rw [(sq.2.1 384).1] at e
      obtain ⟨s, n, b1, b2, b3, b4, b5, b6, b7⟩ := kt z q' q hq e
      exact ⟨s, n, by rw [(sq.2.1 395).2]; exact b1, by rw [(x.2.1 s (w.lt (by omega))).1]; exact b2, b3, by rw [(nm s b2).1]; exact b4, b5, fun z => b6 (by rw [← (nm s b2).2]; exact z), b7⟩
/-- APPENDING: the LOG without addresses -/
def lgS (g : gcT) (h : hpT) (o : Nat → Nat) (N U L nx : Nat) (A : alT) (zs : List svT) : Prop := lgK g h o N U L nx zs ∧ hdK (hR h 257 L) zs A.2.1 ∧ hdK (hR h 258 L) zs A.2.2 ∧ zs.map (aG h) = A.1
theorem lgS.ent (w : hWF h) (hg : gOK g h) (ok : oOK o) (k : lgS g h o N U L nx A zs) (hTm : T ∈ zs) (hT : hR h 257 L = some T.1) (x : entH h T.1 N U T.2.1 T.2.2.1 T.2.2.2.1 T.2.2.2.2.1 T.2.2.2.2.2 np c h') (pt : ∀ q ∈ np, pOK h q ∧ lOK h q ∧ tmK h o L nx zs q) : CG (fun y => y = L) 0 0 h o h' o ∧ lgS g h' o N U L nx (wrtA A (np.map (pA h')) c) (repZ zs (entZ T np c)) ∧ Sm h h' L := by
  obtain ⟨k1, k2, k3, k4⟩ := k
  have kL := k1.1.1.1
  have kT : ∀ z ∈ zs, z.1 = T.1 → z = T := by
    intro z hz q
    obtain ⟨i, hi, ei⟩ := List.getElem_of_mem hz
    obtain ⟨j, hj, ej⟩ := List.getElem_of_mem hTm
    rw [← ei, ← ej] at q
    have := k1.1.nd1 i j hi hj q
    subst this
    rw [← ei, ← ej]
  obtain ⟨x1, x2, x3, x4⟩ := x
  have kT1 := (k1.1.sg T hTm).1
  obtain ⟨a1, -, -, -, -, -, a7, a8, a9, a10, a11, -⟩ := kT1
  have x2' : Ch (rwS T) 0 0 h h' := x2.mono (fun y _ q => by
    rcases q with q | q | q | q
    · exact Or.inl q
    · exact Or.inr (Or.inl q)
    · exact Or.inr (Or.inr (Or.inr (Or.inl q)))
    · exact Or.inr (Or.inr (Or.inr (Or.inr (Or.inr q))))) (Nat.le_refl _) (Nat.le_refl _)
  have n7 : ∀ y, hK h y = 7 → Sm h h' y := fun y hy => x2'.sm (by rintro (q | q | q | q | q | q) <;> (rw [q] at hy; omega)) (w.lt (by omega))
  have n9 : ∀ y, hK h y = 9 → hI h' 512 y = hI h 512 y ∧ hI h' 524 y = hI h 524 y := by
    intro y hy
    by_cases e : y = T.1
    · rw [e]; exact ⟨x3 512 (by decide) (by decide) (by decide), x3 524 (by decide) (by decide) (by decide)⟩
    · have : Sm h h' y := x2'.sm (by rintro (q | q | q | q | q | q); exact e q; all_goals (rw [q] at hy; omega)) (w.lt (by omega))
      exact ⟨(this.2.1 512).1, (this.2.1 524).1⟩
  have ptT : ∀ q ∈ zPs (entZ T np c), pOK h' q ∧ lOK h' q ∧ tmK h' o L nx zs q := by
    intro q hq
    have hq : q ∈ T.2.2.2.1 ++ np := hq
    have old : pOK h q ∧ lOK h q ∧ tmK h o L nx zs q := by
      rcases List.mem_append.mp hq with d | d
      · have := (k1.1.1.2.choose_spec.2.2 T hTm).2 q d
        exact ⟨this.1, this.2, k1.2.2.2 T hTm q d⟩
      · exact pt q d
    obtain ⟨o1, o2, o3⟩ := old
    have sq := n7 q o1.1.1
    refine ⟨o1.sm sq, fun s hs => ?_, fun e => ?_⟩
    · rw [(sq.2.1 395).2] at hs
      have := o2 s hs
      rw [(x2.2.1 s (w.lt (by omega))).1]; exact this
    · rw [(sq.2.1 384).1] at e
      obtain ⟨s, n, b1, b2, b3, b4, b5, b6, b7⟩ := o3 e
      exact ⟨s, n, by rw [(sq.2.1 395).2]; exact b1, by rw [(x2.2.1 s (w.lt (by omega))).1]; exact b2, b3, by rw [(n9 s b2).1]; exact b4, b5, fun z => b6 (by rw [← (n9 s b2).2]; exact z), b7⟩
  obtain ⟨cg, kl, sm⟩ := lgK.seg (T' := entZ T np c) w hg ok k1 hTm rfl rfl rfl x1 x2' (n9 T.1 a1) ptT
  have sL := sm L (by omega) (by rintro (q | q | q | q | q | q) <;> (rw [q] at kL; omega))
  have hk : ∀ {r n}, hdK r zs n → hdK r (repZ zs (entZ T np c)) n := by
    rintro r n (q | ⟨z, hz, q1, q2⟩)
    · exact Or.inl q
    · refine Or.inr ⟨if z.1 = (entZ T np c).1 then entZ T np c else z, List.mem_map_of_mem hz, ?_, ?_⟩
      · rw [q1]
        split
        · rename_i q; rw [q]
        · rfl
      · rw [q2]
        split
        · rename_i q; rw [kT z hz q]; rfl
        · rfl
  refine ⟨cg, ⟨kl, by rw [(sL.2.1 257).2]; exact hk k2, by rw [(sL.2.1 258).2]; exact hk k3, ?_⟩, sL⟩
  show (repZ zs (entZ T np c)).map (aG h') = A.1.map _
  unfold repZ
  rw [← k4, List.map_map, List.map_map]
  have hA : A.2.1 = some (nmN T) := by
    rcases k2 with ⟨q, -⟩ | ⟨z, hz, q, q2⟩
    · rw [q] at hT; cases hT
    · rw [q] at hT
      rw [q2, kT z hz (Option.some.inj hT)]
  refine List.map_congr_left (fun z hz => ?_)
  show aG h' (if z.1 = T.1 then entZ T np c else z) = if some (nmN z) = A.2.1 then addG (aG h z) (np.map (pA h')) c else aG h z
  have eg : aG h' z = aG h z := aG_map w k1.1 cg z hz
  rw [hA]
  by_cases q : z.1 = T.1
  · have := kT z hz q
    subst this
    rw [if_pos rfl, if_pos rfl]
    have ep : (zPs z).map (pA h') = (zPs z).map (pA h) := congrArg (fun x : agT => x.2.1) eg
    show (nmN z, (zPs z ++ np).map (pA h'), z.2.2.2.2.1 ++ [(zPs z).length + np.length], updH z.2.2.2.2.2 c (z.2.2.2.2.1.length + 1)) = (nmN z, (zPs z).map (pA h) ++ np.map (pA h'), z.2.2.2.2.1 ++ [((zPs z).map (pA h)).length + (np.map (pA h')).length], updH z.2.2.2.2.2 c (z.2.2.2.2.1.length + 1))
    rw [List.map_append, ep, List.length_map, List.length_map]
  · rw [if_neg q, if_neg (fun e => q ((k1.1.inj z hz T hTm).mpr (Option.some.inj e)))]
    exact eg
end ENT
