/-! changeAt, whole -/
section CHG
variable {g : gcT} {P : pmT} {o o' w w' : Nat → Nat} {y : Nat → Nat} {R R2 : arT} {h h' h1 h2 : hpT} {B : Nat → Prop} {i j t c m n p q e : Nat} {ss : List Nat} {Ls L1 : List lsT} {Ds D1 : List (Nat × Nat)} {S S' : stA} {cs : csT} {F F' : fcT} {r : rqT} {v : anT} {kc km kc' km' : Nat} {ky ak ack : Int32} {d : anT × Option ptT} {u : Option Nat} {zs : List svT} {T : svT} {W : alT × Nat × Int32 × Int32}
theorem decA_v {sf : Int32} {old : Option pT} {x : ptT} (e : (decA sf r old).2 = some x) : (x.1 = 2 ∨ x.1 = 3) ∧ x.2.2.2.1 = r.2.1 := by
  unfold decA at e
  split at e
  · cases e
  · split at e
    · split at e
      · cases e
      · cases e; exact ⟨Or.inr rfl, rfl⟩
    · cases e; exact ⟨Or.inl rfl, rfl⟩
theorem ks_rm (hi : i < (tSv S).length) : (tSv (rmW S i W)).getD i sr0 = stLg ((tSv S).getD i sr0) W.1 := gS hi
theorem ks_wr {ps : List pT} (hi : i < (tSv S).length) : (tSv (wrS S i ps c)).getD i sr0 = stLg ((tSv S).getD i sr0) (wrtA (sLg ((tSv S).getD i sr0)) ps c) := gS hi
theorem unQ_n {d : Option ptT} : ∃ k, (k = 1 ∨ k = 2 ∨ k = 3) ∧ unQ d = nI k ∧ d.toList.length + 1 ≤ k := by
  cases d with
  | none => exact ⟨1, Or.inl rfl, rfl, Nat.le_refl _⟩
  | some v =>
    unfold unQ kU
    by_cases q : v.1 = 2
    · exact ⟨3, Or.inr (Or.inr rfl), by dsimp only; rw [if_pos q]; rfl, by show 2 ≤ 3; omega⟩
    · exact ⟨2, Or.inr (Or.inl rfl), by dsimp only; rw [if_neg q]; rfl, by show 2 ≤ 2; omega⟩
theorem chgB_end (hi : i < (tSv (fSt F)).length) (nz : ¬ (chW y (fSt F) i d.2).2.2.2 = 0) : chgB y F i c n r ak d = (chF3 (chF2 (setS F (rmW (fSt F) i (chW y (fSt F) i d.2))) i ((d.2.map (effQ (chW y (fSt F) i d.2).1.1)).toList ++ [resQ c n r ak d.1]) d.2.isSome) i (sCu ((tSv (fSt F)).getD i sr0)) d.2.isSome, if ¬ sCu ((tSv (fSt F)).getD i sr0) = -1 then none else some d.1) := by
  have e1 : sCu ((tSv (fSt (setS F (rmW (fSt F) i (chW y (fSt F) i d.2))))).getD i sr0) = sCu ((tSv (fSt F)).getD i sr0) := by
    show sCu ((tSv (rmW (fSt F) i (chW y (fSt F) i d.2))).getD i sr0) = _
    rw [ks_rm hi]; rfl
  have e2 : fSt (chF2 (setS F (rmW (fSt F) i (chW y (fSt F) i d.2))) i ((d.2.map (effQ (chW y (fSt F) i d.2).1.1)).toList ++ [resQ c n r ak d.1]) d.2.isSome) = chS2 y (fSt F) i c n r ak d := by
    unfold chF2 chS2
    rw [e1]; rfl
  have e3 : sSf ((tSv (chS2 y (fSt F) i c n r ak d)).getD i sr0) = sSf ((tSv (fSt F)).getD i sr0) := by
    unfold chS2
    have hl : i < (tSv (rmW (fSt F) i (chW y (fSt F) i d.2))).length := by
      show i < ((tSv (fSt F)).set i _).length
      rw [List.length_set]; exact hi
    rw [ks_wr hl, ks_rm hi]; rfl
  have e4 : (chF2 (setS F (rmW (fSt F) i (chW y (fSt F) i d.2))) i ((d.2.map (effQ (chW y (fSt F) i d.2).1.1)).toList ++ [resQ c n r ak d.1]) d.2.isSome).2 = (fCl F, fNt F, fCk F, chEf F (sCu ((tSv (fSt F)).getD i sr0)) d.2) := by
    unfold chF2 chEf
    rw [e1]; rfl
  unfold chgB chF3 setS
  rw [if_neg nz]
  rw [show fSt (chF2 (rmW (fSt F) i (chW y (fSt F) i d.2), F.2) i ((d.2.map (effQ (chW y (fSt F) i d.2).1.1)).toList ++ [resQ c n r ak d.1]) d.2.isSome) = chS2 y (fSt F) i c n r ak d from e2]
  rw [show (chF2 (rmW (fSt F) i (chW y (fSt F) i d.2), F.2) i ((d.2.map (effQ (chW y (fSt F) i d.2).1.1)).toList ++ [resQ c n r ak d.1]) d.2.isSome).2 = (fCl F, fNt F, fCk F, chEf F (sCu ((tSv (fSt F)).getD i sr0)) d.2) from e4]
  rw [e3]
  by_cases q : sCu ((tSv (fSt F)).getD i sr0) = -1
  · rw [if_neg (not_not_intro q), if_neg (not_not_intro q), if_neg (not_not_intro q)]
    by_cases b : d.2.isSome = true
    · rw [if_pos b, if_pos b]
    · rw [if_neg b, if_neg b, ← e2, ← e4]; rfl
  · rw [if_pos q, if_pos q, if_pos q]
/-- where nothing of the state is touched and PARTS are made -/
theorem cgP (wf : hWF h) (ok : oOK o) (k0 : ¬ hK h (y 0) = 0) (x : Ch (fun _ => False) c m h h1) : CG (fun _ => False) c m h o h1 (oX o h (y 0)) := CG.of x (fun _ _ q => q.elim) (fun a ha => if_pos ha) (oX.ok ok (wf.lt k0)) (nm9 wf x (fun _ q => q.elim))
def ptN (h : hpT) (p : Nat) (v : ptT) : Prop := ptK h p ∧ ptv h p = v ∧ hR h 395 p = none
theorem ptN.fr {x : ptT} (k : ptN h p x) (s : Sm h h1 p) : ptN h1 p x := by
  obtain ⟨k1, k2, k3⟩ := k
  refine ⟨k1.sm s, ?_, by rw [(s.2.1 395).2]; exact k3⟩
  rw [← k2]
  unfold ptv
  rw [(s.2.1 384).1, (s.2.1 388).1, (s.2.1 389).1, (s.2.1 390).1, (s.2.1 391).1, (s.2.1 392).1, (s.2.1 393).1, (s.2.1 394).1]
theorem ptN.val {x : ptT} (k : ptN h p x) : pA h p = (x, -1) := by
  unfold pA hmF
  rw [k.2.1, k.2.2]
theorem ptN.ok {x : ptT} (k : ptN h p x) (h1 : kT x.1 = 0 ∨ vinD x.2.1 6) (h2 : kM x.1 = 0 ∨ vinD x.2.2.2.1 64) : pOK h p ∧ lOK h p := by
  obtain ⟨k1, k2, k3⟩ := k
  have e0 : hI h 384 p = x.1 := congrArg (·.1) k2
  have e1 : hI h 388 p = x.2.1 := congrArg (·.2.1) k2
  have e2 : hI h 390 p = x.2.2.2.1 := congrArg (·.2.2.2.1) k2
  refine ⟨⟨k1, fun z => ?_, fun z => ?_⟩, fun s hs => by rw [k3] at hs; cases hs⟩
  · rw [k1.2.2.2, e0] at z
    rw [e1]
    exact h1.resolve_left z
  · rw [k1.2.2.1, e0] at z
    rw [e2]
    exact h2.resolve_left z
theorem m_changeAt {m : Nat} (hP6 : P 206 = cpyO) (kS : RS g h o w y R R2 ss Ls Ds (fSt F)) (kF : fcR h o y ss cs F) (hi : i < y 20) (km : hK h m = 6) (hm : hR h 320 m = some q) (kq : reqV h q c n r) (ha : hI h 321 m = ack) (hc6 : c < 6) (hky : inF r.2.1 64 = 1) (hcut : sCu ((tSv (fSt F)).getD i sr0) = -1 ∨ ∃ k, k ≤ 3 ∧ sCu ((tSv (fSt F)).getD i sr0) = nI k) (hb : (chW y (fSt F) i (chD F i r).2).2.1 ≤ 80000) (hH : ∀ x, (chD F i r).2 = some x → x.1 = 3 → ¬ (chW y (fSt F) i (chD F i r).2).2.2.2 = 0 → ∃ u, (homA x.2.2.2.1 (chW y (fSt F) i (chD F i r).2).1.1).2 = some u) : EvA g P 85 [va_rf (some (y 9)), va_rf (some (ss.getD i 0)), va_rf (some m)] h (fun h' z => StpA g h o y R R2 ss Ls Ds (9 * ((chW y (fSt F) i (chD F i r).2).2.1 - tNm (fSt F)) + 15) (kmO y * ((chW y (fSt F) i (chD F i r).2).2.1 - tNm (fSt F)) + (2 * nf 6 + (nf 4 + nf 0 + 40 + nf 1))) (chgA y F i c n r ack).1 z (chgA y F i c n r ack).2 h') := by
  obtain ⟨k0, k1, k4, kse, kde⟩ := kS.kinds
  have wf := kS.1.1
  have ok := kS.1.2.2
  have hg := kS.1.2.1
  have k9 := kS.2.1.2.2.1
  have k12 := kS.2.1.2.2.2
  obtain ⟨⟨a1, a2, a3⟩, -⟩ := kF.1
  obtain ⟨s1, s2, s3, s4, -⟩ := kse i hi
  obtain ⟨ll, xs, -, -, -, p4, -⟩ := kS.prem hi
  have kq' := kq
  obtain ⟨q1, q2, q3, q4, q5, q6, q7⟩ := kq'
  have lsv : (tSv (fSt F)).length = y 20 := kS.2.2.2.1.1.2.1
  have hil : i < (tSv (fSt F)).length := by omega
  have hak := RS.ack (P := P) (c := nI c) kS hi
  rw [← p4, ← q2] at hak
  refine e_85 (s_85_0 (k3 := km) (k6 := s1) (e8 := hm) (k9 := q1) (e11 := p4) (k12 := s3) (hc := hak) (kk := fun h0 x ⟨e1, e2⟩ => ?_))
  subst e1
  rw [q2] at e2
  subst e2
  rw [hm]
  refine s_85_16 (k3 := km) (hc := m_184 _ _) (kk := fun h0 x ⟨e1, e2⟩ => ?_)
  subst e1
  have e2 : x = akA (sLg ((tSv (fSt F)).getD i sr0)) c ack := by rw [e2, ha]; rfl
  subst e2
  refine s_85_23 (hc := m_early kS hi kq) (kk := fun h1 z er => ?_)
  rcases er with ⟨er, ez, eh⟩ | ⟨v, er, ez, n1, n2⟩
  · subst ez; subst eh
    have eA : chgA y F i c n r ack = chgB y F i c n r (akA (sLg ((tSv (fSt F)).getD i sr0)) c ack) (chD F i r) := by unfold chgA; rw [er]
    rw [eA]
    generalize akA (sLg ((tSv (fSt F)).getD i sr0)) c ack = ak at *
    refine s_85_32 (kt := fun _ => ?_) (kf := fun z => absurd rfl z)
    refine s_85_42 (hc := m_result wf q1) (kk := fun h2 x ⟨ex, np⟩ => ?_)
    subst ex
    rw [q2, q3, q5] at np
    obtain ⟨np1, np2, np3, np4, np5⟩ := np
    have cg1 := cgP (o := o) (y := y) wf ok (by omega) np1
    obtain ⟨kS1, -⟩ := RS.f9 kS cg1 (fun _ q => q.elim)
    have lq := wf.lt (a := q) (by omega)
    have kq1 : reqV h2 q c n r := kq.fr (np1.sm (fun q => q) lq)
    refine s_85_48 (hc := m_decide kS1 hi kq1 np2.1) (kk := fun h3 x ⟨d, ed, dd⟩ => ?_)
    have ed : chD F i r = d := ed
    rw [ed] at hb hH ⊢
    have w2 : hWF h2 := cg1.w
    have lp2 : hS h1 < hS h2 := by omega
    -- the heap behind decide
    have H3 : Ch (fun _ => False) 2 (2 * nf 6) h1 h3 ∧ ptN h3 (hS h1) (4, nI c, nI n, r.2.1, d.1.1, d.1.2.1, d.1.2.2, ak) ∧ ((d.2 = none ∧ x = none) ∨ ∃ v, d.2 = some v ∧ x = some (hS h2) ∧ hS h2 < hS h3 ∧ ptN h3 (hS h2) v) := by
      have pw : ptN (wIs h2 (hS h1) [(391, d.1.1), (392, d.1.2.1), (393, d.1.2.2)]) (hS h1) (4, nI c, nI n, r.2.1, d.1.1, d.1.2.1, d.1.2.2, ak) := by
        have g : ∀ f, hI (wIs h2 (hS h1) [(391, d.1.1), (392, d.1.2.1), (393, d.1.2.2)]) f (hS h1) = lk [(391, d.1.1), (392, d.1.2.1), (393, d.1.2.2)] f (hI h2 f (hS h1)) := fun f => by rw [rI_wIs, if_pos rfl]
        have e0 : hI h2 384 (hS h1) = 4 := congrArg (·.1) np3
        have e1 : hI h2 388 (hS h1) = nI c := congrArg (·.2.1) np3
        have e2 : hI h2 389 (hS h1) = nI n := congrArg (·.2.2.1) np3
        have e3 : hI h2 390 (hS h1) = r.2.1 := congrArg (·.2.2.2.1) np3
        have e4 : hI h2 394 (hS h1) = ak := congrArg (·.2.2.2.2.2.2.2) np3
        obtain ⟨t1, t2, t3, t4⟩ := np2
        refine ⟨⟨by rw [wIs_K]; exact t1, ?_, ?_, ?_⟩, ?_, by rw [wIs_R]; exact np4⟩
        · rw [g, g]; exact t2
        · rw [g, g]; exact t3
        · rw [g, g]; exact t4
        · unfold ptv
          rw [g, g, g, g, g, g, g, g]
          show (hI h2 384 (hS h1), hI h2 388 (hS h1), hI h2 389 (hS h1), hI h2 390 (hS h1), d.1.1, d.1.2.1, d.1.2.2, hI h2 394 (hS h1)) = _
          rw [e0, e1, e2, e3, e4]
      have cw : Ch (fun _ => False) 1 (nf 6) h1 (wIs h2 (hS h1) [(391, d.1.1), (392, d.1.2.1), (393, d.1.2.2)]) := (np1.tr (Ch.wIs _ w2 lp2)).mono (fun a ha q => q.elim id (fun q => by omega)) (Nat.le_refl _) (Nat.le_refl _)
      rcases dd with ⟨d1, d2, d3⟩ | ⟨v, d1, d2, d3⟩
      · rw [d3]
        exact ⟨cw.mono (fun _ _ q => q) (by omega) (by omega), pw, Or.inl ⟨d1, d2⟩⟩
      · obtain ⟨m1, m2, m3, m4, m5⟩ := d3
        rw [wIs_S] at m2 m3 m4 m5
        refine ⟨(cw.tr m1).mono (fun _ _ q => q.elim id id) (by omega) (by omega), pw.fr (m1.sm (fun q => q) (by rw [wIs_S]; exact lp2)), Or.inr ⟨v, d1, d2, by omega, m2, m3, m4⟩⟩
    obtain ⟨c3, pp3, ee3⟩ := H3
    clear dd np1 np2 np3 np4 kS1 kq1
    have cg3 := cgP (o := o) (y := y) wf ok (by omega) c3
    obtain ⟨kS3, fx3⟩ := RS.f9 kS cg3 (fun _ q => q.elim)
    have kF3 := fcR.fr wf k9 kF cg3 (fun q => q)
    have w3 := kS3.1.1
    have ok3 := kS3.1.2.2
    have k93 := kS3.2.1.2.2.1
    have e768 := kF3.1.1.2.1
    have k03 := kS3.kinds.1
    have e385 : hI h3 385 (hS h1) = 1 := by
      have e0 : hI h3 384 (hS h1) = 4 := congrArg (·.1) pp3.2.1
      rw [pp3.1.2.1, e0]; decide
    have cs3 : Cst g y h1 Ls Ds h3 Ls Ds 2 (2 * nf 6) := Cst.of cg3 fx3 (Nat.le_refl _) (Nat.le_refl _)
    -- from the call of makeRoom on
    have cont : ∀ y1 : Int32, 1 + y1 = unQ d.2 → Ev g P 85 78 [some (va_rf (some (y 9))), some (va_rf (some (ss.getD i 0))), some (va_rf (some m)), some (va_rf (some q)), some (.int ak), some (va_rf none), some (va_rf (some (hS h1))), some (va_rf x), none, none] [.int y1, .int (hI h3 385 (hS h1))] h3 (fun h' z => ∃ x, z = some (va_rf x) ∧ StpA g h1 o y R R2 ss Ls Ds (9 * ((chW y (fSt F) i d.2).2.1 - tNm (fSt F)) + 15) (kmO y * ((chW y (fSt F) i d.2).2.1 - tNm (fSt F)) + (2 * nf 6 + (nf 4 + nf 0 + 40 + nf 1))) (chgB y F i c n r ak d).1 x (chgB y F i c n r ak d).2 h') := by
      intro y1 ey
      have hrm : EvI g P 45 [va_rf (some (y 0)), va_rf (some (ss.getD i 0)), .int (unQ d.2), .int 1] h3 (fun h' r => r = (chW y (fSt F) i d.2).2.2.2 ∧ StpK g h3 (oX o h1 (y 0)) y R R2 ss Ls Ds (9 * ((chW y (fSt F) i d.2).2.1 - tNm (fSt F))) (kmO y * ((chW y (fSt F) i d.2).2.1 - tNm (fSt F))) (rmW (fSt F) i (chW y (fSt F) i d.2)) h') := RS.room (P := P) (need := unQ d.2) (lim := 1) hP6 kS3 hi hb
      rw [← e768] at hrm
      rw [e385]
      rw [show EvI g P 45 [va_rf (hR h3 768 (y 9)), va_rf (some (ss.getD i 0)), .int (unQ d.2), .int 1] h3 = EvI g P 45 [va_rf (hR h3 768 (y 9)), va_rf (some (ss.getD i 0)), .int (1 + y1), .int 1] h3 by rw [ey]] at hrm
      refine s_85_78 (k3 := k93) (e5 := e768) (k6 := k03) (hc := hrm) (kk := fun h4 v4 ⟨ev4, st⟩ => ?_)
      rw [ey]
      obtain ⟨o4, w4, L4, D4, cs4, c4, m4, z0, z1, z2, z3, z4⟩ := StpG.ofC kS3 kF3 (st.c ok3)
      obtain ⟨o5, w5, L5, c5, m5, y0, y1', y2⟩ := st
      have sm4 : ∀ a, hK h3 a = 7 → Sm h3 h4 a := fun a hk => y1'.smp hk w3
      have cg04 : CG (B9 y) _ _ h1 o h4 o4 := CG.tr wf ok (cg3.mono ok (fun _ _ q => q.elim) (Nat.le_refl _) (Nat.le_refl _)) z2
      have cst4 := cs3.tr z3
      have sm04 : Sm13 h1 o (y 9) h4 o4 := (Sm13.of wf cg3 a1 (fun q => q)).tr z4
      refine s_85_92 (kt := fun z => ?_) (kf := fun z => ?_)
      · -- there is room
        have nz : ¬ (chW y (fSt F) i d.2).2.2.2 = 0 := by rw [← ev4]; exact z
        rw [chgB_end hil nz]
        dsimp only
        obtain ⟨zs, ls⟩ := z0.lz hi
        have ls' := ls
        obtain ⟨kl, hd, lt, ea⟩ := ls'
        have gl : sLg ((tSv (fSt (setS F (rmW (fSt F) i (chW y (fSt F) i d.2))))).getD i sr0) = (chW y (fSt F) i d.2).1 := by
          show sLg ((tSv (rmW (fSt F) i (chW y (fSt F) i d.2))).getD i sr0) = _
          rw [ks_rm hil]; rfl
        have gc : sCu ((tSv (fSt (setS F (rmW (fSt F) i (chW y (fSt F) i d.2))))).getD i sr0) = sCu ((tSv (fSt F)).getD i sr0) := by
          show sCu ((tSv (rmW (fSt F) i (chW y (fSt F) i d.2))).getD i sr0) = _
          rw [ks_rm hil]; rfl
        have gl4 : sLg ((tSv (rmW (fSt F) i (chW y (fSt F) i d.2))).getD i sr0) = (chW y (fSt F) i d.2).1 := gl
        have ea4 : zs.map (aG h4) = (chW y (fSt F) i d.2).1.1 := by rw [ea, gl]
        have yo := kS.2.1.1
        have hseg := RS.seg kS hi
        obtain ⟨k, hk, ek, hkl⟩ := unQ_n (d := d.2)
        have hroom : ∃ u, hdG (chW y (fSt F) i d.2).1 = some u ∧ u.2.1.length + k ≤ y 22 := by
          have nz' := nz
          unfold chW mkrS at nz' ⊢
          rw [ek] at nz' ⊢
          exact mkr_room ⟨yo.2.2.1.1, by have := yo.2.2.1.2; omega⟩ (by omega) (fun u hu => (hseg.1 u (hseg.2 u hu)).1) (fun u hu => (hseg.1 u hu).2) nz'
        obtain ⟨u, hu1, hu2⟩ := hroom
        have hdT : ∃ T ∈ zs, hR h4 257 (L4.getD i ls0).1 = some T.1 ∧ u = aG h4 T := by
          rw [gl] at hd
          rcases hd with ⟨-, q2⟩ | ⟨T, hT, q1, q2⟩
          · unfold hdG at hu1
            rw [q2] at hu1
            cases hu1
          · refine ⟨T, hT, q1, ?_⟩
            unfold hdG at hu1
            rw [q2, ← ea4] at hu1
            exact (Option.some.inj ((find_nm kl.1 hT).symm.trans hu1)).symm
        obtain ⟨T, hT, hT1, eu⟩ := hdT
        have hlenT : (zPs T).length = u.2.1.length := by rw [eu]; show _ = ((zPs T).map (pA h4)).length; rw [List.length_map]
        have pp4 := pp3.fr (sm4 _ pp3.1.1)
        obtain ⟨po, pl⟩ := pp4.ok (Or.inr (vin_nI hc6 (by decide))) (Or.inl (show kM 4 = 0 by decide))
        have epv : (hI h4 391 (hS h1), hI h4 392 (hS h1), hI h4 393 (hS h1)) = d.1 := by
          have e1 : hI h4 391 (hS h1) = d.1.1 := congrArg (·.2.2.2.2.1) pp4.2.1
          have e2 : hI h4 392 (hS h1) = d.1.2.1 := congrArg (·.2.2.2.2.2.1) pp4.2.1
          have e3 : hI h4 393 (hS h1) = d.1.2.2 := congrArg (·.2.2.2.2.2.2.1) pp4.2.1
          rw [e1, e2, e3]
        have k384 : hI h4 384 (hS h1) = 4 := congrArg (·.1) pp4.2.1
        have tmP : tmK h4 o4 (L4.getD i ls0).1 (tNm (fSt (setS F (rmW (fSt F) i (chW y (fSt F) i d.2))))) zs (hS h1) := fun e3 => by rw [k384] at e3; exact absurd e3 (by decide)
        -- the end
        rcases ee3 with ⟨ed2, ex⟩ | ⟨v, ed2, ex, le, pe3⟩
        · subst ex
          refine s_85_106 (kt := fun _ => ?_) (kf := fun z => absurd rfl z)
          rw [ed2] at hkl
          have h137 := chg_137 (P := P) (r7 := none) (b7 := false) (x4 := ak) (x8 := unQ d.2) (r2 := some m) (r3 := some q) (r5 := none) (o9 := none) (o9' := none) (v := d.1) z0 z1 hi ls hT hT1 rfl (fun z hz => by
            have hz : z = hS h1 := by simpa using hz
            rw [hz]; exact ⟨po, pl, tmP⟩) (by show (zPs T).length + 1 ≤ y 22; omega) (by rw [gc]; exact hcut) epv
          refine Ev.imp h137 (fun h' z ⟨x, e1, e2⟩ => ⟨x, e1, ?_⟩)
          have eps : ((none : Option Nat).toList ++ [hS h1]).map (pA h4) = (d.2.map (effQ (chW y (fSt F) i d.2).1.1)).toList ++ [resQ c n r ak d.1] := by
            rw [ed2]
            show [pA h4 (hS h1)] = [resQ c n r ak d.1]
            rw [pp4.val]; rfl
          have e0 : d.2.isSome = false := by rw [ed2]; rfl
          rw [eps, gc] at e2
          rw [e0]
          exact (StpA.tr wf ok cg04 cst4 sm04 e2).le (by omega) (by omega)
        · subst ex
          have pe4 := pe3.fr (sm4 _ pe3.1.1)
          have ev1 : hI h4 384 (hS h2) = v.1 := congrArg (·.1) pe4.2.1
          have ed2' : (decA (sSf ((tSv (fSt F)).getD i sr0)) r (objA r.2.1 (sLg ((tSv (fSt F)).getD i sr0)).1)).2 = some v := by
            show (chD F i r).2 = some v
            rw [ed]; exact ed2
          obtain ⟨v23, vky⟩ := decA_v ed2'
          have vk64 : vinD v.2.2.2.1 64 := by
            rw [vky]
            obtain ⟨k', hk', ek'⟩ := inF_1 (n := 64) (x := r.2.1) (by decide) (by rw [show nI 64 = (64 : Int32) from rfl, hky]; decide)
            rw [ek']; exact vin_nI hk' (by decide)
          have kT0 : kT v.1 = 0 := by rcases v23 with q | q <;> (rw [q]; decide)
          obtain ⟨eo, el⟩ := pe4.ok (Or.inl kT0) (Or.inr vk64)
          rw [ed2] at hkl
          have hn2 : (zPs T).length + 2 ≤ y 22 := by
            have hkl : 1 + 1 ≤ k := hkl
            omega
          have e0 : d.2.isSome = true := by rw [ed2]; rfl
          have nep : ¬ hS h1 = hS h2 := by omega
          refine s_85_106 (kt := fun z => by cases z) (kf := fun _ => ?_)
          refine s_85_111 (k3 := pe4.1.1) (kt := fun zk => ?_) (kf := fun zk => ?_)
          · -- an OBJECT
            have h137 := chg_137 (P := P) (r7 := some (hS h2)) (b7 := true) (x4 := ak) (x8 := unQ d.2) (r2 := some m) (r3 := some q) (r5 := none) (o9 := none) (o9' := none) (v := d.1) z0 z1 hi ls hT hT1 rfl (fun z hz => by
              have hz : z = hS h2 ∨ z = hS h1 := by simpa using hz
              rcases hz with hz | hz
              · rw [hz]; exact ⟨eo, el, fun e3 => absurd e3 zk⟩
              · rw [hz]; exact ⟨po, pl, tmP⟩) hn2 (by rw [gc]; exact hcut) epv
            refine Ev.imp h137 (fun h' z ⟨x, e1, e2⟩ => ⟨x, e1, ?_⟩)
            have eps : ((some (hS h2) : Option Nat).toList ++ [hS h1]).map (pA h4) = (d.2.map (effQ (chW y (fSt F) i d.2).1.1)).toList ++ [resQ c n r ak d.1] := by
              rw [ed2]
              show [pA h4 (hS h2), pA h4 (hS h1)] = [effQ _ v, resQ c n r ak d.1]
              rw [pp4.val, pe4.val]
              unfold effQ
              rw [if_neg (by rw [← ev1]; exact zk)]; rfl
            rw [eps, gc] at e2
            rw [e0]
            exact (StpA.tr wf ok cg04 cst4 sm04 e2).le (by omega) (by omega)
          · -- a TOMB
            have v3 : v.1 = 3 := by rw [← ev1]; exact zk
            obtain ⟨uh, huh⟩ := hH v ed2 v3 nz
            obtain ⟨b1, b2, b3, b4, -⟩ := z0.kinds.2.2.2.1 i hi
            obtain ⟨ll4, xs4, -, -, -, p44, -⟩ := z0.prem hi
            have hhm := m_hom (P := P) (ky := v.2.2.2.1) kl
            have e390 : hI h4 390 (hS h2) = v.2.2.2.1 := congrArg (·.2.2.2.1) pe4.2.1
            rw [← p44, ← e390] at hhm
            refine s_85_120 (k3 := b1) (k6 := pe4.1.1) (e8 := p44) (k9 := b3) (hc := hhm) (kk := fun h5 x5 ⟨f1, f2⟩ => ?_)
            subst f1
            rw [e390, ea4] at f2
            rcases f2 with ⟨f2, f3⟩ | ⟨zh, hzh, f2, f3⟩
            · rw [huh] at f3; cases f3
            · subst f2
              refine s_85_134 (k3 := pe4.1.1) (kk := ?_)
              have w4' := z0.1.1
              have l2 : hS h2 < hS h5 := w4'.lt (by have := pe4.1.1; omega)
              obtain ⟨r1, r2⟩ := RS.w395 (r := some zh.1) z0 pe4.1.1 zk pe4.2.2
              have r3 := z1.w395 (u := some zh.1) pe4.1.1
              obtain ⟨l1', l2'⟩ := kl.w395 (r := some zh.1) pe4.1.1 zk pe4.2.2
              have cg05 := CG.late (u := some zh.1) cg04 (e := hS h2) (by omega) l2
              have rf : ∀ f a, ¬ f = 395 → hR (hpR h5 395 (hS h2) (some zh.1)) f a = hR h5 f a := fun f a ha => by rw [rR_R, if_neg (fun q => ha q.1)]
              have ls5 : lgS g (hpR h5 395 (hS h2) (some zh.1)) o4 (y 20) (y 22) (L4.getD i ls0).1 (tNm (fSt (setS F (rmW (fSt F) i (chW y (fSt F) i d.2))))) (sLg ((tSv (fSt (setS F (rmW (fSt F) i (chW y (fSt F) i d.2))))).getD i sr0)) zs := ⟨l1', by rw [rf _ _ (by decide)]; exact hd, by rw [rf _ _ (by decide)]; exact lt, by rw [l2']; exact ea⟩
              have kzh := kl.1.sg zh hzh
              obtain ⟨oz1, oz2, oz3⟩ := kl.1.2.2.1 zh hzh
              obtain ⟨nz1, nz2⟩ := kl.1.2.2.2.1 zh hzh
              have rN : hR (hpR h5 395 (hS h2) (some zh.1)) 395 (hS h2) = some zh.1 := by rw [rR_R, if_pos ⟨rfl, rfl⟩]
              have rP : hR (hpR h5 395 (hS h2) (some zh.1)) 395 (hS h1) = none := by
                rw [rR_R, if_neg (fun q => nep q.2)]; exact pp4.2.2
              have tmE : tmK (hpR h5 395 (hS h2) (some zh.1)) o4 (L4.getD i ls0).1 (tNm (fSt (setS F (rmW (fSt F) i (chW y (fSt F) i d.2))))) zs (hS h2) := by
                intro _
                refine ⟨zh.1, nmN zh, rN, kzh.1.1, oz2, ?_, kl.2.2.1 zh hzh, fun _ => ⟨zh, hzh, rfl⟩, fun yy hyy en => ?_⟩
                · show hI h5 512 zh.1 = _
                  rw [kzh.2.1]; exact nz1
                · obtain ⟨a', ha', ea'⟩ := List.getElem_of_mem hyy
                  obtain ⟨b', hb', eb'⟩ := List.getElem_of_mem hzh
                  have := kl.1.names a' b' ha' hb' (by rw [ea', eb']; exact en)
                  subst this
                  rw [ea'] at eb'
                  rw [eb']
              have h137 := chg_137 (P := P) (r7 := some (hS h2)) (b7 := true) (x4 := ak) (x8 := unQ d.2) (r2 := some m) (r3 := some q) (r5 := none) (o9 := none) (o9' := none) (v := d.1) r1 r3 hi ls5 hT (by rw [rf _ _ (by decide)]; exact hT1) rfl (fun z hz => by
                have hz : z = hS h2 ∨ z = hS h1 := by simpa using hz
                rcases hz with hz | hz
                · rw [hz]
                  exact ⟨eo, fun s hs => by rw [rN] at hs; cases hs; exact kzh.1.1, tmE⟩
                · rw [hz]
                  exact ⟨po, fun s hs => (by rw [rP] at hs; cases hs), fun e3 => (by
                    have e3 : hI h5 384 (hS h1) = 3 := e3
                    rw [k384] at e3; exact absurd e3 (by decide))⟩) hn2 (by rw [gc]; exact hcut) epv
              refine Ev.imp h137 (fun h' z ⟨x, e1, e2⟩ => ⟨x, e1, ?_⟩)
              have eps : ((some (hS h2) : Option Nat).toList ++ [hS h1]).map (pA (hpR h5 395 (hS h2) (some zh.1))) = (d.2.map (effQ (chW y (fSt F) i d.2).1.1)).toList ++ [resQ c n r ak d.1] := by
                have em : ∀ X, (d.2.map (effQ X)).toList = [effQ X v] := fun X => by rw [ed2]; rfl
                rw [em]
                show [pA _ (hS h2), pA _ (hS h1)] = [effQ _ v, resQ c n r ak d.1]
                have pa1 : pA (hpR h5 395 (hS h2) (some zh.1)) (hS h1) = resQ c n r ak d.1 := by
                  unfold pA hmF
                  rw [rP]
                  show (ptv h5 (hS h1), -1) = _
                  rw [pp4.2.1]; rfl
                have pa2 : pA (hpR h5 395 (hS h2) (some zh.1)) (hS h2) = effQ (chW y (fSt F) i d.2).1.1 v := by
                  unfold pA hmF effQ hmQ
                  rw [rN, if_pos v3, f3]
                  show (ptv h5 (hS h2), hI h5 512 zh.1) = (v, nI (nmN zh))
                  rw [pe4.2.1, kzh.2.1, nz1]
                rw [pa1, pa2]
              rw [eps, gc] at e2
              rw [e0]
              have sm05 : Sm13 h1 o (y 9) (hpR h5 395 (hS h2) (some zh.1)) o4 := fun a ha h0 h13 => by
                have la : ¬ a = hS h2 := fun q => by have := wf.lt h0; omega
                obtain ⟨t1, t2⟩ := sm04 a ha h0 h13
                exact ⟨t1.tr ⟨rfl, fun f => ⟨rfl, by rw [rR_R, if_neg (fun q => la q.2)]⟩, rfl, fun _ => ⟨rfl, rfl⟩⟩, t2⟩
              have cst5 : Cst g y h1 Ls Ds (hpR h5 395 (hS h2) (some zh.1)) L4 D4 (2 + 9 * ((chW y (fSt F) i d.2).2.1 - tNm (fSt F))) (2 * nf 6 + kmO y * ((chW y (fSt F) i d.2).2.1 - tNm (fSt F))) := by
                obtain ⟨t1, t2, t3⟩ := cst4
                unfold Cst
                rw [r2]
                exact ⟨t1, t2, t3⟩
              exact (StpA.tr wf ok cg05 cst5 sm05 e2).le (by omega) (by omega)
      · -- no room
        have zz : (chW y (fSt F) i d.2).2.2.2 = 0 := by rw [← ev4]; exact z
        have eB : chgB y F i c n r ak d = (setS F (rmW (fSt F) i (chW y (fSt F) i d.2)), some (4, 0, 0)) := if_pos zz
        rw [eB]
        refine s_85_95 (kk := s_85_98 (e2 := rfl) (hc := m_0 (hK_O_new h4 1)) (kk := fun h5 e5 => s_85_105 ⟨_, rfl, ?_⟩))
        rw [e5]
        obtain ⟨n1, n2⟩ := newA_of z0.1.1 (4, 0, 0)
        exact (StpA.new wf ok ⟨o4, w4, L4, D4, cs4, _, _, z0, z1, cg04, cst4, sm04⟩ n1 n2).le (by omega) (by omega)
    rcases ee3 with ⟨ed2, ex⟩ | ⟨v, ed2, ex, le, pe3⟩
    · subst ex
      exact s_85_57 (k3 := pp3.1.1) (kt := fun z => absurd rfl z) (kf := fun _ => s_85_69 (cont 0 (by rw [ed2]; rfl)))
    · subst ex
      refine s_85_57 (k3 := pp3.1.1) (kt := fun _ => s_85_73 (k3 := pe3.1.1) (kk := cont _ ?_)) (kf := fun z => by cases z)
      have ev1 : hI h3 384 (hS h2) = v.1 := congrArg (·.1) pe3.2.1
      rw [pe3.1.2.1, ev1, ed2]; rfl
  · subst ez
    have eA : chgA y F i c n r ack = (F, some v) := by unfold chgA; rw [er]
    rw [eA]
    refine s_85_32 (kt := fun z => by cases z) (kf := fun _ => s_85_39 ⟨_, rfl, ?_⟩)
    exact (StpA.new wf ok (StpG.rf kS kF) n1 n2).le (by omega) (by omega)
end CHG
