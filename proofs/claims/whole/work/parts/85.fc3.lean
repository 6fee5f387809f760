/-! the face: send, again, drop, twice, got, acked -/
def rqOK (F : fcT) : Prop := ∀ i, i < 6 → ∀ n, n < ((fCl F).getD i cl0).1.length → inF (((fCl F).getD i cl0).1.getD n rq0).2.1 64 = 1 ∧ ¬ (((fCl F).getD i cl0).1.getD n rq0).1 < 0 ∧ ¬ 3 < (((fCl F).getD i cl0).1.getD n rq0).1
theorem hpB_comm {h : hpT} {a b i j : Nat} {u v : Option Nat} (n : ¬ a = b) : hpB (hpB h a i u) b j v = hpB (hpB h b j v) a i u := by
  have e : u2 (u2 (hB h) a i u) b j v = u2 (u2 (hB h) b j v) a i u := by
    funext x y
    unfold u2
    by_cases c1 : x = b ∧ y = j
    · rw [if_pos c1, if_neg (fun q => n (q.1.symm.trans c1.1)), if_pos c1]
    · rw [if_neg c1]
      by_cases c2 : x = a ∧ y = i
      · rw [if_pos c2, if_pos c2]
      · rw [if_neg c2, if_neg c2, if_neg c1]
  show (h.1, h.2.1, h.2.2.1, h.2.2.2.1, h.2.2.2.2.1, h.2.2.2.2.2.1, u2 (u2 (hB h) a i u) b j v) = (h.1, h.2.1, h.2.2.1, h.2.2.2.1, h.2.2.2.2.1, h.2.2.2.2.2.1, u2 (u2 (hB h) b j v) a i u)
  rw [e]
section FC
variable {g : gcT} {P : pmT} {o o' w w' : Nat → Nat} {y : Nat → Nat} {R R2 : arT} {h h' h1 : hpT} {B : Nat → Prop} {i j t c m n p q : Nat} {ss : List Nat} {Ls : List lsT} {Ds : List (Nat × Nat)} {S S' : stA} {cs : csT} {F F' : fcT} {cl : List kcT} {nt : Nat → Option msT} {x : msT} {r : rqT} {v : anT} {ck ef : Nat} {u : Option Nat} {ua : Option anT} {x1 x2 x3 x4 x5 : Int32}
theorem StpF.y9 (kS : RS g h o w y R R2 ss Ls Ds (fSt F')) (cg : CG (fun z => z = y 9) c m h o h' o') (kF : fcR h' o' y ss cs F') : StpF g h o y R R2 ss Ls Ds c m F' h' := by
  obtain ⟨r1, r2⟩ := RS.f9 kS cg (fun z q => Or.inl q)
  have k9 := kS.2.1.2.2.1
  have k12 := kS.2.1.2.2.2
  exact ⟨o', w, Ls, Ds, cs, c, m, r1, kF, cg.mono kS.1.2.2 (fun z _ q => by rw [q]; exact kinds_ne (h := h) (by omega)) (Nat.le_refl _) (Nat.le_refl _), Cst.of cg r2 (Nat.le_refl _) (Nat.le_refl _)⟩
theorem StpF.rf (kS : RS g h o w y R R2 ss Ls Ds (fSt F)) (kF : fcR h o y ss cs F) : StpF g h o y R R2 ss Ls Ds 0 0 F h := ⟨o, w, Ls, Ds, cs, 0, 0, kS, kF, CG.rf kS.1.1 kS.1.2.2 _, Nat.le_refl _, Nat.le_refl _, Nat.le_refl _⟩
theorem StpF.le {kc km kc' km' : Nat} (z : StpF g h o y R R2 ss Ls Ds kc km F' h') (h1 : kc ≤ kc') (h2 : km ≤ km') : StpF g h o y R R2 ss Ls Ds kc' km' F' h' := by
  obtain ⟨o2, w2, L2, D2, cs2, c2, m2, z0, z1, z2, z3, z4, z5⟩ := z
  exact ⟨o2, w2, L2, D2, cs2, c2, m2, z0, z1, z2, by omega, by omega, z5⟩
theorem cgN (wf : hWF h) (ok : oOK o) (k9 : hK h (y 9) = 13) (x : Ch (fun _ => False) c m h h1) : CG (fun _ => False) c m h o h1 (oX o h (y 9)) := CG.of x (fun _ _ q => q.elim) (fun a ha => if_pos ha) (oX.ok ok (wf.lt (by omega))) (nm9 wf x (fun _ q => q.elim))
theorem msgV.new (k9 : hK h (y 9) = 13) (wf : hWF h) {a : Int32} {tg : Option Nat} {an : Option Nat} {t : Option Nat} {va : Option anT} {cl : List kcT} (x : newM h h1 q a tg an) (h6 : i < 6) (hn : 1 ≤ n ∧ n ≤ (cl.getD i cl0).1.length) (oq : o q = y 9) (kq : reqV h q i n ((cl.getD i cl0).1.getD (n - 1) rq0)) (ht : tg = t.map (fun t => ss.getD t 0)) (ht' : ∀ z, t = some z → z < y 20) (ha : ansO h o (y 9) an va) : msgV h1 (oX o h (y 9)) y ss cl (hS h) (i, n, a, t, va) := by
  obtain ⟨x1, x2, x3, x4, x5, x6, x7⟩ := x
  have sm : Sm9 h o (y 9) h1 (oX o h (y 9)) := fun z _ h0 _ _ _ _ _ => ⟨x1.sm (fun q => q) (wf.lt h0), if_pos (wf.lt h0)⟩
  have := kq.1
  obtain ⟨s1, s2⟩ := sm q oq (by omega) (by omega) (by omega) (by omega) (by omega) (by omega)
  exact ⟨x3, if_neg (Nat.lt_irrefl _), ⟨h6, hn⟩, ⟨q, x4, s2.trans oq, kq.fr s1⟩, x5, ⟨by rw [x6, ht], ht'⟩, by rw [x7]; exact ha.fr sm⟩
/-- a new MESSAGE comes to a place -/
theorem StpF.msg (kS : RS g h o w y R R2 ss Ls Ds (fSt F)) (kF : fcR h o y ss cs F) (hp : p < 40) {a : Int32} {tg an : Option Nat} (x : newM h h1 q a tg an) {mx : msT} (hm : msgV h1 (oX o h (y 9)) y ss (fCl F) (hS h) mx) : StpF g h o y R R2 ss Ls Ds 1 (nf 5) (netA F p (some mx)) (hpB h1 (y 11) p (some (hS h))) := by
  have wf := kS.1.1
  have ok := kS.1.2.2
  have k9 := kS.2.1.2.2.1
  have cg1 := cgN wf ok k9 x.1
  have kF1 := fcR.fr wf k9 kF cg1 (fun q => q)
  have cg2 := CG.net (p := p) (um := some (hS h)) cg1.w cg1.2.2.1 kF1.1
  have kF2 := kF1.net hp (Or.inr ⟨hS h, mx, rfl, rfl, hm⟩)
  exact StpF.y9 kS (CG.tr wf ok (cg1.mono ok (fun _ _ q => q.elim) (Nat.le_refl _) (Nat.le_refl _)) cg2) kF2
theorem m_again (kS : RS g h o w y R R2 ss Ls Ds (fSt F)) (kF : fcR h o y ss cs F) (how : owOK y (fSt F)) (hrq : rqOK F) : EvI g P 64 [va_rf (some (y 9)), .int x1, .int x2] h (fun h' z => z = (agaA F x1 x2).2 ∧ StpF g h o y R R2 ss Ls Ds 1 (nf 5) (agaA F x1 x2).1 h') := by
  have wf := kS.1.1
  have k9 := kS.2.1.2.2.1
  refine e_64 (s_64_0 (k3 := k9) (hc := kF.req k9) (kk := fun h2 z ⟨e1, e2⟩ => ?_))
  subst e1
  rcases e2 with ⟨e2, e3⟩ | ⟨i, n, q, e2, e3, e4, e5, e6, e7, e8, e9, e10⟩
  · have eA : agaA F x1 x2 = (F, -1) := by unfold agaA; rw [e2]
    rw [eA]
    exact s_64_6 (kt := fun q => absurd e3 q) (kf := fun _ => s_64_11 ⟨_, rfl, rfl, (StpF.rf kS kF).le (by omega) (by omega)⟩)
  · have eA : agaA F x1 x2 = postA F i n (((fCl F).getD i cl0).1.getD (n - 1) rq0).2.1 := by unfold agaA; rw [e2]
    rw [eA]
    subst e8
    refine s_64_6 (kt := fun _ => ?_) (kf := fun z => by cases z)
    obtain ⟨k1, k2, k3, k4, k5, k6⟩ := kF.2.1.1
    obtain ⟨f1, f2⟩ := cs_at kF.2.1.1 e5
    have ec : x1.toNatClampNeg = i := by rw [e3]; exact nI_clamp (by omega)
    have eB : hB h2 (y 10) x1.toNatClampNeg = some (cs.getD i cs0).1 := by rw [ec]; exact f1
    have eky : hI h2 451 q = (((fCl F).getD i cl0).1.getD (n - 1) rq0).2.1 := e10.2.2.2.2.1
    have hpo := m_post (P := P) (i := i) kS kF how e5 e10.1 (by rw [eky]; exact (hrq i e5 (n - 1) (by omega)).1)
    rw [eky, ← eB] at hpo
    refine s_64_13 (k3 := k9) (e5 := k2) (k6 := k3) (i7 := by rw [k4, e3]; exact vin_nI e5 (by decide)) (hc := hpo) (kk := fun h3 z q => s_64_24 ⟨_, rfl, ?_⟩)
    rcases q with ⟨q1, q2, q3⟩ | ⟨q1, q2, q3, q4⟩ | ⟨p, t, h4, q1, q2, q3, q4, q5, q6, q7⟩
    · have eP : postA F i n (((fCl F).getD i cl0).1.getD (n - 1) rq0).2.1 = (F, -2) := if_pos q1
      rw [eP, q2]
      exact ⟨q3, (StpF.rf kS kF).le (by omega) (by omega)⟩
    · have eP : postA F i n (((fCl F).getD i cl0).1.getD (n - 1) rq0).2.1 = (F, -3) := by unfold postA; rw [if_neg q1, q2]
      rw [eP, q3]
      exact ⟨q4, (StpF.rf kS kF).le (by omega) (by omega)⟩
    · have eP : postA F i n (((fCl F).getD i cl0).1.getD (n - 1) rq0).2.1 = (netA F p (some (i, n, nI (loA ((fCl F).getD i cl0)), some t, none)), nI p) := by
        unfold postA
        rw [if_neg q1, q4, q2, nI_clamp (by have := kS.2.1.1.1.2; omega)]
        rfl
      rw [eP, q6]
      exact ⟨q5, StpF.msg kS kF (fpA_lt q4) q7 (msgV.new (t := some t) k9 wf q7 e5 ⟨e6, e7⟩ e9 e10 rfl (fun z ez => by cases ez; exact q3) (Or.inl ⟨rfl, rfl⟩))⟩
theorem msgA_no (kF : fcR h o y ss cs F) (e : ∀ p, p < 40 → x1 = nI p → fNt F p = none) : msgA F x1 = none := by
  unfold msgA
  split
  · rfl
  · rename_i z
    obtain ⟨p, hp, ep⟩ := inF_1 (n := 40) (by decide) z
    have : x1.toNatClampNeg = p := by rw [ep]; exact nI_clamp (by omega)
    rw [this, e p hp ep]; rfl
theorem msgA_yes (hp : p < 40) (ep : x1 = nI p) (e : fNt F p = some x) : msgA F x1 = some (p, x) := by
  have e1 : x1.toNatClampNeg = p := by rw [ep]; exact nI_clamp (by omega)
  have : ¬ inF x1 40 = 0 := by
    rw [ep]
    have : ∀ p, p < 40 → ¬ inF (nI p) 40 = 0 := by decide +kernel
    exact this p hp
  unfold msgA
  rw [if_neg this, e1, e]; rfl
theorem m_drop (kS : RS g h o w y R R2 ss Ls Ds (fSt F)) (kF : fcR h o y ss cs F) : EvI g P 66 [va_rf (some (y 9)), .int x1] h (fun h' z => z = (drpA F x1).2 ∧ StpF g h o y R R2 ss Ls Ds 0 0 (drpA F x1).1 h') := by
  have wf := kS.1.1
  have ok := kS.1.2.2
  have k9 := kS.2.1.2.2.1
  obtain ⟨⟨a1, a2, a3⟩, a4, a5, a6, a7⟩ := kF.1
  refine e_66 (s_66_0 (k3 := k9) (hc := m_messageAt k9 a4 a5 a6) (kk := fun h2 z ⟨e1, e2⟩ => ?_))
  subst e1
  rcases kF.msg x1 with ⟨e, f⟩ | ⟨p, m, x, e3, e4, e5, e6, e7⟩
  · rw [e] at e2
    have eA : drpA F x1 = (F, 0) := by unfold drpA; rw [msgA_no kF f]
    rw [eA]
    exact s_66_5 (kt := fun q => absurd e2 q) (kf := fun _ => s_66_8 ⟨_, rfl, rfl, StpF.rf kS kF⟩)
  · rw [e5] at e2
    subst e2
    have eA : drpA F x1 = (netA F p none, 1) := by unfold drpA; rw [msgA_yes e3 e4 e6]
    rw [eA]
    refine s_66_5 (kt := fun _ => s_66_10 (k3 := k9) (e5 := a4) (k6 := a5) (i7 := by rw [a6, e4]; exact vin_nI e3 (by decide)) (hq := ⟨_, rfl, rfl, ?_⟩)) (kf := fun q => by cases q)
    rw [e4, nI_clamp (by omega)]
    exact StpF.y9 kS (CG.net wf ok kF.1) (kF.net e3 (Or.inl ⟨rfl, rfl⟩))
theorem m_twice (kS : RS g h o w y R R2 ss Ls Ds (fSt F)) (kF : fcR h o y ss cs F) : EvI g P 67 [va_rf (some (y 9)), .int x1] h (fun h' z => z = (twiA F x1).2 ∧ StpF g h o y R R2 ss Ls Ds 0 0 (twiA F x1).1 h') := by
  have wf := kS.1.1
  have ok := kS.1.2.2
  have k9 := kS.2.1.2.2.1
  obtain ⟨⟨a1, a2, a3⟩, a4, a5, a6, a7⟩ := kF.1
  refine e_67 (s_67_0 (k3 := k9) (hc := m_messageAt k9 a4 a5 a6) (kk := fun h2 z ⟨e1, e2⟩ => ?_))
  subst e1
  rcases kF.msg x1 with ⟨e, f⟩ | ⟨p, m, x, e3, e4, e5, e6, e7⟩
  · rw [e] at e2
    have eA : twiA F x1 = (F, -1) := by unfold twiA; rw [msgA_no kF f]
    rw [eA]
    exact s_67_5 (kt := fun q => absurd e2 q) (kf := fun _ => s_67_10 ⟨_, rfl, rfl, StpF.rf kS kF⟩)
  · rw [e5] at e2
    subst e2
    refine s_67_5 (kt := fun _ => ?_) (kf := fun q => by cases q)
    refine s_67_12 (k3 := k9) (hc := m_freePlace k9 a4 a5 a6) (kk := fun h3 z ⟨g1, g2⟩ => ?_)
    subst g1
    rw [kF.free] at g2
    cases ef : fpA (fNt F) with
    | none =>
      rw [ef] at g2
      have g2 : z = -1 := g2
      have eA : twiA F x1 = (F, -3) := by unfold twiA; rw [msgA_yes e3 e4 e6]; dsimp only; rw [ef]
      rw [eA]
      exact s_67_16 (kt := fun q => absurd g2 q) (kf := fun _ => s_67_22 ⟨_, rfl, rfl, StpF.rf kS kF⟩)
    | some p' =>
      rw [ef] at g2
      have g2 : z = nI p' := g2
      subst g2
      have hp := fpA_lt ef
      have eA : twiA F x1 = (netA F p' (some x), nI p') := by unfold twiA; rw [msgA_yes e3 e4 e6]; dsimp only; rw [ef]
      rw [eA]
      have k6 := e7.1
      refine s_67_16 (kt := fun _ => s_67_25 (k3 := k9) (e5 := a4) (k6 := a5) (i7 := by rw [a6]; exact vin_nI hp (by decide)) (c8 := fun b eb => by cases eb; rw [k6]; decide) (hq := ⟨_, rfl, rfl, ?_⟩)) (kf := fun q1 => absurd q1 (by
        have : ∀ p, p < 40 → ¬ nI p = -1 := by decide +kernel
        exact this p' hp))
      rw [nI_clamp (by omega)]
      exact StpF.y9 kS (CG.net wf ok kF.1) (kF.net hp (Or.inr ⟨m, x, rfl, rfl, e7⟩))
theorem m_got (k9 : hK h (y 9) = 13) (kF : fcR h o y ss cs F) : EvI g P 69 [va_rf (some (y 9)), .int x1, .int x2, .int x3] h (fun h' z => h' = h ∧ z = gotA F x1 x2 x3) := by
  refine e_69 (s_69_0 (k3 := k9) (hc := kF.req k9) (kk := fun h2 z ⟨e1, e2⟩ => ?_))
  subst e1
  rcases e2 with ⟨e2, e3⟩ | ⟨i, n, q, e2, e3, e4, e5, e6, e7, e8, e9, e10⟩
  · have eA : gotA F x1 x2 x3 = -1000000 := by unfold gotA; rw [e2]
    rw [eA]
    exact s_69_6 (kt := fun q => absurd e3 q) (kf := fun _ => s_69_9 ⟨_, rfl, rfl, rfl⟩)
  · subst e8
    refine s_69_6 (kt := fun _ => ?_) (kf := fun z => by cases z)
    obtain ⟨k1, k2, k3, k4, k5, k6⟩ := kF.2.1.1
    obtain ⟨f1, d1, d2, d3, d4, d5, d6, d7, d8, d9⟩ := cs_at kF.2.1.1 e5
    obtain ⟨c1, c2, c3⟩ := kF.2.2.1.2 i e5
    have ec : x1.toNatClampNeg = i := by rw [e3]; exact nI_clamp (by omega)
    have eB : hB h2 (y 10) x1.toNatClampNeg = some (cs.getD i cs0).1 := by rw [ec]; exact f1
    rw [c1] at d9
    have em : x2 - 1 = nI (n - 1) := by
      have := nI_1 (n - 1)
      rw [show n - 1 + 1 = n from by omega] at this
      rw [e4, ← this, Int32.add_sub_cancel]
    have em' : (x2 - 1).toNatClampNeg = n - 1 := by rw [em]; exact nI_clamp (by omega)
    have c3' := c3 (n - 1) (by omega)
    refine s_69_12 (k3 := k9) (e5 := k2) (k6 := k3) (i7 := by rw [k4, e3]; exact vin_nI e5 (by decide)) (e9 := eB) (k10 := d1) (e12 := d3) (k13 := d6) (i14 := by rw [em, d7]; exact vin_nI (by omega) (by decide)) (kt := fun z => ?_) (kf := fun z => ?_)
    · rw [em'] at z ⊢
      rcases c3' with ⟨b1, b2⟩ | ⟨a, v, b1, b2, b3, b4⟩
      · exact absurd b1 z
      · have eA : gotA F x1 x2 x3 = if x3 = 0 then v.1 else if x3 = 1 then v.2.1 else if x3 = 2 then v.2.2 else -1000000 := by
          unfold gotA
          rw [e2]
          dsimp only
          rw [b2]
        rw [eA]
        refine s_69_35 (k1000 := fun q => s_69_64 (e2 := b1) (k3 := b3.1) (hq := ⟨_, rfl, rfl, by rw [if_pos q]; exact b3.2.1⟩)) (k1001 := fun q => s_69_70 (e2 := b1) (k3 := b3.1) (hq := ⟨_, rfl, rfl, by rw [q, if_neg (by decide), if_pos rfl]; exact b3.2.2.1⟩)) (k1002 := fun q => s_69_76 (e2 := b1) (k3 := b3.1) (hq := ⟨_, rfl, rfl, by rw [q, if_neg (by decide), if_neg (by decide), if_pos rfl]; exact b3.2.2.2⟩)) (kd := fun q => s_69_82 ⟨_, rfl, rfl, ?_⟩)
        rw [if_neg (fun z => by rw [z] at q; revert q; decide), if_neg (fun z => by rw [z] at q; revert q; decide), if_neg (fun z => by rw [z] at q; revert q; decide)]
    · rw [em'] at z
      rcases c3' with ⟨b1, b2⟩ | ⟨a, v, b1, b2, b3, b4⟩
      · have eA : gotA F x1 x2 x3 = -1000000 := by
          unfold gotA
          rw [e2]
          dsimp only
          rw [b2]
        rw [eA]
        exact s_69_32 ⟨_, rfl, rfl, rfl⟩
      · rw [b1] at z; cases z
theorem m_acked (k9 : hK h (y 9) = 13) (kF : fcR h o y ss cs F) : EvI g P 70 [va_rf (some (y 9)), .int x1] h (fun h' z => h' = h ∧ z = ackdA F x1) := by
  refine e_70 (s_70_0 (hc := m_isClient) (kk := fun h' v ⟨e1, e2⟩ => ?_))
  subst e1; subst e2
  refine s_70_4 (kt := fun z => s_70_19 (s_70_20 ⟨_, rfl, rfl, (if_pos z).symm⟩)) (kf := fun z => ?_)
  obtain ⟨i, hi6, ei⟩ := inF_1 (n := 6) (by decide) z
  have ec : x1.toNatClampNeg = i := by rw [ei]; exact nI_clamp (by omega)
  obtain ⟨k1, k2, k3, k4, k5, k6⟩ := kF.2.1.1
  obtain ⟨f1, f2⟩ := cs_at kF.2.1.1 hi6
  have eB : hB h' (y 10) x1.toNatClampNeg = some (cs.getD i cs0).1 := by rw [ec]; exact f1
  have hlo := m_leastOpen (g := g) (P := P) f2
  rw [← eB] at hlo
  refine s_70_7 (k3 := k9) (e5 := k2) (k6 := k3) (i7 := by rw [k4, ei]; exact vin_nI hi6 (by decide)) (e9 := eB) (k10 := f2.1) (hc := hlo) (kk := fun h2 x ⟨e1, e2⟩ => s_70_16 (s_70_20 ⟨_, rfl, e1, ?_⟩))
  rw [e2, kF.lo hi6]
  unfold ackdA
  rw [if_neg z, ec]
end FC
