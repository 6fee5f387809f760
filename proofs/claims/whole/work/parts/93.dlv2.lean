/-! deliver -/
def kmC (y : Nat → Nat) : Nat := kmO y * 2 + (2 * nf 6 + (nf 4 + nf 0 + 40 + nf 1) + (nf 4 + nf 0 + 40) + nf 1) + nf 5
section DLV
variable {g : gcT} {P : pmT} {o o' w w' : Nat → Nat} {y : Nat → Nat} {R R2 : arT} {h h' h1 h2 : hpT} {B : Nat → Prop} {i j t c m n p q e : Nat} {ss : List Nat} {Ls L1 : List lsT} {Ds D1 : List (Nat × Nat)} {S S' : stA} {cs : csT} {F F' : fcT} {r : rqT} {v : anT} {kc km kc' km' : Nat} {ky ak ack : Int32} {d : anT × Option ptT} {u : Option Nat} {x1 : Int32}
theorem chgA_cl : fCl (chgA y F i c n r ack).1 = fCl F ∧ fNt (chgA y F i c n r ack).1 = fNt F ∧ fCk (chgA y F i c n r ack).1 = fCk F := by
  unfold chgA
  split
  · exact ⟨rfl, rfl, rfl⟩
  · unfold chgB
    split
    · exact ⟨rfl, rfl, rfl⟩
    · split
      · exact ⟨rfl, rfl, rfl⟩
      · exact ⟨rfl, rfl, rfl⟩
theorem fncA_cl : (fncA F i).2 = F.2 := by
  unfold fncA
  split <;> rfl
theorem srvA_cl : fCl (srvA y F i c n r ack).1 = fCl F ∧ fNt (srvA y F i c n r ack).1 = fNt F ∧ fCk (srvA y F i c n r ack).1 = fCk F := by
  have e1 : fCl (fncA F i) = fCl F := congrArg (·.1) (fncA_cl (F := F) (i := i))
  have e2 : fNt (fncA F i) = fNt F := congrArg (·.2.1) (fncA_cl (F := F) (i := i))
  have e3 : fCk (fncA F i) = fCk F := congrArg (·.2.2.1) (fncA_cl (F := F) (i := i))
  unfold srvA
  split
  · exact ⟨e1, e2, e3⟩
  · split
    · exact ⟨e1, e2, e3⟩
    · obtain ⟨a, b, d⟩ := chgA_cl (y := y) (F := fncA F i) (i := i) (c := c) (n := n) (r := r) (ack := ack)
      exact ⟨a.trans e1, b.trans e2, d.trans e3⟩
theorem m_deliver (hP6 : P 206 = cpyO) (kS : RS g h o w y R R2 ss Ls Ds (fSt F)) (kF : fcR h o y ss cs F) (hpre : ∀ j x t, msgA F x1 = some (j, x) → x.2.2.2.2 = none → x.2.2.2.1 = some t → sSt ((tSv (fSt F)).getD t sr0) = 0 → srvP y F t x.1 x.2.1 (rqF F x.1 x.2.1)) (hst : ∀ t, t < y 20 → sSt ((tSv (fSt F)).getD t sr0) = 0 ∨ sSt ((tSv (fSt F)).getD t sr0) = 1 ∨ sSt ((tSv (fSt F)).getD t sr0) = 2) : EvI g P 65 [va_rf (some (y 9)), .int x1] h (fun h' z => z = (dlvA y F x1).2 ∧ StpF g h o y R R2 ss Ls Ds 46 (kmC y) (dlvA y F x1).1 h') := by
  have wf := kS.1.1
  have ok := kS.1.2.2
  have k9 := kS.2.1.2.2.1
  obtain ⟨⟨a1, a2, a3⟩, a4, a5, a6, a7⟩ := kF.1
  refine e_65 (s_65_0 (k3 := k9) (hc := m_messageAt k9 a4 a5 a6) (kk := fun h0 z ⟨e1, e2⟩ => ?_))
  subst e1
  rcases kF.msg x1 with ⟨e, f⟩ | ⟨p, m, x, e3, e4, e5, e6, e7⟩
  · rw [e] at e2
    have eA : dlvA y F x1 = (F, -1) := by unfold dlvA; rw [msgA_no kF f]
    rw [eA]
    exact s_65_5 (kt := fun q => absurd e2 q) (kf := fun _ => s_65_10 ⟨_, rfl, rfl, (StpF.rf kS kF).le (by omega) (by omega)⟩)
  · rw [e5] at e2
    subst e2
    have eM := msgA_yes e3 e4 e6
    have e7' := e7
    obtain ⟨m1, m2, ⟨m3, m3', m3''⟩, ⟨q, m4, m5, m6⟩, m7, ⟨m8, m8'⟩, m9⟩ := e7'
    have ecp : x1.toNatClampNeg = p := by rw [e4]; exact nI_clamp (by omega)
    have hvp : vinD x1 (hN h0 (y 11)) := by rw [a6, e4]; exact vin_nI e3 (by decide)
    refine s_65_5 (kt := fun _ => ?_) (kf := fun q => by cases q)
    have drop1 : StpF g h0 o y R R2 ss Ls Ds 46 (kmC y) (netA F p none) (hpB h0 (y 11) p none) := (StpF.y9 (F' := netA F p none) kS (CG.net wf ok kF.1) (kF.net e3 (Or.inl ⟨rfl, rfl⟩))).le (by omega) (by omega)
    refine s_65_12 (k3 := m1) (kt := fun z => ?_) (kf := fun z => ?_)
    · -- a REQUEST
      have x0 : x.2.2.2.2 = none := by
        rcases m9 with ⟨-, q⟩ | ⟨a, v, q, -⟩
        · exact q
        · rw [z] at q; cases q
      refine s_65_53 (k3 := m1) (kt := fun z1 => ?_) (kf := fun z1 => ?_)
      · have x3 : x.2.2.2.1 = none := by
          rw [m8] at z1
          cases hx : x.2.2.2.1 with
          | none => rfl
          | some t => rw [hx] at z1; cases z1
        have eA : dlvA y F x1 = (netA F p none, 1) := by unfold dlvA; rw [eM]; dsimp only; rw [x0]; dsimp only; rw [x3]
        rw [eA]
        refine s_65_70 (k3 := k9) (e5 := a4) (k6 := a5) (i7 := hvp) (hq := ⟨_, rfl, rfl, ?_⟩)
        rw [ecp]; exact drop1
      · obtain ⟨t, x3⟩ : ∃ t, x.2.2.2.1 = some t := by
          rw [m8] at z1
          cases hx : x.2.2.2.1 with
          | none => rw [hx] at z1; exact absurd rfl z1
          | some t => exact ⟨t, rfl⟩
        have ht := m8' t x3
        rw [x3] at m8
        have m8 : hR h0 322 m = some (ss.getD t 0) := m8
        obtain ⟨⟨b1, b2, b3⟩, ⟨c1, -⟩, -⟩ := kS.2.2.2.1.2.2 t ht
        rw [m8]
        refine s_65_62 (k3 := b1) (kt := fun z2 => ?_) (kf := fun z2 => ?_)
        · rw [c1] at z2
          refine s_65_79 (k3 := b1) (kt := fun z3 => ?_) (kf := fun z3 => ?_)
          · rw [c1] at z3
            have s0 : sSt ((tSv (fSt F)).getD t sr0) = 0 := by
              rcases hst t ht with q | q | q
              · exact q
              · exact absurd q z3
              · exact absurd q z2
            have hsv := m_serve (P := P) (m := m) hP6 kS kF ht m1 m2 m4 m5 m6 m7 (hpre p x t eM x0 x3 s0)
            refine s_65_89 (k3 := k9) (hc := hsv) (kk := fun h2 z ⟨Δ, st, hΔ, _⟩ => ?_)
            have eA : dlvA y F x1 = dlvZ (srvA y F t x.1 x.2.1 (rqF F x.1 x.2.1) x.2.2.1) p x := by
              unfold dlvA; rw [eM]; dsimp only; rw [x0]; dsimp only; rw [x3]; dsimp only; rw [if_neg z2, if_neg z3]
            obtain ⟨cl1, cl2, -⟩ := srvA_cl (y := y) (F := F) (i := t) (c := x.1) (n := x.2.1) (r := rqF F x.1 x.2.1) (ack := x.2.2.1)
            have st : StpA g h0 o y R R2 ss Ls Ds (9 * Δ + 27) (kmO y * Δ + (2 * nf 6 + (nf 4 + nf 0 + 40 + nf 1) + (nf 4 + nf 0 + 40) + nf 1)) (srvA y F t x.1 x.2.1 (rqF F x.1 x.2.1) x.2.2.1).1 z (srvA y F t x.1 x.2.1 (rqF F x.1 x.2.1) x.2.2.1).2 h2 := st
            have hkm : kmO y * Δ ≤ kmO y * 2 := Nat.mul_le_mul_left _ hΔ
            generalize srvA y F t x.1 x.2.1 (rqF F x.1 x.2.1) x.2.2.1 = Z at *
            obtain ⟨F2, an⟩ := Z
            dsimp only at st cl1 cl2
            obtain ⟨o2, w2, L2, D2, cs2, c2, m2', z0, z1', z2', z3', z4, z5⟩ := st
            obtain ⟨⟨A1, A2, A3⟩, A4, A5, A6, A7⟩ := z1'.1
            have k92 := z0.2.1.2.2.1
            have wf2 := z0.1.1
            have ok2 := z0.1.2.2
            have hvp2 : vinD x1 (hN h2 (y 11)) := by rw [A6, e4]; exact vin_nI e3 (by decide)
            rcases z5 with ⟨q1, q2⟩ | ⟨a, v, q1, q2, q3, q4⟩
            · subst q1; subst q2
              rw [eA]
              refine s_65_95 (kt := fun z => absurd rfl z) (kf := fun _ => s_65_102 (k3 := k92) (e5 := A4) (k6 := A5) (i7 := hvp2) (hq := ⟨_, rfl, rfl, ?_⟩))
              rw [ecp]
              have s1 := StpF.y9 (F' := netA F2 p none) z0 (CG.net wf2 ok2 z1'.1) (z1'.net e3 (Or.inl ⟨rfl, rfl⟩))
              exact (StpF.tr wf ok z2' z3' s1).le (by omega) (by unfold kmC; omega)
            · subst q1; subst q2
              rw [eA]
              refine s_65_95 (kt := fun _ => ?_) (kf := fun z => by cases z)
              refine s_65_111 (k3 := k92) (kk := ?_)
              obtain ⟨smm, omm⟩ := z4 m m2 (by omega) (by omega)
              obtain ⟨smq, omq⟩ := z4 q m5 (by have := m6.1; omega) (by have := m6.1; omega)
              have km2 : hK h2 m = 6 := by rw [smm.1]; exact m1
              have l2 : m < hS h2 := wf2.lt (by omega)
              have e320 : hR h2 320 m = some q := by rw [(smm.2.1 320).2]; exact m4
              have e321 : hI h2 321 m = x.2.2.1 := by rw [(smm.2.1 321).1]; exact m7
              refine s_65_119 (k3 := by rw [hK_O l2]; exact km2) (e5 := rfl) (hc := m_24 (hK_O_new h2 5)) (kk := fun h3 e => ?_)
              have e : h3 = hpR (hpR (hpI (hpR (hpO h2 5) 320 (hS h2) (some q)) 321 (hS h2) x.2.2.1) 322 (hS h2) none) 323 (hS h2) (some a) := by
                rw [e]
                show hpR (hpR (hpI (hpR (hpO h2 5) 320 (hS h2) (hR h2 320 m)) 321 (hS h2) (hI h2 321 m)) 322 (hS h2) none) 323 (hS h2) (some a) = _
                rw [e320, e321]
              have nm : newM h2 h3 q x.2.2.1 none (some a) := by rw [e]; exact newM_of wf2
              have mq : reqV h2 q x.1 x.2.1 (((fCl F2).getD x.1 cl0).1.getD (x.2.1 - 1) rq0) := by rw [cl1]; exact m6.fr smq
              have mv : msgV h3 (oX o2 h2 (y 9)) y ss (fCl F2) (hS h2) (x.1, x.2.1, x.2.2.1, none, some v) := msgV.new (t := none) (va := some v) k92 wf2 nm m3 ⟨m3', by rw [cl1]; exact m3''⟩ (omq.trans m5) mq rfl (fun z ez => by cases ez) (Or.inr ⟨a, v, rfl, rfl, q3, q4⟩)
              have s1 := StpF.msg z0 z1' e3 nm mv
              have k11 : hK h3 (y 11) = 24 := by rw [(nm.1.2.1 _ (wf2.lt (by omega))).1]; exact A5
              have n11 : hN h3 (y 11) = 40 := by rw [(nm.1.2.1 _ (wf2.lt (by omega))).2]; exact A6
              refine x_65_134 (e2 := A4) (k3 := k11) (i4 := by rw [n11, e4]; exact vin_nI e3 (by decide)) (c5 := fun b eb => by cases eb; rw [nm.2.2.1]; decide) (hq := ⟨_, rfl, rfl, ?_⟩)
              rw [ecp]
              exact (StpF.tr wf ok z2' z3' s1).le (by omega) (by unfold kmC; omega)
          · rw [c1] at z3
            have eA : dlvA y F x1 = (F, 2) := by unfold dlvA; rw [eM]; dsimp only; rw [x0]; dsimp only; rw [x3]; dsimp only; rw [if_neg z2, if_pos z3]
            rw [eA]
            exact s_65_87 ⟨_, rfl, rfl, (StpF.rf kS kF).le (by omega) (by omega)⟩
        · rw [c1] at z2
          have eA : dlvA y F x1 = (netA F p none, 1) := by unfold dlvA; rw [eM]; dsimp only; rw [x0]; dsimp only; rw [x3]; dsimp only; rw [if_pos z2]
          rw [eA]
          refine s_65_70 (k3 := k9) (e5 := a4) (k6 := a5) (i7 := hvp) (hq := ⟨_, rfl, rfl, ?_⟩)
          rw [ecp]; exact drop1
    · -- an ANSWER
      rcases m9 with ⟨q, -⟩ | ⟨a, v, q1, q2, q3, q4⟩
      · exact absurd q z
      · refine s_65_19 (k3 := k9) (e5 := a4) (k6 := a5) (i7 := hvp) (k10 := m1) (e12 := m4) (k13 := m6.1) (kk := ?_)
        rw [ecp]
        obtain ⟨K1, K2, K3, K4, K5, K6⟩ := kF.2.1.1
        obtain ⟨f1, f2⟩ := cs_at kF.2.1.1 m3
        obtain ⟨C1, C2, C3⟩ := kF.2.2.1.2 x.1 m3
        have e448 : hI h0 448 q = nI x.1 := m6.2.1
        have e449 : hI h0 449 q = nI x.2.1 := m6.2.2.1
        have n10 : ¬ y 10 = y 11 := kinds_ne (h := h0) (by omega)
        have u40 := f2.2.2.2.2.2.2.2.2
        have hn40 : x.2.1 ≤ 40 := by rw [C1] at u40; omega
        have kF1 := kF.net e3 (um := none) (ux := none) (Or.inl ⟨rfl, rfl⟩)
        have cg1 := CG.net (p := p) (um := none) wf ok kF.1
        have nan : ¬ (cs.getD x.1 cs0).2.2.1 = y 11 := kinds_ne (h := h0) (by have := f2.2.2.2.2.2.1; omega)
        have eBn : hB (hpB h0 (y 11) p none) (y 10) (nI x.1).toNatClampNeg = some (cs.getD x.1 cs0).1 := by
          rw [nI_clamp (by omega), rB_B, if_neg (fun z => n10 z.1)]; exact f1
        have eAn : hB (hpB h0 (y 11) p none) (cs.getD x.1 cs0).2.2.1 (x.2.1 - 1) = hB h0 (cs.getD x.1 cs0).2.2.1 (x.2.1 - 1) := by
          rw [rB_B, if_neg (fun z => nan z.1)]
        have f2' : clV (hpB h0 (y 11) p none) (cs.getD x.1 cs0).1 (cs.getD x.1 cs0).2.1 (cs.getD x.1 cs0).2.2.1 (cs.getD x.1 cs0).2.2.2 := f2
        have htk := m_take (g := g) (P := P) f2' m3' hn40 (q := a) q3.1
        have e64 : hI (hpB h0 (y 11) p none) 64 a = v.1 := q3.2.1
        have e323 : hR (hpB h0 (y 11) p none) 323 m = some a := q1
        have e449' : hI (hpB h0 (y 11) p none) 449 q = nI x.2.1 := e449
        rw [e64, eAn, ← eBn, ← e449', ← e323] at htk
        rw [e448]
        refine x_65_37 (e2 := K2) (k3 := K3) (i4 := by show vinD (nI x.1) (hN h0 (y 10)); rw [K4]; exact vin_nI m3 (by decide)) (k7 := m1) (e9 := m4) (k10 := m6.1) (e12 := eBn) (k13 := f2.1) (hc := htk) (kk := fun h2 z st => s_65_52 ⟨_, rfl, ?_⟩)
        by_cases c34 : v.1 = 3 ∨ v.1 = 4
        · rw [if_pos c34] at st
          have eA : dlvA y F x1 = (netA F p none, 6) := by unfold dlvA; rw [eM]; dsimp only; rw [q2]; dsimp only; rw [if_pos c34]
          rw [eA, st.1]
          exact ⟨st.2, drop1⟩
        · rw [if_neg c34] at st
          rcases C3 (x.2.1 - 1) (by omega) with ⟨g1, g2⟩ | ⟨a', v', g1, g2, g3, g4⟩
          · rw [if_pos g1] at st
            have eA : dlvA y F x1 = (ansW (netA F p none) x.1 x.2.1 v, 4) := by unfold dlvA; rw [eM]; dsimp only; rw [q2]; dsimp only; rw [if_neg c34, g2]
            rw [eA, st.1, e323]
            refine ⟨st.2, ?_⟩
            have smn : Sm9 h0 o (y 9) (hpB h0 (y 11) p none) o := Sm9.wB (Or.inr (Or.inr a5))
            have ka1 : ansV (hpB h0 (y 11) p none) a v := q3.fr (smn a q4 (by have := q3.1; omega) (by have := q3.1; omega) (by have := q3.1; omega) (by have := q3.1; omega) (by have := q3.1; omega) (by have := q3.1; omega)).1
            have kF2 := kF1.ans (c := x.1) (n := x.2.1) m3 ⟨m3', hn40⟩ ka1 q4
            have w1 := cg1.w
            have cg2 : CG (fun z => z = y 9) 0 0 (hpB h0 (y 11) p none) o (hpB (hpB h0 (y 11) p none) (cs.getD x.1 cs0).2.2.1 (x.2.1 - 1) (some a)) o := CG.of0 (Ch.wB w1 _ (w1.lt (by have : hK (hpB h0 (y 11) p none) (cs.getD x.1 cs0).2.2.1 = 22 := f2.2.2.2.2.2.1; omega))) ok (fun z _ q => by rw [q]; exact ⟨by have : hK (hpB h0 (y 11) p none) (cs.getD x.1 cs0).2.2.1 = 22 := f2.2.2.2.2.2.1; omega, Or.inr (by rw [(kF.2.1.2.2.1 x.1 m3).2.2]; exact a1)⟩) (fun _ _ => rfl)
            exact (StpF.y9 (F' := ansW (netA F p none) x.1 x.2.1 v) kS (CG.tr wf ok cg1 cg2) kF2).le (by omega) (by omega)
          · rw [if_neg (by rw [g1]; exact fun z => by cases z)] at st
            have eA : dlvA y F x1 = (netA F p none, 5) := by unfold dlvA; rw [eM]; dsimp only; rw [q2]; dsimp only; rw [if_neg c34, g2]
            rw [eA, st.1]
            exact ⟨st.2, drop1⟩
end DLV
