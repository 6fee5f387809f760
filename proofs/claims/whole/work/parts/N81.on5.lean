-- the model's room: ticks
section
variable {x x' v xr : Int32} {B : Int32} {k e i j m c n M t r a K κ : Nat} {cl : List kcT} {y : Nat → Nat} {S S' : stA} {μ μ' : mT} {F : fcT}
theorem wt_len : ∀ (n : Nat) {m d : Nat} {μ : mT}, ((List.range n).foldl (wtS m d) μ).1 = μ.1 := fun n _ _ _ => (wt_f n).1
theorem wa5_1 : (wa5 μ m).1 = μ.1 := by
  unfold wa5 wa4
  show (if _ then _ else _ : mT).1 = _
  split <;> rfl
theorem wa2_1 : (wa2 μ m).1 = μ.1 := by
  unfold wa2
  rw [wt_len]
  rfl
theorem wa3_1 : (wa3 μ m).1.length = μ.1.length := by
  have e2 := wa2_1 (μ := μ) (m := m)
  unfold wa3
  generalize wa2 μ m = Z at e2 ⊢
  show (lgT Z.1 _ _).length = _
  rw [lg_len, e2]
theorem wat_len : (watM μ m).1.length = μ.1.length := by
  unfold watM
  split
  · rfl
  · rw [wa5_1, wa3_1]
    rfl
theorem ot3_len : (ot3 y μ n).1.length = μ.1.length := by
  unfold ot3 ot2
  have h1 : ∀ (l : List Nat) (ν : mT), (l.foldl watM ν).1.length = ν.1.length := by
    intro l
    induction l with
    | nil => intro ν; rfl
    | cons a l ih => intro ν; rw [List.foldl_cons, ih, wat_len]
  have h2 : ∀ (l : List Nat) (ν : mT), (l.foldl (tksM y) ν).1.length = ν.1.length := by
    intro l
    induction l with
    | nil => intro ν; rfl
    | cons a l ih => intro ν; rw [List.foldl_cons, ih, tks_len]
  rw [h1, h2]
  rfl
theorem ot2_len : (ot2 y μ n).1.length = μ.1.length := by
  unfold ot2
  have h2 : ∀ (l : List Nat) (ν : mT), (l.foldl (tksM y) ν).1.length = ν.1.length := by
    intro l
    induction l with
    | nil => intro ν; rfl
    | cons a l ih => intro ν; rw [List.foldl_cons, ih, tks_len]
  rw [h2]
  rfl
theorem mr_58 (mr : MR y S μ) (hb : ∀ d ∈ tDe S, ∃ b, b < 256 ∧ d.2 = nI b) : d58 (dN μ) μ := fun i hi => by
  rw [mr.dn] at hi
  have hj : i / 8 < (tDe S).length := by omega
  have := (mr.2.2.2.2.2.1 (i / 8) hj).2.1 (i % 8) (by omega)
  rw [show 8 * (i / 8) + i % 8 = i by omega] at this
  have gj : (tDe S).getD (i / 8) d0A = (tDe S)[i / 8] := by rw [List.getD_eq_getElem?_getD, List.getElem?_eq_getElem hj]; rfl
  rw [gj] at this
  obtain ⟨b, b1, b2⟩ := hb _ (List.getElem_mem hj)
  rw [this, b2]
  exact sh_01 b1 (by omega)
theorem rcL_5 (hy : yOK y) (l40 : cl40 cl) : ∀ (n : Nat) (S : stA) (k j r : Nat) (μ : mT) (v : Int32), RK y 5700 S μ → CX y cl B S → RX y cl S → v = nI r → tNm (rcL y n (S, k) j r).1.1 ≤ 75000 → (tDe S).length ≤ j + n → j ≤ 16 → RK y 5700 (rcL y n (S, k) j r).1.1 (rcW y n j v μ).1 ∧ lpOK y n j μ := by
  intro n
  induction n with
  | zero =>
    intro S k j r μ v h _ _ _ _ hd hj
    have dn := h.1.dn
    refine ⟨h, ?_, ?_, hj⟩
    · rw [dn]; exact h.1.2.2.1.2.2.2.2.2.2.2
    · rw [dn]; exact hd
  | succ n ih =>
    intro S k j r μ v h cx rx e hn hd h16
    have dn := h.1.dn
    have n8 : μ.2.2 56 = nI (dN μ) := by rw [dn]; exact h.1.2.2.1.2.2.2.2.2.2.2
    have l16 : dN μ ≤ 16 := by rw [dn]; exact h.1.2.1.2.2.1
    have hS : tNm S ≤ 75000 := Nat.le_trans (rcL_mono (y := y) (n + 1) (S, k) j r) hn
    by_cases q : (tDe S).length ≤ j
    · have e1 : rcL y (n + 1) (S, k) j r = ((S, k), r) := by
        show (if _ then _ else _) = _
        rw [if_pos q]
      have e2 : rcW y (n + 1) j v μ = (μ, v) := by
        show (if _ then _ else _) = _
        rw [dn, if_pos q]
      rw [e1, e2]
      exact ⟨h, ⟨n8, l16, h16⟩, fun z => absurd z (by omega)⟩
    · have hj : j < (tDe S).length := by omega
      have rj := h.rj hj
      obtain ⟨mr, gq, nm, hl, da, tb⟩ := h
      obtain ⟨di, b, hb, hb0, eb⟩ := da j hj
      have cn := can_R mr hj
      have e1 : rcL y (n + 1) (S, k) j r = if ((tDe (rcD y (S, k) j).1).getD j d0A).2 = 0 then rcL y n (rmD (rcD y (S, k) j).1 j, (rcD y (S, k) j).2) j (r + 1) else rcL y n (rcD y (S, k) j) (j + 1) r := by
        show (if _ then _ else _) = _
        rw [if_neg q]
      have e2 : rcW y (n + 1) j v μ = if (recM y μ j).2 = 0 then rcW y n (j + 1) v (recM y μ j).1 else rcW y n j (v + 1) (ddM (recM y μ j).1 j) := by
        show (if _ then _ else _) = _
        rw [dn, if_neg q]
      obtain ⟨d1, m', d2⟩ := rcD_de (y := y) (st := (S, k)) hj
      have d2 : tDe (rcD y (S, k) j).1 = (tDe S).set j (((tDe S).getD j d0A).1, m') := d2
      have cx1 := CX.krcD (st := (S, k)) cx hy l40 hj
      have rx1 := (rcD_q (st := (S, k)) cx rx hy l40 hj).1
      cases rn : rcN y μ j with
      | true =>
        rw [rn] at cn
        have eD : rcD y (S, k) j = (S, k) := by
          unfold rcD
          rw [if_neg (by rw [cn]; decide)]
        have eM : recM y μ j = (μ, 0) := by unfold recM; rw [if_pos rn]
        have mz : ¬ ((tDe S).getD j d0A).2 = 0 := fun w => by
          rw [eb] at w
          have := nI_inj (a := b) (b := 0) (by omega) (by omega) (w.trans nI_0.symm)
          omega
        rw [eD, if_neg mz] at e1
        rw [eM, if_pos rfl] at e2
        rw [e1] at hn ⊢
        rw [e2]
        obtain ⟨t1, t2⟩ := ih S k (j + 1) r μ v ⟨mr, gq, nm, hl, da, tb⟩ cx rx e hn (by omega) (by omega)
        refine ⟨t1, ⟨n8, l16, h16⟩, fun _ => ⟨mr.1, fun z => ?_, fun _ => ?_, fun z => ?_⟩⟩
        · rw [rn] at z; cases z
        · rw [eM]; exact t2
        · rw [eM] at z; exact absurd rfl z
      | false =>
        rw [rn] at cn
        have hu : upH (nI (upN (tSv S))) ((tDe S).getD j d0A).1 := fun u hu => by
          unfold canA at cn
          rw [Bool.not_false, Bool.and_eq_true, List.all_eq_true] at cn
          exact of_decide_eq_true (cn.2 u hu)
        have eD : rcD y (S, k) j = (List.range' 0 8).foldl (rcT y (psA (rdP (nI (upN (tSv S))) ((tDe S).getD j d0A).1)) j) (S, k) := by
          unfold rcD
          rw [if_pos (by rw [cn]; rfl), List.range_eq_range']
          rfl
        have eM : recM y μ j = rc2 (rcG y j (μ.2.1 57 j) (List.range' 0 8) μ) (μ.2.1 57 j) := by unfold recM; rw [if_neg (by rw [rn]; decide)]
        obtain ⟨g1, g2, g3⟩ := rcG_R (y := y) di hu 8 0 5700 (tNm S) S μ k rfl rj (fun t' ht' => absurd ht' (Nat.not_lt_zero _)) (by omega) (by omega)
        obtain ⟨f1, f2⟩ := rcG_5 (cl := cl) (B := B) (y := y) hy l40 di hu 8 0 (tNm S) S μ k rfl rj cx rx (by omega)
        have f1 := f1.1.2.2.2.1
        rw [← eD] at g1 g2 g3
        generalize rcG y j (μ.2.1 57 j) (List.range' 0 8) μ = G at g1 g2 g3 eM f1
        generalize rcD y (S, k) j = C at g1 g2 g3 d1 d2 e1 cx1 rx1
        obtain ⟨S1, k1⟩ := C
        obtain ⟨⟨m1, m2, m3, m4, m5, m6, m7, m8⟩, ⟨c1, c2, b', c3, c4⟩, c5⟩ := g1
        have dg : ∀ q, ¬ q = j → (tDe S1).getD q d0A = (tDe S).getD q d0A := fun q hq => by
          have d2 : tDe S1 = _ := d2
          rw [d2, List.getD_eq_getElem?_getD, List.getElem?_set_ne (fun w => hq w.symm), ← List.getD_eq_getElem?_getD]
        have dlen : (tDe S1).length = (tDe S).length := by
          have d2 : tDe S1 = _ := d2
          rw [d2, List.length_set]
        have cx1 : CX y cl B S1 := cx1
        have rx1 : RX y cl S1 := rx1
        have s58 := mr_58 m1 (fun d hd => (cx1.2.2.2.1 d hd).2.1)
        have dn1 := m1.dn
        have n81 : G.1.2.2 56 = nI (dN G.1) := by rw [dn1]; exact m1.2.2.1.2.2.2.2.2.2.2
        by_cases gz : G.2 = 0
        · have mz : ¬ ((tDe S1).getD j d0A).2 = 0 := g3 gz
          have e1 : rcL y (n + 1) (S, k) j r = rcL y n (S1, k1) (j + 1) r := e1.trans (if_neg mz)
          have eM : recM y μ j = G := by rw [eM]; unfold rc2; rw [if_pos gz]
          rw [eM, if_pos gz] at e2
          rw [e1] at hn ⊢
          rw [e2]
          have da1 : DAl S1 := fun q hq => by
            by_cases w : q = j
            · subst w
              refine ⟨by rw [c2]; exact di, b', c3, ?_, c4⟩
              rcases Nat.eq_zero_or_pos b' with z | z
              · rw [c4, z] at mz
                exact absurd rfl mz
              · exact z
            · rw [dg q w]
              exact da q (by omega)
          obtain ⟨t1, t2⟩ := ih S1 k1 (j + 1) r G.1 v ⟨m1, m2, m3, f1, da1, c5⟩ cx1 rx1 e hn (by omega) (by omega)
          refine ⟨t1, ⟨n8, l16, h16⟩, fun _ => ⟨mr.1, fun _ => f2, fun _ => ?_, fun z => ?_⟩⟩
          · rw [eM]; exact t2
          · rw [eM] at z; exact absurd gz z
        · have mz : ((tDe S1).getD j d0A).2 = 0 := g2 gz
          have e1 : rcL y (n + 1) (S, k) j r = rcL y n (rmD S1 j, k1) j (r + 1) := e1.trans (if_pos mz)
          have eM : recM y μ j = (uT G.1 (lgT G.1.1 (μ.2.1 57 j) 99), 1) := by rw [eM]; unfold rc2; rw [if_neg gz]
          rw [eM, if_neg (show ¬ (1 : Int32) = 0 by decide)] at e2
          rw [e1] at hn ⊢
          rw [e2]
          have rm := rm_R m1 c1
          rw [m8] at rm
          have rm : MR y (rmD S1 j) (ddM (uT G.1 (lgT G.1.1 (μ.2.1 57 j) 99), (1 : Int32)).1 j) := rm
          have mT : (ddM (uT G.1 (lgT G.1.1 (μ.2.1 57 j) 99)) j).1 = lgT G.1.1 (μ.2.1 57 j) 99 := (dm_f _).1
          obtain ⟨el, eg⟩ := er_g c1
          have da1 : DAl (rmD S1 j) := fun q hq => by
            have hq : q < (tDe S1).length - 1 := by
              have hq : q < ((tDe S1).eraseIdx j).length := hq
              rw [el] at hq
              exact hq
            have c1 : j < (tDe S1).length := c1
            show DI (((tDe S1).eraseIdx j).getD q d0A).1 ∧ ∃ b, b < 256 ∧ 0 < b ∧ (((tDe S1).eraseIdx j).getD q d0A).2 = nI b
            rw [eg]
            split
            · rw [dg q (by omega)]; exact da q (by omega)
            · rw [dg (q + 1) (by omega)]; exact da (q + 1) (by omega)
          have gq1 : GQ PV0 (ddM (uT G.1 (lgT G.1.1 (μ.2.1 57 j) 99)) j).1 := by
            rw [mT]
            intro s hs n99 p hp
            rcases lg_mem hs with ⟨w, w1, w2, w3⟩ | ⟨w1, w2⟩
            · rw [w3] at n99; exact absurd rfl n99
            · exact m2 s w1 n99 p hp
          have hlen : (ddM (uT G.1 (lgT G.1.1 (μ.2.1 57 j) 99)) j).1.length ≤ 5700 := by rw [mT, lg_len]; exact f1
          have rx2 : RX y cl (rmD S1 j) := ⟨rx1.1, fun d hd => rx1.2 d ((List.eraseIdx_sublist _ _).subset hd)⟩
          have ld : (tDe (rmD S1 j)).length ≤ j + n := by
            have el : ((tDe S1).eraseIdx j).length = (tDe S1).length - 1 := el
            show ((tDe S1).eraseIdx j).length ≤ _
            rw [el]; omega
          obtain ⟨t1, t2⟩ := ih (rmD S1 j) k1 j (r + 1) _ (v + 1) ⟨rm, gq1, m3, hlen, da1, c5⟩ cx1.krmD rx2 (by rw [e, nI_1]) hn ld h16
          refine ⟨t1, ⟨n8, l16, h16⟩, fun _ => ⟨mr.1, fun _ => f2, fun z => ?_, fun _ => ?_⟩⟩
          · rw [eM] at z; exact absurd z (show ¬ (1 : Int32) = 0 by decide)
          · rw [eM]
            exact ⟨⟨n81, by show j < dN G.1; rw [dn1]; omega, by show dN G.1 ≤ 16; rw [dn1]; exact m1.2.1.2.2.1, s58⟩, t2⟩
theorem on_5 (cx : CX y cl B S) (rx : RX y cl S) (hz : NZ S) (mr : MR y S μ) (hy : yOK y) (l40 : cl40 cl) (hL : μ.1.length ≤ 5700) (hn : tAw (tdA y S) = 0 → tNm (tkD y (tdA y S)).1.1 ≤ 75000) : onOK y μ ∧ (on1 y μ).1.1.length ≤ 5700 ∧ tkP y S μ := by
  have tp := cx.tkp hz mr hy l40 (by omega) (fun _ => by rw [ot3_len]; omega) hn
  have m1 : MR y S (ot1 μ) := mr.num (fun k h1 _ _ => if_neg h1)
  have m2 := fun n hn => (td_all (μ := ot1 μ) m1 (by show μ.1.length < _; omega) n hn).1
  have m2a : MR y (tdA y S) (ot2 y μ (y 20)) := m2 (y 20) (Nat.le_refl _)
  have h1 := cx.tda hy
  have m3 := fun n hn => (lk_all m2a (fun i hi => (h1.2.2.1 i hi).1) n hn).1
  have aw : (ot2 y μ (y 20)).2.2 14 = tAw (tdA y S) := m2a.2.2.1.1
  have m3a : MR y (lkA y (tdA y S)) (ot3 y μ (y 20)) := m3 (y 20) (Nat.le_refl _)
  have rxl : RX y cl (lkA y (tdA y S)) := (lka_q h1 (tda_q cx rx hy).1 hy).1
  have dn := m3a.dn
  have rk : tAw (tdA y S) = 0 → RK y 5700 (tkD y (tdA y S)).1.1 (rcW y (dN (ot3 y μ (y 20))) 0 0 (ot3 y μ (y 20))).1 ∧ lpOK y (dN (ot3 y μ (y 20))) 0 (ot3 y μ (y 20)) := fun w => by
    obtain ⟨q1, q2, q3, q4, q5, q6⟩ := tp.2 w
    unfold tkD at q6 ⊢
    rw [dn]
    exact rcL_5 hy l40 _ (lkA y (tdA y S)) 0 0 0 (ot3 y μ (y 20)) 0 ⟨m3a, q1, q2, by rw [ot3_len]; exact hL, q4, q5⟩ (h1.lka hy) rxl rfl q6 (by omega) (by omega)
  refine ⟨⟨fun j hj => ?_, m2a.1, fun w => ⟨fun j hj => ?_, m3a.1, (rk (by rw [← aw]; exact w)).2⟩⟩, ?_, tp⟩
  · have mj := m2 j (by omega)
    have mj : MR y _ (ot2 y μ j) := mj
    exact ⟨mj.1, hdOK_R mj hj, fun k hk => (mj.2.2.2.2.2.2.2.1 _ (T_at hk)).2.2.2.1.2.2⟩
  · have mj := m3 j (by omega)
    have mj : MR y _ (ot3 y μ j) := mj
    exact ⟨mj.1, by rw [mj.dn]; exact mj.2.2.1.2.2.2.2.2.2.2, by rw [mj.dn]; exact mj.2.1.2.2.1⟩
  · unfold on1
    split
    · show (ot2 y μ (y 20)).1.length ≤ _
      rw [ot2_len]; exact hL
    · next w => exact (rk (by rw [← aw]; exact Decidable.not_not.mp w)).1.2.2.2.1
/-- all ticks of one call -/
theorem ticks_5 (hr : FR y F μ) (hc : CF y F m) (hx : PX y F K κ) (hy : yOK y) (hK : K ≤ 520) (hL : μ.1.length ≤ 5700) : ∀ n, FR y (tkN y F n).1 (tcL y μ n).1 ∧ (tcL y μ n).1.1.length ≤ 5700 ∧ (tcL y μ n).2 = (tkN y F n).2.1 ∧ onOK y (tcL y μ n).1 ∧ tkP y (fSt (tkN y F n).1) (tcL y μ n).1 := by
  have l40 := hr.l40
  have one : ∀ n, FR y (tkN y F n).1 (tcL y μ n).1 → (tcL y μ n).1.1.length ≤ 5700 → onOK y (tcL y μ n).1 ∧ (on1 y (tcL y μ n).1).1.1.length ≤ 5700 ∧ tkP y (fSt (tkN y F n).1) (tcL y μ n).1 := fun n h1 h2 => by
    obtain ⟨cx, nz⟩ := tkN_CX (cl := fCl F) hc.1 hc.2.1 hy l40 n
    have rx := (tkN_q hc hx.1 hy l40 n).1
    refine on_5 cx rx nz h1.1 hy l40 h2 (fun w => ?_)
    have nm := tkN_nm hx hc hy l40 hK (n + 1)
    have e : (tkN y F (n + 1)).1 = (tk1F y (tkN y F n)).1 := rfl
    rw [e] at nm
    unfold tk1F at nm
    rw [if_neg (show ¬ ¬ tAw (tdA y (fSt (tkN y F n).1)) = 0 from fun z => z w)] at nm
    have nm : tNm (tkD y (tdA y (fSt (tkN y F n).1))).1.1 ≤ 42000 := nm
    omega
  have key : ∀ n, FR y (tkN y F n).1 (tcL y μ n).1 ∧ (tcL y μ n).1.1.length ≤ 5700 ∧ (tcL y μ n).2 = (tkN y F n).2.1 := by
    intro n
    induction n with
    | zero => exact ⟨hr.sn, hL, rfl⟩
    | succ n ih =>
      obtain ⟨i1, i2, i3⟩ := ih
      obtain ⟨o1, o2, o3⟩ := one n i1 i2
      have e : tcL y μ (n + 1) = tc1 y (tcL y μ n) n := by
        unfold tcL
        rw [List.range_succ, List.foldl_append]; rfl
      rw [e]
      show FR y (tk1F y (tkN y F n)).1 (tc1 y (tcL y μ n) n).1 ∧ (on1 y (tcL y μ n).1).1.1.length ≤ 5700 ∧ (tc1 y (tcL y μ n) n).2 = (tk1F y (tkN y F n)).2.1
      obtain ⟨t1, t2⟩ := tk1_eq (y := y) (st := tkN y F n)
      rw [t1, t2]
      obtain ⟨q1, q2⟩ := tick1_F i1 (by omega) o3
      refine ⟨q1, o2, ?_⟩
      show (tcL y μ n).2 + (on1 y (tcL y μ n).1).2 = _
      rw [i3, q2]
  intro n
  obtain ⟨k1, k2, k3⟩ := key n
  obtain ⟨o1, o2, o3⟩ := one n k1 k2
  exact ⟨k1, k2, k3, o1, o3⟩
end
