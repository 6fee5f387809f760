-- the law's calls: delivery, ticks, the coordinator, the questions
section
variable {g : gcT} {P : pmT} {h h1 h2 : hpT} {y ad o w : Nat → Nat} {R R2 : arT} {ss : List Nat} {Ls : List lsT} {Ds : List (Nat × Nat)} {cs : csT} {F F' : fcT} {μ μ' : mT} {κ κ' K out c0 m0 kc km k2 i c n m : Nat} {x1 x2 x3 x4 x5 rM rC ack : Int32} {B : Int32} {r : rqT} {d : anT × Option ptT} {ak : Int32}
theorem chg_mn : mnE (fSt F) (fSt (chgB y F i c n r ak d).1) := by
  have l : tNm (fSt F) ≤ (chW y (fSt F) i d.2).2.1 := mkrA_len.2.1
  unfold chgB
  split
  · exact ⟨Nat.le_refl _, Nat.le_refl _, l⟩
  · split
    · exact ⟨Nat.le_refl _, Nat.le_refl _, l⟩
    · show mnE (fSt F) (if d.2.isSome = true then _ else _ : stA)
      split
      · exact ⟨Nat.le_refl _, Nat.le_refl _, l⟩
      · exact ⟨Nat.le_refl _, Nat.le_refl _, l⟩
theorem mn_tr {S1 S2 S3 : stA} (a : mnE S1 S2) (b : mnE S2 S3) : mnE S1 S3 := ⟨Nat.le_trans a.1 b.1, Nat.le_trans a.2.1 b.2.1, Nat.le_trans a.2.2 b.2.2⟩
theorem srv_mn : mnE (fSt F) (fSt (srvA y F i c n r ack).1) := by
  have f : mnE (fSt F) (fSt (fncA F i)) := by
    unfold fncA
    split
    · exact ⟨Nat.le_succ _, Nat.le_refl _, Nat.le_refl _⟩
    · exact mn_r
  refine mn_tr f ?_
  unfold srvA
  generalize fncA F i = F1
  split
  · exact mn_r
  · split
    · exact ⟨Nat.le_refl _, Nat.le_refl _, mkrA_len.2.1⟩
    · unfold chgA
      split
      · exact mn_r
      · exact chg_mn
theorem dlv_mn : mnE (fSt F) (fSt (dlvA y F x1).1) := by
  unfold dlvA
  split
  · exact mn_r
  · next j x e =>
    split
    · split
      · exact mn_r
      · split
        · exact mn_r
        · exact mn_r
    · split
      · exact mn_r
      · next t ht =>
        split
        · exact mn_r
        · split
          · exact mn_r
          · have := srv_mn (y := y) (F := F) (i := t) (c := x.1) (n := x.2.1) (r := rqF F x.1 x.2.1) (ack := x.2.2.1)
            generalize srvA y F t x.1 x.2.1 (rqF F x.1 x.2.1) x.2.2.1 = Z at this
            unfold dlvZ
            split <;> exact this
theorem L_deliver (hP6 : P 206 = cpyO) (lv : LV g h y ad out K c0 m0) (hK : K ≤ 515) : EvI g P 65 [va_rf (some (y 9)), .int x1] h (fun h1 r => gMk g y h1 ∧ EvI g P 151 [va_rf (some (y 12)), .int x1] h1 (fun h2 r' => r' = r ∧ LV g h2 y ad out (K + 1) c0 m0)) := by
  obtain ⟨o, w, R, R2, ss, Ls, Ds, cs, F, μ, κ, lv⟩ := lv
  obtain ⟨fr, cf, px, hl⟩ := lv.2.1
  have hy := fr.1.1.1
  have nm := (px.bnd hy (by omega)).1
  refine Ev.imp (m_deliver (x1 := x1) hP6 lv.1.1 lv.1.2.1 (fun j x t e1 e2 e3 e4 => ?_) (fun t ht => (cf.1.2.2.1 t ht).1.1)) (fun h1 r ⟨v, e1, e2, st⟩ => ⟨v, e1, ?_⟩)
  · obtain ⟨m1, m2⟩ := msg_i e1
    obtain ⟨n1, n2, n3, n4⟩ := fr.ntc m1 m2
    obtain ⟨t', t1, t2⟩ := n4 e2
    have t2 : some t = some t' := e3.symm.trans t2
    cases t2
    exact cf_srvP cf fr hy (by omega) t1 n1 n2 n3
  · obtain ⟨f1, f2⟩ := dlv_R (x := x1) fr (by omega) cf.2.2.1 (fun i hi => (cf.1.2.2.1 i hi).1) (fun i c n hi _ _ _ _ _ => cf_dlI cf fr hy (by omega) hi)
    exact lv.two st ⟨f1, cf_deliver cf fr hy (by omega), px_deliver px cf fr hy, dlv_5 fr.sn cf px.1 hl⟩ (cost_1 dlv_mn (by omega)) (cost_2 dlv_mn (Nat.le_refl _)) (fun mw => m_deliverM mw (fr_dv fr.sn cf hl)) (f2.trans e2.symm)
theorem tkN_mn (hy : yOK y) (l40 : cl40 (fCl F)) (cf : CF y F m) : ∀ n, mnE (fSt F) (fSt (tkN y F n).1) := by
  intro n
  induction n with
  | zero => exact mn_r
  | succ n ih =>
    have cx := (tkN_CX (cl := fCl F) cf.1 cf.2.1 hy l40 n).1
    have := tk1_mono (y := y) (F := (tkN y F n).1) hy (cx.i1 l40) cx.1.1 cx.1.2.2 (tkN y F n).2.1 (tkN y F n).2.2
    exact mn_tr ih ⟨this.1, this.2.1, this.2.2.1⟩
theorem L_tick (hP6 : P 206 = cpyO) (lv : LV g h y ad out K c0 m0) (hK : K ≤ 515) : EvI g P 77 [va_rf (some (y 9)), .int x1] h (fun h1 r => gMk g y h1 ∧ EvI g P 175 [va_rf (some (y 12)), .int x1] h1 (fun h2 r' => r' = r ∧ LV g h2 y ad out (K + 1) c0 m0)) := by
  obtain ⟨o, w, R, R2, ss, Ls, Ds, cs, F, μ, κ, lv⟩ := lv
  obtain ⟨fr, cf, px, hl⟩ := lv.2.1
  have hy := fr.1.1.1
  have l40 := fr.l40
  have t5 := ticks_5 fr cf px hy (by omega) hl
  have nmT : tNm (fSt (tickA y F x1).1) ≤ 42000 := by
    unfold tickA
    split
    · have := tkN_nm px cf hy l40 (by omega) 0
      exact this
    · exact tkN_nm px cf hy l40 (by omega) _
  have mn : mnE (fSt F) (fSt (tickA y F x1).1) := by
    unfold tickA
    split
    · exact mn_r
    · exact tkN_mn hy l40 cf _
  refine Ev.imp (m_tick (x1 := x1) hP6 lv.1.1 lv.1.2.1 (fun n j _ _ _ => ⟨((tkN_CX (cl := fCl F) cf.1 cf.2.1 hy l40 j).1).ti hy l40, ((tkN_CX (cl := fCl F) cf.1 cf.2.1 hy l40 j).1).1.1⟩) (by omega)) (fun h1 r ⟨v, e1, e2, st⟩ => ⟨v, e1, ?_⟩)
  obtain ⟨f1, f2⟩ := tick_R (x := x1) fr (fun n j _ _ _ => ⟨by have := (t5 j).2.1; omega, (t5 j).2.2.2.2⟩)
  have el : (tckM y μ x1).1.1.length ≤ 5700 := by
    unfold tckM
    split
    · exact hl
    · exact (t5 _).2.1
  refine lv.two st ⟨f1, (cf_tick hy l40 cf).k1 (by omega), px_tick px cf hy l40, el⟩ ?_ ?_ (fun mw => m_tickM mw hy.1.2 (fun j _ _ _ => (t5 j).2.2.2.1)) (f2.trans e2.symm)
  · obtain ⟨a, b, c⟩ := mn
    unfold csC kcK
    omega
  · obtain ⟨a, b, c⟩ := mn
    unfold csM kmK
    have e1 : kA * tFo (fSt (tickA y F x1).1) = kA * tFo (fSt F) + kA * (tFo (fSt (tickA y F x1).1) - tFo (fSt F)) := by rw [← Nat.mul_add]; congr 1; omega
    have e2 : kA * tDs (fSt (tickA y F x1).1) = kA * tDs (fSt F) + kA * (tDs (fSt (tickA y F x1).1) - tDs (fSt F)) := by rw [← Nat.mul_add]; congr 1; omega
    have e3 : kmO y * tNm (fSt (tickA y F x1).1) = kmO y * tNm (fSt F) + kmO y * (tNm (fSt (tickA y F x1).1) - tNm (fSt F)) := by rw [← Nat.mul_add]; congr 1; omega
    have e4 : kB * (κ + (tickA y F x1).2.2) = kB * κ + kB * (tickA y F x1).2.2 := Nat.mul_add _ _ _
    have e5 : kmC y * (K + 1) = kmC y * K + kmC y := Nat.mul_succ _ _
    rw [e1, e2, e3, e4, e5]
    show kA * _ + kA * _ + kmO y * _ + kB * _ + _ ≤ _
    omega
theorem L_got (lv : LV g h y ad out K c0 m0) (hK : K < 800) : EvI g P 69 [va_rf (some (y 9)), .int x1, .int x2, .int x3] h (fun h1 r => gMk g y h1 ∧ EvI g P 155 [va_rf (some (y 12)), .int x1, .int x2, .int x3] h1 (fun h2 r' => r' = r ∧ LV g h2 y ad out (K + 1) c0 m0)) := by
  obtain ⟨o, w, R, R2, ss, Ls, Ds, cs, F, μ, κ, lv⟩ := lv
  obtain ⟨fr, cf, px, hl⟩ := lv.2.1
  refine Ev.imp (m_got lv.1.1.2.1.2.2.1 lv.1.2.1) (fun h1 r ⟨v, e1, e2, e3⟩ => ⟨v, e1, ?_⟩)
  subst e2
  exact lv.stay hK (StpF.rf lv.1.1 lv.1.2.1) (fun mw => m_gotM mw (fr_cq fr.sn cf.2.2.1)) ((got_R fr).trans e3.symm)
theorem L_acked (lv : LV g h y ad out K c0 m0) (hK : K < 800) : EvI g P 70 [va_rf (some (y 9)), .int x1] h (fun h1 r => gMk g y h1 ∧ EvI g P 156 [va_rf (some (y 12)), .int x1] h1 (fun h2 r' => r' = r ∧ LV g h2 y ad out (K + 1) c0 m0)) := by
  obtain ⟨o, w, R, R2, ss, Ls, Ds, cs, F, μ, κ, lv⟩ := lv
  obtain ⟨fr, cf, px, hl⟩ := lv.2.1
  refine Ev.imp (m_acked lv.1.1.2.1.2.2.1 lv.1.2.1) (fun h1 r ⟨v, e1, e2, e3⟩ => ⟨v, e1, ?_⟩)
  subst e2
  exact lv.stay hK (StpF.rf lv.1.1 lv.1.2.1) (fun mw => m_ackdM mw (fr_cq fr.sn cf.2.2.1)) ((acked_R fr).trans e3.symm)
theorem L_owner (lv : LV g h y ad out K c0 m0) (hK : K < 800) : EvI g P 78 [va_rf (some (y 9)), .int x1] h (fun h1 r => gMk g y h1 ∧ EvI g P 176 [va_rf (some (y 12)), .int x1] h1 (fun h2 r' => r' = r ∧ LV g h2 y ad out (K + 1) c0 m0)) := by
  obtain ⟨o, w, R, R2, ss, Ls, Ds, cs, F, μ, κ, lv⟩ := lv
  obtain ⟨fr, cf, px, hl⟩ := lv.2.1
  refine Ev.imp (m_owner lv.1.1 lv.1.2.1) (fun h1 r ⟨v, e1, e2, e3⟩ => ⟨v, e1, ?_⟩)
  subst e2
  exact lv.stay hK (StpF.rf lv.1.1 lv.1.2.1) (fun mw => m_ownerM mw) ((owner_R fr).trans e3.symm)
theorem L_peek (lv : LV g h y ad out K c0 m0) (hK : K < 800) : EvI g P 81 [va_rf (some (y 9)), .int x1, .int x2, .int x3] h (fun h1 r => gMk g y h1 ∧ EvI g P 181 [va_rf (some (y 12)), .int x1, .int x2, .int x3] h1 (fun h2 r' => r' = r ∧ LV g h2 y ad out (K + 1) c0 m0)) := by
  obtain ⟨o, w, R, R2, ss, Ls, Ds, cs, F, μ, κ, lv⟩ := lv
  obtain ⟨fr, cf, px, hl⟩ := lv.2.1
  refine Ev.imp (m_peek lv.1.1 lv.1.2.1) (fun h1 r ⟨v, e1, e2, e3⟩ => ⟨v, e1, ?_⟩)
  subst e2
  exact lv.stay hK (StpF.rf lv.1.1 lv.1.2.1) (fun mw => m_peekM mw fr.sn.1.1) ((peek_R fr (fun i hi => ⟨(cf.1.2.2.1 i hi).2.2.2.1.2.1.2, (cf.1.2.2.1 i hi).2.2.2.1.2.v1⟩)).trans e3.symm)
theorem L_count (lv : LV g h y ad out K c0 m0) (hK : K < 800) : EvI g P 82 [va_rf (some (y 9)), .int x1] h (fun h1 r => gMk g y h1 ∧ EvI g P 182 [va_rf (some (y 12)), .int x1] h1 (fun h2 r' => r' = r ∧ LV g h2 y ad out (K + 1) c0 m0)) := by
  obtain ⟨o, w, R, R2, ss, Ls, Ds, cs, F, μ, κ, lv⟩ := lv
  obtain ⟨fr, cf, px, hl⟩ := lv.2.1
  refine Ev.imp (m_count lv.1.1 lv.1.2.1) (fun h1 r ⟨v, e1, e2, e3⟩ => ⟨v, e1, ?_⟩)
  subst e2
  exact lv.stay hK (StpF.rf lv.1.1 lv.1.2.1) (fun mw => m_countM mw) ((count_R fr).trans e3.symm)
theorem L_server (lv : LV g h y ad out K c0 m0) (hK : K < 800) : EvI g P 79 [va_rf (some (y 9)), .int x1, .int x2] h (fun h1 r => gMk g y h1 ∧ EvI g P 179 [va_rf (some (y 12)), .int x1, .int x2] h1 (fun h2 r' => r' = r ∧ LV g h2 y ad out (K + 1) c0 m0)) := by
  obtain ⟨o, w, R, R2, ss, Ls, Ds, cs, F, μ, κ, lv⟩ := lv
  obtain ⟨fr, cf, px, hl⟩ := lv.2.1
  refine Ev.imp (m_server_q lv.1.1 lv.1.2.1) (fun h1 r ⟨v, e1, e2, st⟩ => ⟨v, e1, ?_⟩)
  exact lv.stay hK st (fun mw => m_serverM mw fr.sn.1.1 (fun m hm => hdOK_R fr.sn.1 hm)) ((server_R fr (by omega) (fun i hi => cf.1.li hi) cf.1.tbl).trans e2.symm)
theorem L_segment (lv : LV g h y ad out K c0 m0) (hK : K ≤ 515) : EvI g P 80 [va_rf (some (y 9)), .int x1, .int x2, .int x3] h (fun h1 r => gMk g y h1 ∧ EvI g P 180 [va_rf (some (y 12)), .int x1, .int x2, .int x3] h1 (fun h2 r' => r' = r ∧ LV g h2 y ad out (K + 1) c0 m0)) := by
  obtain ⟨o, w, R, R2, ss, Ls, Ds, cs, F, μ, κ, lv⟩ := lv
  obtain ⟨fr, cf, px, hl⟩ := lv.2.1
  have nm := (px.bnd fr.1.1.1 (by omega)).1
  refine Ev.imp (m_segment_q lv.1.1 lv.1.2.1) (fun h1 r ⟨v, e1, e2, st⟩ => ⟨v, e1, ?_⟩)
  refine lv.stay (by omega) st (fun mw => m_segment mw fr.sn.1.1) ((seg_R fr (fun i hi => cf.1.li hi) (fun i hi => ?_)).trans e2.symm)
  have pw := pw_lnG ((sLg ((tSv (fSt F)).getD i sr0)).1.map (·.1)) (tNm (fSt F)) (List.pairwise_map.mpr ((cf.1.2.2.1 i hi).2.2.2.1.1.1)) (fun x hx => by
    obtain ⟨u, u1, u2⟩ := List.mem_map.mp hx
    rw [← u2]
    exact ((cf.1.2.2.1 i hi).2.2.2.1.1.2.1 u u1).1)
  rw [List.length_map] at pw
  omega
theorem L_coord (lv : LV g h y ad out K c0 m0) (hK : K < 800) (hx : x1 = 0 ∨ x1 = 1) : EvV g P 76 [va_rf (some (y 9)), .int x1] h (fun h1 => gMk g y h1 ∧ EvV g P 163 [va_rf (some (y 12)), .int x1] h1 (fun h2 => LV g h2 y ad out (K + 1) c0 m0)) := by
  obtain ⟨o, w, R, R2, ss, Ls, Ds, cs, F, μ, κ, lv⟩ := lv
  obtain ⟨fr, cf, px, hl⟩ := lv.2.1
  refine Ev.imp (m_coord lv.1.1 lv.1.2.1 hx) (fun h1 r ⟨e1, st⟩ => ⟨e1, ?_⟩)
  have f1 := coord_R (x := x1) fr
  have st0 := st
  obtain ⟨o1, w1, L1, D1, cs1, c, m, rs1, fc1, cg1, -⟩ := st0
  have mw1 := (lv.1.2.2.cg lv.1.1.1.1 lv.1.1.1.2.2 lv.2.2.1 cg1).1
  refine ⟨⟨rs1.1.2.1.1, rs1.2.1.2.2.2⟩, ?_⟩
  refine Ev.imp (m_coordM mw1 hx) (fun h2 r ⟨e1, e3, e4⟩ => ⟨e1, ?_⟩)
  exact lv.step st (fun _ => ⟨e3, e4⟩) ⟨f1, (cf_coord cf).k1 (by omega), px_coord px, hl⟩ (cost_1 mn_r (by omega)) (cost_2 mn_r (km_0 (by omega)))
end
