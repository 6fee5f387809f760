-- the law's calls, both sides: first those that leave the store
def gMk (g : gcT) (y : Nat → Nat) (h : hpT) : Prop := hK h g.1 = 0 ∧ hK h (y 12) = 14
section
variable {g : gcT} {P : pmT} {h h1 h2 : hpT} {y ad o w : Nat → Nat} {R R2 : arT} {ss : List Nat} {Ls : List lsT} {Ds : List (Nat × Nat)} {cs : csT} {F F' : fcT} {μ μ' : mT} {κ κ' K out c0 m0 kc km k2 : Nat} {x1 x2 x3 x4 x5 rM rC : Int32} {A2 : List Value}
theorem LV0.two (lv : LV0 g h y ad out K c0 m0 o w R R2 ss Ls Ds cs F μ κ) (st : StpF g h o y R R2 ss Ls Ds kc km F' h1) (pu : pur y F' μ' (K + 1) κ') (hc : kc + csC (fSt F) κ K ≤ csC (fSt F') κ' (K + 1)) (hm : km + csM y (fSt F) κ K ≤ csM y (fSt F') κ' (K + 1)) (mc : MW h1 y ad μ → EvI g P k2 A2 h1 (fun h2 r' => r' = rM ∧ MG y ad h1 h2 ∧ MW h2 y ad μ')) (er : rM = rC) : gMk g y h1 ∧ EvI g P k2 A2 h1 (fun h2 r' => r' = rC ∧ LV g h2 y ad out (K + 1) c0 m0) := by
  have st0 := st
  obtain ⟨o1, w1, L1, D1, cs1, c, m, rs1, fc1, cg1, -⟩ := st0
  have mw1 := (lv.1.2.2.cg lv.1.1.1.1 lv.1.1.1.2.2 lv.2.2.1 cg1).1
  refine ⟨⟨rs1.1.2.1.1, rs1.2.1.2.2.2⟩, ?_⟩
  refine Ev.imp (mc mw1) (fun h2 r ⟨v, e1, e2, e3, e4⟩ => ⟨v, e1, e2.trans er, lv.step st (fun _ => ⟨e3, e4⟩) pu hc hm⟩)
theorem mn_r {S : stA} : mnE S S := ⟨Nat.le_refl _, Nat.le_refl _, Nat.le_refl _⟩
theorem km_0 {n : Nat} (h : n ≤ 80) : n ≤ kmC y := by
  unfold kmC
  have : 80 ≤ 2 * nf 6 + (nf 4 + nf 0 + 40 + nf 1) + (nf 4 + nf 0 + 40) + nf 1 + nf 5 := by decide
  omega
theorem pur_q (pu : pur y F μ K κ) (hK : K < 800) : pur y F (sn0 μ) (K + 1) κ := ⟨pu.1.sn, pu.2.1.k1 (by omega), pu.2.2.1.s rfl ce_r, pu.2.2.2⟩
theorem LV0.stay (lv : LV0 g h y ad out K c0 m0 o w R R2 ss Ls Ds cs F μ κ) (hK : K < 800) (st : StpF g h o y R R2 ss Ls Ds 0 0 F h1) (mc : MW h1 y ad μ → EvI g P k2 A2 h1 (fun h2 r' => r' = rM ∧ MG y ad h1 h2 ∧ MW h2 y ad (sn0 μ))) (er : rM = rC) : gMk g y h1 ∧ EvI g P k2 A2 h1 (fun h2 r' => r' = rC ∧ LV g h2 y ad out (K + 1) c0 m0) :=
  lv.two st (pur_q lv.2.1 hK) (cost_1 mn_r (by omega)) (cost_2 mn_r (km_0 (by omega))) mc er
theorem StpF.self (kS : RS g h o w y R R2 ss Ls Ds (fSt F)) (kF : fcR h o y ss cs F) : StpF g h o y R R2 ss Ls Ds 0 0 F h := ⟨o, w, Ls, Ds, cs, 0, 0, kS, kF, CG.rf kS.1.1 kS.1.2.2 _, Nat.le_refl _, Nat.le_refl _, Nat.le_refl _⟩
theorem L_send (lv : LV g h y ad out K c0 m0) (hK : K < 800) : EvI g P 63 [va_rf (some (y 9)), .int x1, .int x2, .int x3, .int x4, .int x5] h (fun h1 r => gMk g y h1 ∧ EvI g P 143 [va_rf (some (y 12)), .int x1, .int x2, .int x3, .int x4, .int x5] h1 (fun h2 r' => r' = r ∧ LV g h2 y ad out (K + 1) c0 m0)) := by
  obtain ⟨o, w, R, R2, ss, Ls, Ds, cs, F, μ, κ, lv⟩ := lv
  obtain ⟨fr, cf, px, hl⟩ := lv.2.1
  refine Ev.imp (m_send lv.1.1 lv.1.2.1 cf.1.2.1) (fun h1 r ⟨v, e1, e2, st⟩ => ⟨v, e1, ?_⟩)
  obtain ⟨f1, f2⟩ := send_R (x1 := x1) (x2 := x2) (x3 := x3) (x4 := x4) (x5 := x5) fr cf.2.2.2.1 cf.1.2.1
  have e : fSt (sendA F x1 x2 x3 x4 x5).1 = fSt F := by
    unfold sendA
    split
    · rfl
    · split
      · rfl
      · split
        · rfl
        · split
          · rfl
          · exact post_o.1
  have el : (snd1 (sn0 μ) x1 x2 x3 x4 x5).1.1 = μ.1 := by
    unfold snd1
    repeat (first | rfl | split)
  refine lv.two st ⟨f1, (cf_send cf fr.2.1.1).k1 (by omega), px_send px fr.2.1.1, by rw [el]; exact hl⟩ (cost_1 (by rw [e]; exact mn_r) (by omega)) (cost_2 (by rw [e]; exact mn_r) (km_0 (by decide))) (fun mw => m_sendM mw (fr_cq fr.sn cf.2.2.1)) (f2.trans e2.symm)
theorem L_again (lv : LV g h y ad out K c0 m0) (hK : K < 800) : EvI g P 64 [va_rf (some (y 9)), .int x1, .int x2] h (fun h1 r => gMk g y h1 ∧ EvI g P 144 [va_rf (some (y 12)), .int x1, .int x2] h1 (fun h2 r' => r' = r ∧ LV g h2 y ad out (K + 1) c0 m0)) := by
  obtain ⟨o, w, R, R2, ss, Ls, Ds, cs, F, μ, κ, lv⟩ := lv
  obtain ⟨fr, cf, px, hl⟩ := lv.2.1
  refine Ev.imp (m_again lv.1.1 lv.1.2.1 cf.1.2.1 cf.2.2.1) (fun h1 r ⟨v, e1, e2, st⟩ => ⟨v, e1, ?_⟩)
  obtain ⟨f1, f2⟩ := again_R (x1 := x1) (x2 := x2) fr cf.2.2.1 cf.1.2.1
  have e : fSt (agaA F x1 x2).1 = fSt F := by
    unfold agaA
    split
    · rfl
    · exact post_o.1
  have el : (aga1 (sn0 μ) x1 x2).1.1 = μ.1 := by
    unfold aga1
    repeat (first | rfl | split)
  refine lv.two st ⟨f1, (cf_again cf).k1 (by omega), px_again px, by rw [el]; exact hl⟩ (cost_1 (by rw [e]; exact mn_r) (by omega)) (cost_2 (by rw [e]; exact mn_r) (km_0 (by decide))) (fun mw => m_againM mw (fr_cq fr.sn cf.2.2.1)) (f2.trans e2.symm)
theorem L_drop (lv : LV g h y ad out K c0 m0) (hK : K < 800) : EvI g P 66 [va_rf (some (y 9)), .int x1] h (fun h1 r => gMk g y h1 ∧ EvI g P 152 [va_rf (some (y 12)), .int x1] h1 (fun h2 r' => r' = r ∧ LV g h2 y ad out (K + 1) c0 m0)) := by
  obtain ⟨o, w, R, R2, ss, Ls, Ds, cs, F, μ, κ, lv⟩ := lv
  obtain ⟨fr, cf, px, hl⟩ := lv.2.1
  refine Ev.imp (m_drop lv.1.1 lv.1.2.1) (fun h1 r ⟨v, e1, e2, st⟩ => ⟨v, e1, ?_⟩)
  obtain ⟨f1, f2⟩ := drop_R (x := x1) fr
  have e : fSt (drpA F x1).1 = fSt F := by
    unfold drpA
    split <;> rfl
  have el : (drp1 (sn0 μ) x1).1.1 = μ.1 := by
    unfold drp1
    repeat (first | rfl | split)
  refine lv.two st ⟨f1, (cf_drop cf).k1 (by omega), px_drop px, by rw [el]; exact hl⟩ (cost_1 (by rw [e]; exact mn_r) (by omega)) (cost_2 (by rw [e]; exact mn_r) (km_0 (by omega))) (fun mw => m_dropM mw) (f2.trans e2.symm)
theorem L_twice (lv : LV g h y ad out K c0 m0) (hK : K < 800) : EvI g P 67 [va_rf (some (y 9)), .int x1] h (fun h1 r => gMk g y h1 ∧ EvI g P 153 [va_rf (some (y 12)), .int x1] h1 (fun h2 r' => r' = r ∧ LV g h2 y ad out (K + 1) c0 m0)) := by
  obtain ⟨o, w, R, R2, ss, Ls, Ds, cs, F, μ, κ, lv⟩ := lv
  obtain ⟨fr, cf, px, hl⟩ := lv.2.1
  refine Ev.imp (m_twice lv.1.1 lv.1.2.1) (fun h1 r ⟨v, e1, e2, st⟩ => ⟨v, e1, ?_⟩)
  obtain ⟨f1, f2⟩ := twice_R (x := x1) fr
  have e : fSt (twiA F x1).1 = fSt F := by
    unfold twiA
    split
    · rfl
    · split <;> rfl
  have el : (twi1 (sn0 μ) x1).1.1 = μ.1 := by
    unfold twi1
    repeat (first | rfl | split)
  refine lv.two st ⟨f1, (cf_twice cf).k1 (by omega), px_twice px, by rw [el]; exact hl⟩ (cost_1 (by rw [e]; exact mn_r) (by omega)) (cost_2 (by rw [e]; exact mn_r) (km_0 (by omega))) (fun mw => m_twiceM mw) (f2.trans e2.symm)
theorem L_crash (lv : LV g h y ad out K c0 m0) (hK : K < 800) : EvI g P 71 [va_rf (some (y 9)), .int x1] h (fun h1 r => gMk g y h1 ∧ EvI g P 157 [va_rf (some (y 12)), .int x1] h1 (fun h2 r' => r' = r ∧ LV g h2 y ad out (K + 1) c0 m0)) := by
  obtain ⟨o, w, R, R2, ss, Ls, Ds, cs, F, μ, κ, lv⟩ := lv
  obtain ⟨fr, cf, px, hl⟩ := lv.2.1
  have hy := fr.1.1.1
  refine Ev.imp (m_crash lv.1.1 lv.1.2.1) (fun h1 r ⟨v, e1, e2, st⟩ => ⟨v, e1, ?_⟩)
  obtain ⟨f1, f2⟩ := crash_R (x := x1) fr (fun i hi => (cf.1.2.2.1 i hi).1)
  have e : mnE (fSt F) (fSt (crsA y F x1).1) := by
    unfold crsA
    split
    · exact mn_r
    · split
      · exact mn_r
      · exact mn_r
  refine lv.two st ⟨f1, (cf_crash cf).k1 (by omega), px_crash px cf hy, by rw [crs_5]; exact hl⟩ (cost_1 e (by omega)) (cost_2 e (km_0 (by decide))) (fun mw => m_crashM mw fr.sn.1.1) (f2.trans e2.symm)
theorem mvd_mn {fr to : Int32} : mnE (fSt F) (fSt (mvdA y F x1 fr to).1) := by
  unfold mvdA
  split
  · exact mn_r
  · split
    · exact mn_r
    · exact mn_r
theorem frm_5 {a b : Int32} : (frmM y μ x1 a b).1.1 = μ.1 := by
  unfold frmM
  repeat (first | rfl | split)
theorem L_restart (lv : LV g h y ad out K c0 m0) (hK : K < 800) : EvI g P 72 [va_rf (some (y 9)), .int x1] h (fun h1 r => gMk g y h1 ∧ EvI g P 159 [va_rf (some (y 12)), .int x1] h1 (fun h2 r' => r' = r ∧ LV g h2 y ad out (K + 1) c0 m0)) := by
  obtain ⟨o, w, R, R2, ss, Ls, Ds, cs, F, μ, κ, lv⟩ := lv
  obtain ⟨fr, cf, px, hl⟩ := lv.2.1
  refine Ev.imp (m_rst lv.1.1 lv.1.2.1) (fun h1 r ⟨v, e1, e2, st⟩ => ⟨v, e1, ?_⟩)
  obtain ⟨f1, f2⟩ := from_R (x := x1) (a := 2) (b := 0) fr
  exact lv.two st ⟨f1, (cf_moved cf (Or.inl rfl)).k1 (by omega), px_up px cf fr.1.1.1, by rw [frm_5]; exact hl⟩ (cost_1 mvd_mn (by omega)) (cost_2 mvd_mn (km_0 (by omega))) (fun mw => m_restartM mw fr.sn.1.1) (f2.trans e2.symm)
theorem L_sleep (lv : LV g h y ad out K c0 m0) (hK : K < 800) : EvI g P 73 [va_rf (some (y 9)), .int x1] h (fun h1 r => gMk g y h1 ∧ EvI g P 160 [va_rf (some (y 12)), .int x1] h1 (fun h2 r' => r' = r ∧ LV g h2 y ad out (K + 1) c0 m0)) := by
  obtain ⟨o, w, R, R2, ss, Ls, Ds, cs, F, μ, κ, lv⟩ := lv
  obtain ⟨fr, cf, px, hl⟩ := lv.2.1
  refine Ev.imp (m_slp lv.1.1 lv.1.2.1) (fun h1 r ⟨v, e1, e2, st⟩ => ⟨v, e1, ?_⟩)
  obtain ⟨f1, f2⟩ := from_R (x := x1) (a := 0) (b := 1) fr
  exact lv.two st ⟨f1, (cf_moved cf (Or.inr (Or.inl rfl))).k1 (by omega), px_sleep px cf fr.1.1.1, by rw [frm_5]; exact hl⟩ (cost_1 mvd_mn (by omega)) (cost_2 mvd_mn (km_0 (by omega))) (fun mw => m_sleepM mw fr.sn.1.1) (f2.trans e2.symm)
theorem L_wake (lv : LV g h y ad out K c0 m0) (hK : K < 800) : EvI g P 74 [va_rf (some (y 9)), .int x1] h (fun h1 r => gMk g y h1 ∧ EvI g P 161 [va_rf (some (y 12)), .int x1] h1 (fun h2 r' => r' = r ∧ LV g h2 y ad out (K + 1) c0 m0)) := by
  obtain ⟨o, w, R, R2, ss, Ls, Ds, cs, F, μ, κ, lv⟩ := lv
  obtain ⟨fr, cf, px, hl⟩ := lv.2.1
  refine Ev.imp (m_wak lv.1.1 lv.1.2.1) (fun h1 r ⟨v, e1, e2, st⟩ => ⟨v, e1, ?_⟩)
  obtain ⟨f1, f2⟩ := from_R (x := x1) (a := 1) (b := 0) fr
  exact lv.two st ⟨f1, (cf_moved cf (Or.inl rfl)).k1 (by omega), px_up px cf fr.1.1.1, by rw [frm_5]; exact hl⟩ (cost_1 mvd_mn (by omega)) (cost_2 mvd_mn (km_0 (by omega))) (fun mw => m_wakeM mw fr.sn.1.1) (f2.trans e2.symm)
theorem L_cut (lv : LV g h y ad out K c0 m0) (hK : K < 800) : EvI g P 75 [va_rf (some (y 9)), .int x1, .int x2] h (fun h1 r => gMk g y h1 ∧ EvI g P 162 [va_rf (some (y 12)), .int x1, .int x2] h1 (fun h2 r' => r' = r ∧ LV g h2 y ad out (K + 1) c0 m0)) := by
  obtain ⟨o, w, R, R2, ss, Ls, Ds, cs, F, μ, κ, lv⟩ := lv
  obtain ⟨fr, cf, px, hl⟩ := lv.2.1
  refine Ev.imp (m_cut lv.1.1 lv.1.2.1) (fun h1 r ⟨v, e1, e2, st⟩ => ⟨v, e1, ?_⟩)
  obtain ⟨f1, f2⟩ := cut_R (x := x1) (z := x2) fr
  have e : mnE (fSt F) (fSt (cutA y F x1 x2).1) := by
    unfold cutA
    split
    · exact mn_r
    · split
      · exact mn_r
      · exact mn_r
  have el : (cutM y (sn0 μ) x1 x2).1.1 = μ.1 := by
    unfold cutM
    repeat (first | rfl | split)
  exact lv.two st ⟨f1, (cf_cut fr.1.1.1 cf).k1 (by omega), px_cut px cf fr.1.1.1, by rw [el]; exact hl⟩ (cost_1 e (by omega)) (cost_2 e (km_0 (by omega))) (fun mw => m_cutM mw fr.sn.1.1) (f2.trans e2.symm)
end
