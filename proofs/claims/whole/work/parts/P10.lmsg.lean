-- message, both sides
section
variable {g : gcT} {P : pmT} {h h1 h2 : hpT} {y ad o w : Nat → Nat} {R R2 : arT} {ss : List Nat} {Ls : List lsT} {Ds : List (Nat × Nat)} {cs : csT} {F : fcT} {μ μ' : mT} {κ K out c0 m0 x b : Nat} {x1 x2 v : Int32}
theorem msq_s (kF : fcR h o y ss cs F) (e : msqA F x1 x2 = some v) : ¬ (msgO h (y 11) x1 = none ∨ x2 < 0 ∨ 5 < x2) := by
  unfold msqA at e
  split at e
  · cases e
  · next j m em =>
    split at e
    · cases e
    · next nk =>
      rintro (q | q)
      · rcases kF.msg x1 with ⟨-, z⟩ | ⟨p, m', x', p1, p2, p3, -⟩
        · unfold msgA at em
          split at em
          · cases em
          · next wi =>
            obtain ⟨j', j1, j2⟩ := inF_1 (x := x1) (n := 40) (by decide) wi
            have := z j' j1 j2
            rw [j2, nI_clamp (by omega), this] at em
            cases em
        · rw [q] at p3; cases p3
      · exact nk q
theorem msq_n (kF : fcR h o y ss cs F) (e : msqA F x1 x2 = none) : msgO h (y 11) x1 = none ∨ x2 < 0 ∨ 5 < x2 := by
  rcases kF.msg x1 with ⟨z, -⟩ | ⟨p, m', x', p1, p2, p3, p4, -⟩
  · exact Or.inl z
  · refine Or.inr ?_
    unfold msqA at e
    split at e
    · next em =>
      exfalso
      unfold msgA at em
      rw [p2, nI_clamp (by omega), p4] at em
      split at em
      · next wi =>
        have : ∀ p, p < 40 → ¬ inF (nI p) 40 = 0 := by decide +kernel
        exact this p p1 wi
      · cases em
    · split at e
      · next q => exact q
      · cases e
theorem LV0.side (lv : LV0 g h y ad out K c0 m0 o w R R2 ss Ls Ds cs F μ κ) (cg : CG (fun z => z = y 12) 1 6 h o h1 o) (mw1 : MW h1 y ad μ) (pu : pur y F μ' (K + 1) κ) (mg : MG y ad h1 h2) (mw2 : MW h2 y ad μ') : LV g h2 y ad out (K + 1) c0 m0 := by
  obtain ⟨⟨rs, fc, mw⟩, -, om, ⟨ko, no, oo⟩, cc, cm⟩ := lv
  have wf := rs.1.1
  have ok := rs.1.2.2
  obtain ⟨rs1, fx1⟩ := rs.f9 cg (fun z hz => Or.inr hz)
  have nb : ∀ {hh : hpT}, hK hh (y 9) = 13 → hK hh (y 12) = 14 → ¬ y 9 = y 12 := fun a b z => by rw [z, b] at a; omega
  have fc1 := fc.fr wf rs.2.1.2.2.1 cg (nb rs.2.1.2.2.1 rs.2.1.2.2.2)
  have cg2 := MG.cg mw1 mg ok om
  obtain ⟨rs2, fx2⟩ := rs1.f9 cg2 (fun z hz => Or.inr hz)
  have fc2 := fc1.fr rs1.1.1 rs1.2.1.2.2.1 cg2 (nb rs1.2.1.2.2.1 rs1.2.1.2.2.2)
  have lo : out < hS h := wf.lt (by omega)
  obtain ⟨⟨m1, m2, m3, m4⟩, ⟨m5, m6, m7, m8⟩, -⟩ := mg
  have c1 := cg.1.2.2.2.1
  have c2 := cg.1.2.2.2.2
  have e1 := cost_1 (κ := κ) (K := K) (kc := 1) (mn_r (S := fSt F)) (by omega)
  have e2 := cost_2 (y := y) (κ := κ) (K := K) (km := 6) (mn_r (S := fSt F)) (km_0 (by omega))
  refine ⟨o, w, R, R2, ss, Ls, Ds, cs, F, μ', κ, ⟨rs2, fc2, mw2⟩, pu, om, ⟨by rw [m5, (cg.1.2.1 out lo).1]; exact ko, by rw [m7, (cg.1.2.1 out lo).2]; exact no, oo⟩, ?_, ?_⟩
  · rw [m2, fx2, fx1]; omega
  · rw [m3, fx2, fx1]; omega
theorem thr_ch (w : hWF h) : Ch (fun _ => False) 1 6 h (thrH h) := ⟨⟨Nat.le_succ _, fun _ _ _ => ⟨rfl, fun _ => ⟨rfl, rfl⟩, rfl, fun _ => ⟨rfl, rfl⟩⟩⟩, fun _ _ => ⟨rfl, rfl⟩, fun a ha => w a (Nat.le_of_succ_le ha), Nat.le_refl _, Nat.le_refl _⟩
theorem L_msg (hP5 : P 205 = msg5 g) (lv : LV g h y ad out K c0 m0) (hk8 : K < 800) : ∃ h1 k, P 205 [.ref (y 9), .int x1, .int x2, .ref out] h = some (h1, some (.int k)) ∧ gMk g y h1 ∧ EvI g P 154 [va_rf (some (y 12)), .int x1, .int x2] h1 (fun h2 b => (k = 0 → hA h2 out 0 = b) ∧ hI h2 836 (y 12) = k ∧ hK h2 (y 12) = 14 ∧ (hK h2 out = 29 ∧ hN h2 out = 1) ∧ LV g h2 y ad out (K + 1) c0 m0) := by
  obtain ⟨o, w, R, R2, ss, Ls, Ds, cs, F, μ, κ, lv⟩ := lv
  obtain ⟨fr, cf, px, hl⟩ := lv.2.1
  obtain ⟨⟨rs, fc, mw⟩, -, om, ⟨ko, no, oo⟩, -⟩ := id lv
  have wf := rs.1.1
  have ok := rs.1.2.2
  have fa := fc.1
  have k2 : hK h (y 9) = 13 ∧ hK h (y 11) = 24 ∧ hN h (y 11) = 40 ∧ hK h out = 29 ∧ 1 ≤ hN h out := ⟨rs.2.1.2.2.1, fa.2.2.1, fa.2.2.2.1, ko, by omega⟩
  obtain ⟨f1, f2⟩ := msg_R (x1 := x1) (x2 := x2) fr cf.2.2.2.2
  have el : (mgM μ x1 x2).1.1 = μ.1 := by
    unfold mgM
    split <;> rfl
  have pu : pur y F (mgM μ x1 x2).1 (K + 1) κ := ⟨f1, cf.k1 (by omega), px.s rfl ce_r, by rw [el]; exact hl⟩
  have ms : ∀ p, p < 40 → ¬ μ.2.1 48 p = -1 → MSh μ p := fun p hp n => (fr_ms fr cf.2.2.1 p hp n).1
  have kad : ∀ r, aKM r = true → hK h (ad r) = kdM r := fun r hr => (mw.1.2.1 r hr).2.1
  have kd9 : ∀ r, ¬ kdM r = 29 ∧ ¬ kdM r = 0 := fun r => by
    unfold kdM
    split <;> omega
  have lo : out < hS h := wf.lt (by omega)
  have gm : gMk g y h := ⟨rs.1.2.1.1, rs.2.1.2.2.2⟩
  rcases f2 with ⟨q1, q2⟩ | ⟨v, q1, q2, q3⟩
  · have ch := thr_ch wf
    have cg : CG (fun z => z = y 12) 1 6 h o (thrH h) o := CG.of0 ch ok (fun _ _ z => z.elim) (fun _ _ => rfl)
    have mw1 : MW (thrH h) y ad μ := mw.smm ch.2.2.1 (ch.sm (fun z => z) (wf.lt (by rw [mw.1.1]; decide))) (fun r hr => ch.sm (fun z => z) (wf.lt (by rw [kad r hr]; exact (kd9 r).2)))
    refine ⟨thrH h, 1, by rw [hP5]; exact msg5_t fa.2.1 k2 (msq_n fc q1), gm, Ev.imp (m_messageM mw1 ms) (fun h2 r ⟨v, e1, e2, e3, e4⟩ => ⟨v, e1, fun z => absurd z (by decide), (e4.n 4 (by decide) (by decide) rfl).trans q2, e4.1.1, ?_, lv.side cg mw1 pu e3 e4⟩)⟩
    obtain ⟨-, ⟨m5, m6, m7, m8⟩, -⟩ := e3
    exact ⟨by rw [m5]; exact ko, by rw [m7]; exact no⟩
  · have ch := Ch.wA wf (i := 0) v lo
    have cg : CG (fun z => z = y 12) 1 6 h o (hpA h out 0 v) o := CG.of0 (ch.mono (fun _ _ z => z) (Nat.zero_le _) (Nat.zero_le _)) ok (fun a _ z => by
      have z : a = out := z
      rw [z, oo, om.1, ko]
      exact ⟨by decide, Or.inr rfl⟩) (fun _ _ => rfl)
    have mw1 : MW (hpA h out 0 v) y ad μ := mw.smm ch.2.2.1 (ch.sm (fun z => by
      have := mw.1.1
      rw [z, ko] at this
      omega) (wf.lt (by rw [mw.1.1]; decide))) (fun r hr => ch.sm (fun z => by
      have := kad r hr
      rw [z, ko] at this
      exact (kd9 r).1 this.symm) (wf.lt (by rw [kad r hr]; exact (kd9 r).2)))
    refine ⟨hpA h out 0 v, 0, by rw [hP5]; exact msg5_r fa.2.1 k2 (msq_s fc q1) (m_68 rs fc q1), gm, Ev.imp (m_messageM mw1 ms) (fun h2 r ⟨v', e1, e2, e3, e4⟩ => ⟨v', e1, fun _ => ?_, (e4.n 4 (by decide) (by decide) rfl).trans q2, e4.1.1, ?_, lv.side cg mw1 pu e3 e4⟩)⟩
    · obtain ⟨-, -, m9, m10⟩ := e3
      rw [m10 out 0 (fun r hr _ z => by
        have := kad r hr
        rw [← z, ko] at this
        exact (kd9 r).1 this.symm), rA_A, if_pos ⟨rfl, rfl⟩, e2, q3]
    · obtain ⟨-, ⟨m5, m6, m7, m8⟩, -⟩ := e3
      exact ⟨by rw [m5]; exact ko, by rw [m7]; exact no⟩
end
