/-! the two sides: a tablet is taken over; its NOTES -/
/-- a recovery under way: server i takes; DEAD LOGS, who is UP, the dead LOG's label stay -/
def RI (y : Nat → Nat) (_ L M : Nat) (de : List (alT × Int32)) (up j : Nat) (x : Int32) (S : stA) (μ : mT) : Prop := MR y S μ ∧ GQ PV0 μ.1 ∧ (∀ i, i < y 20 → ∀ u ∈ (sLg ((tSv S).getD i sr0)).1, u.1 < tNm S) ∧ μ.1.length ≤ L ∧ tNm S ≤ M ∧ tDe S = de ∧ upN (tSv S) = up ∧ μ.2.1 57 j = x
section TV
variable {T T' T2 : List slT} {x x' v xr : Int32} {A A' B D : alT} {st : Nat → Int32} {k e i j N U rep nm m c n up L M t r : Nat} {s s' : slT} {p : pT} {l rd : List pT} {ky : Int32} {y : Nat → Nat} {S S' : stA} {μ μ' : mT} {de : List (alT × Int32)} {en : enT} {ps : psT}
theorem dg_V (v : Int32) : PV0 (dgP v) := ⟨⟨fun h => absurd rfl h, fun h => absurd rfl h⟩, fun h => absurd h (show ¬ (0 : Int32) = 4 by decide), (show ¬ (0 : Int32) = -1 by decide), fun h => absurd h (show ¬ (0 : Int32) = 4 by decide)⟩
theorem RI.li (h : RI y i L M de up j x S μ) (hi : i < y 20) : LI (tNm S) (sLg ((tSv S).getD i sr0)) ∧ AN (allP (sLg ((tSv S).getD i sr0))) := by
  have y8 := h.1.1.1.1.2
  have a4 := (h.1.2.2.2.2.1 i hi).2.2.2.1
  have g := h.2.1.li a4 (by omega)
  refine ⟨⟨fun u hu p hp => (g u hu p hp).1, h.2.2.1 i hi⟩, fun p hp k4 => ?_⟩
  obtain ⟨u, u1, u2⟩ := allP_mem.mp hp
  exact (g u u1 p u2).2.2.2 k4
theorem opn2_row (h : ¬ r = 10) : (opn2 y μ i).2.1 r k = μ.2.1 r k := by
  unfold opn2
  split
  · exact if_neg (fun w => h w.1)
  · exact if_neg (fun w => h w.1)
theorem opn_row (h : ¬ r = 10) : (opnM y μ i xr).1.2.1 r k = μ.2.1 r k := by
  rcases opn_3 (y := y) (μ := μ) (i := i) (xr := xr) with e | e | e
  · rw [e]
  · rw [e]; exact opn2_row h
  · rw [e]
    exact (if_neg (fun w => h w.1)).trans (opn2_row h)
theorem app_row (h : ¬ r = 10) : (appM y μ i xr en c).1.2.1 r k = μ.2.1 r k := by
  have a1 : (ap1 y μ i xr en).1.2.1 r k = μ.2.1 r k := by
    unfold ap1
    split
    · exact opn_row h
    · rfl
  unfold appM
  split
  · exact a1
  · exact a1
theorem app_len (mr : MR y S μ) : (appM y μ i xr en c).1.1.length ≤ μ.1.length + 2 := by
  have a1 := ap1_len (i := i) (xr := xr) (en := en) mr
  unfold appM
  split
  · exact a1
  · show ((ap1 y μ i xr en).1.1.set _ _).length ≤ _
    rw [List.length_set]; exact a1
theorem aps_up : upN (tSv (apS y i S p)) = upN (tSv S) := by
  have a : ∀ (S : stA) (B : alT), upN ((tSv S).set i (stLg ((tSv S).getD i sr0) B)) = upN (tSv S) := fun S B => upN_st _ _ _ rfl
  unfold apS
  split
  · exact a S _
  · exact (a (rmW S i (mkrS y S i (kU (pKd p)) 0)) _).trans (a S _)
theorem RI.ap (h : RI y i L M de up j x S μ) (hi : i < y 20) (hL : L < 2 ^ 31 - 9) (hM : M + 2 ≤ 80000) (k3 : ¬ pKd p = 3) (pv : PV0 p) : RI y i (L + 2) (M + 2) de up j x (apS y i S p) (appM y μ i 1 (p, none) 8).1 := by
  obtain ⟨li, an⟩ := h.li hi
  obtain ⟨mr, gq, nm, hl, hm, hd, hu, hx⟩ := h
  have ls : i < (tSv S).length := by rw [mr.2.1.1]; exact hi
  obtain ⟨n1, n2, n3, n4⟩ := aps_nm (y := y) (p := p) ls (nm i hi)
  have hnm : (mkrS y S i (kU (pKd p)) 0).2.1 ≤ 80000 := by omega
  have hT : μ.1.length < 2 ^ 31 - 9 := by omega
  refine ⟨aps_R mr hT hi li k3 pv.2.2.1 hnm, (aps_GQ (q := fun _ => false) mr hT hi li k3 pv.2.2.1 hnm).1 gq dg_V pv, (fun i' hi' => by
    by_cases q : i' = i
    · subst q; exact n1
    · rw [aps_o.2.2.2.2.2 i' q]; exact fun u hu => Nat.lt_of_lt_of_le (nm i' hi' u hu) n2), Nat.le_trans (app_len mr) (by omega), by omega, aps_o.2.1.trans hd, aps_up.trans hu, (app_row (by decide)).trans hx⟩
theorem RI.mono (h : RI y i L M de up j x S μ) {L' M' : Nat} (h1 : L ≤ L') (h2 : M ≤ M') : RI y i L' M' de up j x S μ := ⟨h.1, h.2.1, h.2.2.1, Nat.le_trans h.2.2.2.1 h1, Nat.le_trans h.2.2.2.2.1 h2, h.2.2.2.2.2⟩
/-- what both read of the dead LOG, all along -/
theorem RI.reads (h : RI y i L M de up j x S μ) (hj : j < de.length) (di : DI (de.getD j d0A).1) (hu : upH (nI up) (de.getD j d0A).1) : grM μ x = (psA (rdP (nI up) (de.getD j d0A).1)).1 ∧ (∀ c, c < 6 → acM μ x (nI c) = (psA (rdP (nI up) (de.getD j d0A).1)).2.1 c) ∧ (∀ k, k < 64 → (obM μ x (nI k)).map (ptM μ) = (psA (rdP (nI up) (de.getD j d0A).1)).2.2.1 k) ∧ ∀ c n, c < 6 → 1 ≤ n → n ≤ 40 → (reM μ x (nI c) (nI n)).map (ptM μ) = (psA (rdP (nI up) (de.getD j d0A).1)).2.2.2 (c * 40 + n - 1) := by
  obtain ⟨mr, gq, nm, hl, hm, hd, hup, hx⟩ := h
  subst hd; subst hup; subst hx
  exact DRD mr hj di hu
theorem own_ac (mr : MR y S μ) (hi : i < y 20) : acM μ (nI i) ky = ackA (allP (sLg ((tSv S).getD i sr0))) ky := by
  have y8 := mr.1.1.1.2
  have a4 := (mr.2.2.2.2.1 i hi).2.2.2.1
  have hx : nI i < 16 := by
    rw [show (16 : Int32) = nI 16 from rfl]
    exact nI_lt (by omega) (by decide)
  exact a4.acT (SP.ho mr.2.2.2.2.2.2.2.1) hx
theorem apL_app : apL y i S (l ++ rd) = apL y i (apL y i S l) rd := by unfold apL; rw [List.foldl_append]
theorem nt_V (hc : c < 6) {a : Int32} : PV0 (noteP c a) := ⟨⟨fun _ => ⟨c, hc, rfl⟩, fun h => absurd rfl h⟩, fun h => absurd h (show ¬ (1 : Int32) = 4 by decide), (show ¬ (1 : Int32) = -1 by decide), fun h => absurd h (show ¬ (1 : Int32) = 4 by decide)⟩
theorem tv_n (h : RI y i L M de up j x S μ) (hi : i < y 20) (hj : j < de.length) (di : DI (de.getD j d0A).1) (hu : upH (nI up) (de.getD j d0A).1) (hL : L + 12 < 2 ^ 31 - 9) (hM : M + 14 ≤ 80000) : ∀ n, n ≤ 6 → RI y i (L + 2 * n) (M + 2 * n) de up j x (apL y i S (mvN (psA (rdP (nI up) (de.getD j d0A).1)) (sLg ((tSv S).getD i sr0)) n)) ((List.range n).foldl (toN y i x) μ) ∧ ∀ c, n ≤ c → c < 6 → ackA (allP (sLg ((tSv (apL y i S (mvN (psA (rdP (nI up) (de.getD j d0A).1)) (sLg ((tSv S).getD i sr0)) n))).getD i sr0))) (nI c) = ackA (allP (sLg ((tSv S).getD i sr0))) (nI c) := by
  intro n
  generalize hps : psA (rdP (nI up) (de.getD j d0A).1) = ps
  induction n with
  | zero => intro _; exact ⟨h, fun c _ _ => rfl⟩
  | succ n ih =>
    intro hn
    obtain ⟨i1, i2⟩ := ih (by omega)
    have em : mvN ps (sLg ((tSv S).getD i sr0)) (n + 1) = mvN ps (sLg ((tSv S).getD i sr0)) n ++ (if ps.2.1 n ≤ ackA (allP (sLg ((tSv S).getD i sr0))) (nI n) then [] else [noteP n (ps.2.1 n)]) := by
      unfold mvN
      rw [List.range_succ, List.flatMap_append]
      congr 1
      show _ ++ [] = _
      rw [List.append_nil]
    rw [em, apL_app, rfl_s]
    have a2 := i2 n (Nat.le_refl _) (by omega)
    generalize apL y i S (mvN ps (sLg ((tSv S).getD i sr0)) n) = S1 at *
    generalize (List.range n).foldl (toN y i x) μ = μ1 at *
    have rd := (i1.reads hj di hu).2.1 n (by omega)
    rw [hps] at rd
    have oa := own_ac (ky := nI n) i1.1 hi
    rw [a2] at oa
    unfold toN
    rw [rd, oa]
    by_cases q : ps.2.1 n ≤ ackA (allP (sLg ((tSv S).getD i sr0))) (nI n)
    · rw [if_pos q, if_pos q]
      exact ⟨i1.mono (by omega) (by omega), fun c h1 h2 => i2 c (by omega) h2⟩
    · rw [if_neg q, if_neg q]
      obtain ⟨li, an⟩ := i1.li hi
      refine ⟨(i1.ap (p := noteP n (ps.2.1 n)) hi (by omega) (by omega) (show ¬ (1 : Int32) = 3 by decide) (nt_V (a := ps.2.1 n) (show n < 6 by omega))).mono (by omega) (by omega), fun c h1 h2 => ?_⟩
      have ir : irr (nI c) (noteP n (ps.2.1 n)) := Or.inr (fun w => by
        have w : nI n = nI c := w
        have := nI_inj (by omega) (by omega) w
        omega)
      exact (aps_ack i1.1 hi li an ir).trans (i2 c (by omega) h2)
theorem reM_k2 {c n : Int32} {w : Nat × Nat × Nat} (e : reM μ x c n = some w) (mr : MR y S μ) : cel μ w 0 = 5 := by
  have : kdV μ 5 (reM μ x c n) := by
    refine tF_inv (p := kdV μ 5) (fun _ q => by cases q) (th_le (SP.ho mr.2.2.2.2.2.2.2.1)) (fun b k e i hk hl he hi hb => ?_)
    unfold resM
    cases b with
    | some _ => exact hb
    | none =>
      dsimp only
      split
      · exact fun _ q => by cases q
      · rename_i z
        split
        · exact fun _ q => by cases q
        · split
          · exact fun _ q => by cases q
          · intro _ q; cases q; exact Decidable.not_not.mp z
  exact this w e
theorem ptM_y {w : Nat × Nat × Nat} (kd : cel μ w 0 = 5) : cel μ w 3 = pKy (ptM μ w) := by
  obtain ⟨qk, qe, qi⟩ := w
  have kd : mE ((lEn (μ.1.getD qk sl0)).getD qe en0) qi 0 = 5 := kd
  show mE ((lEn (μ.1.getD qk sl0)).getD qe en0) qi 3 = pKy (if qi = 0 then ((lEn (μ.1.getD qk sl0)).getD qe en0).1 else ((lEn (μ.1.getD qk sl0)).getD qe en0).2.getD (dgP 0))
  generalize (lEn (μ.1.getD qk sl0)).getD qe en0 = E at kd ⊢
  have ky : ∀ p : pT, mPt p 0 = 5 → mPt p 3 = pKy p := fun p h => if_neg (fun w => by
    have k4 : pKd p = 4 := (kd_1 (v := 4) (by decide)).mp h
    rw [k4] at w
    exact absurd w (by decide))
  unfold mE at kd ⊢
  by_cases z : qi = 0
  · rw [if_pos z] at kd ⊢
    rw [if_pos z]
    exact ky _ kd
  · rw [if_neg z] at kd ⊢
    rw [if_neg z]
    cases e2 : E.2 with
    | none => rw [e2] at kd; exact absurd kd (show ¬ (0 : Int32) = 5 by decide)
    | some p => rw [e2] at kd; exact ky p kd
end TV
