/-! the two sides: all DEAD LOGS -/
def DAl (S : stA) : Prop := ∀ j, j < (tDe S).length → DI ((tDe S).getD j d0A).1 ∧ ∃ b, b < 256 ∧ 0 < b ∧ ((tDe S).getD j d0A).2 = nI b
def TBl (y : Nat → Nat) (S : stA) : Prop := ∀ i, i < y 20 → ∃ b, b < 256 ∧ sTb ((tSv S).getD i sr0) = nI b
section LP
variable {x x' v xr : Int32} {A A' B D : alT} {k e i j N U rep nm m c n up L M t r a mem : Nat} {p : pT} {l : List pT} {y : Nat → Nat} {S S' : stA} {μ μ' : mT} {de : List (alT × Int32)} {ps : psT} {up' aw safe lim : Int32}
theorem opnA_mono : nm ≤ (opnA N U rep mem up' aw nm i safe lim A).2.1 := by
  have cl : nm ≤ (opn1 N U rep mem up' nm i A).2.1 := by
    unfold opn1
    split
    · unfold clnA
      split
      · exact Nat.le_succ _
      · exact Nat.le_refl _
    · exact Nat.le_refl _
  unfold opnA
  generalize opn1 N U rep mem up' nm i A = O at cl
  split
  · exact Nat.le_refl _
  · split
    · exact cl
    · exact Nat.le_succ_of_le cl
theorem apS_mono : tNm S ≤ tNm (apS y i S p) ∧ tDe (apS y i S p) = tDe S := by
  have mk : tNm S ≤ (mkrS y S i (kU (pKd p)) 0).2.1 := by
    unfold mkrS mkrA
    split
    · exact Nat.le_refl _
    · exact opnA_mono
  unfold apS
  split
  · exact ⟨mk, rfl⟩
  · exact ⟨mk, rfl⟩
theorem apL_mono : ∀ (l : List pT) (S : stA), tNm S ≤ tNm (apL y i S l) ∧ tDe (apL y i S l) = tDe S := by
  intro l
  induction l with
  | nil => intro S; exact ⟨Nat.le_refl _, rfl⟩
  | cons p l ih =>
    intro S
    obtain ⟨a1, a2⟩ := ih (apS y i S p)
    obtain ⟨b1, b2⟩ := apS_mono (y := y) (i := i) (S := S) (p := p)
    exact ⟨Nat.le_trans b1 a1, a2.trans b2⟩
theorem tkS_mono : tNm S ≤ tNm (tkS y ps S i t) ∧ tDe (tkS y ps S i t) = tDe S := by
  unfold tkS
  have e2 : tNm S ≤ tNm (tk2 y ps.1 (tk1 S i t) i) ∧ tDe (tk2 y ps.1 (tk1 S i t) i) = tDe S := by
    unfold tk2
    split
    · exact ⟨Nat.le_refl _, rfl⟩
    · exact ⟨opnA_mono, rfl⟩
  obtain ⟨a1, a2⟩ := apL_mono (y := y) (i := i) (movA ps (sLg ((tSv (tk2 y ps.1 (tk1 S i t) i)).getD i sr0)) t) (tk2 y ps.1 (tk1 S i t) i)
  exact ⟨Nat.le_trans e2.1 a1, a2.trans e2.2⟩
theorem rcT_de (hj : j < (tDe S).length) : tNm S ≤ tNm (rcT y ps j (S, k) t).1 ∧ ∃ m', tDe (rcT y ps j (S, k) t).1 = (tDe S).set j (((tDe S).getD j d0A).1, m') := by
  unfold rcT
  split
  · exact ⟨Nat.le_refl _, ((tDe S).getD j d0A).2, set_self.symm⟩
  · dsimp only
    cases heirA y S with
    | none => exact ⟨Nat.le_refl _, ((tDe S).getD j d0A).2, set_self.symm⟩
    | some i =>
      obtain ⟨a1, a2⟩ := tkS_mono (y := y) (ps := ps) (S := dtb S j t) (i := i) (t := t)
      dsimp only
      generalize tkS y ps (dtb S j t) i t = S1 at a1 a2 ⊢
      exact ⟨a1, ((tDe S).getD j d0A).2 &&& ((1 <<< (nI t &&& 31)) ^^^ (-1)), a2⟩
theorem rcF_de : ∀ (l : List Nat) (S : stA) (k : Nat), j < (tDe S).length → tNm S ≤ tNm (l.foldl (rcT y ps j) (S, k)).1 ∧ ∃ m', tDe (l.foldl (rcT y ps j) (S, k)).1 = (tDe S).set j (((tDe S).getD j d0A).1, m') := by
  intro l
  induction l with
  | nil => intro S k hj; exact ⟨Nat.le_refl _, ((tDe S).getD j d0A).2, set_self.symm⟩
  | cons t l ih =>
    intro S k hj
    obtain ⟨a1, m1, a2⟩ := rcT_de (y := y) (ps := ps) (k := k) (t := t) hj
    rw [List.foldl_cons]
    generalize rcT y ps j (S, k) t = st at a1 a2
    obtain ⟨S1, k1⟩ := st
    have hj1 : j < (tDe S1).length := by
      have a2 : tDe S1 = _ := a2
      rw [a2, List.length_set]; exact hj
    obtain ⟨b1, m2, b2⟩ := ih S1 k1 hj1
    refine ⟨Nat.le_trans a1 b1, m2, ?_⟩
    have a2 : tDe S1 = _ := a2
    rw [b2, a2, List.set_set, setD_g _ hj]
theorem rcD_de {st : stA × Nat} (hj : j < (tDe st.1).length) : tNm st.1 ≤ tNm (rcD y st j).1 ∧ ∃ m', tDe (rcD y st j).1 = (tDe st.1).set j (((tDe st.1).getD j d0A).1, m') := by
  obtain ⟨S, k⟩ := st
  unfold rcD
  split
  · exact rcF_de _ S k hj
  · exact ⟨Nat.le_refl _, ((tDe S).getD j d0A).2, set_self.symm⟩
theorem rcL_mono : ∀ (n : Nat) (st : stA × Nat) (j r : Nat), tNm st.1 ≤ tNm (rcL y n st j r).1.1 := by
  intro n
  induction n with
  | zero => intro st j r; exact Nat.le_refl _
  | succ n ih =>
    intro st j r
    show _ ≤ tNm (if _ then _ else if _ then _ else _ : (stA × Nat) × Nat).1.1
    split
    · exact Nat.le_refl _
    · rename_i q
      have a1 := (rcD_de (y := y) (st := st) (j := j) (by omega)).1
      split
      · exact Nat.le_trans a1 (ih (rmD (rcD y st j).1 j, (rcD y st j).2) j (r + 1))
      · exact Nat.le_trans a1 (ih _ _ _)
/-- a store that may be recovered from -/
def RK (y : Nat → Nat) (L : Nat) (S : stA) (μ : mT) : Prop := MR y S μ ∧ GQ PV0 μ.1 ∧ (∀ i, i < y 20 → ∀ u ∈ (sLg ((tSv S).getD i sr0)).1, u.1 < tNm S) ∧ μ.1.length ≤ L ∧ DAl S ∧ TBl y S
theorem RK.rj (h : RK y L S μ) (hj : j < (tDe S).length) : RJ y L (tNm S) j (μ.2.1 57 j) ((tDe S).getD j d0A).1 (upN (tSv S)) S μ := by
  obtain ⟨mr, gq, nm, hl, da, tb⟩ := h
  obtain ⟨-, b, hb, -, eb⟩ := da j hj
  exact ⟨⟨mr, gq, nm, hl, Nat.le_refl _, rfl, rfl, rfl⟩, ⟨hj, rfl, b, hb, eb⟩, tb⟩
theorem ar_3 {L n C : Nat} (h : L + 5000 * (n + 1 + 1) < C) : L + 4080 + 5000 * (n + 1) < C ∧ L + 520 * (8 + 1) < C := by omega
theorem rcL_R : ∀ (n L : Nat) (S : stA) (k j r : Nat) (μ : mT) (v : Int32), RK y L S μ → v = nI r → tNm (rcL y n (S, k) j r).1.1 ≤ 75000 → L + 5000 * (n + 1) < 2 ^ 31 - 9 → RK y (L + 5000 * n) (rcL y n (S, k) j r).1.1 (rcW y n j v μ).1 ∧ (rcW y n j v μ).2 = nI (rcL y n (S, k) j r).2 := by
  intro n
  induction n with
  | zero => intro L S k j r μ v h e _ _; exact ⟨h, e⟩
  | succ n ih =>
    intro L S k j r μ v h e hn hL
    have hL1 := (ar_3 hL).1
    have hL2 := (ar_3 hL).2
    have dn := h.1.dn
    have hS : tNm S ≤ 75000 := Nat.le_trans (rcL_mono (y := y) (n + 1) (S, k) j r) hn
    by_cases q : (tDe S).length ≤ j
    · have e1 : rcL y (n + 1) (S, k) j r = ((S, k), r) := by
        show (if _ then _ else _) = _
        rw [if_pos q]
      have e2 : rcW y (n + 1) j v μ = (μ, v) := by
        show (if _ then _ else _) = _
        rw [dn, if_pos q]
      rw [e1, e2]
      exact ⟨⟨h.1, h.2.1, h.2.2.1, Nat.le_trans h.2.2.2.1 (Nat.le_add_right _ _), h.2.2.2.2⟩, e⟩
    · have hj : j < (tDe S).length := by omega
      have rj := h.rj hj
      obtain ⟨mr, gq, nm, hl, da, tb⟩ := h
      obtain ⟨di, b, hb, hb0, eb⟩ := da j hj
      have cn := can_R mr hj
      have e1 : rcL y (n + 1) (S, k) j r = if ((tDe (rcD y (S, k) j).1).getD j d0A).2 = 0 then rcL y n (rmD (rcD y (S, k) j).1 j, (rcD y (S, k) j).2) j (r + 1) else rcL y n (rcD y (S, k) j) (j + 1) r := by
        show (if _ then _ else _) = _
        rw [if_neg q]
      have e2 : rcW y (n + 1) j v μ = if (recM y μ j).2 = 0 then rcW y n (j + 1) v (recM y μ j).1 else rcW y n j (v + 1) (ddM (recM y μ j).1 j) := by
        show (if _ then _ else _) = _
        rw [dn, if_neg q]
      obtain ⟨d1, m', d2⟩ := rcD_de (y := y) (st := (S, k)) hj
      have d2 : tDe (rcD y (S, k) j).1 = (tDe S).set j (((tDe S).getD j d0A).1, m') := d2
      cases rn : rcN y μ j with
      | true =>
        rw [rn] at cn
        have eD : rcD y (S, k) j = (S, k) := by
          unfold rcD
          rw [if_neg (by rw [cn]; decide)]
        have eM : recM y μ j = (μ, 0) := by unfold recM; rw [if_pos rn]
        have mz : ¬ ((tDe S).getD j d0A).2 = 0 := fun w => by
          rw [eb] at w
          have := nI_inj (a := b) (b := 0) (by omega) (by omega) (w.trans nI_0.symm)
          omega
        rw [eD, if_neg mz] at e1
        rw [eM, if_pos rfl] at e2
        rw [e1] at hn ⊢
        rw [e2]
        obtain ⟨t1, t2⟩ := ih (L + 4080) S k (j + 1) r μ v ⟨mr, gq, nm, by omega, da, tb⟩ e hn hL1
        exact ⟨⟨t1.1, t1.2.1, t1.2.2.1, Nat.le_trans t1.2.2.2.1 (by omega), t1.2.2.2.2⟩, t2⟩
      | false =>
        rw [rn] at cn
        have hu : upH (nI (upN (tSv S))) ((tDe S).getD j d0A).1 := fun u hu => by
          unfold canA at cn
          rw [Bool.not_false, Bool.and_eq_true, List.all_eq_true] at cn
          exact of_decide_eq_true (cn.2 u hu)
        have eD : rcD y (S, k) j = (List.range' 0 8).foldl (rcT y (psA (rdP (nI (upN (tSv S))) ((tDe S).getD j d0A).1)) j) (S, k) := by
          unfold rcD
          rw [if_pos (by rw [cn]; rfl), List.range_eq_range']
          rfl
        have eM : recM y μ j = rc2 (rcG y j (μ.2.1 57 j) (List.range' 0 8) μ) (μ.2.1 57 j) := by unfold recM; rw [if_neg (by rw [rn]; decide)]
        obtain ⟨g1, g2, g3⟩ := rcG_R (y := y) di hu 8 0 L (tNm S) S μ k rfl rj (fun t' ht' => absurd ht' (Nat.not_lt_zero _)) hL2 (by omega)
        rw [← eD] at g1 g2 g3
        generalize rcG y j (μ.2.1 57 j) (List.range' 0 8) μ = G at g1 g2 g3 eM
        generalize rcD y (S, k) j = C at g1 g2 g3 d1 d2 e1
        obtain ⟨S1, k1⟩ := C
        obtain ⟨⟨m1, m2, m3, m4, m5, m6, m7, m8⟩, ⟨c1, c2, b', c3, c4⟩, c5⟩ := g1
        have dg : ∀ q, ¬ q = j → (tDe S1).getD q d0A = (tDe S).getD q d0A := fun q hq => by
          have d2 : tDe S1 = _ := d2
          rw [d2, List.getD_eq_getElem?_getD, List.getElem?_set_ne (fun w => hq w.symm), ← List.getD_eq_getElem?_getD]
        have dlen : (tDe S1).length = (tDe S).length := by
          have d2 : tDe S1 = _ := d2
          rw [d2, List.length_set]
        by_cases gz : G.2 = 0
        · have mz : ¬ ((tDe S1).getD j d0A).2 = 0 := g3 gz
          have e1 : rcL y (n + 1) (S, k) j r = rcL y n (S1, k1) (j + 1) r := e1.trans (if_neg mz)
          have eM : recM y μ j = G := by rw [eM]; unfold rc2; rw [if_pos gz]
          rw [eM, if_pos gz] at e2
          rw [e1] at hn ⊢
          rw [e2]
          have da1 : DAl S1 := fun q hq => by
            by_cases w : q = j
            · subst w
              refine ⟨by rw [c2]; exact di, b', c3, ?_, c4⟩
              rcases Nat.eq_zero_or_pos b' with z | z
              · rw [c4, z] at mz
                exact absurd rfl mz
              · exact z
            · rw [dg q w]
              exact da q (by omega)
          obtain ⟨t1, t2⟩ := ih (L + 4080) S1 k1 (j + 1) r G.1 v ⟨m1, m2, m3, by omega, da1, c5⟩ e hn hL1
          exact ⟨⟨t1.1, t1.2.1, t1.2.2.1, Nat.le_trans t1.2.2.2.1 (by omega), t1.2.2.2.2⟩, t2⟩
        · have mz : ((tDe S1).getD j d0A).2 = 0 := g2 gz
          have e1 : rcL y (n + 1) (S, k) j r = rcL y n (rmD S1 j, k1) j (r + 1) := e1.trans (if_pos mz)
          have eM : recM y μ j = (uT G.1 (lgT G.1.1 (μ.2.1 57 j) 99), 1) := by rw [eM]; unfold rc2; rw [if_neg gz]
          rw [eM, if_neg (show ¬ (1 : Int32) = 0 by decide)] at e2
          rw [e1] at hn ⊢
          rw [e2]
          have rm := rm_R m1 c1
          rw [m8] at rm
          have rm : MR y (rmD S1 j) (ddM (uT G.1 (lgT G.1.1 (μ.2.1 57 j) 99), (1 : Int32)).1 j) := rm
          have mT : (ddM (uT G.1 (lgT G.1.1 (μ.2.1 57 j) 99)) j).1 = lgT G.1.1 (μ.2.1 57 j) 99 := (dm_f _).1
          obtain ⟨el, eg⟩ := er_g c1
          have da1 : DAl (rmD S1 j) := fun q hq => by
            have hq : q < (tDe S1).length - 1 := by
              have hq : q < ((tDe S1).eraseIdx j).length := hq
              rw [el] at hq
              exact hq
            have c1 : j < (tDe S1).length := c1
            show DI (((tDe S1).eraseIdx j).getD q d0A).1 ∧ ∃ b, b < 256 ∧ 0 < b ∧ (((tDe S1).eraseIdx j).getD q d0A).2 = nI b
            rw [eg]
            split
            · rw [dg q (by omega)]; exact da q (by omega)
            · rw [dg (q + 1) (by omega)]; exact da (q + 1) (by omega)
          have gq1 : GQ PV0 (ddM (uT G.1 (lgT G.1.1 (μ.2.1 57 j) 99)) j).1 := by
            rw [mT]
            intro s hs n99 p hp
            rcases lg_mem hs with ⟨w, w1, w2, w3⟩ | ⟨w1, w2⟩
            · rw [w3] at n99; exact absurd rfl n99
            · exact m2 s w1 n99 p hp
          have hlen : (ddM (uT G.1 (lgT G.1.1 (μ.2.1 57 j) 99)) j).1.length ≤ L + 4080 := by rw [mT, lg_len]; omega
          obtain ⟨t1, t2⟩ := ih (L + 4080) (rmD S1 j) k1 j (r + 1) _ (v + 1) ⟨rm, gq1, m3, hlen, da1, c5⟩ (by rw [e, nI_1]) hn hL1
          exact ⟨⟨t1.1, t1.2.1, t1.2.2.1, Nat.le_trans t1.2.2.2.1 (by omega), t1.2.2.2.2⟩, t2⟩
end LP
