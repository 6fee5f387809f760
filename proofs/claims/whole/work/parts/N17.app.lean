/-! the two sides: room, and what is written -/
section AP
variable {T T' T2 : List slT} {x x' n xr lim need : Int32} {A A' B : alT} {st : Nat → Int32} {k e i j N U rep nm m up c : Nat} {s s' : slT} {hd : Option Nat} {y : Nat → Nat} {S S' : stA} {μ μ' : mT} {hs : List (Nat × Nat)} {E : List enT} {en : enT} {p : pT}
theorem kU_12 (k : Int32) : ∃ u, kU k = nI u ∧ 1 ≤ u ∧ u ≤ 2 := by
  unfold kU
  split
  · exact ⟨2, rfl, by decide, by decide⟩
  · exact ⟨1, rfl, by decide, by decide⟩
theorem uns_N : ∀ (ps : List pT) (t : Nat), ∃ u, ps.foldl (fun t p => t + kU (pKd p)) (nI t) = nI u ∧ t + ps.length ≤ u ∧ u ≤ t + 2 * ps.length := by
  intro ps
  induction ps with
  | nil => intro t; exact ⟨t, rfl, Nat.le_refl _, Nat.le_refl _⟩
  | cons p ps ih =>
    intro t
    obtain ⟨u, u1, u2, u3⟩ := kU_12 (pKd p)
    rw [List.foldl_cons, u1, nI_add]
    obtain ⟨w, w1, w2, w3⟩ := ih (t + u)
    exact ⟨w, w1, by rw [List.length_cons]; omega, by rw [List.length_cons]; omega⟩
theorem enS_len : ∀ (E : List enT), E.length ≤ (enS E).length ∧ (enS E).length ≤ 2 * E.length := by
  intro E
  induction E with
  | nil => exact ⟨Nat.le_refl _, Nat.le_refl _⟩
  | cons e E ih =>
    rw [enS_cons, List.length_append, List.length_cons]
    have : 1 ≤ (enP e).length ∧ (enP e).length ≤ 2 := by
      unfold enP
      cases e.2 with
      | none => exact ⟨Nat.le_refl 1, Nat.le_succ 1⟩
      | some q => exact ⟨Nat.le_succ 1, Nat.le_refl 2⟩
    omega
/-- units of a slot, as a number -/
theorem us_N (ev : EV E) (l16 : E.length ≤ 16) : ∃ u, usT E = nI u ∧ unsA (enS E) = nI u ∧ E.length ≤ u ∧ u ≤ 64 := by
  obtain ⟨u, u1, u2, u3⟩ := uns_N (enS E) 0
  obtain ⟨l1, l2⟩ := enS_len E
  have e : unsA (enS E) = nI u := by rw [← u1]; rfl
  exact ⟨u, by rw [usT_S ev]; exact e, e, by omega, by omega⟩
theorem find_u {n : Nat} : ∀ {l : List agT} {u : agT}, l.Pairwise (fun a b => a.1 < b.1) → u ∈ l → u.1 = n → l.find? (fun g => g.1 == n) = some u := by
  intro l
  induction l with
  | nil => intro u _ h; cases h
  | cons a l ih =>
    intro u pw h e
    rw [List.pairwise_cons] at pw
    rw [List.find?_cons]
    rcases List.mem_cons.mp h with z | z
    · subst z
      have : (u.1 == n) = true := by rw [e]; exact beq_self_eq_true n
      rw [this]
    · have lt := pw.1 u z
      have : (a.1 == n) = false := by rw [beq_eq_false_iff_ne]; omega
      rw [this]
      exact ih pw.2 z e
theorem hd_G (r : LgR T x A) (hk : k < T.length) (hl : lLg (T.getD k sl0) = x) (hh : A.2.1 = some (lNm (T.getD k sl0))) : hdG A = some (agS (T.getD k sl0)) := by
  unfold hdG
  rw [hh]
  exact find_u r.2.1 (r.mem (fl_at hk hl)) rfl
theorem ho_all (u : UPR st N up) (h8 : N ≤ 8) (g : ((lHo s).map (·.1)).Nodup ∧ ∀ z ∈ lHo s, z.1 < N) : mskL (lHo s) &&& (nI up ^^^ (-1)) = 0 ↔ hoU st s = (lHo s).length := by
  rw [(u.hol h8 g).2, hoU_c, ← List.length_map (f := fun z : Nat × Nat => z.1), cnt_full]
  constructor
  · intro h v hv
    obtain ⟨z, z1, z2⟩ := List.mem_map.mp hv
    subst z2
    exact decide_eq_true (h z z1)
  · intro h z hz
    exact of_decide_eq_true (h z.1 (List.mem_map_of_mem hz))
theorem rm_3 : ∀ U, U < 17 → ∀ u, u < 65 → ∀ n, n < 5 → (nI n ≤ nI U - nI u ↔ nI u + nI n ≤ nI U) := by decide +kernel
theorem nI_n1 (h : k < 2 ^ 31) : ¬ nI k = -1 := fun z => by
  have := nI_pos (n := k) h
  rw [z] at this
  exact absurd this (by decide)
/-- room in the HEAD: the same on both sides -/
theorem apC_B (mr : MR y S μ) (hT : μ.1.length < 2 ^ 31) (hi : i < y 20) {u0 : Nat} (hun : unT en = nI u0) (hn : u0 ≤ 4) : apC y μ i en = !hdB (y 22) (nI (upN (tSv S))) (nI u0) (sLg ((tSv S).getD i sr0)) := by
  have upr := mr.upr
  obtain ⟨⟨k0, k1, k2, k3, k4⟩, ⟨l1, l2, l3, l4⟩, -, ow, sv, de, dd, sp, lb⟩ := mr
  obtain ⟨a1, a2, a3, a4, a5⟩ := sv i hi
  obtain ⟨yo1, yo2, yo3, yo4⟩ := k0
  unfold apC hdB hgM
  rcases a3 with ⟨h1, h2⟩ | ⟨k, h1, h2, h3, h4⟩
  · have : hdG (sLg ((tSv S).getD i sr0)) = none := by unfold hdG; rw [h1]
    rw [this, if_pos h2]; rfl
  · rw [hd_G a4 h1 h3 h4]
    have spk := sp _ (T_at h1)
    have ek : hdI μ i = k := by unfold hdI; rw [h2]; exact nI_clamp (by omega)
    have ek' : (nI k).toNatClampNeg = k := nI_clamp (by omega)
    have n1 : ¬ μ.2.1 10 i = -1 := by rw [h2]; exact nI_n1 (by omega)
    obtain ⟨u, u1, u2, u3, u4⟩ := us_N spk.2.2.1 spk.2.2.2.2.2
    have ha := ho_all upr yo1.2 ⟨spk.2.2.2.1.1, spk.2.2.2.1.2.1⟩
    rw [if_neg n1, ek, h2, ek', hun, u1]
    dsimp only
    show _ = !(decide (mskL (lHo (μ.1.getD k sl0)) &&& (nI (upN (tSv S)) ^^^ (-1)) = 0) && decide (unsA (enS (lEn (μ.1.getD k sl0))) + nI u0 ≤ nI (y 22)))
    rw [u2, Bool.not_and]
    congr 1
    · by_cases q : hoU (μ.2.1 5) (μ.1.getD k sl0) = (lHo (μ.1.getD k sl0)).length
      · rw [if_pos q, decide_eq_true (ha.mpr q)]; rfl
      · rw [if_neg q, decide_eq_false (fun z => q (ha.mp z))]; rfl
    · have := rm_3 (y 22) (by omega) u (by omega) u0 (by omega)
      by_cases q : nI u + nI u0 ≤ nI (y 22)
      · rw [decide_eq_true q, decide_eq_false (fun z => z (this.mpr q))]; rfl
      · rw [decide_eq_false q, decide_eq_true (show ¬ nI u0 ≤ nI (y 22) - nI u from fun z => q (this.mp z))]; rfl
/-- the HEAD that has room has fewer than 16 ENTRIES -/
theorem hEm_R (mr : MR y S μ) (hT : μ.1.length < 2 ^ 31) (hi : i < y 20) : hEm y μ i := by
  intro en nz hc
  obtain ⟨⟨k0, k1, k2, k3, k4⟩, -, -, ow, sv, de, dd, sp, lb⟩ := mr
  obtain ⟨a1, a2, a3, a4, a5⟩ := sv i hi
  obtain ⟨yo1, yo2, yo3, yo4⟩ := k0
  rcases a3 with ⟨h1, h2⟩ | ⟨k, h1, h2, h3, h4⟩
  · unfold apC hgM at hc
    rw [if_pos h2] at hc
    exact absurd hc (by simp)
  · have ek : hdI μ i = k := by unfold hdI; rw [h2]; exact nI_clamp (by omega)
    have spk := sp _ (T_at h1)
    obtain ⟨u, u1, u2, u3, u4⟩ := us_N spk.2.2.1 spk.2.2.2.2.2
    have uen : ∃ u0, unT en = nI u0 ∧ 1 ≤ u0 ∧ u0 ≤ 4 := by
      unfold unT
      have m1 : ∃ a, mU (mPt en.1 0) = nI a ∧ 1 ≤ a ∧ a ≤ 2 := by
        unfold mU
        rw [if_neg nz]
        split
        · exact ⟨2, rfl, by decide, by decide⟩
        · exact ⟨1, rfl, by decide, by decide⟩
      have m2 : ∃ a, mU (mPo en.2 0) = nI a ∧ a ≤ 2 := by
        unfold mU
        split
        · exact ⟨0, rfl, by decide⟩
        · split
          · exact ⟨2, rfl, by decide⟩
          · exact ⟨1, rfl, by decide⟩
      obtain ⟨a, b1, b2, b3⟩ := m1
      obtain ⟨b, c1, c2⟩ := m2
      exact ⟨a + b, by rw [b1, c1, nI_add], by omega, by omega⟩
    obtain ⟨u0, e1, e2, e3⟩ := uen
    unfold apC at hc
    rw [Bool.or_eq_false_iff] at hc
    have hc2 := of_decide_eq_false hc.2
    rw [ek, e1, u1] at hc2
    have hc2 : nI u0 ≤ nI (y 22) - nI u := Decidable.not_not.mp hc2
    have := (rm_3 (y 22) (by omega) u (by omega) u0 (by omega)).mp hc2
    rw [nI_add, nI_leI (by omega) (by omega)] at this
    rw [ek]
    omega
theorem hdOK_R (mr : MR y S μ) (hi : i < y 20) : hdOK μ i := by
  obtain ⟨-, -, -, ow, sv, de, dd, sp, lb⟩ := mr
  rcases (sv i hi).2.2.1 with ⟨h1, h2⟩ | ⟨k, h1, h2, h3, h4⟩
  · exact Or.inl h2
  · exact Or.inr ⟨k, h1, h2⟩
/-- room for an ENTRY -/
theorem mkr_R (mr : MR y S μ) (hT : μ.1.length < 2 ^ 31) (hi : i < y 20) (li : LI (tNm S) (sLg ((tSv S).getD i sr0))) {u0 : Nat} (hun : unT en = nI u0) (hn : u0 ≤ 4) (hl : ¬ lim = 0 ↔ xr = 0) (hnm : (mkrS y S i (nI u0) lim).2.1 ≤ 80000) : MR y (rmW S i (mkrS y S i (nI u0) lim)) (ap1 y μ i xr en).1 ∧ (ap1 y μ i xr en).2 = (mkrS y S i (nI u0) lim).2.2.2 := by
  have ec := apC_B mr hT hi hun hn
  unfold mkrS mkrA at hnm ⊢
  unfold ap1
  rw [ec]
  cases hb : hdB (y 22) (nI (upN (tSv S))) (nI u0) (sLg ((tSv S).getD i sr0)) with
  | true =>
    rw [if_pos rfl, if_neg (by decide)]
    refine ⟨?_, rfl⟩
    have mr0 := mr
    obtain ⟨-, ⟨l1, l2, l3, l4⟩, ⟨n1, n2, n3, n4, n5, n6, n7, n8⟩, ow, sv, de, dd, sp, lb⟩ := mr
    obtain ⟨a1, a2, a3, a4, a5⟩ := sv i hi
    exact MR.log (A' := sLg ((tSv S).getD i sr0)) mr0 hi rmW_eq (fun _ _ _ => rfl) (fun _ _ _ _ _ => rfl) n2 (by rw [n3]; exact (Int32.add_zero _).symm) n4 n5 l4 a4 (fun _ _ _ _ r => r) a3 sp (fun s hs => Or.inr (lb s hs)) (fun _ _ _ _ h => h)
  | false =>
    rw [hb] at hnm
    rw [if_neg (by decide), if_pos (by decide)]
    rw [if_neg (by decide)] at hnm
    exact opn_R mr hi li hl hnm
end AP
