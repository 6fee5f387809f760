/-! a tick leaves clients, the NET and two counts alone -/
def NE9 (μ μ' : mT) : Prop := rwE μ μ' ∧ μ'.2.2 15 = μ.2.2 15 ∧ μ'.2.2 22 = μ.2.2 22
section KP
variable {x x' v xr : Int32} {k e i j N t r n c p d m cc : Nat} {y : Nat → Nat} {S S' : stA} {μ μ' μ2 : mT} {F F' : fcT} {T : List slT} {en : enT}
theorem NE9.rf : NE9 μ μ := ⟨fun _ _ _ _ => rfl, rfl, rfl⟩
theorem NE9.tr (h : NE9 μ μ') (h2 : NE9 μ' μ2) : NE9 μ μ2 := ⟨fun r k h3 h4 => (h2.1 r k h3 h4).trans (h.1 r k h3 h4), h2.2.1.trans h.2.1, h2.2.2.trans h.2.2⟩
theorem NE9.ur (h : r < 39 ∨ 55 < r) : NE9 μ (uR μ r i v) := ⟨fun r' k h3 h4 => if_neg (by omega), rfl, rfl⟩
theorem NE9.un (h1 : ¬ k = 15) (h2 : ¬ k = 22) : NE9 μ (uN μ k v) := ⟨fun _ _ _ _ => rfl, if_neg (fun z => h1 z.symm), if_neg (fun z => h2 z.symm)⟩
theorem NE9.ut : NE9 μ (uT μ T) := ⟨fun _ _ _ _ => rfl, rfl, rfl⟩
theorem NE9.lo : NE9 μ (losM μ m) := by
  refine ⟨fun r k h3 h4 => ?_, rfl, rfl⟩
  rw [los_r]
  unfold losR2
  rw [if_neg (by omega), if_neg (by omega), if_neg (by omega), if_neg (by omega), if_neg (by omega)]
theorem NE9.fo {α : Type} (f : mT → α → mT) (h : ∀ μ a, NE9 μ (f μ a)) : ∀ (l : List α) (μ : mT), NE9 μ (l.foldl f μ) := by
  intro l
  induction l with
  | nil => intro μ; exact NE9.rf
  | cons a l ih => intro μ; exact (h μ a).tr (ih _)
theorem NE9.opn : NE9 μ (opnM y μ i xr).1 := ⟨fun _ _ h3 _ => opn_row (by omega), opn_num (by decide) (by decide), opn_num (by decide) (by decide)⟩
theorem NE9.app : NE9 μ (appM y μ i xr en cc).1 := ⟨fun _ _ h3 _ => app_row (by omega), app_num (by decide) (by decide) (by decide), app_num (by decide) (by decide) (by decide)⟩
theorem NE9.tkL : ∀ (C : List Nat) (μ : mT), NE9 μ (tkL y μ m C) := by
  intro C
  induction C with
  | nil => intro μ; exact NE9.rf
  | cons k C ih =>
    intro μ
    show NE9 μ (if (menM y μ m k).2 = 0 then _ else _)
    split
    · exact ih μ
    · unfold menM
      split
      · unfold men1
        split
        · exact NE9.rf
        · exact NE9.ut.tr (NE9.un (μ := uT μ _) (by decide) (by decide))
      · exact NE9.rf
theorem NE9.tks : NE9 μ (tksM y μ m) := by
  unfold tksM
  split
  · exact NE9.rf
  · split
    · exact (NE9.ut.tr NE9.lo).tr (NE9.un (by decide) (by decide))
    · unfold tk3
      refine NE9.tr ?_ (NE9.tkL _ _)
      split
      · exact NE9.ur (by omega)
      · exact NE9.rf
theorem NE9.wa : NE9 μ (watM μ m) := by
  have k1 : NE9 μ (wa1 μ m) := NE9.ur (by omega)
  unfold watM
  split
  · exact k1
  · refine k1.tr ?_
    generalize wa1 μ m = ν
    have k2 : NE9 ν (wa2 ν m) := by
      unfold wa2
      refine NE9.tr (NE9.ur (by omega)) (NE9.fo _ (fun μ a => ?_) _ _)
      unfold wtS
      split
      · exact (NE9.ur (by omega)).tr (NE9.ur (by omega))
      · exact NE9.ur (by omega)
    have k3 : NE9 ν (wa3 ν m) := k2.tr NE9.ut
    refine k3.tr ?_
    generalize wa3 ν m = ω
    have k4 : NE9 ω (wa4 ω m) := by
      unfold wa4
      split
      · exact (NE9.ur (by omega)).tr (NE9.ur (by omega))
      · exact NE9.rf
    exact ((k4.tr (NE9.ur (by omega))).tr (NE9.un (by decide) (by decide))).tr (NE9.un (by decide) (by decide))
theorem NE9.tov : NE9 μ (tovM y μ m t x) := by
  have k0 : NE9 μ (toO μ m t) := (NE9.ur (by omega)).tr (NE9.ur (by omega))
  have k1 : ∀ ν, NE9 ν (to1 y ν m x) := fun ν => by
    unfold to1
    split
    · exact NE9.rf
    · exact (NE9.ur (by omega)).tr NE9.opn
  have kN : ∀ ν c, NE9 ν (toN y m x ν c) := fun ν c => by
    unfold toN
    split
    · exact NE9.rf
    · exact NE9.app
  have kB : ∀ ν c, NE9 ν (toB y m x t ν c) := fun ν c => by
    unfold toB
    split
    · exact NE9.rf
    · exact NE9.app
  have kC : ∀ ν c, NE9 ν (toC y m x t ν c) := fun ν c => by
    unfold toC
    refine NE9.fo _ (fun ω k => ?_) _ _
    unfold toR
    split
    · exact NE9.rf
    · split
      · exact NE9.app
      · exact NE9.rf
  unfold tovM tov3 tov2 tov1
  exact ((((k0.tr (k1 _)).tr (NE9.fo _ kN _ _)).tr (NE9.fo _ kB _ _))).tr (NE9.fo _ kC _ _)
theorem NE9.gg : ∀ (l : List Nat) (μ : mT), NE9 μ (rcG y d x l μ).1 := by
  intro l
  induction l with
  | nil => intro μ; exact NE9.rf
  | cons t l ih =>
    intro μ
    show NE9 μ (if μ.2.1 58 (8 * d + t) = 0 then rcG y d x l μ else match noM y μ with | none => (μ, 0) | some m => rcG y d x l (uR (tovM y μ m t x) 58 (8 * d + t) 0)).1
    split
    · exact ih μ
    · split
      · exact NE9.rf
      · exact (NE9.tov.tr (NE9.ur (by omega))).tr (ih _)
theorem NE9.rec : NE9 μ (recM y μ d).1 := by
  unfold recM
  split
  · exact NE9.rf
  · unfold rc2
    split
    · exact NE9.gg _ _
    · exact (NE9.gg _ _).tr NE9.ut
theorem NE9.dd : NE9 μ (ddM μ d) := by
  unfold ddM
  refine (NE9.un (by decide) (by decide)).tr (NE9.fo _ (fun ν j => ?_) _ _)
  unfold ddK
  refine (NE9.ur (by omega)).tr (NE9.fo _ (fun ω t => ?_) _ _)
  exact NE9.ur (by omega)
theorem NE9.ww : ∀ (k d : Nat) (n : Int32) (μ : mT), NE9 μ (rcW y k d n μ).1 := by
  intro k
  induction k with
  | zero => intro d n μ; exact NE9.rf
  | succ k ih =>
    intro d n μ
    show NE9 μ (if dN μ ≤ d then (μ, n) else if (recM y μ d).2 = 0 then rcW y k (d + 1) n (recM y μ d).1 else rcW y k d (n + 1) (ddM (recM y μ d).1 d)).1
    split
    · exact NE9.rf
    · split
      · exact NE9.rec.tr (ih _ _ _)
      · exact (NE9.rec.tr NE9.dd).tr (ih _ _ _)
theorem NE9.on : rwE μ (on1 y μ).1 ∧ (on1 y μ).1.2.2 15 = μ.2.2 15 + 1 ∧ (on1 y μ).1.2.2 22 = μ.2.2 22 := by
  have k : NE9 (ot1 μ) (on1 y μ).1 := by
    have k2 : NE9 (ot1 μ) (ot2 y μ (y 20)) := NE9.fo _ (fun _ _ => NE9.tks) _ _
    unfold on1
    split
    · exact k2
    · exact (k2.tr (NE9.fo _ (fun _ _ => NE9.wa) _ _)).tr (NE9.ww _ _ _ _)
  exact ⟨fun r k' h3 h4 => k.1 r k' h3 h4, k.2.1, k.2.2⟩
/-- one tick, all of both -/
theorem tick1_F (h : FR y F μ) (hT : μ.1.length < 2 ^ 31) (hp : tkP y (fSt F) μ) : FR y ((tkT y (fSt F)).1, fCl F, fNt F, fCk F + 1, fEf F) (on1 y μ).1 ∧ (on1 y μ).2 = (tkT y (fSt F)).2 := tick1_R h hT hp NE9.on.1 NE9.on.2.1 NE9.on.2.2
theorem tk1_eq {st : fcT × Int32 × Nat} : (tk1F y st).1 = ((tkT y (fSt st.1)).1, fCl st.1, fNt st.1, fCk st.1 + 1, fEf st.1) ∧ (tk1F y st).2.1 = st.2.1 + (tkT y (fSt st.1)).2 := by
  unfold tk1F tkT
  split
  · exact ⟨rfl, (Int32.add_zero _).symm⟩
  · exact ⟨rfl, rfl⟩
/-- tick: n times -/
theorem ticks_R (h : FR y F μ) : ∀ n, (∀ j, j < n → (tcL y μ j).1.1.length < 2 ^ 31 ∧ tkP y (fSt (tkN y F j).1) (tcL y μ j).1) → FR y (tkN y F n).1 (tcL y μ n).1 ∧ (tcL y μ n).2 = (tkN y F n).2.1 := by
  intro n
  induction n with
  | zero => intro _; exact ⟨h.sn, rfl⟩
  | succ n ih =>
    intro hp
    obtain ⟨i1, i2⟩ := ih (fun j hj => hp j (by omega))
    obtain ⟨p1, p2⟩ := hp n (by omega)
    have e : tcL y μ (n + 1) = tc1 y (tcL y μ n) n := by
      unfold tcL
      rw [List.range_succ, List.foldl_append]; rfl
    rw [e]
    show FR y (tk1F y (tkN y F n)).1 (tc1 y (tcL y μ n) n).1 ∧ (tc1 y (tcL y μ n) n).2 = (tk1F y (tkN y F n)).2.1
    obtain ⟨t1, t2⟩ := tk1_eq (y := y) (st := tkN y F n)
    rw [t1, t2]
    obtain ⟨q1, q2⟩ := tick1_F i1 p1 p2
    refine ⟨q1, ?_⟩
    show (tcL y μ n).2 + (on1 y (tcL y μ n).1).2 = _
    rw [i2, q2]
theorem tick_R (h : FR y F μ) (hp : ∀ n j, x = nI n → n ≤ 100 → j < n → (tcL y μ j).1.1.length < 2 ^ 31 ∧ tkP y (fSt (tkN y F j).1) (tcL y μ j).1) : FR y (tickA y F x).1 (tckM y μ x).1 ∧ (tckM y μ x).2 = (tickA y F x).2.1 := by
  unfold tickA tckM
  by_cases q : x < 0 ∨ 100 < x
  · rw [if_pos q, if_pos (q.imp id Int32.not_le.mpr)]
    exact ⟨h.sn, rfl⟩
  · rw [if_neg q, if_neg (show ¬ (x < 0 ∨ ¬ x ≤ 100) from fun w => q (w.imp id Int32.not_le.mp))]
    have eb := nI_back (x := x) (Int32.not_lt.mp (fun w => q (Or.inl w)))
    have lt := clN_lt x
    have le : x.toNatClampNeg ≤ 100 := by
      rcases Nat.lt_or_ge 100 x.toNatClampNeg with w | w
      · refine absurd (Or.inr ?_) q
        have := nI_lt (a := 100) w lt
        rw [← eb] at this
        exact this
      · exact w
    exact ticks_R h _ (fun j hj => hp x.toNatClampNeg j eb le hj)
end KP
