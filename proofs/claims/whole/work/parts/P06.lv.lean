-- the law's loop: what holds between two calls
def kA : Nat := nf 4 + nf 0 + 40
def kB : Nat := nf 6 * 6
def mnE (S S' : stA) : Prop := tFo S ≤ tFo S' ∧ tDs S ≤ tDs S' ∧ tNm S ≤ tNm S'
def csC (S : stA) (κ K : Nat) : Nat := 12 * tFo S + 12 * tDs S + 9 * tNm S + 6 * κ + 46 * K
def csM (y : Nat → Nat) (S : stA) (κ K : Nat) : Nat := kA * tFo S + kA * tDs S + kmO y * tNm S + kB * κ + kmC y * K
def oM (y ad o : Nat → Nat) : Prop := o (y 12) = y 12 ∧ ∀ r, aKM r = true → o (ad r) = y 12
def pur (y : Nat → Nat) (F : fcT) (μ : mT) (K κ : Nat) : Prop := FR y F μ ∧ CF y F K ∧ PX y F K κ ∧ μ.1.length ≤ 5700
def LV0 (g : gcT) (h : hpT) (y ad : Nat → Nat) (out K c0 m0 : Nat) (o w : Nat → Nat) (R R2 : arT) (ss : List Nat) (Ls : List lsT) (Ds : List (Nat × Nat)) (cs : csT) (F : fcT) (μ : mT) (κ : Nat) : Prop := (RS g h o w y R R2 ss Ls Ds (fSt F) ∧ fcR h o y ss cs F ∧ MW h y ad μ) ∧ pur y F μ K κ ∧ oM y ad o ∧ (hK h out = 29 ∧ hN h out = 1 ∧ o out = y 12) ∧ hC h + crd Ls Ds ≤ c0 + fxC g h y + csC (fSt F) κ K ∧ hM h + 4 * crd Ls Ds ≤ m0 + 4 * fxC g h y + csM y (fSt F) κ K
def LV (g : gcT) (h : hpT) (y ad : Nat → Nat) (out K c0 m0 : Nat) : Prop := ∃ o w R R2 ss Ls Ds cs F μ κ, LV0 g h y ad out K c0 m0 o w R R2 ss Ls Ds cs F μ κ
section
variable {g : gcT} {P : pmT} {h h' h1 h2 : hpT} {y ad o o' w : Nat → Nat} {R R2 : arT} {ss : List Nat} {Ls Ls' : List lsT} {Ds Ds' : List (Nat × Nat)} {cs : csT} {F F' : fcT} {μ μ' : mT} {κ κ' K out c0 m0 kc km c m : Nat} {B : Nat → Prop}
theorem MW.smm (mw : MW h y ad μ) (w : hWF h') (q0 : Sm h h' (y 12)) (q : ∀ r, aKM r = true → Sm h h' (ad r)) : MW h' y ad μ := by
  obtain ⟨⟨a1, a2, a3⟩, -, ⟨t1, t2, t3⟩, r1, n1⟩ := mw
  refine ⟨⟨by rw [q0.1]; exact a1, fun k hk => ⟨by rw [(q0.2.1 _).2]; exact (a2 k hk).1, by rw [(q k hk).1]; exact (a2 k hk).2.1, by rw [(q k hk).2.2.1]; exact (a2 k hk).2.2⟩, a3⟩, w, ⟨by rw [(q0.2.1 855).1]; exact t1, t2, fun s hs => (t3 s hs).fr (fun r i hc => ?_)⟩, fun r i hr => ?_, fun k k1 k2 => by rw [(q0.2.1 _).1]; exact n1 k k1 k2⟩
  · refine ((q r ?_).2.2.2 i).1
    unfold CSl at hc
    have : r = 24 ∨ r = 25 ∨ r = 26 ∨ r = 27 ∨ r = 28 ∨ r = 29 ∨ r = 30 ∨ r = 31 := by omega
    rcases this with e | e | e | e | e | e | e | e <;> rw [e] <;> rfl
  · have hk : aKM r = true := by
      unfold smR at hr
      rw [Bool.and_eq_true] at hr
      exact hr.1
    rw [((q r hk).2.2.2 i).1]; exact r1 r i hr
/-- the class's step leaves the model alone -/
theorem MW.cg (mw : MW h y ad μ) (w : hWF h) (ok : oOK o) (om : oM y ad o) (cg : CG (B9 y) c m h o h' o') : MW h' y ad μ ∧ oM y ad o' := by
  have k12 := mw.1.1
  have nb : ∀ a, o (o a) = y 12 → ¬ B9 y (o (o a)) := fun a e z => z e
  have e12 : o (o (y 12)) = y 12 := by rw [om.1, om.1]
  have ead : ∀ r, aKM r = true → o (o (ad r)) = y 12 := fun r hr => by rw [om.2 r hr, om.1]
  have kad : ∀ r, aKM r = true → ¬ hK h (ad r) = 0 := fun r hr => by
    rw [(mw.1.2.1 r hr).2.1]
    unfold kdM
    split <;> omega
  refine ⟨mw.smm cg.w (cg.sm w (nb _ e12) (by omega)) (fun r hr => cg.sm w (nb _ (ead r hr)) (kad r hr)), ?_, fun r hr => ?_⟩
  · rw [cg.2.1 _ (w.lt (by omega))]; exact om.1
  · rw [cg.2.1 _ (w.lt (kad r hr))]; exact om.2 r hr
/-- the model's step leaves the class alone -/
theorem MG.cg (mw : MW h y ad μ) (x : MG y ad h h') (ok : oOK o) (om : oM y ad o) : CG (fun z => z = y 12) 0 0 h o h' o := by
  obtain ⟨⟨x1, x2, x3, x4⟩, ⟨x5, x6, x7, x8⟩, x9, x10⟩ := x
  have kad : ∀ r, aKM r = true → hK h (ad r) = kdM r := fun r hr => (mw.1.2.1 r hr).2.1
  have ch : Ch (fun a => a = y 12 ∨ ∃ r, aKM r = true ∧ a = ad r) 0 0 h h' := by
    refine ⟨⟨by omega, fun a na ha => ⟨by rw [x5], fun f => ⟨x9 f a (fun z => na (Or.inl z.1)), by rw [x6]⟩, by rw [x7], fun i => ⟨x10 a i (fun r hr _ z => na (Or.inr ⟨r, hr, z⟩)), by rw [x8]⟩⟩⟩, fun a ha => ⟨by rw [x5], by rw [x7]⟩, x4, by omega, by omega⟩
  refine CG.of0 ch ok (fun a ha q => ?_) (fun z hz => x9 512 z (fun q => by
    have := mw.1.1
    rw [q.1] at hz
    omega))
  rcases q with q | ⟨r, hr, q⟩
  · rw [q, om.1, om.1]
    exact ⟨by have := mw.1.1; omega, Or.inr rfl⟩
  · rw [q, om.2 r hr, om.1, kad r hr]
    refine ⟨?_, Or.inr rfl⟩
    unfold kdM
    split <;> omega
theorem cost_1 {S S' : stA} (hm : mnE S S') (h1 : kc ≤ 46) : kc + csC S κ K ≤ csC S' κ (K + 1) := by
  obtain ⟨a, b, c⟩ := hm
  unfold csC
  omega
theorem cost_2 {S S' : stA} (hm : mnE S S') (h1 : km ≤ kmC y) : km + csM y S κ K ≤ csM y S' κ (K + 1) := by
  obtain ⟨a, b, c⟩ := hm
  unfold csM
  have h1 := Nat.mul_le_mul_left kA a
  have h2 := Nat.mul_le_mul_left kA b
  have h3 := Nat.mul_le_mul_left (kmO y) c
  have h4 : kmC y * (K + 1) = kmC y * K + kmC y := Nat.mul_succ _ _
  omega
/-- one call, both sides -/
theorem LV0.step (lv : LV0 g h y ad out K c0 m0 o w R R2 ss Ls Ds cs F μ κ) (st : StpF g h o y R R2 ss Ls Ds kc km F' h1) (hs : (MW h1 y ad μ → MG y ad h1 h2 ∧ MW h2 y ad μ')) (pu : pur y F' μ' (K + 1) κ') (hc : kc + csC (fSt F) κ K ≤ csC (fSt F') κ' (K + 1)) (hm : km + csM y (fSt F) κ K ≤ csM y (fSt F') κ' (K + 1)) : LV g h2 y ad out (K + 1) c0 m0 := by
  obtain ⟨⟨rs, fc, mw⟩, -, om, ⟨ko, no, oo⟩, cc, cm⟩ := lv
  obtain ⟨o1, w1, L1, D1, cs1, c, m, rs1, fc1, cg1, st1, st2, st3⟩ := st
  have wf := rs.1.1
  have ok := rs.1.2.2
  obtain ⟨mw1, om1⟩ := mw.cg wf ok om cg1
  obtain ⟨mg, mw2⟩ := hs mw1
  have ok1 := rs1.1.2.2
  have cg2 := MG.cg mw1 mg ok1 om1
  obtain ⟨rs2, fx⟩ := rs1.f9 cg2 (fun z hz => Or.inr hz)
  have k9 := rs1.2.1.2.2.1
  have k12 := rs1.2.1.2.2.2
  have fc2 := fc1.fr rs1.1.1 k9 cg2 (fun z => by
    have z : y 9 = y 12 := z
    rw [z, k12] at k9
    omega)
  have lo : out < hS h := wf.lt (by omega)
  have lo1 : out < hS h1 := Nat.lt_of_lt_of_le lo cg1.1.1.1
  obtain ⟨⟨m1, m2, m3, m4⟩, ⟨m5, m6, m7, m8⟩, -⟩ := mg
  refine ⟨o1, w1, R, R2, ss, L1, D1, cs1, F', μ', κ', ⟨rs2, fc2, mw2⟩, pu, om1, ⟨by rw [m5, (cg1.1.2.1 out lo).1]; exact ko, by rw [m7, (cg1.1.2.1 out lo).2]; exact no, by rw [cg1.2.1 out lo]; exact oo⟩, ?_, ?_⟩
  · rw [m2, fx]; omega
  · rw [m3, fx]; omega
end
