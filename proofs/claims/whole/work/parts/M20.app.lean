/-! the model: goesDown, append -/
def hdI (μ : mT) (m : Nat) : Nat := (μ.2.1 10 m).toNatClampNeg
def apC (y : Nat → Nat) (μ : mT) (m : Nat) (en : enT) : Bool := decide (hgM μ m = 0) || decide (¬ unT en ≤ nI (y 22) - usT (lEn (μ.1.getD (hdI μ m) sl0)))
def ap1 (y : Nat → Nat) (μ : mT) (m : Nat) (x : Int32) (en : enT) : mT × Int32 := if apC y μ m en = true then opnM y μ m x else (μ, 1)
def tmF (μ : mT) (en : enT) (b : Option (Nat × Nat × Nat)) : enT := match b with
  | none => en
  | some p => ((en.1.1, nI (lNm (μ.1.getD p.1 sl0))), en.2)
def tmE (μ : mT) (m : Nat) (en : enT) : enT := if mPt en.1 0 = 4 then tmF μ en (obM μ (nI m) (mPt en.1 3)) else en
def apT (μ : mT) (m : Nat) (en : enT) (c : Nat) : mT := uN (uT μ (μ.1.set (hdI μ m) (cmS (μ.1.getD (hdI μ m) sl0) (tmE μ m en) c))) 19 (μ.2.2 19 + 1)
def appM (y : Nat → Nat) (μ : mT) (m : Nat) (x : Int32) (en : enT) (c : Nat) : mT × Int32 := if (ap1 y μ m x en).2 = 0 then ((ap1 y μ m x en).1, 0) else (apT (ap1 y μ m x en).1 m en c, 1)
section MA
variable {g : gcT} {P : pmT} {h h' h1 h2 : hpT} {y ad : Nat → Nat} {T T' : List slT} {i j k nm m e f c v : Nat} {x x1 x2 x3 x4 x5 x6 xr : Int32} {A : Nat → Nat → Prop} {I : Nat → Prop} {μ : mT} {Q : hpT → Option Value → Prop} {en : enT}
theorem onN_le : onN μ x ≤ 8 := by
  have : ∀ (l : List Nat) (t : Nat), l.foldl (fun t j => if μ.2.1 13 j = x then t + 1 else t) t ≤ t + l.length := by
    intro l
    induction l with
    | nil => intro t; exact Nat.le_refl _
    | cons a l ih =>
      intro t
      rw [List.foldl_cons, List.length_cons]
      refine Nat.le_trans (ih _) ?_
      split <;> omega
  have := this (List.range 8) 0
  rw [List.length_range] at this
  unfold onN owN
  omega
theorem m_goesDown (mw : MW h y ad μ) (hm8 : m < 8) : EvV g P 138 [va_rf (some (y 12)), .int (nI m)] h (fun h' => MG y ad h h' ∧ MW h' y ad (dwnM μ m)) := by
  have l6 := mw.2.2.1.2.1
  have em : (nI m).toNatClampNeg = m := nI_clamp (by omega)
  have ob := onN_le (μ := μ) (x := nI m)
  have ho := m_owns (g := g) (P := P) (x1 := nI m) (n8 := 8) rfl mw.1
  rw [mw.rw (r := 13) rfl] at ho
  have ho : EvI g P 107 [va_rf (some (y 12)), .int (nI m)] h (fun h' r => h' = h ∧ r = nI (onN μ (nI m))) := ho
  have v8 : ∀ {h : hpT} {a}, hN h a = 8 → vinD (nI m) (hN h a) := fun e => by rw [e]; exact vin_nI hm8 (by decide)
  -- with the answer known
  have go : ∀ xo : Int32, (xo = 0 ∨ xo = 1) → (xo = 0 ↔ ¬ 0 < onN μ (nI m)) → Ev g P 138 13 [some (va_rf (some (y 12))), some (.int (nI m)), none, none] [.int xo] h (fun h' r => r = none ∧ MG y ad h h' ∧ MW h' y ad (dwnM μ m)) := by
    intro xo xo01 hxo
    have dv : dwnM μ m = uR (losM (uR (uT μ (lgT μ.1 (nI m) (if ¬ xo = 0 ∧ μ.2.1 8 m = 0 then 8 + nI m else 99))) 8 m (if ¬ μ.2.1 8 m = 0 ∨ ¬ xo = 0 then 1 else 0)) m) 5 m 2 := by
      unfold dwnM
      have e : (0 < onN μ (nI m)) = (¬ xo = 0) := propext ⟨fun q z => (hxo.mp z) q, fun q => Decidable.not_not.mp (fun z => q (hxo.mpr z))⟩
      simp only [e]
    rw [dv]
    refine s_138_13 ?_
    generalize hv : (if ¬ xo = 0 ∧ μ.2.1 8 m = 0 then 8 + nI m else (99 : Int32)) = vv
    have lp := cnt_loop μ.1.length (fun j h1 => MG y ad h h1 ∧ MW h1 y ad (uT μ (lgJ μ.1 (nI m) vv j))) (fun j h1 => Ev g P 138 16 [some (va_rf (some (y 12))), some (.int (nI m)), some (.int xo), some (.int (nI j))] [] h1 (fun h' r => r = none ∧ MG y ad h h' ∧ MW h' y ad (uR (losM (uR (uT μ (lgT μ.1 (nI m) vv)) 8 m (if ¬ μ.2.1 8 m = 0 ∨ ¬ xo = 0 then 1 else 0)) m) 5 m 2))) ?_ ?_ h ⟨MF.rf mw.2.1, mw⟩
    · rw [nI_0] at lp; exact lp
    · intro j h1 hj ⟨xa, mw1⟩ kn
      have ej : (nI j).toNatClampNeg = j := nI_clamp (by omega)
      have e23 : hI h1 855 (y 12) = nI μ.1.length := by
        have := mw1.2.2.1.1
        rw [this]
        show nI (lgJ μ.1 (nI m) vv j).length = _
        rw [lgJ_len]
      have hj' : j < (uT μ (lgJ μ.1 (nI m) vv j)).1.length := by
        show j < (lgJ μ.1 (nI m) vv j).length
        rw [lgJ_len]; exact hj
      have e24 : hA h1 (ad 24) j = lLg μ.1[j] := by
        have := (mw1.2.2.1.s hj').1.1
        rw [this]
        show lLg ((lgJ μ.1 (nI m) vv j).getD j sl0) = _
        rw [lgJ_get hj]
      have e8 : hA h1 (ad 8) (nI m).toNatClampNeg = μ.2.1 8 m := by rw [em]; exact mw1.2.2.2.1 8 m rfl
      have v24 : vinD (nI j) (hN h1 (ad 24)) := by rw [mw1.1.n24]; exact vin_nI (by omega) (by decide)
      refine s_138_16 (k3 := mw1.1.1) (kt := fun z => absurd z (by rw [e23]; exact nI_ge hj (by omega))) (kf := fun _ => ?_)
      refine s_138_24 (k3 := mw1.1.1) (e5 := mw1.1.r24) (k6 := mw1.1.k24) (i7 := v24) (kt := fun z => s_138_62 ?_) (kf := fun z => ?_)
      · rw [ej, e24] at z
        rw [nI_1]
        exact kn h1 ⟨xa, by rw [lgJ_n hj z]; exact mw1⟩
      · rw [ej, e24] at z
        have st : Ev g P 138 61 [some (va_rf (some (y 12))), some (.int (nI m)), some (.int xo), some (.int (nI j))] [.int vv, .int (nI j), va_rf (hR h1 856 (y 12))] h1 (fun h' r => r = none ∧ MG y ad h h' ∧ MW h' y ad (uR (losM (uR (uT μ (lgT μ.1 (nI m) vv)) 8 m (if ¬ μ.2.1 8 m = 0 ∨ ¬ xo = 0 then 1 else 0)) m) 5 m 2)) := by
          refine s_138_61 (e2 := mw1.1.r24) (k3 := mw1.1.k24) (i4 := v24) (kk := s_138_62 ?_)
          rw [nI_1, ej]
          have := mw1.lg (x := vv) hj'
          rw [lg_step hj z] at this
          exact kn _ ⟨xa.jn (MF.wA mw1.1 mw1.2.1 (by decide) _).gl, this⟩
        refine s_138_34 (k3 := mw1.1.1) (kt := fun z0 => s_138_59 ?_) (kf := fun z0 => s_138_43 (k3 := mw1.1.1) (e5 := mw1.1.r8) (k6 := mw1.1.k8) (i7 := v8 mw1.1.n8) (kt := fun z1 => s_138_59 ?_) (kf := fun z1 => s_138_52 ?_))
        · rw [if_neg (fun q => q.1 z0)] at hv
          rw [hv]; exact st
        · rw [e8] at z1
          rw [if_neg (fun q => z1 q.2)] at hv
          rw [hv]; exact st
        · rw [e8] at z1
          rw [if_pos ⟨z0, z1⟩] at hv
          rw [hv]; exact st
    · intro h1 ⟨xa, mw1⟩
      rw [lgJ_e] at mw1
      have e23 : hI h1 855 (y 12) = nI μ.1.length := by
        have := mw1.2.2.1.1
        rw [this]
        show nI (lgT μ.1 (nI m) vv).length = _
        unfold lgT
        rw [List.length_map]
      have e8 : hA h1 (ad 8) (nI m).toNatClampNeg = μ.2.1 8 m := by rw [em]; exact mw1.2.2.2.1 8 m rfl
      have st : ∀ yv : Int32, (yv = 0 ∨ yv = 1) → yv = (if ¬ μ.2.1 8 m = 0 ∨ ¬ xo = 0 then 1 else 0) → Ev g P 138 91 [some (va_rf (some (y 12))), some (.int (nI m)), some (.int xo), some (.int (nI μ.1.length))] [.int yv, .int (nI m), va_rf (hR h1 840 (y 12))] h1 (fun h' r => r = none ∧ MG y ad h h' ∧ MW h' y ad (uR (losM (uR (uT μ (lgT μ.1 (nI m) vv)) 8 m (if ¬ μ.2.1 8 m = 0 ∨ ¬ xo = 0 then 1 else 0)) m) 5 m 2)) := by
        intro yv yv01 eyv
        have mw2 : MW (hpA h1 (ad 8) (nI m).toNatClampNeg yv) y ad (uR (uT μ (lgT μ.1 (nI m) vv)) 8 m yv) := by rw [em]; exact mw1.wA rfl
        have g2 : MG y ad h1 (hpA h1 (ad 8) (nI m).toNatClampNeg yv) := mw1.gA rfl
        refine s_138_91 (e2 := mw1.1.r8) (k3 := mw1.1.k8) (i4 := v8 mw1.1.n8) (b5 := yv01) (e7 := rfl) (k8 := mw1.1.1) (hc := m_loses (n8 := 8) rfl mw2 hm8) (kk := fun h3 ⟨xb, mw3⟩ => ?_)
        refine s_138_97 (k3 := mw3.1.1) (e5 := mw3.1.r5) (k6 := mw3.1.k5) (i7 := v8 mw3.1.n5) (hq := ?_)
        rw [em, ← eyv]
        exact ⟨rfl, ((xa.jn g2).jn xb).jn (mw3.gA rfl), mw3.wA rfl⟩
      refine s_138_16 (k3 := mw1.1.1) (kt := fun _ => ?_) (kf := fun z => absurd (by rw [e23]; exact nI_le (Nat.le_refl _) (by omega)) z)
      refine s_138_68 (k3 := mw1.1.1) (e5 := mw1.1.r8) (k6 := mw1.1.k8) (i7 := v8 mw1.1.n8) (kt := fun z => s_138_86 ?_) (kf := fun z => s_138_82 (kt := fun z0 => s_138_90 ?_) (kf := fun z0 => s_138_86 ?_))
      · rw [e8] at z
        exact st 1 (Or.inr rfl) (by rw [if_pos (Or.inl z)])
      · rw [e8] at z
        exact st 0 (Or.inl rfl) (by rw [if_neg (fun q => q.elim (fun q => q z) (fun q => q z0))])
      · exact st 1 (Or.inr rfl) (by rw [if_pos (Or.inr z0)])
  refine e_138 (s_138_0 (k3 := mw.1.1) (hc := ho) (kk := fun h1 x' ⟨q1, q2⟩ => ?_))
  subst q1; subst q2
  refine s_138_5 (kt := fun z => s_138_12 (go 0 (Or.inl rfl) ⟨fun _ q => ?_, fun _ => rfl⟩)) (kf := fun z => s_138_8 (go 1 (Or.inr rfl) ⟨fun q => absurd q (by decide), fun q => absurd ?_ q⟩))
  · rw [← nI_0] at z
    have := (nI_leI (by omega) (by omega)).mp z
    omega
  · rcases Nat.lt_or_ge 0 (onN μ (nI m)) with q | q
    · exact q
    · exact absurd (by rw [← nI_0]; exact nI_le q (by omega)) z
end MA
