/-! the model: watches -/
def wa1 (μ : mT) (m : Nat) : mT := uR μ 11 m (if μ.2.1 5 m = 0 then 0 else μ.2.1 11 m + 1)
def waN (μ : mT) (m : Nat) : Bool := decide (onN μ (nI m) = 0) || (decide (¬ 3 ≤ μ.2.1 11 m) && decide (¬ (μ.2.1 5 m = 0 ∧ ¬ μ.2.1 8 m = 0))) || decide (dN μ = 16)
def wtS (m d : Nat) (μ : mT) (t : Nat) : mT := if μ.2.1 13 t = nI m then uR (uR μ 58 (8 * d + t) 1) 13 t (-1) else uR μ 58 (8 * d + t) 0
def wa2 (μ : mT) (m : Nat) : mT := (List.range 8).foldl (wtS m (dN μ)) (uR μ 57 (dN μ) (fdM μ))
def waF (μ : mT) (m : Nat) : Int32 := if μ.2.1 8 m = 0 then nI m else 8 + nI m
def wa3 (μ : mT) (m : Nat) : mT := uT (wa2 μ m) (lgT (wa2 μ m).1 (waF μ m) (fdM μ))
def wa4 (μ : mT) (m : Nat) : mT := if μ.2.1 8 m = 0 then uR (uR μ 6 m 1) 10 m (-1) else μ
def wa5 (μ : mT) (m : Nat) : mT := uN (uN (uR (wa4 μ m) 8 m 0) 56 (μ.2.2 56 + 1)) 18 (μ.2.2 18 + 1)
def watM (μ : mT) (m : Nat) : mT := if waN (wa1 μ m) m = true then wa1 μ m else wa5 (wa3 (wa1 μ m) m) m
section MWa
variable {g : gcT} {P : pmT} {h h' h1 h2 : hpT} {y ad : Nat → Nat} {i j k n nm m e f c v p q d : Nat} {x x1 x2 x3 x4 : Int32} {μ μ' : mT} {Q : hpT → Option Value → Prop}
/-- the end of it -/
theorem wat_5 (mw : MW h y ad μ) (hm : m < 8) : Ev g P 167 207 [some (va_rf (some (y 12))), some (.int (nI m)), some (.int x2), some (.int x3), some (.int x4)] [] h (fun h' r => r = none ∧ MG y ad h h' ∧ MW h' y ad (wa5 μ m)) := by
  have em : (nI m).toNatClampNeg = m := nI_clamp (by omega)
  have v8 : ∀ {h : hpT} {a}, hN h a = 8 → vinD (nI m) (hN h a) := fun e => by rw [e]; exact vin_nI hm (by decide)
  have c8 : hA h (ad 8) (nI m).toNatClampNeg = μ.2.1 8 m := by rw [em]; exact mw.2.2.2.1 8 m rfl
  have fin : ∀ h1, MG y ad h h1 → MW h1 y ad (wa4 μ m) → (wa4 μ m).2.2 = μ.2.2 → Ev g P 167 230 [some (va_rf (some (y 12))), some (.int (nI m)), some (.int x2), some (.int x3), some (.int x4)] [] h1 (fun h' r => r = none ∧ MG y ad h h' ∧ MW h' y ad (wa5 μ m)) := by
    intro h1 g1 mw1 en
    refine s_167_230 (k3 := mw1.1.1) (e5 := mw1.1.r8) (k6 := mw1.1.k8) (i7 := v8 mw1.1.n8) (kk := s_167_257 ?_)
    rw [em, mw1.n 56 (by decide) (by decide) rfl, mw1.n 18 (by decide) (by decide) rfl, en]
    have mw2 := mw1.wA (r := 8) (i := m) (x := 0) rfl
    have g2 := mw1.gA (e := 8) (i := m) (x := 0) rfl
    generalize hpA h1 (ad 8) m 0 = H2 at mw2 g2 ⊢
    have mw3 := mw2.wN (k := 56) (f := 888) (x := μ.2.2 56 + 1) rfl (by decide) (by decide)
    have g3 := mw2.gN (k := 56) (f := 888) (x := μ.2.2 56 + 1) rfl
    generalize hpI H2 888 (y 12) (μ.2.2 56 + 1) = H3 at mw3 g3 ⊢
    exact ⟨rfl, ((g1.jn g2).jn g3).jn (mw3.gN (k := 18) rfl), mw3.wN (k := 18) rfl (by decide) (by decide)⟩
  refine s_167_207 (k3 := mw.1.1) (e5 := mw.1.r8) (k6 := mw.1.k8) (i7 := v8 mw.1.n8) (kt := fun z => ?_) (kf := fun z => ?_)
  · rw [c8] at z
    have e4 : wa4 μ m = μ := by unfold wa4; rw [if_neg z]
    exact fin h (MF.rf mw.2.1) (by rw [e4]; exact mw) (by rw [e4])
  · rw [c8] at z
    have e4 : wa4 μ m = uR (uR μ 6 m 1) 10 m (-1) := by unfold wa4; rw [if_pos z]
    refine s_167_216 (k3 := mw.1.1) (e5 := mw.1.r6) (k6 := mw.1.k6) (i7 := v8 mw.1.n6) (e9 := mw.1.r10) (k10 := mw.1.k10) (i11 := v8 mw.1.n10) (kk := ?_)
    rw [em]
    have mw2 := mw.wA (r := 6) (i := m) (x := 1) rfl
    have g2 := mw.gA (e := 6) (i := m) (x := 1) rfl
    generalize hpA h (ad 6) m 1 = H2 at mw2 g2 ⊢
    exact fin _ (g2.jn (mw2.gA rfl)) (by rw [e4]; exact mw2.wA rfl) (by rw [e4]; rfl)
/-- the LOG's segments get the dead LOG's number -/
theorem wat_4 {xv : Int32} (mw : MW h y ad μ) (hm : m < 8) : Ev g P 167 170 [some (va_rf (some (y 12))), some (.int (nI m)), some (.int xv), some (.int x), some (.int x4)] [] h (fun h' r => r = none ∧ MG y ad h h' ∧ MW h' y ad (wa5 (uT μ (lgT μ.1 x xv)) m)) := by
  have l6 := mw.2.2.1.2.1
  refine s_167_170 ?_
  have lp := cnt_loop μ.1.length (fun j h1 => MG y ad h h1 ∧ MW h1 y ad (uT μ (lgJ μ.1 x xv j))) (fun j h1 => Ev g P 167 173 [some (va_rf (some (y 12))), some (.int (nI m)), some (.int xv), some (.int x), some (.int (nI j))] [] h1 (fun h' r => r = none ∧ MG y ad h h' ∧ MW h' y ad (wa5 (uT μ (lgT μ.1 x xv)) m))) ?_ ?_ h ⟨MF.rf mw.2.1, mw⟩
  · rw [nI_0] at lp; exact lp
  · intro j h1 hj ⟨xa, mw1⟩ kn
    have ej : (nI j).toNatClampNeg = j := nI_clamp (by omega)
    have e23 : hI h1 855 (y 12) = nI μ.1.length := by
      have := mw1.2.2.1.1
      rw [this]
      show nI (lgJ μ.1 x xv j).length = _
      rw [lgJ_len]
    have hj' : j < (uT μ (lgJ μ.1 x xv j)).1.length := by
      show j < (lgJ μ.1 x xv j).length
      rw [lgJ_len]; exact hj
    have e24 : hA h1 (ad 24) j = lLg μ.1[j] := by
      have := (mw1.2.2.1.s hj').1.1
      rw [this]
      show lLg ((lgJ μ.1 x xv j).getD j sl0) = _
      rw [lgJ_get hj]
    have v24 : vinD (nI j) (hN h1 (ad 24)) := by rw [mw1.1.n24]; exact vin_nI (by omega) (by decide)
    refine s_167_173 (k3 := mw1.1.1) (kt := fun z => absurd z (by rw [e23]; exact nI_ge hj (by omega))) (kf := fun _ => ?_)
    refine s_167_182 (k3 := mw1.1.1) (e5 := mw1.1.r24) (k6 := mw1.1.k24) (i7 := v24) (kt := fun z => s_167_201 ?_) (kf := fun z => s_167_193 (k3 := mw1.1.1) (e5 := mw1.1.r24) (k6 := mw1.1.k24) (i7 := v24) (kk := s_167_201 ?_))
    · rw [ej, e24] at z
      rw [nI_1]
      exact kn h1 ⟨xa, by rw [lgJ_n hj z]; exact mw1⟩
    · rw [ej, e24] at z
      rw [nI_1, ej]
      have := mw1.lg (x := xv) hj'
      rw [lg_step hj z] at this
      exact kn _ ⟨xa.jn (MF.wA mw1.1 mw1.2.1 (by decide) _).gl, this⟩
  · intro h1 ⟨xa, mw1⟩
    rw [lgJ_e] at mw1
    have e23 : hI h1 855 (y 12) = nI μ.1.length := by
      have := mw1.2.2.1.1
      rw [this]
      show nI (lgT μ.1 x xv).length = _
      unfold lgT
      rw [List.length_map]
    refine s_167_173 (k3 := mw1.1.1) (kt := fun _ => ?_) (kf := fun z => absurd (by rw [e23]; exact nI_le (Nat.le_refl _) (by omega)) z)
    exact Ev.imp (wat_5 (g := g) (P := P) mw1 hm) (fun h' r ⟨q1, q2, q3⟩ => ⟨q1, xa.jn q2, q3⟩)
/-- the tablets -/
theorem wat_3 {n8 : Nat} {xv : Int32} (h8 : n8 = 8) (mw : MW h y ad μ) (hm : m < 8) (e56 : μ.2.2 56 = nI d) (hd : d < 16) : Ev g P 167 107 [some (va_rf (some (y 12))), some (.int (nI m)), some (.int xv), some (.int x), some (.int 0)] [] h (fun h' r => r = none ∧ MG y ad h h' ∧ MW h' y ad (wa5 (uT ((List.range n8).foldl (wtS m d) μ) (lgT ((List.range n8).foldl (wtS m d) μ).1 x xv)) m)) := by
  have e8 : (8 : Int32) = nI n8 := by rw [h8]; rfl
  have rl : (List.range n8).length = n8 := List.length_range
  have lp := fold_loop (List.range n8) (wtS m d) (fun t μ' => ∀ h1, MG y ad h h1 → MW h1 y ad μ' → μ'.2.2 56 = nI d → Ev g P 167 107 [some (va_rf (some (y 12))), some (.int (nI m)), some (.int xv), some (.int x), some (.int (nI t))] [] h1 (fun h' r => r = none ∧ MG y ad h h' ∧ MW h' y ad (wa5 (uT ((List.range n8).foldl (wtS m d) μ) (lgT ((List.range n8).foldl (wtS m d) μ).1 x xv)) m))) ?_ μ ?_
  · have := lp h (MF.rf mw.2.1) mw e56
    rw [nI_0] at this
    exact this
  · intro t μ' ht kn h1 g1 mw1 ee
    rw [List.getElem_range] at kn
    rw [rl] at ht
    have et : (nI t).toNatClampNeg = t := nI_clamp (by omega)
    have e888 : hI h1 888 (y 12) = nI d := (mw1.n 56 (by decide) (by decide) rfl).trans ee
    have hlt : 8 * d + t < 128 := by omega
    have v13 : ∀ {h : hpT}, HM h y ad → vinD (nI t) (hN h (ad 13)) := fun hm => by rw [hm.n13]; exact vin_nI (by omega) (by decide)
    have ex : (8 : Int32) * hI h1 888 (y 12) + nI t = nI (8 * d + t) := by rw [e888, ix8M]
    have c13 : ∀ {h : hpT} {μ : mT}, MW h y ad μ → hA h (ad 13) (nI t).toNatClampNeg = μ.2.1 13 t := fun mw => by rw [et]; exact mw.2.2.2.1 13 t rfl
    unfold wtS at kn
    refine s_167_107 (kt := fun z => absurd z (by rw [e8]; exact nI_ge ht (by omega))) (kf := fun _ => ?_)
    by_cases q : μ'.2.1 13 t = nI m
    · rw [if_pos q] at kn
      refine s_167_114 (k3 := mw1.1.1) (e5 := mw1.1.r13) (k6 := mw1.1.k13) (i7 := v13 mw1.1) (kt := fun z => absurd ((c13 mw1).trans q) z) (kf := fun _ => s_167_139 ?_)
      rw [ex]
      have r58 := mw1.1.r58
      refine s_167_144 (e2 := r58) (k3 := mw1.1.k58) (i4 := by rw [mw1.1.n58]; exact vin_nI hlt (by decide)) (b5 := Or.inr rfl) (e7 := rfl) (k8 := mw1.1.1) (kk := ?_)
      rw [nI_clamp (by omega)]
      have mw2 := mw1.wA (r := 58) (i := 8 * d + t) (x := 1) rfl
      have g2 := mw1.gA (e := 58) (i := 8 * d + t) (x := 1) rfl
      have r13 := mw1.1.r13
      generalize hpA h1 (ad 58) (8 * d + t) 1 = H2 at mw2 g2 ⊢
      refine s_167_151 (e2 := r13) (k3 := mw2.1.k13) (i4 := v13 mw2.1) (kt := fun z => absurd ((c13 mw2).trans q) z) (kf := fun _ => ?_)
      refine s_167_156 (k3 := mw2.1.1) (e5 := mw2.1.r13) (k6 := mw2.1.k13) (i7 := v13 mw2.1) (kk := s_167_164 ?_)
      rw [et, nI_1]
      exact kn _ ((g1.jn g2).jn (mw2.gA rfl)) (mw2.wA rfl) ee
    · rw [if_neg q] at kn
      refine s_167_114 (k3 := mw1.1.1) (e5 := mw1.1.r13) (k6 := mw1.1.k13) (i7 := v13 mw1.1) (kt := fun _ => s_167_143 ?_) (kf := fun z => absurd ((c13 mw1).symm.trans z) q)
      rw [ex]
      have r58 := mw1.1.r58
      refine s_167_144 (e2 := r58) (k3 := mw1.1.k58) (i4 := by rw [mw1.1.n58]; exact vin_nI hlt (by decide)) (b5 := Or.inl rfl) (e7 := rfl) (k8 := mw1.1.1) (kk := ?_)
      rw [nI_clamp (by omega)]
      have mw2 := mw1.wA (r := 58) (i := 8 * d + t) (x := 0) rfl
      have g2 := mw1.gA (e := 58) (i := 8 * d + t) (x := 0) rfl
      have r13 := mw1.1.r13
      generalize hpA h1 (ad 58) (8 * d + t) 0 = H2 at mw2 g2 ⊢
      refine s_167_151 (e2 := r13) (k3 := mw2.1.k13) (i4 := v13 mw2.1) (kt := fun _ => s_167_164 ?_) (kf := fun z => absurd ((c13 mw2).symm.trans z) q)
      rw [nI_1]
      exact kn _ (g1.jn g2) mw2 ee
  · intro h1 g1 mw1 _
    rw [rl]
    refine s_167_107 (kt := fun _ => ?_) (kf := fun z => absurd (by rw [e8]; exact nI_le (Nat.le_refl _) (by omega)) z)
    exact Ev.imp (wat_4 (g := g) (P := P) mw1 hm) (fun h' r ⟨q1, q2, q3⟩ => ⟨q1, g1.jn q2, q3⟩)
end MWa
