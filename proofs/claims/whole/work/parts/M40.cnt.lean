/-! the model: count -/
def cnP (μ : mT) (n : Nat) : Nat := (List.range n).foldl (fun t p => if μ.2.1 48 p = -1 then t else t + 1) 0
def cnO (μ : mT) (n : Nat) : Nat := (List.range n).foldl (fun t j => if μ.2.1 13 j = -1 then t + 1 else t) 0
def cuM (μ : mT) (x : Int32) : Int32 := if x = 0 then μ.2.2 15 else if x = 1 then nI (cnP μ 40) else if x = 2 then μ.2.2 16 else if x = 3 then μ.2.2 17 else if x = 4 then μ.2.2 56 else if x = 5 then nI (cnO μ 8) else if x = 6 then μ.2.2 18 else if x = 7 then μ.2.2 19 else if x = 8 then μ.2.2 20 else if x = 9 then (if μ.2.2 14 = 0 then 0 else 1) else if x = 10 then μ.2.2 21 else if x = 11 then μ.2.2 22 else -1
section MCo
variable {g : gcT} {P : pmT} {h h' h1 h2 : hpT} {y ad : Nat → Nat} {i j k n nm m e f c v p q d : Nat} {x x1 x2 x3 x4 : Int32} {μ μ' : mT} {Q : hpT → Option Value → Prop}
theorem cnt_1 {n40 : Nat} (h40 : n40 = 40) (mw : MW h y ad μ) (kk : Q h (some (.int (nI (cnP μ n40))))) : Ev g P 182 79 [some (va_rf (some (y 12))), some (.int x1), some (.int 0), some (.int 0)] [] h Q := by
  have e40 : (40 : Int32) = nI n40 := by rw [h40]; rfl
  have rl : (List.range n40).length = n40 := List.length_range
  have lp := fold_loop (List.range n40) (fun t p => if μ.2.1 48 p = -1 then t else t + 1) (fun j t => Ev g P 182 79 [some (va_rf (some (y 12))), some (.int x1), some (.int (nI t)), some (.int (nI j))] [] h Q) ?_ 0 ?_
  · rw [nI_0] at lp; exact lp
  · intro j t hj kn
    rw [List.getElem_range] at kn
    rw [rl] at hj
    have c48 : hA h (ad 48) (nI j).toNatClampNeg = μ.2.1 48 j := by rw [nI_clamp (by omega)]; exact mw.2.2.2.1 48 _ rfl
    refine s_182_79 (kt := fun z => absurd z (by rw [e40]; exact nI_ge hj (by omega))) (kf := fun _ => ?_)
    refine s_182_85 (k3 := mw.1.1) (e5 := mw.1.r48) (k6 := mw.1.k48) (i7 := by rw [mw.1.n48]; exact vin_nI (by omega) (by decide)) (kt := fun z => s_182_100 (s_182_101 ?_)) (kf := fun z => s_182_96 (s_182_101 ?_))
    · rw [c48] at z
      rw [if_pos z] at kn
      rw [nI_1, Int32.add_zero]; exact kn
    · rw [c48] at z
      rw [if_neg z] at kn
      rw [nI_1, nI_1]; exact kn
  · rw [rl]
    exact s_182_79 (kt := fun _ => s_182_109 kk) (kf := fun z => absurd (by rw [e40]; exact nI_le (Nat.le_refl _) (by omega)) z)
theorem cnt_5 {n8 : Nat} (h8 : n8 = 8) (mw : MW h y ad μ) (kk : Q h (some (.int (nI (cnO μ n8))))) : Ev g P 182 128 [some (va_rf (some (y 12))), some (.int x1), some (.int 0), some (.int 0)] [] h Q := by
  have e8 : (8 : Int32) = nI n8 := by rw [h8]; rfl
  have rl : (List.range n8).length = n8 := List.length_range
  have lp := fold_loop (List.range n8) (fun t j => if μ.2.1 13 j = -1 then t + 1 else t) (fun j t => Ev g P 182 128 [some (va_rf (some (y 12))), some (.int x1), some (.int (nI t)), some (.int (nI j))] [] h Q) ?_ 0 ?_
  · rw [nI_0] at lp; exact lp
  · intro j t hj kn
    rw [List.getElem_range] at kn
    rw [rl] at hj
    have c13 : hA h (ad 13) (nI j).toNatClampNeg = μ.2.1 13 j := by rw [nI_clamp (by omega)]; exact mw.2.2.2.1 13 _ rfl
    refine s_182_128 (kt := fun z => absurd z (by rw [e8]; exact nI_ge hj (by omega))) (kf := fun _ => ?_)
    refine s_182_134 (k3 := mw.1.1) (e5 := mw.1.r13) (k6 := mw.1.k13) (i7 := by rw [mw.1.n13]; exact vin_nI (by omega) (by decide)) (kt := fun z => s_182_149 (s_182_150 ?_)) (kf := fun z => s_182_145 (s_182_150 ?_))
    · rw [c13] at z
      rw [if_neg z] at kn
      rw [nI_1, Int32.add_zero]; exact kn
    · rw [c13] at z
      rw [if_pos z] at kn
      rw [nI_1, nI_1]; exact kn
  · rw [rl]
    exact s_182_128 (kt := fun _ => s_182_158 kk) (kf := fun z => absurd (by rw [e8]; exact nI_le (Nat.le_refl _) (by omega)) z)
theorem m_countM (mw : MW h y ad μ) : EvI g P 182 [va_rf (some (y 12)), .int x1] h (fun h' r => r = cuM (sn0 μ) x1 ∧ MG y ad h h' ∧ MW h' y ad (sn0 μ)) := by
  have mw0 : MW (hpI h 836 (y 12) 0) y ad (sn0 μ) := mw.wN (k := 4) rfl (by decide) (by decide)
  have g0 : MG y ad h (hpI h 836 (y 12) 0) := mw.gN (k := 4) rfl
  have nn : ∀ k, ¬ k = 23 → ¬ k = 32 → ∀ f, f = 832 + k → hI (hpI h 836 (y 12) 0) f (y 12) = (sn0 μ).2.2 k := fun k n1 n2 f e => mw0.n k n1 n2 e
  generalize sn0 μ = μ at mw0 nn ⊢
  refine e_182 (s_182_0 (k3 := mw.1.1) (k1000 := fun z => ?_) (k1001 := fun z => ?_) (k1002 := fun z => ?_) (k1003 := fun z => ?_) (k1004 := fun z => ?_) (k1005 := fun z => ?_) (k1006 := fun z => ?_) (k1007 := fun z => ?_) (k1008 := fun z => ?_) (k1009 := fun z => ?_) (k1010 := fun z => ?_) (k1011 := fun z => ?_) (kd := fun z => ?_))
  all_goals generalize hpI h 836 (y 12) 0 = H0 at mw0 g0 nn ⊢
  · subst z; exact s_182_72 (k3 := mw0.1.1) (hq := ⟨_, rfl, nn 15 (by decide) (by decide) _ rfl, g0, mw0⟩)
  · subst z; exact s_182_77 (cnt_1 (n40 := 40) rfl mw0 ⟨_, rfl, rfl, g0, mw0⟩)
  · subst z; exact s_182_111 (k3 := mw0.1.1) (hq := ⟨_, rfl, nn 16 (by decide) (by decide) _ rfl, g0, mw0⟩)
  · subst z; exact s_182_116 (k3 := mw0.1.1) (hq := ⟨_, rfl, nn 17 (by decide) (by decide) _ rfl, g0, mw0⟩)
  · subst z; exact s_182_121 (k3 := mw0.1.1) (hq := ⟨_, rfl, nn 56 (by decide) (by decide) _ rfl, g0, mw0⟩)
  · subst z; exact s_182_126 (cnt_5 (n8 := 8) rfl mw0 ⟨_, rfl, rfl, g0, mw0⟩)
  · subst z; exact s_182_160 (k3 := mw0.1.1) (hq := ⟨_, rfl, nn 18 (by decide) (by decide) _ rfl, g0, mw0⟩)
  · subst z; exact s_182_165 (k3 := mw0.1.1) (hq := ⟨_, rfl, nn 19 (by decide) (by decide) _ rfl, g0, mw0⟩)
  · subst z; exact s_182_170 (k3 := mw0.1.1) (hq := ⟨_, rfl, nn 20 (by decide) (by decide) _ rfl, g0, mw0⟩)
  · subst z
    have e9 : cuM μ 9 = if μ.2.2 14 = 0 then 0 else 1 := rfl
    have n14 := nn 14 (by decide) (by decide) 846 rfl
    refine s_182_175 (k3 := mw0.1.1) (kt := fun z => s_182_186 (s_182_187 ⟨_, rfl, ?_, g0, mw0⟩)) (kf := fun z => s_182_182 (s_182_187 ⟨_, rfl, ?_, g0, mw0⟩))
    · rw [n14] at z; rw [e9, if_pos z]
    · rw [n14] at z; rw [e9, if_neg z]
  · subst z; exact s_182_188 (k3 := mw0.1.1) (hq := ⟨_, rfl, nn 21 (by decide) (by decide) _ rfl, g0, mw0⟩)
  · subst z; exact s_182_193 (k3 := mw0.1.1) (hq := ⟨_, rfl, nn 22 (by decide) (by decide) _ rfl, g0, mw0⟩)
  · refine s_182_198 ⟨_, rfl, ?_, g0, mw0⟩
    unfold cuM
    have nz : ∀ k : Int32, (¬ (k.toInt < 0 ∨ 11 < k.toInt)) → ¬ x1 = k := fun k hk q => by subst q; exact hk z
    rw [if_neg (nz 0 (by decide)), if_neg (nz 1 (by decide)), if_neg (nz 2 (by decide)), if_neg (nz 3 (by decide)), if_neg (nz 4 (by decide)), if_neg (nz 5 (by decide)), if_neg (nz 6 (by decide)), if_neg (nz 7 (by decide)), if_neg (nz 8 (by decide)), if_neg (nz 9 (by decide)), if_neg (nz 10 (by decide)), if_neg (nz 11 (by decide))]
end MCo
