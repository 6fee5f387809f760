/-! the model: its rows. ad tells the address of the row in field k -/
def aKM (k : Nat) : Bool := (decide (5 ≤ k) && decide (k ≤ 13)) || (decide (24 ≤ k) && decide (k ≤ 31)) || (decide (33 ≤ k) && decide (k ≤ 55)) || decide (k = 57) || decide (k = 58)
def kdM (k : Nat) : Nat := if k = 6 ∨ k = 7 ∨ k = 8 ∨ k = 26 ∨ k = 36 ∨ k = 44 ∨ k = 58 then 21 else 20
def lnM (k : Nat) : Nat := if k = 7 then 64 else if k ≤ 13 then 8 else if k ≤ 27 then 6000 else if k = 28 then 1728000 else if k = 29 then 6000 else if k ≤ 31 then 48000 else if k = 33 then 18 else if k ≤ 35 then 6000 else if k = 36 then 192000 else if k ≤ 38 then 18 else if k = 39 then 6 else if k ≤ 47 then 240 else if k ≤ 55 then 40 else if k = 57 then 16 else 128
def HM (h : hpT) (y ad : Nat → Nat) : Prop := hK h (y 12) = 14 ∧ (∀ k, aKM k = true → hR h (832 + k) (y 12) = some (ad k) ∧ hK h (ad k) = kdM k ∧ hN h (ad k) = lnM k) ∧ ∀ k k', aKM k = true → aKM k' = true → ad k = ad k' → k = k'
section HM
variable {h h' h1 : hpT} {y ad : Nat → Nat}
theorem HM.r5 (m : HM h y ad) : hR h 837 (y 12) = some (ad 5) := (m.2.1 5 (by decide)).1
theorem HM.k5 (m : HM h y ad) : hK h (ad 5) = 20 := (m.2.1 5 (by decide)).2.1.trans (by decide)
theorem HM.n5 (m : HM h y ad) : hN h (ad 5) = 8 := (m.2.1 5 (by decide)).2.2.trans (by decide)
theorem HM.r6 (m : HM h y ad) : hR h 838 (y 12) = some (ad 6) := (m.2.1 6 (by decide)).1
theorem HM.k6 (m : HM h y ad) : hK h (ad 6) = 21 := (m.2.1 6 (by decide)).2.1.trans (by decide)
theorem HM.n6 (m : HM h y ad) : hN h (ad 6) = 8 := (m.2.1 6 (by decide)).2.2.trans (by decide)
theorem HM.r7 (m : HM h y ad) : hR h 839 (y 12) = some (ad 7) := (m.2.1 7 (by decide)).1
theorem HM.k7 (m : HM h y ad) : hK h (ad 7) = 21 := (m.2.1 7 (by decide)).2.1.trans (by decide)
theorem HM.n7 (m : HM h y ad) : hN h (ad 7) = 64 := (m.2.1 7 (by decide)).2.2.trans (by decide)
theorem HM.r8 (m : HM h y ad) : hR h 840 (y 12) = some (ad 8) := (m.2.1 8 (by decide)).1
theorem HM.k8 (m : HM h y ad) : hK h (ad 8) = 21 := (m.2.1 8 (by decide)).2.1.trans (by decide)
theorem HM.n8 (m : HM h y ad) : hN h (ad 8) = 8 := (m.2.1 8 (by decide)).2.2.trans (by decide)
theorem HM.r9 (m : HM h y ad) : hR h 841 (y 12) = some (ad 9) := (m.2.1 9 (by decide)).1
theorem HM.k9 (m : HM h y ad) : hK h (ad 9) = 20 := (m.2.1 9 (by decide)).2.1.trans (by decide)
theorem HM.n9 (m : HM h y ad) : hN h (ad 9) = 8 := (m.2.1 9 (by decide)).2.2.trans (by decide)
theorem HM.r10 (m : HM h y ad) : hR h 842 (y 12) = some (ad 10) := (m.2.1 10 (by decide)).1
theorem HM.k10 (m : HM h y ad) : hK h (ad 10) = 20 := (m.2.1 10 (by decide)).2.1.trans (by decide)
theorem HM.n10 (m : HM h y ad) : hN h (ad 10) = 8 := (m.2.1 10 (by decide)).2.2.trans (by decide)
theorem HM.r11 (m : HM h y ad) : hR h 843 (y 12) = some (ad 11) := (m.2.1 11 (by decide)).1
theorem HM.k11 (m : HM h y ad) : hK h (ad 11) = 20 := (m.2.1 11 (by decide)).2.1.trans (by decide)
theorem HM.n11 (m : HM h y ad) : hN h (ad 11) = 8 := (m.2.1 11 (by decide)).2.2.trans (by decide)
theorem HM.r12 (m : HM h y ad) : hR h 844 (y 12) = some (ad 12) := (m.2.1 12 (by decide)).1
theorem HM.k12 (m : HM h y ad) : hK h (ad 12) = 20 := (m.2.1 12 (by decide)).2.1.trans (by decide)
theorem HM.n12 (m : HM h y ad) : hN h (ad 12) = 8 := (m.2.1 12 (by decide)).2.2.trans (by decide)
theorem HM.r13 (m : HM h y ad) : hR h 845 (y 12) = some (ad 13) := (m.2.1 13 (by decide)).1
theorem HM.k13 (m : HM h y ad) : hK h (ad 13) = 20 := (m.2.1 13 (by decide)).2.1.trans (by decide)
theorem HM.n13 (m : HM h y ad) : hN h (ad 13) = 8 := (m.2.1 13 (by decide)).2.2.trans (by decide)
theorem HM.r24 (m : HM h y ad) : hR h 856 (y 12) = some (ad 24) := (m.2.1 24 (by decide)).1
theorem HM.k24 (m : HM h y ad) : hK h (ad 24) = 20 := (m.2.1 24 (by decide)).2.1.trans (by decide)
theorem HM.n24 (m : HM h y ad) : hN h (ad 24) = 6000 := (m.2.1 24 (by decide)).2.2.trans (by decide)
theorem HM.r25 (m : HM h y ad) : hR h 857 (y 12) = some (ad 25) := (m.2.1 25 (by decide)).1
theorem HM.k25 (m : HM h y ad) : hK h (ad 25) = 20 := (m.2.1 25 (by decide)).2.1.trans (by decide)
theorem HM.n25 (m : HM h y ad) : hN h (ad 25) = 6000 := (m.2.1 25 (by decide)).2.2.trans (by decide)
theorem HM.r26 (m : HM h y ad) : hR h 858 (y 12) = some (ad 26) := (m.2.1 26 (by decide)).1
theorem HM.k26 (m : HM h y ad) : hK h (ad 26) = 21 := (m.2.1 26 (by decide)).2.1.trans (by decide)
theorem HM.n26 (m : HM h y ad) : hN h (ad 26) = 6000 := (m.2.1 26 (by decide)).2.2.trans (by decide)
theorem HM.r27 (m : HM h y ad) : hR h 859 (y 12) = some (ad 27) := (m.2.1 27 (by decide)).1
theorem HM.k27 (m : HM h y ad) : hK h (ad 27) = 20 := (m.2.1 27 (by decide)).2.1.trans (by decide)
theorem HM.n27 (m : HM h y ad) : hN h (ad 27) = 6000 := (m.2.1 27 (by decide)).2.2.trans (by decide)
theorem HM.r28 (m : HM h y ad) : hR h 860 (y 12) = some (ad 28) := (m.2.1 28 (by decide)).1
theorem HM.k28 (m : HM h y ad) : hK h (ad 28) = 20 := (m.2.1 28 (by decide)).2.1.trans (by decide)
theorem HM.n28 (m : HM h y ad) : hN h (ad 28) = 1728000 := (m.2.1 28 (by decide)).2.2.trans (by decide)
theorem HM.r29 (m : HM h y ad) : hR h 861 (y 12) = some (ad 29) := (m.2.1 29 (by decide)).1
theorem HM.k29 (m : HM h y ad) : hK h (ad 29) = 20 := (m.2.1 29 (by decide)).2.1.trans (by decide)
theorem HM.n29 (m : HM h y ad) : hN h (ad 29) = 6000 := (m.2.1 29 (by decide)).2.2.trans (by decide)
theorem HM.r30 (m : HM h y ad) : hR h 862 (y 12) = some (ad 30) := (m.2.1 30 (by decide)).1
theorem HM.k30 (m : HM h y ad) : hK h (ad 30) = 20 := (m.2.1 30 (by decide)).2.1.trans (by decide)
theorem HM.n30 (m : HM h y ad) : hN h (ad 30) = 48000 := (m.2.1 30 (by decide)).2.2.trans (by decide)
theorem HM.r31 (m : HM h y ad) : hR h 863 (y 12) = some (ad 31) := (m.2.1 31 (by decide)).1
theorem HM.k31 (m : HM h y ad) : hK h (ad 31) = 20 := (m.2.1 31 (by decide)).2.1.trans (by decide)
theorem HM.n31 (m : HM h y ad) : hN h (ad 31) = 48000 := (m.2.1 31 (by decide)).2.2.trans (by decide)
theorem HM.r33 (m : HM h y ad) : hR h 865 (y 12) = some (ad 33) := (m.2.1 33 (by decide)).1
theorem HM.k33 (m : HM h y ad) : hK h (ad 33) = 20 := (m.2.1 33 (by decide)).2.1.trans (by decide)
theorem HM.n33 (m : HM h y ad) : hN h (ad 33) = 18 := (m.2.1 33 (by decide)).2.2.trans (by decide)
theorem HM.r34 (m : HM h y ad) : hR h 866 (y 12) = some (ad 34) := (m.2.1 34 (by decide)).1
theorem HM.k34 (m : HM h y ad) : hK h (ad 34) = 20 := (m.2.1 34 (by decide)).2.1.trans (by decide)
theorem HM.n34 (m : HM h y ad) : hN h (ad 34) = 6000 := (m.2.1 34 (by decide)).2.2.trans (by decide)
theorem HM.r35 (m : HM h y ad) : hR h 867 (y 12) = some (ad 35) := (m.2.1 35 (by decide)).1
theorem HM.k35 (m : HM h y ad) : hK h (ad 35) = 20 := (m.2.1 35 (by decide)).2.1.trans (by decide)
theorem HM.n35 (m : HM h y ad) : hN h (ad 35) = 6000 := (m.2.1 35 (by decide)).2.2.trans (by decide)
theorem HM.r36 (m : HM h y ad) : hR h 868 (y 12) = some (ad 36) := (m.2.1 36 (by decide)).1
theorem HM.k36 (m : HM h y ad) : hK h (ad 36) = 21 := (m.2.1 36 (by decide)).2.1.trans (by decide)
theorem HM.n36 (m : HM h y ad) : hN h (ad 36) = 192000 := (m.2.1 36 (by decide)).2.2.trans (by decide)
theorem HM.r37 (m : HM h y ad) : hR h 869 (y 12) = some (ad 37) := (m.2.1 37 (by decide)).1
theorem HM.k37 (m : HM h y ad) : hK h (ad 37) = 20 := (m.2.1 37 (by decide)).2.1.trans (by decide)
theorem HM.n37 (m : HM h y ad) : hN h (ad 37) = 18 := (m.2.1 37 (by decide)).2.2.trans (by decide)
theorem HM.r38 (m : HM h y ad) : hR h 870 (y 12) = some (ad 38) := (m.2.1 38 (by decide)).1
theorem HM.k38 (m : HM h y ad) : hK h (ad 38) = 20 := (m.2.1 38 (by decide)).2.1.trans (by decide)
theorem HM.n38 (m : HM h y ad) : hN h (ad 38) = 18 := (m.2.1 38 (by decide)).2.2.trans (by decide)
theorem HM.r39 (m : HM h y ad) : hR h 871 (y 12) = some (ad 39) := (m.2.1 39 (by decide)).1
theorem HM.k39 (m : HM h y ad) : hK h (ad 39) = 20 := (m.2.1 39 (by decide)).2.1.trans (by decide)
theorem HM.n39 (m : HM h y ad) : hN h (ad 39) = 6 := (m.2.1 39 (by decide)).2.2.trans (by decide)
theorem HM.r40 (m : HM h y ad) : hR h 872 (y 12) = some (ad 40) := (m.2.1 40 (by decide)).1
theorem HM.k40 (m : HM h y ad) : hK h (ad 40) = 20 := (m.2.1 40 (by decide)).2.1.trans (by decide)
theorem HM.n40 (m : HM h y ad) : hN h (ad 40) = 240 := (m.2.1 40 (by decide)).2.2.trans (by decide)
theorem HM.r41 (m : HM h y ad) : hR h 873 (y 12) = some (ad 41) := (m.2.1 41 (by decide)).1
theorem HM.k41 (m : HM h y ad) : hK h (ad 41) = 20 := (m.2.1 41 (by decide)).2.1.trans (by decide)
theorem HM.n41 (m : HM h y ad) : hN h (ad 41) = 240 := (m.2.1 41 (by decide)).2.2.trans (by decide)
theorem HM.r42 (m : HM h y ad) : hR h 874 (y 12) = some (ad 42) := (m.2.1 42 (by decide)).1
theorem HM.k42 (m : HM h y ad) : hK h (ad 42) = 20 := (m.2.1 42 (by decide)).2.1.trans (by decide)
theorem HM.n42 (m : HM h y ad) : hN h (ad 42) = 240 := (m.2.1 42 (by decide)).2.2.trans (by decide)
theorem HM.r43 (m : HM h y ad) : hR h 875 (y 12) = some (ad 43) := (m.2.1 43 (by decide)).1
theorem HM.k43 (m : HM h y ad) : hK h (ad 43) = 20 := (m.2.1 43 (by decide)).2.1.trans (by decide)
theorem HM.n43 (m : HM h y ad) : hN h (ad 43) = 240 := (m.2.1 43 (by decide)).2.2.trans (by decide)
theorem HM.r44 (m : HM h y ad) : hR h 876 (y 12) = some (ad 44) := (m.2.1 44 (by decide)).1
theorem HM.k44 (m : HM h y ad) : hK h (ad 44) = 21 := (m.2.1 44 (by decide)).2.1.trans (by decide)
theorem HM.n44 (m : HM h y ad) : hN h (ad 44) = 240 := (m.2.1 44 (by decide)).2.2.trans (by decide)
theorem HM.r45 (m : HM h y ad) : hR h 877 (y 12) = some (ad 45) := (m.2.1 45 (by decide)).1
theorem HM.k45 (m : HM h y ad) : hK h (ad 45) = 20 := (m.2.1 45 (by decide)).2.1.trans (by decide)
theorem HM.n45 (m : HM h y ad) : hN h (ad 45) = 240 := (m.2.1 45 (by decide)).2.2.trans (by decide)
theorem HM.r46 (m : HM h y ad) : hR h 878 (y 12) = some (ad 46) := (m.2.1 46 (by decide)).1
theorem HM.k46 (m : HM h y ad) : hK h (ad 46) = 20 := (m.2.1 46 (by decide)).2.1.trans (by decide)
theorem HM.n46 (m : HM h y ad) : hN h (ad 46) = 240 := (m.2.1 46 (by decide)).2.2.trans (by decide)
theorem HM.r47 (m : HM h y ad) : hR h 879 (y 12) = some (ad 47) := (m.2.1 47 (by decide)).1
theorem HM.k47 (m : HM h y ad) : hK h (ad 47) = 20 := (m.2.1 47 (by decide)).2.1.trans (by decide)
theorem HM.n47 (m : HM h y ad) : hN h (ad 47) = 240 := (m.2.1 47 (by decide)).2.2.trans (by decide)
theorem HM.r48 (m : HM h y ad) : hR h 880 (y 12) = some (ad 48) := (m.2.1 48 (by decide)).1
theorem HM.k48 (m : HM h y ad) : hK h (ad 48) = 20 := (m.2.1 48 (by decide)).2.1.trans (by decide)
theorem HM.n48 (m : HM h y ad) : hN h (ad 48) = 40 := (m.2.1 48 (by decide)).2.2.trans (by decide)
theorem HM.r49 (m : HM h y ad) : hR h 881 (y 12) = some (ad 49) := (m.2.1 49 (by decide)).1
theorem HM.k49 (m : HM h y ad) : hK h (ad 49) = 20 := (m.2.1 49 (by decide)).2.1.trans (by decide)
theorem HM.n49 (m : HM h y ad) : hN h (ad 49) = 40 := (m.2.1 49 (by decide)).2.2.trans (by decide)
theorem HM.r50 (m : HM h y ad) : hR h 882 (y 12) = some (ad 50) := (m.2.1 50 (by decide)).1
theorem HM.k50 (m : HM h y ad) : hK h (ad 50) = 20 := (m.2.1 50 (by decide)).2.1.trans (by decide)
theorem HM.n50 (m : HM h y ad) : hN h (ad 50) = 40 := (m.2.1 50 (by decide)).2.2.trans (by decide)
theorem HM.r51 (m : HM h y ad) : hR h 883 (y 12) = some (ad 51) := (m.2.1 51 (by decide)).1
theorem HM.k51 (m : HM h y ad) : hK h (ad 51) = 20 := (m.2.1 51 (by decide)).2.1.trans (by decide)
theorem HM.n51 (m : HM h y ad) : hN h (ad 51) = 40 := (m.2.1 51 (by decide)).2.2.trans (by decide)
theorem HM.r52 (m : HM h y ad) : hR h 884 (y 12) = some (ad 52) := (m.2.1 52 (by decide)).1
theorem HM.k52 (m : HM h y ad) : hK h (ad 52) = 20 := (m.2.1 52 (by decide)).2.1.trans (by decide)
theorem HM.n52 (m : HM h y ad) : hN h (ad 52) = 40 := (m.2.1 52 (by decide)).2.2.trans (by decide)
theorem HM.r53 (m : HM h y ad) : hR h 885 (y 12) = some (ad 53) := (m.2.1 53 (by decide)).1
theorem HM.k53 (m : HM h y ad) : hK h (ad 53) = 20 := (m.2.1 53 (by decide)).2.1.trans (by decide)
theorem HM.n53 (m : HM h y ad) : hN h (ad 53) = 40 := (m.2.1 53 (by decide)).2.2.trans (by decide)
theorem HM.r54 (m : HM h y ad) : hR h 886 (y 12) = some (ad 54) := (m.2.1 54 (by decide)).1
theorem HM.k54 (m : HM h y ad) : hK h (ad 54) = 20 := (m.2.1 54 (by decide)).2.1.trans (by decide)
theorem HM.n54 (m : HM h y ad) : hN h (ad 54) = 40 := (m.2.1 54 (by decide)).2.2.trans (by decide)
theorem HM.r55 (m : HM h y ad) : hR h 887 (y 12) = some (ad 55) := (m.2.1 55 (by decide)).1
theorem HM.k55 (m : HM h y ad) : hK h (ad 55) = 20 := (m.2.1 55 (by decide)).2.1.trans (by decide)
theorem HM.n55 (m : HM h y ad) : hN h (ad 55) = 40 := (m.2.1 55 (by decide)).2.2.trans (by decide)
theorem HM.r57 (m : HM h y ad) : hR h 889 (y 12) = some (ad 57) := (m.2.1 57 (by decide)).1
theorem HM.k57 (m : HM h y ad) : hK h (ad 57) = 20 := (m.2.1 57 (by decide)).2.1.trans (by decide)
theorem HM.n57 (m : HM h y ad) : hN h (ad 57) = 16 := (m.2.1 57 (by decide)).2.2.trans (by decide)
theorem HM.r58 (m : HM h y ad) : hR h 890 (y 12) = some (ad 58) := (m.2.1 58 (by decide)).1
theorem HM.k58 (m : HM h y ad) : hK h (ad 58) = 21 := (m.2.1 58 (by decide)).2.1.trans (by decide)
theorem HM.n58 (m : HM h y ad) : hN h (ad 58) = 128 := (m.2.1 58 (by decide)).2.2.trans (by decide)
/-- a step of the model: which cells and which fields may change -/
def MF (y ad : Nat → Nat) (A : Nat → Nat → Prop) (I : Nat → Prop) (h h' : hpT) : Prop := (hS h' = hS h ∧ hC h' = hC h ∧ hM h' = hM h ∧ hWF h') ∧ (hK h' = hK h ∧ hR h' = hR h ∧ hN h' = hN h ∧ hB h' = hB h) ∧ (∀ f a, ¬ (a = y 12 ∧ ∃ k, f = 832 + k ∧ I k) → hI h' f a = hI h f a) ∧ ∀ a i, (∀ k, aKM k = true → A k i → ¬ a = ad k) → hA h' a i = hA h a i
theorem MF.rf (w : hWF h) {A : Nat → Nat → Prop} {I : Nat → Prop} : MF y ad A I h h := ⟨⟨rfl, rfl, rfl, w⟩, ⟨rfl, rfl, rfl, rfl⟩, fun _ _ _ => rfl, fun _ _ _ => rfl⟩
theorem MF.tr {A A' : Nat → Nat → Prop} {I I' : Nat → Prop} {h2 : hpT} (x : MF y ad A I h h1) (z : MF y ad A' I' h1 h2) : MF y ad (fun k i => A k i ∨ A' k i) (fun k => I k ∨ I' k) h h2 := by
  obtain ⟨⟨a1, a2, a3, a4⟩, ⟨b1, b2, b3, b4⟩, c1, d1⟩ := x
  obtain ⟨⟨a1', a2', a3', a4'⟩, ⟨b1', b2', b3', b4'⟩, c1', d1'⟩ := z
  refine ⟨⟨a1'.trans a1, a2'.trans a2, a3'.trans a3, a4'⟩, ⟨b1'.trans b1, b2'.trans b2, b3'.trans b3, b4'.trans b4⟩, fun f a n => ?_, fun a i n => ?_⟩
  · rw [c1' f a (fun q => n ⟨q.1, q.2.choose, q.2.choose_spec.1, Or.inr q.2.choose_spec.2⟩), c1 f a (fun q => n ⟨q.1, q.2.choose, q.2.choose_spec.1, Or.inl q.2.choose_spec.2⟩)]
  · rw [d1' a i (fun k hk hA => n k hk (Or.inr hA)), d1 a i (fun k hk hA => n k hk (Or.inl hA))]
theorem MF.mono {A A' : Nat → Nat → Prop} {I I' : Nat → Prop} (x : MF y ad A I h h1) (hA : ∀ k i, A k i → A' k i) (hI' : ∀ k, I k → I' k) : MF y ad A' I' h h1 := ⟨x.1, x.2.1, fun f a n => x.2.2.1 f a (fun q => n ⟨q.1, q.2.choose, q.2.choose_spec.1, hI' _ q.2.choose_spec.2⟩), fun a i n => x.2.2.2 a i (fun k hk q => n k hk (hA k i q))⟩
theorem MF.join {A : Nat → Nat → Prop} {I : Nat → Prop} {h2 : hpT} (x : MF y ad A I h h1) (z : MF y ad A I h1 h2) : MF y ad A I h h2 := (x.tr z).mono (fun _ _ q => q.elim id id) (fun _ q => q.elim id id)
theorem HM.lt (m : HM h y ad) (w : hWF h) {k : Nat} (hk : aKM k = true) : ad k < hS h := w.lt (by rw [(m.2.1 k hk).2.1]; unfold kdM; split <;> decide)
theorem MF.wA (m : HM h y ad) (w : hWF h) {k i : Nat} (hk : aKM k = true) (v : Int32) : MF y ad (fun k' j => k' = k ∧ j = i) (fun _ => False) h (hpA h (ad k) i v) := ⟨⟨rfl, rfl, rfl, w.A (m.lt w hk)⟩, ⟨rfl, rfl, rfl, rfl⟩, fun _ _ _ => rfl, fun a j n => by rw [rA_A, if_neg (fun q => n k hk ⟨rfl, q.2⟩ q.1)]⟩
theorem MF.wI (m : HM h y ad) (w : hWF h) {k : Nat} (v : Int32) : MF y ad (fun _ _ => False) (fun k' => k' = k) h (hpI h (832 + k) (y 12) v) := ⟨⟨rfl, rfl, rfl, w.I (w.lt (by rw [m.1]; decide))⟩, ⟨rfl, rfl, rfl, rfl⟩, fun f a n => by rw [rI_I, if_neg (fun q => n ⟨q.2, k, q.1, rfl⟩)], fun _ _ _ => rfl⟩
theorem HM.mf {A : Nat → Nat → Prop} {I : Nat → Prop} (m : HM h y ad) (x : MF y ad A I h h') : HM h' y ad := by
  obtain ⟨-, ⟨b1, b2, b3, b4⟩, -⟩ := x
  exact ⟨by rw [b1]; exact m.1, fun k hk => ⟨by rw [b2]; exact (m.2.1 k hk).1, by rw [b1]; exact (m.2.1 k hk).2.1, by rw [b3]; exact (m.2.1 k hk).2.2⟩, m.2.2⟩
theorem MF.a {A : Nat → Nat → Prop} {I : Nat → Prop} (m : HM h y ad) (x : MF y ad A I h h') {k i : Nat} (hk : aKM k = true) (n : ¬ A k i) : hA h' (ad k) i = hA h (ad k) i := x.2.2.2 _ _ (fun k' hk' q e => n (by rw [m.2.2 k k' hk hk' e]; exact q))
theorem MF.i {A : Nat → Nat → Prop} {I : Nat → Prop} (x : MF y ad A I h h') {k : Nat} (n : ¬ I k) : hI h' (832 + k) (y 12) = hI h (832 + k) (y 12) := x.2.2.1 _ _ (fun q => n (by
  obtain ⟨-, k', e, q⟩ := q
  rw [show k = k' by omega]; exact q))
theorem HM.ne (m : HM h y ad) {k k' : Nat} (hk : aKM k = true) (hk' : aKM k' = true) (n : ¬ k = k') : ¬ ad k = ad k' := fun e => n (m.2.2 k k' hk hk' e)
theorem HM.rA (m : HM h y ad) {k k' i j : Nat} {v : Int32} (hk : aKM k = true) (hk' : aKM k' = true) : hA (hpA h (ad k) i v) (ad k') j = if k' = k ∧ j = i then v else hA h (ad k') j := by
  rw [rA_A]
  by_cases q : k' = k ∧ j = i
  · rw [if_pos q, if_pos ⟨by rw [q.1], q.2⟩]
  · rw [if_neg q, if_neg (fun z => q ⟨m.2.2 k' k hk' hk z.1, z.2⟩)]
end HM
/-! a place of the model's SEGMENTS: LOG, NAME, opened by OPENING, ENTRIES, HOLDERS -/
abbrev enT := pT × Option pT
abbrev slT := Int32 × Nat × Bool × List enT × List (Nat × Nat)
def lLg (s : slT) : Int32 := s.1
def lNm (s : slT) : Nat := s.2.1
def lOp (s : slT) : Bool := s.2.2.1
def lEn (s : slT) : List enT := s.2.2.2.1
def lHo (s : slT) : List (Nat × Nat) := s.2.2.2.2
def sl0 : slT := (99, 0, false, [], [])
def mPt (p : pT) (f : Nat) : Int32 := match f with
  | 0 => pKd p + 1
  | 1 => if kT (pKd p) = 0 then 0 else pCl p
  | 2 => if pKd p = 4 then pNu p else 0
  | 3 => if pKd p = 0 ∨ pKd p = 1 then 0 else pKy p
  | 4 => pSt p
  | 5 => pVa p
  | 6 => pVe p
  | 7 => pAc p
  | _ => if pKd p = 3 then p.2 else 0
def mPo (q : Option pT) (f : Nat) : Int32 := match q with
  | none => 0
  | some p => mPt p f
def pIx (g e i f : Nat) : Nat := ((g * 16 + e) * 2 + i) * 9 + f
def en0 : enT := (((0, 0, 0, 0, 0, 0, 0, 0), 0), none)
def SL (h : hpT) (ad : Nat → Nat) (g : Nat) (s : slT) : Prop := (hA h (ad 24) g = lLg s ∧ hA h (ad 25) g = nI (lNm s) ∧ hA h (ad 26) g = (if lOp s = true then 1 else 0) ∧ lNm s ≤ 100000) ∧ (hA h (ad 27) g = nI (lEn s).length ∧ (lEn s).length ≤ 16 ∧ ∀ e, e < (lEn s).length → ∀ f, f < 9 → hA h (ad 28) (pIx g e 0 f) = mPt ((lEn s).getD e en0).1 f ∧ hA h (ad 28) (pIx g e 1 f) = mPo ((lEn s).getD e en0).2 f) ∧ (hA h (ad 29) g = nI (lHo s).length ∧ (lHo s).length ≤ 8 ∧ ∀ k, k < (lHo s).length → hA h (ad 30) (8 * g + k) = nI ((lHo s).getD k (0, 0)).1 ∧ hA h (ad 31) (8 * g + k) = nI ((lHo s).getD k (0, 0)).2 ∧ ((lHo s).getD k (0, 0)).1 < 8 ∧ ((lHo s).getD k (0, 0)).2 ≤ (lEn s).length)
def TB (h : hpT) (y ad : Nat → Nat) (T : List slT) : Prop := hI h 855 (y 12) = nI T.length ∧ T.length ≤ 6000 ∧ ∀ g, g < T.length → SL h ad g (T.getD g sl0)
