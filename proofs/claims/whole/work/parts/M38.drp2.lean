/-! the model: dropDead -/
section MDe
variable {g : gcT} {P : pmT} {h h' h1 h2 : hpT} {y ad : Nat → Nat} {i j k n nm m e f c v p q d : Nat} {x x1 x2 x3 x4 : Int32} {μ μ' : mT} {Q : hpT → Option Value → Prop}
theorem ddK_n : (ddK μ k).2.2 = μ.2.2 := by
  unfold ddK
  exact fold_inv (fun z : mT => z.2.2 = μ.2.2) (fun μ t => ddR μ k t) (List.range 8) (fun b a _ hb => hb) (uR μ 57 k (μ.2.1 57 (k + 1))) rfl
theorem m_dropDead (mw : MW h y ad μ) (e56 : μ.2.2 56 = nI (dN μ)) (hd : d < dN μ) (hd16 : dN μ ≤ 16) (b58 : d58 (dN μ) μ) : EvV g P 173 [va_rf (some (y 12)), .int (nI d)] h (fun h' => MG y ad h h' ∧ MW h' y ad (ddM μ d) ∧ d58 (dN μ) (ddM μ d)) := by
  have e888 : hI h 888 (y 12) - 1 = nI (dN μ - 1) := by
    rw [(mw.n 56 (by decide) (by decide) rfl : hI h 888 (y 12) = _), e56]
    have := nI_pred (dN μ - 1)
    rw [show dN μ - 1 + 1 = dN μ by omega] at this
    exact this
  have rl : (List.range (dN μ - 1 - d)).length = dN μ - 1 - d := List.length_range
  refine e_173 (s_173_0 (k3 := mw.1.1) (kk := ?_))
  rw [e888]
  have mw0 := mw.wN (k := 56) (f := 888) (x := nI (dN μ - 1)) rfl (by decide) (by decide)
  have g0 := mw.gN (k := 56) (f := 888) (x := nI (dN μ - 1)) rfl
  generalize hpI h 888 (y 12) (nI (dN μ - 1)) = H0 at mw0 g0 ⊢
  have lp := fold_loop (List.range (dN μ - 1 - d)) (fun μ' j => ddK μ' (d + j)) (fun j μ' => ∀ h1 o3, MG y ad h h1 → MW h1 y ad μ' → μ'.2.2 56 = nI (dN μ - 1) → d58 (dN μ) μ' → Ev g P 173 12 [some (va_rf (some (y 12))), some (.int (nI d)), some (.int (nI (d + j))), o3] [] h1 (fun h' r => r = none ∧ MG y ad h h' ∧ MW h' y ad (ddM μ d) ∧ d58 (dN μ) (ddM μ d))) ?_ (uN μ 56 (nI (dN μ - 1))) ?_
  · exact lp H0 none g0 mw0 rfl b58
  · intro j μ' hj kn h1 o3 g1 mw1 ee b1
    rw [List.getElem_range] at kn
    rw [rl] at hj
    have ek : (nI (d + j)).toNatClampNeg = d + j := nI_clamp (by omega)
    have ed : hI h1 888 (y 12) = nI (dN μ - 1) := (mw1.n 56 (by decide) (by decide) rfl).trans ee
    have c57 : hA h1 (ad 57) (nI (d + j) + 1).toNatClampNeg = μ'.2.1 57 (d + j + 1) := by rw [nI_1, nI_clamp (by omega)]; exact mw1.2.2.2.1 57 _ rfl
    refine s_173_12 (k3 := mw1.1.1) (kt := fun z => absurd z (by rw [ed]; exact nI_ge (by omega) (by omega))) (kf := fun _ => ?_)
    refine s_173_20 (k3 := mw1.1.1) (e5 := mw1.1.r57) (k6 := mw1.1.k57) (i7 := by rw [nI_1, mw1.1.n57]; exact vin_nI (by omega) (by decide)) (i8 := by rw [mw1.1.n57]; exact vin_nI (by omega) (by decide)) (kk := ?_)
    rw [c57, ek]
    have mw2 := mw1.wA (r := 57) (i := d + j) (x := μ'.2.1 57 (d + j + 1)) rfl
    have g2 := mw1.gA (e := 57) (i := d + j) (x := μ'.2.1 57 (d + j + 1)) rfl
    generalize hpA h1 (ad 57) (d + j) (μ'.2.1 57 (d + j + 1)) = H2 at mw2 g2 ⊢
    refine drop_k (n8 := 8) (dn := dN μ) rfl mw2 (by omega) hd16 b1 (fun h3 x3 g3 mw3 b3 => s_173_72 ?_)
    rw [nI_1]
    exact kn h3 _ ((g1.jn g2).jn g3) mw3 (by rw [ddK_n]; exact ee) b3
  · intro h1 o3 g1 mw1 ee b1
    have ed : hI h1 888 (y 12) = nI (dN μ - 1) := (mw1.n 56 (by decide) (by decide) rfl).trans ee
    rw [rl]
    exact s_173_12 (k3 := mw1.1.1) (kt := fun _ => s_173_78 ⟨rfl, g1, mw1, b1⟩) (kf := fun z => absurd (by rw [ed]; exact nI_le (by omega) (by omega)) z)
end MDe
