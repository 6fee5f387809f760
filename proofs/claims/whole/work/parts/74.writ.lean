/-! Storage.write over the whole state -/
def wrS (S : stA) (i : Nat) (ps : List pT) (c : Nat) : stA := ((tSv S).set i (stLg ((tSv S).getD i sr0) (wrtA (sLg ((tSv S).getD i sr0)) ps c)), (tAw S, tNm S, tCl S, tAp S + 1, tMe S), S.2.2)
section WRIT
variable {g : gcT} {P : pmT} {o o' w w' : Nat → Nat} {y : Nat → Nat} {R R2 : arT} {h h' : hpT} {i c q : Nat} {ss : List Nat} {Ls : List lsT} {Ds : List (Nat × Nat)} {S : stA} {zs : List svT} {T : svT} {r1 : Option Nat} {cut : Int32}
theorem RS.write (kS : RS g h o w y R R2 ss Ls Ds S) (hi : i < y 20) (ls : lgS g h o (y 20) (y 22) (Ls.getD i ls0).1 (tNm S) (sLg ((tSv S).getD i sr0)) zs) (hTm : T ∈ zs) (hT : hR h 257 (Ls.getD i ls0).1 = some T.1) (pt : ∀ p ∈ r1.toList ++ [q], pOK h p ∧ lOK h p ∧ tmK h o (Ls.getD i ls0).1 (tNm S) zs p) (hn : (zPs T).length + (r1.toList ++ [q]).length ≤ y 22) (hcut : (cut = -1 ∧ T.2.2.2.2.2.length ≤ c) ∨ (¬ cut = -1 ∧ cut = nI c ∧ c < 2 ^ 31)) : EvV g P 52 [va_rf (some (y 0)), va_rf (some (ss.getD i 0)), va_rf r1, va_rf (some q), .int cut] h (StpK g h o y R R2 ss Ls Ds 0 0 (wrS S i ((r1.toList ++ [q]).map (pA h)) c)) := by
  obtain ⟨k0, k1, k4, kse, kde⟩ := kS.kinds
  obtain ⟨ll, xs, p1, p2, p3, p4, p5, p6, p7, p8⟩ := kS.prem hi
  have kS' := kS
  obtain ⟨⟨wf, hg, ok⟩, ⟨yo, hnm, k9, k12⟩, kA, kB, kC, kD⟩ := kS'
  obtain ⟨s1, s2, s3, s4, s5, s6⟩ := kse i hi
  have kT := ls.1.1.sg T hTm
  have hq : ptK h q := (pt q (List.mem_append_right _ (List.mem_singleton.mpr rfl))).1.1
  have hq1 : ∀ p, r1 = some p → ptK h p := fun p hp => (pt p (List.mem_append_left _ (by rw [hp]; exact List.mem_singleton.mpr rfl))).1.1
  have hcut' : (cut = -1 ∧ (if cut = -1 then T.2.2.2.2.2.length else c) = T.2.2.2.2.2.length) ∨ (¬ cut = -1 ∧ cut = nI (if cut = -1 then T.2.2.2.2.2.length else c) ∧ (if cut = -1 then T.2.2.2.2.2.length else c) < 2 ^ 31) := by
    rcases hcut with ⟨e1, e2⟩ | ⟨e1, e2, e3⟩
    · exact Or.inl ⟨e1, if_pos e1⟩
    · exact Or.inr ⟨e1, by rw [if_neg e1]; exact e2, by rw [if_neg e1]; exact e3⟩
  have hup : ∀ n, updH T.2.2.2.2.2 (if cut = -1 then T.2.2.2.2.2.length else c) n = updH T.2.2.2.2.2 c n := by
    intro n
    rcases hcut with ⟨e1, e2⟩ | ⟨e1, e2, e3⟩
    · rw [if_pos e1]; exact (updH_ge _ e2).symm
    · rw [if_neg e1]
  refine Ev.imp (m_write wf k0 s1 p4 s3 hT kT hq1 hq hn hcut') (fun h' r ⟨er, h1, e1, e2⟩ => ⟨er, ?_⟩)
  have e1' : entH h T.1 (y 20) (y 22) T.2.1 T.2.2.1 T.2.2.2.1 T.2.2.2.2.1 T.2.2.2.2.2 (r1.toList ++ [q]) c h1 := by
    unfold entH at e1 ⊢
    rw [hup] at e1
    exact e1
  have d4 : hR h1 = hR h := e1'.2.2.2
  obtain ⟨cg, ls1, sL⟩ := lgS.ent wf hg ok ls hTm hT e1' pt
  have w1 := cg.w
  have hg1 := hg.ch cg.1
  have k01 : hK h1 (y 0) = 11 := by rw [(cg.1.2.1 _ (wf.lt (by omega))).1]; exact k0
  have r0 := p2.2.1.1
  have nL0 : ¬ y 0 = (Ls.getD i ls0).1 := kinds_ne (h := h) (by omega)
  obtain ⟨⟨xs1, st1⟩, ⟨i1, i2, i3, i4, i5⟩, zz⟩ := rsA.fr wf hg kA cg nL0
  have cg2 : CG (fun u => u = y 0) 0 0 h1 o (hpI h1 650 (y 0) (hI h1 650 (y 0) + 1)) o := CG.wI w1 ok (by omega) (by omega) (by rw [r0]; exact r0) (by decide)
  have kA2 : rsA g (hpI h1 650 (y 0) (hI h1 650 (y 0) + 1)) o y R (upN (tSv S)) (tAw S, tNm S, tCl S, tAp S + 1, tMe S) := by
    refine ⟨⟨xs1, st1.wI (Or.inr (by decide))⟩, ⟨?_, ?_, ?_, ?_, ?_⟩, zz⟩
    · rw [rI_I, if_neg (by omega)]; exact i1
    · rw [rI_I, if_neg (by omega)]; exact i2
    · rw [rI_I, if_neg (by omega)]; exact i3
    · rw [rI_I, if_pos ⟨rfl, rfl⟩, i4]; rfl
    · rw [rI_I, if_neg (by omega)]; exact i5
  have cgt := CG.tr wf ok (cg.mono ok (B' := fun u => u = y 0 ∨ u = (Ls.getD i ls0).1) (fun u _ q => Or.inr q) (Nat.le_refl _) (Nat.le_refl _)) (cg2.mono ok (fun u _ q => Or.inl q) (Nat.le_refl _) (Nat.le_refl _))
  have epA : (r1.toList ++ [q]).map (pA h1) = (r1.toList ++ [q]).map (pA h) := List.map_congr_left (fun p hp => pA.cg wf (pt p hp).1.1.1 (pt p hp).2.1 cg)
  rw [epA] at ls1
  have lrf : lgR g (hpI h1 650 (y 0) (hI h1 650 (y 0) + 1)) o (y 20) (y 22) (Ls.getD i ls0).1 (tNm S) _ := lgR.fr w1 hg1 ⟨_, ls1⟩ cg2 (fun q => nL0 q.symm)
  have kT1 := kT.1
  obtain ⟨a1, -, -, -, -, -, a7, a8, a9, a10, a11, -⟩ := kT1
  have hcap : ∀ u, hR h 256 (Ls.getD i ls0).1 = some u → capO g (hpI h1 650 (y 0) (hI h1 650 (y 0) + 1)) u = capO g h u := fun u hu => by
    show capO g h1 u = _
    obtain ⟨-, l', z1, z2, -⟩ := ls.1.1.1
    rw [hu] at z1
    cases z1
    have := z2.1.1
    refine capO.fr wf z2 cg.1 (e1'.2.1.sm ?_ (wf.lt (by omega)))
    rintro (q | q | q | q) <;> (rw [q] at this; omega)
  have hcap3 : capO g (hpI h1 650 (y 0) (hI h1 650 (y 0) + 1)) (y 3) = capO g h (y 3) := by
    show capO g h1 (y 3) = _
    have := p2.2.2.2.2.1.1.1
    exact capO.fr wf p2.2.2.2.2.1 cg.1 (cg.sm wf (by rw [p2.2.2.2.2.2.1, r0]; exact nL0) (by omega))
  have sLf : hI (hpI h1 650 (y 0) (hI h1 650 (y 0) + 1)) 259 (Ls.getD i ls0).1 = hI h 259 (Ls.getD i ls0).1 ∧ hR (hpI h1 650 (y 0) (hI h1 650 (y 0) + 1)) 256 (Ls.getD i ls0).1 = hR h 256 (Ls.getD i ls0).1 := by
    refine ⟨?_, (sL.2.1 256).2⟩
    rw [rI_I, if_neg (by omega)]; exact (sL.2.1 259).1
  rw [e2]
  refine RS.lg kS hi cgt lrf ?_ sLf hcap hcap3 kA2 rfl
  show (List.map _ _).length ≤ _
  rw [List.length_map]
  exact Nat.le_refl _
/-- what makeRoom gives: a HEAD with room -/
theorem unsA_le (ps : List pT) : ∃ k, unsA ps = nI k ∧ ps.length ≤ k ∧ k ≤ 2 * ps.length := by
  unfold unsA
  have : ∀ (ps : List pT) (t n : Nat), t ≤ 2 * n → n ≤ t → ∃ k, ps.foldl (fun t p => t + kU (pKd p)) (nI t) = nI k ∧ n + ps.length ≤ k ∧ k ≤ 2 * (n + ps.length) := by
    intro ps
    induction ps with
    | nil => intro t n h1 h2; exact ⟨t, rfl, h2, h1⟩
    | cons p ps ih =>
      intro t n h1 h2
      rw [List.foldl_cons]
      have eu : kU (pKd p) = 1 ∨ kU (pKd p) = 2 := by
        unfold kU
        split
        · exact Or.inr rfl
        · exact Or.inl rfl
      rcases eu with e | e
      · rw [e, nI_1]
        obtain ⟨k, k1, k2, k3⟩ := ih (t + 1) (n + 1) (by omega) (by omega)
        exact ⟨k, k1, by rw [List.length_cons]; omega, by rw [List.length_cons]; omega⟩
      · rw [e, nI_2]
        obtain ⟨k, k1, k2, k3⟩ := ih (t + 2) (n + 1) (by omega) (by omega)
        exact ⟨k, k1, by rw [List.length_cons]; omega, by rw [List.length_cons]; omega⟩
  obtain ⟨k, k1, k2, k3⟩ := this ps 0 0 (Nat.le_refl _) (Nat.le_refl _)
  rw [nI_0] at k1
  exact ⟨k, k1, by omega, by omega⟩
theorem mkr_room {N U rep mem : Nat} {up aw : Int32} {nm sv : Nat} {safe lim : Int32} {need : Nat} {A : alT} (hU : 6 ≤ U ∧ U ≤ 100) (hne : need ≤ 4) (hA : ∀ u, hdG A = some u → u.2.1.length ≤ U) (hr : ∀ u ∈ A.1, u.1 < nm) (e : ¬ (mkrA N U rep mem up aw nm sv safe (nI need) lim A).2.2.2 = 0) : ∃ u, hdG (mkrA N U rep mem up aw nm sv safe (nI need) lim A).1 = some u ∧ u.2.1.length + need ≤ U := by
  unfold mkrA at e ⊢
  split
  · rename_i hb
    unfold hdB at hb
    cases hd : hdG A with
    | none => rw [hd] at hb; cases hb
    | some u =>
      rw [hd] at hb
      dsimp only at hb
      simp only [Bool.and_eq_true, decide_eq_true_eq] at hb
      obtain ⟨k, k1, k2, k3⟩ := unsA_le u.2.1
      have hl := hA u hd
      rw [k1, nI_ad, nI_le_iff (by omega) (by omega)] at hb
      exact ⟨u, rfl, by omega⟩
  · rename_i hb
    rw [if_neg hb] at e
    unfold opnA at e ⊢
    split
    · rename_i q
      rw [if_pos q] at e
      exact absurd rfl e
    · rename_i q
      rw [if_neg q] at e
      split
      · rename_i q2
        rw [if_pos q2] at e
        exact absurd rfl e
      · have hlt : ∀ u ∈ (opn1 N U rep mem up nm sv A).1, u.1 < (opn1 N U rep mem up nm sv A).2.1 := by
          intro u hu
          unfold opn1 at hu ⊢
          split at hu
          · rename_i q3
            rw [if_pos q3]
            unfold clnA at hu ⊢
            split at hu
            · rename_i q4
              rw [if_pos q4]
              rcases List.mem_append.mp hu with d | d
              · have := hr u ((List.mem_filter.mp d).1)
                show u.1 < nm + 1
                omega
              · rw [List.mem_singleton] at d
                rw [d]
                exact Nat.lt_succ_self _
            · rename_i q4
              rw [if_neg q4]
              exact hr u ((List.mem_filter.mp hu).1)
          · rename_i q3
            rw [if_neg q3]
            exact hr u hu
        refine ⟨dgG (opn1 N U rep mem up nm sv A).2.1 (nsH up N rep (opn1 N U rep mem up nm sv A).2.1 sv N) safe, ?_, ?_⟩
        · unfold hdG
          dsimp only
          rw [List.find?_append, List.find?_eq_none.mpr (fun u hu => by
            have := hlt u hu
            simp only [beq_iff_eq]
            omega)]
          rw [Option.none_or, List.find?_cons]
          have : ((dgG (opn1 N U rep mem up nm sv A).2.1 (nsH up N rep (opn1 N U rep mem up nm sv A).2.1 sv N) safe).1 == (opn1 N U rep mem up nm sv A).2.1) = true := beq_self_eq_true _
          rw [this]
        · show 1 + need ≤ U
          omega
end WRIT
