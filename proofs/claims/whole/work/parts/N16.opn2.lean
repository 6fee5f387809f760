/-! the two sides: OPENING, whole -/
section OPN2
variable {T T' T2 : List slT} {x x' c n xr lim : Int32} {A A' B : alT} {st : Nat → Int32} {k e i j N U rep nm m up : Nat} {s s' : slT} {hd : Option Nat} {y : Nat → Nat} {S S' : stA} {μ μ' : mT} {hs : List (Nat × Nat)}
theorem rmW_eq {W : alT × Nat × Int32 × Int32} : rmW S i W = ((tSv S).set i (stLg ((tSv S).getD i sr0) W.1), (tAw S, W.2.1, tCl S + W.2.2.1, tAp S, tMe S), S.2.2) := rfl
theorem opn_R (mr : MR y S μ) (hi : i < y 20) (li : LI (tNm S) (sLg ((tSv S).getD i sr0))) (hl : ¬ lim = 0 ↔ xr = 0) (hnm : (opnS y S i lim).2.1 ≤ 80000) : MR y (rmW S i (opnS y S i lim)) (opnM y μ i xr).1 ∧ (opnM y μ i xr).2 = (opnS y S i lim).2.2.2 := by
  have upr := mr.upr
  have mr0 := mr
  obtain ⟨⟨k0, k1, k2, k3, k4⟩, ⟨l1, l2, l3, l4⟩, ⟨n1, n2, n3, n4, n5, n6, n7, n8⟩, ow, sv, de, dd, sp, lb⟩ := mr
  obtain ⟨a1, a2, a3, a4, a5⟩ := sv i hi
  obtain ⟨yo1, yo2, yo3, yo4⟩ := k0
  have ub : upB (μ.2.1 5) (y 20) (nI i) ≤ 8 := by
    unfold upB
    rw [fo_cnt, Nat.zero_add]
    exact Nat.le_trans List.countP_le_length (by rw [List.length_range]; exact yo1.2)
  have c1 : (¬ tAw S = 0 ∨ ¬ nI (y 21) ≤ bcX (nI (upN (tSv S)) &&& (bitS (nI i) ^^^ (-1)))) ↔ (¬ μ.2.2 14 = 0 ∨ upB (μ.2.1 5) (y 20) (nI i) < y 21) := by
    rw [n1, upr.but yo1.2 hi]
    have : ¬ nI (y 21) ≤ nI (upB (μ.2.1 5) (y 20) (nI i)) ↔ upB (μ.2.1 5) (y 20) (nI i) < y 21 := by
      rw [nI_leI (by omega) (by omega)]
      omega
    rw [this]
  by_cases q1 : ¬ μ.2.2 14 = 0 ∨ upB (μ.2.1 5) (y 20) (nI i) < y 21
  · have eM : opnM y μ i xr = (μ, 0) := by unfold opnM; rw [if_pos q1]
    have eS : opnS y S i lim = (sLg ((tSv S).getD i sr0), tNm S, 0, 0) := by unfold opnS opnA; rw [if_pos (c1.mpr q1)]
    rw [eM, eS]
    refine ⟨?_, rfl⟩
    refine MR.log (A' := sLg ((tSv S).getD i sr0)) mr0 hi rmW_eq (fun _ _ _ => rfl) (fun _ _ _ _ _ => rfl) n2 (by rw [n3]; exact (Int32.add_zero _).symm) n4 n5 l4 a4 (fun _ _ _ _ r => r) a3 sp (fun s hs => Or.inr (lb s hs)) (fun _ _ _ _ h => h)
  · obtain ⟨o1, o2, o3, o4, o5, o6, o7, o8, o9, o10, o11⟩ := opn2_R (hd := none) mr0 hi li
    have eS : opnS y S i lim = if ¬ lim = 0 ∧ y 23 ≤ (opn1 (y 20) (y 22) (y 21) (y 23) (nI (upN (tSv S))) (tNm S) i (sLg ((tSv S).getD i sr0))).1.length then (((opn1 (y 20) (y 22) (y 21) (y 23) (nI (upN (tSv S))) (tNm S) i (sLg ((tSv S).getD i sr0))).1, none, (sLg ((tSv S).getD i sr0)).2.2), (opn1 (y 20) (y 22) (y 21) (y 23) (nI (upN (tSv S))) (tNm S) i (sLg ((tSv S).getD i sr0))).2.1, (opn1 (y 20) (y 22) (y 21) (y 23) (nI (upN (tSv S))) (tNm S) i (sLg ((tSv S).getD i sr0))).2.2, 0) else (((opn1 (y 20) (y 22) (y 21) (y 23) (nI (upN (tSv S))) (tNm S) i (sLg ((tSv S).getD i sr0))).1 ++ [dgG (opn1 (y 20) (y 22) (y 21) (y 23) (nI (upN (tSv S))) (tNm S) i (sLg ((tSv S).getD i sr0))).2.1 (nsH (nI (upN (tSv S))) (y 20) (y 21) (opn1 (y 20) (y 22) (y 21) (y 23) (nI (upN (tSv S))) (tNm S) i (sLg ((tSv S).getD i sr0))).2.1 i (y 20)) (sSf ((tSv S).getD i sr0))], some (opn1 (y 20) (y 22) (y 21) (y 23) (nI (upN (tSv S))) (tNm S) i (sLg ((tSv S).getD i sr0))).2.1, some (opn1 (y 20) (y 22) (y 21) (y 23) (nI (upN (tSv S))) (tNm S) i (sLg ((tSv S).getD i sr0))).2.1), (opn1 (y 20) (y 22) (y 21) (y 23) (nI (upN (tSv S))) (tNm S) i (sLg ((tSv S).getD i sr0))).2.1 + 1, (opn1 (y 20) (y 22) (y 21) (y 23) (nI (upN (tSv S))) (tNm S) i (sLg ((tSv S).getD i sr0))).2.2, 1) := by
      unfold opnS opnA
      rw [if_neg (fun z => q1 (c1.mp z))]
    have eM : opnM y μ i xr = if xr = 0 ∧ y 23 ≤ sgN (opn2 y μ i).1 (nI i) then (opn2 y μ i, 0) else (opn3 y (opn2 y μ i) i, 1) := by unfold opnM; rw [if_neg q1]
    rw [o1.len] at eM
    have he9 : (opn2 y μ i).2.1 9 i = sSf ((tSv S).getD i sr0) := by
      rw [o6]
      show (if (9 : Nat) = 10 ∧ i = i then (-1 : Int32) else μ.2.1 9 i) = _
      rw [if_neg (by omega)]
      exact a1.2.2.2.1
    have he5 : (opn2 y μ i).2.1 5 = μ.2.1 5 := by
      rw [o6]
      funext j
      show (if (5 : Nat) = 10 ∧ j = i then (-1 : Int32) else μ.2.1 5 j) = _
      rw [if_neg (by omega)]
    have hr : ∀ r k, ¬ (r = 10 ∧ k = i) → (opn2 y μ i).2.1 r k = μ.2.1 r k := fun r k h => by
      rw [o6]
      show (if r = 10 ∧ k = i then (-1 : Int32) else μ.2.1 r k) = _
      rw [if_neg h]
    have hr10 : (opn2 y μ i).2.1 10 i = -1 := by
      rw [o6]
      exact if_pos ⟨rfl, rfl⟩
    generalize opn1 (y 20) (y 22) (y 21) (y 23) (nI (upN (tSv S))) (tNm S) i (sLg ((tSv S).getD i sr0)) = O at *
    by_cases q2 : xr = 0 ∧ y 23 ≤ O.1.length
    · rw [if_pos q2] at eM
      rw [if_pos ⟨hl.mpr q2.1, q2.2⟩] at eS
      rw [eS] at hnm
      rw [eM, eS]
      refine ⟨?_, rfl⟩
      have hnm : O.2.1 ≤ 80000 := hnm
      exact MR.log (T' := (opn2 y μ i).1) (ρ := (opn2 y μ i).2.1) (ν := (opn2 y μ i).2.2) mr0 hi rmW_eq hr (fun k z1 z2 _ _ => o9 k z1 z2) o7 o8 (by rw [o9 19 (by decide) (by decide)]; exact n4) (by rw [o9 21 (by decide) (by decide)]; exact n5) hnm o1 o2 (Or.inl ⟨rfl, hr10⟩) o3 o4 (fun j nj hj h hh => hh.ke o5 (by omega) (by omega) nj (hr 10 j (fun z => nj z.2)))
    · rw [if_neg q2] at eM
      rw [if_neg (fun z => q2 ⟨hl.mp z.1, z.2⟩)] at eS
      rw [eS] at hnm
      rw [eM, eS]
      refine ⟨?_, rfl⟩
      have hnm : O.2.1 + 1 ≤ 80000 := hnm
      have nmO : nmM (opn2 y μ i) = O.2.1 := by
        unfold nmM
        rw [o7]
        exact nI_clamp (by omega)
      obtain ⟨s1, s2, s3⟩ := ns_p (st := μ.2.1 5) (rep := y 21) (nm := O.2.1) yo1.1 yo1.2 hi
      have ens := ns_MH (rep := y 21) (nm := O.2.1) upr yo1.1 yo1.2 hi
      have e3 : opn3 y (opn2 y μ i) i = uR (uN (uT (opn2 y μ i) (nwT (opn2 y μ i).1 (nI i, O.2.1, true, [dgP (sSf ((tSv S).getD i sr0))].map (fun p => (p, none)), (nsM (μ.2.1 5) (y 20) (y 21) O.2.1 i (y 20 - 1)).map (fun x => (x.1, [dgP (sSf ((tSv S).getD i sr0))].length))))) 16 (nI (O.2.1 + 1))) 10 i (nI (nwI (opn2 y μ i).1)) := by
        unfold opn3 nsR
        rw [nmO, he9, he5]
        unfold cmS
        show uR (uN (uT _ (nwT _ (nI i, O.2.1, true, [] ++ [(dgP _, none)], updH (nsM (μ.2.1 5) (y 20) (y 21) O.2.1 i (y 20 - 1)) 8 (0 + 1)))) 16 _) 10 i _ = _
        rw [updH_all (by omega)]
        rfl
      have spn : SP (y 20) (nI i, O.2.1, true, [dgP (sSf ((tSv S).getD i sr0))].map (fun p => (p, none)), (nsM (μ.2.1 5) (y 20) (y 21) O.2.1 i (y 20 - 1)).map (fun x => (x.1, [dgP (sSf ((tSv S).getD i sr0))].length))) := SP.new yo1.1 yo1.2 hi yo2.2 (by omega) (show (1 : Nat) ≤ 16 by decide) (fun p hp => by
        rw [List.mem_singleton.mp hp]
        exact (by decide : ¬ (0 : Int32) = -1))
      have agn : agS (nI i, O.2.1, true, [dgP (sSf ((tSv S).getD i sr0))].map (fun p => (p, none)), (nsM (μ.2.1 5) (y 20) (y 21) O.2.1 i (y 20 - 1)).map (fun x => (x.1, [dgP (sSf ((tSv S).getD i sr0))].length))) = dgG O.2.1 (nsH (nI (upN (tSv S))) (y 20) (y 21) O.2.1 i (y 20)) (sSf ((tSv S).getD i sr0)) := by
        rw [← ens]; rfl
      rw [e3, ← agn]
      have lN : lLg (nI i, O.2.1, true, [dgP (sSf ((tSv S).getD i sr0))].map (fun p : pT => ((p, none) : enT)), (nsM (μ.2.1 5) (y 20) (y 21) O.2.1 i (y 20 - 1)).map (fun x => (x.1, [dgP (sSf ((tSv S).getD i sr0))].length))) = nI i := rfl
      generalize hsN : ((nI i, O.2.1, true, [dgP (sSf ((tSv S).getD i sr0))].map (fun p => (p, none)), (nsM (μ.2.1 5) (y 20) (y 21) O.2.1 i (y 20 - 1)).map (fun x => (x.1, [dgP (sSf ((tSv S).getD i sr0))].length))) : slT) = sN at spn agn lN
      have lN2 : lNm sN = O.2.1 ∧ lOp sN = true := by rw [← hsN]; exact ⟨rfl, rfl⟩
      have h99 : ¬ nI i = 99 := nI_9 (by omega)
      have r3 := o1.nw (s := sN) (hd := some O.2.1) h99 lN (fun u hu => by rw [lN2.1]; exact o10 u hu)
      rw [if_pos lN2.2, lN2.1] at r3
      have lt := nwT_len (opn2 y μ i).1 sN
      refine MR.log (T' := nwT (opn2 y μ i).1 sN) (ρ := (uR (uN (uT (opn2 y μ i) (nwT (opn2 y μ i).1 sN)) 16 (nI (O.2.1 + 1))) 10 i (nI (nwI (opn2 y μ i).1))).2.1) (ν := (uN (uT (opn2 y μ i) (nwT (opn2 y μ i).1 sN)) 16 (nI (O.2.1 + 1))).2.2) mr0 hi rmW_eq (fun r k h => ?_) (fun k z1 z2 _ _ => ?_) rfl ?_ ?_ ?_ hnm r3 (fun x' B z1 z2 rb => (o2 x' B z1 z2 rb).nwo z2 (fun z => z1 (z.symm.trans lN))) ?_ (fun s hs => ?_) (fun s hs => ?_) (fun j nj hj h hh => hh.ke (o5.tr KE.nw) (by omega) (by omega) nj ?_)
      · show (if r = 10 ∧ k = i then _ else (opn2 y μ i).2.1 r k) = _
        rw [if_neg h]
        exact hr r k h
      · show (if k = 16 then _ else (opn2 y μ i).2.2 k) = _
        rw [if_neg z1]
        exact o9 k z1 z2
      · exact o8
      · show (if (19 : Nat) = 16 then nI (O.2.1 + 1) else (opn2 y μ i).2.2 19) = _
        rw [if_neg (by decide), o9 19 (by decide) (by decide)]
        exact n4
      · show (if (21 : Nat) = 16 then nI (O.2.1 + 1) else (opn2 y μ i).2.2 21) = _
        rw [if_neg (by decide), o9 21 (by decide) (by decide)]
        exact n5
      · refine Or.inr ⟨nwI (opn2 y μ i).1, lt.1, if_pos ⟨rfl, rfl⟩, ?_, ?_⟩
        · show lLg ((nwT (opn2 y μ i).1 sN).getD (nwI (opn2 y μ i).1) sl0) = _
          rw [lt.2]; exact lN
        · show some O.2.1 = some (lNm ((nwT (opn2 y μ i).1 sN).getD (nwI (opn2 y μ i).1) sl0))
          rw [lt.2, lN2.1]
      · rcases nw_mem hs with z | z
        · exact o3 s z
        · rw [z]; exact spn
      · rcases nw_mem hs with z | z
        · exact o4 s z
        · rw [z]; exact Or.inl lN
      · show (if (10 : Nat) = 10 ∧ j = i then _ else (opn2 y μ i).2.1 10 j) = _
        rw [if_neg (fun z => nj z.2)]
        exact hr 10 j (fun z => nj z.2)
end OPN2
