/-! the two sides: an ENTRY is written -/
section WR
variable {T T' T2 : List slT} {x x' n xr lim need : Int32} {A A' B : alT} {st : Nat → Int32} {k e i j N U rep nm m up c c' : Nat} {s s' : slT} {hd : Option Nat} {y : Nat → Nat} {S S' : stA} {μ μ' : mT} {hs : List (Nat × Nat)} {E : List enT} {en : enT} {p : pT} {ps : List pT}
theorem ag_cm : agS (cmS s en c) = addG (agS s) (enP en) c := by
  unfold agS addG cmS
  show (lNm s, enS (lEn s ++ [en]), endL 0 (lEn s ++ [en]), updH (lHo s) c ((lEn s).length + 1)) = _
  rw [enS_app, endL_app, endL_len]
  have e : enS [en] = enP en := by
    show enP en ++ [] = _
    rw [List.append_nil]
  rw [e, Nat.zero_add]
theorem updH_f (hs : List (Nat × Nat)) (c n : Nat) : (updH hs c n).map (·.1) = hs.map (·.1) := by
  refine List.ext_getElem (by rw [List.length_map, List.length_map, updH_len]) (fun i h1 h2 => ?_)
  rw [List.getElem_map, List.getElem_map]
  rw [List.length_map, updH_len] at h1
  rw [updH_get _ _ _ (by rw [updH_len]; exact h1) h1]
  split <;> rfl
theorem updH_m {z : Nat × Nat} (h : z ∈ updH hs c k) : ∃ w ∈ hs, z.1 = w.1 ∧ (z.2 = k ∨ z.2 = w.2) := by
  obtain ⟨i, hi, e⟩ := List.mem_iff_getElem.mp h
  have hi' : i < hs.length := by rw [updH_len] at hi; exact hi
  rw [updH_get _ _ _ hi hi'] at e
  refine ⟨hs[i], List.getElem_mem hi', ?_⟩
  subst e
  split
  · exact ⟨rfl, Or.inl rfl⟩
  · exact ⟨rfl, Or.inr rfl⟩
theorem SP.cm (h : SP N s) (hE : (lEn s).length < 16) (ev : enV en ∧ ∀ p ∈ enP en, ¬ pKd p = -1) : SP N (cmS s en c) := by
  obtain ⟨h1, h2, h3, ⟨h4, h5, h6⟩, h7, h8⟩ := h
  have hh : ∀ {z : Nat × Nat}, z ∈ lHo (cmS s en c) → ∃ w ∈ lHo s, z.1 = w.1 ∧ (z.2 = (lEn s).length + 1 ∨ z.2 = w.2) := fun hz => updH_m hz
  have le : (lEn (cmS s en c)).length = (lEn s).length + 1 := by
    show (lEn s ++ [en]).length = _
    rw [List.length_append]; rfl
  refine ⟨fun z hz => ?_, h2, ⟨fun e he => ?_, fun p hp => ?_⟩, ⟨?_, fun z hz => ?_, ?_⟩, fun i hi e z hz => ?_, by rw [le]; omega⟩
  · obtain ⟨w, w1, -, w3⟩ := hh hz
    have := h1 w w1
    rw [le]
    rcases w3 with w3 | w3 <;> omega
  · have he : e ∈ lEn s ++ [en] := he
    rcases List.mem_append.mp he with z | z
    · exact h3.1 e z
    · rw [List.mem_singleton.mp z]; exact ev.1
  · have hp : p ∈ enS (lEn s ++ [en]) := hp
    rw [enS_app] at hp
    rcases List.mem_append.mp hp with z | z
    · exact h3.2 p z
    · have z : p ∈ enP en ++ [] := z
      rw [List.append_nil] at z
      exact ev.2 p z
  · show ((updH (lHo s) c _).map (fun z : Nat × Nat => z.1)).Nodup
    rw [updH_f]; exact h4
  · obtain ⟨w, w1, w2, -⟩ := hh hz
    rw [w2]; exact h5 w w1
  · show (updH (lHo s) c _).length < 8
    rw [updH_len]; exact h6
  · obtain ⟨w, w1, w2, -⟩ := hh hz
    rw [w2]; exact h7 i hi e w w1
theorem LgR.uni (r : LgR T x A) (hk : k < T.length) (hl : lLg (T.getD k sl0) = x) {u : agT} (hu : u ∈ A.1) (e : u.1 = lNm (T.getD k sl0)) : u = agS (T.getD k sl0) := by
  obtain ⟨s, s1, s2⟩ := r.mem' hu
  have : s = T.getD k sl0 := r.inj s1 (fl_at hk hl) (by rw [← e, ← s2]; rfl)
  rw [← s2, this]
theorem wr_R (mr : MR y S μ) (hT : μ.1.length < 2 ^ 31) (hi : i < y 20) (hh : ¬ (sLg ((tSv S).getD i sr0)).2.1 = none) (hE : (lEn (μ.1.getD (hdI μ i) sl0)).length < 16) (ev : enV (tmE μ i en) ∧ ∀ p ∈ enP (tmE μ i en), ¬ pKd p = -1) (hc : ∀ (hs : List (Nat × Nat)) (n : Nat), hs.length < 8 → updH hs c n = updH hs c' n) : MR y (wrS S i (enP (tmE μ i en)) c') (apT μ i en c) := by
  have mr0 := mr
  obtain ⟨⟨k0, k1, k2, k3, k4⟩, ⟨l1, l2, l3, l4⟩, ⟨n1, n2, n3, n4, n5, n6, n7, n8⟩, ow, sv, de, dd, sp, lb⟩ := mr
  obtain ⟨a1, a2, a3, a4, a5⟩ := sv i hi
  have y8 := k0.1.2
  rcases a3 with ⟨h1, h2⟩ | ⟨k, h1, h2, h3, h4⟩
  · exact absurd h1 hh
  · have ek : hdI μ i = k := by unfold hdI; rw [h2]; exact nI_clamp (by omega)
    rw [ek] at hE
    have spk := sp _ (T_at h1)
    have eT : apT μ i en c = (μ.1.set k (cmS (μ.1.getD k sl0) (tmE μ i en) c), μ.2.1, fun k' => if k' = 19 then μ.2.2 19 + 1 else μ.2.2 k') := by
      unfold apT
      rw [ek]; rfl
    rw [eT]
    generalize tmE μ i en = en' at ev
    have rp := a4.rp (hd := (sLg ((tSv S).getD i sr0)).2.1) h1 h3 (s' := cmS (μ.1.getD k sl0) en' c) h3 rfl rfl
    have eA : (sLg ((tSv S).getD i sr0)).1.map (fun u => if u.1 = lNm (μ.1.getD k sl0) then agS (cmS (μ.1.getD k sl0) en' c) else u) = (wrtA (sLg ((tSv S).getD i sr0)) (enP en') c').1 := by
      unfold wrtA
      refine List.map_congr_left (fun u hu => ?_)
      rw [h4]
      by_cases q : u.1 = lNm (μ.1.getD k sl0)
      · rw [if_pos q, if_pos (by rw [q])]
        have := a4.uni h1 h3 hu q
        rw [this, ag_cm]
        unfold addG
        rw [hc (agS (μ.1.getD k sl0)).2.2.2 _ spk.2.2.2.1.2.2]
      · rw [if_neg q, if_neg (fun z => q (Option.some.inj z))]
    rw [eA] at rp
    refine MR.log (A' := wrtA (sLg ((tSv S).getD i sr0)) (enP en') c') (nm := tNm S) (cl := tCl S) (ap := tAp S + 1) (me := tMe S) mr0 hi rfl (fun _ _ _ => rfl) (fun k z1 z2 z3 z4 => if_neg z3) ?_ ?_ ?_ ?_ l4 rp (fun x' B z1 z2 rb => rb.oth h1 (fun z => z1 (z.symm.trans h3)) (fun z => z1 (z.symm.trans h3))) ?_ (fun s hs => ?_) (fun s hs => ?_) (fun j nj hj h hh => hh.ke (KE.set h3) (by omega) (by omega) nj rfl)
    · exact n2
    · exact n3
    · show (if (19 : Nat) = 19 then μ.2.2 19 + 1 else μ.2.2 19) = _
      rw [if_pos rfl, n4]
    · exact n5
    · have lt : k < (μ.1.set k (cmS (μ.1.getD k sl0) en' c)).length := by rw [List.length_set]; exact h1
      have eg : (μ.1.set k (cmS (μ.1.getD k sl0) en' c)).getD k sl0 = cmS (μ.1.getD k sl0) en' c := by
        rw [List.getD_eq_getElem?_getD, List.getElem?_set_self h1]; rfl
      refine Or.inr ⟨k, lt, h2, ?_, ?_⟩
      · show lLg ((μ.1.set k (cmS (μ.1.getD k sl0) en' c)).getD k sl0) = _
        rw [eg]; exact h3
      · show (sLg ((tSv S).getD i sr0)).2.1 = some (lNm ((μ.1.set k (cmS (μ.1.getD k sl0) en' c)).getD k sl0))
        rw [eg]; exact h4
    · rcases List.mem_or_eq_of_mem_set hs with z | z
      · exact sp s z
      · rw [z]; exact spk.cm hE ev
    · rcases List.mem_or_eq_of_mem_set hs with z | z
      · exact Or.inr (lb s z)
      · rw [z]; exact Or.inl h3
end WR
