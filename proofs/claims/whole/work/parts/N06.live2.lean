/-! the two sides: what is LIVE; the class's marks, told by what lies before -/
def crB (ps : List pT) (nms : List Nat) : List pT → List agT → List cT
  | _, [] => []
  | l1, u :: A => (u.1, lvN ps nms l1 u.2.1 0, lvF ps nms l1 u.2.1) :: crB ps nms (l1 ++ u.2.1) A
section LV2
variable {ps qs l l1 : List pT} {p q : pT} {nms : List Nat} {c n a : Int32} {A : List agT} {u : agT} {S : saT}
theorem SJ.toI (h : SJ ps S) : SI ps [] S := ⟨fun c hc => ⟨(h.1 c hc).1, by rw [show ([] : List pT).any (ntQ 1 (nI c) (ackA ps (nI c))) = false from rfl, Bool.or_false]; exact (h.1 c hc).2⟩, h.2⟩
theorem SI.same (h : SI ps l1 S) (hn : ∀ c, ntQ 1 (nI c) (ackA ps (nI c)) p = false) : SI ps (l1 ++ [p]) S := ⟨fun c hc => ⟨(h.1 c hc).1, by rw [any_app, hn, Bool.or_false]; exact (h.1 c hc).2⟩, h.2⟩
theorem liv_s (h : SI ps l1 S) (pk : PK p) : (livA nms S p).1 = liveS ps nms l1 p ∧ SI ps (l1 ++ [p]) (livA nms S p).2 := by
  unfold livA liveS
  by_cases k2 : pKd p = 2
  · obtain ⟨k, hk, ek⟩ := pk.2 (kM_2 k2)
    rw [if_pos k2, if_pos k2, ek, nI_clamp (by omega), h.2 k hk]
    exact ⟨rfl, h.same (fun c => Bool.eq_false_iff.mpr (fun z => by rw [(ntQ_t.mp z).1] at k2; exact absurd k2 (by decide)))⟩
  · rw [if_neg k2, if_neg k2]
    by_cases k3 : pKd p = 3
    · rw [if_pos k3, if_pos k3]
      exact ⟨rfl, h.same (fun c => Bool.eq_false_iff.mpr (fun z => by rw [(ntQ_t.mp z).1] at k3; exact absurd k3 (by decide)))⟩
    · rw [if_neg k3, if_neg k3]
      by_cases k4 : pKd p = 4
      · obtain ⟨c, hc, ec⟩ := pk.1 (kT_4 k4)
        rw [if_pos k4, if_pos k4, ec, nI_clamp (by omega), (h.1 c hc).1]
        exact ⟨rfl, h.same (fun c => Bool.eq_false_iff.mpr (fun z => by rw [(ntQ_t.mp z).1] at k4; exact absurd k4 (by decide)))⟩
      · rw [if_neg k4, if_neg k4]
        by_cases k1 : pKd p = 1
        · obtain ⟨c, hc, ec⟩ := pk.1 (kT_1 k1)
          obtain ⟨h1, h2⟩ := h.1 c hc
          rw [if_neg (show ¬ ¬ pKd p = 1 from fun z => z k1), if_neg (show ¬ ¬ pKd p = 1 from fun z => z k1), ec, nI_clamp (by omega), h1]
          by_cases qa : pAc p = ackA ps (nI c)
          · rw [if_neg (show ¬ ¬ pAc p = ackA ps (nI c) from fun z => z qa), if_neg (show ¬ ¬ pAc p = ackA ps (nI c) from fun z => z qa), qa]
            by_cases qf : S.2.1 c = 0
            · have hf := h2.mp qf
              rw [if_neg (show ¬ ¬ S.2.1 c = 0 from fun z => z qf), if_neg (by rw [hf]; decide)]
              refine ⟨rfl, fun c' hc' => ?_, h.2⟩
              obtain ⟨h3, h4⟩ := h.1 c' hc'
              refine ⟨h3, ?_⟩
              by_cases qc : c' = c
              · subst qc
                show u1 S.2.1 c' 1 c' = 0 ↔ _
                rw [u1_y, any_app, ntQ_t.mpr ⟨k1, ec, qa⟩, Bool.or_true, Bool.or_true]
                exact ⟨fun z => absurd z (by decide), fun z => absurd z (by decide)⟩
              · show u1 S.2.1 c 1 c' = 0 ↔ _
                have : ntQ 1 (nI c') (ackA ps (nI c')) p = false := Bool.eq_false_iff.mpr (fun z => qc (nI_inj (by omega) (by omega) ((ntQ_t.mp z).2.1.symm.trans ec)))
                rw [u1_n qc, any_app, this, Bool.or_false]
                exact h4
            · have hf : (ps.any (ntQ 4 (nI c) (ackA ps (nI c))) || l1.any (ntQ 1 (nI c) (ackA ps (nI c)))) = true := by
                cases e : (ps.any (ntQ 4 (nI c) (ackA ps (nI c))) || l1.any (ntQ 1 (nI c) (ackA ps (nI c)))) with
                | true => rfl
                | false => exact absurd (h2.mpr e) qf
              rw [if_pos qf, if_pos hf]
              refine ⟨rfl, fun c' hc' => ?_, h.2⟩
              obtain ⟨h3, h4⟩ := h.1 c' hc'
              refine ⟨h3, ?_⟩
              by_cases qc : c' = c
              · subst qc
                rw [any_app, ← Bool.or_assoc, hf, Bool.true_or]
                exact ⟨fun z => absurd z qf, fun z => absurd z (by decide)⟩
              · have : ntQ 1 (nI c') (ackA ps (nI c')) p = false := Bool.eq_false_iff.mpr (fun z => qc (nI_inj (by omega) (by omega) ((ntQ_t.mp z).2.1.symm.trans ec)))
                rw [any_app, this, Bool.or_false]
                exact h4
          · rw [if_pos qa, if_pos qa]
            refine ⟨rfl, fun c' hc' => ?_, h.2⟩
            obtain ⟨h3, h4⟩ := h.1 c' hc'
            refine ⟨h3, ?_⟩
            have : ntQ 1 (nI c') (ackA ps (nI c')) p = false := Bool.eq_false_iff.mpr (fun z => by
              obtain ⟨z1, z2, z3⟩ := ntQ_t.mp z
              have ecc : nI c' = nI c := z2.symm.trans ec
              rw [ecc] at z3
              exact qa z3)
            rw [any_app, this, Bool.or_false]
            exact h4
        · rw [if_pos k1, if_pos k1]
          exact ⟨rfl, h.same (fun c => Bool.eq_false_iff.mpr (fun z => k1 (ntQ_t.mp z).1))⟩
theorem lvS_s : ∀ (qs l1 : List pT) (S : saT) (acc : List Int32) (t : Int32), SI ps l1 S → (∀ p ∈ qs, PK p) → ∃ S', qs.foldl (lv1 nms) (acc, t, S) = (acc ++ mrkS ps nms l1 qs, lvN ps nms l1 qs t, S') ∧ SI ps (l1 ++ qs) S' := by
  intro qs
  induction qs with
  | nil => intro l1 S acc t h _; exact ⟨S, by rw [List.foldl_nil]; unfold mrkS lvN; rw [List.append_nil], by rw [List.append_nil]; exact h⟩
  | cons p qs ih =>
    intro l1 S acc t h pk
    obtain ⟨e1, e2⟩ := liv_s (nms := nms) h (pk p List.mem_cons_self)
    rw [List.foldl_cons]
    unfold lv1
    rw [e1]
    obtain ⟨S', s1, s2⟩ := ih (l1 ++ [p]) _ (acc ++ [liveS ps nms l1 p]) (t + (if liveS ps nms l1 p = 0 then 0 else kU (pKd p))) e2 (fun p hp => pk p (List.mem_cons_of_mem _ hp))
    refine ⟨S', ?_, ?_⟩
    · show qs.foldl (lv1 nms) _ = _
      rw [s1, List.append_assoc]; rfl
    · rw [List.append_assoc] at s2; exact s2
theorem mk_s : ∀ (A : List agT) (l1 : List pT) (S : saT) (acc : List (List Int32 × Int32)), SI ps l1 S → (∀ u ∈ A, ∀ p ∈ u.2.1, PK p) → ∃ S', A.foldl (mk1 nms) (acc, S) = (acc ++ mkB ps nms l1 A, S') := by
  intro A
  induction A with
  | nil => intro l1 S acc _ _; exact ⟨S, by rw [List.foldl_nil]; unfold mkB; rw [List.append_nil]⟩
  | cons u A ih =>
    intro l1 S acc h pk
    obtain ⟨S1, s1, s2⟩ := lvS_s (nms := nms) u.2.1 l1 S [] 0 h (pk u List.mem_cons_self)
    have e : lvSA nms S u.2.1 = (mrkS ps nms l1 u.2.1, lvN ps nms l1 u.2.1 0, S1) := s1
    rw [List.foldl_cons]
    have e1 : mk1 nms (acc, S) u = (acc ++ [(mrkS ps nms l1 u.2.1, lvN ps nms l1 u.2.1 0)], S1) := by
      unfold mk1
      dsimp only
      rw [e]
    rw [e1]
    obtain ⟨S', q⟩ := ih (l1 ++ u.2.1) S1 (acc ++ [(mrkS ps nms l1 u.2.1, lvN ps nms l1 u.2.1 0)]) s2 (fun u hu => pk u (List.mem_cons_of_mem _ hu))
    exact ⟨S', by rw [q, List.append_assoc]; rfl⟩
theorem mkA_B (pk : ∀ u ∈ A, ∀ p ∈ u.2.1, PK p) : mkA A = mkB ((A.map (·.2.1)).flatten) (A.map (·.1)) [] A := by
  unfold mkA
  have sj := lrn_all (l := (A.map (·.2.1)).flatten) (fun p hp => by
    obtain ⟨l, h1, h2⟩ := List.mem_flatten.mp hp
    obtain ⟨u, u1, u2⟩ := List.mem_map.mp h1
    subst u2
    exact pk u u1 p h2)
  obtain ⟨S', e⟩ := mk_s (nms := A.map (·.1)) A [] _ [] sj.toI pk
  rw [e]; rfl
theorem lpA_F : ∀ (qs l1 : List pT), lpA (mrkS ps nms l1 qs) qs = lvF ps nms l1 qs := by
  intro qs
  induction qs with
  | nil => intro l1; rfl
  | cons p qs ih =>
    intro l1
    unfold lpA mrkS lvF
    rw [List.length_cons, List.range_succ_eq_map, List.flatMap_cons, List.flatMap_map]
    have := ih (l1 ++ [p])
    unfold lpA at this
    rw [← this]
    rfl
theorem mkB_len : ∀ (A : List agT) (l1 : List pT), (mkB ps nms l1 A).length = A.length := by
  intro A
  induction A with
  | nil => intro l1; rfl
  | cons u A ih => intro l1; show (mkB ps nms _ A).length + 1 = _; rw [ih]; rfl
theorem crA_B (pk : ∀ u ∈ A, ∀ p ∈ u.2.1, PK p) : crA A = crB ((A.map (·.2.1)).flatten) (A.map (·.1)) [] A := by
  unfold crA
  rw [mkA_B pk]
  generalize (A.map (·.2.1)).flatten = ps
  generalize A.map (·.1) = nms
  have : ∀ (A : List agT) (l1 : List pT), List.zipWith (fun a m => (a.1, m.2, lpA m.1 a.2.1)) A (mkB ps nms l1 A) = crB ps nms l1 A := by
    intro A
    induction A with
    | nil => intro l1; rfl
    | cons u A ih =>
      intro l1
      unfold mkB crB
      rw [List.zipWith_cons_cons, ih, lpA_F]
  exact this A []
end LV2
