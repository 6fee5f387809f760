/-! the two sides: what is LIVE; the model's way -/
def livR (st : Nat → Int32) (T : List slT) (g e : Nat) (r : Nat → Int32) : Int32 :=
  if r 0 = 2 then ntL st T (lLg (T.getD g sl0)) (r 1) (r 7) (nI (lNm (T.getD g sl0))) e
  else if r 0 = 3 then (if tFold (verM (r 3)) (thT st T) T (lLg (T.getD g sl0)) 0 = r 6 then 1 else 0)
  else if r 0 = 4 then (if T.any (fun s => decide (lLg s = lLg (T.getD g sl0)) && decide (nI (lNm s) = r 8)) = true then 1 else 0)
  else if r 0 = 5 then (if r 2 < tFold (ackM (r 1)) (thT st T) T (lLg (T.getD g sl0)) 1 then 0 else 1)
  else 0
/-- names that can be told apart -/
def NB (T : List slT) : Prop := ∀ s ∈ T, lNm s ≤ 100000
section LV3
variable {T : List slT} {x c n a : Int32} {A : alT} {st : Nat → Int32} {k e i : Nat} {s : slT} {p q : pT} {E : List enT} {l1 : List pT}
theorem fo_or {α : Type} (g : α → Bool) : ∀ (l : List α) (b : Bool), l.foldl (fun b a => b || g a) b = (b || l.any g) := by
  intro l
  induction l with
  | nil => intro b; simp
  | cons a l ih => intro b; rw [List.foldl_cons, ih, List.any_cons, Bool.or_assoc]
theorem tF_any {φ : Nat → Nat → Nat → (Nat → Int32) → Bool} {th : Nat → Nat} : tFold (fun b k e i r => b || φ k e i r) th T x false = true ↔ ∃ k e i, k < T.length ∧ lLg (T.getD k sl0) = x ∧ e < th k ∧ i < 2 ∧ φ k e i (mE ((lEn (T.getD k sl0)).getD e en0) i) = true := by
  have e1 : ∀ b k, slF (fun b k e i r => b || φ k e i r) th T x b k = (b || (decide (lLg (T.getD k sl0) = x) && (List.range (th k)).any (fun e => φ k e 0 (mE ((lEn (T.getD k sl0)).getD e en0) 0) || φ k e 1 (mE ((lEn (T.getD k sl0)).getD e en0) 1)))) := by
    intro b k
    unfold slF
    by_cases q : lLg (T.getD k sl0) = x
    · rw [if_neg (fun z => z q), decide_eq_true q, Bool.true_and, ← fo_or]
      congr 1
      funext b e
      unfold ent2
      show ((b || _) || _) = _
      rw [Bool.or_assoc]
    · rw [if_pos q, decide_eq_false q, Bool.false_and, Bool.or_false]
  have e2 : tFold (fun b k e i r => b || φ k e i r) th T x false = (false || (List.range T.length).any (fun k => decide (lLg (T.getD k sl0) = x) && (List.range (th k)).any (fun e => φ k e 0 (mE ((lEn (T.getD k sl0)).getD e en0) 0) || φ k e 1 (mE ((lEn (T.getD k sl0)).getD e en0) 1)))) := by
    unfold tFold
    rw [← fo_or]
    congr 1
    funext b k
    exact e1 b k
  rw [e2, Bool.false_or, List.any_eq_true]
  constructor
  · intro ⟨k, hk, h⟩
    rw [Bool.and_eq_true, List.any_eq_true] at h
    obtain ⟨h1, e, he, h2⟩ := h
    rw [Bool.or_eq_true] at h2
    rcases h2 with h2 | h2
    · exact ⟨k, e, 0, List.mem_range.mp hk, of_decide_eq_true h1, List.mem_range.mp he, by decide, h2⟩
    · exact ⟨k, e, 1, List.mem_range.mp hk, of_decide_eq_true h1, List.mem_range.mp he, by decide, h2⟩
  · intro ⟨k, e, i, hk, h1, he, hi, h2⟩
    refine ⟨k, List.mem_range.mpr hk, ?_⟩
    rw [Bool.and_eq_true, List.any_eq_true]
    refine ⟨decide_eq_true h1, e, List.mem_range.mpr he, ?_⟩
    rw [Bool.or_eq_true]
    have : i = 0 ∨ i = 1 := by omega
    rcases this with z | z <;> subst z
    · exact Or.inl h2
    · exact Or.inr h2
theorem at_E (h : e < E.length) : E.getD e en0 = E[e] := by rw [List.getD_eq_getElem?_getD, List.getElem?_eq_getElem h]; rfl
theorem enS_at (h : q ∈ enS E) : ∃ e i, e < E.length ∧ i < 2 ∧ mE (E.getD e en0) i = mPt q := by
  unfold enS at h
  obtain ⟨en, h1, h2⟩ := List.mem_flatMap.mp h
  obtain ⟨e, he, ee⟩ := List.mem_iff_getElem.mp h1
  unfold enP at h2
  rcases List.mem_cons.mp h2 with z | z
  · exact ⟨e, 0, he, by decide, by rw [at_E he, ee, z]; rfl⟩
  · have z := Option.mem_toList.mp z
    exact ⟨e, 1, he, by decide, by rw [at_E he, ee, mE_1, z]; rfl⟩
theorem at_enS {n : Nat} (he : e < E.length) (hn : e < n) (hi : i < 2) (nz : ¬ mE (E.getD e en0) i 0 = 0) : ∃ q, q ∈ enS (E.take n) ∧ mE (E.getD e en0) i = mPt q := by
  rw [at_E he] at nz ⊢
  have hm : E[e] ∈ E.take n := List.mem_take_iff_getElem.mpr ⟨e, by omega, rfl⟩
  have : i = 0 ∨ i = 1 := by omega
  rcases this with z | z <;> subst z
  · exact ⟨E[e].1, List.mem_flatMap.mpr ⟨_, hm, List.mem_cons_self⟩, rfl⟩
  · rw [mE_1] at nz ⊢
    cases e2 : E[e].2 with
    | none => rw [e2] at nz; exact absurd rfl nz
    | some q => exact ⟨q, List.mem_flatMap.mpr ⟨_, hm, List.mem_cons_of_mem _ (by rw [e2]; exact List.mem_cons_self)⟩, rfl⟩
theorem LgR.acT (r : LgR T x A) (ho : HOl T) (hx : x < 16) : tFold (ackM c) (thT st T) T x 1 = ackA (allP A) c := by
  rw [tF_flat (f := ackM c) (f' := fun b r => ackM c b 0 0 0 r) (fun _ _ _ _ _ => rfl) (fun b r q => by unfold ackM; rw [if_pos (by rw [q]; decide)]) (th_le ho), r.fl]
  have : (fun b p => ackM c b 0 0 0 (mPt p)) = ackG c := funext fun b => funext fun p => ackM_G b 0 0 0 p
  rw [this]
  exact ackA_perm (r.all hx)
theorem LgR.veT (r : LgR T x A) (ho : HOl T) (hx : x < 16) : tFold (verM c) (thT st T) T x 0 = verA (allP A) c := by
  rw [r.veG ho]
  exact verA_perm (r.all hx)
theorem LgR.has (r : LgR T x A) : T.any (fun s => decide (lLg s = x) && decide (nI (lNm s) = c)) = (A.1.map (·.1)).any (fun n => decide (c = nI n)) := by
  have e1 : T.any (fun s => decide (lLg s = x) && decide (nI (lNm s) = c)) = ((T.filter (lbX x)).map agS).any (fun u => decide (c = nI u.1)) := by
    rw [List.any_map, List.any_filter]
    congr 1
    funext s
    show _ = (decide (lLg s = x) && decide (c = nI (lNm s)))
    congr 1
    exact decide_eq_decide.mpr eq_comm
  rw [e1, r.1.any_eq, List.any_map]; rfl
/-- a LOG around one of its SEGMENTS -/
def spl (A : alT) (s : slT) (A1 A2 : List agT) : Prop := A.1 = A1 ++ agS s :: A2 ∧ (∀ u ∈ A1, u.1 < lNm s) ∧ ∀ u ∈ A2, lNm s < u.1
theorem LgR.spl (r : LgR T x A) (h : s ∈ T.filter (lbX x)) : ∃ A1 A2, spl A s A1 A2 := by
  obtain ⟨A1, A2, e⟩ := List.append_of_mem (r.mem h)
  have pw := r.2.1
  rw [e] at pw
  obtain ⟨p1, p2, p3⟩ := List.pairwise_append.mp pw
  rw [List.pairwise_cons] at p2
  exact ⟨A1, A2, e, fun u hu => p3 u hu _ List.mem_cons_self, fun u hu => p2.1 u hu⟩
theorem allP_mem : q ∈ allP A ↔ ∃ u ∈ A.1, q ∈ u.2.1 := by
  unfold allP
  rw [List.mem_flatten]
  constructor
  · intro ⟨l, h1, h2⟩
    obtain ⟨u, u1, u2⟩ := List.mem_map.mp h1
    subst u2
    exact ⟨u, u1, h2⟩
  · intro ⟨u, u1, u2⟩
    exact ⟨_, List.mem_map_of_mem u1, u2⟩
theorem ntR_S {A1 A2 : List agT} (r : LgR T x A) (nb : NB T) (hk : k < T.length) (hl : lLg (T.getD k sl0) = x) (sp : spl A (T.getD k sl0) A1 A2) (he : e < (lEn (T.getD k sl0)).length) : ntR st T x c a (nI (lNm (T.getD k sl0))) e = ((allP A).any (ntQ 4 c a) || ((A1.map (·.2.1)).flatten ++ enS ((lEn (T.getD k sl0)).take e)).any (ntQ 1 c a)) := by
  have lk := fl_at hk hl
  rw [Bool.eq_iff_iff]
  have iff1 : ntR st T x c a (nI (lNm (T.getD k sl0))) e = true ↔ _ := tF_any (T := T) (x := x) (th := fun s => (lEn (T.getD s sl0)).length) (φ := fun g e' _ r => decide (r 0 = 5 ∨ r 0 = 2) && decide (r 1 = c) && decide (r 7 = a) && (decide (r 0 = 5) || decide (nI (lNm (T.getD g sl0)) < nI (lNm (T.getD k sl0))) || (decide (nI (lNm (T.getD g sl0)) = nI (lNm (T.getD k sl0))) && decide (e' < e))))
  rw [iff1, Bool.or_eq_true, List.any_eq_true, List.any_eq_true]
  have row : ∀ q : pT, (mPt q 0 = 5 ∨ mPt q 0 = 2) → mPt q 1 = pCl q ∧ mPt q 7 = pAc q := fun q h => by
    refine ⟨?_, rfl⟩
    show (if kT (pKd q) = 0 then 0 else pCl q) = _
    rw [if_neg]
    rcases h with h | h
    · exact kT_4 ((kd_1 (v := 4) (by decide)).mp h)
    · exact kT_1 ((kd_1 (v := 1) (by decide)).mp h)
  constructor
  · intro ⟨k', e', i', h1, h2, h3, h4, h5⟩
    simp only [Bool.and_eq_true, Bool.or_eq_true, decide_eq_true_eq] at h5
    obtain ⟨⟨⟨h5, h6⟩, h7⟩, h8⟩ := h5
    have nz : ¬ mE ((lEn (T.getD k' sl0)).getD e' en0) i' 0 = 0 := fun z => by rw [z] at h5; exact absurd h5 (by decide)
    obtain ⟨q, q1, q2⟩ := at_enS (n := e' + 1) h3 (Nat.lt_succ_self _) h4 nz
    rw [q2] at h5 h6 h7 h8
    obtain ⟨r1, r7⟩ := row q h5
    rw [r1] at h6
    rw [r7] at h7
    have qE : q ∈ enS (lEn (T.getD k' sl0)) := by
      have : enS (lEn (T.getD k' sl0)) = enS ((lEn (T.getD k' sl0)).take (e' + 1)) ++ enS ((lEn (T.getD k' sl0)).drop (e' + 1)) := by rw [← enS_app, List.take_append_drop]
      rw [this]
      exact List.mem_append_left _ q1
    have lk' := fl_at h1 h2
    have uA := r.mem lk'
    by_cases q5 : mPt q 0 = 5
    · left
      exact ⟨q, allP_mem.mpr ⟨_, uA, qE⟩, ntQ_t.mpr ⟨(kd_1 (v := 4) (by decide)).mp q5, h6, h7⟩⟩
    · right
      have k1 : pKd q = 1 := (kd_1 (v := 1) (by decide)).mp (h5.resolve_left q5)
      refine ⟨q, ?_, ntQ_t.mpr ⟨k1, h6, h7⟩⟩
      rcases h8 with (h8 | h8) | h8
      · exact absurd h8 q5
      · have lt : lNm (T.getD k' sl0) < lNm (T.getD k sl0) := by
          have b1 := nb _ (T_at h1)
          have b2 := nb _ (T_at hk)
          rcases Nat.lt_or_ge (lNm (T.getD k' sl0)) (lNm (T.getD k sl0)) with z | z
          · exact z
          · exact absurd (nI_le z (by omega)) (Int32.not_le.mpr h8)
        refine List.mem_append_left _ (List.mem_flatten.mpr ⟨enS (lEn (T.getD k' sl0)), List.mem_map.mpr ⟨agS (T.getD k' sl0), ?_, rfl⟩, qE⟩)
        rw [sp.1] at uA
        rcases List.mem_append.mp uA with z | z
        · exact z
        · rcases List.mem_cons.mp z with z | z
          · have : lNm (T.getD k' sl0) = lNm (T.getD k sl0) := congrArg (·.1) z
            omega
          · have : lNm (T.getD k sl0) < lNm (T.getD k' sl0) := sp.2.2 _ z
            omega
      · have b1 := nb _ (T_at h1)
        have b2 := nb _ (T_at hk)
        have en := nI_inj (by omega) (by omega) h8.1
        have es := r.inj lk' lk en
        refine List.mem_append_right _ ?_
        obtain ⟨q', q3, q4⟩ := at_enS (n := e) h3 h8.2 h4 nz
        rw [es] at q3 qE q1
        have : enS ((lEn (T.getD k sl0)).take e) = enS ((lEn (T.getD k sl0)).take (e' + 1)) ++ enS (((lEn (T.getD k sl0)).take e).drop (e' + 1)) := by
          rw [← enS_app]
          congr 1
          have z : (lEn (T.getD k sl0)).take (e' + 1) = ((lEn (T.getD k sl0)).take e).take (e' + 1) := by rw [List.take_take, Nat.min_eq_left (by omega)]
          rw [z, List.take_append_drop]
        rw [this]
        exact List.mem_append_left _ q1
  · intro h
    rcases h with ⟨q, hq, h⟩ | ⟨q, hq, h⟩
    · obtain ⟨q1, q2, q3⟩ := ntQ_t.mp h
      obtain ⟨u, u1, u2⟩ := allP_mem.mp hq
      obtain ⟨s', s1, s2⟩ := r.mem' u1
      subst s2
      obtain ⟨k', k1, k2, k3⟩ := at_fl s1
      subst k2
      obtain ⟨e', i', e1, e2, e3⟩ := enS_at u2
      have m5 : mPt q 0 = 5 := (kd_1 (v := 4) (by decide)).mpr q1
      obtain ⟨r1, r7⟩ := row q (Or.inl m5)
      refine ⟨k', e', i', k1, k3, e1, e2, ?_⟩
      rw [e3]
      simp only [Bool.and_eq_true, Bool.or_eq_true, decide_eq_true_eq]
      exact ⟨⟨⟨Or.inl m5, r1.trans q2⟩, r7.trans q3⟩, Or.inl (Or.inl m5)⟩
    · obtain ⟨q1, q2, q3⟩ := ntQ_t.mp h
      have m2 : mPt q 0 = 2 := (kd_1 (v := 1) (by decide)).mpr q1
      obtain ⟨r1, r7⟩ := row q (Or.inr m2)
      rcases List.mem_append.mp hq with z | z
      · obtain ⟨l, l1, l2⟩ := List.mem_flatten.mp z
        obtain ⟨u, u1, u2⟩ := List.mem_map.mp l1
        subst u2
        have uA : u ∈ A.1 := by rw [sp.1]; exact List.mem_append_left _ u1
        obtain ⟨s', s1, s2⟩ := r.mem' uA
        subst s2
        have lt : lNm s' < lNm (T.getD k sl0) := sp.2.1 _ u1
        obtain ⟨k', k1, k2, k3⟩ := at_fl s1
        subst k2
        obtain ⟨e', i', e1, e2, e3⟩ := enS_at l2
        refine ⟨k', e', i', k1, k3, e1, e2, ?_⟩
        have b2 := nb _ (T_at hk)
        rw [e3]
        simp only [Bool.and_eq_true, Bool.or_eq_true, decide_eq_true_eq]
        exact ⟨⟨⟨Or.inr m2, r1.trans q2⟩, r7.trans q3⟩, Or.inl (Or.inr (nI_lt lt (by omega)))⟩
      · obtain ⟨e', i', e1, e2, e3⟩ := enS_at z
        rw [List.length_take] at e1
        have eq : ∀ E : List enT, (E.take e).getD e' en0 = E.getD e' en0 := fun E => by
          rw [List.getD_eq_getElem?_getD, List.getD_eq_getElem?_getD, List.getElem?_take_of_lt (by omega)]
        rw [eq] at e3
        refine ⟨k, e', i', hk, hl, by omega, e2, ?_⟩
        rw [e3]
        simp only [Bool.and_eq_true, Bool.or_eq_true, decide_eq_true_eq]
        exact ⟨⟨⟨Or.inr m2, r1.trans q2⟩, r7.trans q3⟩, Or.inr ⟨trivial, by omega⟩⟩
end LV3
