/-! the two sides: LIVE PARTS and UNITS of a SEGMENT -/
def enV (e : enT) : Prop := ∀ q, e.2 = some q → ¬ pKd q = 1
def EV (E : List enT) : Prop := (∀ e ∈ E, enV e) ∧ ∀ p ∈ enS E, ¬ pKd p = -1
section LV4
variable {T : List slT} {x c n a : Int32} {A : alT} {st : Nat → Int32} {k e i : Nat} {s : slT} {p q : pT} {E : List enT} {l1 l2 ps qs : List pT} {nms : List Nat} {A1 A2 : List agT}
theorem liveS_l (h : ¬ pKd p = 1) : liveS ps nms l1 p = liveS ps nms l2 p := by
  unfold liveS
  rw [if_pos h, if_pos h]
theorem livR_S (r : LgR T x A) (ho : HOl T) (hx : x < 16) (hl : lLg (T.getD k sl0) = x) (hN : pKd p = 1 → ntR st T x (pCl p) (pAc p) (nI (lNm (T.getD k sl0))) e = ((allP A).any (ntQ 4 (pCl p) (pAc p)) || l1.any (ntQ 1 (pCl p) (pAc p)))) : livR st T k e (mPt p) = liveS (allP A) (A.1.map (·.1)) l1 p := by
  unfold livR liveS
  rw [hl]
  by_cases k1 : pKd p = 1
  · have m0 : mPt p 0 = 2 := (kd_1 (v := 1) (by decide)).mpr k1
    have m1 : mPt p 1 = pCl p := if_neg (kT_1 k1)
    have m7 : mPt p 7 = pAc p := rfl
    have n2 : ¬ pKd p = 2 := by rw [k1]; decide
    have n3 : ¬ pKd p = 3 := by rw [k1]; decide
    have n4 : ¬ pKd p = 4 := by rw [k1]; decide
    rw [if_pos m0, if_neg n2, if_neg n3, if_neg n4, if_neg (show ¬ ¬ pKd p = 1 from fun z => z k1), m1, m7]
    unfold ntL
    rw [r.acT ho hx, hN k1]
    by_cases qa : pAc p = ackA (allP A) (pCl p)
    · rw [if_neg (show ¬ ¬ ackA (allP A) (pCl p) = pAc p from fun z => z qa.symm), if_neg (show ¬ ¬ pAc p = ackA (allP A) (pCl p) from fun z => z qa)]
    · rw [if_pos (show ¬ ackA (allP A) (pCl p) = pAc p from fun z => qa z.symm), if_pos qa]
  · have n0 : ¬ mPt p 0 = 2 := fun z => k1 ((kd_1 (v := 1) (by decide)).mp z)
    rw [if_neg n0]
    by_cases k2 : pKd p = 2
    · have m0 : mPt p 0 = 3 := (kd_1 (v := 2) (by decide)).mpr k2
      have m3 : mPt p 3 = pKy p := if_neg (by rw [k2]; decide)
      have m6 : mPt p 6 = pVe p := rfl
      rw [if_pos m0, if_pos k2, m3, m6, r.veT ho hx]
      by_cases qa : pVe p = verA (allP A) (pKy p)
      · rw [if_pos qa.symm, if_pos qa]
      · rw [if_neg (fun z => qa z.symm), if_neg qa]
    · have n1 : ¬ mPt p 0 = 3 := fun z => k2 ((kd_1 (v := 2) (by decide)).mp z)
      rw [if_neg n1, if_neg k2]
      by_cases k3 : pKd p = 3
      · have m0 : mPt p 0 = 4 := (kd_1 (v := 3) (by decide)).mpr k3
        have m8 : mPt p 8 = p.2 := if_pos k3
        rw [if_pos m0, if_pos k3, m8, r.has]
      · have n2 : ¬ mPt p 0 = 4 := fun z => k3 ((kd_1 (v := 3) (by decide)).mp z)
        rw [if_neg n2, if_neg k3]
        by_cases k4 : pKd p = 4
        · have m0 : mPt p 0 = 5 := (kd_1 (v := 4) (by decide)).mpr k4
          have m1 : mPt p 1 = pCl p := if_neg (kT_4 k4)
          have m2 : mPt p 2 = pNu p := if_pos k4
          rw [if_pos m0, if_pos k4, m1, m2, r.acT ho hx]
        · have n3 : ¬ mPt p 0 = 5 := fun z => k4 ((kd_1 (v := 4) (by decide)).mp z)
          rw [if_neg n3, if_neg k4, if_pos k1]
theorem livT_R : livT st T k e i = livR st T k e (mE ((lEn (T.getD k sl0)).getD e en0) i) := rfl
theorem livT_1n (h : ((lEn (T.getD k sl0)).getD e en0).2 = none) : livT st T k e 1 = 0 := by
  rw [livT_R, mE_1, h]
  rfl
theorem lvF_app : ∀ (a b l1 : List pT), lvF ps nms l1 (a ++ b) = lvF ps nms l1 a ++ lvF ps nms (l1 ++ a) b := by
  intro a
  induction a with
  | nil => intro b l1; rw [List.append_nil]; rfl
  | cons p a ih =>
    intro b l1
    show _ ++ lvF ps nms (l1 ++ [p]) (a ++ b) = (_ ++ lvF ps nms (l1 ++ [p]) a) ++ lvF ps nms (l1 ++ p :: a) b
    rw [ih, List.append_assoc, List.append_assoc]; rfl
theorem lvN_app : ∀ (a b l1 : List pT) (t : Int32), lvN ps nms l1 (a ++ b) t = lvN ps nms (l1 ++ a) b (lvN ps nms l1 a t) := by
  intro a
  induction a with
  | nil => intro b l1 t; rw [List.append_nil]; rfl
  | cons p a ih =>
    intro b l1 t
    show lvN ps nms (l1 ++ [p]) (a ++ b) _ = lvN ps nms (l1 ++ p :: a) b (lvN ps nms (l1 ++ [p]) a _)
    rw [ih, List.append_assoc]; rfl
theorem mU_K (h : ¬ pKd p = -1) : mU (mPt p 0) = kU (pKd p) := by
  unfold mU kU
  have n0 : ¬ mPt p 0 = 0 := fun z => h ((kd_1 (v := -1) (by decide)).mp z)
  rw [if_neg n0]
  by_cases k2 : pKd p = 2
  · have m3 : mPt p 0 = 3 := (kd_1 (v := 2) (by decide)).mpr k2
    rw [if_pos m3, if_pos k2]
  · have m3 : ¬ mPt p 0 = 3 := fun z => k2 ((kd_1 (v := 2) (by decide)).mp z)
    rw [if_neg m3, if_neg k2]
theorem us_S : ∀ (E : List enT) (t : Int32), (∀ p ∈ enS E, ¬ pKd p = -1) → E.foldl (fun t e => t + unT e) t = (enS E).foldl (fun t p => t + kU (pKd p)) t := by
  intro E
  induction E with
  | nil => intro t _; rfl
  | cons e E ih =>
    intro t h
    rw [List.foldl_cons, enS_cons, List.foldl_append, ih _ (fun p hp => h p (by rw [enS_cons]; exact List.mem_append_right _ hp))]
    congr 1
    unfold unT enP
    have h1 := mU_K (h e.1 (by rw [enS_cons]; exact List.mem_append_left _ List.mem_cons_self))
    rw [h1]
    cases e2 : e.2 with
    | none => show t + (kU (pKd e.1) + 0) = t + kU (pKd e.1); rw [Int32.add_zero]
    | some q =>
      have h2 := mU_K (h q (by rw [enS_cons]; exact List.mem_append_left _ (List.mem_cons_of_mem _ (by rw [e2]; exact List.mem_cons_self))))
      show t + (kU (pKd e.1) + mU (mPt q 0)) = t + kU (pKd e.1) + kU (pKd q)
      rw [h2, Int32.add_assoc]
theorem usT_S (ev : EV E) : usT E = unsA (enS E) := us_S E 0 ev.2
theorem li_S (r : LgR T x A) (ho : HOl T) (nb : NB T) (hx : x < 16) (hk : k < T.length) (hl : lLg (T.getD k sl0) = x) (sp : spl A (T.getD k sl0) A1 A2) (ev : EV (lEn (T.getD k sl0))) : ∀ n, n ≤ (lEn (T.getD k sl0)).length → (List.range n).flatMap (liE st T k) = lvF (allP A) (A.1.map (·.1)) (A1.map (·.2.1)).flatten (enS ((lEn (T.getD k sl0)).take n)) ∧ (List.range n).foldl (fun t e => t + lvT1 st T k e 0 + lvT1 st T k e 1) 0 = lvN (allP A) (A.1.map (·.1)) (A1.map (·.2.1)).flatten (enS ((lEn (T.getD k sl0)).take n)) 0 := by
  intro n
  induction n with
  | zero => intro _; rw [List.take_zero]; exact ⟨rfl, rfl⟩
  | succ n ih =>
    intro hn
    obtain ⟨i1, i2⟩ := ih (by omega)
    have hm : (lEn (T.getD k sl0))[n] ∈ lEn (T.getD k sl0) := List.getElem_mem hn
    have pm : ∀ p ∈ enP (lEn (T.getD k sl0))[n], ¬ pKd p = -1 := fun p hp => ev.2 p (List.mem_flatMap.mpr ⟨_, hm, hp⟩)
    have e1 : enS [(lEn (T.getD k sl0))[n]] = enP (lEn (T.getD k sl0))[n] := by
      show enP _ ++ [] = _
      rw [List.append_nil]
    rw [List.range_succ, List.flatMap_append, List.foldl_append, i1, i2, List.take_succ_eq_append_getElem hn, enS_app, e1, lvF_app, lvN_app]
    generalize lvN (allP A) (A.1.map (·.1)) (A1.map (·.2.1)).flatten (enS ((lEn (T.getD k sl0)).take n)) 0 = t
    have g0 : (lEn (T.getD k sl0)).getD n en0 = (lEn (T.getD k sl0))[n] := at_E hn
    have l0 : livT st T k n 0 = liveS (allP A) (A.1.map (·.1)) ((A1.map (·.2.1)).flatten ++ enS ((lEn (T.getD k sl0)).take n)) (lEn (T.getD k sl0))[n].1 := by
      rw [livT_R, mE_0, g0]
      exact livR_S r ho hx hl (fun _ => ntR_S r nb hk hl sp hn)
    have envn := ev.1 _ hm
    have lt1 : ∀ i, lvT1 st T k n i = if livT st T k n i = 0 then 0 else mU (mE (lEn (T.getD k sl0))[n] i 0) := fun i => by unfold lvT1; rw [g0]
    have ll1 : ∀ i, li1 st T k n i = if livT st T k n i = 0 then [] else if i = 0 then [(lEn (T.getD k sl0))[n].1] else (lEn (T.getD k sl0))[n].2.toList := fun i => by unfold li1; rw [g0]
    show lvF _ _ _ _ ++ (liE st T k n ++ []) = _ ∧ t + lvT1 st T k n 0 + lvT1 st T k n 1 = _
    rw [List.append_nil]
    unfold liE
    have n1 := fun h : (lEn (T.getD k sl0))[n].2 = none => livT_1n (st := st) (T := T) (k := k) (e := n) (by rw [g0]; exact h)
    have s1 := fun q (h : (lEn (T.getD k sl0))[n].2 = some q) => (show livT st T k n 1 = liveS (allP A) (A.1.map (·.1)) ((A1.map (·.2.1)).flatten ++ enS ((lEn (T.getD k sl0)).take n) ++ [(lEn (T.getD k sl0))[n].1]) q by
      rw [livT_R, mE_1, g0, h, mPo_s]
      exact livR_S r ho hx hl (fun z => absurd z (envn q h)))
    generalize (lEn (T.getD k sl0))[n] = en at *
    generalize (A1.map (·.2.1)).flatten ++ enS ((lEn (T.getD k sl0)).take n) = l1 at *
    generalize allP A = ps at *
    generalize A.1.map (·.1) = nms at *
    unfold enP at pm ⊢
    have u0 := mU_K (pm en.1 List.mem_cons_self)
    rw [ll1, ll1, lt1, lt1, l0]
    cases e2 : en.2 with
    | none =>
      rw [n1 e2]
      refine ⟨?_, ?_⟩
      · show _ = _ ++ ((if liveS ps nms l1 en.1 = 0 then [] else [en.1]) ++ [])
        rw [if_pos rfl, if_pos rfl]
      · show _ = t + (if liveS ps nms l1 en.1 = 0 then 0 else kU (pKd en.1))
        rw [if_pos rfl, mE_0, u0, Int32.add_zero]
    | some q =>
      have u1 := mU_K (pm q (List.mem_cons_of_mem _ (by rw [e2]; exact List.mem_cons_self)))
      rw [s1 q e2]
      refine ⟨?_, ?_⟩
      · show _ = _ ++ ((if liveS ps nms l1 en.1 = 0 then [] else [en.1]) ++ ((if liveS ps nms (l1 ++ [en.1]) q = 0 then [] else [q]) ++ []))
        rw [if_pos rfl, List.append_nil, if_neg (show ¬ (1 : Nat) = 0 by decide)]; rfl
      · show _ = t + (if liveS ps nms l1 en.1 = 0 then 0 else kU (pKd en.1)) + (if liveS ps nms (l1 ++ [en.1]) q = 0 then 0 else kU (pKd q))
        rw [mE_0, mE_1, e2, mPo_s, u0, u1]
theorem cM_S (r : LgR T x A) (ho : HOl T) (nb : NB T) (hx : x < 16) (hk : k < T.length) (hl : lLg (T.getD k sl0) = x) (sp : spl A (T.getD k sl0) A1 A2) (ev : EV (lEn (T.getD k sl0))) : cM st T k = (lNm (T.getD k sl0), lvN (allP A) (A.1.map (·.1)) (A1.map (·.2.1)).flatten (agS (T.getD k sl0)).2.1 0, lvF (allP A) (A.1.map (·.1)) (A1.map (·.2.1)).flatten (agS (T.getD k sl0)).2.1) := by
  obtain ⟨e1, e2⟩ := li_S (st := st) r ho nb hx hk hl sp ev _ (Nat.le_refl _)
  rw [List.take_length] at e1 e2
  unfold cM liP lvuT
  rw [e1, e2]; rfl
end LV4
