/-! the model: walks through the PARTS of a LOG -/
def mE (en : enT) (i f : Nat) : Int32 := if i = 0 then mPt en.1 f else mPo en.2 f
def ent2 {σ : Type} (f : σ → Nat → Nat → Nat → (Nat → Int32) → σ) (g : Nat) (b : σ) (e : Nat) (en : enT) : σ := f (f b g e 0 (mE en 0)) g e 1 (mE en 1)
def slF {σ : Type} (f : σ → Nat → Nat → Nat → (Nat → Int32) → σ) (th : Nat → Nat) (T : List slT) (x : Int32) (b : σ) (g : Nat) : σ := if ¬ lLg (T.getD g sl0) = x then b else (List.range (th g)).foldl (fun b e => ent2 f g b e ((lEn (T.getD g sl0)).getD e en0)) b
def tFold {σ : Type} (f : σ → Nat → Nat → Nat → (Nat → Int32) → σ) (th : Nat → Nat) (T : List slT) (x : Int32) (b : σ) : σ := (List.range T.length).foldl (slF f th T x) b
theorem trip {σ : Type} (f : σ → Nat → Nat → Nat → (Nat → Int32) → σ) (th : Nat → Nat) (T : List slT) (x : Int32) (b0 : σ) (E1 : Nat → σ → Prop) (E2 : Nat → Nat → σ → Prop) (E3 : Nat → Nat → Nat → σ → Prop)
    (h0 : ∀ g b, g < T.length → ¬ lLg (T.getD g sl0) = x → E1 (g + 1) b → E1 g b)
    (h1 : ∀ g b, g < T.length → lLg (T.getD g sl0) = x → E2 g 0 b → E1 g b)
    (h2 : ∀ g e b, g < T.length → lLg (T.getD g sl0) = x → e < th g → E3 g e 0 b → E2 g e b)
    (h3 : ∀ g b, g < T.length → lLg (T.getD g sl0) = x → E1 (g + 1) b → E2 g (th g) b)
    (h4 : ∀ g e i b, g < T.length → lLg (T.getD g sl0) = x → e < th g → i < 2 → E3 g e (i + 1) (f b g e i (mE ((lEn (T.getD g sl0)).getD e en0) i)) → E3 g e i b)
    (h5 : ∀ g e b, g < T.length → lLg (T.getD g sl0) = x → e < th g → E2 g (e + 1) b → E3 g e 2 b)
    (he : E1 T.length (tFold f th T x b0)) : E1 0 b0 := by
  refine fold_loop (List.range T.length) (slF f th T x) E1 ?_ b0 (by rw [List.length_range]; exact he)
  intro g b hg kn
  rw [List.getElem_range] at kn
  rw [List.length_range] at hg
  by_cases q : lLg (T.getD g sl0) = x
  · unfold slF at kn
    rw [if_neg (not_not_intro q)] at kn
    refine h1 g b hg q ?_
    refine fold_loop (List.range (th g)) (fun b e => ent2 f g b e ((lEn (T.getD g sl0)).getD e en0)) (fun e b => E2 g e b) ?_ b (by rw [List.length_range]; exact h3 g _ hg q kn)
    intro e b he kn2
    rw [List.getElem_range] at kn2
    rw [List.length_range] at he
    exact h2 g e b hg q he (h4 g e 0 b hg q he (by omega) (h4 g e 1 _ hg q he (by omega) (h5 g e _ hg q he kn2)))
  · unfold slF at kn
    rw [if_pos q] at kn
    exact h0 g b hg q kn
def ackM (c : Int32) (b : Int32) (_ _ _ : Nat) (r : Nat → Int32) : Int32 := if ¬ (r 0 = 2 ∨ r 0 = 5) then b else if ¬ r 1 = c then b else if r 7 ≤ b then b else r 7
def verM (k : Int32) (b : Int32) (_ _ _ : Nat) (r : Nat → Int32) : Int32 := if ¬ (r 0 = 3 ∨ r 0 = 4) then b else if ¬ r 3 = k then b else if r 6 ≤ b then b else r 6
def greM (b : Int32) (_ _ _ : Nat) (r : Nat → Int32) : Int32 := if r 0 = 0 then b else if r 6 ≤ b then b else r 6
def objM (k v : Int32) (b : Option (Nat × Nat × Nat)) (g e i : Nat) (r : Nat → Int32) : Option (Nat × Nat × Nat) := match b with
  | some _ => b
  | none => if ¬ r 0 = 3 then none else if ¬ r 3 = k then none else if ¬ r 6 = v then none else some (g, e, i)
def resM (c n : Int32) (b : Option (Nat × Nat × Nat)) (g e i : Nat) (r : Nat → Int32) : Option (Nat × Nat × Nat) := match b with
  | some _ => b
  | none => if ¬ r 0 = 5 then none else if ¬ r 1 = c then none else if ¬ r 2 = n then none else some (g, e, i)
/-- true: something speaks against the NOTE -/
def notM (T : List slT) (c a nm : Int32) (en : Nat) (b : Bool) (g e _ : Nat) (r : Nat → Int32) : Bool := b || (decide (r 0 = 5 ∨ r 0 = 2) && decide (r 1 = c) && decide (r 7 = a) && (decide (r 0 = 5) || decide (nI (lNm (T.getD g sl0)) < nm) || (decide (nI (lNm (T.getD g sl0)) = nm) && decide (e < en))))
def oPx (b : Option (Nat × Nat × Nat)) : Int32 := match b with
  | none => -1
  | some p => nI (pIx p.1 p.2.1 p.2.2 0)
section MT
variable {g : gcT} {P : pmT} {h h' h1 : hpT} {y ad : Nat → Nat} {T : List slT} {i j k n N e f : Nat} {x1 x2 x3 x4 : Int32}
theorem TB.cell (tb : TB h y ad T) (hk : k < T.length) (he : e < (lEn (T.getD k sl0)).length) (hi : i < 2) (hf : f < 9) : hA h (ad 28) (pIx k e i f) = mE ((lEn (T.getD k sl0)).getD e en0) i f := by
  obtain ⟨-, ⟨-, -, ke⟩, -⟩ := tb.s hk
  unfold mE
  rcases Nat.lt_or_ge i 1 with q | q
  · have : i = 0 := by omega
    subst this
    rw [if_pos rfl]; exact (ke e he f hf).1
  · have : i = 1 := by omega
    subst this
    rw [if_neg (by decide)]; exact (ke e he f hf).2
theorem TB.th (tb : TB h y ad T) (st : Nat → Int32) (hk : k < T.length) : thT st T k ≤ (lEn (T.getD k sl0)).length ∧ (lEn (T.getD k sl0)).length ≤ 16 := by
  obtain ⟨-, ⟨-, l16, -⟩, -, -, kh⟩ := tb.s hk
  refine ⟨?_, l16⟩
  unfold thT
  split
  · exact Nat.le_refl _
  · split
    · exact Nat.le_refl _
    · have : ∀ (l : List (Nat × Nat)) (b : Nat), (∀ x ∈ l, x.2 ≤ (lEn (T.getD k sl0)).length) → b ≤ (lEn (T.getD k sl0)).length → l.foldl (mstU st) b ≤ (lEn (T.getD k sl0)).length := by
        intro l
        induction l with
        | nil => intro b _ hb; exact hb
        | cons a l ih =>
          intro b hl hb
          refine ih _ (fun x hx => hl x (List.mem_cons_of_mem _ hx)) ?_
          unfold mstU
          split
          · exact hl a List.mem_cons_self
          · exact hb
      refine this _ 0 (fun x hx => ?_) (Nat.zero_le _)
      obtain ⟨j, hj, ej⟩ := List.getElem_of_mem hx
      have := (kh j hj).2.2.2
      rw [gD_lt hj, ej] at this
      exact this
/-- what a walk needs of a PART -/
theorem pcell (m : HM h y ad) (tb : TB h y ad T) (hk : k < T.length) (he : e < (lEn (T.getD k sl0)).length) (hi : i < 2) : ∀ f : Nat, f < 9 → vinD (nI (pIx k e i 0) + nI f) (hN h (ad 28)) ∧ hA h (ad 28) (nI (pIx k e i 0) + nI f).toNatClampNeg = mE ((lEn (T.getD k sl0)).getD e en0) i f := by
  intro f hf
  have l6 := tb.2.1
  have l16 := (tb.th (fun _ => 0) hk).2
  have ef : nI (pIx k e i 0) + nI f = nI (pIx k e i f) := by rw [nI_add]; rfl
  have hlt := pIx_lt (g := k) (e := e) (i := i) (f := f) (by omega) (by omega) hi hf
  rw [ef]
  exact ⟨by rw [m.n28]; exact vin_nI hlt (by decide), by rw [nI_clamp (by omega)]; exact tb.cell hk he hi hf⟩
theorem pcell0 (m : HM h y ad) (tb : TB h y ad T) (hk : k < T.length) (he : e < (lEn (T.getD k sl0)).length) (hi : i < 2) : vinD (nI (pIx k e i 0)) (hN h (ad 28)) ∧ hA h (ad 28) (nI (pIx k e i 0)).toNatClampNeg = mE ((lEn (T.getD k sl0)).getD e en0) i 0 := by
  have := pcell m tb hk he hi 0 (by omega)
  rw [nI_0, Int32.add_zero] at this
  exact this
theorem m_ackedIn (m : HM h y ad) (tb : TB h y ad T) : EvI g P 122 [va_rf (some (y 12)), .int x1, .int x2] h (fun h' r => h' = h ∧ r = tFold (ackM x2) (thT (hA h (ad 5)) T) T x1 1) := by
  have l6 := tb.2.1
  refine e_122 (s_122_0 ?_)
  have lp := trip (ackM x2) (thT (hA h (ad 5)) T) T x1 1
    (fun s b => ∀ o5 o6 o7 o8 o9 : Option Value, Ev g P 122 5 [some (va_rf (some (y 12))), some (.int x1), some (.int x2), some (.int b), some (.int (nI s)), o5, o6, o7, o8, o9] [] h (fun h' r => ∃ x, r = some (.int x) ∧ h' = h ∧ x = tFold (ackM x2) (thT (hA h (ad 5)) T) T x1 1))
    (fun s e b => ∀ o7 o8 o9 : Option Value, Ev g P 122 39 [some (va_rf (some (y 12))), some (.int x1), some (.int x2), some (.int b), some (.int (nI s)), some (.int (nI (thT (hA h (ad 5)) T s))), some (.int (nI e)), o7, o8, o9] [] h (fun h' r => ∃ x, r = some (.int x) ∧ h' = h ∧ x = tFold (ackM x2) (thT (hA h (ad 5)) T) T x1 1))
    (fun s e i b => ∀ o8 o9 : Option Value, Ev g P 122 49 [some (va_rf (some (y 12))), some (.int x1), some (.int x2), some (.int b), some (.int (nI s)), some (.int (nI (thT (hA h (ad 5)) T s))), some (.int (nI e)), some (.int (nI i)), o8, o9] [] h (fun h' r => ∃ x, r = some (.int x) ∧ h' = h ∧ x = tFold (ackM x2) (thT (hA h (ad 5)) T) T x1 1))
    ?_ ?_ ?_ ?_ ?_ ?_ ?_
  · rw [nI_0] at lp; exact lp none none none none none
  · intro s b hs q kn o5 o6 o7 o8 o9
    have ei : (nI s).toNatClampNeg = s := nI_clamp (by omega)
    have e24 := (tb.s hs).1.1
    refine s_122_5 (k3 := m.1) (kt := fun z => absurd z (by rw [tb.1]; exact nI_ge hs (by omega))) (kf := fun _ => ?_)
    refine s_122_14 (k3 := m.1) (e5 := m.r24) (k6 := m.k24) (i7 := by rw [m.n24]; exact vin_nI (by omega) (by decide)) (kt := fun z => absurd (by rw [ei, e24] at z; exact z) q) (kf := fun _ => s_122_25 (s_122_138 ?_))
    rw [nI_1]; exact kn _ _ _ _ _
  · intro s b hs q kn o5 o6 o7 o8 o9
    have ei : (nI s).toNatClampNeg = s := nI_clamp (by omega)
    have e24 := (tb.s hs).1.1
    refine s_122_5 (k3 := m.1) (kt := fun z => absurd z (by rw [tb.1]; exact nI_ge hs (by omega))) (kf := fun _ => ?_)
    refine s_122_14 (k3 := m.1) (e5 := m.r24) (k6 := m.k24) (i7 := by rw [m.n24]; exact vin_nI (by omega) (by decide)) (kt := fun _ => ?_) (kf := fun z => absurd (by rw [ei, e24]; exact q) z)
    refine s_122_28 (k3 := m.1) (hc := m_there m tb hs) (kk := fun h2 x ⟨e1, e2⟩ => s_122_34 ?_)
    subst e1; subst e2
    rw [nI_0] at kn; exact kn _ _ _
  · intro s e b hs q he kn o7 o8 o9
    have := tb.th (hA h (ad 5)) hs
    refine s_122_39 (kt := fun z => absurd z (nI_ge he (by omega))) (kf := fun _ => s_122_46 ?_)
    rw [nI_0] at kn; exact kn _ _
  · intro s b hs q kn o7 o8 o9
    have := tb.th (hA h (ad 5)) hs
    refine s_122_39 (kt := fun _ => s_122_138 ?_) (kf := fun z => absurd (nI_le (Nat.le_refl _) (by omega)) z)
    rw [nI_1]; exact kn _ _ _ _ _
  · intro s e i b hs q he hi kn o8 o9
    have hth := tb.th (hA h (ad 5)) hs
    have hel : e < (lEn (T.getD s sl0)).length := by omega
    obtain ⟨v0, c0⟩ := pcell0 m tb hs hel hi
    obtain ⟨v1, c1⟩ := pcell m tb hs hel hi 1 (by omega)
    obtain ⟨v7, c7⟩ := pcell m tb hs hel hi 7 (by omega)
    refine s_122_49 (kt := fun z => absurd z (nI_ge (b := 2) hi (by decide))) (kf := fun _ => ?_)
    have hat := m_atM (g := g) (P := P) (h := h) (k := s) (e := e) (i := i) (f := 0)
    rw [nI_0] at hat
    refine s_122_55 (hc := hat) (kk := fun h2 x ⟨e1, e2⟩ => ?_)
    subst e1; subst e2
    generalize hrow : mE ((lEn (T.getD s sl0)).getD e en0) i = row at kn c0 c1 c7
    have nx : ∀ b' x9, b' = ackM x2 b s e i row → Ev g P 122 126 [some (va_rf (some (y 12))), some (.int x1), some (.int x2), some (.int b'), some (.int (nI s)), some (.int (nI (thT (hA h2 (ad 5)) T s))), some (.int (nI e)), some (.int (nI i)), some (.int (nI (pIx s e i 0))), some (.int x9)] [] h2 (fun h' r => ∃ x, r = some (.int x) ∧ h' = h2 ∧ x = tFold (ackM x2) (thT (hA h2 (ad 5)) T) T x1 1) := by
      intro b' x9 eb
      refine s_122_126 ?_
      rw [nI_1, eb]; exact kn _ _
    have p88 : row 0 = 2 ∨ row 0 = 5 → ∀ x9, Ev g P 122 88 [some (va_rf (some (y 12))), some (.int x1), some (.int x2), some (.int b), some (.int (nI s)), some (.int (nI (thT (hA h2 (ad 5)) T s))), some (.int (nI e)), some (.int (nI i)), some (.int (nI (pIx s e i 0))), some (.int x9)] [] h2 (fun h' r => ∃ x, r = some (.int x) ∧ h' = h2 ∧ x = tFold (ackM x2) (thT (hA h2 (ad 5)) T) T x1 1) := by
      intro q0 x9
      refine s_122_88 (k3 := m.1) (e5 := m.r28) (k6 := m.k28) (i7 := v1) (kt := fun z => nx b _ ?_) (kf := fun z => ?_)
      · have z : ¬ row 1 = x2 := by rw [← c1]; exact z
        unfold ackM; rw [if_neg (not_not_intro q0), if_pos z]
      · have z : row 1 = x2 := by rw [← c1]; exact z
        refine s_122_101 (k3 := m.1) (e5 := m.r28) (k6 := m.k28) (i7 := v7) (kt := fun z1 => nx b _ ?_) (kf := fun z1 => s_122_115 (k3 := m.1) (e5 := m.r28) (k6 := m.k28) (i7 := v7) (kk := nx _ _ ?_))
        · have z1 : row 7 ≤ b := by rw [← c7]; exact z1
          unfold ackM; rw [if_neg (not_not_intro q0), if_neg (not_not_intro z), if_pos z1]
        · have z1 : ¬ row 7 ≤ b := by rw [← c7]; exact z1
          unfold ackM; rw [if_neg (not_not_intro q0), if_neg (not_not_intro z), if_neg z1]
          exact c7
    refine s_122_65 (k3 := m.1) (e5 := m.r28) (k6 := m.k28) (i7 := v0) (kt := fun z => p88 (Or.inl (by rw [← c0]; exact z)) _) (kf := fun z => s_122_82 (kt := fun z1 => nx b _ ?_) (kf := fun z1 => p88 (Or.inr (by rw [← c0]; exact z1)) _))
    unfold ackM
    rw [if_pos]
    rintro (q' | q')
    · exact z (by rw [c0]; exact q')
    · exact z1 (by rw [c0]; exact q')
  · intro s e b hs q he kn o8 o9
    refine s_122_49 (kt := fun _ => s_122_132 ?_) (kf := fun z => absurd (by decide) z)
    rw [nI_1]; exact kn _ _ _
  · intro o5 o6 o7 o8 o9
    exact s_122_5 (k3 := m.1) (kt := fun _ => s_122_144 ⟨_, rfl, rfl, rfl⟩) (kf := fun z => absurd (by rw [tb.1]; exact nI_le (Nat.le_refl _) (by omega)) z)
end MT
