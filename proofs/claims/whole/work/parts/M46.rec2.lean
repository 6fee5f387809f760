/-! the model: recovers, oneTick, tick -/
def rcG (y : Nat → Nat) (d : Nat) (x : Int32) : List Nat → mT → mT × Int32
  | [], μ => (μ, 1)
  | t :: l, μ => if μ.2.1 58 (8 * d + t) = 0 then rcG y d x l μ else match noM y μ with
    | none => (μ, 0)
    | some m => rcG y d x l (uR (tovM y μ m t x) 58 (8 * d + t) 0)
def rcOK (y : Nat → Nat) (d : Nat) (x : Int32) : List Nat → mT → Prop
  | [], _ => True
  | t :: l, μ => MK0 y μ ∧ (¬ μ.2.1 58 (8 * d + t) = 0 ∨ rcOK y d x l μ) ∧ ∀ m, noM y μ = some m → ¬ μ.2.1 58 (8 * d + t) = 0 → toOK y μ m t x ∧ rcOK y d x l (uR (tovM y μ m t x) 58 (8 * d + t) 0)
def rc2 (r : mT × Int32) (x : Int32) : mT × Int32 := if r.2 = 0 then r else (uT r.1 (lgT r.1.1 x 99), 1)
def rcN (y : Nat → Nat) (μ : mT) (d : Nat) : Bool := decide (upB (μ.2.1 5) (y 20) (-1) < y 21 + 1) || decide (crM μ (μ.2.1 57 d) = 0)
def recM (y : Nat → Nat) (μ : mT) (d : Nat) : mT × Int32 := if rcN y μ d = true then (μ, 0) else rc2 (rcG y d (μ.2.1 57 d) (List.range' 0 8) μ) (μ.2.1 57 d)
section MV4
variable {g : gcT} {P : pmT} {h h' h1 h2 : hpT} {y ad : Nat → Nat} {T T' : List slT} {i j k nm m e f c t v d : Nat} {x x1 x2 x3 x4 x5 x6 xr : Int32} {A : Nat → Nat → Prop} {I : Nat → Prop} {μ : mT} {Q : hpT → Option Value → Prop} {en : enT}
theorem noM_lt (q : noM y μ = some m) : m < y 20 := by
  have := fold_inv (fun b : Option Nat => ∀ k, b = some k → k < y 20) (noF μ) (List.range (y 20)) (fun b a ha hb k e => by
    unfold noF at e
    split at e
    · cases e; exact List.mem_range.mp ha
    · exact hb k e) none (fun k e => by cases e)
  exact this m q
theorem rec_l (hd : d < 16) : ∀ (n t : Nat) (μ : mT) (h : hpT), t + n = 8 → rcOK y d x (List.range' t n) μ → MW h y ad μ → (∀ h', (rcG y d x (List.range' t n) μ).2 = 0 → MG y ad h h' → MW h' y ad (rcG y d x (List.range' t n) μ).1 → Q h' (some (.int 0))) → (∀ h' x3 o4, ¬ (rcG y d x (List.range' t n) μ).2 = 0 → MG y ad h h' → MW h' y ad (rcG y d x (List.range' t n) μ).1 → Ev g P 172 96 [some (va_rf (some (y 12))), some (.int (nI d)), some (.int x), some (.int x3), o4] [] h' Q) → ∀ o4, Ev g P 172 33 [some (va_rf (some (y 12))), some (.int (nI d)), some (.int x), some (.int (nI t)), o4] [] h Q := by
  intro n
  induction n with
  | zero =>
    intro t μ h e ok mw k0 k1 o4
    have e8 : (8 : Int32) = nI t := by rw [show t = 8 by omega]; rfl
    exact s_172_33 (kt := fun _ => k1 h _ _ (show ¬ (1 : Int32) = 0 by decide) (MF.rf mw.2.1) mw) (kf := fun z => absurd (by rw [e8]; exact Int32.le_refl _) z)
  | succ n ih =>
    intro t μ h e ok mw k0 k1 o4
    have e8 : (8 : Int32) = nI (t + (n + 1)) := by rw [e]; rfl
    have hlt : 8 * d + t < 128 := by omega
    rw [List.range'_succ] at ok k0 k1
    obtain ⟨mk, ok1, ok2⟩ := ok
    have c58 : hA h (ad 58) ((8 : Int32) * nI d + nI t).toNatClampNeg = μ.2.1 58 (8 * d + t) := by rw [ix8M, nI_clamp (by omega)]; exact mw.2.2.2.1 58 _ rfl
    refine s_172_33 (kt := fun z => absurd z (by rw [e8]; exact nI_ge (by omega) (by omega))) (kf := fun _ => ?_)
    refine s_172_39 (k3 := mw.1.1) (e5 := mw.1.r58) (k6 := mw.1.k58) (i7 := by rw [ix8M, mw.1.n58]; exact vin_nI hlt (by decide)) (kt := fun z => ?_) (kf := fun z => s_172_53 (s_172_90 ?_))
    · rw [c58] at z
      refine s_172_56 (k3 := mw.1.1) (hc := m_newOwner mw mk) (kk := fun h2 x' ⟨q1, q2⟩ => ?_)
      subst q1; subst q2
      cases en : noM y μ with
      | none =>
        have eG : rcG y d x (t :: List.range' (t + 1) n) μ = (μ, 0) := by
          show (if _ then _ else _) = _
          rw [if_neg z, en]
        rw [eG] at k0
        exact s_172_60 (kt := fun z => absurd rfl z) (kf := fun _ => s_172_68 (k0 h2 rfl (MF.rf mw.2.1) mw))
      | some m =>
        have hm := noM_lt en
        have y8 := mk.1.1.2
        obtain ⟨ok3, ok4⟩ := ok2 m en z
        have eG : rcG y d x (t :: List.range' (t + 1) n) μ = rcG y d x (List.range' (t + 1) n) (uR (tovM y μ m t x) 58 (8 * d + t) 0) := by
          show (if _ then _ else _) = _
          rw [if_neg z, en]
        rw [eG] at k0 k1
        refine s_172_60 (kt := fun _ => ?_) (kf := fun z => absurd z (fun q => by
          have q : nI m = -1 := q
          have := nI_pos (n := m) (by omega)
          rw [q] at this
          exact absurd this (by decide)))
        refine s_172_70 (k3 := mw.1.1) (hc := m_takesOver mw hm (by omega) ok3) (kk := fun h3 ⟨g3, mw3⟩ => ?_)
        refine s_172_78 (k3 := mw3.1.1) (e5 := mw3.1.r58) (k6 := mw3.1.k58) (i7 := by rw [ix8M, mw3.1.n58]; exact vin_nI hlt (by decide)) (kk := s_172_90 ?_)
        rw [ix8M, nI_clamp (by omega), nI_1]
        have mw4 := mw3.wA (r := 58) (i := 8 * d + t) (x := 0) rfl
        have g4 := g3.jn (mw3.gA (e := 58) (i := 8 * d + t) (x := 0) rfl)
        generalize hpA h3 (ad 58) (8 * d + t) 0 = H4 at mw4 g4 ⊢
        exact ih (t + 1) _ H4 (by omega) ok4 mw4 (fun h' q gg mm => k0 h' q (g4.jn gg) mm) (fun h' x3 o4 q gg mm => k1 h' x3 o4 q (g4.jn gg) mm) _
    · rw [c58] at z
      have eG : rcG y d x (t :: List.range' (t + 1) n) μ = rcG y d x (List.range' (t + 1) n) μ := by
        show (if _ then _ else _) = _
        rw [if_pos z]
      rw [eG] at k0 k1
      rw [nI_1]
      exact ih (t + 1) μ h (by omega) (ok1.resolve_left (fun q => q z)) mw k0 k1 _
theorem rec_g {o4 : Option Value} (mw : MW h y ad μ) (kk : ∀ h', MG y ad h h' → MW h' y ad (uT μ (lgT μ.1 x 99)) → Q h' (some (.int 1))) : Ev g P 172 98 [some (va_rf (some (y 12))), some (.int x1), some (.int x), some (.int 0), o4] [] h Q := by
  have l6 := mw.2.2.1.2.1
  have lp := cnt_loop μ.1.length (fun j h1 => MG y ad h h1 ∧ MW h1 y ad (uT μ (lgJ μ.1 x 99 j))) (fun j h1 => Ev g P 172 98 [some (va_rf (some (y 12))), some (.int x1), some (.int x), some (.int (nI j)), o4] [] h1 Q) ?_ ?_ h ⟨MF.rf mw.2.1, mw⟩
  · rw [nI_0] at lp; exact lp
  · intro j h1 hj ⟨xa, mw1⟩ kn
    have ej : (nI j).toNatClampNeg = j := nI_clamp (by omega)
    have e23 : hI h1 855 (y 12) = nI μ.1.length := by
      have := mw1.2.2.1.1
      rw [this]
      show nI (lgJ μ.1 x 99 j).length = _
      rw [lgJ_len]
    have hj' : j < (uT μ (lgJ μ.1 x 99 j)).1.length := by
      show j < (lgJ μ.1 x 99 j).length
      rw [lgJ_len]; exact hj
    have e24 : hA h1 (ad 24) j = lLg μ.1[j] := by
      have := (mw1.2.2.1.s hj').1.1
      rw [this]
      show lLg ((lgJ μ.1 x 99 j).getD j sl0) = _
      rw [lgJ_get hj]
    have v24 : vinD (nI j) (hN h1 (ad 24)) := by rw [mw1.1.n24]; exact vin_nI (by omega) (by decide)
    refine s_172_98 (k3 := mw1.1.1) (kt := fun z => absurd z (by rw [e23]; exact nI_ge hj (by omega))) (kf := fun _ => ?_)
    refine s_172_106 (k3 := mw1.1.1) (e5 := mw1.1.r24) (k6 := mw1.1.k24) (i7 := v24) (kt := fun z => s_172_124 ?_) (kf := fun z => s_172_116 (k3 := mw1.1.1) (e5 := mw1.1.r24) (k6 := mw1.1.k24) (i7 := v24) (kk := s_172_124 ?_))
    · rw [ej, e24] at z
      rw [nI_1]
      exact kn h1 ⟨xa, by rw [lgJ_n hj z]; exact mw1⟩
    · rw [ej, e24] at z
      rw [nI_1, ej]
      have := mw1.lg (x := 99) hj'
      rw [lg_step hj z] at this
      exact kn _ ⟨xa.jn (MF.wA mw1.1 mw1.2.1 (by decide) _).gl, this⟩
  · intro h1 ⟨xa, mw1⟩
    rw [lgJ_e] at mw1
    have e23 : hI h1 855 (y 12) = nI μ.1.length := by
      have := mw1.2.2.1.1
      rw [this]
      show nI (lgT μ.1 x 99).length = _
      unfold lgT
      rw [List.length_map]
    exact s_172_98 (k3 := mw1.1.1) (kt := fun _ => s_172_130 (kk h1 xa mw1)) (kf := fun z => absurd (by rw [e23]; exact nI_le (Nat.le_refl _) (by omega)) z)
theorem m_recovers (mw : MW h y ad μ) (mk : MK0 y μ) (hd : d < 16) (ok : rcN y μ d = false → rcOK y d (μ.2.1 57 d) (List.range' 0 8) μ) : EvI g P 172 [va_rf (some (y 12)), .int (nI d)] h (fun h' r => r = (recM y μ d).2 ∧ MG y ad h h' ∧ MW h' y ad (recM y μ d).1) := by
  obtain ⟨yo, k0, k1, k2, k3⟩ := mk
  obtain ⟨yo1, yo2, yo3, yo4, -⟩ := yo
  have ed : (nI d).toNatClampNeg = d := nI_clamp (by omega)
  have e57 : hA h (ad 57) (nI d).toNatClampNeg = μ.2.1 57 d := by rw [ed]; exact mw.2.2.2.1 57 d rfl
  have e833 : hI h 833 (y 12) + 1 = nI (y 21 + 1) := by rw [(mw.n 1 (by decide) (by decide) rfl : hI h 833 (y 12) = _), k1, nI_1]
  have hub := m_upBut (g := g) (P := P) (x1 := -1) mw.1 ((mw.n 0 (by decide) (by decide) rfl).trans k0) yo1.2
  rw [mw.rw (r := 5) rfl] at hub
  have ub : upB (μ.2.1 5) (y 20) (-1) ≤ 8 := by
    have : ∀ (l : List Nat) (t : Nat), l.foldl (fun t s => if ¬ nI s = -1 ∧ μ.2.1 5 s = 0 then t + 1 else t) t ≤ t + l.length := by
      intro l
      induction l with
      | nil => intro t; exact Nat.le_refl _
      | cons a l ih =>
        intro t
        rw [List.foldl_cons, List.length_cons]
        refine Nat.le_trans (ih _) ?_
        split <;> omega
    have := this (List.range (y 20)) 0
    rw [List.length_range] at this
    unfold upB
    omega
  have no : rcN y μ d = true → ∀ o3 o4, Ev g P 172 29 [some (va_rf (some (y 12))), some (.int (nI d)), some (.int (μ.2.1 57 d)), o3, o4] [] h (fun h' r => ∃ x, r = some (.int x) ∧ x = (recM y μ d).2 ∧ MG y ad h h' ∧ MW h' y ad (recM y μ d).1) := fun q o3 o4 => by
    have e : recM y μ d = (μ, 0) := by unfold recM; rw [if_pos q]
    rw [e]
    exact s_172_29 ⟨_, rfl, rfl, MF.rf mw.2.1, mw⟩
  refine e_172 (s_172_0 (k3 := mw.1.1) (e5 := mw.1.r57) (k6 := mw.1.k57) (i7 := by rw [mw.1.n57]; exact vin_nI hd (by decide)) (hc := hub) (kk := fun h1 x' ⟨q1, q2⟩ => ?_))
  subst q1; subst q2
  rw [e57]
  refine s_172_12 (k3 := mw.1.1) (kt := fun z => no ?_ _ _) (kf := fun z => ?_)
  · rw [e833] at z
    unfold rcN
    rw [decide_eq_true (show upB (μ.2.1 5) (y 20) (-1) < y 21 + 1 from ?_)]; rfl
    rcases Nat.lt_or_ge (upB (μ.2.1 5) (y 20) (-1)) (y 21 + 1) with q | q
    · exact q
    · exact absurd (nI_le q (by omega)) (Int32.not_le.mpr z)
  · rw [e833] at z
    have z1 : ¬ upB (μ.2.1 5) (y 20) (-1) < y 21 + 1 := fun q => z (nI_lt q (by omega))
    refine s_172_21 (k3 := mw.1.1) (hc := m_canRead mw) (kk := fun h2 x' ⟨q1, q2⟩ => ?_)
    subst q1; subst q2
    refine s_172_26 (kt := fun zc => s_172_31 ?_) (kf := fun zc => no (by unfold rcN; rw [decide_eq_true zc, Bool.or_true]) _ _)
    have eN : rcN y μ d = false := by unfold rcN; rw [decide_eq_false z1, decide_eq_false zc]; rfl
    have eR : recM y μ d = rc2 (rcG y d (μ.2.1 57 d) (List.range' 0 8) μ) (μ.2.1 57 d) := by unfold recM; rw [eN]; rfl
    rw [eR]
    refine rec_l hd 8 0 μ h2 rfl (ok eN) mw (fun h' q gg mm => ?_) (fun h' x3 o4 q gg mm => s_172_96 ?_) none
    · unfold rc2
      rw [if_pos q]
      exact ⟨_, rfl, q.symm, gg, mm⟩
    · refine rec_g mm (fun h3 gb mb => ?_)
      unfold rc2
      rw [if_neg q]
      exact ⟨_, rfl, rfl, gg.jn gb, mb⟩
end MV4
