/-! the model: mends, ticksServer -/
def rgM (y : Nat → Nat) (nm m : Nat) : List Nat := rgL (y 20) ((7 * nm + 3 * m) % y 20) 0 (y 20) m
def menP (μ : mT) (k s : Nat) : Bool := decide (μ.2.1 5 s = 0) && !(lHo (μ.1.getD k sl0)).any (fun x => decide (nI x.1 = nI s))
def menS (y : Nat → Nat) (μ : mT) (m k : Nat) : Option Nat := (rgM y (lNm (μ.1.getD k sl0)) m).find? (menP μ k)
def men1 (μ : mT) (k : Nat) (b : Option Nat) : mT × Int32 := match b with
  | none => (μ, 0)
  | some s => (uN (uT μ (μ.1.set k (hlS (μ.1.getD k sl0) s))) 21 (μ.2.2 21 + 1), 1)
def menM (y : Nat → Nat) (μ : mT) (m k : Nat) : mT × Int32 := if hoU (μ.2.1 5) (μ.1.getD k sl0) < y 21 then men1 μ k (menS y μ m k) else (μ, 0)
def tkL (y : Nat → Nat) (μ : mT) (m : Nat) : List Nat → mT
  | [] => μ
  | k :: C => if (menM y μ m k).2 = 0 then tkL y μ m C else (menM y μ m k).1
def tk3 (y : Nat → Nat) (μ : mT) (m : Nat) : mT := tkL y μ m (chL μ.1 (nI m))
def tksM (y : Nat → Nat) (μ : mT) (m : Nat) : mT := if ¬ μ.2.1 5 m = 0 then μ else if ¬ μ.2.1 6 m = 0 then fgtM μ m else tk3 y (if hgM μ m = 0 then uR μ 10 m (-1) else μ) m
section MB
variable {g : gcT} {P : pmT} {h h' h1 h2 : hpT} {y ad : Nat → Nat} {i j k n nm m e f c v p q : Nat} {x x1 x2 x3 x4 : Int32} {μ : mT} {Q : hpT → Option Value → Prop}
theorem menM_0 (q : (menM y μ m k).2 = 0) : (menM y μ m k).1 = μ := by
  unfold menM at q ⊢
  split
  · rename_i z
    rw [if_pos z] at q
    cases e : menS y μ m k with
    | none => rfl
    | some s => rw [e] at q; exact absurd q (show ¬ (1 : Int32) = 0 by decide)
  · rfl
theorem m_mendsM (mw : MW h y ad μ) (mk : MK0 y μ) (hm : m < y 20) (hk : k < μ.1.length) (hl : (lHo (μ.1.getD k sl0)).length < 8) : EvI g P 164 [va_rf (some (y 12)), .int (nI m), .int (nI k)] h (fun h' r => r = (menM y μ m k).2 ∧ MG y ad h h' ∧ MW h' y ad (menM y μ m k).1) := by
  have l6 := mw.2.2.1.2.1
  have y8 := mk.1.1
  have y21 := mk.1.2.1
  have ek : (nI k).toNatClampNeg = k := nI_clamp (by omega)
  have e832 : hI h 832 (y 12) = nI (y 20) := (mw.n 0 (by decide) (by decide) rfl).trans mk.2.1
  have e833 : hI h 833 (y 12) = nI (y 21) := (mw.n 1 (by decide) (by decide) rfl).trans mk.2.2.1
  have eN1 : nI (y 20) - 1 = nI (y 20 - 1) := by
    have := nI_pred (y 20 - 1)
    rw [show y 20 - 1 + 1 = y 20 by omega] at this
    exact this
  have hh := m_holdersUp (g := g) (P := P) mw.1 mw.2.2.1 hk
  rw [mw.rw (r := 5) rfl] at hh
  have hb : hoU (μ.2.1 5) (μ.1.getD k sl0) ≤ 8 := by
    have : ∀ (l : List (Nat × Nat)) (t : Nat), l.foldl (fun t x => if μ.2.1 5 x.1 = 0 then t + 1 else t) t ≤ t + l.length := by
      intro l
      induction l with
      | nil => intro t; exact Nat.le_refl _
      | cons a l ih =>
        intro t
        rw [List.foldl_cons, List.length_cons]
        refine Nat.le_trans (ih _) ?_
        split <;> omega
    have := this (lHo (μ.1.getD k sl0)) 0
    unfold hoU
    omega
  refine e_164 (s_164_0 (k3 := mw.1.1) (hc := hh) (kk := fun h1 x' ⟨q1, q2⟩ => ?_))
  subst q1; subst q2
  unfold menM
  by_cases q : hoU (μ.2.1 5) (μ.1.getD k sl0) < y 21
  · rw [if_pos q]
    refine s_164_5 (k3 := mw.1.1) (kt := fun _ => s_164_14 ?_) (kf := fun z => absurd (by rw [e833]; exact nI_lt q (by omega)) z)
    have e25 := (mw.2.2.1.s hk).1.2.1
    have n100 := (mw.2.2.1.s hk).1.2.2.2
    have hbm := Nat.mod_lt (7 * lNm (μ.1.getD k sl0) + 3 * m) (show 0 < y 20 by omega)
    have rl : (rgM y (lNm (μ.1.getD k sl0)) m).length = y 20 - 1 := rgL_full (y 20) (by omega) y8.1 _ hbm m hm
    have rb := (rgL_len (N := y 20) (b := (7 * lNm (μ.1.getD k sl0) + 3 * m) % y 20) (by omega) hm 0 (y 20)).2
    have lp := find_loop (rgM y (lNm (μ.1.getD k sl0)) m) (menP μ k) (fun i => ∀ o4, Ev g P 164 16 [some (va_rf (some (y 12))), some (.int (nI m)), some (.int (nI k)), some (.int (nI i)), o4] [] h1 (fun h' r => ∃ x, r = some (.int x) ∧ x = (men1 μ k (menS y μ m k)).2 ∧ MG y ad h1 h' ∧ MW h' y ad (men1 μ k (menS y μ m k)).1)) (fun s => menS y μ m k = some s) ?_ ?_ (fun s e => e) ?_
    · have := lp none
      rw [nI_0] at this
      exact this
    · intro i hi pt fd o4
      have hrg := m_ring (g := g) (P := P) (nm := lNm (μ.1.getD k sl0)) (m := m) (l := i) mw.1 e832 (by omega) y8.2 (by omega) (by omega) hi (by omega)
      have hs := rb _ (List.getElem_mem hi)
      have eg : (rgL (y 20) ((7 * lNm (μ.1.getD k sl0) + 3 * m) % y 20) 0 (y 20) m).getD i 0 = (rgM y (lNm (μ.1.getD k sl0)) m)[i] := gD_lt hi
      rw [eg] at hrg
      generalize (rgM y (lNm (μ.1.getD k sl0)) m)[i] = s at *
      have ec25 : hA h1 (ad 25) (nI k).toNatClampNeg = nI (lNm (μ.1.getD k sl0)) := by rw [ek]; exact e25
      rw [← ec25] at hrg
      unfold menP at pt
      rw [Bool.and_eq_true] at pt
      have pu := of_decide_eq_true pt.1
      have ph : (lHo (μ.1.getD k sl0)).any (fun x => decide (nI x.1 = nI s)) = false := by
        have := pt.2
        cases e : (lHo (μ.1.getD k sl0)).any (fun x => decide (nI x.1 = nI s))
        · rfl
        · rw [e] at this; cases this
      refine s_164_16 (k3 := mw.1.1) (kt := fun z => absurd z (by rw [e832, eN1]; exact nI_ge (by omega) (by omega))) (kf := fun _ => ?_)
      refine s_164_26 (k3 := mw.1.1) (e5 := mw.1.r25) (k6 := mw.1.k25) (i7 := by rw [mw.1.n25]; exact vin_nI (by omega) (by decide)) (hc := hrg) (kk := fun h2 x' ⟨q1, q2⟩ => ?_)
      subst q1; subst q2
      refine s_164_38 (k3 := mw.1.1) (hc := m_isUpM mw.1 (i := s) (by omega)) (kk := fun h3 x' ⟨q1, q2⟩ => ?_)
      subst q1; subst q2
      rw [mw.2.2.2.1 5 s rfl, if_pos pu]
      refine s_164_46 (kt := fun z => absurd z (by decide)) (kf := fun _ => ?_)
      refine s_164_49 (k3 := mw.1.1) (hc := m_isHolder mw.1 mw.2.2.1 hk) (kk := fun h4 x' ⟨q1, q2⟩ => ?_)
      subst q1; subst q2
      rw [ph]
      refine s_164_56 (kt := fun _ => ?_) (kf := fun z => absurd rfl z)
      refine s_164_62 (k3 := mw.1.1) (hc := m_addHolder' mw.1 mw.2.1 mw.2.2.1 hk hl (v := s) (by omega)) (kk := fun h5 ⟨xa, tb5⟩ => ?_)
      have mw5 := mw.st xa tb5 (fun r i a => by rcases a with a | a <;> omega) (fun k a => a.elim)
      refine s_164_69 (k3 := mw5.1.1) (hq := ?_)
      rw [mw5.n 21 (by decide) (by decide) rfl, fd]
      exact ⟨_, rfl, rfl, xa.gl.jn (mw5.gN (k := 21) rfl), mw5.wN (k := 21) rfl (by decide) (by decide)⟩
    · intro i hi pf kn o4
      have hrg := m_ring (g := g) (P := P) (nm := lNm (μ.1.getD k sl0)) (m := m) (l := i) mw.1 e832 (by omega) y8.2 (by omega) (by omega) hi (by omega)
      have hs := rb _ (List.getElem_mem hi)
      have eg : (rgL (y 20) ((7 * lNm (μ.1.getD k sl0) + 3 * m) % y 20) 0 (y 20) m).getD i 0 = (rgM y (lNm (μ.1.getD k sl0)) m)[i] := gD_lt hi
      rw [eg] at hrg
      generalize (rgM y (lNm (μ.1.getD k sl0)) m)[i] = s at *
      have ec25 : hA h1 (ad 25) (nI k).toNatClampNeg = nI (lNm (μ.1.getD k sl0)) := by rw [ek]; exact e25
      rw [← ec25] at hrg
      refine s_164_16 (k3 := mw.1.1) (kt := fun z => absurd z (by rw [e832, eN1]; exact nI_ge (by omega) (by omega))) (kf := fun _ => ?_)
      refine s_164_26 (k3 := mw.1.1) (e5 := mw.1.r25) (k6 := mw.1.k25) (i7 := by rw [mw.1.n25]; exact vin_nI (by omega) (by decide)) (hc := hrg) (kk := fun h2 x' ⟨q1, q2⟩ => ?_)
      subst q1; subst q2
      refine s_164_38 (k3 := mw.1.1) (hc := m_isUpM mw.1 (i := s) (by omega)) (kk := fun h3 x' ⟨q1, q2⟩ => ?_)
      subst q1; subst q2
      rw [mw.2.2.2.1 5 s rfl]
      by_cases pu : μ.2.1 5 s = 0
      · rw [if_pos pu]
        refine s_164_46 (kt := fun z => absurd z (by decide)) (kf := fun _ => ?_)
        refine s_164_49 (k3 := mw.1.1) (hc := m_isHolder mw.1 mw.2.2.1 hk) (kk := fun h4 x' ⟨q1, q2⟩ => ?_)
        subst q1; subst q2
        have ph : (lHo (μ.1.getD k sl0)).any (fun x => decide (nI x.1 = nI s)) = true := by
          unfold menP at pf
          rw [decide_eq_true pu] at pf
          cases e : (lHo (μ.1.getD k sl0)).any (fun x => decide (nI x.1 = nI s))
          · rw [e] at pf; cases pf
          · rfl
        rw [if_pos ph]
        refine s_164_56 (kt := fun z => absurd z (by decide)) (kf := fun _ => s_164_59 (s_164_81 ?_))
        rw [nI_1]
        exact kn _
      · rw [if_neg pu]
        refine s_164_46 (kt := fun _ => s_164_81 ?_) (kf := fun z => absurd rfl z)
        rw [nI_1]
        exact kn _
    · intro en o4
      have en' : menS y μ m k = none := en
      rw [en', rl]
      refine s_164_16 (k3 := mw.1.1) (kt := fun _ => s_164_87 ⟨_, rfl, rfl, MF.rf mw.2.1, mw⟩) (kf := fun z => absurd (by rw [e832, eN1]; exact nI_le (Nat.le_refl _) (by omega)) z)
  · rw [if_neg q]
    refine s_164_5 (k3 := mw.1.1) (kt := fun z => ?_) (kf := fun _ => s_164_12 ⟨_, rfl, rfl, MF.rf mw.2.1, mw⟩)
    rw [e833, ← Int32.not_le] at z
    exact absurd (nI_le (by omega) (by omega)) z
theorem tkL_ev (mw : MW h y ad μ) (mk : MK0 y μ) (hm : m < y 20) (hl : ∀ k, k < μ.1.length → (lHo (μ.1.getD k sl0)).length < 8) : ∀ (C : List Nat) (x : Int32) (h1 : hpT), Chn μ.1 (nI m) x C → (∀ k ∈ C, k < μ.1.length) → MG y ad h h1 → MW h1 y ad μ → Ev g P 165 46 [some (va_rf (some (y 12))), some (.int (nI m)), some (.int (oI (nxT μ.1 (nI m) x)))] [] h1 (fun h' r => r = none ∧ MG y ad h h' ∧ MW h' y ad (tkL y μ m C)) := by
  have l6 := mw.2.2.1.2.1
  intro C
  induction C with
  | nil =>
    intro x h1 ch _ g1 mw1
    have ch : nxT μ.1 (nI m) x = none := ch
    rw [ch]
    exact s_165_46 (kt := fun _ => s_165_75 ⟨rfl, g1, mw1⟩) (kf := fun z => absurd rfl z)
  | cons k C ih =>
    intro x h1 ch hC g1 mw1
    obtain ⟨c1, c2⟩ := ch
    have hk := hC k List.mem_cons_self
    have ek : (nI k).toNatClampNeg = k := nI_clamp (by omega)
    rw [c1]
    refine s_165_46 (kt := fun z => absurd z (oI_ne (by omega))) (kf := fun _ => ?_)
    refine s_165_51 (k3 := mw1.1.1) (hc := m_mendsM mw1 mk hm hk (hl k hk)) (kk := fun h2 x' ⟨q1, g2, mw2⟩ => ?_)
    subst q1
    rw [tkL]
    by_cases q : (menM y μ m k).2 = 0
    · rw [if_pos q]
      rw [menM_0 q] at mw2
      refine s_165_57 (kt := fun z => absurd q z) (kf := fun _ => ?_)
      have e25 := (mw2.2.2.1.s hk).1.2.1
      refine s_165_60 (k3 := mw2.1.1) (e5 := mw2.1.r25) (k6 := mw2.1.k25) (i7 := by rw [mw2.1.n25]; exact vin_nI (by omega) (by decide)) (hc := m_next mw2.1 mw2.2.2.1) (kk := fun h3 x' ⟨q1, q2⟩ => s_165_71 ?_)
      subst q1; subst q2
      rw [show oI (some k) = nI k from rfl, ek, e25]
      exact ih _ h3 c2 (fun z hz => hC z (List.mem_cons_of_mem _ hz)) (g1.jn g2) mw2
    · rw [if_neg q]
      exact s_165_57 (kt := fun _ => s_165_75 ⟨rfl, g1.jn g2, mw2⟩) (kf := fun z => absurd z q)
theorem m_ticksM (mw : MW h y ad μ) (mk : MK0 y μ) (hm : m < y 20) (ho : hdOK μ m) (hl : ∀ k, k < μ.1.length → (lHo (μ.1.getD k sl0)).length < 8) : EvV g P 165 [va_rf (some (y 12)), .int (nI m)] h (fun h' => MG y ad h h' ∧ MW h' y ad (tksM y μ m)) := by
  have y8 := mk.1.1.2
  have em : (nI m).toNatClampNeg = m := nI_clamp (by omega)
  refine e_165 (s_165_0 (k3 := mw.1.1) (hc := m_isUpM mw.1 (i := m) (by omega)) (kk := fun h1 x' ⟨q1, q2⟩ => ?_))
  subst q1; subst q2
  rw [mw.2.2.2.1 5 m rfl]
  unfold tksM
  by_cases q5 : μ.2.1 5 m = 0
  · rw [if_pos q5, if_neg (fun z => z q5)]
    have c6 : hA h1 (ad 6) (nI m).toNatClampNeg = μ.2.1 6 m := by rw [em]; exact mw.2.2.2.1 6 m rfl
    refine s_165_5 (kt := fun _ => ?_) (kf := fun z => absurd z (by decide))
    refine s_165_9 (k3 := mw.1.1) (e5 := mw.1.r6) (k6 := mw.1.k6) (i7 := by rw [mw.1.n6]; exact vin_nI (by omega) (by decide)) (kt := fun z => ?_) (kf := fun z => ?_)
    · rw [c6] at z
      rw [if_neg (fun a => a z)]
      have go : ∀ h2 μ2, MG y ad h1 h2 → MW h2 y ad μ2 → μ2.1 = μ.1 → MK0 y μ2 → Ev g P 165 39 [some (va_rf (some (y 12))), some (.int (nI m)), none] [] h2 (fun h' r => r = none ∧ MG y ad h1 h' ∧ MW h' y ad (tk3 y μ2 m)) := by
        intro h2 μ2 g2 mw2 e1 mk2
        obtain ⟨a1, a2, a3⟩ := chT_ok (T := μ2.1) (x := nI m) μ2.1.length (-1)
        refine s_165_39 (k3 := mw2.1.1) (hc := m_next mw2.1 mw2.2.2.1) (kk := fun h3 x' ⟨q1, q2⟩ => s_165_45 ?_)
        subst q1; subst q2
        exact Ev.imp (tkL_ev (g := g) (P := P) mw2 mk2 hm (by rw [e1]; exact hl) (chL μ2.1 (nI m)) (-1) h3 chL_ch (fun k hk => (a1 k hk).1) (MF.rf mw2.2.1) mw2) (fun h' r ⟨q1, q2, q3⟩ => ⟨q1, g2.jn q2, q3⟩)
      refine s_165_24 (k3 := mw.1.1) (hc := m_headGood mw (by omega) ho) (kk := fun h2 x' ⟨q1, q2⟩ => ?_)
      subst q1; subst q2
      by_cases qh : hgM μ m = 0
      · rw [if_pos qh]
        refine s_165_29 (kt := fun z => absurd qh z) (kf := fun _ => ?_)
        refine s_165_32 (k3 := mw.1.1) (e5 := mw.1.r10) (k6 := mw.1.k10) (i7 := by rw [mw.1.n10]; exact vin_nI (by omega) (by decide)) (kk := ?_)
        rw [em]
        exact go _ _ (mw.gA rfl) (mw.wA rfl) rfl mk
      · rw [if_neg qh]
        exact s_165_29 (kt := fun _ => go _ μ (MF.rf mw.2.1) mw rfl mk) (kf := fun z => absurd z qh)
    · rw [c6] at z
      rw [if_pos z]
      exact s_165_18 (k3 := mw.1.1) (hc := m_forgets mw (by omega)) (kk := fun h2 ⟨g2, mw2⟩ => s_165_23 ⟨rfl, g2, mw2⟩)
  · rw [if_neg q5, if_pos q5]
    exact s_165_5 (kt := fun z => absurd rfl z) (kf := fun _ => s_165_8 ⟨rfl, MF.rf mw.2.1, mw⟩)
end MB
