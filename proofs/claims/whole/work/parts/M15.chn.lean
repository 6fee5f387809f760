/-! the model: the chain of a LOG's segments by their names; clean as one function -/
def chT (T : List slT) (x : Int32) : Nat → Int32 → List Nat
  | 0, _ => []
  | d + 1, n => match nxT T x n with
    | none => []
    | some k => k :: chT T x d (nI (lNm (T.getD k sl0)))
def chL (T : List slT) (x : Int32) : List Nat := chT T x T.length (-1)
def clnM (st : Nat → Int32) (N U rep nm m : Nat) (T : List slT) : List slT × Nat × Nat := clnT st N U rep nm m T (clG st T (nI m) (chL T (nI m)))
def nxP (T : List slT) (x n : Int32) (k : Nat) : Bool := decide (lLg (T.getD k sl0) = x) && decide (¬ nI (lNm (T.getD k sl0)) ≤ n)
section MH
variable {g : gcT} {P : pmT} {h h' h1 : hpT} {y ad : Nat → Nat} {T T1 : List slT} {i j k N U rep nm m e f c v to a b k8 : Nat} {x n x1 x2 x3 x4 x5 x6 : Int32} {st : Nat → Int32} {G C : List Nat}
theorem nxF_p : ∀ (l : List Nat) (b : Option Nat), (∀ k, b = some k → nxP T x n k = true) → ∀ k, l.foldl (nxF T x n) b = some k → nxP T x n k = true := by
  intro l
  induction l with
  | nil => intro b hb k hk; exact hb k hk
  | cons a l ih =>
    intro b hb k hk
    refine ih _ (fun k hk => ?_) k hk
    have pa : lLg (T.getD a sl0) = x → ¬ nI (lNm (T.getD a sl0)) ≤ n → nxP T x n a = true := fun q1 q2 => by
      unfold nxP
      rw [decide_eq_true q1, decide_eq_true q2]; rfl
    unfold nxF at hk
    split at hk
    · exact hb k hk
    · rename_i q1
      split at hk
      · exact hb k hk
      · rename_i q2
        split at hk
        · cases hk; exact pa (Decidable.not_not.mp q1) q2
        · split at hk
          · exact hb k hk
          · cases hk; exact pa (Decidable.not_not.mp q1) q2
theorem nxT_p (q : nxT T x n = some k) : k < T.length ∧ lLg (T.getD k sl0) = x ∧ ¬ nI (lNm (T.getD k sl0)) ≤ n := by
  refine ⟨nxT_lt (n := T.length) (List.range T.length) none (fun g hg => List.mem_range.mp hg) (fun k q => by cases q) k q, ?_⟩
  have := nxF_p (List.range T.length) none (fun k q => by cases q) k q
  unfold nxP at this
  rw [Bool.and_eq_true] at this
  exact ⟨of_decide_eq_true this.1, of_decide_eq_true this.2⟩
theorem cP_le {α : Type} {p p' : α → Bool} (hp : ∀ a, p' a = true → p a = true) : ∀ l : List α, l.countP p' ≤ l.countP p := by
  intro l
  induction l with
  | nil => exact Nat.le_refl _
  | cons a l ih =>
    rw [List.countP_cons, List.countP_cons]
    by_cases q : p' a = true
    · rw [if_pos q, if_pos (hp a q)]; omega
    · rw [if_neg q]; omega
theorem cP_lt {α : Type} {p p' : α → Bool} (hp : ∀ a, p' a = true → p a = true) {k : α} (h1 : p k = true) (h2 : ¬ p' k = true) : ∀ l : List α, k ∈ l → l.countP p' < l.countP p := by
  intro l
  induction l with
  | nil => intro q; cases q
  | cons a l ih =>
    intro q
    rw [List.countP_cons, List.countP_cons]
    rcases List.mem_cons.mp q with q | q
    · subst q
      have := cP_le hp l
      rw [if_neg h2, if_pos h1]; omega
    · have := ih q
      by_cases q : p' a = true
      · rw [if_pos q, if_pos (hp a q)]; omega
      · rw [if_neg q]; omega
theorem chT_ok : ∀ (d : Nat) (n : Int32), (∀ z ∈ chT T x d n, z < T.length ∧ lLg (T.getD z sl0) = x ∧ ¬ nI (lNm (T.getD z sl0)) ≤ n) ∧ (chT T x d n).Nodup ∧ (chT T x d n).length ≤ d := by
  intro d
  induction d with
  | zero => intro n; exact ⟨fun z hz => (by cases hz), List.nodup_nil, Nat.le_refl _⟩
  | succ d ih =>
    intro n
    rw [chT]
    cases q : nxT T x n with
    | none => exact ⟨fun z hz => (by cases hz), List.nodup_nil, Nat.zero_le _⟩
    | some k =>
      obtain ⟨a1, a2, a3⟩ := ih (nI (lNm (T.getD k sl0)))
      obtain ⟨p1, p2, p3⟩ := nxT_p q
      refine ⟨fun z hz => ?_, List.nodup_cons.mpr ⟨fun hz => (a1 k hz).2.2 (Int32.le_refl _), a2⟩, by rw [List.length_cons]; omega⟩
      rcases List.mem_cons.mp hz with e | e
      · rw [e]; exact ⟨p1, p2, p3⟩
      · obtain ⟨b1, b2, b3⟩ := a1 z e
        refine ⟨b1, b2, ?_⟩
        rw [Int32.not_le] at p3 b3 ⊢
        exact Int32.lt_trans p3 b3
theorem chT_ch : ∀ (d : Nat) (n : Int32), (List.range T.length).countP (nxP T x n) ≤ d → Chn T x n (chT T x d n) := by
  intro d
  induction d with
  | zero =>
    intro n hc
    show nxT T x n = none
    cases q : nxT T x n with
    | none => rfl
    | some k =>
      obtain ⟨p1, p2, p3⟩ := nxT_p q
      have pk : nxP T x n k = true := by
        unfold nxP
        rw [decide_eq_true p2, decide_eq_true p3]; rfl
      have := List.countP_pos_iff.mpr ⟨k, List.mem_range.mpr p1, pk⟩
      omega
  | succ d ih =>
    intro n hc
    rw [chT]
    cases q : nxT T x n with
    | none => exact q
    | some k =>
      obtain ⟨p1, p2, p3⟩ := nxT_p q
      refine ⟨q, ih _ ?_⟩
      have pk : nxP T x n k = true := by
        unfold nxP
        rw [decide_eq_true p2, decide_eq_true p3]; rfl
      have := cP_lt (p := nxP T x n) (p' := nxP T x (nI (lNm (T.getD k sl0)))) (k := k) (fun a ha => by
        unfold nxP at ha ⊢
        rw [Bool.and_eq_true] at ha ⊢
        refine ⟨ha.1, decide_eq_true ?_⟩
        have b3 := of_decide_eq_true ha.2
        rw [Int32.not_le] at p3 b3 ⊢
        exact Int32.lt_trans p3 b3) pk (fun ha => by
        unfold nxP at ha
        rw [Bool.and_eq_true] at ha
        exact of_decide_eq_true ha.2 (Int32.le_refl _)) (List.range T.length) (List.mem_range.mpr p1)
      omega
theorem chL_ch : Chn T x (-1) (chL T x) := chT_ch _ _ (by
  have := List.countP_le_length (p := nxP T x (-1)) (l := List.range T.length)
  rw [List.length_range] at this
  exact this)
theorem lv1_n (hi : i < 2) : ∃ u, lvT1 st T k e i = nI u ∧ (li1 st T k e i).length ≤ u ∧ u ≤ 2 := by
  unfold lvT1
  by_cases z : livT st T k e i = 0
  · rw [if_pos z, li1_0 z]; exact ⟨0, rfl, Nat.le_refl _, by omega⟩
  · rw [if_neg z]
    obtain ⟨p, ep, -⟩ := li1_1 hi z
    have kd := livT_kd z
    rw [ep]
    unfold mU
    rw [if_neg kd]
    split
    · exact ⟨2, rfl, by show 1 ≤ 2; omega, Nat.le_refl _⟩
    · exact ⟨1, rfl, Nat.le_refl _, by omega⟩
theorem lvu_n : ∀ (l : List Nat) (t : Nat), ∃ u, l.foldl (fun t e => t + lvT1 st T k e 0 + lvT1 st T k e 1) (nI t) = nI u ∧ t + (l.flatMap (liE st T k)).length ≤ u ∧ u ≤ t + 4 * l.length := by
  intro l
  induction l with
  | nil => intro t; exact ⟨t, rfl, Nat.le_refl _, Nat.le_refl _⟩
  | cons e l ih =>
    intro t
    obtain ⟨u0, a1, a2, a3⟩ := lv1_n (st := st) (T := T) (k := k) (e := e) (i := 0) (by decide)
    obtain ⟨u1, b1, b2, b3⟩ := lv1_n (st := st) (T := T) (k := k) (e := e) (i := 1) (by decide)
    obtain ⟨u, c1, c2, c3⟩ := ih (t + u0 + u1)
    refine ⟨u, ?_, ?_, ?_⟩
    · rw [List.foldl_cons, a1, b1, nI_ad, nI_ad]; exact c1
    · have : (liE st T k e).length = (li1 st T k e 0).length + (li1 st T k e 1).length := List.length_append
      rw [List.flatMap_cons, List.length_append]; omega
    · rw [List.length_cons]; omega
theorem pk_cap (hU : U ≤ 16) (l16 : ∀ k ∈ G, (lEn (T.getD k sl0)).length ≤ 16) : ((mPk st T U G).flatMap (liP st T)).length ≤ 16 := by
  have := ep_fit (U := U) (by omega) ((G.map (cM st T)).drop (mZ st T G)) (mZ st T G) 0 (fun c hc => ?_) (Nat.zero_le _)
  · have e : (mPk st T U G).flatMap (liP st T) = ((((G.map (cM st T)).drop (mZ st T G)).take (mEn st T U G - mZ st T G)).flatMap (·.2.2)) := by
      unfold mPk
      rw [← List.map_drop, ← List.map_take, List.flatMap_map]; rfl
    rw [e]
    have e0 : epC (nI U) ((G.map (cM st T)).drop (mZ st T G)) (mZ st T G) (nI 0) = mEn st T U G := rfl
    rw [e0] at this
    omega
  · obtain ⟨k, hk, ek⟩ := List.mem_map.mp (List.mem_of_mem_drop hc)
    subst ek
    obtain ⟨u, a1, a2, a3⟩ := lvu_n (st := st) (T := T) (k := k) (List.range (lEn (T.getD k sl0)).length) 0
    have := l16 k hk
    rw [List.length_range] at a3
    exact ⟨u, a1, by show (liP st T k).length ≤ u; unfold liP; omega, by omega⟩
theorem m_clnM {vc : Int32} (hm : HM h y ad) (w : hWF h) (tb : TB h y ad T) (est : st = hA h (ad 5)) (eN : hI h 832 (y 12) = nI N) (eR : hI h 833 (y 12) = nI rep) (eU : hI h 834 (y 12) = nI U) (eO : hI h 848 (y 12) = nI nm) (eC : hI h 849 (y 12) = vc) (h4N : 4 ≤ N) (hN8 : N ≤ 8) (hr : rep ≤ 3) (hU : U ≤ 16) (hm8 : m < N) (hnm : nm ≤ 100000) (h6 : T.length < 6000) : EvV g P 133 [va_rf (some (y 12)), .int (nI m)] h (fun h' => MF y ad (fun r _ => 24 ≤ r ∧ r ≤ 36) (fun k => k = 23 ∨ k = 16 ∨ k = 17) h h' ∧ TB h' y ad (clnM st N U rep nm m T).1 ∧ hI h' 848 (y 12) = nI (clnM st N U rep nm m T).2.1 ∧ hI h' 849 (y 12) = vc + nI (clnM st N U rep nm m T).2.2) := by
  obtain ⟨a1, a2, a3⟩ := chT_ok (T := T) (x := nI m) T.length (-1)
  have ok := clG_ok (st := st) (T := T) (lt := laT T (nI m)) (chL T (nI m)) [] a2
  exact m_cleanM hm w tb est eN eR eU eO eC h4N hN8 hr hm8 hnm h6 chL_ch (fun k hk => ⟨(a1 k hk).1, (a1 k hk).2.1⟩) a2 (by show (chT T (nI m) T.length (-1)).length ≤ 6000; omega) (pk_cap hU (fun k hk => (tb.th (fun _ => 0) ((a1 k ((ok.2.1 k hk).resolve_left (fun q => by cases q))).1)).2))
end MH
