/-! the model: clean, the parts that copy and let go -/
def goS (s : slT) : slT := (99, lNm s, lOp s, lEn s, lHo s)
def goT (T : List slT) (k : Nat) : List slT := T.set k (goS (T.getD k sl0))
def goL (T : List slT) (G : List Nat) : List slT := G.foldl goT T
def li1 (st : Nat → Int32) (T : List slT) (k e i : Nat) : List pT := if livT st T k e i = 0 then [] else if i = 0 then [((lEn (T.getD k sl0)).getD e en0).1] else ((lEn (T.getD k sl0)).getD e en0).2.toList
def liE (st : Nat → Int32) (T : List slT) (k e : Nat) : List pT := li1 st T k e 0 ++ li1 st T k e 1
def liP (st : Nat → Int32) (T : List slT) (k : Nat) : List pT := (List.range (lEn (T.getD k sl0)).length).flatMap (liE st T k)
def cmP (s : slT) (p : pT) : slT := cmS s (p, none) 8
def cM (st : Nat → Int32) (T : List slT) (k : Nat) : cT := (lNm (T.getD k sl0), lvuT st T k, liP st T k)
def insG (st : Nat → Int32) (T : List slT) (lt : Option Nat) (G : List Nat) (k : Nat) : List Nat := if some k = lt then G else G.take (plcC (G.map (cM st T)) (cM st T k) G.length) ++ k :: G.drop (plcC (G.map (cM st T)) (cM st T k) G.length)
def clG (st : Nat → Int32) (T : List slT) (x : Int32) (C : List Nat) : List Nat := C.foldl (insG st T (laT T x)) []
section MK
variable {g : gcT} {P : pmT} {h h' h1 : hpT} {y ad : Nat → Nat} {T T1 : List slT} {s s' : slT} {i j k n N rep nm m e f c v to : Nat} {x1 x2 x3 x4 x5 x6 : Int32} {A : Nat → Nat → Prop} {I : Nat → Prop} {st : Nat → Int32}
theorem goT_len : (goT T k).length = T.length := List.length_set
theorem goL_len : ∀ (G : List Nat) (T : List slT), (goL T G).length = T.length := by
  intro G
  induction G with
  | nil => intro T; rfl
  | cons a G ih => intro T; rw [goL, List.foldl_cons]; exact (ih _).trans goT_len
theorem TB.go (hm : HM h y ad) (w : hWF h) (tb : TB h y ad T) (hk : k < T.length) : TB (hpA h (ad 24) k 99) y ad (goT T k) := by
  have x := MF.wA hm w (k := 24) (i := k) (by decide) 99
  refine TB.set hm tb x (fun r i q a z => ?_) (fun q => q) ?_
  · rcases z with ⟨z, z'⟩ | ⟨z, z'⟩ | ⟨z, z'⟩ <;> omega
  · obtain ⟨⟨a1, a2, a3, a4⟩, ⟨b1, b2, b3⟩, c1, c2, c3⟩ := tb.s hk
    have rd : ∀ r i, aKM r = true → ¬ r = 24 → hA (hpA h (ad 24) k 99) (ad r) i = hA h (ad r) i := fun r i hr n => by
      rw [hm.rA (by decide) hr, if_neg (fun z => n z.1)]
    refine ⟨⟨?_, ?_, ?_, a4⟩, ⟨?_, b2, fun e he f hf => ?_⟩, ?_, c2, fun j hj => ?_⟩
    · rw [hm.rA (by decide) (by decide), if_pos ⟨rfl, rfl⟩]; rfl
    · rw [rd _ _ (by decide) (by decide)]; exact a2
    · rw [rd _ _ (by decide) (by decide)]; exact a3
    · rw [rd _ _ (by decide) (by decide)]; exact b1
    · rw [rd _ _ (by decide) (by decide), rd _ _ (by decide) (by decide)]; exact b3 e he f hf
    · rw [rd _ _ (by decide) (by decide)]; exact c1
    · rw [rd _ _ (by decide) (by decide), rd _ _ (by decide) (by decide)]; exact c3 j hj
theorem ixL (k e i : Nat) : (nI k * 16 + nI e) * 2 + nI i = nI ((k * 16 + e) * 2 + i) := by
  have e16 : (16 : Int32) = nI 16 := rfl
  have e2 : (2 : Int32) = nI 2 := rfl
  rw [e16, e2, pk_mul, nI_add, pk_mul, nI_add]
theorem li1_0 (z : livT st T k e i = 0) : li1 st T k e i = [] := by unfold li1; rw [if_pos z]
theorem livT_kd (z : ¬ livT st T k e i = 0) : ¬ mE ((lEn (T.getD k sl0)).getD e en0) i 0 = 0 := by
  intro q
  apply z
  unfold livT
  rw [q, if_neg (by decide), if_neg (by decide), if_neg (by decide), if_neg (by decide)]
theorem li1_1 (hi : i < 2) (z : ¬ livT st T k e i = 0) : ∃ p, li1 st T k e i = [p] ∧ ∀ f, mE ((lEn (T.getD k sl0)).getD e en0) i f = mPt p f := by
  have kd := livT_kd z
  unfold li1
  rw [if_neg z]
  by_cases q : i = 0
  · rw [if_pos q]
    refine ⟨_, rfl, fun f => ?_⟩
    unfold mE
    rw [if_pos q]
  · rw [if_neg q]
    unfold mE at kd ⊢
    rw [if_neg q] at kd
    cases e2 : ((lEn (T.getD k sl0)).getD e en0).2 with
    | none => rw [e2] at kd; exact absurd rfl kd
    | some p => exact ⟨p, rfl, fun f => by rw [if_neg q]; rfl⟩
/-- one PART of the packing -/
theorem cln_i {Q : hpT → Option Value → Prop} {k8 : Nat} (hm : HM h y ad) (w : hWF h) (tb : TB h y ad (nwT T1 s)) (hk : k < (nwT T1 s).length) (hz : (nwT T1 s).getD k sl0 = T.getD k sl0) (he : e < (lEn (T.getD k sl0)).length) (hi : i < 2) (e36 : hA h (ad 36) ((k * 16 + e) * 2 + i) = livT st T k e i) (hr : (lEn s).length + (li1 st T k e i).length ≤ 16) (kk : ∀ h2, MF y ad (fun r _ => 27 ≤ r ∧ r ≤ 33) (fun _ => False) h h2 → TB h2 y ad (nwT T1 ((li1 st T k e i).foldl cmP s)) → Ev g P 133 395 [some (va_rf (some (y 12))), some (.int (nI m)), some (.int x2), some (.int x3), some (.int x4), some (.int x5), some (.int x6), some (.int (nI (nwI T1))), some (.int (nI k8)), some (.int (nI k)), some (.int (nI e)), some (.int (nI i))] [] h2 Q) : Ev g P 133 349 [some (va_rf (some (y 12))), some (.int (nI m)), some (.int x2), some (.int x3), some (.int x4), some (.int x5), some (.int x6), some (.int (nI (nwI T1))), some (.int (nI k8)), some (.int (nI k)), some (.int (nI e)), some (.int (nI i))] [] h Q := by
  have l6 := tb.2.1
  have l16 := (tb.th (fun _ => 0) hk).2
  rw [hz] at l16
  have hlt : (k * 16 + e) * 2 + i < 192000 := by omega
  refine s_133_349 (k3 := hm.1) (e5 := hm.r36) (k6 := hm.k36) (i7 := by rw [ixL, hm.n36]; exact vin_nI hlt (by decide)) (kt := fun z => ?_) (kf := fun z => s_133_370 ?_)
  · rw [ixL, nI_clamp (by omega), e36] at z
    obtain ⟨p, ep, fp⟩ := li1_1 hi z
    rw [ep] at hr kk
    have hr : (lEn s).length + 1 ≤ 16 := hr
    have hat := m_atM (g := g) (P := P) (h := h) (k := k) (e := e) (i := i) (f := 0)
    rw [nI_0] at hat
    refine s_133_373 (hc := hat) (kk := fun h2 x' ⟨q1, q2⟩ => ?_)
    subst q1; subst q2
    refine s_133_384 (e2 := rfl) (k3 := hm.1) (hc := m_makeOf (n9 := 9) rfl hm w tb hk (by rw [hz]; exact he) hi) (kk := fun h3 ⟨x3', z1, z2⟩ => ?_)
    rw [hz] at z1
    have m3 := hm.mf x3'
    have tb3 : TB h3 y ad (nwT T1 s) := tb.keep hm x3' (fun r i q a z => by rcases z with ⟨z, -⟩ | ⟨z, -⟩ | ⟨z, -⟩ <;> omega) (fun q => q)
    have md : MD h3 ad (p, none) := fun f hf => ⟨(z1 f hf).trans (fp f), z2 f hf⟩
    have hcm := m_comes (g := g) (P := P) (n18 := 18) (c := 8) rfl m3 x3'.1.2.2.2 tb3 (nwT_len T1 s).1 (by rw [(nwT_len T1 s).2]; omega) md (by omega)
    rw [show nI 8 = (8 : Int32) from rfl] at hcm
    refine s_133_387 (k3 := m3.1) (hc := hcm) (kk := fun h4 ⟨x4', tb4⟩ => kk h4 ?_ ?_)
    · refine (x3'.tr x4').mono (fun r i q => ?_) (fun r q => q.elim id id)
      rcases q with q | q | q | q <;> omega
    · rw [(nwT_len T1 s).2, nwT_set] at tb4
      exact tb4
  · rw [ixL, nI_clamp (by omega), e36] at z
    refine kk h (MF.rf w) ?_
    rw [li1_0 z]; exact tb
end MK
