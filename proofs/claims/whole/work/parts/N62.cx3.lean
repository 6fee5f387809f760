-- the INVARIANT: a tablet is taken over, PARTS are appended
section
variable {A A' : alT} {y : Nat → Nat} {N U rep nm nm' i j t : Nat} {cl cl' : List kcT} {B B' up v : Int32} {S S' : stA} {x x' : srA} {ow : List Int32} {d d' : alT × Int32} {p : pT} {l : List pT}
theorem dj_s (h : djM d d') : djM d' d := fun t ht h1 h2 => h t ht h2 h1
theorem CX.tkO (h : CX y cl B S) (hy : yOK y) (hj : j < (tDe S).length) (ht : t < 8) (hb : shrB ((tDe S).getD j d0A).2 (nI t) = 1) (hi : i < y 20) (hf : sFe ((tSv S).getD i sr0) = 0) (hl : sLo ((tSv S).getD i sr0) = 0) : CX y cl B (tk1 (dtb S j t) i t) := by
  obtain ⟨⟨a1, a2, a3⟩, a4, a5, a6, a7⟩ := h
  have y8 := hy.1.2
  have gj : (tDe S).getD j d0A = (tDe S)[j] := by rw [List.getD_eq_getElem?_getD, List.getElem?_eq_getElem hj]; rfl
  have mj : (tDe S).getD j d0A ∈ tDe S := by rw [gj]; exact List.getElem_mem hj
  obtain ⟨dj1, ⟨b, hb8, eb⟩, dj3⟩ := a6 _ mj
  have ot : (tOw S).getD t 0 = -1 := dj3 t ht hb
  have og : ∀ t', t' < 8 → ((tOw S).set t (nI i)).getD t' 0 = if t' = t then nI i else (tOw S).getD t' 0 := fun t' ht' => by
    by_cases w : t' = t
    · subst w
      rw [if_pos rfl, List.getD_eq_getElem?_getD, List.getElem?_set_self (by omega)]; rfl
    · rw [if_neg w, List.getD_eq_getElem?_getD, List.getElem?_set_ne (fun z => w z.symm), ← List.getD_eq_getElem?_getD]
  obtain ⟨c1, c2⟩ := clr_B b hb8 t ht
  have nb : ∀ t', t' < 8 → shrB (((tDe S).getD j d0A).2 &&& ((1 <<< (nI t &&& 31)) ^^^ (-1))) (nI t') = 1 → ¬ t' = t ∧ shrB ((tDe S).getD j d0A).2 (nI t') = 1 := fun t' ht' z => by
    rw [eb, c1, sh_N _ c2 t' ht', clr_t ht ht'] at z
    by_cases w : t' = t
    · rw [if_pos w] at z; exact absurd z (by decide)
    · rw [if_neg w] at z
      rw [eb, sh_N b hb8 t' ht']
      exact ⟨w, z⟩
  -- every DEAD one afterwards: one that was, with no more tablets, and not t
  have dk : ∀ (k : Nat) (hk : k < ((tDe S).set j (((tDe S).getD j d0A).1, ((tDe S).getD j d0A).2 &&& ((1 <<< (nI t &&& 31)) ^^^ (-1)))).length), ∃ hk' : k < (tDe S).length, (((tDe S).set j (((tDe S).getD j d0A).1, ((tDe S).getD j d0A).2 &&& ((1 <<< (nI t &&& 31)) ^^^ (-1))))[k]).1 = (tDe S)[k].1 ∧ (∃ b, b < 256 ∧ (((tDe S).set j (((tDe S).getD j d0A).1, ((tDe S).getD j d0A).2 &&& ((1 <<< (nI t &&& 31)) ^^^ (-1))))[k]).2 = nI b) ∧ ∀ t', t' < 8 → shrB (((tDe S).set j (((tDe S).getD j d0A).1, ((tDe S).getD j d0A).2 &&& ((1 <<< (nI t &&& 31)) ^^^ (-1))))[k]).2 (nI t') = 1 → ¬ t' = t ∧ shrB (tDe S)[k].2 (nI t') = 1 := fun k hk => by
    have hk' : k < (tDe S).length := by rw [List.length_set] at hk; exact hk
    refine ⟨hk', ?_⟩
    rw [List.getElem_set]
    by_cases w : j = k
    · subst w
      rw [if_pos rfl]
      refine ⟨by show ((tDe S).getD j d0A).1 = _; rw [gj], ⟨_, c2, by show ((tDe S).getD j d0A).2 &&& _ = _; rw [eb]; exact c1⟩, fun t' ht' z => ?_⟩
      have := nb t' ht' z
      rw [gj] at this
      exact this
    · rw [if_neg w]
      have mk := a6 _ (List.getElem_mem hk')
      refine ⟨rfl, mk.2.1, fun t' ht' z => ⟨fun e => ?_, z⟩⟩
      subst e
      rw [gj] at hb
      rcases Nat.lt_or_gt_of_ne w with w | w
      · exact (List.pairwise_iff_getElem.mp a7 j k hj hk' w) t' ht' hb z
      · exact (List.pairwise_iff_getElem.mp a7 k j hk' hj w) t' ht' z hb
  refine ⟨⟨by show ((tSv S).set i _).length = _; rw [List.length_set]; exact a1, by show ((tOw S).set t _).length = _; rw [List.length_set]; exact a2, by show ((tDe S).set j _).length ≤ _; rw [List.length_set]; exact a3⟩, fun t' ht' => ?_, fun k hk => ?_, fun d hd => ?_, ?_⟩
  · show ((tOw S).set t (nI i)).getD t' 0 = -1 ∨ ∃ k, k < y 20 ∧ ((tOw S).set t (nI i)).getD t' 0 = nI k
    rw [og t' ht']
    by_cases w : t' = t
    · rw [if_pos w]; exact Or.inr ⟨i, hi, rfl⟩
    · rw [if_neg w]; exact a4 t' ht'
  · show SX y cl B (tNm S) ((tOw S).set t (nI i)) k (((tSv S).set i (tbX ((tSv S).getD i sr0) t)).getD k sr0)
    by_cases w : i = k
    · subst w
      rw [gd_eq (by omega)]
      obtain ⟨b1, ⟨tb, tb1, tb2⟩, b3, ⟨b4, b5⟩, b6, b7, b8, b9⟩ := a5 i hi
      obtain ⟨o1, o2⟩ := or_N tb tb1 t ht
      have ob : ∀ t', t' < 8 → shrB (sTb (tbX ((tSv S).getD i sr0) t)) (nI t') = if t' = t then 1 else shrB (sTb ((tSv S).getD i sr0)) (nI t') := fun t' ht' => by
        show shrB (sTb ((tSv S).getD i sr0) ||| (1 <<< (nI t &&& 31))) (nI t') = _
        rw [tb2]; exact tb_or tb1 ht ht'
      have tk : ∀ ky, tbK (sTb ((tSv S).getD i sr0)) ky → tbK (sTb (tbX ((tSv S).getD i sr0) t)) ky := fun ky ⟨t', h1, h2, h3⟩ => ⟨t', h1, h2, by
        rw [ob t' h1]
        split
        · rfl
        · exact h3⟩
      refine ⟨b1, ⟨tb ||| 2 ^ t, o2, by show sTb ((tSv S).getD i sr0) ||| _ = _; rw [tb2]; exact o1⟩, b3, ⟨b4, b5.1, fun p hp => ⟨fun z => ⟨((b5.2 p hp).1 z).1, tk _ ((b5.2 p hp).1 z).2⟩, fun z => tk _ ((b5.2 p hp).2 z)⟩⟩, fun z t' ht' hb' => ?_, b7, fun z => absurd hl z, b9⟩
      rw [og t' ht']
      rw [ob t' ht'] at hb'
      by_cases w : t' = t
      · rw [if_pos w]
      · rw [if_neg w] at hb' ⊢
        exact b6 z t' ht' hb'
    · rw [gd_ne w]
      obtain ⟨b1, b2, b3, b4, b5, b6⟩ := a5 k hk
      refine ⟨b1, b2, b3, b4, fun z t' ht' hb' => ?_, b6⟩
      have o := b5 z t' ht' hb'
      rw [og t' ht', if_neg (fun e => nIx_m1 (j := k) (by omega) (by rw [← o, e]; exact ot))]
      exact o
  · show DX y cl B (tNm S) ((tOw S).set t (nI i)) d
    obtain ⟨k, hk, e⟩ := List.getElem_of_mem hd
    obtain ⟨hk', e1, e2, e3⟩ := dk k hk
    have mk := a6 _ (List.getElem_mem hk')
    subst e
    refine ⟨?_, e2, fun t' ht' z => ?_⟩
    · have mk1 := mk.1
      rw [← e1] at mk1
      exact mk1
    · obtain ⟨n1, n2⟩ := e3 t' ht' z
      rw [og t' ht', if_neg n1]
      exact mk.2.2 t' ht' n2
  · show ((tDe S).set j _).Pairwise djM
    refine List.pairwise_iff_getElem.mpr (fun k m hk hm w t' ht' z1 z2 => ?_)
    obtain ⟨hk', -, -, k3⟩ := dk k hk
    obtain ⟨hm', -, -, m3⟩ := dk m hm
    exact (List.pairwise_iff_getElem.mp a7 k m hk' hm' w) t' ht' (k3 t' ht' z1).2 (m3 t' ht' z2).2
theorem CX.sf (h : CX y cl B S) (hi : i < y 20) (h1 : sSf ((tSv S).getD i sr0) ≤ v) (h2 : v ≤ B) : CX y cl B (sfS S i v) := h.sv (i := i) rfl rfl rfl (Nat.le_refl _) (fun _ => by
  obtain ⟨b1, b2, b3, ⟨b4, b5⟩, b6⟩ := h.2.2.1 i hi
  exact ⟨b1, b2, ⟨Int32.le_trans b3.1 h1, h2⟩, ⟨b4, b5.sff h1⟩, b6⟩)
/-- a SERVER's numbers but its LOG -/
def sNo (x : srA) : Int32 × Int32 × Int32 × Int32 × Int32 × Int32 × Int32 × Option alT := (sSt x, sFe x, sLo x, sTb x, sSf x, sCu x, sMi x, sLL x)
theorem CX.ktk2 {gr : Int32} (h : CX y cl B S) (hy : yOK y) (hi : i < y 20) (hf : sFe ((tSv S).getD i sr0) = 0) (hl : sLo ((tSv S).getD i sr0) = 0) (hg : gr ≤ B) : CX y cl B (tk2 y gr S i) := by
  unfold tk2
  split
  · exact h
  · next w =>
    have ls : i < (tSv S).length := by rw [h.1.1]; exact hi
    have h1 := h.sf hi (v := gr) (Int32.le_of_lt (Int32.not_le.mp w)) hg
    refine h1.op hy hi ?_ ?_
    · show sFe (((tSv S).set i _).getD i sr0) = 0
      rw [gd_eq ls]; exact hf
    · show sLo (((tSv S).set i _).getD i sr0) = 0
      rw [gd_eq ls]; exact hl
theorem kU_n (p : pT) : ∃ n, kU (pKd p) = nI n ∧ 1 ≤ n ∧ n ≤ 2 ∧ unsA [p] = nI n := by
  have e : unsA [p] = kU (pKd p) := by
    show 0 + kU (pKd p) = _
    rw [Int32.zero_add]
  unfold kU at e ⊢
  by_cases w : pKd p = 2
  · rw [if_pos w] at e ⊢
    exact ⟨2, rfl, by omega, by omega, e⟩
  · rw [if_neg w] at e ⊢
    exact ⟨1, rfl, by omega, by omega, e⟩
/-- one PART appended: the INVARIANT, and the counts -/
theorem CX.ap (h : CX y cl B S) (hy : yOK y) (hi : i < y 20) (hf : sFe ((tSv S).getD i sr0) = 0) (hl : sLo ((tSv S).getD i sr0) = 0) (hp : PFx cl B p ∧ PO (sSf ((tSv S).getD i sr0)) (sTb ((tSv S).getD i sr0)) p) (q1 : ∀ k v, (allP (sLg ((tSv S).getD i sr0))).countP (qV k v) + [p].countP (qV k v) ≤ 1) (q2 : ∀ c n, (allP (sLg ((tSv S).getD i sr0))).countP (resA c n) + [p].countP (resA c n) ≤ 1) : CX y cl B (apS y i S p) ∧ sNo ((tSv (apS y i S p)).getD i sr0) = sNo ((tSv S).getD i sr0) ∧ (∀ q, (allP (sLg ((tSv (apS y i S p)).getD i sr0))).countP q ≤ (allP (sLg ((tSv S).getD i sr0))).countP q + [p].countP q + dg1 q (sSf ((tSv S).getD i sr0))) := by
  have ls : i < (tSv S).length := by rw [h.1.1]; exact hi
  have sx := h.2.2.1 i hi
  obtain ⟨yy1, yy2, yy3, yy4⟩ := hy
  obtain ⟨n, n1, n2, n3, n4⟩ := kU_n p
  have hrm := h.rm (need := kU (pKd p)) (lim := 0) ⟨yy1, yy2, yy3, yy4⟩ hi hf hl
  obtain ⟨b1, b2, b3, b4, b5⟩ := mkA_o (W := mkrS y S i (kU (pKd p)) 0) rfl h.up yy1.1 yy1.2 hi (by omega) sx.2.2.2.1.1
  have eg := aps_lg (y := y) (p := p) ls
  unfold apS
  by_cases w : (mkrS y S i (kU (pKd p)) 0).2.2.2 = 0
  · rw [if_pos w]
    refine ⟨hrm, ?_, fun q => ?_⟩
    · show sNo (((tSv S).set i _).getD i sr0) = _
      rw [gd_eq ls]; rfl
    · have e2 : sLg ((tSv (rmW S i (mkrS y S i (kU (pKd p)) 0))).getD i sr0) = (mkrS y S i (kU (pKd p)) 0).1 := rm_lg ls
      rw [e2]
      have := b3 q
      omega
  · rw [if_neg w]
    obtain ⟨g, k, g1, g2, g3, g4⟩ := mkA_hd (W := mkrS y S i (kU (pKd p)) 0) (n := n) (by rw [← n1]; rfl) h.up yy1.1 yy1.2 hi yy3.1 yy3.2 (by omega) sx.2.2.2.1.1 w
    have e2 : sLg ((tSv (rmW S i (mkrS y S i (kU (pKd p)) 0))).getD i sr0) = (mkrS y S i (kU (pKd p)) 0).1 := rm_lg ls
    have en : sNo ((tSv (rmW S i (mkrS y S i (kU (pKd p)) 0))).getD i sr0) = sNo ((tSv S).getD i sr0) := by
      show sNo (((tSv S).set i _).getD i sr0) = _
      rw [gd_eq ls]; rfl
    have ls2 : i < (tSv (rmW S i (mkrS y S i (kU (pKd p)) 0))).length := by rw [hrm.1.1]; exact hi
    have sx2 := hrm.2.2.1 i hi
    generalize eS : rmW S i (mkrS y S i (kU (pKd p)) 0) = S2 at hrm e2 en ls2 sx2
    have en1 : sFe ((tSv S2).getD i sr0) = sFe ((tSv S).getD i sr0) := congrArg (·.2.1) en
    have en2 : sLo ((tSv S2).getD i sr0) = sLo ((tSv S).getD i sr0) := congrArg (·.2.2.1) en
    have en3 : sTb ((tSv S2).getD i sr0) = sTb ((tSv S).getD i sr0) := congrArg (·.2.2.2.1) en
    have en4 : sSf ((tSv S2).getD i sr0) = sSf ((tSv S).getD i sr0) := congrArg (·.2.2.2.2.1) en
    have wc : ∀ q, (allP (wrtA (sLg ((tSv S2).getD i sr0)) [p] 100)).countP q = (allP (sLg ((tSv S2).getD i sr0))).countP q + [p].countP q := fun q => wr_c sx2.2.2.2.1.1.1 (by rw [e2]; exact g1)
    have lo : LOx cl B (sSf ((tSv S2).getD i sr0)) (sTb ((tSv S2).getD i sr0)) (wrtA (sLg ((tSv S2).getD i sr0)) [p] 100) := by
      refine sx2.2.2.2.1.2.w wc (Int32.le_refl _) (Int32.le_refl _) (fun p' hp' => ?_) (UQ_c.mpr ⟨fun k v => ?_, fun c n => ?_⟩)
      · rw [List.mem_singleton.mp hp', en3, en4]; exact hp
      · rw [List.countP_append, e2]
        have := b3 (qV k v)
        rw [dg_qV] at this
        have := q1 k v
        omega
      · rw [List.countP_append, e2]
        have := b3 (resA c n)
        rw [dg_rA] at this
        have := q2 c n
        omega
    have lg : LgO (y 20) (y 22) (tNm S2) (wrtA (sLg ((tSv S2).getD i sr0)) [p] 100) := wr_O sx2.2.2.2.1.1 (by rw [e2]; exact g1) g2 n4 g3 yy1.2 (by omega)
    refine ⟨hrm.lg (A := wrtA (sLg ((tSv S2).getD i sr0)) [p] 100) hi (en1.trans hf) (en2.trans hl) rfl rfl rfl (Nat.le_refl _) lg lo, ?_, fun q => ?_⟩
    · show sNo (((tSv S2).set i _).getD i sr0) = _
      rw [gd_eq ls2]
      exact en
    · have e3 : sLg ((tSv (wrS S2 i [p] 100)).getD i sr0) = wrtA (sLg ((tSv S2).getD i sr0)) [p] 100 := by
        show sLg (((tSv S2).set i _).getD i sr0) = _
        rw [gd_eq ls2]; rfl
      rw [e3, wc, e2]
      have := b3 q
      omega
/-- many PARTS appended -/
theorem CX.apl (hy : yOK y) (hi : i < y 20) : ∀ (l : List pT) (S : stA), CX y cl B S → sFe ((tSv S).getD i sr0) = 0 → sLo ((tSv S).getD i sr0) = 0 → (∀ p ∈ l, PFx cl B p ∧ PO (sSf ((tSv S).getD i sr0)) (sTb ((tSv S).getD i sr0)) p) → (∀ k v, (allP (sLg ((tSv S).getD i sr0))).countP (qV k v) + l.countP (qV k v) ≤ 1) → (∀ c n, (allP (sLg ((tSv S).getD i sr0))).countP (resA c n) + l.countP (resA c n) ≤ 1) → CX y cl B (apL y i S l) ∧ sNo ((tSv (apL y i S l)).getD i sr0) = sNo ((tSv S).getD i sr0) := by
  intro l
  induction l with
  | nil => intro S h _ _ _ _ _; exact ⟨h, rfl⟩
  | cons p l ih =>
    intro S h hf hl hp q1 q2
    have c1 : ∀ q, (p :: l).countP q = [p].countP q + l.countP q := fun q => by
      rw [show p :: l = [p] ++ l from rfl, List.countP_append]
    obtain ⟨a1, a2, a3⟩ := h.ap hy hi hf hl (hp p List.mem_cons_self) (fun k v => by have := q1 k v; rw [c1] at this; omega) (fun k v => by have := q2 k v; rw [c1] at this; omega)
    have e1 : sFe ((tSv (apS y i S p)).getD i sr0) = sFe ((tSv S).getD i sr0) := congrArg (·.2.1) a2
    have e2 : sLo ((tSv (apS y i S p)).getD i sr0) = sLo ((tSv S).getD i sr0) := congrArg (·.2.2.1) a2
    have e3 : sTb ((tSv (apS y i S p)).getD i sr0) = sTb ((tSv S).getD i sr0) := congrArg (·.2.2.2.1) a2
    have e4 : sSf ((tSv (apS y i S p)).getD i sr0) = sSf ((tSv S).getD i sr0) := congrArg (·.2.2.2.2.1) a2
    obtain ⟨b1, b2⟩ := ih (apS y i S p) a1 (e1.trans hf) (e2.trans hl) (fun p' hp' => by rw [e3, e4]; exact hp p' (List.mem_cons_of_mem _ hp')) (fun k v => by
      have h1 := a3 (qV k v)
      have h2 := q1 k v
      rw [dg_qV] at h1
      rw [c1] at h2
      omega) (fun k v => by
      have h1 := a3 (resA k v)
      have h2 := q2 k v
      rw [dg_rA] at h1
      rw [c1] at h2
      omega)
    exact ⟨b1, b2.trans a2⟩
end
