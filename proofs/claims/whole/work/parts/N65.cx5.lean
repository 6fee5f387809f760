-- the INVARIANT: a SERVER changes an OBJECT
def clx (cl cl' : List kcT) : Prop := ∀ c n, c < 6 → 1 ≤ n → n ≤ (cl.getD c cl0).1.length → n ≤ (cl'.getD c cl0).1.length ∧ (cl'.getD c cl0).1.getD (n - 1) rq0 = (cl.getD c cl0).1.getD (n - 1) rq0
section
variable {A A1 : alT} {y : Nat → Nat} {i c n k s K nm cc : Nat} {cl cl' : List kcT} {B B' ak sf tb : Int32} {S : stA} {F : fcT} {r : rqT} {d : anT × Option ptT} {ow : List Int32} {x : srA} {np : List pT} {old : Option pT}
theorem clx_r : clx cl cl := fun _ _ _ _ h => ⟨h, rfl⟩
theorem LPx.mo (h : LPx cl B A) (hB : B ≤ B') (hc : clx cl cl') : LPx cl' B' A := ⟨fun p hp => (h.1 p hp).mono hB hc, h.2⟩
theorem SX.mo (h : SX y cl B nm ow i x) (hB : B ≤ B') (hc : clx cl cl') : SX y cl' B' nm ow i x := by
  obtain ⟨a1, a2, a3, ⟨a4, a5⟩, a6, a7, a8, a9⟩ := h
  exact ⟨a1, a2, ⟨a3.1, Int32.le_trans a3.2 hB⟩, ⟨a4, a5.1.mo hB hc, a5.2⟩, a6, a7, a8, fun D hD => ⟨(a9 D hD).1, (a9 D hD).2.mo hB hc⟩⟩
theorem CX.mo (h : CX y cl B S) (hB : B ≤ B') (hc : clx cl cl') : CX y cl' B' S := by
  obtain ⟨a1, a2, a3, a4, a5⟩ := h
  exact ⟨a1, a2, fun i hi => (a3 i hi).mo hB hc, fun d hd => ⟨⟨(a4 d hd).1.1, (a4 d hd).1.2.mo hB hc⟩, (a4 d hd).2⟩, a5⟩
theorem nI_B {v : Int32} (h0 : 0 ≤ v) (h1 : v ≤ nI K) (hK : K < 2 ^ 31) : ∃ s, s ≤ K ∧ v = nI s := by
  refine ⟨v.toNatClampNeg, ?_, ?_⟩
  · have h2 := Int32.le_iff_toInt_le.mp h1
    have e : (nI K).toInt = K := by
      show (Int32.ofNat K).toInt = _
      rw [Int32.toInt_ofNat_of_lt (by omega)]
    rw [e] at h2
    unfold Int32.toNatClampNeg
    omega
  · have h2 := Int32.le_iff_toInt_le.mp h0
    have e0 : (0 : Int32).toInt = 0 := rfl
    rw [e0] at h2
    apply Int32.toInt_inj.mp
    have h3 := Int32.toInt_lt v
    show _ = (Int32.ofNat _).toInt
    rw [Int32.toInt_ofNat_of_lt (by unfold Int32.toNatClampNeg; omega)]
    unfold Int32.toNatClampNeg
    omega
theorem nI_s1 : nI s + 1 = nI (s + 1) := by
  show Int32.ofNat s + Int32.ofNat 1 = Int32.ofNat (s + 1)
  rw [Int32.ofNat_add]
theorem dec_f (hs : s ≤ K) (hK : K < 1000) (ho : ∀ p, old = some p → pVe p ≤ nI K) : (decA (nI s) r old).1.2.2 ≤ nI (K + 1) ∧ ∀ v, (decA (nI s) r old).2 = some v → (v.1 = 2 ∨ v.1 = 3) ∧ v.2.2.2.1 = r.2.1 ∧ v.2.2.2.2.2.2.1 = nI (s + 1) := by
  have l1 : nI K ≤ nI (K + 1) := (nI_le_iff (by omega) (by omega)).mpr (by omega)
  have l2 : nI s + 1 ≤ nI (K + 1) := by rw [nI_s1]; exact (nI_le_iff (by omega) (by omega)).mpr (by omega)
  have l3 : (0 : Int32) ≤ nI (K + 1) := (nI_le_iff (a := 0) (by omega) (by omega)).mpr (by omega)
  unfold decA
  split
  · refine ⟨?_, fun v hv => by cases hv⟩
    show oVe old ≤ _
    cases old with
    | none => exact l3
    | some p => exact Int32.le_trans (ho p rfl) l1
  · split
    · split
      · exact ⟨l3, fun v hv => by cases hv⟩
      · refine ⟨l2, fun v hv => ?_⟩
        cases hv
        exact ⟨Or.inr rfl, rfl, nI_s1⟩
    · refine ⟨l2, fun v hv => ?_⟩
      cases hv
      exact ⟨Or.inl rfl, rfl, nI_s1⟩
/-- what a change writes -/
def chP (A1 : List agT) (c n : Nat) (r : rqT) (ak : Int32) (d : anT × Option ptT) : List pT := (d.2.map (effQ A1)).toList ++ [resQ c n r ak d.1]
theorem ch_u {L : List agT} (hd : ∀ v, d.2 = some v → v.1 = 2 ∨ v.1 = 3) : ∃ n0, n0 ≤ 3 ∧ unQ d.2 = nI n0 ∧ unsA (chP L c n r ak d) = nI n0 := by
  obtain ⟨d1, d2⟩ := d
  cases d2 with
  | none => exact ⟨1, by omega, rfl, rfl⟩
  | some v =>
    rcases hd v rfl with w | w
    · refine ⟨3, by omega, ?_, ?_⟩
      · show 1 + kU v.1 = _
        rw [w]; rfl
      · show 0 + kU v.1 + 1 = _
        rw [w]; rfl
    · refine ⟨2, by omega, ?_, ?_⟩
      · show 1 + kU v.1 = _
        rw [w]; rfl
      · show 0 + kU v.1 + 1 = _
        rw [w]; rfl
theorem ch_p {L : List agT} {p : pT} (hp : p ∈ chP L c n r ak d) : p = resQ c n r ak d.1 ∨ ∃ v, d.2 = some v ∧ p = effQ L v := by
  unfold chP at hp
  rcases List.mem_append.mp hp with w | w
  · obtain ⟨v, v1, v2⟩ := Option.map_eq_some_iff.mp (Option.mem_toList.mp w)
    exact Or.inr ⟨v, v1, v2.symm⟩
  · exact Or.inl (List.mem_singleton.mp w)
/-- the PARTS that a change writes are as they must be -/
theorem ch_PF {L : List agT} (hs : s ≤ K) (hK : K < 1000) (hv : d.1.2.2 ≤ nI (K + 1)) (hd : ∀ v, d.2 = some v → (v.1 = 2 ∨ v.1 = 3) ∧ v.2.2.2.1 = r.2.1 ∧ v.2.2.2.2.2.2.1 = nI (s + 1)) (hc : c < 6) (h1 : 1 ≤ n) (hn : n ≤ (cl.getD c cl0).1.length) (er : r = (cl.getD c cl0).1.getD (n - 1) rq0) (hk : k < 64) (ek : r.2.1 = nI k) (ha : ak ≤ nI n) (ht : tbK tb r.2.1) : ∀ p ∈ chP L c n r ak d, PFx cl (nI (K + 1)) p ∧ PO (if d.2.isSome = true then nI (s + 1) else nI s) tb p := fun p hp => by
  rcases ch_p hp with rfl | ⟨v, v1, rfl⟩
  · refine ⟨⟨⟨fun _ => ⟨c, hc, rfl⟩, fun z => absurd rfl z⟩, (show ¬ (4 : Int32) = -1 by decide), fun z => absurd rfl z, hv, fun _ => ⟨ha, c, n, hc, h1, hn, rfl, rfl, ?_⟩⟩, fun z => absurd rfl z, fun _ => ht⟩
    show r.2.1 = _
    rw [← er]
  · obtain ⟨e1, e2, e3⟩ := hd v v1
    have k1 : pKd (effQ L v) = v.1 := rfl
    have k2 : pKy (effQ L v) = r.2.1 := e2
    have k3 : pVe (effQ L v) = nI (s + 1) := e3
    have kk : kT (pKd (effQ L v)) = 0 ∧ ¬ pKd (effQ L v) = -1 ∧ ¬ pKd (effQ L v) = 4 := by
      rw [k1]
      rcases e1 with w | w <;> rw [w] <;> decide
    rw [v1]
    refine ⟨⟨⟨fun z => absurd kk.1 z, fun _ => ⟨k, hk, k2.trans ek⟩⟩, kk.2.1, fun _ => ?_, ?_, fun z => absurd z kk.2.2⟩, fun _ => ⟨?_, by rw [k2]; exact ht⟩, fun z => absurd z kk.2.2⟩
    · rw [k3]; exact (nI_le_iff (a := 1) (by omega) (by omega)).mpr (by omega)
    · rw [k3]; exact (nI_le_iff (by omega) (by omega)).mpr (by omega)
    · rw [k3]; exact Int32.le_refl _
theorem ch_UQ {L : List agT} (hs : s < 1000) (u : UQ (allP A1)) (hsf : ∀ p ∈ allP A1, ¬ kM (pKd p) = 0 → pVe p ≤ nI s) (hno : ∀ p ∈ allP A1, ¬ resA (nI c) (nI n) p = true) (hd : ∀ v, d.2 = some v → (v.1 = 2 ∨ v.1 = 3) ∧ v.2.2.2.1 = r.2.1 ∧ v.2.2.2.2.2.2.1 = nI (s + 1)) : UQ (allP A1 ++ chP L c n r ak d) := by
  have rk : ∀ a, ¬ smV a (resQ c n r ak d.1) := fun a z => z.2.1 rfl
  have ek : ∀ v, d.2 = some v → ¬ pKd (effQ L v) = 4 := fun v hv z => by
    have z : v.1 = 4 := z
    rcases (hd v hv).1 with w | w <;> rw [w] at z <;> revert z <;> decide
  refine List.pairwise_append.mpr ⟨u, ?_, fun a ha b hb => ?_⟩
  · unfold chP
    cases e : d.2 with
    | none => exact List.pairwise_singleton _ _
    | some v =>
      refine List.pairwise_cons.mpr ⟨fun b hb => ?_, List.pairwise_singleton _ _⟩
      rw [List.mem_singleton.mp hb]
      exact ⟨rk _, fun z => ek v e z.1⟩
  · rcases ch_p hb with rfl | ⟨v, v1, rfl⟩
    · exact ⟨rk a, fun z => hno a ha (resA_t.mpr ⟨z.1, z.2.2.1, z.2.2.2⟩)⟩
    · refine ⟨fun z => ?_, fun z => ek v v1 z.2.1⟩
      have h1 := hsf a ha z.1
      rw [z.2.2.2, show pVe (effQ L v) = nI (s + 1) from (hd v v1).2.2, nI_le_iff (by omega) (by omega)] at h1
      omega
theorem SX.wr (h : SX y cl B nm ow i x) (hf : sFe x = 0) (hl : sLo x = 0) {sf' : Int32} (L : LgO (y 20) (y 22) nm A) (h1 : sSf x ≤ sf') (h2 : sf' ≤ B) (o : LOx cl B sf' (sTb x) A) : SX y cl B nm ow i (sfX (stLg x A) sf') := by
  obtain ⟨a1, a2, a3, ⟨a4, a5⟩, a6, a7, a8, a9⟩ := h
  exact ⟨a1, a2, ⟨Int32.le_trans a3.1 h1, h2⟩, ⟨L, o⟩, a6, fun z => absurd hf z, fun z => absurd hl z, a9⟩
theorem tb_lo (h : SX y cl B nm ow i x) {ky : Int32} (ht : tbK (sTb x) ky) : sLo x = 0 := by
  by_cases w : sLo x = 0
  · exact w
  · obtain ⟨t, t1, t2, t3⟩ := ht
    rw [(h.2.2.2.2.2.2.1 w).2] at t3
    exact absurd t3 (shx_0 t1)
theorem CX.kchgB (h : CX y (fCl F) (nI K) (fSt F)) (hy : yOK y) (hK : K < 900) (hi : i < y 20) (hf : sFe ((tSv (fSt F)).getD i sr0) = 0) (hc : c < 6) (h1 : 1 ≤ n) (hn : n ≤ ((fCl F).getD c cl0).1.length) (er : r = rqF F c n) (hk : k < 64) (ek : r.2.1 = nI k) (ha : ak ≤ nI n) (ht : tbK (sTb ((tSv (fSt F)).getD i sr0)) r.2.1) (hno : (allP (sLg ((tSv (fSt F)).getD i sr0))).find? (resA (nI c) (nI n)) = none) : CX y (fCl F) (nI (K + 1)) (fSt (chgB y F i c n r ak (chD F i r)).1) := by
  have sx := h.2.2.1 i hi
  have hl := tb_lo sx ht
  have yy := hy
  obtain ⟨⟨y1, y2⟩, yy2, ⟨y3, y4⟩, yy4⟩ := hy
  have ls : i < (tSv (fSt F)).length := by rw [h.1.1]; exact hi
  obtain ⟨s, s1, s2⟩ := nI_B sx.2.2.1.1 sx.2.2.1.2 (by omega)
  have hB : nI K ≤ nI (K + 1) := (nI_le_iff (by omega) (by omega)).mpr (by omega)
  have ho : ∀ p, objA r.2.1 (sLg ((tSv (fSt F)).getD i sr0)).1 = some p → pVe p ≤ nI K := fun p hp => by
    rw [objA_S sx.2.2.2.1.2.1.2 (fun p hp k => (sx.2.2.2.1.2.1.1 p hp).2.2.1 k)] at hp
    exact (sx.2.2.2.1.2.1.1 p (List.mem_of_find?_eq_some hp)).2.2.2.1
  have df := dec_f (r := r) (old := objA r.2.1 (sLg ((tSv (fSt F)).getD i sr0)).1) s1 (by omega) ho
  have ed : chD F i r = decA (nI s) r (objA r.2.1 (sLg ((tSv (fSt F)).getD i sr0)).1) := by
    unfold chD
    rw [s2]
  rw [← ed] at df
  clear ed ho
  generalize chD F i r = d at df ⊢
  have hrm := h.rm (need := unQ d.2) (lim := 1) yy hi hf hl
  obtain ⟨b1, b2, b3, b4, b5⟩ := mkA_o (W := mkrS y (fSt F) i (unQ d.2) 1) rfl h.up y1 y2 hi (by omega) sx.2.2.2.1.1
  have eW : chW y (fSt F) i d.2 = mkrS y (fSt F) i (unQ d.2) 1 := rfl
  unfold chgB
  rw [eW]
  by_cases w : (mkrS y (fSt F) i (unQ d.2) 1).2.2.2 = 0
  · rw [if_pos w]
    exact hrm.mo hB clx_r
  · rw [if_neg w]
    obtain ⟨n0, u1, u2, -⟩ := ch_u (c := c) (n := n) (r := r) (ak := ak) (L := []) (d := d) (fun v hv => (df.2 v hv).1)
    obtain ⟨g, kk, g1, g2, g3, g4⟩ := mkA_hd (W := mkrS y (fSt F) i (unQ d.2) 1) (n := n0) (by rw [← u2]; rfl) h.up y1 y2 hi y3 y4 (by omega) sx.2.2.2.1.1 w
    have lo1 := sx.2.2.2.1.2.cn b3 sx.2.2.1.2
    have ex : (tSv (rmW (fSt F) i (mkrS y (fSt F) i (unQ d.2) 1))).getD i sr0 = stLg ((tSv (fSt F)).getD i sr0) (mkrS y (fSt F) i (unQ d.2) 1).1 := gd_eq ls
    have pf := ch_PF (cl := fCl F) (tb := sTb ((tSv (fSt F)).getD i sr0)) (L := (mkrS y (fSt F) i (unQ d.2) 1).1.1) (ak := ak) s1 (by omega) df.1 df.2 hc h1 hn er hk ek ha ht
    have uq := ch_UQ (A1 := (mkrS y (fSt F) i (unQ d.2) 1).1) (L := (mkrS y (fSt F) i (unQ d.2) 1).1.1) (c := c) (n := n) (ak := ak) (s := s) (r := r) (by omega) lo1.1.2 (fun p hp z => by rw [← s2]; exact ((lo1.2 p hp).1 z).1) (fun p hp z => by
      rcases cn_in b3 p hp with q | q
      · exact List.find?_eq_none.mp hno p q z
      · rw [q] at z
        exact absurd (resA_t.mp z).1 (show ¬ (0 : Int32) = 4 by decide)) df.2
    obtain ⟨n1, n1b, u3, u4⟩ := ch_u (c := c) (n := n) (r := r) (ak := ak) (L := (mkrS y (fSt F) i (unQ d.2) 1).1.1) (d := d) (fun v hv => (df.2 v hv).1)
    have u5 : unsA (chP (mkrS y (fSt F) i (unQ d.2) 1).1.1 c n r ak d) = nI n0 := u4.trans (u3.symm.trans u2)
    have eS2 : chS2 y (fSt F) i c n r ak d = wrS (rmW (fSt F) i (mkrS y (fSt F) i (unQ d.2) 1)) i (chP (mkrS y (fSt F) i (unQ d.2) 1).1.1 c n r ak d) (cpN (sCu ((tSv (fSt F)).getD i sr0))) := rfl
    rw [eS2]
    have sx2 := (hrm.mo hB clx_r).2.2.1 i hi
    have hrm := hrm.mo hB (clx_r (cl := fCl F))
    have b1' : LgO (y 20) (y 22) (tNm (rmW (fSt F) i (mkrS y (fSt F) i (unQ d.2) 1))) (mkrS y (fSt F) i (unQ d.2) 1).1 := b1
    generalize chP (mkrS y (fSt F) i (unQ d.2) 1).1.1 c n r ak d = np at *
    have eo : tOw (rmW (fSt F) i (mkrS y (fSt F) i (unQ d.2) 1)) = tOw (fSt F) := rfl
    generalize rmW (fSt F) i (mkrS y (fSt F) i (unQ d.2) 1) = S2 at *
    generalize mkrS y (fSt F) i (unQ d.2) 1 = W at *
    have wc : ∀ cc q, (allP (wrtA W.1 np cc)).countP q = (allP W.1).countP q + np.countP q := fun cc q => wr_c b1.1 g1
    have lp : ∀ cc, LPx (fCl F) (nI (K + 1)) (wrtA W.1 np cc) := fun cc => LPx.w (wc cc) lo1.1 hB (fun p hp => (pf p hp).1) uq
    have ls2 : i < (tSv S2).length := by rw [hrm.1.1]; exact hi
    have eL : sLg ((tSv S2).getD i sr0) = W.1 := by rw [ex]; rfl
    have eT : sTb ((tSv S2).getD i sr0) = sTb ((tSv (fSt F)).getD i sr0) := by rw [ex]; rfl
    have eF : sFe ((tSv S2).getD i sr0) = 0 := by rw [ex]; exact hf
    have eO : sLo ((tSv S2).getD i sr0) = 0 := by rw [ex]; exact hl
    have eZ : sSf ((tSv S2).getD i sr0) = nI s := by rw [ex]; exact s2
    have e3 : ∀ cc, tSv (wrS S2 i np cc) = (tSv S2).set i (stLg ((tSv S2).getD i sr0) (wrtA W.1 np cc)) := fun cc => by
      show (tSv S2).set i (stLg ((tSv S2).getD i sr0) (wrtA (sLg ((tSv S2).getD i sr0)) np cc)) = _
      rw [eL]
    by_cases wc2 : ¬ sCu ((tSv (fSt F)).getD i sr0) = -1
    · rw [if_pos wc2]
      show CX y (fCl F) (nI (K + 1)) (bdA (wrS S2 i np (cpN (sCu ((tSv (fSt F)).getD i sr0)))) i)
      generalize cpN (sCu ((tSv (fSt F)).getD i sr0)) = cc
      refine hrm.sv (i := i) (x' := bdS (tOw S2) i (stLg ((tSv S2).getD i sr0) (wrtA W.1 np cc))) ?_ rfl rfl (Nat.le_refl _) (fun _ => sx2.bd (Nat.le_refl _) ⟨wr_D b1' g1, lp cc⟩ rfl)
      show (tSv (wrS S2 i np cc)).set i (bdS (tOw S2) i ((tSv (wrS S2 i np cc)).getD i sr0)) = _
      rw [e3, gd_eq ls2, List.set_set]
    · rw [if_neg wc2]
      have ec : cpN (sCu ((tSv (fSt F)).getD i sr0)) = 100 := by
        unfold cpN
        rw [if_pos (Decidable.not_not.mp wc2)]
      rw [ec]
      have lgo : LgO (y 20) (y 22) (tNm S2) (wrtA W.1 np 100) := wr_O b1' g1 g2 u5 g3 y2 (by omega)
      have lo : LOx (fCl F) (nI (K + 1)) (if d.2.isSome = true then nI (s + 1) else nI s) (sTb ((tSv S2).getD i sr0)) (wrtA W.1 np 100) := by
        rw [eT]
        refine LOx.w (wc 100) lo1 hB ?_ pf uq
        rw [s2]
        split
        · exact (nI_le_iff (by omega) (by omega)).mpr (by omega)
        · exact Int32.le_refl _
      by_cases wd : d.2.isSome = true
      · rw [if_pos wd] at lo
        show CX y (fCl F) (nI (K + 1)) (if d.2.isSome = true then sfS (wrS S2 i np 100) i (sSf ((tSv (fSt F)).getD i sr0) + 1) else wrS S2 i np 100)
        rw [if_pos wd, s2, nI_s1]
        refine hrm.sv (i := i) (x' := sfX (stLg ((tSv S2).getD i sr0) (wrtA W.1 np 100)) (nI (s + 1))) ?_ rfl rfl (Nat.le_refl _) (fun _ => sx2.wr eF eO lgo (by rw [eZ]; exact (nI_le_iff (by omega) (by omega)).mpr (by omega)) ((nI_le_iff (by omega) (by omega)).mpr (by omega)) lo)
        show (tSv (wrS S2 i np 100)).set i (sfX ((tSv (wrS S2 i np 100)).getD i sr0) (nI (s + 1))) = _
        rw [e3, gd_eq ls2, List.set_set]
      · rw [if_neg wd] at lo
        show CX y (fCl F) (nI (K + 1)) (if d.2.isSome = true then sfS (wrS S2 i np 100) i (sSf ((tSv (fSt F)).getD i sr0) + 1) else wrS S2 i np 100)
        rw [if_neg wd]
        refine hrm.sv (i := i) (x' := sfX (stLg ((tSv S2).getD i sr0) (wrtA W.1 np 100)) (nI s)) ?_ rfl rfl (Nat.le_refl _) (fun _ => sx2.wr eF eO lgo (by rw [eZ]; exact Int32.le_refl _) ((nI_le_iff (by omega) (by omega)).mpr (by omega)) lo)
        rw [e3]
        congr 1
        rw [← eZ]
        rfl
end
