-- the INVARIANT of the store, and the small steps that keep it
def SX (y : Nat → Nat) (cl : List kcT) (B : Int32) (nm : Nat) (ow : List Int32) (i : Nat) (x : srA) : Prop := SvI x ∧ (∃ b, b < 256 ∧ sTb x = nI b) ∧ ((0 : Int32) ≤ sSf x ∧ sSf x ≤ B) ∧ (LgO (y 20) (y 22) nm (sLg x) ∧ LOx cl B (sSf x) (sTb x) (sLg x)) ∧ (sFe x = 0 → ∀ t, t < 8 → shrB (sTb x) (nI t) = 1 → ow.getD t 0 = nI i) ∧ (¬ sFe x = 0 → sLg x = e0L) ∧ (¬ sLo x = 0 → sLg x = e0L ∧ sTb x = 0) ∧ ∀ D, sLL x = some D → LgD (y 20) nm D ∧ LPx cl B D
def DX (y : Nat → Nat) (cl : List kcT) (B : Int32) (nm : Nat) (ow : List Int32) (d : alT × Int32) : Prop := (LgD (y 20) nm d.1 ∧ LPx cl B d.1) ∧ (∃ b, b < 256 ∧ d.2 = nI b) ∧ ∀ t, t < 8 → shrB d.2 (nI t) = 1 → ow.getD t 0 = -1
def djM (d d' : alT × Int32) : Prop := ∀ t, t < 8 → shrB d.2 (nI t) = 1 → ¬ shrB d'.2 (nI t) = 1
def CX (y : Nat → Nat) (cl : List kcT) (B : Int32) (S : stA) : Prop := ((tSv S).length = y 20 ∧ (tOw S).length = 8 ∧ (tDe S).length ≤ 16) ∧ owOK y S ∧ (∀ i, i < y 20 → SX y cl B (tNm S) (tOw S) i ((tSv S).getD i sr0)) ∧ (∀ d ∈ tDe S, DX y cl B (tNm S) (tOw S) d) ∧ (tDe S).Pairwise djM
section
variable {A A' : alT} {y : Nat → Nat} {N U nm nm' i : Nat} {cl cl' : List kcT} {B B' : Int32} {S S' : stA} {x x' : srA} {ow : List Int32} {d : alT × Int32}
theorem LgO.nmm (L : LgO N U nm A) (h : nm ≤ nm') : LgO N U nm' A := ⟨L.1, fun u hu => ⟨Nat.lt_of_lt_of_le (L.2.1 u hu).1 h, (L.2.1 u hu).2⟩, L.2.2⟩
theorem LgD.nmm (L : LgD N nm A) (h : nm ≤ nm') : LgD N nm' A := ⟨L.1, fun u hu => ⟨Nat.lt_of_lt_of_le (L.2.1 u hu).1 h, (L.2.1 u hu).2⟩, L.2.2⟩
theorem SX.nmm (h : SX y cl B nm ow i x) (hn : nm ≤ nm') : SX y cl B nm' ow i x := by
  obtain ⟨a1, a2, a3, ⟨a4, a5⟩, a6, a7, a8, a9⟩ := h
  exact ⟨a1, a2, a3, ⟨a4.nmm hn, a5⟩, a6, a7, a8, fun D hD => ⟨(a9 D hD).1.nmm hn, (a9 D hD).2⟩⟩
theorem DX.nmm (h : DX y cl B nm ow d) (hn : nm ≤ nm') : DX y cl B nm' ow d := ⟨⟨h.1.1.nmm hn, h.1.2⟩, h.2⟩
theorem gd_eq {f : srA} (hi : i < (tSv S).length) : ((tSv S).set i f).getD i sr0 = f := by
  rw [List.getD_eq_getElem?_getD, List.getElem?_set_self hi]; rfl
theorem gd_ne {f : srA} {j : Nat} (h : ¬ i = j) : ((tSv S).set i f).getD j sr0 = (tSv S).getD j sr0 := by
  rw [List.getD_eq_getElem?_getD, List.getElem?_set_ne h, ← List.getD_eq_getElem?_getD]
theorem CX.sv (h : CX y cl B S) (e : tSv S' = (tSv S).set i x') (eo : tOw S' = tOw S) (ed : tDe S' = tDe S) (hn : tNm S ≤ tNm S') (hx : i < y 20 → SX y cl B (tNm S') (tOw S) i x') : CX y cl B S' := by
  obtain ⟨⟨a1, a2, a3⟩, a4, a5, a6, a7⟩ := h
  refine ⟨⟨by rw [e, List.length_set]; exact a1, by rw [eo]; exact a2, by rw [ed]; exact a3⟩, fun t ht => by rw [eo]; exact a4 t ht, fun j hj => ?_, fun d hd => ?_, by rw [ed]; exact a7⟩
  · rw [e, eo]
    by_cases w : i = j
    · subst w
      rw [gd_eq (by omega)]
      exact hx hj
    · rw [gd_ne w]
      exact (a5 j hj).nmm hn
  · rw [eo]
    rw [ed] at hd
    exact (a6 d hd).nmm hn
theorem shx_0 {t : Nat} (ht : t < 8) : ¬ shrB 0 (nI t) = 1 := by
  have := sh_N 0 (by omega) t ht
  rw [show nI 0 = 0 from rfl, if_neg (by rw [Nat.zero_testBit]; decide)] at this
  rw [this]; decide
theorem SX.em (h : SX y cl B nm ow i x) : SX y cl B nm ow i (emS x) := by
  obtain ⟨⟨s1, s2, s3, s4, s5⟩, a2, a3, ⟨a4, a5⟩, a6, a7, a8, a9⟩ := h
  exact ⟨⟨s1, Or.inl rfl, s3, s4, Or.inl rfl⟩, ⟨0, by omega, rfl⟩, ⟨Int32.le_refl _, Int32.le_trans a3.1 a3.2⟩, ⟨LgO.e, LOx.e⟩, fun _ t ht z => absurd z (shx_0 ht), fun z => absurd rfl z, fun _ => ⟨rfl, rfl⟩, a9⟩
theorem CX.fg (h : CX y cl B S) (hi : i < y 20) : CX y cl B (fgA S i) := h.sv (i := i) rfl rfl rfl (Nat.le_refl _) (fun _ => (h.2.2.1 i hi).em)
theorem SX.bd (h : SX y cl B nm ow i x) (hn : nm ≤ nm') (hA : LgD (y 20) nm' A ∧ LPx cl B A) {sx : srA} (e : sx = stLg x A) : SX y cl B nm' ow i (bdS ow i sx) := by
  obtain ⟨⟨s1, s2, s3, s4, s5⟩, a2, a3, ⟨a4, a5⟩, a6, a7, a8, a9⟩ := h.nmm hn
  subst e
  refine ⟨⟨Or.inr (Or.inr rfl), Or.inl rfl, ?_, ?_, Or.inl rfl⟩, ⟨0, by omega, rfl⟩, ⟨Int32.le_refl _, Int32.le_trans a3.1 a3.2⟩, ⟨LgO.e, LOx.e⟩, fun _ t ht z => absurd z (shx_0 ht), fun z => absurd rfl z, fun _ => ⟨rfl, rfl⟩, fun D hD => ?_⟩
  · show (if sLo x = 0 ∧ ¬ tabA ow (nI i) ≤ 0 then (1 : Int32) else sLo x) = 0 ∨ (if sLo x = 0 ∧ ¬ tabA ow (nI i) ≤ 0 then (1 : Int32) else sLo x) = 1
    split
    · exact Or.inr rfl
    · exact s3
  · show ((if sLo x = 0 ∧ ¬ tabA ow (nI i) ≤ 0 then (1 : Int32) else sLo x) = 0 ↔ (if sLo x = 0 ∧ ¬ tabA ow (nI i) ≤ 0 then some A else sLL x) = none)
    split
    · exact ⟨fun z => absurd z (by decide), fun z => by cases z⟩
    · exact s4
  · have hD : (if sLo x = 0 ∧ ¬ tabA ow (nI i) ≤ 0 then some A else sLL x) = some D := hD
    split at hD
    · cases hD; exact hA
    · exact a9 D hD
theorem CX.bd (h : CX y cl B S) (hi : i < y 20) : CX y cl B (bdA S i) := h.sv (i := i) rfl rfl rfl (Nat.le_refl _) (fun _ => (h.2.2.1 i hi).bd (Nat.le_refl _) ⟨(h.2.2.1 i hi).2.2.2.1.1.d, (h.2.2.1 i hi).2.2.2.1.2.1⟩ (by rfl))
theorem CX.st (h : CX y cl B S) (hi : i < y 20) {v : Int32} (hv : v = 0 ∨ v = 1 ∨ v = 2) : CX y cl B (stS S i v) := h.sv (i := i) rfl rfl rfl (Nat.le_refl _) (fun _ => by
  obtain ⟨⟨s1, s2⟩, a⟩ := h.2.2.1 i hi
  exact ⟨⟨hv, s2⟩, a⟩)
theorem CX.cu (h : CX y cl B S) (hi : i < y 20) {v : Int32} (hv : v = -1 ∨ ∃ k, k ≤ 3 ∧ v = nI k) : CX y cl B (cuS S i v) := h.sv (i := i) rfl rfl rfl (Nat.le_refl _) (fun _ => by
  obtain ⟨⟨s1, s2, s3, s4, s5⟩, a⟩ := h.2.2.1 i hi
  exact ⟨⟨s1, s2, s3, s4, hv⟩, a⟩)
theorem CX.aw (h : CX y cl B S) {v : Int32} : CX y cl B (awS S v) := h
theorem CX.ms (h : CX y cl B S) (hi : i < y 20) : CX y cl B (mssS S i) := h.sv (i := i) rfl rfl rfl (Nat.le_refl _) (fun _ => by
  obtain ⟨⟨s1, s2, s3, s4, s5⟩, a⟩ := h.2.2.1 i hi
  exact ⟨⟨s1, s2, s3, s4, s5⟩, a⟩)
/-- a SERVER's own LOG changes -/
theorem SX.lg (h : SX y cl B nm ow i x) (hf : sFe x = 0) (hl : sLo x = 0) (hn : nm ≤ nm') (L : LgO (y 20) (y 22) nm' A) (o : LOx cl B (sSf x) (sTb x) A) : SX y cl B nm' ow i (stLg x A) := by
  obtain ⟨a1, a2, a3, ⟨a4, a5⟩, a6, a7, a8, a9⟩ := h.nmm hn
  exact ⟨a1, a2, a3, ⟨L, o⟩, a6, fun z => absurd hf z, fun z => absurd hl z, a9⟩
theorem CX.lg (h : CX y cl B S) (hi : i < y 20) (hf : sFe ((tSv S).getD i sr0) = 0) (hl : sLo ((tSv S).getD i sr0) = 0) (e : tSv S' = (tSv S).set i (stLg ((tSv S).getD i sr0) A)) (eo : tOw S' = tOw S) (ed : tDe S' = tDe S) (hn : tNm S ≤ tNm S') (L : LgO (y 20) (y 22) (tNm S') A) (o : LOx cl B (sSf ((tSv S).getD i sr0)) (sTb ((tSv S).getD i sr0)) A) : CX y cl B S' :=
  h.sv e eo ed hn (fun _ => (h.2.2.1 i hi).lg hf hl hn L o)
theorem CX.up (h : CX y cl B S) : UPR (fun i => sSt ((tSv S).getD i sr0)) (y 20) (upN (tSv S)) := by
  have := srv_up (sv := tSv S)
  rw [h.1.1] at this
  exact this
/-- room is made -/
theorem CX.rm {need lim : Int32} (h : CX y cl B S) (hy : yOK y) (hi : i < y 20) (hf : sFe ((tSv S).getD i sr0) = 0) (hl : sLo ((tSv S).getD i sr0) = 0) : CX y cl B (rmW S i (mkrS y S i need lim)) := by
  obtain ⟨⟨y1, y2⟩, -, ⟨y3, y4⟩, -⟩ := hy
  have sx := h.2.2.1 i hi
  obtain ⟨b1, b2, b3, -⟩ := mkA_o (W := mkrS y S i need lim) rfl h.up y1 y2 hi (by omega) sx.2.2.2.1.1
  exact h.lg hi hf hl rfl rfl rfl b2.1 b1 (sx.2.2.2.1.2.cn b3 sx.2.2.1.2)
theorem CX.op {lim : Int32} (h : CX y cl B S) (hy : yOK y) (hi : i < y 20) (hf : sFe ((tSv S).getD i sr0) = 0) (hl : sLo ((tSv S).getD i sr0) = 0) : CX y cl B (rmW S i (opnS y S i lim)) := by
  obtain ⟨⟨y1, y2⟩, -, ⟨y3, y4⟩, -⟩ := hy
  have sx := h.2.2.1 i hi
  obtain ⟨b1, b2, b3, -⟩ := opA_o (W := opnS y S i lim) rfl h.up y1 y2 hi (by omega) sx.2.2.2.1.1
  exact h.lg hi hf hl rfl rfl rfl b2.1 b1 (sx.2.2.2.1.2.cn b3 sx.2.2.1.2)
end
