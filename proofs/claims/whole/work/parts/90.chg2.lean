/-! changeAt: from the write on -/
def chF2 (F : fcT) (i : Nat) (ps : List pT) (b7 : Bool) : fcT := (wrS (fSt F) i ps (cpN (sCu ((tSv (fSt F)).getD i sr0))), fCl F, fNt F, fCk F, if b7 = true ∧ ¬ sCu ((tSv (fSt F)).getD i sr0) = 0 then fEf F + 1 else fEf F)
def chF3 (F : fcT) (i : Nat) (cut : Int32) (b7 : Bool) : fcT := if ¬ cut = -1 then setS F (bdA (fSt F) i) else if b7 = true then setS F (sfS (fSt F) i (sSf ((tSv (fSt F)).getD i sr0) + 1)) else F
section CHG
variable {g : gcT} {P : pmT} {o o' w w' : Nat → Nat} {y : Nat → Nat} {R R2 : arT} {h h' h1 h2 : hpT} {B : Nat → Prop} {i j t c m n p q e : Nat} {ss : List Nat} {Ls L1 : List lsT} {Ds D1 : List (Nat × Nat)} {S S' : stA} {cs : csT} {F F' : fcT} {r : rqT} {v : anT} {kc km kc' km' : Nat} {ky ak ack : Int32} {d : anT × Option ptT} {u : Option Nat} {zs : List svT} {T : svT}
theorem chg_137 (kS : RS g h o w y R R2 ss Ls Ds (fSt F)) (kF : fcR h o y ss cs F) (hi : i < y 20) (ls : lgS g h o (y 20) (y 22) (Ls.getD i ls0).1 (tNm (fSt F)) (sLg ((tSv (fSt F)).getD i sr0)) zs) (hTm : T ∈ zs) (hT : hR h 257 (Ls.getD i ls0).1 = some T.1) {x4 x8 : Int32} {r2 r3 r5 o9 : Option Nat} {r7 : Option Nat} {b7 : Bool} {o9' : Option Value} (h7 : b7 = r7.isSome) (pt : ∀ z ∈ r7.toList ++ [p], pOK h z ∧ lOK h z ∧ tmK h o (Ls.getD i ls0).1 (tNm (fSt F)) zs z) (hn : (zPs T).length + (r7.toList ++ [p]).length ≤ y 22) (hcut : sCu ((tSv (fSt F)).getD i sr0) = -1 ∨ ∃ k, k ≤ 3 ∧ sCu ((tSv (fSt F)).getD i sr0) = nI k) (ep : (hI h 391 p, hI h 392 p, hI h 393 p) = v) : Ev g P 85 137 [some (va_rf (some (y 9))), some (va_rf (some (ss.getD i 0))), some (va_rf r2), some (va_rf r3), some (.int x4), some (va_rf r5), some (va_rf (some p)), some (va_rf r7), some (.int x8), o9'] [] h (fun h' z => ∃ x, z = some (va_rf x) ∧ StpA g h o y R R2 ss Ls Ds 13 (nf 4 + nf 0 + 40 + nf 1) (chF3 (chF2 F i ((r7.toList ++ [p]).map (pA h)) b7) i (sCu ((tSv (fSt F)).getD i sr0)) b7) x (if ¬ sCu ((tSv (fSt F)).getD i sr0) = -1 then none else some v) h') := by
  obtain ⟨k0, k1, k4, kse, kde⟩ := kS.kinds
  have wf := kS.1.1
  have ok := kS.1.2.2
  have k9 := kS.2.1.2.2.1
  obtain ⟨⟨a1, a2, a3⟩, -⟩ := kF.1
  obtain ⟨⟨b1, b2, b3⟩, ⟨c1, c2, c3, c4, c5, c6, c7⟩, dd, f0, -, -⟩ := kS.2.2.2.1.2.2 i hi
  have kp : hK h p = 7 := (pt p (List.mem_append.mpr (Or.inr List.mem_cons_self))).1.1.1
  have hhl : T.2.2.2.2.2.length ≤ 100 := by
    have := (ls.1.1.sg T hTm).2.2.2.2.2.1
    have := kS.2.1.1.1.2
    omega
  have hc' : (sCu ((tSv (fSt F)).getD i sr0) = -1 ∧ T.2.2.2.2.2.length ≤ cpN (sCu ((tSv (fSt F)).getD i sr0))) ∨ (¬ sCu ((tSv (fSt F)).getD i sr0) = -1 ∧ sCu ((tSv (fSt F)).getD i sr0) = nI (cpN (sCu ((tSv (fSt F)).getD i sr0))) ∧ cpN (sCu ((tSv (fSt F)).getD i sr0)) < 2 ^ 31) := by
    unfold cpN
    rcases hcut with z | ⟨k, z1, z2⟩
    · exact Or.inl ⟨z, by rw [if_pos z]; exact hhl⟩
    · have nk : ¬ nI k = -1 := by
        have : ∀ k, k < 4 → ¬ nI k = -1 := by decide
        exact this k (by omega)
      refine Or.inr ⟨by rw [z2]; exact nk, ?_⟩
      rw [z2, if_neg nk, nI_clamp (by omega)]
      exact ⟨rfl, by omega⟩
  have hwr := RS.write (P := P) (r1 := r7) (q := p) (cut := sCu ((tSv (fSt F)).getD i sr0)) (c := cpN (sCu ((tSv (fSt F)).getD i sr0))) kS hi ls hTm hT pt hn hc'
  rw [← a2, ← c6] at hwr
  refine s_85_137 (k3 := b1) (k6 := k9) (e8 := a2) (k9 := k0) (hc := hwr) (kk := fun h5 st => ?_)
  rw [c6] at st ⊢
  obtain ⟨o5, w5, L5, D5, cs5, c5', m5, z0, z1, z2, z3, z4⟩ := StpG.ofC kS kF (st.c ok)
  obtain ⟨o6, w6, L6, c6', m6, y0, y1, y2⟩ := st
  have sp : Sm h h5 p := y1.smp kp wf
  have kp5 : hK h5 p = 7 := by rw [sp.1]; exact kp
  have ep5 : (hI h5 391 p, hI h5 392 p, hI h5 393 p) = v := by rw [(sp.2.1 391).1, (sp.2.1 392).1, (sp.2.1 393).1]; exact ep
  have wf5 := z0.1.1
  have ok5 := z0.1.2.2
  -- the end, from 177
  have fin : ∀ h6 F6, StpG g h5 o5 y R R2 ss L5 D5 0 0 F6 h6 → F6 = chF2 F i ((r7.toList ++ [p]).map (pA h)) b7 → hK h6 p = 7 → (hI h6 391 p, hI h6 392 p, hI h6 393 p) = v → Ev g P 85 177 [some (va_rf (some (y 9))), some (va_rf (some (ss.getD i 0))), some (va_rf r2), some (va_rf r3), some (.int x4), some (va_rf r5), some (va_rf (some p)), some (va_rf r7), some (.int x8), some (.int (sCu ((tSv (fSt F)).getD i sr0)))] [] h6 (fun h' z => ∃ x, z = some (va_rf x) ∧ StpA g h o y R R2 ss Ls Ds 13 (nf 4 + nf 0 + 40 + nf 1) (chF3 (chF2 F i ((r7.toList ++ [p]).map (pA h)) b7) i (sCu ((tSv (fSt F)).getD i sr0)) b7) x (if ¬ sCu ((tSv (fSt F)).getD i sr0) = -1 then none else some v) h') := by
    intro h6 F6 st6 eF6 kp6 ep6
    obtain ⟨o7, w7, L7, D7, cs7, c7', m7, v0, v1, v2, v3, v4⟩ := st6
    refine Ev.imp (chg_end (v := v) (F' := chF3 (chF2 F i ((r7.toList ++ [p]).map (pA h)) b7) i (sCu ((tSv (fSt F)).getD i sr0)) b7) v0 v1 hi h7 kp6 ep6 (by rw [← eF6]; rfl)) (fun h' z ⟨x, e1, e2⟩ => ⟨x, e1, ?_⟩)
    have := StpA.tr wf ok (CG.tr wf ok z2 v2) (z3.tr v3) (z4.tr v4) e2
    exact this.le (by omega) (by omega)
  have lsv : (tSv (fSt F)).length = y 20 := kS.2.2.2.1.1.2.1
  refine s_85_157 (kt := fun z => fin h5 _ (StpG.rf z0 z1) ?_ kp5 ep5) (kf := fun z => s_85_162 (kt := fun zz => fin h5 _ (StpG.rf z0 z1) ?_ kp5 ep5) (kf := fun zz => s_85_167 (k3 := z0.2.1.2.2.1) (kk := ?_)))
  · have : ¬ (b7 = true ∧ ¬ sCu ((tSv (fSt F)).getD i sr0) = 0) := fun q => by rw [h7, z] at q; exact absurd q.1 (by decide)
    unfold chF2
    rw [if_neg this]
    rfl
  · have : ¬ (b7 = true ∧ ¬ sCu ((tSv (fSt F)).getD i sr0) = 0) := fun q => q.2 zz
    unfold chF2
    rw [if_neg this]
    rfl
  · have hb : b7 = true := by
      rw [h7]
      cases r7 with
      | none => exact absurd rfl z
      | some _ => rfl
    have e773 : hI h5 773 (y 9) + 1 = nI (fEf F + 1) := by
      have : hI h5 773 (y 9) = nI (fEf F) := z1.2.2.2.2.2
      rw [this, nI_1]
    rw [e773]
    have np : ¬ p = y 9 := kinds_ne (h := h5) (by have := z0.2.1.2.2.1; omega)
    have eI : ∀ f, hI (hpI h5 773 (y 9) (nI (fEf F + 1))) f p = hI h5 f p := fun f => by rw [rI_I, if_neg (fun q => np q.2)]
    refine fin _ _ (StpG.y9I (F' := (wrS (fSt F) i ((r7.toList ++ [p]).map (pA h)) (cpN (sCu ((tSv (fSt F)).getD i sr0))), fCl F, fNt F, fCk F, fEf F + 1)) z0 z0.2.1.2.2.1 (by decide) z1 z1.ef) ?_ kp5 (by rw [eI, eI, eI]; exact ep5)
    unfold chF2
    rw [if_pos ⟨hb, zz⟩]
end CHG
