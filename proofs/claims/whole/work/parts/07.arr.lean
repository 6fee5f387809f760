def atN (t : Nat) : String := match t with
  | 2 => RX0
  | 3 => RX1
  | 4 => RX4
  | 5 => RX5
  | 6 => RX6
  | 7 => RX8
  | _ => "java/lang/Object"
theorem tysG_ref (dA : Nat → ClassId) {t : Nat} (h : 2 ≤ t ∧ t ≤ 8) : (tysG dA)[t]? = some (dA t, .object (atN t)) := by
  rcases (show t = 2 ∨ t = 3 ∨ t = 4 ∨ t = 5 ∨ t = 6 ∨ t = 7 ∨ t = 8 by omega) with rfl | rfl | rfl | rfl | rfl | rfl | rfl <;> rfl
theorem arE_ref (dA : Nat → ClassId) (h : hpT) (a : Nat) {t : Nat} (ht : 2 ≤ t ∧ t ≤ 8) : arE dA h a t = .inl (dA t, hN h a, .inr (.inr (.inr (.inr (hB h a))))) := by
  unfold arE
  rw [if_neg (by omega), if_neg (by omega)]
theorem PF_ar (dA : Nat → ClassId) {h : hpT} {a t : Nat} (hk : hK h a = 20 + t) : PF dA h a = arE dA h a t := by
  unfold PF
  rw [if_neg (by omega), hk, Nat.add_sub_cancel_left]
section SN2
variable {p : Program} {l : Launch} {e : Env} {R : Room} {s : State} {m : MethodId} {args : Array Value} {below : List Frame} {meth : Method} {c : Code} {H : Heap} {locs : List Loc} {cells slots : Nat} {Q : State → Prop}
variable {D : va_G} {dA : Nat → ClassId} {base : Nat} {g : gcT} {k pc : Nat} {ls : Array Slot} {rest : List Value} {h h' : hpT}
theorem sn_iald (hC : Cx D dA base g k p s m args meth c) (hW : Wd D dA base h H) (xS : va_S (Ab base) s.heap H locs) {a : Nat} {i v : Int32} (hg : ialO g h a i = some v) (hd : decode (mB k) pc = .ok (.iaload, 1))
    (kk : W p l e R s m args below meth c H locs cells slots Q (F0 m (pc + 1) ls (.int v :: rest))) : W p l e R s m args below meth c H locs cells slots Q (F0 m pc ls (.int i :: .ref a :: rest)) := by
  obtain ⟨hx, hb, hml, hown, hts, hini, xK⟩ := hC
  unfold ialO at hg
  split at hg
  · rename_i hk20
    split at hg
    · rename_i hin
      cases hg
      exact va_iald (q0 := 0) (t0 := 0) hx hb xK.1 (va_one (hW.ar (t := 0) hk20)) rfl rfl hin hd kk
    · cases hg
  · split at hg
    · rename_i hin
      cases hg
      obtain ⟨rfl, hin⟩ := hin
      obtain ⟨-, -, -, -, k5, k6, k7, -⟩ := xK
      exact va_sld hx hb k5 (by omega) (by show ¬ base ≤ g.1; omega) xS hin hd kk
    · cases hg
theorem sn_alen (hC : Cx D dA base g k p s m args meth c) (hW : Wd D dA base h H) (xS : va_S (Ab base) s.heap H locs) {a n : Nat} (hg : alnO g h a = some n) (hd : decode (mB k) pc = .ok (.arraylength, 1))
    (kk : W p l e R s m args below meth c H locs cells slots Q (F0 m (pc + 1) ls (.int (Int32.ofNat n) :: rest))) : W p l e R s m args below meth c H locs cells slots Q (F0 m pc ls (.ref a :: rest)) := by
  obtain ⟨hx, hb, hml, hown, hts, hini, xK⟩ := hC
  unfold alnO at hg
  split at hg
  · rename_i hin
    cases hg
    obtain ⟨t, ht⟩ : ∃ t, hK h a = 20 + t := ⟨hK h a - 20, by omega⟩
    have ht9 : t ≤ 9 := by omega
    by_cases h1 : t ≤ 1
    · rcases (show t = 0 ∨ t = 1 by omega) with rfl | rfl
      · exact va_alen (q0 := 0) (t0 := 0) hx hb xK.1 (va_one (hW.ar (t := 0) ht)) rfl rfl rfl hd kk
      · exact va_alen (q0 := 0) (t0 := 1) hx hb xK.1 (va_one (hW.ar (t := 1) ht)) rfl rfl rfl hd kk
    · by_cases h2 : t = 9
      · subst h2
        exact va_alen (q0 := 0) (t0 := 9) hx hb xK.1 (va_one (hW.ar (t := 9) ht)) rfl rfl rfl hd kk
      · have hat := hW.ar ht
        rw [arE_ref dA h a (by omega)] at hat
        exact va_alen (q0 := 0) (t0 := t) hx hb xK.1 (va_one hat) rfl (tysG_ref dA (by omega)) rfl hd kk
  · split at hg
    · rename_i ea
      cases hg
      subst ea
      obtain ⟨-, -, -, -, k5, k6, k7, -⟩ := xK
      exact va_slen hx hb k5 (by omega) (by show ¬ base ≤ g.1; omega) xS hd kk
    · split at hg
      · rename_i ea
        cases hg
        subst ea
        obtain ⟨-, -, -, -, -, -, -, -, k9, -⟩ := xK
        exact va_tlen hx hb k9 xS rfl hd kk
      · cases hg
theorem sn_aald (hC : Cx D dA base g k p s m args meth c) (hW : Wd D dA base h H) {a : Nat} {i : Int32} (hin : 22 ≤ hK h a ∧ hK h a ≤ 28 ∧ vinD i (hN h a)) (hd : decode (mB k) pc = .ok (.aaload, 1))
    (kk : W p l e R s m args below meth c H locs cells slots Q (F0 m (pc + 1) ls (va_rf (hB h a i.toNatClampNeg) :: rest))) : W p l e R s m args below meth c H locs cells slots Q (F0 m pc ls (.int i :: .ref a :: rest)) := by
  obtain ⟨hx, hb, hml, hown, hts, hini, xK⟩ := hC
  obtain ⟨t, ht⟩ : ∃ t, hK h a = 20 + t := ⟨hK h a - 20, by omega⟩
  have hat := hW.ar ht
  rw [arE_ref dA h a (by omega)] at hat
  exact va_aldq (q0 := 0) (t0 := t) hx hb xK.1 (va_one hat) rfl (tysG_ref dA (by omega)) hin.2.2 hd kk
theorem sn_iast (hC : Cx D dA base g k p s m args meth c) (hW : Wd D dA base h H) (xS : va_S (Ab base) s.heap H locs) {a : Nat} {i x : Int32} (hin : hK h a = 20 ∧ vinD i (hN h a)) (hd : decode (mB k) pc = .ok (.iastore, 1))
    (kk : ∀ H' locs', Wd D dA base (hpA h a i.toNatClampNeg x) H' → va_S (Ab base) s.heap H' locs' → W p l e R s m args below meth c H' locs' cells slots Q (F0 m (pc + 1) ls rest)) : W p l e R s m args below meth c H locs cells slots Q (F0 m pc ls (.int x :: .int i :: .ref a :: rest)) := by
  obtain ⟨hx, hb, hml, hown, hts, hini, xK⟩ := hC
  have hk : hK h a = 20 + 0 := hin.1
  refine W.iast hx hb (hW.ar hk) ((xK.1.2 0 _ rfl).1 (hN h a) (fun j => .int (hA h a j))) (fun q => by cases q) (by show ¬ (i < 0 ∨ (arrV _ _ _).slots.size ≤ _); rw [arrV_size]; exact hin.2) rfl rfl hd fun H1 e z oq => ?_
  refine kk H1 _ (hW.upd z oq rfl rfl (hW.1.A (by rw [hW.2.1]; exact hW.lt (by omega))) (fun b hb2 => PF_A hb2) ?_) (xS.put z oq (hW.le (a := a) (by rw [hk]; omega)))
  rw [PF_ar dA (show hK (hpA h a i.toNatClampNeg x) a = 20 + 0 from hk)]
  show H1[a]? = some (vp_cell (dA 0) (hN h a, .inl (hA (hpA h a i.toNatClampNeg x) a)))
  rw [e, show vp_cell (dA 0) (hN h a, .inl (hA h a)) = arrV (dA 0) (hN h a) (fun j => .int (hA h a j)) from rfl, vp_cell_i, arrV_store]
  congr 2
  funext q
  show updV (fun j => Value.int (hA h a j)) i.toNatClampNeg (.int x) q = .int (u2 (hA h) a i.toNatClampNeg x a q)
  by_cases hq : q = i.toNatClampNeg
  · subst hq; simp [updV, u2]
  · simp [updV, u2, hq]
theorem sn_zald (hC : Cx D dA base g k p s m args meth c) (hW : Wd D dA base h H) {a : Nat} {i : Int32} (hin : hK h a = 21 ∧ vinD i (hN h a)) (hd : decode (mB k) pc = .ok (.baload, 1))
    (kk : W p l e R s m args below meth c H locs cells slots Q (F0 m (pc + 1) ls (.int (hA h a i.toNatClampNeg) :: rest))) : W p l e R s m args below meth c H locs cells slots Q (F0 m pc ls (.int i :: .ref a :: rest)) := by
  obtain ⟨hx, hb, hml, hown, hts, hini, xK⟩ := hC
  exact va_zald (q0 := 0) (t0 := 1) hx hb xK.1 (va_one (hW.ar (t := 1) hin.1)) rfl rfl hin.2 hd kk
theorem sn_lald (hC : Cx D dA base g k p s m args meth c) (hW : Wd D dA base h H) {a : Nat} {i : Int32} (hin : hK h a = 29 ∧ vinD i (hN h a)) (hd : decode (mB k) pc = .ok (.laload, 1))
    (kk : W p l e R s m args below meth c H locs cells slots Q (F0 m (pc + 1) ls (.long (hA h a i.toNatClampNeg).toInt64 :: rest))) : W p l e R s m args below meth c H locs cells slots Q (F0 m pc ls (.int i :: .ref a :: rest)) := by
  obtain ⟨hx, hb, hml, hown, hts, hini, xK⟩ := hC
  exact va_lald (q0 := 0) (t0 := 9) hx hb xK.1 (va_one (hW.ar (t := 9) hin.1)) rfl rfl hin.2 hd kk
theorem sn_zast (hC : Cx D dA base g k p s m args meth c) (hW : Wd D dA base h H) (xS : va_S (Ab base) s.heap H locs) {a : Nat} {i x : Int32} (hin : hK h a = 21 ∧ vinD i (hN h a) ∧ (x = 0 ∨ x = 1)) (hd : decode (mB k) pc = .ok (.bastore, 1))
    (kk : ∀ H' locs', Wd D dA base (hpA h a i.toNatClampNeg x) H' → va_S (Ab base) s.heap H' locs' → W p l e R s m args below meth c H' locs' cells slots Q (F0 m (pc + 1) ls rest)) : W p l e R s m args below meth c H locs cells slots Q (F0 m pc ls (.int x :: .int i :: .ref a :: rest)) := by
  obtain ⟨hx, hb, hml, hown, hts, hini, xK⟩ := hC
  have hk : hK h a = 20 + 1 := hin.1
  refine W.zast hx hb (hW.ar hk) ((xK.1.2 1 _ rfl).1 (hN h a) (fun j => .int (hA h a j))) (fun q => by cases q) (by show ¬ (i < 0 ∨ (arrV _ _ _).slots.size ≤ _); rw [arrV_size]; exact hin.2.1) rfl rfl hd fun H1 e z oq => ?_
  refine kk H1 _ (hW.upd z oq rfl rfl (hW.1.A (by rw [hW.2.1]; exact hW.lt (by omega))) (fun b hb2 => PF_A hb2) ?_) (xS.put z oq (hW.le (a := a) (by rw [hk]; omega)))
  rw [PF_ar dA (show hK (hpA h a i.toNatClampNeg x) a = 20 + 1 from hk)]
  show H1[a]? = some (vp_cell (dA 1) (hN h a, .inl (hA (hpA h a i.toNatClampNeg x) a)))
  have hnz : narrow .boolean (.int x) = .int x := by rcases hin.2.2 with rfl | rfl <;> rfl
  rw [hnz] at e
  rw [e, show vp_cell (dA 1) (hN h a, .inl (hA h a)) = arrV (dA 1) (hN h a) (fun j => .int (hA h a j)) from rfl, vp_cell_i, arrV_store]
  congr 2
  funext q
  show updV (fun j => Value.int (hA h a j)) i.toNatClampNeg (.int x) q = .int (u2 (hA h) a i.toNatClampNeg x a q)
  by_cases hq : q = i.toNatClampNeg
  · subst hq; simp [updV, u2]
  · simp [updV, u2, hq]
theorem cmpO_cases {t c : Nat} (h : cmpO t c = true) : (t = 8 ∧ (c = 4 ∨ c = 6 ∨ c = 8)) ∨ (2 ≤ t ∧ t ≤ 7 ∧ atN t = RN c) := by
  unfold cmpO at h
  simp only [Bool.or_eq_true, Bool.and_eq_true, beq_iff_eq] at h
  rcases h with ((((((h | h) | h) | h) | h) | h) | h)
  · exact Or.inl ⟨h.1, by omega⟩
  all_goals (obtain ⟨rfl, rfl⟩ := h; exact Or.inr ⟨by omega, by omega, rfl⟩)
theorem sn_aast (hC : Cx D dA base g k p s m args meth c) (hW : Wd D dA base h H) (xS : va_S (Ab base) s.heap H locs) {a : Nat} {i : Int32} {v : Value} (hg : aasO h a i v = some h') (hd : decode (mB k) pc = .ok (.aastore, 1))
    (kk : ∀ H' locs', Wd D dA base h' H' → va_S (Ab base) s.heap H' locs' → W p l e R s m args below meth c H' locs' cells slots Q (F0 m (pc + 1) ls rest)) : W p l e R s m args below meth c H locs cells slots Q (F0 m pc ls (v :: .int i :: .ref a :: rest)) := by
  obtain ⟨hx, hb, hml, hown, hts, hini, xK⟩ := hC
  unfold aasO at hg
  split at hg
  · rename_i hin
    obtain ⟨t, ht⟩ : ∃ t, hK h a = 20 + t := ⟨hK h a - 20, by omega⟩
    have ht8 : 2 ≤ t ∧ t ≤ 8 := by omega
    have hat := hW.ar ht
    rw [arE_ref dA h a ht8] at hat
    have hlt : i.toNatClampNeg < hN h a := Nat.not_le.mp fun q => hin.2.2 (Or.inr q)
    have h0 : ¬ i < 0 := fun q => hin.2.2 (Or.inl q)
    have fin : ∀ (r : Option Nat) (H1 : Heap), h' = hpB h a i.toNatClampNeg r → H1[a]? = some ((vp_cell (dA t) (hN h a, .inr (.inr (.inr (.inr (hB h a)))))).setSlot i.toNatClampNeg (va_rf r)) → H1.size = H.size → (∀ q, q ≠ a → H1[q]? = H[q]?) → W p l e R s m args below meth c H1 (locs ++ [⟨a, i.toNatClampNeg⟩]) cells slots Q (F0 m (pc + 1) ls rest) := by
      intro r H1 eh e1 z oq
      subst eh
      refine kk H1 _ (hW.upd z oq rfl rfl (hW.1.B (by rw [hW.2.1]; exact hW.lt (by omega))) (fun b hb2 => PF_B hb2) ?_) (xS.put z oq (hW.le (a := a) (by rw [ht]; omega)))
      rw [PF_ar dA (show hK (hpB h a i.toNatClampNeg r) a = 20 + t from ht), arE_ref dA _ a ht8]
      show H1[a]? = some (vp_cell (dA t) (hN h a, .inr (.inr (.inr (.inr (hB (hpB h a i.toNatClampNeg r) a))))))
      rw [e1, vp_cell_q, vp_cell_q, arrV_store]
      congr 2
      funext q
      show updV (fun j => va_rf (hB h a j)) i.toNatClampNeg (va_rf r) q = va_rf (u2 (hB h) a i.toNatClampNeg r a q)
      by_cases hq : q = i.toNatClampNeg
      · subst hq; simp [updV, u2]
      · simp [updV, u2, hq]
    split at hg
    · cases hg
      exact va_WaastN (C := atN t) hx hb hat ((xK.1.2 t _ (tysG_ref dA ht8)).1 (hN h a) (fun j => va_rf (hB h a j))) (fun h => by cases h) (by show ¬ (i < 0 ∨ (arrV _ _ _).slots.size ≤ _); rw [arrV_size]; exact hin.2.2) rfl rfl hd (fun H1 e1 z oq => fin none H1 rfl e1 z oq)
    · rename_i b
      split at hg
      · rename_i hbk
        cases hg
        obtain ⟨c1, hc1⟩ : ∃ c1, hK h b = c1 + 1 := ⟨hK h b - 1, by omega⟩
        have hc14 : c1 < 14 := by omega
        have hcm : cmpO t c1 = true := by have := hbk.2.2; rw [ht, hc1] at this; simpa using this
        obtain ⟨r', hr', cellV, g1, g2, g3, -⟩ := hW.ob hc1 hc14
        obtain ⟨C, T, z1, z2, -⟩ := cokAll hc14
        have hcls := (xK.1.1 c1 _ z1).2
        obtain ⟨kA, comp, k1, k2, k3, -⟩ := (xK.1.2 t _ (tysG_ref dA ht8)).2
        obtain ⟨kC, hkC, -⟩ := hcls.2
        rcases cmpO_cases hcm with ⟨t8, hcc⟩ | ⟨-, -, hn⟩
        · subst t8
          have hca : va_Nw (.castable C "java/lang/Object") s := by
            refine xK.2.2.1 _ ?_
            rw [z2]
            unfold castL
            rcases hcc with rfl | rfl | rfl
            · exact List.mem_cons_self
            · exact List.mem_cons_of_mem _ List.mem_cons_self
            · exact List.mem_cons_of_mem _ (List.mem_cons_of_mem _ List.mem_cons_self)
          obtain ⟨kE, hkE, -⟩ := Vm.findClass_spec k3
          obtain ⟨c0, t1, f1, f2, f3⟩ := Cond.castable_spec (va_Nw.use (A := args) rfl hca)
          have e0 : c0 = D.1 c1 := Option.some.inj (f1.symm.trans hcls.1)
          have e2 : t1 = comp := Option.some.inj (f2.symm.trans k3)
          subst e0; subst e2
          exact W.aast hx hb hat (fun q h => by cases h) (fun h => by cases h) k1 k2 rfl hkE ⟨h0, by show _ < (arrV _ _ _).slots.size; rw [arrV_size]; exact hlt⟩ g1 (fun q h => by rw [g3] at h; cases h) (by rw [g2]; exact hkC) (by rw [g2]; exact f3) rfl rfl hd (fun H1 e1 z oq => fin (some b) H1 rfl e1 z oq)
        · have hcomp : comp = D.1 c1 := by rw [hn, ← z2] at k3; exact Option.some.inj (k3.symm.trans hcls.1)
          subst hcomp
          exact W.aast hx hb hat (fun q h => by cases h) (fun h => by cases h) k1 k2 rfl hkC ⟨h0, by show _ < (arrV _ _ _).slots.size; rw [arrV_size]; exact hlt⟩ g1 (fun q h => by rw [g3] at h; cases h) (by rw [g2]; exact hkC) (by rw [g2]; exact va_assign hcls) rfl rfl hd (fun H1 e1 z oq => fin (some b) H1 rfl e1 z oq)
      · cases hg
    · cases hg
  · cases hg
end SN2
