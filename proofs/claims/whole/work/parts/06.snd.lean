def tysG (dA : Nat → ClassId) : List (ClassId × FieldType) := [(dA 0, .int), (dA 1, .boolean), (dA 2, .object RX0), (dA 3, .object RX1), (dA 4, .object RX4), (dA 5, .object RX5), (dA 6, .object RX6), (dA 7, .object RX8), (dA 8, .object "java/lang/Object"), (dA 9, .long)]
def castL : List Cond := [.castable RX3 "java/lang/Object", .castable RX5 "java/lang/Object", .castable RX7 "java/lang/Object"]
def aoL : List String := [RX0, RX1, RX4, RX5, RX6, RX8, "java/lang/Object"]
abbrev Ab (base : Nat) : Nat → Prop := fun q => base ≤ q
/-- what holds at every method's entry of the tables, the script and ArrayList's empty array -/
def Kx (D : va_G) (dA : Nat → ClassId) (base : Nat) (g : gcT) (U : State) : Prop := va_K D vwCl (tysG dA) U ∧ (∀ w ∈ nestL, va_Nw w U) ∧ (∀ w ∈ castL, va_Nw w U) ∧ (∀ C ∈ aoL, va_AO C U) ∧ va_X g.1 g.2.1 g.2.2.1 U U.heap ∧ g.1 < base ∧ base ≤ U.heap.size ∧ va_Z "java/util/ArrayList" "DEFAULTCAPACITY_EMPTY_ELEMENTDATA" "[Ljava/lang/Object;" (.ref g.2.2.2) (Ab base) U U.heap ∧ va_T (.object "java/lang/Object") g.2.2.2 0 (fun _ => .null) (Ab base) U U.heap ∧ ¬ g.1 = g.2.2.2 ∧ Ex (Ab base) U
theorem nest_warm {w : Cond} (h : w ∈ nestL) {s U : State} (hW : s.WarmedH U.vm) (hZ : va_Nw w s) : va_Nw w U := by
  unfold nestL at h
  simp only [List.mem_cons, List.not_mem_nil, or_false] at h
  rcases h with rfl | rfl | rfl | rfl | rfl | rfl <;> exact va_Nw.warmM hW hZ
theorem nest_tabs {w : Cond} (h : w ∈ nestL) : w.onTables = true := by
  unfold nestL at h
  simp only [List.mem_cons, List.not_mem_nil, or_false] at h
  rcases h with rfl | rfl | rfl | rfl | rfl | rfl <;> rfl
theorem cast_warm {w : Cond} (h : w ∈ castL) {s U : State} (hW : s.WarmedH U.vm) (hZ : va_Nw w s) : va_Nw w U := by
  unfold castL at h
  simp only [List.mem_cons, List.not_mem_nil, or_false] at h
  rcases h with rfl | rfl | rfl <;> exact va_Nw.warmC hW hZ
theorem cast_tabs {w : Cond} (h : w ∈ castL) : w.onTables = true := by
  unfold castL at h
  simp only [List.mem_cons, List.not_mem_nil, or_false] at h
  rcases h with rfl | rfl | rfl <;> rfl
theorem Kx.to {D : va_G} {dA : Nat → ClassId} {base : Nat} {g : gcT} {s U : State} {H : Heap} {locs : List Loc} (h : Kx D dA base g s) (hS : va_S (Ab base) s.heap H locs) (hU : U.heap = H) (hW : s.WarmedH U.vm) : Kx D dA base g U := by
  obtain ⟨h1, h2, h3, h4, h5, h6, h7, h8, h9, h10, h11⟩ := h
  have keep : ∀ a : Nat, a < s.heap.size → ¬ Ab base a → U.heap[a]? = s.heap[a]? := fun a ha hn => by rw [hU]; exact hS.2.1 a ha hn
  refine ⟨h1.moved hW.alike, fun w hw => nest_warm hw hW (h2 w hw), fun w hw => cast_warm hw hW (h3 w hw), fun C hC => (h4 C hC).moved hW.alike, (h5.kept (keep _ (by omega) (by show ¬ base ≤ g.1; omega))).moved hW.alike, h6, by rw [hU]; exact Nat.le_trans h7 hS.1, (h8.kept keep).moved hW.alike, (h9.kept keep).moved hW.alike, h10, h11.to keep hW⟩
theorem Kx.calling {D : va_G} {dA : Nat → ClassId} {base : Nat} {g : gcT} {U : State} (h : Kx D dA base g U) (f : JFrame) (mk : MethodId) (a : Array Value) : Kx D dA base g (U.calling f mk a) := by
  obtain ⟨h1, h2, h3, h4, h5, h6, h7, h8, h9, h10, h11⟩ := h
  have hv : U.vm.Alike (U.calling f mk a).vm := Vm.Alike.refl U.vm
  exact ⟨h1.moved hv, fun w hw => va_Nw.same (u := U) (nest_tabs hw) rfl (h2 w hw), fun w hw => va_Nw.same (u := U) (cast_tabs hw) rfl (h3 w hw), fun C hC => (h4 C hC).moved hv, h5.moved hv, h6, h7, h8.moved hv, h9.moved hv, h10, h11.calling f mk a⟩
/-- the fixed facts of a walk of method k -/
def Cx (D : va_G) (dA : Nat → ClassId) (base : Nat) (g : gcT) (k : Nat) (p : Program) (s : State) (m : MethodId) (args : Array Value) (meth : Method) (c : Code) : Prop := p.tables.exec = Jvm.exec ∧ c.code = mB k ∧ c.maxLocals = mX k ∧ s.vm.findClass (RN (mO k)) = some m.cls ∧ (∀ w ∈ WL, w.before args s = true) ∧ (mD k = 2 → meth.name = "<init>") ∧ Kx D dA base g s
theorem tgtO_eq {pc t : Nat} {off : Int} (h : tgtO pc off = some t) : (pc : Int) + off = (t : Int) := by
  unfold tgtO at h
  split at h
  · cases h; omega
  · cases h
theorem ifO_eq {b : Prop} [Decidable b] {pc : Nat} {off : Int} {L : lcT} {st : List Value} {h : hpT} {cf : cfT} (e : ifO b pc off L st h = some cf) : ∃ t : Nat, (pc : Int) + off = (t : Int) ∧ (b → cf = (t, L, st, h)) ∧ (¬ b → cf = (pc + 3, L, st, h)) := by
  unfold ifO at e
  obtain ⟨t, h1, h2⟩ := Option.bind_eq_some_iff.mp e
  refine ⟨t, tgtO_eq h1, fun hb => ?_, fun hb => ?_⟩
  · rw [if_pos hb] at h2; exact (Option.some.inj h2).symm
  · rw [if_neg hb] at h2; exact (Option.some.inj h2).symm
theorem jmpO_eq {pc : Nat} {off : Int} {L : lcT} {st : List Value} {h : hpT} {cf : cfT} (e : jmpO pc off L st h = some cf) : ∃ t : Nat, (pc : Int) + off = (t : Int) ∧ cf = (t, L, st, h) := by
  unfold jmpO at e
  obtain ⟨t, h1, h2⟩ := Option.map_eq_some_iff.mp e
  exact ⟨t, tgtO_eq h1, h2.symm⟩
theorem va_S.new {A : Nat → Prop} {H0 H H1 : Heap} {locs : List Loc} (hS : va_S A H0 H locs) (z : H.size ≤ H1.size) (o1 : ∀ q : Nat, q < H.size → H1[q]? = H[q]?) : va_S A H0 H1 locs := ⟨Nat.le_trans hS.1 z, fun x h1 h2 => (o1 x (Nat.lt_of_lt_of_le h1 hS.1)).trans (hS.2.1 x h1 h2), hS.2.2⟩
theorem nf_big {c : Nat} (h : 14 ≤ c) : nf c = 0 := by
  unfold nf
  rw [List.getD_eq_getElem?_getD, List.getElem?_eq_none (by simpa [nfL] using h)]
  rfl
section SN1
variable {p : Program} {l : Launch} {e : Env} {R : Room} {s : State} {m : MethodId} {args : Array Value} {below : List Frame} {meth : Method} {c : Code} {H : Heap} {locs : List Loc} {cells slots : Nat} {Q : State → Prop}
variable {D : va_G} {dA : Nat → ClassId} {base : Nat} {g : gcT} {k pc : Nat} {ls : Array Slot} {rest : List Value} {h h' : hpT}
/-- a read of a field -/
theorem sn_get (hC : Cx D dA base g k p s m args meth c) (hW : Wd D dA base h H) {idx : Nat} {v w : Value} (hg : gfO (mO k) idx h v = some w) (hd : decode (mB k) pc = .ok (.getfield idx, 3))
    (kk : W p l e R s m args below meth c H locs cells slots Q (F0 m (pc + 3) ls (w :: rest))) : W p l e R s m args below meth c H locs cells slots Q (F0 m pc ls (v :: rest)) := by
  obtain ⟨hx, hb, hml, hown, hts, hini, xK⟩ := hC
  unfold gfO at hg
  split at hg
  · rename_i c1 k1 a hfl
    split at hg
    · rename_i hc
      obtain ⟨⟨C, T, N, r, f1, f2, f3, f4⟩, hi⟩ := fl_ok hfl
      rw [(key_d hi).1, (key_d hi).2] at f3
      have hc14 : c1 < 14 := by
        rcases Nat.lt_or_ge c1 14 with q | q
        · exact q
        · have := nf_big q
          omega
      obtain ⟨C', T', g1, g2, g3, g4, g5, g6, g7, g8⟩ := cokAll hc14
      dsimp only at f1 f2 f3 f4
      have e1 := Option.some.inj (f1.symm.trans g1)
      simp only [Prod.mk.injEq] at e1
      obtain ⟨rfl, rfl, rfl⟩ := e1
      cases hg
      have hat := va_one (hW.ob hc.1 hc14)
      refine va_get (q0 := 0) (k := k1) hx hb hts g3 hown xK.1 hat rfl g1 f2 (hts _ f3) ?_ (ob_get f2) hd kk
      intro x hx2
      rcases f4 with f4 | f4
      · rw [f4]; exact hx2
      · exact u_same (hts _ f4) x hx2
    · cases hg
  · cases hg
/-- a write of a field -/
theorem sn_put (hC : Cx D dA base g k p s m args meth c) (hW : Wd D dA base h H) (xS : va_S (Ab base) s.heap H locs) {idx : Nat} {v w : Value} (hg : pfO k idx h v w = some h') (hd : decode (mB k) pc = .ok (.putfield idx, 3))
    (kk : ∀ H' locs', Wd D dA base h' H' → va_S (Ab base) s.heap H' locs' → W p l e R s m args below meth c H' locs' cells slots Q (F0 m (pc + 3) ls rest)) : W p l e R s m args below meth c H locs cells slots Q (F0 m pc ls (w :: v :: rest)) := by
  obtain ⟨hx, hb, hml, hown, hts, hini, xK⟩ := hC
  unfold pfO at hg
  split at hg
  · rename_i c1 k1 a hfl
    split at hg
    · rename_i hc
      obtain ⟨⟨C, T, N, r, f1, f2, f3, f4⟩, hi⟩ := fl_ok hfl
      rw [(key_d hi).1, (key_d hi).2] at f3
      have hc14 : c1 < 14 := by
        rcases Nat.lt_or_ge c1 14 with q | q
        · exact q
        · have := nf_big q
          omega
      obtain ⟨C', T', g1, g2, g3, g4, g5, g6, g7, g8⟩ := cokAll hc14
      dsimp only at f1 f2 f3 f4
      have e1 := Option.some.inj (f1.symm.trans g1)
      simp only [Prod.mk.injEq] at e1
      obtain ⟨rfl, rfl, rfl⟩ := e1
      obtain ⟨t1, t2, t3, t4, t5, t6⟩ := g8 k1 f2
      have hsame : ∀ x, s.fieldFound? (T k1).1 (T k1).2.1 (T k1).2.2.1 = some x → s.fieldFound? r (T k1).2.1 (T k1).2.2.1 = some x := by
        intro x hx2
        rcases f4 with f4 | f4
        · rw [f4]; exact hx2
        · exact u_same (hts _ f4) x hx2
      -- the value fits, and the new heap is the old one with one value more
      have key : ∃ hv : narrow (tyL c1 k1) w = w ∧ fits (tyL c1 k1) w = true, hK h' = hK h ∧ hS h' = hS h ∧ hWF h' ∧ (∀ b, b ≠ a → PF dA h' b = PF dA h b) ∧ fv h' c1 k1 a = w ∧ ∀ j, j < nf c1 → j ≠ k1 → fv h' c1 j a = fv h c1 j a := by
        have hlt : a < hS h := by rw [hW.2.1]; exact hW.lt (by omega)
        have hcal : ∀ j, j ≠ k1 → 64 * c1 + j ≠ 64 * c1 + k1 := fun j hj => by omega
        split at hg
        · rename_i hf
          obtain ⟨q, q1, q2⟩ := Option.map_eq_some_iff.mp hg
          subst q2
          have ew := rfO_some q1
          subst ew
          refine ⟨isRefTy_ok (t5 hf) _ (va_rf_or q), rfl, rfl, hW.1.R hlt, fun b hb2 => PF_R hb2, ?_, fun j hj hjk => ?_⟩
          · rw [fv_ref _ _ _ _ hf]
            show va_rf (u2 (hR h) _ _ _ _ _) = _
            simp [u2]
          · unfold fv
            have : hR (hpR h (64 * c1 + k1) a q) (64 * c1 + j) a = hR h (64 * c1 + j) a := by show u2 (hR h) _ _ _ _ _ = _; simp [u2, hjk]
            rw [this]; rfl
        · rename_i hf
          have fin : ∀ x : Int32, w = .int x → h' = hpI h (64 * c1 + k1) a x → (narrow (tyL c1 k1) w = w ∧ fits (tyL c1 k1) w = true) → ∃ hv : narrow (tyL c1 k1) w = w ∧ fits (tyL c1 k1) w = true, hK h' = hK h ∧ hS h' = hS h ∧ hWF h' ∧ (∀ b, b ≠ a → PF dA h' b = PF dA h b) ∧ fv h' c1 k1 a = w ∧ ∀ j, j < nf c1 → j ≠ k1 → fv h' c1 j a = fv h c1 j a := by
            intro x ew eh hv
            subst ew; subst eh
            refine ⟨hv, rfl, rfl, hW.1.I hlt, fun b hb2 => PF_I hb2, ?_, fun j hj hjk => ?_⟩
            · rw [fv_int _ _ _ _ hf]
              show Value.int (u2 (hI h) _ _ _ _ _) = _
              simp [u2]
            · unfold fv
              have : hI (hpI h (64 * c1 + k1) a x) (64 * c1 + j) a = hI h (64 * c1 + j) a := by show u2 (hI h) _ _ _ _ _ = _; simp [u2, hjk]
              rw [this]; rfl
          split at hg
          · rename_i x
            split at hg
            · rename_i hf1
              split at hg
              · rename_i hz
                refine fin x rfl (Option.some.inj hg).symm ?_
                rw [t4 hf1]
                rcases hz with rfl | rfl <;> exact ⟨rfl, rfl⟩
              · cases hg
            · rename_i hf1
              refine fin x rfl (Option.some.inj hg).symm ?_
              rw [t3 (by omega)]
              exact ⟨rfl, rfl⟩
          · cases hg
      obtain ⟨hv, k1', k2', k3', k4', k5', k6'⟩ := key
      have hap := va_apart (own := RN (mO k)) hts g3 (tyL c1) g4 g5 xK.1 g1
      obtain ⟨r1, h1, cell, q1, q2, q3, q4⟩ := hW.ob hc.1 hc14
      have hr : r1 = (C, T, nf c1) := Option.some.inj (h1.symm.trans g1)
      subst hr
      obtain ⟨hSl, hfc, kC, hkC, hkind⟩ := xK.1.1 c1 _ g1
      obtain ⟨cf, kf, fi, f, hi2, hsl⟩ := hSl k1 f2
      have hlay := hts _ (g3 _ (u_in_lay f2))
      have hst := (u_facts hfc hkC (u_lays hts g3 f2) hi2).1
      have fin : ∀ H' : Heap, H'[a]? = some (cell.setSlot f.slot w) → H'.size = H.size → (∀ q, q ≠ a → H'[q]? = H[q]?) → W p l e R s m args below meth c H' (locs ++ [⟨a, f.slot⟩]) cells slots Q (F0 m (pc + 3) ls rest) := by
        intro H' z1 z2 z3
        refine kk H' _ (hW.upd z2 z3 k1' k2' k3' k4' ?_) (xS.put z2 z3 (hW.le (by omega)))
        unfold PF
        rw [k1', if_pos (by omega), hc.1, Nat.add_sub_cancel]
        refine ⟨_, g1, t_OB.to (V := updV (vp_V ((List.range (nf c1)).map (fun k => fv h c1 k a))) k1 w) ⟨_, z1, q2, q3, by rw [hsl]; exact t_set q4 hap f2 w⟩ (fun j hj => ?_)⟩
        rw [vp_updV_set (by simpa using f2), ob_set f2 k5' k6']
      by_cases hf : fn c1 k1 = true
      · obtain ⟨i1, i2⟩ := hc.2.2 hf
        unfold u_lay at hlay
        rw [if_pos (by rw [t1]; exact hf)] at hlay
        have hcf : m.cls = cf := by
          obtain ⟨_, _, c', _, _, _, -, -, hf', -, -, -, hown2, -⟩ := Cond.laysFinal_spec hlay
          have e1 : c' = cf := by have := hi2.symm.trans hf'; simp at this; exact this.1.symm
          rw [t2 hf, g2, ← i2] at hown2
          rw [← e1]; exact Option.some.inj (hown.symm.trans hown2)
        have h6 := u_fits hfc hkC hkind (Or.inr hlay) hi2 (g4 k1 f2) hv.1 hv.2
        exact W.putFinK hx hb hown (hts _ f3) (hsame _ hi2) hst hcf (hini i1) (by rw [q2]; exact h6) q1 q3 (by rw [hsl]; exact k2_hasslot (q4 k1 f2)) rfl rfl hd fin
      · unfold u_lay at hlay
        rw [if_neg (by rw [t1]; exact hf)] at hlay
        have h6 := u_store hfc hkC hkind hlay hi2 (g4 k1 f2) hv.1 hv.2
        exact W.putK hx hb (f := f) ⟨hown, hts _ f3, ⟨_, _, _, hsame _ hi2⟩, hst⟩ (by rw [q2]; exact h6) q1 q3 (by rw [hsl]; exact k2_hasslot (q4 k1 f2)) rfl rfl hd fin
    · cases hg
  · cases hg
end SN1
