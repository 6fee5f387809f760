-- Arrays.copyOf, walked
def hpCq (h : hpT) (a b sp dp n : Nat) : hpT := (h.1, h.2.1, h.2.2.1, h.2.2.2.1, h.2.2.2.2.1, h.2.2.2.2.2.1, fun x y => if x = b then va_cpy (hB h a) (hB h b) sp dp n y else hB h x y)
section
variable {p : Program} {l : Launch} {e : Env} {R : Room} {s : State} {m : MethodId} {args : Array Value} {below : List Frame} {meth : Method} {c : Code} {H : Heap} {locs : List Loc} {cells slots : Nat} {Q : State → Prop}
variable {D : va_G} {dA : Nat → ClassId} {base : Nat} {g : gcT} {pc : Nat} {ls : Array Slot} {rest : List Value} {h : hpT} {cc : ByteArray}
set_option maxHeartbeats 1000000 in
theorem sn_copy2 (hx : p.tables.exec = Jvm.exec) (hb : c.code = cc) (hml : ls.size = c.maxLocals) {own : String} {idx a b : Nat} (hown : s.vm.findClass own = some m.cls) (hts : ∀ w ∈ WL, w.before args s = true) (xK : Kx D dA base g s) (hW : Wd D dA base h H) (xS : va_S (Ab base) s.heap H locs) {sp dp n : Int32} (hlink : Cond.methodLink own idx arraycopyName ∈ WL) (hk : hK h a = 28) (hk2 : hK h b = 28) (h1 : ¬ sp < 0) (h2 : ¬ dp < 0) (h3 : ¬ n < 0) (h4 : sp.toNatClampNeg + n.toNatClampNeg ≤ hN h a) (h5 : dp.toNatClampNeg + n.toNatClampNeg ≤ hN h b)
    (hel : ([4, 6, 8].any fun c => (List.range n.toNatClampNeg).all fun i => match hB h a (sp.toNatClampNeg + i) with | none => true | some y => hK h y == c + 1) = true) (hsum : (rest.map fun v => v.category).sum ≤ 8) (hframes : 1 ≤ R.frames) (hlocals : 40 ≤ R.locals) (hd : decode cc pc = .ok (.invokestatic idx, 3))
    (kk : ∀ H' locs', Wd D dA base (hpCq h a b sp.toNatClampNeg dp.toNatClampNeg n.toNatClampNeg) H' → va_S (Ab base) s.heap H' locs' → W p l e R s m args below meth c H' locs' cells slots Q (F0 m (pc + 3) ls rest)) : W p l e R s m args below meth c H locs cells slots Q (F0 m pc ls (.int n :: .int dp :: .ref b :: .int sp :: .ref a :: rest)) := by
  have nn : ∀ z : Int32, ¬ z < 0 → z.toInt = (z.toNatClampNeg : Int) := by
    intro z hz
    have hz0 : (0 : Int) ≤ z.toInt := by
      have := Int32.not_lt.mp hz
      simpa using Int32.le_iff_toInt_le.mp this
    show z.toInt = ((z.toInt.toNat : Nat) : Int)
    omega
  have hat := hW.ar (t := 8) hk
  rw [arE_ref dA h a (by omega)] at hat
  have hcell : H[a]? = some (vp_cell (dA 8) (hN h a, .inr (.inr (.inr (.inr (hB h a)))))) := hat
  have hat2 := hW.ar (t := 8) hk2
  rw [arE_ref dA h b (by omega)] at hat2
  have hcell2 : H[b]? = some (vp_cell (dA 8) (hN h b, .inr (.inr (.inr (.inr (hB h b)))))) := hat2
  have htt := tysG_ref dA (t := 8) (by omega)
  have hw7 : nativeFrameWords "java/lang/System" "arraycopy" 5 = 7 := by decide +kernel
  intro T hT X
  obtain ⟨-, k0, hk0, cm0, hkk0⟩ := (xK.1.2 8 _ htt).1 (hN h a) (fun j => va_rf (hB h a j))
  obtain ⟨-, k5, hk5, cm5, hkk5⟩ := (xK.1.2 8 _ htt).1 (hN h b) (fun j => va_rf (hB h b j))
  cases hk0.symm.trans hk5
  cases hkk0.symm.trans hkk5
  obtain ⟨vm', X', step⟩ := X.arraycopy hx hown (hts _ hlink) (hts _ acN) (hts _ acS) (hts _ acY) (src := a) (dst := b) (cs := vp_cell (dA 8) (hN h a, .inr (.inr (.inr (.inr (hB h a)))))) (cd := vp_cell (dA 8) (hN h b, .inr (.inr (.inr (.inr (hB h b)))))) (srcPos := sp) (destPos := dp) (n := n) (by rw [hT]; exact hcell) (by rw [hT]; exact hcell2)
    (fun _ h => by cases h) (fun _ h => by cases h) (fun h => by cases h) (fun h => by cases h) hk0 hk0 hkk0 hkk0 rfl h1 h2 h3
    (by rw [nn sp h1, nn n h3]; show ¬ _ > ((arrV (dA 8) (hN h a) (fun j => va_rf (hB h a j))).slots.size : Int); rw [arrV_size]; omega)
    (by rw [nn dp h2, nn n h3]; show ¬ _ > ((arrV (dA 8) (hN h b) (fun j => va_rf (hB h b j))).slots.size : Int); rw [arrV_size]; omega)
    (fun vm₁ hal i hi => by
      have e : (vp_cell (dA 8) (hN h a, .inr (.inr (.inr (.inr (hB h a)))))).slots.getD (sp.toNatClampNeg + i) .null = va_rf (hB h a (sp.toNatClampNeg + i)) := by
        show (arrV (dA 8) (hN h a) (fun j => va_rf (hB h a j))).slots.getD _ _ = _
        rw [Array.getD_eq_getD_getElem?, arrV_read _ _ (by omega)]
        rfl
      rw [e]
      cases hy : hB h a (sp.toNatClampNeg + i) with
      | none => exact ⟨rfl, trivial⟩
      | some y =>
        obtain ⟨c1, hc1, hall⟩ := List.any_eq_true.mp hel
        have hz := List.all_eq_true.mp hall i (List.mem_range.mpr hi)
        rw [hy] at hz
        have hky : hK h y = c1 + 1 := by simpa using hz
        have hcc : c1 = 4 ∨ c1 = 6 ∨ c1 = 8 := by simpa using hc1
        have hc14 : c1 < 14 := by omega
        obtain ⟨C, T1, g1, g2, -⟩ := cokAll hc14
        obtain ⟨cellV, v1, v2, v3⟩ := va_recv xK.1 (va_one (hW.ob hky hc14)) (q0 := 0) g1 rfl
        have hca : va_Nw (.castable C "java/lang/Object") s := by
          refine xK.2.2.1 _ ?_
          rw [g2]
          unfold castL
          rcases hcc with rfl | rfl | rfl
          · exact List.mem_cons_self
          · exact List.mem_cons_of_mem _ List.mem_cons_self
          · exact List.mem_cons_of_mem _ (List.mem_cons_of_mem _ List.mem_cons_self)
        obtain ⟨c0, t1, f1, f2, f3⟩ := Cond.castable_spec (va_Nw.use (A := args) rfl hca)
        obtain ⟨kA, comp, r1, r2, r3, -⟩ := (xK.1.2 8 _ htt).2
        cases hk0.symm.trans r1
        cases hkk0.symm.trans r2
        have e0 : cellV.cls = c0 := Option.some.inj (v3.symm.trans f1)
        have e2 : t1 = cm0 := Option.some.inj (f2.symm.trans r3)
        obtain ⟨kC, hkC, -⟩ := Vm.findClass_spec v3
        obtain ⟨kE, hkE, -⟩ := Vm.findClass_spec r3
        obtain ⟨kC', hkC', -⟩ := hal.2.2 _ _ hkC
        obtain ⟨kE', hkE', -⟩ := hal.2.2 _ _ hkE
        refine ⟨rfl, cellV, (show T.heap[y]? = some cellV by rw [hT]; exact v1), (fun q h => by rw [h] at v2; cases v2), ⟨kC', hkC'⟩, ?_, ?_⟩
        · exact ⟨kE', hkE'⟩
        · show vm₁.assignable _ _ = true
          rw [hal.assignable, e0, ← e2]
          exact f3)
    (g := F0 m pc ls (.int n :: .int dp :: .ref b :: .int sp :: .ref a :: rest)) rfl hml (rest := rest) rfl (by rw [hb]; exact hd) hframes (by show 2 * 0 + _ + (nativeFrameWords "java/lang/System" "arraycopy" 5 + 11) ≤ _; rw [hw7]; omega)
  have e1 : copied (vp_cell (dA 8) (hN h a, .inr (.inr (.inr (.inr (hB h a)))))) (vp_cell (dA 8) (hN h b, .inr (.inr (.inr (.inr (hB h b)))))) sp dp n = vp_cell (dA 8) (hN h b, .inr (.inr (.inr (.inr (va_cpy (hB h a) (hB h b) sp.toNatClampNeg dp.toNatClampNeg n.toNatClampNeg))))) := by
    rw [vp_cell_q, vp_cell_q]
    exact va_copied (fun z => va_rf z) (dA 8) (dA 8) (hB h a) (hB h b) h4
  rw [e1] at X' step
  have hl : b < H.size := hW.lt (by omega)
  generalize hH1 : H.setIfInBounds b (vp_cell (dA 8) (hN h b, .inr (.inr (.inr (.inr (va_cpy (hB h a) (hB h b) sp.toNatClampNeg dp.toNatClampNeg n.toNatClampNeg)))))) = H1 at *
  have oq : ∀ q : Nat, q ≠ b → H1[q]? = H[q]? := fun q hq => by rw [← hH1]; simp [Array.getElem?_setIfInBounds, Ne.symm hq]
  have z : H1.size = H.size := by rw [← hH1]; simp
  have ea : H1[b]? = some (vp_cell (dA 8) (hN h b, .inr (.inr (.inr (.inr (va_cpy (hB h a) (hB h b) sp.toNatClampNeg dp.toNatClampNeg n.toNatClampNeg)))))) := by rw [← hH1]; simp [Array.getElem?_setIfInBounds, hl]
  have wf : hWF (hpCq h a b sp.toNatClampNeg dp.toNatClampNeg n.toNatClampNeg) := by
    intro z hb2
    have hb' : hS h ≤ z := hb2
    have hne : z ≠ b := by have := hW.2.1; omega
    obtain ⟨w1, w2, w3⟩ := hW.1 z hb'
    refine ⟨w1, w2, fun x => ⟨(w3 x).1, ?_⟩⟩
    show (if z = b then _ else hB h z x) = none
    rw [if_neg hne]; exact (w3 x).2
  have hWn : Wd D dA base (hpCq h a b sp.toNatClampNeg dp.toNatClampNeg n.toNatClampNeg) H1 := by
    refine hW.upd z oq rfl rfl wf (fun z hb2 => ?_) ?_
    · have eb : hB (hpCq h a b sp.toNatClampNeg dp.toNatClampNeg n.toNatClampNeg) z = hB h z := by funext x; show (if z = b then _ else hB h z x) = _; rw [if_neg hb2]
      unfold PF arE
      rw [eb]
      rfl
    · rw [PF_ar dA (show hK (hpCq h a b sp.toNatClampNeg dp.toNatClampNeg n.toNatClampNeg) b = 20 + 8 from hk2), arE_ref dA _ b (by omega)]
      have eb : hB (hpCq h a b sp.toNatClampNeg dp.toNatClampNeg n.toNatClampNeg) b = va_cpy (hB h a) (hB h b) sp.toNatClampNeg dp.toNatClampNeg n.toNatClampNeg := by funext x; show (if b = b then _ else hB h b x) = _; rw [if_pos rfl]
      rw [eb]
      exact ea
  obtain ⟨t, a1, b1⟩ := kk H1 _ hWn ⟨by rw [z]; exact xS.1, fun q g1 g2 => by
      rw [oq q (fun e => g2 (by rw [e]; exact hW.le (by omega)))]
      exact xS.2.1 q g1 g2, fun q hq => by
      rcases List.mem_append.mp hq with h | h
      · exact xS.2.2 q h
      · obtain ⟨z, -, hz⟩ := List.mem_map.mp h
        rw [← hz]
        exact hW.le (a := b) (by omega)⟩ _ (by rw [← hH1, ← hT]; rfl) X'
  exact ⟨t, step t a1, b1⟩
end
theorem dq1_0 : decode cJ7_copyOf_1904c 0 = .ok (.aload_n 0, 1) := by decide +kernel
theorem dq1_1 : decode cJ7_copyOf_1904c 1 = .ok (.iload_n 1, 1) := by decide +kernel
theorem dq1_2 : decode cJ7_copyOf_1904c 2 = .ok (.aload_n 0, 1) := by decide +kernel
theorem dq1_3 : decode cJ7_copyOf_1904c 3 = .ok (.invokevirtual 86, 3) := by decide +kernel
theorem dq1_6 : decode cJ7_copyOf_1904c 6 = .ok (.invokestatic 300, 3) := by decide +kernel
theorem dq1_9 : decode cJ7_copyOf_1904c 9 = .ok (.areturn, 1) := by decide +kernel
theorem dq2_0 : decode cJ7_copyOf_6403c 0 = .ok (.aload_n 2, 1) := by decide +kernel
theorem dq2_1 : decode cJ7_copyOf_6403c 1 = .ok (.ldc 110, 2) := by decide +kernel
theorem dq2_3 : decode cJ7_copyOf_6403c 3 = .ok (.if_acmp .ne 10, 3) := by decide +kernel
theorem dq2_6 : decode cJ7_copyOf_6403c 6 = .ok (.iload_n 1, 1) := by decide +kernel
theorem dq2_7 : decode cJ7_copyOf_6403c 7 = .ok (.anewarray 2, 3) := by decide +kernel
theorem dq2_10 : decode cJ7_copyOf_6403c 10 = .ok (.goto 14, 3) := by decide +kernel
theorem dq2_24 : decode cJ7_copyOf_6403c 24 = .ok (.astore_n 3, 1) := by decide +kernel
theorem dq2_25 : decode cJ7_copyOf_6403c 25 = .ok (.aload_n 0, 1) := by decide +kernel
theorem dq2_26 : decode cJ7_copyOf_6403c 26 = .ok (.iconst 0, 1) := by decide +kernel
theorem dq2_27 : decode cJ7_copyOf_6403c 27 = .ok (.aload_n 3, 1) := by decide +kernel
theorem dq2_28 : decode cJ7_copyOf_6403c 28 = .ok (.iconst 0, 1) := by decide +kernel
theorem dq2_29 : decode cJ7_copyOf_6403c 29 = .ok (.aload_n 0, 1) := by decide +kernel
theorem dq2_30 : decode cJ7_copyOf_6403c 30 = .ok (.arraylength, 1) := by decide +kernel
theorem dq2_31 : decode cJ7_copyOf_6403c 31 = .ok (.iload_n 1, 1) := by decide +kernel
theorem dq2_32 : decode cJ7_copyOf_6403c 32 = .ok (.invokestatic 304, 3) := by decide +kernel
theorem dq2_35 : decode cJ7_copyOf_6403c 35 = .ok (.invokestatic 150, 3) := by decide +kernel
theorem dq2_38 : decode cJ7_copyOf_6403c 38 = .ok (.aload_n 3, 1) := by decide +kernel
theorem dq2_39 : decode cJ7_copyOf_6403c 39 = .ok (.areturn, 1) := by decide +kernel
