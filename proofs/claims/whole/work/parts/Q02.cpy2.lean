-- the contracts of Arrays.copyOf
section
variable {p : Program} {l : Launch} {e : Env} {R : Room} {s : State} {m : MethodId} {args : Array Value} {below : List Frame} {meth : Method} {c : Code} {H : Heap} {locs : List Loc} {cells slots : Nat} {Q : State → Prop}
variable {D : va_G} {dA : Nat → ClassId} {base : Nat} {g : gcT} {pc : Nat} {ls : Array Slot} {rest : List Value} {h : hpT} {cc : ByteArray}
theorem cp_new (hx : p.tables.exec = Jvm.exec) (hb : c.code = cc) {own : String} {idx : Nat} {n : Int32} (hown : s.vm.findClass own = some m.cls) (hlink : (Cond.classLink own idx "java/lang/Object").before args s = true) (xK : Kx D dA base g s) (hW : Wd D dA base h H) (xS : va_S (Ab base) s.heap H locs) (hn : ¬ n < 0 ∧ n.toNatClampNeg ≤ 2000000) (hd : decode cc pc = .ok (.anewarray idx, 3)) (hr : cells + 1 ≤ R.cells ∧ slots + n.toNatClampNeg ≤ R.slots)
    (kk : ∀ H', Wd D dA base (hpW h 8 n.toNatClampNeg) H' → va_S (Ab base) s.heap H' locs → W p l e R s m args below meth c H' locs (cells + 1) (slots + n.toNatClampNeg) Q (F0 m (pc + 3) ls (.ref (hS h) :: rest))) : W p l e R s m args below meth c H locs cells slots Q (F0 m pc ls (.int n :: rest)) := by
  have a4 : "java/lang/Object" ∈ aoL := by decide +kernel
  refine W.anew hx hb hown hlink (va_AO.use (xK.2.2.2.1 _ a4)) rfl hd rfl hn.1 (by omega) hr.1 hr.2 fun cA kA comp f1 f2 f3 f4 => ?_
  obtain ⟨kA', comp', k1, k2, k3, k4⟩ := (xK.1.2 8 _ (tysG_ref dA ⟨by omega, by omega⟩)).2
  have ec : cA = dA 8 := Option.some.inj (f1.symm.trans k4)
  subst ec
  generalize hH1 : H.push ({ cls := dA 8, slots := Array.replicate n.toNatClampNeg .null, vm := .none } : Cell) = H1
  have z1 : H1.size = H.size + 1 := by rw [← hH1, Array.size_push]
  have e1 : H1[H.size]? = some (arrV (dA 8) n.toNatClampNeg (fun _ => .null)) := by rw [← hH1, Array.getElem?_push_size, ← arrV_new]
  have o1 : ∀ q : Nat, q < H.size → H1[q]? = H[q]? := fun q hq => by rw [← hH1, Array.getElem?_push, if_neg (Nat.ne_of_lt hq)]
  have := kk H1 (hW.add (x := 20 + 8) (by omega) (Nat.le_trans xK.2.2.2.2.2.2.1 xS.1) z1 o1 rfl rfl (hW.1.W 8 _) (fun b hb2 => PF_W hb2) (sn_newat hW e1 (Or.inr (Or.inr ⟨by omega, by omega, rfl⟩)))) (xS.new (by omega) o1)
  rw [hW.2.1] at this
  exact this
end
theorem cw_code : Cond.code yJ7_copyOf_6403c cJ7_copyOf_6403c 4 (some (.array (.object "java/lang/Object"))) ∈ WL := wlk3 (List.mem_of_getElem? (i := 99) rfl) rfl
theorem cw_stat : Cond.static yJ7_copyOf_6403c ∈ WL := wlk3 (List.mem_of_getElem? (i := 98) rfl) rfl
theorem cw_ini : Cond.initialized RJ7 ∈ WL := wlk1 (List.mem_of_getElem? (i := 20) rfl) rfl
theorem cw_l300 : Cond.methodLink RJ7 300 yJ7_copyOf_6403c ∈ WL := wlk3 (List.mem_of_getElem? (i := 97) rfl) rfl
theorem cw_l86 : Cond.methodLink RJ7 86 ⟨"java/lang/Object", "getClass", "()Ljava/lang/Class;"⟩ ∈ WL := wlk3 (List.mem_of_getElem? (i := 78) rfl) rfl
theorem cw_gi : Cond.instanceMethod ⟨"java/lang/Object", "getClass", "()Ljava/lang/Class;"⟩ ∈ WL := wlk3 (List.mem_of_getElem? (i := 79) rfl) rfl
theorem cw_gn : Cond.native ⟨"java/lang/Object", "getClass", "()Ljava/lang/Class;"⟩ ∈ WL := wlk3 (List.mem_of_getElem? (i := 96) rfl) rfl
theorem cw_gs : Cond.selects "[Ljava/lang/Object;" ⟨"java/lang/Object", "getClass", "()Ljava/lang/Class;"⟩ ⟨"java/lang/Object", "getClass", "()Ljava/lang/Class;"⟩ ∈ WL := wlk7 (List.mem_of_getElem? (i := 165) rfl) rfl
theorem cw_c110 : Cond.classLink RJ7 110 "[Ljava/lang/Object;" ∈ WL := wlk3 (List.mem_of_getElem? (i := 100) rfl) rfl
theorem cw_c2 : Cond.classLink RJ7 2 "java/lang/Object" ∈ WL := wlk3 (List.mem_of_getElem? (i := 102) rfl) rfl
theorem cw_l304 : Cond.methodLink RJ7 304 Lib.Math.min.name ∈ WL := wlk3 (List.mem_of_getElem? (i := 103) rfl) rfl
theorem cw_l150 : Cond.methodLink RJ7 150 arraycopyName ∈ WL := wlk3 (List.mem_of_getElem? (i := 104) rfl) rfl
theorem cw_ms : Cond.static Lib.Math.min.name ∈ WL := wlk1 (List.mem_of_getElem? (i := 42) rfl) rfl
theorem cw_mi : Cond.initialized "java/lang/Math" ∈ WL := wlk1 (List.mem_of_getElem? (i := 3) rfl) rfl
theorem cw_mc : Cond.code Lib.Math.min.name Lib.Math.min.code 2 (some .int) ∈ WL := wlk1 (List.mem_of_getElem? (i := 43) rfl) rfl
def wsC3 : List Cond := Cond.code yJ7_copyOf_6403c cJ7_copyOf_6403c 4 (some (.array (.object "java/lang/Object"))) :: WL
theorem c3_g : GoodIn WL wsC3 := fun w hw => by
  rcases List.mem_cons.mp hw with rfl | hw
  · exact gdWL _ cw_code
  · exact gdWL _ hw
def rmC3 (n : Nat) : Room := { frames := 1, cells := 1, slots := n, locals := 60 }
def Pk3 (D : va_G) (dA : Nat → ClassId) (base : Nat) (g : gcT) (a : Nat) (n : Int32) (mi : Nat) (h : hpT) : Array Value → State → Prop := fun v U => Pk D dA base g [.ref a, .int n, .ref mi] h v U ∧ va_Mi "[Ljava/lang/Object;" mi U
section
variable {l : Launch} {D : va_G} {dA : Nat → ClassId} {base : Nat} {g : gcT} {h : hpT} {a mi : Nat} {n : Int32}
theorem hpY_cq (w : hWF h) (k : Nat) (ha : hK h a = 28) (hk : k = min n.toNatClampNeg (hN h a)) : hpCq (hpW h 8 n.toNatClampNeg) a (hS h) 0 0 k = hpY h a n.toNatClampNeg := by
  have hne : a ≠ hS h := fun z => by rw [z, (w (hS h) (Nat.le_refl _)).1] at ha; omega
  unfold hpCq hpY
  refine congrArg (fun f => ((hS h + 1, hC h + 1, hM h + n.toNatClampNeg), u1 (hK h) (hS h) 28, h.2.2.1, h.2.2.2.1, u1 (hN h) (hS h) n.toNatClampNeg, h.2.2.2.2.2.1, f)) ?_
  funext x y
  show (if x = hS h then va_cpy (hB h a) (hB h (hS h)) 0 0 k y else hB h x y) = _
  by_cases e : x = hS h
  · rw [if_pos e, if_pos e]
    unfold va_cpy
    by_cases q : y < k
    · rw [if_pos ⟨Nat.zero_le _, by omega⟩, if_pos (by omega)]
      simp
    · rw [if_neg (by omega), if_neg (by omega)]
      exact ((w (hS h) (Nat.le_refl _)).2.2 y).2
  · rw [if_neg e, if_neg e]
set_option maxHeartbeats 1000000 in
theorem m_cp3 (hk : hK h a = 28) (hn : ¬ n < 0) (hn2 : n.toNatClampNeg ≤ 2000000) (hl : hN h a ≤ 2000000) (hok : okE h a (min n.toNatClampNeg (hN h a)) = true) : Met l yJ7_copyOf_6403c wsC3 (rmC3 n.toNatClampNeg) (Pk3 D dA base g a n mi h) (Qk D dA base (hpY h a n.toNatClampNeg) (some (.ref (hS h)))) 1 n.toNatClampNeg (Ab base) := by
  refine va_MetF (cc := cJ7_copyOf_6403c) (maxL := 4) (ret := some (.array (.object "java/lang/Object"))) (by decide +kernel) rfl ?_
  intro p e s m args below meth c s₁ B hml hv
  obtain ⟨⟨rfl, xK, hW⟩, hMi⟩ := hv
  have hts0 := atoms_spec (ws := wsC3) B.pre
  have hts : ∀ w ∈ WL, w.before [Value.ref a, .int n, .ref mi].toArray s = true := fun w hw => hts0 w (List.mem_cons_of_mem _ hw)
  have hown : s.vm.findClass RJ7 = some m.cls := findClass_of_methodNamed B.named
  have hx := B.exec
  have hb := B.bytes
  have xS : va_S (Ab base) s.heap s.heap [] := va_S.rf
  have hl0 := lv_entry ([.ref a, .int n, .ref mi]) (n := 4) (Nat.le_of_ble_eq_true rfl)
  rw [lg_entry_eq]
  generalize (lg_sl ([.ref a, .int n, .ref mi]) ++ List.replicate (4 - (lg_sl ([.ref a, .int n, .ref mi])).length) Slot.unset).toArray = ls at hl0 ⊢
  have hl0 : lv_has ls 4 [(0, .ref a), (1, .int n), (2, .ref mi)] := hl0
  refine lv_aload_n hx hb dq2_0 rfl (lv_at hl0 2 rfl) ?_
  refine va_ldcM hx hb hown (hts _ cw_c110) hMi dq2_1 ?_
  refine lv_acmp_ne (rx := some mi) (ry := some mi) hx hb dq2_3 (tgt := 13) rfl (fun z => absurd rfl z) (fun _ => ?_)
  refine lv_iload_n hx hb dq2_6 rfl (lv_at hl0 1 rfl) ?_
  refine cp_new hx hb hown (hts _ cw_c2) xK hW xS ⟨hn, hn2⟩ dq2_7 ⟨Nat.le_refl _, by show 0 + n.toNatClampNeg ≤ n.toNatClampNeg; omega⟩ (fun H1 hW1 xS1 => ?_)
  refine lv_goto hx hb dq2_10 (tgt := 24) rfl ?_
  refine lv_astore_n hx hb dq2_24 rfl hl0 (by decide) rfl (fun ls1 hl1 => ?_)
  have hl1 : lv_has ls1 4 [(3, .ref (hS h)), (0, .ref a), (1, .int n), (2, .ref mi)] := hl1
  have hlt : a < hS h := hW.1.lt (by omega)
  have hka : hK (hpW h 8 n.toNatClampNeg) a = 28 := by rw [(hK_W hlt).1]; exact hk
  have hna : hN (hpW h 8 n.toNatClampNeg) a = hN h a := (hK_W hlt).2
  obtain ⟨kn, nn⟩ := hK_W_new h 8 n.toNatClampNeg
  refine lv_aload_n hx hb dq2_25 rfl (lv_at hl1 1 rfl) ?_
  refine lv_iconst (v := 0) hx hb dq2_26 rfl ?_
  refine lv_aload_n hx hb dq2_27 rfl (lv_at hl1 0 rfl) ?_
  refine lv_iconst (v := 0) hx hb dq2_28 rfl ?_
  refine lv_aload_n hx hb dq2_29 rfl (lv_at hl1 1 rfl) ?_
  have hat := hW1.ar (t := 8) hka
  rw [arE_ref dA _ a (by omega), hna] at hat
  refine va_alen (q0 := 0) (t0 := 8) hx hb xK.1 (va_one hat) rfl (tysG_ref dA (by omega)) rfl dq2_30 ?_
  refine lv_iload_n hx hb dq2_31 rfl (lv_at hl1 2 rfl) ?_
  refine va_mmin hx hb (by rw [hml]; exact hl1.1.symm) hown (hts _ cw_l304) (hts _ cw_ms) (hts _ cw_mi) (hts _ cw_mc) (Nat.le_refl _) (Nat.le_of_ble_eq_true rfl) (Nat.le_refl _) (by show 0 + n.toNatClampNeg ≤ n.toNatClampNeg; omega) dq2_32 ?_
  have hnc := nI_back (Int32.not_lt.mp hn)
  have hmin : (if n < Int32.ofNat (hN h a) then n else Int32.ofNat (hN h a)) = nI (min n.toNatClampNeg (hN h a)) := by
    show (if n < nI (hN h a) then n else nI (hN h a)) = _
    by_cases q : n < nI (hN h a)
    · rw [if_pos q]
      have q2 := q
      rw [hnc] at q2
      have := (nI_le_iff (by omega) (by omega)).mp (Int32.le_of_lt q2)
      rw [Nat.min_eq_left this]
      exact hnc
    · rw [if_neg q]
      have q2 := Int32.not_lt.mp q
      rw [hnc] at q2
      have := (nI_le_iff (by omega) (by omega)).mp q2
      rw [Nat.min_eq_right this]
  rw [hmin]
  have ecl : (nI (min n.toNatClampNeg (hN h a))).toNatClampNeg = min n.toNatClampNeg (hN h a) := nI_clamp (by omega)
  have c00 : (0 : Int32).toNatClampNeg = 0 := rfl
  refine sn_copy2 hx hb (by rw [hml]; exact hl1.1) hown hts xK hW1 xS1 cw_l150 hka kn (by decide) (by decide) (nI_pos (by omega)) (by rw [ecl, hna, c00]; omega) (by rw [ecl, nn, c00]; omega) ?_ (Nat.le_of_ble_eq_true rfl) (Nat.le_refl _) (by show 40 ≤ 60; decide) dq2_35 (fun H2 locs2 hW2 xS2 => ?_)
  · rw [ecl, c00]
    unfold okE at hok
    obtain ⟨c1, hc1, hall⟩ := List.any_eq_true.mp hok
    refine List.any_eq_true.mpr ⟨c1, hc1, List.all_eq_true.mpr (fun i hi => ?_)⟩
    have hz := List.all_eq_true.mp hall i hi
    rw [Nat.zero_add]
    have eB : hB (hpW h 8 n.toNatClampNeg) a i = hB h a i := rfl
    rw [eB]
    cases hy : hB h a i with
    | none => rfl
    | some y =>
      rw [hy] at hz
      have hky : hK h y = c1 + 1 := by simpa using hz
      have hyl : y < hS h := hW.1.lt (by omega)
      show (hK (hpW h 8 n.toNatClampNeg) y == c1 + 1) = true
      rw [(hK_W hyl).1, hky]
      simp
  · rw [ecl, c00, hpY_cq hW.1 _ hk rfl] at hW2
    refine lv_aload_n hx hb dq2_38 rfl (lv_at hl1 0 rfl) ?_
    rw [Nat.zero_add]
    exact W.aret hx hb B.returns (Or.inr ⟨_, rfl⟩) (Or.inr ⟨_, rfl⟩) (fun t ht _ => ⟨rfl, by rw [ht]; exact hW2, xS2.F ht⟩) xS2.2.2 dq2_39 B.notSynchronized
set_option maxHeartbeats 1000000 in
theorem m_206 (hk : hK h a = 28) (hn : ¬ n < 0) (hn2 : n.toNatClampNeg ≤ 2000000) (hl : hN h a ≤ 2000000) (hok : okE h a (min n.toNatClampNeg (hN h a)) = true) : MetK l D dA base g 206 [.ref a, .int n] h (hpY h a n.toNatClampNeg) (some (.ref (hS h))) := by
  have e1 : hC (hpY h a n.toNatClampNeg) - hC h = 1 := by show hC h + 1 - hC h = 1; omega
  have e2 : hM (hpY h a n.toNatClampNeg) - hM h = n.toNatClampNeg := by show hM h + n.toNatClampNeg - hM h = _; omega
  unfold MetK
  have hrm : rmM 206 h (hpY h a n.toNatClampNeg) = { frames := 3, cells := 1, slots := n.toNatClampNeg, locals := 100 } := by
    unfold rmM
    rw [e1, e2]
    rfl
  rw [hrm, e1, e2]
  refine va_MetF (cc := mB 206) (maxL := mX 206) (ret := mR 206) mok_206.2.2.2.1 rfl ?_
  intro p e s m args below meth c s₁ B hml hv
  obtain ⟨rfl, xK, hW⟩ := hv
  have hts0 := atoms_spec (ws := wsM 206) B.pre
  have hts : ∀ w ∈ WL, w.before [Value.ref a, .int n].toArray s = true := fun w hw => hts0 w (List.mem_cons_of_mem _ hw)
  have hown : s.vm.findClass RJ7 = some m.cls := findClass_of_methodNamed B.named
  have hx := B.exec
  have hb : c.code = cJ7_copyOf_1904c := B.bytes
  have hml2 : c.maxLocals = 2 := hml
  have xS : va_S (Ab base) s.heap s.heap [] := va_S.rf
  obtain ⟨mi, hMi⟩ := xK.2.2.2.2.2.2.2.2.2.2.1
  have hDc := xK.2.2.2.2.2.2.2.2.2.2.2.1
  have hl0 := lv_entry ([.ref a, .int n]) (n := 2) (Nat.le_of_ble_eq_true rfl)
  show W p l e _ s m _ below meth c s.heap [] 0 0 _ (entryFrame m [Value.ref a, .int n].toArray 2)
  rw [lg_entry_eq]
  generalize (lg_sl ([.ref a, .int n]) ++ List.replicate (2 - (lg_sl ([.ref a, .int n])).length) Slot.unset).toArray = ls at hl0 ⊢
  have hl0 : lv_has ls 2 [(0, .ref a), (1, .int n)] := hl0
  refine lv_aload_n hx hb dq1_0 rfl (lv_at hl0 0 rfl) ?_
  refine lv_iload_n hx hb dq1_1 rfl (lv_at hl0 1 rfl) ?_
  refine lv_aload_n hx hb dq1_2 rfl (lv_at hl0 0 rfl) ?_
  have hat := hW.ar (t := 8) hk
  rw [arE_ref dA _ a (by omega)] at hat
  have hcell : s.heap[a]? = some (vp_cell (dA 8) (hN h a, .inr (.inr (.inr (.inr (hB h a)))))) := hat
  have hcls : s.vm.findClass "[Ljava/lang/Object;" = some (dA 8) := va_nmO (xK.1.2 8 _ (tysG_ref dA (t := 8) (by omega))).2 (by decide +kernel)
  refine va_getC hx hb (by rw [hml2]; exact hl0.1.symm) hown (hts _ cw_l86) hDc.use (hts _ cw_gs) (hts _ cw_gi) (hts _ cw_gn) hMi ⟨_, hcell, rfl, hcls⟩ (by show 1 ≤ 3; decide) (Nat.le_of_ble_eq_true rfl) dq1_3 ?_
  have fix : CallFix p m c cJ7_copyOf_1904c 2 s [Value.ref a, .int n].toArray WL RJ7 := ⟨hx, hb, hml2, hown, hts⟩
  have pre : PreS s s.heap (Pk3 D dA base g a n mi h) [.ref a, .int n, .ref mi] := ⟨fun a U f mk q => ⟨Pk.blind a U f mk q.1, q.2.moved (Vm.Alike.refl U.vm)⟩, fun U hU hWm => ⟨Pk.at xK xS hW _ U hU hWm, hMi.moved hWm.alike⟩⟩
  have run := va_runS (R := { frames := 3, cells := 1, slots := n.toNatClampNeg, locals := 100 }) (l := l) (e := e) (below := below) (meth := meth) (locs := []) (cells := 0) (slots := 0) (g := F0 m 6 ls [.ref mi, .int n, .ref a]) (rest := []) fix (m_cp3 (mi := mi) hk hn hn2 hl hok) ⟨callB_of 3 hts c3_g rfl rfl rfl (hts _ cw_ini) (hts _ cw_l300) ⟨by decide +kernel, by decide +kernel, by decide +kernel⟩ ⟨by show 1 + 1 ≤ 3; decide, by show 8 + (4 + 11) + 60 ≤ 100; decide⟩, hts _ cw_stat⟩ pre rfl rfl hl0.1 rfl (by show 2 * 0 + 0 ≤ 8; decide) dq1_6 ⟨by show 0 + 1 ≤ 1; decide, by show 0 + n.toNatClampNeg ≤ n.toNatClampNeg; omega⟩
  refine sn_go run xS (fun H1 locs1 hW1 xS1 => ?_)
  rw [Nat.zero_add, Nat.zero_add]
  exact W.aret hx hb B.returns (Or.inr ⟨_, rfl⟩) (Or.inr ⟨_, rfl⟩) (fun t ht _ => ⟨rfl, by rw [ht]; exact hW1, xS1.F ht⟩) xS1.2.2 dq1_9 B.notSynchronized
end
