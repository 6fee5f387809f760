-- message, which may throw: the machine
theorem P0_hP : ∀ j As h h' r, (fun _ _ _ => none : pmT) j As h = some (h', r) → hLe h h' := fun _ _ _ _ _ e => by cases e
theorem P0_ok {l : Launch} {D : va_G} {dA : Nat → ClassId} {base : Nat} {g : gcT} : PrimOK l D dA base g (fun _ _ _ => none) := fun _ _ _ _ _ _ e => by cases e
theorem metK_ev {l : Launch} {D : va_G} {dA : Nat → ClassId} {base : Nat} {g : gcT} {n j : Nat} {As : List Value} {h h1 : hpT} {r1 : Option Value} (hcall : ev g (fun _ _ _ => none) n j 0 (lc0 j As) [] h = some (h1, r1)) (hjlt : j < 205 ∨ j = 206) (hz1 : As.all (fun v => v.category == 1) = true) (hz2 : As.length ≤ mX j) : MetK l D dA base g j As h h1 r1 := by
  refine va_MetF (cc := mB j) (maxL := mX j) (ret := mR j) (mokAll hjlt).2.2.2.1 rfl ?_
  intro p e s m args below meth c s₁ B hml hv
  obtain ⟨rfl, hKx, hWd⟩ := hv
  have hts := atoms_spec (ws := wsM j) B.pre
  have hname := name_of_methodNamed B.named B.method
  have hown : s.vm.findClass (mY j).cls = some m.cls := findClass_of_methodNamed B.named
  obtain ⟨ls0, he, hL0⟩ := lc0_LR hz1 hz2 m
  rw [he]
  have hok := mokAll hjlt
  have xCj : Cx D dA base g j p s m As.toArray meth c := ⟨B.exec, B.bytes, hml, by rw [← hok.2.2.2.2.1]; exact hown, fun w hw => hts w (List.mem_cons_of_mem _ hw), fun hd2 => by rw [hname.1]; exact (hok.2.2.2.2.2.2.2 hd2).2.1, hKx⟩
  have key := ev_sound (l := l) P0_hP P0_ok n j 0 (lc0 j As) [] h h1 r1 hcall p e (rmM j h h1) s m As.toArray below meth c s.heap [] ls0 (MQ below (Qk D dA base h1 r1) As.toArray s (hC h1 - hC h) (hM h1 - hM h) (Ab base)) (hC h) (hM h) xCj hL0 hWd va_S.rf ⟨Nat.le_refl _, Nat.le_refl _⟩ ⟨Nat.le_refl _, Nat.le_refl _⟩ ⟨Nat.le_refl _, Nat.le_refl _⟩ (fun pc' i ls' st' H' locs' hd' hrt' w1 w2 => rt_end B.exec B.bytes B.returns B.notSynchronized hd' hrt' w1 w2)
  rw [Nat.sub_self, Nat.sub_self] at key
  exact key
abbrev xWs : List Cond := (nsL RX11 121).filter vx_no
theorem xw_good : ∀ w ∈ xWs.filter goodWord, w ∈ lw_tbl := by decide +kernel
theorem xw_bad : ∀ w ∈ xWs.filter (fun w => !goodWord w), w = .castable nsE nsE ∨ w = .declares (Bundle.initS "java/lang/RuntimeException") ∨ w = .declares (Bundle.initS "java/lang/Exception") ∨ w = .declares (Bundle.initS Bundle.tN) := by decide +kernel
theorem xw_ot : ∀ w ∈ Cond.classLink RX11 117 nsE :: Cond.initialized nsE :: xWs, vx_ot w = true := by decide +kernel
theorem decl_of {args : Array Value} {s : State} {y : MethodName} {bytes : ByteArray} {maxL : Nat} {ret : Option FieldType} (h1 : (Cond.instanceMethod y).before args s = true) (h2 : (Cond.code y bytes maxL ret).before args s = true) : (Cond.declares y).before args s = true := by
  obtain ⟨mk, methM, hn, hm, hst, -⟩ := Cond.instanceMethod_spec h1
  obtain ⟨meth', cM, hm', -, -, -, -, -, -, hsig⟩ := Cond.code_spec hn h2
  cases hm.symm.trans hm'
  show (Cond.declares y).holds args s none s [] = true
  simp [Cond.holds, Cond.value, hn, hm, hst, hsig]
theorem xw_i1 : Cond.instanceMethod (Bundle.initS "java/lang/RuntimeException") ∈ WL := wlk5 (List.mem_of_getElem? (i := 103) rfl) rfl
theorem xw_c1 : Cond.code (Bundle.initS "java/lang/RuntimeException") prog_21_method_2_code 2 none ∈ WL := wlk5 (List.mem_of_getElem? (i := 104) rfl) rfl
theorem xw_i2 : Cond.instanceMethod (Bundle.initS "java/lang/Exception") ∈ WL := wlk5 (List.mem_of_getElem? (i := 106) rfl) rfl
theorem xw_c2 : Cond.code (Bundle.initS "java/lang/Exception") prog_17_method_2_code 2 none ∈ WL := wlk5 (List.mem_of_getElem? (i := 107) rfl) rfl
theorem xw_i3 : Cond.instanceMethod (Bundle.initS Bundle.tN) ∈ WL := wlk5 (List.mem_of_getElem? (i := 109) rfl) rfl
theorem xw_c3 : Cond.code (Bundle.initS Bundle.tN) prog_24_method_2_code 2 none ∈ WL := wlk5 (List.mem_of_getElem? (i := 110) rfl) rfl
theorem xw_at {args : Array Value} {s : State} (hts : ∀ w ∈ WL, w.before args s = true) (xE : va_Nw (.castable nsE nsE) s) : ∀ w ∈ xWs, w.before args s = true := by
  intro w hw
  by_cases q : goodWord w = true
  · exact hts w (List.mem_filter.mpr ⟨xw_good w (List.mem_filter.mpr ⟨hw, q⟩), q⟩)
  · rcases xw_bad w (List.mem_filter.mpr ⟨hw, by simp [q]⟩) with e | e | e | e
    · rw [e]; exact va_Nw.use rfl xE
    · rw [e]; exact decl_of (hts _ xw_i1) (hts _ xw_c1)
    · rw [e]; exact decl_of (hts _ xw_i2) (hts _ xw_c2)
    · rw [e]; exact decl_of (hts _ xw_i3) (hts _ xw_c3)
theorem xw_l117 : Cond.classLink RX11 117 nsE ∈ WL := wlk5 (List.mem_of_getElem? (i := 59) rfl) rfl
theorem xw_ini : Cond.initialized nsE ∈ WL := wlk1 (List.mem_of_getElem? (i := 27) rfl) rfl
theorem xw_l13 : Cond.classLink RL 13 nsE ∈ WL := wlk5 (List.mem_of_getElem? (i := 54) rfl) rfl
theorem w5_in : Cond.codeWith yL_message cL_message 5 (some .int) [(0, 10, 13, 13)] ∈ WL := wlk5 (List.mem_of_getElem? (i := 53) rfl) rfl
def wsM5 : List Cond := Cond.codeWith yL_message cL_message 5 (some .int) [(0, 10, 13, 13)] :: WL
theorem w5_g : GoodIn WL wsM5 := fun w hw => by
  rcases List.mem_cons.mp hw with rfl | hw
  · exact gdWL _ w5_in
  · exact gdWL _ hw
def rm68 : Room := { frames := 8, cells := 1, slots := 6, locals := 370 }
section
variable {p : Program} {l : Launch} {e : Env} {R : Room} {s : State} {m : MethodId} {args : Array Value} {below : List Frame} {meth : Method} {c : Code} {H : Heap} {locs : List Loc} {cells slots : Nat} {Q : State → Prop}
variable {D : va_G} {dA : Nat → ClassId} {base : Nat} {g : gcT} {k pc : Nat} {ls : Array Slot} {rest : List Value} {h h' : hpT} {x b out : Nat} {x1 x2 v : Int32}
theorem wd_thr {H1 : Heap} (hW : Wd D dA base h H) (z : H1.size = H.size + 1) (oq : ∀ q : Nat, q < H.size → H1[q]? = H[q]?) : Wd D dA base (thrH h) H1 := by
  refine ⟨(thr_ch hW.1).2.2.1, ?_, fun a ha => ?_⟩
  · show hS h + 1 = H1.size
    rw [z, hW.2.1]
  · obtain ⟨h1, h2⟩ := hW.2.2 a ha
    exact ⟨h1, h2.kept (oq a h2.lt)⟩
def qT : Array Value → State → Outcome → State → Prop := va_Qi (S := Unit) (fun _ _ => False) (fun _ _ => True) (fun _ => False)
def xT (D : va_G) (dA : Nat → ClassId) (base : Nat) (h : hpT) : String → State → State → Prop := vx_X (S := Unit) (fun _ => True) (fun E _ t => E = nsE ∧ Wd D dA base (thrH h) t.heap) (Ab base)
theorem x_throw (hl : l.stackTraces = false) (xC : Cx D dA base g 68 p s m args meth c) (ht : ∀ x ∈ c.exceptionTable.toList, False) (hlk : meth.locks = false) (hW : Wd D dA base h H) (xS : va_S (Ab base) s.heap H locs) (hsize : ls.size = c.maxLocals) {is sa : Nat} {text : String} (hstr : vk_R RX11 is text sa s)
    (d0 : decode (mB 68) pc = .ok (.new 117, 3)) (d3 : decode (mB 68) (pc + 3) = .ok (.dup, 1)) (d4 : decode (mB 68) (pc + 4) = .ok (.ldc is, 2)) (d6 : decode (mB 68) (pc + 6) = .ok (.invokespecial 121, 3)) (d9 : decode (mB 68) (pc + 9) = .ok (.athrow, 1)) :
    W p l e rm68 s m args below meth c H locs 0 0 (vx_MQ below qT (xT D dA base h) args s 1 6 (Ab base)) (F0 m pc ls []) := by
  obtain ⟨hx, hb, hml, hown, hts, hini, xK⟩ := xC
  have xE := xK.2.2.2.2.2.2.2.2.2.2
  obtain ⟨-, -, e3, e4, e5, -⟩ := xE
  refine kx_throwS (rest := []) (A := Ab base) hx hb hl hown (hts _ xw_l117) (hts _ xw_ini) hstr (xw_at hts e3) xw_ot e4 e5 xS hsize d0 d3 d4 d6 d9 (fun x hx => (ht x hx).elim) (by decide) (by decide) (by decide) (by decide) hlk (fun t _ hz hq => ⟨(), trivial, ⟨rfl, wd_thr hW hz hq⟩, by rw [hz]; exact Nat.le_trans xS.1 (Nat.le_succ _), fun q h1 h2 => by rw [hq q (Nat.lt_of_lt_of_le h1 xS.1)]; exact xS.2.1 q h1 h2⟩) xS.2.2 (by decide) (by decide)
set_option maxHeartbeats 1000000 in
theorem m_68x (hl : l.stackTraces = false) (kx : hK h x = 13) (rx : hR h 771 x = some b) (kb : hK h b = 24) (nb : hN h b = 40) (q : msgO h b x1 = none ∨ x2 < 0 ∨ 5 < x2) : vx_Met l (mY 68) (wsM 68) rm68 (Pk D dA base g [.ref x, .int x1, .int x2] h) qT (xT D dA base h) 1 6 (Ab base) := by
  refine vx_ofW (cc := mB 68) (maxL := mX 68) (ret := mR 68) (by decide +kernel) rfl ?_
  intro p e s m args below meth c s₁ B hml ht hv
  obtain ⟨rfl, xK, hW⟩ := hv
  have hts0 := atoms_spec (ws := wsM 68) B.pre
  have hts : ∀ w ∈ WL, w.before [Value.ref x, .int x1, .int x2].toArray s = true := fun w hw => hts0 w (List.mem_cons_of_mem _ hw)
  have hown : s.vm.findClass RX11 = some m.cls := findClass_of_methodNamed B.named
  have xC : Cx D dA base g 68 p s m [Value.ref x, .int x1, .int x2].toArray meth c := ⟨B.exec, B.bytes, hml, hown, hts, fun hd2 => absurd hd2 (by decide), xK⟩
  obtain ⟨ls0, he, hL0⟩ := lc0_LR (j := 68) (As := [.ref x, .int x1, .int x2]) rfl (Nat.le_of_ble_eq_true rfl) m
  rw [he]
  have hl0 : lv_has ls0 4 [(0, .ref x), (1, .int x1), (2, .int x2)] := hL0.has
  have hx := B.exec
  have hb := B.bytes
  have xS : va_S (Ab base) s.heap s.heap [] := va_S.rf
  have ⟨⟨sa1, es1⟩, sa2, es2⟩ := xK.2.2.2.2.2.2.2.2.2.2.2.2.2.2.2
  have hml4 : c.maxLocals = 4 := hml
  refine lv_aload_n hx hb d_68_0 rfl (lv_at hl0 0 rfl) ?_
  refine lv_iload_n hx hb d_68_1 rfl (lv_at hl0 1 rfl) ?_
  obtain ⟨n, h9, r, e1, z, e2, e3, e4⟩ := m_messageAt (g := g) (P := fun _ _ _ => none) (x := x1) kx rx kb nb
  subst e3; subst e2; subst e4
  have hcl : clO 68 (.invokevirtual 75) 3 [.int x1, .ref x] h9 = some (95, [.ref x, .int x1], []) := clO_v (As := [.int x1]) (by decide +kernel) ⟨by decide, by decide⟩ rfl rfl kx (by decide)
  obtain ⟨aa, run, -⟩ := sn_call (p := p) (l := l) (e := e) (R := rm68) (s := s) (m := m) (below := below) (meth := meth) (c := c) (H := s.heap) (locs := []) (cells := 0) (slots := 0) xC d_68_2 hL0 hW xS hcl (by decide) (Or.inl (by decide)) (metK_ev (l := l) (D := D) (dA := dA) (base := base) e1 (Or.inl (by decide)) rfl (Nat.le_of_ble_eq_true rfl)) ⟨by decide, by decide⟩ ⟨by rw [Nat.sub_self]; decide, by rw [Nat.sub_self]; decide⟩
  refine sn_go run xS (fun H1 locs1 hW1 xS1 => ?_)
  rw [Nat.sub_self, Nat.sub_self]
  cases hm : msgO h9 b x1 with
  | none =>
    refine lv_astore_nN hx hb d_68_5 rfl hl0 (by decide) rfl (fun ls1 hl1 => ?_)
    have hl1 : lv_has ls1 4 [(3, .null), (0, .ref x), (1, .int x1), (2, .int x2)] := hl1
    refine lv_aload_nN hx hb d_68_6 rfl (lv_at hl1 0 rfl) ?_
    refine lv_ifnonnullN hx hb d_68_7 ?_
    exact x_throw hl xC ht B.notSynchronized hW1 xS1 (by rw [hml4]; exact hl1.1) es1 d_68_10 d_68_13 d_68_14 d_68_16 d_68_19
  | some mm =>
    rw [hm] at q
    have q2 : x2.toInt < 0 ∨ 5 < x2.toInt := by
      rcases q with q | q | q
      · cases q
      · exact Or.inl (Int32.lt_iff_toInt_lt.mp q)
      · exact Or.inr (Int32.lt_iff_toInt_lt.mp q)
    refine lv_astore_n hx hb d_68_5 rfl hl0 (by decide) rfl (fun ls1 hl1 => ?_)
    have hl1 : lv_has ls1 4 [(3, .ref mm), (0, .ref x), (1, .int x1), (2, .int x2)] := hl1
    refine lv_aload_n hx hb d_68_6 rfl (lv_at hl1 0 rfl) ?_
    refine lv_ifnonnull (tgt := 20) hx hb d_68_7 rfl ?_
    refine lv_iload_n hx hb d_68_20 rfl (lv_at hl1 3 rfl) ?_
    refine lv_tableOut (tgt := 135) hx hb d_68_21 q2 rfl ?_
    exact x_throw hl xC ht B.notSynchronized hW1 xS1 (by rw [hml4]; exact hl1.1) es2 d_68_135 d_68_138 d_68_139 d_68_141 d_68_144
/-- a long is laid into a row -/
theorem sn_last (hC : Cx D dA base g k p s m args meth c) (hW : Wd D dA base h H) (xS : va_S (Ab base) s.heap H locs) {a : Nat} {i y : Int32} (hin : hK h a = 29 ∧ vinD i (hN h a)) (hd : decode (mB k) pc = .ok (.lastore, 1))
    (kk : ∀ H' locs', Wd D dA base (hpA h a i.toNatClampNeg y) H' → va_S (Ab base) s.heap H' locs' → W p l e R s m args below meth c H' locs' cells slots Q (F0 m (pc + 1) ls rest)) : W p l e R s m args below meth c H locs cells slots Q (F0 m pc ls (.long y.toInt64 :: .int i :: .ref a :: rest)) := by
  obtain ⟨hx, hb, hml, hown, hts, hini, xK⟩ := hC
  have hk : hK h a = 20 + 9 := hin.1
  have hat := hW.ar hk
  refine W.last hx hb (cell := vp_cell (dA 9) (hN h a, .inr (.inl (fun j => (hA h a j).toInt64)))) hat ((xK.1.2 9 _ rfl).1 (hN h a) (fun j => .long ((hA h a j).toInt64))) (fun q => by cases q) (by show ¬ (i < 0 ∨ (arrV _ _ _).slots.size ≤ _); rw [arrV_size]; exact hin.2) rfl rfl hd fun H1 e z oq => ?_
  refine kk H1 _ (hW.upd z oq rfl rfl (hW.1.A (by rw [hW.2.1]; exact hW.lt (by omega))) (fun b hb2 => PF_A hb2) ?_) (xS.put z oq (hW.le (a := a) (by rw [hk]; omega)))
  rw [PF_ar dA (show hK (hpA h a i.toNatClampNeg y) a = 20 + 9 from hk)]
  show H1[a]? = some (vp_cell (dA 9) (hN h a, .inr (.inl (fun j => (hA (hpA h a i.toNatClampNeg y) a j).toInt64))))
  rw [e, vp_cell_l, vp_cell_l, arrV_store]
  congr 2
  funext q
  show updV (fun j => Value.long ((hA h a j).toInt64)) i.toNatClampNeg (.long y.toInt64) q = .long ((u2 (hA h) a i.toNatClampNeg y a q).toInt64)
  by_cases hq : q = i.toNatClampNeg
  · subst hq; simp [updV, u2]
  · simp [updV, u2, hq]
def MetM (l : Launch) (D : va_G) (dA : Nat → ClassId) (base : Nat) (g : gcT) (As : List Value) (h h1 : hpT) (r : Option Value) : Prop := Met l (mY 205) wsM5 (rmM 205 h h1) (Pk D dA base g As h) (Qk D dA base h1 r) (hC h1 - hC h) (hM h1 - hM h) (Ab base)
set_option maxHeartbeats 1000000 in
theorem m_205r (kx : hK h x = 13) (ko : hK h' out = 29) (no : 1 ≤ hN h' out) (xM : MetK l D dA base g 68 [.ref x, .int x1, .int x2] h h' (some (.int v))) : MetM l D dA base g [.ref x, .int x1, .int x2, .ref out] h (hpA h' out 0 v) (some (.int 0)) := by
  refine va_MetW (cc := mB 205) (maxL := mX 205) (ret := mR 205) (hh := [(0, 10, 13, 13)]) (by decide +kernel) rfl ?_
  intro p e s m args below meth c s₁ B hml hv
  obtain ⟨rfl, xK, hW⟩ := hv
  have hts0 := atoms_spec (ws := wsM5) B.pre
  have hts : ∀ w ∈ WL, w.before [Value.ref x, .int x1, .int x2, .ref out].toArray s = true := fun w hw => hts0 w (List.mem_cons_of_mem _ hw)
  have hown : s.vm.findClass RL = some m.cls := findClass_of_methodNamed B.named
  have xC : Cx D dA base g 205 p s m [Value.ref x, .int x1, .int x2, .ref out].toArray meth c := ⟨B.exec, B.bytes, hml, hown, hts, fun hd2 => absurd hd2 (by decide), xK⟩
  obtain ⟨ls0, he, hL0⟩ := lc0_LR (j := 205) (As := [.ref x, .int x1, .int x2, .ref out]) rfl (Nat.le_of_ble_eq_true rfl) m
  rw [he]
  have hl0 : lv_has ls0 5 [(0, .ref x), (1, .int x1), (2, .int x2), (3, .ref out)] := hL0.has
  have hx := B.exec
  have hb := B.bytes
  have xS : va_S (Ab base) s.heap s.heap [] := va_S.rf
  refine lv_aload_n hx hb d_205_0 rfl (lv_at hl0 3 rfl) ?_
  refine lv_iconst (v := 0) hx hb d_205_1 rfl ?_
  refine lv_aload_n hx hb d_205_2 rfl (lv_at hl0 0 rfl) ?_
  refine lv_iload_n hx hb d_205_3 rfl (lv_at hl0 1 rfl) ?_
  refine lv_iload_n hx hb d_205_4 rfl (lv_at hl0 2 rfl) ?_
  have hcl : clO 205 (.invokevirtual 7) 3 [.int x2, .int x1, .ref x, .int 0, .ref out] h = some (68, [.ref x, .int x1, .int x2], [.int 0, .ref out]) := clO_v (As := [.int x1, .int x2]) (by decide +kernel) ⟨by decide, by decide⟩ rfl rfl kx (by decide)
  obtain ⟨aa, run, -⟩ := sn_call (p := p) (l := l) (e := e) (R := rmM 205 h (hpA h' out 0 v)) (s := s) (m := m) (below := below) (meth := meth) (c := c) (H := s.heap) (locs := []) (cells := 0) (slots := 0) xC d_205_5 hL0 hW xS hcl (Nat.le_of_ble_eq_true rfl) (Or.inl (by decide)) xM ⟨by show mF 68 + 1 ≤ mF 205; decide, by show 8 + (mX 68 + 11) + mW 68 ≤ mW 205; decide⟩ ⟨by rw [Nat.zero_add]; exact Nat.le_refl _, by rw [Nat.zero_add]; exact Nat.le_refl _⟩
  refine sn_go run xS (fun H1 locs1 hW1 xS1 => ?_)
  rw [Nat.zero_add, Nat.zero_add]
  refine lv_i2l hx hb d_205_8 rfl ?_
  refine sn_last xC hW1 xS1 ⟨ko, fun z => z.elim (by decide) (fun z => by have : hN h' out ≤ 0 := z; omega)⟩ d_205_9 (fun H2 locs2 hW2 xS2 => ?_)
  refine lv_goto (tgt := 17) hx hb d_205_10 rfl ?_
  refine lv_iconst (v := 0) hx hb d_205_17 rfl ?_
  exact W.iret hx hb B.returns (fun t ht _ => ⟨rfl, by rw [ht]; exact hW2, xS2.F ht⟩) xS2.2.2 d_205_18 B.notSynchronized
set_option maxHeartbeats 1000000 in
theorem m_205t (hl : l.stackTraces = false) (kx : hK h x = 13) (rx : hR h 771 x = some b) (kb : hK h b = 24) (nb : hN h b = 40) (q : msgO h b x1 = none ∨ x2 < 0 ∨ 5 < x2) : MetM l D dA base g [.ref x, .int x1, .int x2, .ref out] h (thrH h) (some (.int 1)) := by
  have e1 : hC (thrH h) - hC h = 1 := by show hC h + 1 - hC h = 1; omega
  have e2 : hM (thrH h) - hM h = 6 := by show hM h + 6 - hM h = 6; omega
  unfold MetM
  have hrm : rmM 205 h (thrH h) = { frames := 9, cells := 1, slots := 6, locals := 400 } := by
    unfold rmM
    rw [e1, e2]
    rfl
  rw [hrm, e1, e2]
  refine va_MetW (cc := mB 205) (maxL := mX 205) (ret := mR 205) (hh := [(0, 10, 13, 13)]) (by decide +kernel) rfl ?_
  intro p e s m args below meth c s₁ B hml hv
  obtain ⟨rfl, xK, hW⟩ := hv
  have hts0 := atoms_spec (ws := wsM5) B.pre
  have hts : ∀ w ∈ WL, w.before [Value.ref x, .int x1, .int x2, .ref out].toArray s = true := fun w hw => hts0 w (List.mem_cons_of_mem _ hw)
  have htab : c.exceptionTable.toList = [{ startPc := 0, endPc := 10, handlerPc := 13, catchType := 13 }] := vx_table (x := mY 205) B (hts0 _ List.mem_cons_self)
  have hown : s.vm.findClass RL = some m.cls := findClass_of_methodNamed B.named
  obtain ⟨ls0, he, hL0⟩ := lc0_LR (j := 205) (As := [.ref x, .int x1, .int x2, .ref out]) rfl (Nat.le_of_ble_eq_true rfl) m
  rw [he]
  have hl0 : lv_has ls0 5 [(0, .ref x), (1, .int x1), (2, .int x2), (3, .ref out)] := hL0.has
  have hx := B.exec
  have hb := B.bytes
  have xS : va_S (Ab base) s.heap s.heap [] := va_S.rf
  refine lv_aload_n hx hb d_205_0 rfl (lv_at hl0 3 rfl) ?_
  refine lv_iconst (v := 0) hx hb d_205_1 rfl ?_
  refine lv_aload_n hx hb d_205_2 rfl (lv_at hl0 0 rfl) ?_
  refine lv_iload_n hx hb d_205_3 rfl (lv_at hl0 1 rfl) ?_
  refine lv_iload_n hx hb d_205_4 rfl (lv_at hl0 2 rfl) ?_
  have fix : CallFix p m c (mB 205) 5 s [Value.ref x, .int x1, .int x2, .ref out].toArray WL RL := ⟨hx, hb, hml, hown, hts⟩
  obtain ⟨C, T, g1, g2, -⟩ := cokAll (c := 12) (by decide)
  have recv := va_recv xK.1 (va_one (hW.ob (c := 12) kx (by decide))) (q0 := 0) g1 rfl
  have eC : (mY 68).cls = C := by rw [mok_68.2.2.2.2.1, g2]; rfl
  have hlk7 : Cond.methodLink RL 7 (mY 68) ∈ WL := by
    obtain ⟨f1, -⟩ := ml_ok (o := 14) (i := 7) (v := 68) (by decide +kernel)
    rcases f1.2.2 (by decide) with q9 | q9
    · exact q9
    · exact absurd (by decide) q9.1
  obtain ⟨s1, s2⟩ := mok_68.2.2.2.2.2.2.1 (by decide)
  have run := vx_runV (R := { frames := 9, cells := 1, slots := 6, locals := 400 }) (l := l) (e := e) (below := below) (meth := meth) (locs := []) (cells := 0) (slots := 0) (C := (mY 68).cls) (g := F0 m 5 ls0 [.int x2, .int x1, .ref x, .int 0, .ref out]) (rest := [.int 0, .ref out]) (As := [.int x1, .int x2]) fix (m_68x hl kx rx kb nb q) ⟨callB_of 2 hts (gdM mok_68) rfl rfl rfl (hts _ mok_68.2.1) (hts _ hlk7) mok_68.2.2.1 ⟨by decide, by decide⟩, hts _ s1, hts _ s2⟩ ⟨Pk.blind, by rw [eC]; exact recv, Pk.at xK xS hW _⟩ rfl rfl hL0.1 rfl (Nat.le_of_ble_eq_true rfl) d_205_5 ⟨by decide, by decide⟩
  refine vx_calli run xS (fun _ _ z => z.elim) (fun _ z => z) (fun _ _ z => z) (fun E ce q9 u t H1 locs1 ht _ _ hbx _ _ xS1 hce hcv hcl => ?_) (fun _ _ _ _ _ _ _ z => z.elim)
  obtain ⟨hE, hW1⟩ := hbx
  subst hE
  rw [ht] at hW1
  refine vx_catch hown _ [] htab rfl (by decide) (hts _ xw_l13) (va_Nw.use rfl xK.2.2.2.2.2.2.2.2.2.2.2.2.1) hce hcv hcl ?_
  refine lv_astore hx hb d_205_13 hl0 (by decide) rfl (fun ls1 hl1 => ?_)
  refine lv_iconst (v := 1) hx hb d_205_15 rfl ?_
  exact W.iret hx hb B.returns (fun t9 ht9 _ => ⟨rfl, by rw [ht9]; exact hW1, xS1.F ht9⟩) xS1.2.2 d_205_16 B.notSynchronized
end
