/-! A throw of NoSuchElementException(text). The library's row for 'throw new E(text)' is of constructors that all call their super constructor by constant 7; NoSuchElementException's calls by 13. Here its line of constructors is put together by hand and given to the library's row for any such line. -/
theorem ns_0 : decode prog_31_method_4_code 0 = .ok (.aload_n 0, 1) := by decide +kernel
theorem ns_1 : decode prog_31_method_4_code 1 = .ok (.aload_n 1, 1) := by decide +kernel
theorem ns_2 : decode prog_31_method_4_code 2 = .ok (.invokespecial 13, 3) := by decide +kernel
theorem ns_5 : decode prog_31_method_4_code 5 = .ok (.return_, 1) := by decide +kernel
def xnR : String := "java/lang/RuntimeException"
def xnX : String := "java/lang/Exception"
/-- the words of its constructors, from its own down to Exception's -/
def xnT : List Cond := Bundle.passSAtoms nsE xnR 13 prog_31_method_4_code ++ Bundle.chainSAtoms xnR [xnX]
/-- the library's words for an exception of one's own, but for its constructors -/
def xnO (own : String) (ic : Nat) : List Cond := (Bundle.ownAtoms own ic nsE []).drop 33
def nsL (own : String) (ic : Nat) : List Cond := (Bundle.throwableAtoms ++ Bundle.throwableSAtoms) ++ (xnT ++ xnO own ic)
section
variable {own : String} {ic : Nat} {w : Cond}
theorem nsL_1 (h : w ∈ Bundle.throwableAtoms) : w ∈ nsL own ic := List.mem_append_left _ (List.mem_append_left _ h)
theorem nsL_2 (h : w ∈ Bundle.throwableSAtoms) : w ∈ nsL own ic := List.mem_append_left _ (List.mem_append_right _ h)
theorem nsL_3 (h : w ∈ xnT) : w ∈ nsL own ic := List.mem_append_right _ (List.mem_append_left _ h)
theorem nsL_4 (i : Nat) (h : (xnO own ic)[i]? = some w) : w ∈ nsL own ic := List.mem_append_right _ (List.mem_append_right _ (List.mem_of_getElem? h))
end
section
variable {p : Program} {l : Launch} {e : Env} {R : Room} {s V : State} {m : MethodId} {args : Array Value} {below : List Frame} {meth : Method} {c : Code} {cells slots : Nat}
/-- three constructors, each of which hands the text on -/
theorem xn_line {pl : Platform} {top : MethodId} (hp : pl.magicAccessors = ({} : Platform).magicAccessors) (ht : s.methodNamed? (Bundle.initS Bundle.tN) = some top) (hw : ∀ w ∈ xnT, w.before args s = true) :
    ∃ (A : PassC) (l : List PassC), l.length = 2 ∧ s.methodNamed? (Bundle.initS nsE) = some A.m ∧ (∀ x, x ∈ A :: l → x.LinksS pl s) ∧ PassesOn top ((A :: l).map (·.toPassT)) := by
  obtain ⟨A, kA, nA, uA⟩ := PassC.ofS_atoms (X := nsE) (Y := xnR) hp (by decide +kernel) (by decide +kernel) ns_0 ns_1 ns_2 ns_5 (fun w h => hw w (List.mem_append_left _ h))
  obtain ⟨B, l, n1, kB, kl, nB, uB, on⟩ := Bundle.chainS hp ht [xnX] xnR (by decide +kernel) (by decide +kernel) (fun w h => hw w (List.mem_append_right _ h))
  refine ⟨A, B :: l, congrArg (· + 1) n1, nA, List.forall_mem_cons.mpr ⟨kA, List.forall_mem_cons.mpr ⟨kB, kl⟩⟩, ?_, uB, on⟩
  rw [uA] at nB
  exact Option.some.inj nB
/-- a method of Throwable that the class doesn't hide -/
theorem xn_pick {y : MethodName} {k : ClassId} {f : MethodId} (ad : l.admits e) (hk : s.vm.findClass nsE = some k) (hf : s.methodNamed? y = some f) (hy : y.cls ≠ "java/lang/invoke/MethodHandle" ∧ y.cls ≠ "java/lang/invoke/VarHandle")
    (hw : (Cond.selects nsE y y).before args s = true) : selectMethod e.platform s.vm k f = .method f := by
  obtain ⟨k1, f1, f2, a1, a2, a3, a4, _⟩ := Cond.selects_spec hw
  rw [hk] at a1
  rw [hf] at a3
  rw [State.methodFound?_of_named hf hy] at a2
  cases a1
  cases a2
  cases a3
  exact (Launch.admits_selectMethod ad _ _ _).trans a4
/-- a field's place in an object of class k -/
def xnF (s : State) (k : ClassId) (K : Class) (f : Field) : Prop := K.instanceTypes[f.slot]? = some f.type ∧ ∃ d, Jmm.declares? s.vm f.slot (k + 1) k = some d ∧ d.2.name = f.name
theorem xnF.ne {k : ClassId} {K : Class} {f f' : Field} (h : xnF s k K f) (h' : xnF s k K f') (hn : f.name ≠ f'.name) : f.slot ≠ f'.slot := by
  obtain ⟨_, d, hd, nd⟩ := h
  obtain ⟨_, d', hd', nd'⟩ := h'
  exact Cond.laysApart hd hd' nd nd' hn
/-- a field that none of the three writes of Throwable's constructor meets is null in a new object -/
theorem xn_null {T : ThrowableT} {k : ClassId} {K : Class} {f : Field} {a : Addr} {u v : RefV} {t : ThreadId} (h : K.instanceTypes[f.slot]? = some f.type) (hf : f.type = .object "java/lang/Object")
    (h1 : f.slot ≠ T.fCause.slot) (h2 : f.slot ≠ T.fStack.slot) (h3 : f.slot ≠ T.fSupp.slot) : ((preparedCellV T (freshCell k K) a u v).withEntry t).slots[f.slot]? = some .null := by
  have h0 : (freshCell k K).slots[f.slot]? = some .null := by rw [fresh_default h, hf]; rfl
  show ((((freshCell k K).slots.setIfInBounds T.fCause.slot (.ref a)).setIfInBounds T.fStack.slot u.v).setIfInBounds T.fSupp.slot v.v)[f.slot]? = some .null
  rw [Array.getElem?_setIfInBounds_ne (Ne.symm h3), Array.getElem?_setIfInBounds_ne (Ne.symm h2), Array.getElem?_setIfInBounds_ne (Ne.symm h1)]
  exact h0
set_option maxHeartbeats 2000000 in
/-- from the call of the constructor to the throw: the object is new, nothing old is written -/
theorem kc_throw (X : Stand p l e R s m args below meth c V [] cells slots) (hx : p.tables.exec = Jvm.exec) (tr : e.platform.stackTraces = false) {own : String} {ic pc : Nat} {ls : Array Slot} {rest : List Value} {a b : Addr} {k : ClassId} {K : Class}
    (hown : s.vm.findClass own = some m.cls) (hw : ∀ w ∈ nsL own ic, w.before args s = true) (hk : s.vm.findClass nsE = some k) (hK : s.vm.classes[k]? = some K) (hV : V.heap[a]? = some (freshCell k K)) (far : s.heap.size ≤ a)
    (hls : ls.size = c.maxLocals) (d0 : decode c.code pc = .ok (.invokespecial ic, 3)) (d3 : decode c.code (pc + 3) = .ok (.athrow, 1)) (hno : ∀ x ∈ c.exceptionTable.toList, covers x (pc + 3) = false)
    (rf : 5 < R.frames) (rl : (rest.map fun v => v.category).sum + 82 ≤ R.locals) (lk : meth.locks = false) :
    ∃ U : State, Steps p.tables e below (V.setTop { method := m, pc := pc, locals := ls, stack := .ref b :: .ref a :: .ref a :: rest, locked := none }) U ∧ U.status = .running ∧ Ended U below (.threw a) ∧ s.WarmedH U.vm ∧
      s.sameButNew ({ U with vm := s.vm } : State) [] cells slots ∧ ∃ ce, U.heap[a]? = some ce ∧ s.vm.findClass nsE = some ce.cls ∧ ce.vm = .none := by
  have pf := X.admits.platform
  have pm : e.platform.magicAccessors = ({} : Platform).magicAccessors := by rw [pf]
  obtain ⟨T, Z0, kT, _, tie⟩ := ThrowableC.of_atoms (args := args) (by rw [pf]) (by rw [pf]) pm (fun w h => hw w (nsL_1 h))
  obtain ⟨Z, M, kZ, kM, top⟩ := Init0T.ofS_atoms (args := args) pm kT tie (fun w h => hw w (nsL_2 h))
  obtain ⟨A, pl, n2, nA, kA, on⟩ := xn_line (args := args) pm top (fun w h => hw w (nsL_3 h))
  have ek : A.m.cls = k := Option.some.inj ((findClass_of_methodNamed nA).symm.trans hk)
  -- the class
  have ord : K.kind = .ordinary := by
    obtain ⟨k1, K1, b1, b2, b3, _⟩ := Cond.instantiable_spec (hw (.instantiable nsE 6) (nsL_4 1 rfl))
    rw [hk] at b1
    cases b1
    rw [hK] at b2
    cases b2
    exact b3
  -- the fields
  obtain ⟨iM, ffM⟩ := tie.msg
  obtain ⟨c8, i8, fB, l8, g8, t8, s8, _, nB, tB, ffB⟩ := Cond.ownField (t := .object "java/lang/Object") tie.found kT.cls (by decide +kernel) (hw (.fieldLink Bundle.tN 198 Bundle.tN "backtrace" "Ljava/lang/Object;") (nsL_4 11 rfl)) (hw (.lays Bundle.tN Bundle.tN "backtrace" "Ljava/lang/Object;") (nsL_4 12 rfl)) e.platform pm
  have yC : xnF s k K T.fCause := Cond.laysAt hk hK tie.cause (hw (.lays nsE Bundle.tN "cause" "Ljava/lang/Throwable;") (nsL_4 5 rfl))
  have yS : xnF s k K T.fStack := Cond.laysAt hk hK tie.stack (hw (.lays nsE Bundle.tN "stackTrace" Bundle.steD) (nsL_4 6 rfl))
  have yP : xnF s k K T.fSupp := Cond.laysAt hk hK tie.supp (hw (.lays nsE Bundle.tN "suppressedExceptions" Bundle.listD) (nsL_4 7 rfl))
  have yM : xnF s k K T.fMsg := Cond.laysAt hk hK ffM (hw (.lays nsE Bundle.tN "detailMessage" "Ljava/lang/String;") (nsL_4 8 rfl))
  have yB : xnF s k K fB := Cond.laysAt hk hK ffB (hw (.lays nsE Bundle.tN "backtrace" "Ljava/lang/Object;") (nsL_4 13 rfl))
  -- the statics, as they were at the start
  obtain ⟨z, hz, sz⟩ := tie.statics
  obtain ⟨u, hu⟩ := Cond.staticRefV tie.unassigned kT.unassignedStatic kT.statics hz sz (hw (.isRef (.static Bundle.tN "UNASSIGNED_STACK" Bundle.steD)) (nsL_4 9 rfl))
  obtain ⟨v, hv⟩ := Cond.staticRefV tie.sentinel kT.sentinelStatic kT.statics hz sz (hw (.isRef (.static Bundle.tN "SUPPRESSED_SENTINEL" Bundle.listD)) (nsL_4 10 rfl))
  obtain ⟨z', hz', sz', _, same⟩ := X.same.2.2.2.2.2 T.aS z hz
  have old : T.aS < s.heap.size := (Array.getElem?_eq_some_iff.mp hz).1
  have kn : z'.vm ≠ .unknown := fun q => by
    have e1 : z'.vm = z.vm := by rw [sz']
    rw [← e1, q] at sz
    cases sz
  have back : SkipFacts T e.platform s (fun u => u) u ((preparedCellV T.toThrowableT (freshCell k K) a u v).withEntry V.cur) :=
    ⟨⟨c8, i8, fB⟩, ⟨l8, g8, t8, s8⟩, xn_null yB.1 tB (yB.ne yC (by rw [nB, tie.causeName]; decide)) (yB.ne yS (by rw [nB, tie.stackName]; decide)) (yB.ne yP (by rw [nB, tie.suppName]; decide)), fun _ _ => rfl⟩
  -- the call, the constructors, the throw
  obtain ⟨tm, _, _, _, vm1, q1, _, _, _, _, _, _, _, w1, call⟩ := Steps.initColdS (below := below) X.here hx X.warmed pm hown (t := Bundle.initS nsE) rfl rfl (by decide +kernel) (hw (.methodLink own ic (Bundle.initS nsE)) (nsL_4 0 rfl))
    (hw (.instanceMethod (Bundle.initS nsE)) (nsL_3 (List.mem_append_left _ (List.mem_of_getElem? (i := 0) rfl)))) (hw (.code (Bundle.initS nsE) prog_31_method_4_code 2 none) (nsL_3 (List.mem_append_left _ (List.mem_of_getElem? (i := 1) rfl))))
    (f := { method := m, pc := pc, locals := ls, stack := .ref b :: .ref a :: .ref a :: rest, locked := none }) rfl (a := a) (msg := .ref b) (rest := .ref a :: rest) rfl d0
  rw [nA] at q1
  cases q1
  have one : (Value.ref a).category = 1 := rfl
  have room : 2 * ({ method := m, pc := pc, locals := ls, stack := .ref a :: rest, locked := none } : JFrame).monitorRoom + ((Value.ref a :: rest).map fun v => v.category).sum + (13 * 3 + 42) ≤ R.locals := by
    have none : ({ method := m, pc := pc, locals := ls, stack := .ref a :: rest, locked := none } : JFrame).monitorRoom = 0 := rfl
    rw [none, List.map_cons, List.sum_cons, one]
    omega
  have len : (A :: pl).length = 3 := congrArg (· + 1) n2
  obtain ⟨vm2, X2, made⟩ := (X.noted w1).ctorMessageOffV hx (g := { method := m, pc := pc, locals := ls, stack := .ref a :: rest, locked := none }) rfl hls T kT Z kZ M kM (A :: pl) kA on (u0 := u) (sen := v) (self := a) (msg := .ref b) rfl
    (cell := freshCell k K) (cellS := z') hV (fun _ q => nomatch q) (fun q => nomatch q) rfl rfl
    (xn_pick X.admits hk tie.fill0 (by decide) (hw (.selects nsE Bundle.tFill0 Bundle.tFill0) (nsL_4 3 rfl))) (xn_pick X.admits hk tie.fill (by decide) (hw (.selects nsE Bundle.tFill Bundle.tFill) (nsL_4 4 rfl)))
    hz' (Nat.ne_of_lt (Nat.lt_of_lt_of_le old far)) kn ((same _ List.not_mem_nil).trans hu) ((same _ List.not_mem_nil).trans hv)
    (Takes.of_laid hK ord yC.1 (by rw [tie.causeType]; rfl)) (Takes.of_laid hK ord yS.1 (by rw [tie.stackType]; exact fits_refV_array _ u)) (Takes.of_laid hK ord yP.1 (by rw [tie.suppType]; exact fits_refV_object _ v))
    (Takes.of_laid hK ord yM.1 (by rw [tie.msgType]; rfl)) tie.objLocals back tr [] d0 (by rw [len]; exact rf) (by rw [len]; exact room)
  obtain ⟨thrown, run, fin, w2, keep⟩ := X2.athrowLeaves hx (g := { method := m, pc := pc + 3, locals := ls, stack := .ref a :: rest, locked := none }) rfl rfl rfl hno (a := a) (rest := rest) rfl d3
  refine ⟨_, call _ (fun acts => ?_), run, fin, w2, keep.weaken (fun y hy hlt => ?_) (Nat.le_refl _) (Nat.le_refl _), _, heapAt_setCell_self _ (Array.getElem?_eq_some_iff.mp hV).1, hk, rfl⟩
  · rw [doInvoke_state]
    exact made _ thrown
  · have hb : y.base = a := by
      simp only [List.nil_append, List.mem_cons, List.not_mem_nil, or_false] at hy
      rcases hy with q | q | q | q | q <;> rw [q]
    exact absurd far (Nat.not_le.mpr (hb ▸ hlt))
end
