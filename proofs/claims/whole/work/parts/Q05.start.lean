-- the start: what the tables and the Statement give
def tyT (t : Nat) : FieldType := [FieldType.int, .boolean, .object RX0, .object RX1, .object RX4, .object RX5, .object RX6, .object RX8, .object "java/lang/Object", .long].getD t .int
section
variable {s : State} {b L : Nat} {xs : Nat → Int32} {args : Array Value}
theorem k_cls (hts : ∀ w ∈ lw_tbl, w.before args s = true) : ∃ D : va_G, ∀ (c : Nat) (q : vw_C), vwCl[c]? = some q → u_Kn s q.1 q.2.1 q.2.2 (D.1 c) (D.2 c) := by
  have one : ∀ c : Nat, ∃ f : ClassId × (Nat → Nat), ∀ q : vw_C, vwCl[c]? = some q → u_Kn s q.1 q.2.1 q.2.2 f.1 f.2 := by
    intro c
    by_cases hc : c < 14
    · obtain ⟨C, T, g1, g2, g3, g4, g5, g6, -⟩ := cokAll hc
      obtain ⟨cC, iS, h1⟩ := u_known (ws := WL) (args := args) (fun w hw => hts w (inWL w hw)) g3 (hts _ (inWL _ g6))
      refine ⟨(cC, iS), fun q hq => ?_⟩
      rw [g1] at hq
      cases hq
      exact h1
    · refine ⟨(0, fun _ => 0), fun q hq => ?_⟩
      have : vwCl.length = 14 := rfl
      rw [List.getElem?_eq_none (by omega)] at hq
      cases hq
  obtain ⟨f, hf⟩ := Classical.axiomOfChoice one
  exact ⟨(fun c => (f c).1, fun c => (f c).2), fun c q hq => hf c q hq⟩
theorem k_arrO {C : String} (h : (Cond.arrayOver (.object C)).before args s = true) : ∃ cA, ArrOfT s cA (.object C) ∧ va_RA s cA (.object C) := by
  obtain ⟨comp, c, k, h1, -, h3, h4, h5⟩ := Cond.arrayOver_spec (show (Cond.arrayOver (.object C)).holds args s none s [] = true from h)
  exact ⟨c, fun n z => ⟨fun k h => (by cases h), k, h3, comp, h4⟩, k, comp, h3, h4, h1, h5⟩
theorem k_arr (hts : ∀ w ∈ lw_tbl, w.before args s = true) : ∃ dA : Nat → ClassId, ∀ (k : Nat) (q : ClassId × FieldType), (tysG dA)[k]? = some q → ArrOfT s q.1 q.2 ∧ va_RA s q.1 q.2 := by
  have pr : ∀ ty : FieldType, (Cond.arrayClass ty).before args s = true → ∃ cA, ArrOfT s cA ty ∧ s.vm.findClass ("[" ++ ty.toString) = some cA := fun ty h => by
    obtain ⟨c, k, comp, h1, h2, h3⟩ := Cond.arrayClass_spec (show (Cond.arrayClass ty).holds args s none s [] = true from h)
    exact ⟨c, fun n z => ⟨fun k h => (by cases h), k, h2, comp, h3⟩, h1⟩
  obtain ⟨a0, p0, q0⟩ := pr .int (hts _ (inWL _ acI))
  obtain ⟨a1, p1, q1⟩ := pr .boolean (hts _ (inWL _ acZ))
  obtain ⟨a9, p9, q9⟩ := pr .long (hts _ (inWL _ acL))
  obtain ⟨a2, p2⟩ := k_arrO (hts (.arrayOver (.object RX0)) (by decide +kernel))
  obtain ⟨a3, p3⟩ := k_arrO (hts (.arrayOver (.object RX1)) (by decide +kernel))
  obtain ⟨a4, p4⟩ := k_arrO (hts (.arrayOver (.object RX4)) (by decide +kernel))
  obtain ⟨a5, p5⟩ := k_arrO (hts (.arrayOver (.object RX5)) (by decide +kernel))
  obtain ⟨a6, p6⟩ := k_arrO (hts (.arrayOver (.object RX6)) (by decide +kernel))
  obtain ⟨a7, p7⟩ := k_arrO (hts (.arrayOver (.object RX8)) (by decide +kernel))
  obtain ⟨a8, p8⟩ := k_arrO (hts (.arrayOver (.object "java/lang/Object")) (by decide +kernel))
  refine ⟨fun t => [a0, a1, a2, a3, a4, a5, a6, a7, a8, a9].getD t 0, fun k q hq => ?_⟩
  match k, hq with
  | 0, hq => cases hq; exact ⟨p0, q0⟩
  | 1, hq => cases hq; exact ⟨p1, q1⟩
  | 2, hq => cases hq; exact p2
  | 3, hq => cases hq; exact p3
  | 4, hq => cases hq; exact p4
  | 5, hq => cases hq; exact p5
  | 6, hq => cases hq; exact p6
  | 7, hq => cases hq; exact p7
  | 8, hq => cases hq; exact p8
  | 9, hq => cases hq; exact ⟨p9, q9⟩
  | k + 10, hq => simp [tysG] at hq
theorem k_nest (hts : ∀ w ∈ lw_tbl, w.before args s = true) : ∀ w ∈ nestL, va_Nw w s := by
  have h : ∀ w ∈ nestL, w ∈ lw_tbl := by decide +kernel
  exact fun w hw => va_Nw.of (nest_tabs hw) (hts w (h w hw))
theorem k_cast (hts : ∀ w ∈ lw_tbl, w.before args s = true) : ∀ w ∈ castL, va_Nw w s := by
  have h : ∀ w ∈ castL, w ∈ lw_tbl := by decide +kernel
  exact fun w hw => va_Nw.of (cast_tabs hw) (hts w (h w hw))
theorem k_ao (hts : ∀ w ∈ lw_tbl, w.before args s = true) : ∀ C ∈ aoL, va_AO C s := by
  have h : ∀ C ∈ aoL, Cond.arrayOver (.object C) ∈ lw_tbl := by decide +kernel
  exact fun C hC => va_AO.of (hts _ (h C hC))
theorem k_ex {A : Nat → Prop} (hts : ∀ w ∈ lw_tbl, w.before args s = true) (hA : ∀ a : Nat, a < s.heap.size → ¬ A a) (hgv : (Jvm.Cond.and given_1 narrow_1).before args s = true) : Ex A s := by
  have hs := flat_of_before _ hgv
  have st : ∀ (k : Nat) (tx : String), (Cond.stringRef "LogCluster" k tx).before args s = true → (Cond.exactly (.string "LogCluster" k) "java/lang/String").before args s = true → ∃ sa, vk_R RX11 k tx sa s := fun k tx h1 h2 => by
    obtain ⟨a, c, cell, kk, e1, -⟩ := Cond.exactly_spec (show (Cond.exactly (.string "LogCluster" k) "java/lang/String").holds args s none s [] = true from h2)
    exact ⟨a, vk_R.of h1 e1⟩
  refine ⟨va_Mi.of (hs (.isRef (.mirror "[Ljava/lang/Object;")) (by decide +kernel)), va_Dc.of (hts (.declares ⟨"java/lang/Object", "getClass", "()Ljava/lang/Class;"⟩) (by decide +kernel)), va_Nw.of rfl (hts (.castable nsE nsE) (by decide +kernel)), ?_, ?_, st 119 _ (hts (.stringRef "LogCluster" 119 "no message at this place") (by decide +kernel)) (hs (.exactly (.string "LogCluster" 119) "java/lang/String") (by decide +kernel)), st 133 _ (hts (.stringRef "LogCluster" 133 "no such question about a message") (by decide +kernel)) (hs (.exactly (.string "LogCluster" 133) "java/lang/String") (by decide +kernel))⟩
  · exact vx_Zqof (hts (.laysStatic Bundle.tN "UNASSIGNED_STACK" Bundle.steD) (by decide +kernel)) (hts (.initialized Bundle.tN) (by decide +kernel)) (hs (.isRef (.static Bundle.tN "UNASSIGNED_STACK" Bundle.steD)) (by decide +kernel)) hA
  · exact vx_Zqof (hts (.laysStatic Bundle.tN "SUPPRESSED_SENTINEL" Bundle.listD) (by decide +kernel)) (hts (.initialized Bundle.tN) (by decide +kernel)) (hs (.isRef (.static Bundle.tN "SUPPRESSED_SENTINEL" Bundle.listD)) (by decide +kernel)) hA
theorem k_start (hts : ∀ w ∈ lw_tbl, w.before args s = true) (hX : va_X b L xs s s.heap) (hbl : b < s.heap.size) (hgv : (Jvm.Cond.and given_1 narrow_1).before args s = true) : ∃ D dA eA, Kx D dA s.heap.size (b, L, xs, eA) s ∧ eA < s.heap.size := by
  obtain ⟨D, hD⟩ := k_cls hts
  obtain ⟨dA, hdA⟩ := k_arr hts
  have hs := flat_of_before _ hgv
  have hA : ∀ a : Nat, a < s.heap.size → ¬ Ab s.heap.size a := fun a h => Nat.not_le.mpr h
  have harr : (Cond.arrayOf (.static "java/util/ArrayList" "DEFAULTCAPACITY_EMPTY_ELEMENTDATA" "[Ljava/lang/Object;") (.object "java/lang/Object")).before args s = true := hs _ (by decide +kernel)
  have hleq : (Cond.eq (.length (.static "java/util/ArrayList" "DEFAULTCAPACITY_EMPTY_ELEMENTDATA" "[Ljava/lang/Object;")) (.int 0)).before args s = true := hs _ (by decide +kernel)
  obtain ⟨y, y1, y2⟩ := Cond.eq_one (show (Cond.eq (.length (.static "java/util/ArrayList" "DEFAULTCAPACITY_EMPTY_ELEMENTDATA" "[Ljava/lang/Object;")) (.int 0)).holds args s none s [] = true from hleq)
  have y3 : (Term.int 0).eval args s none [] s = some (.int 0) := rfl
  cases y3.symm.trans y2
  obtain ⟨eA, t1, t2⟩ := va_Tof (N := 0) (f := fun _ => .null) (A := Ab s.heap.size) (by decide) harr y1 (fun j hj => absurd hj (Nat.not_lt_zero _)) hA
  have hZ := va_Zof (A := Ab s.heap.size) (hts (.laysStatic "java/util/ArrayList" "DEFAULTCAPACITY_EMPTY_ELEMENTDATA" "[Ljava/lang/Object;") (by decide +kernel)) (hts (.initialized "java/util/ArrayList") (by decide +kernel)) t1 hA
  have t3 := t2
  obtain ⟨ce, c1, ⟨-, k1, k2, cm1, k3⟩, -⟩ := t3
  have hlt : eA < s.heap.size := (Array.getElem?_eq_some_iff.mp c1).1
  have hne : ¬ b = eA := fun z => by
    obtain ⟨scr, q1, ⟨-, k4, k5, cm2, k6⟩, -⟩ := hX
    rw [z] at q1
    cases q1.symm.trans c1
    cases k2.symm.trans k5
    rw [k3] at k6
    cases k6
  exact ⟨D, dA, eA, ⟨⟨hD, hdA⟩, k_nest hts, k_cast hts, k_ao hts, hX, hbl, Nat.le_refl _, hZ, t2, hne, k_ex hts hA hgv⟩, hlt⟩
end
