/-! one row an instruction, references as va_rf -/
theorem cat_rf (r : Option Nat) : (va_rf r).category = 1 := by cases r <;> rfl
theorem cat_int (x : Int32) : (Value.int x).category = 1 := rfl
section OPS
variable {g : gcT} {P : pmT} {k pc pc' j : Nat} {L L' : lcT} {st rest : List Value} {h h' : hpT} {Q : hpT → Option Value → Prop} {len : Nat}
theorem o_ic {n : Int} {v : Int32} (hd : decode (mB k) pc = .ok (.iconst n, 1)) (hv : Int32.ofInt n = v) (kk : Ev g P k (pc + 1) L (.int v :: st) h Q) : Ev g P k pc L st h Q := Ev.sx hd rfl rfl rfl (by subst hv; rfl) kk
theorem o_bp {n : Int} {v : Int32} (hd : decode (mB k) pc = .ok (.bipush n, 2)) (hv : (Int8.ofInt n).toInt32 = v) (kk : Ev g P k (pc + 2) L (.int v :: st) h Q) : Ev g P k pc L st h Q := Ev.sx hd rfl rfl rfl (by subst hv; rfl) kk
theorem o_sp {n : Int} {v : Int32} (hd : decode (mB k) pc = .ok (.sipush n, 3)) (hv : (Int16.ofInt n).toInt32 = v) (kk : Ev g P k (pc + 3) L (.int v :: st) h Q) : Ev g P k pc L st h Q := Ev.sx hd rfl rfl rfl (by subst hv; rfl) kk
theorem o_ld {n : Nat} {v : Int32} (hd : decode (mB k) pc = .ok (.ldc n, 2)) (hv : cn (mO k) n = some v) (kk : Ev g P k (pc + 2) L (.int v :: st) h Q) : Ev g P k pc L st h Q := Ev.sx hd rfl rfl rfl (show (cn (mO k) n).map _ = _ by rw [hv]; rfl) kk
theorem o_ldw {n : Nat} {v : Int32} (hd : decode (mB k) pc = .ok (.ldc_w n, 3)) (hv : cn (mO k) n = some v) (kk : Ev g P k (pc + 3) L (.int v :: st) h Q) : Ev g P k pc L st h Q := Ev.sx hd rfl rfl rfl (show (cn (mO k) n).map _ = _ by rw [hv]; rfl) kk
theorem o_nul (hd : decode (mB k) pc = .ok (.aconst_null, 1)) (kk : Ev g P k (pc + 1) L (va_rf none :: st) h Q) : Ev g P k pc L st h Q := Ev.sx hd rfl rfl rfl rfl kk
theorem o_iln {n : Fin 4} {x : Int32} (hd : decode (mB k) pc = .ok (.iload_n n, 1)) (hl : ldO L n = some (.int x)) (kk : Ev g P k (pc + 1) L (.int x :: st) h Q) : Ev g P k pc L st h Q := Ev.sx hd rfl rfl rfl (show (match ldO L n with | some (.int x) => some (pc + 1, L, Value.int x :: st, h) | _ => none) = _ by rw [hl]) kk
theorem o_il {n : Nat} {x : Int32} (hd : decode (mB k) pc = .ok (.iload n, 2)) (hl : ldO L n = some (.int x)) (kk : Ev g P k (pc + 2) L (.int x :: st) h Q) : Ev g P k pc L st h Q := Ev.sx hd rfl rfl rfl (show (match ldO L n with | some (.int x) => some (pc + 2, L, Value.int x :: st, h) | _ => none) = _ by rw [hl]) kk
theorem o_aln {n : Fin 4} {r : Option Nat} (hd : decode (mB k) pc = .ok (.aload_n n, 1)) (hl : ldO L n = some (va_rf r)) (kk : Ev g P k (pc + 1) L (va_rf r :: st) h Q) : Ev g P k pc L st h Q := Ev.sx hd rfl rfl rfl (show (match (ldO L n).bind rfO with | some r => some (pc + 1, L, va_rf r :: st, h) | _ => none) = _ by rw [hl, Option.bind_some, rfO_rf]) kk
theorem o_al {n : Nat} {r : Option Nat} (hd : decode (mB k) pc = .ok (.aload n, 2)) (hl : ldO L n = some (va_rf r)) (kk : Ev g P k (pc + 2) L (va_rf r :: st) h Q) : Ev g P k pc L st h Q := Ev.sx hd rfl rfl rfl (show (match (ldO L n).bind rfO with | some r => some (pc + 2, L, va_rf r :: st, h) | _ => none) = _ by rw [hl, Option.bind_some, rfO_rf]) kk
theorem o_isn {n : Fin 4} {x : Int32} (hd : decode (mB k) pc = .ok (.istore_n n, 1)) (hn : n.val < L.length) (hL : L.set n.val (some (.int x)) = L') (kk : Ev g P k (pc + 1) L' st h Q) : Ev g P k pc L (.int x :: st) h Q := Ev.sx hd rfl rfl rfl (show (stO L n.val (.int x)).map (fun L => (pc + 1, L, st, h)) = _ by unfold stO; rw [if_pos ⟨rfl, hn⟩, hL]; rfl) kk
theorem o_is {n : Nat} {x : Int32} (hd : decode (mB k) pc = .ok (.istore n, 2)) (hn : n < L.length) (hL : L.set n (some (.int x)) = L') (kk : Ev g P k (pc + 2) L' st h Q) : Ev g P k pc L (.int x :: st) h Q := Ev.sx hd rfl rfl rfl (show (stO L n (.int x)).map (fun L => (pc + 2, L, st, h)) = _ by unfold stO; rw [if_pos ⟨rfl, hn⟩, hL]; rfl) kk
theorem o_asn {n : Fin 4} {r : Option Nat} (hd : decode (mB k) pc = .ok (.astore_n n, 1)) (hn : n.val < L.length) (hL : L.set n.val (some (va_rf r)) = L') (kk : Ev g P k (pc + 1) L' st h Q) : Ev g P k pc L (va_rf r :: st) h Q := Ev.sx hd rfl rfl rfl (show (rfO (va_rf r)).bind (fun r => (stO L n.val (va_rf r)).map fun L => (pc + 1, L, st, h)) = _ by unfold stO; rw [rfO_rf, Option.bind_some, if_pos ⟨cat_rf r, hn⟩, hL]; rfl) kk
theorem o_as {n : Nat} {r : Option Nat} (hd : decode (mB k) pc = .ok (.astore n, 2)) (hn : n < L.length) (hL : L.set n (some (va_rf r)) = L') (kk : Ev g P k (pc + 2) L' st h Q) : Ev g P k pc L (va_rf r :: st) h Q := Ev.sx hd rfl rfl rfl (show (rfO (va_rf r)).bind (fun r => (stO L n (va_rf r)).map fun L => (pc + 2, L, st, h)) = _ by unfold stO; rw [rfO_rf, Option.bind_some, if_pos ⟨cat_rf r, hn⟩, hL]; rfl) kk
theorem o_inc {n : Nat} {d : Int} {x y : Int32} (hd : decode (mB k) pc = .ok (.iinc n d, 3)) (hl : ldO L n = some (.int x)) (hv : Int32.ofInt d = y) (hn : n < L.length) (hL : L.set n (some (.int (x + y))) = L') (kk : Ev g P k (pc + 3) L' st h Q) : Ev g P k pc L st h Q := Ev.sx hd rfl rfl rfl (show (match ldO L n with | some (.int x) => (stO L n (.int (x + Int32.ofInt d))).map (fun L => (pc + 3, L, st, h)) | _ => none) = _ by rw [hl]; dsimp only; unfold stO; rw [if_pos ⟨rfl, hn⟩, hv, hL]; rfl) kk
theorem o_add {x y : Int32} (hd : decode (mB k) pc = .ok (.iadd, 1)) (kk : Ev g P k (pc + 1) L (.int (x + y) :: st) h Q) : Ev g P k pc L (.int y :: .int x :: st) h Q := Ev.sx hd rfl rfl rfl rfl kk
theorem o_sub {x y : Int32} (hd : decode (mB k) pc = .ok (.isub, 1)) (kk : Ev g P k (pc + 1) L (.int (x - y) :: st) h Q) : Ev g P k pc L (.int y :: .int x :: st) h Q := Ev.sx hd rfl rfl rfl rfl kk
theorem o_mul {x y : Int32} (hd : decode (mB k) pc = .ok (.imul, 1)) (kk : Ev g P k (pc + 1) L (.int (x * y) :: st) h Q) : Ev g P k pc L (.int y :: .int x :: st) h Q := Ev.sx hd rfl rfl rfl rfl kk
theorem o_and {x y : Int32} (hd : decode (mB k) pc = .ok (.iand, 1)) (kk : Ev g P k (pc + 1) L (.int (x &&& y) :: st) h Q) : Ev g P k pc L (.int y :: .int x :: st) h Q := Ev.sx hd rfl rfl rfl rfl kk
theorem o_or {x y : Int32} (hd : decode (mB k) pc = .ok (.ior, 1)) (kk : Ev g P k (pc + 1) L (.int (x ||| y) :: st) h Q) : Ev g P k pc L (.int y :: .int x :: st) h Q := Ev.sx hd rfl rfl rfl rfl kk
theorem o_xor {x y : Int32} (hd : decode (mB k) pc = .ok (.ixor, 1)) (kk : Ev g P k (pc + 1) L (.int (x ^^^ y) :: st) h Q) : Ev g P k pc L (.int y :: .int x :: st) h Q := Ev.sx hd rfl rfl rfl rfl kk
theorem o_shl {x y : Int32} (hd : decode (mB k) pc = .ok (.ishl, 1)) (kk : Ev g P k (pc + 1) L (.int (x <<< (y &&& 31)) :: st) h Q) : Ev g P k pc L (.int y :: .int x :: st) h Q := Ev.sx hd rfl rfl rfl rfl kk
theorem o_shr {x y : Int32} (hd : decode (mB k) pc = .ok (.ishr, 1)) (kk : Ev g P k (pc + 1) L (.int (x >>> (y &&& 31)) :: st) h Q) : Ev g P k pc L (.int y :: .int x :: st) h Q := Ev.sx hd rfl rfl rfl rfl kk
theorem o_ush {x y : Int32} (hd : decode (mB k) pc = .ok (.iushr, 1)) (kk : Ev g P k (pc + 1) L (.int ((x.toUInt32 >>> (y.toUInt32 &&& Int32.toUInt32 31)).toInt32) :: st) h Q) : Ev g P k pc L (.int y :: .int x :: st) h Q := Ev.sx hd rfl rfl rfl rfl kk
theorem o_div {x y : Int32} (hd : decode (mB k) pc = .ok (.idiv, 1)) (hy : ¬ y = 0) (kk : Ev g P k (pc + 1) L (.int (x / y) :: st) h Q) : Ev g P k pc L (.int y :: .int x :: st) h Q := Ev.sx hd rfl rfl rfl (show (if y = 0 then none else some _) = _ by rw [if_neg hy]) kk
theorem o_rem {x y : Int32} (hd : decode (mB k) pc = .ok (.irem, 1)) (hy : ¬ y = 0) (kk : Ev g P k (pc + 1) L (.int (x - x / y * y) :: st) h Q) : Ev g P k pc L (.int y :: .int x :: st) h Q := Ev.sx hd rfl rfl rfl (show (if y = 0 then none else some _) = _ by rw [if_neg hy]) kk
theorem o_i2l {x : Int32} (hd : decode (mB k) pc = .ok (.i2l, 1)) (kk : Ev g P k (pc + 1) L (.long x.toInt64 :: st) h Q) : Ev g P k pc L (.int x :: st) h Q := Ev.sx hd rfl rfl rfl rfl kk
theorem o_lcm {x y : Int64} (hd : decode (mB k) pc = .ok (.lcmp, 1)) (kk : Ev g P k (pc + 1) L (.int (lg_cmp x y) :: st) h Q) : Ev g P k pc L (.long y :: .long x :: st) h Q := Ev.sx hd rfl rfl rfl rfl kk
theorem o_dpI {x : Int32} (hd : decode (mB k) pc = .ok (.dup, 1)) (kk : Ev g P k (pc + 1) L (.int x :: .int x :: st) h Q) : Ev g P k pc L (.int x :: st) h Q := Ev.sx hd rfl rfl rfl rfl kk
theorem o_dpA {r : Option Nat} (hd : decode (mB k) pc = .ok (.dup, 1)) (kk : Ev g P k (pc + 1) L (va_rf r :: va_rf r :: st) h Q) : Ev g P k pc L (va_rf r :: st) h Q := Ev.sx hd rfl rfl rfl (show (if (va_rf r).category = 1 then some _ else none) = _ by rw [if_pos (cat_rf r)]) kk
theorem o_poI {x : Int32} (hd : decode (mB k) pc = .ok (.pop, 1)) (kk : Ev g P k (pc + 1) L st h Q) : Ev g P k pc L (.int x :: st) h Q := Ev.sx hd rfl rfl rfl rfl kk
theorem o_poA {r : Option Nat} (hd : decode (mB k) pc = .ok (.pop, 1)) (kk : Ev g P k (pc + 1) L st h Q) : Ev g P k pc L (va_rf r :: st) h Q := Ev.sx hd rfl rfl rfl (show (if (va_rf r).category = 1 then some _ else none) = _ by rw [if_pos (cat_rf r)]) kk
theorem o_dx {v w : Value} (hv : v.category = 1) (hw : w.category = 1) (hd : decode (mB k) pc = .ok (.dup_x1, 1)) (kk : Ev g P k (pc + 1) L (v :: w :: v :: st) h Q) : Ev g P k pc L (v :: w :: st) h Q := Ev.sx hd rfl rfl rfl (show (if v.category = 1 ∧ w.category = 1 then some _ else none) = _ by rw [if_pos ⟨hv, hw⟩]) kk
theorem o_d2 {v w : Value} (hv : v.category = 1) (hw : w.category = 1) (hd : decode (mB k) pc = .ok (.dup2, 1)) (kk : Ev g P k (pc + 1) L (v :: w :: v :: w :: st) h Q) : Ev g P k pc L (v :: w :: st) h Q := Ev.sx hd rfl rfl rfl (show (if v.category = 1 ∧ w.category = 1 then some _ else none) = _ by rw [if_pos ⟨hv, hw⟩]) kk
theorem tgt_of {pc t : Nat} {off : Int} (ht : (pc : Int) + off = (t : Int)) : tgtO pc off = some t := by
  unfold tgtO
  rw [if_pos (by omega), ht]
  rfl
theorem o_go {off : Int} {t : Nat} (hd : decode (mB k) pc = .ok (.goto off, 3)) (ht : (pc : Int) + off = (t : Int)) (kk : Ev g P k t L st h Q) : Ev g P k pc L st h Q := Ev.sx hd rfl rfl rfl (show jmpO pc off L st h = _ by unfold jmpO; rw [tgt_of ht]; rfl) kk
theorem o_if {b : Prop} [Decidable b] {i : Instr} {off : Int} {t : Nat} (hd : decode (mB k) pc = .ok (i, 3)) (hr : rtO k i 3 rest = none) (hc : clO k i 3 rest h = none) (hp : spO k pc i 3 L rest h = none) (hs : sxO g k pc i 3 L rest h = ifO b pc off L st h) (ht : (pc : Int) + off = (t : Int)) (kt : b → Ev g P k t L st h Q) (kf : ¬ b → Ev g P k (pc + 3) L st h Q) : Ev g P k pc L rest h Q := by
  by_cases hb : b
  · refine Ev.sx hd hr hc hp (hs.trans ?_) (kt hb)
    unfold ifO
    rw [tgt_of ht, Option.bind_some, if_pos hb]
  · refine Ev.sx hd hr hc hp (hs.trans ?_) (kf hb)
    unfold ifO
    rw [tgt_of ht, Option.bind_some, if_neg hb]
theorem o_z_eq {x : Int32} {off : Int} {t : Nat} (hd : decode (mB k) pc = .ok (.ifCond .eq off, 3)) (ht : (pc : Int) + off = (t : Int)) (kt : x = 0 → Ev g P k t L st h Q) (kf : ¬ x = 0 → Ev g P k (pc + 3) L st h Q) : Ev g P k pc L (.int x :: st) h Q := o_if hd rfl rfl rfl rfl ht kt kf
theorem o_z_ne {x : Int32} {off : Int} {t : Nat} (hd : decode (mB k) pc = .ok (.ifCond .ne off, 3)) (ht : (pc : Int) + off = (t : Int)) (kt : ¬ x = 0 → Ev g P k t L st h Q) (kf : x = 0 → Ev g P k (pc + 3) L st h Q) : Ev g P k pc L (.int x :: st) h Q := o_if hd rfl rfl rfl rfl ht kt (fun z => kf (Decidable.not_not.mp z))
theorem o_z_lt {x : Int32} {off : Int} {t : Nat} (hd : decode (mB k) pc = .ok (.ifCond .lt off, 3)) (ht : (pc : Int) + off = (t : Int)) (kt : x < 0 → Ev g P k t L st h Q) (kf : ¬ x < 0 → Ev g P k (pc + 3) L st h Q) : Ev g P k pc L (.int x :: st) h Q := o_if hd rfl rfl rfl rfl ht kt kf
theorem o_z_ge {x : Int32} {off : Int} {t : Nat} (hd : decode (mB k) pc = .ok (.ifCond .ge off, 3)) (ht : (pc : Int) + off = (t : Int)) (kt : 0 ≤ x → Ev g P k t L st h Q) (kf : ¬ 0 ≤ x → Ev g P k (pc + 3) L st h Q) : Ev g P k pc L (.int x :: st) h Q := o_if hd rfl rfl rfl rfl ht kt kf
theorem o_z_gt {x : Int32} {off : Int} {t : Nat} (hd : decode (mB k) pc = .ok (.ifCond .gt off, 3)) (ht : (pc : Int) + off = (t : Int)) (kt : 0 < x → Ev g P k t L st h Q) (kf : ¬ 0 < x → Ev g P k (pc + 3) L st h Q) : Ev g P k pc L (.int x :: st) h Q := o_if hd rfl rfl rfl rfl ht kt kf
theorem o_z_le {x : Int32} {off : Int} {t : Nat} (hd : decode (mB k) pc = .ok (.ifCond .le off, 3)) (ht : (pc : Int) + off = (t : Int)) (kt : x ≤ 0 → Ev g P k t L st h Q) (kf : ¬ x ≤ 0 → Ev g P k (pc + 3) L st h Q) : Ev g P k pc L (.int x :: st) h Q := o_if hd rfl rfl rfl rfl ht kt kf
theorem o_c_eq {x y : Int32} {off : Int} {t : Nat} (hd : decode (mB k) pc = .ok (.if_icmp .eq off, 3)) (ht : (pc : Int) + off = (t : Int)) (kt : x = y → Ev g P k t L st h Q) (kf : ¬ x = y → Ev g P k (pc + 3) L st h Q) : Ev g P k pc L (.int y :: .int x :: st) h Q := o_if hd rfl rfl rfl rfl ht kt kf
theorem o_c_ne {x y : Int32} {off : Int} {t : Nat} (hd : decode (mB k) pc = .ok (.if_icmp .ne off, 3)) (ht : (pc : Int) + off = (t : Int)) (kt : ¬ x = y → Ev g P k t L st h Q) (kf : x = y → Ev g P k (pc + 3) L st h Q) : Ev g P k pc L (.int y :: .int x :: st) h Q := o_if hd rfl rfl rfl rfl ht kt (fun z => kf (Decidable.not_not.mp z))
theorem o_c_lt {x y : Int32} {off : Int} {t : Nat} (hd : decode (mB k) pc = .ok (.if_icmp .lt off, 3)) (ht : (pc : Int) + off = (t : Int)) (kt : x < y → Ev g P k t L st h Q) (kf : ¬ x < y → Ev g P k (pc + 3) L st h Q) : Ev g P k pc L (.int y :: .int x :: st) h Q := o_if hd rfl rfl rfl rfl ht kt kf
theorem o_c_ge {x y : Int32} {off : Int} {t : Nat} (hd : decode (mB k) pc = .ok (.if_icmp .ge off, 3)) (ht : (pc : Int) + off = (t : Int)) (kt : y ≤ x → Ev g P k t L st h Q) (kf : ¬ y ≤ x → Ev g P k (pc + 3) L st h Q) : Ev g P k pc L (.int y :: .int x :: st) h Q := o_if hd rfl rfl rfl rfl ht kt kf
theorem o_c_gt {x y : Int32} {off : Int} {t : Nat} (hd : decode (mB k) pc = .ok (.if_icmp .gt off, 3)) (ht : (pc : Int) + off = (t : Int)) (kt : y < x → Ev g P k t L st h Q) (kf : ¬ y < x → Ev g P k (pc + 3) L st h Q) : Ev g P k pc L (.int y :: .int x :: st) h Q := o_if hd rfl rfl rfl rfl ht kt kf
theorem o_c_le {x y : Int32} {off : Int} {t : Nat} (hd : decode (mB k) pc = .ok (.if_icmp .le off, 3)) (ht : (pc : Int) + off = (t : Int)) (kt : x ≤ y → Ev g P k t L st h Q) (kf : ¬ x ≤ y → Ev g P k (pc + 3) L st h Q) : Ev g P k pc L (.int y :: .int x :: st) h Q := o_if hd rfl rfl rfl rfl ht kt kf
theorem o_nl {r : Option Nat} {off : Int} {t : Nat} (hd : decode (mB k) pc = .ok (.ifnull off, 3)) (ht : (pc : Int) + off = (t : Int)) (kt : r = none → Ev g P k t L st h Q) (kf : ¬ r = none → Ev g P k (pc + 3) L st h Q) : Ev g P k pc L (va_rf r :: st) h Q := o_if hd rfl rfl rfl (show (rfO (va_rf r)).bind (fun r => ifO (r = none) pc off L st h) = _ by rw [rfO_rf, Option.bind_some]) ht kt kf
theorem o_nn {r : Option Nat} {off : Int} {t : Nat} (hd : decode (mB k) pc = .ok (.ifnonnull off, 3)) (ht : (pc : Int) + off = (t : Int)) (kt : ¬ r = none → Ev g P k t L st h Q) (kf : r = none → Ev g P k (pc + 3) L st h Q) : Ev g P k pc L (va_rf r :: st) h Q := o_if hd rfl rfl rfl (show (rfO (va_rf r)).bind (fun r => ifO (¬ r = none) pc off L st h) = _ by rw [rfO_rf, Option.bind_some]) ht kt (fun z => kf (Decidable.not_not.mp z))
theorem o_ae {rx ry : Option Nat} {off : Int} {t : Nat} (hd : decode (mB k) pc = .ok (.if_acmp .eq off, 3)) (ht : (pc : Int) + off = (t : Int)) (kt : rx = ry → Ev g P k t L st h Q) (kf : ¬ rx = ry → Ev g P k (pc + 3) L st h Q) : Ev g P k pc L (va_rf ry :: va_rf rx :: st) h Q := o_if hd rfl rfl rfl (show (rfO (va_rf ry)).bind (fun ry => (rfO (va_rf rx)).bind fun rx => ifO (rx = ry) pc off L st h) = _ by rw [rfO_rf, rfO_rf, Option.bind_some, Option.bind_some]) ht kt kf
theorem o_an {rx ry : Option Nat} {off : Int} {t : Nat} (hd : decode (mB k) pc = .ok (.if_acmp .ne off, 3)) (ht : (pc : Int) + off = (t : Int)) (kt : ¬ rx = ry → Ev g P k t L st h Q) (kf : rx = ry → Ev g P k (pc + 3) L st h Q) : Ev g P k pc L (va_rf ry :: va_rf rx :: st) h Q := o_if hd rfl rfl rfl (show (rfO (va_rf ry)).bind (fun ry => (rfO (va_rf rx)).bind fun rx => ifO (¬ rx = ry) pc off L st h) = _ by rw [rfO_rf, rfO_rf, Option.bind_some, Option.bind_some]) ht kt (fun z => kf (Decidable.not_not.mp z))
theorem o_sw {dflt lo hi : Int} {offs : Array Int} {x : Int32} (hd : decode (mB k) pc = .ok (.tableswitch dflt lo hi offs, len)) (kk : ∀ t off : Int, (if x.toInt < lo ∨ hi < x.toInt then some dflt else offs[(x.toInt - lo).toNat]?) = some off → ∃ t : Nat, (pc : Int) + off = (t : Int) ∧ Ev g P k t L st h Q) (hs : ∃ off, (if x.toInt < lo ∨ hi < x.toInt then some dflt else offs[(x.toInt - lo).toNat]?) = some off) : Ev g P k pc L (.int x :: st) h Q := by
  obtain ⟨off, ho⟩ := hs
  obtain ⟨t, ht, ke⟩ := kk 0 off ho
  refine Ev.sx hd rfl rfl rfl (pc' := t) (L' := L) (st' := st) (h' := h) ?_ ke
  show (if x.toInt < lo ∨ hi < x.toInt then jmpO pc dflt L st h else (offs[(x.toInt - lo).toNat]?).bind fun off => jmpO pc off L st h) = _
  split at ho
  · rename_i hc
    cases ho
    rw [if_pos hc]
    unfold jmpO
    rw [tgt_of ht]; rfl
  · rename_i hc
    rw [if_neg hc, ho, Option.bind_some]
    unfold jmpO
    rw [tgt_of ht]; rfl
theorem o_gI {idx c f a : Nat} {r : Option Nat} (hd : decode (mB k) pc = .ok (.getfield idx, 3)) (hf : fl (mO k) idx = some (c, f)) (hk2 : fk c f ≠ 2) (hn : f < nf c) (hr : r = some a) (hk : hK h a = c + 1) (kk : Ev g P k (pc + 3) L (.int (hI h (64 * c + f) a) :: st) h Q) : Ev g P k pc L (va_rf r :: st) h Q := by
  subst hr
  refine Ev.sx hd rfl rfl rfl ?_ kk
  show (gfO (mO k) idx h (.ref a)).map _ = _
  unfold gfO
  rw [hf]
  dsimp only
  rw [if_pos ⟨hk, hn⟩, fv_int _ _ _ _ hk2]
  rfl
theorem o_gR {idx c f a : Nat} {r : Option Nat} (hd : decode (mB k) pc = .ok (.getfield idx, 3)) (hf : fl (mO k) idx = some (c, f)) (hk2 : fk c f = 2) (hn : f < nf c) (hr : r = some a) (hk : hK h a = c + 1) (kk : Ev g P k (pc + 3) L (va_rf (hR h (64 * c + f) a) :: st) h Q) : Ev g P k pc L (va_rf r :: st) h Q := by
  subst hr
  refine Ev.sx hd rfl rfl rfl ?_ kk
  show (gfO (mO k) idx h (.ref a)).map _ = _
  unfold gfO
  rw [hf]
  dsimp only
  rw [if_pos ⟨hk, hn⟩, fv_ref _ _ _ _ hk2]
  rfl
theorem o_pI {idx c f a : Nat} {r : Option Nat} {x : Int32} (hd : decode (mB k) pc = .ok (.putfield idx, 3)) (hf : fl (mO k) idx = some (c, f)) (hk2 : fk c f = 0) (hn : f < nf c) (hfn : fn c f = true → mD k = 2 ∧ mO k = c) (hr : r = some a) (hk : hK h a = c + 1) (kk : Ev g P k (pc + 3) L st (hpI h (64 * c + f) a x) Q) : Ev g P k pc L (.int x :: va_rf r :: st) h Q := by
  subst hr
  refine Ev.sx hd rfl rfl rfl ?_ kk
  show (pfO k idx h (.ref a) (.int x)).map _ = _
  unfold pfO
  rw [hf]
  dsimp only
  rw [if_pos ⟨hk, hn, hfn⟩, if_neg (by omega), if_neg (by omega)]
  rfl
theorem o_pZ {idx c f a : Nat} {r : Option Nat} {x : Int32} (hd : decode (mB k) pc = .ok (.putfield idx, 3)) (hf : fl (mO k) idx = some (c, f)) (hk2 : fk c f = 1) (hn : f < nf c) (hfn : fn c f = true → mD k = 2 ∧ mO k = c) (hx : x = 0 ∨ x = 1) (hr : r = some a) (hk : hK h a = c + 1) (kk : Ev g P k (pc + 3) L st (hpI h (64 * c + f) a x) Q) : Ev g P k pc L (.int x :: va_rf r :: st) h Q := by
  subst hr
  refine Ev.sx hd rfl rfl rfl ?_ kk
  show (pfO k idx h (.ref a) (.int x)).map _ = _
  unfold pfO
  rw [hf]
  dsimp only
  rw [if_pos ⟨hk, hn, hfn⟩, if_neg (by omega), if_pos hk2, if_pos hx]
  rfl
theorem o_pR {idx c f a : Nat} {r q : Option Nat} (hd : decode (mB k) pc = .ok (.putfield idx, 3)) (hf : fl (mO k) idx = some (c, f)) (hk2 : fk c f = 2) (hn : f < nf c) (hfn : fn c f = true → mD k = 2 ∧ mO k = c) (hr : r = some a) (hk : hK h a = c + 1) (kk : Ev g P k (pc + 3) L st (hpR h (64 * c + f) a q) Q) : Ev g P k pc L (va_rf q :: va_rf r :: st) h Q := by
  subst hr
  refine Ev.sx hd rfl rfl rfl ?_ kk
  show (pfO k idx h (.ref a) (va_rf q)).map _ = _
  unfold pfO
  rw [hf]
  dsimp only
  rw [if_pos ⟨hk, hn, hfn⟩, if_pos hk2, rfO_rf]
  rfl
theorem o_gs (hd : decode (mB k) pc = .ok (.getstatic 39, 3)) (hk : mO k = 0) (kk : Ev g P k (pc + 3) L (va_rf (some g.2.2.2) :: st) h Q) : Ev g P k pc L st h Q := Ev.sx hd rfl rfl rfl (show (if mO k = 0 ∧ 39 = 39 then some _ else none) = _ by rw [if_pos ⟨hk, rfl⟩]; rfl) kk
theorem o_ia {a : Nat} {r : Option Nat} {i : Int32} (hd : decode (mB k) pc = .ok (.iaload, 1)) (hr : r = some a) (hk : hK h a = 20) (hi : vinD i (hN h a)) (kk : Ev g P k (pc + 1) L (.int (hA h a i.toNatClampNeg) :: st) h Q) : Ev g P k pc L (.int i :: va_rf r :: st) h Q := by
  subst hr
  refine Ev.sx hd rfl rfl rfl ?_ kk
  show (ialO g h a i).map _ = _
  unfold ialO
  rw [if_pos hk, if_pos hi]
  rfl
theorem o_is0 {r : Option Nat} {i : Int32} (hd : decode (mB k) pc = .ok (.iaload, 1)) (hr : r = some g.1) (hk : ¬ hK h g.1 = 20) (hi : vinD i g.2.1) (kk : Ev g P k (pc + 1) L (.int (g.2.2.1 i.toNatClampNeg) :: st) h Q) : Ev g P k pc L (.int i :: va_rf r :: st) h Q := by
  subst hr
  refine Ev.sx hd rfl rfl rfl ?_ kk
  show (ialO g h g.1 i).map _ = _
  unfold ialO
  rw [if_neg hk, if_pos ⟨rfl, hi⟩]
  rfl
theorem o_za {a : Nat} {r : Option Nat} {i : Int32} (hd : decode (mB k) pc = .ok (.baload, 1)) (hr : r = some a) (hk : hK h a = 21) (hi : vinD i (hN h a)) (kk : Ev g P k (pc + 1) L (.int (hA h a i.toNatClampNeg) :: st) h Q) : Ev g P k pc L (.int i :: va_rf r :: st) h Q := by
  subst hr
  exact Ev.sx hd rfl rfl rfl (show (if hK h a = 21 ∧ vinD i (hN h a) then _ else _) = _ by rw [if_pos ⟨hk, hi⟩]) kk
theorem o_la {a : Nat} {r : Option Nat} {i : Int32} (hd : decode (mB k) pc = .ok (.laload, 1)) (hr : r = some a) (hk : hK h a = 29) (hi : vinD i (hN h a)) (kk : Ev g P k (pc + 1) L (.long (hA h a i.toNatClampNeg).toInt64 :: st) h Q) : Ev g P k pc L (.int i :: va_rf r :: st) h Q := by
  subst hr
  exact Ev.sx hd rfl rfl rfl (show (if hK h a = 29 ∧ vinD i (hN h a) then _ else _) = _ by rw [if_pos ⟨hk, hi⟩]) kk
theorem o_aa {a t : Nat} {r : Option Nat} {i : Int32} (hd : decode (mB k) pc = .ok (.aaload, 1)) (hr : r = some a) (hk : hK h a = t) (ht : 22 ≤ t ∧ t ≤ 28) (hi : vinD i (hN h a)) (kk : Ev g P k (pc + 1) L (va_rf (hB h a i.toNatClampNeg) :: st) h Q) : Ev g P k pc L (.int i :: va_rf r :: st) h Q := by
  subst hr
  exact Ev.sx hd rfl rfl rfl (show (if 22 ≤ hK h a ∧ hK h a ≤ 28 ∧ vinD i (hN h a) then _ else _) = _ by rw [if_pos ⟨by omega, by omega, hi⟩]) kk
theorem o_ias {a : Nat} {r : Option Nat} {i x : Int32} (hd : decode (mB k) pc = .ok (.iastore, 1)) (hr : r = some a) (hk : hK h a = 20) (hi : vinD i (hN h a)) (kk : Ev g P k (pc + 1) L st (hpA h a i.toNatClampNeg x) Q) : Ev g P k pc L (.int x :: .int i :: va_rf r :: st) h Q := by
  subst hr
  exact Ev.sx hd rfl rfl rfl (show (if hK h a = 20 ∧ vinD i (hN h a) then _ else _) = _ by rw [if_pos ⟨hk, hi⟩]) kk
theorem o_zas {a : Nat} {r : Option Nat} {i x : Int32} (hd : decode (mB k) pc = .ok (.bastore, 1)) (hr : r = some a) (hk : hK h a = 21) (hi : vinD i (hN h a)) (hx : x = 0 ∨ x = 1) (kk : Ev g P k (pc + 1) L st (hpA h a i.toNatClampNeg x) Q) : Ev g P k pc L (.int x :: .int i :: va_rf r :: st) h Q := by
  subst hr
  exact Ev.sx hd rfl rfl rfl (show (if hK h a = 21 ∧ vinD i (hN h a) ∧ (x = 0 ∨ x = 1) then _ else _) = _ by rw [if_pos ⟨hk, hi, hx⟩]) kk
theorem o_aas {a t : Nat} {r q : Option Nat} {i : Int32} (hd : decode (mB k) pc = .ok (.aastore, 1)) (hr : r = some a) (hk : hK h a = t) (ht : 22 ≤ t ∧ t ≤ 28) (hi : vinD i (hN h a)) (hq : ∀ b, q = some b → 1 ≤ hK h b ∧ hK h b ≤ 14 ∧ cmpO (t - 20) (hK h b - 1) = true) (kk : Ev g P k (pc + 1) L st (hpB h a i.toNatClampNeg q) Q) : Ev g P k pc L (va_rf q :: .int i :: va_rf r :: st) h Q := by
  subst hr
  refine Ev.sx hd ?_ ?_ ?_ ?_ kk
  · cases q <;> rfl
  · cases q <;> rfl
  · cases q <;> rfl
  · cases q with
    | none =>
      show (aasO h a i .null).map _ = _
      unfold aasO
      rw [if_pos ⟨by omega, by omega, hi⟩]
      rfl
    | some b =>
      show (aasO h a i (.ref b)).map _ = _
      unfold aasO
      rw [if_pos ⟨by omega, by omega, hi⟩]
      dsimp only
      obtain ⟨q1, q2, q3⟩ := hq b rfl
      rw [if_pos ⟨q1, q2, by rw [hk]; exact q3⟩]
      rfl
theorem o_len {a t : Nat} {r : Option Nat} (hd : decode (mB k) pc = .ok (.arraylength, 1)) (hr : r = some a) (hk : hK h a = t) (ht : 20 ≤ t ∧ t ≤ 29) (kk : Ev g P k (pc + 1) L (.int (nI (hN h a)) :: st) h Q) : Ev g P k pc L (va_rf r :: st) h Q := by
  subst hr
  refine Ev.sx hd rfl rfl rfl ?_ kk
  show (alnO g h a).map _ = _
  unfold alnO
  rw [if_pos ⟨by omega, by omega⟩]
  rfl
theorem o_len0 {r : Option Nat} (hd : decode (mB k) pc = .ok (.arraylength, 1)) (hr : r = some g.1) (hk : hK h g.1 = 0) (kk : Ev g P k (pc + 1) L (.int (nI g.2.1) :: st) h Q) : Ev g P k pc L (va_rf r :: st) h Q := by
  subst hr
  refine Ev.sx hd rfl rfl rfl ?_ kk
  show (alnO g h g.1).map _ = _
  unfold alnO
  rw [if_neg (by omega), if_pos rfl]
  rfl
theorem o_lenE {r : Option Nat} (hd : decode (mB k) pc = .ok (.arraylength, 1)) (hr : r = some g.2.2.2) (hk : hK h g.2.2.2 = 0) (hne : ¬ g.2.2.2 = g.1) (kk : Ev g P k (pc + 1) L (.int (nI 0) :: st) h Q) : Ev g P k pc L (va_rf r :: st) h Q := by
  subst hr
  refine Ev.sx hd rfl rfl rfl ?_ kk
  show (alnO g h g.2.2.2).map _ = _
  unfold alnO
  rw [if_neg (by omega), if_neg hne, if_pos rfl]
  rfl
theorem o_new {idx c : Nat} (hd : decode (mB k) pc = .ok (.new idx, 3)) (hc : clk (mO k) idx = some c) (h14 : c < 14) (kk : Ev g P k (pc + 3) L (va_rf (some (hS h)) :: st) (hpO h c) Q) : Ev g P k pc L st h Q := Ev.sx hd rfl rfl rfl (show (clk (mO k) idx).bind _ = _ by rw [hc, Option.bind_some, if_pos h14]; rfl) kk
theorem o_nwI {n : Int32} (hd : decode (mB k) pc = .ok (.newarray .int, 2)) (hn : ¬ n < 0 ∧ n.toNatClampNeg ≤ 2000000) (kk : Ev g P k (pc + 2) L (va_rf (some (hS h)) :: st) (hpW h 0 n.toNatClampNeg) Q) : Ev g P k pc L (.int n :: st) h Q := Ev.sx hd rfl rfl rfl (show (if ¬ n < 0 ∧ n.toNatClampNeg ≤ 2000000 then _ else _) = _ by rw [if_pos hn]; rfl) kk
theorem o_nwZ {n : Int32} (hd : decode (mB k) pc = .ok (.newarray .boolean, 2)) (hn : ¬ n < 0 ∧ n.toNatClampNeg ≤ 2000000) (kk : Ev g P k (pc + 2) L (va_rf (some (hS h)) :: st) (hpW h 1 n.toNatClampNeg) Q) : Ev g P k pc L (.int n :: st) h Q := Ev.sx hd rfl rfl rfl (show (if ¬ n < 0 ∧ n.toNatClampNeg ≤ 2000000 then _ else _) = _ by rw [if_pos hn]; rfl) kk
theorem o_nwJ {n : Int32} (hd : decode (mB k) pc = .ok (.newarray .long, 2)) (hn : ¬ n < 0 ∧ n.toNatClampNeg ≤ 2000000) (kk : Ev g P k (pc + 2) L (va_rf (some (hS h)) :: st) (hpW h 9 n.toNatClampNeg) Q) : Ev g P k pc L (.int n :: st) h Q := Ev.sx hd rfl rfl rfl (show (if ¬ n < 0 ∧ n.toNatClampNeg ≤ 2000000 then _ else _) = _ by rw [if_pos hn]; rfl) kk
theorem o_nwA {idx c t : Nat} {n : Int32} (hd : decode (mB k) pc = .ok (.anewarray idx, 3)) (hc : clk (mO k) idx = some c) (ht : atO c = some t) (hn : ¬ n < 0 ∧ n.toNatClampNeg ≤ 2000000) (kk : Ev g P k (pc + 3) L (va_rf (some (hS h)) :: st) (hpW h t n.toNatClampNeg) Q) : Ev g P k pc L (.int n :: st) h Q := Ev.sx hd rfl rfl rfl (show (clk (mO k) idx).bind _ = _ by rw [hc, Option.bind_some, ht, Option.bind_some, if_pos hn]; rfl) kk
theorem o_cst {idx c : Nat} {r : Option Nat} (hd : decode (mB k) pc = .ok (.checkcast idx, 3)) (hc : clk (mO k) idx = some c) (h14 : c < 14) (hk : ∀ a, r = some a → hK h a = c + 1) (kk : Ev g P k (pc + 3) L (va_rf r :: st) h Q) : Ev g P k pc L (va_rf r :: st) h Q := by
  cases r with
  | none => exact Ev.sx hd rfl rfl rfl rfl kk
  | some a => exact Ev.sx hd rfl rfl rfl (show (clk (mO k) idx).bind _ = _ by rw [hc, Option.bind_some, if_pos ⟨hk a rfl, h14⟩]; rfl) kk
theorem o_obj {idx a : Nat} {r : Option Nat} (hd : decode (mB k) pc = .ok (.invokespecial idx, 3)) (hm : ml (mO k) idx = some 1000) (hr : r = some a) (hs : (st.map fun v => v.category).sum ≤ 8) (hw : 1 ≤ mF k ∧ 20 ≤ mW k) (kk : Ev g P k (pc + 3) L st h Q) : Ev g P k pc L (va_rf r :: st) h Q := by
  subst hr
  refine Ev.sp hd rfl ?_ ?_ kk
  · show (ml (mO k) idx).bind _ = _
    rw [hm]; rfl
  · show (if ml (mO k) idx = some 1000 ∧ (st.map fun v => v.category).sum ≤ 8 ∧ 1 ≤ mF k ∧ 20 ≤ mW k then _ else _) = _
    rw [if_pos ⟨hm, hs, hw.1, hw.2⟩]
theorem o_rI {x : Int32} (hd : decode (mB k) pc = .ok (.ireturn, 1)) (hm : mR k = some .int) (hq : Q h (some (.int x))) : Ev g P k pc L [.int x] h Q := Ev.rt hd (show (if mR k = some .int then _ else _) = _ by rw [if_pos hm]) hq
theorem o_rZ {x : Int32} (hd : decode (mB k) pc = .ok (.ireturn, 1)) (hm : mR k = some .boolean) (hx : x = 0 ∨ x = 1) (hq : Q h (some (.int x))) : Ev g P k pc L [.int x] h Q := Ev.rt hd (show (if mR k = some .int then _ else if mR k = some .boolean ∧ (x = 0 ∨ x = 1) then _ else _) = _ by rw [if_neg (by rw [hm]; decide), if_pos ⟨hm, hx⟩]) hq
theorem o_rA {r : Option Nat} (hd : decode (mB k) pc = .ok (.areturn, 1)) (hm : (∃ n, mR k = some (.object n)) ∨ ∃ t, mR k = some (.array t)) (hq : Q h (some (va_rf r))) : Ev g P k pc L [va_rf r] h Q := by
  refine Ev.rt hd ?_ hq
  unfold rtO
  try dsimp only
  rcases hm with ⟨n, hm⟩ | ⟨t, hm⟩ <;> (rw [hm]; show (rfO (va_rf r)).map (fun r => some (va_rf r)) = _; rw [rfO_rf]; rfl)
theorem o_rV (hd : decode (mB k) pc = .ok (.return_, 1)) (hm : mR k = none) (hq : Q h none) : Ev g P k pc L [] h Q := Ev.rt hd (show (if mR k = none then _ else _) = _ by rw [if_pos hm]) hq
end OPS
/-- contracts of calls, by what comes back -/
def EvI (g : gcT) (P : pmT) (j : Nat) (As : List Value) (h : hpT) (Q1 : hpT → Int32 → Prop) : Prop := Ev g P j 0 (lc0 j As) [] h (fun h' r => ∃ x, r = some (.int x) ∧ Q1 h' x)
def EvA (g : gcT) (P : pmT) (j : Nat) (As : List Value) (h : hpT) (Q1 : hpT → Option Nat → Prop) : Prop := Ev g P j 0 (lc0 j As) [] h (fun h' r => ∃ x, r = some (va_rf x) ∧ Q1 h' x)
def EvV (g : gcT) (P : pmT) (j : Nat) (As : List Value) (h : hpT) (Q1 : hpT → Prop) : Prop := Ev g P j 0 (lc0 j As) [] h (fun h' r => r = none ∧ Q1 h')
section CALLS
variable {g : gcT} {P : pmT} {k pc j idx a : Nat} {L : lcT} {st rest As : List Value} {h : hpT} {Q : hpT → Option Value → Prop} {r : Option Nat}
theorem clO_s (hm : ml (mO k) idx = some j) (hj : j < 1000 ∧ mD j = 0) (hst : st = As.reverse ++ rest) (hn : As.length = mA j) : clO k (.invokestatic idx) 3 st h = some (j, As, rest) := by
  show (ml (mO k) idx).bind _ = _
  rw [hm, Option.bind_some, if_pos ⟨hj.1, hj.2, by rw [hst, List.length_append, List.length_reverse]; omega⟩]
  have h1 : st.take (mA j) = As.reverse := by rw [hst, ← hn, ← List.length_reverse, List.take_left]
  have h2 : st.drop (mA j) = rest := by rw [hst, ← hn, ← List.length_reverse, List.drop_left]
  rw [h1, h2, List.reverse_reverse]
theorem clO_v (hm : ml (mO k) idx = some j) (hj : j < 1000 ∧ mD j = 1) (hst : st = As.reverse ++ .ref a :: rest) (hn : As.length = mA j) (hk : hK h a = mO j + 1) (ho : mO j < 14) : clO k (.invokevirtual idx) 3 st h = some (j, .ref a :: As, rest) := by
  show (ml (mO k) idx).bind _ = _
  rw [hm, Option.bind_some, if_pos ⟨hj.1, hj.2, by rw [hst, List.length_append, List.length_reverse]; omega⟩]
  have h1 : st.take (mA j) = As.reverse := by rw [hst, ← hn, ← List.length_reverse, List.take_left]
  have h2 : st.drop (mA j) = .ref a :: rest := by rw [hst, ← hn, ← List.length_reverse, List.drop_left]
  rw [h1, h2, List.reverse_reverse]
  dsimp only
  rw [if_pos ⟨hk, ho⟩]
theorem clO_i (hm : ml (mO k) idx = some j) (hj : j < 1000 ∧ mD j = 2) (hst : st = As.reverse ++ .ref a :: rest) (hn : As.length = mA j) : clO k (.invokespecial idx) 3 st h = some (j, .ref a :: As, rest) := by
  show (ml (mO k) idx).bind _ = _
  rw [hm, Option.bind_some, if_pos ⟨hj.1, hj.2, by rw [hst, List.length_append, List.length_reverse]; omega⟩]
  have h1 : st.take (mA j) = As.reverse := by rw [hst, ← hn, ← List.length_reverse, List.take_left]
  have h2 : st.drop (mA j) = .ref a :: rest := by rw [hst, ← hn, ← List.length_reverse, List.drop_left]
  rw [h1, h2, List.reverse_reverse]
/-- what a call wants of room and stack -/
def CZ (k j : Nat) (As rest : List Value) : Prop := (rest.map fun v => v.category).sum ≤ 8 ∧ As.all (fun v => v.category == 1) = true ∧ As.length ≤ mX j ∧ mF j + 1 ≤ mF k ∧ 8 + (mX j + 11) + mW j ≤ mW k
theorem c_sI {Q1 : hpT → Int32 → Prop} (hd : decode (mB k) pc = .ok (.invokestatic idx, 3)) (hm : ml (mO k) idx = some j) (hj : j < 1000 ∧ mD j = 0) (hp : ¬ (j = 205 ∨ j = 206)) (hst : st = As.reverse ++ rest) (hn : As.length = mA j) (hz : CZ k j As rest) (hM : EvI g P j As h Q1) (kk : ∀ h' x, Q1 h' x → Ev g P k (pc + 3) L (.int x :: rest) h' Q) : Ev g P k pc L st h Q :=
  Ev.cl hd rfl (clO_s hm hj hst hn) hp hz hM (fun h' r ⟨x, e, q⟩ => by subst e; exact kk h' x q)
theorem c_sA {Q1 : hpT → Option Nat → Prop} (hd : decode (mB k) pc = .ok (.invokestatic idx, 3)) (hm : ml (mO k) idx = some j) (hj : j < 1000 ∧ mD j = 0) (hp : ¬ (j = 205 ∨ j = 206)) (hst : st = As.reverse ++ rest) (hn : As.length = mA j) (hz : CZ k j As rest) (hM : EvA g P j As h Q1) (kk : ∀ h' x, Q1 h' x → Ev g P k (pc + 3) L (va_rf x :: rest) h' Q) : Ev g P k pc L st h Q :=
  Ev.cl hd rfl (clO_s hm hj hst hn) hp hz hM (fun h' r ⟨x, e, q⟩ => by subst e; exact kk h' x q)
theorem c_sV {Q1 : hpT → Prop} (hd : decode (mB k) pc = .ok (.invokestatic idx, 3)) (hm : ml (mO k) idx = some j) (hj : j < 1000 ∧ mD j = 0) (hp : ¬ (j = 205 ∨ j = 206)) (hst : st = As.reverse ++ rest) (hn : As.length = mA j) (hz : CZ k j As rest) (hM : EvV g P j As h Q1) (kk : ∀ h', Q1 h' → Ev g P k (pc + 3) L rest h' Q) : Ev g P k pc L st h Q :=
  Ev.cl hd rfl (clO_s hm hj hst hn) hp hz hM (fun h' r ⟨e, q⟩ => by subst e; exact kk h' q)
theorem c_vI {Q1 : hpT → Int32 → Prop} (hd : decode (mB k) pc = .ok (.invokevirtual idx, 3)) (hm : ml (mO k) idx = some j) (hj : j < 1000 ∧ mD j = 1) (hp : ¬ (j = 205 ∨ j = 206)) (hr : r = some a) (hst : st = As.reverse ++ va_rf r :: rest) (hn : As.length = mA j) (hk : hK h a = mO j + 1) (ho : mO j < 14) (hz : CZ k j (va_rf r :: As) rest) (hM : EvI g P j (va_rf r :: As) h Q1) (kk : ∀ h' x, Q1 h' x → Ev g P k (pc + 3) L (.int x :: rest) h' Q) : Ev g P k pc L st h Q := by
  subst hr
  exact Ev.cl hd rfl (clO_v hm hj hst hn hk ho) hp hz hM (fun h' r ⟨x, e, q⟩ => by subst e; exact kk h' x q)
theorem c_vA {Q1 : hpT → Option Nat → Prop} (hd : decode (mB k) pc = .ok (.invokevirtual idx, 3)) (hm : ml (mO k) idx = some j) (hj : j < 1000 ∧ mD j = 1) (hp : ¬ (j = 205 ∨ j = 206)) (hr : r = some a) (hst : st = As.reverse ++ va_rf r :: rest) (hn : As.length = mA j) (hk : hK h a = mO j + 1) (ho : mO j < 14) (hz : CZ k j (va_rf r :: As) rest) (hM : EvA g P j (va_rf r :: As) h Q1) (kk : ∀ h' x, Q1 h' x → Ev g P k (pc + 3) L (va_rf x :: rest) h' Q) : Ev g P k pc L st h Q := by
  subst hr
  exact Ev.cl hd rfl (clO_v hm hj hst hn hk ho) hp hz hM (fun h' r ⟨x, e, q⟩ => by subst e; exact kk h' x q)
theorem c_vV {Q1 : hpT → Prop} (hd : decode (mB k) pc = .ok (.invokevirtual idx, 3)) (hm : ml (mO k) idx = some j) (hj : j < 1000 ∧ mD j = 1) (hp : ¬ (j = 205 ∨ j = 206)) (hr : r = some a) (hst : st = As.reverse ++ va_rf r :: rest) (hn : As.length = mA j) (hk : hK h a = mO j + 1) (ho : mO j < 14) (hz : CZ k j (va_rf r :: As) rest) (hM : EvV g P j (va_rf r :: As) h Q1) (kk : ∀ h', Q1 h' → Ev g P k (pc + 3) L rest h' Q) : Ev g P k pc L st h Q := by
  subst hr
  exact Ev.cl hd rfl (clO_v hm hj hst hn hk ho) hp hz hM (fun h' r ⟨e, q⟩ => by subst e; exact kk h' q)
theorem c_iV {Q1 : hpT → Prop} (hd : decode (mB k) pc = .ok (.invokespecial idx, 3)) (hm : ml (mO k) idx = some j) (hj : j < 1000 ∧ mD j = 2) (hp : ¬ (j = 205 ∨ j = 206)) (hr : r = some a) (hst : st = As.reverse ++ va_rf r :: rest) (hn : As.length = mA j) (hz : CZ k j (va_rf r :: As) rest) (hM : EvV g P j (va_rf r :: As) h Q1) (kk : ∀ h', Q1 h' → Ev g P k (pc + 3) L rest h' Q) : Ev g P k pc L st h Q := by
  subst hr
  exact Ev.cl hd rfl (clO_i hm hj hst hn) hp hz hM (fun h' r ⟨e, q⟩ => by subst e; exact kk h' q)
end CALLS
/-! reads behind writes -/
section RW
variable (h : hpT) (f a f' a' : Nat) (v : Int32) (q : Option Nat)
theorem rI_I : hI (hpI h f a v) f' a' = if f' = f ∧ a' = a then v else hI h f' a' := rfl
theorem rR_R : hR (hpR h f a q) f' a' = if f' = f ∧ a' = a then q else hR h f' a' := rfl
theorem rA_A : hA (hpA h f a v) f' a' = if f' = f ∧ a' = a then v else hA h f' a' := rfl
theorem rB_B : hB (hpB h f a q) f' a' = if f' = f ∧ a' = a then q else hB h f' a' := rfl
theorem rI_R : hI (hpR h f a q) = hI h := rfl
theorem rI_A : hI (hpA h f a v) = hI h := rfl
theorem rI_B : hI (hpB h f a q) = hI h := rfl
theorem rR_I : hR (hpI h f a v) = hR h := rfl
theorem rR_A : hR (hpA h f a v) = hR h := rfl
theorem rR_B : hR (hpB h f a q) = hR h := rfl
theorem rA_I : hA (hpI h f a v) = hA h := rfl
theorem rA_R : hA (hpR h f a q) = hA h := rfl
theorem rA_B : hA (hpB h f a q) = hA h := rfl
theorem rB_I : hB (hpI h f a v) = hB h := rfl
theorem rB_R : hB (hpR h f a q) = hB h := rfl
theorem rB_A : hB (hpA h f a v) = hB h := rfl
theorem rK_I : hK (hpI h f a v) = hK h := rfl
theorem rK_R : hK (hpR h f a q) = hK h := rfl
theorem rK_A : hK (hpA h f a v) = hK h := rfl
theorem rK_B : hK (hpB h f a q) = hK h := rfl
theorem rN_I : hN (hpI h f a v) = hN h := rfl
theorem rN_R : hN (hpR h f a q) = hN h := rfl
theorem rN_A : hN (hpA h f a v) = hN h := rfl
theorem rN_B : hN (hpB h f a q) = hN h := rfl
end RW
