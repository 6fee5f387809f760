/-! classes: all that the words say of each -/
theorem cc_ref (n : String) (v : Value) (h : v = .null ∨ ∃ a, v = .ref a) : narrow (.object n) v = v ∧ fits (.object n) v = true := by
  rcases h with rfl | ⟨a, rfl⟩ <;> exact ⟨rfl, rfl⟩
theorem cc_refA (n : FieldType) (v : Value) (h : v = .null ∨ ∃ a, v = .ref a) : narrow (.array n) v = v ∧ fits (.array n) v = true := by
  rcases h with rfl | ⟨a, rfl⟩ <;> exact ⟨rfl, rfl⟩
/-! the machine in small. A heap: (size, cells made, slots made), the kind of each address (0: none of ours; c + 1: an object of class c; 20 + t: an array of type t), int fields, reference fields (field number 64 c + k), lengths, int rows, reference rows -/
abbrev hpT : Type := (Nat × Nat × Nat) × (Nat → Nat) × (Nat → Nat → Int32) × (Nat → Nat → Option Nat) × (Nat → Nat) × (Nat → Nat → Int32) × (Nat → Nat → Option Nat)
def hS (h : hpT) : Nat := h.1.1
def hC (h : hpT) : Nat := h.1.2.1
def hM (h : hpT) : Nat := h.1.2.2
def hK (h : hpT) : Nat → Nat := h.2.1
def hI (h : hpT) : Nat → Nat → Int32 := h.2.2.1
def hR (h : hpT) : Nat → Nat → Option Nat := h.2.2.2.1
def hN (h : hpT) : Nat → Nat := h.2.2.2.2.1
def hA (h : hpT) : Nat → Nat → Int32 := h.2.2.2.2.2.1
def hB (h : hpT) : Nat → Nat → Option Nat := h.2.2.2.2.2.2
def u2 {α : Type} (g : Nat → Nat → α) (f a : Nat) (v : α) : Nat → Nat → α := fun x y => if x = f ∧ y = a then v else g x y
def u1 {α : Type} (g : Nat → α) (a : Nat) (v : α) : Nat → α := fun y => if y = a then v else g y
def hpI (h : hpT) (f a : Nat) (v : Int32) : hpT := (h.1, h.2.1, u2 (hI h) f a v, h.2.2.2)
def hpR (h : hpT) (f a : Nat) (v : Option Nat) : hpT := (h.1, h.2.1, h.2.2.1, u2 (hR h) f a v, h.2.2.2.2)
def hpA (h : hpT) (a i : Nat) (v : Int32) : hpT := (h.1, h.2.1, h.2.2.1, h.2.2.2.1, h.2.2.2.2.1, u2 (hA h) a i v, h.2.2.2.2.2.2)
def hpB (h : hpT) (a i : Nat) (v : Option Nat) : hpT := (h.1, h.2.1, h.2.2.1, h.2.2.2.1, h.2.2.2.2.1, h.2.2.2.2.2.1, u2 (hB h) a i v)
def hpO (h : hpT) (c : Nat) : hpT := ((hS h + 1, hC h + 1, hM h + nf c), u1 (hK h) (hS h) (c + 1), h.2.2)
def hpW (h : hpT) (t n : Nat) : hpT := ((hS h + 1, hC h + 1, hM h + n), u1 (hK h) (hS h) (20 + t), h.2.2.1, h.2.2.2.1, u1 (hN h) (hS h) n, h.2.2.2.2.2)
/-- nothing is said of what isn't made yet -/
def hWF (h : hpT) : Prop := ∀ a, hS h ≤ a → hK h a = 0 ∧ (∀ f, hI h f a = 0 ∧ hR h f a = none) ∧ (∀ i, hA h a i = 0 ∧ hB h a i = none)
/-- a reference on the stack -/
def rfO (v : Value) : Option (Option Nat) := match v with
  | .null => some none
  | .ref a => some (some a)
  | _ => none
theorem rfO_some {v : Value} {r : Option Nat} (h : rfO v = some r) : v = va_rf r := by
  cases v <;> simp [rfO] at h <;> subst h <;> rfl
theorem rfO_rf (r : Option Nat) : rfO (va_rf r) = some r := by cases r <;> rfl
/-- what a field of an object holds -/
def fv (h : hpT) (c k a : Nat) : Value := if fk c k = 2 then va_rf (hR h (64 * c + k) a) else .int (hI h (64 * c + k) a)
/-- the array type with components of a class -/
def atO (v : Nat) : Option Nat := match v with
  | 1 => some 2
  | 2 => some 3
  | 5 => some 4
  | 6 => some 5
  | 7 => some 6
  | 9 => some 7
  | 100 => some 8
  | _ => none
def tgtO (pc : Nat) (off : Int) : Option Nat := if 0 ≤ (pc : Int) + off then some ((pc : Int) + off).toNat else none
abbrev lcT : Type := List (Option Value)
abbrev cfT : Type := Nat × lcT × List Value × hpT
/-- the constants of a run: the script's address, length and contents; ArrayList's empty array -/
abbrev gcT : Type := Nat × Nat × (Nat → Int32) × Nat
def jmpO (pc : Nat) (off : Int) (L : lcT) (st : List Value) (h : hpT) : Option cfT := (tgtO pc off).map fun t => (t, L, st, h)
def ifO (b : Prop) [Decidable b] (pc : Nat) (off : Int) (L : lcT) (st : List Value) (h : hpT) : Option cfT := (tgtO pc off).bind fun t => some (if b then (t, L, st, h) else (pc + 3, L, st, h))
def ldO (L : lcT) (i : Nat) : Option Value := (L[i]?).bind id
def stO (L : lcT) (i : Nat) (v : Value) : Option lcT := if v.category = 1 ∧ i < L.length then some (L.set i (some v)) else none
abbrev vinD (i : Int32) (n : Nat) : Prop := ¬ (i < 0 ∨ n ≤ i.toNatClampNeg)
/-- a read of a field -/
def gfO (o idx : Nat) (h : hpT) (v : Value) : Option Value := match fl o idx, v with
  | some (c, k), .ref a => if hK h a = c + 1 ∧ k < nf c then some (fv h c k a) else none
  | _, _ => none
/-- a write of a field, in the method k -/
def pfO (k0 idx : Nat) (h : hpT) (v w : Value) : Option hpT := match fl (mO k0) idx, v with
  | some (c, k), .ref a =>
    if hK h a = c + 1 ∧ k < nf c ∧ (fn c k = true → mD k0 = 2 ∧ mO k0 = c) then
      (if fk c k = 2 then (rfO w).map fun r => hpR h (64 * c + k) a r
       else match w with
        | .int x => if fk c k = 1 then (if x = 0 ∨ x = 1 then some (hpI h (64 * c + k) a x) else none) else some (hpI h (64 * c + k) a x)
        | _ => none)
    else none
  | _, _ => none
def ialO (g : gcT) (h : hpT) (a : Nat) (i : Int32) : Option Int32 :=
  if hK h a = 20 then (if vinD i (hN h a) then some (hA h a i.toNatClampNeg) else none)
  else if a = g.1 ∧ vinD i g.2.1 then some (g.2.2.1 i.toNatClampNeg) else none
def alnO (g : gcT) (h : hpT) (a : Nat) : Option Nat :=
  if 20 ≤ hK h a ∧ hK h a ≤ 29 then some (hN h a) else if a = g.1 then some g.2.1 else if a = g.2.2.2 then some 0 else none
/-- which class's objects an array of references takes -/
def cmpO (t c : Nat) : Bool := (t == 8 && (c == 4 || c == 6 || c == 8)) || (t == 2 && c == 1) || (t == 3 && c == 2) || (t == 4 && c == 5) || (t == 5 && c == 6) || (t == 6 && c == 7) || (t == 7 && c == 9)
def aasO (h : hpT) (a : Nat) (i : Int32) (v : Value) : Option hpT :=
  if 22 ≤ hK h a ∧ hK h a ≤ 28 ∧ vinD i (hN h a) then
    (match v with
     | .null => some (hpB h a i.toNatClampNeg none)
     | .ref b => if 1 ≤ hK h b ∧ hK h b ≤ 14 ∧ cmpO (hK h a - 20) (hK h b - 1) = true then some (hpB h a i.toNatClampNeg (some b)) else none
     | _ => none)
  else none
/-- an instruction that neither calls nor returns -/
def sxO (g : gcT) (k pc : Nat) (i : Instr) (len : Nat) (L : lcT) (st : List Value) (h : hpT) : Option cfT :=
  match i, len, st with
  | .iconst n, 1, st => some (pc + 1, L, .int (Int32.ofInt n) :: st, h)
  | .bipush n, 2, st => some (pc + 2, L, .int (Int8.ofInt n).toInt32 :: st, h)
  | .sipush n, 3, st => some (pc + 3, L, .int (Int16.ofInt n).toInt32 :: st, h)
  | .ldc idx, 2, st => (cn (mO k) idx).map fun v => (pc + 2, L, .int v :: st, h)
  | .ldc_w idx, 3, st => (cn (mO k) idx).map fun v => (pc + 3, L, .int v :: st, h)
  | .aconst_null, 1, st => some (pc + 1, L, .null :: st, h)
  | .iload_n n, 1, st => match ldO L n with
    | some (.int x) => some (pc + 1, L, .int x :: st, h)
    | _ => none
  | .iload n, 2, st => match ldO L n with
    | some (.int x) => some (pc + 2, L, .int x :: st, h)
    | _ => none
  | .aload_n n, 1, st => match (ldO L n).bind rfO with
    | some r => some (pc + 1, L, va_rf r :: st, h)
    | _ => none
  | .aload n, 2, st => match (ldO L n).bind rfO with
    | some r => some (pc + 2, L, va_rf r :: st, h)
    | _ => none
  | .istore_n n, 1, .int x :: st => (stO L n (.int x)).map fun L => (pc + 1, L, st, h)
  | .istore n, 2, .int x :: st => (stO L n (.int x)).map fun L => (pc + 2, L, st, h)
  | .astore_n n, 1, v :: st => (rfO v).bind fun r => (stO L n (va_rf r)).map fun L => (pc + 1, L, st, h)
  | .astore n, 2, v :: st => (rfO v).bind fun r => (stO L n (va_rf r)).map fun L => (pc + 2, L, st, h)
  | .iinc n d, 3, st => match ldO L n with
    | some (.int x) => (stO L n (.int (x + Int32.ofInt d))).map fun L => (pc + 3, L, st, h)
    | _ => none
  | .iadd, 1, .int y :: .int x :: st => some (pc + 1, L, .int (x + y) :: st, h)
  | .isub, 1, .int y :: .int x :: st => some (pc + 1, L, .int (x - y) :: st, h)
  | .imul, 1, .int y :: .int x :: st => some (pc + 1, L, .int (x * y) :: st, h)
  | .iand, 1, .int y :: .int x :: st => some (pc + 1, L, .int (x &&& y) :: st, h)
  | .ior, 1, .int y :: .int x :: st => some (pc + 1, L, .int (x ||| y) :: st, h)
  | .ixor, 1, .int y :: .int x :: st => some (pc + 1, L, .int (x ^^^ y) :: st, h)
  | .ishl, 1, .int y :: .int x :: st => some (pc + 1, L, .int (x <<< (y &&& 31)) :: st, h)
  | .ishr, 1, .int y :: .int x :: st => some (pc + 1, L, .int (x >>> (y &&& 31)) :: st, h)
  | .iushr, 1, .int y :: .int x :: st => some (pc + 1, L, .int ((x.toUInt32 >>> (y.toUInt32 &&& Int32.toUInt32 31)).toInt32) :: st, h)
  | .idiv, 1, .int y :: .int x :: st => if y = 0 then none else some (pc + 1, L, .int (x / y) :: st, h)
  | .irem, 1, .int y :: .int x :: st => if y = 0 then none else some (pc + 1, L, .int (x - x / y * y) :: st, h)
  | .i2l, 1, .int x :: st => some (pc + 1, L, .long x.toInt64 :: st, h)
  | .lcmp, 1, .long y :: .long x :: st => some (pc + 1, L, .int (lg_cmp x y) :: st, h)
  | .dup, 1, v :: st => if v.category = 1 then some (pc + 1, L, v :: v :: st, h) else none
  | .pop, 1, v :: st => if v.category = 1 then some (pc + 1, L, st, h) else none
  | .dup_x1, 1, v :: w :: st => if v.category = 1 ∧ w.category = 1 then some (pc + 1, L, v :: w :: v :: st, h) else none
  | .dup2, 1, v :: w :: st => if v.category = 1 ∧ w.category = 1 then some (pc + 1, L, v :: w :: v :: w :: st, h) else none
  | .goto off, 3, st => jmpO pc off L st h
  | .ifCond .eq off, 3, .int x :: st => ifO (x = 0) pc off L st h
  | .ifCond .ne off, 3, .int x :: st => ifO (¬ x = 0) pc off L st h
  | .ifCond .lt off, 3, .int x :: st => ifO (x < 0) pc off L st h
  | .ifCond .ge off, 3, .int x :: st => ifO (0 ≤ x) pc off L st h
  | .ifCond .gt off, 3, .int x :: st => ifO (0 < x) pc off L st h
  | .ifCond .le off, 3, .int x :: st => ifO (x ≤ 0) pc off L st h
  | .if_icmp .eq off, 3, .int y :: .int x :: st => ifO (x = y) pc off L st h
  | .if_icmp .ne off, 3, .int y :: .int x :: st => ifO (¬ x = y) pc off L st h
  | .if_icmp .lt off, 3, .int y :: .int x :: st => ifO (x < y) pc off L st h
  | .if_icmp .ge off, 3, .int y :: .int x :: st => ifO (y ≤ x) pc off L st h
  | .if_icmp .gt off, 3, .int y :: .int x :: st => ifO (y < x) pc off L st h
  | .if_icmp .le off, 3, .int y :: .int x :: st => ifO (x ≤ y) pc off L st h
  | .ifnull off, 3, v :: st => (rfO v).bind fun r => ifO (r = none) pc off L st h
  | .ifnonnull off, 3, v :: st => (rfO v).bind fun r => ifO (¬ r = none) pc off L st h
  | .if_acmp .eq off, 3, w :: v :: st => (rfO w).bind fun ry => (rfO v).bind fun rx => ifO (rx = ry) pc off L st h
  | .if_acmp .ne off, 3, w :: v :: st => (rfO w).bind fun ry => (rfO v).bind fun rx => ifO (¬ rx = ry) pc off L st h
  | .tableswitch dflt lo hi offs, _, .int x :: st => if x.toInt < lo ∨ hi < x.toInt then jmpO pc dflt L st h else (offs[(x.toInt - lo).toNat]?).bind fun off => jmpO pc off L st h
  | .getfield idx, 3, v :: st => (gfO (mO k) idx h v).map fun w => (pc + 3, L, w :: st, h)
  | .putfield idx, 3, w :: v :: st => (pfO k idx h v w).map fun h => (pc + 3, L, st, h)
  | .getstatic idx, 3, st => if mO k = 0 ∧ idx = 39 then some (pc + 3, L, .ref g.2.2.2 :: st, h) else none
  | .iaload, 1, .int i :: .ref a :: st => (ialO g h a i).map fun v => (pc + 1, L, .int v :: st, h)
  | .baload, 1, .int i :: .ref a :: st => if hK h a = 21 ∧ vinD i (hN h a) then some (pc + 1, L, .int (hA h a i.toNatClampNeg) :: st, h) else none
  | .laload, 1, .int i :: .ref a :: st => if hK h a = 29 ∧ vinD i (hN h a) then some (pc + 1, L, .long (hA h a i.toNatClampNeg).toInt64 :: st, h) else none
  | .aaload, 1, .int i :: .ref a :: st => if 22 ≤ hK h a ∧ hK h a ≤ 28 ∧ vinD i (hN h a) then some (pc + 1, L, va_rf (hB h a i.toNatClampNeg) :: st, h) else none
  | .iastore, 1, .int x :: .int i :: .ref a :: st => if hK h a = 20 ∧ vinD i (hN h a) then some (pc + 1, L, st, hpA h a i.toNatClampNeg x) else none
  | .bastore, 1, .int x :: .int i :: .ref a :: st => if hK h a = 21 ∧ vinD i (hN h a) ∧ (x = 0 ∨ x = 1) then some (pc + 1, L, st, hpA h a i.toNatClampNeg x) else none
  | .aastore, 1, v :: .int i :: .ref a :: st => (aasO h a i v).map fun h => (pc + 1, L, st, h)
  | .arraylength, 1, .ref a :: st => (alnO g h a).map fun n => (pc + 1, L, .int (Int32.ofNat n) :: st, h)
  | .new idx, 3, st => (clk (mO k) idx).bind fun c => if c < 14 then some (pc + 3, L, .ref (hS h) :: st, hpO h c) else none
  | .newarray .int, 2, .int n :: st => if ¬ n < 0 ∧ n.toNatClampNeg ≤ 2000000 then some (pc + 2, L, .ref (hS h) :: st, hpW h 0 n.toNatClampNeg) else none
  | .newarray .boolean, 2, .int n :: st => if ¬ n < 0 ∧ n.toNatClampNeg ≤ 2000000 then some (pc + 2, L, .ref (hS h) :: st, hpW h 1 n.toNatClampNeg) else none
  | .newarray .long, 2, .int n :: st => if ¬ n < 0 ∧ n.toNatClampNeg ≤ 2000000 then some (pc + 2, L, .ref (hS h) :: st, hpW h 9 n.toNatClampNeg) else none
  | .anewarray idx, 3, .int n :: st => (clk (mO k) idx).bind fun c => (atO c).bind fun t => if ¬ n < 0 ∧ n.toNatClampNeg ≤ 2000000 then some (pc + 3, L, .ref (hS h) :: st, hpW h t n.toNatClampNeg) else none
  | .checkcast idx, 3, .null :: st => some (pc + 3, L, .null :: st, h)
  | .checkcast idx, 3, .ref a :: st => (clk (mO k) idx).bind fun c => if hK h a = c + 1 ∧ c < 14 then some (pc + 3, L, .ref a :: st, h) else none
  | _, _, _ => none
/-- the value of a return -/
def rtO (k : Nat) (i : Instr) (len : Nat) (st : List Value) : Option (Option Value) :=
  match i, len, st with
  | .ireturn, 1, [.int x] => if mR k = some .int then some (some (.int x)) else if mR k = some .boolean ∧ (x = 0 ∨ x = 1) then some (some (.int x)) else none
  | .areturn, 1, [v] => match mR k with
    | some (.object _) => (rfO v).map fun r => some (va_rf r)
    | some (.array _) => (rfO v).map fun r => some (va_rf r)
    | _ => none
  | .return_, 1, [] => if mR k = none then some none else none
  | _, _, _ => none
/-- a call: which method, its arguments (with the receiver), what stays on the stack -/
def clO (k : Nat) (i : Instr) (len : Nat) (st : List Value) (h : hpT) : Option (Nat × List Value × List Value) :=
  match i, len with
  | .invokestatic idx, 3 => (ml (mO k) idx).bind fun j => if j < 1000 ∧ mD j = 0 ∧ mA j ≤ st.length then some (j, (st.take (mA j)).reverse, st.drop (mA j)) else none
  | .invokevirtual idx, 3 => (ml (mO k) idx).bind fun j => if j < 1000 ∧ mD j = 1 ∧ mA j ≤ st.length then (match st.drop (mA j) with
      | .ref a :: rest => if hK h a = mO j + 1 ∧ mO j < 14 then some (j, .ref a :: (st.take (mA j)).reverse, rest) else none
      | _ => none) else none
  | .invokespecial idx, 3 => (ml (mO k) idx).bind fun j => if j < 1000 ∧ mD j = 2 ∧ mA j ≤ st.length then (match st.drop (mA j) with
      | .ref a :: rest => some (j, .ref a :: (st.take (mA j)).reverse, rest)
      | _ => none) else none
  | _, _ => none
def lc0 (j : Nat) (As : List Value) : lcT := As.map some ++ List.replicate (mX j - As.length) none
/-- a call of a kind of its own: Object's constructor, arraycopy of references -/
def spO (k pc : Nat) (i : Instr) (len : Nat) (L : lcT) (st : List Value) (h : hpT) : Option cfT :=
  match i, len, st with
  | .invokespecial idx, 3, .ref a :: st => if ml (mO k) idx = some 1000 ∧ (st.map fun v => v.category).sum ≤ 8 ∧ 1 ≤ mF k ∧ 20 ≤ mW k then some (pc + 3, L, st, h) else none
  | .invokestatic idx, 3, .int n :: .int dp :: .ref d :: .int sp :: .ref a :: st =>
    if ml (mO k) idx = some 1001 ∧ a = d ∧ hK h a = 28 ∧ ¬ sp < 0 ∧ ¬ dp < 0 ∧ ¬ n < 0 ∧ sp.toNatClampNeg + n.toNatClampNeg ≤ hN h a ∧ dp.toNatClampNeg + n.toNatClampNeg ≤ hN h a ∧ ([4, 6, 8].any fun c => (List.range n.toNatClampNeg).all fun i => match hB h a (sp.toNatClampNeg + i) with | none => true | some y => hK h y == c + 1) = true ∧ (st.map fun v => v.category).sum ≤ 8 ∧ 1 ≤ mF k ∧ 40 ≤ mW k then
      some (pc + 3, L, st, (h.1, h.2.1, h.2.2.1, h.2.2.2.1, h.2.2.2.2.1, h.2.2.2.2.2.1, fun x y => if x = a then va_cpy (hB h a) (hB h a) sp.toNatClampNeg dp.toNatClampNeg n.toNatClampNeg y else hB h x y))
    else none
  | _, _, _ => none
abbrev pmT : Type := Nat → List Value → hpT → Option (hpT × Option Value)
/-- the run of a method: its end's heap and answer. P: methods with contracts of their own -/
def ev (g : gcT) (P : pmT) : Nat → Nat → Nat → lcT → List Value → hpT → Option (hpT × Option Value)
  | 0, _, _, _, _, _ => none
  | n + 1, k, pc, L, st, h =>
    match decode (mB k) pc with
    | .ok (i, len) =>
      match rtO k i len st with
      | some r => some (h, r)
      | none =>
        match clO k i len st h with
        | some (j, As, rest) =>
          if (rest.map fun v => v.category).sum ≤ 8 ∧ As.all (fun v => v.category == 1) = true ∧ As.length ≤ mX j ∧ mF j + 1 ≤ mF k ∧ 8 + (mX j + 11) + mW j ≤ mW k then
            (match (if j = 205 ∨ j = 206 then P j As h else ev g P n j 0 (lc0 j As) [] h) with
             | some (h', r) => ev g P n k (pc + 3) L (r.toList ++ rest) h'
             | none => none)
          else none
        | none =>
          match spO k pc i len L st h with
          | some (pc', L', st', h') => ev g P n k pc' L' st' h'
          | none =>
            match sxO g k pc i len L st h with
            | some (pc', L', st', h') => ev g P n k pc' L' st' h'
            | none => none
    | .error _ => none
