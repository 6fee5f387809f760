theorem ifO_h {b : Prop} [Decidable b] {pc pc' : Nat} {off : Int} {L L' : lcT} {st st' : List Value} {h h' : hpT} (e : ifO b pc off L st h = some (pc', L', st', h')) : h' = h := by
  unfold ifO at e
  obtain ⟨t, h1, h2⟩ := Option.bind_eq_some_iff.mp e
  split at h2 <;> (cases h2; rfl)
theorem jmpO_h {pc pc' : Nat} {off : Int} {L L' : lcT} {st st' : List Value} {h h' : hpT} (e : jmpO pc off L st h = some (pc', L', st', h')) : h' = h := by
  unfold jmpO at e
  obtain ⟨t, h1, h2⟩ := Option.map_eq_some_iff.mp e
  cases h2; rfl
def hLe (h h' : hpT) : Prop := hC h ≤ hC h' ∧ hM h ≤ hM h'
theorem hLe.rf (h : hpT) : hLe h h := ⟨Nat.le_refl _, Nat.le_refl _⟩
theorem hLe.tr {a b c : hpT} (h1 : hLe a b) (h2 : hLe b c) : hLe a c := ⟨Nat.le_trans h1.1 h2.1, Nat.le_trans h1.2 h2.2⟩
theorem hLe.O (h : hpT) (c : Nat) : hLe h (hpO h c) := ⟨Nat.le_succ _, Nat.le_add_right _ _⟩
theorem hLe.W (h : hpT) (t n : Nat) : hLe h (hpW h t n) := ⟨Nat.le_succ _, Nat.le_add_right _ _⟩
theorem pf_le {k idx : Nat} {h h' : hpT} {v w : Value} (e : pfO k idx h v w = some h') : hLe h h' := by
  unfold pfO at e
  repeat' split at e
  all_goals first | (cases e; exact ⟨Nat.le_refl _, Nat.le_refl _⟩) | (obtain ⟨q, -, q2⟩ := Option.map_eq_some_iff.mp e; cases q2; exact ⟨Nat.le_refl _, Nat.le_refl _⟩) | cases e
theorem aas_le {h h' : hpT} {a : Nat} {i : Int32} {v : Value} (e : aasO h a i v = some h') : hLe h h' := by
  unfold aasO at e
  repeat' split at e
  all_goals first | (cases e; exact ⟨Nat.le_refl _, Nat.le_refl _⟩) | cases e
set_option maxHeartbeats 2000000 in
theorem sx_mono {g : gcT} {k pc pc' len : Nat} {i : Instr} {L L' : lcT} {st st' : List Value} {h h' : hpT} (hsx : sxO g k pc i len L st h = some (pc', L', st', h')) : hLe h h' := by
  unfold sxO at hsx
  split at hsx
  all_goals first
    | (cases hsx; exact hLe.rf _)
    | (cases hsx; done)
    | (have := jmpO_h hsx; subst this; exact hLe.rf _)
    | (have := ifO_h hsx; subst this; exact hLe.rf _)
    | (obtain ⟨v, h1, h2⟩ := Option.map_eq_some_iff.mp hsx; cases h2; first | exact hLe.rf _ | exact pf_le h1 | exact aas_le h1)
    | (obtain ⟨r, h0, h3⟩ := Option.bind_eq_some_iff.mp hsx; have := ifO_h h3; subst this; exact hLe.rf _)
    | (obtain ⟨r, h0, h3⟩ := Option.bind_eq_some_iff.mp hsx; obtain ⟨v, h1, h2⟩ := Option.map_eq_some_iff.mp h3; cases h2; exact hLe.rf _)
    | (obtain ⟨r, h0, h3⟩ := Option.bind_eq_some_iff.mp hsx; obtain ⟨v, h1, h2⟩ := Option.bind_eq_some_iff.mp h3; have := ifO_h h2; subst this; exact hLe.rf _)
    | (obtain ⟨c, h0, h3⟩ := Option.bind_eq_some_iff.mp hsx; split at h3 <;> first | (cases h3; exact hLe.O _ _) | (cases h3; exact hLe.rf _) | cases h3)
    | (obtain ⟨r, h0, h3⟩ := Option.bind_eq_some_iff.mp hsx; obtain ⟨v, h1, h2⟩ := Option.bind_eq_some_iff.mp h3; split at h2 <;> first | (cases h2; exact hLe.W _ _ _) | cases h2)
    | (split at hsx <;> first | (cases hsx; exact hLe.rf _) | (cases hsx; exact hLe.W _ _ _) | (have := jmpO_h hsx; subst this; exact hLe.rf _) | (obtain ⟨v, h1, h2⟩ := Option.map_eq_some_iff.mp hsx; cases h2; exact hLe.rf _) | (obtain ⟨v, h1, h2⟩ := Option.bind_eq_some_iff.mp hsx; have := jmpO_h h2; subst this; exact hLe.rf _) | cases hsx)
theorem sp_mono {k pc pc' len : Nat} {i : Instr} {L L' : lcT} {st st' : List Value} {h h' : hpT} (hsp : spO k pc i len L st h = some (pc', L', st', h')) : hLe h h' := by
  unfold spO at hsp
  split at hsp
  · split at hsp
    · cases hsp; exact hLe.rf _
    · cases hsp
  · split at hsp
    · cases hsp; exact ⟨Nat.le_refl _, Nat.le_refl _⟩
    · cases hsp
  · cases hsp
theorem sp_eqs {k pc pc' len : Nat} {i : Instr} {L L' : lcT} {st st' : List Value} {h h' : hpT} (hsp : spO k pc i len L st h = some (pc', L', st', h')) : L' = L ∧ hC h' = hC h ∧ hM h' = hM h := by
  unfold spO at hsp
  split at hsp
  · split at hsp
    · cases hsp; exact ⟨rfl, rfl, rfl⟩
    · cases hsp
  · split at hsp
    · cases hsp; exact ⟨rfl, rfl, rfl⟩
    · cases hsp
  · cases hsp
theorem ml_lt {o i j : Nat} (h : ml o i = some j) : j < 207 ∨ j = 1000 ∨ j = 1001 := by
  have hm : ∀ e ∈ mlL, e.2 < 207 ∨ e.2 = 1000 ∨ e.2 = 1001 := by decide +kernel
  unfold ml at h
  split at h
  · exact hm _ (lookup_mem h)
  · cases h
theorem clO_j {k len : Nat} {i : Instr} {st : List Value} {h : hpT} {j : Nat} {As rest : List Value} (e : clO k i len st h = some (j, As, rest)) : j < 207 := by
  unfold clO at e
  split at e
  · obtain ⟨j', h2, h3⟩ := Option.bind_eq_some_iff.mp e
    have := ml_lt h2
    split at h3
    · cases h3; omega
    · cases h3
  · obtain ⟨j', h2, h3⟩ := Option.bind_eq_some_iff.mp e
    have := ml_lt h2
    split at h3
    · split at h3
      · split at h3
        · cases h3; omega
        · cases h3
      · cases h3
    · cases h3
  · obtain ⟨j', h2, h3⟩ := Option.bind_eq_some_iff.mp e
    have := ml_lt h2
    split at h3
    · split at h3
      · cases h3; omega
      · cases h3
    · cases h3
  · cases e
theorem ev_mono {g : gcT} {P : pmT} (hP : ∀ j As h h' r, P j As h = some (h', r) → hLe h h') : ∀ n k pc L st h h' r, ev g P n k pc L st h = some (h', r) → hLe h h' := by
  intro n
  induction n with
  | zero => intro k pc L st h h' r e; simp [ev] at e
  | succ n ih =>
    intro k pc L st h h' r e
    rw [ev] at e
    split at e
    · rename_i i len hd
      split at e
      · cases e; exact hLe.rf _
      · split at e
        · rename_i j As rest hcl
          split at e
          · split at e
            · rename_i h1 r1 hc
              have h2 := ih _ _ _ _ _ _ _ e
              refine hLe.tr ?_ h2
              split at hc
              · exact hP _ _ _ _ _ hc
              · exact ih _ _ _ _ _ _ _ hc
            · cases e
          · cases e
        · split at e
          · rename_i hs
            exact (sp_mono hs).tr (ih _ _ _ _ _ _ _ e)
          · split at e
            · rename_i hs
              exact (sx_mono hs).tr (ih _ _ _ _ _ _ _ e)
            · cases e
    · cases e
/-- what is owed of a method with a contract of its own: at every call of it -/
def PrimOK (l : Launch) (D : va_G) (dA : Nat → ClassId) (base : Nat) (g : gcT) (P : pmT) : Prop := ∀ (j : Nat) (As : List Value) (h h1 : hpT) (r : Option Value), (j = 205 ∨ j = 206) → P j As h = some (h1, r) →
  ∀ (p : Program) (e : Env) (R : Room) (s : State) (m : MethodId) (args : Array Value) (below : List Frame) (meth : Method) (c : Code) (H : Heap) (locs : List Loc) (cells slots k pc : Nat) (ls : Array Slot) (L : lcT) (st rest : List Value) (i : Instr) (len : Nat),
    Cx D dA base g k p s m args meth c → decode (mB k) pc = .ok (i, len) → LR L ls (mX k) → Wd D dA base h H → va_S (Ab base) s.heap H locs → clO k i len st h = some (j, As, rest) → (rest.map fun v => v.category).sum ≤ 8 → mF j + 1 ≤ R.frames ∧ 8 + (mX j + 11) + mW j ≤ R.locals → cells + (hC h1 - hC h) ≤ R.cells ∧ slots + (hM h1 - hM h) ≤ R.slots →
    ∃ a, va_Run p l e R s m args below meth c H locs cells slots (hC h1 - hC h) (hM h1 - hM h) (F0 m pc ls st) rest (Qk D dA base h1 r a) (Ab base) ∧ len = 3
theorem rtO_len {k len : Nat} {i : Instr} {st : List Value} {r : Option Value} (h : rtO k i len st = some r) : len = 1 := by
  unfold rtO at h
  split at h <;> first | rfl | cases h
/-- the end of a method that has come to its return -/
theorem rt_end {p : Program} {l : Launch} {e : Env} {R : Room} {s : State} {m : MethodId} {args : Array Value} {below : List Frame} {meth : Method} {c : Code} {H : Heap} {locs : List Loc} {D : va_G} {dA : Nat → ClassId} {base : Nat} {k pc : Nat} {ls : Array Slot} {st : List Value} {h1 : hpT} {i : Instr} {r : Option Value} {cells slots : Nat}
    (hx : p.tables.exec = Jvm.exec) (hb : c.code = mB k) (hret : meth.sig.returnType = mR k) (hlk : meth.locks = false) (hd : decode (mB k) pc = .ok (i, 1)) (hrt : rtO k i 1 st = some r) (hW : Wd D dA base h1 H) (xS : va_S (Ab base) s.heap H locs) :
    W p l e R s m args below meth c H locs cells slots (MQ below (Qk D dA base h1 r) args s cells slots (Ab base)) (F0 m pc ls st) := by
  have hq : ∀ t : State, t.heap = H → s.WarmedH t.vm → Qk D dA base h1 r args s (.returned r) t := fun t ht _ => ⟨rfl, by rw [ht]; exact hW, xS.F ht⟩
  unfold rtO at hrt
  split at hrt
  · split at hrt
    · rename_i hm
      cases hrt
      exact W.iret hx hb (by rw [hret, hm]) hq xS.2.2 hd hlk
    · split at hrt
      · rename_i hm
        cases hrt
        exact W.zret hx hb (by rw [hret, hm.1]) (by rcases hm.2 with rfl | rfl <;> rfl) hq xS.2.2 hd hlk
      · cases hrt
  · split at hrt
    · rename_i n hm
      obtain ⟨q, q1, q2⟩ := Option.map_eq_some_iff.mp hrt
      cases q2
      have := rfO_some q1
      subst this
      exact W.aret hx hb (by rw [hret, hm]) (Or.inl ⟨_, rfl⟩) (va_rf_or q) hq xS.2.2 hd hlk
    · rename_i n hm
      obtain ⟨q, q1, q2⟩ := Option.map_eq_some_iff.mp hrt
      cases q2
      have := rfO_some q1
      subst this
      exact W.aret hx hb (by rw [hret, hm]) (Or.inr ⟨_, rfl⟩) (va_rf_or q) hq xS.2.2 hd hlk
    · cases hrt
  · split at hrt
    · rename_i hm
      cases hrt
      exact W.vret hx hb (by rw [hret, hm]) hq xS.2.2 hd hlk
    · cases hrt
  · cases hrt
theorem lc0_LR {j : Nat} {As : List Value} (ha : As.all (fun v => v.category == 1) = true) (hl : As.length ≤ mX j) (mm : MethodId) : ∃ ls : Array Slot, entryFrame mm As.toArray (mX j) = F0 mm 0 ls [] ∧ LR (lc0 j As) ls (mX j) := by
  have hcat : ∀ v ∈ As, v.category = 1 := fun v hv => by simpa using List.all_eq_true.mp ha v hv
  have hmem : ∀ (q : Nat) (z : Slot), ((As.map Slot.val ++ List.replicate (mX j - As.length) Slot.unset).toArray)[q]? = some z → (∃ v ∈ As, z = .val v) ∨ z = .unset := by
    intro q z hz
    rw [List.getElem?_toArray] at hz
    rcases List.mem_append.mp (List.mem_of_getElem? hz) with h | h
    · obtain ⟨v, h1, h2⟩ := List.mem_map.mp h
      exact Or.inl ⟨v, h1, h2.symm⟩
    · exact Or.inr (List.mem_replicate.mp h).2
  refine ⟨_, entry_eq mm As hcat (mX j), by simp; omega, by simp [lc0]; omega, ⟨fun q v hq h2 => ?_, fun q hq => ?_⟩, fun q v hq => ?_⟩
  · rcases hmem q _ hq with ⟨w, h1, h3⟩ | h3
    · cases h3
      have h4 := hcat v h1
      omega
    · cases h3
  · rcases hmem q _ hq with ⟨w, h1, h3⟩ | h3 <;> cases h3
  · unfold lc0 at hq
    have hlt : q < As.length := by
      rcases Nat.lt_or_ge q As.length with h | h
      · exact h
      · rw [List.getElem?_append_right (by simpa using h)] at hq
        have := (List.mem_replicate.mp (List.mem_of_getElem? hq)).2
        cases this
    rw [List.getElem?_append_left (by simpa using hlt), List.getElem?_map] at hq
    obtain ⟨w, h1, h2⟩ := Option.map_eq_some_iff.mp hq
    cases h2
    refine ⟨?_, hcat v (List.mem_of_getElem? h1)⟩
    rw [List.getElem?_toArray, List.getElem?_append_left (by simpa using hlt), List.getElem?_map, h1]
    rfl
