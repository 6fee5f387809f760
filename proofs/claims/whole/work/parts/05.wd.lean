/-! the heap in small, and the machine's: what each of our addresses holds -/
def arE (dA : Nat → ClassId) (h : hpT) (a t : Nat) : va_E := if t ≤ 1 then .inl (dA t, hN h a, .inl (hA h a)) else if t = 9 then .inl (dA t, hN h a, .inr (.inl (fun j => (hA h a j).toInt64))) else .inl (dA t, hN h a, .inr (.inr (.inr (.inr (hB h a)))))
def obE (h : hpT) (a c : Nat) : va_E := .inr (c, (List.range (nf c)).map (fun k => fv h c k a))
def PF (dA : Nat → ClassId) (h : hpT) (a : Nat) : va_E := if hK h a < 20 then obE h a (hK h a - 1) else arE dA h a (hK h a - 20)
def Wd (D : va_G) (dA : Nat → ClassId) (base : Nat) (h : hpT) (H : Heap) : Prop := hWF h ∧ hS h = H.size ∧ ∀ a, hK h a ≠ 0 → base ≤ a ∧ va_at D vwCl (a, PF dA h a) H
theorem Wd.ob {D : va_G} {dA : Nat → ClassId} {base : Nat} {h : hpT} {H : Heap} (hW : Wd D dA base h H) {a c : Nat} (hk : hK h a = c + 1) (hc : c < 14) : va_at D vwCl (a, obE h a c) H := by
  have := (hW.2.2 a (by omega)).2
  unfold PF at this
  rw [if_pos (by omega), hk] at this
  exact this
theorem Wd.ar {D : va_G} {dA : Nat → ClassId} {base : Nat} {h : hpT} {H : Heap} (hW : Wd D dA base h H) {a t : Nat} (hk : hK h a = 20 + t) : va_at D vwCl (a, arE dA h a t) H := by
  have := (hW.2.2 a (by omega)).2
  unfold PF at this
  rw [if_neg (by omega), hk, Nat.add_sub_cancel_left] at this
  exact this
theorem Wd.le {D : va_G} {dA : Nat → ClassId} {base : Nat} {h : hpT} {H : Heap} (hW : Wd D dA base h H) {a : Nat} (hk : hK h a ≠ 0) : base ≤ a := (hW.2.2 a hk).1
theorem Wd.lt {D : va_G} {dA : Nat → ClassId} {base : Nat} {h : hpT} {H : Heap} (hW : Wd D dA base h H) {a : Nat} (hk : hK h a ≠ 0) : a < H.size := (hW.2.2 a hk).2.lt
theorem va_one {D : va_G} {cl : List vw_C} {a : Nat} {e : va_E} {H : Heap} (h : va_at D cl (a, e) H) : va_P D cl [(a, e)] H := by
  intro k q hq
  match k, hq with
  | 0, hq => cases hq; exact h
  | k + 1, hq => simp at hq
/-- one address has changed -/
theorem Wd.upd {D : va_G} {dA : Nat → ClassId} {base : Nat} {h h' : hpT} {H H1 : Heap} {a : Nat} (hW : Wd D dA base h H) (z : H1.size = H.size) (oq : ∀ q : Nat, q ≠ a → H1[q]? = H[q]?) (eK : hK h' = hK h) (eS : hS h' = hS h) (wf : hWF h') (ne : ∀ b, b ≠ a → PF dA h' b = PF dA h b) (at' : va_at D vwCl (a, PF dA h' a) H1) : Wd D dA base h' H1 := by
  refine ⟨wf, by rw [eS, z]; exact hW.2.1, fun b hb => ?_⟩
  rw [eK] at hb
  obtain ⟨h1, h2⟩ := hW.2.2 b hb
  refine ⟨h1, ?_⟩
  by_cases e : b = a
  · subst e; exact at'
  · rw [ne b e]; exact h2.kept (oq b e)
/-- an address is new -/
theorem Wd.add {D : va_G} {dA : Nat → ClassId} {base : Nat} {h h' : hpT} {H H1 : Heap} {x : Nat} (hW : Wd D dA base h H) (hx : x ≠ 0) (hb : base ≤ H.size) (z : H1.size = H.size + 1) (oq : ∀ q : Nat, q < H.size → H1[q]? = H[q]?) (eK : hK h' = u1 (hK h) (hS h) x) (eS : hS h' = hS h + 1) (wf : hWF h') (ne : ∀ b, b ≠ hS h → PF dA h' b = PF dA h b) (at' : va_at D vwCl (H.size, PF dA h' (hS h)) H1) : Wd D dA base h' H1 := by
  refine ⟨wf, by rw [eS, z, hW.2.1], fun b hb2 => ?_⟩
  by_cases e : b = hS h
  · subst e
    rw [hW.2.1] at at' ⊢
    exact ⟨hb, at'⟩
  · have hb3 : hK h b ≠ 0 := by rw [eK] at hb2; simpa [u1, e] using hb2
    obtain ⟨h1, h2⟩ := hW.2.2 b hb3
    refine ⟨h1, ?_⟩
    rw [ne b e]
    exact h2.kept (oq b h2.lt)
theorem hWF.I {h : hpT} (w : hWF h) {f a : Nat} {v : Int32} (ha : a < hS h) : hWF (hpI h f a v) := by
  intro b hb
  have hb' : hS h ≤ b := hb
  have hne : b ≠ a := by omega
  obtain ⟨h1, h2, h3⟩ := w b hb'
  refine ⟨h1, fun x => ⟨?_, (h2 x).2⟩, h3⟩
  show u2 (hI h) f a v x b = 0
  simp [u2, hne, (h2 x).1]
theorem hWF.R {h : hpT} (w : hWF h) {f a : Nat} {v : Option Nat} (ha : a < hS h) : hWF (hpR h f a v) := by
  intro b hb
  have hb' : hS h ≤ b := hb
  have hne : b ≠ a := by omega
  obtain ⟨h1, h2, h3⟩ := w b hb'
  refine ⟨h1, fun x => ⟨(h2 x).1, ?_⟩, h3⟩
  show u2 (hR h) f a v x b = none
  simp [u2, hne, (h2 x).2]
theorem hWF.A {h : hpT} (w : hWF h) {i a : Nat} {v : Int32} (ha : a < hS h) : hWF (hpA h a i v) := by
  intro b hb
  have hb' : hS h ≤ b := hb
  have hne : b ≠ a := by omega
  obtain ⟨h1, h2, h3⟩ := w b hb'
  refine ⟨h1, h2, fun x => ⟨?_, (h3 x).2⟩⟩
  show u2 (hA h) a i v b x = 0
  simp [u2, hne, (h3 x).1]
theorem hWF.B {h : hpT} (w : hWF h) {i a : Nat} {v : Option Nat} (ha : a < hS h) : hWF (hpB h a i v) := by
  intro b hb
  have hb' : hS h ≤ b := hb
  have hne : b ≠ a := by omega
  obtain ⟨h1, h2, h3⟩ := w b hb'
  refine ⟨h1, h2, fun x => ⟨(h3 x).1, ?_⟩⟩
  show u2 (hB h) a i v b x = none
  simp [u2, hne, (h3 x).2]
theorem hWF.O {h : hpT} (w : hWF h) (c : Nat) : hWF (hpO h c) := by
  intro b hb
  have hb' : hS h + 1 ≤ b := hb
  obtain ⟨h1, h2, h3⟩ := w b (by omega)
  refine ⟨?_, h2, h3⟩
  show u1 (hK h) (hS h) (c + 1) b = 0
  have hne : b ≠ hS h := by omega
  simp [u1, hne, h1]
theorem hWF.W {h : hpT} (w : hWF h) (t n : Nat) : hWF (hpW h t n) := by
  intro b hb
  have hb' : hS h + 1 ≤ b := hb
  obtain ⟨h1, h2, h3⟩ := w b (by omega)
  refine ⟨?_, h2, h3⟩
  show u1 (hK h) (hS h) (20 + t) b = 0
  have hne : b ≠ hS h := by omega
  simp [u1, hne, h1]
theorem fv_ref (h : hpT) (c k a : Nat) (hf : fk c k = 2) : fv h c k a = va_rf (hR h (64 * c + k) a) := by simp [fv, hf]
theorem fv_int (h : hpT) (c k a : Nat) (hf : fk c k ≠ 2) : fv h c k a = .int (hI h (64 * c + k) a) := by simp [fv, hf]
theorem fv_I {h : hpT} {f a b : Nat} {v : Int32} (hb : b ≠ a) (c k : Nat) : fv (hpI h f a v) c k b = fv h c k b := by
  unfold fv
  have : hI (hpI h f a v) (64 * c + k) b = hI h (64 * c + k) b := by show u2 (hI h) f a v _ b = _; simp [u2, hb]
  rw [this]; rfl
theorem fv_R {h : hpT} {f a b : Nat} {v : Option Nat} (hb : b ≠ a) (c k : Nat) : fv (hpR h f a v) c k b = fv h c k b := by
  unfold fv
  have : hR (hpR h f a v) (64 * c + k) b = hR h (64 * c + k) b := by show u2 (hR h) f a v _ b = _; simp [u2, hb]
  rw [this]; rfl
theorem PF_I {dA : Nat → ClassId} {h : hpT} {f a b : Nat} {v : Int32} (hb : b ≠ a) : PF dA (hpI h f a v) b = PF dA h b := by
  unfold PF obE
  simp only [fv_I hb]
  rfl
theorem PF_R {dA : Nat → ClassId} {h : hpT} {f a b : Nat} {v : Option Nat} (hb : b ≠ a) : PF dA (hpR h f a v) b = PF dA h b := by
  unfold PF obE
  simp only [fv_R hb]
  rfl
theorem PF_A {dA : Nat → ClassId} {h : hpT} {i a b : Nat} {v : Int32} (hb : b ≠ a) : PF dA (hpA h a i v) b = PF dA h b := by
  have e : hA (hpA h a i v) b = hA h b := by funext x; show u2 (hA h) a i v b x = _; simp [u2, hb]
  unfold PF arE
  rw [e]
  rfl
theorem PF_B {dA : Nat → ClassId} {h : hpT} {i a b : Nat} {v : Option Nat} (hb : b ≠ a) : PF dA (hpB h a i v) b = PF dA h b := by
  have e : hB (hpB h a i v) b = hB h b := by funext x; show u2 (hB h) a i v b x = _; simp [u2, hb]
  unfold PF arE
  rw [e]
  rfl
theorem PF_O {dA : Nat → ClassId} {h : hpT} {c b : Nat} (hb : b ≠ hS h) : PF dA (hpO h c) b = PF dA h b := by
  have e : hK (hpO h c) b = hK h b := by show u1 (hK h) (hS h) (c + 1) b = _; simp [u1, hb]
  unfold PF
  rw [e]
  rfl
theorem PF_W {dA : Nat → ClassId} {h : hpT} {t n b : Nat} (hb : b ≠ hS h) : PF dA (hpW h t n) b = PF dA h b := by
  have e : hK (hpW h t n) b = hK h b := by show u1 (hK h) (hS h) (20 + t) b = _; simp [u1, hb]
  have e2 : hN (hpW h t n) b = hN h b := by show u1 (hN h) (hS h) n b = _; simp [u1, hb]
  unfold PF arE
  rw [e, e2]
  rfl
/-- the fields of an object, one of them written -/
theorem ob_set {N : Nat} {f : Nat → Value} {k : Nat} {v : Value} {f' : Nat → Value} (hk : k < N) (h1 : f' k = v) (h2 : ∀ j, j < N → j ≠ k → f' j = f j) : ((List.range N).map f).set k v = (List.range N).map f' := by
  apply List.ext_getElem?
  intro j
  by_cases hj : j < N
  · by_cases e : j = k
    · subst e
      rw [List.getElem?_set_self (by simpa using hj)]
      simp [hj, h1]
    · rw [List.getElem?_set_ne (Ne.symm e)]
      simp [hj, h2 j hj e]
  · rw [List.getElem?_eq_none (by simpa using hj), List.getElem?_eq_none (by simpa using hj)]
theorem ob_get {N : Nat} {f : Nat → Value} {k : Nat} (hk : k < N) : ((List.range N).map f)[k]? = some (f k) := by simp [hk]
/-- locals -/
def LR (L : lcT) (ls : Array Slot) (nL : Nat) : Prop := ls.size = nL ∧ L.length = nL ∧ lv_wf ls ∧ ∀ (i : Nat) (v : Value), L[i]? = some (some v) → ls[i]? = some (.val v) ∧ v.category = 1
def lpr (L : lcT) : List (Nat × Value) := (List.range L.length).filterMap (fun i => (ldO L i).map (fun v => (i, v)))
theorem ldO_iff {L : lcT} {i : Nat} {v : Value} : ldO L i = some v ↔ L[i]? = some (some v) := by
  unfold ldO
  cases L[i]? with
  | none => simp
  | some o => simp
theorem lpr_mem {L : lcT} {q : Nat × Value} : q ∈ lpr L ↔ L[q.1]? = some (some q.2) := by
  unfold lpr
  simp only [List.mem_filterMap, List.mem_range, Option.map_eq_some_iff]
  constructor
  · rintro ⟨i, hi, v, hv, rfl⟩
    exact ldO_iff.mp hv
  · intro hq
    exact ⟨q.1, (List.getElem?_eq_some_iff.mp hq).1, q.2, ldO_iff.mpr hq, rfl⟩
theorem LR.has {L : lcT} {ls : Array Slot} {nL : Nat} (h : LR L ls nL) : lv_has ls nL (lpr L) := ⟨h.1, h.2.2.1, fun q hq => (h.2.2.2 q.1 q.2 (lpr_mem.mp hq)).1⟩
theorem LR.set {L L' : lcT} {ls ls' : Array Slot} {nL i : Nat} {x : Value} (h : LR L ls nL) (hs : stO L i x = some L') (h' : lv_has ls' nL ((i, x) :: (lpr L).filter (fun q => !(q.1 == i) && !(q.1 + 1 == i && q.2.category == 2)))) : LR L' ls' nL := by
  unfold stO at hs
  by_cases hc : x.category = 1 ∧ i < L.length
  · rw [if_pos hc] at hs
    cases hs
    refine ⟨h'.1, by rw [List.length_set]; exact h.2.1, h'.2.1, fun j v hj => ?_⟩
    by_cases e : j = i
    · subst e
      rw [List.getElem?_set_self hc.2] at hj
      cases hj
      exact ⟨h'.2.2 (j, x) List.mem_cons_self, hc.1⟩
    · rw [List.getElem?_set_ne (Ne.symm e)] at hj
      have hcat := (h.2.2.2 j v hj).2
      refine ⟨h'.2.2 (j, v) (List.mem_cons_of_mem _ (List.mem_filter.mpr ⟨lpr_mem.mpr hj, ?_⟩)), hcat⟩
      simp [e, hcat]
  · rw [if_neg hc] at hs; cases hs
theorem LR.lt {L L' : lcT} {ls : Array Slot} {nL i : Nat} {x : Value} (h : LR L ls nL) (hs : stO L i x = some L') : i < nL := by
  unfold stO at hs
  by_cases hc : x.category = 1 ∧ i < L.length
  · rw [← h.2.1]; exact hc.2
  · rw [if_neg hc] at hs; cases hs
