/-! small objects: Answer, Request, Message, Part -/
def wIs (h : hpT) (a : Nat) (l : List (Nat × Int32)) : hpT := l.foldl (fun h p => hpI h p.1 a p.2) h
theorem Ch.wIs {a : Nat} (l : List (Nat × Int32)) : ∀ {h : hpT}, hWF h → a < hS h → Ch (fun x => x = a) 0 0 h (wIs h a l) := by
  induction l with
  | nil => exact fun w _ => Ch.rf w _
  | cons p l ih =>
    intro h w ha
    have c1 := Ch.wI (f := p.1) w p.2 ha
    exact (c1.tr (ih c1.2.2.1 (Nat.lt_of_lt_of_le ha c1.1.1))).mono (fun x _ k => k.elim id id) (Nat.le_refl _) (Nat.le_refl _)
theorem wIs_S {a : Nat} (l : List (Nat × Int32)) : ∀ {h : hpT}, hS (wIs h a l) = hS h := by
  induction l with
  | nil => exact rfl
  | cons p l ih => intro h; exact ih (h := hpI h p.1 a p.2)
theorem wIs_R {a : Nat} (l : List (Nat × Int32)) : ∀ {h : hpT}, hR (wIs h a l) = hR h := by
  induction l with
  | nil => exact rfl
  | cons p l ih => intro h; exact ih (h := hpI h p.1 a p.2)
theorem wIs_K {a : Nat} (l : List (Nat × Int32)) : ∀ {h : hpT}, hK (wIs h a l) = hK h := by
  induction l with
  | nil => exact rfl
  | cons p l ih => intro h; exact ih (h := hpI h p.1 a p.2)
theorem wIs_app {h : hpT} {a : Nat} (l l' : List (Nat × Int32)) : wIs (wIs h a l) a l' = wIs h a (l ++ l') := by
  unfold wIs
  rw [List.foldl_append]
def lk (l : List (Nat × Int32)) (f : Nat) (d : Int32) : Int32 := l.foldl (fun o p => if p.1 = f then p.2 else o) d
theorem rI_wIs {a f : Nat} (l : List (Nat × Int32)) : ∀ {h : hpT} (b : Nat), hI (wIs h a l) f b = if b = a then lk l f (hI h f a) else hI h f b := by
  induction l with
  | nil =>
    intro h b
    show hI h f b = if b = a then hI h f a else hI h f b
    split
    · rename_i e; rw [e]
    · rfl
  | cons p l ih =>
    intro h b
    have := ih (h := hpI h p.1 a p.2) b
    show hI (wIs (hpI h p.1 a p.2) a l) f b = _
    rw [this]
    by_cases e : b = a
    · rw [if_pos e, if_pos e]
      show lk l f (hI (hpI h p.1 a p.2) f a) = lk l f (if p.1 = f then p.2 else hI h f a)
      rw [rI_I]
      by_cases e' : p.1 = f
      · rw [if_pos e', if_pos ⟨e'.symm, rfl⟩]
      · rw [if_neg e', if_neg (fun q => e' q.1.symm)]
    · rw [if_neg e, if_neg e, rI_I, if_neg (fun q => e q.2)]
theorem rI_wIs' {h : hpT} {a f : Nat} {v d : Int32} (l : List (Nat × Int32)) (hd : hI h f a = d) (e : lk l f d = v) : hI (wIs h a l) f a = v := by
  rw [rI_wIs, if_pos rfl, hd]; exact e
/-- what is made is new -/
theorem Ch.new {A : Nat → Prop} {c m c' : Nat} {h h' : hpT} (w : hWF h) (x : Ch (fun y => y = hS h) c m (hpO h c') h') : Ch (fun _ => False) (1 + c) (nf c' + m) h h' := ((Ch.mO w c').tr x).mono (fun a ha k => by rcases k with k | k <;> omega) (Nat.le_refl _) (Nat.le_refl _)
abbrev ptT := Int32 × Int32 × Int32 × Int32 × Int32 × Int32 × Int32 × Int32
/-- kind, client, number, key, status, value, version, acked -/
def ptv (h : hpT) (a : Nat) : ptT := (hI h 384 a, hI h 388 a, hI h 389 a, hI h 390 a, hI h 391 a, hI h 392 a, hI h 393 a, hI h 394 a)
def kU (k : Int32) : Int32 := if k = 2 then 2 else 1
def kM (k : Int32) : Int32 := if k = 2 ∨ k = 3 then 1 else 0
def kT (k : Int32) : Int32 := if k = 4 ∨ k = 1 then 1 else 0
def ptK (h : hpT) (a : Nat) : Prop := hK h a = 7 ∧ hI h 385 a = kU (hI h 384 a) ∧ hI h 386 a = kM (hI h 384 a) ∧ hI h 387 a = kT (hI h 384 a)
def newP (h h' : hpT) (v : ptT) : Prop := Ch (fun _ => False) 1 (nf 6) h h' ∧ ptK h' (hS h) ∧ ptv h' (hS h) = v ∧ hR h' 395 (hS h) = none ∧ hS h' = hS h + 1
section OBJ
variable {g : gcT} {P : pmT} {h : hpT}
theorem m_0 {a : Nat} {x y z : Int32} (k : hK h a = 2) : EvV g P 0 [va_rf (some a), .int x, .int y, .int z] h (fun h' => h' = wIs h a [(64, x), (65, y), (66, z)]) := e_0 (s_0_0 (kk := s_0_4 (kk := s_0_19 ⟨rfl, rfl⟩)))
theorem m_32 {a : Nat} {x1 x2 x3 x4 x5 x6 : Int32} (k : hK h a = 8) : EvV g P 32 [va_rf (some a), .int x1, .int x2, .int x3, .int x4, .int x5, .int x6] h (fun h' => h' = wIs h a [(448, x1), (449, x2), (450, x3), (451, x4), (452, x5), (453, x6)]) := e_32 (s_32_0 (kk := s_32_4 (kk := s_32_19 (k3 := k) (kk := s_32_37 ⟨rfl, rfl⟩))))
theorem m_24 {a : Nat} {r1 r3 r4 : Option Nat} {x : Int32} (k : hK h a = 6) : EvV g P 24 [va_rf (some a), va_rf r1, .int x, va_rf r3, va_rf r4] h (fun h' => h' = hpR (hpR (hpI (hpR h 320 a r1) 321 a x) 322 a r3) 323 a r4) := e_24 (s_24_0 (kk := s_24_4 (kk := s_24_19 (k3 := k) (hq := ⟨rfl, rfl⟩))))
def ptI (k : Int32) : List (Nat × Int32) := [(388, -1), (389, -1), (390, -1), (384, k), (385, kU k), (386, kM k), (387, kT k)]
theorem m_25 {a : Nat} {x : Int32} (k : hK h a = 7) : EvV g P 25 [va_rf (some a), .int x] h (fun h' => h' = wIs h a (ptI x)) := by
  refine e_25 (s_25_0 (kk := s_25_4 (kk := ?_)))
  have t3 : ∀ (h1 : hpT) (y : Int32), y = kT x → (y = 0 ∨ y = 1) → hK h1 a = 7 → hpI h1 387 a y = wIs h a (ptI x) → Ev g P 25 73 [some (va_rf (some a)), some (.int x)] [.int y, va_rf (some a)] h1 (fun h' r => r = none ∧ h' = wIs h a (ptI x)) := fun h1 y e1 e2 e3 e4 => s_25_73 (k3 := e3) (b4 := e2) (hq := ⟨rfl, e4⟩)
  have t2 : ∀ (h1 : hpT) (y : Int32), y = kM x → (y = 0 ∨ y = 1) → hK h1 a = 7 → hpI (hpI h1 386 a y) 387 a (kT x) = wIs h a (ptI x) → Ev g P 25 54 [some (va_rf (some a)), some (.int x)] [.int y, va_rf (some a)] h1 (fun h' r => r = none ∧ h' = wIs h a (ptI x)) := by
    intro h1 y e1 e2 e3 e4
    refine s_25_54 (k3 := e3) (b4 := e2) (kt := fun z => s_25_68 (t3 _ 1 (by rw [kT, if_pos (Or.inl z)]) (Or.inr rfl) e3 (by rw [← e4, kT, if_pos (Or.inl z)]))) (kf := fun z => s_25_63 (kt := fun z' => s_25_72 (t3 _ 0 (by rw [kT, if_neg (by rintro (q | q) <;> contradiction)]) (Or.inl rfl) e3 (by rw [← e4, kT, if_neg (by rintro (q | q) <;> contradiction)]))) (kf := fun z' => s_25_68 (t3 _ 1 (by rw [kT, if_pos (Or.inr z')]) (Or.inr rfl) e3 (by rw [← e4, kT, if_pos (Or.inr z')]))))
  have t1 : ∀ (h1 : hpT) (y : Int32), y = kU x → hK h1 a = 7 → hpI (hpI (hpI h1 385 a y) 386 a (kM x)) 387 a (kT x) = wIs h a (ptI x) → Ev g P 25 35 [some (va_rf (some a)), some (.int x)] [.int y, va_rf (some a)] h1 (fun h' r => r = none ∧ h' = wIs h a (ptI x)) := by
    intro h1 y e1 e3 e4
    refine s_25_35 (k3 := e3) (kt := fun z => s_25_49 (t2 _ 1 (by rw [kM, if_pos (Or.inl z)]) (Or.inr rfl) e3 (by rw [← e4]; congr 2; rw [kM, if_pos (Or.inl z)]))) (kf := fun z => s_25_44 (kt := fun z' => s_25_53 (t2 _ 0 (by rw [kM, if_neg (by rintro (q | q) <;> contradiction)]) (Or.inl rfl) e3 (by rw [← e4]; congr 2; rw [kM, if_neg (by rintro (q | q) <;> contradiction)]))) (kf := fun z' => s_25_49 (t2 _ 1 (by rw [kM, if_pos (Or.inr z')]) (Or.inr rfl) e3 (by rw [← e4]; congr 2; rw [kM, if_pos (Or.inr z')]))))
  refine s_25_19 (k3 := k) (kt := fun z => s_25_34 (t1 _ 1 (by rw [kU, if_neg z]) k ?_)) (kf := fun z => s_25_30 (t1 _ 2 (by rw [kU, if_pos z]) k ?_))
  · show _ = wIs h a [(388, -1), (389, -1), (390, -1), (384, x), (385, kU x), (386, kM x), (387, kT x)]
    rw [show kU x = 1 from by rw [kU, if_neg z]]
    rfl
  · show _ = wIs h a [(388, -1), (389, -1), (390, -1), (384, x), (385, kU x), (386, kM x), (387, kT x)]
    rw [show kU x = 2 from by rw [kU, if_pos z]]
    rfl
theorem newR0 (w : hWF h) (f : Nat) : hI (hpO h 6) f (hS h) = 0 := ((w (hS h) (Nat.le_refl _)).2.1 f).1
theorem newP_of (w : hWF h) {k v1 v2 v3 v4 v5 v6 v7 : Int32} (l : List (Nat × Int32)) (hk : lk (ptI k ++ l) 384 0 = k) (h5 : lk (ptI k ++ l) 385 0 = kU k) (h6 : lk (ptI k ++ l) 386 0 = kM k) (h7 : lk (ptI k ++ l) 387 0 = kT k) (q1 : lk (ptI k ++ l) 388 0 = v1) (q2 : lk (ptI k ++ l) 389 0 = v2) (q3 : lk (ptI k ++ l) 390 0 = v3) (q4 : lk (ptI k ++ l) 391 0 = v4) (q5 : lk (ptI k ++ l) 392 0 = v5) (q6 : lk (ptI k ++ l) 393 0 = v6) (q7 : lk (ptI k ++ l) 394 0 = v7) : newP h (wIs (wIs (hpO h 6) (hS h) (ptI k)) (hS h) l) (k, v1, v2, v3, v4, v5, v6, v7) := by
  rw [wIs_app]
  have hw := w.O 6
  have c := Ch.wIs (a := hS h) (ptI k ++ l) hw (Nat.lt_succ_self _)
  have hk' := rI_wIs' (h := hpO h 6) (a := hS h) _ (newR0 w 384) hk
  refine ⟨Ch.new (A := fun _ => False) w c, ⟨?_, ?_, ?_, ?_⟩, ?_, ?_, wIs_S _⟩
  · rw [wIs_K]; exact hK_O_new h 6
  · rw [hk']; exact rI_wIs' _ (newR0 w 385) h5
  · rw [hk']; exact rI_wIs' _ (newR0 w 386) h6
  · rw [hk']; exact rI_wIs' _ (newR0 w 387) h7
  · unfold ptv
    rw [hk', rI_wIs' _ (newR0 w 388) q1, rI_wIs' _ (newR0 w 389) q2, rI_wIs' _ (newR0 w 390) q3, rI_wIs' _ (newR0 w 391) q4, rI_wIs' _ (newR0 w 392) q5, rI_wIs' _ (newR0 w 393) q6, rI_wIs' _ (newR0 w 394) q7]
  · rw [wIs_R]; exact ((w (hS h) (Nat.le_refl _)).2.1 395).2
theorem kk7 {l : List (Nat × Int32)} {k : Int32} : hK (wIs (hpO h 6) (hS h) (ptI k)) (hS h) = 7 := by rw [wIs_K]; exact hK_O_new h 6
theorem m_digest (w : hWF h) {x : Int32} : EvA g P 26 [.int x] h (fun h' r => r = some (hS h) ∧ newP h h' (0, -1, -1, -1, 0, 0, x, 0)) := by
  refine e_26 (s_26_0 (s_26_3 (hc := m_25 (hK_O_new h 6)) (kk := fun h' e => ?_)))
  subst e
  exact s_26_8 (k3 := kk7 (l := [])) (hq := ⟨_, rfl, rfl, newP_of w [(393, x)] rfl rfl rfl rfl rfl rfl rfl rfl rfl rfl rfl⟩)
theorem m_note (w : hWF h) {x y : Int32} : EvA g P 27 [.int x, .int y] h (fun h' r => r = some (hS h) ∧ newP h h' (1, x, -1, -1, 0, 0, 0, y)) := by
  refine e_27 (s_27_0 (s_27_3 (hc := m_25 (hK_O_new h 6)) (kk := fun h' e => ?_)))
  subst e
  exact s_27_8 (k3 := kk7 (l := [])) (hq := ⟨_, rfl, rfl, newP_of w [(388, x), (394, y)] rfl rfl rfl rfl rfl rfl rfl rfl rfl rfl rfl⟩)
theorem m_object (w : hWF h) {x y z : Int32} : EvA g P 28 [.int x, .int y, .int z] h (fun h' r => r = some (hS h) ∧ newP h h' (2, -1, -1, x, 0, y, z, 0)) := by
  refine e_28 (s_28_0 (s_28_3 (hc := m_25 (hK_O_new h 6)) (kk := fun h' e => ?_)))
  subst e
  exact s_28_8 (k3 := kk7 (l := [])) (kk := s_28_24 ⟨_, rfl, rfl, newP_of w [(390, x), (392, y), (393, z)] rfl rfl rfl rfl rfl rfl rfl rfl rfl rfl rfl⟩)
theorem m_tomb (w : hWF h) {x y : Int32} : EvA g P 29 [.int x, .int y] h (fun h' r => r = some (hS h) ∧ newP h h' (3, -1, -1, x, 0, 0, y, 0)) := by
  refine e_29 (s_29_0 (s_29_3 (hc := m_25 (hK_O_new h 6)) (kk := fun h' e => ?_)))
  subst e
  exact s_29_8 (k3 := kk7 (l := [])) (hq := ⟨_, rfl, rfl, newP_of w [(390, x), (393, y)] rfl rfl rfl rfl rfl rfl rfl rfl rfl rfl rfl⟩)
theorem m_result (w : hWF h) {q : Nat} {y : Int32} (hq : hK h q = 8) : EvA g P 30 [va_rf (some q), .int y] h (fun h' r => r = some (hS h) ∧ newP h h' (4, hI h 448 q, hI h 449 q, hI h 451 q, 0, 0, 0, y)) := by
  refine e_30 (s_30_0 (s_30_3 (hc := m_25 (hK_O_new h 6)) (kk := fun h' e => ?_)))
  have hql : q < hS h := w.lt (by omega)
  have ek : hK h' q = 8 := by rw [e, wIs_K, hK_O hql]; exact hq
  have ei : ∀ f, hI h' f q = hI h f q := fun f => by rw [e, rI_wIs, if_neg (Nat.ne_of_lt hql)]; rfl
  have k7 : hK h' (hS h) = 7 := by rw [e]; exact kk7 (l := [])
  refine s_30_8 (k3 := ek) (k6 := k7) (kk := s_30_33 (k3 := k7) (hq := ⟨_, rfl, rfl, ?_⟩))
  rw [ei, ei, ei, e]
  exact newP_of w [(388, hI h 448 q), (389, hI h 449 q), (390, hI h 451 q), (394, y)] rfl rfl rfl rfl rfl rfl rfl rfl rfl rfl rfl
theorem m_tell {a : Nat} {x y z : Int32} (k : hK h a = 7) : EvV g P 31 [va_rf (some a), .int x, .int y, .int z] h (fun h' => h' = wIs h a [(391, x), (392, y), (393, z)]) := e_31 (s_31_0 (kk := s_31_15 ⟨rfl, rfl⟩))
end OBJ
