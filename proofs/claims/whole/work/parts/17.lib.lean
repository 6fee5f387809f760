/-! what a run leaves alone, and what it makes -/
def Fr (A : Nat → Prop) (h h' : hpT) : Prop := hS h ≤ hS h' ∧ ∀ a, ¬ A a → a < hS h → (hK h' a = hK h a ∧ (∀ f, hI h' f a = hI h f a ∧ hR h' f a = hR h f a) ∧ hN h' a = hN h a ∧ ∀ i, hA h' a i = hA h a i ∧ hB h' a i = hB h a i)
/-- kinds stay, and what is made is told by its number -/
def Ch (A : Nat → Prop) (c m : Nat) (h h' : hpT) : Prop := Fr A h h' ∧ (∀ a, a < hS h → hK h' a = hK h a ∧ hN h' a = hN h a) ∧ hWF h' ∧ hC h' ≤ hC h + c ∧ hM h' ≤ hM h + m
theorem Fr.rf (A : Nat → Prop) (h : hpT) : Fr A h h := ⟨Nat.le_refl _, fun _ _ _ => ⟨rfl, fun _ => ⟨rfl, rfl⟩, rfl, fun _ => ⟨rfl, rfl⟩⟩⟩
theorem Fr.tr {A B : Nat → Prop} {h h1 h2 : hpT} (x : Fr A h h1) (y : Fr B h1 h2) : Fr (fun a => A a ∨ B a) h h2 := by
  refine ⟨Nat.le_trans x.1 y.1, fun a na hl => ?_⟩
  obtain ⟨x1, x2, x3, x4⟩ := x.2 a (fun z => na (Or.inl z)) hl
  obtain ⟨y1, y2, y3, y4⟩ := y.2 a (fun z => na (Or.inr z)) (Nat.lt_of_lt_of_le hl x.1)
  exact ⟨y1.trans x1, fun f => ⟨(y2 f).1.trans (x2 f).1, (y2 f).2.trans (x2 f).2⟩, y3.trans x3, fun i => ⟨(y4 i).1.trans (x4 i).1, (y4 i).2.trans (x4 i).2⟩⟩
theorem Fr.mono {A B : Nat → Prop} {h h' : hpT} (x : Fr A h h') (ab : ∀ a, a < hS h → A a → B a) : Fr B h h' := ⟨x.1, fun a nb hl => x.2 a (fun z => nb (ab a hl z)) hl⟩
theorem Ch.rf {h : hpT} (w : hWF h) (A : Nat → Prop) : Ch A 0 0 h h := ⟨Fr.rf A h, fun _ _ => ⟨rfl, rfl⟩, w, Nat.le_refl _, Nat.le_refl _⟩
theorem Ch.tr {A B : Nat → Prop} {c c' m m' : Nat} {h h1 h2 : hpT} (x : Ch A c m h h1) (y : Ch B c' m' h1 h2) : Ch (fun a => A a ∨ B a) (c + c') (m + m') h h2 := by
  obtain ⟨x1, x2, x3, x4, x5⟩ := x
  obtain ⟨y1, y2, y3, y4, y5⟩ := y
  refine ⟨x1.tr y1, fun a ha => ?_, y3, by omega, by omega⟩
  have e := y2 a (Nat.lt_of_lt_of_le ha x1.1)
  exact ⟨e.1.trans (x2 a ha).1, e.2.trans (x2 a ha).2⟩
theorem Ch.mono {A B : Nat → Prop} {c c' m m' : Nat} {h h' : hpT} (x : Ch A c m h h') (ab : ∀ a, a < hS h → A a → B a) (hc : c ≤ c') (hm : m ≤ m') : Ch B c' m' h h' := ⟨x.1.mono ab, x.2.1, x.2.2.1, Nat.le_trans x.2.2.2.1 (by omega), Nat.le_trans x.2.2.2.2 (by omega)⟩
theorem Ch.wI {h : hpT} (w : hWF h) {f a : Nat} (v : Int32) (ha : a < hS h) : Ch (fun x => x = a) 0 0 h (hpI h f a v) := ⟨⟨Nat.le_refl _, fun x nx _ => ⟨rfl, fun f' => ⟨by rw [rI_I, if_neg (fun z => nx z.2)], rfl⟩, rfl, fun _ => ⟨rfl, rfl⟩⟩⟩, fun _ _ => ⟨rfl, rfl⟩, w.I ha, Nat.le_refl _, Nat.le_refl _⟩
theorem Ch.wR {h : hpT} (w : hWF h) {f a : Nat} (v : Option Nat) (ha : a < hS h) : Ch (fun x => x = a) 0 0 h (hpR h f a v) := ⟨⟨Nat.le_refl _, fun x nx _ => ⟨rfl, fun f' => ⟨rfl, by rw [rR_R, if_neg (fun z => nx z.2)]⟩, rfl, fun _ => ⟨rfl, rfl⟩⟩⟩, fun _ _ => ⟨rfl, rfl⟩, w.R ha, Nat.le_refl _, Nat.le_refl _⟩
theorem Ch.wA {h : hpT} (w : hWF h) {a i : Nat} (v : Int32) (ha : a < hS h) : Ch (fun x => x = a) 0 0 h (hpA h a i v) := ⟨⟨Nat.le_refl _, fun x nx _ => ⟨rfl, fun f' => ⟨rfl, rfl⟩, rfl, fun j => ⟨by rw [rA_A, if_neg (fun z => nx z.1)], rfl⟩⟩⟩, fun _ _ => ⟨rfl, rfl⟩, w.A ha, Nat.le_refl _, Nat.le_refl _⟩
theorem Ch.wB {h : hpT} (w : hWF h) {a i : Nat} (v : Option Nat) (ha : a < hS h) : Ch (fun x => x = a) 0 0 h (hpB h a i v) := ⟨⟨Nat.le_refl _, fun x nx _ => ⟨rfl, fun f' => ⟨rfl, rfl⟩, rfl, fun j => ⟨rfl, by rw [rB_B, if_neg (fun z => nx z.1)]⟩⟩⟩, fun _ _ => ⟨rfl, rfl⟩, w.B ha, Nat.le_refl _, Nat.le_refl _⟩
theorem hK_O {h : hpT} {c a : Nat} (ha : a < hS h) : hK (hpO h c) a = hK h a := by
  show u1 (hK h) (hS h) (c + 1) a = _
  simp [u1, Nat.ne_of_lt ha]
theorem hK_W {h : hpT} {t n a : Nat} (ha : a < hS h) : hK (hpW h t n) a = hK h a ∧ hN (hpW h t n) a = hN h a := by
  constructor
  · show u1 (hK h) (hS h) (20 + t) a = _
    simp [u1, Nat.ne_of_lt ha]
  · show u1 (hN h) (hS h) n a = _
    simp [u1, Nat.ne_of_lt ha]
theorem Ch.mO {h : hpT} (w : hWF h) (c : Nat) : Ch (fun _ => False) 1 (nf c) h (hpO h c) := ⟨⟨Nat.le_succ _, fun x _ hl => ⟨hK_O hl, fun _ => ⟨rfl, rfl⟩, rfl, fun _ => ⟨rfl, rfl⟩⟩⟩, fun a ha => ⟨hK_O ha, rfl⟩, w.O c, Nat.le_refl _, Nat.le_refl _⟩
theorem Ch.mW {h : hpT} (w : hWF h) (t n : Nat) : Ch (fun _ => False) 1 n h (hpW h t n) := ⟨⟨Nat.le_succ _, fun x _ hl => ⟨(hK_W hl).1, fun _ => ⟨rfl, rfl⟩, (hK_W hl).2, fun _ => ⟨rfl, rfl⟩⟩⟩, fun a ha => hK_W ha, w.W t n, Nat.le_refl _, Nat.le_refl _⟩
/-- an address of a kind is one that is made -/
theorem hWF.lt {h : hpT} (w : hWF h) {a : Nat} (ha : hK h a ≠ 0) : a < hS h := by
  rcases Nat.lt_or_ge a (hS h) with q | q
  · exact q
  · exact absurd (w a q).1 ha
theorem hK_O_new (h : hpT) (c : Nat) : hK (hpO h c) (hS h) = c + 1 := by show u1 (hK h) (hS h) (c + 1) (hS h) = _; simp [u1]
theorem hK_W_new (h : hpT) (t n : Nat) : hK (hpW h t n) (hS h) = 20 + t ∧ hN (hpW h t n) (hS h) = n := by
  constructor
  · show u1 (hK h) (hS h) (20 + t) (hS h) = _; simp [u1]
  · show u1 (hN h) (hS h) n (hS h) = _; simp [u1]
/-! numbers -/
theorem vin_nI {n N : Nat} (h : n < N) (hN : N < 2 ^ 31) : vinD (nI n) N := vp_in_nI h hN
/-! Math, Objects.checkIndex, Integer.bitCount -/
section LIB
variable {g : gcT} {P : pmT} {h : hpT}
theorem m_184 (x y : Int32) : EvI g P 184 [.int x, .int y] h (fun h' r => h' = h ∧ r = if x < y then y else x) :=
  e_184 (s_184_0 (fun z => s_184_9 (s_184_10 ⟨_, rfl, rfl, (if_pos z).symm⟩)) (fun z => s_184_5 (s_184_10 ⟨_, rfl, rfl, (if_neg z).symm⟩)))
theorem m_185 (x y : Int32) : EvI g P 185 [.int x, .int y] h (fun h' r => h' = h ∧ r = if y < x then y else x) :=
  e_185 (s_185_0 (fun z => s_185_9 (s_185_10 ⟨_, rfl, rfl, (if_pos z).symm⟩)) (fun z => s_185_5 (s_185_10 ⟨_, rfl, rfl, (if_neg z).symm⟩)))
theorem m_203 {x y : Int32} {r : Option Nat} (h0 : ¬ x < 0) (h1 : x < y) : EvI g P 203 [.int x, .int y, va_rf r] h (fun h' z => h' = h ∧ z = x) :=
  e_203 (s_203_0 (fun z => absurd z h0) (fun _ => s_203_4 (fun _ => s_203_16 ⟨_, rfl, rfl, rfl⟩) (fun z => absurd h1 z)))
theorem m_201 {x y : Int32} (h0 : ¬ x < 0) (h1 : x < y) : EvI g P 201 [.int x, .int y] h (fun h' z => h' = h ∧ z = x) :=
  e_201 (s_201_0 (m_203 h0 h1) (fun h' z ⟨e1, e2⟩ => by subst e1; subst e2; exact s_201_6 ⟨_, rfl, rfl, rfl⟩))
/-- ArrayList: its elements -/
def aLs (g : gcT) (h : hpT) (l : Nat) (xs : List Nat) : Prop := hK h l = 1 ∧ hI h 2 l = nI xs.length ∧ ∃ e, hR h 1 l = some e ∧ ((e = g.2.2.2 ∧ xs = []) ∨ (hK h e = 28 ∧ 1 ≤ hN h e ∧ xs.length ≤ hN h e ∧ hN h e ≤ 1000000 ∧ ∀ i (hi : i < xs.length), hB h e i = some xs[i]))
theorem m_191 {l : Nat} (k1 : hK h l = 1) : EvI g P 191 [va_rf (some l)] h (fun h' r => h' = h ∧ r = hI h 2 l) := e_191 (s_191_0 (hq := ⟨_, rfl, rfl, rfl⟩))
theorem m_size {l : Nat} {xs : List Nat} (hl : aLs g h l xs) : EvI g P 191 [va_rf (some l)] h (fun h' r => h' = h ∧ r = nI xs.length) := by
  have := m_191 (g := g) (P := P) hl.1
  rw [hl.2.1] at this
  exact this
theorem m_192 {l e : Nat} {x : Int32} (k1 : hK h l = 1) (k2 : hR h 1 l = some e) (k3 : hK h e = 28) (k4 : vinD x (hN h e)) : EvA g P 192 [va_rf (some l), .int x] h (fun h' r => h' = h ∧ r = hB h e x.toNatClampNeg) := e_192 (s_192_0 (hq := ⟨_, rfl, rfl, rfl⟩))
theorem m_get {l i : Nat} {xs : List Nat} (hl : aLs g h l xs) (hi : i < xs.length) : EvA g P 193 [va_rf (some l), .int (nI i)] h (fun h' r => h' = h ∧ r = some xs[i]) := by
  obtain ⟨k1, k2, e, k3, k4⟩ := hl
  rcases k4 with ⟨-, rfl⟩ | ⟨k4, k41, k5, k6, k7⟩
  · exact absurd hi (Nat.not_lt_zero _)
  · have hlt : xs.length < 2 ^ 31 := by omega
    have hv : vinD (nI i) (hN h e) := vin_nI (by omega) (by omega)
    refine e_193 (s_193_0 (hc := m_201 (nI_pos (by omega)) (by rw [k2]; exact nI_lt hi hlt)) (kk := fun h' z ⟨e1, e2⟩ => ?_))
    subst e1; subst e2
    refine s_193_8 (hc := m_192 k1 k3 k4 hv) (kk := fun h'' z ⟨e1, e2⟩ => ?_)
    subst e1; subst e2
    refine s_193_14 ⟨_, rfl, rfl, ?_⟩
    rw [nI_clamp (by omega), k7 i hi]
end LIB
