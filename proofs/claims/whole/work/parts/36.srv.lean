/-! a new LOG; a SERVER's memory goes; small things of the Storage -/
section SRV
variable {g : gcT} {P : pmT} {N U : Nat} {h : hpT}
/-- a LOG just made -/
def newL (g : gcT) (h h' : hpT) (L : Nat) : Prop := (∀ N U, lgF g h' N U L []) ∧ Ch (fun a => a = L) 1 (nf 0) h h' ∧ hS h' = hS h + 1 ∧ (hR h' 256 L = some (hS h) ∧ hR h' 1 (hS h) = some g.2.2.2) ∧ (∀ f, ¬ f = 256 → hR h' f L = hR h f L) ∧ ∀ f, hI h' f L = hI h f L
theorem m_17 (w : hWF h) {L : Nat} (k : hK h L = 5) : EvV g P 17 [va_rf (some L)] h (fun h' => newL g h h' L) := by
  have hL : L < hS h := w.lt (by omega)
  have kl : hK (hpO h 0) (hS h) = 1 := hK_O_new h 0
  refine e_17 (s_17_0 (kk := s_17_4 (s_17_8 (hc := m_188 kl) (kk := fun h' e => ?_))))
  have wO := w.O 0
  have c0 := Ch.mO w 0
  have c1 := Ch.wI (f := 0) (a := hS h) wO 0 (Nat.lt_succ_self _)
  have c2 := Ch.wR (f := 1) (a := hS h) c1.2.2.1 (some g.2.2.2) (Nat.lt_succ_self _)
  have hne : ¬ L = hS h := by omega
  rw [← e] at c2
  have c3 := Ch.wR (f := 256) (a := L) c2.2.2.1 (some (hS h)) (by rw [e]; exact Nat.lt_succ_of_lt hL)
  have kL : hK h' L = 5 := by rw [e]; show hK (hpO h 0) L = 5; rw [hK_O hL]; exact k
  have k1 : hK h' (hS h) = 1 := by rw [e]; exact kl
  have i2 : hI h' 2 (hS h) = 0 := by
    rw [e]
    show hI (hpI (hpO h 0) 0 (hS h) 0) 2 (hS h) = 0
    rw [rI_I, if_neg (fun q => absurd q.1 (by decide))]
    exact ((w (hS h) (Nat.le_refl _)).2.1 2).1
  have r1 : hR h' 1 (hS h) = some g.2.2.2 := by rw [e, rR_R, if_pos ⟨rfl, rfl⟩]
  have rL : ∀ f, hR h' f L = hR h f L := fun f => by rw [e, rR_R, if_neg (fun q => hne q.2)]; rfl
  have iL : ∀ f, hI h' f L = hI h f L := fun f => by
    rw [e]
    show hI (hpI (hpO h 0) 0 (hS h) 0) f L = _
    rw [rI_I, if_neg (fun q => hne q.2)]; rfl
  have sS : hS h' = hS h + 1 := by rw [e]; rfl
  refine s_17_12 (k3 := kL) (hq := ⟨rfl, fun N U => ⟨kL, hS h, ?_, ⟨⟨k1, ?_, g.2.2.2, ?_, Or.inl ⟨rfl, rfl⟩⟩, Or.inr (Or.inr rfl), fun x hx => absurd hx List.not_mem_nil⟩, fun z hz => absurd hz List.not_mem_nil⟩, ?_, sS, ⟨?_, ?_⟩, fun f nf' => ?_, iL⟩)
  · rw [rR_R, if_pos ⟨rfl, rfl⟩]
  · exact i2.trans nI_0.symm
  · rw [rR_R, if_neg (fun q => hne q.2.symm)]; exact r1
  · exact ((c0.tr (c1.tr c2)).tr c3).mono (fun a ha q => by rcases q with (q | q | q) | q <;> first | exact q.elim | omega) (Nat.le_refl _) (Nat.le_refl _)
  · rw [rR_R, if_pos ⟨rfl, rfl⟩]
  · rw [rR_R, if_neg (fun q => hne q.2.symm)]; exact r1
  · rw [rR_R, if_neg (fun q => nf' q.1)]; exact rL f
theorem lgF.nilfr {h' : hpT} {A : Nat → Prop} {c m L : Nat} (w : hWF h) (k : lgF g h N U L []) (x : Ch A c m h h') (nL : ¬ A L) (nl : ∀ l, hR h 256 L = some l → ¬ A l ∧ ∀ e, hR h 1 l = some e → hK h e = 28 → ¬ A e) : lgF g h' N U L [] := lgF.fr w k x nL nl (fun z hz => absurd hz List.not_mem_nil) (fun z hz => absurd hz List.not_mem_nil)
theorem m_empty (w : hWF h) (hg : gOK g h) {s : Nat} (k : hK h s = 10) : EvV g P 39 [va_rf (some s)] h (fun h' => (∀ N U, lgF g h' N U (hS h) []) ∧ hR h' 257 (hS h) = none ∧ hR h' 258 (hS h) = none ∧ hI h' 259 (hS h) = 0 ∧ (hR h' 256 (hS h) = some (hS h + 1) ∧ hR h' 1 (hS h + 1) = some g.2.2.2) ∧ Ch (fun a => a = s) 2 (nf 4 + nf 0) h h' ∧ hS h' = hS h + 2 ∧ hR h' 584 s = some (hS h) ∧ (∀ f, ¬ f = 584 → hR h' f s = hR h f s) ∧ ∀ f, hI h' f s = lk [(578, 0), (580, 0), (581, 0), (582, -1)] f (hI h f s)) := by
  have hs : s < hS h := w.lt (by omega)
  refine e_39 (s_39_0 (kk := s_39_15 (k3 := k) (kk := ?_)))
  show Ev g P 39 24 _ [va_rf (some (hS h)), _] (hpO (wIs h s [(578, 0), (580, 0), (581, 0), (582, -1)]) 4) _
  have c0 := Ch.wIs (a := s) [(578, 0), (580, 0), (581, 0), (582, -1)] w hs
  have i0 : ∀ f, hI (wIs h s [(578, 0), (580, 0), (581, 0), (582, -1)]) f s = lk [(578, 0), (580, 0), (581, 0), (582, -1)] f (hI h f s) := fun f => by rw [rI_wIs, if_pos rfl]
  have r0 : hR (wIs h s [(578, 0), (580, 0), (581, 0), (582, -1)]) = hR h := wIs_R _
  have k0 : hK (wIs h s [(578, 0), (580, 0), (581, 0), (582, -1)]) = hK h := wIs_K _
  have s0 : hS (wIs h s [(578, 0), (580, 0), (581, 0), (582, -1)]) = hS h := wIs_S _
  generalize wIs h s [(578, 0), (580, 0), (581, 0), (582, -1)] = H0 at c0 i0 r0 k0 s0 ⊢
  have w0 := c0.2.2.1
  have c1 := Ch.mO w0 4
  have w1 := c1.2.2.1
  have kL : hK (hpO H0 4) (hS h) = 5 := by rw [← s0]; exact hK_O_new H0 4
  refine s_39_24 (hc := m_17 w1 kL) (kk := fun h2 ⟨n1, n2, n3, ⟨n4, n4'⟩, n5, n6⟩ => ?_)
  have hs1 : s < hS (hpO H0 4) := by show s < hS H0 + 1; omega
  have e1 : hS (hpO H0 4) = hS h + 1 := by show hS H0 + 1 = _; omega
  have hne : ¬ s = hS h := by omega
  have sm2 : Sm (hpO H0 4) h2 s := n2.sm hne hs1
  have ks2 : hK h2 s = 10 := by rw [sm2.1, hK_O (by omega), k0]; exact k
  have hs2 : s < hS h2 := by omega
  have c3 := Ch.wR (f := 584) (a := s) n2.2.2.1 (some (hS h)) hs2
  have nz : ∀ f, hR (hpO H0 4) f (hS h) = none ∧ hI (hpO H0 4) f (hS h) = 0 := fun f => by
    have := (w0 (hS h) (by omega)).2.1 f
    exact ⟨this.2, this.1⟩
  refine s_39_28 (k3 := ks2) (hq := ⟨rfl, fun N U => ?_, ?_, ?_, ?_, ?_, ?_, ?_, ?_, fun f nf' => ?_, fun f => ?_⟩)
  · refine lgF.nilfr n2.2.2.1 (n1 N U) c3 (fun q => hne q.symm) (fun l hl => ?_)
    rw [n4] at hl
    cases hl
    have kl := (n1 N U)
    obtain ⟨-, l, z2, ⟨⟨z3, -⟩, -⟩, -⟩ := kl
    rw [n4] at z2
    cases z2
    refine ⟨fun q => ?_, fun e _ he q => ?_⟩
    · rw [q] at z3; omega
    · rw [q] at he; omega
  · rw [rR_R, if_neg (fun q => absurd q.1 (by decide)), n5 257 (by decide)]; exact (nz 257).1
  · rw [rR_R, if_neg (fun q => absurd q.1 (by decide)), n5 258 (by decide)]; exact (nz 258).1
  · show hI h2 259 (hS h) = 0
    rw [n6]; exact (nz 259).2
  · refine ⟨?_, ?_⟩
    · rw [rR_R, if_neg (fun q => absurd q.1 (by decide)), n4, e1]
    · rw [rR_R, if_neg (fun q => absurd q.1 (by decide)), ← e1]; exact n4'
  · refine ((c0.tr c1).tr (n2.tr c3)).mono (fun a ha q => ?_) (by omega) (by omega)
    rcases q with (q | q) | (q | q)
    · exact q
    · exact q.elim
    · omega
    · exact q
  · show hS h2 = _
    omega
  · rw [rR_R, if_pos ⟨rfl, rfl⟩]
  · rw [rR_R, if_neg (fun q => nf' q.1), (sm2.2.1 f).2]
    show hR H0 f s = _
    rw [r0]
  · show hI h2 f s = _
    rw [(sm2.2.1 f).1]
    exact i0 f
theorem m_isUp {a : Nat} {x : Int32} (k : hK h a = 11) : EvI g P 42 [va_rf (some a), .int x] h (fun h' r => h' = h ∧ r = if shrB (hI h 646 a) x = 1 then 1 else 0) := e_42 (s_42_0 (kt := fun z => s_42_16 (s_42_17 (b1 := Or.inl rfl) (hq := ⟨_, rfl, rfl, (if_neg z).symm⟩))) (kf := fun z => s_42_12 (s_42_17 (b1 := Or.inr rfl) (hq := ⟨_, rfl, rfl, (if_pos z).symm⟩))))
theorem m_allUp {a s : Nat} (k : hK h a = 11) (ks : hK h s = 9) : EvI g P 43 [va_rf (some a), va_rf (some s)] h (fun h' r => h' = h ∧ r = if (hI h 523 s) &&& ((hI h 646 a) ^^^ (-1)) = 0 then 1 else 0) := e_43 (s_43_0 (kt := fun z => s_43_18 (s_43_19 (b1 := Or.inl rfl) (hq := ⟨_, rfl, rfl, (if_neg z).symm⟩))) (kf := fun z => s_43_14 (s_43_19 (b1 := Or.inr rfl) (hq := ⟨_, rfl, rfl, (if_pos z).symm⟩))))
def ringF (n nm sv st : Int32) : Int32 := (7 * nm + 3 * sv + st) - (7 * nm + 3 * sv + st) / n * n
theorem m_ringAt {a s e : Nat} {x st : Int32} (k : hK h a = 11) (ks : hK h s = 10) (e1 : hR h 643 a = some e) (e2 : hK h e = 27) (hn : ¬ nI (hN h e) = 0) : EvI g P 44 [va_rf (some a), .int x, va_rf (some s), .int st] h (fun h' r => h' = h ∧ r = ringF (nI (hN h e)) x (hI h 576 s) st) := e_44 (s_44_0 (k3 := ks) (k6 := k) (e8 := e1) (k10 := e2) (n12 := hn) (hq := ⟨_, rfl, rfl, rfl⟩))
def bitS (sv : Int32) : Int32 := 1 <<< (sv &&& 31)
def upS (up sv st : Int32) : Int32 := if st = 0 then (up &&& (bitS sv ^^^ (-1))) ||| bitS sv else up &&& (bitS sv ^^^ (-1))
theorem m_setState (w : hWF h) {a s : Nat} {x : Int32} (k : hK h a = 11) (ks : hK h s = 10) : EvV g P 41 [va_rf (some a), va_rf (some s), .int x] h (fun h' => h' = hpI (hpI h 577 s x) 646 a (hI h' 646 a) ∧ hI h' 646 a = upS (hI h 646 a) (hI h 576 s) x ∧ Ch (fun y => y = a ∨ y = s) 0 0 h h' ∧ hR h' = hR h ∧ (∀ f, ¬ f = 577 → hI h' f s = hI h f s) ∧ hI h' 577 s = x ∧ (∀ f, ¬ f = 646 → hI h' f a = hI h f a)) := by
  have hne : ¬ s = a := kinds_ne (h := h) (by omega)
  have la : a < hS h := w.lt (by omega)
  have ls : s < hS h := w.lt (by omega)
  have c1 := Ch.wI (f := 577) (a := s) w x ls
  have c2 := fun y => Ch.wI (f := 646) (a := a) c1.2.2.1 y la
  have fin : ∀ y, y = upS (hI h 646 a) (hI h 576 s) x → (fun h' => h' = hpI (hpI h 577 s x) 646 a (hI h' 646 a) ∧ hI h' 646 a = upS (hI h 646 a) (hI h 576 s) x ∧ Ch (fun y => y = a ∨ y = s) 0 0 h h' ∧ hR h' = hR h ∧ (∀ f, ¬ f = 577 → hI h' f s = hI h f s) ∧ hI h' 577 s = x ∧ (∀ f, ¬ f = 646 → hI h' f a = hI h f a)) (hpI (hpI h 577 s x) 646 a y) := by
    intro y ey
    have e1 : hI (hpI (hpI h 577 s x) 646 a y) 646 a = y := by rw [rI_I, if_pos ⟨rfl, rfl⟩]
    refine ⟨by rw [e1], by rw [e1]; exact ey, (c1.tr (c2 y)).mono (fun z _ q => q.elim Or.inr Or.inl) (Nat.le_refl _) (Nat.le_refl _), rfl, fun f nf' => ?_, ?_, fun f nf' => ?_⟩
    · rw [rI_I, if_neg (fun q => hne q.2), rI_I, if_neg (fun q => nf' q.1)]
    · rw [rI_I, if_neg (fun q => hne q.2), rI_I, if_pos ⟨rfl, rfl⟩]
    · rw [rI_I, if_neg (fun q => nf' q.1), rI_I, if_neg (fun q => hne q.2.symm)]
  have f2 : ∀ (y y' : Int32), hpI (hpI (hpI h 577 s x) 646 a y) 646 a y' = hpI (hpI h 577 s x) 646 a y' := by
    intro y y'
    have : ∀ (H : hpT) (f b : Nat) (v v' : Int32), hpI (hpI H f b v) f b v' = hpI H f b v' := by
      intro H f b v v'
      have e : (hI (hpI (hpI H f b v) f b v')) = (hI (hpI H f b v')) := by
        funext f' b'
        rw [rI_I, rI_I, rI_I]
        by_cases q : f' = f ∧ b' = b
        · rw [if_pos q, if_pos q]
        · rw [if_neg q, if_neg q, if_neg q]
      show (H.1, H.2.1, hI (hpI (hpI H f b v) f b v'), H.2.2.2) = (H.1, H.2.1, hI (hpI H f b v'), H.2.2.2)
      rw [e]
    exact this _ _ _ _ _
  refine e_41 (s_41_0 (k3 := ks) (k6 := k) (kt := fun z => s_41_41 ⟨rfl, ?_⟩) (kf := fun z => s_41_26 (k3 := k) (k6 := ks) (kk := s_41_41 ⟨rfl, ?_⟩)))
  · exact fin _ (by unfold upS; rw [if_neg z]; rfl)
  · rw [f2]
    refine fin _ ?_
    unfold upS
    rw [if_pos z, rI_I, if_pos ⟨rfl, rfl⟩, rI_I, if_neg (fun q => absurd q.1 (by decide)), rI_I, if_neg (fun q => absurd q.1 (by decide))]
    rfl
end SRV
