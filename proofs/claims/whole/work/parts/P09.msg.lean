-- message, which may throw
def thrH (h : hpT) : hpT := ((hS h + 1, hC h + 1, hM h + 6), h.2)
noncomputable def msg5 (g : gcT) (As : List Value) (h : hpT) : Option (hpT × Option Value) := match As with
  | [.ref x, .int p0, .int p1, .ref out] => (match hR h 771 x with
    | some b => @ite _ (hK h x = 13 ∧ hK h b = 24 ∧ hN h b = 40 ∧ hK h out = 29 ∧ 1 ≤ hN h out) (Classical.propDecidable _) (@ite _ (msgO h b p0 = none ∨ p1 < 0 ∨ 5 < p1) (Classical.propDecidable _) (some (thrH h, some (.int 1))) (@dite _ (∃ w : hpT × Int32, (∃ n, ev g (fun _ _ _ => none) n 68 0 (lc0 68 [.ref x, .int p0, .int p1]) [] h = some (w.1, some (.int w.2))) ∧ hK w.1 out = 29 ∧ 1 ≤ hN w.1 out) (Classical.propDecidable _) (fun hx => some (hpA (Classical.choose hx).1 out 0 (Classical.choose hx).2, some (.int 0))) (fun _ => none))) none
    | none => none)
  | _ => none
section
variable {g : gcT} {P : pmT} {h h1 h2 : hpT} {y ad o w : Nat → Nat} {R R2 : arT} {ss : List Nat} {Ls : List lsT} {Ds : List (Nat × Nat)} {cs : csT} {F : fcT} {μ : mT} {κ K out c0 m0 x b : Nat} {x1 x2 v : Int32}
theorem msg5_t (k1 : hR h 771 x = some b) (k2 : hK h x = 13 ∧ hK h b = 24 ∧ hN h b = 40 ∧ hK h out = 29 ∧ 1 ≤ hN h out) (q : msgO h b x1 = none ∨ x2 < 0 ∨ 5 < x2) : msg5 g [.ref x, .int x1, .int x2, .ref out] h = some (thrH h, some (.int 1)) := by
  unfold msg5
  dsimp only
  rw [k1]
  dsimp only
  rw [if_pos k2, if_pos q]
theorem msg5_r (k1 : hR h 771 x = some b) (k2 : hK h x = 13 ∧ hK h b = 24 ∧ hN h b = 40 ∧ hK h out = 29 ∧ 1 ≤ hN h out) (q : ¬ (msgO h b x1 = none ∨ x2 < 0 ∨ 5 < x2)) (e : EvI g (fun _ _ _ => none) 68 [va_rf (some x), .int x1, .int x2] h (fun h' r => h' = h ∧ r = v)) : msg5 g [.ref x, .int x1, .int x2, .ref out] h = some (hpA h out 0 v, some (.int 0)) := by
  obtain ⟨n, h', r, e1, z, e2, e3, e4⟩ := e
  subst e2; subst e3; subst e4
  have hx : ∃ w : hpT × Int32, (∃ n, ev g (fun _ _ _ => none) n 68 0 (lc0 68 [.ref x, .int x1, .int x2]) [] h' = some (w.1, some (.int w.2))) ∧ hK w.1 out = 29 ∧ 1 ≤ hN w.1 out := ⟨(h', z), ⟨n, e1⟩, k2.2.2.2⟩
  have hc := Classical.choose_spec hx
  unfold msg5
  dsimp only
  rw [k1]
  dsimp only
  rw [if_pos k2, if_neg q, dif_pos hx]
  generalize Classical.choose hx = w at hc
  obtain ⟨⟨n', hc⟩, -⟩ := hc
  have a := ev_le (Nat.le_max_left n n') e1
  have c := ev_le (Nat.le_max_right n n') hc
  have a : ev g (fun _ _ _ => none) (max n n') 68 0 (lc0 68 [.ref x, .int x1, .int x2]) [] h' = some (h', some (.int z)) := a
  rw [a] at c
  obtain ⟨w1, w2⟩ := w
  have c : some (h', some (Value.int z)) = some (w1, some (Value.int w2)) := c
  injection c with c
  injection c with c1 c2
  injection c2 with c2
  injection c2 with c2
  subst c1; subst c2
  rfl
/-- the class's message, where it doesn't throw -/
theorem m_68 (kS : RS g h o w y R R2 ss Ls Ds (fSt F)) (kF : fcR h o y ss cs F) (e : msqA F x1 x2 = some v) : EvI g P 68 [va_rf (some (y 9)), .int x1, .int x2] h (fun h' r => h' = h ∧ r = v) := by
  have k9 := kS.2.1.2.2.1
  have fa := kF.1
  refine e_68 (s_68_0 (k3 := k9) (hc := m_messageAt k9 fa.2.1 fa.2.2.1 fa.2.2.2.1) (kk := fun h0 r ⟨q1, q2⟩ => ?_))
  subst q1; subst q2
  unfold msqA at e
  split at e
  · cases e
  · next j m em =>
    split at e
    · cases e
    · next nk =>
      have e := Option.some.inj e
      obtain ⟨m1, m2⟩ := msg_i em
      rcases kF.msg x1 with ⟨-, z⟩ | ⟨p, q, x, p1, p2, p3, p4, p5⟩
      · exfalso
        unfold msgA at em
        split at em
        · cases em
        · next wi =>
          obtain ⟨j', j1, j2⟩ := inF_1 (x := x1) (n := 40) (by decide) wi
          have := z j' j1 j2
          rw [j2, nI_clamp (by omega), this] at em
          cases em
      · have ej : j = p ∧ m = x := by
          unfold msgA at em
          split at em
          · cases em
          · rw [p2, nI_clamp (by omega), p4] at em
            injection em with em
            injection em with e1 e2
            exact ⟨e1.symm, e2.symm⟩
        obtain ⟨rfl, rfl⟩ := ej
        rw [p3]
        obtain ⟨k6, om, ⟨c6, n1, n2⟩, ⟨rq, r1, r2, rv⟩, ia, ⟨rt, tl⟩, an⟩ := p5
        refine s_68_5 (kt := fun _ => ?_) (kf := fun z => by cases z)
        have fin : ∀ u, u = v → ∃ z, some (Value.int u) = some (.int z) ∧ h0 = h0 ∧ z = v := fun u hu => ⟨u, rfl, rfl, hu⟩
        refine s_68_20 (k1000 := fun z => ?_) (k1001 := fun z => ?_) (k1002 := fun z => ?_) (k1003 := fun z => ?_) (k1004 := fun z => ?_) (k1005 := fun z => ?_) (kd := fun z => ?_)
        · unfold msV at e
          rw [if_pos z] at e
          rcases an with ⟨a1, a2⟩ | ⟨a, va, a1, a2, a3, a4⟩
          · rw [if_pos a2] at e
            exact s_68_60 (k3 := k6) (kt := fun q => absurd a1 q) (kf := fun _ => s_68_67 (s_68_72 (fin _ e)))
          · rw [if_neg (by rw [a2]; exact fun q => by cases q)] at e
            exact s_68_60 (k3 := k6) (kt := fun _ => s_68_71 (s_68_72 (fin _ e))) (kf := fun q => by rw [a1] at q; cases q)
        · unfold msV at e
          rw [if_neg (by rw [z]; decide), if_pos z] at e
          exact s_68_73 (k3 := k6) (e5 := r1) (k6 := rv.1) (hq := fin _ (by rw [rv.2.1]; exact e))
        · unfold msV at e
          rw [if_neg (by rw [z]; decide), if_neg (by rw [z]; decide), if_pos z] at e
          exact s_68_81 (k3 := k6) (e5 := r1) (k6 := rv.1) (hq := fin _ (by rw [rv.2.2.1]; exact e))
        · unfold msV at e
          rw [if_neg (by rw [z]; decide), if_neg (by rw [z]; decide), if_neg (by rw [z]; decide), if_pos z] at e
          cases et : m.2.2.2.1 with
          | none =>
            rw [et] at e rt
            exact s_68_89 (k3 := k6) (kt := fun q => absurd rt q) (kf := fun _ => s_68_96 (s_68_107 (fin _ e)))
          | some t =>
            rw [et] at e rt
            have ht := tl t et
            have rt : hR h0 322 q = some (ss.getD t 0) := rt
            have sr := (kS.2.2.2.1.2.2 t ht).1
            exact s_68_89 (k3 := k6) (kt := fun _ => s_68_100 (k3 := k6) (e5 := rt) (k6 := sr.1) (kk := s_68_107 (fin _ (by rw [sr.2.2]; exact e)))) (kf := fun q => by rw [rt] at q; cases q)
        · unfold msV at e
          rw [if_neg (by rw [z]; decide), if_neg (by rw [z]; decide), if_neg (by rw [z]; decide), if_neg (by rw [z]; decide), if_pos z] at e
          rcases an with ⟨a1, a2⟩ | ⟨a, va, a1, a2, a3, a4⟩
          · rw [a2] at e
            exact s_68_108 (k3 := k6) (kt := fun q => absurd a1 q) (kf := fun _ => s_68_115 (s_68_126 (fin _ e)))
          · rw [a2] at e
            exact s_68_108 (k3 := k6) (kt := fun _ => s_68_119 (k3 := k6) (e5 := a1) (k6 := a3.1) (kk := s_68_126 (fin _ (by rw [a3.2.1]; exact e)))) (kf := fun q => by rw [a1] at q; cases q)
        · unfold msV at e
          rw [if_neg (by rw [z]; decide), if_neg (by rw [z]; decide), if_neg (by rw [z]; decide), if_neg (by rw [z]; decide), if_neg (by rw [z]; decide)] at e
          exact s_68_127 (k3 := k6) (e5 := r1) (k6 := rv.1) (hq := fin _ (by rw [rv.2.2.2.1]; exact e))
        · exfalso
          apply nk
          rcases z with z | z
          · exact Or.inl (Int32.lt_iff_toInt_lt.mpr z)
          · exact Or.inr (Int32.lt_iff_toInt_lt.mpr z)
end
