section DOWN
variable {g : gcT} {P : pmT} {o o' w w' : Nat → Nat} {y : Nat → Nat} {R R2 : arT} {h h' : hpT} {B : Nat → Prop} {c m N U L nx nx' k s i : Nat} {tb : Int32} {A : alT} {p p' : lsT} {x x' : srA} {ss : List Nat} {Ls : List lsT} {Ds : List (Nat × Nat)} {S : stA} {q' : Int32 × Nat × Int32 × Int32 × Int32}
/-- the roots of a SERVER -/
def Bi (y : Nat → Nat) (ss : List Nat) (Ls : List lsT) (i : Nat) (z : Nat) : Prop := z = y 0 ∨ z = ss.getD i 0 ∨ z = (Ls.getD i ls0).1 ∨ ∃ q, (Ls.getD i ls0).2.2 = some q ∧ z = q.1
/-- one SERVER changes, and the Storage's numbers -/
theorem RS.srv (kS : RS g h o w y R R2 ss Ls Ds S) (hi : i < y 20) (cg : CG (Bi y ss Ls i) c m h o h' o') (ka : rsA g h' o' y R (upN ((tSv S).set i x')) q') (ki : srvR g h' o' w' (y 20) (y 22) q'.2.1 (ss.getD i 0) i p' x') (hn : tNm S ≤ q'.2.1) (hq : q'.2.1 ≤ 80000) (ew : ∀ z, ¬ w' z = w z → hS h ≤ z ∨ z = (Ls.getD i ls0).1 ∨ ∃ q, (Ls.getD i ls0).2.2 = some q ∧ z = q.1) : RS g h' o' w' y R R2 ss (Ls.set i p') Ds ((tSv S).set i x', q', S.2.2) ∧ CG (Bk y) c m h o h' o' ∧ capO g h' (y 6) = capO g h (y 6) ∧ capO g h' (y 8) = capO g h (y 8) := by
  obtain ⟨k0, k1, k4, kse, kde⟩ := kS.kinds
  obtain ⟨⟨wf, hg, ok⟩, ⟨yo, -, k9, k12⟩, kA, kB, kC, kD⟩ := kS
  obtain ⟨s1, s2, s3, s4, s5, s6⟩ := kse i hi
  have apart : ∀ z, hK h z = 5 → (¬ w z = 3 * i ∧ ¬ w z = 3 * i + 1) → ¬ Bi y ss Ls i z := by
    rintro z hz ⟨n1, n2⟩ (q | q | q | ⟨v, q1, q2⟩)
    · rw [q] at hz; omega
    · rw [q] at hz; omega
    · rw [q] at n1; exact n1 s5
    · rw [q2] at n2; exact n2 (s6 v q1).2.2
  have kind : ∀ z, ¬ hK h z = 11 → ¬ hK h z = 10 → ¬ hK h z = 5 → ¬ Bi y ss Ls i z := by
    rintro z n1 n2 n3 (q | q | q | ⟨v, q1, q2⟩)
    · rw [q] at n1; exact n1 k0
    · rw [q] at n2; exact n2 s1
    · rw [q] at n3; exact n3 s3
    · rw [q2] at n3; exact n3 (s6 v q1).1
  have we : ∀ z, hK h z = 5 → (¬ w z = 3 * i ∧ ¬ w z = 3 * i + 1) → w' z = w z := by
    intro z hz n
    refine Decidable.byContradiction (fun q => ?_)
    rcases ew z q with q | q | ⟨v, q1, q2⟩
    · have := wf.lt (a := z) (by omega); omega
    · exact n.1 (by rw [q]; exact s5)
    · exact n.2 (by rw [q2]; exact (s6 v q1).2.2)
  refine ⟨⟨⟨cg.w, hg.ch cg.1, cg.2.2.1⟩, ⟨yo, hq, by rw [(cg.1.2.1 _ (wf.lt (by omega))).1]; exact k9, by rw [(cg.1.2.1 _ (wf.lt (by omega))).1]; exact k12⟩, ka, ?_, ?_, ?_⟩, cg.mono ok (fun z _ q => ?_) (Nat.le_refl _) (Nat.le_refl _), ?_, ?_⟩
  · refine rsB.upd wf hg kB cg (fun j hj ne => ?_) (kind _ (by omega) (by omega) (by omega)) hn (fun j hj ne => ?_) (fun _ => ki)
    · obtain ⟨t1, t2, t3, t4, t5, t6⟩ := kse j hj
      refine ⟨?_, apart _ t3 (by omega), fun z hz => apart _ (t6 z hz).1 (by have := (t6 z hz).2.2; omega)⟩
      rintro (q | q | q | ⟨v, q1, q2⟩)
      · rw [q] at t1; omega
      · exact ne (kB.ap yo hj hi q)
      · rw [q] at t1; omega
      · rw [q2, (s6 v q1).1] at t1; exact absurd t1 (by decide)
    · obtain ⟨t1, t2, t3, t4, t5, t6⟩ := kse j hj
      exact ⟨we _ t3 (by omega), fun z hz => we _ (t6 z hz).1 (by have := (t6 z hz).2.2; omega)⟩
  · exact rsC.fr wf hg kC cg (fun j hj => apart _ (kde j hj).1 (by have := (kde j hj).2.2; omega)) hn (fun j hj => we _ (kde j hj).1 (by have := (kde j hj).2.2; omega))
  · exact rsD.fr wf hg kD cg (kind _ (by omega) (by omega) (by omega))
  · rcases q with q | q | q | ⟨v, q1, q2⟩
    · rw [q]; exact ⟨kinds_ne (h := h) (by omega), kinds_ne (h := h) (by omega), kinds_ne (h := h) (by omega)⟩
    · rw [q]; exact ⟨kinds_ne (h := h) (by omega), kinds_ne (h := h) (by omega), kinds_ne (h := h) (by omega)⟩
    · rw [q]; exact ⟨kinds_ne (h := h) (by omega), kinds_ne (h := h) (by omega), kinds_ne (h := h) (by omega)⟩
    · have := (s6 v q1).1
      rw [q2]; exact ⟨kinds_ne (h := h) (by omega), kinds_ne (h := h) (by omega), kinds_ne (h := h) (by omega)⟩
  · obtain ⟨⟨a1, a2, -⟩, -, ⟨-, c2, c3⟩, -⟩ := kD
    have := c2.1.1
    exact capO.fr wf c2 cg.1 (cg.sm wf (by rw [c3.1, a2]; exact kind _ (by omega) (by omega) (by omega)) (by omega))
  · obtain ⟨⟨a1, a2, -⟩, -, -, -, ⟨-, ⟨ms, c2⟩, c3⟩, -⟩ := kD
    have := c2.1.1
    exact capO.fr wf c2 cg.1 (cg.sm wf (by rw [c3.1, a2]; exact kind _ (by omega) (by omega) (by omega)) (by omega))
/-- the server's new LOG, as empty() makes it -/
theorem RS.empty (kS : RS g h o w y R R2 ss Ls Ds S) (hi : i < y 20) : EvV g P 39 [va_rf (some (ss.getD i 0))] h (fun h' => RS g h' (oX o h (hS h)) (u1 w (hS h) (3 * i)) y R R2 ss (Ls.set i (hS h, 10, (Ls.getD i ls0).2.2)) Ds ((tSv S).set i (emS ((tSv S).getD i sr0)), S.2) ∧ CG (fun z => z = ss.getD i 0) 2 (nf 4 + nf 0) h o h' (oX o h (hS h)) ∧ fxC g h' y = fxC g h y ∧ hS h ≤ hS h') := by
  obtain ⟨k0, k1, k4, kse, kde⟩ := kS.kinds
  have kS' := kS
  obtain ⟨⟨wf, hg, ok⟩, ⟨yo, hnm, k9, k12⟩, kA, kB, kC, kD⟩ := kS'
  obtain ⟨s1, s2, s3, s4, s5, s6⟩ := kse i hi
  have kBi := kB.2.2 i hi
  refine Ev.imp (m_empty wf hg s1) (fun h' r ⟨er, e1, e2, e3, e4, ⟨e5, e5'⟩, e6, e7, e8, e9, e10⟩ => ⟨er, ?_⟩)
  have okX : oOK (oX o h (hS h)) := fun z => by
    unfold oX
    split
    · exact ok z
    · omega
  have cg : CG (fun z => z = ss.getD i 0) 2 (nf 4 + nf 0) h o h' (oX o h (hS h)) := CG.of e6 (fun z _ hz => ⟨by rw [hz]; omega, Or.inr (by rw [hz, s2]; exact s2)⟩) (fun z hz => if_pos hz) okX (nm9 wf e6 (fun z hz => by rw [hz]; omega))
  have cg' : CG (Bi y ss Ls i) 2 (nf 4 + nf 0) h o h' (oX o h (hS h)) := cg.mono ok (fun z _ q => Or.inr (Or.inl q)) (Nat.le_refl _) (Nat.le_refl _)
  have oN : ∀ z, hS h ≤ z → oX o h (hS h) z = hS h := fun z hz => if_neg (by omega)
  have hg' := hg.ch cg.1
  have nq := newQ (nx := tNm S) (N := y 20) (U := y 22) hg' (e1 _ _) e2 e3 e4 e5 e5' (oN _ (Nat.le_refl _)) (oN _ (Nat.le_succ _))
  have n0 : ¬ y 0 = ss.getD i 0 := kinds_ne (h := h) (by omega)
  have n4 : ¬ y 4 = ss.getD i 0 := kinds_ne (h := h) (by omega)
  have lk0 : ∀ f, ¬ f = 578 → ¬ f = 580 → ¬ f = 581 → ¬ f = 582 → hI h' f (ss.getD i 0) = hI h f (ss.getD i 0) := fun f f1 f2 f3 f4 => by
    rw [e10 f]
    show (if 582 = f then _ else if 581 = f then _ else if 580 = f then _ else if 578 = f then _ else hI h f (ss.getD i 0)) = _
    rw [if_neg (fun q => f4 q.symm), if_neg (fun q => f3 q.symm), if_neg (fun q => f2 q.symm), if_neg (fun q => f1 q.symm)]
  obtain ⟨⟨a1, a2, a3⟩, ⟨b1, b2, b3, b4, b5, b6, b7⟩, ⟨d1, d2⟩, f0, ⟨f1, f2⟩, l⟩ := kBi
  have wN : ∀ z, z < hS h → u1 w (hS h) (3 * i) z = w z := fun z hz => by
    show (if z = hS h then _ else w z) = _
    rw [if_neg (by omega)]
  have lSt : sSt (emS ((tSv S).getD i sr0)) = sSt ((tSv S).getD i sr0) := rfl
  have lsv := kB.1.2.1
  have hup : upN ((tSv S).set i (emS ((tSv S).getD i sr0))) = upN (tSv S) := by
    have : ∀ (sv : List srA) (i : Nat) (x : srA), sSt x = sSt (sv.getD i sr0) → upN (sv.set i x) = upN sv := by
      intro sv
      induction sv with
      | nil => intro i x _; rfl
      | cons a sv ih =>
        intro i x hx
        cases i with
        | zero =>
          have hx : sSt x = sSt a := hx
          show (if sSt x = 0 then 1 else 0) + 2 * upN sv = (if sSt a = 0 then 1 else 0) + 2 * upN sv
          rw [hx]
        | succ i =>
          show (if sSt a = 0 then 1 else 0) + 2 * upN (sv.set i x) = (if sSt a = 0 then 1 else 0) + 2 * upN sv
          rw [ih i x hx]
    exact this _ _ _ lSt
  have ki : srvR g h' (oX o h (hS h)) (u1 w (hS h) (3 * i)) (y 20) (y 22) S.2.1.2.1 (ss.getD i 0) i (hS h, 10, (Ls.getD i ls0).2.2) (emS ((tSv S).getD i sr0)) := by
    refine ⟨⟨by rw [(e6.2.1 _ (wf.lt (by omega))).1]; exact a1, (if_pos (wf.lt (by omega))).trans a2, by rw [lk0 576 (by decide) (by decide) (by decide) (by decide)]; exact a3⟩, ⟨by rw [lk0 577 (by decide) (by decide) (by decide) (by decide)]; exact b1, by rw [e10]; rfl, by rw [lk0 579 (by decide) (by decide) (by decide) (by decide)]; exact b3, by rw [e10]; rfl, by rw [e10]; rfl, by rw [e10]; rfl, by rw [lk0 583 (by decide) (by decide) (by decide) (by decide)]; exact b7⟩, ⟨Or.inl rfl, d2⟩, e8, ⟨nq, if_pos rfl⟩, ?_⟩
    show losR _ _ _ _ _ _ _ _ _ (Ls.getD i ls0).2.2 (sLL ((tSv S).getD i sr0))
    rcases l with ⟨l1, l2, l3⟩ | ⟨L', k', A', l1, l2, l3, l4, l5⟩
    · exact Or.inl ⟨l1, l2, by rw [e9 585 (by decide)]; exact l3⟩
    · have kL' := l4.1.r.2
      refine Or.inr ⟨L', k', A', l1, l2, by rw [e9 585 (by decide)]; exact l3, l4.fr wf hg cg (fun q => ?_) (Nat.le_refl _), by rw [wN L' (wf.lt (by omega))]; exact l5⟩
      rw [q] at kL'
      omega
  have kA' : rsA g h' (oX o h (hS h)) y R (upN ((tSv S).set i (emS ((tSv S).getD i sr0)))) S.2.1 := by
    rw [hup]
    exact rsA.fr wf hg kA cg n0
  obtain ⟨r1, r2, r3, r4⟩ := RS.srv kS hi cg' kA' ki (Nat.le_refl _) hnm (fun z hz => Or.inl (by
    rcases Nat.lt_or_ge z (hS h) with q | q
    · exact absurd (wN z q) hz
    · exact q))
  exact ⟨r1, cg, fx_eq kS cg n0 n4, e6.1.1⟩
end DOWN
