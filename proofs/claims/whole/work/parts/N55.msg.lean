/-! the two sides: message -/
def msV (F : fcT) (m : msT) (k : Int32) : Int32 := if k = 0 then (if m.2.2.2.2 = none then 0 else 1) else if k = 1 then nI m.1 else if k = 2 then nI m.2.1 else if k = 3 then (match m.2.2.2.1 with
    | none => -1
    | some t => nI t) else if k = 4 then (match m.2.2.2.2 with
    | none => -1
    | some v => v.1) else (rqF F m.1 m.2.1).1
def msqA (F : fcT) (x k : Int32) : Option Int32 := match msgA F x with
  | none => none
  | some (_, m) => if k < 0 ∨ 5 < k then none else some (msV F m k)
/-- an ANSWER has no target -/
def NtI (F : fcT) : Prop := ∀ p x v, fNt F p = some x → x.2.2.2.2 = some v → x.2.2.2.1 = none
section MQ
variable {x x1 x2 v : Int32} {k e i j N t n c p : Nat} {y : Nat → Nat} {μ μ' : mT} {F F' : fcT}
theorem FR.n4 (h : FR y F μ) : FR y F (uN μ 4 v) := ⟨h.1.num (fun k _ _ h4 => if_neg h4), h.2.1, h.2.2.1, h.2.2.2⟩
theorem msg_R (h : FR y F μ) (nt : NtI F) : FR y F (mgM μ x1 x2).1 ∧ ((msqA F x1 x2 = none ∧ (mgM μ x1 x2).1.2.2 4 = 1) ∨ ∃ v, msqA F x1 x2 = some v ∧ (mgM μ x1 x2).1.2.2 4 = 0 ∧ (mgM μ x1 x2).2 = v) := by
  unfold mgM msqA
  rcases im_R (x := x1) h with ⟨q1, q2⟩ | ⟨p, xx, hp, ep, q1, q2, q3⟩
  · rw [if_pos (Or.inl q1), q2]
    exact ⟨h.n4, Or.inl ⟨rfl, rfl⟩⟩
  · subst ep
    rw [q3]
    by_cases w : x2 < 0 ∨ 5 < x2
    · rw [if_pos (Or.inr w)]
      refine ⟨h.n4, Or.inl ⟨?_, rfl⟩⟩
      show (if x2 < 0 ∨ 5 < x2 then none else _) = none
      rw [if_pos w]
    · rw [if_neg (fun z => z.elim q1 w), nI_clamp (by omega)]
      refine ⟨h.n4, Or.inr ⟨msV F xx x2, ?_, rfl, ?_⟩⟩
      · show (if x2 < 0 ∨ 5 < x2 then none else _) = _
        rw [if_neg w]
      · have src := h.2.2.1 p hp
        rw [q2] at src
        rcases src with ⟨a1, a2⟩ | ⟨x0, a1, ⟨a2, a3, a4⟩, a5, c6, n1, n2⟩
        · cases a2
        cases a1
        have l40 := (h.2.1.2 xx.1 c6).1.2
        have mC : msC μ p = xx.1 := by unfold msC; rw [a2]; exact nI_clamp (by omega)
        have mN : msN μ p = xx.2.1 := by unfold msN; rw [a3]; exact nI_clamp (by omega)
        have r1 := (rq_row h c6 n1 n2).1
        show mg1 μ p x2 = msV F xx x2
        unfold mg1 msV
        rw [mC, mN, a2, a3, r1]
        rcases a5 with ⟨b1, t, b2, b3, b4, b5⟩ | ⟨b1, v, b2, b3, b4, b5⟩
        · rw [b1, b3, b4, b5, if_pos rfl, if_neg (show ¬ (0 : Int32) = 1 by decide), if_pos rfl]
        · have b6 := nt p xx v q2 b2
          rw [b1, b2, b6, if_neg (show ¬ (1 : Int32) = 0 by decide), if_pos rfl, b3, if_neg (show ¬ some v = none from fun z => by cases z)]
end MQ
