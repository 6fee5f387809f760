/-! runs with some fuel -/
theorem ev_up {g : gcT} {P : pmT} : ∀ n k pc L st h x, ev g P n k pc L st h = some x → ev g P (n + 1) k pc L st h = some x := by
  intro n
  induction n with
  | zero => intro k pc L st h x e; simp [ev] at e
  | succ n ih =>
    intro k pc L st h x e
    rw [ev] at e ⊢
    split at e
    · rename_i i len hd
      try rw [hd]
      try dsimp only
      split at e
      · rename_i r hr
        try rw [hr]
        exact e
      · rename_i hr
        try rw [hr]
        try dsimp only
        split at e
        · rename_i j As rest hcl
          try rw [hcl]
          try dsimp only
          split at e
          · rename_i hz
            try rw [if_pos hz]
            split at e
            · rename_i h1 r1 hc
              have hc2 : (if j = 205 ∨ j = 206 then P j As h else ev g P (n + 1) j 0 (lc0 j As) [] h) = some (h1, r1) := by
                split at hc
                · rename_i hj; rw [if_pos hj]; exact hc
                · rename_i hj; rw [if_neg hj]; exact ih _ _ _ _ _ _ hc
              rw [hc2]
              exact ih _ _ _ _ _ _ e
            · cases e
          · cases e
        · rename_i hcl
          try rw [hcl]
          try dsimp only
          split at e
          · rename_i hsp
            try rw [hsp]
            exact ih _ _ _ _ _ _ e
          · rename_i hsp
            try rw [hsp]
            try dsimp only
            split at e
            · rename_i hsx
              try rw [hsx]
              exact ih _ _ _ _ _ _ e
            · cases e
    · cases e
theorem ev_le {g : gcT} {P : pmT} {n n' k pc : Nat} {L : lcT} {st : List Value} {h : hpT} {x : hpT × Option Value} (hn : n ≤ n') (e : ev g P n k pc L st h = some x) : ev g P n' k pc L st h = some x := by
  induction hn with
  | refl => exact e
  | step _ ih => exact ev_up _ _ _ _ _ _ _ ih
def Ev (g : gcT) (P : pmT) (k pc : Nat) (L : lcT) (st : List Value) (h : hpT) (Q : hpT → Option Value → Prop) : Prop := ∃ n h' r, ev g P n k pc L st h = some (h', r) ∧ Q h' r
section EV
variable {g : gcT} {P : pmT} {k pc pc' j : Nat} {L L' : lcT} {st st' rest : List Value} {h h' : hpT} {Q Q1 : hpT → Option Value → Prop} {i : Instr} {len : Nat}
theorem Ev.imp (e : Ev g P k pc L st h Q1) (f : ∀ h' r, Q1 h' r → Q h' r) : Ev g P k pc L st h Q := by
  obtain ⟨n, h', r, a, b⟩ := e
  exact ⟨n, h', r, a, f _ _ b⟩
theorem Ev.sx (hd : decode (mB k) pc = .ok (i, len)) (hr : rtO k i len st = none) (hc : clO k i len st h = none) (hp : spO k pc i len L st h = none) (hs : sxO g k pc i len L st h = some (pc', L', st', h')) (kk : Ev g P k pc' L' st' h' Q) : Ev g P k pc L st h Q := by
  obtain ⟨n, h1, r, a, b⟩ := kk
  refine ⟨n + 1, h1, r, ?_, b⟩
  rw [ev, hd]
  dsimp only
  rw [hr]
  dsimp only
  rw [hc]
  dsimp only
  rw [hp]
  dsimp only
  rw [hs]
  exact a
theorem Ev.sp (hd : decode (mB k) pc = .ok (i, len)) (hr : rtO k i len st = none) (hc : clO k i len st h = none) (hp : spO k pc i len L st h = some (pc', L', st', h')) (kk : Ev g P k pc' L' st' h' Q) : Ev g P k pc L st h Q := by
  obtain ⟨n, h1, r, a, b⟩ := kk
  refine ⟨n + 1, h1, r, ?_, b⟩
  rw [ev, hd]
  dsimp only
  rw [hr]
  dsimp only
  rw [hc]
  dsimp only
  rw [hp]
  exact a
theorem Ev.rt {r : Option Value} (hd : decode (mB k) pc = .ok (i, len)) (hr : rtO k i len st = some r) (hq : Q h r) : Ev g P k pc L st h Q := by
  refine ⟨1, h, r, ?_, hq⟩
  rw [ev, hd]
  dsimp only
  rw [hr]
theorem Ev.cl {As : List Value} (hd : decode (mB k) pc = .ok (i, len)) (hr : rtO k i len st = none) (hc : clO k i len st h = some (j, As, rest)) (hj : ¬ (j = 205 ∨ j = 206)) (hz : (rest.map fun v => v.category).sum ≤ 8 ∧ As.all (fun v => v.category == 1) = true ∧ As.length ≤ mX j ∧ mF j + 1 ≤ mF k ∧ 8 + (mX j + 11) + mW j ≤ mW k)
    (hM : Ev g P j 0 (lc0 j As) [] h Q1) (kk : ∀ h' r, Q1 h' r → Ev g P k (pc + 3) L (r.toList ++ rest) h' Q) : Ev g P k pc L st h Q := by
  obtain ⟨n1, h1, r1, a1, b1⟩ := hM
  obtain ⟨n2, h2, r2, a2, b2⟩ := kk h1 r1 b1
  refine ⟨max n1 n2 + 1, h2, r2, ?_, b2⟩
  rw [ev, hd]
  dsimp only
  rw [hr]
  dsimp only
  rw [hc]
  dsimp only
  rw [if_pos hz, if_neg hj, ev_le (Nat.le_max_left n1 n2) a1]
  exact ev_le (Nat.le_max_right n1 n2) a2
theorem Ev.pr {As : List Value} {r : Option Value} (hd : decode (mB k) pc = .ok (i, len)) (hr : rtO k i len st = none) (hc : clO k i len st h = some (j, As, rest)) (hj : j = 205 ∨ j = 206) (hz : (rest.map fun v => v.category).sum ≤ 8 ∧ As.all (fun v => v.category == 1) = true ∧ As.length ≤ mX j ∧ mF j + 1 ≤ mF k ∧ 8 + (mX j + 11) + mW j ≤ mW k)
    (hP : P j As h = some (h', r)) (kk : Ev g P k (pc + 3) L (r.toList ++ rest) h' Q) : Ev g P k pc L st h Q := by
  obtain ⟨n, h1, r1, a1, b1⟩ := kk
  refine ⟨n + 1, h1, r1, ?_, b1⟩
  rw [ev, hd]
  dsimp only
  rw [hr]
  dsimp only
  rw [hc]
  dsimp only
  rw [if_pos hz, if_pos hj, hP]
  exact a1
end EV
