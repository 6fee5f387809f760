-- the start: the class's heap shows its first state
def yI (a b e N rep U mem : Nat) : Nat → Nat
  | 0 => b
  | 1 => b + 8
  | 2 => b + 1
  | 3 => b + 7
  | 4 => e
  | 5 => e + 1
  | 6 => e + 2
  | 7 => e + 3
  | 8 => e + 9
  | 9 => a
  | 10 => e + 10
  | 11 => e + 29
  | 12 => e + 30
  | 20 => N
  | 21 => rep
  | 22 => U
  | 23 => mem
  | _ => 0
def oJ (a b e top z : Nat) : Nat := if z = b + 1 ∨ z = b + 7 then b else if b + 2 ≤ z ∧ z ≤ b + 6 then b + 1 else if b + 9 ≤ z ∧ z < e ∧ (z - (b + 9)) % 3 = 2 then z - 1 else if z = e + 1 ∨ z = e + 2 ∨ z = e + 3 ∨ z = e + 9 then e else if e + 4 ≤ z ∧ z ≤ e + 8 then e + 3 else if e + 10 ≤ z ∧ z ≤ e + 29 then a else if e + 30 ≤ z ∧ z < top then e + 30 else z
def wI (b z : Nat) : Nat := 3 * ((z - (b + 9)) / 3)
section
variable {g : gcT} {h : hpT} {a b e N rep U mem top z k t : Nat}
theorem oJ_ok (hab : a < b) (ee : e = b + 9 + 3 * N) : oOK (oJ a b e top) := fun z => by
  unfold oJ
  split
  · omega
  · split
    · omega
    · split
      · omega
      · split
        · omega
        · split
          · omega
          · split
            · omega
            · split
              · omega
              · exact Nat.le_refl _
theorem oJ_1 (q : z = b + 1 ∨ z = b + 7) : oJ a b e top z = b := if_pos q
theorem oJ_2 (q : b + 2 ≤ z ∧ z ≤ b + 6) : oJ a b e top z = b + 1 := by
  unfold oJ
  rw [if_neg (by omega), if_pos q]
theorem oJ_3 (ee : e = b + 9 + 3 * N) (hk : k < N) : oJ a b e top (b + 11 + 3 * k) = b + 10 + 3 * k := by
  unfold oJ
  rw [if_neg (by omega), if_neg (by omega), if_pos (by omega)]
  omega
theorem oJ_4 (ee : e = b + 9 + 3 * N) (q : z = e + 1 ∨ z = e + 2 ∨ z = e + 3 ∨ z = e + 9) : oJ a b e top z = e := by
  unfold oJ
  rw [if_neg (by omega), if_neg (by omega), if_neg (by omega), if_pos q]
theorem oJ_5 (ee : e = b + 9 + 3 * N) (q : e + 4 ≤ z ∧ z ≤ e + 8) : oJ a b e top z = e + 3 := by
  unfold oJ
  rw [if_neg (by omega), if_neg (by omega), if_neg (by omega), if_neg (by omega), if_pos q]
theorem oJ_6 (ee : e = b + 9 + 3 * N) (q : e + 10 ≤ z ∧ z ≤ e + 29) : oJ a b e top z = a := by
  unfold oJ
  rw [if_neg (by omega), if_neg (by omega), if_neg (by omega), if_neg (by omega), if_neg (by omega), if_pos q]
theorem oJ_7 (ee : e = b + 9 + 3 * N) (q : e + 30 ≤ z ∧ z < top) : oJ a b e top z = e + 30 := by
  unfold oJ
  rw [if_neg (by omega), if_neg (by omega), if_neg (by omega), if_neg (by omega), if_neg (by omega), if_neg (by omega), if_pos q]
theorem oJ_z (ee : e = b + 9 + 3 * N) (q : z < b + 1 ∨ z = b + 8 ∨ (b + 9 ≤ z ∧ z < e ∧ ¬ (z - (b + 9)) % 3 = 2) ∨ z = e ∨ (e + 30 ≤ z ∧ top ≤ z)) : oJ a b e top z = z := by
  unfold oJ
  rw [if_neg (by omega), if_neg (by omega), if_neg (by omega), if_neg (by omega), if_neg (by omega), if_neg (by omega), if_neg (by omega)]
theorem upN_0 : ∀ l : List srA, (∀ x ∈ l, sSt x = 0) → upN l + 1 = 2 ^ l.length := by
  intro l
  induction l with
  | nil => intro _; rfl
  | cons x l ih =>
    intro hx
    have i1 := ih (fun x hx' => hx x (List.mem_cons_of_mem _ hx'))
    have i2 := hx x List.mem_cons_self
    show (if sSt x = 0 then 1 else 0) + 2 * upN l + 1 = 2 ^ (l.length + 1)
    rw [if_pos i2, Nat.pow_succ]
    omega
theorem upI_N : ∀ N, N < 9 → upI N = nI (2 ^ N - 1) := by decide
theorem eLs.tls (x : eLs g h z) {c : Nat} (hc : c = 4 ∨ c = 6 ∨ c = 8) : tLs g h c z [] := ⟨⟨x.1, x.2.1, g.2.2.2, x.2.2, Or.inl ⟨rfl, rfl⟩⟩, hc, (fun y hy => by cases hy)⟩
theorem eLs.o (hg : gOK g h) (x : eLs g h z) {o : Nat → Nat} {y : Nat} (ho : o z = y) : ownL h o y z := ⟨ho, fun e' he hk => by
  rw [x.2.2] at he
  cases he
  rw [hg.2.1] at hk
  cases hk⟩
def ss0 (b N : Nat) : List Nat := (List.range N).map (fun k => b + 9 + 3 * k)
def Ls0 (b N : Nat) : List lsT := (List.range N).map (fun k => (b + 10 + 3 * k, 10, none))
def cs00 (e : Nat) : csT := (List.range 6).map (fun i => (e + 11 + 3 * i, e + 12 + 3 * i, e + 13 + 3 * i, 0))
theorem ss0_g (hk : k < N) : (ss0 b N).getD k 0 = b + 9 + 3 * k := by
  unfold ss0
  rw [List.getD_eq_getElem?_getD, List.getElem?_map, List.getElem?_range hk]; rfl
theorem Ls0_g (hk : k < N) : (Ls0 b N).getD k ls0 = (b + 10 + 3 * k, 10, none) := by
  unfold Ls0
  rw [List.getD_eq_getElem?_getD, List.getElem?_map, List.getElem?_range hk]; rfl
theorem cs0_g (hk : k < 6) : (cs00 e).getD k cs0 = (e + 11 + 3 * k, e + 12 + 3 * k, e + 13 + 3 * k, 0) := by
  unfold cs00
  rw [List.getD_eq_getElem?_getD, List.getElem?_map, List.getElem?_range hk]; rfl
theorem rs_0 (w : hWF h) (hg : gOK g h) (hab : a < b) (ee : e = b + 9 + 3 * N) (hy : yOK (yI a b e N rep U mem)) (ht : e + 30 < top) (k9 : hK h a = 13) (k12 : hK h (e + 30) = 14) (st : st0 g h b N (nI rep) (nI U) (nI mem) (fun k => tbI N k 8)) (co : co0 g h b e N) : RS g h (oJ a b e top) (wI b) (yI a b e N rep U mem) (b + 2, b + 3, b + 4, b + 5, b + 6) (e + 4, e + 5, e + 6, e + 7, e + 8) (ss0 b N) (Ls0 b N) [] (S00 (yI a b e N rep U mem)) := by
  have N8 : N ≤ 8 := hy.1.2
  have N4 : 4 ≤ N := hy.1.1
  obtain ⟨⟨s1, s2⟩, ⟨s3, s4⟩, ⟨s5, s6⟩, ⟨s7, s8, s9⟩, s10⟩ := st
  obtain ⟨⟨c1, c2⟩, ⟨c3, c4, c5, c6⟩, ⟨c7, c8⟩, ⟨c9, c10⟩, ⟨c11, c12⟩, c13⟩ := co
  have up : upI N = nI (upN (tSv (S00 (yI a b e N rep U mem)))) := by
    have := upN_0 (tSv (S00 (yI a b e N rep U mem))) (fun x hx => by
      obtain ⟨i, -, e⟩ := List.mem_map.mp hx
      rw [← e]; rfl)
    have l : (tSv (S00 (yI a b e N rep U mem))).length = N := by
      show ((List.range N).map _).length = _
      rw [List.length_map, List.length_range]
    rw [l] at this
    rw [upI_N N (by omega)]
    congr 1
    omega
  have ob : oJ a b e top b = b := oJ_z ee (by omega)
  have ob8 : oJ a b e top (b + 8) = b + 8 := oJ_z ee (by omega)
  have o2 : ∀ z, b + 2 ≤ z ∧ z ≤ b + 6 → oJ a b e top z = b + 1 := fun z hz => oJ_2 hz
  have o5 : ∀ z, e + 4 ≤ z ∧ z ≤ e + 8 → oJ a b e top z = e + 3 := fun z hz => oJ_5 ee hz
  have oe : oJ a b e top e = e := oJ_z ee (by omega)
  refine ⟨⟨w, hg, oJ_ok hab ee⟩, ⟨hy, Nat.zero_le _, k9, k12⟩, ?_, ?_, ⟨rfl, List.nodup_nil, (fun i hi => absurd hi (Nat.not_lt_zero _))⟩, ?_⟩
  · refine ⟨⟨[], ⟨s1, s7, s8, s9, (s2 640).trans rfl, (s2 641).trans rfl, (s2 646).trans up, (s2 648).trans rfl⟩, ⟨ob, ob8⟩, ⟨s3, s4, ⟨o2 (b + 2) (by omega), o2 (b + 3) (by omega), o2 (b + 4) (by omega), o2 (b + 5) (by omega), o2 (b + 6) (by omega)⟩, oJ_1 (Or.inl rfl)⟩, s5, s6.tls (Or.inr (Or.inr rfl)), s6.o hg (oJ_1 (Or.inr rfl))⟩, ⟨(s2 642).trans rfl, (s2 647).trans rfl, (s2 649).trans rfl, (s2 650).trans rfl, (s2 651).trans rfl⟩, Or.inl rfl⟩
  · have ls : (ss0 b N).length = N := by unfold ss0; rw [List.length_map, List.length_range]
    refine ⟨⟨ls, by show ((List.range N).map _).length = _; rw [List.length_map, List.length_range]; rfl, by unfold Ls0; rw [List.length_map, List.length_range]; rfl⟩, ⟨⟨s8, by rw [ls]; exact s9, by rw [ls]; omega, fun i hi => ?_⟩, ob8⟩, fun i hi => ?_⟩
    · have hi : i < N := by rw [ls] at hi; exact hi
      have e1 : (ss0 b N)[i]'(by rw [ls]; exact hi) = b + 9 + 3 * i := by
        have := ss0_g (b := b) hi
        rw [List.getD_eq_getElem?_getD, List.getElem?_eq_getElem (by rw [ls]; exact hi)] at this
        exact this
      rw [e1]
      exact ⟨(s10 i hi).1, (s10 i hi).2.1.1⟩
    · have hi : i < N := hi
      obtain ⟨-, ⟨a1, a2, a3, a4⟩, ⟨b1, b2, b3, b4, b5⟩, el⟩ := s10 i hi
      rw [s0_sv (y := yI a b e N rep U mem) hi, ss0_g hi, Ls0_g hi]
      rw [show b + 9 + 3 * i + 1 = b + 10 + 3 * i by omega] at a3 b1 b2 b3 b4 b5
      rw [show b + 9 + 3 * i + 2 = b + 11 + 3 * i by omega] at b2 el
      refine ⟨⟨a1, oJ_z ee (by omega), by rw [a2]; rfl⟩, ⟨by rw [a2]; rfl, by rw [a2]; rfl, by rw [a2]; rfl, by rw [a2]; rfl, by rw [a2]; rfl, by rw [a2]; rfl, by rw [a2]; rfl⟩, ⟨Or.inl rfl, Or.inl rfl⟩, a3, ⟨⟨⟨[], ⟨⟨⟨b1, b + 11 + 3 * i, b2, el.tls (Or.inr (Or.inr rfl)), (fun z hz => by cases hz)⟩, fun l hl => ?_, (fun z hz => by cases hz), (fun z hz => by cases hz), List.Pairwise.nil⟩, oJ_z ee (by omega), (fun z hz => by cases hz), (fun z hz => by cases hz)⟩, Or.inl ⟨b3, rfl⟩, Or.inl ⟨b4, rfl⟩, rfl⟩, fun ll hll => ?_, b5⟩, ?_⟩, Or.inl ⟨rfl, rfl, a4 585 (by decide)⟩⟩
      · rw [b2] at hl
        cases hl
        exact el.o hg (oJ_3 ee hi)
      · show 2 * 0 + 10 ≤ _ + 10
        omega
      · show 3 * ((b + 10 + 3 * i - (b + 9)) / 3) = 3 * i
        omega
  · refine ⟨⟨c1, oe, c13⟩, ⟨c3, c4, c5, oJ_4 ee (Or.inl rfl), by show ((List.range 8).map _).length = _; rw [List.length_map, List.length_range], fun i hi => by rw [s0_ow hi]; exact c6 i hi⟩, ⟨c7, c8.tls (Or.inl rfl), c8.o hg (oJ_4 ee (Or.inr (Or.inl rfl)))⟩, ⟨c9, c10, ⟨o5 (e + 4) (by omega), o5 (e + 5) (by omega), o5 (e + 6) (by omega), o5 (e + 7) (by omega), o5 (e + 8) (by omega)⟩, oJ_4 ee (Or.inr (Or.inr (Or.inl rfl)))⟩, ⟨c11, ⟨[], c12.tls (Or.inr (Or.inl rfl))⟩, c12.o hg (oJ_4 ee (Or.inr (Or.inr (Or.inr rfl))))⟩, c2 197, c2 198⟩
theorem fc_0 (hab : a < b) (ee : e = b + 9 + 3 * N) (k9 : hK h a = 13) (r1 : hR h 768 a = some b) (r2 : hR h 769 a = some e) (r3 : hR h 770 a = some (e + 10)) (r4 : hR h 771 a = some (e + 29)) (i0 : ∀ f, hI h f a = 0) (k10 : hK h (e + 10) = 23 ∧ hN h (e + 10) = 6) (cl : cli0 h e 6) (k11 : hK h (e + 29) = 24 ∧ hN h (e + 29) = 40 ∧ ∀ j, hB h (e + 29) j = none) : fcR h (oJ a b e top) (yI a b e N rep U mem) (ss0 b N) (cs00 e) (F00 (yI a b e N rep U mem)) := by
  have lc : (cs00 e).length = 6 := by unfold cs00; rw [List.length_map, List.length_range]
  have o6 : ∀ z, e + 10 ≤ z ∧ z ≤ e + 29 → oJ a b e top z = a := fun z hz => oJ_6 ee hz
  have oa : oJ a b e top a = a := oJ_z ee (by omega)
  refine ⟨⟨⟨oa, r1, r2⟩, r4, k11.1, k11.2.1, o6 (e + 29) (by omega)⟩, ⟨⟨k9, r3, k10.1, k10.2, lc, fun i hi => ?_⟩, o6 (e + 10) (by omega), fun i hi => ?_, fun i j hi hj ne => ?_⟩, ⟨rfl, fun i hi => ?_⟩, fun p hp => Or.inl ⟨k11.2.2 p, rfl⟩, i0 772, i0 773⟩
  · have hi : i < 6 := by rw [lc] at hi; exact hi
    have e1 : (cs00 e)[i]'(by rw [lc]; exact hi) = (e + 11 + 3 * i, e + 12 + 3 * i, e + 13 + 3 * i, 0) := by
      have := cs0_g (e := e) hi
      rw [List.getD_eq_getElem?_getD, List.getElem?_eq_getElem (by rw [lc]; exact hi)] at this
      exact this
    rw [e1]
    exact ⟨(cl i hi).1, (cl i hi).2.1⟩
  · rw [cs0_g hi]
    exact ⟨o6 _ (by dsimp only; omega), o6 _ (by dsimp only; omega), o6 _ (by dsimp only; omega)⟩
  · rw [cs0_g hi, cs0_g hj]
    dsimp only
    omega
  · rw [cs0_g hi]
    have e6 : (fCl (F00 (yI a b e N rep U mem))).getD i cl0 = cl0 := cl_6 i
    rw [e6]
    exact ⟨rfl, (fun n hn => absurd hn (Nat.not_lt_zero _)), fun n hn => Or.inl ⟨((cl i hi).2.2 n).2, rfl⟩⟩
end
