/-! Coordinator.gatherMoving -/
def allP (A : alT) : List pT := (A.1.map (·.2.1)).flatten
def ackG (c acc : Int32) (p : pT) : Int32 := if kT (pKd p) = 0 then acc else if ¬ pCl p = c then acc else if pAc p ≤ acc then acc else pAc p
def ackA (ps : List pT) (c : Int32) : Int32 := ps.foldl (ackG c) 1
def noteP (c : Nat) (a : Int32) : pT := ((1, nI c, -1, -1, 0, 0, 0, a), -1)
def mvN (ps : psT) (A : alT) (n : Nat) : List pT := (List.range n).flatMap (fun c => if ps.2.1 c ≤ ackA (allP A) (nI c) then [] else [noteP c (ps.2.1 c)])
def mvO (ps : psT) (t n : Nat) : List pT := (List.range n).flatMap (fun j => (ps.2.2.1 (t * 8 + j)).toList)
def mvRf (ps : psT) (t j : Nat) : List pT := match ps.2.2.2 j with
  | none => []
  | some p => if ¬ pKy p / 8 = nI t then [] else if pNu p < ps.2.1 (pCl p).toNatClampNeg then [] else [p]
def mvR (ps : psT) (t n : Nat) : List pT := (List.range n).flatMap (mvRf ps t)
def movA (ps : psT) (A : alT) (t : Nat) : List pT := mvN ps A 6 ++ mvO ps t 8 ++ mvR ps t 240
def gdP (h : hpT) (q : Nat) : Prop := pOK h q ∧ lOK h q ∧ ¬ hI h 384 q = 3
section GATH
variable {g : gcT} {P : pmT} {o o' w w' : Nat → Nat} {y : Nat → Nat} {R R2 : arT} {h h' : hpT} {B : Nat → Prop} {i c m k t : Nat} {ss : List Nat} {Ls : List lsT} {Ds : List (Nat × Nat)} {S : stA} {ps : psT} {ow : List Int32} {dd ff : Nat} {ms ms' : List Nat} {mv : List pT}
theorem fm_1 {α : Type} {f : Nat → List α} (n : Nat) : (List.range (n + 1)).flatMap f = (List.range n).flatMap f ++ f n := by
  rw [List.range_succ, List.flatMap_append, List.flatMap_cons, List.flatMap_nil, List.append_nil]
theorem RS.ack (kS : RS g h o w y R R2 ss Ls Ds S) (hi : i < y 20) {c : Int32} : EvI g P 20 [va_rf (some (Ls.getD i ls0).1), .int c] h (fun h' r => h' = h ∧ r = ackA (allP (sLg ((tSv S).getD i sr0))) c) := by
  obtain ⟨ll, xs, p1, p2, ⟨zs, kl, hd, lt, ea⟩, -⟩ := kS.prem hi
  have := m_ackedOf (P := P) (c := c) kl.1.1.z.w
  have e : ((zs.map (fun z => (z.1, zPs z))).map (·.2)).flatten.foldl (ackF h c) 1 = ackA (allP (sLg ((tSv S).getD i sr0))) c := by
    have e1 : allP (sLg ((tSv S).getD i sr0)) = (zs.map zPs).flatten.map (pA h) := by
      unfold allP
      rw [← ea, List.map_map, List.map_flatten, List.map_map]
      rfl
    have e2 : (zs.map (fun z => (z.1, zPs z))).map (·.2) = zs.map zPs := by rw [List.map_map]; rfl
    rw [e1, e2]
    unfold ackA
    rw [List.foldl_map]
    have key : ∀ (l : List Nat) (a : Int32), (∀ q ∈ l, ptK h q) → l.foldl (ackF h c) a = l.foldl (fun x q => ackG c x (pA h q)) a := by
      intro l
      induction l with
      | nil => intro a _; rw [List.foldl_nil, List.foldl_nil]
      | cons q l ih =>
        intro a hq
        rw [List.foldl_cons, List.foldl_cons]
        have : ackF h c a q = ackG c a (pA h q) := by
          unfold ackF ackG
          rw [(hq q List.mem_cons_self).2.2.2]
          rfl
        rw [this]
        exact ih _ (fun x hx => hq x (List.mem_cons_of_mem _ hx))
    refine key _ 1 (fun q hq => ?_)
    obtain ⟨l, hl, hql⟩ := List.mem_flatten.mp hq
    obtain ⟨z, hz, ez⟩ := List.mem_map.mp hl
    rw [← ez] at hql
    exact ((kl.1.1.2.choose_spec.2.2 z hz).2 q hql).1.1
  rw [e] at this
  exact this
/-- the list of what moves changes -/
theorem rsD.l8 (wf : hWF h) (hg : gOK g h) (n68 : ¬ y 6 = y 8) (kd : rsD g h o y R2 Ds ow dd ff) (k8 : tLs g h 6 (y 8) ms) (x : Ch (fun z => z = y 8 ∨ hR h 1 (y 8) = some z) c m h h') (k8' : tLs g h' 6 (y 8) ms') (cg : CG (fun z => z = y 4) c m h o h' o') (ow8 : ownL h' o' (y 4) (y 8)) : rsD g h' o' y R2 Ds ow dd ff ∧ (∀ z, ¬ hK h z = 0 → ¬ hK h z = 1 → ¬ hK h z = 28 → Sm h h' z) ∧ capO g h' (y 6) = capO g h (y 6) := by
  obtain ⟨⟨a1, a2, a3⟩, ⟨b1, b2, b3, b4, b5, b6⟩, ⟨c1, c2, c3⟩, ⟨d1, d2, d3, d4⟩, ⟨e1, -, e3⟩, f1, f2⟩ := kd
  have so : ∀ z, ¬ hK h z = 0 → ¬ hK h z = 1 → ¬ hK h z = 28 → Sm h h' z := by
    intro z z0 z1 z28
    refine x.sm ?_ (wf.lt z0)
    rintro (q | q)
    · rw [q] at z1; exact z1 k8.1.1
    · rcases row28 hg k8 z q with q | q <;> contradiction
  have k6 := c2.1.1
  have k7 := d2.1
  have s6 : Sm h h' (y 6) := by
    refine x.sm ?_ (wf.lt (by omega))
    rintro (q | q)
    · exact n68 q
    · rcases row28 hg k8 _ q with q | q <;> omega
  have s4 := so (y 4) (by omega) (by omega) (by omega)
  have s5 := so (y 5) (by omega) (by omega) (by omega)
  have s7 := so (y 7) (by omega) (by omega) (by omega)
  refine ⟨⟨⟨by rw [s4.1]; exact a1, by rw [cg.2.1 _ (wf.lt (by omega))]; exact a2, by rw [(s4.2.1 192).2]; exact a3⟩, ⟨by rw [(s4.2.1 193).2]; exact b1, by rw [s5.1]; exact b2, by rw [s5.2.2.1]; exact b3, by rw [cg.2.1 _ (wf.lt (by omega))]; exact b4, b5, fun j hj => by rw [(s5.2.2.2 j).1]; exact b6 j hj⟩, ⟨by rw [(s4.2.1 194).2]; exact c1, ?_, ownL.fr wf hg c2 c3 cg s6⟩, ⟨by rw [(s4.2.1 195).2]; exact d1, d2.ch wf cg.1 (fun f => (s7.2.1 f).2), ownV.fr wf d2 d3 cg.2.1, by rw [cg.2.1 _ (wf.lt (by omega))]; exact d4⟩, ⟨by rw [(s4.2.1 196).2]; exact e1, ⟨ms', k8'⟩, ow8⟩, by rw [(s4.2.1 197).1]; exact f1, by rw [(s4.2.1 198).1]; exact f2⟩, so, capO.fr wf c2 x s6⟩
  refine c2.fr wf x s6 (fun d hd kd => x.sm ?_ (wf.lt (by omega)))
  rintro (q | q)
  · rw [q] at kd; have := k8.1.1; omega
  · exact n68 ((c3.2 d hd kd).symm.trans (e3.2 d q kd))
/-- what is in the list of what moves -/
def mvI (g : gcT) (h0 : hpT) (o0 w y : Nat → Nat) (R R2 : arT) (ss : List Nat) (Ls : List lsT) (Ds : List (Nat × Nat)) (S : stA) (ps : psT) (n : Nat) (mv : List pT) (h : hpT) : Prop := ∃ o c m ms, RS g h o w y R R2 ss Ls Ds S ∧ CG (fun z => z = y 4) c m h0 o0 h o ∧ Cst g y h0 Ls Ds h Ls Ds n (nf 6 * n) ∧ pstH h y R2 ps ∧ tLs g h 6 (y 8) ms ∧ (∀ q ∈ ms, gdP h q) ∧ ms.map (pA h) = mv
theorem gdP.cg (wf : hWF h) {q : Nat} (k : gdP h q) (cg : CG B c m h o h' o') : gdP h' q ∧ pA h' q = pA h q := by
  have k7 := k.1.1.1
  have sq := cg.smp k7 wf
  exact ⟨⟨k.1.sm sq, lOK.cg wf k7 k.2.1 cg, by rw [(sq.2.1 384).1]; exact k.2.2⟩, pA.cg wf k7 k.2.1 cg⟩
/-- one more -/
theorem mvI.add {h0 : hpT} {o0 : Nat → Nat} {n q : Nat} (hP6 : P 206 = cpyO) (wf0 : hWF h0) (ok0 : oOK o0) (k : mvI g h0 o0 w y R R2 ss Ls Ds S ps n mv h) (hq : gdP h q) (hl : mv.length ≤ 1000) : EvI g P 195 [va_rf (some (y 8)), va_rf (some q)] h (fun h' _ => mvI g h0 o0 w y R R2 ss Ls Ds S ps n (mv ++ [pA h q]) h') := by
  obtain ⟨o, c, m, ms, k1, k2, k3, k4, k5, k6, k7⟩ := k
  obtain ⟨kk0, kk1, kk4, kse, kde⟩ := k1.kinds
  have wf := k1.1.1
  have hg := k1.1.2.1
  have ok := k1.1.2.2
  have kD := k1.2.2.2.2.2
  have n68 := k1.2.1.1.2.2.2.2.2
  have hml : ms.length = mv.length := by rw [← k7, List.length_map]
  refine Ev.imp (m_add hP6 wf hg k5 hq.1.1.1 (by omega)) (fun h' r ⟨v, ev, e1, A1, A2, A3, A4, A5⟩ => ⟨v, ev, ?_⟩)
  have gr : Grew g (y 8) ms.length h h' := ⟨A2, A3, A4, A5⟩
  obtain ⟨cg, ow8⟩ := Grew.cg wf ok hg k5 kD.2.2.2.2.1.2.2 kD.1.2.1 gr A1
  generalize oX o h (y 8) = o2 at cg ow8
  obtain ⟨d1, d2, d3⟩ := rsD.l8 wf hg n68 kD k5 A4 A1 cg ow8
  obtain ⟨r1, r2, r3⟩ := RS.kp k1 cg d1
  refine ⟨o2, _, _, ms ++ [q], r1, CG.tr wf0 ok0 k2 cg, ?_, ?_, A1, fun z hz => ?_, ?_⟩
  · obtain ⟨t1, t2, t3⟩ := k3
    have hx : fxC g h' y = fxC g h y + (capO g h' (y 8) - capO g h (y 8)) := by
      unfold fxC
      rw [r3, d3]
      omega
    obtain ⟨-, -, -, g1, g2⟩ := cg.1
    exact ⟨by omega, by omega, by omega⟩
  · -- the Survey of the past isn't touched
    obtain ⟨⟨a1, a2, a3⟩, -, -, ⟨u1, u2, u3, u4⟩, -⟩ := kD
    obtain ⟨j1, -, -, -, -, -, j7, j8, j9, j10, j11, -⟩ := u2
    obtain ⟨z1, z2, z3, z4⟩ := k4
    have s7 := d2 (y 7) (by omega) (by omega) (by omega)
    have t1 := d2 R2.1 (by omega) (by omega) (by omega)
    have t4 := d2 R2.2.2.2.1 (by omega) (by omega) (by omega)
    have t5 := d2 R2.2.2.2.2 (by omega) (by omega) (by omega)
    exact ⟨by rw [(s7.2.1 709).1]; exact z1, fun i hi => by rw [(t1.2.2.2 i).1]; exact z2 i hi, fun j hj => by rw [(t4.2.2.2 j).2]; exact (z3 j hj).fr wf cg, fun j hj => by rw [(t5.2.2.2 j).2]; exact (z4 j hj).fr wf cg⟩
  · rcases List.mem_append.mp hz with d | d
    · exact ((k6 z d).cg wf cg).1
    · rw [List.mem_singleton] at d
      rw [d]; exact (hq.cg wf cg).1
  · rw [List.map_append, List.map_cons, List.map_nil, (hq.cg wf cg).2, ← k7]
    exact congrArg (· ++ [pA h q]) (List.map_congr_left (fun z hz => ((k6 z hz).cg wf cg).2))
/-- a new NOTE -/
theorem mvI.new {h0 : hpT} {o0 : Nat → Nat} {n : Nat} {v : ptT} (wf0 : hWF h0) (ok0 : oOK o0) (k : mvI g h0 o0 w y R R2 ss Ls Ds S ps n mv h) (x : newP h h' v) (hk : v.1 = 1) (hc : vinD v.2.1 6) : mvI g h0 o0 w y R R2 ss Ls Ds S ps (n + 1) mv h' ∧ gdP h' (hS h) ∧ pA h' (hS h) = (v, -1) := by
  obtain ⟨o, c, m, ms, k1, k2, k3, k4, k5, k6, k7⟩ := k
  obtain ⟨x1, x2, x3, x4, x5⟩ := x
  have wf := k1.1.1
  have hg := k1.1.2.1
  have ok := k1.1.2.2
  have cg : CG (fun _ => False) 1 (nf 6) h o h' o := CG.of0 x1 ok (fun _ _ q => q.elim) (nm9 wf x1 (fun _ q => q.elim))
  have kD := k1.2.2.2.2.2
  have kd' := rsD.fr wf hg kD cg id
  obtain ⟨r1, r2, r3⟩ := RS.kp k1 (cg.mono ok (B' := fun z => z = y 4) (fun _ _ q => q.elim) (Nat.le_refl _) (Nat.le_refl _)) kd'
  have kind : hI h' 384 (hS h) = 1 := by rw [← hk]; exact congrArg (fun p : ptT => p.1) x3
  have kcl : hI h' 388 (hS h) = v.2.1 := congrArg (fun p : ptT => p.2.1) x3
  refine ⟨⟨o, _, _, ms, r1, CG.tr wf0 ok0 k2 (cg.mono ok (fun _ _ q => q.elim) (Nat.le_refl _) (Nat.le_refl _)), ?_, pstH.fr wf kD k4 cg id, ?_, fun z hz => ((k6 z hz).cg wf cg).1, ?_⟩, ⟨⟨x2, fun _ => by rw [kcl]; exact hc, fun q => ?_⟩, ?_, by rw [kind]; decide⟩, ?_⟩
  · have hx := fx_eq k1 cg id id
    obtain ⟨t1, t2, t3⟩ := k3
    obtain ⟨-, -, -, g1, g2⟩ := cg.1
    have : nf 6 * (n + 1) = nf 6 * n + nf 6 := Nat.mul_succ _ _
    exact ⟨by omega, by omega, by omega⟩
  · have k8 := k5.1.1
    exact k5.fr wf cg.1 (cg.sm wf (fun q => q) (by omega)) (fun d _ kd => cg.sm wf (fun q => q) (by omega))
  · rw [← k7]; exact List.map_congr_left (fun z hz => ((k6 z hz).cg wf cg).2)
  · rw [x2.2.2.1, kind] at q; exact absurd rfl q
  · intro s hs
    rw [x4] at hs
    cases hs
  · unfold pA hmF
    rw [x3, x4]
end GATH
