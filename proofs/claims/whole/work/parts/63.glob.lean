/-! the class's state as a whole: y tells its fixed addresses and numbers
  (0 Storage, 1 its row of SERVERS, 2 its Survey, 3 its list, 4 Coordinator, 5 owners, 6 dead, 7 past, 8 moving, 9 LogCluster, 10 clients, 11 net, 12 the model; 20 SERVERS, 21 REPLICAS, 22 UNITS, 23 MEMORY) -/
abbrev srA := Int32 × Int32 × Int32 × Int32 × Int32 × Int32 × Int32 × alT × Option alT
def sSt (x : srA) : Int32 := x.1
def sFe (x : srA) : Int32 := x.2.1
def sLo (x : srA) : Int32 := x.2.2.1
def sTb (x : srA) : Int32 := x.2.2.2.1
def sSf (x : srA) : Int32 := x.2.2.2.2.1
def sCu (x : srA) : Int32 := x.2.2.2.2.2.1
def sMi (x : srA) : Int32 := x.2.2.2.2.2.2.1
def sLg (x : srA) : alT := x.2.2.2.2.2.2.2.1
def sLL (x : srA) : Option alT := x.2.2.2.2.2.2.2.2
def sr0 : srA := (0, 0, 0, 0, 0, 0, 0, ([], none, none), none)
def upN : List srA → Nat
  | [] => 0
  | x :: xs => (if sSt x = 0 then 1 else 0) + 2 * upN xs
/-- a server's LOG with its credit, the lost one with its credit -/
abbrev lsT := Nat × Nat × Option (Nat × Nat)
def ls0 : lsT := (0, 0, none)
def lgQ (g : gcT) (h : hpT) (o : Nat → Nat) (N U L nx k : Nat) (tb : Int32) (A : alT) : Prop := lgR g h o N U L nx A ∧ (∀ ll, hR h 256 L = some ll → 2 * A.1.length + 10 ≤ capO g h ll + k) ∧ hI h 259 L = tb
def losR (g : gcT) (h : hpT) (o w : Nat → Nat) (N U nx s i : Nat) (q : Option (Nat × Nat)) (A : Option alT) : Prop := (q = none ∧ A = none ∧ hR h 585 s = none) ∨ ∃ L k B, q = some (L, k) ∧ A = some B ∧ hR h 585 s = some L ∧ lgQ g h o N U L nx k 0 B ∧ w L = 3 * i + 1
def srvR (g : gcT) (h : hpT) (o w : Nat → Nat) (N U nx s i : Nat) (p : lsT) (x : srA) : Prop := (hK h s = 10 ∧ o s = s ∧ hI h 576 s = nI i) ∧ (hI h 577 s = sSt x ∧ hI h 578 s = sFe x ∧ hI h 579 s = sLo x ∧ hI h 580 s = sTb x ∧ hI h 581 s = sSf x ∧ hI h 582 s = sCu x ∧ hI h 583 s = sMi x) ∧ ((sFe x = 0 ∨ sFe x = 1) ∧ (sLo x = 0 ∨ sLo x = 1)) ∧ hR h 584 s = some p.1 ∧ (lgQ g h o N U p.1 nx p.2.1 0 (sLg x) ∧ w p.1 = 3 * i) ∧ losR g h o w N U nx s i p.2.2 (sLL x)
def dedR (g : gcT) (h : hpT) (o w : Nat → Nat) (N U nx : Nat) (d : Nat × Nat) (x : alT × Int32) : Prop := lgQ g h o N U d.1 nx d.2 x.2 x.1 ∧ w d.1 = 2
abbrev stA := List srA × (Int32 × Nat × Int32 × Int32 × Int32) × List Int32 × List (alT × Int32) × Nat × Nat
def tSv (S : stA) : List srA := S.1
def tAw (S : stA) : Int32 := S.2.1.1
def tNm (S : stA) : Nat := S.2.1.2.1
def tCl (S : stA) : Int32 := S.2.1.2.2.1
def tAp (S : stA) : Int32 := S.2.1.2.2.2.1
def tMe (S : stA) : Int32 := S.2.1.2.2.2.2
def tOw (S : stA) : List Int32 := S.2.2.1
def tDe (S : stA) : List (alT × Int32) := S.2.2.2.1
def tDs (S : stA) : Nat := S.2.2.2.2.1
def tFo (S : stA) : Nat := S.2.2.2.2.2
/-- Storage's own -/
def rsA (g : gcT) (h : hpT) (o : Nat → Nat) (y : Nat → Nat) (R : arT) (up : Nat) (q : Int32 × Nat × Int32 × Int32 × Int32) : Prop := (∃ xs, stR g h o (y 0) (y 1) (y 2) R (y 3) (y 20) (y 22) (y 21) (nI up) q.2.1 xs) ∧ (hI h 642 (y 0) = nI (y 23) ∧ hI h 647 (y 0) = q.1 ∧ hI h 649 (y 0) = q.2.2.1 ∧ hI h 650 (y 0) = q.2.2.2.1 ∧ hI h 651 (y 0) = q.2.2.2.2) ∧ (q.1 = 0 ∨ q.1 = 1)
/-- the numbers -/
def yOK (y : Nat → Nat) : Prop := (4 ≤ y 20 ∧ y 20 ≤ 8) ∧ (2 ≤ y 21 ∧ y 21 ≤ 3) ∧ (6 ≤ y 22 ∧ y 22 ≤ 16) ∧ (5 ≤ y 23 ∧ y 23 ≤ 16 ∧ ¬ y 6 = y 8)
/-- the SERVERS -/
def rsB (g : gcT) (h : hpT) (o w : Nat → Nat) (y : Nat → Nat) (ss : List Nat) (Ls : List lsT) (sv : List srA) (nm : Nat) : Prop := (ss.length = y 20 ∧ sv.length = y 20 ∧ Ls.length = y 20) ∧ (srvV h (y 1) ss ∧ o (y 1) = y 1) ∧ ∀ i, i < y 20 → srvR g h o w (y 20) (y 22) nm (ss.getD i 0) i (Ls.getD i ls0) (sv.getD i sr0)
/-- the DEAD LOGS -/
def rsC (g : gcT) (h : hpT) (o w : Nat → Nat) (y : Nat → Nat) (Ds : List (Nat × Nat)) (de : List (alT × Int32)) (nm : Nat) : Prop := Ds.length = de.length ∧ (Ds.map (·.1)).Nodup ∧ ∀ i, i < Ds.length → dedR g h o w (y 20) (y 22) nm (Ds.getD i (0, 0)) (de.getD i (([], none, none), 0))
/-- Coordinator's own -/
def rsD (g : gcT) (h : hpT) (o : Nat → Nat) (y : Nat → Nat) (R2 : arT) (Ds : List (Nat × Nat)) (ow : List Int32) (dd ff : Nat) : Prop := (hK h (y 4) = 4 ∧ o (y 4) = y 4 ∧ hR h 192 (y 4) = some (y 0)) ∧ (hR h 193 (y 4) = some (y 5) ∧ hK h (y 5) = 20 ∧ hN h (y 5) = 8 ∧ o (y 5) = y 4 ∧ ow.length = 8 ∧ ∀ i, i < 8 → hA h (y 5) i = ow.getD i 0) ∧ (hR h 194 (y 4) = some (y 6) ∧ tLs g h 4 (y 6) (Ds.map (·.1)) ∧ ownL h o (y 4) (y 6)) ∧ (hR h 195 (y 4) = some (y 7) ∧ svA h (y 7) R2 ∧ ownV o (y 7) R2 ∧ o (y 7) = y 4) ∧ (hR h 196 (y 4) = some (y 8) ∧ (∃ ms, tLs g h 6 (y 8) ms) ∧ ownL h o (y 4) (y 8)) ∧ hI h 197 (y 4) = nI dd ∧ hI h 198 (y 4) = nI ff
def crd (Ls : List lsT) (Ds : List (Nat × Nat)) : Nat := (Ls.map (fun p => p.2.1 + (match p.2.2 with | some q => q.2 | none => 0))).sum + (Ds.map (·.2)).sum
def fxC (g : gcT) (h : hpT) (y : Nat → Nat) : Nat := min (capO g h (y 3)) 170000 + min (capO g h (y 6)) 2100 + min (capO g h (y 8)) 2100
theorem pw_lnG : ∀ (l : List Nat) (N : Nat), l.Pairwise (· < ·) → (∀ x ∈ l, x < N) → l.length ≤ N := by
  intro l
  induction l with
  | nil => intro N _ _; exact Nat.zero_le _
  | cons a l ih =>
    intro N pw h
    rw [List.pairwise_cons] at pw
    have key : ∀ (l : List Nat) (a : Nat), l.Pairwise (· < ·) → (∀ x ∈ l, a < x) → (∀ x ∈ l, x < N) → a < N → l.length + (a + 1) ≤ N := by
      intro l
      induction l with
      | nil => intro a _ _ _ h; show 0 + (a + 1) ≤ N; omega
      | cons b l ih2 =>
        intro a pw h1 h2 h3
        rw [List.pairwise_cons] at pw
        have := ih2 b pw.2 pw.1 (fun x hx => h2 x (List.mem_cons_of_mem _ hx)) (h2 b List.mem_cons_self)
        have := h1 b List.mem_cons_self
        rw [List.length_cons]
        omega
    have := key l a pw.2 pw.1 (fun x hx => h x (List.mem_cons_of_mem _ hx)) (h a List.mem_cons_self)
    rw [List.length_cons]
    omega
theorem lgR_len {g : gcT} {h : hpT} {o : Nat → Nat} {N U L nx : Nat} {A : alT} (k : lgR g h o N U L nx A) : A.1.length ≤ nx := by
  obtain ⟨zs, kl, -, -, e⟩ := k
  have := pw_lnG (zs.map nmN) nx kl.1.2.2.2.2 (fun x hx => by
    obtain ⟨z, z1, z2⟩ := List.mem_map.mp hx
    rw [← z2]; exact kl.2.2.1 z z1)
  rw [List.length_map] at this
  rw [← e, List.length_map]
  exact this
theorem gS {α : Type} {l : List α} {i : Nat} {x d : α} (hi : i < l.length) : (l.set i x).getD i d = x := by
  rw [List.getD_eq_getElem?_getD, List.getElem?_set_self hi]; rfl
theorem gN {α : Type} {l : List α} {i j : Nat} {x d : α} (hi : ¬ j = i) : (l.set i x).getD j d = l.getD j d := by
  rw [List.getD_eq_getElem?_getD, List.getElem?_set_ne (fun z => hi z.symm), ← List.getD_eq_getElem?_getD]
section GLOB
variable {g : gcT} {o o' w w' : Nat → Nat} {y : Nat → Nat} {R R2 : arT} {h h' : hpT} {B : Nat → Prop} {c m N U L nx nx' k s i up : Nat} {tb : Int32} {A : alT} {p : lsT} {x : srA} {ss : List Nat} {Ls : List lsT} {sv : List srA} {nm : Nat} {Ds : List (Nat × Nat)} {de : List (alT × Int32)} {ow : List Int32} {dd ff : Nat} {q : Int32 × Nat × Int32 × Int32 × Int32}
theorem lgR.r (k : lgR g h o N U L nx A) : o L = L ∧ hK h L = 5 := by
  obtain ⟨zs, k1, -⟩ := k
  exact ⟨k1.2.1, k1.1.1.1⟩
theorem lgR.ll (k : lgR g h o N U L nx A) : ∃ ll, hR h 256 L = some ll ∧ hK h ll = 1 ∧ o ll = L ∧ ∃ zs : List svT, tLs g h 8 ll (zs.map (·.1)) ∧ zs.length = A.1.length := by
  obtain ⟨zs, k1, -, -, k4⟩ := k
  obtain ⟨-, ll, e, t, -⟩ := k1.1.1
  exact ⟨ll, e, t.1.1, (k1.1.2.1 ll e).1, zs, t, by rw [← k4, List.length_map]⟩
theorem lgQ.fr (wf : hWF h) (hg : gOK g h) (kq : lgQ g h o N U L nx k tb A) (cg : CG B c m h o h' o') (nB : ¬ B L) (hn : nx ≤ nx') : lgQ g h' o' N U L nx' k tb A := by
  obtain ⟨k1, k2, k3⟩ := kq
  obtain ⟨r, kL⟩ := k1.r
  obtain ⟨ll, e, kl, ol, zs, t, -⟩ := k1.ll
  have sL := cg.sm wf (a := L) (by rw [r, r]; exact nB) (by omega)
  refine ⟨(k1.fr wf hg cg nB).nxt hn, fun l' hl' => ?_, by rw [(sL.2.1 259).1]; exact k3⟩
  rw [(sL.2.1 256).2, e] at hl'
  cases hl'
  rw [capO.fr wf t cg.1 (cg.sm wf (by rw [ol, r]; exact nB) (by omega))]
  exact k2 ll e
theorem srvR.fr (wf : hWF h) (hg : gOK g h) (kq : srvR g h o w N U nx s i p x) (cg : CG B c m h o h' o') (n1 : ¬ B s) (n2 : ¬ B p.1) (n3 : ∀ z, p.2.2 = some z → ¬ B z.1) (hn : nx ≤ nx') (e1 : w' p.1 = w p.1) (e2 : ∀ z, p.2.2 = some z → w' z.1 = w z.1) : srvR g h' o' w' N U nx' s i p x := by
  obtain ⟨⟨a1, a2, a3⟩, ⟨b1, b2, b3, b4, b5, b6, b7⟩, d, e, ⟨f1, f2⟩, l⟩ := kq
  have ss := cg.sm wf (a := s) (by rw [a2, a2]; exact n1) (by omega)
  have f := fun f => (ss.2.1 f)
  refine ⟨⟨by rw [ss.1]; exact a1, by rw [cg.2.1 s (wf.lt (by omega))]; exact a2, by rw [(f 576).1]; exact a3⟩, ⟨by rw [(f 577).1]; exact b1, by rw [(f 578).1]; exact b2, by rw [(f 579).1]; exact b3, by rw [(f 580).1]; exact b4, by rw [(f 581).1]; exact b5, by rw [(f 582).1]; exact b6, by rw [(f 583).1]; exact b7⟩, d, by rw [(f 584).2]; exact e, ⟨f1.fr wf hg cg n2 hn, by rw [e1]; exact f2⟩, ?_⟩
  rcases l with ⟨l1, l2, l3⟩ | ⟨L', k', A', l1, l2, l3, l4, l5⟩
  · exact Or.inl ⟨l1, l2, by rw [(f 585).2]; exact l3⟩
  · exact Or.inr ⟨L', k', A', l1, l2, by rw [(f 585).2]; exact l3, l4.fr wf hg cg (n3 _ l1) hn, by rw [e2 _ l1]; exact l5⟩
theorem rsA.fr (wf : hWF h) (hg : gOK g h) (k : rsA g h o y R up q) (cg : CG B c m h o h' o') (n1 : ¬ B (y 0)) : rsA g h' o' y R up q := by
  obtain ⟨⟨xs, st⟩, ⟨i1, i2, i3, i4, i5⟩, z⟩ := k
  have ka := st.1.1
  have sa := cg.sm wf (a := y 0) (by rw [st.2.1.1, st.2.1.1]; exact n1) (by omega)
  have f := fun f => (sa.2.1 f).1
  exact ⟨⟨xs, stR.fr wf hg st cg n1⟩, ⟨by rw [f 642]; exact i1, by rw [f 647]; exact i2, by rw [f 649]; exact i3, by rw [f 650]; exact i4, by rw [f 651]; exact i5⟩, z⟩
theorem srvV.fr (wf : hWF h) (k : srvV h (y 1) ss) (se : Sm h h' (y 1)) (cg : CG B c m h o h' o') : srvV h' (y 1) ss := by
  obtain ⟨k1, k2, k3, k4⟩ := k
  refine ⟨by rw [se.1]; exact k1, by rw [se.2.2.1]; exact k2, k3, fun i hi => ⟨by rw [(se.2.2.2 i).2]; exact (k4 i hi).1, ?_⟩⟩
  have := (k4 i hi).2
  rw [(cg.1.2.1 _ (wf.lt (by omega))).1]; exact this
/-- all SERVERS but one stay -/
theorem rsB.upd (wf : hWF h) (hg : gOK g h) (kb : rsB g h o w y ss Ls sv nx) (cg : CG B c m h o h' o') (nB : ∀ j, j < y 20 → ¬ j = i → ¬ B (ss.getD j 0) ∧ ¬ B (Ls.getD j ls0).1 ∧ ∀ z, (Ls.getD j ls0).2.2 = some z → ¬ B z.1) (ne : ¬ B (y 1)) (hn : nx ≤ nx') (ew : ∀ j, j < y 20 → ¬ j = i → w' (Ls.getD j ls0).1 = w (Ls.getD j ls0).1 ∧ ∀ z, (Ls.getD j ls0).2.2 = some z → w' z.1 = w z.1) (ki : i < y 20 → srvR g h' o' w' (y 20) (y 22) nx' (ss.getD i 0) i p x) : rsB g h' o' w' y ss (Ls.set i p) (sv.set i x) nx' := by
  obtain ⟨⟨l1, l2, l3⟩, ⟨v, oe⟩, kb⟩ := kb
  have ke := v.1
  have se := cg.sm wf (a := y 1) (by rw [oe, oe]; exact ne) (by omega)
  refine ⟨⟨l1, by rw [List.length_set]; exact l2, by rw [List.length_set]; exact l3⟩, ⟨srvV.fr wf v se cg, by rw [cg.2.1 _ (wf.lt (by omega))]; exact oe⟩, fun j hj => ?_⟩
  by_cases e : j = i
  · subst e
    rw [gS (by omega), gS (by omega)]
    exact ki hj
  · rw [gN e, gN e]
    obtain ⟨n1, n2, n3⟩ := nB j hj e
    obtain ⟨w1, w2⟩ := ew j hj e
    exact srvR.fr wf hg (kb j hj) cg n1 n2 n3 hn w1 w2
theorem rsB.fr (wf : hWF h) (hg : gOK g h) (kb : rsB g h o w y ss Ls sv nx) (cg : CG B c m h o h' o') (nB : ∀ j, j < y 20 → ¬ B (ss.getD j 0) ∧ ¬ B (Ls.getD j ls0).1 ∧ ∀ z, (Ls.getD j ls0).2.2 = some z → ¬ B z.1) (ne : ¬ B (y 1)) (hn : nx ≤ nx') : rsB g h' o' w y ss Ls sv nx' := by
  obtain ⟨⟨l1, l2, l3⟩, ⟨v, oe⟩, kb⟩ := kb
  have ke := v.1
  have se := cg.sm wf (a := y 1) (by rw [oe, oe]; exact ne) (by omega)
  refine ⟨⟨l1, l2, l3⟩, ⟨srvV.fr wf v se cg, by rw [cg.2.1 _ (wf.lt (by omega))]; exact oe⟩, fun j hj => ?_⟩
  obtain ⟨n1, n2, n3⟩ := nB j hj
  exact srvR.fr wf hg (kb j hj) cg n1 n2 n3 hn rfl (fun _ _ => rfl)
theorem rsC.fr (wf : hWF h) (hg : gOK g h) (kc : rsC g h o w y Ds de nx) (cg : CG B c m h o h' o') (nB : ∀ j, j < Ds.length → ¬ B (Ds.getD j (0, 0)).1) (hn : nx ≤ nx') (ew : ∀ j, j < Ds.length → w' (Ds.getD j (0, 0)).1 = w (Ds.getD j (0, 0)).1) : rsC g h' o' w' y Ds de nx' := by
  obtain ⟨l, nd, kc⟩ := kc
  exact ⟨l, nd, fun j hj => ⟨(kc j hj).1.fr wf hg cg (nB j hj) hn, by rw [ew j hj]; exact (kc j hj).2⟩⟩
theorem rsD.fr (wf : hWF h) (hg : gOK g h) (kd : rsD g h o y R2 Ds ow dd ff) (cg : CG B c m h o h' o') (nB : ¬ B (y 4)) : rsD g h' o' y R2 Ds ow dd ff := by
  obtain ⟨⟨a1, a2, a3⟩, ⟨b1, b2, b3, b4, b5, b6⟩, ⟨c1, c2, c3⟩, ⟨d1, d2, d3, d4⟩, ⟨e1, ⟨ms, e2⟩, e3⟩, f1, f2⟩ := kd
  have k6 := c2.1.1
  have k7 := d2.1
  have k8 := e2.1.1
  have sk := cg.sm wf (a := y 4) (by rw [a2, a2]; exact nB) (by omega)
  have s5 := cg.sm wf (a := y 5) (by rw [b4, a2]; exact nB) (by omega)
  have s6 := cg.sm wf (a := y 6) (by rw [c3.1, a2]; exact nB) (by omega)
  have s7 := cg.sm wf (a := y 7) (by rw [d4, a2]; exact nB) (by omega)
  have s8 := cg.sm wf (a := y 8) (by rw [e3.1, a2]; exact nB) (by omega)
  refine ⟨⟨by rw [sk.1]; exact a1, by rw [cg.2.1 _ (wf.lt (by omega))]; exact a2, by rw [(sk.2.1 192).2]; exact a3⟩, ⟨by rw [(sk.2.1 193).2]; exact b1, by rw [s5.1]; exact b2, by rw [s5.2.2.1]; exact b3, by rw [cg.2.1 _ (wf.lt (by omega))]; exact b4, b5, fun i hi => by rw [(s5.2.2.2 i).1]; exact b6 i hi⟩, ⟨by rw [(sk.2.1 194).2]; exact c1, ?_, ownL.fr wf hg c2 c3 cg s6⟩, ⟨by rw [(sk.2.1 195).2]; exact d1, d2.ch wf cg.1 (fun f => (s7.2.1 f).2), ownV.fr wf d2 d3 cg.2.1, by rw [cg.2.1 _ (wf.lt (by omega))]; exact d4⟩, ⟨by rw [(sk.2.1 196).2]; exact e1, ⟨ms, ?_⟩, ownL.fr wf hg e2 e3 cg s8⟩, by rw [(sk.2.1 197).1]; exact f1, by rw [(sk.2.1 198).1]; exact f2⟩
  · exact c2.fr wf cg.1 s6 (fun d hd kd => cg.sm wf (by rw [c3.2 d hd kd, c3.1]; exact nB) (by omega))
  · exact e2.fr wf cg.1 s8 (fun d hd kd => cg.sm wf (by rw [e3.2 d hd kd, e3.1]; exact nB) (by omega))
end GLOB
