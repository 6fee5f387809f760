-- what a tick asks: out of the INVARIANT
section
variable {A : alT} {y : Nat → Nat} {i k K N nm : Nat} {cl : List kcT} {B : Int32} {S : stA} {F : fcT} {μ : mT} {s : slT}
theorem CX.gq (h : CX y cl B S) (mr : MR y S μ) (l40 : cl40 cl) : GQ PV0 μ.1 := fun s hs n9 p hp => by
  obtain ⟨k0, l, n, ow, sv, de, dd, sp, lb⟩ := mr
  have key : ∀ A, LgR μ.1 (lLg s) A → LPx cl B A → PV0 p := fun A r lp => (lp.1 p (al_in (r.mem (List.mem_filter.mpr ⟨hs, decide_eq_true rfl⟩)) hp)).pv l40
  rcases lb s hs with w | ⟨i, i1, i2⟩ | ⟨i, i1, i2⟩ | ⟨j, j1, j2⟩
  · exact absurd w n9
  · have r := (sv i i1).2.2.2.1
    rw [← i2] at r
    exact key _ r (h.2.2.1 i i1).2.2.2.1.2.1
  · have r := (sv i i1).2.2.2.2
    rw [← i2] at r
    refine key _ r ?_
    have h8 := (h.2.2.1 i i1).2.2.2.2.2.2.2
    cases e : sLL ((tSv S).getD i sr0) with
    | none => exact ⟨(fun p hp => by cases hp), List.Pairwise.nil⟩
    | some D => exact (h8 D e).2
  · have r := (de j j1).2.2
    rw [← j2] at r
    refine key _ r ?_
    have gj : (tDe S).getD j d0A = (tDe S)[j] := by rw [List.getD_eq_getElem?_getD, List.getElem?_eq_getElem j1]; rfl
    rw [gj]
    exact (h.2.2.2.1 _ (List.getElem_mem j1)).1.2
theorem CX.dal (h : CX y cl B S) (hz : NZ S) (l40 : cl40 cl) : DAl S := fun j hj => by
  have gj : (tDe S).getD j d0A = (tDe S)[j] := by rw [List.getD_eq_getElem?_getD, List.getElem?_eq_getElem hj]; rfl
  rw [gj]
  have dx := h.2.2.2.1 _ (List.getElem_mem hj)
  obtain ⟨b, b1, b2⟩ := dx.2.1
  refine ⟨dx.1.2.di dx.1.1 l40, b, b1, ?_, b2⟩
  rcases Nat.eq_zero_or_pos b with w | w
  · subst w
    exact absurd b2 (hz _ (List.getElem_mem hj))
  · exact w
theorem CX.tbl (h : CX y cl B S) : TBl y S := fun i hi => (h.2.2.1 i hi).2.1
theorem lp_I1 (l40 : cl40 cl) (hg : ∀ u ∈ A.1, hG N u) (lp : LPx cl B A) : I1 N A := fun u hu => ⟨hg u hu, fun p hp k => by
  obtain ⟨c, n, c1, c2, c3, c4, c5⟩ := ((lp.1 p (al_in hu hp)).pv l40).2.1 k
  exact ⟨n, c2, c3, c5⟩⟩
theorem CX.i1 (h : CX y cl B S) (l40 : cl40 cl) : FA (I1 (y 20)) S := by
  refine ⟨fun x hx => ?_, fun d hd => lp_I1 l40 (fun u hu => ((h.2.2.2.1 d hd).1.1.2.1 u hu).2) (h.2.2.2.1 d hd).1.2⟩
  obtain ⟨i, hi, e⟩ := List.getElem_of_mem hx
  have gi : (tSv S).getD i sr0 = x := by rw [List.getD_eq_getElem?_getD, List.getElem?_eq_getElem hi, ← e]; rfl
  have sx := h.2.2.1 i (by rw [← h.1.1]; exact hi)
  rw [gi] at sx
  refine ⟨lp_I1 l40 (fun u hu => (sx.2.2.2.1.1.2.1 u hu).2.1) sx.2.2.2.1.2.1, fun D hD => ?_⟩
  have := sx.2.2.2.2.2.2.2 D hD
  exact lp_I1 l40 (fun u hu => (this.1.2.1 u hu).2) this.2
theorem CX.ti (h : CX y cl B S) (hy : yOK y) (l40 : cl40 cl) : TI y S := by
  refine ⟨h.i1 l40, h.1.2.2, fun d hd => ?_⟩
  obtain ⟨x, x1, x2⟩ := List.mem_map.mp hd
  subst x2
  exact (((h.tda hy).lka hy).i1 l40).2 x x1
theorem CX.tkp (h : CX y cl B S) (hz : NZ S) (mr : MR y S μ) (hy : yOK y) (l40 : cl40 cl) (hT : μ.1.length < 2 ^ 31) (hl : tAw (tdA y S) = 0 → (ot3 y μ (y 20)).1.length ≤ 6000) (hn : tAw (tdA y S) = 0 → tNm (tkD y (tdA y S)).1.1 ≤ 75000) : tkP y S μ := by
  have h1 := h.tda hy
  have h2 := h1.lka hy
  have z1 : NZ (tdA y S) := fun d hd => hz d (by rw [tda_de.1] at hd; exact hd)
  have z2 := z1.lka h1 hy
  refine ⟨fun i hi => (h1.2.2.1 i hi).1, fun w => ⟨?_, fun i hi u hu => ((h2.2.2.1 i hi).2.2.2.1.1.2.1 u hu).1, hl w, h2.dal z2 l40, h2.tbl, hn w⟩⟩
  have m1 : MR y S (ot1 μ) := mr.num (fun k h1 _ _ => if_neg h1)
  obtain ⟨m2, -⟩ := td_all m1 hT (y 20) (Nat.le_refl _)
  have m2 : MR y (tdA y S) (ot2 y μ (y 20)) := m2
  obtain ⟨m3, -⟩ := lk_all m2 (fun i hi => (h1.2.2.1 i hi).1) (y 20) (Nat.le_refl _)
  have m3 : MR y (lkA y (tdA y S)) (ot3 y μ (y 20)) := m3
  exact h2.gq m3 l40
end
