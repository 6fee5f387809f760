-- the INVARIANT of the class, kept by every call
section
variable {A : alT} {y : Nat → Nat} {i n K p j : Nat} {cl : List kcT} {B x0 v c k ky a b x fr to : Int32} {S : stA} {F F' : fcT} {r : rqT} {μ : mT} {o : Option msT}
theorem CF.nt (h : CF y F K) (e1 : fSt F' = fSt F) (e2 : fCl F' = fCl F) (hn : NtI F') : CF y F' K := by
  obtain ⟨a1, a2, a3, a4, a5⟩ := h
  refine ⟨by rw [e1, e2]; exact a1, by rw [e1]; exact a2, ?_, ?_, hn⟩
  · unfold rqOK at a3 ⊢
    rw [e2]; exact a3
  · unfold AnI at a4 ⊢
    rw [e2]; exact a4
theorem NtI_u (h : NtI F) (ho : ∀ x v, o = some x → x.2.2.2.2 = some v → x.2.2.2.1 = none) (e : fNt F' = u1 (fNt F) p o) : NtI F' := fun q x v h1 h2 => by
  rw [e] at h1
  unfold u1 at h1
  split at h1
  · exact ho x v h1 h2
  · exact h q x v h1 h2
theorem CF.st (h : CF y F K) (hx : CX y (fCl F) (nI K) S) (hz : NZ S) : CF y (setS F S) K := ⟨hx, hz, h.2.2.1, h.2.2.2.1, h.2.2.2.2⟩
theorem cf_post (h : CF y F K) : CF y (postA F i n ky).1 K := by
  unfold postA
  split
  · exact h
  · split
    · exact h
    · exact h.nt rfl rfl (NtI_u h.2.2.2.2 (fun x v e z => by cases e; cases z) rfl)
theorem cf_again (h : CF y F K) : CF y (agaA F c x).1 K := by
  unfold agaA
  split
  · exact h
  · exact cf_post h
theorem post_o : fSt (postA F i n ky).1 = fSt F ∧ fCl (postA F i n ky).1 = fCl F := by
  unfold postA
  split
  · exact ⟨rfl, rfl⟩
  · split <;> exact ⟨rfl, rfl⟩
theorem clg_eq {z : kcT} (hi : i < cl.length) : (cl.set i z).getD i cl0 = z := by
  rw [List.getD_eq_getElem?_getD, List.getElem?_set_self hi]; rfl
theorem clg_ne {z : kcT} (h : ¬ i = j) : (cl.set i z).getD j cl0 = cl.getD j cl0 := by
  rw [List.getD_eq_getElem?_getD, List.getElem?_set_ne h, ← List.getD_eq_getElem?_getD]
theorem rqg_lt {l : List rqT} (h : n < l.length) : (l ++ [r]).getD n rq0 = l.getD n rq0 := by
  rw [List.getD_eq_getElem?_getD, List.getElem?_append_left h, ← List.getD_eq_getElem?_getD]
theorem rqg_eq {l : List rqT} : (l ++ [r]).getD l.length rq0 = r := by
  rw [List.getD_eq_getElem?_getD, List.getElem?_append_right (Nat.le_refl _), Nat.sub_self]; rfl
theorem cf_keep (h : CF y F K) (l6 : (fCl F).length = 6) (hi : i < 6) (hk : inF r.2.1 64 = 1 ∧ ¬ r.1 < 0 ∧ ¬ 3 < r.1) : CF y (keepA F i r) K := by
  obtain ⟨a1, a2, a3, a4, a5⟩ := h
  have cx : clx (fCl F) ((fCl F).set i (((fCl F).getD i cl0).1 ++ [r], ((fCl F).getD i cl0).2)) := fun c n hc h1 h2 => by
    by_cases w : i = c
    · subst w
      rw [clg_eq (by omega)]
      refine ⟨?_, ?_⟩
      · rw [List.length_append]; omega
      · exact rqg_lt (by omega)
    · rw [clg_ne w]
      exact ⟨h2, rfl⟩
  refine ⟨a1.mo (Int32.le_refl _) cx, a2, fun c hc n hn => ?_, fun c hc n hn => ?_, a5⟩
  · have hn : n < (((fCl F).set i (((fCl F).getD i cl0).1 ++ [r], ((fCl F).getD i cl0).2)).getD c cl0).1.length := hn
    show inF ((((fCl F).set i (((fCl F).getD i cl0).1 ++ [r], ((fCl F).getD i cl0).2)).getD c cl0).1.getD n rq0).2.1 64 = 1 ∧ ¬ ((((fCl F).set i (((fCl F).getD i cl0).1 ++ [r], ((fCl F).getD i cl0).2)).getD c cl0).1.getD n rq0).1 < 0 ∧ ¬ 3 < ((((fCl F).set i (((fCl F).getD i cl0).1 ++ [r], ((fCl F).getD i cl0).2)).getD c cl0).1.getD n rq0).1
    by_cases w : i = c
    · subst w
      rw [clg_eq (by omega)] at hn ⊢
      rw [List.length_append, List.length_singleton] at hn
      by_cases w2 : n < ((fCl F).getD i cl0).1.length
      · rw [rqg_lt w2]
        exact a3 i hc n w2
      · have : n = ((fCl F).getD i cl0).1.length := by omega
        subst this
        rw [rqg_eq]
        exact hk
    · rw [clg_ne w] at hn ⊢
      exact a3 c hc n hn
  · have hn : (((fCl F).set i (((fCl F).getD i cl0).1 ++ [r], ((fCl F).getD i cl0).2)).getD c cl0).1.length ≤ n := hn
    show (((fCl F).set i (((fCl F).getD i cl0).1 ++ [r], ((fCl F).getD i cl0).2)).getD c cl0).2 n = none
    by_cases w : i = c
    · subst w
      rw [clg_eq (by omega)] at hn ⊢
      rw [List.length_append, List.length_singleton] at hn
      exact a4 i hc n (by omega)
    · rw [clg_ne w] at hn ⊢
      exact a4 c hc n hn
theorem cf_send (h : CF y F K) (l6 : (fCl F).length = 6) : CF y (sendA F c k ky a b).1 K := by
  unfold sendA
  split
  · exact h
  · next w =>
    split
    · exact h
    · split
      · exact h
      · split
        · exact h
        · obtain ⟨j, j1, j2⟩ := inF_1 (x := c) (n := 6) (by decide) (fun z => w (Or.inl z))
          have h1 := cf_post (i := c.toNatClampNeg) (n := ((fCl F).getD c.toNatClampNeg cl0).1.length + 1) (ky := ky) h
          obtain ⟨p1, p2⟩ := post_o (F := F) (i := c.toNatClampNeg) (n := ((fCl F).getD c.toNatClampNeg cl0).1.length + 1) (ky := ky)
          refine cf_keep h1 (by rw [p2]; exact l6) (by rw [j2, nI_clamp (by omega)]; exact j1) ⟨?_, fun z => w (Or.inr (Or.inl z)), fun z => w (Or.inr (Or.inr (Or.inl z)))⟩
          have : ¬ inF ky 64 = 0 := fun z => w (Or.inr (Or.inr (Or.inr z)))
          unfold inF at this ⊢
          split
          · next w => rw [if_pos w] at this; exact absurd rfl this
          · next w1 =>
            split
            · next w => rw [if_neg w1, if_pos w] at this; exact absurd rfl this
            · rfl
theorem cf_drop (h : CF y F K) : CF y (drpA F x).1 K := by
  unfold drpA
  split
  · exact h
  · exact h.nt rfl rfl (NtI_u h.2.2.2.2 (fun x v e => by cases e) rfl)
theorem msg_i {z : Nat × msT} (e : msgA F x = some z) : z.1 < 40 ∧ fNt F z.1 = some z.2 := by
  unfold msgA at e
  split at e
  · cases e
  · next w =>
    obtain ⟨m, m1, m2⟩ := inF_1 (x := x) (n := 40) (by decide) w
    obtain ⟨u, u1, u2⟩ := Option.map_eq_some_iff.mp e
    subst u2
    refine ⟨?_, u1⟩
    show x.toNatClampNeg < 40
    rw [m2, nI_clamp (by omega)]; exact m1
theorem cf_twice (h : CF y F K) : CF y (twiA F x).1 K := by
  unfold twiA
  split
  · exact h
  · next z1 z2 e =>
    split
    · exact h
    · obtain ⟨m1, m2⟩ := msg_i e
      exact h.nt rfl rfl (NtI_u h.2.2.2.2 (fun u v e z => by cases e; exact h.2.2.2.2 _ _ v m2 z) rfl)
theorem cf_crash (h : CF y F K) : CF y (crsA y F x).1 K := by
  unfold crsA
  split
  · exact h
  · next w =>
    split
    · exact h
    · by_cases hi : x.toNatClampNeg < y 20
      · exact h.st (h.1.bd hi) h.2.1
      · exact h.st (h.1.sv (i := x.toNatClampNeg) rfl rfl rfl (Nat.le_refl _) (fun z => absurd z hi)) h.2.1
theorem cf_moved (h : CF y F K) (hv : to = 0 ∨ to = 1 ∨ to = 2) : CF y (mvdA y F x fr to).1 K := by
  unfold mvdA
  split
  · exact h
  · split
    · exact h
    · by_cases hi : x.toNatClampNeg < y 20
      · exact h.st (h.1.st hi hv) h.2.1
      · exact h.st (h.1.sv (i := x.toNatClampNeg) rfl rfl rfl (Nat.le_refl _) (fun z => absurd z hi)) h.2.1
theorem cf_cut (hy : yOK y) (h : CF y F K) : CF y (cutA y F x v).1 K := by
  unfold cutA
  split
  · exact h
  · next w =>
    split
    · exact h
    · have hv : v = -1 ∨ ∃ k, k ≤ 3 ∧ v = nI k := by
        have w1 : ¬ v < -1 := fun z => w (Or.inr (Or.inl z))
        have w2 : v ≤ nI (y 21) := Decidable.not_not.mp (fun z => w (Or.inr (Or.inr z)))
        have y3 := hy.2.1.2
        by_cases e : v = -1
        · exact Or.inl e
        · have h0 : 0 ≤ v := by
            rw [Int32.le_iff_toInt_le]
            rw [Int32.lt_iff_toInt_lt] at w1
            have e' : ¬ v.toInt = (-1 : Int32).toInt := fun z => e (Int32.toInt_inj.mp z)
            have : (-1 : Int32).toInt = -1 := rfl
            rw [this] at w1 e'
            show (0 : Int32).toInt ≤ _
            have : (0 : Int32).toInt = 0 := rfl
            rw [this]
            omega
          obtain ⟨s, s1, s2⟩ := nI_B h0 w2 (by omega)
          exact Or.inr ⟨s, by omega, s2⟩
      by_cases hi : x.toNatClampNeg < y 20
      · exact h.st (h.1.cu hi hv) h.2.1
      · exact h.st (h.1.sv (i := x.toNatClampNeg) rfl rfl rfl (Nat.le_refl _) (fun z => absurd z hi)) h.2.1
theorem cf_coord (h : CF y F K) : CF y (corA F v) K := h.st h.1.aw h.2.1
theorem tk1_cn {st : fcT × Int32 × Nat} : fCl (tk1F y st).1 = fCl st.1 ∧ fNt (tk1F y st).1 = fNt st.1 := by
  unfold tk1F
  split <;> exact ⟨rfl, rfl⟩
theorem tkN_cn : ∀ n, fCl (tkN y F n).1 = fCl F ∧ fNt (tkN y F n).1 = fNt F := by
  intro n
  induction n with
  | zero => exact ⟨rfl, rfl⟩
  | succ n ih =>
    obtain ⟨t1, t2⟩ := tk1_cn (y := y) (st := tkN y F n)
    exact ⟨t1.trans ih.1, t2.trans ih.2⟩
theorem cf_tkN (hy : yOK y) (l40 : cl40 (fCl F)) (h : CF y F K) (n : Nat) : CF y (tkN y F n).1 K := by
  obtain ⟨a1, a2⟩ := tkN_CX (cl := fCl F) h.1 h.2.1 hy l40 n
  obtain ⟨e1, e2⟩ := tkN_cn (y := y) (F := F) n
  refine ⟨by rw [e1]; exact a1, a2, ?_, ?_, ?_⟩
  · unfold rqOK
    rw [e1]; exact h.2.2.1
  · unfold AnI
    rw [e1]; exact h.2.2.2.1
  · unfold NtI
    rw [e2]; exact h.2.2.2.2
theorem cf_tick (hy : yOK y) (l40 : cl40 (fCl F)) (h : CF y F K) : CF y (tickA y F x).1 K := by
  unfold tickA
  split
  · exact h
  · exact cf_tkN hy l40 h _
theorem CF.k1 (h : CF y F K) (hK : K < 900) : CF y F (K + 1) := ⟨h.1.mo ((nI_le_iff (by omega) (by omega)).mpr (by omega)) clx_r, h.2⟩
theorem cf_ans (h : CF y F K) (l6 : (fCl F).length = 6) (hi : i < 6) (h1 : 1 ≤ n) (hn : n ≤ ((fCl F).getD i cl0).1.length) {w : anT} : CF y (ansW F i n w) K := by
  obtain ⟨a1, a2, a3, a4, a5⟩ := h
  have cl1 : ∀ c, (((fCl F).set i (((fCl F).getD i cl0).1, u1 ((fCl F).getD i cl0).2 (n - 1) (some w))).getD c cl0).1 = ((fCl F).getD c cl0).1 := fun c => by
    by_cases w : i = c
    · subst w
      rw [clg_eq (by omega)]
    · rw [clg_ne w]
  refine ⟨a1.mo (Int32.le_refl _) (fun c n hc h1 h2 => ?_), a2, fun c hc m hm => ?_, fun c hc m hm => ?_, a5⟩
  · show n ≤ (((fCl F).set i _).getD c cl0).1.length ∧ (((fCl F).set i _).getD c cl0).1.getD (n - 1) rq0 = _
    rw [cl1 c]; exact ⟨h2, rfl⟩
  · have hm : m < (((fCl F).set i (((fCl F).getD i cl0).1, u1 ((fCl F).getD i cl0).2 (n - 1) (some w))).getD c cl0).1.length := hm
    rw [cl1 c] at hm
    have := a3 c hc m hm
    show inF ((((fCl F).set i (((fCl F).getD i cl0).1, u1 ((fCl F).getD i cl0).2 (n - 1) (some w))).getD c cl0).1.getD m rq0).2.1 64 = 1 ∧ ¬ ((((fCl F).set i (((fCl F).getD i cl0).1, u1 ((fCl F).getD i cl0).2 (n - 1) (some w))).getD c cl0).1.getD m rq0).1 < 0 ∧ ¬ 3 < ((((fCl F).set i (((fCl F).getD i cl0).1, u1 ((fCl F).getD i cl0).2 (n - 1) (some w))).getD c cl0).1.getD m rq0).1
    rw [cl1 c]
    exact this
  · have hm : (((fCl F).set i (((fCl F).getD i cl0).1, u1 ((fCl F).getD i cl0).2 (n - 1) (some w))).getD c cl0).1.length ≤ m := hm
    rw [cl1 c] at hm
    show (((fCl F).set i (((fCl F).getD i cl0).1, u1 ((fCl F).getD i cl0).2 (n - 1) (some w))).getD c cl0).2 m = none
    by_cases w : i = c
    · subst w
      rw [clg_eq (by omega)]
      show u1 _ _ _ m = none
      unfold u1
      rw [if_neg (by omega)]
      exact a4 i hc m hm
    · rw [clg_ne w]
      exact a4 c hc m hm
theorem cf_deliver (h : CF y F K) (hr : FR y F μ) (hy : yOK y) (hK : K < 800) : CF y (dlvA y F x).1 (K + 1) := by
  have hB : nI K ≤ nI (K + 1) := (nI_le_iff (by omega) (by omega)).mpr (by omega)
  have h0 := h.k1 (by omega)
  have net : ∀ j, CF y (netA F j none) (K + 1) := fun j => h0.nt rfl rfl (NtI_u h.2.2.2.2 (fun x v e => by cases e) rfl)
  unfold dlvA
  split
  · exact h0
  · next j m e =>
    obtain ⟨m1, m2⟩ := msg_i e
    obtain ⟨n1, n2, n3, n4⟩ := hr.ntc m1 m2
    split
    · next v hv =>
      split
      · exact net j
      · split
        · exact cf_ans (net j) hr.2.1.1 n1 n2 n3
        · exact net j
    · next hv =>
      split
      · exact net j
      · next t ht =>
        split
        · exact net j
        · split
          · exact h0
          · obtain ⟨t', t1, t2⟩ := n4 hv
            have t2 : some t = some t' := ht.symm.trans t2
            cases t2
            obtain ⟨s1, s2, s3, s4⟩ := srv_o (ack := m.2.2.1) hB h.1 hy (by omega) t1 n1 n2 n3 h.2.2.1
            generalize srvA y F t m.1 m.2.1 (rqF F m.1 m.2.1) m.2.2.1 = Z at s1 s2 s3 s4
            have hz : CF y Z.1 (K + 1) := ⟨by rw [s2]; exact s1, fun d hd => h.2.1 d (by rw [← s4]; exact hd), by unfold rqOK; rw [s2]; exact h.2.2.1, by unfold AnI; rw [s2]; exact h.2.2.2.1, by unfold NtI; rw [s3]; exact h.2.2.2.2⟩
            unfold dlvZ
            split
            · exact hz.nt rfl rfl (NtI_u hz.2.2.2.2 (fun x v e => by cases e) rfl)
            · exact hz.nt rfl rfl (NtI_u hz.2.2.2.2 (fun x v e _ => by cases e; rfl) rfl)
end
