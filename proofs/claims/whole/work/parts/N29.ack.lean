/-! the two sides: ACKED stays, whatever is opened and cleaned -/
section AK
variable {φ : pT → Prop} {T T' T2 : List slT} {x x' v n xr lim need cl : Int32} {A A' B : alT} {st : Nat → Int32} {k e i j N U rep nm m c c' dl r d t mem : Nat} {s s' : slT} {hd : Option Nat} {y : Nat → Nat} {S S' : stA} {μ μ' : mT} {z z' : srA} {en : enT} {p : pT} {up aw safe : Int32} {l np : List pT}
def irr (cl : Int32) (p : pT) : Prop := kT (pKd p) = 0 ∨ ¬ pCl p = cl
def rlv (cl : Int32) (p : pT) : Bool := decide (¬ kT (pKd p) = 0) && decide (pCl p = cl)
theorem irr_g (h : irr cl p) (w : Int32) : ackG cl w p = w := by
  unfold ackG
  rcases h with h | h
  · rw [if_pos h]
  · by_cases q : kT (pKd p) = 0
    · rw [if_pos q]
    · rw [if_neg q, if_pos h]
theorem irr_r : rlv cl p = false ↔ irr cl p := by
  unfold rlv irr
  by_cases q : kT (pKd p) = 0
  · rw [decide_eq_false (fun w => w q)]
    exact ⟨fun _ => Or.inl q, fun _ => rfl⟩
  · rw [decide_eq_true (show ¬ kT (pKd p) = 0 from q), Bool.true_and, decide_eq_false_iff_not]
    exact ⟨fun w => Or.inr w, fun w => w.resolve_left q⟩
theorem ack_fil : ∀ (l : List pT) (w : Int32), l.foldl (ackG cl) w = (l.filter (rlv cl)).foldl (ackG cl) w := by
  intro l
  induction l with
  | nil => intro w; rfl
  | cons a l ih =>
    intro w
    rw [List.foldl_cons, List.filter_cons]
    cases q : rlv cl a with
    | true => rw [if_pos rfl, List.foldl_cons]; exact ih _
    | false => rw [irr_g (irr_r.mp q), if_neg (by decide)]; exact ih _
theorem ack_w (hn : ∀ p ∈ np, irr cl p) : ackA (allP (wrtA A np c)) cl = ackA (allP A) cl := by
  unfold ackA
  rw [ack_fil, ack_fil (allP A)]
  congr 1
  unfold allP wrtA
  rw [List.filter_flatten, List.filter_flatten, List.map_map, List.map_map, List.map_map]
  congr 1
  refine List.map_congr_left (fun u _ => ?_)
  show (if some u.1 = A.2.1 then addG u np c else u).2.1.filter (rlv cl) = u.2.1.filter (rlv cl)
  split
  · show (u.2.1 ++ np).filter (rlv cl) = _
    rw [List.filter_append, fil_no (fun p hp => irr_r.mpr (hn p hp)), List.append_nil]
  · rfl
theorem allP_c {h1 h2 : Option Nat} {L : List agT} : allP (L, h1, h2) = (L.map (·.2.1)).flatten := rfl
theorem opn1_ack (mr : MR y S μ) (hi : i < y 20) (li : LI (tNm S) (sLg ((tSv S).getD i sr0))) (an : AN (allP (sLg ((tSv S).getD i sr0)))) {h1 h2 : Option Nat} : ackA (allP ((opn1 (y 20) (y 22) (y 21) (y 23) (nI (upN (tSv S))) (tNm S) i (sLg ((tSv S).getD i sr0))).1, h1, h2)) cl = ackA (allP (sLg ((tSv S).getD i sr0))) cl := by
  have upr := mr.upr
  obtain ⟨⟨k0, k1, k2, k3, k4⟩, ⟨l1, l2, l3, l4⟩, -, ow, sv, de, dd, sp, lb⟩ := mr
  obtain ⟨a1, a2, a3, a4, a5⟩ := sv i hi
  obtain ⟨yo1, yo2, yo3, yo4⟩ := k0
  unfold opn1
  generalize sLg ((tSv S).getD i sr0) = A at *
  split
  · obtain ⟨⟨c1, c2, c3, c4, c5⟩, c6, c7⟩ := cln_R (hd := none) (U := y 22) a4 (SP.ho sp) (SP.nb sp) (SP.ev sp) li.1 upr yo1.1 yo1.2 hi yo2.2 li.2 (by omega)
    have sub : ∀ p ∈ allP (((clnA (y 20) (y 22) (y 21) (nI (upN (tSv S))) (tNm S) i A.2.2 A.1).1, none, A.2.2) : alT), p ∈ allP A := fun p hp => by
      obtain ⟨u, u1, u2⟩ := allP_mem.mp hp
      obtain ⟨s, s1, s2⟩ := c1.mem' u1
      subst s2
      obtain ⟨t1, t2⟩ := fl_mem (F := []) s1
      have pl := cln_P (U := y 22) (st := μ.2.1 5) (N := y 20) (rep := y 21) (nm := tNm S) (P := fun s => lLg s = nI i → ∀ p ∈ enS (lEn s), p ∈ allP A) (fun s _ w => absurd w (fun w => nI_9 (m := i) (by omega) (Eq.symm w))) yo3.2 (fun s hs => (sp s hs).2.2.2.2.2) (fun ps hl hps _ => by
        obtain ⟨q1, q2, q3⟩ := ns_p (st := μ.2.1 5) (rep := y 21) (nm := tNm S) yo1.1 yo1.2 hi
        rw [(pk_ag (by omega) (fun x hx => (q2 x hx).1)).1]
        intro p hp
        have hp : p ∈ enS (ps.map (fun p => (p, none))) := hp
        rw [enS_1] at hp
        obtain ⟨s, e1, e2, e3⟩ := hps p hp
        exact allP_mem.mpr ⟨agS s, a4.mem (List.mem_filter.mpr ⟨e1, decide_eq_true e2⟩), e3⟩) (fun s hs w p hp => allP_mem.mpr ⟨agS s, a4.mem (List.mem_filter.mpr ⟨hs, decide_eq_true w⟩), hp⟩) a4 (SP.nb sp)
      exact pl s t1 t2 p u2
    show ackA (allP (((clnA (y 20) (y 22) (y 21) (nI (upN (tSv S))) (tNm S) i A.2.2 A.1).1, none, A.2.2) : alT)) cl = _
    exact keep_ack a4 c1 (SP.ho sp) (SP.nb sp) (SP.ev sp) yo1.1 yo1.2 hi yo2.2 (fun s hs => (sp s hs).2.2.2.2.2) an sub
  · rfl
theorem opn_ack (mr : MR y S μ) (hi : i < y 20) (li : LI (tNm S) (sLg ((tSv S).getD i sr0))) (an : AN (allP (sLg ((tSv S).getD i sr0)))) : ackA (allP (opnS y S i lim).1) cl = ackA (allP (sLg ((tSv S).getD i sr0))) cl := by
  have h := @opn1_ack cl i y S μ mr hi li an
  unfold opnS opnA
  split
  · rfl
  · split
    · exact h
    · rw [← h (h1 := none) (h2 := none), allP_c, allP_c, List.map_append, List.flatten_append]
      unfold ackA
      rw [List.foldl_append]
      exact irr_g (cl := cl) (p := dgP (sSf ((tSv S).getD i sr0))) (Or.inl rfl) _
theorem mkr_ack (mr : MR y S μ) (hi : i < y 20) (li : LI (tNm S) (sLg ((tSv S).getD i sr0))) (an : AN (allP (sLg ((tSv S).getD i sr0)))) : ackA (allP (mkrS y S i need lim).1) cl = ackA (allP (sLg ((tSv S).getD i sr0))) cl := by
  unfold mkrS mkrA
  split
  · rfl
  · exact opn_ack mr hi li an
theorem aps_lg (ls : i < (tSv S).length) : sLg ((tSv (apS y i S p)).getD i sr0) = if (mkrS y S i (kU (pKd p)) 0).2.2.2 = 0 then (mkrS y S i (kU (pKd p)) 0).1 else wrtA (mkrS y S i (kU (pKd p)) 0).1 [p] 100 := by
  unfold apS
  split
  · exact rm_lg ls
  · have e := rm_lg (S := S) (W := mkrS y S i (kU (pKd p)) 0) ls
    have l2 : i < (tSv (rmW S i (mkrS y S i (kU (pKd p)) 0))).length := by
      show i < ((tSv S).set i _).length
      rw [List.length_set]; exact ls
    show sLg (((tSv (rmW S i (mkrS y S i (kU (pKd p)) 0))).set i (stLg _ (wrtA (sLg ((tSv (rmW S i (mkrS y S i (kU (pKd p)) 0))).getD i sr0)) [p] 100))).getD i sr0) = _
    rw [e, List.getD_eq_getElem?_getD, List.getElem?_set_self l2]; rfl
theorem aps_ack (mr : MR y S μ) (hi : i < y 20) (li : LI (tNm S) (sLg ((tSv S).getD i sr0))) (an : AN (allP (sLg ((tSv S).getD i sr0)))) (hp : irr cl p) : ackA (allP (sLg ((tSv (apS y i S p)).getD i sr0))) cl = ackA (allP (sLg ((tSv S).getD i sr0))) cl := by
  have ls : i < (tSv S).length := by rw [mr.2.1.1]; exact hi
  rw [aps_lg ls]
  split
  · exact mkr_ack mr hi li an
  · rw [ack_w (fun w hw => by rw [List.mem_singleton.mp hw]; exact hp)]
    exact mkr_ack mr hi li an
theorem aps_nm (ls : i < (tSv S).length) (h : ∀ u ∈ (sLg ((tSv S).getD i sr0)).1, u.1 < tNm S) : (∀ u ∈ (sLg ((tSv (apS y i S p)).getD i sr0)).1, u.1 < tNm (apS y i S p)) ∧ tNm S ≤ tNm (apS y i S p) ∧ tNm (apS y i S p) ≤ tNm S + 2 ∧ tNm (apS y i S p) = (mkrS y S i (kU (pKd p)) 0).2.1 := by
  have en : tNm (apS y i S p) = (mkrS y S i (kU (pKd p)) 0).2.1 := by unfold apS; split <;> rfl
  have mk : (∀ u ∈ (mkrS y S i (kU (pKd p)) 0).1.1, u.1 < (mkrS y S i (kU (pKd p)) 0).2.1) ∧ tNm S ≤ (mkrS y S i (kU (pKd p)) 0).2.1 ∧ (mkrS y S i (kU (pKd p)) 0).2.1 ≤ tNm S + 2 := by
    unfold mkrS mkrA
    split
    · exact ⟨h, Nat.le_refl _, Nat.le_add_right _ _⟩
    · exact opnA_nm h
  rw [aps_lg ls, en]
  refine ⟨?_, mk.2.1, mk.2.2, rfl⟩
  split
  · exact mk.1
  · exact wrtA_nm mk.1
/-- other servers and the Coordinator's things stay -/
theorem aps_o : tOw (apS y i S p) = tOw S ∧ tDe (apS y i S p) = tDe S ∧ tAw (apS y i S p) = tAw S ∧ tDs (apS y i S p) = tDs S ∧ tFo (apS y i S p) = tFo S ∧ (∀ j, ¬ j = i → (tSv (apS y i S p)).getD j sr0 = (tSv S).getD j sr0) := by
  have st : ∀ (S : stA) (x : srA) (j : Nat), ¬ j = i → ((tSv S).set i x).getD j sr0 = (tSv S).getD j sr0 := fun S x j h => by
    rw [List.getD_eq_getElem?_getD, List.getElem?_set_ne (fun w => h w.symm), ← List.getD_eq_getElem?_getD]
  unfold apS
  split
  · exact ⟨rfl, rfl, rfl, rfl, rfl, fun j h => st S _ j h⟩
  · exact ⟨rfl, rfl, rfl, rfl, rfl, fun j h => (st (rmW S i (mkrS y S i (kU (pKd p)) 0)) _ j h).trans (st S _ j h)⟩
end AK
