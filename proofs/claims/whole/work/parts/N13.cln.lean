/-! the two sides: CLEANING -/
section CL
variable {T : List slT} {x x' c n : Int32} {A B : alT} {st : Nat → Int32} {k e i N U rep nm m up : Nat} {s s' : slT} {hd : Option Nat} {ps : List pT} {hs : List (Nat × Nat)} {G : List Nat}
theorem enS_1 : ∀ ps : List pT, enS (ps.map (fun p => (p, none))) = ps := by
  intro ps
  induction ps with
  | nil => rfl
  | cons p ps ih => rw [List.map_cons, enS_cons, ih]; rfl
theorem endL_1 : ∀ (ps : List pT) (n : Nat), endL n (ps.map (fun p => (p, none))) = (List.range ps.length).map (fun i => n + 1 + i) := by
  intro ps
  induction ps with
  | nil => intro n; rfl
  | cons p ps ih =>
    intro n
    rw [List.map_cons, List.length_cons, List.range_succ_eq_map, List.map_cons, List.map_map]
    show (n + 1) :: endL (n + 1) _ = (n + 1 + 0) :: _
    rw [ih]
    refine congrArg (_ :: ·) (List.map_congr_left (fun i _ => ?_))
    show n + 1 + 1 + i = n + 1 + (i + 1)
    omega
theorem updH_8 (h : hs.length ≤ 8) : updH hs 8 n.toNatClampNeg = hs.map (fun x => (x.1, n.toNatClampNeg)) := by
  refine List.ext_getElem (by rw [updH_len, List.length_map]) (fun i h1 h2 => ?_)
  rw [updH_get _ _ _ h1 (by rw [updH_len] at h1; exact h1), List.getElem_map, if_pos (by rw [updH_len] at h1; omega)]
theorem updH_a (h : hs.length ≤ c.toNatClampNeg) (n : Nat) : updH hs c.toNatClampNeg n = hs.map (fun x => (x.1, n)) := by
  refine List.ext_getElem (by rw [updH_len, List.length_map]) (fun i h1 h2 => ?_)
  rw [updH_get _ _ _ h1 (by rw [updH_len] at h1; exact h1), List.getElem_map, if_pos (by rw [updH_len] at h1; omega)]
theorem updH_all {c : Nat} (h : hs.length ≤ c) (n : Nat) : updH hs c n = hs.map (fun x => (x.1, n)) := by
  refine List.ext_getElem (by rw [updH_len, List.length_map]) (fun i h1 h2 => ?_)
  rw [updH_get _ _ _ h1 (by rw [updH_len] at h1; exact h1), List.getElem_map, if_pos (by rw [updH_len] at h1; omega)]
theorem cmP_f : ∀ (ps : List pT) (s : slT), hs.length ≤ 8 → lHo s = hs.map (fun x => (x.1, (lEn s).length)) → ps.foldl cmP s = (lLg s, lNm s, lOp s, lEn s ++ ps.map (fun p => (p, none)), hs.map (fun x => (x.1, (lEn s).length + ps.length))) := by
  intro ps
  induction ps with
  | nil =>
    intro s _ h
    rw [List.map_nil, List.append_nil, List.length_nil, Nat.add_zero, ← h]; rfl
  | cons p ps ih =>
    intro s h8 h
    rw [List.foldl_cons]
    have e : lHo (cmP s p) = hs.map (fun x => (x.1, (lEn (cmP s p)).length)) := by
      show updH (lHo s) 8 ((lEn s).length + 1) = hs.map (fun x => (x.1, (lEn s ++ [(p, none)]).length))
      rw [updH_all (by rw [h, List.length_map]; exact h8), h, List.map_map, List.length_append]
      rfl
    rw [ih (cmP s p) h8 e]
    show (lLg s, lNm s, lOp s, (lEn s ++ [(p, none)]) ++ _, hs.map (fun x => (x.1, (lEn s ++ [(p, none)]).length + ps.length))) = _
    rw [List.append_assoc, List.length_append, List.map_cons, List.length_cons]
    show (_, _, _, lEn s ++ ((p, none) :: _), hs.map (fun x => (x.1, (lEn s).length + 1 + ps.length))) = _
    have : (fun x : Nat × Nat => (x.1, (lEn s).length + 1 + ps.length)) = fun x => (x.1, (lEn s).length + (ps.length + 1)) := funext fun x => by rw [Nat.add_assoc, Nat.add_comm 1]
    rw [this]; rfl
theorem pk_ag (h8 : hs.length ≤ 8) (h0 : ∀ x ∈ hs, x.2 = 0) : ps.foldl cmP (x, nm, false, [], hs) = (x, nm, false, ps.map (fun p => (p, none)), hs.map (fun x => (x.1, ps.length))) ∧ agS (ps.foldl cmP (x, nm, false, [], hs)) = pkG nm hs ps := by
  have e := cmP_f (hs := hs) ps (x, nm, false, [], hs) h8 (by
    show hs = hs.map (fun x => (x.1, 0))
    have : hs.map (fun x => (x.1, 0)) = hs.map id := List.map_congr_left (fun x hx => by rw [← h0 x hx]; rfl)
    rw [this, List.map_id])
  have e' : ps.foldl cmP (x, nm, false, [], hs) = (x, nm, false, ps.map (fun p => (p, none)), hs.map (fun x => (x.1, ps.length))) := by
    rw [e]
    show (x, nm, false, [] ++ _, hs.map (fun x => (x.1, 0 + ps.length))) = _
    rw [List.nil_append, Nat.zero_add]
  refine ⟨e', ?_⟩
  rw [e']
  unfold agS pkG
  show (nm, enS (ps.map (fun p => (p, none))), endL 0 (ps.map (fun p => (p, none))), _) = _
  rw [enS_1, endL_1]
  have : (fun i => 0 + 1 + i) = fun i => i + 1 := funext fun i => by omega
  rw [this]; rfl
theorem insG_lt {lt : Option Nat} : ∀ (C G : List Nat), ∀ z ∈ C.foldl (insG st T lt) G, z ∈ G ∨ ¬ some z = lt := by
  intro C
  induction C with
  | nil => intro G z hz; exact Or.inl hz
  | cons k C ih =>
    intro G z hz
    rcases ih _ z hz with q | q
    · by_cases h : some k = lt
      · unfold insG at q
        rw [if_pos h] at q
        exact Or.inl q
      · rcases insG_mem q with q | q
        · subst q; exact Or.inr h
        · exact Or.inl q
    · exact Or.inr q
theorem clG_p (r : LgR T x A) (nb : NB T) : (clG st T x (chL T x)).Nodup ∧ ∀ k ∈ clG st T x (chL T x), k < T.length ∧ lLg (T.getD k sl0) = x ∧ ¬ A.2.2 = some (lNm (T.getD k sl0)) := by
  obtain ⟨-, e2⟩ := chL_A r nb
  obtain ⟨g1, g2, -⟩ := clG_ok (st := st) (T := T) (lt := laT T x) (chL T x) [] (by rw [List.nil_append]; exact (chT_ok _ _).2.1)
  refine ⟨g1, fun k hk => ?_⟩
  rcases g2 k hk with q | q
  · cases q
  · obtain ⟨k1, k2⟩ := e2 k q
    refine ⟨k1, k2, fun z => ?_⟩
    rcases insG_lt (st := st) (T := T) (chL T x) [] k hk with q | q
    · cases q
    · exact q ((r.la k1 k2).mpr z).symm
theorem epC_b {U : Int32} : ∀ (cs : List cT) (i : Nat) (t : Int32), i ≤ epC U cs i t ∧ epC U cs i t ≤ i + cs.length := by
  intro cs
  induction cs with
  | nil => intro i t; exact ⟨Nat.le_refl _, Nat.le_refl _⟩
  | cons c cs ih =>
    intro i t
    show i ≤ (if _ then _ else _) ∧ (if _ then _ else _) ≤ _
    split
    · obtain ⟨h1, h2⟩ := ih (i + 1) (t + c.2.1)
      rw [List.length_cons]
      omega
    · exact ⟨Nat.le_refl _, Nat.le_add_right _ _⟩
theorem rgL_nd : ∀ N, N < 9 → 4 ≤ N → ∀ b, b < N → ∀ m, m < N → (rgL N b 0 N m).Nodup := by decide +kernel
theorem ns_G (h4 : 4 ≤ N) (h8 : N ≤ 8) (hm : m < N) : nsM st N rep nm m (N - 1) = (rgL N ((7 * nm + 3 * m) % N) 0 N m).foldl (nsG st rep) [] := by
  have len := rgL_full N (by omega) h4 ((7 * nm + 3 * m) % N) (Nat.mod_lt _ (by omega)) m hm
  have := rg_take (nsG st rep) 0 (N - 1) (rgL N ((7 * nm + 3 * m) % N) 0 N m) [] (by omega)
  rw [← len, List.take_length] at this
  rw [← this, len]
  rfl
theorem ns_p (h4 : 4 ≤ N) (h8 : N ≤ 8) (hm : m < N) : ((nsM st N rep nm m (N - 1)).map (·.1)).Nodup ∧ (∀ x ∈ nsM st N rep nm m (N - 1), x.2 = 0 ∧ x.1 < N) ∧ (nsM st N rep nm m (N - 1)).length ≤ rep := by
  rw [ns_G h4 h8 hm]
  have := ns_ok (st := st) (N := N) (rep := rep) (rgL N ((7 * nm + 3 * m) % N) 0 N m) [] (by
    rw [List.map_nil, List.nil_append]
    exact rgL_nd N (by omega) h4 _ (Nat.mod_lt _ (by omega)) m hm) (fun x hx => by cases hx) (fun v hv => ((rgL_len (by omega) hm _ _).2 v hv).1) (fun x hx => by cases hx) (Nat.zero_le _)
  exact ⟨this.1, this.2.1, this.2.2.1⟩
theorem liP_mem {p : pT} (h : p ∈ liP st T k) : p ∈ enS (lEn (T.getD k sl0)) := by
  unfold liP at h
  obtain ⟨e, he, h⟩ := List.mem_flatMap.mp h
  have he := List.mem_range.mp he
  have hm : (lEn (T.getD k sl0)).getD e en0 ∈ lEn (T.getD k sl0) := by rw [at_E he]; exact List.getElem_mem he
  have one : ∀ i, p ∈ li1 st T k e i → p ∈ enP ((lEn (T.getD k sl0)).getD e en0) := fun i h => by
    unfold li1 at h
    split at h
    · cases h
    · split at h
      · rw [List.mem_singleton.mp h]; exact List.mem_cons_self
      · exact List.mem_cons_of_mem _ h
  refine List.mem_flatMap.mpr ⟨_, hm, ?_⟩
  unfold liE at h
  rcases List.mem_append.mp h with h | h
  · exact one 0 h
  · exact one 1 h
theorem rm_app (A : List agT) (n1 n2 : List Nat) : rmN A (n1 ++ n2) = rmN (rmN A n1) n2 := by
  unfold rmN
  rw [List.filter_filter]
  refine List.filter_congr (fun u _ => ?_)
  rw [List.contains_append, Bool.not_or, Bool.and_comm]
/-- what CLEANING leaves of the slots: the LOG's own, the others' -/
def clnQ (T T' : List slT) (x : Int32) (A' : alT) : Prop := LgR T' x A' ∧ (∀ x' B, ¬ x' = x → ¬ x' = 99 → LgR T x' B → LgR T' x' B) ∧ HOl T' ∧ NB T' ∧ EVT T'
theorem cln_R (r : LgR T (nI m) A) (ho : HOl T) (nb : NB T) (ev : EVT T) (pk : PKA A.1) (u : UPR st N up) (h4 : 4 ≤ N) (h8 : N ≤ 8) (hm : m < N) (hrep : rep ≤ 3) (hn : ∀ v ∈ A.1, v.1 < nm) (hnm : nm ≤ 90000) : clnQ T (clnM st N U rep nm m T).1 (nI m) ((clnA N U rep (nI up) nm m A.2.2 A.1).1, hd, A.2.2) ∧ (clnM st N U rep nm m T).2.1 = (clnA N U rep (nI up) nm m A.2.2 A.1).2.1 ∧ nI (clnM st N U rep nm m T).2.2 = (clnA N U rep (nI up) nm m A.2.2 A.1).2.2 := by
  have hx : nI m < 16 := by
    rw [show (16 : Int32) = nI 16 from rfl]
    exact nI_lt (by omega) (by decide)
  have h99 : ¬ nI m = 99 := fun z => by
    have := nI_inj (a := m) (b := 99) (by omega) (by omega) z
    omega
  have eC := clG_C (st := st) r ho nb ev hx pk
  obtain ⟨g1, g2⟩ := clG_p (st := st) r nb
  unfold clnM clnT
  generalize clG st T (nI m) (chL T (nI m)) = G at eC g1 g2
  have eZ : mZ st T G = clZ A.2.2 A.1 := by unfold mZ clZ; rw [eC]
  have eE : mEn st T U G = clE U A.2.2 A.1 := by unfold mEn clE; rw [eC, eZ]
  have eP : (mPk st T U G).flatMap (liP st T) = clP U A.2.2 A.1 := by
    unfold mPk clP
    rw [eZ, eE, ← eC, ← List.map_drop, ← List.map_take, List.flatMap_map]
    rfl
  have nmz : ∀ l : List Nat, l.map (fun k => lNm (T.getD k sl0)) = (l.map (cM st T)).map (·.1) := fun l => by rw [List.map_map]; rfl
  have eN1 : (G.take (mZ st T G)).map (fun k => lNm (T.getD k sl0)) = ((clC A.2.2 A.1).take (clZ A.2.2 A.1)).map (·.1) := by rw [nmz, List.map_take, eC, eZ]
  have eN2 : (mPk st T U G).map (fun k => lNm (T.getD k sl0)) = (((clC A.2.2 A.1).drop (clZ A.2.2 A.1)).take (clE U A.2.2 A.1 - clZ A.2.2 A.1)).map (·.1) := by
    unfold mPk
    rw [nmz, List.map_take, List.map_drop, eC, eZ, eE]
  have gT : ∀ k ∈ G.take (mZ st T G), k ∈ G := fun k hk => List.mem_of_mem_take hk
  have r1 := goL_R (hd := A.2.1) (G.take (mZ st T G)) T A r h99 (g1.sublist (List.take_sublist _ _)) (fun k hk => g2 k (gT k hk))
  have o1 : ∀ x' B, ¬ x' = nI m → ¬ x' = 99 → LgR T x' B → LgR (goL T (G.take (mZ st T G))) x' B := fun x' B n1 n2 rb => goL_O _ T rb n2 (fun k hk => ⟨(g2 k (gT k hk)).1, fun z => n1 (z.symm.trans (g2 k (gT k hk)).2.1)⟩)
  have lG : ∀ k ∈ G.take (mZ st T G), k < T.length := fun k hk => (g2 k (gT k hk)).1
  have ho1 : HOl (goL T (G.take (mZ st T G))) := goL_mem (P := fun s => ∀ z ∈ lHo s, z.2 ≤ (lEn s).length) (fun s h => h) _ T ho lG
  have nb1 : NB (goL T (G.take (mZ st T G))) := goL_mem (P := fun s => lNm s ≤ 100000) (fun s h => h) _ T nb lG
  have ev1 : EVT (goL T (G.take (mZ st T G))) := goL_mem (P := fun s => EV (lEn s)) (fun s h => h) _ T ev lG
  rw [eN1] at r1
  unfold clnA
  rw [eE, eZ, eP]
  rw [eZ] at r1 o1 ho1 nb1 ev1 lG eN1 gT
  by_cases q : 2 ≤ clE U A.2.2 A.1 - clZ A.2.2 A.1
  · rw [if_pos q, if_pos q]
    refine ⟨?_, rfl, rfl⟩
    obtain ⟨s1, s2, s3⟩ := ns_p (st := st) (rep := rep) (nm := nm) h4 h8 hm
    obtain ⟨a1, a2⟩ := pk_ag (x := nI m) (nm := nm) (ps := clP U A.2.2 A.1) (hs := nsM st N rep nm m (N - 1)) (by omega) (fun x hx => (s2 x hx).1)
    have ens := ns_MH (rep := rep) (nm := nm) u h4 h8 hm
    have pkp : ∀ k ∈ mPk st T U G, k ∈ G ∧ ¬ k ∈ G.take (clZ A.2.2 A.1) := fun k hk => by
      have hd := pk_mem k hk
      rw [eZ] at hd
      refine ⟨List.mem_of_mem_drop hd, fun z => ?_⟩
      have nd := g1
      rw [← List.take_append_drop (clZ A.2.2 A.1) G] at nd
      exact (List.nodup_append.mp nd).2.2 k z k hd rfl
    have nmA : ∀ k ∈ G, lNm (T.getD k sl0) < nm := fun k hk => hn (agS (T.getD k sl0)) (r.mem (fl_at (g2 k hk).1 (g2 k hk).2.1))
    have evN : EV (lEn ((clP U A.2.2 A.1).foldl cmP (nI m, nm, false, [], nsM st N rep nm m (N - 1)))) := by
      rw [a1]
      refine ⟨fun e he q hq => ?_, fun p hp => ?_⟩
      · obtain ⟨p, -, hp⟩ := List.mem_map.mp he
        subst hp
        cases hq
      · have hp : p ∈ enS ((clP U A.2.2 A.1).map (fun p => (p, none))) := hp
        rw [enS_1, ← eP] at hp
        obtain ⟨k, k1, k2⟩ := List.mem_flatMap.mp hp
        exact (ev _ (T_at (g2 k (pkp k k1).1).1)).2 p (liP_mem k2)
    have hoN : ∀ z ∈ lHo ((clP U A.2.2 A.1).foldl cmP (nI m, nm, false, [], nsM st N rep nm m (N - 1))), z.2 ≤ (lEn ((clP U A.2.2 A.1).foldl cmP (nI m, nm, false, [], nsM st N rep nm m (N - 1)))).length := by
      rw [a1]
      intro z hz
      obtain ⟨x, -, hx⟩ := List.mem_map.mp hz
      subst hx
      show (clP U A.2.2 A.1).length ≤ ((clP U A.2.2 A.1).map _).length
      rw [List.length_map]; exact Nat.le_refl _
    have lN : lLg ((clP U A.2.2 A.1).foldl cmP (nI m, nm, false, [], nsM st N rep nm m (N - 1))) = nI m ∧ lNm ((clP U A.2.2 A.1).foldl cmP (nI m, nm, false, [], nsM st N rep nm m (N - 1))) = nm ∧ lOp ((clP U A.2.2 A.1).foldl cmP (nI m, nm, false, [], nsM st N rep nm m (N - 1))) = false := by rw [a1]; exact ⟨rfl, rfl, rfl⟩
    generalize (clP U A.2.2 A.1).foldl cmP (nI m, nm, false, [], nsM st N rep nm m (N - 1)) = sN at a2 evN hoN lN
    rw [ens] at a2
    have r2 := r1.nw (s := sN) (hd := A.2.1) h99 lN.1 (fun v hv => by
      rw [lN.2.1]
      exact hn v (List.mem_filter.mp hv).1)
    rw [if_neg (by rw [lN.2.2]; decide)] at r2
    have at2 : ∀ k ∈ mPk st T U G, k < (nwT (goL T (G.take (clZ A.2.2 A.1))) sN).length ∧ (nwT (goL T (G.take (clZ A.2.2 A.1))) sN).getD k sl0 = T.getD k sl0 := fun k hk => by
      obtain ⟨k1, k2⟩ := pkp k hk
      have e1 := goL_oth (k := k) (G.take (clZ A.2.2 A.1)) T k2
      have l1 : k < (goL T (G.take (clZ A.2.2 A.1))).length := by rw [goL_len]; exact (g2 k k1).1
      have ne : ¬ k = nwI (goL T (G.take (clZ A.2.2 A.1))) := fun z => by
        have := nw_at (T := goL T (G.take (clZ A.2.2 A.1))) (by rw [← z]; exact l1)
        rw [← z, e1, (g2 k k1).2.1] at this
        exact h99 this
      obtain ⟨b1, b2⟩ := nwT_in l1 ne sN
      exact ⟨b1, b2.trans e1⟩
    have ndP : (mPk st T U G).Nodup := by
      unfold mPk
      exact (g1.sublist (List.drop_sublist _ _)).sublist (List.take_sublist _ _)
    have r3 := goL_R (hd := hd) (mPk st T U G) _ _ r2 h99 ndP (fun k hk => by
      obtain ⟨b1, b2⟩ := at2 k hk
      rw [b2]
      exact ⟨b1, (g2 k (pkp k hk).1).2⟩)
    have en : (mPk st T U G).map (fun k => lNm ((nwT (goL T (G.take (clZ A.2.2 A.1))) sN).getD k sl0)) = (mPk st T U G).map (fun k => lNm (T.getD k sl0)) := List.map_congr_left (fun k hk => by rw [(at2 k hk).2])
    rw [en] at r3
    have fin : rmN (rmN A.1 (((clC A.2.2 A.1).take (clZ A.2.2 A.1)).map (·.1)) ++ [agS sN]) ((mPk st T U G).map (fun k => lNm (T.getD k sl0))) = rmN A.1 (((clC A.2.2 A.1).take (clE U A.2.2 A.1)).map (·.1)) ++ [pkG nm (nsH (nI up) N rep nm m N) (clP U A.2.2 A.1)] := by
      have e1 : ∀ (a b : List agT) (ns : List Nat), rmN (a ++ b) ns = rmN a ns ++ rmN b ns := fun a b ns => List.filter_append _ _
      have e2 : rmN [agS sN] ((mPk st T U G).map (fun k => lNm (T.getD k sl0))) = [agS sN] := fil_all (fun v hv => by
        rw [List.mem_singleton.mp hv]
        have : ((mPk st T U G).map (fun k => lNm (T.getD k sl0))).contains (agS sN).1 = false := by
          refine Bool.eq_false_iff.mpr (fun z => ?_)
          rw [List.contains_iff_mem] at z
          obtain ⟨k, k1, k2⟩ := List.mem_map.mp z
          have k2 : lNm (T.getD k sl0) = lNm sN := k2
          have := nmA k (pkp k k1).1
          rw [k2, lN.2.1] at this
          exact Nat.lt_irrefl _ this
        rw [this]; rfl)
      have lE : clE U A.2.2 A.1 = clZ A.2.2 A.1 + (clE U A.2.2 A.1 - clZ A.2.2 A.1) := by omega
      rw [e1, e2, a2, ← rm_app, eN2, ← List.map_append, ← List.take_add, ← lE]
    rw [fin] at r3
    have in2 : ∀ s ∈ nwT (goL T (G.take (clZ A.2.2 A.1))) sN, s ∈ goL T (G.take (clZ A.2.2 A.1)) ∨ s = sN := fun s hs => nw_mem hs
    have lG2 : ∀ k ∈ mPk st T U G, k < (nwT (goL T (G.take (clZ A.2.2 A.1))) sN).length := fun k hk => (at2 k hk).1
    refine ⟨r3, fun x' B n1 n2 rb => ?_, ?_, ?_, ?_⟩
    · refine goL_O _ _ ((o1 x' B n1 n2 rb).nwo n2 (fun z => n1 (z.symm.trans lN.1))) n2 (fun k hk => ⟨lG2 k hk, fun z => n1 ?_⟩)
      rw [(at2 k hk).2, (g2 k (pkp k hk).1).2.1] at z
      exact z.symm
    · exact goL_mem (P := fun s => ∀ z ∈ lHo s, z.2 ≤ (lEn s).length) (fun s h => h) _ _ (fun s hs => by
        rcases in2 s hs with z | z
        · exact ho1 s z
        · rw [z]; exact hoN) lG2
    · exact goL_mem (P := fun s => lNm s ≤ 100000) (fun s h => h) _ _ (fun s hs => by
        rcases in2 s hs with z | z
        · exact nb1 s z
        · rw [z, lN.2.1]; omega) lG2
    · exact goL_mem (P := fun s => EV (lEn s)) (fun s h => h) _ _ (fun s hs => by
        rcases in2 s hs with z | z
        · exact ev1 s z
        · rw [z]; exact evN) lG2
  · rw [if_neg q, if_neg q]
    refine ⟨⟨r1, o1, ho1, nb1, ev1⟩, rfl, ?_⟩
    by_cases z : 0 < clZ A.2.2 A.1
    · rw [if_pos z, if_pos z]; rfl
    · rw [if_neg z, if_neg z]; rfl
end CL
