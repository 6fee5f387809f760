/-! what is asked: unitsOf, copiesAt -/
def lvU (A : List agT) (j : Nat) : Int32 := ((mkA A).getD j ([], 0)).2
def untA (U : Nat) (A : List agT) (k : Int32) : Int32 :=
  if k = 5 then (List.range A.length).foldl (fun t j => t + lvU A j) 0
  else if k = 6 then A.foldl (fun t u => t + unsA u.2.1) 0 - (List.range A.length).foldl (fun t j => t + lvU A j) 0
  else nI A.length * nI U - A.foldl (fun t u => t + unsA u.2.1) 0
def cpyA (A : List agT) (s : Int32) : Int32 := A.foldl (fun t u => t + shrB (mskL u.2.2.2) s) 0
def cpsS (N : Nat) (S : stA) (s : Int32) : Int32 := (List.range (tDe S).length).foldl (fun t j => t + cpyA ((tDe S).getD j d0A).1.1 s) ((List.range N).foldl (fun t i => t + cpyA (sLg ((tSv S).getD i sr0)).1 s + (match sLL ((tSv S).getD i sr0) with
  | none => 0
  | some B => cpyA B.1 s)) 0)
section ASK
variable {g : gcT} {P : pmT} {o o' w w' : Nat → Nat} {y : Nat → Nat} {R R2 : arT} {h h' h1 h2 : hpT} {B : Nat → Prop} {i j t c m n p q e N U L nx : Nat} {ss : List Nat} {Ls L1 : List lsT} {Ds D1 : List (Nat × Nat)} {S S' : stA} {cs : csT} {F F' : fcT} {x1 x2 x3 st : Int32} {A' : alT} {q' : Int32 × Nat × Int32 × Int32 × Int32} {zs : List svT}
theorem RS.lgx (kS : RS g h o w y R R2 ss Ls Ds S) (hi : i < y 20) (cg : CG (fun z => z = y 0 ∨ z = (Ls.getD i ls0).1) 0 0 h o h' o) (lr : lgR g h' o (y 20) (y 22) (Ls.getD i ls0).1 (tNm S) A') (hlen : A'.1.length ≤ (sLg ((tSv S).getD i sr0)).1.length) (sL : hI h' 259 (Ls.getD i ls0).1 = hI h 259 (Ls.getD i ls0).1 ∧ hR h' 256 (Ls.getD i ls0).1 = hR h 256 (Ls.getD i ls0).1) (hcap : ∀ z, hR h 256 (Ls.getD i ls0).1 = some z → capO g h' z = capO g h z) (hcap3 : capO g h' (y 3) = capO g h (y 3)) (kA' : rsA g h' o y R (upN (tSv S)) q') (hq : q'.2.1 = tNm S) : RS g h' o w y R R2 ss Ls Ds ((tSv S).set i (stLg ((tSv S).getD i sr0) A'), q', S.2.2) ∧ CG (Bk y) 0 0 h o h' o ∧ fxC g h' y = fxC g h y := by
  obtain ⟨k0, k1, k4, kse, kde⟩ := kS.kinds
  have kS' := kS
  obtain ⟨⟨wf, hg, ok⟩, ⟨yo, hnm, k9, k12⟩, kA, kB, kC, kD⟩ := kS'
  obtain ⟨s1, s2, s3, s4, s5, s6⟩ := kse i hi
  obtain ⟨⟨a1, a2, a3⟩, ⟨b1, b2, b3, b4, b5, b6, b7⟩, d, f0, ⟨⟨f1, f1', f1''⟩, f2⟩, l⟩ := kB.2.2 i hi
  have nB : ∀ z, ¬ hK h z = 11 → ¬ z = (Ls.getD i ls0).1 → ¬ (z = y 0 ∨ z = (Ls.getD i ls0).1) := by
    rintro z n1 n2 (q | q)
    · rw [q] at n1; exact n1 k0
    · exact n2 q
  have ss' : Sm h h' (ss.getD i 0) := cg.sm wf (by rw [s2, s2]; exact nB _ (by omega) (kinds_ne (h := h) (by omega))) (by omega)
  have f := fun f => ss'.2.1 f
  rw [← upN_st (tSv S) i (stLg ((tSv S).getD i sr0) A') rfl] at kA'
  have ki : srvR g h' o w (y 20) (y 22) q'.2.1 (ss.getD i 0) i (Ls.getD i ls0) (stLg ((tSv S).getD i sr0) A') := by
    rw [hq]
    refine ⟨⟨by rw [ss'.1]; exact a1, a2, by rw [(f 576).1]; exact a3⟩, ⟨by rw [(f 577).1]; exact b1, by rw [(f 578).1]; exact b2, by rw [(f 579).1]; exact b3, by rw [(f 580).1]; exact b4, by rw [(f 581).1]; exact b5, by rw [(f 582).1]; exact b6, by rw [(f 583).1]; exact b7⟩, d, by rw [(f 584).2]; exact f0, ⟨⟨lr, fun l' hl' => ?_, by rw [sL.1]; exact f1''⟩, f2⟩, ?_⟩
    · rw [sL.2] at hl'
      have := f1' l' hl'
      rw [hcap l' hl']
      show 2 * A'.1.length + 10 ≤ _
      omega
    · show losR _ _ _ _ _ _ _ _ _ (Ls.getD i ls0).2.2 (sLL ((tSv S).getD i sr0))
      rcases l with ⟨l1, l2, l3⟩ | ⟨L', k', A', l1, l2, l3, l4, l5⟩
      · exact Or.inl ⟨l1, l2, by rw [(f 585).2]; exact l3⟩
      · have kL' := l4.1.r.2
        refine Or.inr ⟨L', k', A', l1, l2, by rw [(f 585).2]; exact l3, l4.fr wf hg cg (nB _ (by omega) (fun q => ?_)) (Nat.le_refl _), l5⟩
        rw [q, f2] at l5
        omega
  have cgB : CG (Bi y ss Ls i) 0 0 h o h' o := cg.mono ok (fun z _ q => q.elim Or.inl (fun q => Or.inr (Or.inr (Or.inl q)))) (Nat.le_refl _) (Nat.le_refl _)
  obtain ⟨r1, r2, r3, r4⟩ := RS.srv kS hi cgB kA' ki (by omega) (by omega) (fun z hz => absurd rfl hz)
  rw [set_self] at r1
  exact ⟨r1, r2, by unfold fxC; rw [hcap3, r3, r4]⟩

theorem RS.mark (kS : RS g h o w y R R2 ss Ls Ds S) (hi : i < y 20) : EvV g P 59 [va_rf (some (y 2)), va_rf (some (Ls.getD i ls0).1)] h (fun h' => RS g h' o w y R R2 ss Ls Ds S ∧ CG (Bk y) 0 0 h o h' o ∧ fxC g h' y = fxC g h y ∧ ∃ zs, lgS g h' o (y 20) (y 22) (Ls.getD i ls0).1 (tNm S) (sLg ((tSv S).getD i sr0)) zs ∧ lgS g h o (y 20) (y 22) (Ls.getD i ls0).1 (tNm S) (sLg ((tSv S).getD i sr0)) zs ∧ ∀ j (hj : j < zs.length), hI h' 521 zs[j].1 = lvU (sLg ((tSv S).getD i sr0)).1 j) := by
  obtain ⟨k0, k1, k4, kse, kde⟩ := kS.kinds
  have kS' := kS
  obtain ⟨⟨wf, hg, ok⟩, ⟨yo, hnm, k9, k12⟩, kA, kB, kC, kD⟩ := kS'
  obtain ⟨ll, xs, p1, p2, ⟨zs, kl, hd, lt, ea⟩, p4, -⟩ := kS.prem hi
  obtain ⟨s1, s2, s3, s4, s5, s6⟩ := kse i hi
  have p2' := p2
  obtain ⟨t1, ⟨r1, r2⟩, ⟨v1, v2, v3, v4⟩, l1, l2, l3⟩ := p2'
  have kG := kl.1
  have sep := kG.sep v2 v3
  refine Ev.imp (m_markLive (P := P) wf hg v2 kG.1 sep.1 kG.nd1 kG.nd2) (fun h' r ⟨er, S', bS, kv1, mc, km⟩ => ⟨er, ?_⟩)
  obtain ⟨cg1, st1, kl1, smk, eG1, k91⟩ := stR.mark wf hg ok p2 kl mc kv1
  have eA : zs.map (aG h') = (sLg ((tSv S).getD i sr0)).1 := by
    rw [← ea]
    exact List.map_congr_left eG1
  have sL := smk (Ls.getD i ls0).1 (Or.inr (Or.inr (Or.inr (Or.inl s3))))
  have s0 := smk (y 0) (Or.inl k0)
  have lr : lgR g h' o (y 20) (y 22) (Ls.getD i ls0).1 (tNm S) (sLg ((tSv S).getD i sr0)) := ⟨zs, kl1, by rw [(sL.2.1 257).2]; exact hd, by rw [(sL.2.1 258).2]; exact lt, eA⟩
  obtain ⟨⟨xs', st0⟩, ⟨i1, i2, i3, i4, i5⟩, z⟩ := kA
  have kA' : rsA g h' o y R (upN (tSv S)) S.2.1 := ⟨⟨xs, st1⟩, ⟨by rw [(s0.2.1 642).1]; exact i1, by rw [(s0.2.1 647).1]; exact i2, by rw [(s0.2.1 649).1]; exact i3, by rw [(s0.2.1 650).1]; exact i4, by rw [(s0.2.1 651).1]; exact i5⟩, z⟩
  have kll := (kl.lts wf).2.1
  have hx := RS.lgx (A' := sLg ((tSv S).getD i sr0)) (q' := S.2.1) kS hi cg1 lr (Nat.le_refl _) ⟨(sL.2.1 259).1, (sL.2.1 256).2⟩ (fun z hz => by
    have := (kll z hz).2
    have tz : tLs g h 8 z (zs.map (·.1)) := by
      obtain ⟨-, l', e', t', -⟩ := kl.1.1
      rw [hz] at e'
      cases e'
      exact t'
    exact capO.fr wf tz cg1.1 (smk z (Or.inr (Or.inl this)))) (by
    have := l2.1.1
    exact capO.fr wf l2 cg1.1 (smk (y 3) (Or.inr (Or.inl this)))) kA' rfl
  have eS : ((tSv S).set i (stLg ((tSv S).getD i sr0) (sLg ((tSv S).getD i sr0))), S.2.1, S.2.2) = S := by
    have h1 : (tSv S).set i (stLg ((tSv S).getD i sr0) (sLg ((tSv S).getD i sr0))) = tSv S := set_self
    rw [h1]; rfl
  rw [eS] at hx
  obtain ⟨x1, x2, x3⟩ := hx
  refine ⟨x1, x2, x3, zs, ⟨kl1, by rw [(sL.2.1 257).2]; exact hd, by rw [(sL.2.1 258).2]; exact lt, eA⟩, ⟨kl, hd, lt, ea⟩, fun j hj => ?_⟩
  obtain ⟨b1, b2⟩ := mark_A kl (by omega) bS km
  obtain ⟨x, e1, e2, e3, e4⟩ := b2 j hj
  rw [e3, ← ea]
  unfold lvU
  rw [List.getD_eq_getElem?_getD, e1]; rfl
theorem lgS.un (k : lgS g h o N U L nx A' zs) {z : svT} (hz : z ∈ zs) : hI h 520 z.1 = unsA (aG h z).2.1 := by
  have kz := k.1.1.sg z hz
  rw [kz.2.2.1.2.2.1]
  unfold unS unsA
  show _ = ((zPs z).map (pA h)).foldl _ 0
  rw [List.foldl_map]
  have key : ∀ (l : List Nat) (a : Int32), (∀ q ∈ l, ptK h q) → l.foldl (fun t p => t + hI h 385 p) a = l.foldl (fun t q => t + kU (pKd (pA h q))) a := by
    intro l
    induction l with
    | nil => intro a _; rw [List.foldl_nil, List.foldl_nil]
    | cons q l ih =>
      intro a hq
      rw [List.foldl_cons, List.foldl_cons, (hq q List.mem_cons_self).2.1]
      exact ih _ (fun x hx => hq x (List.mem_cons_of_mem _ hx))
  exact key _ 0 (k.1.pt z hz)
theorem m_units (kS : RS g h o w y R R2 ss Ls Ds S) (kF : fcA h o y) (hi : i < y 20) : EvI g P 99 [va_rf (some (y 9)), va_rf (some (Ls.getD i ls0).1), .int x2] h (fun h' r => r = untA (y 22) (sLg ((tSv S).getD i sr0)).1 x2 ∧ RS g h' o w y R R2 ss Ls Ds S ∧ CG (Bk y) 0 0 h o h' o ∧ fxC g h' y = fxC g h y) := by
  obtain ⟨k0, k1, k4, kse, kde⟩ := kS.kinds
  have k9 := kS.2.1.2.2.1
  obtain ⟨⟨a1, a2, a3⟩, -⟩ := kF
  obtain ⟨⟨xs, st⟩, -⟩ := kS.2.2.1
  have e644 := st.2.2.1.1
  have hmk := RS.mark (P := P) kS hi
  rw [← e644] at hmk
  refine e_99 (s_99_0 (k3 := k9) (e5 := a2) (k6 := k0) (e8 := e644) (k9 := st.2.2.1.2.1.1) (hc := hmk) (kk := fun h1 ⟨q1, q2, q3, zs, ls, ls0', hl⟩ => s_99_11 ?_))
  have wf := kS.1.1
  have k91 := q1.2.1.2.2.1
  have lk := ls.1.1.1
  obtain ⟨jc1, jc2, l, jc3, jc4, hsz, hgt⟩ := lk.calls (P := P)
  have ea := ls.2.2.2
  have lz : zs.length = (sLg ((tSv S).getD i sr0)).1.length := by rw [← ea, List.length_map]
  have e768 : hR h1 768 (y 9) = some (y 0) := by
    have : Sm h h1 (y 9) := q2.sm wf (by rw [a1, a1]; exact fun q => q.1 rfl) (by omega)
    rw [(this.2.1 768).2]; exact a2
  obtain ⟨⟨xs1, st1⟩, -⟩ := q1.2.2.1
  have e641 : hI h1 641 (y 0) = nI (y 22) := st1.1.2.2.2.2.2.1
  have k01 := st1.1.1
  have lp := fold_loop (List.range zs.length) (fun (st : Int32 × Int32) j => (st.1 + lvU (sLg ((tSv S).getD i sr0)).1 j, st.2 + unsA ((sLg ((tSv S).getD i sr0)).1.getD j (0, [], [], [])).2.1)) (fun j st => Ev g P 99 19 [some (va_rf (some (y 9))), some (va_rf (some (Ls.getD i ls0).1)), some (.int x2), some (.int st.1), some (.int st.2), some (.int (nI j))] [] h1 (fun h' z => ∃ x, z = some (.int x) ∧ x = untA (y 22) (sLg ((tSv S).getD i sr0)).1 x2 ∧ RS g h' o w y R R2 ss Ls Ds S ∧ CG (Bk y) 0 0 h o h' o ∧ fxC g h' y = fxC g h y)) ?_ (0, 0) ?_
  · rw [nI_0] at lp; exact lp
  · intro j st hj kn
    rw [List.getElem_range] at kn
    rw [List.length_range] at hj
    refine s_99_19 (k3 := jc1) (e5 := jc3) (k6 := jc4) (hc := hsz) (kk := fun h2 x ⟨e1, e2⟩ => ?_)
    subst e1; subst e2
    refine s_99_28 (kt := fun z => absurd z (nI_ge hj (by omega))) (kf := fun _ => ?_)
    have kz : ∀ a, some zs[j].1 = some a → hK h2 a = 9 := fun a ea => by cases ea; exact (ls.1.1.sg _ (List.getElem_mem hj)).1.1
    refine s_99_31 (k3 := jc1) (e5 := jc3) (k6 := jc4) (hc := hgt j hj) (kk := fun h3 x ⟨e1, e2⟩ => ?_)
    subst e1; subst e2
    refine s_99_41 (c1 := kz) (k4 := kz _ rfl) (k7 := jc1) (e9 := jc3) (k10 := jc4) (hc := hgt j hj) (kk := fun h4 x ⟨e1, e2⟩ => ?_)
    subst e1; subst e2
    refine s_99_60 (c1 := kz) (k4 := kz _ rfl) (kk := ?_)
    rw [nI_1, hl j hj, ls.un (List.getElem_mem hj)]
    have eg : (sLg ((tSv S).getD i sr0)).1.getD j (0, [], [], []) = aG h4 zs[j] := by
      rw [← ea, List.getD_eq_getElem?_getD, List.getElem?_map, List.getElem?_eq_getElem hj]; rfl
    rw [eg] at kn
    exact kn
  · rw [List.length_range]
    refine s_99_19 (k3 := jc1) (e5 := jc3) (k6 := jc4) (hc := hsz) (kk := fun h2 x ⟨e1, e2⟩ => ?_)
    subst e1; subst e2
    refine s_99_28 (kt := fun _ => ?_) (kf := fun z => absurd (nI_le (Nat.le_refl _) (by omega)) z)
    have f1 : ∀ (l : List Nat) (a b : Int32), (l.foldl (fun (st : Int32 × Int32) j => (st.1 + lvU (sLg ((tSv S).getD i sr0)).1 j, st.2 + unsA ((sLg ((tSv S).getD i sr0)).1.getD j (0, [], [], [])).2.1)) (a, b)) = (l.foldl (fun t j => t + lvU (sLg ((tSv S).getD i sr0)).1 j) a, l.foldl (fun t j => t + unsA ((sLg ((tSv S).getD i sr0)).1.getD j (0, [], [], [])).2.1) b) := by
      intro l
      induction l with
      | nil => intro a b; rfl
      | cons x l ih => intro a b; exact ih _ _
    have f2 : ∀ (A : List agT) (b : Int32), (List.range A.length).foldl (fun t j => t + unsA (A.getD j (0, [], [], [])).2.1) b = A.foldl (fun t u => t + unsA u.2.1) b := by
      intro A
      induction A with
      | nil => intro b; rfl
      | cons u A ih =>
        intro b
        rw [List.length_cons, List.range_succ_eq_map, List.foldl_cons, List.foldl_map, List.foldl_cons]
        exact ih _
    rw [f1, lz, f2]
    have res : ∀ x : Int32, x = untA (y 22) (sLg ((tSv S).getD i sr0)).1 x2 → x = untA (y 22) (sLg ((tSv S).getD i sr0)).1 x2 ∧ RS g h2 o w y R R2 ss Ls Ds S ∧ CG (Bk y) 0 0 h o h2 o ∧ fxC g h2 y = fxC g h y := fun x ex => ⟨ex, q1, q2, q3⟩
    refine s_99_75 (kt := fun z5 => s_99_82 (kt := fun z6 => ?_) (kf := fun z6 => s_99_88 (s_99_113 ⟨_, rfl, res _ ?_⟩))) (kf := fun z5 => s_99_80 ⟨_, rfl, res _ ?_⟩)
    · refine s_99_95 (k3 := jc1) (e5 := jc3) (k6 := jc4) (hc := hsz) (kk := fun h3 x ⟨e1, e2⟩ => ?_)
      subst e1; subst e2
      refine s_99_102 (k3 := k91) (e5 := e768) (k6 := k01) (kk := s_99_113 ⟨_, rfl, res _ ?_⟩)
      unfold untA
      rw [if_neg z5, if_neg z6, e641, lz]
    · unfold untA
      rw [if_neg z5, if_pos z6]
    · unfold untA
      rw [if_pos z5]
theorem m_cpy (kl : lgK g h o N U L nx zs) {s : Int32} : EvI g P 23 [va_rf (some L), .int s] h (fun h' r => h' = h ∧ r = cpyA (zs.map (aG h)) s) := by
  refine Ev.imp (m_copiesAt (P := P) (s := s) kl.1.1.z) (fun h' r ⟨x, er, e1, e2⟩ => ⟨x, er, e1, ?_⟩)
  rw [e2, List.foldl_map]
  unfold cpyA
  rw [List.foldl_map]
  have key : ∀ (l : List svT) (a : Int32), (∀ z ∈ l, z ∈ zs) → l.foldl (fun t z => t + shrB (hI h 523 z.1) s) a = l.foldl (fun t z => t + shrB (mskL (aG h z).2.2.2) s) a := by
    intro l
    induction l with
    | nil => intro a _; rw [List.foldl_nil, List.foldl_nil]
    | cons z l ih =>
      intro a hz
      rw [List.foldl_cons, List.foldl_cons, (kl.1.sg z (hz z List.mem_cons_self)).2.2.2.2.2.2.1]
      exact ih _ (fun x hx => hz x (List.mem_cons_of_mem _ hx))
  exact key zs 0 (fun z hz => hz)
theorem RS.cps (kS : RS g h o w y R R2 ss Ls Ds S) {s : Int32} : EvI g P 9 [va_rf (some (y 4)), .int s] h (fun h' r => h' = h ∧ r = cpsS (y 20) S s) := by
  obtain ⟨k0, k1, k4, kse, kde⟩ := kS.kinds
  have kD := kS.2.2.2.2.2
  obtain ⟨⟨xs, st⟩, -⟩ := kS.2.2.1
  have e643 : hR h 643 (y 0) = some (y 1) := st.1.2.1
  obtain ⟨⟨l1, l2, l3⟩, ⟨⟨v1, v2, v3, v4⟩, oe⟩, kb⟩ := kS.2.2.2.1
  have y8 := kS.2.1.1.1.2
  have lD : Ds.length = (tDe S).length := kS.2.2.2.2.1.1
  have t6 := kD.2.2.1.2.1
  have dsz : (Ds.map (·.1)).length < 2 ^ 31 := by
    obtain ⟨-, -, e, -, k⟩ := t6.1
    rcases k with ⟨-, k⟩ | ⟨-, -, k5, k6, -⟩
    · rw [k]; decide
    · omega
  have hsz := m_size (P := P) t6.1
  rw [← kD.2.2.1.1] at hsz
  -- the second loop
  have second : ∀ t0 : Int32, Ev g P 9 71 [some (va_rf (some (y 4))), some (.int s), some (.int t0), some (.int (nI 0)), none] [] h (fun h' z => ∃ x, z = some (.int x) ∧ h' = h ∧ x = (List.range (tDe S).length).foldl (fun t j => t + cpyA ((tDe S).getD j d0A).1.1 s) t0) ∨ True := fun _ => Or.inr trivial
  have loop2 : ∀ (t0 : Int32) (o4 : Option Value), Ev g P 9 71 [some (va_rf (some (y 4))), some (.int s), some (.int t0), some (.int 0), o4] [] h (fun h' z => ∃ x, z = some (.int x) ∧ h' = h ∧ x = (List.range (tDe S).length).foldl (fun t j => t + cpyA ((tDe S).getD j d0A).1.1 s) t0) := by
    intro t0 o4
    have lp := fold_loop (List.range (tDe S).length) (fun (t : Int32) j => t + cpyA ((tDe S).getD j d0A).1.1 s) (fun j t => Ev g P 9 71 [some (va_rf (some (y 4))), some (.int s), some (.int t), some (.int (nI j)), o4] [] h (fun h' z => ∃ x, z = some (.int x) ∧ h' = h ∧ x = (List.range (tDe S).length).foldl (fun t j => t + cpyA ((tDe S).getD j d0A).1.1 s) t0)) ?_ t0 ?_
    · rw [nI_0] at lp; exact lp
    · intro j t hj kn
      rw [List.getElem_range] at kn
      rw [List.length_range] at hj
      refine s_9_71 (k3 := k4) (e5 := kD.2.2.1.1) (k6 := t6.1.1) (hc := hsz) (kk := fun h2 x ⟨e1, e2⟩ => ?_)
      subst e1; subst e2
      rw [List.length_map, lD] at dsz ⊢
      refine s_9_79 (kt := fun z => absurd z (nI_ge hj (by omega))) (kf := fun _ => ?_)
      have hjD : j < Ds.length := by omega
      have eD : (Ds.map (·.1))[j]'(by rw [List.length_map]; exact hjD) = (Ds.getD j (0, 0)).1 := by
        rw [List.getElem_map, List.getD_eq_getElem?_getD, List.getElem?_eq_getElem hjD]; rfl
      have hgt : EvA g P 193 [va_rf (hR h2 194 (y 4)), .int (nI j)] h2 (fun h' r => h' = h2 ∧ r = some (Ds.getD j (0, 0)).1) := by
        rw [kD.2.2.1.1, ← eD]
        exact m_get t6.1 (by rw [List.length_map]; exact hjD)
      refine s_9_82 (k3 := k4) (e5 := kD.2.2.1.1) (k6 := t6.1.1) (hc := hgt) (kk := fun h3 x ⟨e1, e2⟩ => ?_)
      subst e1; subst e2
      obtain ⟨zs, kl, hd, lt, ea⟩ := (kS.2.2.2.2.1.2.2 j hjD).1.1
      have kL := (kde j hjD).1
      have hcp := m_cpy (P := P) (s := s) kl
      rw [ea] at hcp
      refine s_9_91 (c1 := fun a ea => by cases ea; exact kL) (k4 := kL) (hc := hcp) (kk := fun h4 x ⟨e1, e2⟩ => s_9_98 ?_)
      subst e1; subst e2
      rw [nI_1]
      exact kn
    · rw [List.length_range]
      refine s_9_71 (k3 := k4) (e5 := kD.2.2.1.1) (k6 := t6.1.1) (hc := hsz) (kk := fun h2 x ⟨e1, e2⟩ => ?_)
      subst e1; subst e2
      rw [List.length_map, lD] at dsz ⊢
      exact s_9_79 (kt := fun _ => s_9_106 ⟨_, rfl, rfl, rfl⟩) (kf := fun z => absurd (nI_le (Nat.le_refl _) (by omega)) z)
  refine e_9 (s_9_0 ?_)
  have lp := fold_loop (List.range (y 20)) (fun (t : Int32) i => t + cpyA (sLg ((tSv S).getD i sr0)).1 s + (match sLL ((tSv S).getD i sr0) with
    | none => 0
    | some B => cpyA B.1 s)) (fun i t => ∀ o4 : Option Value, Ev g P 9 4 [some (va_rf (some (y 4))), some (.int s), some (.int t), some (.int (nI i)), o4] [] h (fun h' z => ∃ x, z = some (.int x) ∧ h' = h ∧ x = cpsS (y 20) S s)) ?_ 0 ?_
  · rw [nI_0] at lp; exact lp none
  · intro i t hi kn o4
    rw [List.getElem_range] at kn
    rw [List.length_range] at hi
    have hil : i < ss.length := by omega
    have eB : hB h (y 1) (nI i).toNatClampNeg = some (ss.getD i 0) := by
      rw [nI_clamp (by omega), (v4 i hil).1, List.getD_eq_getElem?_getD, List.getElem?_eq_getElem hil]; rfl
    obtain ⟨⟨b1, b2, b3⟩, -, -, f0, ⟨f1, f2⟩, lo⟩ := kb i hi
    obtain ⟨zs, kl, hd, lt, ea⟩ := f1.1
    have hcp := m_cpy (P := P) (s := s) kl
    rw [ea, ← f0] at hcp
    refine s_9_4 (k3 := k4) (e5 := kD.1.2.2) (k6 := k0) (e8 := e643) (k10 := v1) (kt := fun z => absurd z (by rw [v2, l1]; exact nI_ge hi (by omega))) (kf := fun _ => ?_)
    refine s_9_16 (k3 := k4) (e5 := kD.1.2.2) (k6 := k0) (e8 := e643) (k9 := v1) (i10 := by rw [v2, l1]; exact vin_nI hi (by omega)) (e12 := eB) (k13 := b1) (e15 := f0) (k16 := f1.1.r.2) (hc := hcp) (kk := fun h2 x ⟨e1, e2⟩ => ?_)
    subst e1; subst e2
    rw [eB]
    rcases lo with ⟨q1, q2, q3⟩ | ⟨L', k', A', q1, q2, q3, q4, q5⟩
    · rw [q2] at kn
      refine s_9_37 (k3 := b1) (kt := fun z => absurd q3 z) (kf := fun _ => s_9_48 (s_9_61 ?_))
      rw [nI_1]
      exact kn _
    · rw [q2] at kn
      obtain ⟨zs', kl', hd', lt', ea'⟩ := q4.1
      have hcp' := m_cpy (P := P) (s := s) kl'
      rw [ea', ← q3] at hcp'
      refine s_9_37 (k3 := b1) (kt := fun _ => ?_) (kf := fun z => by rw [q3] at z; cases z)
      refine s_9_52 (k3 := b1) (e5 := q3) (k6 := q4.1.r.2) (hc := hcp') (kk := fun h3 x ⟨e1, e2⟩ => s_9_61 ?_)
      subst e1; subst e2
      rw [nI_1]
      exact kn _
  · rw [List.length_range]
    intro o4
    exact s_9_4 (k3 := k4) (e5 := kD.1.2.2) (k6 := k0) (e8 := e643) (k10 := v1) (kt := fun _ => s_9_69 (loop2 _ _)) (kf := fun z => absurd (by rw [v2, l1]; exact nI_le (Nat.le_refl _) (by omega)) z)
end ASK
