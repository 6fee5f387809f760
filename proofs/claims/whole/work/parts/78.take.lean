/-! Coordinator.takeOver -/
def apS (y : Nat → Nat) (i : Nat) (S : stA) (p : pT) : stA := if (mkrS y S i (kU (pKd p)) 0).2.2.2 = 0 then rmW S i (mkrS y S i (kU (pKd p)) 0) else wrS (rmW S i (mkrS y S i (kU (pKd p)) 0)) i [p] 100
def apL (y : Nat → Nat) (i : Nat) (S : stA) (mv : List pT) : stA := mv.foldl (apS y i) S
def tbX (x : srA) (t : Nat) : srA := (sSt x, sFe x, sLo x, sTb x ||| (1 <<< (nI t &&& 31)), sSf x, sCu x, sMi x, sLg x, sLL x)
def sfX (x : srA) (v : Int32) : srA := (sSt x, sFe x, sLo x, sTb x, v, sCu x, sMi x, sLg x, sLL x)
def tk1 (S : stA) (i t : Nat) : stA := ((tSv S).set i (tbX ((tSv S).getD i sr0) t), S.2.1, (tOw S).set t (nI i), S.2.2.2)
def sfS (S : stA) (i : Nat) (v : Int32) : stA := ((tSv S).set i (sfX ((tSv S).getD i sr0) v), S.2)
def tk2 (y : Nat → Nat) (gr : Int32) (S : stA) (i : Nat) : stA := if gr ≤ sSf ((tSv S).getD i sr0) then S else rmW (sfS S i gr) i (opnS y (sfS S i gr) i 0)
def tkS (y : Nat → Nat) (ps : psT) (S : stA) (i t : Nat) : stA := apL y i (tk2 y ps.1 (tk1 S i t) i) (movA ps (sLg ((tSv (tk2 y ps.1 (tk1 S i t) i)).getD i sr0)) t)
def kmO (y : Nat → Nat) : Nat := nf 8 + (3 * y 22 + 2 * y 20) + nf 6 + 8
section TAKE
variable {g : gcT} {P : pmT} {o o' w w' : Nat → Nat} {y : Nat → Nat} {R R2 : arT} {h h' : hpT} {B : Nat → Prop} {i t c m : Nat} {ss : List Nat} {Ls : List lsT} {Ds : List (Nat × Nat)} {S S' : stA} {ps : psT} {kc km kc' km' : Nat} {ms : List Nat}
theorem StpK.tr (wf : hWF h) (ok : oOK o) {h1 h2 : hpT} {o1 : Nat → Nat} {L1 : List lsT} {c m : Nat} (cg : CG (Bk y) c m h o h1 o1) (cs : Cst g y h Ls Ds h1 L1 Ds kc km) (z : StpK g h1 o1 y R R2 ss L1 Ds kc' km' S' h2) : StpK g h o y R R2 ss Ls Ds (kc + kc') (km + km') S' h2 := by
  obtain ⟨o2, w2, L2, c2, m2, z1, z2, z3⟩ := z
  exact ⟨o2, w2, L2, _, _, z1, CG.tr wf ok cg z2, cs.tr z3⟩
theorem StpK.le (z : StpK g h o y R R2 ss Ls Ds kc km S' h') (h1 : kc ≤ kc') (h2 : km ≤ km') : StpK g h o y R R2 ss Ls Ds kc' km' S' h' := by
  obtain ⟨o2, w2, L2, c2, m2, z1, z2, z3, z4, z5⟩ := z
  exact ⟨o2, w2, L2, c2, m2, z1, z2, by omega, by omega, z5⟩
theorem apS_nm (y : Nat → Nat) (i : Nat) (S : stA) (p : pT) : tNm S ≤ tNm (apS y i S p) ∧ (tSv (apS y i S p)).length = (tSv S).length ∧ tNm (apS y i S p) = (mkrS y S i (kU (pKd p)) 0).2.1 ∧ tDe (apS y i S p) = tDe S ∧ tOw (apS y i S p) = tOw S ∧ tDs (apS y i S p) = tDs S ∧ tFo (apS y i S p) = tFo S := by
  unfold apS
  split
  · exact ⟨mkrA_len.2.1, List.length_set, rfl, rfl, rfl, rfl, rfl⟩
  · exact ⟨mkrA_len.2.1, List.length_set.trans List.length_set, rfl, rfl, rfl, rfl, rfl⟩
theorem apL_nm (y : Nat → Nat) (i : Nat) : ∀ (mv : List pT) (S : stA), tNm S ≤ tNm (apL y i S mv) ∧ (tSv (apL y i S mv)).length = (tSv S).length ∧ tDe (apL y i S mv) = tDe S ∧ tOw (apL y i S mv) = tOw S ∧ tDs (apL y i S mv) = tDs S ∧ tFo (apL y i S mv) = tFo S := by
  intro mv
  induction mv with
  | nil => intro S; exact ⟨Nat.le_refl _, rfl, rfl, rfl, rfl, rfl⟩
  | cons p mv ih =>
    intro S
    obtain ⟨a1, a2, -, a4, a5, a6, a7⟩ := apS_nm y i S p
    obtain ⟨b1, b2, b3, b4, b5, b6⟩ := ih (apS y i S p)
    exact ⟨Nat.le_trans a1 b1, b2.trans a2, b3.trans a4, b4.trans a5, b5.trans a6, b6.trans a7⟩
theorem RS.seg (kS : RS g h o w y R R2 ss Ls Ds S) (hi : i < y 20) : (∀ u ∈ (sLg ((tSv S).getD i sr0)).1, u.2.1.length ≤ y 22 ∧ u.1 < tNm S) ∧ (∀ u, hdG (sLg ((tSv S).getD i sr0)) = some u → u ∈ (sLg ((tSv S).getD i sr0)).1) := by
  obtain ⟨ll, xs, p1, p2, ⟨zs, kl, hd, lt, ea⟩, -⟩ := kS.prem hi
  constructor
  · intro u hu
    rw [← ea] at hu
    obtain ⟨z, hz, ez⟩ := List.mem_map.mp hu
    rw [← ez]
    refine ⟨?_, kl.2.2.1 z hz⟩
    show ((zPs z).map (pA h)).length ≤ _
    rw [List.length_map]
    exact (kl.1.sg z hz).2.2.1.2.1
  · intro u hu
    unfold hdG at hu
    split at hu
    · cases hu
    · exact List.mem_of_find?_eq_some hu
/-- one PART comes to SERVER i -/
theorem RS.ap {q : Nat} {p : pT} (hP6 : P 206 = cpyO) (kS : RS g h o w y R R2 ss Ls Ds S) (hi : i < y 20) (hq : gdP h q) (ep : pA h q = p) (hb : tNm (apS y i S p) ≤ 80000) {Q0 : hpT → Option Value → Prop} {x3 : Int32} (kk : ∀ h', StpK g h o y R R2 ss Ls Ds (9 * (tNm (apS y i S p) - tNm S)) (kmO y * (tNm (apS y i S p) - tNm S)) (apS y i S p) h' → Ev g P 15 121 [some (va_rf (some (y 4))), some (va_rf (some (ss.getD i 0))), some (.int (nI t)), some (.int x3), some (va_rf (some q))] [] h' Q0) (o4 : Option Value) : Ev g P 15 87 [some (va_rf (some (y 4))), some (va_rf (some (ss.getD i 0))), some (.int (nI t)), some (.int x3), o4] [va_rf (some q)] h Q0 := by
  obtain ⟨k0, k1, k4, kse, kde⟩ := kS.kinds
  have wf := kS.1.1
  have ok := kS.1.2.2
  have yo := kS.2.1.1
  have kD := kS.2.2.2.2.2
  have k7 := hq.1.1.1
  have e385 : hI h 385 q = kU (pKd p) := by rw [hq.1.1.2.1, ← ep]; rfl
  obtain ⟨apn1, apn2, apn3, -⟩ := apS_nm y i S p
  have hrm := RS.room (P := P) (need := kU (pKd p)) (lim := 0) hP6 kS hi (by rw [← apn3]; exact hb)
  rw [← e385, ← kD.1.2.2] at hrm
  have lsv := kS.2.2.2.1.1.2.1
  refine s_15_87 (c1 := fun b eb => by cases eb; exact k7) (k4 := k4) (k7 := k7) (e9 := kD.1.2.2) (k10 := k0) (hc := hrm) (kk := fun h1 v ⟨ev, st⟩ => ?_)
  rw [e385] at ev st
  rw [← apn3] at st
  refine s_15_106 (kt := fun z => kk h1 ?_) (kf := fun z => ?_)
  · have e : apS y i S p = rmW S i (mkrS y S i (kU (pKd p)) 0) := if_pos (by rw [← ev]; exact z)
    rw [e] at st ⊢
    exact st
  · have hne : ¬ (mkrS y S i (kU (pKd p)) 0).2.2.2 = 0 := by rw [← ev]; exact z
    have e : apS y i S p = wrS (rmW S i (mkrS y S i (kU (pKd p)) 0)) i [p] 100 := if_neg hne
    obtain ⟨o1, w1, L1, c1, m1, st1, st2, st3⟩ := st
    obtain ⟨k01, k11, k41, kse1, kde1⟩ := st1.kinds
    have hq1 := hq.cg wf st2
    have kD1 := st1.2.2.2.2.2
    obtain ⟨ll, xs, p1, p2, ⟨zs, kl, hd, lt, ea⟩, p4, -⟩ := st1.prem hi
    have gx : (tSv (rmW S i (mkrS y S i (kU (pKd p)) 0))).getD i sr0 = stLg ((tSv S).getD i sr0) (mkrS y S i (kU (pKd p)) 0).1 := gS (by omega)
    have gl : sLg ((tSv (rmW S i (mkrS y S i (kU (pKd p)) 0))).getD i sr0) = (mkrS y S i (kU (pKd p)) 0).1 := by rw [gx]; rfl
    have hseg := RS.seg kS hi
    have hneed : ∃ n, (n = 1 ∨ n = 2) ∧ kU (pKd p) = nI n := by
      unfold kU
      split
      · exact ⟨2, Or.inr rfl, rfl⟩
      · exact ⟨1, Or.inl rfl, rfl⟩
    obtain ⟨n, hn, en⟩ := hneed
    have hroom : ∃ u, hdG (mkrS y S i (kU (pKd p)) 0).1 = some u ∧ u.2.1.length + n ≤ y 22 := by
      have hne' := hne
      unfold mkrS at hne' ⊢
      rw [en] at hne' ⊢
      exact mkr_room ⟨yo.2.2.1.1, by have := yo.2.2.1.2; omega⟩ (by omega) (fun u hu => (hseg.1 u (hseg.2 u hu)).1) (fun u hu => (hseg.1 u hu).2) hne'
    obtain ⟨u, hu1, hu2⟩ := hroom
    rw [gl] at ea hd
    have hdT : ∃ T ∈ zs, hR h1 257 (L1.getD i ls0).1 = some T.1 ∧ u = aG h1 T := by
      rcases hd with ⟨-, q2⟩ | ⟨T, hT, q1, q2⟩
      · unfold hdG at hu1
        rw [q2] at hu1
        cases hu1
      · refine ⟨T, hT, q1, ?_⟩
        unfold hdG at hu1
        rw [q2, ← ea] at hu1
        have := find_nm kl.1 hT
        exact (Option.some.inj (this.symm.trans hu1)).symm
    obtain ⟨T, hT, hT1, eu⟩ := hdT
    have hlenT : (zPs T).length = u.2.1.length := by rw [eu]; show _ = ((zPs T).map (pA h1)).length; rw [List.length_map]
    have hhl : T.2.2.2.2.2.length ≤ 100 := by
      have := (kl.1.sg T hT).2.2.2.2.2.1
      have := yo.1.2
      omega
    have ls : lgS g h1 o1 (y 20) (y 22) (L1.getD i ls0).1 (tNm (rmW S i (mkrS y S i (kU (pKd p)) 0))) (sLg ((tSv (rmW S i (mkrS y S i (kU (pKd p)) 0))).getD i sr0)) zs := ⟨kl, by rw [gl]; exact hd, lt, by rw [gl]; exact ea⟩
    have hwr := RS.write (P := P) (r1 := none) (q := q) (cut := -1) (c := 100) st1 hi ls hT hT1 (fun z hz => by
      have hz : z = q := by simpa using hz
      rw [hz]
      exact ⟨hq1.1.1, hq1.1.2.1, fun e3 => absurd e3 hq1.1.2.2⟩) (by show (zPs T).length + 1 ≤ y 22; omega) (Or.inl ⟨rfl, hhl⟩)
    rw [← kD1.1.2.2] at hwr
    refine s_15_109 (k3 := k41) (e5 := kD1.1.2.2) (k6 := k01) (hc := hwr) (kk := fun h2 st' => kk h2 ?_)
    have est : [pA h1 q] = [p] := by rw [hq1.2, ep]
    have st' : StpK g h1 o1 y R R2 ss L1 Ds 0 0 (wrS (rmW S i (mkrS y S i (kU (pKd p)) 0)) i [pA h1 q] 100) h2 := st'
    rw [est, ← e] at st'
    exact StpK.tr wf ok st2 st3 st'
end TAKE
