-- the model's room: recovery
section
variable {x x' v xr : Int32} {A A' D : alT} {B : Int32} {k e i j m c n up M t r a : Nat} {cl : List kcT} {y : Nat → Nat} {S S' : stA} {μ μ' : mT} {d : List (alT × Int32)} {ps : psT}
theorem tk2_D {gr : Int32} : tk2 y gr (setD S d) i = setD (tk2 y gr S i) d := by
  unfold tk2
  have c : sSf ((tSv (setD S d)).getD i sr0) = sSf ((tSv S).getD i sr0) := rfl
  rw [c]
  split <;> rfl
theorem sLN_S (ed : d.map (·.1) = (tDe S).map (·.1)) : sLN y (setD S d) = sLN y S := sLN_cg ed (fun _ => rfl)
theorem RJ.step5 (hy : yOK y) (l40 : cl40 cl) (cx : CX y cl B S) (rx : RX y cl S) (h : RJ y 5700 M j x D up S μ) (hi : i < y 20) (ht : t < 8) (hb : shrB ((tDe S).getD j d0A).2 (nI t) = 1) (hf : sFe ((tSv S).getD i sr0) = 0) (hl : sLo ((tSv S).getD i sr0) = 0) (di : DI D) (hu : upH (nI up) D) (hM : M + 520 ≤ 80000) : RJ y 5700 (M + 510) j x D up (tkS y (psA (rdP (nI up) D)) (dtb S j t) i t) (uR (tovM y μ i t x) 58 (8 * j + t) 0) ∧ toOK y μ i t x ∧ CX y cl B (tkS y (psA (rdP (nI up) D)) (dtb S j t) i t) ∧ RX y cl (tkS y (psA (rdP (nI up) D)) (dtb S j t) i t) := by
  obtain ⟨rj, -⟩ := RJ.step (i := i) (t := t) h hi ht di hu (by omega) hM
  obtain ⟨ri, ⟨hj, hD, b, hb8, eb⟩, tb⟩ := h
  obtain ⟨⟨p1, p2⟩, p3⟩ := tk_pre (up := nI up) cx rx hy l40 hj ht hb hi hf hl hD
  have l16 := cx.1.2.2
  have eds : ∀ Z : stA, tDe Z = tDe S → ((tDe S).set j (((tDe S).getD j d0A).1, ((tDe S).getD j d0A).2 &&& ((1 <<< (nI t &&& 31)) ^^^ (-1)))).map (·.1) = (tDe Z).map (·.1) := fun Z hZ => by
    rw [hZ]
    exact (stb_de S j (((tDe S).getD j d0A).2 &&& ((1 <<< (nI t &&& 31)) ^^^ (-1)))).1
  have et : tk1 (dtb S j t) i t = setD (tk1 S i t) ((tDe S).set j (((tDe S).getD j d0A).1, ((tDe S).getD j d0A).2 &&& ((1 <<< (nI t &&& 31)) ^^^ (-1)))) := rfl
  have s1 : sLN y (tk1 S i t) ≤ 5690 := by
    have := SL_le p2 hy p1.1.2.2
    rw [et, sLN_S (eds (tk1 S i t) rfl)] at this
    exact this
  have r1 := tkS_5 (i := i) (t := t) ri hi hj ht (tb i hi) (by rw [hD]; exact di) (by rw [hD]; exact hu) hM s1 (by
    rw [hD]
    intro l l2 el
    have e2 : tk2 y (psA (rdP (nI up) D)).1 (tk1 (dtb S j t) i t) i = setD (tk2 y (psA (rdP (nI up) D)).1 (tk1 S i t) i) ((tDe S).set j (((tDe S).getD j d0A).1, ((tDe S).getD j d0A).2 &&& ((1 <<< (nI t &&& 31)) ^^^ (-1)))) := by rw [et, tk2_D]
    have q := p3 l l2 (by rw [e2]; exact el)
    have := SL_le q.2.1 hy q.1.1.2.2
    rw [e2, apL_D, sLN_S (eds _ ((apl_o l _).2.1.trans (tk2_nm y _ (tk1 S i t) i).2.2.1))] at this
    exact this)
  obtain ⟨r1, r2⟩ := r1
  have q := p3 _ [] (List.append_nil _).symm
  have aux : ∀ ν : mT, (uR ν 58 (8 * j + t) 0).1 = ν.1 := fun _ => rfl
  have l0 := r1.2.2.2.1
  have lenE : (uR (tovM y μ i t x) 58 (8 * j + t) 0).1.length ≤ 5700 := by
    rw [aux]
    exact l0
  obtain ⟨⟨m1, m2, m3, m4, m5, m6, m7, m8⟩, c1, c2⟩ := rj
  exact ⟨⟨⟨m1, m2, m3, lenE, m5, m6, m7, m8⟩, c1, c2⟩, r2, q.1, q.2.1⟩
theorem rcG_5 (hy : yOK y) (l40 : cl40 cl) (di : DI D) (hu : upH (nI up) D) : ∀ (n t M : Nat) (S : stA) (μ : mT) (k : Nat), t + n = 8 → RJ y 5700 M j x D up S μ → CX y cl B S → RX y cl S → M + 520 * (n + 1) ≤ 80000 → RJ y 5700 (M + 510 * n) j x D up ((List.range' t n).foldl (rcT y (psA (rdP (nI up) D)) j) (S, k)).1 (rcG y j x (List.range' t n) μ).1 ∧ rcOK y j x (List.range' t n) μ := by
  intro n
  induction n with
  | zero => intro t M S μ k e h _ _ _; exact ⟨h, trivial⟩
  | succ n ih =>
    intro t M S μ k e h cx rx hM
    have hM3 := ar_2 hM
    have h0 := h
    obtain ⟨ri, ⟨hj, hD, b, hb8, eb⟩, tb⟩ := h
    have ht : t < 8 := by omega
    have r58 := (ri.1.2.2.2.2.2.1 j hj).2.1 t ht
    have sh := sh_01 (t := t) hb8 ht
    rw [← eb] at sh
    rw [List.range'_succ, List.foldl_cons]
    by_cases q : shrB ((tDe S).getD j d0A).2 (nI t) = 1
    · have nz : ¬ μ.2.1 58 (8 * j + t) = 0 := by rw [r58, q]; decide
      cases en : noM y μ with
      | none =>
        have hn : heirA y S = none := (he_R ri.1).trans en
        have eG : rcG y j x (t :: List.range' (t + 1) n) μ = (μ, 0) := by
          show (if _ then _ else _) = _
          rw [if_neg nz, en]
        have eT : rcT y (psA (rdP (nI up) D)) j (S, k) t = (S, k) := by
          unfold rcT
          split
          · rfl
          · dsimp only
            rw [hn]
        rw [eG, eT, rcT_no hn]
        refine ⟨⟨ri.mono (Nat.le_refl _) (by omega), ⟨hj, hD, b, hb8, eb⟩, tb⟩, ri.1.1, Or.inl nz, fun m em => ?_⟩
        rw [en] at em; cases em
      | some i =>
        have hn : heirA y S = some i := (he_R ri.1).trans en
        have hi := noM_lt en
        obtain ⟨o1, o2, o3⟩ := heirA_ok hn
        have eG : rcG y j x (t :: List.range' (t + 1) n) μ = rcG y j x (List.range' (t + 1) n) (uR (tovM y μ i t x) 58 (8 * j + t) 0) := by
          show (if _ then _ else _) = _
          rw [if_neg nz, en]
        have eT : rcT y (psA (rdP (nI up) D)) j (S, k) t = (tkS y (psA (rdP (nI up) D)) (dtb S j t) i t, k + 1) := by
          unfold rcT
          rw [if_neg (show ¬ ¬ ((((tDe S).getD j d0A).2 >>> (nI t &&& 31)) &&& 1) = 1 from fun w => w q)]
          dsimp only
          rw [hn]
        rw [eG, eT]
        obtain ⟨s1, s2, s3, s4⟩ := RJ.step5 (i := i) (t := t) hy l40 cx rx h0 hi ht q o2 o3 di hu hM3.1
        obtain ⟨j1, j2⟩ := ih (t + 1) (M + 510) _ _ (k + 1) (by omega) s1 s3 s4 hM3.2.1
        rw [show M + 510 * (n + 1) = M + 510 + 510 * n by omega]
        refine ⟨j1, ri.1.1, Or.inl nz, fun m em _ => ?_⟩
        rw [en] at em
        cases em
        exact ⟨s2, j2⟩
    · have q0 : shrB ((tDe S).getD j d0A).2 (nI t) = 0 := sh.resolve_right q
      have z0 : μ.2.1 58 (8 * j + t) = 0 := r58.trans q0
      have eG : rcG y j x (t :: List.range' (t + 1) n) μ = rcG y j x (List.range' (t + 1) n) μ := by
        show (if _ then _ else _) = _
        rw [if_pos z0]
      have eT : rcT y (psA (rdP (nI up) D)) j (S, k) t = (S, k) := by
        unfold rcT
        rw [if_pos (show ¬ ((((tDe S).getD j d0A).2 >>> (nI t &&& 31)) &&& 1) = 1 from q)]
      rw [eG, eT]
      obtain ⟨⟨u1, u2, u3⟩, j2⟩ := ih (t + 1) M S μ k (by omega) h0 cx rx hM3.2.2
      exact ⟨⟨u1.mono (Nat.le_refl _) (by omega), u2, u3⟩, ri.1.1, Or.inr j2, fun m _ nz => absurd z0 nz⟩
end
