-- the INVARIANT of the class, kept by every call
def CF (y : Nat → Nat) (F : fcT) (K : Nat) : Prop := CX y (fCl F) (nI K) (fSt F) ∧ NZ (fSt F) ∧ rqOK F ∧ AnI F ∧ NtI F
section
variable {A : alT} {y : Nat → Nat} {i c n k K p j : Nat} {cl : List kcT} {B ack x0 v : Int32} {S : stA} {F : fcT} {r : rqT} {μ : mT} {x : msT}
theorem FR.l40 (h : FR y F μ) : cl40 (fCl F) := fun c hc => (h.2.1.2 c hc).1.2
theorem FR.ntc (h : FR y F μ) (hp : p < 40) (e : fNt F p = some x) : x.1 < 6 ∧ 1 ≤ x.2.1 ∧ x.2.1 ≤ ((fCl F).getD x.1 cl0).1.length ∧ (x.2.2.2.2 = none → ∃ t, t < y 20 ∧ x.2.2.2.1 = some t) := by
  rcases h.2.2.1 p hp with ⟨-, w⟩ | ⟨x', e', -, h2, h3⟩
  · rw [e] at w; cases w
  · rw [e] at e'
    cases e'
    refine ⟨h3.1, h3.2.1, h3.2.2, fun z => ?_⟩
    rcases h2 with ⟨-, t, t1, t2, -, -⟩ | ⟨-, v, v1, -⟩
    · exact ⟨t, t1, t2⟩
    · rw [z] at v1; cases v1
theorem fnc_o : fCl (fncA F i) = fCl F ∧ fNt (fncA F i) = fNt F ∧ tDe (fSt (fncA F i)) = tDe (fSt F) ∧ tNm (fSt (fncA F i)) = tNm (fSt F) ∧ tOw (fSt (fncA F i)) = tOw (fSt F) := by
  unfold fncA
  split <;> exact ⟨rfl, rfl, rfl, rfl, rfl⟩
theorem CX.fnc (h : CX y cl B (fSt F)) (hi : i < y 20) : CX y cl B (fSt (fncA F i)) ∧ sFe ((tSv (fSt (fncA F i))).getD i sr0) = 0 ∧ sSt ((tSv (fSt (fncA F i))).getD i sr0) = sSt ((tSv (fSt F)).getD i sr0) := by
  have ls : i < (tSv (fSt F)).length := by rw [h.1.1]; exact hi
  unfold fncA
  split
  · refine ⟨h.fg hi, ?_, ?_⟩
    · show sFe (((tSv (fSt F)).set i _).getD i sr0) = 0
      rw [gd_eq ls]; rfl
    · show sSt (((tSv (fSt F)).set i _).getD i sr0) = _
      rw [gd_eq ls]; rfl
  · next w => exact ⟨h, Decidable.not_not.mp w, rfl⟩
theorem bit_K {tb ky : Int32} {b : Nat} (hb : b < 256) (eb : tb = nI b) (hk : k < 64) (ek : ky = nI k) (h : ¬ ((tb >>> ((ky / 8) &&& 31)) &&& 1) = 0) : tbK tb ky := by
  refine ⟨k / 8, by omega, by rw [ek, ky_8 hk], ?_⟩
  rw [ek, ← ky_bit tb hk] at h
  rw [eb] at h ⊢
  exact (sh_01 hb (by omega)).resolve_left h
theorem srv_o (hB : nI K ≤ nI (K + 1)) (h : CX y (fCl F) (nI K) (fSt F)) (hy : yOK y) (hK : K < 900) (hi : i < y 20) (hc : c < 6) (h1 : 1 ≤ n) (hn : n ≤ ((fCl F).getD c cl0).1.length) (ok : rqOK F) : (CX y (fCl F) (nI (K + 1)) (fSt (srvA y F i c n (rqF F c n) ack).1) ∧ fCl (srvA y F i c n (rqF F c n) ack).1 = fCl F ∧ fNt (srvA y F i c n (rqF F c n) ack).1 = fNt F ∧ tDe (fSt (srvA y F i c n (rqF F c n) ack).1) = tDe (fSt F)) := by
  obtain ⟨f1, f2, f3, f4, f5⟩ := fnc_o (F := F) (i := i)
  obtain ⟨g1, g2, -⟩ := h.fnc hi
  have eR : rqF F c n = rqF (fncA F i) c n := by unfold rqF; rw [f1]
  obtain ⟨o1, o2, o3⟩ := ok c hc (n - 1) (by omega)
  obtain ⟨k, k1, k2⟩ := inF_1 (n := 64) (by decide) (show ¬ inF (rqF F c n).2.1 (nI 64) = 0 by
    have o1 : inF (rqF F c n).2.1 64 = 1 := o1
    rw [show nI 64 = 64 from rfl, o1]; decide)
  unfold srvA
  generalize fncA F i = F1 at *
  rw [← f1] at g1 hn
  rw [← f1, ← f2, ← f3]
  have sx := g1.2.2.1 i hi
  obtain ⟨b, b1, b2⟩ := sx.2.1
  split
  · exact ⟨g1.mo hB clx_r, rfl, rfl, rfl⟩
  · next w =>
    have tk := bit_K b1 b2 k1 k2 w
    split
    · exact ⟨(g1.rm hy hi g2 (tb_lo sx tk)).mo hB clx_r, rfl, rfl, rfl⟩
    · unfold chgA
      split
      · exact ⟨g1.mo hB clx_r, rfl, rfl, rfl⟩
      · next w2 =>
        unfold erlA at w2
        split at w2
        · cases w2
        · next w3 =>
          have nf := Option.map_eq_none_iff.mp w2
          refine ⟨g1.kchgB hy hK hi g2 hc h1 hn eR k1 k2 (Decidable.not_not.mp w3) tk nf, ?_⟩
          unfold chgB
          split
          · exact ⟨rfl, rfl, rfl⟩
          · split
            · exact ⟨rfl, rfl, rfl⟩
            · split <;> exact ⟨rfl, rfl, rfl⟩
end
