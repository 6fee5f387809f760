/-! the two sides: what a server reads of its own LOG; room before a READ -/
section SV
variable {x x' v xr ky c n : Int32} {A A' B D : alT} {k e i j N U rep nm m up L M t r a f : Nat} {y : Nat → Nat} {S S' : stA} {μ μ' : mT} {p : pT} {w : Nat × Nat × Nat}
theorem i_16 (h : i < 8) : nI i < 16 := by
  rw [show (16 : Int32) = nI 16 from rfl]
  exact nI_lt (by omega) (by decide)
theorem own_ob (mr : MR y S μ) (hi : i < y 20) (uq : UQ (allP (sLg ((tSv S).getD i sr0)))) (v1 : vr1 (allP (sLg ((tSv S).getD i sr0)))) : (obM μ (nI i) ky).map (ptM μ) = objA ky (sLg ((tSv S).getD i sr0)).1 := by
  have y8 := mr.1.1.1.2
  have a4 := (mr.2.2.2.2.1 i hi).2.2.2.1
  have ho : HOl μ.1 := SP.ho mr.2.2.2.2.2.2.2.1
  have pm := a4.all (st := μ.2.1 5) (i_16 (by omega))
  rw [a4.obG ho, obS_perm (uq.perm pm.symm) pm]
  exact (objA_S uq v1).symm
theorem own_re (mr : MR y S μ) (hi : i < y 20) (uq : UQ (allP (sLg ((tSv S).getD i sr0)))) : (reM μ (nI i) c n).map (ptM μ) = (allP (sLg ((tSv S).getD i sr0))).find? (resA c n) := by
  have y8 := mr.1.1.1.2
  have a4 := (mr.2.2.2.2.1 i hi).2.2.2.1
  have ho : HOl μ.1 := SP.ho mr.2.2.2.2.2.2.2.1
  have pm := a4.all (st := μ.2.1 5) (i_16 (by omega))
  rw [a4.reG ho]
  exact res_perm (uq.perm pm.symm) pm
theorem ptM_f (nz : ¬ cel μ w 0 = 0) (f : Nat) : cel μ w f = mPt (ptM μ w) f := by
  obtain ⟨qk, qe, qi⟩ := w
  have nz : ¬ mE ((lEn (μ.1.getD qk sl0)).getD qe en0) qi 0 = 0 := nz
  show mE ((lEn (μ.1.getD qk sl0)).getD qe en0) qi f = mPt (if qi = 0 then ((lEn (μ.1.getD qk sl0)).getD qe en0).1 else ((lEn (μ.1.getD qk sl0)).getD qe en0).2.getD (dgP 0)) f
  generalize (lEn (μ.1.getD qk sl0)).getD qe en0 = E at nz ⊢
  unfold mE at nz ⊢
  by_cases z : qi = 0
  · rw [if_pos z, if_pos z]
  · rw [if_neg z] at nz
    rw [if_neg z, if_neg z]
    cases e2 : E.2 with
    | none => rw [e2] at nz; exact absurd rfl nz
    | some p => rfl
theorem obM_k2 (e : obM μ x ky = some w) (mr : MR y S μ) : cel μ w 0 = 3 := by
  have : kdV μ 3 (obM μ x ky) := by
    refine tF_inv (p := kdV μ 3) (fun _ q => by cases q) (th_le (SP.ho mr.2.2.2.2.2.2.2.1)) (fun b k e i hk hl he hi hb => ?_)
    unfold objM
    cases b with
    | some _ => exact hb
    | none =>
      dsimp only
      split
      · exact fun _ q => by cases q
      · rename_i z
        split
        · exact fun _ q => by cases q
        · split
          · exact fun _ q => by cases q
          · intro _ q; cases q; exact Decidable.not_not.mp z
  exact this w e
/-- the HEAD's UNITS fit -/
def HU (U : Nat) (A : alT) : Prop := ∀ g, hdG A = some g → unsA g.2.1 ≤ nI U
theorem hg_B (mr : MR y S μ) (hT : μ.1.length < 2 ^ 31) (hi : i < y 20) (hu : HU (y 22) (sLg ((tSv S).getD i sr0))) : hdB (y 22) (nI (upN (tSv S))) 0 (sLg ((tSv S).getD i sr0)) = decide (¬ hgM μ i = 0) := by
  have upr := mr.upr
  obtain ⟨⟨k0, -⟩, ⟨l1, l2, l3, l4⟩, -, ow, sv, de, dd, sp, lb⟩ := mr
  obtain ⟨a1, b, c, d, e⟩ := sv i hi
  have y8 := k0.1.2
  unfold hdB
  rcases c with ⟨h1, h2⟩ | ⟨k, h1, h2, h3, h4⟩
  · have eg : hdG (sLg ((tSv S).getD i sr0)) = none := by unfold hdG; rw [h1]
    have e0 : hgM μ i = 0 := by unfold hgM; rw [if_pos h2]
    rw [eg, decide_eq_false (fun w => w e0)]
  · have eg := hd_G d h1 h3 h4
    have spk := sp _ (T_at h1)
    have ha := ho_all upr y8 ⟨spk.2.2.2.1.1, spk.2.2.2.1.2.1⟩
    have ek' : (nI k).toNatClampNeg = k := nI_clamp (by omega)
    have n1 : ¬ μ.2.1 10 i = -1 := by rw [h2]; exact nI_n1 (by omega)
    have fit := hu _ eg
    rw [eg]
    show (decide (mskL (lHo (μ.1.getD k sl0)) &&& (nI (upN (tSv S)) ^^^ (-1)) = 0) && decide (unsA (agS (μ.1.getD k sl0)).2.1 + 0 ≤ nI (y 22))) = _
    rw [Int32.add_zero, decide_eq_true fit, Bool.and_true]
    refine decide_eq_decide.mpr ?_
    rw [ha]
    unfold hgM
    rw [if_neg n1, h2, ek']
    by_cases q : hoU (μ.2.1 5) (μ.1.getD k sl0) = (lHo (μ.1.getD k sl0)).length
    · rw [if_pos q]; exact ⟨fun _ => by decide, fun _ => q⟩
    · rw [if_neg q]; exact ⟨fun w => absurd w q, fun w => absurd rfl w⟩
theorem rd_R (mr : MR y S μ) (hT : μ.1.length < 2 ^ 31) (hi : i < y 20) (li : LI (tNm S) (sLg ((tSv S).getD i sr0))) (hu : HU (y 22) (sLg ((tSv S).getD i sr0))) (hnm : (mkrS y S i 0 1).2.1 ≤ 80000) : MR y (rmW S i (mkrS y S i 0 1)) (rd1 y μ i).1 ∧ (rd1 y μ i).2 = (mkrS y S i 0 1).2.2.2 := by
  have hb := hg_B mr hT hi hu
  unfold mkrS mkrA at hnm ⊢
  unfold rd1
  by_cases q : hgM μ i = 0
  · rw [decide_eq_false (fun w => w q)] at hb
    rw [hb, if_neg (by decide)] at hnm
    rw [hb, if_neg (by decide), if_neg (show ¬ ¬ hgM μ i = 0 from fun w => w q)]
    exact opn_R mr hi li ⟨fun _ => rfl, fun _ => by decide⟩ hnm
  · rw [decide_eq_true q] at hb
    rw [hb, if_pos rfl, if_pos q]
    refine ⟨?_, rfl⟩
    have mr0 := mr
    obtain ⟨-, ⟨l1, l2, l3, l4⟩, ⟨n1, n2, n3, n4, n5, n6, n7, n8⟩, ow, sv, de, dd, sp, lb⟩ := mr
    obtain ⟨a1, a2, a3, a4, a5⟩ := sv i hi
    exact MR.log (A' := sLg ((tSv S).getD i sr0)) mr0 hi rmW_eq (fun _ _ _ => rfl) (fun _ _ _ _ _ => rfl) n2 (by rw [n3]; exact (Int32.add_zero _).symm) n4 n5 l4 a4 (fun _ _ _ _ r => r) a3 sp (fun s hs => Or.inr (lb s hs)) (fun _ _ _ _ h => h)
end SV
