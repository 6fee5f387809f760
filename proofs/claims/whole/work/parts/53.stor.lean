/-! the Storage, whole; letGo of a good LOG -/
section FRM
variable {g : gcT} {o o' : Nat → Nat} {h h' : hpT} {B : Nat → Prop} {c m l b cl : Nat} {xs : List Nat}
theorem tLs.fr {A : Nat → Prop} (w : hWF h) (k : tLs g h cl l xs) (x : Ch A c m h h') (sl : Sm h h' l) (se : ∀ e, hR h 1 l = some e → hK h e = 28 → Sm h h' e) : tLs g h' cl l xs := by
  obtain ⟨⟨b1, b2, e, b3, b4⟩, b5, b6⟩ := k
  refine ⟨⟨by rw [sl.1]; exact b1, by rw [(sl.2.1 2).1]; exact b2, e, by rw [(sl.2.1 1).2]; exact b3, ?_⟩, b5, fun y hy => ?_⟩
  · rcases b4 with b4 | ⟨d1, d2, d3, d4, d5⟩
    · exact Or.inl b4
    · have se := se e b3 d1
      refine Or.inr ⟨by rw [se.1]; exact d1, by rw [se.2.2.1]; exact d2, by rw [se.2.2.1]; exact d3, by rw [se.2.2.1]; exact d4, fun i hi => ?_⟩
      rw [(se.2.2.2 i).2]; exact d5 i hi
  · have := b6 y hy
    rw [(x.2.1 y (w.lt (by omega))).1]; exact this
theorem capO.fr (w : hWF h) (k : tLs g h cl l xs) {A : Nat → Prop} (x : Ch A c m h h') (sl : Sm h h' l) : capO g h' l = capO g h l := by
  obtain ⟨⟨b1, b2, e, b3, b4⟩, b5, b6⟩ := k
  unfold capO
  rw [(sl.2.1 1).2, b3]
  dsimp only
  by_cases q : e = g.2.2.2
  · rw [if_pos q, if_pos q]
  · rw [if_neg q, if_neg q]
    rcases b4 with ⟨b4, -⟩ | ⟨b4, -⟩
    · exact absurd b4 q
    · exact (x.2.1 e (w.lt (by omega))).2
theorem ownL.fr (w : hWF h) (hg : gOK g h) (k : tLs g h cl l xs) (ow : ownL h o b l) (x : CG B c m h o h' o') (sl : Sm h h' l) : ownL h' o' b l := by
  have ll : l < hS h := w.lt (by have := k.1.1; omega)
  refine ⟨by rw [x.2.1 l ll]; exact ow.1, fun d hd kd => ?_⟩
  rw [(sl.2.1 1).2] at hd
  obtain ⟨⟨b1, b2, e, b3, b4⟩, b5, b6⟩ := k
  rw [b3] at hd
  cases hd
  rcases b4 with ⟨b4, -⟩ | ⟨b4, -⟩
  · rw [b4, (x.1.2.1 _ hg.2.2.2.2).1, hg.2.1] at kd
    exact absurd kd (by decide)
  · rw [x.2.1 d (w.lt (by omega))]
    exact ow.2 d b3 b4
end FRM
def stR (g : gcT) (h : hpT) (o : Nat → Nat) (a e v : Nat) (R : arT) (l N U rep : Nat) (up : Int32) (nm : Nat) (xs : List Nat) : Prop := stV h a e N U rep up nm ∧ (o a = a ∧ o e = e) ∧ (hR h 644 a = some v ∧ svA h v R ∧ ownV o v R ∧ o v = a) ∧ hR h 645 a = some l ∧ tLs g h 8 l xs ∧ ownL h o a l
section STR
variable {g : gcT} {P : pmT} {o o' : Nat → Nat} {h h' : hpT} {B : Nat → Prop} {c m a e v l N U L rep nm nx : Nat} {R : arT} {up : Int32} {xs : List Nat} {zs : List svT}
theorem svA.lts (w : hWF h) (k : svA h v R) : v < hS h ∧ R.1 < hS h ∧ R.2.1 < hS h ∧ R.2.2.1 < hS h ∧ R.2.2.2.1 < hS h ∧ R.2.2.2.2 < hS h := by
  obtain ⟨k1, -, -, -, -, -, k7, k8, k9, k10, k11, -⟩ := k
  exact ⟨w.lt (by omega), w.lt (by omega), w.lt (by omega), w.lt (by omega), w.lt (by omega), w.lt (by omega)⟩
theorem ownV.fr (w : hWF h) (kv : svA h v R) (k : ownV o v R) (e : ∀ a, a < hS h → o' a = o a) : ownV o' v R := by
  obtain ⟨l0, l1, l2, l3, l4, l5⟩ := kv.lts w
  obtain ⟨p1, p2, p3, p4, p5⟩ := k
  exact ⟨by rw [e _ l1]; exact p1, by rw [e _ l2]; exact p2, by rw [e _ l3]; exact p3, by rw [e _ l4]; exact p4, by rw [e _ l5]; exact p5⟩
theorem stR.fr (w : hWF h) (hg : gOK g h) (k : stR g h o a e v R l N U rep up nm xs) (x : CG B c m h o h' o') (na : ¬ B a) : stR g h' o' a e v R l N U rep up nm xs := by
  obtain ⟨⟨s1, s2, s3, s4, s5, s6, s7, s8⟩, ⟨r1, r2⟩, ⟨v1, v2, v3, v4⟩, l1, l2, l3⟩ := k
  have la : a < hS h := w.lt (by omega)
  have le : e < hS h := w.lt (by omega)
  have sa := x.sm w (a := a) (by rw [r1, r1]; exact na) (by omega)
  have kv := v2.1
  have sv := x.sm w (a := v) (by rw [v4, r1]; exact na) (by omega)
  have kl := l2.1.1
  have sl := x.sm w (a := l) (by rw [l3.1, r1]; exact na) (by omega)
  refine ⟨⟨by rw [sa.1]; exact s1, by rw [(sa.2.1 643).2]; exact s2, by rw [(x.1.2.1 e le).1]; exact s3, by rw [(x.1.2.1 e le).2]; exact s4, by rw [(sa.2.1 640).1]; exact s5, by rw [(sa.2.1 641).1]; exact s6, by rw [(sa.2.1 646).1]; exact s7, by rw [(sa.2.1 648).1]; exact s8⟩, ⟨by rw [x.2.1 a la]; exact r1, by rw [x.2.1 e le]; exact r2⟩, ⟨by rw [(sa.2.1 644).2]; exact v1, v2.ch w x.1 (fun f => (sv.2.1 f).2), ownV.fr w v2 v3 x.2.1, by rw [x.2.1 v (v2.lts w).1]; exact v4⟩, by rw [(sa.2.1 645).2]; exact l1, ?_, ?_⟩
  · exact l2.fr w x.1 sl (fun d hd kd => x.sm w (by rw [l3.2 d hd kd, l3.1]; exact na) (by omega))
  · exact ownL.fr w hg l2 l3 x sl
/-- markLive of a good LOG -/
theorem stR.mark (w : hWF h) (hg : gOK g h) (ok : oOK o) (k : stR g h o a e v R l N U rep up nm xs) (kl : lgK g h o N U L nx zs) (mc : mkC v R zs h h') (kv' : svA h' v R) : CG (fun y => y = a ∨ y = L) 0 0 h o h' o ∧ stR g h' o a e v R l N U rep up nm xs ∧ lgK g h' o N U L nx zs ∧ (∀ x, (hK h x = 11 ∨ hK h x = 1 ∨ hK h x = 28 ∨ hK h x = 5 ∨ hK h x = 7) → Sm h h' x) ∧ (∀ z ∈ zs, aG h' z = aG h z) ∧ ∀ y, hK h y = 9 → ∀ f, ¬ f = 521 → hI h' f y = hI h f y := by
  obtain ⟨⟨s1, s2, s3, s4, s5, s6, s7, s8⟩, ⟨r1, r2⟩, ⟨v1, v2, v3, v4⟩, l1, l2, l3⟩ := k
  obtain ⟨kG, kr, kn, kt⟩ := kl
  have kz := kG.sg
  have sepA := kG.sep v2 v3
  have lg' := mkC.lg w v2 kG.1 sepA.1 hg mc
  have v2' := v2
  obtain ⟨j1, -, -, -, -, -, j7, j8, j9, j10, j11, -⟩ := v2'
  have v3' := v3
  obtain ⟨p1, p2, p3, p4, p5⟩ := v3'
  have rt : ∀ x, mkS v R zs x → ¬ hK h x = 7 ∧ (o (o x) = a ∨ o (o x) = L) := by
    rintro x ((q | q | q | q | q) | ⟨z, hz, q | q⟩)
    · rw [q]; exact ⟨by omega, Or.inl (by rw [v4]; exact r1)⟩
    · rw [q]; exact ⟨by omega, Or.inl (by rw [p1]; exact v4)⟩
    · rw [q]; exact ⟨by omega, Or.inl (by rw [p2]; exact v4)⟩
    · rw [q]; exact ⟨by omega, Or.inl (by rw [p3]; exact v4)⟩
    · rw [q]; exact ⟨by omega, Or.inl (by rw [p4]; exact v4)⟩
    · rw [q]; exact ⟨by have := (kz z hz).1.1; omega, Or.inr (by rw [(kG.2.2.1 z hz).2.1]; exact kr)⟩
    · rw [q]
      refine ⟨by have := (kz z hz).1.2.2.2.2.2.2.2.1.1; unfold zLv; omega, Or.inr ?_⟩
      show o (o z.2.1.2.1) = L
      rw [(kG.2.2.1 z hz).1.2.1]; exact (kG.2.2.1 z hz).2.1
  have no : ∀ x, (hK h x = 11 ∨ hK h x = 1 ∨ hK h x = 28 ∨ hK h x = 5 ∨ hK h x = 7) → ¬ mkS v R zs x := by
    intro x hx
    refine mkS.no v2 kz ?_ (by omega) (by omega)
    rintro (q | q | q | q | q) <;> (rw [q] at hx; omega)
  have c1 := mc.1
  have smk : ∀ x, (hK h x = 11 ∨ hK h x = 1 ∨ hK h x = 28 ∨ hK h x = 5 ∨ hK h x = 7) → Sm h h' x := fun x hx => c1.sm (no x hx) (w.lt (by omega))
  have k9 : ∀ y, hK h y = 9 → ∀ f, ¬ f = 521 → hI h' f y = hI h f y := by
    intro y hy f hf
    by_cases hm : ∃ z ∈ zs, y = z.1
    · obtain ⟨z, hz, e⟩ := hm
      rw [e]; exact mc.2.2 z hz f hf
    · refine ((c1.sm ?_ (w.lt (by omega))).2.1 f).1
      rintro (q | ⟨z, hz, q | q⟩)
      · rcases q with q | q | q | q | q <;> (rw [q] at hy; omega)
      · exact hm ⟨z, hz, q⟩
      · have := (kz z hz).1.2.2.2.2.2.2.2.1.1
        rw [q] at hy
        unfold zLv at hy
        omega
  have cg : CG (fun y => y = a ∨ y = L) 0 0 h o h' o := CG.of0 c1 ok (fun x _ hx => ⟨(rt x hx).1, Or.inr (rt x hx).2⟩) (fun y hy => k9 y hy 512 (by decide))
  have sa := smk a (by omega)
  have kL := kG.1.1
  have sL := smk L (by omega)
  have kl1 := l2.1.1
  have sl := smk l (by omega)
  have la : a < hS h := w.lt (by omega)
  have le : e < hS h := w.lt (by omega)
  have ep : ∀ z ∈ zs, ∀ q ∈ zPs z, Sm h h' q := fun z hz q hq => smk q (by have := (sgV.lts w (kz z hz)).2.2.2.2.2.2 q hq; omega)
  refine ⟨cg, ⟨⟨by rw [sa.1]; exact s1, by rw [(sa.2.1 643).2]; exact s2, by rw [(c1.2.1 e le).1]; exact s3, by rw [(c1.2.1 e le).2]; exact s4, by rw [(sa.2.1 640).1]; exact s5, by rw [(sa.2.1 641).1]; exact s6, by rw [(sa.2.1 646).1]; exact s7, by rw [(sa.2.1 648).1]; exact s8⟩, ⟨r1, r2⟩, ⟨by rw [(sa.2.1 644).2]; exact v1, kv', v3, v4⟩, by rw [(sa.2.1 645).2]; exact l1, l2.fr w c1 sl (fun d hd kd => smk d (by omega)), ownL.fr w hg l2 l3 cg sl⟩, ⟨⟨lg', fun l' hl' => ?_, fun z hz => ⟨(kG.2.2.1 z hz).1, (kG.2.2.1 z hz).2.1, ?_⟩, kG.2.2.2⟩, kr, kn, fun z hz q hq e3 => ?_⟩, smk, fun z hz => ?_, k9⟩
  · rw [mc.2.1] at hl'
    obtain ⟨-, l2', q1, q2, -⟩ := kG.1
    rw [hl'] at q1
    cases q1
    have kl' := q2.1.1
    exact ownL.fr w hg q2 (kG.2.1 l' hl') cg (smk l' (by omega))
  · rw [mc.2.2 z hz 524 (by decide)]; exact (kG.2.2.1 z hz).2.2
  · have sq := ep z hz q hq
    rw [(sq.2.1 384).1] at e3
    obtain ⟨s, n, a1, a2, a3, a4, a5, a6, a7⟩ := kt z hz q hq e3
    exact ⟨s, n, by rw [mc.2.1]; exact a1, by rw [(c1.2.1 s (w.lt (by omega))).1]; exact a2, a3, by rw [k9 s a2 512 (by decide)]; exact a4, a5, fun q => a6 (by rw [← k9 s a2 524 (by decide)]; exact q), a7⟩
  · unfold aG
    have : (zPs z).map (pA h') = (zPs z).map (pA h) := List.map_congr_left (fun q hq => pA_sm (ep z hz q hq) (fun s hs => k9 s (((kG.1.2.choose_spec.2.2 z hz).2 q hq).2 s hs) 512 (by decide)))
    rw [this]
def rmA (zs : List svT) (s : Nat) : List svT := zs.filter (fun z => decide (¬ z.1 = s))
theorem rmA_mem {z : svT} {s : Nat} : z ∈ rmA zs s ↔ z ∈ zs ∧ ¬ z.1 = s := by
  unfold rmA
  rw [List.mem_filter, decide_eq_true_iff]
theorem rmZ_A {i : Nat} (hi : i < zs.length) (nd : ∀ i j (hi : i < zs.length) (hj : j < zs.length), zs[i].1 = zs[j].1 → i = j) : rmZ zs i = rmA zs zs[i].1 := by
  unfold rmZ rmA
  have e1 : (zs.take i).filter (fun z => decide (¬ z.1 = zs[i].1)) = zs.take i := by
    rw [List.filter_eq_self]
    intro z hz
    obtain ⟨j, hj, e⟩ := List.getElem_of_mem hz
    rw [List.length_take] at hj
    rw [List.getElem_take] at e
    refine decide_eq_true (fun q => ?_)
    rw [← e] at q
    have := nd j i (by omega) hi q
    omega
  have e2 : (zs.drop (i + 1)).filter (fun z => decide (¬ z.1 = zs[i].1)) = zs.drop (i + 1) := by
    rw [List.filter_eq_self]
    intro z hz
    obtain ⟨j, hj, e⟩ := List.getElem_of_mem hz
    rw [List.length_drop] at hj
    rw [List.getElem_drop] at e
    refine decide_eq_true (fun q => ?_)
    rw [← e] at q
    have := nd (i + 1 + j) i (by omega) hi q
    omega
  have e3 : zs = zs.take i ++ zs[i] :: zs.drop (i + 1) := by rw [← drop_cons hi, List.take_append_drop]
  conv => rhs; rw [show zs.filter (fun z => decide (¬ z.1 = zs[i].1)) = (zs.take i ++ zs[i] :: zs.drop (i + 1)).filter (fun z => decide (¬ z.1 = zs[i].1)) from congrArg _ e3]
  rw [List.filter_append, List.filter_cons, if_neg (by simp), e1, e2]
theorem lgK.letGo (w : hWF h) (hg : gOK g h) (ok : oOK o) (k : lgK g h o N U L nx zs) {z : svT} (hz : z ∈ zs) : EvV g P 22 [va_rf (some L), va_rf (some z.1)] h (fun h' => CG (fun y => y = L) 0 0 h o h' o ∧ lgK g h' o N U L nx (rmA zs z.1) ∧ Sm h h' L ∧ (∀ y, hK h y = 9 → ∀ f, ¬ f = 524 → hI h' f y = hI h f y) ∧ (∀ y, ¬ hK h y = 0 → ¬ hK h y = 9 → ¬ hK h y = 1 → ¬ hK h y = 28 → Sm h h' y) ∧ (∀ y, hK h y = 9 → ¬ y = z.1 → Sm h h' y) ∧ (∀ l, hR h 256 L = some l → capO g h' l = capO g h l) ∧ ∀ q, hK h q = 7 → tmK h o L nx zs q → tmK h' o L nx (rmA zs z.1) q) := by
  obtain ⟨i, hi, ez⟩ := List.getElem_of_mem hz
  subst ez
  have kL := k.1.1.1
  obtain ⟨kG, kr, kn, kt⟩ := k
  have nd1 := kG.nd1
  have kz := kG.sg
  have ks := (kz _ hz).1.1
  have kG1 := kG.1
  obtain ⟨-, l, hl, kl, -⟩ := kG1
  have nd : ∀ j (hj : j < zs.length), zs[j].2.2.1 = zs[i].2.2.1 → j = i := fun j hj e => kG.names j i hj hi (by unfold nmN; rw [e])
  have kl1 := kl.1.1
  have ow := kG.2.1 l hl
  refine Ev.imp (m_letGo w hg hi kG.1 hl nd) (fun h' r ⟨er, x1, x2, x3, x4, x5, x6, x7⟩ => ⟨er, ?_⟩)
  rw [rmZ_A hi nd1] at x1
  have row : ∀ y, hR h 1 l = some y → hK h y = 0 ∨ hK h y = 28 := by
    intro y hy
    obtain ⟨⟨-, -, e, b3, b4⟩, -, -⟩ := kl
    rw [b3] at hy
    cases hy
    rcases b4 with ⟨b4, -⟩ | ⟨b4, -⟩
    · exact Or.inl (b4 ▸ hg.2.1)
    · exact Or.inr b4
  have so : ∀ y, ¬ hK h y = 0 → ¬ hK h y = 9 → ¬ hK h y = 1 → ¬ hK h y = 28 → Sm h h' y := by
    intro y y0 y9 y1 y28
    refine x7.sm ?_ (w.lt y0)
    rintro (q | q | q)
    · rw [q] at y9; exact y9 ks
    · rw [q] at y1; exact y1 kl1
    · rcases row y q with z0 | z0 <;> contradiction
  have s9 : ∀ y, hK h y = 9 → ¬ y = zs[i].1 → Sm h h' y := by
    intro y y9 ny
    refine x7.sm ?_ (w.lt (by omega))
    rintro (q | q | q)
    · exact ny q
    · rw [q] at y9; omega
    · rcases row y q with z0 | z0 <;> omega
  have s9' : ∀ y, hK h y = 9 → ∀ f, ¬ f = 524 → hI h' f y = hI h f y := by
    intro y y9 f hf
    by_cases c : y = zs[i].1
    · rw [c]; exact x3 f hf
    · exact ((s9 y y9 c).2.1 f).1
  have cg : CG (fun y => y = L) 0 0 h o h' o := by
    refine CG.of0 x7 ok (fun y _ q => ?_) (fun y hy => s9' y hy 512 (by decide))
    rcases q with q | q | q
    · rw [q]; exact ⟨by omega, Or.inr (by rw [(kG.2.2.1 _ hz).2.1]; exact kr)⟩
    · rw [q]; exact ⟨by omega, Or.inr (by rw [ow.1]; exact kr)⟩
    · rcases row y q with z0 | z0
      · exact ⟨by omega, Or.inl z0⟩
      · exact ⟨by omega, Or.inr (by rw [ow.2 y q z0]; exact ow.1)⟩
  have tmk : ∀ q, hK h q = 7 → tmK h o L nx zs q → tmK h' o L nx (rmA zs zs[i].1) q := by
    intro q kq kt' e3
    have sq := so q (by omega) (by omega) (by omega) (by omega)
    rw [(sq.2.1 384).1] at e3
    obtain ⟨s, n, a1, a2, a3, a4, a5, a6, a7⟩ := kt' e3
    refine ⟨s, n, by rw [(sq.2.1 395).2]; exact a1, by rw [(x7.2.1 s (w.lt (by omega))).1]; exact a2, a3, by rw [s9' s a2 512 (by decide)]; exact a4, a5, fun eg => ?_, fun y hy => a7 y (rmA_mem.mp hy).1⟩
    by_cases cs : s = zs[i].1
    · rw [cs, x2] at eg; exact absurd eg (by decide)
    · rw [((s9 s a2 cs).2.1 524).1] at eg
      obtain ⟨y, hy, ey⟩ := a6 eg
      exact ⟨y, rmA_mem.mpr ⟨hy, by rw [ey]; exact cs⟩, ey⟩
  refine ⟨cg, ⟨⟨x1, fun l' hl' => ?_, fun z hz' => ?_, fun z hz' => kG.2.2.2.1 z (rmA_mem.mp hz').1, ?_⟩, kr, fun z hz' => kn z (rmA_mem.mp hz').1, fun z hz' q hq e3 => ?_⟩, so L (by omega) (by omega) (by omega) (by omega), s9', so, s9, fun l' hl' => ?_, tmk⟩
  · rw [x4] at hl'
    cases hl'
    refine ⟨ow.1, fun d hd kd => ?_⟩
    rw [x5] at hd
    rcases row d hd with z0 | z0
    · obtain ⟨⟨-, -, e, b3, b4⟩, -, -⟩ := kl
      rw [b3] at hd
      cases hd
      rcases b4 with ⟨b4, -⟩ | ⟨b4, -⟩
      · rw [b4, (x7.2.1 _ hg.2.2.2.2).1, hg.2.1] at kd
        exact absurd kd (by decide)
      · omega
    · exact ow.2 d hd z0
  · obtain ⟨hzz, nz⟩ := rmA_mem.mp hz'
    refine ⟨(kG.2.2.1 z hzz).1, (kG.2.2.1 z hzz).2.1, ?_⟩
    rw [((s9 z.1 (kz z hzz).1.1 nz).2.1 524).1]; exact (kG.2.2.1 z hzz).2.2
  · exact kG.2.2.2.2.sublist ((List.filter_sublist).map nmN)
  · obtain ⟨hzz, nz⟩ := rmA_mem.mp hz'
    exact tmk q ((kG.1.2.choose_spec.2.2 z hzz).2 q hq).1.1.1 (kt z hzz q hq) e3
  · rw [hl] at hl'
    cases hl'
    exact x6
end STR
