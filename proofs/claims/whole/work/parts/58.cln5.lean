/-! a SEGMENT comes into a LOG; Storage.clean -/
section ADD
variable {g : gcT} {P : pmT} {o o' : Nat → Nat} {h h' : hpT} {a b e v l ll N U L rep nm nx s sv cl : Nat} {R : arT} {up : Int32} {xs xs' ys : List Nat} {zs ts : List svT} {t : svT} {B : Nat → Prop} {c m c' m' : Nat}
theorem stR.fa (w : hWF h) (hg : gOK g h) (st : stR g h o a e v R l N U rep up nm xs) (x : Ch (fun y => y = a) c m h h') (eo : ∀ a, a < hS h → o' a = o a) (sv' : stV h' a e N U rep up nx) (er : ∀ f, hR h' f a = hR h f a) : stR g h' o' a e v R l N U rep up nx xs := by
  obtain ⟨⟨s1, s2, s3, s4, s5, s6, s7, s8⟩, ⟨r1, r2⟩, ⟨v1, v2, v3, v4⟩, l1, l2, l3⟩ := st
  have so : ∀ y, ¬ hK h y = 0 → ¬ hK h y = 11 → Sm h h' y := fun y y0 y11 => x.sm (fun q => by rw [q] at y11; exact y11 s1) (w.lt y0)
  have kv := v2.1
  have kl := l2.1.1
  have sl := so l (by omega) (by omega)
  have ll : l < hS h := w.lt (by omega)
  refine ⟨sv', ⟨by rw [eo a (w.lt (by omega))]; exact r1, by rw [eo e (w.lt (by omega))]; exact r2⟩, ⟨by rw [er]; exact v1, v2.ch w x (fun f => ((so v (by omega) (by omega)).2.1 f).2), ownV.fr w v2 v3 eo, by rw [eo v (v2.lts w).1]; exact v4⟩, by rw [er]; exact l1, l2.fr w x sl (fun d _ kd => so d (by omega) (by omega)), by rw [eo l ll]; exact l3.1, fun d hd kd => ?_⟩
  rw [(sl.2.1 1).2] at hd
  rcases row28 hg l2 d hd with z | z
  · obtain ⟨⟨-, -, d', b3, b4⟩, -, -⟩ := l2
    rw [b3] at hd
    cases hd
    rcases b4 with ⟨b4, -⟩ | ⟨b4, -⟩
    · rw [b4, (x.2.1 _ hg.2.2.2.2).1, hg.2.1] at kd
      exact absurd kd (by decide)
    · omega
  · rw [eo d (w.lt (by omega))]; exact l3.2 d hd z
theorem lgK.add (hP6 : P 206 = cpyO) (w : hWF h) (hg : gOK g h) (ok : oOK o) (k : lgK g h o N U L nx zs) (kt : sgX h N U t) (ow : tOwn o t) (g0 : hI h 524 t.1 = 0) (pt : ∀ q ∈ zPs t, pOK h q ∧ lOK h q ∧ tmK h o L nx zs q) (nt : t.2.2.1 = nI nx) (hnx : nx ≤ 99999999) (hLt : L ≤ t.1) (hll : hR h 256 L = some ll) (hz : zs.length ≤ 100000) : EvI g P 195 [va_rf (some ll), va_rf (some t.1)] h (fun h' _ => ∃ o' o'', CG (fun y => y = L) (capO g h' ll - capO g h ll) (4 * (capO g h' ll - capO g h ll)) h o h' o'' ∧ (∀ x, ¬ x = t.1 → o' x = o'' x) ∧ oOK o' ∧ lgK g h' o' N U L (nx + 1) (zs ++ [t]) ∧ (capO g h ll ≤ capO g h' ll ∧ capO g h' ll ≤ max (capO g h ll) (2 * zs.length + 10)) ∧ ∀ y, ¬ hK h y = 0 → ¬ hK h y = 1 → ¬ hK h y = 28 → Sm h h' y) := by
  have kL := k.1.1.1
  obtain ⟨kG, kr, kn, ktm⟩ := k
  have kz := kG.sg
  have kG1 := kG.1
  obtain ⟨-, l2, d1, tl, kzq⟩ := kG1
  rw [hll] at d1
  cases d1
  have owl := kG.2.1 ll hll
  have k9t := kt.1.1
  have kll := tl.1.1
  have nLt : ¬ L = t.1 := kinds_ne (h := h) (by omega)
  refine Ev.imp (m_add hP6 w hg tl (by omega) (by rw [List.length_map]; omega)) (fun h' r ⟨x, ex, e1, A1, A2, A3, A4, A5⟩ => ⟨x, ex, ?_⟩)
  rw [List.length_map] at A3
  have gr : Grew g ll zs.length h h' := ⟨A2, A3, A4, A5⟩
  obtain ⟨cg, owl'⟩ := Grew.cg w ok hg tl owl kr gr A1
  generalize oX o h ll = o2 at cg owl'
  have ok2 := cg.2.2.1
  have eo := cg.2.1
  have so : ∀ y, ¬ hK h y = 0 → ¬ hK h y = 1 → ¬ hK h y = 28 → Sm h h' y := by
    intro y y0 y1 y28
    refine A4.sm ?_ (w.lt y0)
    rintro (q | q)
    · rw [q] at y1; exact y1 kll
    · rcases row28 hg tl y q with z | z <;> contradiction
  have kk : ∀ y, ¬ hK h y = 0 → hK h' y = hK h y := fun y hy => (A4.2.1 y (w.lt hy)).1
  have sgo : ∀ z, sgX h N U z → sgX h' N U z := by
    intro z hz
    have lt := sgV.lts w hz
    have hz1 := hz.1
    obtain ⟨a1, -, -, -, -, -, a7, a8, a9, a10, a11, -⟩ := hz1
    exact sgV.fr hz (so _ (by omega) (by omega) (by omega)) (so _ (by omega) (by omega) (by omega)) (so _ (by omega) (by omega) (by omega)) (so _ (by omega) (by omega) (by omega)) (so _ (by omega) (by omega) (by omega)) (so _ (by omega) (by omega) (by omega)) (fun p hp => by have := (lt.2.2.2.2.2.2 p hp).2; exact so p (by omega) (by omega) (by omega))
  have sL := so L (by omega) (by omega) (by omega)
  have nmt : nmN t = nx := by unfold nmN; rw [nt]; exact nI_clamp (by omega)
  have ptA : ∀ z ∈ zs ++ [t], ∀ q ∈ zPs z, pOK h q ∧ lOK h q ∧ tmK h o L nx zs q := by
    intro z hz q hq
    rcases List.mem_append.mp hz with d | d
    · exact ⟨(kzq z d).2 q hq |>.1, (kzq z d).2 q hq |>.2, ktm z d q hq⟩
    · rw [List.mem_singleton] at d
      rw [d] at hq
      exact pt q hq
  have o6e : ∀ x, ¬ x = t.1 → (fun x => if x = t.1 then L else o2 x) x = o2 x := fun x hx => if_neg hx
  refine ⟨fun x => if x = t.1 then L else o2 x, o2, cg, o6e, fun x => ?_, ⟨⟨⟨by rw [sL.1]; exact kL, ll, by rw [(sL.2.1 256).2]; exact hll, by rw [List.map_append]; exact A1, fun z hz => ⟨?_, fun q hq => ?_⟩⟩, fun l' hl' => ?_, fun z hz => ?_, fun z hz => ?_, ?_⟩, ?_, fun z hz => ?_, fun z hz q hq e3 => ?_⟩, ⟨A2, A3⟩, so⟩
  · show (if x = t.1 then L else o2 x) ≤ x
    split
    · rename_i q; rw [q]; exact hLt
    · exact ok2 x
  · rcases List.mem_append.mp hz with d | d
    · exact sgo z (kz z d)
    · rw [List.mem_singleton] at d
      rw [d]; exact sgo t kt
  · obtain ⟨p1, p2, -⟩ := ptA z hz q hq
    have kq := p1.1.1
    exact ⟨p1.sm (so q (by omega) (by omega) (by omega)), lOK.cg w kq p2 cg⟩
  · rw [(sL.2.1 256).2, hll] at hl'
    cases hl'
    have n1 : ¬ ll = t.1 := kinds_ne (h := h) (by omega)
    refine ⟨(if_neg n1).trans owl'.1, fun d hd kd => ?_⟩
    have n2 : ¬ d = t.1 := fun q => by rw [q, kk t.1 (by omega)] at kd; omega
    exact (if_neg n2).trans (owl'.2 d hd kd)
  · rcases List.mem_append.mp hz with d | d
    · obtain ⟨⟨p1, p2, p3, p4, p5⟩, pz, pg⟩ := kG.2.2.1 z d
      obtain ⟨t0, t1, t2, t3, t4, t5, -⟩ := sgV.lts w (kz z d)
      have hz1 := (kz z d).1
      obtain ⟨a1, -, -, -, -, -, a7, a8, a9, a10, a11, -⟩ := hz1
      have ns : ∀ y, hK h y ≠ 9 → y < hS h → (if y = t.1 then L else o2 y) = o y := fun y hy ly => (if_neg (fun q => hy (by rw [q]; exact k9t))).trans (eo y ly)
      have nz : ¬ z.1 = t.1 := fun q => by rw [q, ow.1] at pz; exact nLt pz.symm
      exact ⟨⟨(ns _ (by omega) t1).trans p1, (ns _ (by omega) t2).trans p2, (ns _ (by omega) t3).trans p3, (ns _ (by omega) t4).trans p4, (ns _ (by omega) t5).trans p5⟩, (if_neg nz).trans ((eo _ t0).trans pz), by rw [((so z.1 (by omega) (by omega) (by omega)).2.1 524).1]; exact pg⟩
    · rw [List.mem_singleton] at d
      rw [d]
      obtain ⟨pr, p1, p2, p3, p4, p5⟩ := ow
      obtain ⟨t0, t1, t2, t3, t4, t5, -⟩ := sgV.lts w kt
      have hz1 := kt.1
      obtain ⟨a1, -, -, -, -, -, a7, a8, a9, a10, a11, -⟩ := hz1
      have ns : ∀ y, hK h y ≠ 9 → y < hS h → (if y = t.1 then L else o2 y) = o y := fun y hy ly => (if_neg (fun q => hy (by rw [q]; exact k9t))).trans (eo y ly)
      exact ⟨⟨(ns _ (by omega) t1).trans p1, (ns _ (by omega) t2).trans p2, (ns _ (by omega) t3).trans p3, (ns _ (by omega) t4).trans p4, (ns _ (by omega) t5).trans p5⟩, if_pos rfl, by rw [((so t.1 (by omega) (by omega) (by omega)).2.1 524).1]; exact g0⟩
  · rcases List.mem_append.mp hz with d | d
    · exact kG.2.2.2.1 z d
    · rw [List.mem_singleton] at d
      rw [d, nmt]; exact ⟨nt, by omega⟩
  · rw [List.map_append, List.pairwise_append]
    refine ⟨kG.2.2.2.2, by simp, fun x hx y hy => ?_⟩
    obtain ⟨z, hz, ez⟩ := List.mem_map.mp hx
    rw [List.map_cons, List.map_nil, List.mem_singleton] at hy
    rw [hy, nmt, ← ez]; exact kn z hz
  · show (if L = t.1 then L else o2 L) = L
    rw [if_neg nLt, eo L (w.lt (by omega))]; exact kr
  · rcases List.mem_append.mp hz with d | d
    · exact Nat.lt_succ_of_lt (kn z d)
    · rw [List.mem_singleton] at d
      rw [d, nmt]; exact Nat.lt_succ_self _
  · obtain ⟨p1, p2, p3⟩ := ptA z hz q hq
    have kq := p1.1.1
    have sq := so q (by omega) (by omega) (by omega)
    rw [(sq.2.1 384).1] at e3
    obtain ⟨s, n, a1, a2, a3, a4, a5, a6, a7⟩ := p3 e3
    have ss := so s (by omega) (by omega) (by omega)
    have ns : ¬ s = t.1 := fun q => by rw [q, ow.1] at a3; exact nLt a3.symm
    refine ⟨s, n, by rw [(sq.2.1 395).2]; exact a1, by rw [ss.1]; exact a2, (if_neg ns).trans ((eo s (w.lt (by omega))).trans a3), by rw [(ss.2.1 512).1]; exact a4, by omega, fun q => ?_, fun y hy ey => ?_⟩
    · rw [(ss.2.1 524).1] at q
      obtain ⟨y, hy, ey⟩ := a6 q
      exact ⟨y, List.mem_append_left _ hy, ey⟩
    · rcases List.mem_append.mp hy with d | d
      · exact a7 y d ey
      · rw [List.mem_singleton] at d
        rw [d, nmt] at ey
        omega
end ADD
