/-! reads of a LOG, without addresses -/
def homG (ky : Int32) (u : agT) (st : Int32 × Option agT) (p : pT) : Int32 × Option agT := if kM (pKd p) = 0 then st else if ¬ pKy p = ky then st else if pVe p ≤ st.1 then st else (pVe p, if pKd p = 2 then some u else none)
def homA (ky : Int32) (A : List agT) : Int32 × Option agT := A.foldl (fun st u => u.2.1.foldl (homG ky u) st) (0, none)
def objG (ky : Int32) (st : Option pT) (p : pT) : Option pT := if ¬ pKd p = 2 then st else if ¬ pKy p = ky then st else match st with
  | none => some p
  | some f => if pVe p ≤ pVe f then st else some p
def objA (ky : Int32) (A : List agT) : Option pT := match (homA ky A).2 with
  | none => none
  | some u => u.2.1.foldl (objG ky) none
def resA (c n : Int32) (p : pT) : Bool := decide (pKd p = 4) && decide (pCl p = c) && decide (pNu p = n)
section LRD
variable {g : gcT} {P : pmT} {o o' w w' : Nat → Nat} {y : Nat → Nat} {R R2 : arT} {h h' h1 : hpT} {B : Nat → Prop} {i j t c m n p q N U L nx e : Nat} {ss : List Nat} {Ls : List lsT} {Ds : List (Nat × Nat)} {S S' : stA} {zs : List svT} {ky : Int32} {r : Option Nat}
def homL2 (h : hpT) (zs : List svT) (st : Int32 × Option Nat) (st' : Int32 × Option agT) : Prop := st.1 = st'.1 ∧ ((st.2 = none ∧ st'.2 = none) ∨ ∃ z ∈ zs, st.2 = some z.1 ∧ st'.2 = some (aG h z))
theorem hom_in {z : svT} (hz : z ∈ zs) : ∀ (l : List Nat) (st : Int32 × Option Nat) (st' : Int32 × Option agT), (∀ q ∈ l, ptK h q) → homL2 h zs st st' → homL2 h zs (l.foldl (homF h ky z.1) st) ((l.map (pA h)).foldl (homG ky (aG h z)) st') := by
  intro l
  induction l with
  | nil => intro st st' _ e; exact e
  | cons q l ih =>
    intro st st' hq e
    rw [List.map_cons, List.foldl_cons, List.foldl_cons]
    refine ih _ _ (fun x hx => hq x (List.mem_cons_of_mem _ hx)) ?_
    unfold homF homG
    rw [(hq q List.mem_cons_self).2.2.1, e.1]
    show homL2 h zs (if kM (hI h 384 q) = 0 then st else if ¬ hI h 390 q = ky then st else if hI h 393 q ≤ st'.1 then st else _) (if kM (hI h 384 q) = 0 then st' else if ¬ hI h 390 q = ky then st' else if hI h 393 q ≤ st'.1 then st' else (hI h 393 q, if hI h 384 q = 2 then some (aG h z) else none))
    split
    · exact e
    · split
      · exact e
      · split
        · exact e
        · refine ⟨rfl, ?_⟩
          dsimp only
          split
          · exact Or.inr ⟨z, hz, rfl, rfl⟩
          · exact Or.inl ⟨rfl, rfl⟩
theorem hom_out (hp : ∀ z ∈ zs, ∀ q ∈ zPs z, ptK h q) : ∀ (l : List svT) (st : Int32 × Option Nat) (st' : Int32 × Option agT), (∀ z ∈ l, z ∈ zs) → homL2 h zs st st' → homL2 h zs ((l.map (fun z => (z.1, zPs z))).foldl (fun st z => z.2.foldl (homF h ky z.1) st) st) ((l.map (aG h)).foldl (fun st u => u.2.1.foldl (homG ky u) st) st') := by
  intro l
  induction l with
  | nil => intro st st' _ e; exact e
  | cons z l ih =>
    intro st st' hl e
    rw [List.map_cons, List.map_cons, List.foldl_cons, List.foldl_cons]
    have hz := hl z List.mem_cons_self
    exact ih _ _ (fun x hx => hl x (List.mem_cons_of_mem _ hx)) (hom_in hz (zPs z) st st' (hp z hz) e)
theorem hom_rel (ky : Int32) (hp : ∀ z ∈ zs, ∀ q ∈ zPs z, ptK h q) : homL2 h zs (homL h ky (zs.map (fun z => (z.1, zPs z)))) (homA ky (zs.map (aG h))) := hom_out hp zs (0, none) (0, none) (fun _ hz => hz) ⟨rfl, Or.inl ⟨rfl, rfl⟩⟩
theorem lgK.pt (kl : lgK g h o N U L nx zs) : ∀ z ∈ zs, ∀ q ∈ zPs z, ptK h q := fun z hz q hq => ((kl.1.1.2.choose_spec.2.2 z hz).2 q hq).1.1
theorem m_hom (kl : lgK g h o N U L nx zs) : EvA g P 18 [va_rf (some L), .int ky] h (fun h' r => h' = h ∧ ((r = none ∧ (homA ky (zs.map (aG h))).2 = none) ∨ ∃ z ∈ zs, r = some z.1 ∧ (homA ky (zs.map (aG h))).2 = some (aG h z))) := by
  refine Ev.imp (m_homeOf (P := P) (key := ky) kl.1.1.z) (fun h' r ⟨x, er, e1, e2⟩ => ⟨x, er, e1, ?_⟩)
  rcases (hom_rel ky kl.pt).2 with ⟨a, b⟩ | ⟨z, hz, a, b⟩
  · exact Or.inl ⟨e2.trans a, b⟩
  · exact Or.inr ⟨z, hz, e2.trans a, b⟩
theorem obj_in : ∀ (l : List Nat) (st : Option Nat) (st' : Option pT), (∀ q ∈ l, ptK h q) → ((st = none ∧ st' = none) ∨ ∃ q, st = some q ∧ st' = some (pA h q) ∧ ptK h q) → ((l.foldl (objF h ky) st = none ∧ (l.map (pA h)).foldl (objG ky) st' = none) ∨ ∃ q, l.foldl (objF h ky) st = some q ∧ (l.map (pA h)).foldl (objG ky) st' = some (pA h q) ∧ ptK h q) := by
  intro l
  induction l with
  | nil => intro st st' _ e; exact e
  | cons q l ih =>
    intro st st' hq e
    rw [List.map_cons, List.foldl_cons, List.foldl_cons]
    refine ih _ _ (fun x hx => hq x (List.mem_cons_of_mem _ hx)) ?_
    have hk := hq q List.mem_cons_self
    unfold objF objG
    show ((if ¬ hI h 384 q = 2 then st else if ¬ hI h 390 q = ky then st else _) = none ∧ (if ¬ hI h 384 q = 2 then st' else if ¬ hI h 390 q = ky then st' else _) = none) ∨ ∃ q', (if ¬ hI h 384 q = 2 then st else if ¬ hI h 390 q = ky then st else _) = some q' ∧ (if ¬ hI h 384 q = 2 then st' else if ¬ hI h 390 q = ky then st' else _) = some (pA h q') ∧ ptK h q'
    split
    · exact e
    · split
      · exact e
      · rcases e with ⟨e1, e2⟩ | ⟨f, e1, e2, e3⟩
        · subst e1; subst e2
          exact Or.inr ⟨q, rfl, rfl, hk⟩
        · subst e1; subst e2
          dsimp only
          show ((if hI h 393 q ≤ hI h 393 f then some f else some q) = none ∧ (if hI h 393 q ≤ hI h 393 f then some (pA h f) else some (pA h q)) = none) ∨ ∃ q', (if hI h 393 q ≤ hI h 393 f then some f else some q) = some q' ∧ (if hI h 393 q ≤ hI h 393 f then some (pA h f) else some (pA h q)) = some (pA h q') ∧ ptK h q'
          split
          · exact Or.inr ⟨f, rfl, rfl, e3⟩
          · exact Or.inr ⟨q, rfl, rfl, hk⟩
theorem psOf_z (kl : lgK g h o N U L nx zs) {z : svT} (hz : z ∈ zs) : psOf (zs.map (fun z => (z.1, zPs z))) z.1 = zPs z := by
  unfold psOf
  cases hf : (zs.map (fun z => (z.1, zPs z))).find? (fun x => x.1 == z.1) with
  | none => exact absurd (List.find?_eq_none.mp hf (z.1, zPs z) (List.mem_map.mpr ⟨z, hz, rfl⟩)) (by simp)
  | some x =>
    have e1 : x.1 = z.1 := by simpa using List.find?_some hf
    obtain ⟨z', hz', ez'⟩ := List.mem_map.mp (List.mem_of_find?_eq_some hf)
    rw [← ez'] at e1 ⊢
    obtain ⟨a, ha, ea⟩ := List.getElem_of_mem hz
    obtain ⟨b, hb, eb⟩ := List.getElem_of_mem hz'
    have := kl.1.nd1 b a hb ha (by rw [ea, eb]; exact e1)
    subst this
    rw [ea] at eb
    rw [eb]
theorem m_obj (kl : lgK g h o N U L nx zs) : EvA g P 19 [va_rf (some L), .int ky] h (fun h' r => h' = h ∧ ((r = none ∧ objA ky (zs.map (aG h)) = none) ∨ ∃ q, r = some q ∧ objA ky (zs.map (aG h)) = some (pA h q) ∧ ptK h q)) := by
  refine Ev.imp (m_objectOf (P := P) (key := ky) kl.1.1.z) (fun h' r ⟨x, er, e1, e2⟩ => ⟨x, er, e1, ?_⟩)
  rw [e2]
  unfold objL objA
  rcases (hom_rel ky kl.pt).2 with ⟨a, b⟩ | ⟨z, hz, a, b⟩
  · rw [a, b]; exact Or.inl ⟨rfl, rfl⟩
  · rw [a, b]
    dsimp only
    rw [psOf_z kl hz]
    exact obj_in (zPs z) none none (kl.pt z hz) (Or.inl ⟨rfl, rfl⟩)
theorem m_res {cc nn : Int32} (kl : lgK g h o N U L nx zs) : EvA g P 21 [va_rf (some L), .int cc, .int nn] h (fun h' r => h' = h ∧ ((r = none ∧ (((zs.map (aG h)).map (·.2.1)).flatten).find? (resA cc nn) = none) ∨ ∃ q, r = some q ∧ (((zs.map (aG h)).map (·.2.1)).flatten).find? (resA cc nn) = some (pA h q) ∧ ptK h q)) := by
  refine Ev.imp (m_resultOf (P := P) (c := cc) (n := nn) kl.1.1.z) (fun h' r ⟨x, er, e1, e2⟩ => ⟨x, er, e1, ?_⟩)
  have e3 : ((zs.map (aG h)).map (·.2.1)).flatten = ((zs.map zPs).flatten).map (pA h) := by
    rw [List.map_map, List.map_flatten, List.map_map]; rfl
  have e4 : ((zs.map (fun z => (z.1, zPs z))).map (·.2)) = zs.map zPs := by rw [List.map_map]; rfl
  rw [e2, e3, e4, find_map]
  have e5 : (fun a => resA cc nn (pA h a)) = resP h cc nn := rfl
  rw [e5]
  cases hf : (zs.map zPs).flatten.find? (resP h cc nn) with
  | none => exact Or.inl ⟨rfl, rfl⟩
  | some q =>
    refine Or.inr ⟨q, rfl, rfl, ?_⟩
    obtain ⟨l, hl, hql⟩ := List.mem_flatten.mp (List.mem_of_find?_eq_some hf)
    obtain ⟨z, hz, ez⟩ := List.mem_map.mp hl
    rw [← ez] at hql
    exact kl.pt z hz q hql
theorem RS.lz (kS : RS g h o w y R R2 ss Ls Ds S) (hi : i < y 20) : ∃ zs, lgS g h o (y 20) (y 22) (Ls.getD i ls0).1 (tNm S) (sLg ((tSv S).getD i sr0)) zs := by
  obtain ⟨ll, xs, p1, p2, ⟨zs, kl, hd, lt, ea⟩, -⟩ := kS.prem hi
  exact ⟨zs, kl, hd, lt, ea⟩
/-- a TOMB that lies in no LOG is told its home -/
theorem lgK.w395 (k : lgK g h o N U L nx zs) (ke : hK h e = 7) (e3 : hI h 384 e = 3) (er : hR h 395 e = none) : lgK g (hpR h 395 e r) o N U L nx zs ∧ zs.map (aG (hpR h 395 e r)) = zs.map (aG h) := by
  have ne : ∀ z ∈ zs, ∀ q ∈ zPs z, ¬ q = e := by
    intro z hz q hq eq
    obtain ⟨s, n, a1, -⟩ := k.2.2.2 z hz q hq (by rw [eq]; exact e3)
    rw [eq, er] at a1
    cases a1
  have rr : ∀ f a, ¬ a = e → hR (hpR h 395 e r) f a = hR h f a := fun f a ha => by rw [rR_R, if_neg (fun q => ha q.2)]
  have rf : ∀ f a, ¬ f = 395 → hR (hpR h 395 e r) f a = hR h f a := fun f a ha => by rw [rR_R, if_neg (fun q => ha q.1)]
  obtain ⟨e1, e2, e3', e4, e5, e6⟩ := hpR_eq (h := h) (f := 395) (b := e) (r := r)
  obtain ⟨⟨⟨k1, l, k2, k3, k4⟩, k5, k6, k7, k8⟩, k9, k10, k11⟩ := k
  refine ⟨⟨⟨⟨k1, l, by rw [rf _ _ (by decide)]; exact k2, ?_, fun z hz => ⟨?_, fun q hq => ⟨((k4 z hz).2 q hq).1, fun s hs => ?_⟩⟩⟩, fun l' hl' => ?_, k6, k7, k8⟩, k9, k10, fun z hz q hq e3 => ?_⟩, ?_⟩
  · obtain ⟨⟨t1, t2, d, t3, t4⟩, t5, t6⟩ := k3
    exact ⟨⟨t1, t2, d, by rw [rf _ _ (by decide)]; exact t3, t4⟩, t5, t6⟩
  · obtain ⟨⟨b1, b2, b3, b4, b5, b6, b7⟩, b8⟩ := (k4 z hz).1
    exact ⟨⟨b1, by rw [rf _ _ (by decide)]; exact b2, by rw [rf _ _ (by decide)]; exact b3, by rw [rf _ _ (by decide)]; exact b4, by rw [rf _ _ (by decide)]; exact b5, by rw [rf _ _ (by decide)]; exact b6, b7⟩, b8⟩
  · rw [rr _ _ (ne z hz q hq)] at hs
    exact ((k4 z hz).2 q hq).2 s hs
  · rw [rf _ _ (by decide)] at hl'
    refine ⟨(k5 l' hl').1, fun d hd kd => ?_⟩
    rw [rf _ _ (by decide)] at hd
    exact (k5 l' hl').2 d hd kd
  · obtain ⟨s, n, a1, a2⟩ := k11 z hz q hq e3
    exact ⟨s, n, by rw [rr _ _ (ne z hz q hq)]; exact a1, a2⟩
  · refine List.map_congr_left (fun z hz => ?_)
    unfold aG
    have : (zPs z).map (pA (hpR h 395 e r)) = (zPs z).map (pA h) := by
      refine List.map_congr_left (fun q hq => ?_)
      unfold pA ptv hmF
      rw [rr _ _ (ne z hz q hq)]
      rfl
    rw [this]
theorem lgQ.w395 {k : Nat} {tb : Int32} {A : alT} (kq : lgQ g h o N U L nx k tb A) (ke : hK h e = 7) (e3 : hI h 384 e = 3) (er : hR h 395 e = none) : lgQ g (hpR h 395 e r) o N U L nx k tb A := by
  obtain ⟨⟨zs, k1, k2, k3, k4⟩, k5, k6⟩ := kq
  obtain ⟨b1, b2⟩ := k1.w395 (r := r) ke e3 er
  have rf : ∀ f a, ¬ f = 395 → hR (hpR h 395 e r) f a = hR h f a := fun f a ha => by rw [rR_R, if_neg (fun q => ha q.1)]
  refine ⟨⟨zs, b1, by rw [rf _ _ (by decide)]; exact k2, by rw [rf _ _ (by decide)]; exact k3, by rw [b2]; exact k4⟩, fun ll hll => ?_, k6⟩
  rw [rf _ _ (by decide)] at hll
  have := k5 ll hll
  unfold capO at this ⊢
  rw [rf _ _ (by decide)]
  exact this
theorem RS.w395 (kS : RS g h o w y R R2 ss Ls Ds S) (ke : hK h e = 7) (e3 : hI h 384 e = 3) (er : hR h 395 e = none) : RS g (hpR h 395 e r) o w y R R2 ss Ls Ds S ∧ fxC g (hpR h 395 e r) y = fxC g h y := by
  obtain ⟨⟨wf, hg, ok⟩, k2, kA, kB, kC, kD⟩ := kS
  have rf : ∀ f a, ¬ f = 395 → hR (hpR h 395 e r) f a = hR h f a := fun f a ha => by rw [rR_R, if_neg (fun q => ha q.1)]
  have hr : ∀ {l c : Nat} {xs : List Nat}, tLs g h c l xs → tLs g (hpR h 395 e r) c l xs := fun ⟨⟨t1, t2, d, t3, t4⟩, t5, t6⟩ => ⟨⟨t1, t2, d, by rw [rf _ _ (by decide)]; exact t3, t4⟩, t5, t6⟩
  have ho : ∀ {b l : Nat}, ownL h o b l → ownL (hpR h 395 e r) o b l := fun ⟨t1, t2⟩ => ⟨t1, fun d hd kd => t2 d (by rw [rf _ _ (by decide)] at hd; exact hd) kd⟩
  have hv : ∀ {v : Nat} {R : arT}, svA h v R → svA (hpR h 395 e r) v R := fun ⟨v1, v2, v3, v4, v5, v6, v7⟩ => ⟨v1, by rw [rf _ _ (by decide)]; exact v2, by rw [rf _ _ (by decide)]; exact v3, by rw [rf _ _ (by decide)]; exact v4, by rw [rf _ _ (by decide)]; exact v5, by rw [rf _ _ (by decide)]; exact v6, v7⟩
  refine ⟨⟨⟨wf.R (wf.lt (by omega)), hg, ok⟩, k2, ?_, ?_, ⟨kC.1, kC.2.1, fun j hj => ⟨(kC.2.2 j hj).1.w395 ke e3 er, (kC.2.2 j hj).2⟩⟩, ?_⟩, ?_⟩
  · obtain ⟨⟨xs, st⟩, z⟩ := kA
    obtain ⟨⟨s1, s2, s3⟩, s4, ⟨v1, v2, v3, v4⟩, l1, l2, l3⟩ := st
    exact ⟨⟨xs, ⟨s1, by rw [rf _ _ (by decide)]; exact s2, s3⟩, s4, ⟨by rw [rf _ _ (by decide)]; exact v1, hv v2, v3, v4⟩, by rw [rf _ _ (by decide)]; exact l1, hr l2, ho l3⟩, z⟩
  · obtain ⟨l, v, kb⟩ := kB
    refine ⟨l, v, fun i hi => ?_⟩
    obtain ⟨a, b, d, f0, ⟨f1, f2⟩, lo⟩ := kb i hi
    refine ⟨a, b, d, by rw [rf _ _ (by decide)]; exact f0, ⟨f1.w395 ke e3 er, f2⟩, ?_⟩
    rcases lo with ⟨l1, l2, l3⟩ | ⟨L', k', A', l1, l2, l3, l4, l5⟩
    · exact Or.inl ⟨l1, l2, by rw [rf _ _ (by decide)]; exact l3⟩
    · exact Or.inr ⟨L', k', A', l1, l2, by rw [rf _ _ (by decide)]; exact l3, l4.w395 ke e3 er, l5⟩
  · obtain ⟨⟨a1, a2, a3⟩, ⟨b1, b2⟩, ⟨c1, c2, c3⟩, ⟨d1, d2, d3, d4⟩, ⟨e1, ⟨ms, e2⟩, e3'⟩, f⟩ := kD
    exact ⟨⟨a1, a2, by rw [rf _ _ (by decide)]; exact a3⟩, ⟨by rw [rf _ _ (by decide)]; exact b1, b2⟩, ⟨by rw [rf _ _ (by decide)]; exact c1, hr c2, ho c3⟩, ⟨by rw [rf _ _ (by decide)]; exact d1, hv d2, d3, d4⟩, ⟨by rw [rf _ _ (by decide)]; exact e1, ⟨ms, hr e2⟩, ho e3'⟩, f⟩
  · have : ∀ l, capO g (hpR h 395 e r) l = capO g h l := fun l => by unfold capO; rw [rf _ _ (by decide)]; rfl
    unfold fxC
    rw [this, this, this]
end LRD
