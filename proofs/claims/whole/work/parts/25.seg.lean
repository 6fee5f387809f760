/-! a SEGMENT -/
def Sm (h h' : hpT) (a : Nat) : Prop := hK h' a = hK h a ∧ (∀ f, hI h' f a = hI h f a ∧ hR h' f a = hR h f a) ∧ hN h' a = hN h a ∧ ∀ i, hA h' a i = hA h a i ∧ hB h' a i = hB h a i
theorem Ch.sm {A : Nat → Prop} {c m : Nat} {h h' : hpT} (x : Ch A c m h h') {a : Nat} (na : ¬ A a) (ha : a < hS h) : Sm h h' a := x.1.2 a na ha
abbrev arT := Nat × Nat × Nat × Nat × Nat
/-- its rows: parts, live, entryEnds, holders, held -/
def sgA (h : hpT) (s N U : Nat) (r : arT) : Prop := hK h s = 9 ∧ hR h 513 s = some r.1 ∧ hR h 514 s = some r.2.1 ∧ hR h 515 s = some r.2.2.1 ∧ hR h 516 s = some r.2.2.2.1 ∧ hR h 517 s = some r.2.2.2.2 ∧ (hK h r.1 = 25 ∧ hN h r.1 = U) ∧ (hK h r.2.1 = 21 ∧ hN h r.2.1 = U) ∧ (hK h r.2.2.1 = 20 ∧ hN h r.2.2.1 = U) ∧ (hK h r.2.2.2.1 = 20 ∧ hN h r.2.2.2.1 = N) ∧ (hK h r.2.2.2.2 = 20 ∧ hN h r.2.2.2.2 = N) ∧ ¬ r.2.2.1 = r.2.2.2.1 ∧ ¬ r.2.2.1 = r.2.2.2.2 ∧ ¬ r.2.2.2.1 = r.2.2.2.2 ∧ U ≤ 100 ∧ N ≤ 30
def unS (h : hpT) (ps : List Nat) : Int32 := ps.foldl (fun t p => t + hI h 385 p) 0
def sgP (h : hpT) (s U p : Nat) (ps : List Nat) : Prop := hI h 518 s = nI ps.length ∧ ps.length ≤ U ∧ hI h 520 s = unS h ps ∧ ∀ j (hj : j < ps.length), hB h p j = some ps[j] ∧ ptK h ps[j]
def sgE (h : hpT) (s en : Nat) (n : Nat) (es : List Nat) : Prop := hI h 519 s = nI es.length ∧ es.length ≤ n ∧ ∀ j (hj : j < es.length), hA h en j = nI es[j] ∧ es[j] ≤ n
def mskL (hs : List (Nat × Nat)) : Int32 := hs.foldl (fun m x => m ||| (1 <<< (nI x.1 &&& 31))) 0
def sgH (h : hpT) (s N ho he n : Nat) (hs : List (Nat × Nat)) : Prop := hI h 522 s = nI hs.length ∧ hs.length ≤ N ∧ hI h 523 s = mskL hs ∧ ∀ j (hj : j < hs.length), hA h ho j = nI hs[j].1 ∧ hA h he j = nI hs[j].2 ∧ hs[j].1 < N ∧ hs[j].2 ≤ n
def sgV (h : hpT) (s N U : Nat) (r : arT) (nm : Int32) (ps es : List Nat) (hs : List (Nat × Nat)) : Prop := sgA h s N U r ∧ hI h 512 s = nm ∧ sgP h s U r.1 ps ∧ sgE h s r.2.2.1 ps.length es ∧ sgH h s N r.2.2.2.1 r.2.2.2.2 es.length hs
theorem ptK.sm {h h' : hpT} {a : Nat} (k : ptK h a) (e : Sm h h' a) : ptK h' a := by
  obtain ⟨e1, e2, -, -⟩ := e
  unfold ptK
  rw [e1, (e2 385).1, (e2 384).1, (e2 386).1, (e2 387).1]
  exact k
theorem unS_eq {h h' : hpT} {ps : List Nat} (e : ∀ p ∈ ps, hI h' 385 p = hI h 385 p) : unS h' ps = unS h ps := by
  unfold unS
  have : ∀ (ps : List Nat) (t : Int32), (∀ p ∈ ps, hI h' 385 p = hI h 385 p) → ps.foldl (fun t p => t + hI h' 385 p) t = ps.foldl (fun t p => t + hI h 385 p) t := by
    intro ps
    induction ps with
    | nil => exact fun _ _ => rfl
    | cons p ps ih =>
      intro t e
      rw [List.foldl_cons, List.foldl_cons, e p List.mem_cons_self]
      exact ih _ (fun q hq => e q (List.mem_cons_of_mem _ hq))
  exact this ps 0 e
theorem getA {α : Type} {l : List α} {x : α} {j : Nat} (hj : j < (l ++ [x]).length) : (∃ h : j < l.length, (l ++ [x])[j] = l[j]) ∨ (j = l.length ∧ (l ++ [x])[j] = x) := by
  rcases Nat.lt_or_ge j l.length with q | q
  · exact Or.inl ⟨q, List.getElem_append_left q⟩
  · have : j = l.length := by
      rw [List.length_append] at hj
      have : [x].length = 1 := rfl
      omega
    subst this
    exact Or.inr ⟨rfl, by simp⟩
theorem nI_2 (n : Nat) : nI n + 2 = nI (n + 2) := by
  rw [show (2 : Int32) = 1 + 1 from rfl, ← Int32.add_assoc, nI_1, nI_1]
section SEG
variable {g : gcT} {P : pmT} {h : hpT} {s N U : Nat} {r : arT} {nm : Int32} {ps es : List Nat} {hs : List (Nat × Nat)}
theorem sgV.w (k : sgV h s N U r nm ps es hs) : sgW h s ps := by
  obtain ⟨⟨a1, a2, -, -, -, -, a7, -, -, -, -, -, -, -, a15, -⟩, -, ⟨p1, p2, p3, p4⟩, -, -⟩ := k
  exact ⟨a1, p1, r.1, a2, a7.1, by omega, by omega, fun j hj => ⟨(p4 j hj).1, (p4 j hj).2.1⟩⟩
/-- what it doesn't reach may change -/
theorem sgV.fr {h' : hpT} (k : sgV h s N U r nm ps es hs) (e0 : Sm h h' s) (e1 : Sm h h' r.1) (e2 : Sm h h' r.2.1) (e3 : Sm h h' r.2.2.1) (e4 : Sm h h' r.2.2.2.1) (e5 : Sm h h' r.2.2.2.2) (ep : ∀ p ∈ ps, Sm h h' p) : sgV h' s N U r nm ps es hs := by
  obtain ⟨a, n, ⟨p1, p2, p3, p4⟩, ⟨q1, q2, q3⟩, ⟨t1, t2, t3, t4⟩⟩ := k
  refine ⟨?_, ?_, ⟨?_, p2, ?_, fun j hj => ⟨?_, (p4 j hj).2.sm (ep _ (List.getElem_mem hj))⟩⟩, ⟨?_, q2, fun j hj => ⟨?_, (q3 j hj).2⟩⟩, ⟨?_, t2, ?_, fun j hj => ⟨?_, ?_, (t4 j hj).2.2⟩⟩⟩
  · unfold sgA
    rw [e0.1, (e0.2.1 513).2, (e0.2.1 514).2, (e0.2.1 515).2, (e0.2.1 516).2, (e0.2.1 517).2, e1.1, e1.2.2.1, e2.1, e2.2.2.1, e3.1, e3.2.2.1, e4.1, e4.2.2.1, e5.1, e5.2.2.1]
    exact a
  · rw [(e0.2.1 512).1]; exact n
  · rw [(e0.2.1 518).1]; exact p1
  · rw [(e0.2.1 520).1, p3]; exact (unS_eq (fun p hp => ((ep p hp).2.1 385).1)).symm
  · rw [(e1.2.2.2 j).2]; exact (p4 j hj).1
  · rw [(e0.2.1 519).1]; exact q1
  · rw [(e3.2.2.2 j).1]; exact (q3 j hj).1
  · rw [(e0.2.1 522).1]; exact t1
  · rw [(e0.2.1 523).1]; exact t3
  · rw [(e4.2.2.2 j).1]; exact (t4 j hj).1
  · rw [(e5.2.2.2 j).1]; exact (t4 j hj).2.1
theorem sgV.lts (w : hWF h) (k : sgV h s N U r nm ps es hs) : s < hS h ∧ r.1 < hS h ∧ r.2.1 < hS h ∧ r.2.2.1 < hS h ∧ r.2.2.2.1 < hS h ∧ r.2.2.2.2 < hS h ∧ ∀ p ∈ ps, p < hS h ∧ hK h p = 7 := by
  obtain ⟨⟨a1, -, -, -, -, -, a7, a8, a9, a10, a11, -⟩, -, ⟨-, -, -, p4⟩, -, -⟩ := k
  refine ⟨w.lt (by omega), w.lt (by omega), w.lt (by omega), w.lt (by omega), w.lt (by omega), w.lt (by omega), fun p hp => ?_⟩
  obtain ⟨j, hj, e⟩ := List.getElem_of_mem hp
  have := (p4 j hj).2.1
  rw [e] at this
  exact ⟨w.lt (by omega), this⟩
theorem m_addHolder (w : hWF h) (k : sgV h s N U r nm ps es hs) {v : Nat} (hv : v < N) (hn : hs.length < N) : EvV g P 34 [va_rf (some s), .int (nI v)] h (fun h' => sgV h' s N U r nm ps es (hs ++ [(v, es.length)]) ∧ Ch (fun a => a = s ∨ a = r.2.2.2.1 ∨ a = r.2.2.2.2) 0 0 h h' ∧ (∀ f, ¬ f = 522 → ¬ f = 523 → hI h' f s = hI h f s) ∧ hR h' = hR h) := by
  obtain ⟨l0, l1, l2, l3, l4, l5, l6⟩ := k.lts w
  have k0 := k
  obtain ⟨⟨a1, a2, a3, a4, a5, a6, a7, a8, a9, a10, a11, a12, a13, a14, a15, a16⟩, n, ⟨p1, p2, p3, p4⟩, ⟨q1, q2, q3⟩, ⟨t1, t2, t3, t4⟩⟩ := k
  have hv1 : vinD (hI h 522 s) (hN h r.2.2.2.1) := by rw [t1, a10.2]; exact vin_nI hn (by omega)
  have hv2 : vinD (hI h 522 s) (hN h r.2.2.2.2) := by rw [t1, a11.2]; exact vin_nI hn (by omega)
  have ec : (hI h 522 s).toNatClampNeg = hs.length := by rw [t1]; exact nI_clamp (by omega)
  refine e_34 (s_34_0 (k7 := a10.1) (kt := fun z => absurd z (by rw [t1, a10.2]; exact nI_ge hn (by omega))) (kf := fun _ => ?_))
  refine s_34_12 (k6 := a10.1) (i7 := hv1) (k10 := a11.1) (i11 := hv2) (kk := s_34_45 (k3 := a1) (kk := s_34_57 ⟨rfl, ?_⟩))
  have c1 := Ch.wA (a := r.2.2.2.1) (i := hs.length) w (nI v) l4
  have c2 := Ch.wA (a := r.2.2.2.2) (i := hs.length) c1.2.2.1 (nI es.length) l5
  have c3 := Ch.wI (f := 522) (a := s) c2.2.2.1 (nI (hs.length + 1)) l0
  have c4 := Ch.wI (f := 523) (a := s) c3.2.2.1 (mskL (hs ++ [(v, es.length)])) l0
  have cc := ((c1.tr c2).tr (c3.tr c4)).mono (B := fun a => a = s ∨ a = r.2.2.2.1 ∨ a = r.2.2.2.2) (fun a _ q => by rcases q with (q | q) | (q | q) <;> simp [q]) (Nat.le_refl _) (Nat.le_refl _)
  have em : mskL (hs ++ [(v, es.length)]) = hI h 523 s ||| (1 <<< (nI v &&& 31)) := by rw [t3]; unfold mskL; rw [List.foldl_append]; rfl
  have eH : ∀ H : hpT, H = hpI (hpI (hpA (hpA h r.2.2.2.1 (hI h 522 s).toNatClampNeg (nI v)) r.2.2.2.2 (hI h 522 s).toNatClampNeg (hI h 519 s)) 522 s (hI h 522 s + 1)) 523 s (hI h 523 s ||| (1 <<< (nI v &&& 31))) → H = hpI (hpI (hpA (hpA h r.2.2.2.1 hs.length (nI v)) r.2.2.2.2 hs.length (nI es.length)) 522 s (nI (hs.length + 1))) 523 s (mskL (hs ++ [(v, es.length)])) := by
    intro H e
    rw [e, ec, q1, t1, nI_1, em]
  have hk : ∀ a, hK h a ≠ 9 → ¬ a = s := fun a q e => q (e ▸ a1)
  have hk2 : ∀ a, hK h a ≠ 20 → ¬ a = r.2.2.2.1 ∧ ¬ a = r.2.2.2.2 := fun a q => ⟨fun e => q (e ▸ a10.1), fun e => q (e ▸ a11.1)⟩
  generalize hH : hpI (hpI (hpA (hpA h r.2.2.2.1 hs.length (nI v)) r.2.2.2.2 hs.length (nI es.length)) 522 s (nI (hs.length + 1))) 523 s (mskL (hs ++ [(v, es.length)])) = H at cc eH
  have e2 : ∀ {Z : hpT → Prop}, Z H → Z (hpI (hpI (hpA (hpA h r.2.2.2.1 (hI h 522 s).toNatClampNeg (nI v)) r.2.2.2.2 (hI h 522 s).toNatClampNeg (hI h 519 s)) 522 s (hI h 522 s + 1)) 523 s (hI h 523 s ||| (1 <<< (nI v &&& 31)))) := fun z => by rw [eH _ rfl]; exact z
  refine e2 (Z := fun h' => sgV h' s N U r nm ps es (hs ++ [(v, es.length)]) ∧ Ch (fun a => a = s ∨ a = r.2.2.2.1 ∨ a = r.2.2.2.2) 0 0 h h' ∧ (∀ f, ¬ f = 522 → ¬ f = 523 → hI h' f s = hI h f s) ∧ hR h' = hR h) ⟨?_, cc, ?_, ?_⟩
  · have fI : ∀ f, ¬ f = 522 → ¬ f = 523 → hI H f s = hI h f s := fun f n1 n2 => by rw [← hH, rI_I, if_neg (fun q => n2 q.1), rI_I, if_neg (fun q => n1 q.1)]; rfl
    have fR : hR H = hR h := by rw [← hH]; rfl
    have fKN : hK H = hK h ∧ hN H = hN h ∧ hB H = hB h := by rw [← hH]; exact ⟨rfl, rfl, rfl⟩
    have fA : ∀ a i, hA H a i = if a = r.2.2.2.2 ∧ i = hs.length then nI es.length else if a = r.2.2.2.1 ∧ i = hs.length then nI v else hA h a i := fun a i => by rw [← hH]; rfl
    have fp : ∀ p ∈ ps, Sm h H p := fun p hp => cc.sm (by rintro (q | q | q) <;> (have := (l6 p hp).2; rw [q] at this; omega)) (l6 p hp).1
    refine ⟨?_, ?_, ⟨?_, p2, ?_, fun j hj => ⟨?_, (p4 j hj).2.sm (fp _ (List.getElem_mem hj))⟩⟩, ⟨?_, q2, fun j hj => ⟨?_, (q3 j hj).2⟩⟩, ⟨?_, ?_, ?_, fun j hj => ?_⟩⟩
    · unfold sgA
      rw [fR, fKN.1, fKN.2.1]
      exact k0.1
    · rw [fI 512 (by decide) (by decide)]; exact n
    · rw [fI 518 (by decide) (by decide)]; exact p1
    · rw [fI 520 (by decide) (by decide), p3]; exact (unS_eq (fun p hp => ((fp p hp).2.1 385).1)).symm
    · rw [fKN.2.2]; exact (p4 j hj).1
    · rw [fI 519 (by decide) (by decide)]; exact q1
    · rw [fA, if_neg (fun q => a13 q.1), if_neg (fun q => a12 q.1)]; exact (q3 j hj).1
    · rw [← hH, rI_I, if_neg (fun q => absurd q.1 (by decide)), rI_I, if_pos ⟨rfl, rfl⟩, List.length_append]; rfl
    · rw [List.length_append]; exact hn
    · rw [← hH, rI_I, if_pos ⟨rfl, rfl⟩]
    · rcases getA hj with ⟨hj', e⟩ | ⟨hj', e⟩
      · rw [e, fA, if_neg (fun q => a14 q.1), if_neg (fun q => absurd q.2 (by omega)), fA, if_neg (fun q => absurd q.2 (by omega)), if_neg (fun q => a14 q.1.symm)]
        exact t4 j hj'
      · rw [e, fA, if_neg (fun q => a14 q.1), if_pos ⟨rfl, hj'⟩, fA, if_pos ⟨rfl, hj'⟩]
        exact ⟨rfl, rfl, hv, Nat.le_refl _⟩
  · intro f n1 n2
    rw [← hH, rI_I, if_neg (fun q => n2 q.1), rI_I, if_neg (fun q => n1 q.1)]; rfl
  · rw [← hH]; rfl
end SEG
