/-! Storage.copyLive, endOfPacked, spareFor -/
def addE (t : svT) (q : Nat) : svT := (t.1, t.2.1, t.2.2.1, t.2.2.2.1 ++ [q], t.2.2.2.2.1 ++ [t.2.2.2.1.length + 1], updH t.2.2.2.2.2 t.2.2.2.2.2.length (t.2.2.2.2.1.length + 1))
def liveL (lv : Nat → Int32) (ps : List Nat) (i : Nat) : List Nat := (List.range i).flatMap (fun j => if lv j = 0 then [] else [ps.getD j 0])
theorem liveL_1 {lv : Nat → Int32} {ps : List Nat} {i : Nat} : liveL lv ps (i + 1) = liveL lv ps i ++ (if lv i = 0 then [] else [ps.getD i 0]) := by
  unfold liveL
  rw [List.range_succ, List.flatMap_append]
  simp
theorem addL_fix (l : List Nat) : ∀ t : svT, (l.foldl addE t).1 = t.1 ∧ (l.foldl addE t).2.1 = t.2.1 ∧ (l.foldl addE t).2.2.1 = t.2.2.1 ∧ zPs (l.foldl addE t) = zPs t ++ l := by
  induction l with
  | nil => exact fun t => ⟨rfl, rfl, rfl, (List.append_nil _).symm⟩
  | cons q l ih =>
    intro t
    obtain ⟨h1, h2, h3, h4⟩ := ih (addE t q)
    refine ⟨h1, h2, h3, ?_⟩
    rw [List.foldl_cons, h4]
    show (zPs t ++ [q]) ++ l = _
    rw [List.append_assoc]; rfl
section COPY
variable {g : gcT} {P : pmT} {N U : Nat} {z t : svT} {h : hpT}
def tS (t : svT) (a : Nat) : Prop := a = t.1 ∨ a = t.2.1.1 ∨ a = t.2.1.2.2.1 ∨ a = t.2.1.2.2.2.2
theorem m_copyLive (w : hWF h) (kz : sgX h N U z) (kt : sgX h N U t) (n0 : ¬ tS t z.1) (n1 : ¬ tS t z.2.1.1) (n2 : ¬ tS t z.2.1.2.1) (n3 : ¬ tS t z.2.1.2.2.1) (n4 : ¬ tS t z.2.1.2.2.2.1) (n5 : ¬ tS t z.2.1.2.2.2.2) (hc : ∀ i, i ≤ (zPs z).length → (zPs t).length + (liveL (hA h (zLv z)) (zPs z) i).length ≤ U) : EvV g P 51 [va_rf (some z.1), va_rf (some t.1)] h (fun h' => sgX h' N U ((liveL (hA h (zLv z)) (zPs z) (zPs z).length).foldl addE t) ∧ Ch (tS t) 0 0 h h' ∧ (∀ f, ¬ f = 518 → ¬ f = 519 → ¬ f = 520 → hI h' f t.1 = hI h f t.1) ∧ hR h' = hR h) := by
  obtain ⟨lz0, lz1, lz2, lz3, lz4, lz5, lz6⟩ := sgV.lts w kz
  refine e_51 (s_51_0 ?_)
  have nP : ∀ q, hK h q = 7 → ¬ tS t q := by
    obtain ⟨a1, -, -, -, -, -, a7, a8, a9, a10, a11, -⟩ := kt.1
    rintro q hq (e | e | e | e) <;> (rw [e] at hq; omega)
  have smz : ∀ {h1}, Ch (tS t) 0 0 h h1 → sgX h1 N U z := fun c => sgV.fr kz (c.sm n0 lz0) (c.sm n1 lz1) (c.sm n2 lz2) (c.sm n3 lz3) (c.sm n4 lz4) (c.sm n5 lz5) (fun p hp => c.sm (nP p (lz6 p hp).2) (lz6 p hp).1)
  have lp := cnt_loop (zPs z).length (fun i h1 => sgX h1 N U ((liveL (hA h (zLv z)) (zPs z) i).foldl addE t) ∧ Ch (tS t) 0 0 h h1 ∧ (∀ f, ¬ f = 518 → ¬ f = 519 → ¬ f = 520 → hI h1 f t.1 = hI h f t.1) ∧ hR h1 = hR h) (fun i h1 => Ev g P 51 2 [some (va_rf (some z.1)), some (va_rf (some t.1)), some (.int (nI i))] [] h1 (fun h' x => x = none ∧ sgX h' N U ((liveL (hA h (zLv z)) (zPs z) (zPs z).length).foldl addE t) ∧ Ch (tS t) 0 0 h h' ∧ (∀ f, ¬ f = 518 → ¬ f = 519 → ¬ f = 520 → hI h' f t.1 = hI h f t.1) ∧ hR h' = hR h)) ?_ ?_ h ⟨kt, Ch.rf w _, fun _ _ _ _ => rfl, rfl⟩
  · rw [nI_0] at lp; exact lp
  · intro i h1 hi ⟨u1, u2, u3, u4⟩ kn
    have kz1 := smz u2
    have w1 := u2.2.2.1
    obtain ⟨s1, s2, s5, p, s3, s4, s7⟩ := (sgV.w kz1).at
    obtain ⟨hv, eb, ek⟩ := s7 i hi
    have hiU : i < U := Nat.lt_of_lt_of_le hi kz1.2.2.1.2.1
    have hU := kz1.1.2.2.2.2.2.2.2.2.2.2.2.2.2.2.1
    have k21 := kz1.1.2.2.2.2.2.2.2.1
    have hvl : vinD (nI i) (hN h1 (zLv z)) := by rw [show hN h1 (zLv z) = U from k21.2]; exact vin_nI hiU (by omega)
    have ei : (nI i).toNatClampNeg = i := nI_clamp (by omega)
    have elv : hA h1 (zLv z) i = hA h (zLv z) i := ((u2.sm n2 lz2).2.2.2 i).1
    refine s_51_2 (k3 := s1) (kt := fun q => absurd q (by rw [s2]; exact nI_ge hi s5)) (kf := fun _ => ?_)
    refine s_51_10 (k3 := s1) (e5 := kz1.1.2.2.1) (k6 := k21.1) (i7 := hvl) (kt := fun q => s_51_34 ?_) (kf := fun q => ?_)
    · rw [ei] at q
      have q : hA h1 (zLv z) i = 0 := q
      rw [elv] at q
      rw [nI_1]
      refine kn _ ⟨?_, u2, u3, u4⟩
      rw [liveL_1, if_pos q, List.append_nil]; exact u1
    · rw [ei] at q
      have q : ¬ hA h1 (zLv z) i = 0 := q
      rw [elv] at q
      obtain ⟨f1, f2, f3, f4⟩ := addL_fix (liveL (hA h (zLv z)) (zPs z) i) t
      have ed : (zPs z).getD i 0 = (zPs z)[i] := by rw [List.getD_eq_getElem?_getD, List.getElem?_eq_getElem hi]; rfl
      have hcap := hc (i + 1) hi
      rw [liveL_1, if_neg q, List.length_append] at hcap
      have hcap : (zPs t).length + ((liveL (hA h (zLv z)) (zPs z) i).length + 1) ≤ U := hcap
      have eq1 : (liveL (hA h (zLv z)) (zPs z) (i + 1)).foldl addE t = addE ((liveL (hA h (zLv z)) (zPs z) i).foldl addE t) (zPs z)[i] := by
        rw [liveL_1, if_neg q, List.foldl_append, ed]; rfl
      have len4 : (zPs ((liveL (hA h (zLv z)) (zPs z) i).foldl addE t)).length + 1 ≤ U := by rw [f4, List.length_append]; omega
      generalize hT : (liveL (hA h (zLv z)) (zPs z) i).foldl addE t = T at u1 f1 f2 f3 f4 eq1 len4
      have hq : ptK h1 (zPs z)[i] := (kz1.2.2.1.2.2.2 i hi).2
      have h522 : hI h1 522 T.1 = nI T.2.2.2.2.2.length := u1.2.2.2.2.1
      have hlN := u1.2.2.2.2.2.1
      have hNb := u1.1.2.2.2.2.2.2.2.2.2.2.2.2.2.2.2
      have hadd : EvV g P 35 [va_rf (some t.1), va_rf none, va_rf (hB h1 p (nI i).toNatClampNeg), .int (hI h1 522 t.1)] h1 (fun h' => entH h1 T.1 N U T.2.1 T.2.2.1 T.2.2.2.1 T.2.2.2.2.1 T.2.2.2.2.2 [(zPs z)[i]] T.2.2.2.2.2.length h') := by
        rw [show hB h1 p (nI i).toNatClampNeg = some (zPs z)[i] from eb, ← f1, h522]
        exact m_addEntry1 w1 u1 hq len4 (by omega)
      refine s_51_19 (k3 := s1) (e5 := s3) (k6 := s4) (i7 := hv) (k10 := by rw [← f1]; exact u1.1.1) (hc := hadd) (kk := fun h2 ⟨y1, y2, y3, y4⟩ => s_51_34 ?_)
      rw [nI_1]
      refine kn _ ⟨?_, ?_, ?_, y4.trans u4⟩
      · rw [eq1]; exact y1
      · refine (u2.tr y2).mono (fun a _ q => ?_) (Nat.le_refl _) (Nat.le_refl _)
        rw [f1, f2] at q
        exact q.elim id id
      · intro f m1 m2 m3
        rw [← f1, y3 f m1 m2 m3, f1]
        exact u3 f m1 m2 m3
  · intro h1 ⟨u1, u2, u3, u4⟩
    have kz1 := smz u2
    obtain ⟨s1, s2, s5, -⟩ := (sgV.w kz1).at
    exact s_51_2 (k3 := s1) (kt := fun _ => s_51_40 ⟨rfl, u1, u2, u3, u4⟩) (kf := fun q => absurd (by rw [s2]; exact nI_le (Nat.le_refl _) s5) q)
end COPY
