/-! CLEANING without addresses -/
abbrev cT := Nat × Int32 × List pT
def plcC (xs : List cT) (c : cT) : Nat → Nat
  | 0 => 0
  | p + 1 => if (xs.getD p (0, 0, [])).2.1 ≤ c.2.1 then p + 1 else plcC xs c p
def insC (lt : Option Nat) (xs : List cT) (c : cT) : List cT := if some c.1 = lt then xs else xs.take (plcC xs c xs.length) ++ c :: xs.drop (plcC xs c xs.length)
def srtC (lt : Option Nat) (cs : List cT) : List cT := cs.foldl (insC lt) []
def zN : List cT → Nat
  | [] => 0
  | c :: cs => if c.2.1 = 0 then zN cs + 1 else 0
def epC (U : Int32) : List cT → Nat → Int32 → Nat
  | [], i, _ => i
  | c :: cs, i, t => if t + c.2.1 ≤ U then epC U cs (i + 1) (t + c.2.1) else i
def lpA (ms : List Int32) (ps : List pT) : List pT := (List.range ps.length).flatMap (fun j => if ms.getD j 0 = 0 then [] else (ps[j]?).toList)
def crA (A : List agT) : List cT := List.zipWith (fun a m => (a.1, m.2, lpA m.1 a.2.1)) A (mkA A)
def clC (lt : Option Nat) (A : List agT) : List cT := srtC lt (crA A)
def clZ (lt : Option Nat) (A : List agT) : Nat := zN (clC lt A)
def clE (U : Nat) (lt : Option Nat) (A : List agT) : Nat := epC (nI U) ((clC lt A).drop (clZ lt A)) (clZ lt A) 0
def clP (U : Nat) (lt : Option Nat) (A : List agT) : List pT := (((clC lt A).drop (clZ lt A)).take (clE U lt A - clZ lt A)).flatMap (·.2.2)
def pkG (nm : Nat) (hs : List (Nat × Nat)) (ps : List pT) : agT := (nm, ps, (List.range ps.length).map (· + 1), hs.map (fun x => (x.1, ps.length)))
def rmN (A : List agT) (ns : List Nat) : List agT := A.filter (fun a => !(ns.contains a.1))
def clnA (N U rep : Nat) (up : Int32) (nm sv : Nat) (lt : Option Nat) (A : List agT) : List agT × Nat × Int32 := if 2 ≤ clE U lt A - clZ lt A then (rmN A (((clC lt A).take (clE U lt A)).map (·.1)) ++ [pkG nm (nsH up N rep nm sv N) (clP U lt A)], nm + 1, 1) else (rmN A (((clC lt A).take (clZ lt A)).map (·.1)), nm, if 0 < clZ lt A then 1 else 0)
def cz (h : hpT) (z : svT) : cT := (nmN z, hI h 521 z.1, (liveL (hA h (zLv z)) (zPs z) (zPs z).length).map (pA h))
def rmS (zs ts : List svT) : List svT := ts.foldl (fun zs t => rmA zs t.1) zs
section CLN
variable {h h' : hpT} {zs ts : List svT}
theorem rmS_mem : ∀ {ts zs : List svT} {z : svT}, z ∈ rmS zs ts ↔ z ∈ zs ∧ ∀ t ∈ ts, ¬ z.1 = t.1 := by
  intro ts
  induction ts with
  | nil => intro zs z; exact ⟨fun q => ⟨q, fun t ht => absurd ht List.not_mem_nil⟩, fun q => q.1⟩
  | cons t ts ih =>
    intro zs z
    have e : rmS zs (t :: ts) = rmS (rmA zs t.1) ts := rfl
    rw [e, ih, rmA_mem]
    constructor
    · rintro ⟨⟨q1, q2⟩, q3⟩
      refine ⟨q1, fun y hy => ?_⟩
      rcases List.mem_cons.mp hy with e | e
      · rw [e]; exact q2
      · exact q3 y e
    · rintro ⟨q1, q2⟩
      exact ⟨⟨q1, q2 t List.mem_cons_self⟩, fun y hy => q2 y (List.mem_cons_of_mem _ hy)⟩
theorem rmS_1 {i : Nat} (hi : i < ts.length) : rmS zs (ts.take (i + 1)) = rmA (rmS zs (ts.take i)) ts[i].1 := by
  unfold rmS
  rw [take_1 hi, List.foldl_append]
  rfl
theorem getD_map {α β : Type} {f : α → β} {l : List α} {p : Nat} {d : β} (hp : p < l.length) : (l.map f).getD p d = f l[p] := by
  rw [List.getD_eq_getElem?_getD, List.getElem?_map, List.getElem?_eq_getElem hp]
  rfl
theorem plc_C {z : svT} : ∀ n, n ≤ ts.length → plc h (ts.map (·.1)) z.1 n = plcC (ts.map (cz h)) (cz h z) n := by
  intro n
  induction n with
  | zero => intro _; rfl
  | succ n ih =>
    intro hn
    unfold plc plcC
    rw [getD_map (by omega), getD_map (by omega), ih (by omega)]
    rfl
theorem srt_Z {lt ltn : Option Nat} : ∀ (zs ts : List svT), (∀ z ∈ zs, some z.1 = lt ↔ some (nmN z) = ltn) → (zs.map (·.1)).Nodup → (∀ t ∈ ts, ∀ z ∈ zs, ¬ t.1 = z.1) → (ts.map (·.1)).Nodup → (∀ t ∈ ts, ¬ some t.1 = lt) → ∃ ts' : List svT, (zs.map (·.1)).foldl (insS h lt) (ts.map (·.1)) = ts'.map (·.1) ∧ (zs.map (cz h)).foldl (insC ltn) (ts.map (cz h)) = ts'.map (cz h) ∧ (∀ t ∈ ts', t ∈ ts ∨ t ∈ zs) ∧ (ts'.map (·.1)).Nodup ∧ ∀ t ∈ ts', ¬ some t.1 = lt := by
  intro zs
  induction zs with
  | nil => intro ts _ _ _ k1 k2; exact ⟨ts, rfl, rfl, fun t ht => Or.inl ht, k1, k2⟩
  | cons z zs ih =>
    intro ts e nd ap k1 k2
    rw [List.map_cons, List.map_cons, List.foldl_cons, List.foldl_cons]
    rw [List.map_cons, List.nodup_cons] at nd
    have ez := e z List.mem_cons_self
    have ap' : ∀ t ∈ ts, ∀ y ∈ zs, ¬ t.1 = y.1 := fun t ht y hy => ap t ht y (List.mem_cons_of_mem _ hy)
    by_cases c : some z.1 = lt
    · have e1 : insS h lt (ts.map (·.1)) z.1 = ts.map (·.1) := if_pos c
      have e2 : insC ltn (ts.map (cz h)) (cz h z) = ts.map (cz h) := if_pos (ez.mp c)
      rw [e1, e2]
      obtain ⟨ts', r1, r2, r3, r4, r5⟩ := ih ts (fun y hy => e y (List.mem_cons_of_mem _ hy)) nd.2 ap' k1 k2
      exact ⟨ts', r1, r2, fun t ht => (r3 t ht).imp id (List.mem_cons_of_mem _), r4, r5⟩
    · generalize hp : plc h (ts.map (·.1)) z.1 (ts.map (·.1)).length = p
      have hp2 : plcC (ts.map (cz h)) (cz h z) (ts.map (cz h)).length = p := by
        rw [← hp, List.length_map, List.length_map]; exact (plc_C ts.length (Nat.le_refl _)).symm
      have e1 : insS h lt (ts.map (·.1)) z.1 = (ts.take p ++ z :: ts.drop p).map (·.1) := by
        unfold insS insL
        rw [if_neg c, hp, List.map_append, List.map_cons, List.map_take, List.map_drop]
      have e2 : insC ltn (ts.map (cz h)) (cz h z) = (ts.take p ++ z :: ts.drop p).map (cz h) := by
        unfold insC
        rw [if_neg (show ¬ some (cz h z).1 = ltn from fun q => c (ez.mpr q)), hp2, List.map_append, List.map_cons, List.map_take, List.map_drop]
      rw [e1, e2]
      have hm : ∀ t, t ∈ ts.take p ++ z :: ts.drop p → t ∈ ts ∨ t = z := by
        intro t ht
        rcases List.mem_append.mp ht with q | q
        · exact Or.inl (List.mem_of_mem_take q)
        · rcases List.mem_cons.mp q with q | q
          · exact Or.inr q
          · exact Or.inl (List.mem_of_mem_drop q)
      have hperm : ((ts.take p ++ z :: ts.drop p).map (·.1)).Perm (z.1 :: ts.map (·.1)) := by
        have : (ts.take p ++ z :: ts.drop p).Perm (z :: ts) := by
          refine List.perm_middle.trans ?_
          rw [List.take_append_drop]
        exact this.map (·.1)
      have nd2 : ((ts.take p ++ z :: ts.drop p).map (·.1)).Nodup := by
        rw [hperm.nodup_iff, List.nodup_cons]
        refine ⟨fun q => ?_, k1⟩
        obtain ⟨t, ht, et⟩ := List.mem_map.mp q
        exact ap t ht z List.mem_cons_self et
      obtain ⟨ts', r1, r2, r3, r4, r5⟩ := ih (ts.take p ++ z :: ts.drop p) (fun y hy => e y (List.mem_cons_of_mem _ hy)) nd.2 (fun t ht y hy => by
        rcases hm t ht with q | q
        · exact ap' t q y hy
        · rw [q]; exact fun q => nd.1 (List.mem_map.mpr ⟨y, hy, q.symm⟩)) nd2 (fun t ht => by
        rcases hm t ht with q | q
        · exact k2 t q
        · rw [q]; exact c)
      refine ⟨ts', r1, r2, fun t ht => ?_, r4, r5⟩
      rcases r3 t ht with q | q
      · rcases hm t q with q | q
        · exact Or.inl q
        · exact Or.inr (by rw [q]; exact List.mem_cons_self)
      · exact Or.inr (List.mem_cons_of_mem _ q)
theorem ep_C {U : Int32} (e : ∀ t ∈ ts, hI h' 521 t.1 = hI h 521 t.1) : ∀ (i : Nat) (x : Int32), epN h' U (ts.map (·.1)) i x = epC U (ts.map (cz h)) i x := by
  induction ts with
  | nil => intro i x; rfl
  | cons t ts ih =>
    intro i x
    show (if x + hI h' 521 t.1 ≤ U then epN h' U (ts.map (·.1)) (i + 1) (x + hI h' 521 t.1) else i) = if x + hI h 521 t.1 ≤ U then epC U (ts.map (cz h)) (i + 1) (x + hI h 521 t.1) else i
    rw [e t List.mem_cons_self, ih (fun y hy => e y (List.mem_cons_of_mem _ hy))]
theorem ep_ge {U : Int32} : ∀ (cs : List cT) (i : Nat) (x : Int32), i ≤ epC U cs i x ∧ epC U cs i x ≤ i + cs.length := by
  intro cs
  induction cs with
  | nil => intro i x; exact ⟨Nat.le_refl _, Nat.le_refl _⟩
  | cons c cs ih =>
    intro i x
    unfold epC
    split
    · have := ih (i + 1) (x + c.2.1)
      rw [List.length_cons]
      omega
    · exact ⟨Nat.le_refl _, Nat.le_add_right _ _⟩
theorem zN_le : ∀ cs : List cT, zN cs ≤ cs.length := by
  intro cs
  induction cs with
  | nil => exact Nat.le_refl _
  | cons c cs ih =>
    unfold zN
    split
    · rw [List.length_cons]; omega
    · exact Nat.zero_le _
/-- UNITS and LIVE PARTS: the PARTS are no more than the UNITS -/
theorem lvSA_fit (nms : List Nat) : ∀ (ps : List pT) (S : saT), ∃ k, (lvSA nms S ps).2.1 = nI k ∧ k ≤ 2 * ps.length ∧ (lvSA nms S ps).1.length = ps.length ∧ (lpA (lvSA nms S ps).1 ps).length ≤ k := by
  intro ps S
  have key : ∀ n, n ≤ ps.length → ∃ k, (lvSA nms S (ps.take n)).2.1 = nI k ∧ k ≤ 2 * n ∧ (lvSA nms S (ps.take n)).1.length = n ∧ ((List.range n).flatMap (fun j => if (lvSA nms S (ps.take n)).1.getD j 0 = 0 then [] else (ps[j]?).toList)).length ≤ k := by
    intro n
    induction n with
    | zero => intro _; exact ⟨0, nI_0.symm, Nat.le_refl _, rfl, Nat.le_refl _⟩
    | succ n ih =>
      intro hn
      have hnl : n < ps.length := hn
      obtain ⟨k, k1, k2, k3, k4⟩ := ih (by omega)
      have e : lvSA nms S (ps.take (n + 1)) = lv1 nms (lvSA nms S (ps.take n)) ps[n] := by
        unfold lvSA
        rw [take_1 hnl, List.foldl_append]; rfl
      rw [e]
      generalize lvSA nms S (ps.take n) = acc at k1 k3 k4 ⊢
      have eg : ∀ j, j < n → (lv1 nms acc ps[n]).1.getD j 0 = acc.1.getD j 0 := by
        intro j hj
        show (acc.1 ++ [_]).getD j 0 = _
        rw [List.getD_eq_getElem?_getD, List.getElem?_append_left (by omega), List.getD_eq_getElem?_getD]
      have en : (lv1 nms acc ps[n]).1.getD n 0 = (livA nms acc.2.2 ps[n]).1 := by
        show (acc.1 ++ [_]).getD n 0 = _
        rw [List.getD_eq_getElem?_getD, List.getElem?_append_right (by omega), k3, Nat.sub_self]; rfl
      have ef : (List.range n).flatMap (fun j => if (lv1 nms acc ps[n]).1.getD j 0 = 0 then [] else (ps[j]?).toList) = (List.range n).flatMap (fun j => if acc.1.getD j 0 = 0 then [] else (ps[j]?).toList) := by
        rw [List.flatMap_def, List.flatMap_def]
        refine congrArg List.flatten (List.map_congr_left (fun j hj => ?_))
        rw [eg j (List.mem_range.mp hj)]
      have eu : kU (pKd ps[n]) = 1 ∨ kU (pKd ps[n]) = 2 := by
        unfold kU
        split
        · exact Or.inr rfl
        · exact Or.inl rfl
      have e2 : (lv1 nms acc ps[n]).2.1 = acc.2.1 + (if (livA nms acc.2.2 ps[n]).1 = 0 then 0 else kU (pKd ps[n])) := rfl
      have e3 : (lv1 nms acc ps[n]).1.length = n + 1 := by
        show (acc.1 ++ [_]).length = _
        rw [List.length_append, k3]; rfl
      rw [e3, List.range_succ, List.flatMap_append, ef, List.length_append, e2, k1]
      show ∃ k', _ ∧ _ ∧ _ ∧ _ + ([n].flatMap _).length ≤ k'
      rw [List.flatMap_cons, List.flatMap_nil, List.append_nil, en]
      by_cases c : (livA nms acc.2.2 ps[n]).1 = 0
      · rw [if_pos c, if_pos c]
        exact ⟨k, Int32.add_zero _, by omega, rfl, by simpa using k4⟩
      · rw [if_neg c, if_neg c, List.getElem?_eq_getElem hnl]
        rcases eu with u | u
        · rw [u]; exact ⟨k + 1, nI_1 k, by omega, rfl, by simp only [Option.toList_some, List.length_cons, List.length_nil]; omega⟩
        · rw [u]; exact ⟨k + 2, nI_2 k, by omega, rfl, by simp only [Option.toList_some, List.length_cons, List.length_nil]; omega⟩
  have := key ps.length (Nat.le_refl _)
  rw [List.take_length] at this
  exact this
theorem mkA_fit {A : List agT} : ∀ x ∈ crA A, ∃ k, x.2.1 = nI k ∧ x.2.2.length ≤ k ∧ ∃ a ∈ A, x.1 = a.1 ∧ k ≤ 2 * a.2.1.length := by
  have key : ∀ (B : List agT) (nms : List Nat) (S : saT) , ∀ x ∈ List.zipWith (fun a m => ((a.1, m.2, lpA m.1 a.2.1) : cT)) B ((B.foldl (mk1 nms) ([], S)).1), ∃ k, x.2.1 = nI k ∧ x.2.2.length ≤ k ∧ ∃ a ∈ B, x.1 = a.1 ∧ k ≤ 2 * a.2.1.length := by
    intro B nms
    have gen : ∀ (B : List agT) (S : saT) (acc : List (List Int32 × Int32)), (B.foldl (mk1 nms) (acc, S)).1 = acc ++ (B.foldl (mk1 nms) ([], S)).1 := by
      intro B
      induction B with
      | nil => intro S acc; rw [List.foldl_nil, List.foldl_nil, List.append_nil]
      | cons b B ih =>
        intro S acc
        rw [List.foldl_cons, List.foldl_cons]
        show (B.foldl (mk1 nms) (acc ++ [_], _)).1 = acc ++ (B.foldl (mk1 nms) ([] ++ [_], _)).1
        rw [ih, ih _ ([] ++ [_]), List.nil_append, List.append_assoc]
    induction B with
    | nil => intro S x hx; rw [List.zipWith_nil_left] at hx; exact absurd hx List.not_mem_nil
    | cons b B ih =>
      intro S x hx
      rw [List.foldl_cons] at hx
      have e : (B.foldl (mk1 nms) (mk1 nms ([], S) b)).1 = ((lvSA nms S b.2.1).1, (lvSA nms S b.2.1).2.1) :: (B.foldl (mk1 nms) ([], (lvSA nms S b.2.1).2.2)).1 := by
        show (B.foldl (mk1 nms) ([] ++ [_], _)).1 = _
        rw [gen]; rfl
      rw [e, List.zipWith_cons_cons] at hx
      rcases List.mem_cons.mp hx with q | q
      · obtain ⟨k, k1, k2, k3, k4⟩ := lvSA_fit nms b.2.1 S
        refine ⟨k, by rw [q]; exact k1, by rw [q]; exact k4, b, List.mem_cons_self, by rw [q], k2⟩
      · obtain ⟨k, k1, k2, a, ha, k3⟩ := ih _ x q
        exact ⟨k, k1, k2, a, List.mem_cons_of_mem _ ha, k3⟩
  unfold crA mkA
  exact key A _ _
end CLN
