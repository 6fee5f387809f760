/-! the two sides: slots as SEGMENTS; what is read of a LOG, as a list of PARTS -/
def enP (e : enT) : List pT := e.1 :: e.2.toList
def enS (E : List enT) : List pT := E.flatMap enP
def endL : Nat → List enT → List Nat
  | _, [] => []
  | n, e :: E => (n + (enP e).length) :: endL (n + (enP e).length) E
def agS (s : slT) : agT := (lNm s, enS (lEn s), endL 0 (lEn s), lHo s)
def lbX (x : Int32) (s : slT) : Bool := decide (lLg s = x)
def flT (T : List slT) (x : Int32) (th : Nat → Nat) : List pT := (List.range T.length).flatMap (fun k => if lLg (T.getD k sl0) = x then enS ((lEn (T.getD k sl0)).take (th k)) else [])
def ptQ (T : List slT) (q : Nat × Nat × Nat) : pT := if q.2.2 = 0 then ((lEn (T.getD q.1 sl0)).getD q.2.1 en0).1 else ((lEn (T.getD q.1 sl0)).getD q.2.1 en0).2.getD (dgP 0)
section FL
variable {T : List slT} {x : Int32} {th : Nat → Nat} {E : List enT} {e : enT} {n m k : Nat} {s : slT}
theorem endL_len : ∀ (E : List enT) (n : Nat), (endL n E).length = E.length := by
  intro E
  induction E with
  | nil => intro n; rfl
  | cons e E ih => intro n; show (endL _ E).length + 1 = _; rw [ih]; rfl
theorem enS_cons : enS (e :: E) = enP e ++ enS E := List.flatMap_cons
theorem enS_app (E E' : List enT) : enS (E ++ E') = enS E ++ enS E' := List.flatMap_append
theorem endL_app : ∀ (E : List enT) (n : Nat) (e : enT), endL n (E ++ [e]) = endL n E ++ [n + (enS E).length + (enP e).length] := by
  intro E
  induction E with
  | nil => intro n e; show [n + (enP e).length] = [n + 0 + (enP e).length]; rfl
  | cons a E ih =>
    intro n e
    show (n + (enP a).length) :: endL _ (E ++ [e]) = (n + (enP a).length) :: (endL _ E ++ _)
    rw [ih, enS_cons, List.length_append, Nat.add_assoc n]
theorem endL_get : ∀ (E : List enT) (n m : Nat), m < E.length → (endL n E).getD m 0 = n + (enS (E.take (m + 1))).length := by
  intro E
  induction E with
  | nil => intro n m h; exact absurd h (Nat.not_lt_zero _)
  | cons a E ih =>
    intro n m h
    cases m with
    | zero =>
      show n + (enP a).length = n + (enS (a :: List.take 0 E)).length
      rw [enS_cons, List.take_zero]
      show _ = n + (enP a ++ []).length
      rw [List.append_nil]
    | succ m =>
      show (endL (n + (enP a).length) E).getD m 0 = n + (enS (a :: List.take (m + 1) E)).length
      rw [ih _ _ (Nat.lt_of_succ_lt_succ h), enS_cons, List.length_append, Nat.add_assoc]
theorem enS_take (m : Nat) : (enS E).take (enS (E.take m)).length = enS (E.take m) := by
  have : enS E = enS (E.take m) ++ enS (E.drop m) := by rw [← enS_app, List.take_append_drop]
  rw [this, List.take_append_of_le_length (Nat.le_refl _), List.take_length]
theorem mE_0 (en : enT) : mE en 0 = mPt en.1 := funext fun _ => rfl
theorem mE_1 (en : enT) : mE en 1 = mPo en.2 := funext fun _ => rfl
theorem mPo_n : mPo none = fun _ => 0 := funext fun _ => rfl
theorem mPo_s (p : pT) : mPo (some p) = mPt p := funext fun _ => rfl
theorem ent2_f {σ : Type} {f : σ → Nat → Nat → Nat → (Nat → Int32) → σ} {f' : σ → (Nat → Int32) → σ} (hf : ∀ b k e i r, f b k e i r = f' b r) (h0 : ∀ b r, r 0 = 0 → f' b r = b) {b : σ} {j : Nat} : ent2 f k b j e = (enP e).foldl (fun b p => f' b (mPt p)) b := by
  unfold ent2
  rw [hf, hf, mE_0, mE_1]
  unfold enP
  cases e.2 with
  | none => rw [mPo_n, h0 _ _ rfl]; rfl
  | some p => rw [mPo_s]; rfl
theorem rg_take {α σ : Type} (f : σ → α → σ) (d : α) : ∀ (n : Nat) (l : List α) (b : σ), n ≤ l.length → (List.range n).foldl (fun b i => f b (l.getD i d)) b = (l.take n).foldl f b := by
  intro n
  induction n with
  | zero => intro l b _; rw [List.take_zero]; rfl
  | succ n ih =>
    intro l b h
    rw [List.range_succ, List.foldl_append, ih l b (by omega), List.take_succ_eq_append_getElem h, List.foldl_append]
    show f _ (l.getD n d) = f _ l[n]
    rw [List.getD_eq_getElem?_getD, List.getElem?_eq_getElem h]; rfl
theorem tF_flat {σ : Type} {f : σ → Nat → Nat → Nat → (Nat → Int32) → σ} {f' : σ → (Nat → Int32) → σ} (hf : ∀ b k e i r, f b k e i r = f' b r) (h0 : ∀ b r, r 0 = 0 → f' b r = b) (hth : ∀ k, k < T.length → th k ≤ (lEn (T.getD k sl0)).length) (b : σ) : tFold f th T x b = (flT T x th).foldl (fun b p => f' b (mPt p)) b := by
  unfold tFold flT
  have : ∀ (l : List Nat) (b : σ), (∀ k ∈ l, k < T.length) → l.foldl (slF f th T x) b = (l.flatMap (fun k => if lLg (T.getD k sl0) = x then enS ((lEn (T.getD k sl0)).take (th k)) else [])).foldl (fun b p => f' b (mPt p)) b := by
    intro l
    induction l with
    | nil => intro b _; rfl
    | cons k l ih =>
      intro b hl
      rw [List.foldl_cons, List.flatMap_cons, List.foldl_append, ih _ (fun k hk => hl k (List.mem_cons_of_mem _ hk))]
      congr 1
      have hk := hth k (hl k List.mem_cons_self)
      unfold slF
      by_cases q : lLg (T.getD k sl0) = x
      · rw [if_neg (fun z => z q), if_pos q]
        generalize lEn (T.getD k sl0) = E at hk ⊢
        have e1 : (fun b e => ent2 f k b e (E.getD e en0)) = fun b i => (enP (E.getD i en0)).foldl (fun b p => f' b (mPt p)) b := funext fun b => funext fun i => ent2_f hf h0
        rw [e1, rg_take (fun b e => (enP e).foldl (fun b p => f' b (mPt p)) b) en0 _ _ _ hk]
        unfold enS
        rw [List.foldl_flatMap]
      · rw [if_pos q, if_neg q]; rfl
  exact this _ _ (fun k hk => List.mem_range.mp hk)
theorem tF_find {f : Option (Nat × Nat × Nat) → Nat → Nat → Nat → (Nat → Int32) → Option (Nat × Nat × Nat)} {φ : (Nat → Int32) → Bool} (hf : ∀ k e i r, f none k e i r = if φ r = true then some (k, e, i) else none) (hs : ∀ q k e i r, f (some q) k e i r = some q) (h0 : ∀ r, r 0 = 0 → φ r = false) (hth : ∀ k, k < T.length → th k ≤ (lEn (T.getD k sl0)).length) : (tFold f th T x none).map (ptQ T) = (flT T x th).find? (fun p => φ (mPt p)) := by
  unfold tFold flT
  have ent : ∀ (k j : Nat) (b : Option (Nat × Nat × Nat)), (ent2 f k b j ((lEn (T.getD k sl0)).getD j en0)).map (ptQ T) = (b.map (ptQ T)).or ((enP ((lEn (T.getD k sl0)).getD j en0)).find? (fun p => φ (mPt p))) := by
    intro k j b
    unfold ent2
    cases b with
    | some q => rw [hs, hs]; rfl
    | none =>
      rw [hf, mE_0, mE_1]
      have p0 : ptQ T (k, j, 0) = ((lEn (T.getD k sl0)).getD j en0).1 := rfl
      have p1 : ptQ T (k, j, 1) = ((lEn (T.getD k sl0)).getD j en0).2.getD (dgP 0) := rfl
      generalize (lEn (T.getD k sl0)).getD j en0 = e at p0 p1 ⊢
      unfold enP
      rw [List.find?_cons]
      by_cases q : φ (mPt e.1) = true
      · rw [if_pos q, hs, q]
        show some (ptQ T (k, j, 0)) = some e.1
        rw [p0]
      · rw [if_neg q, hf]
        have q' : φ (mPt e.1) = false := by simpa using q
        rw [q']
        cases e2 : e.2 with
        | none =>
          rw [mPo_n, h0 _ rfl]; rfl
        | some p =>
          rw [mPo_s]
          rw [e2] at p1
          by_cases q2 : φ (mPt p) = true
          · rw [if_pos q2]
            show some (ptQ T (k, j, 1)) = [p].find? (fun p => φ (mPt p))
            rw [p1, List.find?_cons, q2]; rfl
          · rw [if_neg q2]
            have q2' : φ (mPt p) = false := by simpa using q2
            show none = [p].find? (fun p => φ (mPt p))
            rw [List.find?_cons, q2']; rfl
  have slt : ∀ (k : Nat) (n : Nat) (b : Option (Nat × Nat × Nat)), n ≤ (lEn (T.getD k sl0)).length → ((List.range n).foldl (fun b e => ent2 f k b e ((lEn (T.getD k sl0)).getD e en0)) b).map (ptQ T) = (b.map (ptQ T)).or ((enS ((lEn (T.getD k sl0)).take n)).find? (fun p => φ (mPt p))) := by
    intro k n
    induction n with
    | zero => intro b _; rw [List.take_zero]; show b.map _ = (b.map (ptQ T)).or none; rw [Option.or_none]
    | succ n ih =>
      intro b hn
      rw [List.range_succ, List.foldl_append, List.foldl_cons, List.foldl_nil, ent, ih b (by omega), List.take_succ_eq_append_getElem hn, enS_app, List.find?_append, Option.or_assoc]
      have : (lEn (T.getD k sl0)).getD n en0 = (lEn (T.getD k sl0))[n] := by rw [List.getD_eq_getElem?_getD, List.getElem?_eq_getElem hn]; rfl
      rw [this]
      have e1 : enS [(lEn (T.getD k sl0))[n]] = enP (lEn (T.getD k sl0))[n] := by
        show enP _ ++ [] = _
        rw [List.append_nil]
      rw [e1]
  have : ∀ (l : List Nat) (b : Option (Nat × Nat × Nat)), (∀ k ∈ l, k < T.length) → (l.foldl (slF f th T x) b).map (ptQ T) = (b.map (ptQ T)).or ((l.flatMap (fun k => if lLg (T.getD k sl0) = x then enS ((lEn (T.getD k sl0)).take (th k)) else [])).find? (fun p => φ (mPt p))) := by
    intro l
    induction l with
    | nil => intro b _; show b.map _ = (b.map (ptQ T)).or none; rw [Option.or_none]
    | cons k l ih =>
      intro b hl
      rw [List.foldl_cons, List.flatMap_cons, List.find?_append, ih _ (fun k hk => hl k (List.mem_cons_of_mem _ hk)), ← Option.or_assoc]
      congr 1
      have hk := hth k (hl k List.mem_cons_self)
      unfold slF
      by_cases q : lLg (T.getD k sl0) = x
      · rw [if_neg (fun z => z q), if_pos q, slt k _ b hk]
      · rw [if_pos q, if_neg q]
        show b.map _ = (b.map (ptQ T)).or none
        rw [Option.or_none]
  exact this _ none (fun k hk => List.mem_range.mp hk)
theorem rg_flatMap {α β : Type} (f : α → List β) (d : α) : ∀ (l : List α), (List.range l.length).flatMap (fun k => f (l.getD k d)) = l.flatMap f := by
  intro l
  have : ∀ n, n ≤ l.length → (List.range n).flatMap (fun k => f (l.getD k d)) = (l.take n).flatMap f := by
    intro n
    induction n with
    | zero => intro _; rw [List.take_zero]; rfl
    | succ n ih =>
      intro h
      rw [List.range_succ, List.flatMap_append, ih (by omega), List.take_succ_eq_append_getElem h, List.flatMap_append]
      congr 1
      show f (l.getD n d) ++ [] = f l[n] ++ []
      rw [List.getD_eq_getElem?_getD, List.getElem?_eq_getElem h]; rfl
  rw [this _ (Nat.le_refl _), List.take_length]
theorem if_flatMap {α β : Type} (p : α → Bool) (f : α → List β) : ∀ (l : List α), l.flatMap (fun a => if p a = true then f a else []) = (l.filter p).flatMap f := by
  intro l
  induction l with
  | nil => rfl
  | cons a l ih =>
    rw [List.flatMap_cons, ih, List.filter_cons]
    by_cases q : p a = true
    · rw [if_pos q, if_pos q, List.flatMap_cons]
    · rw [if_neg q, if_neg q]; rfl
theorem flT_eq {tS : slT → Nat} (ht : ∀ k, k < T.length → lLg (T.getD k sl0) = x → th k = tS (T.getD k sl0)) : flT T x th = (T.filter (lbX x)).flatMap (fun s => enS ((lEn s).take (tS s))) := by
  rw [← if_flatMap, ← rg_flatMap _ sl0]
  unfold flT
  have : ∀ l : List Nat, (∀ k ∈ l, k < T.length) → l.flatMap (fun k => if lLg (T.getD k sl0) = x then enS ((lEn (T.getD k sl0)).take (th k)) else []) = l.flatMap (fun k => if lbX x (T.getD k sl0) = true then enS ((lEn (T.getD k sl0)).take (tS (T.getD k sl0))) else []) := by
    intro l
    induction l with
    | nil => intro _; rfl
    | cons k l ih =>
      intro hl
      rw [List.flatMap_cons, List.flatMap_cons, ih (fun k hk => hl k (List.mem_cons_of_mem _ hk))]
      congr 1
      unfold lbX
      by_cases q : lLg (T.getD k sl0) = x
      · rw [if_pos q, if_pos (decide_eq_true q), ht k (hl k List.mem_cons_self) q]
      · rw [if_neg q, if_neg (by simpa using q)]
  exact this _ (fun k hk => List.mem_range.mp hk)
end FL
