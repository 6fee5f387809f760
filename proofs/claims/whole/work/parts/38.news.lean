/-! Storage.newSegment -/
def ringN (n nm sv st : Nat) : Nat := (7 * nm + 3 * sv + st) % n
theorem ringF_N {n nm sv st : Nat} (hn : 0 < n) (hb : n ≤ 30) (h1 : nm ≤ 100000000) (h2 : sv ≤ 30) (h3 : st ≤ 30) : ringF (nI n) (nI nm) (nI sv) (nI st) = nI (ringN n nm sv st) := by
  unfold ringF ringN
  have e : 7 * nI nm + 3 * nI sv + nI st = nI (7 * nm + 3 * sv + st) := by
    rw [show (7 : Int32) = nI 7 from rfl, show (3 : Int32) = nI 3 from rfl, pk_mul, pk_mul]
    show Int32.ofNat (7 * nm) + Int32.ofNat (3 * sv) + Int32.ofNat st = Int32.ofNat _
    rw [← Int32.ofNat_add, ← Int32.ofNat_add]
  rw [e]
  exact pk_rem (by omega) hn (by omega)
theorem ringN_lt {n nm sv st : Nat} (hn : 0 < n) : ringN n nm sv st < n := Nat.mod_lt _ hn
def nsF (up : Int32) (N rep nm sv : Nat) (hs : List (Nat × Nat)) (i : Nat) : List (Nat × Nat) := if rep ≤ hs.length then hs else if ringN N nm sv i = sv then hs else if shrB up (nI (ringN N nm sv i)) = 1 then hs ++ [(ringN N nm sv i, 0)] else hs
def nsH (up : Int32) (N rep nm sv i : Nat) : List (Nat × Nat) := (List.range i).foldl (nsF up N rep nm sv) []
theorem nsH_1 {up : Int32} {N rep nm sv i : Nat} : nsH up N rep nm sv (i + 1) = nsF up N rep nm sv (nsH up N rep nm sv i) i := by
  unfold nsH
  rw [List.range_succ, List.foldl_append]
  rfl
theorem nsH_full {up : Int32} {N rep nm sv i : Nat} (hf : rep ≤ (nsH up N rep nm sv i).length) : ∀ d, nsH up N rep nm sv (i + d) = nsH up N rep nm sv i := by
  intro d
  induction d with
  | zero => rfl
  | succ d ih =>
    rw [← Nat.add_assoc, nsH_1, ih]
    unfold nsF
    rw [if_pos hf]
theorem nI_inj {a b : Nat} (ha : a < 2 ^ 31) (hb : b < 2 ^ 31) (e : nI a = nI b) : a = b := by
  have := congrArg Int32.toNatClampNeg e
  rw [nI_clamp ha, nI_clamp hb] at this
  exact this
section NEWS
variable {g : gcT} {P : pmT} {N U rep nm sv a s e : Nat} {up : Int32} {h : hpT}
/-- what a Storage says -/
def stV (h : hpT) (a e N U rep : Nat) (up : Int32) (nm : Nat) : Prop := hK h a = 11 ∧ hR h 643 a = some e ∧ hK h e = 27 ∧ hN h e = N ∧ hI h 640 a = nI rep ∧ hI h 641 a = nI U ∧ hI h 646 a = up ∧ hI h 648 a = nI nm
theorem m_newSegment (w : hWF h) (k : stV h a e N U rep up nm) (ks : hK h s = 10) (hsv : hI h 576 s = nI sv) (hN0 : 0 < N) (hNb : N ≤ 30) (hUb : U ≤ 100) (hrb : rep ≤ N) (hnb : nm ≤ 100000000) (hsb : sv < N) : EvA g P 47 [va_rf (some a), va_rf (some s)] h (fun h' r => r = some (hS h) ∧ sgV h' (hS h) N U (hS h + 1, hS h + 2, hS h + 3, hS h + 4, hS h + 5) (nI nm) [] [] (nsH up N rep nm sv N) ∧ hI h' 521 (hS h) = 0 ∧ hI h' 524 (hS h) = 0 ∧ stV h' a e N U rep up (nm + 1) ∧ (∀ f, ¬ f = 648 → hI h' f a = hI h f a) ∧ (∀ f, hR h' f a = hR h f a) ∧ Ch (fun x => x = a) 6 (nf 8 + (3 * U + 2 * N)) h h' ) := by
  obtain ⟨k1, k2, k3, k4, k5, k6, k7, k8⟩ := k
  have la : a < hS h := w.lt (by omega)
  have le : e < hS h := w.lt (by omega)
  have ls : s < hS h := w.lt (by omega)
  have cO := Ch.mO w 8
  have wO := cO.2.2.1
  have kS : hK (hpO h 8) (hS h) = 9 := hK_O_new h 8
  have ka0 : hK (hpO h 8) a = 11 := by rw [hK_O la]; exact k1
  have ke0 : hK (hpO h 8) e = 27 := by rw [hK_O le]; exact k3
  have hseg : EvV g P 33 [va_rf (some (hS h)), .int (hI (hpO h 8) 648 a), .int (hI (hpO h 8) 641 a), .int (nI (hN (hpO h 8) e))] (hpO h 8) (fun h' => sgV h' (hS h) N U (hS (hpO h 8), hS (hpO h 8) + 1, hS (hpO h 8) + 2, hS (hpO h 8) + 3, hS (hpO h 8) + 4) (nI nm) [] [] [] ∧ Ch (fun a => a = hS h) 5 (3 * U + 2 * N) (hpO h 8) h' ∧ hS h' = hS (hpO h 8) + 5 ∧ hI h' 521 (hS h) = 0 ∧ hI h' 524 (hS h) = 0) := by
    have e1 : hI (hpO h 8) 648 a = nI nm := k8
    have e2 : hI (hpO h 8) 641 a = nI U := k6
    have e3 : hN (hpO h 8) e = N := k4
    rw [e1, e2, e3]
    exact m_seg wO kS (fun f => ((w (hS h) (Nat.le_refl _)).2.1 f).1) hUb hNb
  refine e_47 (s_47_0 (s_47_3 (k3 := ka0) (e5 := k2) (k7 := ke0) (hc := hseg) (kk := fun h1 ⟨v1, v2, v3, v4, v5⟩ => ?_)))
  have la0 : a < hS (hpO h 8) := Nat.lt_succ_of_lt la
  have sa1 : Sm (hpO h 8) h1 a := v2.sm (by omega) la0
  have w1 := v2.2.2.1
  have ka1 : hK h1 a = 11 := by rw [sa1.1]; exact ka0
  have i648 : hI h1 648 a = nI nm := by rw [(sa1.2.1 648).1]; exact k8
  refine s_47_20 (k3 := ka1) (kk := ?_)
  have e648 : hI h1 648 a + 1 = nI (nm + 1) := by rw [i648, nI_1]
  rw [e648]
  have cI := Ch.wI (f := 648) (a := a) w1 (nI (nm + 1)) (Nat.lt_of_lt_of_le la0 v2.1.1)
  have v1' : sgV h1 (hS h) N U (hS h + 1, hS h + 2, hS h + 3, hS h + 4, hS h + 5) (nI nm) [] [] [] := v1
  obtain ⟨t0, t1, t2, t3, t4, t5, -⟩ := v1'.lts w1
  have kk1 := v1'.1
  obtain ⟨z1, -, -, -, -, -, z7, z8, z9, z10, z11, -⟩ := kk1
  have nKa : ∀ b, ¬ hK h1 b = 11 → ¬ b = a := fun b q ee => q (by rw [ee]; exact ka1)
  have v6 : sgV (hpI h1 648 a (nI (nm + 1))) (hS h) N U (hS h + 1, hS h + 2, hS h + 3, hS h + 4, hS h + 5) (nI nm) [] [] [] := v1'.fr (cI.sm (nKa _ (by omega)) t0) (cI.sm (nKa _ (by omega)) t1) (cI.sm (nKa _ (by omega)) t2) (cI.sm (nKa _ (by omega)) t3) (cI.sm (nKa _ (by omega)) t4) (cI.sm (nKa _ (by omega)) t5) (fun p hp => absurd hp List.not_mem_nil)
  have sS := cI.sm (nKa (hS h) (by omega)) t0
  have c3 := (cO.tr (v2.tr cI)).mono (B := fun x => x = a) (c' := 6) (m' := nf 8 + (3 * U + 2 * N)) (fun x hx q => by rcases q with q | q | q; exact q.elim; omega; exact q) (by omega) (by omega)
  have a1 : ∀ f, ¬ f = 648 → hI (hpI h1 648 a (nI (nm + 1))) f a = hI h f a := fun f nf' => by rw [rI_I, if_neg (fun q => nf' q.1), (sa1.2.1 f).1]; rfl
  have a2 : hI (hpI h1 648 a (nI (nm + 1))) 648 a = nI (nm + 1) := by rw [rI_I, if_pos ⟨rfl, rfl⟩]
  have a3 : ∀ f, hR (hpI h1 648 a (nI (nm + 1))) f a = hR h f a := fun f => by
    show hR h1 f a = _
    rw [(sa1.2.1 f).2]; rfl
  have a4 : hI (hpI h1 648 a (nI (nm + 1))) 521 (hS h) = 0 ∧ hI (hpI h1 648 a (nI (nm + 1))) 524 (hS h) = 0 := by rw [(sS.2.1 521).1, (sS.2.1 524).1]; exact ⟨v4, v5⟩
  have a5 : hS (hpI h1 648 a (nI (nm + 1))) = hS h + 6 := by
    show hS h1 = _
    rw [v3]
    show hS h + 1 + 5 = _
    omega
  generalize hpI h1 648 a (nI (nm + 1)) = H at v6 c3 a1 a2 a3 a4 a5 ⊢
  have wH := c3.2.2.1
  have sv1 : ∀ {h2}, Ch (fun x => x = hS h ∨ x = hS h + 4 ∨ x = hS h + 5) 0 0 H h2 → Sm H h2 a := fun c => c.sm (by omega) (by omega)
  have facts : ∀ {h2 : hpT}, Ch (fun x => x = hS h ∨ x = hS h + 4 ∨ x = hS h + 5) 0 0 H h2 → Ch (fun x => x = a) 6 (nf 8 + (3 * U + 2 * N)) h h2 ∧ hK h2 a = 11 ∧ hK h2 e = 27 ∧ hN h2 e = N ∧ hK h2 s = 10 ∧ hI h2 576 s = nI sv ∧ hR h2 643 a = some e ∧ hI h2 640 a = nI rep ∧ hI h2 646 a = up := by
    intro h2 u4
    have sa := sv1 u4
    have w2 := u4.2.2.1
    have cc := (c3.tr u4).mono (B := fun x => x = a) (c' := 6) (m' := nf 8 + (3 * U + 2 * N)) (fun x hx q => by rcases q with q | q | q | q; exact q; omega; omega; omega) (by omega) (by omega)
    have ka2 : hK h2 a = 11 := by rw [(cc.2.1 a la).1]; exact k1
    have ke2 : hK h2 e = 27 := by rw [(cc.2.1 e le).1]; exact k3
    have ne2 : hN h2 e = N := by rw [(cc.2.1 e le).2]; exact k4
    have ks2 : hK h2 s = 10 := by rw [(cc.2.1 s ls).1]; exact ks
    have i576 : hI h2 576 s = nI sv := by
      rw [((cc.sm (by intro q; rw [q] at ks; omega) ls).2.1 576).1]; exact hsv
    have r643 : hR h2 643 a = some e := by rw [(sa.2.1 643).2, a3]; exact k2
    have i640 : hI h2 640 a = nI rep := by rw [(sa.2.1 640).1, a1 640 (by decide)]; exact k5
    have i646 : hI h2 646 a = up := by rw [(sa.2.1 646).1, a1 646 (by decide)]; exact k7
    exact ⟨cc, ka2, ke2, ne2, ks2, i576, r643, i640, i646⟩
  have fin : ∀ i h2 hs, hI h2 521 (hS h) = 0 → hI h2 524 (hS h) = 0 → Ch (fun x => x = hS h ∨ x = hS h + 4 ∨ x = hS h + 5) 0 0 H h2 → hs = nsH up N rep nm sv N → sgV h2 (hS h) N U (hS h + 1, hS h + 2, hS h + 3, hS h + 4, hS h + 5) (nI nm) [] [] hs → ∀ o4, Ev g P 47 95 [some (va_rf (some a)), some (va_rf (some s)), some (va_rf (some (hS h))), some (.int (nI i)), o4] [] h2 (fun h' r => ∃ x, r = some (va_rf x) ∧ x = some (hS h) ∧ sgV h' (hS h) N U (hS h + 1, hS h + 2, hS h + 3, hS h + 4, hS h + 5) (nI nm) [] [] (nsH up N rep nm sv N) ∧ hI h' 521 (hS h) = 0 ∧ hI h' 524 (hS h) = 0 ∧ stV h' a e N U rep up (nm + 1) ∧ (∀ f, ¬ f = 648 → hI h' f a = hI h f a) ∧ (∀ f, hR h' f a = hR h f a) ∧ Ch (fun x => x = a) 6 (nf 8 + (3 * U + 2 * N)) h h') := by
      intro i h2 hs u2 u3 u4 eh k o4
      obtain ⟨cc, ka2, ke2, ne2, ks2, i576, r643, i640, i646⟩ := facts u4
      have sa := sv1 u4
      refine s_47_95 ⟨_, rfl, rfl, eh ▸ k, u2, u3, ⟨ka2, r643, ke2, ne2, i640, ?_, i646, ?_⟩, fun f nf' => ?_, fun f => ?_, cc⟩
      · rw [(sa.2.1 641).1, a1 641 (by decide)]; exact k6
      · rw [(sa.2.1 648).1, a2]
      · rw [(sa.2.1 f).1, a1 f nf']
      · rw [(sa.2.1 f).2, a3]
  have lp := cnt_loop N (fun i h2 => sgV h2 (hS h) N U (hS h + 1, hS h + 2, hS h + 3, hS h + 4, hS h + 5) (nI nm) [] [] (nsH up N rep nm sv i) ∧ hI h2 521 (hS h) = 0 ∧ hI h2 524 (hS h) = 0 ∧ Ch (fun x => x = hS h ∨ x = hS h + 4 ∨ x = hS h + 5) 0 0 H h2) (fun i h2 => ∀ o4 : Option Value, Ev g P 47 33 [some (va_rf (some a)), some (va_rf (some s)), some (va_rf (some (hS h))), some (.int (nI i)), o4] [] h2 (fun h' r => ∃ x, r = some (va_rf x) ∧ x = some (hS h) ∧ sgV h' (hS h) N U (hS h + 1, hS h + 2, hS h + 3, hS h + 4, hS h + 5) (nI nm) [] [] (nsH up N rep nm sv N) ∧ hI h' 521 (hS h) = 0 ∧ hI h' 524 (hS h) = 0 ∧ stV h' a e N U rep up (nm + 1) ∧ (∀ f, ¬ f = 648 → hI h' f a = hI h f a) ∧ (∀ f, hR h' f a = hR h f a) ∧ Ch (fun x => x = a) 6 (nf 8 + (3 * U + 2 * N)) h h')) ?_ ?_ H ⟨v6, a4.1, a4.2, Ch.rf wH _⟩
  · rw [nI_0] at lp
    exact lp none
  · intro i h2 hi ⟨u1, u2, u3, u4⟩ kn o4
    obtain ⟨cc, ka2, ke2, ne2, ks2, i576, r643, i640, i646⟩ := facts u4
    have w2 := u4.2.2.1
    have hlen : hI h2 522 (hS h) = nI (nsH up N rep nm sv i).length := u1.2.2.2.2.1
    have hle : (nsH up N rep nm sv i).length ≤ N := u1.2.2.2.2.2.1
    have kseg : hK h2 (hS h) = 9 := u1.1.1
    refine s_47_33 (k3 := ka2) (e5 := r643) (k7 := ke2) (kt := fun z => absurd z (by rw [ne2]; exact nI_ge hi (by omega))) (kf := fun _ => ?_)
    refine s_47_42 (k3 := kseg) (k6 := ka2) (kt := fun z => fin i h2 _ u2 u3 u4 ?_ u1 _) (kf := fun z => ?_)
    · rw [i640, hlen] at z
      have : rep ≤ (nsH up N rep nm sv i).length := by
        rcases Nat.lt_or_ge (nsH up N rep nm sv i).length rep with q | q
        · exact absurd z (nI_ge q (by omega))
        · exact q
      have := nsH_full this (N - i)
      rw [show i + (N - i) = N from by omega] at this
      exact this.symm
    · rw [i640, hlen] at z
      have hlt : (nsH up N rep nm sv i).length < rep := by
        rcases Nat.lt_or_ge (nsH up N rep nm sv i).length rep with q | q
        · exact q
        · exact absurd (nI_le q (by omega)) z
      have hring : EvI g P 44 [va_rf (some a), .int (hI h2 512 (hS h)), va_rf (some s), .int (nI i)] h2 (fun h' r => h' = h2 ∧ r = nI (ringN N nm sv i)) := by
        rw [show hI h2 512 (hS h) = nI nm from u1.2.1]
        have := m_ringAt (g := g) (P := P) (x := nI nm) (st := nI i) ka2 ks2 r643 ke2 (by rw [ne2]; intro q; have := nI_inj (by omega) (by omega) (q.trans nI_0.symm); omega)
        rw [ne2, i576, ringF_N hN0 hNb hnb (by omega) (by omega)] at this
        exact this
      refine s_47_53 (k3 := kseg) (k6 := ka2) (hc := hring) (kk := fun h3 x ⟨e1, e2⟩ => ?_)
      subst e1; subst e2
      have rl : ringN N nm sv i < N := ringN_lt hN0
      have next : ∀ h4, (sgV h4 (hS h) N U (hS h + 1, hS h + 2, hS h + 3, hS h + 4, hS h + 5) (nI nm) [] [] (nsH up N rep nm sv (i + 1)) ∧ hI h4 521 (hS h) = 0 ∧ hI h4 524 (hS h) = 0 ∧ Ch (fun x => x = hS h ∨ x = hS h + 4 ∨ x = hS h + 5) 0 0 H h4) → Ev g P 47 89 [some (va_rf (some a)), some (va_rf (some s)), some (va_rf (some (hS h))), some (.int (nI i)), some (.int (nI (ringN N nm sv i)))] [] h4 (fun h' r => ∃ x, r = some (va_rf x) ∧ x = some (hS h) ∧ sgV h' (hS h) N U (hS h + 1, hS h + 2, hS h + 3, hS h + 4, hS h + 5) (nI nm) [] [] (nsH up N rep nm sv N) ∧ hI h' 521 (hS h) = 0 ∧ hI h' 524 (hS h) = 0 ∧ stV h' a e N U rep up (nm + 1) ∧ (∀ f, ¬ f = 648 → hI h' f a = hI h f a) ∧ (∀ f, hR h' f a = hR h f a) ∧ Ch (fun x => x = a) 6 (nf 8 + (3 * U + 2 * N)) h h') := by
        intro h4 k4
        refine s_47_89 ?_
        rw [nI_1]
        exact kn h4 k4 _
      refine s_47_63 (k3 := ks2) (kt := fun z => next h3 ⟨?_, u2, u3, u4⟩) (kf := fun z => ?_)
      · rw [i576] at z
        rw [nsH_1]; unfold nsF
        rw [if_neg (by omega), if_pos (nI_inj (by omega) (by omega) z)]; exact u1
      · rw [i576] at z
        have zn : ¬ ringN N nm sv i = sv := fun q => z (by rw [q])
        refine s_47_74 (k3 := ka2) (hc := m_isUp ka2) (kk := fun h4 x ⟨e1, e2⟩ => ?_)
        subst e1
        rw [i646] at e2
        subst e2
        refine s_47_80 (kt := fun z' => next h4 ⟨?_, u2, u3, u4⟩) (kf := fun z' => ?_)
        · have : ¬ shrB up (nI (ringN N nm sv i)) = 1 := fun q => by rw [if_pos q] at z'; exact absurd z' (by decide)
          rw [nsH_1]; unfold nsF
          rw [if_neg (by omega), if_neg zn, if_neg this]; exact u1
        · have hup : shrB up (nI (ringN N nm sv i)) = 1 := Decidable.byContradiction (fun q => z' (if_neg q))
          refine s_47_83 (k3 := kseg) (hc := m_addHolder w2 u1 rl (by omega)) (kk := fun h5 ⟨y1, y2, y3, y4⟩ => next h5 ⟨?_, ?_, ?_, ?_⟩)
          · rw [nsH_1]; unfold nsF
            rw [if_neg (by omega), if_neg zn, if_pos hup]; exact y1
          · rw [y3 521 (by decide) (by decide)]; exact u2
          · rw [y3 524 (by decide) (by decide)]; exact u3
          · exact (u4.tr y2).mono (fun x _ q => q.elim id id) (Nat.le_refl _) (Nat.le_refl _)
  · intro h2 ⟨u1, u2, u3, u4⟩ o4
    obtain ⟨cc, ka2, ke2, ne2, ks2, i576, r643, i640, i646⟩ := facts u4
    exact s_47_33 (k3 := ka2) (e5 := r643) (k7 := ke2) (kt := fun _ => fin N h2 _ u2 u3 u4 rfl u1 _) (kf := fun z => absurd (by rw [ne2]; exact nI_le (Nat.le_refl _) (by omega)) z)
end NEWS
