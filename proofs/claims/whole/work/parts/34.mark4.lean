/-! Survey.markLive, whole -/
theorem lvS_eq {h h' : hpT} {ps : List Nat} (e : ∀ q ∈ ps, (∀ S, livF h' q S = livF h q S) ∧ hI h' 385 q = hI h 385 q) (S : syT) : lvS h' S ps = lvS h S ps := by
  have : ∀ (ps : List Nat) acc, (∀ q ∈ ps, (∀ S, livF h' q S = livF h q S) ∧ hI h' 385 q = hI h 385 q) → ps.foldl (lvA h') acc = ps.foldl (lvA h) acc := by
    intro ps
    induction ps with
    | nil => intro _ _; rw [List.foldl_nil, List.foldl_nil]
    | cons p ps ih =>
      intro acc e
      have e1 : lvA h' acc p = lvA h acc p := by
        unfold lvA
        rw [(e p List.mem_cons_self).1, (e p List.mem_cons_self).2]
      rw [List.foldl_cons, List.foldl_cons, e1]
      exact ih _ (fun q hq => e q (List.mem_cons_of_mem _ hq))
  exact this ps _ e
theorem lvT_eq {h h' : hpT} {zs : List svT} (e : ∀ z ∈ zs, ∀ S, lvS h' S (zPs z) = lvS h S (zPs z)) (S : syT) (i : Nat) : lvT h' S zs i = lvT h S zs i := by
  have : ∀ (l : List svT) S, (∀ z ∈ l, ∀ S, lvS h' S (zPs z) = lvS h S (zPs z)) → l.foldl (fun S z => (lvS h' S (zPs z)).2.2) S = l.foldl (fun S z => (lvS h S (zPs z)).2.2) S := by
    intro l
    induction l with
    | nil => intro _ _; rw [List.foldl_nil, List.foldl_nil]
    | cons p ps ih =>
      intro S e
      rw [List.foldl_cons, List.foldl_cons, e p List.mem_cons_self]
      exact ih _ (fun q hq => e q (List.mem_cons_of_mem _ hq))
  exact this _ S (fun z hz => e z (List.mem_of_mem_take hz))
theorem lrL_eq {h h' : hpT} {l : List Nat} (e : ∀ q ∈ l, Sm h h' q) (S : syT) : l.foldl (fun S q => lrn h' q S) S = l.foldl (fun S q => lrn h q S) S := by
  have : ∀ (l : List Nat) S, (∀ q ∈ l, Sm h h' q) → l.foldl (fun S q => lrn h' q S) S = l.foldl (fun S q => lrn h q S) S := by
    intro l
    induction l with
    | nil => intro _ _; rw [List.foldl_nil, List.foldl_nil]
    | cons p ps ih =>
      intro S e
      have e1 : lrn h' p S = lrn h p S := by
        have sq := e p List.mem_cons_self
        unfold lrn
        rw [(lr_eq sq _).1, (lr_eq sq _).2.1, (lr_eq sq _).2.2.1, (lr_eq sq _).2.2.2]
      rw [List.foldl_cons, List.foldl_cons, e1]
      exact ih _ (fun q hq => e q (List.mem_cons_of_mem _ hq))
  exact this l S e
section MARK
variable {g : gcT} {P : pmT} {v N U L : Nat} {R : arT} {zs : List svT} {h : hpT}
/-- a fresh survey's state: what it knows of all that is in a LOG -/
def lrL (h : hpT) (zs : List svT) (S : syT) : syT := (zs.map zPs).flatten.foldl (fun S q => lrn h q S) S
theorem m_markLive (w : hWF h) (hg : gOK g h) (kv : svA h v R) (k : lgF g h N U L zs) (sep : sepV v R zs) (nd1 : ∀ i j (hi : i < zs.length) (hj : j < zs.length), zs[i].1 = zs[j].1 → i = j) (nd2 : ∀ i j (hi : i < zs.length) (hj : j < zs.length), zLv zs[i] = zLv zs[j] → i = j) : EvV g P 59 [va_rf (some v), va_rf (some L)] h (fun h' => ∃ S, bg0 S ∧ svA h' v R ∧ mkC v R zs h h' ∧ ∀ i (hi : i < zs.length), lvR h (lvT h (lrL h zs S) zs i) zs[i] h') := by
  have kz : ∀ z ∈ zs, sgX h N U z := fun z hz => (k.2.choose_spec.2.2 z hz).1
  have kq : ∀ z ∈ zs, ∀ q ∈ zPs z, pOK h q ∧ lOK h q := fun z hz => (k.2.choose_spec.2.2 z hz).2
  refine e_59 (s_59_0 (k3 := kv.1) (hc := m_begin w kv) (kk := fun h1 ⟨S, bS, c1⟩ => s_59_4 ?_))
  have mc1 := c1.mk kv kz w
  have w1 := mc1.1.2.2.1
  have hg1 : gOK g h1 := by
    obtain ⟨g1, g2, g3, g4, g5⟩ := hg
    refine ⟨by rw [(mc1.1.2.1 _ g4).1]; exact g1, by rw [(mc1.1.2.1 _ g5).1]; exact g2, g3, Nat.lt_of_lt_of_le g4 mc1.1.1.1, Nat.lt_of_lt_of_le g5 mc1.1.1.1⟩
  refine m_59_1 w1 hg1 c1.1 (mkC.lg w kv k sep hg mc1) sep (fun h2 o2 o3 o4 c2 => s_59_64 ?_) none none
  have smq : ∀ {h'}, mkC v R zs h h' → ∀ z ∈ zs, ∀ q ∈ zPs z, Sm h h' q := fun mc z hz q hq => mc.1.sm (mkS.no7 kv kz (kq z hz q hq).1.1.1) (w.lt (by rw [(kq z hz q hq).1.1.1]; decide))
  have c12 : svC v R (lrL h zs S) h h2 := by
    have := c1.tr c2
    rw [c1.2.1, lrL_eq (h := h) (fun q hq => by
      obtain ⟨l, hl, hql⟩ := List.mem_flatten.mp hq
      obtain ⟨z, hz, e⟩ := List.mem_map.mp hl
      rw [← e] at hql
      exact smq mc1 z hz q hql)] at this
    exact this
  have mc2 := c12.mk kv kz w
  have w2 := mc2.1.2.2.1
  have hg2 : gOK g h2 := by
    obtain ⟨g1, g2, g3, g4, g5⟩ := hg
    refine ⟨by rw [(mc2.1.2.1 _ g4).1]; exact g1, by rw [(mc2.1.2.1 _ g5).1]; exact g2, g3, Nat.lt_of_lt_of_le g4 mc2.1.1.1, Nat.lt_of_lt_of_le g5 mc2.1.1.1⟩
  refine Ev.imp (m_59_2 w2 hg2 c12.1 (mkC.lg w kv k sep hg mc2) sep nd1 nd2 _ _) (fun h3 x ⟨e1, e2, e3, e4⟩ => ⟨e1, S, bS, e2, mc2.tr e3, fun i hi => ?_⟩)
  have es : ∀ z ∈ zs, ∀ S, lvS h2 S (zPs z) = lvS h S (zPs z) := fun z hz S => lvS_eq (fun q hq => ⟨fun S => mkC.liv w kv kz mc2 (kq z hz q hq).1 (kq z hz q hq).2 S, ((smq mc2 z hz q hq).2.1 385).1⟩) S
  have := e4 i hi
  rw [c12.2.1, lvT_eq es] at this
  unfold lvR at this ⊢
  rw [es _ (List.getElem_mem hi)] at this
  exact this
end MARK
