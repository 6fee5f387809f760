-- the two methods with contracts of their own
noncomputable def prm (g : gcT) : pmT := fun j => if j = 205 then msg5 g else if j = 206 then cpyO else fun _ _ => none
theorem prm_5 (g : gcT) : prm g 205 = msg5 g := if_pos rfl
theorem prm_6 (g : gcT) : prm g 206 = cpyO := rfl
section
variable {l : Launch} {D : va_G} {dA : Nat → ClassId} {base : Nat} {g : gcT} {As : List Value} {h h1 : hpT} {r : Option Value}
theorem msg5_inv (e : msg5 g As h = some (h1, r)) : ∃ x x1 x2 out b, As = [.ref x, .int x1, .int x2, .ref out] ∧ hR h 771 x = some b ∧ (hK h x = 13 ∧ hK h b = 24 ∧ hN h b = 40 ∧ hK h out = 29 ∧ 1 ≤ hN h out) ∧ (((msgO h b x1 = none ∨ x2 < 0 ∨ 5 < x2) ∧ h1 = thrH h ∧ r = some (.int 1)) ∨ ∃ h' v n, ev g (fun _ _ _ => none) n 68 0 (lc0 68 [.ref x, .int x1, .int x2]) [] h = some (h', some (.int v)) ∧ hK h' out = 29 ∧ 1 ≤ hN h' out ∧ h1 = hpA h' out 0 v ∧ r = some (.int 0)) := by
  unfold msg5 at e
  split at e
  · next x p0 p1 out =>
    split at e
    · next b hb =>
      split at e
      · next k2 =>
        split at e
        · next q =>
          injection e with e
          injection e with e1 e2
          exact ⟨x, p0, p1, out, b, rfl, hb, k2, Or.inl ⟨q, e1.symm, e2.symm⟩⟩
        · split at e
          · next hx =>
            injection e with e
            injection e with e1 e2
            have hc := Classical.choose_spec hx
            obtain ⟨⟨n, c1⟩, c2, c3⟩ := hc
            exact ⟨x, p0, p1, out, b, rfl, hb, k2, Or.inr ⟨_, _, n, c1, c2, c3, e1.symm, e2.symm⟩⟩
          · cases e
      · cases e
    · cases e
  · cases e
theorem prm_le : ∀ j As h h' r, prm g j As h = some (h', r) → hLe h h' := by
  intro j As h h' r e
  unfold prm at e
  split at e
  · obtain ⟨x, x1, x2, out, b, -, -, -, q⟩ := msg5_inv e
    rcases q with ⟨-, q, -⟩ | ⟨h9, v, n, q, -, -, q2, -⟩
    · rw [q]; exact ⟨Nat.le_succ _, Nat.le_add_right _ _⟩
    · rw [q2]
      have := ev_mono P0_hP _ _ _ _ _ _ _ _ q
      exact ⟨this.1, this.2⟩
  · split at e
    · unfold cpyO at e
      split at e
      · split at e
        · injection e with e
          injection e with e1 e2
          rw [← e1]
          exact ⟨Nat.le_succ _, Nat.le_add_right _ _⟩
        · cases e
      · cases e
    · cases e
theorem met_5 (hl : l.stackTraces = false) (e : msg5 g As h = some (h1, r)) : MetM l D dA base g As h h1 r := by
  obtain ⟨x, x1, x2, out, b, ea, hb, ⟨k1, k2, k3, k4, k5⟩, q⟩ := msg5_inv e
  subst ea
  rcases q with ⟨q, q1, q2⟩ | ⟨h9, v, n, q, c1, c2, q1, q2⟩
  · subst q1; subst q2
    exact m_205t hl k1 hb k2 k3 q
  · subst q1; subst q2
    exact m_205r k1 c1 c2 (metK_ev q (Or.inl (by decide)) rfl (Nat.le_of_ble_eq_true rfl))
theorem w5_s : Cond.static (mY 205) ∈ WL := wlk5 (List.mem_of_getElem? (i := 52) rfl) rfl
theorem w5_i : Cond.initialized (mY 205).cls ∈ WL := wlk1 (List.mem_of_getElem? (i := 0) rfl) rfl
theorem no_nest {o : String} {i : Nat} (q : Cond.methodLinkNest o i (mY 205) "LogCluster" ∈ nestL) : False := by
  have hm : ∀ w ∈ nestL, (match w with | .methodLinkNest _ _ y _ => decide (y = mY 205) | _ => false) = false := by decide +kernel
  have := hm _ q
  simp at this
set_option maxHeartbeats 1000000 in
theorem prm_ok (hl : l.stackTraces = false) : PrimOK l D dA base g (prm g) := by
  intro j As h h1 r hj e p e' R s m args below meth c H locs cells slots k pc ls L st rest i len xC hd hL hW xS hcl hsum hR hf
  rcases hj with rfl | rfl
  · rw [prm_5] at e
    have hMt := met_5 (D := D) (dA := dA) (base := base) hl e
    obtain ⟨hx, hb, hml, hown, hts, hini, xK⟩ := xC
    have fix : CallFix p m c (mB k) (mX k) s args WL (RN (mO k)) := ⟨hx, hb, hml, hown, hts⟩
    have room := lv_room (m := m) (pc := pc) (ls := ls) (rest := st) hsum
    unfold clO at hcl
    split at hcl
    · rename_i idx
      obtain ⟨j', h2, h3⟩ := Option.bind_eq_some_iff.mp hcl
      obtain ⟨f1, hi⟩ := ml_ok h2
      unfold MlOK at f1
      rw [(key_d hi).1, (key_d hi).2] at f1
      split at h3
      · rename_i hz
        cases h3
        have hlen : ((st.take (mA 205)).reverse).length = mA 205 := by rw [List.length_reverse, List.length_take]; omega
        have hst : st = ((st.take (mA 205)).reverse).reverse ++ st.drop (mA 205) := by rw [List.reverse_reverse, List.take_append_drop]
        have pre : PreS s H (Pk D dA base g ((st.take (mA 205)).reverse) h) ((st.take (mA 205)).reverse) := ⟨Pk.blind, Pk.at xK xS hW _⟩
        rcases f1.2.2 hz.1 with hlk | hlk
        · have hpd : (parseMethodDescriptor (mY 205).desc).map (fun d => d.parameters.length) = some (mA 205) := by decide +kernel
          have hM2 : Met l (mY 205) wsM5 (rmM 205 h h1) (Pk D dA base g ((st.take (mA 205)).reverse) h) (Qk D dA base h1 r) (hC h1 - hC h) (hM h1 - hM h) (Ab base) := hMt
          exact ⟨_, vx_runSW (bytes := mB 205) (maxL := mX 205) (ret := mR 205) (hh := [(0, 10, 13, 13)]) fix hM2 ⟨⟨rfl, rfl, hR.1, hR.2, pay_in hts w5_g, List.mem_cons_self⟩, hts _ w5_in, hts _ w5_i, ⟨by decide +kernel, by decide +kernel⟩, fun sig hs => by
            rw [hs] at hpd
            exact (Option.some.inj hpd).symm, hts _ hlk, hts _ w5_s⟩ pre rfl hlen hL.1 hst room hd hf, rfl⟩
        · exact (no_nest hlk.2).elim
      · cases h3
    · rename_i idx
      obtain ⟨j', h2, h3⟩ := Option.bind_eq_some_iff.mp hcl
      split at h3
      · rename_i hz
        split at h3
        · split at h3
          · cases h3; exact absurd hz.2.1 (by decide)
          · cases h3
        · cases h3
      · cases h3
    · rename_i idx
      obtain ⟨j', h2, h3⟩ := Option.bind_eq_some_iff.mp hcl
      split at h3
      · rename_i hz
        split at h3
        · cases h3; exact absurd hz.2.1 (by decide)
        · cases h3
      · cases h3
    · cases hcl
  · rw [prm_6] at e
    unfold cpyO at e
    split at e
    · split at e
      · rename_i hz
        injection e with e
        injection e with e1 e2
        subst e1; subst e2
        exact sn_call xC hd hL hW xS hcl hsum (Or.inr rfl) (m_206 hz.1 hz.2.1 hz.2.2.1 hz.2.2.2.1 hz.2.2.2.2) hR hf
      · cases e
    · cases e
end
