set_option maxHeartbeats 1000000 in
/-- THE SMALL MACHINE IS SOUND: what it comes to, the machine comes to -/
theorem ev_sound {l : Launch} {D : va_G} {dA : Nat → ClassId} {base : Nat} {g : gcT} {P : pmT} (hP : ∀ j As h h' r, P j As h = some (h', r) → hLe h h') (hO : PrimOK l D dA base g P) : ∀ n k pc L st h h' r, ev g P n k pc L st h = some (h', r) →
    ∀ (p : Program) (e : Env) (R : Room) (s : State) (m : MethodId) (args : Array Value) (below : List Frame) (meth : Method) (c : Code) (H : Heap) (locs : List Loc) (ls : Array Slot) (Q : State → Prop) (c0 m0 : Nat),
      Cx D dA base g k p s m args meth c → LR L ls (mX k) → Wd D dA base h H → va_S (Ab base) s.heap H locs → c0 ≤ hC h ∧ m0 ≤ hM h → hC h' - c0 ≤ R.cells ∧ hM h' - m0 ≤ R.slots → mF k ≤ R.frames ∧ mW k ≤ R.locals →
      (∀ (pc' : Nat) (i : Instr) (ls' : Array Slot) (st' : List Value) (H' : Heap) (locs' : List Loc), decode (mB k) pc' = .ok (i, 1) → rtO k i 1 st' = some r → Wd D dA base h' H' → va_S (Ab base) s.heap H' locs' → W p l e R s m args below meth c H' locs' (hC h' - c0) (hM h' - m0) Q (F0 m pc' ls' st')) →
      W p l e R s m args below meth c H locs (hC h - c0) (hM h - m0) Q (F0 m pc ls st) := by
  intro n
  induction n with
  | zero => intro k pc L st h h' r e; simp [ev] at e
  | succ n ih =>
    intro k pc L st h h' r hev p e R s m args below meth c H locs ls Q c0 m0 xC hL hW xS hc0 hr hR fin
    rw [ev] at hev
    split at hev
    · rename_i i len hd
      split at hev
      · rename_i r1 hrt
        cases hev
        have := rtO_len hrt
        subst this
        exact fin pc i ls st H locs hd hrt hW xS
      · split at hev
        · rename_i j As rest hcl
          split at hev
          · rename_i hz
            split at hev
            · rename_i h1 r1 hcall
              have hle2 := ev_mono hP _ _ _ _ _ _ _ _ hev
              have hle1 : hLe h h1 := by
                split at hcall
                · exact hP _ _ _ _ _ hcall
                · exact ev_mono hP _ _ _ _ _ _ _ _ hcall
              have hf : hC h - c0 + (hC h1 - hC h) ≤ R.cells ∧ hM h - m0 + (hM h1 - hM h) ≤ R.slots := by
                have a1 := hle1.1; have a2 := hle1.2; have a3 := hle2.1; have a4 := hle2.2
                omega
              have hRj : mF j + 1 ≤ R.frames ∧ 8 + (mX j + 11) + mW j ≤ R.locals := ⟨by omega, by omega⟩
              have run : ∃ a, va_Run p l e R s m args below meth c H locs (hC h - c0) (hM h - m0) (hC h1 - hC h) (hM h1 - hM h) (F0 m pc ls st) rest (Qk D dA base h1 r1 a) (Ab base) ∧ len = 3 := by
                split at hcall
                · rename_i hj
                  exact hO j As h h1 r1 hj hcall p e R s m args below meth c H locs _ _ k pc ls L st rest i len xC hd hL hW xS hcl hz.1 hRj hf
                · rename_i hj
                  have hjlt : j < 205 ∨ j = 206 := by
                    have := clO_j hcl
                    omega
                  have hM : MetK l D dA base g j As h h1 r1 := by
                    refine va_MetF (cc := mB j) (maxL := mX j) (ret := mR j) (mokAll hjlt).2.2.2.1 rfl ?_
                    intro p e s m args below meth c s₁ B hml hv
                    obtain ⟨rfl, hKx, hWd⟩ := hv
                    have hts := atoms_spec (ws := wsM j) B.pre
                    have hname := name_of_methodNamed B.named B.method
                    have hown : s.vm.findClass (mY j).cls = some m.cls := findClass_of_methodNamed B.named
                    obtain ⟨ls0, he, hL0⟩ := lc0_LR hz.2.1 hz.2.2.1 m
                    rw [he]
                    have hok := mokAll hjlt
                    have xCj : Cx D dA base g j p s m As.toArray meth c := ⟨B.exec, B.bytes, hml, by rw [← hok.2.2.2.2.1]; exact hown, fun w hw => hts w (List.mem_cons_of_mem _ hw), fun hd2 => by rw [hname.1]; exact (hok.2.2.2.2.2.2.2 hd2).2.1, hKx⟩
                    have key := ih j 0 (lc0 j As) [] h h1 r1 hcall p e (rmM j h h1) s m As.toArray below meth c s.heap [] ls0 (MQ below (Qk D dA base h1 r1) As.toArray s (hC h1 - hC h) (hM h1 - hM h) (Ab base)) (hC h) (hM h) xCj hL0 hWd va_S.rf ⟨Nat.le_refl _, Nat.le_refl _⟩ ⟨Nat.le_refl _, Nat.le_refl _⟩ ⟨Nat.le_refl _, Nat.le_refl _⟩ (fun pc' i ls' st' H' locs' hd' hrt' w1 w2 => rt_end B.exec B.bytes B.returns B.notSynchronized hd' hrt' w1 w2)
                    rw [Nat.sub_self, Nat.sub_self] at key
                    exact key
                  exact sn_call xC hd hL hW xS hcl hz.1 hjlt hM hRj hf
              obtain ⟨a, run, hlen⟩ := run
              refine sn_go run xS (fun H' locs' w1 w2 => ?_)
              have e1 : hC h - c0 + (hC h1 - hC h) = hC h1 - c0 := by have := hle1.1; omega
              have e2 : hM h - m0 + (hM h1 - hM h) = hM h1 - m0 := by have := hle1.2; omega
              rw [e1, e2]
              exact ih k (pc + 3) L (r1.toList ++ rest) h1 h' r hev p e R s m args below meth c H' locs' ls Q c0 m0 xC hL w1 w2 ⟨Nat.le_trans hc0.1 hle1.1, Nat.le_trans hc0.2 hle1.2⟩ hr hR fin
            · cases hev
          · cases hev
        · split at hev
          · rename_i pc1 L1 st1 h1 hsp
            obtain ⟨e1, e2, e3⟩ := sp_eqs hsp
            subst e1
            refine (sp_sound (l := l) (e := e) (R := R) (Q := Q) (below := below) (cells := hC h - c0) (slots := hM h - m0) xC hd hL hW xS hR hsp (fun H' locs' w1 w2 => ?_)).2.2.2
            rw [← e2, ← e3]
            exact ih k pc1 L1 st1 h1 h' r hev p e R s m args below meth c H' locs' ls Q c0 m0 xC hL w1 w2 ⟨by omega, by omega⟩ hr hR fin
          · split at hev
            · rename_i pc1 L1 st1 h1 hsx
              have hle2 := ev_mono hP _ _ _ _ _ _ _ _ hev
              have hle1 := sx_mono hsx
              refine sx_sound xC hd hL hW xS hc0 hsx ⟨by have := hle2.1; omega, by have := hle2.2; omega⟩ (fun ls' H' locs' w0 w1 w2 => ?_)
              exact ih k pc1 L1 st1 h1 h' r hev p e R s m args below meth c H' locs' ls' Q c0 m0 xC w0 w1 w2 ⟨Nat.le_trans hc0.1 hle1.1, Nat.le_trans hc0.2 hle1.2⟩ hr hR fin
            · cases hev
    · cases hev
