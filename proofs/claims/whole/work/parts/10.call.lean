set_option maxRecDepth 20000 in
theorem mokL : ∀ j ∈ [0, 1, 2, 3, 4, 5, 6, 7, 8, 9, 10, 11, 12, 13, 14, 15, 16, 17, 18, 19, 20, 21, 22, 23, 24, 25, 26, 27, 28, 29, 30, 31, 32, 33, 34, 35, 36, 37, 38, 39, 40, 41, 42, 43, 44, 45, 46, 47, 48, 49, 50, 51, 52, 53, 54, 55, 56, 57, 58, 59, 60, 61, 62, 63, 64, 65, 66, 67, 68, 69, 70, 71, 72, 73, 74, 75, 76, 77, 78, 79, 80, 81, 82, 83, 84, 85, 86, 87, 88, 89, 90, 91, 92, 93, 94, 95, 96, 97, 98, 99, 100, 101, 102, 103, 104, 105, 106, 107, 108, 109, 110, 111, 112, 113, 114, 115, 116, 117, 118, 119, 120, 121, 122, 123, 124, 125, 126, 127, 128, 129, 130, 131, 132, 133, 134, 135, 136, 137, 138, 139, 140, 141, 142, 143, 144, 145, 146, 147, 148, 149, 150, 151, 152, 153, 154, 155, 156, 157, 158, 159, 160, 161, 162, 163, 164, 165, 166, 167, 168, 169, 170, 171, 172, 173, 174, 175, 176, 177, 178, 179, 180, 181, 182, 183, 184, 185, 186, 187, 188, 189, 190, 191, 192, 193, 194, 195, 196, 197, 198, 199, 200, 201, 202, 203, 204], MethOK j := (List.forall_mem_cons.mpr ⟨mok_0, (List.forall_mem_cons.mpr ⟨mok_1, (List.forall_mem_cons.mpr ⟨mok_2, (List.forall_mem_cons.mpr ⟨mok_3, (List.forall_mem_cons.mpr ⟨mok_4, (List.forall_mem_cons.mpr ⟨mok_5, (List.forall_mem_cons.mpr ⟨mok_6, (List.forall_mem_cons.mpr ⟨mok_7, (List.forall_mem_cons.mpr ⟨mok_8, (List.forall_mem_cons.mpr ⟨mok_9, (List.forall_mem_cons.mpr ⟨mok_10, (List.forall_mem_cons.mpr ⟨mok_11, (List.forall_mem_cons.mpr ⟨mok_12, (List.forall_mem_cons.mpr ⟨mok_13, (List.forall_mem_cons.mpr ⟨mok_14, (List.forall_mem_cons.mpr ⟨mok_15, (List.forall_mem_cons.mpr ⟨mok_16, (List.forall_mem_cons.mpr ⟨mok_17, (List.forall_mem_cons.mpr ⟨mok_18, (List.forall_mem_cons.mpr ⟨mok_19, (List.forall_mem_cons.mpr ⟨mok_20, (List.forall_mem_cons.mpr ⟨mok_21, (List.forall_mem_cons.mpr ⟨mok_22, (List.forall_mem_cons.mpr ⟨mok_23, (List.forall_mem_cons.mpr ⟨mok_24, (List.forall_mem_cons.mpr ⟨mok_25, (List.forall_mem_cons.mpr ⟨mok_26, (List.forall_mem_cons.mpr ⟨mok_27, (List.forall_mem_cons.mpr ⟨mok_28, (List.forall_mem_cons.mpr ⟨mok_29, (List.forall_mem_cons.mpr ⟨mok_30, (List.forall_mem_cons.mpr ⟨mok_31, (List.forall_mem_cons.mpr ⟨mok_32, (List.forall_mem_cons.mpr ⟨mok_33, (List.forall_mem_cons.mpr ⟨mok_34, (List.forall_mem_cons.mpr ⟨mok_35, (List.forall_mem_cons.mpr ⟨mok_36, (List.forall_mem_cons.mpr ⟨mok_37, (List.forall_mem_cons.mpr ⟨mok_38, (List.forall_mem_cons.mpr ⟨mok_39, (List.forall_mem_cons.mpr ⟨mok_40, (List.forall_mem_cons.mpr ⟨mok_41, (List.forall_mem_cons.mpr ⟨mok_42, (List.forall_mem_cons.mpr ⟨mok_43, (List.forall_mem_cons.mpr ⟨mok_44, (List.forall_mem_cons.mpr ⟨mok_45, (List.forall_mem_cons.mpr ⟨mok_46, (List.forall_mem_cons.mpr ⟨mok_47, (List.forall_mem_cons.mpr ⟨mok_48, (List.forall_mem_cons.mpr ⟨mok_49, (List.forall_mem_cons.mpr ⟨mok_50, (List.forall_mem_cons.mpr ⟨mok_51, (List.forall_mem_cons.mpr ⟨mok_52, (List.forall_mem_cons.mpr ⟨mok_53, (List.forall_mem_cons.mpr ⟨mok_54, (List.forall_mem_cons.mpr ⟨mok_55, (List.forall_mem_cons.mpr ⟨mok_56, (List.forall_mem_cons.mpr ⟨mok_57, (List.forall_mem_cons.mpr ⟨mok_58, (List.forall_mem_cons.mpr ⟨mok_59, (List.forall_mem_cons.mpr ⟨mok_60, (List.forall_mem_cons.mpr ⟨mok_61, (List.forall_mem_cons.mpr ⟨mok_62, (List.forall_mem_cons.mpr ⟨mok_63, (List.forall_mem_cons.mpr ⟨mok_64, (List.forall_mem_cons.mpr ⟨mok_65, (List.forall_mem_cons.mpr ⟨mok_66, (List.forall_mem_cons.mpr ⟨mok_67, (List.forall_mem_cons.mpr ⟨mok_68, (List.forall_mem_cons.mpr ⟨mok_69, (List.forall_mem_cons.mpr ⟨mok_70, (List.forall_mem_cons.mpr ⟨mok_71, (List.forall_mem_cons.mpr ⟨mok_72, (List.forall_mem_cons.mpr ⟨mok_73, (List.forall_mem_cons.mpr ⟨mok_74, (List.forall_mem_cons.mpr ⟨mok_75, (List.forall_mem_cons.mpr ⟨mok_76, (List.forall_mem_cons.mpr ⟨mok_77, (List.forall_mem_cons.mpr ⟨mok_78, (List.forall_mem_cons.mpr ⟨mok_79, (List.forall_mem_cons.mpr ⟨mok_80, (List.forall_mem_cons.mpr ⟨mok_81, (List.forall_mem_cons.mpr ⟨mok_82, (List.forall_mem_cons.mpr ⟨mok_83, (List.forall_mem_cons.mpr ⟨mok_84, (List.forall_mem_cons.mpr ⟨mok_85, (List.forall_mem_cons.mpr ⟨mok_86, (List.forall_mem_cons.mpr ⟨mok_87, (List.forall_mem_cons.mpr ⟨mok_88, (List.forall_mem_cons.mpr ⟨mok_89, (List.forall_mem_cons.mpr ⟨mok_90, (List.forall_mem_cons.mpr ⟨mok_91, (List.forall_mem_cons.mpr ⟨mok_92, (List.forall_mem_cons.mpr ⟨mok_93, (List.forall_mem_cons.mpr ⟨mok_94, (List.forall_mem_cons.mpr ⟨mok_95, (List.forall_mem_cons.mpr ⟨mok_96, (List.forall_mem_cons.mpr ⟨mok_97, (List.forall_mem_cons.mpr ⟨mok_98, (List.forall_mem_cons.mpr ⟨mok_99, (List.forall_mem_cons.mpr ⟨mok_100, (List.forall_mem_cons.mpr ⟨mok_101, (List.forall_mem_cons.mpr ⟨mok_102, (List.forall_mem_cons.mpr ⟨mok_103, (List.forall_mem_cons.mpr ⟨mok_104, (List.forall_mem_cons.mpr ⟨mok_105, (List.forall_mem_cons.mpr ⟨mok_106, (List.forall_mem_cons.mpr ⟨mok_107, (List.forall_mem_cons.mpr ⟨mok_108, (List.forall_mem_cons.mpr ⟨mok_109, (List.forall_mem_cons.mpr ⟨mok_110, (List.forall_mem_cons.mpr ⟨mok_111, (List.forall_mem_cons.mpr ⟨mok_112, (List.forall_mem_cons.mpr ⟨mok_113, (List.forall_mem_cons.mpr ⟨mok_114, (List.forall_mem_cons.mpr ⟨mok_115, (List.forall_mem_cons.mpr ⟨mok_116, (List.forall_mem_cons.mpr ⟨mok_117, (List.forall_mem_cons.mpr ⟨mok_118, (List.forall_mem_cons.mpr ⟨mok_119, (List.forall_mem_cons.mpr ⟨mok_120, (List.forall_mem_cons.mpr ⟨mok_121, (List.forall_mem_cons.mpr ⟨mok_122, (List.forall_mem_cons.mpr ⟨mok_123, (List.forall_mem_cons.mpr ⟨mok_124, (List.forall_mem_cons.mpr ⟨mok_125, (List.forall_mem_cons.mpr ⟨mok_126, (List.forall_mem_cons.mpr ⟨mok_127, (List.forall_mem_cons.mpr ⟨mok_128, (List.forall_mem_cons.mpr ⟨mok_129, (List.forall_mem_cons.mpr ⟨mok_130, (List.forall_mem_cons.mpr ⟨mok_131, (List.forall_mem_cons.mpr ⟨mok_132, (List.forall_mem_cons.mpr ⟨mok_133, (List.forall_mem_cons.mpr ⟨mok_134, (List.forall_mem_cons.mpr ⟨mok_135, (List.forall_mem_cons.mpr ⟨mok_136, (List.forall_mem_cons.mpr ⟨mok_137, (List.forall_mem_cons.mpr ⟨mok_138, (List.forall_mem_cons.mpr ⟨mok_139, (List.forall_mem_cons.mpr ⟨mok_140, (List.forall_mem_cons.mpr ⟨mok_141, (List.forall_mem_cons.mpr ⟨mok_142, (List.forall_mem_cons.mpr ⟨mok_143, (List.forall_mem_cons.mpr ⟨mok_144, (List.forall_mem_cons.mpr ⟨mok_145, (List.forall_mem_cons.mpr ⟨mok_146, (List.forall_mem_cons.mpr ⟨mok_147, (List.forall_mem_cons.mpr ⟨mok_148, (List.forall_mem_cons.mpr ⟨mok_149, (List.forall_mem_cons.mpr ⟨mok_150, (List.forall_mem_cons.mpr ⟨mok_151, (List.forall_mem_cons.mpr ⟨mok_152, (List.forall_mem_cons.mpr ⟨mok_153, (List.forall_mem_cons.mpr ⟨mok_154, (List.forall_mem_cons.mpr ⟨mok_155, (List.forall_mem_cons.mpr ⟨mok_156, (List.forall_mem_cons.mpr ⟨mok_157, (List.forall_mem_cons.mpr ⟨mok_158, (List.forall_mem_cons.mpr ⟨mok_159, (List.forall_mem_cons.mpr ⟨mok_160, (List.forall_mem_cons.mpr ⟨mok_161, (List.forall_mem_cons.mpr ⟨mok_162, (List.forall_mem_cons.mpr ⟨mok_163, (List.forall_mem_cons.mpr ⟨mok_164, (List.forall_mem_cons.mpr ⟨mok_165, (List.forall_mem_cons.mpr ⟨mok_166, (List.forall_mem_cons.mpr ⟨mok_167, (List.forall_mem_cons.mpr ⟨mok_168, (List.forall_mem_cons.mpr ⟨mok_169, (List.forall_mem_cons.mpr ⟨mok_170, (List.forall_mem_cons.mpr ⟨mok_171, (List.forall_mem_cons.mpr ⟨mok_172, (List.forall_mem_cons.mpr ⟨mok_173, (List.forall_mem_cons.mpr ⟨mok_174, (List.forall_mem_cons.mpr ⟨mok_175, (List.forall_mem_cons.mpr ⟨mok_176, (List.forall_mem_cons.mpr ⟨mok_177, (List.forall_mem_cons.mpr ⟨mok_178, (List.forall_mem_cons.mpr ⟨mok_179, (List.forall_mem_cons.mpr ⟨mok_180, (List.forall_mem_cons.mpr ⟨mok_181, (List.forall_mem_cons.mpr ⟨mok_182, (List.forall_mem_cons.mpr ⟨mok_183, (List.forall_mem_cons.mpr ⟨mok_184, (List.forall_mem_cons.mpr ⟨mok_185, (List.forall_mem_cons.mpr ⟨mok_186, (List.forall_mem_cons.mpr ⟨mok_187, (List.forall_mem_cons.mpr ⟨mok_188, (List.forall_mem_cons.mpr ⟨mok_189, (List.forall_mem_cons.mpr ⟨mok_190, (List.forall_mem_cons.mpr ⟨mok_191, (List.forall_mem_cons.mpr ⟨mok_192, (List.forall_mem_cons.mpr ⟨mok_193, (List.forall_mem_cons.mpr ⟨mok_194, (List.forall_mem_cons.mpr ⟨mok_195, (List.forall_mem_cons.mpr ⟨mok_196, (List.forall_mem_cons.mpr ⟨mok_197, (List.forall_mem_cons.mpr ⟨mok_198, (List.forall_mem_cons.mpr ⟨mok_199, (List.forall_mem_cons.mpr ⟨mok_200, (List.forall_mem_cons.mpr ⟨mok_201, (List.forall_mem_cons.mpr ⟨mok_202, (List.forall_mem_cons.mpr ⟨mok_203, (List.forall_mem_cons.mpr ⟨mok_204, (fun _ h => absurd h List.not_mem_nil)⟩)⟩)⟩)⟩)⟩)⟩)⟩)⟩)⟩)⟩)⟩)⟩)⟩)⟩)⟩)⟩)⟩)⟩)⟩)⟩)⟩)⟩)⟩)⟩)⟩)⟩)⟩)⟩)⟩)⟩)⟩)⟩)⟩)⟩)⟩)⟩)⟩)⟩)⟩)⟩)⟩)⟩)⟩)⟩)⟩)⟩)⟩)⟩)⟩)⟩)⟩)⟩)⟩)⟩)⟩)⟩)⟩)⟩)⟩)⟩)⟩)⟩)⟩)⟩)⟩)⟩)⟩)⟩)⟩)⟩)⟩)⟩)⟩)⟩)⟩)⟩)⟩)⟩)⟩)⟩)⟩)⟩)⟩)⟩)⟩)⟩)⟩)⟩)⟩)⟩)⟩)⟩)⟩)⟩)⟩)⟩)⟩)⟩)⟩)⟩)⟩)⟩)⟩)⟩)⟩)⟩)⟩)⟩)⟩)⟩)⟩)⟩)⟩)⟩)⟩)⟩)⟩)⟩)⟩)⟩)⟩)⟩)⟩)⟩)⟩)⟩)⟩)⟩)⟩)⟩)⟩)⟩)⟩)⟩)⟩)⟩)⟩)⟩)⟩)⟩)⟩)⟩)⟩)⟩)⟩)⟩)⟩)⟩)⟩)⟩)⟩)⟩)⟩)⟩)⟩)⟩)⟩)⟩)⟩)⟩)⟩)⟩)⟩)⟩)⟩)⟩)⟩)⟩)⟩)⟩)⟩)⟩)⟩)⟩)⟩)⟩)⟩)⟩)⟩)⟩)⟩)⟩)⟩)⟩)⟩)⟩)⟩)⟩)⟩)⟩)⟩)⟩)⟩)⟩)⟩)⟩)⟩)⟩)⟩)⟩)⟩)⟩)⟩)⟩)⟩)
set_option maxRecDepth 20000 in
theorem mokAll {j : Nat} (h : j < 205 ∨ j = 206) : MethOK j := by
  rcases h with h | rfl
  · exact mokL j (by have := List.mem_range.mpr h; rw [show List.range 205 = [0, 1, 2, 3, 4, 5, 6, 7, 8, 9, 10, 11, 12, 13, 14, 15, 16, 17, 18, 19, 20, 21, 22, 23, 24, 25, 26, 27, 28, 29, 30, 31, 32, 33, 34, 35, 36, 37, 38, 39, 40, 41, 42, 43, 44, 45, 46, 47, 48, 49, 50, 51, 52, 53, 54, 55, 56, 57, 58, 59, 60, 61, 62, 63, 64, 65, 66, 67, 68, 69, 70, 71, 72, 73, 74, 75, 76, 77, 78, 79, 80, 81, 82, 83, 84, 85, 86, 87, 88, 89, 90, 91, 92, 93, 94, 95, 96, 97, 98, 99, 100, 101, 102, 103, 104, 105, 106, 107, 108, 109, 110, 111, 112, 113, 114, 115, 116, 117, 118, 119, 120, 121, 122, 123, 124, 125, 126, 127, 128, 129, 130, 131, 132, 133, 134, 135, 136, 137, 138, 139, 140, 141, 142, 143, 144, 145, 146, 147, 148, 149, 150, 151, 152, 153, 154, 155, 156, 157, 158, 159, 160, 161, 162, 163, 164, 165, 166, 167, 168, 169, 170, 171, 172, 173, 174, 175, 176, 177, 178, 179, 180, 181, 182, 183, 184, 185, 186, 187, 188, 189, 190, 191, 192, 193, 194, 195, 196, 197, 198, 199, 200, 201, 202, 203, 204] from rfl] at this; exact this)
  · exact mok_206
theorem oiM : Cond.instanceMethod objectInit ∈ WL := wlk1 (List.mem_of_getElem? (i := 34) rfl) rfl
theorem oiC : Cond.code objectInit ⟨#[0xb1]⟩ 1 none ∈ WL := wlk1 (List.mem_of_getElem? (i := 35) rfl) rfl
theorem acN : Cond.native arraycopyName ∈ WL := wlk3 (List.mem_of_getElem? (i := 106) rfl) rfl
theorem acS : Cond.static arraycopyName ∈ WL := wlk3 (List.mem_of_getElem? (i := 105) rfl) rfl
theorem acY : Cond.initialized "java/lang/System" ∈ WL := wlk1 (List.mem_of_getElem? (i := 21) rfl) rfl
/-- the word of a method's code, ahead of all words -/
def wsM (j : Nat) : List Cond := Cond.code (mY j) (mB j) (mX j) (mR j) :: WL
theorem gdM {j : Nat} (h : MethOK j) : GoodIn WL (wsM j) := fun w hw => by
  rcases List.mem_cons.mp hw with rfl | hw
  · exact gdWL _ h.1
  · exact gdWL _ hw
def Qk (D : va_G) (dA : Nat → ClassId) (base : Nat) (h1 : hpT) (r : Option Value) : Array Value → State → Outcome → State → Prop := fun _ st o t => o = .returned r ∧ Wd D dA base h1 t.heap ∧ va_F (Ab base) st t
def Pk (D : va_G) (dA : Nat → ClassId) (base : Nat) (g : gcT) (As : List Value) (h : hpT) : Array Value → State → Prop := fun v U => v = As.toArray ∧ Kx D dA base g U ∧ Wd D dA base h U.heap
def rmM (j : Nat) (h h1 : hpT) : Room := { frames := mF j, cells := hC h1 - hC h, slots := hM h1 - hM h, locals := mW j }
/-- method j, at these arguments and this heap, has a contract: this end -/
def MetK (l : Launch) (D : va_G) (dA : Nat → ClassId) (base : Nat) (g : gcT) (j : Nat) (As : List Value) (h h1 : hpT) (r : Option Value) : Prop := Met l (mY j) (wsM j) (rmM j h h1) (Pk D dA base g As h) (Qk D dA base h1 r) (hC h1 - hC h) (hM h1 - hM h) (Ab base)
section SN5
variable {p : Program} {l : Launch} {e : Env} {R : Room} {s : State} {m : MethodId} {args : Array Value} {below : List Frame} {meth : Method} {c : Code} {H : Heap} {locs : List Loc} {cells slots mc ms : Nat} {Q : State → Prop}
variable {D : va_G} {dA : Nat → ClassId} {base : Nat} {g : gcT} {k pc pc' : Nat} {ls : Array Slot} {st st' st0 rest : List Value} {h h' h1 : hpT} {L L' : lcT} {i : Instr} {len c0 m0 : Nat} {r : Option Value}
/-- behind a call -/
theorem sn_go {a : Array Value} (hr : va_Run p l e R s m args below meth c H locs cells slots mc ms (F0 m pc ls st0) rest (Qk D dA base h1 r a) (Ab base)) (xS : va_S (Ab base) s.heap H locs)
    (kk : ∀ H' locs', Wd D dA base h1 H' → va_S (Ab base) s.heap H' locs' → W p l e R s m args below meth c H' locs' (cells + mc) (slots + ms) Q (F0 m (pc + 3) ls (r.toList ++ rest))) : W p l e R s m args below meth c H locs cells slots Q (F0 m pc ls st0) := by
  intro T hT X
  obtain ⟨v, st₀, t, T', L, h0, X', hL, e1, e2, ⟨hv, hw, hz, hk⟩, gs⟩ := hr T hT X
  cases hv
  rw [h0] at hz hk
  obtain ⟨t2, a1, b1⟩ := kk T'.heap (locs ++ L) (by rw [e1]; exact hw)
    ⟨Nat.le_trans xS.1 (by rw [e1]; exact hz), fun q h1 h2 => by rw [e1, hk q (Nat.lt_of_lt_of_le h1 xS.1) h2]; exact xS.2.1 q h1 h2, fun q hq => by
      rcases List.mem_append.mp hq with h | h
      · exact xS.2.2 q h
      · exact hL q h⟩ T' rfl X'
  exact ⟨t2, gs t2 a1, b1⟩
theorem Pk.blind {As : List Value} : FrameBlind (Pk D dA base g As h) := fun a U f mk q => ⟨q.1, q.2.1.calling f mk a, q.2.2⟩
theorem Pk.at (xK : Kx D dA base g s) (xS : va_S (Ab base) s.heap H locs) (hW : Wd D dA base h H) (As : List Value) : ∀ U : State, U.heap = H → s.WarmedH U.vm → Pk D dA base g As h As.toArray U := fun U hU hWm => ⟨rfl, xK.to xS hU hWm, by rw [hU]; exact hW⟩
/-- a call of a method that has a contract -/
theorem sn_call (xC : Cx D dA base g k p s m args meth c) (hd : decode (mB k) pc = .ok (i, len)) (hL : LR L ls (mX k)) (hW : Wd D dA base h H) (xS : va_S (Ab base) s.heap H locs) {j : Nat} {As : List Value} (hcl : clO k i len st h = some (j, As, rest)) (hsum : (rest.map fun v => v.category).sum ≤ 8) (hjj : j < 205 ∨ j = 206) (xM : MetK l D dA base g j As h h1 r) (hR : mF j + 1 ≤ R.frames ∧ 8 + (mX j + 11) + mW j ≤ R.locals) (hf : cells + (hC h1 - hC h) ≤ R.cells ∧ slots + (hM h1 - hM h) ≤ R.slots) :
    ∃ a, va_Run p l e R s m args below meth c H locs cells slots (hC h1 - hC h) (hM h1 - hM h) (F0 m pc ls st) rest (Qk D dA base h1 r a) (Ab base) ∧ len = 3 := by
  obtain ⟨hx, hb, hml, hown, hts, hini, xK⟩ := xC
  have hok := mokAll hjj
  obtain ⟨o1, o2, o3, o4, o5, o6, o7, o8⟩ := id hok
  have fix : CallFix p m c (mB k) (mX k) s args WL (RN (mO k)) := ⟨hx, hb, hml, hown, hts⟩
  have room := lv_room (m := m) (pc := pc) (ls := ls) (rest := st) hsum
  unfold clO at hcl
  split at hcl
  · rename_i idx
    obtain ⟨j', h2, h3⟩ := Option.bind_eq_some_iff.mp hcl
    obtain ⟨f1, hi⟩ := ml_ok h2
    unfold MlOK at f1
    rw [(key_d hi).1, (key_d hi).2] at f1
    split at h3
    · rename_i hz
      cases h3
      have hlen : ((st.take (mA j)).reverse).length = mA j := by rw [List.length_reverse, List.length_take]; omega
      have hst : st = ((st.take (mA j)).reverse).reverse ++ st.drop (mA j) := by rw [List.reverse_reverse, List.take_append_drop]
      have pre : PreS s H (Pk D dA base g ((st.take (mA j)).reverse) h) ((st.take (mA j)).reverse) := ⟨Pk.blind, Pk.at xK xS hW _⟩
      rcases f1.2.2 hz.1 with hl | hl
      · exact ⟨_, va_runS fix xM ⟨callB_of (mA j) hts (gdM hok) rfl rfl rfl (hts _ o2) (hts _ hl) o3 hR, hts _ (o6 hz.2.1)⟩ pre rfl hlen hL.1 hst room hd hf, rfl⟩
      · exact ⟨_, va_runSN fix xM ⟨va_cnB (mA j) hts (gdM hok) rfl rfl rfl (xK.2.1 _ hl.2) (hts _ o2) o3 hR, hts _ (o6 hz.2.1), trivial⟩ pre rfl hlen hL.1 hst room hd hf, rfl⟩
    · cases h3
  · rename_i idx
    obtain ⟨j', h2, h3⟩ := Option.bind_eq_some_iff.mp hcl
    obtain ⟨f1, hi⟩ := ml_ok h2
    unfold MlOK at f1
    rw [(key_d hi).1, (key_d hi).2] at f1
    split at h3
    · rename_i hz
      split at h3
      · rename_i a rest' hdrop
        split at h3
        · rename_i ha
          cases h3
          have hlen : ((st.take (mA j)).reverse).length = mA j := by rw [List.length_reverse, List.length_take]; omega
          have hst : st = ((st.take (mA j)).reverse).reverse ++ .ref a :: rest := by rw [List.reverse_reverse, ← hdrop, List.take_append_drop]
          obtain ⟨C, T, g1, g2, -⟩ := cokAll ha.2
          have recv := va_recv xK.1 (va_one (hW.ob ha.1 ha.2)) (q0 := 0) g1 rfl
          rcases f1.2.2 hz.1 with hl | hl
          · obtain ⟨s1, s2⟩ := o7 hz.2.1
            have eC : (mY j).cls = C := by rw [o5, g2]
            refine ⟨_, va_runV (C := (mY j).cls) fix xM ⟨callB_of (mA j) hts (gdM hok) rfl rfl rfl (hts _ o2) (hts _ hl) o3 hR, hts _ s1, hts _ s2⟩ ⟨Pk.blind, by rw [eC]; exact recv, Pk.at xK xS hW _⟩ rfl hlen hL.1 hst room hd hf, rfl⟩
          · exact absurd hz.2.1 hl.1
        · cases h3
      · cases h3
    · cases h3
  · rename_i idx
    obtain ⟨j', h2, h3⟩ := Option.bind_eq_some_iff.mp hcl
    obtain ⟨f1, hi⟩ := ml_ok h2
    unfold MlOK at f1
    rw [(key_d hi).1, (key_d hi).2] at f1
    split at h3
    · rename_i hz
      split at h3
      · rename_i a rest' hdrop
        cases h3
        have hlen : ((st.take (mA j)).reverse).length = mA j := by rw [List.length_reverse, List.length_take]; omega
        have hst : st = ((st.take (mA j)).reverse).reverse ++ .ref a :: rest := by rw [List.reverse_reverse, ← hdrop, List.take_append_drop]
        obtain ⟨s1, s2, s3⟩ := o8 hz.2.1
        have pre : PreS s H (Pk D dA base g (.ref a :: (st.take (mA j)).reverse) h) (.ref a :: (st.take (mA j)).reverse) := ⟨Pk.blind, Pk.at xK xS hW _⟩
        have hws : wsM j = Cond.code (mY j) (mB j) (mX j) none :: WL := by unfold wsM; rw [s3]
        rcases f1.2.2 hz.1 with hl | hl
        · exact ⟨_, va_runI fix xM ⟨callB_of (mA j) hts (gdM hok) hws rfl rfl (hts _ o2) (hts _ hl) o3 hR, s2, hts _ s1⟩ pre rfl hlen hL.1 hst room hd hf, rfl⟩
        · exact ⟨_, va_runIN fix xM ⟨va_cnB (mA j) hts (gdM hok) hws rfl rfl (xK.2.1 _ hl.2) (hts _ o2) o3 hR, s2, hts _ s1⟩ pre rfl hlen hL.1 hst room hd hf, rfl⟩
      · cases h3
    · cases h3
  · cases hcl
end SN5
