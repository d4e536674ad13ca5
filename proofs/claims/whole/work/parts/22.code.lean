theorem hd_X11_findMove : ym_X11_findMove.cls = "GameLoomModel" ∧ ym_X11_findMove.cls ≠ "java/lang/invoke/MethodHandle" ∧ ym_X11_findMove.cls ≠ "java/lang/invoke/VarHandle" ∧ (parseMethodDescriptor ym_X11_findMove.desc).map (fun d => d.parameters.length) = some 4 := by decide +kernel
abbrev rm_X11_findMove : Room := { frames := 2, cells := 0, slots := 0, locals := 48 }
theorem d_X11_findMove_0 : decode cm_X11_findMove 0 = .ok (.iload_n 3, 1) := by decide +kernel
theorem d_X11_findMove_1 : decode cm_X11_findMove 1 = .ok (.aload_n 0, 1) := by decide +kernel
theorem d_X11_findMove_2 : decode cm_X11_findMove 2 = .ok (.getfield 22, 3) := by decide +kernel
theorem d_X11_findMove_5 : decode cm_X11_findMove 5 = .ok (.aload_n 0, 1) := by decide +kernel
theorem d_X11_findMove_6 : decode cm_X11_findMove 6 = .ok (.getfield 156, 3) := by decide +kernel
theorem d_X11_findMove_9 : decode cm_X11_findMove 9 = .ok (.iaload, 1) := by decide +kernel
theorem d_X11_findMove_10 : decode cm_X11_findMove 10 = .ok (.irem, 1) := by decide +kernel
theorem d_X11_findMove_11 : decode cm_X11_findMove 11 = .ok (.aload_n 0, 1) := by decide +kernel
theorem d_X11_findMove_12 : decode cm_X11_findMove 12 = .ok (.getfield 98, 3) := by decide +kernel
theorem d_X11_findMove_15 : decode cm_X11_findMove 15 = .ok (.iload 4, 2) := by decide +kernel
theorem d_X11_findMove_17 : decode cm_X11_findMove 17 = .ok (.iaload, 1) := by decide +kernel
theorem d_X11_findMove_18 : decode cm_X11_findMove 18 = .ok (.iadd, 1) := by decide +kernel
theorem d_X11_findMove_19 : decode cm_X11_findMove 19 = .ok (.istore 5, 2) := by decide +kernel
theorem d_X11_findMove_21 : decode cm_X11_findMove 21 = .ok (.iload_n 3, 1) := by decide +kernel
theorem d_X11_findMove_22 : decode cm_X11_findMove 22 = .ok (.aload_n 0, 1) := by decide +kernel
theorem d_X11_findMove_23 : decode cm_X11_findMove 23 = .ok (.getfield 22, 3) := by decide +kernel
theorem d_X11_findMove_26 : decode cm_X11_findMove 26 = .ok (.aload_n 0, 1) := by decide +kernel
theorem d_X11_findMove_27 : decode cm_X11_findMove 27 = .ok (.getfield 156, 3) := by decide +kernel
theorem d_X11_findMove_30 : decode cm_X11_findMove 30 = .ok (.iaload, 1) := by decide +kernel
theorem d_X11_findMove_31 : decode cm_X11_findMove 31 = .ok (.idiv, 1) := by decide +kernel
theorem d_X11_findMove_32 : decode cm_X11_findMove 32 = .ok (.aload_n 0, 1) := by decide +kernel
theorem d_X11_findMove_33 : decode cm_X11_findMove 33 = .ok (.getfield 101, 3) := by decide +kernel
theorem d_X11_findMove_36 : decode cm_X11_findMove 36 = .ok (.iload 4, 2) := by decide +kernel
theorem d_X11_findMove_38 : decode cm_X11_findMove 38 = .ok (.iaload, 1) := by decide +kernel
theorem d_X11_findMove_39 : decode cm_X11_findMove 39 = .ok (.iadd, 1) := by decide +kernel
theorem d_X11_findMove_40 : decode cm_X11_findMove 40 = .ok (.istore 6, 2) := by decide +kernel
theorem d_X11_findMove_42 : decode cm_X11_findMove 42 = .ok (.aload_n 0, 1) := by decide +kernel
theorem d_X11_findMove_43 : decode cm_X11_findMove 43 = .ok (.iload_n 1, 1) := by decide +kernel
theorem d_X11_findMove_44 : decode cm_X11_findMove 44 = .ok (.iload 5, 2) := by decide +kernel
theorem d_X11_findMove_46 : decode cm_X11_findMove 46 = .ok (.iload 6, 2) := by decide +kernel
theorem d_X11_findMove_48 : decode cm_X11_findMove 48 = .ok (.invokevirtual 220, 3) := by decide +kernel
theorem d_X11_findMove_51 : decode cm_X11_findMove 51 = .ok (.istore 7, 2) := by decide +kernel
theorem d_X11_findMove_53 : decode cm_X11_findMove 53 = .ok (.aload_n 0, 1) := by decide +kernel
theorem d_X11_findMove_54 : decode cm_X11_findMove 54 = .ok (.iload_n 1, 1) := by decide +kernel
theorem d_X11_findMove_55 : decode cm_X11_findMove 55 = .ok (.iload 5, 2) := by decide +kernel
theorem d_X11_findMove_57 : decode cm_X11_findMove 57 = .ok (.aload_n 0, 1) := by decide +kernel
theorem d_X11_findMove_58 : decode cm_X11_findMove 58 = .ok (.getfield 98, 3) := by decide +kernel
theorem d_X11_findMove_61 : decode cm_X11_findMove 61 = .ok (.iload 4, 2) := by decide +kernel
theorem d_X11_findMove_63 : decode cm_X11_findMove 63 = .ok (.iaload, 1) := by decide +kernel
theorem d_X11_findMove_64 : decode cm_X11_findMove 64 = .ok (.iadd, 1) := by decide +kernel
theorem d_X11_findMove_65 : decode cm_X11_findMove 65 = .ok (.iload 6, 2) := by decide +kernel
theorem d_X11_findMove_67 : decode cm_X11_findMove 67 = .ok (.aload_n 0, 1) := by decide +kernel
theorem d_X11_findMove_68 : decode cm_X11_findMove 68 = .ok (.getfield 101, 3) := by decide +kernel
theorem d_X11_findMove_71 : decode cm_X11_findMove 71 = .ok (.iload 4, 2) := by decide +kernel
theorem d_X11_findMove_73 : decode cm_X11_findMove 73 = .ok (.iaload, 1) := by decide +kernel
theorem d_X11_findMove_74 : decode cm_X11_findMove 74 = .ok (.iadd, 1) := by decide +kernel
theorem d_X11_findMove_75 : decode cm_X11_findMove 75 = .ok (.invokevirtual 220, 3) := by decide +kernel
theorem d_X11_findMove_78 : decode cm_X11_findMove 78 = .ok (.istore 8, 2) := by decide +kernel
theorem d_X11_findMove_80 : decode cm_X11_findMove 80 = .ok (.iconst 3, 1) := by decide +kernel
theorem d_X11_findMove_81 : decode cm_X11_findMove 81 = .ok (.aload_n 0, 1) := by decide +kernel
theorem d_X11_findMove_82 : decode cm_X11_findMove 82 = .ok (.getfield 71, 3) := by decide +kernel
theorem d_X11_findMove_85 : decode cm_X11_findMove 85 = .ok (.iload_n 1, 1) := by decide +kernel
theorem d_X11_findMove_86 : decode cm_X11_findMove 86 = .ok (.iaload, 1) := by decide +kernel
theorem d_X11_findMove_87 : decode cm_X11_findMove 87 = .ok (.isub, 1) := by decide +kernel
theorem d_X11_findMove_88 : decode cm_X11_findMove 88 = .ok (.istore 9, 2) := by decide +kernel
theorem d_X11_findMove_90 : decode cm_X11_findMove 90 = .ok (.aload_n 0, 1) := by decide +kernel
theorem d_X11_findMove_91 : decode cm_X11_findMove 91 = .ok (.getfield 31, 3) := by decide +kernel
theorem d_X11_findMove_94 : decode cm_X11_findMove 94 = .ok (.bipush 6, 2) := by decide +kernel
theorem d_X11_findMove_96 : decode cm_X11_findMove 96 = .ok (.aload_n 0, 1) := by decide +kernel
theorem d_X11_findMove_97 : decode cm_X11_findMove 97 = .ok (.getfield 156, 3) := by decide +kernel
theorem d_X11_findMove_100 : decode cm_X11_findMove 100 = .ok (.imul, 1) := by decide +kernel
theorem d_X11_findMove_101 : decode cm_X11_findMove 101 = .ok (.iload_n 2, 1) := by decide +kernel
theorem d_X11_findMove_102 : decode cm_X11_findMove 102 = .ok (.iadd, 1) := by decide +kernel
theorem d_X11_findMove_103 : decode cm_X11_findMove 103 = .ok (.iaload, 1) := by decide +kernel
theorem d_X11_findMove_104 : decode cm_X11_findMove 104 = .ok (.istore 10, 2) := by decide +kernel
theorem d_X11_findMove_106 : decode cm_X11_findMove 106 = .ok (.aload_n 0, 1) := by decide +kernel
theorem d_X11_findMove_107 : decode cm_X11_findMove 107 = .ok (.getfield 22, 3) := by decide +kernel
theorem d_X11_findMove_110 : decode cm_X11_findMove 110 = .ok (.aload_n 0, 1) := by decide +kernel
theorem d_X11_findMove_111 : decode cm_X11_findMove 111 = .ok (.getfield 156, 3) := by decide +kernel
theorem d_X11_findMove_114 : decode cm_X11_findMove 114 = .ok (.iaload, 1) := by decide +kernel
theorem d_X11_findMove_115 : decode cm_X11_findMove 115 = .ok (.iload 6, 2) := by decide +kernel
theorem d_X11_findMove_117 : decode cm_X11_findMove 117 = .ok (.imul, 1) := by decide +kernel
theorem d_X11_findMove_118 : decode cm_X11_findMove 118 = .ok (.iload 5, 2) := by decide +kernel
theorem d_X11_findMove_120 : decode cm_X11_findMove 120 = .ok (.iadd, 1) := by decide +kernel
theorem d_X11_findMove_121 : decode cm_X11_findMove 121 = .ok (.istore 11, 2) := by decide +kernel
theorem d_X11_findMove_123 : decode cm_X11_findMove 123 = .ok (.iload 10, 2) := by decide +kernel
theorem d_X11_findMove_125 : decode cm_X11_findMove 125 = .ok (.bipush 115, 2) := by decide +kernel
theorem d_X11_findMove_127 : decode cm_X11_findMove 127 = .ok (.if_icmp .ne 8, 3) := by decide +kernel
theorem d_X11_findMove_130 : decode cm_X11_findMove 130 = .ok (.iload 7, 2) := by decide +kernel
theorem d_X11_findMove_132 : decode cm_X11_findMove 132 = .ok (.ifCond .eq 36, 3) := by decide +kernel
theorem d_X11_findMove_135 : decode cm_X11_findMove 135 = .ok (.iload 10, 2) := by decide +kernel
theorem d_X11_findMove_137 : decode cm_X11_findMove 137 = .ok (.bipush 116, 2) := by decide +kernel
theorem d_X11_findMove_139 : decode cm_X11_findMove 139 = .ok (.if_icmp .ne 10, 3) := by decide +kernel
theorem d_X11_findMove_142 : decode cm_X11_findMove 142 = .ok (.iload 7, 2) := by decide +kernel
theorem d_X11_findMove_144 : decode cm_X11_findMove 144 = .ok (.iload 9, 2) := by decide +kernel
theorem d_X11_findMove_146 : decode cm_X11_findMove 146 = .ok (.if_icmp .eq 22, 3) := by decide +kernel
theorem d_X11_findMove_149 : decode cm_X11_findMove 149 = .ok (.iload 10, 2) := by decide +kernel
theorem d_X11_findMove_151 : decode cm_X11_findMove 151 = .ok (.bipush 117, 2) := by decide +kernel
theorem d_X11_findMove_153 : decode cm_X11_findMove 153 = .ok (.if_icmp .ne 24, 3) := by decide +kernel
theorem d_X11_findMove_156 : decode cm_X11_findMove 156 = .ok (.iload 7, 2) := by decide +kernel
theorem d_X11_findMove_158 : decode cm_X11_findMove 158 = .ok (.iload 9, 2) := by decide +kernel
theorem d_X11_findMove_160 : decode cm_X11_findMove 160 = .ok (.if_icmp .ne 17, 3) := by decide +kernel
theorem d_X11_findMove_163 : decode cm_X11_findMove 163 = .ok (.iload 8, 2) := by decide +kernel
theorem d_X11_findMove_165 : decode cm_X11_findMove 165 = .ok (.ifCond .gt 12, 3) := by decide +kernel
theorem d_X11_findMove_168 : decode cm_X11_findMove 168 = .ok (.aload_n 0, 1) := by decide +kernel
theorem d_X11_findMove_169 : decode cm_X11_findMove 169 = .ok (.iload_n 1, 1) := by decide +kernel
theorem d_X11_findMove_170 : decode cm_X11_findMove 170 = .ok (.iload_n 2, 1) := by decide +kernel
theorem d_X11_findMove_171 : decode cm_X11_findMove 171 = .ok (.iload_n 3, 1) := by decide +kernel
theorem d_X11_findMove_172 : decode cm_X11_findMove 172 = .ok (.iload 11, 2) := by decide +kernel
theorem d_X11_findMove_174 : decode cm_X11_findMove 174 = .ok (.invokevirtual 216, 3) := by decide +kernel
theorem d_X11_findMove_177 : decode cm_X11_findMove 177 = .ok (.iload 10, 2) := by decide +kernel
theorem d_X11_findMove_179 : decode cm_X11_findMove 179 = .ok (.bipush 104, 2) := by decide +kernel
theorem d_X11_findMove_181 : decode cm_X11_findMove 181 = .ok (.if_icmp .ne 50, 3) := by decide +kernel
theorem d_X11_findMove_184 : decode cm_X11_findMove 184 = .ok (.iload 7, 2) := by decide +kernel
theorem d_X11_findMove_186 : decode cm_X11_findMove 186 = .ok (.iload 9, 2) := by decide +kernel
theorem d_X11_findMove_188 : decode cm_X11_findMove 188 = .ok (.if_icmp .ne 43, 3) := by decide +kernel
theorem d_X11_findMove_191 : decode cm_X11_findMove 191 = .ok (.iload 8, 2) := by decide +kernel
theorem d_X11_findMove_193 : decode cm_X11_findMove 193 = .ok (.ifCond .ne 38, 3) := by decide +kernel
theorem d_X11_findMove_196 : decode cm_X11_findMove 196 = .ok (.aload_n 0, 1) := by decide +kernel
theorem d_X11_findMove_197 : decode cm_X11_findMove 197 = .ok (.iload_n 1, 1) := by decide +kernel
theorem d_X11_findMove_198 : decode cm_X11_findMove 198 = .ok (.iload_n 2, 1) := by decide +kernel
theorem d_X11_findMove_199 : decode cm_X11_findMove 199 = .ok (.iload_n 3, 1) := by decide +kernel
theorem d_X11_findMove_200 : decode cm_X11_findMove 200 = .ok (.iload 11, 2) := by decide +kernel
theorem d_X11_findMove_202 : decode cm_X11_findMove 202 = .ok (.aload_n 0, 1) := by decide +kernel
theorem d_X11_findMove_203 : decode cm_X11_findMove 203 = .ok (.getfield 22, 3) := by decide +kernel
theorem d_X11_findMove_206 : decode cm_X11_findMove 206 = .ok (.aload_n 0, 1) := by decide +kernel
theorem d_X11_findMove_207 : decode cm_X11_findMove 207 = .ok (.getfield 156, 3) := by decide +kernel
theorem d_X11_findMove_210 : decode cm_X11_findMove 210 = .ok (.iaload, 1) := by decide +kernel
theorem d_X11_findMove_211 : decode cm_X11_findMove 211 = .ok (.aload_n 0, 1) := by decide +kernel
theorem d_X11_findMove_212 : decode cm_X11_findMove 212 = .ok (.getfield 101, 3) := by decide +kernel
theorem d_X11_findMove_215 : decode cm_X11_findMove 215 = .ok (.iload 4, 2) := by decide +kernel
theorem d_X11_findMove_217 : decode cm_X11_findMove 217 = .ok (.iaload, 1) := by decide +kernel
theorem d_X11_findMove_218 : decode cm_X11_findMove 218 = .ok (.imul, 1) := by decide +kernel
theorem d_X11_findMove_219 : decode cm_X11_findMove 219 = .ok (.iadd, 1) := by decide +kernel
theorem d_X11_findMove_220 : decode cm_X11_findMove 220 = .ok (.aload_n 0, 1) := by decide +kernel
theorem d_X11_findMove_221 : decode cm_X11_findMove 221 = .ok (.getfield 98, 3) := by decide +kernel
theorem d_X11_findMove_224 : decode cm_X11_findMove 224 = .ok (.iload 4, 2) := by decide +kernel
theorem d_X11_findMove_226 : decode cm_X11_findMove 226 = .ok (.iaload, 1) := by decide +kernel
theorem d_X11_findMove_227 : decode cm_X11_findMove 227 = .ok (.iadd, 1) := by decide +kernel
theorem d_X11_findMove_228 : decode cm_X11_findMove 228 = .ok (.invokevirtual 216, 3) := by decide +kernel
theorem d_X11_findMove_231 : decode cm_X11_findMove 231 = .ok (.return_, 1) := by decide +kernel
def D_X11_findMove_177 (Q : GSt → Prop) (x1 : Int32) (x2 : Int32) (x3 : Int32) (x4 : Int32) (x7 : Int32) (x8 : Int32) (x9 : Int32) (x10 : Int32) (x11 : Int32) (σ : GSt) : Prop :=
  (¬ x10 = 104 → Q σ) ∧
  (x10 = 104 → (¬ x7 = x9 → Q σ) ∧
  (x7 = x9 → (¬ x8 = 0 → Q σ) ∧
  (x8 = 0 → vp_in (σ 237 22) 9 ∧ (vp_in x4 8 ∧ (vp_in x4 8 ∧ (D_X11_tells x1 x2 x3 ((x11 + ((σ 242 (Int32.toNatClampNeg (σ 237 22))) * (σ 268 (Int32.toNatClampNeg x4)))) + (σ 267 (Int32.toNatClampNeg x4))) σ (fun σ_1 => Q σ_1)))))))
def D_X11_findMove_168 (Q : GSt → Prop) (x1 : Int32) (x2 : Int32) (x3 : Int32) (x4 : Int32) (x7 : Int32) (x8 : Int32) (x9 : Int32) (x10 : Int32) (x11 : Int32) (σ : GSt) : Prop :=
  D_X11_tells x1 x2 x3 x11 σ (fun σ_1 => D_X11_findMove_177 Q x1 x2 x3 x4 x7 x8 x9 x10 x11 σ_1)
def D_X11_findMove_149 (Q : GSt → Prop) (x1 : Int32) (x2 : Int32) (x3 : Int32) (x4 : Int32) (x7 : Int32) (x8 : Int32) (x9 : Int32) (x10 : Int32) (x11 : Int32) (σ : GSt) : Prop :=
  (¬ x10 = 117 → D_X11_findMove_177 Q x1 x2 x3 x4 x7 x8 x9 x10 x11 σ) ∧
  (x10 = 117 → (¬ x7 = x9 → D_X11_findMove_177 Q x1 x2 x3 x4 x7 x8 x9 x10 x11 σ) ∧
  (x7 = x9 → (0 < x8 → D_X11_findMove_177 Q x1 x2 x3 x4 x7 x8 x9 x10 x11 σ) ∧
  (¬ 0 < x8 → D_X11_findMove_168 Q x1 x2 x3 x4 x7 x8 x9 x10 x11 σ)))
def D_X11_findMove_135 (Q : GSt → Prop) (x1 : Int32) (x2 : Int32) (x3 : Int32) (x4 : Int32) (x7 : Int32) (x8 : Int32) (x9 : Int32) (x10 : Int32) (x11 : Int32) (σ : GSt) : Prop :=
  (¬ x10 = 116 → D_X11_findMove_149 Q x1 x2 x3 x4 x7 x8 x9 x10 x11 σ) ∧
  (x10 = 116 → (x7 = x9 → D_X11_findMove_168 Q x1 x2 x3 x4 x7 x8 x9 x10 x11 σ) ∧
  (¬ x7 = x9 → D_X11_findMove_149 Q x1 x2 x3 x4 x7 x8 x9 x10 x11 σ))
def D_X11_findMove_0 (Q : GSt → Prop) (x1 : Int32) (x2 : Int32) (x3 : Int32) (x4 : Int32) (σ : GSt) : Prop :=
  vp_in (σ 237 22) 9 ∧ (¬ (σ 242 (Int32.toNatClampNeg (σ 237 22))) = 0 ∧ (vp_in x4 8 ∧ (∀ x5_1 : Int32, x5_1 = ((jrem x3 (σ 242 (Int32.toNatClampNeg (σ 237 22)))) + (σ 267 (Int32.toNatClampNeg x4))) → (vp_in (σ 237 22) 9 ∧ (¬ (σ 242 (Int32.toNatClampNeg (σ 237 22))) = 0 ∧ (vp_in x4 8 ∧ (∀ x6_2 : Int32, x6_2 = ((x3 / (σ 242 (Int32.toNatClampNeg (σ 237 22)))) + (σ 268 (Int32.toNatClampNeg x4))) → (D_X11_cellAt x1 x5_1 x6_2 σ (fun r_3 σ_4 => vp_in x4 8 ∧ (vp_in x4 8 ∧ (D_X11_cellAt x1 (x5_1 + (σ_4 267 (Int32.toNatClampNeg x4))) (x6_2 + (σ_4 268 (Int32.toNatClampNeg x4))) σ_4 (fun r_5 σ_6 => vp_in x1 9 ∧ (∀ x9_7 : Int32, x9_7 = (3 - (σ_6 258 (Int32.toNatClampNeg x1))) → (vp_in ((6 * (σ_6 237 22)) + x2) 54 ∧ (∀ x10_8 : Int32, x10_8 = (σ_6 245 (Int32.toNatClampNeg ((6 * (σ_6 237 22)) + x2))) → (vp_in (σ_6 237 22) 9 ∧ (∀ x11_9 : Int32, x11_9 = (((σ_6 242 (Int32.toNatClampNeg (σ_6 237 22))) * x6_2) + x5_1) → ((¬ x10_8 = 115 → D_X11_findMove_135 Q x1 x2 x3 x4 r_3 r_5 x9_7 x10_8 x11_9 σ_6) ∧
  (x10_8 = 115 → (r_3 = 0 → D_X11_findMove_168 Q x1 x2 x3 x4 r_3 r_5 x9_7 x10_8 x11_9 σ_6) ∧
  (¬ r_3 = 0 → D_X11_findMove_135 Q x1 x2 x3 x4 r_3 r_5 x9_7 x10_8 x11_9 σ_6))))))))))))))))))))
def D_X11_findMove (x1 : Int32) (x2 : Int32) (x3 : Int32) (x4 : Int32) (σ : GSt) (Q : GSt → Prop) : Prop := D_X11_findMove_0 Q x1 x2 x3 x4 σ
set_option maxRecDepth 20000 in
set_option maxHeartbeats 4000000 in
theorem s_X11_findMove_177 {p : Program} {l : Launch} {e : Env} {s : State} {m : MethodId} {args : Array Value} {below : List Frame} {meth : Method} {c : Code} {G : GC} (X : CallFix p m c cm_X11_findMove 12 s args lw_us "GameLoomModel") (hr : meth.sig.returnType = none) (hlk : meth.locks = false) (Q : GSt → Prop) (x1 : Int32) (x2 : Int32) (x3 : Int32) (x4 : Int32) (x7 : Int32) (x8 : Int32) (x9 : Int32) (x10 : Int32) (x11 : Int32) (σ : GSt) {H : Heap} {locs : List Loc} {ls : Array Slot} (hw : Wo G s H locs σ) (hl : lv_has ls 12 [(0, .ref (G.2.1 237)), (1, .int x1), (2, .int x2), (3, .int x3), (4, .int x4), (7, .int x7), (8, .int x8), (9, .int x9), (10, .int x10), (11, .int x11)]) (hD : D_X11_findMove_177 Q x1 x2 x3 x4 x7 x8 x9 x10 x11 σ) : W p l e rm_X11_findMove s m args below meth c H locs 0 0 (QMV G Q below args s) (F0 m 177 ls []) := by
  unfold D_X11_findMove_177 at hD
  refine lv_iload X.1 X.2.1 d_X11_findMove_177 (lv_at hl 8 rfl) ?_
  refine lv_bipush (v := 104) X.1 X.2.1 d_X11_findMove_179 (by decide) ?_
  refine lv_icmp_ne (tgt := 231) X.1 X.2.1 d_X11_findMove_181 (by decide) (fun q_181 => ?_) (fun q_181 => ?_)
  · have hD := hD.1 q_181
    exact g_vret X hr hlk hw hD d_X11_findMove_231
  · have hD := hD.2 q_181
    refine lv_iload X.1 X.2.1 d_X11_findMove_184 (lv_at hl 5 rfl) ?_
    refine lv_iload X.1 X.2.1 d_X11_findMove_186 (lv_at hl 7 rfl) ?_
    refine lv_icmp_ne (tgt := 231) X.1 X.2.1 d_X11_findMove_188 (by decide) (fun q_188 => ?_) (fun q_188 => ?_)
    · have hD := hD.1 q_188
      exact g_vret X hr hlk hw hD d_X11_findMove_231
    · have hD := hD.2 q_188
      refine lv_iload X.1 X.2.1 d_X11_findMove_191 (lv_at hl 6 rfl) ?_
      refine lv_if_ne (tgt := 231) X.1 X.2.1 d_X11_findMove_193 (by decide) (fun q_193 => ?_) (fun q_193 => ?_)
      · have hD := hD.1 q_193
        exact g_vret X hr hlk hw hD d_X11_findMove_231
      · have hD := hD.2 q_193
        refine lv_aload_n X.1 X.2.1 d_X11_findMove_196 rfl (lv_at hl 0 rfl) ?_
        refine lv_iload_n X.1 X.2.1 d_X11_findMove_197 rfl (lv_at hl 1 rfl) ?_
        refine lv_iload_n X.1 X.2.1 d_X11_findMove_198 rfl (lv_at hl 2 rfl) ?_
        refine lv_iload_n X.1 X.2.1 d_X11_findMove_199 rfl (lv_at hl 3 rfl) ?_
        refine lv_iload X.1 X.2.1 d_X11_findMove_200 (lv_at hl 9 rfl) ?_
        refine lv_aload_n X.1 X.2.1 d_X11_findMove_202 rfl (lv_at hl 0 rfl) ?_
        refine gf_11_4 X hw (by decide +kernel : kd 237 = 11) tb_910 d_X11_findMove_203 ?_
        refine lv_aload_n X.1 X.2.1 d_X11_findMove_206 rfl (lv_at hl 0 rfl) ?_
        refine gf_11_22 X hw (by decide +kernel : kd 237 = 11) tb_928 d_X11_findMove_207 ?_
        obtain ⟨q_210, hD⟩ := hD
        refine g_iald X hw ly_11_4.1 ly_11_4.2 q_210 d_X11_findMove_210 ?_
        refine lv_aload_n X.1 X.2.1 d_X11_findMove_211 rfl (lv_at hl 0 rfl) ?_
        refine gf_11_34 X hw (by decide +kernel : kd 237 = 11) tb_940 d_X11_findMove_212 ?_
        refine lv_iload X.1 X.2.1 d_X11_findMove_215 (lv_at hl 4 rfl) ?_
        obtain ⟨q_217, hD⟩ := hD
        refine g_iald X hw ly_11_34.1 ly_11_34.2 q_217 d_X11_findMove_217 ?_
        refine lv_imul X.1 X.2.1 d_X11_findMove_218 ?_
        refine lv_iadd X.1 X.2.1 d_X11_findMove_219 ?_
        refine lv_aload_n X.1 X.2.1 d_X11_findMove_220 rfl (lv_at hl 0 rfl) ?_
        refine gf_11_33 X hw (by decide +kernel : kd 237 = 11) tb_939 d_X11_findMove_221 ?_
        refine lv_iload X.1 X.2.1 d_X11_findMove_224 (lv_at hl 4 rfl) ?_
        obtain ⟨q_226, hD⟩ := hD
        refine g_iald X hw ly_11_33.1 ly_11_33.2 q_226 d_X11_findMove_226 ?_
        refine lv_iadd X.1 X.2.1 d_X11_findMove_227 ?_
        refine gcV_v (rest := []) (As := [.int x1, .int x2, .int x3, .int ((x11 + ((σ 242 (Int32.toNatClampNeg (σ 237 22))) * (σ 268 (Int32.toNatClampNeg x4)))) + (σ 267 (Int32.toNatClampNeg x4)))]) (o := 237) X hw (c_X11_tells l G x1 x2 x3 ((x11 + ((σ 242 (Int32.toNatClampNeg (σ 237 22))) * (σ 268 (Int32.toNatClampNeg x4)))) + (σ 267 (Int32.toNatClampNeg x4))) σ _  hD) (kd_lt (by decide +kernel : kd 237 = 11) (by decide)) (ce_11 G _ (by decide +kernel : kd 237 = 11)) rfl tb_1184 tb_1186 tv_55 tb_12 tb_1187 hd_X11_tells ⟨rfl, rfl⟩ ⟨Nat.le_of_ble_eq_true rfl, Nat.le_of_ble_eq_true rfl⟩ rfl hl.1 rfl (Nat.le_of_ble_eq_true rfl) d_X11_findMove_228 (fun σ_1 H locs hD hw => ?_)
        exact g_vret X hr hlk hw hD d_X11_findMove_231
set_option maxRecDepth 20000 in
set_option maxHeartbeats 4000000 in
theorem s_X11_findMove_168 {p : Program} {l : Launch} {e : Env} {s : State} {m : MethodId} {args : Array Value} {below : List Frame} {meth : Method} {c : Code} {G : GC} (X : CallFix p m c cm_X11_findMove 12 s args lw_us "GameLoomModel") (hr : meth.sig.returnType = none) (hlk : meth.locks = false) (Q : GSt → Prop) (x1 : Int32) (x2 : Int32) (x3 : Int32) (x4 : Int32) (x7 : Int32) (x8 : Int32) (x9 : Int32) (x10 : Int32) (x11 : Int32) (σ : GSt) {H : Heap} {locs : List Loc} {ls : Array Slot} (hw : Wo G s H locs σ) (hl : lv_has ls 12 [(0, .ref (G.2.1 237)), (1, .int x1), (2, .int x2), (3, .int x3), (4, .int x4), (7, .int x7), (8, .int x8), (9, .int x9), (10, .int x10), (11, .int x11)]) (hD : D_X11_findMove_168 Q x1 x2 x3 x4 x7 x8 x9 x10 x11 σ) : W p l e rm_X11_findMove s m args below meth c H locs 0 0 (QMV G Q below args s) (F0 m 168 ls []) := by
  unfold D_X11_findMove_168 at hD
  refine lv_aload_n X.1 X.2.1 d_X11_findMove_168 rfl (lv_at hl 0 rfl) ?_
  refine lv_iload_n X.1 X.2.1 d_X11_findMove_169 rfl (lv_at hl 1 rfl) ?_
  refine lv_iload_n X.1 X.2.1 d_X11_findMove_170 rfl (lv_at hl 2 rfl) ?_
  refine lv_iload_n X.1 X.2.1 d_X11_findMove_171 rfl (lv_at hl 3 rfl) ?_
  refine lv_iload X.1 X.2.1 d_X11_findMove_172 (lv_at hl 9 rfl) ?_
  refine gcV_v (rest := []) (As := [.int x1, .int x2, .int x3, .int x11]) (o := 237) X hw (c_X11_tells l G x1 x2 x3 x11 σ _  hD) (kd_lt (by decide +kernel : kd 237 = 11) (by decide)) (ce_11 G _ (by decide +kernel : kd 237 = 11)) rfl tb_1184 tb_1186 tv_55 tb_12 tb_1187 hd_X11_tells ⟨rfl, rfl⟩ ⟨Nat.le_of_ble_eq_true rfl, Nat.le_of_ble_eq_true rfl⟩ rfl hl.1 rfl (Nat.le_of_ble_eq_true rfl) d_X11_findMove_174 (fun σ_1 H locs hD hw => ?_)
  exact s_X11_findMove_177 X hr hlk  Q  x1 x2 x3 x4 x7 x8 x9 x10 x11 σ_1 hw (lv_sub hl [0, 1, 2, 3, 4, 5, 6, 7, 8, 9] rfl) hD
set_option maxRecDepth 20000 in
set_option maxHeartbeats 4000000 in
theorem s_X11_findMove_149 {p : Program} {l : Launch} {e : Env} {s : State} {m : MethodId} {args : Array Value} {below : List Frame} {meth : Method} {c : Code} {G : GC} (X : CallFix p m c cm_X11_findMove 12 s args lw_us "GameLoomModel") (hr : meth.sig.returnType = none) (hlk : meth.locks = false) (Q : GSt → Prop) (x1 : Int32) (x2 : Int32) (x3 : Int32) (x4 : Int32) (x7 : Int32) (x8 : Int32) (x9 : Int32) (x10 : Int32) (x11 : Int32) (σ : GSt) {H : Heap} {locs : List Loc} {ls : Array Slot} (hw : Wo G s H locs σ) (hl : lv_has ls 12 [(0, .ref (G.2.1 237)), (1, .int x1), (2, .int x2), (3, .int x3), (4, .int x4), (7, .int x7), (8, .int x8), (9, .int x9), (10, .int x10), (11, .int x11)]) (hD : D_X11_findMove_149 Q x1 x2 x3 x4 x7 x8 x9 x10 x11 σ) : W p l e rm_X11_findMove s m args below meth c H locs 0 0 (QMV G Q below args s) (F0 m 149 ls []) := by
  unfold D_X11_findMove_149 at hD
  refine lv_iload X.1 X.2.1 d_X11_findMove_149 (lv_at hl 8 rfl) ?_
  refine lv_bipush (v := 117) X.1 X.2.1 d_X11_findMove_151 (by decide) ?_
  refine lv_icmp_ne (tgt := 177) X.1 X.2.1 d_X11_findMove_153 (by decide) (fun q_153 => ?_) (fun q_153 => ?_)
  · have hD := hD.1 q_153
    exact s_X11_findMove_177 X hr hlk  Q  x1 x2 x3 x4 x7 x8 x9 x10 x11 σ hw (lv_sub hl [0, 1, 2, 3, 4, 5, 6, 7, 8, 9] rfl) hD
  · have hD := hD.2 q_153
    refine lv_iload X.1 X.2.1 d_X11_findMove_156 (lv_at hl 5 rfl) ?_
    refine lv_iload X.1 X.2.1 d_X11_findMove_158 (lv_at hl 7 rfl) ?_
    refine lv_icmp_ne (tgt := 177) X.1 X.2.1 d_X11_findMove_160 (by decide) (fun q_160 => ?_) (fun q_160 => ?_)
    · have hD := hD.1 q_160
      exact s_X11_findMove_177 X hr hlk  Q  x1 x2 x3 x4 x7 x8 x9 x10 x11 σ hw (lv_sub hl [0, 1, 2, 3, 4, 5, 6, 7, 8, 9] rfl) hD
    · have hD := hD.2 q_160
      refine lv_iload X.1 X.2.1 d_X11_findMove_163 (lv_at hl 6 rfl) ?_
      refine lv_if_gt (tgt := 177) X.1 X.2.1 d_X11_findMove_165 (by decide) (fun q_165 => ?_) (fun q_165 => ?_)
      · have hD := hD.1 q_165
        exact s_X11_findMove_177 X hr hlk  Q  x1 x2 x3 x4 x7 x8 x9 x10 x11 σ hw (lv_sub hl [0, 1, 2, 3, 4, 5, 6, 7, 8, 9] rfl) hD
      · have hD := hD.2 q_165
        exact s_X11_findMove_168 X hr hlk  Q  x1 x2 x3 x4 x7 x8 x9 x10 x11 σ hw (lv_sub hl [0, 1, 2, 3, 4, 5, 6, 7, 8, 9] rfl) hD
set_option maxRecDepth 20000 in
set_option maxHeartbeats 4000000 in
theorem s_X11_findMove_135 {p : Program} {l : Launch} {e : Env} {s : State} {m : MethodId} {args : Array Value} {below : List Frame} {meth : Method} {c : Code} {G : GC} (X : CallFix p m c cm_X11_findMove 12 s args lw_us "GameLoomModel") (hr : meth.sig.returnType = none) (hlk : meth.locks = false) (Q : GSt → Prop) (x1 : Int32) (x2 : Int32) (x3 : Int32) (x4 : Int32) (x7 : Int32) (x8 : Int32) (x9 : Int32) (x10 : Int32) (x11 : Int32) (σ : GSt) {H : Heap} {locs : List Loc} {ls : Array Slot} (hw : Wo G s H locs σ) (hl : lv_has ls 12 [(0, .ref (G.2.1 237)), (1, .int x1), (2, .int x2), (3, .int x3), (4, .int x4), (7, .int x7), (8, .int x8), (9, .int x9), (10, .int x10), (11, .int x11)]) (hD : D_X11_findMove_135 Q x1 x2 x3 x4 x7 x8 x9 x10 x11 σ) : W p l e rm_X11_findMove s m args below meth c H locs 0 0 (QMV G Q below args s) (F0 m 135 ls []) := by
  unfold D_X11_findMove_135 at hD
  refine lv_iload X.1 X.2.1 d_X11_findMove_135 (lv_at hl 8 rfl) ?_
  refine lv_bipush (v := 116) X.1 X.2.1 d_X11_findMove_137 (by decide) ?_
  refine lv_icmp_ne (tgt := 149) X.1 X.2.1 d_X11_findMove_139 (by decide) (fun q_139 => ?_) (fun q_139 => ?_)
  · have hD := hD.1 q_139
    exact s_X11_findMove_149 X hr hlk  Q  x1 x2 x3 x4 x7 x8 x9 x10 x11 σ hw (lv_sub hl [0, 1, 2, 3, 4, 5, 6, 7, 8, 9] rfl) hD
  · have hD := hD.2 q_139
    refine lv_iload X.1 X.2.1 d_X11_findMove_142 (lv_at hl 5 rfl) ?_
    refine lv_iload X.1 X.2.1 d_X11_findMove_144 (lv_at hl 7 rfl) ?_
    refine lv_icmp_eq (tgt := 168) X.1 X.2.1 d_X11_findMove_146 (by decide) (fun q_146 => ?_) (fun q_146 => ?_)
    · have hD := hD.1 q_146
      exact s_X11_findMove_168 X hr hlk  Q  x1 x2 x3 x4 x7 x8 x9 x10 x11 σ hw (lv_sub hl [0, 1, 2, 3, 4, 5, 6, 7, 8, 9] rfl) hD
    · have hD := hD.2 q_146
      exact s_X11_findMove_149 X hr hlk  Q  x1 x2 x3 x4 x7 x8 x9 x10 x11 σ hw (lv_sub hl [0, 1, 2, 3, 4, 5, 6, 7, 8, 9] rfl) hD
set_option maxRecDepth 20000 in
set_option maxHeartbeats 4000000 in
theorem s_X11_findMove_0 {p : Program} {l : Launch} {e : Env} {s : State} {m : MethodId} {args : Array Value} {below : List Frame} {meth : Method} {c : Code} {G : GC} (X : CallFix p m c cm_X11_findMove 12 s args lw_us "GameLoomModel") (hr : meth.sig.returnType = none) (hlk : meth.locks = false) (Q : GSt → Prop) (x1 : Int32) (x2 : Int32) (x3 : Int32) (x4 : Int32) (σ : GSt) {H : Heap} {locs : List Loc} {ls : Array Slot} (hw : Wo G s H locs σ) (hl : lv_has ls 12 [(0, .ref (G.2.1 237)), (1, .int x1), (2, .int x2), (3, .int x3), (4, .int x4)]) (hD : D_X11_findMove_0 Q x1 x2 x3 x4 σ) : W p l e rm_X11_findMove s m args below meth c H locs 0 0 (QMV G Q below args s) (F0 m 0 ls []) := by
  unfold D_X11_findMove_0 at hD
  refine lv_iload_n X.1 X.2.1 d_X11_findMove_0 rfl (lv_at hl 3 rfl) ?_
  refine lv_aload_n X.1 X.2.1 d_X11_findMove_1 rfl (lv_at hl 0 rfl) ?_
  refine gf_11_4 X hw (by decide +kernel : kd 237 = 11) tb_910 d_X11_findMove_2 ?_
  refine lv_aload_n X.1 X.2.1 d_X11_findMove_5 rfl (lv_at hl 0 rfl) ?_
  refine gf_11_22 X hw (by decide +kernel : kd 237 = 11) tb_928 d_X11_findMove_6 ?_
  obtain ⟨q_9, hD⟩ := hD
  refine g_iald X hw ly_11_4.1 ly_11_4.2 q_9 d_X11_findMove_9 ?_
  obtain ⟨q_10, hD⟩ := hD
  refine g_irem X d_X11_findMove_10 q_10 ?_
  refine lv_aload_n X.1 X.2.1 d_X11_findMove_11 rfl (lv_at hl 0 rfl) ?_
  refine gf_11_33 X hw (by decide +kernel : kd 237 = 11) tb_939 d_X11_findMove_12 ?_
  refine lv_iload X.1 X.2.1 d_X11_findMove_15 (lv_at hl 4 rfl) ?_
  obtain ⟨q_17, hD⟩ := hD
  refine g_iald X hw ly_11_33.1 ly_11_33.2 q_17 d_X11_findMove_17 ?_
  refine lv_iadd X.1 X.2.1 d_X11_findMove_18 ?_
  refine lv_topi (fun x5_1 e_x5_1 => ?_)
  have hD := hD x5_1 e_x5_1
  refine lv_istore (lv' := [(5, .int x5_1), (0, .ref (G.2.1 237)), (1, .int x1), (2, .int x2), (3, .int x3), (4, .int x4)]) X.1 X.2.1 d_X11_findMove_19 hl (by decide) rfl (fun ls hl => ?_)
  refine lv_iload_n X.1 X.2.1 d_X11_findMove_21 rfl (lv_at hl 4 rfl) ?_
  refine lv_aload_n X.1 X.2.1 d_X11_findMove_22 rfl (lv_at hl 1 rfl) ?_
  refine gf_11_4 X hw (by decide +kernel : kd 237 = 11) tb_910 d_X11_findMove_23 ?_
  refine lv_aload_n X.1 X.2.1 d_X11_findMove_26 rfl (lv_at hl 1 rfl) ?_
  refine gf_11_22 X hw (by decide +kernel : kd 237 = 11) tb_928 d_X11_findMove_27 ?_
  obtain ⟨q_30, hD⟩ := hD
  refine g_iald X hw ly_11_4.1 ly_11_4.2 q_30 d_X11_findMove_30 ?_
  obtain ⟨q_31, hD⟩ := hD
  refine lv_idiv X.1 X.2.1 d_X11_findMove_31 q_31 ?_
  refine lv_aload_n X.1 X.2.1 d_X11_findMove_32 rfl (lv_at hl 1 rfl) ?_
  refine gf_11_34 X hw (by decide +kernel : kd 237 = 11) tb_940 d_X11_findMove_33 ?_
  refine lv_iload X.1 X.2.1 d_X11_findMove_36 (lv_at hl 5 rfl) ?_
  obtain ⟨q_38, hD⟩ := hD
  refine g_iald X hw ly_11_34.1 ly_11_34.2 q_38 d_X11_findMove_38 ?_
  refine lv_iadd X.1 X.2.1 d_X11_findMove_39 ?_
  refine lv_topi (fun x6_2 e_x6_2 => ?_)
  have hD := hD x6_2 e_x6_2
  refine lv_istore (lv' := [(6, .int x6_2), (5, .int x5_1), (0, .ref (G.2.1 237)), (1, .int x1), (2, .int x2), (3, .int x3), (4, .int x4)]) X.1 X.2.1 d_X11_findMove_40 hl (by decide) rfl (fun ls hl => ?_)
  refine lv_aload_n X.1 X.2.1 d_X11_findMove_42 rfl (lv_at hl 2 rfl) ?_
  refine lv_iload_n X.1 X.2.1 d_X11_findMove_43 rfl (lv_at hl 3 rfl) ?_
  refine lv_iload X.1 X.2.1 d_X11_findMove_44 (lv_at hl 1 rfl) ?_
  refine lv_iload X.1 X.2.1 d_X11_findMove_46 (lv_at hl 0 rfl) ?_
  refine gcV_i (rest := []) (As := [.int x1, .int x5_1, .int x6_2]) (o := 237) X hw (c_X11_cellAt l G x1 x5_1 x6_2 σ _  hD) (kd_lt (by decide +kernel : kd 237 = 11) (by decide)) (ce_11 G _ (by decide +kernel : kd 237 = 11)) rfl tb_1192 tb_1194 tv_57 tb_12 tb_1195 hd_X11_cellAt ⟨rfl, rfl⟩ ⟨Nat.le_of_ble_eq_true rfl, Nat.le_of_ble_eq_true rfl⟩ rfl hl.1 rfl (Nat.le_of_ble_eq_true rfl) d_X11_findMove_48 (fun r_3 σ_4 H locs hD hw => ?_)
  refine lv_istore (lv' := [(7, .int r_3), (6, .int x6_2), (5, .int x5_1), (0, .ref (G.2.1 237)), (1, .int x1), (2, .int x2), (3, .int x3), (4, .int x4)]) X.1 X.2.1 d_X11_findMove_51 hl (by decide) rfl (fun ls hl => ?_)
  refine lv_aload_n X.1 X.2.1 d_X11_findMove_53 rfl (lv_at hl 3 rfl) ?_
  refine lv_iload_n X.1 X.2.1 d_X11_findMove_54 rfl (lv_at hl 4 rfl) ?_
  refine lv_iload X.1 X.2.1 d_X11_findMove_55 (lv_at hl 2 rfl) ?_
  refine lv_aload_n X.1 X.2.1 d_X11_findMove_57 rfl (lv_at hl 3 rfl) ?_
  refine gf_11_33 X hw (by decide +kernel : kd 237 = 11) tb_939 d_X11_findMove_58 ?_
  refine lv_iload X.1 X.2.1 d_X11_findMove_61 (lv_at hl 7 rfl) ?_
  obtain ⟨q_63, hD⟩ := hD
  refine g_iald X hw ly_11_33.1 ly_11_33.2 q_63 d_X11_findMove_63 ?_
  refine lv_iadd X.1 X.2.1 d_X11_findMove_64 ?_
  refine lv_iload X.1 X.2.1 d_X11_findMove_65 (lv_at hl 1 rfl) ?_
  refine lv_aload_n X.1 X.2.1 d_X11_findMove_67 rfl (lv_at hl 3 rfl) ?_
  refine gf_11_34 X hw (by decide +kernel : kd 237 = 11) tb_940 d_X11_findMove_68 ?_
  refine lv_iload X.1 X.2.1 d_X11_findMove_71 (lv_at hl 7 rfl) ?_
  obtain ⟨q_73, hD⟩ := hD
  refine g_iald X hw ly_11_34.1 ly_11_34.2 q_73 d_X11_findMove_73 ?_
  refine lv_iadd X.1 X.2.1 d_X11_findMove_74 ?_
  refine gcV_i (rest := []) (As := [.int x1, .int (x5_1 + (σ_4 267 (Int32.toNatClampNeg x4))), .int (x6_2 + (σ_4 268 (Int32.toNatClampNeg x4)))]) (o := 237) X hw (c_X11_cellAt l G x1 (x5_1 + (σ_4 267 (Int32.toNatClampNeg x4))) (x6_2 + (σ_4 268 (Int32.toNatClampNeg x4))) σ_4 _  hD) (kd_lt (by decide +kernel : kd 237 = 11) (by decide)) (ce_11 G _ (by decide +kernel : kd 237 = 11)) rfl tb_1192 tb_1194 tv_57 tb_12 tb_1195 hd_X11_cellAt ⟨rfl, rfl⟩ ⟨Nat.le_of_ble_eq_true rfl, Nat.le_of_ble_eq_true rfl⟩ rfl hl.1 rfl (Nat.le_of_ble_eq_true rfl) d_X11_findMove_75 (fun r_5 σ_6 H locs hD hw => ?_)
  refine lv_istore (lv' := [(8, .int r_5), (7, .int r_3), (6, .int x6_2), (5, .int x5_1), (0, .ref (G.2.1 237)), (1, .int x1), (2, .int x2), (3, .int x3), (4, .int x4)]) X.1 X.2.1 d_X11_findMove_78 hl (by decide) rfl (fun ls hl => ?_)
  refine lv_iconst (v := 3) X.1 X.2.1 d_X11_findMove_80 (by decide) ?_
  refine lv_aload_n X.1 X.2.1 d_X11_findMove_81 rfl (lv_at hl 4 rfl) ?_
  refine gf_11_24 X hw (by decide +kernel : kd 237 = 11) tb_930 d_X11_findMove_82 ?_
  refine lv_iload_n X.1 X.2.1 d_X11_findMove_85 rfl (lv_at hl 5 rfl) ?_
  obtain ⟨q_86, hD⟩ := hD
  refine g_iald X hw ly_11_24.1 ly_11_24.2 q_86 d_X11_findMove_86 ?_
  refine lv_isub X.1 X.2.1 d_X11_findMove_87 ?_
  refine lv_topi (fun x9_7 e_x9_7 => ?_)
  have hD := hD x9_7 e_x9_7
  refine lv_istore (lv' := [(9, .int x9_7), (8, .int r_5), (7, .int r_3), (6, .int x6_2), (5, .int x5_1), (0, .ref (G.2.1 237)), (1, .int x1), (2, .int x2), (3, .int x3), (4, .int x4)]) X.1 X.2.1 d_X11_findMove_88 hl (by decide) rfl (fun ls hl => ?_)
  refine lv_aload_n X.1 X.2.1 d_X11_findMove_90 rfl (lv_at hl 5 rfl) ?_
  refine gf_11_7 X hw (by decide +kernel : kd 237 = 11) tb_913 d_X11_findMove_91 ?_
  refine lv_bipush (v := 6) X.1 X.2.1 d_X11_findMove_94 (by decide) ?_
  refine lv_aload_n X.1 X.2.1 d_X11_findMove_96 rfl (lv_at hl 5 rfl) ?_
  refine gf_11_22 X hw (by decide +kernel : kd 237 = 11) tb_928 d_X11_findMove_97 ?_
  refine lv_imul X.1 X.2.1 d_X11_findMove_100 ?_
  refine lv_iload_n X.1 X.2.1 d_X11_findMove_101 rfl (lv_at hl 7 rfl) ?_
  refine lv_iadd X.1 X.2.1 d_X11_findMove_102 ?_
  obtain ⟨q_103, hD⟩ := hD
  refine g_iald X hw ly_11_7.1 ly_11_7.2 q_103 d_X11_findMove_103 ?_
  refine lv_topi (fun x10_8 e_x10_8 => ?_)
  have hD := hD x10_8 e_x10_8
  refine lv_istore (lv' := [(10, .int x10_8), (9, .int x9_7), (8, .int r_5), (7, .int r_3), (6, .int x6_2), (5, .int x5_1), (0, .ref (G.2.1 237)), (1, .int x1), (2, .int x2), (3, .int x3), (4, .int x4)]) X.1 X.2.1 d_X11_findMove_104 hl (by decide) rfl (fun ls hl => ?_)
  refine lv_aload_n X.1 X.2.1 d_X11_findMove_106 rfl (lv_at hl 6 rfl) ?_
  refine gf_11_4 X hw (by decide +kernel : kd 237 = 11) tb_910 d_X11_findMove_107 ?_
  refine lv_aload_n X.1 X.2.1 d_X11_findMove_110 rfl (lv_at hl 6 rfl) ?_
  refine gf_11_22 X hw (by decide +kernel : kd 237 = 11) tb_928 d_X11_findMove_111 ?_
  obtain ⟨q_114, hD⟩ := hD
  refine g_iald X hw ly_11_4.1 ly_11_4.2 q_114 d_X11_findMove_114 ?_
  refine lv_iload X.1 X.2.1 d_X11_findMove_115 (lv_at hl 4 rfl) ?_
  refine lv_imul X.1 X.2.1 d_X11_findMove_117 ?_
  refine lv_iload X.1 X.2.1 d_X11_findMove_118 (lv_at hl 5 rfl) ?_
  refine lv_iadd X.1 X.2.1 d_X11_findMove_120 ?_
  refine lv_topi (fun x11_9 e_x11_9 => ?_)
  have hD := hD x11_9 e_x11_9
  refine lv_istore (lv' := [(11, .int x11_9), (10, .int x10_8), (9, .int x9_7), (8, .int r_5), (7, .int r_3), (6, .int x6_2), (5, .int x5_1), (0, .ref (G.2.1 237)), (1, .int x1), (2, .int x2), (3, .int x3), (4, .int x4)]) X.1 X.2.1 d_X11_findMove_121 hl (by decide) rfl (fun ls hl => ?_)
  refine lv_iload X.1 X.2.1 d_X11_findMove_123 (lv_at hl 1 rfl) ?_
  refine lv_bipush (v := 115) X.1 X.2.1 d_X11_findMove_125 (by decide) ?_
  refine lv_icmp_ne (tgt := 135) X.1 X.2.1 d_X11_findMove_127 (by decide) (fun q_127 => ?_) (fun q_127 => ?_)
  · have hD := hD.1 q_127
    exact s_X11_findMove_135 X hr hlk  Q  x1 x2 x3 x4 r_3 r_5 x9_7 x10_8 x11_9 σ_6 hw (lv_sub hl [7, 8, 9, 10, 11, 4, 3, 2, 1, 0] rfl) hD
  · have hD := hD.2 q_127
    refine lv_iload X.1 X.2.1 d_X11_findMove_130 (lv_at hl 4 rfl) ?_
    refine lv_if_eq (tgt := 168) X.1 X.2.1 d_X11_findMove_132 (by decide) (fun q_132 => ?_) (fun q_132 => ?_)
    · have hD := hD.1 q_132
      exact s_X11_findMove_168 X hr hlk  Q  x1 x2 x3 x4 r_3 r_5 x9_7 x10_8 x11_9 σ_6 hw (lv_sub hl [7, 8, 9, 10, 11, 4, 3, 2, 1, 0] rfl) hD
    · have hD := hD.2 q_132
      exact s_X11_findMove_135 X hr hlk  Q  x1 x2 x3 x4 r_3 r_5 x9_7 x10_8 x11_9 σ_6 hw (lv_sub hl [7, 8, 9, 10, 11, 4, 3, 2, 1, 0] rfl) hD
theorem c_X11_findMove (l : Launch) (G : GC) (x1 : Int32) (x2 : Int32) (x3 : Int32) (x4 : Int32) (σ : GSt) (Q : GSt → Prop)  (hD : D_X11_findMove x1 x2 x3 x4 σ Q) : MV l ym_X11_findMove cm_X11_findMove 12 rm_X11_findMove G σ [.ref (G.2.1 237), .int x1, .int x2, .int x3, .int x4] Q := by
  refine met_v (by decide) (Nat.le_of_ble_eq_true rfl) ?_
  intro p e s m args below meth c X hr hlk hw ls hl
  exact s_X11_findMove_0 X hr hlk Q  x1 x2 x3 x4 σ hw (lv_sub hl [0, 1, 2, 3, 4] rfl) hD
theorem hd_X11_findOf : ym_X11_findOf.cls = "GameLoomModel" ∧ ym_X11_findOf.cls ≠ "java/lang/invoke/MethodHandle" ∧ ym_X11_findOf.cls ≠ "java/lang/invoke/VarHandle" ∧ (parseMethodDescriptor ym_X11_findOf.desc).map (fun d => d.parameters.length) = some 2 := by decide +kernel
abbrev rm_X11_findOf : Room := { frames := 3, cells := 0, slots := 0, locals := 79 }
theorem d_X11_findOf_0 : decode cm_X11_findOf 0 = .ok (.aload_n 0, 1) := by decide +kernel
theorem d_X11_findOf_1 : decode cm_X11_findOf 1 = .ok (.getfield 31, 3) := by decide +kernel
theorem d_X11_findOf_4 : decode cm_X11_findOf 4 = .ok (.bipush 6, 2) := by decide +kernel
theorem d_X11_findOf_6 : decode cm_X11_findOf 6 = .ok (.aload_n 0, 1) := by decide +kernel
theorem d_X11_findOf_7 : decode cm_X11_findOf 7 = .ok (.getfield 156, 3) := by decide +kernel
theorem d_X11_findOf_10 : decode cm_X11_findOf 10 = .ok (.imul, 1) := by decide +kernel
theorem d_X11_findOf_11 : decode cm_X11_findOf 11 = .ok (.iload_n 2, 1) := by decide +kernel
theorem d_X11_findOf_12 : decode cm_X11_findOf 12 = .ok (.iadd, 1) := by decide +kernel
theorem d_X11_findOf_13 : decode cm_X11_findOf 13 = .ok (.iaload, 1) := by decide +kernel
theorem d_X11_findOf_14 : decode cm_X11_findOf 14 = .ok (.bipush 112, 2) := by decide +kernel
theorem d_X11_findOf_16 : decode cm_X11_findOf 16 = .ok (.if_icmp .ne 10, 3) := by decide +kernel
theorem d_X11_findOf_19 : decode cm_X11_findOf 19 = .ok (.aload_n 0, 1) := by decide +kernel
theorem d_X11_findOf_20 : decode cm_X11_findOf 20 = .ok (.iload_n 1, 1) := by decide +kernel
theorem d_X11_findOf_21 : decode cm_X11_findOf 21 = .ok (.iload_n 2, 1) := by decide +kernel
theorem d_X11_findOf_22 : decode cm_X11_findOf 22 = .ok (.invokevirtual 228, 3) := by decide +kernel
theorem d_X11_findOf_25 : decode cm_X11_findOf 25 = .ok (.return_, 1) := by decide +kernel
theorem d_X11_findOf_26 : decode cm_X11_findOf 26 = .ok (.aload_n 0, 1) := by decide +kernel
theorem d_X11_findOf_27 : decode cm_X11_findOf 27 = .ok (.getfield 34, 3) := by decide +kernel
theorem d_X11_findOf_30 : decode cm_X11_findOf 30 = .ok (.bipush 6, 2) := by decide +kernel
theorem d_X11_findOf_32 : decode cm_X11_findOf 32 = .ok (.aload_n 0, 1) := by decide +kernel
theorem d_X11_findOf_33 : decode cm_X11_findOf 33 = .ok (.getfield 156, 3) := by decide +kernel
theorem d_X11_findOf_36 : decode cm_X11_findOf 36 = .ok (.imul, 1) := by decide +kernel
theorem d_X11_findOf_37 : decode cm_X11_findOf 37 = .ok (.iload_n 2, 1) := by decide +kernel
theorem d_X11_findOf_38 : decode cm_X11_findOf 38 = .ok (.iadd, 1) := by decide +kernel
theorem d_X11_findOf_39 : decode cm_X11_findOf 39 = .ok (.iaload, 1) := by decide +kernel
theorem d_X11_findOf_40 : decode cm_X11_findOf 40 = .ok (.istore_n 3, 1) := by decide +kernel
theorem d_X11_findOf_41 : decode cm_X11_findOf 41 = .ok (.iconst 0, 1) := by decide +kernel
theorem d_X11_findOf_42 : decode cm_X11_findOf 42 = .ok (.istore 4, 2) := by decide +kernel
theorem d_X11_findOf_44 : decode cm_X11_findOf 44 = .ok (.iload 4, 2) := by decide +kernel
theorem d_X11_findOf_46 : decode cm_X11_findOf 46 = .ok (.aload_n 0, 1) := by decide +kernel
theorem d_X11_findOf_47 : decode cm_X11_findOf 47 = .ok (.invokevirtual 210, 3) := by decide +kernel
theorem d_X11_findOf_50 : decode cm_X11_findOf 50 = .ok (.if_icmp .ge 76, 3) := by decide +kernel
theorem d_X11_findOf_53 : decode cm_X11_findOf 53 = .ok (.iload_n 3, 1) := by decide +kernel
theorem d_X11_findOf_54 : decode cm_X11_findOf 54 = .ok (.bipush 100, 2) := by decide +kernel
theorem d_X11_findOf_56 : decode cm_X11_findOf 56 = .ok (.if_icmp .ne 7, 3) := by decide +kernel
theorem d_X11_findOf_59 : decode cm_X11_findOf 59 = .ok (.iconst 4, 1) := by decide +kernel
theorem d_X11_findOf_60 : decode cm_X11_findOf 60 = .ok (.goto 4, 3) := by decide +kernel
theorem d_X11_findOf_63 : decode cm_X11_findOf 63 = .ok (.iconst 0, 1) := by decide +kernel
theorem d_X11_findOf_64 : decode cm_X11_findOf 64 = .ok (.istore 5, 2) := by decide +kernel
theorem d_X11_findOf_66 : decode cm_X11_findOf 66 = .ok (.iload 5, 2) := by decide +kernel
theorem d_X11_findOf_68 : decode cm_X11_findOf 68 = .ok (.iload_n 3, 1) := by decide +kernel
theorem d_X11_findOf_69 : decode cm_X11_findOf 69 = .ok (.bipush 111, 2) := by decide +kernel
theorem d_X11_findOf_71 : decode cm_X11_findOf 71 = .ok (.if_icmp .ne 7, 3) := by decide +kernel
theorem d_X11_findOf_74 : decode cm_X11_findOf 74 = .ok (.iconst 4, 1) := by decide +kernel
theorem d_X11_findOf_75 : decode cm_X11_findOf 75 = .ok (.goto 5, 3) := by decide +kernel
theorem d_X11_findOf_78 : decode cm_X11_findOf 78 = .ok (.bipush 8, 2) := by decide +kernel
theorem d_X11_findOf_80 : decode cm_X11_findOf 80 = .ok (.if_icmp .ge 40, 3) := by decide +kernel
theorem d_X11_findOf_83 : decode cm_X11_findOf 83 = .ok (.aload_n 0, 1) := by decide +kernel
theorem d_X11_findOf_84 : decode cm_X11_findOf 84 = .ok (.getfield 68, 3) := by decide +kernel
theorem d_X11_findOf_87 : decode cm_X11_findOf 87 = .ok (.bipush 16, 2) := by decide +kernel
theorem d_X11_findOf_89 : decode cm_X11_findOf 89 = .ok (.iload_n 1, 1) := by decide +kernel
theorem d_X11_findOf_90 : decode cm_X11_findOf 90 = .ok (.imul, 1) := by decide +kernel
theorem d_X11_findOf_91 : decode cm_X11_findOf 91 = .ok (.iload 4, 2) := by decide +kernel
theorem d_X11_findOf_93 : decode cm_X11_findOf 93 = .ok (.iadd, 1) := by decide +kernel
theorem d_X11_findOf_94 : decode cm_X11_findOf 94 = .ok (.iaload, 1) := by decide +kernel
theorem d_X11_findOf_95 : decode cm_X11_findOf 95 = .ok (.aload_n 0, 1) := by decide +kernel
theorem d_X11_findOf_96 : decode cm_X11_findOf 96 = .ok (.getfield 71, 3) := by decide +kernel
theorem d_X11_findOf_99 : decode cm_X11_findOf 99 = .ok (.iload_n 1, 1) := by decide +kernel
theorem d_X11_findOf_100 : decode cm_X11_findOf 100 = .ok (.iaload, 1) := by decide +kernel
theorem d_X11_findOf_101 : decode cm_X11_findOf 101 = .ok (.if_icmp .ne 19, 3) := by decide +kernel
theorem d_X11_findOf_104 : decode cm_X11_findOf 104 = .ok (.aload_n 0, 1) := by decide +kernel
theorem d_X11_findOf_105 : decode cm_X11_findOf 105 = .ok (.iload_n 1, 1) := by decide +kernel
theorem d_X11_findOf_106 : decode cm_X11_findOf 106 = .ok (.iload_n 2, 1) := by decide +kernel
theorem d_X11_findOf_107 : decode cm_X11_findOf 107 = .ok (.iload 4, 2) := by decide +kernel
theorem d_X11_findOf_109 : decode cm_X11_findOf 109 = .ok (.iload 5, 2) := by decide +kernel
theorem d_X11_findOf_111 : decode cm_X11_findOf 111 = .ok (.invokevirtual 231, 3) := by decide +kernel
theorem d_X11_findOf_114 : decode cm_X11_findOf 114 = .ok (.iinc 5 1, 3) := by decide +kernel
theorem d_X11_findOf_117 : decode cm_X11_findOf 117 = .ok (.goto (-51), 3) := by decide +kernel
theorem d_X11_findOf_120 : decode cm_X11_findOf 120 = .ok (.iinc 4 1, 3) := by decide +kernel
theorem d_X11_findOf_123 : decode cm_X11_findOf 123 = .ok (.goto (-79), 3) := by decide +kernel
theorem d_X11_findOf_126 : decode cm_X11_findOf 126 = .ok (.return_, 1) := by decide +kernel
def D_X11_findOf_120 (K44 : Int32 → Int32 → Int32 → Int32 → GSt → Prop) (Q : GSt → Prop) (x1 : Int32) (x2 : Int32) (x3 : Int32) (x4 : Int32) (σ : GSt) : Prop :=
  ∀ x4_1 : Int32, x4_1 = x4 + 1 → (K44 x1 x2 x3 x4_1 σ)
def D_X11_findOf_80 (K44 : Int32 → Int32 → Int32 → Int32 → GSt → Prop) (K66 : Int32 → Int32 → Int32 → Int32 → Int32 → GSt → Prop) (Q : GSt → Prop) (x1 : Int32) (x2 : Int32) (x3 : Int32) (x4 : Int32) (x5 : Int32) (s0 : Int32) (s1 : Int32) (σ : GSt) : Prop :=
  (s1 ≤ s0 → D_X11_findOf_120 K44 Q x1 x2 x3 x4 σ) ∧
  (¬ s1 ≤ s0 → vp_in ((16 * x1) + x4) 144 ∧ (vp_in x1 9 ∧ ((¬ (σ 257 (Int32.toNatClampNeg ((16 * x1) + x4))) = (σ 258 (Int32.toNatClampNeg x1)) → D_X11_findOf_120 K44 Q x1 x2 x3 x4 σ) ∧
  ((σ 257 (Int32.toNatClampNeg ((16 * x1) + x4))) = (σ 258 (Int32.toNatClampNeg x1)) → D_X11_findMove x1 x2 x4 x5 σ (fun σ_1 => ∀ x5_2 : Int32, x5_2 = x5 + 1 → (K66 x1 x2 x3 x4 x5_2 σ_1))))))
def D_X11_findOf_66 (K44 : Int32 → Int32 → Int32 → Int32 → GSt → Prop) (K66 : Int32 → Int32 → Int32 → Int32 → Int32 → GSt → Prop) (Q : GSt → Prop) (x1 : Int32) (x2 : Int32) (x3 : Int32) (x4 : Int32) (x5 : Int32) (σ : GSt) : Prop :=
  (¬ x3 = 111 → D_X11_findOf_80 K44 K66 Q x1 x2 x3 x4 x5 x5 8 σ) ∧
  (x3 = 111 → D_X11_findOf_80 K44 K66 Q x1 x2 x3 x4 x5 x5 4 σ)
def L_X11_findOf_66 (K44 : Int32 → Int32 → Int32 → Int32 → GSt → Prop) (Q : GSt → Prop) : Nat → Int32 → Int32 → Int32 → Int32 → Int32 → GSt → Prop
  | 0 => fun _ _ _ _ _ _ => False
  | n + 1 => fun x1 x2 x3 x4 x5 σ => D_X11_findOf_66 K44 (L_X11_findOf_66 K44 Q n) Q x1 x2 x3 x4 x5 σ
def D_X11_findOf_64 (K44 : Int32 → Int32 → Int32 → Int32 → GSt → Prop) (Q : GSt → Prop) (x1 : Int32) (x2 : Int32) (x3 : Int32) (x4 : Int32) (s0 : Int32) (σ : GSt) : Prop :=
  ∃ n : Nat, L_X11_findOf_66 K44 Q n x1 x2 x3 x4 s0 σ
def D_X11_findOf_44 (K44 : Int32 → Int32 → Int32 → Int32 → GSt → Prop) (Q : GSt → Prop) (x1 : Int32) (x2 : Int32) (x3 : Int32) (x4 : Int32) (σ : GSt) : Prop :=
  D_X11_cells  σ (fun r_1 σ_2 => (r_1 ≤ x4 → Q σ_2) ∧
  (¬ r_1 ≤ x4 → (¬ x3 = 100 → D_X11_findOf_64 K44 Q x1 x2 x3 x4 0 σ_2) ∧
  (x3 = 100 → D_X11_findOf_64 K44 Q x1 x2 x3 x4 4 σ_2)))
def L_X11_findOf_44 (Q : GSt → Prop) : Nat → Int32 → Int32 → Int32 → Int32 → GSt → Prop
  | 0 => fun _ _ _ _ _ => False
  | n + 1 => fun x1 x2 x3 x4 σ => D_X11_findOf_44 (L_X11_findOf_44 Q n) Q x1 x2 x3 x4 σ
def D_X11_findOf_0 (Q : GSt → Prop) (x1 : Int32) (x2 : Int32) (σ : GSt) : Prop :=
  vp_in ((6 * (σ 237 22)) + x2) 54 ∧ ((¬ (σ 245 (Int32.toNatClampNeg ((6 * (σ 237 22)) + x2))) = 112 → vp_in ((6 * (σ 237 22)) + x2) 54 ∧ (∀ x3_1 : Int32, x3_1 = (σ 246 (Int32.toNatClampNeg ((6 * (σ 237 22)) + x2))) → (∃ n : Nat, L_X11_findOf_44 Q n x1 x2 x3_1 0 σ))) ∧
  ((σ 245 (Int32.toNatClampNeg ((6 * (σ 237 22)) + x2))) = 112 → D_X11_findPuts x1 x2 σ (fun σ_2 => Q σ_2)))
def D_X11_findOf (x1 : Int32) (x2 : Int32) (σ : GSt) (Q : GSt → Prop) : Prop := D_X11_findOf_0 Q x1 x2 σ
set_option maxRecDepth 20000 in
set_option maxHeartbeats 4000000 in
theorem s_X11_findOf_120 {p : Program} {l : Launch} {e : Env} {s : State} {m : MethodId} {args : Array Value} {below : List Frame} {meth : Method} {c : Code} {G : GC} (X : CallFix p m c cm_X11_findOf 6 s args lw_us "GameLoomModel") (hr : meth.sig.returnType = none) (hlk : meth.locks = false) (K44 : Int32 → Int32 → Int32 → Int32 → GSt → Prop) (Q : GSt → Prop) (hK44 : ∀ (x1 : Int32) (x2 : Int32) (x3 : Int32) (x4 : Int32) (σ : GSt) (H : Heap) (locs : List Loc) (ls : Array Slot), Wo G s H locs σ → lv_has ls 6 [(0, .ref (G.2.1 237)), (1, .int x1), (2, .int x2), (3, .int x3), (4, .int x4)] → K44 x1 x2 x3 x4 σ → W p l e rm_X11_findOf s m args below meth c H locs 0 0 (QMV G Q below args s) (F0 m 44 ls [])) (x1 : Int32) (x2 : Int32) (x3 : Int32) (x4 : Int32) (σ : GSt) {H : Heap} {locs : List Loc} {ls : Array Slot} (hw : Wo G s H locs σ) (hl : lv_has ls 6 [(0, .ref (G.2.1 237)), (1, .int x1), (2, .int x2), (3, .int x3), (4, .int x4)]) (hD : D_X11_findOf_120 K44 Q x1 x2 x3 x4 σ) : W p l e rm_X11_findOf s m args below meth c H locs 0 0 (QMV G Q below args s) (F0 m 120 ls []) := by
  unfold D_X11_findOf_120 at hD
  obtain ⟨x4_1, e_x4_1⟩ : ∃ y : Int32, y = x4 + 1 := ⟨_, rfl⟩
  have hD := hD x4_1 e_x4_1
  refine lv_iinc (v := x4_1) (lv' := [(4, .int x4_1), (0, .ref (G.2.1 237)), (1, .int x1), (2, .int x2), (3, .int x3)]) X.1 X.2.1 d_X11_findOf_120 hl (k := 4) rfl (by rw [e_x4_1]; rfl) (by decide) rfl (fun ls hl => ?_)
  refine lv_goto (tgt := 44) X.1 X.2.1 d_X11_findOf_123 (by decide) ?_
  exact hK44 x1 x2 x3 x4_1 σ _ _ _  hw (lv_sub hl [1, 2, 3, 4, 0] rfl) hD
set_option maxRecDepth 20000 in
set_option maxHeartbeats 4000000 in
theorem s_X11_findOf_80 {p : Program} {l : Launch} {e : Env} {s : State} {m : MethodId} {args : Array Value} {below : List Frame} {meth : Method} {c : Code} {G : GC} (X : CallFix p m c cm_X11_findOf 6 s args lw_us "GameLoomModel") (hr : meth.sig.returnType = none) (hlk : meth.locks = false) (K44 : Int32 → Int32 → Int32 → Int32 → GSt → Prop) (K66 : Int32 → Int32 → Int32 → Int32 → Int32 → GSt → Prop) (Q : GSt → Prop) (hK44 : ∀ (x1 : Int32) (x2 : Int32) (x3 : Int32) (x4 : Int32) (σ : GSt) (H : Heap) (locs : List Loc) (ls : Array Slot), Wo G s H locs σ → lv_has ls 6 [(0, .ref (G.2.1 237)), (1, .int x1), (2, .int x2), (3, .int x3), (4, .int x4)] → K44 x1 x2 x3 x4 σ → W p l e rm_X11_findOf s m args below meth c H locs 0 0 (QMV G Q below args s) (F0 m 44 ls [])) (hK66 : ∀ (x1 : Int32) (x2 : Int32) (x3 : Int32) (x4 : Int32) (x5 : Int32) (σ : GSt) (H : Heap) (locs : List Loc) (ls : Array Slot), Wo G s H locs σ → lv_has ls 6 [(0, .ref (G.2.1 237)), (1, .int x1), (2, .int x2), (3, .int x3), (4, .int x4), (5, .int x5)] → K66 x1 x2 x3 x4 x5 σ → W p l e rm_X11_findOf s m args below meth c H locs 0 0 (QMV G Q below args s) (F0 m 66 ls [])) (x1 : Int32) (x2 : Int32) (x3 : Int32) (x4 : Int32) (x5 : Int32) (s0 : Int32) (s1 : Int32) (σ : GSt) {H : Heap} {locs : List Loc} {ls : Array Slot} (hw : Wo G s H locs σ) (hl : lv_has ls 6 [(0, .ref (G.2.1 237)), (1, .int x1), (2, .int x2), (3, .int x3), (4, .int x4), (5, .int x5)]) (hD : D_X11_findOf_80 K44 K66 Q x1 x2 x3 x4 x5 s0 s1 σ) : W p l e rm_X11_findOf s m args below meth c H locs 0 0 (QMV G Q below args s) (F0 m 80 ls [.int s1, .int s0]) := by
  unfold D_X11_findOf_80 at hD
  refine lv_icmp_ge (tgt := 120) X.1 X.2.1 d_X11_findOf_80 (by decide) (fun q_80 => ?_) (fun q_80 => ?_)
  · have hD := hD.1 q_80
    exact s_X11_findOf_120 X hr hlk K44 Q hK44 x1 x2 x3 x4 σ hw (lv_sub hl [0, 1, 2, 3, 4] rfl) hD
  · have hD := hD.2 q_80
    refine lv_aload_n X.1 X.2.1 d_X11_findOf_83 rfl (lv_at hl 0 rfl) ?_
    refine gf_11_23 X hw (by decide +kernel : kd 237 = 11) tb_929 d_X11_findOf_84 ?_
    refine lv_bipush (v := 16) X.1 X.2.1 d_X11_findOf_87 (by decide) ?_
    refine lv_iload_n X.1 X.2.1 d_X11_findOf_89 rfl (lv_at hl 1 rfl) ?_
    refine lv_imul X.1 X.2.1 d_X11_findOf_90 ?_
    refine lv_iload X.1 X.2.1 d_X11_findOf_91 (lv_at hl 4 rfl) ?_
    refine lv_iadd X.1 X.2.1 d_X11_findOf_93 ?_
    obtain ⟨q_94, hD⟩ := hD
    refine g_iald X hw ly_11_23.1 ly_11_23.2 q_94 d_X11_findOf_94 ?_
    refine lv_aload_n X.1 X.2.1 d_X11_findOf_95 rfl (lv_at hl 0 rfl) ?_
    refine gf_11_24 X hw (by decide +kernel : kd 237 = 11) tb_930 d_X11_findOf_96 ?_
    refine lv_iload_n X.1 X.2.1 d_X11_findOf_99 rfl (lv_at hl 1 rfl) ?_
    obtain ⟨q_100, hD⟩ := hD
    refine g_iald X hw ly_11_24.1 ly_11_24.2 q_100 d_X11_findOf_100 ?_
    refine lv_icmp_ne (tgt := 120) X.1 X.2.1 d_X11_findOf_101 (by decide) (fun q_101 => ?_) (fun q_101 => ?_)
    · have hD := hD.1 q_101
      exact s_X11_findOf_120 X hr hlk K44 Q hK44 x1 x2 x3 x4 σ hw (lv_sub hl [0, 1, 2, 3, 4] rfl) hD
    · have hD := hD.2 q_101
      refine lv_aload_n X.1 X.2.1 d_X11_findOf_104 rfl (lv_at hl 0 rfl) ?_
      refine lv_iload_n X.1 X.2.1 d_X11_findOf_105 rfl (lv_at hl 1 rfl) ?_
      refine lv_iload_n X.1 X.2.1 d_X11_findOf_106 rfl (lv_at hl 2 rfl) ?_
      refine lv_iload X.1 X.2.1 d_X11_findOf_107 (lv_at hl 4 rfl) ?_
      refine lv_iload X.1 X.2.1 d_X11_findOf_109 (lv_at hl 5 rfl) ?_
      refine gcV_v (rest := []) (As := [.int x1, .int x2, .int x4, .int x5]) (o := 237) X hw (c_X11_findMove l G x1 x2 x4 x5 σ _  hD) (kd_lt (by decide +kernel : kd 237 = 11) (by decide)) (ce_11 G _ (by decide +kernel : kd 237 = 11)) rfl tb_1188 tb_1190 tv_56 tb_12 tb_1191 hd_X11_findMove ⟨rfl, rfl⟩ ⟨Nat.le_of_ble_eq_true rfl, Nat.le_of_ble_eq_true rfl⟩ rfl hl.1 rfl (Nat.le_of_ble_eq_true rfl) d_X11_findOf_111 (fun σ_1 H locs hD hw => ?_)
      obtain ⟨x5_2, e_x5_2⟩ : ∃ y : Int32, y = x5 + 1 := ⟨_, rfl⟩
      have hD := hD x5_2 e_x5_2
      refine lv_iinc (v := x5_2) (lv' := [(5, .int x5_2), (0, .ref (G.2.1 237)), (1, .int x1), (2, .int x2), (3, .int x3), (4, .int x4)]) X.1 X.2.1 d_X11_findOf_114 hl (k := 5) rfl (by rw [e_x5_2]; rfl) (by decide) rfl (fun ls hl => ?_)
      refine lv_goto (tgt := 66) X.1 X.2.1 d_X11_findOf_117 (by decide) ?_
      exact hK66 x1 x2 x3 x4 x5_2 σ_1 _ _ _  hw (lv_sub hl [1, 2, 3, 4, 5, 0] rfl) hD
set_option maxRecDepth 20000 in
set_option maxHeartbeats 4000000 in
theorem s_X11_findOf_66 {p : Program} {l : Launch} {e : Env} {s : State} {m : MethodId} {args : Array Value} {below : List Frame} {meth : Method} {c : Code} {G : GC} (X : CallFix p m c cm_X11_findOf 6 s args lw_us "GameLoomModel") (hr : meth.sig.returnType = none) (hlk : meth.locks = false) (K44 : Int32 → Int32 → Int32 → Int32 → GSt → Prop) (K66 : Int32 → Int32 → Int32 → Int32 → Int32 → GSt → Prop) (Q : GSt → Prop) (hK44 : ∀ (x1 : Int32) (x2 : Int32) (x3 : Int32) (x4 : Int32) (σ : GSt) (H : Heap) (locs : List Loc) (ls : Array Slot), Wo G s H locs σ → lv_has ls 6 [(0, .ref (G.2.1 237)), (1, .int x1), (2, .int x2), (3, .int x3), (4, .int x4)] → K44 x1 x2 x3 x4 σ → W p l e rm_X11_findOf s m args below meth c H locs 0 0 (QMV G Q below args s) (F0 m 44 ls [])) (hK66 : ∀ (x1 : Int32) (x2 : Int32) (x3 : Int32) (x4 : Int32) (x5 : Int32) (σ : GSt) (H : Heap) (locs : List Loc) (ls : Array Slot), Wo G s H locs σ → lv_has ls 6 [(0, .ref (G.2.1 237)), (1, .int x1), (2, .int x2), (3, .int x3), (4, .int x4), (5, .int x5)] → K66 x1 x2 x3 x4 x5 σ → W p l e rm_X11_findOf s m args below meth c H locs 0 0 (QMV G Q below args s) (F0 m 66 ls [])) (x1 : Int32) (x2 : Int32) (x3 : Int32) (x4 : Int32) (x5 : Int32) (σ : GSt) {H : Heap} {locs : List Loc} {ls : Array Slot} (hw : Wo G s H locs σ) (hl : lv_has ls 6 [(0, .ref (G.2.1 237)), (1, .int x1), (2, .int x2), (3, .int x3), (4, .int x4), (5, .int x5)]) (hD : D_X11_findOf_66 K44 K66 Q x1 x2 x3 x4 x5 σ) : W p l e rm_X11_findOf s m args below meth c H locs 0 0 (QMV G Q below args s) (F0 m 66 ls []) := by
  unfold D_X11_findOf_66 at hD
  refine lv_iload X.1 X.2.1 d_X11_findOf_66 (lv_at hl 5 rfl) ?_
  refine lv_iload_n X.1 X.2.1 d_X11_findOf_68 rfl (lv_at hl 3 rfl) ?_
  refine lv_bipush (v := 111) X.1 X.2.1 d_X11_findOf_69 (by decide) ?_
  refine lv_icmp_ne (tgt := 78) X.1 X.2.1 d_X11_findOf_71 (by decide) (fun q_71 => ?_) (fun q_71 => ?_)
  · have hD := hD.1 q_71
    refine lv_bipush (v := 8) X.1 X.2.1 d_X11_findOf_78 (by decide) ?_
    exact s_X11_findOf_80 X hr hlk K44 K66 Q hK44 hK66 x1 x2 x3 x4 x5 x5 8 σ hw (lv_sub hl [0, 1, 2, 3, 4, 5] rfl) hD
  · have hD := hD.2 q_71
    refine lv_iconst (v := 4) X.1 X.2.1 d_X11_findOf_74 (by decide) ?_
    refine lv_goto (tgt := 80) X.1 X.2.1 d_X11_findOf_75 (by decide) ?_
    exact s_X11_findOf_80 X hr hlk K44 K66 Q hK44 hK66 x1 x2 x3 x4 x5 x5 4 σ hw (lv_sub hl [0, 1, 2, 3, 4, 5] rfl) hD
set_option maxRecDepth 20000 in
set_option maxHeartbeats 4000000 in
theorem sl_X11_findOf_66 {p : Program} {l : Launch} {e : Env} {s : State} {m : MethodId} {args : Array Value} {below : List Frame} {meth : Method} {c : Code} {G : GC} (X : CallFix p m c cm_X11_findOf 6 s args lw_us "GameLoomModel") (hr : meth.sig.returnType = none) (hlk : meth.locks = false) (K44 : Int32 → Int32 → Int32 → Int32 → GSt → Prop) (Q : GSt → Prop) (hK44 : ∀ (x1 : Int32) (x2 : Int32) (x3 : Int32) (x4 : Int32) (σ : GSt) (H : Heap) (locs : List Loc) (ls : Array Slot), Wo G s H locs σ → lv_has ls 6 [(0, .ref (G.2.1 237)), (1, .int x1), (2, .int x2), (3, .int x3), (4, .int x4)] → K44 x1 x2 x3 x4 σ → W p l e rm_X11_findOf s m args below meth c H locs 0 0 (QMV G Q below args s) (F0 m 44 ls [])) : ∀ (nn : Nat), ∀ (x1 : Int32) (x2 : Int32) (x3 : Int32) (x4 : Int32) (x5 : Int32) (σ : GSt) (H : Heap) (locs : List Loc) (ls : Array Slot), Wo G s H locs σ → lv_has ls 6 [(0, .ref (G.2.1 237)), (1, .int x1), (2, .int x2), (3, .int x3), (4, .int x4), (5, .int x5)] → L_X11_findOf_66 K44 Q nn x1 x2 x3 x4 x5 σ → W p l e rm_X11_findOf s m args below meth c H locs 0 0 (QMV G Q below args s) (F0 m 66 ls []) := by
  intro nn
  induction nn with
  | zero => intro x1 x2 x3 x4 x5 σ H locs ls  hw hl hD; exact hD.elim
  | succ nn ih =>
    intro x1 x2 x3 x4 x5 σ H locs ls  hw hl hD
    exact s_X11_findOf_66 X hr hlk K44 (L_X11_findOf_66 K44 Q nn) Q hK44 ih x1 x2 x3 x4 x5 σ hw hl hD
set_option maxRecDepth 20000 in
set_option maxHeartbeats 4000000 in
theorem s_X11_findOf_64 {p : Program} {l : Launch} {e : Env} {s : State} {m : MethodId} {args : Array Value} {below : List Frame} {meth : Method} {c : Code} {G : GC} (X : CallFix p m c cm_X11_findOf 6 s args lw_us "GameLoomModel") (hr : meth.sig.returnType = none) (hlk : meth.locks = false) (K44 : Int32 → Int32 → Int32 → Int32 → GSt → Prop) (Q : GSt → Prop) (hK44 : ∀ (x1 : Int32) (x2 : Int32) (x3 : Int32) (x4 : Int32) (σ : GSt) (H : Heap) (locs : List Loc) (ls : Array Slot), Wo G s H locs σ → lv_has ls 6 [(0, .ref (G.2.1 237)), (1, .int x1), (2, .int x2), (3, .int x3), (4, .int x4)] → K44 x1 x2 x3 x4 σ → W p l e rm_X11_findOf s m args below meth c H locs 0 0 (QMV G Q below args s) (F0 m 44 ls [])) (x1 : Int32) (x2 : Int32) (x3 : Int32) (x4 : Int32) (s0 : Int32) (σ : GSt) {H : Heap} {locs : List Loc} {ls : Array Slot} (hw : Wo G s H locs σ) (hl : lv_has ls 6 [(0, .ref (G.2.1 237)), (1, .int x1), (2, .int x2), (3, .int x3), (4, .int x4)]) (hD : D_X11_findOf_64 K44 Q x1 x2 x3 x4 s0 σ) : W p l e rm_X11_findOf s m args below meth c H locs 0 0 (QMV G Q below args s) (F0 m 64 ls [.int s0]) := by
  unfold D_X11_findOf_64 at hD
  refine lv_istore (lv' := [(5, .int s0), (0, .ref (G.2.1 237)), (1, .int x1), (2, .int x2), (3, .int x3), (4, .int x4)]) X.1 X.2.1 d_X11_findOf_64 hl (by decide) rfl (fun ls hl => ?_)
  obtain ⟨n9, hD⟩ := hD
  exact sl_X11_findOf_66 X hr hlk K44 Q hK44 n9 x1 x2 x3 x4 s0 σ _ _ _  hw (lv_sub hl [1, 2, 3, 4, 5, 0] rfl) hD
set_option maxRecDepth 20000 in
set_option maxHeartbeats 4000000 in
theorem s_X11_findOf_44 {p : Program} {l : Launch} {e : Env} {s : State} {m : MethodId} {args : Array Value} {below : List Frame} {meth : Method} {c : Code} {G : GC} (X : CallFix p m c cm_X11_findOf 6 s args lw_us "GameLoomModel") (hr : meth.sig.returnType = none) (hlk : meth.locks = false) (K44 : Int32 → Int32 → Int32 → Int32 → GSt → Prop) (Q : GSt → Prop) (hK44 : ∀ (x1 : Int32) (x2 : Int32) (x3 : Int32) (x4 : Int32) (σ : GSt) (H : Heap) (locs : List Loc) (ls : Array Slot), Wo G s H locs σ → lv_has ls 6 [(0, .ref (G.2.1 237)), (1, .int x1), (2, .int x2), (3, .int x3), (4, .int x4)] → K44 x1 x2 x3 x4 σ → W p l e rm_X11_findOf s m args below meth c H locs 0 0 (QMV G Q below args s) (F0 m 44 ls [])) (x1 : Int32) (x2 : Int32) (x3 : Int32) (x4 : Int32) (σ : GSt) {H : Heap} {locs : List Loc} {ls : Array Slot} (hw : Wo G s H locs σ) (hl : lv_has ls 6 [(0, .ref (G.2.1 237)), (1, .int x1), (2, .int x2), (3, .int x3), (4, .int x4)]) (hD : D_X11_findOf_44 K44 Q x1 x2 x3 x4 σ) : W p l e rm_X11_findOf s m args below meth c H locs 0 0 (QMV G Q below args s) (F0 m 44 ls []) := by
  unfold D_X11_findOf_44 at hD
  refine lv_iload X.1 X.2.1 d_X11_findOf_44 (lv_at hl 4 rfl) ?_
  refine lv_aload_n X.1 X.2.1 d_X11_findOf_46 rfl (lv_at hl 0 rfl) ?_
  refine gcV_i (rest := [.int x4]) (As := []) (o := 237) X hw (c_X11_cells l G  σ _  hD) (kd_lt (by decide +kernel : kd 237 = 11) (by decide)) (ce_11 G _ (by decide +kernel : kd 237 = 11)) rfl tb_1180 tb_1182 tv_54 tb_12 tb_1183 hd_X11_cells ⟨rfl, rfl⟩ ⟨Nat.le_of_ble_eq_true rfl, Nat.le_of_ble_eq_true rfl⟩ rfl hl.1 rfl (Nat.le_of_ble_eq_true rfl) d_X11_findOf_47 (fun r_1 σ_2 H locs hD hw => ?_)
  refine lv_icmp_ge (tgt := 126) X.1 X.2.1 d_X11_findOf_50 (by decide) (fun q_50 => ?_) (fun q_50 => ?_)
  · have hD := hD.1 q_50
    exact g_vret X hr hlk hw hD d_X11_findOf_126
  · have hD := hD.2 q_50
    refine lv_iload_n X.1 X.2.1 d_X11_findOf_53 rfl (lv_at hl 3 rfl) ?_
    refine lv_bipush (v := 100) X.1 X.2.1 d_X11_findOf_54 (by decide) ?_
    refine lv_icmp_ne (tgt := 63) X.1 X.2.1 d_X11_findOf_56 (by decide) (fun q_56 => ?_) (fun q_56 => ?_)
    · have hD := hD.1 q_56
      refine lv_iconst (v := 0) X.1 X.2.1 d_X11_findOf_63 (by decide) ?_
      exact s_X11_findOf_64 X hr hlk K44 Q hK44 x1 x2 x3 x4 0 σ_2 hw (lv_sub hl [0, 1, 2, 3, 4] rfl) hD
    · have hD := hD.2 q_56
      refine lv_iconst (v := 4) X.1 X.2.1 d_X11_findOf_59 (by decide) ?_
      refine lv_goto (tgt := 64) X.1 X.2.1 d_X11_findOf_60 (by decide) ?_
      exact s_X11_findOf_64 X hr hlk K44 Q hK44 x1 x2 x3 x4 4 σ_2 hw (lv_sub hl [0, 1, 2, 3, 4] rfl) hD
set_option maxRecDepth 20000 in
set_option maxHeartbeats 4000000 in
theorem sl_X11_findOf_44 {p : Program} {l : Launch} {e : Env} {s : State} {m : MethodId} {args : Array Value} {below : List Frame} {meth : Method} {c : Code} {G : GC} (X : CallFix p m c cm_X11_findOf 6 s args lw_us "GameLoomModel") (hr : meth.sig.returnType = none) (hlk : meth.locks = false) (Q : GSt → Prop) : ∀ (nn : Nat), ∀ (x1 : Int32) (x2 : Int32) (x3 : Int32) (x4 : Int32) (σ : GSt) (H : Heap) (locs : List Loc) (ls : Array Slot), Wo G s H locs σ → lv_has ls 6 [(0, .ref (G.2.1 237)), (1, .int x1), (2, .int x2), (3, .int x3), (4, .int x4)] → L_X11_findOf_44 Q nn x1 x2 x3 x4 σ → W p l e rm_X11_findOf s m args below meth c H locs 0 0 (QMV G Q below args s) (F0 m 44 ls []) := by
  intro nn
  induction nn with
  | zero => intro x1 x2 x3 x4 σ H locs ls  hw hl hD; exact hD.elim
  | succ nn ih =>
    intro x1 x2 x3 x4 σ H locs ls  hw hl hD
    exact s_X11_findOf_44 X hr hlk (L_X11_findOf_44 Q nn) Q ih x1 x2 x3 x4 σ hw hl hD
set_option maxRecDepth 20000 in
set_option maxHeartbeats 4000000 in
theorem s_X11_findOf_0 {p : Program} {l : Launch} {e : Env} {s : State} {m : MethodId} {args : Array Value} {below : List Frame} {meth : Method} {c : Code} {G : GC} (X : CallFix p m c cm_X11_findOf 6 s args lw_us "GameLoomModel") (hr : meth.sig.returnType = none) (hlk : meth.locks = false) (Q : GSt → Prop) (x1 : Int32) (x2 : Int32) (σ : GSt) {H : Heap} {locs : List Loc} {ls : Array Slot} (hw : Wo G s H locs σ) (hl : lv_has ls 6 [(0, .ref (G.2.1 237)), (1, .int x1), (2, .int x2)]) (hD : D_X11_findOf_0 Q x1 x2 σ) : W p l e rm_X11_findOf s m args below meth c H locs 0 0 (QMV G Q below args s) (F0 m 0 ls []) := by
  unfold D_X11_findOf_0 at hD
  refine lv_aload_n X.1 X.2.1 d_X11_findOf_0 rfl (lv_at hl 0 rfl) ?_
  refine gf_11_7 X hw (by decide +kernel : kd 237 = 11) tb_913 d_X11_findOf_1 ?_
  refine lv_bipush (v := 6) X.1 X.2.1 d_X11_findOf_4 (by decide) ?_
  refine lv_aload_n X.1 X.2.1 d_X11_findOf_6 rfl (lv_at hl 0 rfl) ?_
  refine gf_11_22 X hw (by decide +kernel : kd 237 = 11) tb_928 d_X11_findOf_7 ?_
  refine lv_imul X.1 X.2.1 d_X11_findOf_10 ?_
  refine lv_iload_n X.1 X.2.1 d_X11_findOf_11 rfl (lv_at hl 2 rfl) ?_
  refine lv_iadd X.1 X.2.1 d_X11_findOf_12 ?_
  obtain ⟨q_13, hD⟩ := hD
  refine g_iald X hw ly_11_7.1 ly_11_7.2 q_13 d_X11_findOf_13 ?_
  refine lv_bipush (v := 112) X.1 X.2.1 d_X11_findOf_14 (by decide) ?_
  refine lv_icmp_ne (tgt := 26) X.1 X.2.1 d_X11_findOf_16 (by decide) (fun q_16 => ?_) (fun q_16 => ?_)
  · have hD := hD.1 q_16
    refine lv_aload_n X.1 X.2.1 d_X11_findOf_26 rfl (lv_at hl 0 rfl) ?_
    refine gf_11_8 X hw (by decide +kernel : kd 237 = 11) tb_914 d_X11_findOf_27 ?_
    refine lv_bipush (v := 6) X.1 X.2.1 d_X11_findOf_30 (by decide) ?_
    refine lv_aload_n X.1 X.2.1 d_X11_findOf_32 rfl (lv_at hl 0 rfl) ?_
    refine gf_11_22 X hw (by decide +kernel : kd 237 = 11) tb_928 d_X11_findOf_33 ?_
    refine lv_imul X.1 X.2.1 d_X11_findOf_36 ?_
    refine lv_iload_n X.1 X.2.1 d_X11_findOf_37 rfl (lv_at hl 2 rfl) ?_
    refine lv_iadd X.1 X.2.1 d_X11_findOf_38 ?_
    obtain ⟨q_39, hD⟩ := hD
    refine g_iald X hw ly_11_8.1 ly_11_8.2 q_39 d_X11_findOf_39 ?_
    refine lv_topi (fun x3_1 e_x3_1 => ?_)
    have hD := hD x3_1 e_x3_1
    refine lv_istore_n (lv' := [(3, .int x3_1), (0, .ref (G.2.1 237)), (1, .int x1), (2, .int x2)]) X.1 X.2.1 d_X11_findOf_40 rfl hl (by decide) rfl (fun ls hl => ?_)
    refine lv_iconst (v := 0) X.1 X.2.1 d_X11_findOf_41 (by decide) ?_
    refine lv_istore (lv' := [(4, .int 0), (3, .int x3_1), (0, .ref (G.2.1 237)), (1, .int x1), (2, .int x2)]) X.1 X.2.1 d_X11_findOf_42 hl (by decide) rfl (fun ls hl => ?_)
    obtain ⟨n9, hD⟩ := hD
    exact sl_X11_findOf_44 X hr hlk  Q  n9 x1 x2 x3_1 0 σ _ _ _  hw (lv_sub hl [2, 3, 4, 1, 0] rfl) hD
  · have hD := hD.2 q_16
    refine lv_aload_n X.1 X.2.1 d_X11_findOf_19 rfl (lv_at hl 0 rfl) ?_
    refine lv_iload_n X.1 X.2.1 d_X11_findOf_20 rfl (lv_at hl 1 rfl) ?_
    refine lv_iload_n X.1 X.2.1 d_X11_findOf_21 rfl (lv_at hl 2 rfl) ?_
    refine gcV_v (rest := []) (As := [.int x1, .int x2]) (o := 237) X hw (c_X11_findPuts l G x1 x2 σ _  hD) (kd_lt (by decide +kernel : kd 237 = 11) (by decide)) (ce_11 G _ (by decide +kernel : kd 237 = 11)) rfl tb_1172 tb_1174 tv_52 tb_12 tb_1175 hd_X11_findPuts ⟨rfl, rfl⟩ ⟨Nat.le_of_ble_eq_true rfl, Nat.le_of_ble_eq_true rfl⟩ rfl hl.1 rfl (Nat.le_of_ble_eq_true rfl) d_X11_findOf_22 (fun σ_2 H locs hD hw => ?_)
    exact g_vret X hr hlk hw hD d_X11_findOf_25
theorem c_X11_findOf (l : Launch) (G : GC) (x1 : Int32) (x2 : Int32) (σ : GSt) (Q : GSt → Prop)  (hD : D_X11_findOf x1 x2 σ Q) : MV l ym_X11_findOf cm_X11_findOf 6 rm_X11_findOf G σ [.ref (G.2.1 237), .int x1, .int x2] Q := by
  refine met_v (by decide) (Nat.le_of_ble_eq_true rfl) ?_
  intro p e s m args below meth c X hr hlk hw ls hl
  exact s_X11_findOf_0 X hr hlk Q  x1 x2 σ hw (lv_sub hl [0, 1, 2] rfl) hD
theorem hd_X11_findMoves : ym_X11_findMoves.cls = "GameLoomModel" ∧ ym_X11_findMoves.cls ≠ "java/lang/invoke/MethodHandle" ∧ ym_X11_findMoves.cls ≠ "java/lang/invoke/VarHandle" ∧ (parseMethodDescriptor ym_X11_findMoves.desc).map (fun d => d.parameters.length) = some 1 := by decide +kernel
abbrev rm_X11_findMoves : Room := { frames := 4, cells := 0, slots := 0, locals := 104 }
theorem d_X11_findMoves_0 : decode cm_X11_findMoves 0 = .ok (.aload_n 0, 1) := by decide +kernel
theorem d_X11_findMoves_1 : decode cm_X11_findMoves 1 = .ok (.getfield 95, 3) := by decide +kernel
theorem d_X11_findMoves_4 : decode cm_X11_findMoves 4 = .ok (.iload_n 1, 1) := by decide +kernel
theorem d_X11_findMoves_5 : decode cm_X11_findMoves 5 = .ok (.iconst 0, 1) := by decide +kernel
theorem d_X11_findMoves_6 : decode cm_X11_findMoves 6 = .ok (.iastore, 1) := by decide +kernel
theorem d_X11_findMoves_7 : decode cm_X11_findMoves 7 = .ok (.iconst 0, 1) := by decide +kernel
theorem d_X11_findMoves_8 : decode cm_X11_findMoves 8 = .ok (.istore_n 2, 1) := by decide +kernel
theorem d_X11_findMoves_9 : decode cm_X11_findMoves 9 = .ok (.iconst 0, 1) := by decide +kernel
theorem d_X11_findMoves_10 : decode cm_X11_findMoves 10 = .ok (.istore_n 3, 1) := by decide +kernel
theorem d_X11_findMoves_11 : decode cm_X11_findMoves 11 = .ok (.iload_n 3, 1) := by decide +kernel
theorem d_X11_findMoves_12 : decode cm_X11_findMoves 12 = .ok (.iconst 2, 1) := by decide +kernel
theorem d_X11_findMoves_13 : decode cm_X11_findMoves 13 = .ok (.if_icmp .ge 90, 3) := by decide +kernel
theorem d_X11_findMoves_16 : decode cm_X11_findMoves 16 = .ok (.iconst 0, 1) := by decide +kernel
theorem d_X11_findMoves_17 : decode cm_X11_findMoves 17 = .ok (.istore 4, 2) := by decide +kernel
theorem d_X11_findMoves_19 : decode cm_X11_findMoves 19 = .ok (.iload 4, 2) := by decide +kernel
theorem d_X11_findMoves_21 : decode cm_X11_findMoves 21 = .ok (.aload_n 0, 1) := by decide +kernel
theorem d_X11_findMoves_22 : decode cm_X11_findMoves 22 = .ok (.getfield 40, 3) := by decide +kernel
theorem d_X11_findMoves_25 : decode cm_X11_findMoves 25 = .ok (.aload_n 0, 1) := by decide +kernel
theorem d_X11_findMoves_26 : decode cm_X11_findMoves 26 = .ok (.getfield 156, 3) := by decide +kernel
theorem d_X11_findMoves_29 : decode cm_X11_findMoves 29 = .ok (.iaload, 1) := by decide +kernel
theorem d_X11_findMoves_30 : decode cm_X11_findMoves 30 = .ok (.if_icmp .ge 43, 3) := by decide +kernel
theorem d_X11_findMoves_33 : decode cm_X11_findMoves 33 = .ok (.aload_n 0, 1) := by decide +kernel
theorem d_X11_findMoves_34 : decode cm_X11_findMoves 34 = .ok (.getfield 64, 3) := by decide +kernel
theorem d_X11_findMoves_37 : decode cm_X11_findMoves 37 = .ok (.bipush 6, 2) := by decide +kernel
theorem d_X11_findMoves_39 : decode cm_X11_findMoves 39 = .ok (.aload_n 0, 1) := by decide +kernel
theorem d_X11_findMoves_40 : decode cm_X11_findMoves 40 = .ok (.getfield 156, 3) := by decide +kernel
theorem d_X11_findMoves_43 : decode cm_X11_findMoves 43 = .ok (.imul, 1) := by decide +kernel
theorem d_X11_findMoves_44 : decode cm_X11_findMoves 44 = .ok (.iload 4, 2) := by decide +kernel
theorem d_X11_findMoves_46 : decode cm_X11_findMoves 46 = .ok (.iadd, 1) := by decide +kernel
theorem d_X11_findMoves_47 : decode cm_X11_findMoves 47 = .ok (.baload, 1) := by decide +kernel
theorem d_X11_findMoves_48 : decode cm_X11_findMoves 48 = .ok (.iload_n 3, 1) := by decide +kernel
theorem d_X11_findMoves_49 : decode cm_X11_findMoves 49 = .ok (.ifCond .ne 7, 3) := by decide +kernel
theorem d_X11_findMoves_52 : decode cm_X11_findMoves 52 = .ok (.iconst 1, 1) := by decide +kernel
theorem d_X11_findMoves_53 : decode cm_X11_findMoves 53 = .ok (.goto 4, 3) := by decide +kernel
theorem d_X11_findMoves_56 : decode cm_X11_findMoves 56 = .ok (.iconst 0, 1) := by decide +kernel
theorem d_X11_findMoves_57 : decode cm_X11_findMoves 57 = .ok (.if_icmp .ne 10, 3) := by decide +kernel
theorem d_X11_findMoves_60 : decode cm_X11_findMoves 60 = .ok (.aload_n 0, 1) := by decide +kernel
theorem d_X11_findMoves_61 : decode cm_X11_findMoves 61 = .ok (.iload_n 1, 1) := by decide +kernel
theorem d_X11_findMoves_62 : decode cm_X11_findMoves 62 = .ok (.iload 4, 2) := by decide +kernel
theorem d_X11_findMoves_64 : decode cm_X11_findMoves 64 = .ok (.invokevirtual 224, 3) := by decide +kernel
theorem d_X11_findMoves_67 : decode cm_X11_findMoves 67 = .ok (.iinc 4 1, 3) := by decide +kernel
theorem d_X11_findMoves_70 : decode cm_X11_findMoves 70 = .ok (.goto (-51), 3) := by decide +kernel
theorem d_X11_findMoves_73 : decode cm_X11_findMoves 73 = .ok (.aload_n 0, 1) := by decide +kernel
theorem d_X11_findMoves_74 : decode cm_X11_findMoves 74 = .ok (.getfield 95, 3) := by decide +kernel
theorem d_X11_findMoves_77 : decode cm_X11_findMoves 77 = .ok (.iload_n 1, 1) := by decide +kernel
theorem d_X11_findMoves_78 : decode cm_X11_findMoves 78 = .ok (.iaload, 1) := by decide +kernel
theorem d_X11_findMoves_79 : decode cm_X11_findMoves 79 = .ok (.ifCond .le 11, 3) := by decide +kernel
theorem d_X11_findMoves_82 : decode cm_X11_findMoves 82 = .ok (.iload_n 3, 1) := by decide +kernel
theorem d_X11_findMoves_83 : decode cm_X11_findMoves 83 = .ok (.ifCond .ne 7, 3) := by decide +kernel
theorem d_X11_findMoves_86 : decode cm_X11_findMoves 86 = .ok (.iconst 1, 1) := by decide +kernel
theorem d_X11_findMoves_87 : decode cm_X11_findMoves 87 = .ok (.goto 4, 3) := by decide +kernel
theorem d_X11_findMoves_90 : decode cm_X11_findMoves 90 = .ok (.iconst 0, 1) := by decide +kernel
theorem d_X11_findMoves_91 : decode cm_X11_findMoves 91 = .ok (.istore_n 2, 1) := by decide +kernel
theorem d_X11_findMoves_92 : decode cm_X11_findMoves 92 = .ok (.iload_n 2, 1) := by decide +kernel
theorem d_X11_findMoves_93 : decode cm_X11_findMoves 93 = .ok (.ifCond .eq 4, 3) := by decide +kernel
theorem d_X11_findMoves_96 : decode cm_X11_findMoves 96 = .ok (.return_, 1) := by decide +kernel
theorem d_X11_findMoves_97 : decode cm_X11_findMoves 97 = .ok (.iinc 3 1, 3) := by decide +kernel
theorem d_X11_findMoves_100 : decode cm_X11_findMoves 100 = .ok (.goto (-89), 3) := by decide +kernel
theorem d_X11_findMoves_103 : decode cm_X11_findMoves 103 = .ok (.return_, 1) := by decide +kernel
def D_X11_findMoves_91 (K11 : Int32 → Int32 → GSt → Prop) (Q : GSt → Prop) (x1 : Int32) (x3 : Int32) (s0 : Int32) (σ : GSt) : Prop :=
  (s0 = 0 → ∀ x3_1 : Int32, x3_1 = x3 + 1 → (K11 x1 x3_1 σ)) ∧
  (¬ s0 = 0 → Q σ)
def D_X11_findMoves_90 (K11 : Int32 → Int32 → GSt → Prop) (Q : GSt → Prop) (x1 : Int32) (x3 : Int32) (σ : GSt) : Prop :=
  D_X11_findMoves_91 K11 Q x1 x3 0 σ
def D_X11_findMoves_67 (K11 : Int32 → Int32 → GSt → Prop) (K19 : Int32 → Int32 → Int32 → GSt → Prop) (Q : GSt → Prop) (x1 : Int32) (x3 : Int32) (x4 : Int32) (σ : GSt) : Prop :=
  ∀ x4_1 : Int32, x4_1 = x4 + 1 → (K19 x1 x3 x4_1 σ)
def D_X11_findMoves_57 (K11 : Int32 → Int32 → GSt → Prop) (K19 : Int32 → Int32 → Int32 → GSt → Prop) (Q : GSt → Prop) (x1 : Int32) (x3 : Int32) (x4 : Int32) (s0 : Int32) (s1 : Int32) (σ : GSt) : Prop :=
  (¬ s0 = s1 → D_X11_findMoves_67 K11 K19 Q x1 x3 x4 σ) ∧
  (s0 = s1 → D_X11_findOf x1 x4 σ (fun σ_1 => D_X11_findMoves_67 K11 K19 Q x1 x3 x4 σ_1))
def D_X11_findMoves_19 (K11 : Int32 → Int32 → GSt → Prop) (K19 : Int32 → Int32 → Int32 → GSt → Prop) (Q : GSt → Prop) (x1 : Int32) (x3 : Int32) (x4 : Int32) (σ : GSt) : Prop :=
  vp_in (σ 237 22) 9 ∧ (((σ 248 (Int32.toNatClampNeg (σ 237 22))) ≤ x4 → vp_in x1 9 ∧ (((σ 266 (Int32.toNatClampNeg x1)) ≤ 0 → D_X11_findMoves_90 K11 Q x1 x3 σ) ∧
  (¬ (σ 266 (Int32.toNatClampNeg x1)) ≤ 0 → (¬ x3 = 0 → D_X11_findMoves_90 K11 Q x1 x3 σ) ∧
  (x3 = 0 → D_X11_findMoves_91 K11 Q x1 x3 1 σ)))) ∧
  (¬ (σ 248 (Int32.toNatClampNeg (σ 237 22))) ≤ x4 → vp_in ((6 * (σ 237 22)) + x4) 54 ∧ ((¬ x3 = 0 → D_X11_findMoves_57 K11 K19 Q x1 x3 x4 (σ 256 (Int32.toNatClampNeg ((6 * (σ 237 22)) + x4))) 0 σ) ∧
  (x3 = 0 → D_X11_findMoves_57 K11 K19 Q x1 x3 x4 (σ 256 (Int32.toNatClampNeg ((6 * (σ 237 22)) + x4))) 1 σ))))
def L_X11_findMoves_19 (K11 : Int32 → Int32 → GSt → Prop) (Q : GSt → Prop) : Nat → Int32 → Int32 → Int32 → GSt → Prop
  | 0 => fun _ _ _ _ => False
  | n + 1 => fun x1 x3 x4 σ => D_X11_findMoves_19 K11 (L_X11_findMoves_19 K11 Q n) Q x1 x3 x4 σ
def D_X11_findMoves_11 (K11 : Int32 → Int32 → GSt → Prop) (Q : GSt → Prop) (x1 : Int32) (x3 : Int32) (σ : GSt) : Prop :=
  (2 ≤ x3 → Q σ) ∧
  (¬ 2 ≤ x3 → ∃ n : Nat, L_X11_findMoves_19 K11 Q n x1 x3 0 σ)
def L_X11_findMoves_11 (Q : GSt → Prop) : Nat → Int32 → Int32 → GSt → Prop
  | 0 => fun _ _ _ => False
  | n + 1 => fun x1 x3 σ => D_X11_findMoves_11 (L_X11_findMoves_11 Q n) Q x1 x3 σ
def D_X11_findMoves_0 (Q : GSt → Prop) (x1 : Int32) (σ : GSt) : Prop :=
  vp_in x1 9 ∧ (∀ σ_1 : GSt, σ_1 = up2 σ 266 (Int32.toNatClampNeg x1) 0 → (∃ n : Nat, L_X11_findMoves_11 Q n x1 0 σ_1))
def D_X11_findMoves (x1 : Int32) (σ : GSt) (Q : GSt → Prop) : Prop := D_X11_findMoves_0 Q x1 σ
set_option maxRecDepth 20000 in
set_option maxHeartbeats 4000000 in
theorem s_X11_findMoves_91 {p : Program} {l : Launch} {e : Env} {s : State} {m : MethodId} {args : Array Value} {below : List Frame} {meth : Method} {c : Code} {G : GC} (X : CallFix p m c cm_X11_findMoves 5 s args lw_us "GameLoomModel") (hr : meth.sig.returnType = none) (hlk : meth.locks = false) (K11 : Int32 → Int32 → GSt → Prop) (Q : GSt → Prop) (hK11 : ∀ (x1 : Int32) (x3 : Int32) (σ : GSt) (H : Heap) (locs : List Loc) (ls : Array Slot), Wo G s H locs σ → lv_has ls 5 [(0, .ref (G.2.1 237)), (1, .int x1), (3, .int x3)] → K11 x1 x3 σ → W p l e rm_X11_findMoves s m args below meth c H locs 0 0 (QMV G Q below args s) (F0 m 11 ls [])) (x1 : Int32) (x3 : Int32) (s0 : Int32) (σ : GSt) {H : Heap} {locs : List Loc} {ls : Array Slot} (hw : Wo G s H locs σ) (hl : lv_has ls 5 [(0, .ref (G.2.1 237)), (1, .int x1), (3, .int x3)]) (hD : D_X11_findMoves_91 K11 Q x1 x3 s0 σ) : W p l e rm_X11_findMoves s m args below meth c H locs 0 0 (QMV G Q below args s) (F0 m 91 ls [.int s0]) := by
  unfold D_X11_findMoves_91 at hD
  refine lv_istore_n (lv' := [(2, .int s0), (0, .ref (G.2.1 237)), (1, .int x1), (3, .int x3)]) X.1 X.2.1 d_X11_findMoves_91 rfl hl (by decide) rfl (fun ls hl => ?_)
  refine lv_iload_n X.1 X.2.1 d_X11_findMoves_92 rfl (lv_at hl 0 rfl) ?_
  refine lv_if_eq (tgt := 97) X.1 X.2.1 d_X11_findMoves_93 (by decide) (fun q_93 => ?_) (fun q_93 => ?_)
  · have hD := hD.1 q_93
    obtain ⟨x3_1, e_x3_1⟩ : ∃ y : Int32, y = x3 + 1 := ⟨_, rfl⟩
    have hD := hD x3_1 e_x3_1
    refine lv_iinc (v := x3_1) (lv' := [(3, .int x3_1), (2, .int s0), (0, .ref (G.2.1 237)), (1, .int x1)]) X.1 X.2.1 d_X11_findMoves_97 hl (k := 3) rfl (by rw [e_x3_1]; rfl) (by decide) rfl (fun ls hl => ?_)
    refine lv_goto (tgt := 11) X.1 X.2.1 d_X11_findMoves_100 (by decide) ?_
    exact hK11 x1 x3_1 σ _ _ _  hw (lv_sub hl [2, 3, 0] rfl) hD
  · have hD := hD.2 q_93
    exact g_vret X hr hlk hw hD d_X11_findMoves_96
set_option maxRecDepth 20000 in
set_option maxHeartbeats 4000000 in
theorem s_X11_findMoves_90 {p : Program} {l : Launch} {e : Env} {s : State} {m : MethodId} {args : Array Value} {below : List Frame} {meth : Method} {c : Code} {G : GC} (X : CallFix p m c cm_X11_findMoves 5 s args lw_us "GameLoomModel") (hr : meth.sig.returnType = none) (hlk : meth.locks = false) (K11 : Int32 → Int32 → GSt → Prop) (Q : GSt → Prop) (hK11 : ∀ (x1 : Int32) (x3 : Int32) (σ : GSt) (H : Heap) (locs : List Loc) (ls : Array Slot), Wo G s H locs σ → lv_has ls 5 [(0, .ref (G.2.1 237)), (1, .int x1), (3, .int x3)] → K11 x1 x3 σ → W p l e rm_X11_findMoves s m args below meth c H locs 0 0 (QMV G Q below args s) (F0 m 11 ls [])) (x1 : Int32) (x3 : Int32) (σ : GSt) {H : Heap} {locs : List Loc} {ls : Array Slot} (hw : Wo G s H locs σ) (hl : lv_has ls 5 [(0, .ref (G.2.1 237)), (1, .int x1), (3, .int x3)]) (hD : D_X11_findMoves_90 K11 Q x1 x3 σ) : W p l e rm_X11_findMoves s m args below meth c H locs 0 0 (QMV G Q below args s) (F0 m 90 ls []) := by
  unfold D_X11_findMoves_90 at hD
  refine lv_iconst (v := 0) X.1 X.2.1 d_X11_findMoves_90 (by decide) ?_
  exact s_X11_findMoves_91 X hr hlk K11 Q hK11 x1 x3 0 σ hw (lv_sub hl [0, 1, 2] rfl) hD
set_option maxRecDepth 20000 in
set_option maxHeartbeats 4000000 in
theorem s_X11_findMoves_67 {p : Program} {l : Launch} {e : Env} {s : State} {m : MethodId} {args : Array Value} {below : List Frame} {meth : Method} {c : Code} {G : GC} (X : CallFix p m c cm_X11_findMoves 5 s args lw_us "GameLoomModel") (hr : meth.sig.returnType = none) (hlk : meth.locks = false) (K11 : Int32 → Int32 → GSt → Prop) (K19 : Int32 → Int32 → Int32 → GSt → Prop) (Q : GSt → Prop) (hK11 : ∀ (x1 : Int32) (x3 : Int32) (σ : GSt) (H : Heap) (locs : List Loc) (ls : Array Slot), Wo G s H locs σ → lv_has ls 5 [(0, .ref (G.2.1 237)), (1, .int x1), (3, .int x3)] → K11 x1 x3 σ → W p l e rm_X11_findMoves s m args below meth c H locs 0 0 (QMV G Q below args s) (F0 m 11 ls [])) (hK19 : ∀ (x1 : Int32) (x3 : Int32) (x4 : Int32) (σ : GSt) (H : Heap) (locs : List Loc) (ls : Array Slot), Wo G s H locs σ → lv_has ls 5 [(0, .ref (G.2.1 237)), (1, .int x1), (3, .int x3), (4, .int x4)] → K19 x1 x3 x4 σ → W p l e rm_X11_findMoves s m args below meth c H locs 0 0 (QMV G Q below args s) (F0 m 19 ls [])) (x1 : Int32) (x3 : Int32) (x4 : Int32) (σ : GSt) {H : Heap} {locs : List Loc} {ls : Array Slot} (hw : Wo G s H locs σ) (hl : lv_has ls 5 [(0, .ref (G.2.1 237)), (1, .int x1), (3, .int x3), (4, .int x4)]) (hD : D_X11_findMoves_67 K11 K19 Q x1 x3 x4 σ) : W p l e rm_X11_findMoves s m args below meth c H locs 0 0 (QMV G Q below args s) (F0 m 67 ls []) := by
  unfold D_X11_findMoves_67 at hD
  obtain ⟨x4_1, e_x4_1⟩ : ∃ y : Int32, y = x4 + 1 := ⟨_, rfl⟩
  have hD := hD x4_1 e_x4_1
  refine lv_iinc (v := x4_1) (lv' := [(4, .int x4_1), (0, .ref (G.2.1 237)), (1, .int x1), (3, .int x3)]) X.1 X.2.1 d_X11_findMoves_67 hl (k := 3) rfl (by rw [e_x4_1]; rfl) (by decide) rfl (fun ls hl => ?_)
  refine lv_goto (tgt := 19) X.1 X.2.1 d_X11_findMoves_70 (by decide) ?_
  exact hK19 x1 x3 x4_1 σ _ _ _  hw (lv_sub hl [1, 2, 3, 0] rfl) hD
set_option maxRecDepth 20000 in
set_option maxHeartbeats 4000000 in
theorem s_X11_findMoves_57 {p : Program} {l : Launch} {e : Env} {s : State} {m : MethodId} {args : Array Value} {below : List Frame} {meth : Method} {c : Code} {G : GC} (X : CallFix p m c cm_X11_findMoves 5 s args lw_us "GameLoomModel") (hr : meth.sig.returnType = none) (hlk : meth.locks = false) (K11 : Int32 → Int32 → GSt → Prop) (K19 : Int32 → Int32 → Int32 → GSt → Prop) (Q : GSt → Prop) (hK11 : ∀ (x1 : Int32) (x3 : Int32) (σ : GSt) (H : Heap) (locs : List Loc) (ls : Array Slot), Wo G s H locs σ → lv_has ls 5 [(0, .ref (G.2.1 237)), (1, .int x1), (3, .int x3)] → K11 x1 x3 σ → W p l e rm_X11_findMoves s m args below meth c H locs 0 0 (QMV G Q below args s) (F0 m 11 ls [])) (hK19 : ∀ (x1 : Int32) (x3 : Int32) (x4 : Int32) (σ : GSt) (H : Heap) (locs : List Loc) (ls : Array Slot), Wo G s H locs σ → lv_has ls 5 [(0, .ref (G.2.1 237)), (1, .int x1), (3, .int x3), (4, .int x4)] → K19 x1 x3 x4 σ → W p l e rm_X11_findMoves s m args below meth c H locs 0 0 (QMV G Q below args s) (F0 m 19 ls [])) (x1 : Int32) (x3 : Int32) (x4 : Int32) (s0 : Int32) (s1 : Int32) (σ : GSt) {H : Heap} {locs : List Loc} {ls : Array Slot} (hw : Wo G s H locs σ) (hl : lv_has ls 5 [(0, .ref (G.2.1 237)), (1, .int x1), (3, .int x3), (4, .int x4)]) (hD : D_X11_findMoves_57 K11 K19 Q x1 x3 x4 s0 s1 σ) : W p l e rm_X11_findMoves s m args below meth c H locs 0 0 (QMV G Q below args s) (F0 m 57 ls [.int s1, .int s0]) := by
  unfold D_X11_findMoves_57 at hD
  refine lv_icmp_ne (tgt := 67) X.1 X.2.1 d_X11_findMoves_57 (by decide) (fun q_57 => ?_) (fun q_57 => ?_)
  · have hD := hD.1 q_57
    exact s_X11_findMoves_67 X hr hlk K11 K19 Q hK11 hK19 x1 x3 x4 σ hw (lv_sub hl [0, 1, 2, 3] rfl) hD
  · have hD := hD.2 q_57
    refine lv_aload_n X.1 X.2.1 d_X11_findMoves_60 rfl (lv_at hl 0 rfl) ?_
    refine lv_iload_n X.1 X.2.1 d_X11_findMoves_61 rfl (lv_at hl 1 rfl) ?_
    refine lv_iload X.1 X.2.1 d_X11_findMoves_62 (lv_at hl 3 rfl) ?_
    refine gcV_v (rest := []) (As := [.int x1, .int x4]) (o := 237) X hw (c_X11_findOf l G x1 x4 σ _  hD) (kd_lt (by decide +kernel : kd 237 = 11) (by decide)) (ce_11 G _ (by decide +kernel : kd 237 = 11)) rfl tb_1168 tb_1170 tv_51 tb_12 tb_1171 hd_X11_findOf ⟨rfl, rfl⟩ ⟨Nat.le_of_ble_eq_true rfl, Nat.le_of_ble_eq_true rfl⟩ rfl hl.1 rfl (Nat.le_of_ble_eq_true rfl) d_X11_findMoves_64 (fun σ_1 H locs hD hw => ?_)
    exact s_X11_findMoves_67 X hr hlk K11 K19 Q hK11 hK19 x1 x3 x4 σ_1 hw (lv_sub hl [0, 1, 2, 3] rfl) hD
set_option maxRecDepth 20000 in
set_option maxHeartbeats 4000000 in
theorem s_X11_findMoves_19 {p : Program} {l : Launch} {e : Env} {s : State} {m : MethodId} {args : Array Value} {below : List Frame} {meth : Method} {c : Code} {G : GC} (X : CallFix p m c cm_X11_findMoves 5 s args lw_us "GameLoomModel") (hr : meth.sig.returnType = none) (hlk : meth.locks = false) (K11 : Int32 → Int32 → GSt → Prop) (K19 : Int32 → Int32 → Int32 → GSt → Prop) (Q : GSt → Prop) (hK11 : ∀ (x1 : Int32) (x3 : Int32) (σ : GSt) (H : Heap) (locs : List Loc) (ls : Array Slot), Wo G s H locs σ → lv_has ls 5 [(0, .ref (G.2.1 237)), (1, .int x1), (3, .int x3)] → K11 x1 x3 σ → W p l e rm_X11_findMoves s m args below meth c H locs 0 0 (QMV G Q below args s) (F0 m 11 ls [])) (hK19 : ∀ (x1 : Int32) (x3 : Int32) (x4 : Int32) (σ : GSt) (H : Heap) (locs : List Loc) (ls : Array Slot), Wo G s H locs σ → lv_has ls 5 [(0, .ref (G.2.1 237)), (1, .int x1), (3, .int x3), (4, .int x4)] → K19 x1 x3 x4 σ → W p l e rm_X11_findMoves s m args below meth c H locs 0 0 (QMV G Q below args s) (F0 m 19 ls [])) (x1 : Int32) (x3 : Int32) (x4 : Int32) (σ : GSt) {H : Heap} {locs : List Loc} {ls : Array Slot} (hw : Wo G s H locs σ) (hl : lv_has ls 5 [(0, .ref (G.2.1 237)), (1, .int x1), (3, .int x3), (4, .int x4)]) (hD : D_X11_findMoves_19 K11 K19 Q x1 x3 x4 σ) : W p l e rm_X11_findMoves s m args below meth c H locs 0 0 (QMV G Q below args s) (F0 m 19 ls []) := by
  unfold D_X11_findMoves_19 at hD
  refine lv_iload X.1 X.2.1 d_X11_findMoves_19 (lv_at hl 3 rfl) ?_
  refine lv_aload_n X.1 X.2.1 d_X11_findMoves_21 rfl (lv_at hl 0 rfl) ?_
  refine gf_11_10 X hw (by decide +kernel : kd 237 = 11) tb_916 d_X11_findMoves_22 ?_
  refine lv_aload_n X.1 X.2.1 d_X11_findMoves_25 rfl (lv_at hl 0 rfl) ?_
  refine gf_11_22 X hw (by decide +kernel : kd 237 = 11) tb_928 d_X11_findMoves_26 ?_
  obtain ⟨q_29, hD⟩ := hD
  refine g_iald X hw ly_11_10.1 ly_11_10.2 q_29 d_X11_findMoves_29 ?_
  refine lv_icmp_ge (tgt := 73) X.1 X.2.1 d_X11_findMoves_30 (by decide) (fun q_30 => ?_) (fun q_30 => ?_)
  · have hD := hD.1 q_30
    refine lv_aload_n X.1 X.2.1 d_X11_findMoves_73 rfl (lv_at hl 0 rfl) ?_
    refine gf_11_32 X hw (by decide +kernel : kd 237 = 11) tb_938 d_X11_findMoves_74 ?_
    refine lv_iload_n X.1 X.2.1 d_X11_findMoves_77 rfl (lv_at hl 1 rfl) ?_
    obtain ⟨q_78, hD⟩ := hD
    refine g_iald X hw ly_11_32.1 ly_11_32.2 q_78 d_X11_findMoves_78 ?_
    refine lv_if_le (tgt := 90) X.1 X.2.1 d_X11_findMoves_79 (by decide) (fun q_79 => ?_) (fun q_79 => ?_)
    · have hD := hD.1 q_79
      exact s_X11_findMoves_90 X hr hlk K11 Q hK11 x1 x3 σ hw (lv_sub hl [0, 1, 2] rfl) hD
    · have hD := hD.2 q_79
      refine lv_iload_n X.1 X.2.1 d_X11_findMoves_82 rfl (lv_at hl 2 rfl) ?_
      refine lv_if_ne (tgt := 90) X.1 X.2.1 d_X11_findMoves_83 (by decide) (fun q_83 => ?_) (fun q_83 => ?_)
      · have hD := hD.1 q_83
        exact s_X11_findMoves_90 X hr hlk K11 Q hK11 x1 x3 σ hw (lv_sub hl [0, 1, 2] rfl) hD
      · have hD := hD.2 q_83
        refine lv_iconst (v := 1) X.1 X.2.1 d_X11_findMoves_86 (by decide) ?_
        refine lv_goto (tgt := 91) X.1 X.2.1 d_X11_findMoves_87 (by decide) ?_
        exact s_X11_findMoves_91 X hr hlk K11 Q hK11 x1 x3 1 σ hw (lv_sub hl [0, 1, 2] rfl) hD
  · have hD := hD.2 q_30
    refine lv_aload_n X.1 X.2.1 d_X11_findMoves_33 rfl (lv_at hl 0 rfl) ?_
    refine gf_11_18 X hw (by decide +kernel : kd 237 = 11) tb_924 d_X11_findMoves_34 ?_
    refine lv_bipush (v := 6) X.1 X.2.1 d_X11_findMoves_37 (by decide) ?_
    refine lv_aload_n X.1 X.2.1 d_X11_findMoves_39 rfl (lv_at hl 0 rfl) ?_
    refine gf_11_22 X hw (by decide +kernel : kd 237 = 11) tb_928 d_X11_findMoves_40 ?_
    refine lv_imul X.1 X.2.1 d_X11_findMoves_43 ?_
    refine lv_iload X.1 X.2.1 d_X11_findMoves_44 (lv_at hl 3 rfl) ?_
    refine lv_iadd X.1 X.2.1 d_X11_findMoves_46 ?_
    obtain ⟨q_47, hD⟩ := hD
    refine g_zald X hw ly_11_18.1 ly_11_18.2 q_47 d_X11_findMoves_47 ?_
    refine lv_iload_n X.1 X.2.1 d_X11_findMoves_48 rfl (lv_at hl 2 rfl) ?_
    refine lv_if_ne (tgt := 56) X.1 X.2.1 d_X11_findMoves_49 (by decide) (fun q_49 => ?_) (fun q_49 => ?_)
    · have hD := hD.1 q_49
      refine lv_iconst (v := 0) X.1 X.2.1 d_X11_findMoves_56 (by decide) ?_
      exact s_X11_findMoves_57 X hr hlk K11 K19 Q hK11 hK19 x1 x3 x4 (σ 256 (Int32.toNatClampNeg ((6 * (σ 237 22)) + x4))) 0 σ hw (lv_sub hl [0, 1, 2, 3] rfl) hD
    · have hD := hD.2 q_49
      refine lv_iconst (v := 1) X.1 X.2.1 d_X11_findMoves_52 (by decide) ?_
      refine lv_goto (tgt := 57) X.1 X.2.1 d_X11_findMoves_53 (by decide) ?_
      exact s_X11_findMoves_57 X hr hlk K11 K19 Q hK11 hK19 x1 x3 x4 (σ 256 (Int32.toNatClampNeg ((6 * (σ 237 22)) + x4))) 1 σ hw (lv_sub hl [0, 1, 2, 3] rfl) hD
set_option maxRecDepth 20000 in
set_option maxHeartbeats 4000000 in
theorem sl_X11_findMoves_19 {p : Program} {l : Launch} {e : Env} {s : State} {m : MethodId} {args : Array Value} {below : List Frame} {meth : Method} {c : Code} {G : GC} (X : CallFix p m c cm_X11_findMoves 5 s args lw_us "GameLoomModel") (hr : meth.sig.returnType = none) (hlk : meth.locks = false) (K11 : Int32 → Int32 → GSt → Prop) (Q : GSt → Prop) (hK11 : ∀ (x1 : Int32) (x3 : Int32) (σ : GSt) (H : Heap) (locs : List Loc) (ls : Array Slot), Wo G s H locs σ → lv_has ls 5 [(0, .ref (G.2.1 237)), (1, .int x1), (3, .int x3)] → K11 x1 x3 σ → W p l e rm_X11_findMoves s m args below meth c H locs 0 0 (QMV G Q below args s) (F0 m 11 ls [])) : ∀ (nn : Nat), ∀ (x1 : Int32) (x3 : Int32) (x4 : Int32) (σ : GSt) (H : Heap) (locs : List Loc) (ls : Array Slot), Wo G s H locs σ → lv_has ls 5 [(0, .ref (G.2.1 237)), (1, .int x1), (3, .int x3), (4, .int x4)] → L_X11_findMoves_19 K11 Q nn x1 x3 x4 σ → W p l e rm_X11_findMoves s m args below meth c H locs 0 0 (QMV G Q below args s) (F0 m 19 ls []) := by
  intro nn
  induction nn with
  | zero => intro x1 x3 x4 σ H locs ls  hw hl hD; exact hD.elim
  | succ nn ih =>
    intro x1 x3 x4 σ H locs ls  hw hl hD
    exact s_X11_findMoves_19 X hr hlk K11 (L_X11_findMoves_19 K11 Q nn) Q hK11 ih x1 x3 x4 σ hw hl hD
set_option maxRecDepth 20000 in
set_option maxHeartbeats 4000000 in
theorem s_X11_findMoves_11 {p : Program} {l : Launch} {e : Env} {s : State} {m : MethodId} {args : Array Value} {below : List Frame} {meth : Method} {c : Code} {G : GC} (X : CallFix p m c cm_X11_findMoves 5 s args lw_us "GameLoomModel") (hr : meth.sig.returnType = none) (hlk : meth.locks = false) (K11 : Int32 → Int32 → GSt → Prop) (Q : GSt → Prop) (hK11 : ∀ (x1 : Int32) (x3 : Int32) (σ : GSt) (H : Heap) (locs : List Loc) (ls : Array Slot), Wo G s H locs σ → lv_has ls 5 [(0, .ref (G.2.1 237)), (1, .int x1), (3, .int x3)] → K11 x1 x3 σ → W p l e rm_X11_findMoves s m args below meth c H locs 0 0 (QMV G Q below args s) (F0 m 11 ls [])) (x1 : Int32) (x3 : Int32) (σ : GSt) {H : Heap} {locs : List Loc} {ls : Array Slot} (hw : Wo G s H locs σ) (hl : lv_has ls 5 [(0, .ref (G.2.1 237)), (1, .int x1), (3, .int x3)]) (hD : D_X11_findMoves_11 K11 Q x1 x3 σ) : W p l e rm_X11_findMoves s m args below meth c H locs 0 0 (QMV G Q below args s) (F0 m 11 ls []) := by
  unfold D_X11_findMoves_11 at hD
  refine lv_iload_n X.1 X.2.1 d_X11_findMoves_11 rfl (lv_at hl 2 rfl) ?_
  refine lv_iconst (v := 2) X.1 X.2.1 d_X11_findMoves_12 (by decide) ?_
  refine lv_icmp_ge (tgt := 103) X.1 X.2.1 d_X11_findMoves_13 (by decide) (fun q_13 => ?_) (fun q_13 => ?_)
  · have hD := hD.1 q_13
    exact g_vret X hr hlk hw hD d_X11_findMoves_103
  · have hD := hD.2 q_13
    refine lv_iconst (v := 0) X.1 X.2.1 d_X11_findMoves_16 (by decide) ?_
    refine lv_istore (lv' := [(4, .int 0), (0, .ref (G.2.1 237)), (1, .int x1), (3, .int x3)]) X.1 X.2.1 d_X11_findMoves_17 hl (by decide) rfl (fun ls hl => ?_)
    obtain ⟨n9, hD⟩ := hD
    exact sl_X11_findMoves_19 X hr hlk K11 Q hK11 n9 x1 x3 0 σ _ _ _  hw (lv_sub hl [1, 2, 3, 0] rfl) hD
set_option maxRecDepth 20000 in
set_option maxHeartbeats 4000000 in
theorem sl_X11_findMoves_11 {p : Program} {l : Launch} {e : Env} {s : State} {m : MethodId} {args : Array Value} {below : List Frame} {meth : Method} {c : Code} {G : GC} (X : CallFix p m c cm_X11_findMoves 5 s args lw_us "GameLoomModel") (hr : meth.sig.returnType = none) (hlk : meth.locks = false) (Q : GSt → Prop) : ∀ (nn : Nat), ∀ (x1 : Int32) (x3 : Int32) (σ : GSt) (H : Heap) (locs : List Loc) (ls : Array Slot), Wo G s H locs σ → lv_has ls 5 [(0, .ref (G.2.1 237)), (1, .int x1), (3, .int x3)] → L_X11_findMoves_11 Q nn x1 x3 σ → W p l e rm_X11_findMoves s m args below meth c H locs 0 0 (QMV G Q below args s) (F0 m 11 ls []) := by
  intro nn
  induction nn with
  | zero => intro x1 x3 σ H locs ls  hw hl hD; exact hD.elim
  | succ nn ih =>
    intro x1 x3 σ H locs ls  hw hl hD
    exact s_X11_findMoves_11 X hr hlk (L_X11_findMoves_11 Q nn) Q ih x1 x3 σ hw hl hD
set_option maxRecDepth 20000 in
set_option maxHeartbeats 4000000 in
theorem s_X11_findMoves_0 {p : Program} {l : Launch} {e : Env} {s : State} {m : MethodId} {args : Array Value} {below : List Frame} {meth : Method} {c : Code} {G : GC} (X : CallFix p m c cm_X11_findMoves 5 s args lw_us "GameLoomModel") (hr : meth.sig.returnType = none) (hlk : meth.locks = false) (Q : GSt → Prop) (x1 : Int32) (σ : GSt) {H : Heap} {locs : List Loc} {ls : Array Slot} (hw : Wo G s H locs σ) (hl : lv_has ls 5 [(0, .ref (G.2.1 237)), (1, .int x1)]) (hD : D_X11_findMoves_0 Q x1 σ) : W p l e rm_X11_findMoves s m args below meth c H locs 0 0 (QMV G Q below args s) (F0 m 0 ls []) := by
  unfold D_X11_findMoves_0 at hD
  refine lv_aload_n X.1 X.2.1 d_X11_findMoves_0 rfl (lv_at hl 0 rfl) ?_
  refine gf_11_32 X hw (by decide +kernel : kd 237 = 11) tb_938 d_X11_findMoves_1 ?_
  refine lv_iload_n X.1 X.2.1 d_X11_findMoves_4 rfl (lv_at hl 1 rfl) ?_
  refine lv_iconst (v := 0) X.1 X.2.1 d_X11_findMoves_5 (by decide) ?_
  obtain ⟨q_6, hD⟩ := hD
  refine g_iast X hw ly_11_32.1 ly_11_32.2 q_6 d_X11_findMoves_6 (fun H locs hw => ?_)
  obtain ⟨σ_1, e_σ_1⟩ : ∃ z : GSt, z = up2 σ 266 (Int32.toNatClampNeg x1) 0 := ⟨_, rfl⟩
  rw [← e_σ_1] at hw
  have hD := hD σ_1 e_σ_1
  refine lv_iconst (v := 0) X.1 X.2.1 d_X11_findMoves_7 (by decide) ?_
  refine lv_istore_n (lv' := [(2, .int 0), (0, .ref (G.2.1 237)), (1, .int x1)]) X.1 X.2.1 d_X11_findMoves_8 rfl hl (by decide) rfl (fun ls hl => ?_)
  refine lv_iconst (v := 0) X.1 X.2.1 d_X11_findMoves_9 (by decide) ?_
  refine lv_istore_n (lv' := [(3, .int 0), (2, .int 0), (0, .ref (G.2.1 237)), (1, .int x1)]) X.1 X.2.1 d_X11_findMoves_10 rfl hl (by decide) rfl (fun ls hl => ?_)
  obtain ⟨n9, hD⟩ := hD
  exact sl_X11_findMoves_11 X hr hlk  Q  n9 x1 0 σ_1 _ _ _  hw (lv_sub hl [2, 3, 0] rfl) hD
theorem c_X11_findMoves (l : Launch) (G : GC) (x1 : Int32) (σ : GSt) (Q : GSt → Prop)  (hD : D_X11_findMoves x1 σ Q) : MV l ym_X11_findMoves cm_X11_findMoves 5 rm_X11_findMoves G σ [.ref (G.2.1 237), .int x1] Q := by
  refine met_v (by decide) (Nat.le_of_ble_eq_true rfl) ?_
  intro p e s m args below meth c X hr hlk hw ls hl
  exact s_X11_findMoves_0 X hr hlk Q  x1 σ hw (lv_sub hl [0, 1] rfl) hD
theorem hd_X11_hasRow : ym_X11_hasRow.cls = "GameLoomModel" ∧ ym_X11_hasRow.cls ≠ "java/lang/invoke/MethodHandle" ∧ ym_X11_hasRow.cls ≠ "java/lang/invoke/VarHandle" ∧ (parseMethodDescriptor ym_X11_hasRow.desc).map (fun d => d.parameters.length) = some 3 := by decide +kernel
abbrev rm_X11_hasRow : Room := { frames := 2, cells := 0, slots := 0, locals := 48 }
theorem d_X11_hasRow_0 : decode cm_X11_hasRow 0 = .ok (.iconst 0, 1) := by decide +kernel
theorem d_X11_hasRow_1 : decode cm_X11_hasRow 1 = .ok (.istore 4, 2) := by decide +kernel
theorem d_X11_hasRow_3 : decode cm_X11_hasRow 3 = .ok (.iload 4, 2) := by decide +kernel
theorem d_X11_hasRow_5 : decode cm_X11_hasRow 5 = .ok (.aload_n 0, 1) := by decide +kernel
theorem d_X11_hasRow_6 : decode cm_X11_hasRow 6 = .ok (.invokevirtual 210, 3) := by decide +kernel
theorem d_X11_hasRow_9 : decode cm_X11_hasRow 9 = .ok (.if_icmp .ge 103, 3) := by decide +kernel
theorem d_X11_hasRow_12 : decode cm_X11_hasRow 12 = .ok (.iconst 0, 1) := by decide +kernel
theorem d_X11_hasRow_13 : decode cm_X11_hasRow 13 = .ok (.istore 5, 2) := by decide +kernel
theorem d_X11_hasRow_15 : decode cm_X11_hasRow 15 = .ok (.iload 5, 2) := by decide +kernel
theorem d_X11_hasRow_17 : decode cm_X11_hasRow 17 = .ok (.bipush 8, 2) := by decide +kernel
theorem d_X11_hasRow_19 : decode cm_X11_hasRow 19 = .ok (.if_icmp .ge 87, 3) := by decide +kernel
theorem d_X11_hasRow_22 : decode cm_X11_hasRow 22 = .ok (.iconst 0, 1) := by decide +kernel
theorem d_X11_hasRow_23 : decode cm_X11_hasRow 23 = .ok (.istore 6, 2) := by decide +kernel
theorem d_X11_hasRow_25 : decode cm_X11_hasRow 25 = .ok (.iload 6, 2) := by decide +kernel
theorem d_X11_hasRow_27 : decode cm_X11_hasRow 27 = .ok (.iload_n 2, 1) := by decide +kernel
theorem d_X11_hasRow_28 : decode cm_X11_hasRow 28 = .ok (.if_icmp .ge 64, 3) := by decide +kernel
theorem d_X11_hasRow_31 : decode cm_X11_hasRow 31 = .ok (.aload_n 0, 1) := by decide +kernel
theorem d_X11_hasRow_32 : decode cm_X11_hasRow 32 = .ok (.iload_n 1, 1) := by decide +kernel
theorem d_X11_hasRow_33 : decode cm_X11_hasRow 33 = .ok (.iload 4, 2) := by decide +kernel
theorem d_X11_hasRow_35 : decode cm_X11_hasRow 35 = .ok (.aload_n 0, 1) := by decide +kernel
theorem d_X11_hasRow_36 : decode cm_X11_hasRow 36 = .ok (.getfield 22, 3) := by decide +kernel
theorem d_X11_hasRow_39 : decode cm_X11_hasRow 39 = .ok (.aload_n 0, 1) := by decide +kernel
theorem d_X11_hasRow_40 : decode cm_X11_hasRow 40 = .ok (.getfield 156, 3) := by decide +kernel
theorem d_X11_hasRow_43 : decode cm_X11_hasRow 43 = .ok (.iaload, 1) := by decide +kernel
theorem d_X11_hasRow_44 : decode cm_X11_hasRow 44 = .ok (.irem, 1) := by decide +kernel
theorem d_X11_hasRow_45 : decode cm_X11_hasRow 45 = .ok (.iload 6, 2) := by decide +kernel
theorem d_X11_hasRow_47 : decode cm_X11_hasRow 47 = .ok (.aload_n 0, 1) := by decide +kernel
theorem d_X11_hasRow_48 : decode cm_X11_hasRow 48 = .ok (.getfield 98, 3) := by decide +kernel
theorem d_X11_hasRow_51 : decode cm_X11_hasRow 51 = .ok (.iload 5, 2) := by decide +kernel
theorem d_X11_hasRow_53 : decode cm_X11_hasRow 53 = .ok (.iaload, 1) := by decide +kernel
theorem d_X11_hasRow_54 : decode cm_X11_hasRow 54 = .ok (.imul, 1) := by decide +kernel
theorem d_X11_hasRow_55 : decode cm_X11_hasRow 55 = .ok (.iadd, 1) := by decide +kernel
theorem d_X11_hasRow_56 : decode cm_X11_hasRow 56 = .ok (.iload 4, 2) := by decide +kernel
theorem d_X11_hasRow_58 : decode cm_X11_hasRow 58 = .ok (.aload_n 0, 1) := by decide +kernel
theorem d_X11_hasRow_59 : decode cm_X11_hasRow 59 = .ok (.getfield 22, 3) := by decide +kernel
theorem d_X11_hasRow_62 : decode cm_X11_hasRow 62 = .ok (.aload_n 0, 1) := by decide +kernel
theorem d_X11_hasRow_63 : decode cm_X11_hasRow 63 = .ok (.getfield 156, 3) := by decide +kernel
theorem d_X11_hasRow_66 : decode cm_X11_hasRow 66 = .ok (.iaload, 1) := by decide +kernel
theorem d_X11_hasRow_67 : decode cm_X11_hasRow 67 = .ok (.idiv, 1) := by decide +kernel
theorem d_X11_hasRow_68 : decode cm_X11_hasRow 68 = .ok (.iload 6, 2) := by decide +kernel
theorem d_X11_hasRow_70 : decode cm_X11_hasRow 70 = .ok (.aload_n 0, 1) := by decide +kernel
theorem d_X11_hasRow_71 : decode cm_X11_hasRow 71 = .ok (.getfield 101, 3) := by decide +kernel
theorem d_X11_hasRow_74 : decode cm_X11_hasRow 74 = .ok (.iload 5, 2) := by decide +kernel
theorem d_X11_hasRow_76 : decode cm_X11_hasRow 76 = .ok (.iaload, 1) := by decide +kernel
theorem d_X11_hasRow_77 : decode cm_X11_hasRow 77 = .ok (.imul, 1) := by decide +kernel
theorem d_X11_hasRow_78 : decode cm_X11_hasRow 78 = .ok (.iadd, 1) := by decide +kernel
theorem d_X11_hasRow_79 : decode cm_X11_hasRow 79 = .ok (.invokevirtual 220, 3) := by decide +kernel
theorem d_X11_hasRow_82 : decode cm_X11_hasRow 82 = .ok (.iload_n 3, 1) := by decide +kernel
theorem d_X11_hasRow_83 : decode cm_X11_hasRow 83 = .ok (.if_icmp .ne 9, 3) := by decide +kernel
theorem d_X11_hasRow_86 : decode cm_X11_hasRow 86 = .ok (.iinc 6 1, 3) := by decide +kernel
theorem d_X11_hasRow_89 : decode cm_X11_hasRow 89 = .ok (.goto (-64), 3) := by decide +kernel
theorem d_X11_hasRow_92 : decode cm_X11_hasRow 92 = .ok (.iload 6, 2) := by decide +kernel
theorem d_X11_hasRow_94 : decode cm_X11_hasRow 94 = .ok (.iload_n 2, 1) := by decide +kernel
theorem d_X11_hasRow_95 : decode cm_X11_hasRow 95 = .ok (.if_icmp .ne 5, 3) := by decide +kernel
theorem d_X11_hasRow_98 : decode cm_X11_hasRow 98 = .ok (.iconst 1, 1) := by decide +kernel
theorem d_X11_hasRow_99 : decode cm_X11_hasRow 99 = .ok (.ireturn, 1) := by decide +kernel
theorem d_X11_hasRow_100 : decode cm_X11_hasRow 100 = .ok (.iinc 5 1, 3) := by decide +kernel
theorem d_X11_hasRow_103 : decode cm_X11_hasRow 103 = .ok (.goto (-88), 3) := by decide +kernel
theorem d_X11_hasRow_106 : decode cm_X11_hasRow 106 = .ok (.iinc 4 1, 3) := by decide +kernel
theorem d_X11_hasRow_109 : decode cm_X11_hasRow 109 = .ok (.goto (-106), 3) := by decide +kernel
theorem d_X11_hasRow_112 : decode cm_X11_hasRow 112 = .ok (.iconst 0, 1) := by decide +kernel
theorem d_X11_hasRow_113 : decode cm_X11_hasRow 113 = .ok (.ireturn, 1) := by decide +kernel
def D_X11_hasRow_92 (K3 : Int32 → Int32 → Int32 → Int32 → GSt → Prop) (K15 : Int32 → Int32 → Int32 → Int32 → Int32 → GSt → Prop) (Q : Int32 → GSt → Prop) (x1 : Int32) (x2 : Int32) (x3 : Int32) (x4 : Int32) (x5 : Int32) (x6 : Int32) (σ : GSt) : Prop :=
  (¬ x6 = x2 → ∀ x5_1 : Int32, x5_1 = x5 + 1 → (K15 x1 x2 x3 x4 x5_1 σ)) ∧
  (x6 = x2 → Q 1 σ)
def D_X11_hasRow_25 (K3 : Int32 → Int32 → Int32 → Int32 → GSt → Prop) (K15 : Int32 → Int32 → Int32 → Int32 → Int32 → GSt → Prop) (K25 : Int32 → Int32 → Int32 → Int32 → Int32 → Int32 → GSt → Prop) (Q : Int32 → GSt → Prop) (x1 : Int32) (x2 : Int32) (x3 : Int32) (x4 : Int32) (x5 : Int32) (x6 : Int32) (σ : GSt) : Prop :=
  (x2 ≤ x6 → D_X11_hasRow_92 K3 K15 Q x1 x2 x3 x4 x5 x6 σ) ∧
  (¬ x2 ≤ x6 → vp_in (σ 237 22) 9 ∧ (¬ (σ 242 (Int32.toNatClampNeg (σ 237 22))) = 0 ∧ (vp_in x5 8 ∧ (vp_in (σ 237 22) 9 ∧ (¬ (σ 242 (Int32.toNatClampNeg (σ 237 22))) = 0 ∧ (vp_in x5 8 ∧ (D_X11_cellAt x1 ((jrem x4 (σ 242 (Int32.toNatClampNeg (σ 237 22)))) + (x6 * (σ 267 (Int32.toNatClampNeg x5)))) ((x4 / (σ 242 (Int32.toNatClampNeg (σ 237 22)))) + (x6 * (σ 268 (Int32.toNatClampNeg x5)))) σ (fun r_1 σ_2 => (¬ r_1 = x3 → D_X11_hasRow_92 K3 K15 Q x1 x2 x3 x4 x5 x6 σ_2) ∧
  (r_1 = x3 → ∀ x6_3 : Int32, x6_3 = x6 + 1 → (K25 x1 x2 x3 x4 x5 x6_3 σ_2))))))))))
def L_X11_hasRow_25 (K3 : Int32 → Int32 → Int32 → Int32 → GSt → Prop) (K15 : Int32 → Int32 → Int32 → Int32 → Int32 → GSt → Prop) (Q : Int32 → GSt → Prop) : Nat → Int32 → Int32 → Int32 → Int32 → Int32 → Int32 → GSt → Prop
  | 0 => fun _ _ _ _ _ _ _ => False
  | n + 1 => fun x1 x2 x3 x4 x5 x6 σ => D_X11_hasRow_25 K3 K15 (L_X11_hasRow_25 K3 K15 Q n) Q x1 x2 x3 x4 x5 x6 σ
def D_X11_hasRow_15 (K3 : Int32 → Int32 → Int32 → Int32 → GSt → Prop) (K15 : Int32 → Int32 → Int32 → Int32 → Int32 → GSt → Prop) (Q : Int32 → GSt → Prop) (x1 : Int32) (x2 : Int32) (x3 : Int32) (x4 : Int32) (x5 : Int32) (σ : GSt) : Prop :=
  (8 ≤ x5 → ∀ x4_1 : Int32, x4_1 = x4 + 1 → (K3 x1 x2 x3 x4_1 σ)) ∧
  (¬ 8 ≤ x5 → ∃ n : Nat, L_X11_hasRow_25 K3 K15 Q n x1 x2 x3 x4 x5 0 σ)
def L_X11_hasRow_15 (K3 : Int32 → Int32 → Int32 → Int32 → GSt → Prop) (Q : Int32 → GSt → Prop) : Nat → Int32 → Int32 → Int32 → Int32 → Int32 → GSt → Prop
  | 0 => fun _ _ _ _ _ _ => False
  | n + 1 => fun x1 x2 x3 x4 x5 σ => D_X11_hasRow_15 K3 (L_X11_hasRow_15 K3 Q n) Q x1 x2 x3 x4 x5 σ
def D_X11_hasRow_3 (K3 : Int32 → Int32 → Int32 → Int32 → GSt → Prop) (Q : Int32 → GSt → Prop) (x1 : Int32) (x2 : Int32) (x3 : Int32) (x4 : Int32) (σ : GSt) : Prop :=
  D_X11_cells  σ (fun r_1 σ_2 => (r_1 ≤ x4 → Q 0 σ_2) ∧
  (¬ r_1 ≤ x4 → ∃ n : Nat, L_X11_hasRow_15 K3 Q n x1 x2 x3 x4 0 σ_2))
def L_X11_hasRow_3 (Q : Int32 → GSt → Prop) : Nat → Int32 → Int32 → Int32 → Int32 → GSt → Prop
  | 0 => fun _ _ _ _ _ => False
  | n + 1 => fun x1 x2 x3 x4 σ => D_X11_hasRow_3 (L_X11_hasRow_3 Q n) Q x1 x2 x3 x4 σ
def D_X11_hasRow_0 (Q : Int32 → GSt → Prop) (x1 : Int32) (x2 : Int32) (x3 : Int32) (σ : GSt) : Prop :=
  ∃ n : Nat, L_X11_hasRow_3 Q n x1 x2 x3 0 σ
def D_X11_hasRow (x1 : Int32) (x2 : Int32) (x3 : Int32) (σ : GSt) (Q : Int32 → GSt → Prop) : Prop := D_X11_hasRow_0 Q x1 x2 x3 σ
set_option maxRecDepth 20000 in
set_option maxHeartbeats 4000000 in
theorem s_X11_hasRow_92 {p : Program} {l : Launch} {e : Env} {s : State} {m : MethodId} {args : Array Value} {below : List Frame} {meth : Method} {c : Code} {G : GC} (X : CallFix p m c cm_X11_hasRow 7 s args lw_us "GameLoomModel") (hr : meth.sig.returnType = some .boolean) (hlk : meth.locks = false) (K3 : Int32 → Int32 → Int32 → Int32 → GSt → Prop) (K15 : Int32 → Int32 → Int32 → Int32 → Int32 → GSt → Prop) (Q : Int32 → GSt → Prop) (hK3 : ∀ (x1 : Int32) (x2 : Int32) (x3 : Int32) (x4 : Int32) (σ : GSt) (H : Heap) (locs : List Loc) (ls : Array Slot), Wo G s H locs σ → lv_has ls 7 [(0, .ref (G.2.1 237)), (1, .int x1), (2, .int x2), (3, .int x3), (4, .int x4)] → K3 x1 x2 x3 x4 σ → W p l e rm_X11_hasRow s m args below meth c H locs 0 0 (QMI G Q below args s) (F0 m 3 ls [])) (hK15 : ∀ (x1 : Int32) (x2 : Int32) (x3 : Int32) (x4 : Int32) (x5 : Int32) (σ : GSt) (H : Heap) (locs : List Loc) (ls : Array Slot), Wo G s H locs σ → lv_has ls 7 [(0, .ref (G.2.1 237)), (1, .int x1), (2, .int x2), (3, .int x3), (4, .int x4), (5, .int x5)] → K15 x1 x2 x3 x4 x5 σ → W p l e rm_X11_hasRow s m args below meth c H locs 0 0 (QMI G Q below args s) (F0 m 15 ls [])) (x1 : Int32) (x2 : Int32) (x3 : Int32) (x4 : Int32) (x5 : Int32) (x6 : Int32) (σ : GSt) {H : Heap} {locs : List Loc} {ls : Array Slot} (hw : Wo G s H locs σ) (hl : lv_has ls 7 [(0, .ref (G.2.1 237)), (1, .int x1), (2, .int x2), (3, .int x3), (4, .int x4), (5, .int x5), (6, .int x6)]) (hD : D_X11_hasRow_92 K3 K15 Q x1 x2 x3 x4 x5 x6 σ) : W p l e rm_X11_hasRow s m args below meth c H locs 0 0 (QMI G Q below args s) (F0 m 92 ls []) := by
  unfold D_X11_hasRow_92 at hD
  refine lv_iload X.1 X.2.1 d_X11_hasRow_92 (lv_at hl 6 rfl) ?_
  refine lv_iload_n X.1 X.2.1 d_X11_hasRow_94 rfl (lv_at hl 2 rfl) ?_
  refine lv_icmp_ne (tgt := 100) X.1 X.2.1 d_X11_hasRow_95 (by decide) (fun q_95 => ?_) (fun q_95 => ?_)
  · have hD := hD.1 q_95
    obtain ⟨x5_1, e_x5_1⟩ : ∃ y : Int32, y = x5 + 1 := ⟨_, rfl⟩
    have hD := hD x5_1 e_x5_1
    refine lv_iinc (v := x5_1) (lv' := [(5, .int x5_1), (0, .ref (G.2.1 237)), (1, .int x1), (2, .int x2), (3, .int x3), (4, .int x4), (6, .int x6)]) X.1 X.2.1 d_X11_hasRow_100 hl (k := 5) rfl (by rw [e_x5_1]; rfl) (by decide) rfl (fun ls hl => ?_)
    refine lv_goto (tgt := 15) X.1 X.2.1 d_X11_hasRow_103 (by decide) ?_
    exact hK15 x1 x2 x3 x4 x5_1 σ _ _ _  hw (lv_sub hl [1, 2, 3, 4, 5, 0] rfl) hD
  · have hD := hD.2 q_95
    refine lv_iconst (v := 1) X.1 X.2.1 d_X11_hasRow_98 (by decide) ?_
    exact g_zret X hr hlk hw (by decide) hD d_X11_hasRow_99
set_option maxRecDepth 20000 in
set_option maxHeartbeats 4000000 in
theorem s_X11_hasRow_25 {p : Program} {l : Launch} {e : Env} {s : State} {m : MethodId} {args : Array Value} {below : List Frame} {meth : Method} {c : Code} {G : GC} (X : CallFix p m c cm_X11_hasRow 7 s args lw_us "GameLoomModel") (hr : meth.sig.returnType = some .boolean) (hlk : meth.locks = false) (K3 : Int32 → Int32 → Int32 → Int32 → GSt → Prop) (K15 : Int32 → Int32 → Int32 → Int32 → Int32 → GSt → Prop) (K25 : Int32 → Int32 → Int32 → Int32 → Int32 → Int32 → GSt → Prop) (Q : Int32 → GSt → Prop) (hK3 : ∀ (x1 : Int32) (x2 : Int32) (x3 : Int32) (x4 : Int32) (σ : GSt) (H : Heap) (locs : List Loc) (ls : Array Slot), Wo G s H locs σ → lv_has ls 7 [(0, .ref (G.2.1 237)), (1, .int x1), (2, .int x2), (3, .int x3), (4, .int x4)] → K3 x1 x2 x3 x4 σ → W p l e rm_X11_hasRow s m args below meth c H locs 0 0 (QMI G Q below args s) (F0 m 3 ls [])) (hK15 : ∀ (x1 : Int32) (x2 : Int32) (x3 : Int32) (x4 : Int32) (x5 : Int32) (σ : GSt) (H : Heap) (locs : List Loc) (ls : Array Slot), Wo G s H locs σ → lv_has ls 7 [(0, .ref (G.2.1 237)), (1, .int x1), (2, .int x2), (3, .int x3), (4, .int x4), (5, .int x5)] → K15 x1 x2 x3 x4 x5 σ → W p l e rm_X11_hasRow s m args below meth c H locs 0 0 (QMI G Q below args s) (F0 m 15 ls [])) (hK25 : ∀ (x1 : Int32) (x2 : Int32) (x3 : Int32) (x4 : Int32) (x5 : Int32) (x6 : Int32) (σ : GSt) (H : Heap) (locs : List Loc) (ls : Array Slot), Wo G s H locs σ → lv_has ls 7 [(0, .ref (G.2.1 237)), (1, .int x1), (2, .int x2), (3, .int x3), (4, .int x4), (5, .int x5), (6, .int x6)] → K25 x1 x2 x3 x4 x5 x6 σ → W p l e rm_X11_hasRow s m args below meth c H locs 0 0 (QMI G Q below args s) (F0 m 25 ls [])) (x1 : Int32) (x2 : Int32) (x3 : Int32) (x4 : Int32) (x5 : Int32) (x6 : Int32) (σ : GSt) {H : Heap} {locs : List Loc} {ls : Array Slot} (hw : Wo G s H locs σ) (hl : lv_has ls 7 [(0, .ref (G.2.1 237)), (1, .int x1), (2, .int x2), (3, .int x3), (4, .int x4), (5, .int x5), (6, .int x6)]) (hD : D_X11_hasRow_25 K3 K15 K25 Q x1 x2 x3 x4 x5 x6 σ) : W p l e rm_X11_hasRow s m args below meth c H locs 0 0 (QMI G Q below args s) (F0 m 25 ls []) := by
  unfold D_X11_hasRow_25 at hD
  refine lv_iload X.1 X.2.1 d_X11_hasRow_25 (lv_at hl 6 rfl) ?_
  refine lv_iload_n X.1 X.2.1 d_X11_hasRow_27 rfl (lv_at hl 2 rfl) ?_
  refine lv_icmp_ge (tgt := 92) X.1 X.2.1 d_X11_hasRow_28 (by decide) (fun q_28 => ?_) (fun q_28 => ?_)
  · have hD := hD.1 q_28
    exact s_X11_hasRow_92 X hr hlk K3 K15 Q hK3 hK15 x1 x2 x3 x4 x5 x6 σ hw (lv_sub hl [0, 1, 2, 3, 4, 5, 6] rfl) hD
  · have hD := hD.2 q_28
    refine lv_aload_n X.1 X.2.1 d_X11_hasRow_31 rfl (lv_at hl 0 rfl) ?_
    refine lv_iload_n X.1 X.2.1 d_X11_hasRow_32 rfl (lv_at hl 1 rfl) ?_
    refine lv_iload X.1 X.2.1 d_X11_hasRow_33 (lv_at hl 4 rfl) ?_
    refine lv_aload_n X.1 X.2.1 d_X11_hasRow_35 rfl (lv_at hl 0 rfl) ?_
    refine gf_11_4 X hw (by decide +kernel : kd 237 = 11) tb_910 d_X11_hasRow_36 ?_
    refine lv_aload_n X.1 X.2.1 d_X11_hasRow_39 rfl (lv_at hl 0 rfl) ?_
    refine gf_11_22 X hw (by decide +kernel : kd 237 = 11) tb_928 d_X11_hasRow_40 ?_
    obtain ⟨q_43, hD⟩ := hD
    refine g_iald X hw ly_11_4.1 ly_11_4.2 q_43 d_X11_hasRow_43 ?_
    obtain ⟨q_44, hD⟩ := hD
    refine g_irem X d_X11_hasRow_44 q_44 ?_
    refine lv_iload X.1 X.2.1 d_X11_hasRow_45 (lv_at hl 6 rfl) ?_
    refine lv_aload_n X.1 X.2.1 d_X11_hasRow_47 rfl (lv_at hl 0 rfl) ?_
    refine gf_11_33 X hw (by decide +kernel : kd 237 = 11) tb_939 d_X11_hasRow_48 ?_
    refine lv_iload X.1 X.2.1 d_X11_hasRow_51 (lv_at hl 5 rfl) ?_
    obtain ⟨q_53, hD⟩ := hD
    refine g_iald X hw ly_11_33.1 ly_11_33.2 q_53 d_X11_hasRow_53 ?_
    refine lv_imul X.1 X.2.1 d_X11_hasRow_54 ?_
    refine lv_iadd X.1 X.2.1 d_X11_hasRow_55 ?_
    refine lv_iload X.1 X.2.1 d_X11_hasRow_56 (lv_at hl 4 rfl) ?_
    refine lv_aload_n X.1 X.2.1 d_X11_hasRow_58 rfl (lv_at hl 0 rfl) ?_
    refine gf_11_4 X hw (by decide +kernel : kd 237 = 11) tb_910 d_X11_hasRow_59 ?_
    refine lv_aload_n X.1 X.2.1 d_X11_hasRow_62 rfl (lv_at hl 0 rfl) ?_
    refine gf_11_22 X hw (by decide +kernel : kd 237 = 11) tb_928 d_X11_hasRow_63 ?_
    obtain ⟨q_66, hD⟩ := hD
    refine g_iald X hw ly_11_4.1 ly_11_4.2 q_66 d_X11_hasRow_66 ?_
    obtain ⟨q_67, hD⟩ := hD
    refine lv_idiv X.1 X.2.1 d_X11_hasRow_67 q_67 ?_
    refine lv_iload X.1 X.2.1 d_X11_hasRow_68 (lv_at hl 6 rfl) ?_
    refine lv_aload_n X.1 X.2.1 d_X11_hasRow_70 rfl (lv_at hl 0 rfl) ?_
    refine gf_11_34 X hw (by decide +kernel : kd 237 = 11) tb_940 d_X11_hasRow_71 ?_
    refine lv_iload X.1 X.2.1 d_X11_hasRow_74 (lv_at hl 5 rfl) ?_
    obtain ⟨q_76, hD⟩ := hD
    refine g_iald X hw ly_11_34.1 ly_11_34.2 q_76 d_X11_hasRow_76 ?_
    refine lv_imul X.1 X.2.1 d_X11_hasRow_77 ?_
    refine lv_iadd X.1 X.2.1 d_X11_hasRow_78 ?_
    refine gcV_i (rest := []) (As := [.int x1, .int ((jrem x4 (σ 242 (Int32.toNatClampNeg (σ 237 22)))) + (x6 * (σ 267 (Int32.toNatClampNeg x5)))), .int ((x4 / (σ 242 (Int32.toNatClampNeg (σ 237 22)))) + (x6 * (σ 268 (Int32.toNatClampNeg x5))))]) (o := 237) X hw (c_X11_cellAt l G x1 ((jrem x4 (σ 242 (Int32.toNatClampNeg (σ 237 22)))) + (x6 * (σ 267 (Int32.toNatClampNeg x5)))) ((x4 / (σ 242 (Int32.toNatClampNeg (σ 237 22)))) + (x6 * (σ 268 (Int32.toNatClampNeg x5)))) σ _  hD) (kd_lt (by decide +kernel : kd 237 = 11) (by decide)) (ce_11 G _ (by decide +kernel : kd 237 = 11)) rfl tb_1192 tb_1194 tv_57 tb_12 tb_1195 hd_X11_cellAt ⟨rfl, rfl⟩ ⟨Nat.le_of_ble_eq_true rfl, Nat.le_of_ble_eq_true rfl⟩ rfl hl.1 rfl (Nat.le_of_ble_eq_true rfl) d_X11_hasRow_79 (fun r_1 σ_2 H locs hD hw => ?_)
    refine lv_iload_n X.1 X.2.1 d_X11_hasRow_82 rfl (lv_at hl 3 rfl) ?_
    refine lv_icmp_ne (tgt := 92) X.1 X.2.1 d_X11_hasRow_83 (by decide) (fun q_83 => ?_) (fun q_83 => ?_)
    · have hD := hD.1 q_83
      exact s_X11_hasRow_92 X hr hlk K3 K15 Q hK3 hK15 x1 x2 x3 x4 x5 x6 σ_2 hw (lv_sub hl [0, 1, 2, 3, 4, 5, 6] rfl) hD
    · have hD := hD.2 q_83
      obtain ⟨x6_3, e_x6_3⟩ : ∃ y : Int32, y = x6 + 1 := ⟨_, rfl⟩
      have hD := hD x6_3 e_x6_3
      refine lv_iinc (v := x6_3) (lv' := [(6, .int x6_3), (0, .ref (G.2.1 237)), (1, .int x1), (2, .int x2), (3, .int x3), (4, .int x4), (5, .int x5)]) X.1 X.2.1 d_X11_hasRow_86 hl (k := 6) rfl (by rw [e_x6_3]; rfl) (by decide) rfl (fun ls hl => ?_)
      refine lv_goto (tgt := 25) X.1 X.2.1 d_X11_hasRow_89 (by decide) ?_
      exact hK25 x1 x2 x3 x4 x5 x6_3 σ_2 _ _ _  hw (lv_sub hl [1, 2, 3, 4, 5, 6, 0] rfl) hD
set_option maxRecDepth 20000 in
set_option maxHeartbeats 4000000 in
theorem sl_X11_hasRow_25 {p : Program} {l : Launch} {e : Env} {s : State} {m : MethodId} {args : Array Value} {below : List Frame} {meth : Method} {c : Code} {G : GC} (X : CallFix p m c cm_X11_hasRow 7 s args lw_us "GameLoomModel") (hr : meth.sig.returnType = some .boolean) (hlk : meth.locks = false) (K3 : Int32 → Int32 → Int32 → Int32 → GSt → Prop) (K15 : Int32 → Int32 → Int32 → Int32 → Int32 → GSt → Prop) (Q : Int32 → GSt → Prop) (hK3 : ∀ (x1 : Int32) (x2 : Int32) (x3 : Int32) (x4 : Int32) (σ : GSt) (H : Heap) (locs : List Loc) (ls : Array Slot), Wo G s H locs σ → lv_has ls 7 [(0, .ref (G.2.1 237)), (1, .int x1), (2, .int x2), (3, .int x3), (4, .int x4)] → K3 x1 x2 x3 x4 σ → W p l e rm_X11_hasRow s m args below meth c H locs 0 0 (QMI G Q below args s) (F0 m 3 ls [])) (hK15 : ∀ (x1 : Int32) (x2 : Int32) (x3 : Int32) (x4 : Int32) (x5 : Int32) (σ : GSt) (H : Heap) (locs : List Loc) (ls : Array Slot), Wo G s H locs σ → lv_has ls 7 [(0, .ref (G.2.1 237)), (1, .int x1), (2, .int x2), (3, .int x3), (4, .int x4), (5, .int x5)] → K15 x1 x2 x3 x4 x5 σ → W p l e rm_X11_hasRow s m args below meth c H locs 0 0 (QMI G Q below args s) (F0 m 15 ls [])) : ∀ (nn : Nat), ∀ (x1 : Int32) (x2 : Int32) (x3 : Int32) (x4 : Int32) (x5 : Int32) (x6 : Int32) (σ : GSt) (H : Heap) (locs : List Loc) (ls : Array Slot), Wo G s H locs σ → lv_has ls 7 [(0, .ref (G.2.1 237)), (1, .int x1), (2, .int x2), (3, .int x3), (4, .int x4), (5, .int x5), (6, .int x6)] → L_X11_hasRow_25 K3 K15 Q nn x1 x2 x3 x4 x5 x6 σ → W p l e rm_X11_hasRow s m args below meth c H locs 0 0 (QMI G Q below args s) (F0 m 25 ls []) := by
  intro nn
  induction nn with
  | zero => intro x1 x2 x3 x4 x5 x6 σ H locs ls  hw hl hD; exact hD.elim
  | succ nn ih =>
    intro x1 x2 x3 x4 x5 x6 σ H locs ls  hw hl hD
    exact s_X11_hasRow_25 X hr hlk K3 K15 (L_X11_hasRow_25 K3 K15 Q nn) Q hK3 hK15 ih x1 x2 x3 x4 x5 x6 σ hw hl hD
set_option maxRecDepth 20000 in
set_option maxHeartbeats 4000000 in
theorem s_X11_hasRow_15 {p : Program} {l : Launch} {e : Env} {s : State} {m : MethodId} {args : Array Value} {below : List Frame} {meth : Method} {c : Code} {G : GC} (X : CallFix p m c cm_X11_hasRow 7 s args lw_us "GameLoomModel") (hr : meth.sig.returnType = some .boolean) (hlk : meth.locks = false) (K3 : Int32 → Int32 → Int32 → Int32 → GSt → Prop) (K15 : Int32 → Int32 → Int32 → Int32 → Int32 → GSt → Prop) (Q : Int32 → GSt → Prop) (hK3 : ∀ (x1 : Int32) (x2 : Int32) (x3 : Int32) (x4 : Int32) (σ : GSt) (H : Heap) (locs : List Loc) (ls : Array Slot), Wo G s H locs σ → lv_has ls 7 [(0, .ref (G.2.1 237)), (1, .int x1), (2, .int x2), (3, .int x3), (4, .int x4)] → K3 x1 x2 x3 x4 σ → W p l e rm_X11_hasRow s m args below meth c H locs 0 0 (QMI G Q below args s) (F0 m 3 ls [])) (hK15 : ∀ (x1 : Int32) (x2 : Int32) (x3 : Int32) (x4 : Int32) (x5 : Int32) (σ : GSt) (H : Heap) (locs : List Loc) (ls : Array Slot), Wo G s H locs σ → lv_has ls 7 [(0, .ref (G.2.1 237)), (1, .int x1), (2, .int x2), (3, .int x3), (4, .int x4), (5, .int x5)] → K15 x1 x2 x3 x4 x5 σ → W p l e rm_X11_hasRow s m args below meth c H locs 0 0 (QMI G Q below args s) (F0 m 15 ls [])) (x1 : Int32) (x2 : Int32) (x3 : Int32) (x4 : Int32) (x5 : Int32) (σ : GSt) {H : Heap} {locs : List Loc} {ls : Array Slot} (hw : Wo G s H locs σ) (hl : lv_has ls 7 [(0, .ref (G.2.1 237)), (1, .int x1), (2, .int x2), (3, .int x3), (4, .int x4), (5, .int x5)]) (hD : D_X11_hasRow_15 K3 K15 Q x1 x2 x3 x4 x5 σ) : W p l e rm_X11_hasRow s m args below meth c H locs 0 0 (QMI G Q below args s) (F0 m 15 ls []) := by
  unfold D_X11_hasRow_15 at hD
  refine lv_iload X.1 X.2.1 d_X11_hasRow_15 (lv_at hl 5 rfl) ?_
  refine lv_bipush (v := 8) X.1 X.2.1 d_X11_hasRow_17 (by decide) ?_
  refine lv_icmp_ge (tgt := 106) X.1 X.2.1 d_X11_hasRow_19 (by decide) (fun q_19 => ?_) (fun q_19 => ?_)
  · have hD := hD.1 q_19
    obtain ⟨x4_1, e_x4_1⟩ : ∃ y : Int32, y = x4 + 1 := ⟨_, rfl⟩
    have hD := hD x4_1 e_x4_1
    refine lv_iinc (v := x4_1) (lv' := [(4, .int x4_1), (0, .ref (G.2.1 237)), (1, .int x1), (2, .int x2), (3, .int x3), (5, .int x5)]) X.1 X.2.1 d_X11_hasRow_106 hl (k := 4) rfl (by rw [e_x4_1]; rfl) (by decide) rfl (fun ls hl => ?_)
    refine lv_goto (tgt := 3) X.1 X.2.1 d_X11_hasRow_109 (by decide) ?_
    exact hK3 x1 x2 x3 x4_1 σ _ _ _  hw (lv_sub hl [1, 2, 3, 4, 0] rfl) hD
  · have hD := hD.2 q_19
    refine lv_iconst (v := 0) X.1 X.2.1 d_X11_hasRow_22 (by decide) ?_
    refine lv_istore (lv' := [(6, .int 0), (0, .ref (G.2.1 237)), (1, .int x1), (2, .int x2), (3, .int x3), (4, .int x4), (5, .int x5)]) X.1 X.2.1 d_X11_hasRow_23 hl (by decide) rfl (fun ls hl => ?_)
    obtain ⟨n9, hD⟩ := hD
    exact sl_X11_hasRow_25 X hr hlk K3 K15 Q hK3 hK15 n9 x1 x2 x3 x4 x5 0 σ _ _ _  hw (lv_sub hl [1, 2, 3, 4, 5, 6, 0] rfl) hD
set_option maxRecDepth 20000 in
set_option maxHeartbeats 4000000 in
theorem sl_X11_hasRow_15 {p : Program} {l : Launch} {e : Env} {s : State} {m : MethodId} {args : Array Value} {below : List Frame} {meth : Method} {c : Code} {G : GC} (X : CallFix p m c cm_X11_hasRow 7 s args lw_us "GameLoomModel") (hr : meth.sig.returnType = some .boolean) (hlk : meth.locks = false) (K3 : Int32 → Int32 → Int32 → Int32 → GSt → Prop) (Q : Int32 → GSt → Prop) (hK3 : ∀ (x1 : Int32) (x2 : Int32) (x3 : Int32) (x4 : Int32) (σ : GSt) (H : Heap) (locs : List Loc) (ls : Array Slot), Wo G s H locs σ → lv_has ls 7 [(0, .ref (G.2.1 237)), (1, .int x1), (2, .int x2), (3, .int x3), (4, .int x4)] → K3 x1 x2 x3 x4 σ → W p l e rm_X11_hasRow s m args below meth c H locs 0 0 (QMI G Q below args s) (F0 m 3 ls [])) : ∀ (nn : Nat), ∀ (x1 : Int32) (x2 : Int32) (x3 : Int32) (x4 : Int32) (x5 : Int32) (σ : GSt) (H : Heap) (locs : List Loc) (ls : Array Slot), Wo G s H locs σ → lv_has ls 7 [(0, .ref (G.2.1 237)), (1, .int x1), (2, .int x2), (3, .int x3), (4, .int x4), (5, .int x5)] → L_X11_hasRow_15 K3 Q nn x1 x2 x3 x4 x5 σ → W p l e rm_X11_hasRow s m args below meth c H locs 0 0 (QMI G Q below args s) (F0 m 15 ls []) := by
  intro nn
  induction nn with
  | zero => intro x1 x2 x3 x4 x5 σ H locs ls  hw hl hD; exact hD.elim
  | succ nn ih =>
    intro x1 x2 x3 x4 x5 σ H locs ls  hw hl hD
    exact s_X11_hasRow_15 X hr hlk K3 (L_X11_hasRow_15 K3 Q nn) Q hK3 ih x1 x2 x3 x4 x5 σ hw hl hD
set_option maxRecDepth 20000 in
set_option maxHeartbeats 4000000 in
theorem s_X11_hasRow_3 {p : Program} {l : Launch} {e : Env} {s : State} {m : MethodId} {args : Array Value} {below : List Frame} {meth : Method} {c : Code} {G : GC} (X : CallFix p m c cm_X11_hasRow 7 s args lw_us "GameLoomModel") (hr : meth.sig.returnType = some .boolean) (hlk : meth.locks = false) (K3 : Int32 → Int32 → Int32 → Int32 → GSt → Prop) (Q : Int32 → GSt → Prop) (hK3 : ∀ (x1 : Int32) (x2 : Int32) (x3 : Int32) (x4 : Int32) (σ : GSt) (H : Heap) (locs : List Loc) (ls : Array Slot), Wo G s H locs σ → lv_has ls 7 [(0, .ref (G.2.1 237)), (1, .int x1), (2, .int x2), (3, .int x3), (4, .int x4)] → K3 x1 x2 x3 x4 σ → W p l e rm_X11_hasRow s m args below meth c H locs 0 0 (QMI G Q below args s) (F0 m 3 ls [])) (x1 : Int32) (x2 : Int32) (x3 : Int32) (x4 : Int32) (σ : GSt) {H : Heap} {locs : List Loc} {ls : Array Slot} (hw : Wo G s H locs σ) (hl : lv_has ls 7 [(0, .ref (G.2.1 237)), (1, .int x1), (2, .int x2), (3, .int x3), (4, .int x4)]) (hD : D_X11_hasRow_3 K3 Q x1 x2 x3 x4 σ) : W p l e rm_X11_hasRow s m args below meth c H locs 0 0 (QMI G Q below args s) (F0 m 3 ls []) := by
  unfold D_X11_hasRow_3 at hD
  refine lv_iload X.1 X.2.1 d_X11_hasRow_3 (lv_at hl 4 rfl) ?_
  refine lv_aload_n X.1 X.2.1 d_X11_hasRow_5 rfl (lv_at hl 0 rfl) ?_
  refine gcV_i (rest := [.int x4]) (As := []) (o := 237) X hw (c_X11_cells l G  σ _  hD) (kd_lt (by decide +kernel : kd 237 = 11) (by decide)) (ce_11 G _ (by decide +kernel : kd 237 = 11)) rfl tb_1180 tb_1182 tv_54 tb_12 tb_1183 hd_X11_cells ⟨rfl, rfl⟩ ⟨Nat.le_of_ble_eq_true rfl, Nat.le_of_ble_eq_true rfl⟩ rfl hl.1 rfl (Nat.le_of_ble_eq_true rfl) d_X11_hasRow_6 (fun r_1 σ_2 H locs hD hw => ?_)
  refine lv_icmp_ge (tgt := 112) X.1 X.2.1 d_X11_hasRow_9 (by decide) (fun q_9 => ?_) (fun q_9 => ?_)
  · have hD := hD.1 q_9
    refine lv_iconst (v := 0) X.1 X.2.1 d_X11_hasRow_112 (by decide) ?_
    exact g_zret X hr hlk hw (by decide) hD d_X11_hasRow_113
  · have hD := hD.2 q_9
    refine lv_iconst (v := 0) X.1 X.2.1 d_X11_hasRow_12 (by decide) ?_
    refine lv_istore (lv' := [(5, .int 0), (0, .ref (G.2.1 237)), (1, .int x1), (2, .int x2), (3, .int x3), (4, .int x4)]) X.1 X.2.1 d_X11_hasRow_13 hl (by decide) rfl (fun ls hl => ?_)
    obtain ⟨n9, hD⟩ := hD
    exact sl_X11_hasRow_15 X hr hlk K3 Q hK3 n9 x1 x2 x3 x4 0 σ_2 _ _ _  hw (lv_sub hl [1, 2, 3, 4, 5, 0] rfl) hD
set_option maxRecDepth 20000 in
set_option maxHeartbeats 4000000 in
theorem sl_X11_hasRow_3 {p : Program} {l : Launch} {e : Env} {s : State} {m : MethodId} {args : Array Value} {below : List Frame} {meth : Method} {c : Code} {G : GC} (X : CallFix p m c cm_X11_hasRow 7 s args lw_us "GameLoomModel") (hr : meth.sig.returnType = some .boolean) (hlk : meth.locks = false) (Q : Int32 → GSt → Prop) : ∀ (nn : Nat), ∀ (x1 : Int32) (x2 : Int32) (x3 : Int32) (x4 : Int32) (σ : GSt) (H : Heap) (locs : List Loc) (ls : Array Slot), Wo G s H locs σ → lv_has ls 7 [(0, .ref (G.2.1 237)), (1, .int x1), (2, .int x2), (3, .int x3), (4, .int x4)] → L_X11_hasRow_3 Q nn x1 x2 x3 x4 σ → W p l e rm_X11_hasRow s m args below meth c H locs 0 0 (QMI G Q below args s) (F0 m 3 ls []) := by
  intro nn
  induction nn with
  | zero => intro x1 x2 x3 x4 σ H locs ls  hw hl hD; exact hD.elim
  | succ nn ih =>
    intro x1 x2 x3 x4 σ H locs ls  hw hl hD
    exact s_X11_hasRow_3 X hr hlk (L_X11_hasRow_3 Q nn) Q ih x1 x2 x3 x4 σ hw hl hD
set_option maxRecDepth 20000 in
set_option maxHeartbeats 4000000 in
theorem s_X11_hasRow_0 {p : Program} {l : Launch} {e : Env} {s : State} {m : MethodId} {args : Array Value} {below : List Frame} {meth : Method} {c : Code} {G : GC} (X : CallFix p m c cm_X11_hasRow 7 s args lw_us "GameLoomModel") (hr : meth.sig.returnType = some .boolean) (hlk : meth.locks = false) (Q : Int32 → GSt → Prop) (x1 : Int32) (x2 : Int32) (x3 : Int32) (σ : GSt) {H : Heap} {locs : List Loc} {ls : Array Slot} (hw : Wo G s H locs σ) (hl : lv_has ls 7 [(0, .ref (G.2.1 237)), (1, .int x1), (2, .int x2), (3, .int x3)]) (hD : D_X11_hasRow_0 Q x1 x2 x3 σ) : W p l e rm_X11_hasRow s m args below meth c H locs 0 0 (QMI G Q below args s) (F0 m 0 ls []) := by
  unfold D_X11_hasRow_0 at hD
  refine lv_iconst (v := 0) X.1 X.2.1 d_X11_hasRow_0 (by decide) ?_
  refine lv_istore (lv' := [(4, .int 0), (0, .ref (G.2.1 237)), (1, .int x1), (2, .int x2), (3, .int x3)]) X.1 X.2.1 d_X11_hasRow_1 hl (by decide) rfl (fun ls hl => ?_)
  obtain ⟨n9, hD⟩ := hD
  exact sl_X11_hasRow_3 X hr hlk  Q  n9 x1 x2 x3 0 σ _ _ _  hw (lv_sub hl [1, 2, 3, 4, 0] rfl) hD
theorem c_X11_hasRow (l : Launch) (G : GC) (x1 : Int32) (x2 : Int32) (x3 : Int32) (σ : GSt) (Q : Int32 → GSt → Prop)  (hD : D_X11_hasRow x1 x2 x3 σ Q) : MI l ym_X11_hasRow cm_X11_hasRow 7 .boolean rm_X11_hasRow G σ [.ref (G.2.1 237), .int x1, .int x2, .int x3] Q := by
  refine met_i (by decide) (Nat.le_of_ble_eq_true rfl) ?_
  intro p e s m args below meth c X hr hlk hw ls hl
  exact s_X11_hasRow_0 X hr hlk Q  x1 x2 x3 σ hw (lv_sub hl [0, 1, 2, 3] rfl) hD
theorem hd_X11_hasWay : ym_X11_hasWay.cls = "GameLoomModel" ∧ ym_X11_hasWay.cls ≠ "java/lang/invoke/MethodHandle" ∧ ym_X11_hasWay.cls ≠ "java/lang/invoke/VarHandle" ∧ (parseMethodDescriptor ym_X11_hasWay.desc).map (fun d => d.parameters.length) = some 2 := by decide +kernel
abbrev rm_X11_hasWay : Room := { frames := 1, cells := 0, slots := 0, locals := 20 }
theorem d_X11_hasWay_0 : decode cm_X11_hasWay 0 = .ok (.aload_n 0, 1) := by decide +kernel
theorem d_X11_hasWay_1 : decode cm_X11_hasWay 1 = .ok (.getfield 22, 3) := by decide +kernel
theorem d_X11_hasWay_4 : decode cm_X11_hasWay 4 = .ok (.aload_n 0, 1) := by decide +kernel
theorem d_X11_hasWay_5 : decode cm_X11_hasWay 5 = .ok (.getfield 156, 3) := by decide +kernel
theorem d_X11_hasWay_8 : decode cm_X11_hasWay 8 = .ok (.iaload, 1) := by decide +kernel
theorem d_X11_hasWay_9 : decode cm_X11_hasWay 9 = .ok (.istore_n 3, 1) := by decide +kernel
theorem d_X11_hasWay_10 : decode cm_X11_hasWay 10 = .ok (.iconst 0, 1) := by decide +kernel
theorem d_X11_hasWay_11 : decode cm_X11_hasWay 11 = .ok (.istore 4, 2) := by decide +kernel
theorem d_X11_hasWay_13 : decode cm_X11_hasWay 13 = .ok (.iload 4, 2) := by decide +kernel
theorem d_X11_hasWay_15 : decode cm_X11_hasWay 15 = .ok (.aload_n 0, 1) := by decide +kernel
theorem d_X11_hasWay_16 : decode cm_X11_hasWay 16 = .ok (.invokevirtual 210, 3) := by decide +kernel
theorem d_X11_hasWay_19 : decode cm_X11_hasWay 19 = .ok (.if_icmp .ge 59, 3) := by decide +kernel
theorem d_X11_hasWay_22 : decode cm_X11_hasWay 22 = .ok (.aload_n 0, 1) := by decide +kernel
theorem d_X11_hasWay_23 : decode cm_X11_hasWay 23 = .ok (.getfield 104, 3) := by decide +kernel
theorem d_X11_hasWay_26 : decode cm_X11_hasWay 26 = .ok (.iload 4, 2) := by decide +kernel
theorem d_X11_hasWay_28 : decode cm_X11_hasWay 28 = .ok (.aload_n 0, 1) := by decide +kernel
theorem d_X11_hasWay_29 : decode cm_X11_hasWay 29 = .ok (.getfield 68, 3) := by decide +kernel
theorem d_X11_hasWay_32 : decode cm_X11_hasWay 32 = .ok (.bipush 16, 2) := by decide +kernel
theorem d_X11_hasWay_34 : decode cm_X11_hasWay 34 = .ok (.iload_n 1, 1) := by decide +kernel
theorem d_X11_hasWay_35 : decode cm_X11_hasWay 35 = .ok (.imul, 1) := by decide +kernel
theorem d_X11_hasWay_36 : decode cm_X11_hasWay 36 = .ok (.iload 4, 2) := by decide +kernel
theorem d_X11_hasWay_38 : decode cm_X11_hasWay 38 = .ok (.iadd, 1) := by decide +kernel
theorem d_X11_hasWay_39 : decode cm_X11_hasWay 39 = .ok (.iaload, 1) := by decide +kernel
theorem d_X11_hasWay_40 : decode cm_X11_hasWay 40 = .ok (.iload_n 2, 1) := by decide +kernel
theorem d_X11_hasWay_41 : decode cm_X11_hasWay 41 = .ok (.if_icmp .ne 29, 3) := by decide +kernel
theorem d_X11_hasWay_44 : decode cm_X11_hasWay 44 = .ok (.iload_n 2, 1) := by decide +kernel
theorem d_X11_hasWay_45 : decode cm_X11_hasWay 45 = .ok (.iconst 1, 1) := by decide +kernel
theorem d_X11_hasWay_46 : decode cm_X11_hasWay 46 = .ok (.if_icmp .ne 13, 3) := by decide +kernel
theorem d_X11_hasWay_49 : decode cm_X11_hasWay 49 = .ok (.iload 4, 2) := by decide +kernel
theorem d_X11_hasWay_51 : decode cm_X11_hasWay 51 = .ok (.iload_n 3, 1) := by decide +kernel
theorem d_X11_hasWay_52 : decode cm_X11_hasWay 52 = .ok (.idiv, 1) := by decide +kernel
theorem d_X11_hasWay_53 : decode cm_X11_hasWay 53 = .ok (.ifCond .ne 17, 3) := by decide +kernel
theorem d_X11_hasWay_56 : decode cm_X11_hasWay 56 = .ok (.goto 10, 3) := by decide +kernel
theorem d_X11_hasWay_59 : decode cm_X11_hasWay 59 = .ok (.iload 4, 2) := by decide +kernel
theorem d_X11_hasWay_61 : decode cm_X11_hasWay 61 = .ok (.iload_n 3, 1) := by decide +kernel
theorem d_X11_hasWay_62 : decode cm_X11_hasWay 62 = .ok (.irem, 1) := by decide +kernel
theorem d_X11_hasWay_63 : decode cm_X11_hasWay 63 = .ok (.ifCond .ne 7, 3) := by decide +kernel
theorem d_X11_hasWay_66 : decode cm_X11_hasWay 66 = .ok (.iconst 1, 1) := by decide +kernel
theorem d_X11_hasWay_67 : decode cm_X11_hasWay 67 = .ok (.goto 4, 3) := by decide +kernel
theorem d_X11_hasWay_70 : decode cm_X11_hasWay 70 = .ok (.iconst 0, 1) := by decide +kernel
theorem d_X11_hasWay_71 : decode cm_X11_hasWay 71 = .ok (.bastore, 1) := by decide +kernel
theorem d_X11_hasWay_72 : decode cm_X11_hasWay 72 = .ok (.iinc 4 1, 3) := by decide +kernel
theorem d_X11_hasWay_75 : decode cm_X11_hasWay 75 = .ok (.goto (-62), 3) := by decide +kernel
theorem d_X11_hasWay_78 : decode cm_X11_hasWay 78 = .ok (.iconst 0, 1) := by decide +kernel
theorem d_X11_hasWay_79 : decode cm_X11_hasWay 79 = .ok (.istore 4, 2) := by decide +kernel
theorem d_X11_hasWay_81 : decode cm_X11_hasWay 81 = .ok (.iload 4, 2) := by decide +kernel
theorem d_X11_hasWay_83 : decode cm_X11_hasWay 83 = .ok (.aload_n 0, 1) := by decide +kernel
theorem d_X11_hasWay_84 : decode cm_X11_hasWay 84 = .ok (.invokevirtual 210, 3) := by decide +kernel
theorem d_X11_hasWay_87 : decode cm_X11_hasWay 87 = .ok (.if_icmp .ge 145, 3) := by decide +kernel
theorem d_X11_hasWay_90 : decode cm_X11_hasWay 90 = .ok (.iconst 0, 1) := by decide +kernel
theorem d_X11_hasWay_91 : decode cm_X11_hasWay 91 = .ok (.istore 5, 2) := by decide +kernel
theorem d_X11_hasWay_93 : decode cm_X11_hasWay 93 = .ok (.iload 5, 2) := by decide +kernel
theorem d_X11_hasWay_95 : decode cm_X11_hasWay 95 = .ok (.aload_n 0, 1) := by decide +kernel
theorem d_X11_hasWay_96 : decode cm_X11_hasWay 96 = .ok (.invokevirtual 210, 3) := by decide +kernel
theorem d_X11_hasWay_99 : decode cm_X11_hasWay 99 = .ok (.if_icmp .ge 127, 3) := by decide +kernel
theorem d_X11_hasWay_102 : decode cm_X11_hasWay 102 = .ok (.iload 5, 2) := by decide +kernel
theorem d_X11_hasWay_104 : decode cm_X11_hasWay 104 = .ok (.iload_n 3, 1) := by decide +kernel
theorem d_X11_hasWay_105 : decode cm_X11_hasWay 105 = .ok (.irem, 1) := by decide +kernel
theorem d_X11_hasWay_106 : decode cm_X11_hasWay 106 = .ok (.ifCond .le 15, 3) := by decide +kernel
theorem d_X11_hasWay_109 : decode cm_X11_hasWay 109 = .ok (.aload_n 0, 1) := by decide +kernel
theorem d_X11_hasWay_110 : decode cm_X11_hasWay 110 = .ok (.getfield 104, 3) := by decide +kernel
theorem d_X11_hasWay_113 : decode cm_X11_hasWay 113 = .ok (.iload 5, 2) := by decide +kernel
theorem d_X11_hasWay_115 : decode cm_X11_hasWay 115 = .ok (.iconst 1, 1) := by decide +kernel
theorem d_X11_hasWay_116 : decode cm_X11_hasWay 116 = .ok (.isub, 1) := by decide +kernel
theorem d_X11_hasWay_117 : decode cm_X11_hasWay 117 = .ok (.baload, 1) := by decide +kernel
theorem d_X11_hasWay_118 : decode cm_X11_hasWay 118 = .ok (.ifCond .ne 66, 3) := by decide +kernel
theorem d_X11_hasWay_121 : decode cm_X11_hasWay 121 = .ok (.iload 5, 2) := by decide +kernel
theorem d_X11_hasWay_123 : decode cm_X11_hasWay 123 = .ok (.iload_n 3, 1) := by decide +kernel
theorem d_X11_hasWay_124 : decode cm_X11_hasWay 124 = .ok (.irem, 1) := by decide +kernel
theorem d_X11_hasWay_125 : decode cm_X11_hasWay 125 = .ok (.iload_n 3, 1) := by decide +kernel
theorem d_X11_hasWay_126 : decode cm_X11_hasWay 126 = .ok (.iconst 1, 1) := by decide +kernel
theorem d_X11_hasWay_127 : decode cm_X11_hasWay 127 = .ok (.isub, 1) := by decide +kernel
theorem d_X11_hasWay_128 : decode cm_X11_hasWay 128 = .ok (.if_icmp .ge 15, 3) := by decide +kernel
theorem d_X11_hasWay_131 : decode cm_X11_hasWay 131 = .ok (.aload_n 0, 1) := by decide +kernel
theorem d_X11_hasWay_132 : decode cm_X11_hasWay 132 = .ok (.getfield 104, 3) := by decide +kernel
theorem d_X11_hasWay_135 : decode cm_X11_hasWay 135 = .ok (.iload 5, 2) := by decide +kernel
theorem d_X11_hasWay_137 : decode cm_X11_hasWay 137 = .ok (.iconst 1, 1) := by decide +kernel
theorem d_X11_hasWay_138 : decode cm_X11_hasWay 138 = .ok (.iadd, 1) := by decide +kernel
theorem d_X11_hasWay_139 : decode cm_X11_hasWay 139 = .ok (.baload, 1) := by decide +kernel
theorem d_X11_hasWay_140 : decode cm_X11_hasWay 140 = .ok (.ifCond .ne 44, 3) := by decide +kernel
theorem d_X11_hasWay_143 : decode cm_X11_hasWay 143 = .ok (.iload 5, 2) := by decide +kernel
theorem d_X11_hasWay_145 : decode cm_X11_hasWay 145 = .ok (.iload_n 3, 1) := by decide +kernel
theorem d_X11_hasWay_146 : decode cm_X11_hasWay 146 = .ok (.if_icmp .lt 15, 3) := by decide +kernel
theorem d_X11_hasWay_149 : decode cm_X11_hasWay 149 = .ok (.aload_n 0, 1) := by decide +kernel
theorem d_X11_hasWay_150 : decode cm_X11_hasWay 150 = .ok (.getfield 104, 3) := by decide +kernel
theorem d_X11_hasWay_153 : decode cm_X11_hasWay 153 = .ok (.iload 5, 2) := by decide +kernel
theorem d_X11_hasWay_155 : decode cm_X11_hasWay 155 = .ok (.iload_n 3, 1) := by decide +kernel
theorem d_X11_hasWay_156 : decode cm_X11_hasWay 156 = .ok (.isub, 1) := by decide +kernel
theorem d_X11_hasWay_157 : decode cm_X11_hasWay 157 = .ok (.baload, 1) := by decide +kernel
theorem d_X11_hasWay_158 : decode cm_X11_hasWay 158 = .ok (.ifCond .ne 26, 3) := by decide +kernel
theorem d_X11_hasWay_161 : decode cm_X11_hasWay 161 = .ok (.iload 5, 2) := by decide +kernel
theorem d_X11_hasWay_163 : decode cm_X11_hasWay 163 = .ok (.iload_n 3, 1) := by decide +kernel
theorem d_X11_hasWay_164 : decode cm_X11_hasWay 164 = .ok (.iadd, 1) := by decide +kernel
theorem d_X11_hasWay_165 : decode cm_X11_hasWay 165 = .ok (.aload_n 0, 1) := by decide +kernel
theorem d_X11_hasWay_166 : decode cm_X11_hasWay 166 = .ok (.invokevirtual 210, 3) := by decide +kernel
theorem d_X11_hasWay_169 : decode cm_X11_hasWay 169 = .ok (.if_icmp .ge 19, 3) := by decide +kernel
theorem d_X11_hasWay_172 : decode cm_X11_hasWay 172 = .ok (.aload_n 0, 1) := by decide +kernel
theorem d_X11_hasWay_173 : decode cm_X11_hasWay 173 = .ok (.getfield 104, 3) := by decide +kernel
theorem d_X11_hasWay_176 : decode cm_X11_hasWay 176 = .ok (.iload 5, 2) := by decide +kernel
theorem d_X11_hasWay_178 : decode cm_X11_hasWay 178 = .ok (.iload_n 3, 1) := by decide +kernel
theorem d_X11_hasWay_179 : decode cm_X11_hasWay 179 = .ok (.iadd, 1) := by decide +kernel
theorem d_X11_hasWay_180 : decode cm_X11_hasWay 180 = .ok (.baload, 1) := by decide +kernel
theorem d_X11_hasWay_181 : decode cm_X11_hasWay 181 = .ok (.ifCond .eq 7, 3) := by decide +kernel
theorem d_X11_hasWay_184 : decode cm_X11_hasWay 184 = .ok (.iconst 1, 1) := by decide +kernel
theorem d_X11_hasWay_185 : decode cm_X11_hasWay 185 = .ok (.goto 4, 3) := by decide +kernel
theorem d_X11_hasWay_188 : decode cm_X11_hasWay 188 = .ok (.iconst 0, 1) := by decide +kernel
theorem d_X11_hasWay_189 : decode cm_X11_hasWay 189 = .ok (.istore 6, 2) := by decide +kernel
theorem d_X11_hasWay_191 : decode cm_X11_hasWay 191 = .ok (.aload_n 0, 1) := by decide +kernel
theorem d_X11_hasWay_192 : decode cm_X11_hasWay 192 = .ok (.getfield 68, 3) := by decide +kernel
theorem d_X11_hasWay_195 : decode cm_X11_hasWay 195 = .ok (.bipush 16, 2) := by decide +kernel
theorem d_X11_hasWay_197 : decode cm_X11_hasWay 197 = .ok (.iload_n 1, 1) := by decide +kernel
theorem d_X11_hasWay_198 : decode cm_X11_hasWay 198 = .ok (.imul, 1) := by decide +kernel
theorem d_X11_hasWay_199 : decode cm_X11_hasWay 199 = .ok (.iload 5, 2) := by decide +kernel
theorem d_X11_hasWay_201 : decode cm_X11_hasWay 201 = .ok (.iadd, 1) := by decide +kernel
theorem d_X11_hasWay_202 : decode cm_X11_hasWay 202 = .ok (.iaload, 1) := by decide +kernel
theorem d_X11_hasWay_203 : decode cm_X11_hasWay 203 = .ok (.iload_n 2, 1) := by decide +kernel
theorem d_X11_hasWay_204 : decode cm_X11_hasWay 204 = .ok (.if_icmp .ne 16, 3) := by decide +kernel
theorem d_X11_hasWay_207 : decode cm_X11_hasWay 207 = .ok (.iload 6, 2) := by decide +kernel
theorem d_X11_hasWay_209 : decode cm_X11_hasWay 209 = .ok (.ifCond .eq 11, 3) := by decide +kernel
theorem d_X11_hasWay_212 : decode cm_X11_hasWay 212 = .ok (.aload_n 0, 1) := by decide +kernel
theorem d_X11_hasWay_213 : decode cm_X11_hasWay 213 = .ok (.getfield 104, 3) := by decide +kernel
theorem d_X11_hasWay_216 : decode cm_X11_hasWay 216 = .ok (.iload 5, 2) := by decide +kernel
theorem d_X11_hasWay_218 : decode cm_X11_hasWay 218 = .ok (.iconst 1, 1) := by decide +kernel
theorem d_X11_hasWay_219 : decode cm_X11_hasWay 219 = .ok (.bastore, 1) := by decide +kernel
theorem d_X11_hasWay_220 : decode cm_X11_hasWay 220 = .ok (.iinc 5 1, 3) := by decide +kernel
theorem d_X11_hasWay_223 : decode cm_X11_hasWay 223 = .ok (.goto (-130), 3) := by decide +kernel
theorem d_X11_hasWay_226 : decode cm_X11_hasWay 226 = .ok (.iinc 4 1, 3) := by decide +kernel
theorem d_X11_hasWay_229 : decode cm_X11_hasWay 229 = .ok (.goto (-148), 3) := by decide +kernel
theorem d_X11_hasWay_232 : decode cm_X11_hasWay 232 = .ok (.iconst 0, 1) := by decide +kernel
theorem d_X11_hasWay_233 : decode cm_X11_hasWay 233 = .ok (.istore 4, 2) := by decide +kernel
theorem d_X11_hasWay_235 : decode cm_X11_hasWay 235 = .ok (.iload 4, 2) := by decide +kernel
theorem d_X11_hasWay_237 : decode cm_X11_hasWay 237 = .ok (.aload_n 0, 1) := by decide +kernel
theorem d_X11_hasWay_238 : decode cm_X11_hasWay 238 = .ok (.invokevirtual 210, 3) := by decide +kernel
theorem d_X11_hasWay_241 : decode cm_X11_hasWay 241 = .ok (.if_icmp .ge 57, 3) := by decide +kernel
theorem d_X11_hasWay_244 : decode cm_X11_hasWay 244 = .ok (.aload_n 0, 1) := by decide +kernel
theorem d_X11_hasWay_245 : decode cm_X11_hasWay 245 = .ok (.getfield 104, 3) := by decide +kernel
theorem d_X11_hasWay_248 : decode cm_X11_hasWay 248 = .ok (.iload 4, 2) := by decide +kernel
theorem d_X11_hasWay_250 : decode cm_X11_hasWay 250 = .ok (.baload, 1) := by decide +kernel
theorem d_X11_hasWay_251 : decode cm_X11_hasWay 251 = .ok (.ifCond .eq 41, 3) := by decide +kernel
theorem d_X11_hasWay_254 : decode cm_X11_hasWay 254 = .ok (.iload_n 2, 1) := by decide +kernel
theorem d_X11_hasWay_255 : decode cm_X11_hasWay 255 = .ok (.iconst 1, 1) := by decide +kernel
theorem d_X11_hasWay_256 : decode cm_X11_hasWay 256 = .ok (.if_icmp .ne 24, 3) := by decide +kernel
theorem d_X11_hasWay_259 : decode cm_X11_hasWay 259 = .ok (.iload 4, 2) := by decide +kernel
theorem d_X11_hasWay_261 : decode cm_X11_hasWay 261 = .ok (.iload_n 3, 1) := by decide +kernel
theorem d_X11_hasWay_262 : decode cm_X11_hasWay 262 = .ok (.idiv, 1) := by decide +kernel
theorem d_X11_hasWay_263 : decode cm_X11_hasWay 263 = .ok (.aload_n 0, 1) := by decide +kernel
theorem d_X11_hasWay_264 : decode cm_X11_hasWay 264 = .ok (.getfield 25, 3) := by decide +kernel
theorem d_X11_hasWay_267 : decode cm_X11_hasWay 267 = .ok (.aload_n 0, 1) := by decide +kernel
theorem d_X11_hasWay_268 : decode cm_X11_hasWay 268 = .ok (.getfield 156, 3) := by decide +kernel
theorem d_X11_hasWay_271 : decode cm_X11_hasWay 271 = .ok (.iaload, 1) := by decide +kernel
theorem d_X11_hasWay_272 : decode cm_X11_hasWay 272 = .ok (.iconst 1, 1) := by decide +kernel
theorem d_X11_hasWay_273 : decode cm_X11_hasWay 273 = .ok (.isub, 1) := by decide +kernel
theorem d_X11_hasWay_274 : decode cm_X11_hasWay 274 = .ok (.if_icmp .ne 18, 3) := by decide +kernel
theorem d_X11_hasWay_277 : decode cm_X11_hasWay 277 = .ok (.goto 13, 3) := by decide +kernel
theorem d_X11_hasWay_280 : decode cm_X11_hasWay 280 = .ok (.iload 4, 2) := by decide +kernel
theorem d_X11_hasWay_282 : decode cm_X11_hasWay 282 = .ok (.iload_n 3, 1) := by decide +kernel
theorem d_X11_hasWay_283 : decode cm_X11_hasWay 283 = .ok (.irem, 1) := by decide +kernel
theorem d_X11_hasWay_284 : decode cm_X11_hasWay 284 = .ok (.iload_n 3, 1) := by decide +kernel
theorem d_X11_hasWay_285 : decode cm_X11_hasWay 285 = .ok (.iconst 1, 1) := by decide +kernel
theorem d_X11_hasWay_286 : decode cm_X11_hasWay 286 = .ok (.isub, 1) := by decide +kernel
theorem d_X11_hasWay_287 : decode cm_X11_hasWay 287 = .ok (.if_icmp .ne 5, 3) := by decide +kernel
theorem d_X11_hasWay_290 : decode cm_X11_hasWay 290 = .ok (.iconst 1, 1) := by decide +kernel
theorem d_X11_hasWay_291 : decode cm_X11_hasWay 291 = .ok (.ireturn, 1) := by decide +kernel
theorem d_X11_hasWay_292 : decode cm_X11_hasWay 292 = .ok (.iinc 4 1, 3) := by decide +kernel
theorem d_X11_hasWay_295 : decode cm_X11_hasWay 295 = .ok (.goto (-60), 3) := by decide +kernel
theorem d_X11_hasWay_298 : decode cm_X11_hasWay 298 = .ok (.iconst 0, 1) := by decide +kernel
theorem d_X11_hasWay_299 : decode cm_X11_hasWay 299 = .ok (.ireturn, 1) := by decide +kernel
def D_X11_hasWay_292 (K235 : Int32 → Int32 → Int32 → GSt → Prop) (Q : Int32 → GSt → Prop) (x2 : Int32) (x3 : Int32) (x4 : Int32) (σ : GSt) : Prop :=
  ∀ x4_1 : Int32, x4_1 = x4 + 1 → (K235 x2 x3 x4_1 σ)
def D_X11_hasWay_235 (K235 : Int32 → Int32 → Int32 → GSt → Prop) (Q : Int32 → GSt → Prop) (x2 : Int32) (x3 : Int32) (x4 : Int32) (σ : GSt) : Prop :=
  D_X11_cells  σ (fun r_1 σ_2 => (r_1 ≤ x4 → Q 0 σ_2) ∧
  (¬ r_1 ≤ x4 → vp_in x4 16 ∧ (((σ_2 269 (Int32.toNatClampNeg x4)) = 0 → D_X11_hasWay_292 K235 Q x2 x3 x4 σ_2) ∧
  (¬ (σ_2 269 (Int32.toNatClampNeg x4)) = 0 → (¬ x2 = 1 → ¬ x3 = 0 ∧ ((¬ (jrem x4 x3) = (x3 - 1) → D_X11_hasWay_292 K235 Q x2 x3 x4 σ_2) ∧
  ((jrem x4 x3) = (x3 - 1) → Q 1 σ_2))) ∧
  (x2 = 1 → ¬ x3 = 0 ∧ (vp_in (σ_2 237 22) 9 ∧ ((¬ (x4 / x3) = ((σ_2 243 (Int32.toNatClampNeg (σ_2 237 22))) - 1) → D_X11_hasWay_292 K235 Q x2 x3 x4 σ_2) ∧
  ((x4 / x3) = ((σ_2 243 (Int32.toNatClampNeg (σ_2 237 22))) - 1) → Q 1 σ_2))))))))
def L_X11_hasWay_235 (Q : Int32 → GSt → Prop) : Nat → Int32 → Int32 → Int32 → GSt → Prop
  | 0 => fun _ _ _ _ => False
  | n + 1 => fun x2 x3 x4 σ => D_X11_hasWay_235 (L_X11_hasWay_235 Q n) Q x2 x3 x4 σ
def D_X11_hasWay_220 (K81 : Int32 → Int32 → Int32 → Int32 → GSt → Prop) (K93 : Int32 → Int32 → Int32 → Int32 → Int32 → GSt → Prop) (Q : Int32 → GSt → Prop) (x1 : Int32) (x2 : Int32) (x3 : Int32) (x4 : Int32) (x5 : Int32) (σ : GSt) : Prop :=
  ∀ x5_1 : Int32, x5_1 = x5 + 1 → (K93 x1 x2 x3 x4 x5_1 σ)
def D_X11_hasWay_189 (K81 : Int32 → Int32 → Int32 → Int32 → GSt → Prop) (K93 : Int32 → Int32 → Int32 → Int32 → Int32 → GSt → Prop) (Q : Int32 → GSt → Prop) (x1 : Int32) (x2 : Int32) (x3 : Int32) (x4 : Int32) (x5 : Int32) (s0 : Int32) (σ : GSt) : Prop :=
  vp_in ((16 * x1) + x5) 144 ∧ ((¬ (σ 257 (Int32.toNatClampNeg ((16 * x1) + x5))) = x2 → D_X11_hasWay_220 K81 K93 Q x1 x2 x3 x4 x5 σ) ∧
  ((σ 257 (Int32.toNatClampNeg ((16 * x1) + x5))) = x2 → (s0 = 0 → D_X11_hasWay_220 K81 K93 Q x1 x2 x3 x4 x5 σ) ∧
  (¬ s0 = 0 → vp_in x5 16 ∧ (∀ σ_1 : GSt, σ_1 = up2 σ 269 (Int32.toNatClampNeg x5) 1 → (D_X11_hasWay_220 K81 K93 Q x1 x2 x3 x4 x5 σ_1)))))
def D_X11_hasWay_188 (K81 : Int32 → Int32 → Int32 → Int32 → GSt → Prop) (K93 : Int32 → Int32 → Int32 → Int32 → Int32 → GSt → Prop) (Q : Int32 → GSt → Prop) (x1 : Int32) (x2 : Int32) (x3 : Int32) (x4 : Int32) (x5 : Int32) (σ : GSt) : Prop :=
  D_X11_hasWay_189 K81 K93 Q x1 x2 x3 x4 x5 0 σ
def D_X11_hasWay_184 (K81 : Int32 → Int32 → Int32 → Int32 → GSt → Prop) (K93 : Int32 → Int32 → Int32 → Int32 → Int32 → GSt → Prop) (Q : Int32 → GSt → Prop) (x1 : Int32) (x2 : Int32) (x3 : Int32) (x4 : Int32) (x5 : Int32) (σ : GSt) : Prop :=
  D_X11_hasWay_189 K81 K93 Q x1 x2 x3 x4 x5 1 σ
def D_X11_hasWay_161 (K81 : Int32 → Int32 → Int32 → Int32 → GSt → Prop) (K93 : Int32 → Int32 → Int32 → Int32 → Int32 → GSt → Prop) (Q : Int32 → GSt → Prop) (x1 : Int32) (x2 : Int32) (x3 : Int32) (x4 : Int32) (x5 : Int32) (σ : GSt) : Prop :=
  D_X11_cells  σ (fun r_1 σ_2 => (r_1 ≤ (x5 + x3) → D_X11_hasWay_188 K81 K93 Q x1 x2 x3 x4 x5 σ_2) ∧
  (¬ r_1 ≤ (x5 + x3) → vp_in (x5 + x3) 16 ∧ (((σ_2 269 (Int32.toNatClampNeg (x5 + x3))) = 0 → D_X11_hasWay_188 K81 K93 Q x1 x2 x3 x4 x5 σ_2) ∧
  (¬ (σ_2 269 (Int32.toNatClampNeg (x5 + x3))) = 0 → D_X11_hasWay_184 K81 K93 Q x1 x2 x3 x4 x5 σ_2))))
def D_X11_hasWay_143 (K81 : Int32 → Int32 → Int32 → Int32 → GSt → Prop) (K93 : Int32 → Int32 → Int32 → Int32 → Int32 → GSt → Prop) (Q : Int32 → GSt → Prop) (x1 : Int32) (x2 : Int32) (x3 : Int32) (x4 : Int32) (x5 : Int32) (σ : GSt) : Prop :=
  (x5 < x3 → D_X11_hasWay_161 K81 K93 Q x1 x2 x3 x4 x5 σ) ∧
  (¬ x5 < x3 → vp_in (x5 - x3) 16 ∧ ((¬ (σ 269 (Int32.toNatClampNeg (x5 - x3))) = 0 → D_X11_hasWay_184 K81 K93 Q x1 x2 x3 x4 x5 σ) ∧
  ((σ 269 (Int32.toNatClampNeg (x5 - x3))) = 0 → D_X11_hasWay_161 K81 K93 Q x1 x2 x3 x4 x5 σ)))
def D_X11_hasWay_121 (K81 : Int32 → Int32 → Int32 → Int32 → GSt → Prop) (K93 : Int32 → Int32 → Int32 → Int32 → Int32 → GSt → Prop) (Q : Int32 → GSt → Prop) (x1 : Int32) (x2 : Int32) (x3 : Int32) (x4 : Int32) (x5 : Int32) (σ : GSt) : Prop :=
  ¬ x3 = 0 ∧ (((x3 - 1) ≤ (jrem x5 x3) → D_X11_hasWay_143 K81 K93 Q x1 x2 x3 x4 x5 σ) ∧
  (¬ (x3 - 1) ≤ (jrem x5 x3) → vp_in (x5 + 1) 16 ∧ ((¬ (σ 269 (Int32.toNatClampNeg (x5 + 1))) = 0 → D_X11_hasWay_184 K81 K93 Q x1 x2 x3 x4 x5 σ) ∧
  ((σ 269 (Int32.toNatClampNeg (x5 + 1))) = 0 → D_X11_hasWay_143 K81 K93 Q x1 x2 x3 x4 x5 σ))))
def D_X11_hasWay_93 (K81 : Int32 → Int32 → Int32 → Int32 → GSt → Prop) (K93 : Int32 → Int32 → Int32 → Int32 → Int32 → GSt → Prop) (Q : Int32 → GSt → Prop) (x1 : Int32) (x2 : Int32) (x3 : Int32) (x4 : Int32) (x5 : Int32) (σ : GSt) : Prop :=
  D_X11_cells  σ (fun r_1 σ_2 => (r_1 ≤ x5 → ∀ x4_3 : Int32, x4_3 = x4 + 1 → (K81 x1 x2 x3 x4_3 σ_2)) ∧
  (¬ r_1 ≤ x5 → ¬ x3 = 0 ∧ (((jrem x5 x3) ≤ 0 → D_X11_hasWay_121 K81 K93 Q x1 x2 x3 x4 x5 σ_2) ∧
  (¬ (jrem x5 x3) ≤ 0 → vp_in (x5 - 1) 16 ∧ ((¬ (σ_2 269 (Int32.toNatClampNeg (x5 - 1))) = 0 → D_X11_hasWay_184 K81 K93 Q x1 x2 x3 x4 x5 σ_2) ∧
  ((σ_2 269 (Int32.toNatClampNeg (x5 - 1))) = 0 → D_X11_hasWay_121 K81 K93 Q x1 x2 x3 x4 x5 σ_2))))))
def L_X11_hasWay_93 (K81 : Int32 → Int32 → Int32 → Int32 → GSt → Prop) (Q : Int32 → GSt → Prop) : Nat → Int32 → Int32 → Int32 → Int32 → Int32 → GSt → Prop
  | 0 => fun _ _ _ _ _ _ => False
  | n + 1 => fun x1 x2 x3 x4 x5 σ => D_X11_hasWay_93 K81 (L_X11_hasWay_93 K81 Q n) Q x1 x2 x3 x4 x5 σ
def D_X11_hasWay_81 (K81 : Int32 → Int32 → Int32 → Int32 → GSt → Prop) (Q : Int32 → GSt → Prop) (x1 : Int32) (x2 : Int32) (x3 : Int32) (x4 : Int32) (σ : GSt) : Prop :=
  D_X11_cells  σ (fun r_1 σ_2 => (r_1 ≤ x4 → ∃ n : Nat, L_X11_hasWay_235 Q n x2 x3 0 σ_2) ∧
  (¬ r_1 ≤ x4 → ∃ n : Nat, L_X11_hasWay_93 K81 Q n x1 x2 x3 x4 0 σ_2))
def L_X11_hasWay_81 (Q : Int32 → GSt → Prop) : Nat → Int32 → Int32 → Int32 → Int32 → GSt → Prop
  | 0 => fun _ _ _ _ _ => False
  | n + 1 => fun x1 x2 x3 x4 σ => D_X11_hasWay_81 (L_X11_hasWay_81 Q n) Q x1 x2 x3 x4 σ
def D_X11_hasWay_71 (K13 : Int32 → Int32 → Int32 → Int32 → GSt → Prop) (Q : Int32 → GSt → Prop) (x1 : Int32) (x2 : Int32) (x3 : Int32) (x4 : Int32) (sr0 : Nat) (s1 : Int32) (s2 : Int32) (σ : GSt) : Prop :=
  vp_in s1 (ln sr0) ∧ ((s2 = 0 ∨ s2 = 1) ∧ (∀ σ_1 : GSt, σ_1 = up2 σ sr0 (Int32.toNatClampNeg s1) s2 → (∀ x4_2 : Int32, x4_2 = x4 + 1 → (K13 x1 x2 x3 x4_2 σ_1))))
def D_X11_hasWay_70 (K13 : Int32 → Int32 → Int32 → Int32 → GSt → Prop) (Q : Int32 → GSt → Prop) (x1 : Int32) (x2 : Int32) (x3 : Int32) (x4 : Int32) (sr0 : Nat) (s1 : Int32) (σ : GSt) : Prop :=
  D_X11_hasWay_71 K13 Q x1 x2 x3 x4 sr0 s1 0 σ
def D_X11_hasWay_66 (K13 : Int32 → Int32 → Int32 → Int32 → GSt → Prop) (Q : Int32 → GSt → Prop) (x1 : Int32) (x2 : Int32) (x3 : Int32) (x4 : Int32) (sr0 : Nat) (s1 : Int32) (σ : GSt) : Prop :=
  D_X11_hasWay_71 K13 Q x1 x2 x3 x4 sr0 s1 1 σ
def D_X11_hasWay_13 (K13 : Int32 → Int32 → Int32 → Int32 → GSt → Prop) (Q : Int32 → GSt → Prop) (x1 : Int32) (x2 : Int32) (x3 : Int32) (x4 : Int32) (σ : GSt) : Prop :=
  D_X11_cells  σ (fun r_1 σ_2 => (r_1 ≤ x4 → ∃ n : Nat, L_X11_hasWay_81 Q n x1 x2 x3 0 σ_2) ∧
  (¬ r_1 ≤ x4 → vp_in ((16 * x1) + x4) 144 ∧ ((¬ (σ_2 257 (Int32.toNatClampNeg ((16 * x1) + x4))) = x2 → D_X11_hasWay_70 K13 Q x1 x2 x3 x4 269 x4 σ_2) ∧
  ((σ_2 257 (Int32.toNatClampNeg ((16 * x1) + x4))) = x2 → (¬ x2 = 1 → ¬ x3 = 0 ∧ ((¬ (jrem x4 x3) = 0 → D_X11_hasWay_70 K13 Q x1 x2 x3 x4 269 x4 σ_2) ∧
  ((jrem x4 x3) = 0 → D_X11_hasWay_66 K13 Q x1 x2 x3 x4 269 x4 σ_2))) ∧
  (x2 = 1 → ¬ x3 = 0 ∧ ((¬ (x4 / x3) = 0 → D_X11_hasWay_70 K13 Q x1 x2 x3 x4 269 x4 σ_2) ∧
  ((x4 / x3) = 0 → D_X11_hasWay_66 K13 Q x1 x2 x3 x4 269 x4 σ_2)))))))
def L_X11_hasWay_13 (Q : Int32 → GSt → Prop) : Nat → Int32 → Int32 → Int32 → Int32 → GSt → Prop
  | 0 => fun _ _ _ _ _ => False
  | n + 1 => fun x1 x2 x3 x4 σ => D_X11_hasWay_13 (L_X11_hasWay_13 Q n) Q x1 x2 x3 x4 σ
def D_X11_hasWay_0 (Q : Int32 → GSt → Prop) (x1 : Int32) (x2 : Int32) (σ : GSt) : Prop :=
  vp_in (σ 237 22) 9 ∧ (∀ x3_1 : Int32, x3_1 = (σ 242 (Int32.toNatClampNeg (σ 237 22))) → (∃ n : Nat, L_X11_hasWay_13 Q n x1 x2 x3_1 0 σ))
def D_X11_hasWay (x1 : Int32) (x2 : Int32) (σ : GSt) (Q : Int32 → GSt → Prop) : Prop := D_X11_hasWay_0 Q x1 x2 σ
set_option maxRecDepth 20000 in
set_option maxHeartbeats 4000000 in
theorem s_X11_hasWay_292 {p : Program} {l : Launch} {e : Env} {s : State} {m : MethodId} {args : Array Value} {below : List Frame} {meth : Method} {c : Code} {G : GC} (X : CallFix p m c cm_X11_hasWay 7 s args lw_us "GameLoomModel") (hr : meth.sig.returnType = some .boolean) (hlk : meth.locks = false) (K235 : Int32 → Int32 → Int32 → GSt → Prop) (Q : Int32 → GSt → Prop) (hK235 : ∀ (x2 : Int32) (x3 : Int32) (x4 : Int32) (σ : GSt) (H : Heap) (locs : List Loc) (ls : Array Slot), Wo G s H locs σ → lv_has ls 7 [(0, .ref (G.2.1 237)), (2, .int x2), (3, .int x3), (4, .int x4)] → K235 x2 x3 x4 σ → W p l e rm_X11_hasWay s m args below meth c H locs 0 0 (QMI G Q below args s) (F0 m 235 ls [])) (x2 : Int32) (x3 : Int32) (x4 : Int32) (σ : GSt) {H : Heap} {locs : List Loc} {ls : Array Slot} (hw : Wo G s H locs σ) (hl : lv_has ls 7 [(0, .ref (G.2.1 237)), (2, .int x2), (3, .int x3), (4, .int x4)]) (hD : D_X11_hasWay_292 K235 Q x2 x3 x4 σ) : W p l e rm_X11_hasWay s m args below meth c H locs 0 0 (QMI G Q below args s) (F0 m 292 ls []) := by
  unfold D_X11_hasWay_292 at hD
  obtain ⟨x4_1, e_x4_1⟩ : ∃ y : Int32, y = x4 + 1 := ⟨_, rfl⟩
  have hD := hD x4_1 e_x4_1
  refine lv_iinc (v := x4_1) (lv' := [(4, .int x4_1), (0, .ref (G.2.1 237)), (2, .int x2), (3, .int x3)]) X.1 X.2.1 d_X11_hasWay_292 hl (k := 3) rfl (by rw [e_x4_1]; rfl) (by decide) rfl (fun ls hl => ?_)
  refine lv_goto (tgt := 235) X.1 X.2.1 d_X11_hasWay_295 (by decide) ?_
  exact hK235 x2 x3 x4_1 σ _ _ _  hw (lv_sub hl [1, 2, 3, 0] rfl) hD
set_option maxRecDepth 20000 in
set_option maxHeartbeats 4000000 in
theorem s_X11_hasWay_235 {p : Program} {l : Launch} {e : Env} {s : State} {m : MethodId} {args : Array Value} {below : List Frame} {meth : Method} {c : Code} {G : GC} (X : CallFix p m c cm_X11_hasWay 7 s args lw_us "GameLoomModel") (hr : meth.sig.returnType = some .boolean) (hlk : meth.locks = false) (K235 : Int32 → Int32 → Int32 → GSt → Prop) (Q : Int32 → GSt → Prop) (hK235 : ∀ (x2 : Int32) (x3 : Int32) (x4 : Int32) (σ : GSt) (H : Heap) (locs : List Loc) (ls : Array Slot), Wo G s H locs σ → lv_has ls 7 [(0, .ref (G.2.1 237)), (2, .int x2), (3, .int x3), (4, .int x4)] → K235 x2 x3 x4 σ → W p l e rm_X11_hasWay s m args below meth c H locs 0 0 (QMI G Q below args s) (F0 m 235 ls [])) (x2 : Int32) (x3 : Int32) (x4 : Int32) (σ : GSt) {H : Heap} {locs : List Loc} {ls : Array Slot} (hw : Wo G s H locs σ) (hl : lv_has ls 7 [(0, .ref (G.2.1 237)), (2, .int x2), (3, .int x3), (4, .int x4)]) (hD : D_X11_hasWay_235 K235 Q x2 x3 x4 σ) : W p l e rm_X11_hasWay s m args below meth c H locs 0 0 (QMI G Q below args s) (F0 m 235 ls []) := by
  unfold D_X11_hasWay_235 at hD
  refine lv_iload X.1 X.2.1 d_X11_hasWay_235 (lv_at hl 3 rfl) ?_
  refine lv_aload_n X.1 X.2.1 d_X11_hasWay_237 rfl (lv_at hl 0 rfl) ?_
  refine gcV_i (rest := [.int x4]) (As := []) (o := 237) X hw (c_X11_cells l G  σ _  hD) (kd_lt (by decide +kernel : kd 237 = 11) (by decide)) (ce_11 G _ (by decide +kernel : kd 237 = 11)) rfl tb_1180 tb_1182 tv_54 tb_12 tb_1183 hd_X11_cells ⟨rfl, rfl⟩ ⟨Nat.le_of_ble_eq_true rfl, Nat.le_of_ble_eq_true rfl⟩ rfl hl.1 rfl (Nat.le_of_ble_eq_true rfl) d_X11_hasWay_238 (fun r_1 σ_2 H locs hD hw => ?_)
  refine lv_icmp_ge (tgt := 298) X.1 X.2.1 d_X11_hasWay_241 (by decide) (fun q_241 => ?_) (fun q_241 => ?_)
  · have hD := hD.1 q_241
    refine lv_iconst (v := 0) X.1 X.2.1 d_X11_hasWay_298 (by decide) ?_
    exact g_zret X hr hlk hw (by decide) hD d_X11_hasWay_299
  · have hD := hD.2 q_241
    refine lv_aload_n X.1 X.2.1 d_X11_hasWay_244 rfl (lv_at hl 0 rfl) ?_
    refine gf_11_35 X hw (by decide +kernel : kd 237 = 11) tb_941 d_X11_hasWay_245 ?_
    refine lv_iload X.1 X.2.1 d_X11_hasWay_248 (lv_at hl 3 rfl) ?_
    obtain ⟨q_250, hD⟩ := hD
    refine g_zald X hw ly_11_35.1 ly_11_35.2 q_250 d_X11_hasWay_250 ?_
    refine lv_if_eq (tgt := 292) X.1 X.2.1 d_X11_hasWay_251 (by decide) (fun q_251 => ?_) (fun q_251 => ?_)
    · have hD := hD.1 q_251
      exact s_X11_hasWay_292 X hr hlk K235 Q hK235 x2 x3 x4 σ_2 hw (lv_sub hl [0, 1, 2, 3] rfl) hD
    · have hD := hD.2 q_251
      refine lv_iload_n X.1 X.2.1 d_X11_hasWay_254 rfl (lv_at hl 1 rfl) ?_
      refine lv_iconst (v := 1) X.1 X.2.1 d_X11_hasWay_255 (by decide) ?_
      refine lv_icmp_ne (tgt := 280) X.1 X.2.1 d_X11_hasWay_256 (by decide) (fun q_256 => ?_) (fun q_256 => ?_)
      · have hD := hD.1 q_256
        refine lv_iload X.1 X.2.1 d_X11_hasWay_280 (lv_at hl 3 rfl) ?_
        refine lv_iload_n X.1 X.2.1 d_X11_hasWay_282 rfl (lv_at hl 2 rfl) ?_
        obtain ⟨q_283, hD⟩ := hD
        refine g_irem X d_X11_hasWay_283 q_283 ?_
        refine lv_iload_n X.1 X.2.1 d_X11_hasWay_284 rfl (lv_at hl 2 rfl) ?_
        refine lv_iconst (v := 1) X.1 X.2.1 d_X11_hasWay_285 (by decide) ?_
        refine lv_isub X.1 X.2.1 d_X11_hasWay_286 ?_
        refine lv_icmp_ne (tgt := 292) X.1 X.2.1 d_X11_hasWay_287 (by decide) (fun q_287 => ?_) (fun q_287 => ?_)
        · have hD := hD.1 q_287
          exact s_X11_hasWay_292 X hr hlk K235 Q hK235 x2 x3 x4 σ_2 hw (lv_sub hl [0, 1, 2, 3] rfl) hD
        · have hD := hD.2 q_287
          refine lv_iconst (v := 1) X.1 X.2.1 d_X11_hasWay_290 (by decide) ?_
          exact g_zret X hr hlk hw (by decide) hD d_X11_hasWay_291
      · have hD := hD.2 q_256
        refine lv_iload X.1 X.2.1 d_X11_hasWay_259 (lv_at hl 3 rfl) ?_
        refine lv_iload_n X.1 X.2.1 d_X11_hasWay_261 rfl (lv_at hl 2 rfl) ?_
        obtain ⟨q_262, hD⟩ := hD
        refine lv_idiv X.1 X.2.1 d_X11_hasWay_262 q_262 ?_
        refine lv_aload_n X.1 X.2.1 d_X11_hasWay_263 rfl (lv_at hl 0 rfl) ?_
        refine gf_11_5 X hw (by decide +kernel : kd 237 = 11) tb_911 d_X11_hasWay_264 ?_
        refine lv_aload_n X.1 X.2.1 d_X11_hasWay_267 rfl (lv_at hl 0 rfl) ?_
        refine gf_11_22 X hw (by decide +kernel : kd 237 = 11) tb_928 d_X11_hasWay_268 ?_
        obtain ⟨q_271, hD⟩ := hD
        refine g_iald X hw ly_11_5.1 ly_11_5.2 q_271 d_X11_hasWay_271 ?_
        refine lv_iconst (v := 1) X.1 X.2.1 d_X11_hasWay_272 (by decide) ?_
        refine lv_isub X.1 X.2.1 d_X11_hasWay_273 ?_
        refine lv_icmp_ne (tgt := 292) X.1 X.2.1 d_X11_hasWay_274 (by decide) (fun q_274 => ?_) (fun q_274 => ?_)
        · have hD := hD.1 q_274
          exact s_X11_hasWay_292 X hr hlk K235 Q hK235 x2 x3 x4 σ_2 hw (lv_sub hl [0, 1, 2, 3] rfl) hD
        · have hD := hD.2 q_274
          refine lv_goto (tgt := 290) X.1 X.2.1 d_X11_hasWay_277 (by decide) ?_
          refine lv_iconst (v := 1) X.1 X.2.1 d_X11_hasWay_290 (by decide) ?_
          exact g_zret X hr hlk hw (by decide) hD d_X11_hasWay_291
set_option maxRecDepth 20000 in
set_option maxHeartbeats 4000000 in
theorem sl_X11_hasWay_235 {p : Program} {l : Launch} {e : Env} {s : State} {m : MethodId} {args : Array Value} {below : List Frame} {meth : Method} {c : Code} {G : GC} (X : CallFix p m c cm_X11_hasWay 7 s args lw_us "GameLoomModel") (hr : meth.sig.returnType = some .boolean) (hlk : meth.locks = false) (Q : Int32 → GSt → Prop) : ∀ (nn : Nat), ∀ (x2 : Int32) (x3 : Int32) (x4 : Int32) (σ : GSt) (H : Heap) (locs : List Loc) (ls : Array Slot), Wo G s H locs σ → lv_has ls 7 [(0, .ref (G.2.1 237)), (2, .int x2), (3, .int x3), (4, .int x4)] → L_X11_hasWay_235 Q nn x2 x3 x4 σ → W p l e rm_X11_hasWay s m args below meth c H locs 0 0 (QMI G Q below args s) (F0 m 235 ls []) := by
  intro nn
  induction nn with
  | zero => intro x2 x3 x4 σ H locs ls  hw hl hD; exact hD.elim
  | succ nn ih =>
    intro x2 x3 x4 σ H locs ls  hw hl hD
    exact s_X11_hasWay_235 X hr hlk (L_X11_hasWay_235 Q nn) Q ih x2 x3 x4 σ hw hl hD
set_option maxRecDepth 20000 in
set_option maxHeartbeats 4000000 in
theorem s_X11_hasWay_220 {p : Program} {l : Launch} {e : Env} {s : State} {m : MethodId} {args : Array Value} {below : List Frame} {meth : Method} {c : Code} {G : GC} (X : CallFix p m c cm_X11_hasWay 7 s args lw_us "GameLoomModel") (hr : meth.sig.returnType = some .boolean) (hlk : meth.locks = false) (K81 : Int32 → Int32 → Int32 → Int32 → GSt → Prop) (K93 : Int32 → Int32 → Int32 → Int32 → Int32 → GSt → Prop) (Q : Int32 → GSt → Prop) (hK81 : ∀ (x1 : Int32) (x2 : Int32) (x3 : Int32) (x4 : Int32) (σ : GSt) (H : Heap) (locs : List Loc) (ls : Array Slot), Wo G s H locs σ → lv_has ls 7 [(0, .ref (G.2.1 237)), (1, .int x1), (2, .int x2), (3, .int x3), (4, .int x4)] → K81 x1 x2 x3 x4 σ → W p l e rm_X11_hasWay s m args below meth c H locs 0 0 (QMI G Q below args s) (F0 m 81 ls [])) (hK93 : ∀ (x1 : Int32) (x2 : Int32) (x3 : Int32) (x4 : Int32) (x5 : Int32) (σ : GSt) (H : Heap) (locs : List Loc) (ls : Array Slot), Wo G s H locs σ → lv_has ls 7 [(0, .ref (G.2.1 237)), (1, .int x1), (2, .int x2), (3, .int x3), (4, .int x4), (5, .int x5)] → K93 x1 x2 x3 x4 x5 σ → W p l e rm_X11_hasWay s m args below meth c H locs 0 0 (QMI G Q below args s) (F0 m 93 ls [])) (x1 : Int32) (x2 : Int32) (x3 : Int32) (x4 : Int32) (x5 : Int32) (σ : GSt) {H : Heap} {locs : List Loc} {ls : Array Slot} (hw : Wo G s H locs σ) (hl : lv_has ls 7 [(0, .ref (G.2.1 237)), (1, .int x1), (2, .int x2), (3, .int x3), (4, .int x4), (5, .int x5)]) (hD : D_X11_hasWay_220 K81 K93 Q x1 x2 x3 x4 x5 σ) : W p l e rm_X11_hasWay s m args below meth c H locs 0 0 (QMI G Q below args s) (F0 m 220 ls []) := by
  unfold D_X11_hasWay_220 at hD
  obtain ⟨x5_1, e_x5_1⟩ : ∃ y : Int32, y = x5 + 1 := ⟨_, rfl⟩
  have hD := hD x5_1 e_x5_1
  refine lv_iinc (v := x5_1) (lv' := [(5, .int x5_1), (0, .ref (G.2.1 237)), (1, .int x1), (2, .int x2), (3, .int x3), (4, .int x4)]) X.1 X.2.1 d_X11_hasWay_220 hl (k := 5) rfl (by rw [e_x5_1]; rfl) (by decide) rfl (fun ls hl => ?_)
  refine lv_goto (tgt := 93) X.1 X.2.1 d_X11_hasWay_223 (by decide) ?_
  exact hK93 x1 x2 x3 x4 x5_1 σ _ _ _  hw (lv_sub hl [1, 2, 3, 4, 5, 0] rfl) hD
set_option maxRecDepth 20000 in
set_option maxHeartbeats 4000000 in
theorem s_X11_hasWay_189 {p : Program} {l : Launch} {e : Env} {s : State} {m : MethodId} {args : Array Value} {below : List Frame} {meth : Method} {c : Code} {G : GC} (X : CallFix p m c cm_X11_hasWay 7 s args lw_us "GameLoomModel") (hr : meth.sig.returnType = some .boolean) (hlk : meth.locks = false) (K81 : Int32 → Int32 → Int32 → Int32 → GSt → Prop) (K93 : Int32 → Int32 → Int32 → Int32 → Int32 → GSt → Prop) (Q : Int32 → GSt → Prop) (hK81 : ∀ (x1 : Int32) (x2 : Int32) (x3 : Int32) (x4 : Int32) (σ : GSt) (H : Heap) (locs : List Loc) (ls : Array Slot), Wo G s H locs σ → lv_has ls 7 [(0, .ref (G.2.1 237)), (1, .int x1), (2, .int x2), (3, .int x3), (4, .int x4)] → K81 x1 x2 x3 x4 σ → W p l e rm_X11_hasWay s m args below meth c H locs 0 0 (QMI G Q below args s) (F0 m 81 ls [])) (hK93 : ∀ (x1 : Int32) (x2 : Int32) (x3 : Int32) (x4 : Int32) (x5 : Int32) (σ : GSt) (H : Heap) (locs : List Loc) (ls : Array Slot), Wo G s H locs σ → lv_has ls 7 [(0, .ref (G.2.1 237)), (1, .int x1), (2, .int x2), (3, .int x3), (4, .int x4), (5, .int x5)] → K93 x1 x2 x3 x4 x5 σ → W p l e rm_X11_hasWay s m args below meth c H locs 0 0 (QMI G Q below args s) (F0 m 93 ls [])) (x1 : Int32) (x2 : Int32) (x3 : Int32) (x4 : Int32) (x5 : Int32) (s0 : Int32) (σ : GSt) {H : Heap} {locs : List Loc} {ls : Array Slot} (hw : Wo G s H locs σ) (hl : lv_has ls 7 [(0, .ref (G.2.1 237)), (1, .int x1), (2, .int x2), (3, .int x3), (4, .int x4), (5, .int x5)]) (hD : D_X11_hasWay_189 K81 K93 Q x1 x2 x3 x4 x5 s0 σ) : W p l e rm_X11_hasWay s m args below meth c H locs 0 0 (QMI G Q below args s) (F0 m 189 ls [.int s0]) := by
  unfold D_X11_hasWay_189 at hD
  refine lv_istore (lv' := [(6, .int s0), (0, .ref (G.2.1 237)), (1, .int x1), (2, .int x2), (3, .int x3), (4, .int x4), (5, .int x5)]) X.1 X.2.1 d_X11_hasWay_189 hl (by decide) rfl (fun ls hl => ?_)
  refine lv_aload_n X.1 X.2.1 d_X11_hasWay_191 rfl (lv_at hl 1 rfl) ?_
  refine gf_11_23 X hw (by decide +kernel : kd 237 = 11) tb_929 d_X11_hasWay_192 ?_
  refine lv_bipush (v := 16) X.1 X.2.1 d_X11_hasWay_195 (by decide) ?_
  refine lv_iload_n X.1 X.2.1 d_X11_hasWay_197 rfl (lv_at hl 2 rfl) ?_
  refine lv_imul X.1 X.2.1 d_X11_hasWay_198 ?_
  refine lv_iload X.1 X.2.1 d_X11_hasWay_199 (lv_at hl 6 rfl) ?_
  refine lv_iadd X.1 X.2.1 d_X11_hasWay_201 ?_
  obtain ⟨q_202, hD⟩ := hD
  refine g_iald X hw ly_11_23.1 ly_11_23.2 q_202 d_X11_hasWay_202 ?_
  refine lv_iload_n X.1 X.2.1 d_X11_hasWay_203 rfl (lv_at hl 3 rfl) ?_
  refine lv_icmp_ne (tgt := 220) X.1 X.2.1 d_X11_hasWay_204 (by decide) (fun q_204 => ?_) (fun q_204 => ?_)
  · have hD := hD.1 q_204
    exact s_X11_hasWay_220 X hr hlk K81 K93 Q hK81 hK93 x1 x2 x3 x4 x5 σ hw (lv_sub hl [1, 2, 3, 4, 5, 6] rfl) hD
  · have hD := hD.2 q_204
    refine lv_iload X.1 X.2.1 d_X11_hasWay_207 (lv_at hl 0 rfl) ?_
    refine lv_if_eq (tgt := 220) X.1 X.2.1 d_X11_hasWay_209 (by decide) (fun q_209 => ?_) (fun q_209 => ?_)
    · have hD := hD.1 q_209
      exact s_X11_hasWay_220 X hr hlk K81 K93 Q hK81 hK93 x1 x2 x3 x4 x5 σ hw (lv_sub hl [1, 2, 3, 4, 5, 6] rfl) hD
    · have hD := hD.2 q_209
      refine lv_aload_n X.1 X.2.1 d_X11_hasWay_212 rfl (lv_at hl 1 rfl) ?_
      refine gf_11_35 X hw (by decide +kernel : kd 237 = 11) tb_941 d_X11_hasWay_213 ?_
      refine lv_iload X.1 X.2.1 d_X11_hasWay_216 (lv_at hl 6 rfl) ?_
      refine lv_iconst (v := 1) X.1 X.2.1 d_X11_hasWay_218 (by decide) ?_
      obtain ⟨q_219, hD⟩ := hD
      refine g_zast X hw ly_11_35.1 ly_11_35.2 q_219 (by decide) d_X11_hasWay_219 (fun H locs hw => ?_)
      obtain ⟨σ_1, e_σ_1⟩ : ∃ z : GSt, z = up2 σ 269 (Int32.toNatClampNeg x5) 1 := ⟨_, rfl⟩
      rw [← e_σ_1] at hw
      have hD := hD σ_1 e_σ_1
      exact s_X11_hasWay_220 X hr hlk K81 K93 Q hK81 hK93 x1 x2 x3 x4 x5 σ_1 hw (lv_sub hl [1, 2, 3, 4, 5, 6] rfl) hD
set_option maxRecDepth 20000 in
set_option maxHeartbeats 4000000 in
theorem s_X11_hasWay_188 {p : Program} {l : Launch} {e : Env} {s : State} {m : MethodId} {args : Array Value} {below : List Frame} {meth : Method} {c : Code} {G : GC} (X : CallFix p m c cm_X11_hasWay 7 s args lw_us "GameLoomModel") (hr : meth.sig.returnType = some .boolean) (hlk : meth.locks = false) (K81 : Int32 → Int32 → Int32 → Int32 → GSt → Prop) (K93 : Int32 → Int32 → Int32 → Int32 → Int32 → GSt → Prop) (Q : Int32 → GSt → Prop) (hK81 : ∀ (x1 : Int32) (x2 : Int32) (x3 : Int32) (x4 : Int32) (σ : GSt) (H : Heap) (locs : List Loc) (ls : Array Slot), Wo G s H locs σ → lv_has ls 7 [(0, .ref (G.2.1 237)), (1, .int x1), (2, .int x2), (3, .int x3), (4, .int x4)] → K81 x1 x2 x3 x4 σ → W p l e rm_X11_hasWay s m args below meth c H locs 0 0 (QMI G Q below args s) (F0 m 81 ls [])) (hK93 : ∀ (x1 : Int32) (x2 : Int32) (x3 : Int32) (x4 : Int32) (x5 : Int32) (σ : GSt) (H : Heap) (locs : List Loc) (ls : Array Slot), Wo G s H locs σ → lv_has ls 7 [(0, .ref (G.2.1 237)), (1, .int x1), (2, .int x2), (3, .int x3), (4, .int x4), (5, .int x5)] → K93 x1 x2 x3 x4 x5 σ → W p l e rm_X11_hasWay s m args below meth c H locs 0 0 (QMI G Q below args s) (F0 m 93 ls [])) (x1 : Int32) (x2 : Int32) (x3 : Int32) (x4 : Int32) (x5 : Int32) (σ : GSt) {H : Heap} {locs : List Loc} {ls : Array Slot} (hw : Wo G s H locs σ) (hl : lv_has ls 7 [(0, .ref (G.2.1 237)), (1, .int x1), (2, .int x2), (3, .int x3), (4, .int x4), (5, .int x5)]) (hD : D_X11_hasWay_188 K81 K93 Q x1 x2 x3 x4 x5 σ) : W p l e rm_X11_hasWay s m args below meth c H locs 0 0 (QMI G Q below args s) (F0 m 188 ls []) := by
  unfold D_X11_hasWay_188 at hD
  refine lv_iconst (v := 0) X.1 X.2.1 d_X11_hasWay_188 (by decide) ?_
  exact s_X11_hasWay_189 X hr hlk K81 K93 Q hK81 hK93 x1 x2 x3 x4 x5 0 σ hw (lv_sub hl [0, 1, 2, 3, 4, 5] rfl) hD
set_option maxRecDepth 20000 in
set_option maxHeartbeats 4000000 in
theorem s_X11_hasWay_184 {p : Program} {l : Launch} {e : Env} {s : State} {m : MethodId} {args : Array Value} {below : List Frame} {meth : Method} {c : Code} {G : GC} (X : CallFix p m c cm_X11_hasWay 7 s args lw_us "GameLoomModel") (hr : meth.sig.returnType = some .boolean) (hlk : meth.locks = false) (K81 : Int32 → Int32 → Int32 → Int32 → GSt → Prop) (K93 : Int32 → Int32 → Int32 → Int32 → Int32 → GSt → Prop) (Q : Int32 → GSt → Prop) (hK81 : ∀ (x1 : Int32) (x2 : Int32) (x3 : Int32) (x4 : Int32) (σ : GSt) (H : Heap) (locs : List Loc) (ls : Array Slot), Wo G s H locs σ → lv_has ls 7 [(0, .ref (G.2.1 237)), (1, .int x1), (2, .int x2), (3, .int x3), (4, .int x4)] → K81 x1 x2 x3 x4 σ → W p l e rm_X11_hasWay s m args below meth c H locs 0 0 (QMI G Q below args s) (F0 m 81 ls [])) (hK93 : ∀ (x1 : Int32) (x2 : Int32) (x3 : Int32) (x4 : Int32) (x5 : Int32) (σ : GSt) (H : Heap) (locs : List Loc) (ls : Array Slot), Wo G s H locs σ → lv_has ls 7 [(0, .ref (G.2.1 237)), (1, .int x1), (2, .int x2), (3, .int x3), (4, .int x4), (5, .int x5)] → K93 x1 x2 x3 x4 x5 σ → W p l e rm_X11_hasWay s m args below meth c H locs 0 0 (QMI G Q below args s) (F0 m 93 ls [])) (x1 : Int32) (x2 : Int32) (x3 : Int32) (x4 : Int32) (x5 : Int32) (σ : GSt) {H : Heap} {locs : List Loc} {ls : Array Slot} (hw : Wo G s H locs σ) (hl : lv_has ls 7 [(0, .ref (G.2.1 237)), (1, .int x1), (2, .int x2), (3, .int x3), (4, .int x4), (5, .int x5)]) (hD : D_X11_hasWay_184 K81 K93 Q x1 x2 x3 x4 x5 σ) : W p l e rm_X11_hasWay s m args below meth c H locs 0 0 (QMI G Q below args s) (F0 m 184 ls []) := by
  unfold D_X11_hasWay_184 at hD
  refine lv_iconst (v := 1) X.1 X.2.1 d_X11_hasWay_184 (by decide) ?_
  refine lv_goto (tgt := 189) X.1 X.2.1 d_X11_hasWay_185 (by decide) ?_
  exact s_X11_hasWay_189 X hr hlk K81 K93 Q hK81 hK93 x1 x2 x3 x4 x5 1 σ hw (lv_sub hl [0, 1, 2, 3, 4, 5] rfl) hD
set_option maxRecDepth 20000 in
set_option maxHeartbeats 4000000 in
theorem s_X11_hasWay_161 {p : Program} {l : Launch} {e : Env} {s : State} {m : MethodId} {args : Array Value} {below : List Frame} {meth : Method} {c : Code} {G : GC} (X : CallFix p m c cm_X11_hasWay 7 s args lw_us "GameLoomModel") (hr : meth.sig.returnType = some .boolean) (hlk : meth.locks = false) (K81 : Int32 → Int32 → Int32 → Int32 → GSt → Prop) (K93 : Int32 → Int32 → Int32 → Int32 → Int32 → GSt → Prop) (Q : Int32 → GSt → Prop) (hK81 : ∀ (x1 : Int32) (x2 : Int32) (x3 : Int32) (x4 : Int32) (σ : GSt) (H : Heap) (locs : List Loc) (ls : Array Slot), Wo G s H locs σ → lv_has ls 7 [(0, .ref (G.2.1 237)), (1, .int x1), (2, .int x2), (3, .int x3), (4, .int x4)] → K81 x1 x2 x3 x4 σ → W p l e rm_X11_hasWay s m args below meth c H locs 0 0 (QMI G Q below args s) (F0 m 81 ls [])) (hK93 : ∀ (x1 : Int32) (x2 : Int32) (x3 : Int32) (x4 : Int32) (x5 : Int32) (σ : GSt) (H : Heap) (locs : List Loc) (ls : Array Slot), Wo G s H locs σ → lv_has ls 7 [(0, .ref (G.2.1 237)), (1, .int x1), (2, .int x2), (3, .int x3), (4, .int x4), (5, .int x5)] → K93 x1 x2 x3 x4 x5 σ → W p l e rm_X11_hasWay s m args below meth c H locs 0 0 (QMI G Q below args s) (F0 m 93 ls [])) (x1 : Int32) (x2 : Int32) (x3 : Int32) (x4 : Int32) (x5 : Int32) (σ : GSt) {H : Heap} {locs : List Loc} {ls : Array Slot} (hw : Wo G s H locs σ) (hl : lv_has ls 7 [(0, .ref (G.2.1 237)), (1, .int x1), (2, .int x2), (3, .int x3), (4, .int x4), (5, .int x5)]) (hD : D_X11_hasWay_161 K81 K93 Q x1 x2 x3 x4 x5 σ) : W p l e rm_X11_hasWay s m args below meth c H locs 0 0 (QMI G Q below args s) (F0 m 161 ls []) := by
  unfold D_X11_hasWay_161 at hD
  refine lv_iload X.1 X.2.1 d_X11_hasWay_161 (lv_at hl 5 rfl) ?_
  refine lv_iload_n X.1 X.2.1 d_X11_hasWay_163 rfl (lv_at hl 3 rfl) ?_
  refine lv_iadd X.1 X.2.1 d_X11_hasWay_164 ?_
  refine lv_aload_n X.1 X.2.1 d_X11_hasWay_165 rfl (lv_at hl 0 rfl) ?_
  refine gcV_i (rest := [.int (x5 + x3)]) (As := []) (o := 237) X hw (c_X11_cells l G  σ _  hD) (kd_lt (by decide +kernel : kd 237 = 11) (by decide)) (ce_11 G _ (by decide +kernel : kd 237 = 11)) rfl tb_1180 tb_1182 tv_54 tb_12 tb_1183 hd_X11_cells ⟨rfl, rfl⟩ ⟨Nat.le_of_ble_eq_true rfl, Nat.le_of_ble_eq_true rfl⟩ rfl hl.1 rfl (Nat.le_of_ble_eq_true rfl) d_X11_hasWay_166 (fun r_1 σ_2 H locs hD hw => ?_)
  refine lv_icmp_ge (tgt := 188) X.1 X.2.1 d_X11_hasWay_169 (by decide) (fun q_169 => ?_) (fun q_169 => ?_)
  · have hD := hD.1 q_169
    exact s_X11_hasWay_188 X hr hlk K81 K93 Q hK81 hK93 x1 x2 x3 x4 x5 σ_2 hw (lv_sub hl [0, 1, 2, 3, 4, 5] rfl) hD
  · have hD := hD.2 q_169
    refine lv_aload_n X.1 X.2.1 d_X11_hasWay_172 rfl (lv_at hl 0 rfl) ?_
    refine gf_11_35 X hw (by decide +kernel : kd 237 = 11) tb_941 d_X11_hasWay_173 ?_
    refine lv_iload X.1 X.2.1 d_X11_hasWay_176 (lv_at hl 5 rfl) ?_
    refine lv_iload_n X.1 X.2.1 d_X11_hasWay_178 rfl (lv_at hl 3 rfl) ?_
    refine lv_iadd X.1 X.2.1 d_X11_hasWay_179 ?_
    obtain ⟨q_180, hD⟩ := hD
    refine g_zald X hw ly_11_35.1 ly_11_35.2 q_180 d_X11_hasWay_180 ?_
    refine lv_if_eq (tgt := 188) X.1 X.2.1 d_X11_hasWay_181 (by decide) (fun q_181 => ?_) (fun q_181 => ?_)
    · have hD := hD.1 q_181
      exact s_X11_hasWay_188 X hr hlk K81 K93 Q hK81 hK93 x1 x2 x3 x4 x5 σ_2 hw (lv_sub hl [0, 1, 2, 3, 4, 5] rfl) hD
    · have hD := hD.2 q_181
      exact s_X11_hasWay_184 X hr hlk K81 K93 Q hK81 hK93 x1 x2 x3 x4 x5 σ_2 hw (lv_sub hl [0, 1, 2, 3, 4, 5] rfl) hD
set_option maxRecDepth 20000 in
set_option maxHeartbeats 4000000 in
theorem s_X11_hasWay_143 {p : Program} {l : Launch} {e : Env} {s : State} {m : MethodId} {args : Array Value} {below : List Frame} {meth : Method} {c : Code} {G : GC} (X : CallFix p m c cm_X11_hasWay 7 s args lw_us "GameLoomModel") (hr : meth.sig.returnType = some .boolean) (hlk : meth.locks = false) (K81 : Int32 → Int32 → Int32 → Int32 → GSt → Prop) (K93 : Int32 → Int32 → Int32 → Int32 → Int32 → GSt → Prop) (Q : Int32 → GSt → Prop) (hK81 : ∀ (x1 : Int32) (x2 : Int32) (x3 : Int32) (x4 : Int32) (σ : GSt) (H : Heap) (locs : List Loc) (ls : Array Slot), Wo G s H locs σ → lv_has ls 7 [(0, .ref (G.2.1 237)), (1, .int x1), (2, .int x2), (3, .int x3), (4, .int x4)] → K81 x1 x2 x3 x4 σ → W p l e rm_X11_hasWay s m args below meth c H locs 0 0 (QMI G Q below args s) (F0 m 81 ls [])) (hK93 : ∀ (x1 : Int32) (x2 : Int32) (x3 : Int32) (x4 : Int32) (x5 : Int32) (σ : GSt) (H : Heap) (locs : List Loc) (ls : Array Slot), Wo G s H locs σ → lv_has ls 7 [(0, .ref (G.2.1 237)), (1, .int x1), (2, .int x2), (3, .int x3), (4, .int x4), (5, .int x5)] → K93 x1 x2 x3 x4 x5 σ → W p l e rm_X11_hasWay s m args below meth c H locs 0 0 (QMI G Q below args s) (F0 m 93 ls [])) (x1 : Int32) (x2 : Int32) (x3 : Int32) (x4 : Int32) (x5 : Int32) (σ : GSt) {H : Heap} {locs : List Loc} {ls : Array Slot} (hw : Wo G s H locs σ) (hl : lv_has ls 7 [(0, .ref (G.2.1 237)), (1, .int x1), (2, .int x2), (3, .int x3), (4, .int x4), (5, .int x5)]) (hD : D_X11_hasWay_143 K81 K93 Q x1 x2 x3 x4 x5 σ) : W p l e rm_X11_hasWay s m args below meth c H locs 0 0 (QMI G Q below args s) (F0 m 143 ls []) := by
  unfold D_X11_hasWay_143 at hD
  refine lv_iload X.1 X.2.1 d_X11_hasWay_143 (lv_at hl 5 rfl) ?_
  refine lv_iload_n X.1 X.2.1 d_X11_hasWay_145 rfl (lv_at hl 3 rfl) ?_
  refine lv_icmp_lt (tgt := 161) X.1 X.2.1 d_X11_hasWay_146 (by decide) (fun q_146 => ?_) (fun q_146 => ?_)
  · have hD := hD.1 q_146
    exact s_X11_hasWay_161 X hr hlk K81 K93 Q hK81 hK93 x1 x2 x3 x4 x5 σ hw (lv_sub hl [0, 1, 2, 3, 4, 5] rfl) hD
  · have hD := hD.2 q_146
    refine lv_aload_n X.1 X.2.1 d_X11_hasWay_149 rfl (lv_at hl 0 rfl) ?_
    refine gf_11_35 X hw (by decide +kernel : kd 237 = 11) tb_941 d_X11_hasWay_150 ?_
    refine lv_iload X.1 X.2.1 d_X11_hasWay_153 (lv_at hl 5 rfl) ?_
    refine lv_iload_n X.1 X.2.1 d_X11_hasWay_155 rfl (lv_at hl 3 rfl) ?_
    refine lv_isub X.1 X.2.1 d_X11_hasWay_156 ?_
    obtain ⟨q_157, hD⟩ := hD
    refine g_zald X hw ly_11_35.1 ly_11_35.2 q_157 d_X11_hasWay_157 ?_
    refine lv_if_ne (tgt := 184) X.1 X.2.1 d_X11_hasWay_158 (by decide) (fun q_158 => ?_) (fun q_158 => ?_)
    · have hD := hD.1 q_158
      exact s_X11_hasWay_184 X hr hlk K81 K93 Q hK81 hK93 x1 x2 x3 x4 x5 σ hw (lv_sub hl [0, 1, 2, 3, 4, 5] rfl) hD
    · have hD := hD.2 q_158
      exact s_X11_hasWay_161 X hr hlk K81 K93 Q hK81 hK93 x1 x2 x3 x4 x5 σ hw (lv_sub hl [0, 1, 2, 3, 4, 5] rfl) hD
set_option maxRecDepth 20000 in
set_option maxHeartbeats 4000000 in
theorem s_X11_hasWay_121 {p : Program} {l : Launch} {e : Env} {s : State} {m : MethodId} {args : Array Value} {below : List Frame} {meth : Method} {c : Code} {G : GC} (X : CallFix p m c cm_X11_hasWay 7 s args lw_us "GameLoomModel") (hr : meth.sig.returnType = some .boolean) (hlk : meth.locks = false) (K81 : Int32 → Int32 → Int32 → Int32 → GSt → Prop) (K93 : Int32 → Int32 → Int32 → Int32 → Int32 → GSt → Prop) (Q : Int32 → GSt → Prop) (hK81 : ∀ (x1 : Int32) (x2 : Int32) (x3 : Int32) (x4 : Int32) (σ : GSt) (H : Heap) (locs : List Loc) (ls : Array Slot), Wo G s H locs σ → lv_has ls 7 [(0, .ref (G.2.1 237)), (1, .int x1), (2, .int x2), (3, .int x3), (4, .int x4)] → K81 x1 x2 x3 x4 σ → W p l e rm_X11_hasWay s m args below meth c H locs 0 0 (QMI G Q below args s) (F0 m 81 ls [])) (hK93 : ∀ (x1 : Int32) (x2 : Int32) (x3 : Int32) (x4 : Int32) (x5 : Int32) (σ : GSt) (H : Heap) (locs : List Loc) (ls : Array Slot), Wo G s H locs σ → lv_has ls 7 [(0, .ref (G.2.1 237)), (1, .int x1), (2, .int x2), (3, .int x3), (4, .int x4), (5, .int x5)] → K93 x1 x2 x3 x4 x5 σ → W p l e rm_X11_hasWay s m args below meth c H locs 0 0 (QMI G Q below args s) (F0 m 93 ls [])) (x1 : Int32) (x2 : Int32) (x3 : Int32) (x4 : Int32) (x5 : Int32) (σ : GSt) {H : Heap} {locs : List Loc} {ls : Array Slot} (hw : Wo G s H locs σ) (hl : lv_has ls 7 [(0, .ref (G.2.1 237)), (1, .int x1), (2, .int x2), (3, .int x3), (4, .int x4), (5, .int x5)]) (hD : D_X11_hasWay_121 K81 K93 Q x1 x2 x3 x4 x5 σ) : W p l e rm_X11_hasWay s m args below meth c H locs 0 0 (QMI G Q below args s) (F0 m 121 ls []) := by
  unfold D_X11_hasWay_121 at hD
  refine lv_iload X.1 X.2.1 d_X11_hasWay_121 (lv_at hl 5 rfl) ?_
  refine lv_iload_n X.1 X.2.1 d_X11_hasWay_123 rfl (lv_at hl 3 rfl) ?_
  obtain ⟨q_124, hD⟩ := hD
  refine g_irem X d_X11_hasWay_124 q_124 ?_
  refine lv_iload_n X.1 X.2.1 d_X11_hasWay_125 rfl (lv_at hl 3 rfl) ?_
  refine lv_iconst (v := 1) X.1 X.2.1 d_X11_hasWay_126 (by decide) ?_
  refine lv_isub X.1 X.2.1 d_X11_hasWay_127 ?_
  refine lv_icmp_ge (tgt := 143) X.1 X.2.1 d_X11_hasWay_128 (by decide) (fun q_128 => ?_) (fun q_128 => ?_)
  · have hD := hD.1 q_128
    exact s_X11_hasWay_143 X hr hlk K81 K93 Q hK81 hK93 x1 x2 x3 x4 x5 σ hw (lv_sub hl [0, 1, 2, 3, 4, 5] rfl) hD
  · have hD := hD.2 q_128
    refine lv_aload_n X.1 X.2.1 d_X11_hasWay_131 rfl (lv_at hl 0 rfl) ?_
    refine gf_11_35 X hw (by decide +kernel : kd 237 = 11) tb_941 d_X11_hasWay_132 ?_
    refine lv_iload X.1 X.2.1 d_X11_hasWay_135 (lv_at hl 5 rfl) ?_
    refine lv_iconst (v := 1) X.1 X.2.1 d_X11_hasWay_137 (by decide) ?_
    refine lv_iadd X.1 X.2.1 d_X11_hasWay_138 ?_
    obtain ⟨q_139, hD⟩ := hD
    refine g_zald X hw ly_11_35.1 ly_11_35.2 q_139 d_X11_hasWay_139 ?_
    refine lv_if_ne (tgt := 184) X.1 X.2.1 d_X11_hasWay_140 (by decide) (fun q_140 => ?_) (fun q_140 => ?_)
    · have hD := hD.1 q_140
      exact s_X11_hasWay_184 X hr hlk K81 K93 Q hK81 hK93 x1 x2 x3 x4 x5 σ hw (lv_sub hl [0, 1, 2, 3, 4, 5] rfl) hD
    · have hD := hD.2 q_140
      exact s_X11_hasWay_143 X hr hlk K81 K93 Q hK81 hK93 x1 x2 x3 x4 x5 σ hw (lv_sub hl [0, 1, 2, 3, 4, 5] rfl) hD
set_option maxRecDepth 20000 in
set_option maxHeartbeats 4000000 in
theorem s_X11_hasWay_93 {p : Program} {l : Launch} {e : Env} {s : State} {m : MethodId} {args : Array Value} {below : List Frame} {meth : Method} {c : Code} {G : GC} (X : CallFix p m c cm_X11_hasWay 7 s args lw_us "GameLoomModel") (hr : meth.sig.returnType = some .boolean) (hlk : meth.locks = false) (K81 : Int32 → Int32 → Int32 → Int32 → GSt → Prop) (K93 : Int32 → Int32 → Int32 → Int32 → Int32 → GSt → Prop) (Q : Int32 → GSt → Prop) (hK81 : ∀ (x1 : Int32) (x2 : Int32) (x3 : Int32) (x4 : Int32) (σ : GSt) (H : Heap) (locs : List Loc) (ls : Array Slot), Wo G s H locs σ → lv_has ls 7 [(0, .ref (G.2.1 237)), (1, .int x1), (2, .int x2), (3, .int x3), (4, .int x4)] → K81 x1 x2 x3 x4 σ → W p l e rm_X11_hasWay s m args below meth c H locs 0 0 (QMI G Q below args s) (F0 m 81 ls [])) (hK93 : ∀ (x1 : Int32) (x2 : Int32) (x3 : Int32) (x4 : Int32) (x5 : Int32) (σ : GSt) (H : Heap) (locs : List Loc) (ls : Array Slot), Wo G s H locs σ → lv_has ls 7 [(0, .ref (G.2.1 237)), (1, .int x1), (2, .int x2), (3, .int x3), (4, .int x4), (5, .int x5)] → K93 x1 x2 x3 x4 x5 σ → W p l e rm_X11_hasWay s m args below meth c H locs 0 0 (QMI G Q below args s) (F0 m 93 ls [])) (x1 : Int32) (x2 : Int32) (x3 : Int32) (x4 : Int32) (x5 : Int32) (σ : GSt) {H : Heap} {locs : List Loc} {ls : Array Slot} (hw : Wo G s H locs σ) (hl : lv_has ls 7 [(0, .ref (G.2.1 237)), (1, .int x1), (2, .int x2), (3, .int x3), (4, .int x4), (5, .int x5)]) (hD : D_X11_hasWay_93 K81 K93 Q x1 x2 x3 x4 x5 σ) : W p l e rm_X11_hasWay s m args below meth c H locs 0 0 (QMI G Q below args s) (F0 m 93 ls []) := by
  unfold D_X11_hasWay_93 at hD
  refine lv_iload X.1 X.2.1 d_X11_hasWay_93 (lv_at hl 5 rfl) ?_
  refine lv_aload_n X.1 X.2.1 d_X11_hasWay_95 rfl (lv_at hl 0 rfl) ?_
  refine gcV_i (rest := [.int x5]) (As := []) (o := 237) X hw (c_X11_cells l G  σ _  hD) (kd_lt (by decide +kernel : kd 237 = 11) (by decide)) (ce_11 G _ (by decide +kernel : kd 237 = 11)) rfl tb_1180 tb_1182 tv_54 tb_12 tb_1183 hd_X11_cells ⟨rfl, rfl⟩ ⟨Nat.le_of_ble_eq_true rfl, Nat.le_of_ble_eq_true rfl⟩ rfl hl.1 rfl (Nat.le_of_ble_eq_true rfl) d_X11_hasWay_96 (fun r_1 σ_2 H locs hD hw => ?_)
  refine lv_icmp_ge (tgt := 226) X.1 X.2.1 d_X11_hasWay_99 (by decide) (fun q_99 => ?_) (fun q_99 => ?_)
  · have hD := hD.1 q_99
    obtain ⟨x4_3, e_x4_3⟩ : ∃ y : Int32, y = x4 + 1 := ⟨_, rfl⟩
    have hD := hD x4_3 e_x4_3
    refine lv_iinc (v := x4_3) (lv' := [(4, .int x4_3), (0, .ref (G.2.1 237)), (1, .int x1), (2, .int x2), (3, .int x3), (5, .int x5)]) X.1 X.2.1 d_X11_hasWay_226 hl (k := 4) rfl (by rw [e_x4_3]; rfl) (by decide) rfl (fun ls hl => ?_)
    refine lv_goto (tgt := 81) X.1 X.2.1 d_X11_hasWay_229 (by decide) ?_
    exact hK81 x1 x2 x3 x4_3 σ_2 _ _ _  hw (lv_sub hl [1, 2, 3, 4, 0] rfl) hD
  · have hD := hD.2 q_99
    refine lv_iload X.1 X.2.1 d_X11_hasWay_102 (lv_at hl 5 rfl) ?_
    refine lv_iload_n X.1 X.2.1 d_X11_hasWay_104 rfl (lv_at hl 3 rfl) ?_
    obtain ⟨q_105, hD⟩ := hD
    refine g_irem X d_X11_hasWay_105 q_105 ?_
    refine lv_if_le (tgt := 121) X.1 X.2.1 d_X11_hasWay_106 (by decide) (fun q_106 => ?_) (fun q_106 => ?_)
    · have hD := hD.1 q_106
      exact s_X11_hasWay_121 X hr hlk K81 K93 Q hK81 hK93 x1 x2 x3 x4 x5 σ_2 hw (lv_sub hl [0, 1, 2, 3, 4, 5] rfl) hD
    · have hD := hD.2 q_106
      refine lv_aload_n X.1 X.2.1 d_X11_hasWay_109 rfl (lv_at hl 0 rfl) ?_
      refine gf_11_35 X hw (by decide +kernel : kd 237 = 11) tb_941 d_X11_hasWay_110 ?_
      refine lv_iload X.1 X.2.1 d_X11_hasWay_113 (lv_at hl 5 rfl) ?_
      refine lv_iconst (v := 1) X.1 X.2.1 d_X11_hasWay_115 (by decide) ?_
      refine lv_isub X.1 X.2.1 d_X11_hasWay_116 ?_
      obtain ⟨q_117, hD⟩ := hD
      refine g_zald X hw ly_11_35.1 ly_11_35.2 q_117 d_X11_hasWay_117 ?_
      refine lv_if_ne (tgt := 184) X.1 X.2.1 d_X11_hasWay_118 (by decide) (fun q_118 => ?_) (fun q_118 => ?_)
      · have hD := hD.1 q_118
        exact s_X11_hasWay_184 X hr hlk K81 K93 Q hK81 hK93 x1 x2 x3 x4 x5 σ_2 hw (lv_sub hl [0, 1, 2, 3, 4, 5] rfl) hD
      · have hD := hD.2 q_118
        exact s_X11_hasWay_121 X hr hlk K81 K93 Q hK81 hK93 x1 x2 x3 x4 x5 σ_2 hw (lv_sub hl [0, 1, 2, 3, 4, 5] rfl) hD
set_option maxRecDepth 20000 in
set_option maxHeartbeats 4000000 in
theorem sl_X11_hasWay_93 {p : Program} {l : Launch} {e : Env} {s : State} {m : MethodId} {args : Array Value} {below : List Frame} {meth : Method} {c : Code} {G : GC} (X : CallFix p m c cm_X11_hasWay 7 s args lw_us "GameLoomModel") (hr : meth.sig.returnType = some .boolean) (hlk : meth.locks = false) (K81 : Int32 → Int32 → Int32 → Int32 → GSt → Prop) (Q : Int32 → GSt → Prop) (hK81 : ∀ (x1 : Int32) (x2 : Int32) (x3 : Int32) (x4 : Int32) (σ : GSt) (H : Heap) (locs : List Loc) (ls : Array Slot), Wo G s H locs σ → lv_has ls 7 [(0, .ref (G.2.1 237)), (1, .int x1), (2, .int x2), (3, .int x3), (4, .int x4)] → K81 x1 x2 x3 x4 σ → W p l e rm_X11_hasWay s m args below meth c H locs 0 0 (QMI G Q below args s) (F0 m 81 ls [])) : ∀ (nn : Nat), ∀ (x1 : Int32) (x2 : Int32) (x3 : Int32) (x4 : Int32) (x5 : Int32) (σ : GSt) (H : Heap) (locs : List Loc) (ls : Array Slot), Wo G s H locs σ → lv_has ls 7 [(0, .ref (G.2.1 237)), (1, .int x1), (2, .int x2), (3, .int x3), (4, .int x4), (5, .int x5)] → L_X11_hasWay_93 K81 Q nn x1 x2 x3 x4 x5 σ → W p l e rm_X11_hasWay s m args below meth c H locs 0 0 (QMI G Q below args s) (F0 m 93 ls []) := by
  intro nn
  induction nn with
  | zero => intro x1 x2 x3 x4 x5 σ H locs ls  hw hl hD; exact hD.elim
  | succ nn ih =>
    intro x1 x2 x3 x4 x5 σ H locs ls  hw hl hD
    exact s_X11_hasWay_93 X hr hlk K81 (L_X11_hasWay_93 K81 Q nn) Q hK81 ih x1 x2 x3 x4 x5 σ hw hl hD
set_option maxRecDepth 20000 in
set_option maxHeartbeats 4000000 in
theorem s_X11_hasWay_81 {p : Program} {l : Launch} {e : Env} {s : State} {m : MethodId} {args : Array Value} {below : List Frame} {meth : Method} {c : Code} {G : GC} (X : CallFix p m c cm_X11_hasWay 7 s args lw_us "GameLoomModel") (hr : meth.sig.returnType = some .boolean) (hlk : meth.locks = false) (K81 : Int32 → Int32 → Int32 → Int32 → GSt → Prop) (Q : Int32 → GSt → Prop) (hK81 : ∀ (x1 : Int32) (x2 : Int32) (x3 : Int32) (x4 : Int32) (σ : GSt) (H : Heap) (locs : List Loc) (ls : Array Slot), Wo G s H locs σ → lv_has ls 7 [(0, .ref (G.2.1 237)), (1, .int x1), (2, .int x2), (3, .int x3), (4, .int x4)] → K81 x1 x2 x3 x4 σ → W p l e rm_X11_hasWay s m args below meth c H locs 0 0 (QMI G Q below args s) (F0 m 81 ls [])) (x1 : Int32) (x2 : Int32) (x3 : Int32) (x4 : Int32) (σ : GSt) {H : Heap} {locs : List Loc} {ls : Array Slot} (hw : Wo G s H locs σ) (hl : lv_has ls 7 [(0, .ref (G.2.1 237)), (1, .int x1), (2, .int x2), (3, .int x3), (4, .int x4)]) (hD : D_X11_hasWay_81 K81 Q x1 x2 x3 x4 σ) : W p l e rm_X11_hasWay s m args below meth c H locs 0 0 (QMI G Q below args s) (F0 m 81 ls []) := by
  unfold D_X11_hasWay_81 at hD
  refine lv_iload X.1 X.2.1 d_X11_hasWay_81 (lv_at hl 4 rfl) ?_
  refine lv_aload_n X.1 X.2.1 d_X11_hasWay_83 rfl (lv_at hl 0 rfl) ?_
  refine gcV_i (rest := [.int x4]) (As := []) (o := 237) X hw (c_X11_cells l G  σ _  hD) (kd_lt (by decide +kernel : kd 237 = 11) (by decide)) (ce_11 G _ (by decide +kernel : kd 237 = 11)) rfl tb_1180 tb_1182 tv_54 tb_12 tb_1183 hd_X11_cells ⟨rfl, rfl⟩ ⟨Nat.le_of_ble_eq_true rfl, Nat.le_of_ble_eq_true rfl⟩ rfl hl.1 rfl (Nat.le_of_ble_eq_true rfl) d_X11_hasWay_84 (fun r_1 σ_2 H locs hD hw => ?_)
  refine lv_icmp_ge (tgt := 232) X.1 X.2.1 d_X11_hasWay_87 (by decide) (fun q_87 => ?_) (fun q_87 => ?_)
  · have hD := hD.1 q_87
    refine lv_iconst (v := 0) X.1 X.2.1 d_X11_hasWay_232 (by decide) ?_
    refine lv_istore (lv' := [(4, .int 0), (0, .ref (G.2.1 237)), (1, .int x1), (2, .int x2), (3, .int x3)]) X.1 X.2.1 d_X11_hasWay_233 hl (by decide) rfl (fun ls hl => ?_)
    obtain ⟨n9, hD⟩ := hD
    exact sl_X11_hasWay_235 X hr hlk  Q  n9 x2 x3 0 σ_2 _ _ _  hw (lv_sub hl [1, 3, 4, 0] rfl) hD
  · have hD := hD.2 q_87
    refine lv_iconst (v := 0) X.1 X.2.1 d_X11_hasWay_90 (by decide) ?_
    refine lv_istore (lv' := [(5, .int 0), (0, .ref (G.2.1 237)), (1, .int x1), (2, .int x2), (3, .int x3), (4, .int x4)]) X.1 X.2.1 d_X11_hasWay_91 hl (by decide) rfl (fun ls hl => ?_)
    obtain ⟨n9, hD⟩ := hD
    exact sl_X11_hasWay_93 X hr hlk K81 Q hK81 n9 x1 x2 x3 x4 0 σ_2 _ _ _  hw (lv_sub hl [1, 2, 3, 4, 5, 0] rfl) hD
set_option maxRecDepth 20000 in
set_option maxHeartbeats 4000000 in
theorem sl_X11_hasWay_81 {p : Program} {l : Launch} {e : Env} {s : State} {m : MethodId} {args : Array Value} {below : List Frame} {meth : Method} {c : Code} {G : GC} (X : CallFix p m c cm_X11_hasWay 7 s args lw_us "GameLoomModel") (hr : meth.sig.returnType = some .boolean) (hlk : meth.locks = false) (Q : Int32 → GSt → Prop) : ∀ (nn : Nat), ∀ (x1 : Int32) (x2 : Int32) (x3 : Int32) (x4 : Int32) (σ : GSt) (H : Heap) (locs : List Loc) (ls : Array Slot), Wo G s H locs σ → lv_has ls 7 [(0, .ref (G.2.1 237)), (1, .int x1), (2, .int x2), (3, .int x3), (4, .int x4)] → L_X11_hasWay_81 Q nn x1 x2 x3 x4 σ → W p l e rm_X11_hasWay s m args below meth c H locs 0 0 (QMI G Q below args s) (F0 m 81 ls []) := by
  intro nn
  induction nn with
  | zero => intro x1 x2 x3 x4 σ H locs ls  hw hl hD; exact hD.elim
  | succ nn ih =>
    intro x1 x2 x3 x4 σ H locs ls  hw hl hD
    exact s_X11_hasWay_81 X hr hlk (L_X11_hasWay_81 Q nn) Q ih x1 x2 x3 x4 σ hw hl hD
set_option maxRecDepth 20000 in
set_option maxHeartbeats 4000000 in
theorem s_X11_hasWay_71 {p : Program} {l : Launch} {e : Env} {s : State} {m : MethodId} {args : Array Value} {below : List Frame} {meth : Method} {c : Code} {G : GC} (X : CallFix p m c cm_X11_hasWay 7 s args lw_us "GameLoomModel") (hr : meth.sig.returnType = some .boolean) (hlk : meth.locks = false) (K13 : Int32 → Int32 → Int32 → Int32 → GSt → Prop) (Q : Int32 → GSt → Prop) (hK13 : ∀ (x1 : Int32) (x2 : Int32) (x3 : Int32) (x4 : Int32) (σ : GSt) (H : Heap) (locs : List Loc) (ls : Array Slot), Wo G s H locs σ → lv_has ls 7 [(0, .ref (G.2.1 237)), (1, .int x1), (2, .int x2), (3, .int x3), (4, .int x4)] → K13 x1 x2 x3 x4 σ → W p l e rm_X11_hasWay s m args below meth c H locs 0 0 (QMI G Q below args s) (F0 m 13 ls [])) (x1 : Int32) (x2 : Int32) (x3 : Int32) (x4 : Int32) (sr0 : Nat) (hs0 : kd sr0 = 13) (s1 : Int32) (s2 : Int32) (σ : GSt) {H : Heap} {locs : List Loc} {ls : Array Slot} (hw : Wo G s H locs σ) (hl : lv_has ls 7 [(0, .ref (G.2.1 237)), (1, .int x1), (2, .int x2), (3, .int x3), (4, .int x4)]) (hD : D_X11_hasWay_71 K13 Q x1 x2 x3 x4 sr0 s1 s2 σ) : W p l e rm_X11_hasWay s m args below meth c H locs 0 0 (QMI G Q below args s) (F0 m 71 ls [.int s2, .int s1, .ref (G.2.1 sr0)]) := by
  unfold D_X11_hasWay_71 at hD
  obtain ⟨q_71, hD⟩ := hD
  obtain ⟨qb_71, hD⟩ := hD
  refine g_zast X hw hs0 rfl q_71 qb_71 d_X11_hasWay_71 (fun H locs hw => ?_)
  obtain ⟨σ_1, e_σ_1⟩ : ∃ z : GSt, z = up2 σ sr0 (Int32.toNatClampNeg s1) s2 := ⟨_, rfl⟩
  rw [← e_σ_1] at hw
  have hD := hD σ_1 e_σ_1
  obtain ⟨x4_2, e_x4_2⟩ : ∃ y : Int32, y = x4 + 1 := ⟨_, rfl⟩
  have hD := hD x4_2 e_x4_2
  refine lv_iinc (v := x4_2) (lv' := [(4, .int x4_2), (0, .ref (G.2.1 237)), (1, .int x1), (2, .int x2), (3, .int x3)]) X.1 X.2.1 d_X11_hasWay_72 hl (k := 4) rfl (by rw [e_x4_2]; rfl) (by decide) rfl (fun ls hl => ?_)
  refine lv_goto (tgt := 13) X.1 X.2.1 d_X11_hasWay_75 (by decide) ?_
  exact hK13 x1 x2 x3 x4_2 σ_1 _ _ _  hw (lv_sub hl [1, 2, 3, 4, 0] rfl) hD
set_option maxRecDepth 20000 in
set_option maxHeartbeats 4000000 in
theorem s_X11_hasWay_70 {p : Program} {l : Launch} {e : Env} {s : State} {m : MethodId} {args : Array Value} {below : List Frame} {meth : Method} {c : Code} {G : GC} (X : CallFix p m c cm_X11_hasWay 7 s args lw_us "GameLoomModel") (hr : meth.sig.returnType = some .boolean) (hlk : meth.locks = false) (K13 : Int32 → Int32 → Int32 → Int32 → GSt → Prop) (Q : Int32 → GSt → Prop) (hK13 : ∀ (x1 : Int32) (x2 : Int32) (x3 : Int32) (x4 : Int32) (σ : GSt) (H : Heap) (locs : List Loc) (ls : Array Slot), Wo G s H locs σ → lv_has ls 7 [(0, .ref (G.2.1 237)), (1, .int x1), (2, .int x2), (3, .int x3), (4, .int x4)] → K13 x1 x2 x3 x4 σ → W p l e rm_X11_hasWay s m args below meth c H locs 0 0 (QMI G Q below args s) (F0 m 13 ls [])) (x1 : Int32) (x2 : Int32) (x3 : Int32) (x4 : Int32) (sr0 : Nat) (hs0 : kd sr0 = 13) (s1 : Int32) (σ : GSt) {H : Heap} {locs : List Loc} {ls : Array Slot} (hw : Wo G s H locs σ) (hl : lv_has ls 7 [(0, .ref (G.2.1 237)), (1, .int x1), (2, .int x2), (3, .int x3), (4, .int x4)]) (hD : D_X11_hasWay_70 K13 Q x1 x2 x3 x4 sr0 s1 σ) : W p l e rm_X11_hasWay s m args below meth c H locs 0 0 (QMI G Q below args s) (F0 m 70 ls [.int s1, .ref (G.2.1 sr0)]) := by
  unfold D_X11_hasWay_70 at hD
  refine lv_iconst (v := 0) X.1 X.2.1 d_X11_hasWay_70 (by decide) ?_
  exact s_X11_hasWay_71 X hr hlk K13 Q hK13 x1 x2 x3 x4 sr0 hs0 s1 0 σ hw (lv_sub hl [0, 1, 2, 3, 4] rfl) hD
set_option maxRecDepth 20000 in
set_option maxHeartbeats 4000000 in
theorem s_X11_hasWay_66 {p : Program} {l : Launch} {e : Env} {s : State} {m : MethodId} {args : Array Value} {below : List Frame} {meth : Method} {c : Code} {G : GC} (X : CallFix p m c cm_X11_hasWay 7 s args lw_us "GameLoomModel") (hr : meth.sig.returnType = some .boolean) (hlk : meth.locks = false) (K13 : Int32 → Int32 → Int32 → Int32 → GSt → Prop) (Q : Int32 → GSt → Prop) (hK13 : ∀ (x1 : Int32) (x2 : Int32) (x3 : Int32) (x4 : Int32) (σ : GSt) (H : Heap) (locs : List Loc) (ls : Array Slot), Wo G s H locs σ → lv_has ls 7 [(0, .ref (G.2.1 237)), (1, .int x1), (2, .int x2), (3, .int x3), (4, .int x4)] → K13 x1 x2 x3 x4 σ → W p l e rm_X11_hasWay s m args below meth c H locs 0 0 (QMI G Q below args s) (F0 m 13 ls [])) (x1 : Int32) (x2 : Int32) (x3 : Int32) (x4 : Int32) (sr0 : Nat) (hs0 : kd sr0 = 13) (s1 : Int32) (σ : GSt) {H : Heap} {locs : List Loc} {ls : Array Slot} (hw : Wo G s H locs σ) (hl : lv_has ls 7 [(0, .ref (G.2.1 237)), (1, .int x1), (2, .int x2), (3, .int x3), (4, .int x4)]) (hD : D_X11_hasWay_66 K13 Q x1 x2 x3 x4 sr0 s1 σ) : W p l e rm_X11_hasWay s m args below meth c H locs 0 0 (QMI G Q below args s) (F0 m 66 ls [.int s1, .ref (G.2.1 sr0)]) := by
  unfold D_X11_hasWay_66 at hD
  refine lv_iconst (v := 1) X.1 X.2.1 d_X11_hasWay_66 (by decide) ?_
  refine lv_goto (tgt := 71) X.1 X.2.1 d_X11_hasWay_67 (by decide) ?_
  exact s_X11_hasWay_71 X hr hlk K13 Q hK13 x1 x2 x3 x4 sr0 hs0 s1 1 σ hw (lv_sub hl [0, 1, 2, 3, 4] rfl) hD
set_option maxRecDepth 20000 in
set_option maxHeartbeats 4000000 in
theorem s_X11_hasWay_13 {p : Program} {l : Launch} {e : Env} {s : State} {m : MethodId} {args : Array Value} {below : List Frame} {meth : Method} {c : Code} {G : GC} (X : CallFix p m c cm_X11_hasWay 7 s args lw_us "GameLoomModel") (hr : meth.sig.returnType = some .boolean) (hlk : meth.locks = false) (K13 : Int32 → Int32 → Int32 → Int32 → GSt → Prop) (Q : Int32 → GSt → Prop) (hK13 : ∀ (x1 : Int32) (x2 : Int32) (x3 : Int32) (x4 : Int32) (σ : GSt) (H : Heap) (locs : List Loc) (ls : Array Slot), Wo G s H locs σ → lv_has ls 7 [(0, .ref (G.2.1 237)), (1, .int x1), (2, .int x2), (3, .int x3), (4, .int x4)] → K13 x1 x2 x3 x4 σ → W p l e rm_X11_hasWay s m args below meth c H locs 0 0 (QMI G Q below args s) (F0 m 13 ls [])) (x1 : Int32) (x2 : Int32) (x3 : Int32) (x4 : Int32) (σ : GSt) {H : Heap} {locs : List Loc} {ls : Array Slot} (hw : Wo G s H locs σ) (hl : lv_has ls 7 [(0, .ref (G.2.1 237)), (1, .int x1), (2, .int x2), (3, .int x3), (4, .int x4)]) (hD : D_X11_hasWay_13 K13 Q x1 x2 x3 x4 σ) : W p l e rm_X11_hasWay s m args below meth c H locs 0 0 (QMI G Q below args s) (F0 m 13 ls []) := by
  unfold D_X11_hasWay_13 at hD
  refine lv_iload X.1 X.2.1 d_X11_hasWay_13 (lv_at hl 4 rfl) ?_
  refine lv_aload_n X.1 X.2.1 d_X11_hasWay_15 rfl (lv_at hl 0 rfl) ?_
  refine gcV_i (rest := [.int x4]) (As := []) (o := 237) X hw (c_X11_cells l G  σ _  hD) (kd_lt (by decide +kernel : kd 237 = 11) (by decide)) (ce_11 G _ (by decide +kernel : kd 237 = 11)) rfl tb_1180 tb_1182 tv_54 tb_12 tb_1183 hd_X11_cells ⟨rfl, rfl⟩ ⟨Nat.le_of_ble_eq_true rfl, Nat.le_of_ble_eq_true rfl⟩ rfl hl.1 rfl (Nat.le_of_ble_eq_true rfl) d_X11_hasWay_16 (fun r_1 σ_2 H locs hD hw => ?_)
  refine lv_icmp_ge (tgt := 78) X.1 X.2.1 d_X11_hasWay_19 (by decide) (fun q_19 => ?_) (fun q_19 => ?_)
  · have hD := hD.1 q_19
    refine lv_iconst (v := 0) X.1 X.2.1 d_X11_hasWay_78 (by decide) ?_
    refine lv_istore (lv' := [(4, .int 0), (0, .ref (G.2.1 237)), (1, .int x1), (2, .int x2), (3, .int x3)]) X.1 X.2.1 d_X11_hasWay_79 hl (by decide) rfl (fun ls hl => ?_)
    obtain ⟨n9, hD⟩ := hD
    exact sl_X11_hasWay_81 X hr hlk  Q  n9 x1 x2 x3 0 σ_2 _ _ _  hw (lv_sub hl [1, 2, 3, 4, 0] rfl) hD
  · have hD := hD.2 q_19
    refine lv_aload_n X.1 X.2.1 d_X11_hasWay_22 rfl (lv_at hl 0 rfl) ?_
    refine gf_11_35 X hw (by decide +kernel : kd 237 = 11) tb_941 d_X11_hasWay_23 ?_
    refine lv_iload X.1 X.2.1 d_X11_hasWay_26 (lv_at hl 4 rfl) ?_
    refine lv_aload_n X.1 X.2.1 d_X11_hasWay_28 rfl (lv_at hl 0 rfl) ?_
    refine gf_11_23 X hw (by decide +kernel : kd 237 = 11) tb_929 d_X11_hasWay_29 ?_
    refine lv_bipush (v := 16) X.1 X.2.1 d_X11_hasWay_32 (by decide) ?_
    refine lv_iload_n X.1 X.2.1 d_X11_hasWay_34 rfl (lv_at hl 1 rfl) ?_
    refine lv_imul X.1 X.2.1 d_X11_hasWay_35 ?_
    refine lv_iload X.1 X.2.1 d_X11_hasWay_36 (lv_at hl 4 rfl) ?_
    refine lv_iadd X.1 X.2.1 d_X11_hasWay_38 ?_
    obtain ⟨q_39, hD⟩ := hD
    refine g_iald X hw ly_11_23.1 ly_11_23.2 q_39 d_X11_hasWay_39 ?_
    refine lv_iload_n X.1 X.2.1 d_X11_hasWay_40 rfl (lv_at hl 2 rfl) ?_
    refine lv_icmp_ne (tgt := 70) X.1 X.2.1 d_X11_hasWay_41 (by decide) (fun q_41 => ?_) (fun q_41 => ?_)
    · have hD := hD.1 q_41
      exact s_X11_hasWay_70 X hr hlk K13 Q hK13 x1 x2 x3 x4 269 ly_11_35.1 x4 σ_2 hw (lv_sub hl [0, 1, 2, 3, 4] rfl) hD
    · have hD := hD.2 q_41
      refine lv_iload_n X.1 X.2.1 d_X11_hasWay_44 rfl (lv_at hl 2 rfl) ?_
      refine lv_iconst (v := 1) X.1 X.2.1 d_X11_hasWay_45 (by decide) ?_
      refine lv_icmp_ne (tgt := 59) X.1 X.2.1 d_X11_hasWay_46 (by decide) (fun q_46 => ?_) (fun q_46 => ?_)
      · have hD := hD.1 q_46
        refine lv_iload X.1 X.2.1 d_X11_hasWay_59 (lv_at hl 4 rfl) ?_
        refine lv_iload_n X.1 X.2.1 d_X11_hasWay_61 rfl (lv_at hl 3 rfl) ?_
        obtain ⟨q_62, hD⟩ := hD
        refine g_irem X d_X11_hasWay_62 q_62 ?_
        refine lv_if_ne (tgt := 70) X.1 X.2.1 d_X11_hasWay_63 (by decide) (fun q_63 => ?_) (fun q_63 => ?_)
        · have hD := hD.1 q_63
          exact s_X11_hasWay_70 X hr hlk K13 Q hK13 x1 x2 x3 x4 269 ly_11_35.1 x4 σ_2 hw (lv_sub hl [0, 1, 2, 3, 4] rfl) hD
        · have hD := hD.2 q_63
          exact s_X11_hasWay_66 X hr hlk K13 Q hK13 x1 x2 x3 x4 269 ly_11_35.1 x4 σ_2 hw (lv_sub hl [0, 1, 2, 3, 4] rfl) hD
      · have hD := hD.2 q_46
        refine lv_iload X.1 X.2.1 d_X11_hasWay_49 (lv_at hl 4 rfl) ?_
        refine lv_iload_n X.1 X.2.1 d_X11_hasWay_51 rfl (lv_at hl 3 rfl) ?_
        obtain ⟨q_52, hD⟩ := hD
        refine lv_idiv X.1 X.2.1 d_X11_hasWay_52 q_52 ?_
        refine lv_if_ne (tgt := 70) X.1 X.2.1 d_X11_hasWay_53 (by decide) (fun q_53 => ?_) (fun q_53 => ?_)
        · have hD := hD.1 q_53
          exact s_X11_hasWay_70 X hr hlk K13 Q hK13 x1 x2 x3 x4 269 ly_11_35.1 x4 σ_2 hw (lv_sub hl [0, 1, 2, 3, 4] rfl) hD
        · have hD := hD.2 q_53
          refine lv_goto (tgt := 66) X.1 X.2.1 d_X11_hasWay_56 (by decide) ?_
          exact s_X11_hasWay_66 X hr hlk K13 Q hK13 x1 x2 x3 x4 269 ly_11_35.1 x4 σ_2 hw (lv_sub hl [0, 1, 2, 3, 4] rfl) hD
set_option maxRecDepth 20000 in
set_option maxHeartbeats 4000000 in
theorem sl_X11_hasWay_13 {p : Program} {l : Launch} {e : Env} {s : State} {m : MethodId} {args : Array Value} {below : List Frame} {meth : Method} {c : Code} {G : GC} (X : CallFix p m c cm_X11_hasWay 7 s args lw_us "GameLoomModel") (hr : meth.sig.returnType = some .boolean) (hlk : meth.locks = false) (Q : Int32 → GSt → Prop) : ∀ (nn : Nat), ∀ (x1 : Int32) (x2 : Int32) (x3 : Int32) (x4 : Int32) (σ : GSt) (H : Heap) (locs : List Loc) (ls : Array Slot), Wo G s H locs σ → lv_has ls 7 [(0, .ref (G.2.1 237)), (1, .int x1), (2, .int x2), (3, .int x3), (4, .int x4)] → L_X11_hasWay_13 Q nn x1 x2 x3 x4 σ → W p l e rm_X11_hasWay s m args below meth c H locs 0 0 (QMI G Q below args s) (F0 m 13 ls []) := by
  intro nn
  induction nn with
  | zero => intro x1 x2 x3 x4 σ H locs ls  hw hl hD; exact hD.elim
  | succ nn ih =>
    intro x1 x2 x3 x4 σ H locs ls  hw hl hD
    exact s_X11_hasWay_13 X hr hlk (L_X11_hasWay_13 Q nn) Q ih x1 x2 x3 x4 σ hw hl hD
set_option maxRecDepth 20000 in
set_option maxHeartbeats 4000000 in
theorem s_X11_hasWay_0 {p : Program} {l : Launch} {e : Env} {s : State} {m : MethodId} {args : Array Value} {below : List Frame} {meth : Method} {c : Code} {G : GC} (X : CallFix p m c cm_X11_hasWay 7 s args lw_us "GameLoomModel") (hr : meth.sig.returnType = some .boolean) (hlk : meth.locks = false) (Q : Int32 → GSt → Prop) (x1 : Int32) (x2 : Int32) (σ : GSt) {H : Heap} {locs : List Loc} {ls : Array Slot} (hw : Wo G s H locs σ) (hl : lv_has ls 7 [(0, .ref (G.2.1 237)), (1, .int x1), (2, .int x2)]) (hD : D_X11_hasWay_0 Q x1 x2 σ) : W p l e rm_X11_hasWay s m args below meth c H locs 0 0 (QMI G Q below args s) (F0 m 0 ls []) := by
  unfold D_X11_hasWay_0 at hD
  refine lv_aload_n X.1 X.2.1 d_X11_hasWay_0 rfl (lv_at hl 0 rfl) ?_
  refine gf_11_4 X hw (by decide +kernel : kd 237 = 11) tb_910 d_X11_hasWay_1 ?_
  refine lv_aload_n X.1 X.2.1 d_X11_hasWay_4 rfl (lv_at hl 0 rfl) ?_
  refine gf_11_22 X hw (by decide +kernel : kd 237 = 11) tb_928 d_X11_hasWay_5 ?_
  obtain ⟨q_8, hD⟩ := hD
  refine g_iald X hw ly_11_4.1 ly_11_4.2 q_8 d_X11_hasWay_8 ?_
  refine lv_topi (fun x3_1 e_x3_1 => ?_)
  have hD := hD x3_1 e_x3_1
  refine lv_istore_n (lv' := [(3, .int x3_1), (0, .ref (G.2.1 237)), (1, .int x1), (2, .int x2)]) X.1 X.2.1 d_X11_hasWay_9 rfl hl (by decide) rfl (fun ls hl => ?_)
  refine lv_iconst (v := 0) X.1 X.2.1 d_X11_hasWay_10 (by decide) ?_
  refine lv_istore (lv' := [(4, .int 0), (3, .int x3_1), (0, .ref (G.2.1 237)), (1, .int x1), (2, .int x2)]) X.1 X.2.1 d_X11_hasWay_11 hl (by decide) rfl (fun ls hl => ?_)
  obtain ⟨n9, hD⟩ := hD
  exact sl_X11_hasWay_13 X hr hlk  Q  n9 x1 x2 x3_1 0 σ _ _ _  hw (lv_sub hl [2, 3, 4, 1, 0] rfl) hD
theorem c_X11_hasWay (l : Launch) (G : GC) (x1 : Int32) (x2 : Int32) (σ : GSt) (Q : Int32 → GSt → Prop)  (hD : D_X11_hasWay x1 x2 σ Q) : MI l ym_X11_hasWay cm_X11_hasWay 7 .boolean rm_X11_hasWay G σ [.ref (G.2.1 237), .int x1, .int x2] Q := by
  refine met_i (by decide) (Nat.le_of_ble_eq_true rfl) ?_
  intro p e s m args below meth c X hr hlk hw ls hl
  exact s_X11_hasWay_0 X hr hlk Q  x1 x2 σ hw (lv_sub hl [0, 1, 2] rfl) hD
