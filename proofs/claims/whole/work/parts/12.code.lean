theorem hd_X5_addMoves : ym_X5_addMoves.cls = "GameLoom$Position" ∧ ym_X5_addMoves.cls ≠ "java/lang/invoke/MethodHandle" ∧ ym_X5_addMoves.cls ≠ "java/lang/invoke/VarHandle" ∧ (parseMethodDescriptor ym_X5_addMoves.desc).map (fun d => d.parameters.length) = some 3 := by decide +kernel
abbrev rm_X5_addMoves : Room := { frames := 1, cells := 0, slots := 0, locals := 30 }
theorem d_X5_addMoves_0 : decode cm_X5_addMoves 0 = .ok (.aload_n 0, 1) := by decide +kernel
theorem d_X5_addMoves_1 : decode cm_X5_addMoves 1 = .ok (.getfield 9, 3) := by decide +kernel
theorem d_X5_addMoves_4 : decode cm_X5_addMoves 4 = .ok (.getfield 57, 3) := by decide +kernel
theorem d_X5_addMoves_7 : decode cm_X5_addMoves 7 = .ok (.iload_n 1, 1) := by decide +kernel
theorem d_X5_addMoves_8 : decode cm_X5_addMoves 8 = .ok (.aaload, 1) := by decide +kernel
theorem d_X5_addMoves_9 : decode cm_X5_addMoves 9 = .ok (.astore 4, 2) := by decide +kernel
theorem d_X5_addMoves_11 : decode cm_X5_addMoves 11 = .ok (.iload_n 3, 1) := by decide +kernel
theorem d_X5_addMoves_12 : decode cm_X5_addMoves 12 = .ok (.istore 5, 2) := by decide +kernel
theorem d_X5_addMoves_14 : decode cm_X5_addMoves 14 = .ok (.aload_n 0, 1) := by decide +kernel
theorem d_X5_addMoves_15 : decode cm_X5_addMoves 15 = .ok (.getfield 15, 3) := by decide +kernel
theorem d_X5_addMoves_18 : decode cm_X5_addMoves 18 = .ok (.iconst 1, 1) := by decide +kernel
theorem d_X5_addMoves_19 : decode cm_X5_addMoves 19 = .ok (.iand, 1) := by decide +kernel
theorem d_X5_addMoves_20 : decode cm_X5_addMoves 20 = .ok (.ifCond .ne 10, 3) := by decide +kernel
theorem d_X5_addMoves_23 : decode cm_X5_addMoves 23 = .ok (.aload_n 0, 1) := by decide +kernel
theorem d_X5_addMoves_24 : decode cm_X5_addMoves 24 = .ok (.getfield 39, 3) := by decide +kernel
theorem d_X5_addMoves_27 : decode cm_X5_addMoves 27 = .ok (.goto 7, 3) := by decide +kernel
theorem d_X5_addMoves_30 : decode cm_X5_addMoves 30 = .ok (.aload_n 0, 1) := by decide +kernel
theorem d_X5_addMoves_31 : decode cm_X5_addMoves 31 = .ok (.getfield 42, 3) := by decide +kernel
theorem d_X5_addMoves_34 : decode cm_X5_addMoves 34 = .ok (.istore 6, 2) := by decide +kernel
theorem d_X5_addMoves_36 : decode cm_X5_addMoves 36 = .ok (.aload 4, 2) := by decide +kernel
theorem d_X5_addMoves_38 : decode cm_X5_addMoves 38 = .ok (.getfield 71, 3) := by decide +kernel
theorem d_X5_addMoves_41 : decode cm_X5_addMoves 41 = .ok (.ifCond .ne 82, 3) := by decide +kernel
theorem d_X5_addMoves_44 : decode cm_X5_addMoves 44 = .ok (.aload 4, 2) := by decide +kernel
theorem d_X5_addMoves_46 : decode cm_X5_addMoves 46 = .ok (.getfield 74, 3) := by decide +kernel
theorem d_X5_addMoves_49 : decode cm_X5_addMoves 49 = .ok (.ifCond .eq 16, 3) := by decide +kernel
theorem d_X5_addMoves_52 : decode cm_X5_addMoves 52 = .ok (.iload 6, 2) := by decide +kernel
theorem d_X5_addMoves_54 : decode cm_X5_addMoves 54 = .ok (.invokestatic 77, 3) := by decide +kernel
theorem d_X5_addMoves_57 : decode cm_X5_addMoves 57 = .ok (.aload 4, 2) := by decide +kernel
theorem d_X5_addMoves_59 : decode cm_X5_addMoves 59 = .ok (.getfield 74, 3) := by decide +kernel
theorem d_X5_addMoves_62 : decode cm_X5_addMoves 62 = .ok (.if_icmp .ge 7, 3) := by decide +kernel
theorem d_X5_addMoves_65 : decode cm_X5_addMoves 65 = .ok (.iconst 1, 1) := by decide +kernel
theorem d_X5_addMoves_66 : decode cm_X5_addMoves 66 = .ok (.goto 4, 3) := by decide +kernel
theorem d_X5_addMoves_69 : decode cm_X5_addMoves 69 = .ok (.iconst 0, 1) := by decide +kernel
theorem d_X5_addMoves_70 : decode cm_X5_addMoves 70 = .ok (.istore 7, 2) := by decide +kernel
theorem d_X5_addMoves_72 : decode cm_X5_addMoves 72 = .ok (.aload_n 0, 1) := by decide +kernel
theorem d_X5_addMoves_73 : decode cm_X5_addMoves 73 = .ok (.getfield 9, 3) := by decide +kernel
theorem d_X5_addMoves_76 : decode cm_X5_addMoves 76 = .ok (.getfield 83, 3) := by decide +kernel
theorem d_X5_addMoves_79 : decode cm_X5_addMoves 79 = .ok (.getfield 87, 3) := by decide +kernel
theorem d_X5_addMoves_82 : decode cm_X5_addMoves 82 = .ok (.aload_n 0, 1) := by decide +kernel
theorem d_X5_addMoves_83 : decode cm_X5_addMoves 83 = .ok (.getfield 39, 3) := by decide +kernel
theorem d_X5_addMoves_86 : decode cm_X5_addMoves 86 = .ok (.aload_n 0, 1) := by decide +kernel
theorem d_X5_addMoves_87 : decode cm_X5_addMoves 87 = .ok (.getfield 42, 3) := by decide +kernel
theorem d_X5_addMoves_90 : decode cm_X5_addMoves 90 = .ok (.ior, 1) := by decide +kernel
theorem d_X5_addMoves_91 : decode cm_X5_addMoves 91 = .ok (.iconst (-1), 1) := by decide +kernel
theorem d_X5_addMoves_92 : decode cm_X5_addMoves 92 = .ok (.ixor, 1) := by decide +kernel
theorem d_X5_addMoves_93 : decode cm_X5_addMoves 93 = .ok (.iand, 1) := by decide +kernel
theorem d_X5_addMoves_94 : decode cm_X5_addMoves 94 = .ok (.istore 8, 2) := by decide +kernel
theorem d_X5_addMoves_96 : decode cm_X5_addMoves 96 = .ok (.iload 7, 2) := by decide +kernel
theorem d_X5_addMoves_98 : decode cm_X5_addMoves 98 = .ok (.ifCond .eq 22, 3) := by decide +kernel
theorem d_X5_addMoves_101 : decode cm_X5_addMoves 101 = .ok (.iload_n 1, 1) := by decide +kernel
theorem d_X5_addMoves_102 : decode cm_X5_addMoves 102 = .ok (.bipush 16, 2) := by decide +kernel
theorem d_X5_addMoves_104 : decode cm_X5_addMoves 104 = .ok (.ishl, 1) := by decide +kernel
theorem d_X5_addMoves_105 : decode cm_X5_addMoves 105 = .ok (.sipush 25344, 3) := by decide +kernel
theorem d_X5_addMoves_108 : decode cm_X5_addMoves 108 = .ok (.ior, 1) := by decide +kernel
theorem d_X5_addMoves_109 : decode cm_X5_addMoves 109 = .ok (.iload 8, 2) := by decide +kernel
theorem d_X5_addMoves_111 : decode cm_X5_addMoves 111 = .ok (.aload_n 2, 1) := by decide +kernel
theorem d_X5_addMoves_112 : decode cm_X5_addMoves 112 = .ok (.iload 5, 2) := by decide +kernel
theorem d_X5_addMoves_114 : decode cm_X5_addMoves 114 = .ok (.invokestatic 92, 3) := by decide +kernel
theorem d_X5_addMoves_117 : decode cm_X5_addMoves 117 = .ok (.goto 5, 3) := by decide +kernel
theorem d_X5_addMoves_120 : decode cm_X5_addMoves 120 = .ok (.iload 5, 2) := by decide +kernel
theorem d_X5_addMoves_122 : decode cm_X5_addMoves 122 = .ok (.ireturn, 1) := by decide +kernel
theorem d_X5_addMoves_123 : decode cm_X5_addMoves 123 = .ok (.iconst 0, 1) := by decide +kernel
theorem d_X5_addMoves_124 : decode cm_X5_addMoves 124 = .ok (.istore 7, 2) := by decide +kernel
theorem d_X5_addMoves_126 : decode cm_X5_addMoves 126 = .ok (.iload 6, 2) := by decide +kernel
theorem d_X5_addMoves_128 : decode cm_X5_addMoves 128 = .ok (.iload 7, 2) := by decide +kernel
theorem d_X5_addMoves_130 : decode cm_X5_addMoves 130 = .ok (.iushr, 1) := by decide +kernel
theorem d_X5_addMoves_131 : decode cm_X5_addMoves 131 = .ok (.ifCond .eq 52, 3) := by decide +kernel
theorem d_X5_addMoves_134 : decode cm_X5_addMoves 134 = .ok (.iload 7, 2) := by decide +kernel
theorem d_X5_addMoves_136 : decode cm_X5_addMoves 136 = .ok (.bipush 16, 2) := by decide +kernel
theorem d_X5_addMoves_138 : decode cm_X5_addMoves 138 = .ok (.if_icmp .ge 45, 3) := by decide +kernel
theorem d_X5_addMoves_141 : decode cm_X5_addMoves 141 = .ok (.iload 6, 2) := by decide +kernel
theorem d_X5_addMoves_143 : decode cm_X5_addMoves 143 = .ok (.iload 7, 2) := by decide +kernel
theorem d_X5_addMoves_145 : decode cm_X5_addMoves 145 = .ok (.iushr, 1) := by decide +kernel
theorem d_X5_addMoves_146 : decode cm_X5_addMoves 146 = .ok (.iconst 1, 1) := by decide +kernel
theorem d_X5_addMoves_147 : decode cm_X5_addMoves 147 = .ok (.iand, 1) := by decide +kernel
theorem d_X5_addMoves_148 : decode cm_X5_addMoves 148 = .ok (.ifCond .eq 29, 3) := by decide +kernel
theorem d_X5_addMoves_151 : decode cm_X5_addMoves 151 = .ok (.iload_n 1, 1) := by decide +kernel
theorem d_X5_addMoves_152 : decode cm_X5_addMoves 152 = .ok (.bipush 16, 2) := by decide +kernel
theorem d_X5_addMoves_154 : decode cm_X5_addMoves 154 = .ok (.ishl, 1) := by decide +kernel
theorem d_X5_addMoves_155 : decode cm_X5_addMoves 155 = .ok (.iload 7, 2) := by decide +kernel
theorem d_X5_addMoves_157 : decode cm_X5_addMoves 157 = .ok (.bipush 8, 2) := by decide +kernel
theorem d_X5_addMoves_159 : decode cm_X5_addMoves 159 = .ok (.ishl, 1) := by decide +kernel
theorem d_X5_addMoves_160 : decode cm_X5_addMoves 160 = .ok (.ior, 1) := by decide +kernel
theorem d_X5_addMoves_161 : decode cm_X5_addMoves 161 = .ok (.aload_n 0, 1) := by decide +kernel
theorem d_X5_addMoves_162 : decode cm_X5_addMoves 162 = .ok (.aload 4, 2) := by decide +kernel
theorem d_X5_addMoves_164 : decode cm_X5_addMoves 164 = .ok (.iload 7, 2) := by decide +kernel
theorem d_X5_addMoves_166 : decode cm_X5_addMoves 166 = .ok (.invokevirtual 96, 3) := by decide +kernel
theorem d_X5_addMoves_169 : decode cm_X5_addMoves 169 = .ok (.aload_n 2, 1) := by decide +kernel
theorem d_X5_addMoves_170 : decode cm_X5_addMoves 170 = .ok (.iload 5, 2) := by decide +kernel
theorem d_X5_addMoves_172 : decode cm_X5_addMoves 172 = .ok (.invokestatic 92, 3) := by decide +kernel
theorem d_X5_addMoves_175 : decode cm_X5_addMoves 175 = .ok (.istore 5, 2) := by decide +kernel
theorem d_X5_addMoves_177 : decode cm_X5_addMoves 177 = .ok (.iinc 7 1, 3) := by decide +kernel
theorem d_X5_addMoves_180 : decode cm_X5_addMoves 180 = .ok (.goto (-54), 3) := by decide +kernel
theorem d_X5_addMoves_183 : decode cm_X5_addMoves 183 = .ok (.iload 5, 2) := by decide +kernel
theorem d_X5_addMoves_185 : decode cm_X5_addMoves 185 = .ok (.ireturn, 1) := by decide +kernel
def D_X5_addMoves_177 (K126 : Int32 → Nat → Nat → Int32 → Int32 → Int32 → GSt → Prop) (Q : Int32 → GSt → Prop) (o : Nat) (x1 : Int32) (r2 : Nat) (r4 : Nat) (x5 : Int32) (x6 : Int32) (x7 : Int32) (σ : GSt) : Prop :=
  ∀ x7_1 : Int32, x7_1 = x7 + 1 → (K126 x1 r2 r4 x5 x6 x7_1 σ)
def D_X5_addMoves_126 (K126 : Int32 → Nat → Nat → Int32 → Int32 → Int32 → GSt → Prop) (Q : Int32 → GSt → Prop) (o : Nat) (x1 : Int32) (r2 : Nat) (r4 : Nat) (x5 : Int32) (x6 : Int32) (x7 : Int32) (σ : GSt) : Prop :=
  ((jushr x6 x7) = 0 → Q x5 σ) ∧
  (¬ (jushr x6 x7) = 0 → (16 ≤ x7 → Q x5 σ) ∧
  (¬ 16 ≤ x7 → (((jushr x6 x7) &&& 1) = 0 → D_X5_addMoves_177 K126 Q o x1 r2 r4 x5 x6 x7 σ) ∧
  (¬ ((jushr x6 x7) &&& 1) = 0 → D_X5_targets o r4 x7 σ (fun r_1 σ_2 => D_X5_addEach ((jshl x1 16) ||| (jshl x7 8)) r_1 r2 x5 σ_2 (fun r_3 σ_4 => D_X5_addMoves_177 K126 Q o x1 r2 r4 r_3 x6 x7 σ_4)))))
def L_X5_addMoves_126 (Q : Int32 → GSt → Prop) (o : Nat) : Nat → Int32 → Nat → Nat → Int32 → Int32 → Int32 → GSt → Prop
  | 0 => fun _ _ _ _ _ _ _ => False
  | n + 1 => fun x1 r2 r4 x5 x6 x7 σ => D_X5_addMoves_126 (L_X5_addMoves_126 Q o n) Q o x1 r2 r4 x5 x6 x7 σ
def D_X5_addMoves_70 (Q : Int32 → GSt → Prop) (o : Nat) (x1 : Int32) (r2 : Nat) (x5 : Int32) (s0 : Int32) (σ : GSt) : Prop :=
  (¬ σ o 0 < 0 ∧ kd (σ o 0).toNatClampNeg = 1) ∧ (∀ x8_1 : Int32, x8_1 = ((σ (((σ o 0).toNatClampNeg) + 3) 7) &&& (((σ o 1) ||| (σ o 2)) ^^^ (-1))) → ((s0 = 0 → Q x5 σ) ∧
  (¬ s0 = 0 → D_X5_addEach ((jshl x1 16) ||| 25344) x8_1 r2 x5 σ (fun r_2 σ_3 => Q r_2 σ_3))))
def D_X5_addMoves_65 (Q : Int32 → GSt → Prop) (o : Nat) (x1 : Int32) (r2 : Nat) (x5 : Int32) (σ : GSt) : Prop :=
  D_X5_addMoves_70 Q o x1 r2 x5 1 σ
def D_X5_addMoves_34 (Q : Int32 → GSt → Prop) (o : Nat) (x1 : Int32) (r2 : Nat) (r4 : Nat) (x5 : Int32) (s0 : Int32) (σ : GSt) : Prop :=
  (¬ (σ r4 0) = 0 → ∃ n : Nat, L_X5_addMoves_126 Q o n x1 r2 r4 x5 s0 0 σ) ∧
  ((σ r4 0) = 0 → ((σ r4 1) = 0 → D_X5_addMoves_65 Q o x1 r2 x5 σ) ∧
  (¬ (σ r4 1) = 0 → D_J6_bitCount_0f7a4 s0 σ (fun r_1 σ_2 => ((σ_2 r4 1) ≤ r_1 → D_X5_addMoves_70 Q o x1 r2 x5 0 σ_2) ∧
  (¬ (σ_2 r4 1) ≤ r_1 → D_X5_addMoves_65 Q o x1 r2 x5 σ_2))))
def D_X5_addMoves_0 (Q : Int32 → GSt → Prop) (o : Nat) (x1 : Int32) (r2 : Nat) (x3 : Int32) (σ : GSt) : Prop :=
  (¬ σ o 0 < 0 ∧ kd (σ o 0).toNatClampNeg = 1) ∧ (vp_in x1 6 ∧ ((¬ ((σ o 3) &&& 1) = 0 → D_X5_addMoves_34 Q o x1 r2 ((((σ o 0).toNatClampNeg) + 8) + 2 + 2 * Int32.toNatClampNeg x1) x3 (σ o 2) σ) ∧
  (((σ o 3) &&& 1) = 0 → D_X5_addMoves_34 Q o x1 r2 ((((σ o 0).toNatClampNeg) + 8) + 2 + 2 * Int32.toNatClampNeg x1) x3 (σ o 1) σ)))
def D_X5_addMoves (o : Nat) (x1 : Int32) (r2 : Nat) (x3 : Int32) (σ : GSt) (Q : Int32 → GSt → Prop) : Prop := D_X5_addMoves_0 Q o x1 r2 x3 σ
set_option maxRecDepth 20000 in
set_option maxHeartbeats 4000000 in
theorem s_X5_addMoves_177 {p : Program} {l : Launch} {e : Env} {s : State} {m : MethodId} {args : Array Value} {below : List Frame} {meth : Method} {c : Code} {G : GC} (X : CallFix p m c cm_X5_addMoves 9 s args lw_us "GameLoom$Position") (hr : meth.sig.returnType = some .int) (hlk : meth.locks = false) (K126 : Int32 → Nat → Nat → Int32 → Int32 → Int32 → GSt → Prop) (Q : Int32 → GSt → Prop) (o : Nat) (ho : kd o = 5) (hK126 : ∀ (x1 : Int32) (r2 : Nat) (r4 : Nat) (x5 : Int32) (x6 : Int32) (x7 : Int32) (σ : GSt) (H : Heap) (locs : List Loc) (ls : Array Slot), kd r2 = 12 → kd r4 = 7 → Wo G s H locs σ → lv_has ls 9 [(0, .ref (G.2.1 o)), (1, .int x1), (2, .ref (G.2.1 r2)), (4, .ref (G.2.1 r4)), (5, .int x5), (6, .int x6), (7, .int x7)] → K126 x1 r2 r4 x5 x6 x7 σ → W p l e rm_X5_addMoves s m args below meth c H locs 0 0 (QMI G Q below args s) (F0 m 126 ls [])) (x1 : Int32) (r2 : Nat) (hk2 : kd r2 = 12) (r4 : Nat) (hk4 : kd r4 = 7) (x5 : Int32) (x6 : Int32) (x7 : Int32) (σ : GSt) {H : Heap} {locs : List Loc} {ls : Array Slot} (hw : Wo G s H locs σ) (hl : lv_has ls 9 [(0, .ref (G.2.1 o)), (1, .int x1), (2, .ref (G.2.1 r2)), (4, .ref (G.2.1 r4)), (5, .int x5), (6, .int x6), (7, .int x7)]) (hD : D_X5_addMoves_177 K126 Q o x1 r2 r4 x5 x6 x7 σ) : W p l e rm_X5_addMoves s m args below meth c H locs 0 0 (QMI G Q below args s) (F0 m 177 ls []) := by
  unfold D_X5_addMoves_177 at hD
  obtain ⟨x7_1, e_x7_1⟩ : ∃ y : Int32, y = x7 + 1 := ⟨_, rfl⟩
  have hD := hD x7_1 e_x7_1
  refine lv_iinc (v := x7_1) (lv' := [(7, .int x7_1), (0, .ref (G.2.1 o)), (1, .int x1), (2, .ref (G.2.1 r2)), (4, .ref (G.2.1 r4)), (5, .int x5), (6, .int x6)]) X.1 X.2.1 d_X5_addMoves_177 hl (k := 6) rfl (by rw [e_x7_1]; rfl) (by decide) rfl (fun ls hl => ?_)
  refine lv_goto (tgt := 126) X.1 X.2.1 d_X5_addMoves_180 (by decide) ?_
  exact hK126 x1 r2 r4 x5 x6 x7_1 σ _ _ _ hk2 hk4 hw (lv_sub hl [1, 2, 3, 4, 5, 6, 0] rfl) hD
set_option maxRecDepth 20000 in
set_option maxHeartbeats 4000000 in
theorem s_X5_addMoves_126 {p : Program} {l : Launch} {e : Env} {s : State} {m : MethodId} {args : Array Value} {below : List Frame} {meth : Method} {c : Code} {G : GC} (X : CallFix p m c cm_X5_addMoves 9 s args lw_us "GameLoom$Position") (hr : meth.sig.returnType = some .int) (hlk : meth.locks = false) (K126 : Int32 → Nat → Nat → Int32 → Int32 → Int32 → GSt → Prop) (Q : Int32 → GSt → Prop) (o : Nat) (ho : kd o = 5) (hK126 : ∀ (x1 : Int32) (r2 : Nat) (r4 : Nat) (x5 : Int32) (x6 : Int32) (x7 : Int32) (σ : GSt) (H : Heap) (locs : List Loc) (ls : Array Slot), kd r2 = 12 → kd r4 = 7 → Wo G s H locs σ → lv_has ls 9 [(0, .ref (G.2.1 o)), (1, .int x1), (2, .ref (G.2.1 r2)), (4, .ref (G.2.1 r4)), (5, .int x5), (6, .int x6), (7, .int x7)] → K126 x1 r2 r4 x5 x6 x7 σ → W p l e rm_X5_addMoves s m args below meth c H locs 0 0 (QMI G Q below args s) (F0 m 126 ls [])) (x1 : Int32) (r2 : Nat) (hk2 : kd r2 = 12) (r4 : Nat) (hk4 : kd r4 = 7) (x5 : Int32) (x6 : Int32) (x7 : Int32) (σ : GSt) {H : Heap} {locs : List Loc} {ls : Array Slot} (hw : Wo G s H locs σ) (hl : lv_has ls 9 [(0, .ref (G.2.1 o)), (1, .int x1), (2, .ref (G.2.1 r2)), (4, .ref (G.2.1 r4)), (5, .int x5), (6, .int x6), (7, .int x7)]) (hD : D_X5_addMoves_126 K126 Q o x1 r2 r4 x5 x6 x7 σ) : W p l e rm_X5_addMoves s m args below meth c H locs 0 0 (QMI G Q below args s) (F0 m 126 ls []) := by
  unfold D_X5_addMoves_126 at hD
  refine lv_iload X.1 X.2.1 d_X5_addMoves_126 (lv_at hl 5 rfl) ?_
  refine lv_iload X.1 X.2.1 d_X5_addMoves_128 (lv_at hl 6 rfl) ?_
  refine lv_iushr (v := (jushr x6 x7)) X.1 X.2.1 d_X5_addMoves_130 rfl ?_
  refine lv_if_eq (tgt := 183) X.1 X.2.1 d_X5_addMoves_131 (by decide) (fun q_131 => ?_) (fun q_131 => ?_)
  · have hD := hD.1 q_131
    refine lv_iload X.1 X.2.1 d_X5_addMoves_183 (lv_at hl 4 rfl) ?_
    exact g_iret X hr hlk hw hD d_X5_addMoves_185
  · have hD := hD.2 q_131
    refine lv_iload X.1 X.2.1 d_X5_addMoves_134 (lv_at hl 6 rfl) ?_
    refine lv_bipush (v := 16) X.1 X.2.1 d_X5_addMoves_136 (by decide) ?_
    refine lv_icmp_ge (tgt := 183) X.1 X.2.1 d_X5_addMoves_138 (by decide) (fun q_138 => ?_) (fun q_138 => ?_)
    · have hD := hD.1 q_138
      refine lv_iload X.1 X.2.1 d_X5_addMoves_183 (lv_at hl 4 rfl) ?_
      exact g_iret X hr hlk hw hD d_X5_addMoves_185
    · have hD := hD.2 q_138
      refine lv_iload X.1 X.2.1 d_X5_addMoves_141 (lv_at hl 5 rfl) ?_
      refine lv_iload X.1 X.2.1 d_X5_addMoves_143 (lv_at hl 6 rfl) ?_
      refine lv_iushr (v := (jushr x6 x7)) X.1 X.2.1 d_X5_addMoves_145 rfl ?_
      refine lv_iconst (v := 1) X.1 X.2.1 d_X5_addMoves_146 (by decide) ?_
      refine lv_iand X.1 X.2.1 d_X5_addMoves_147 ?_
      refine lv_if_eq (tgt := 177) X.1 X.2.1 d_X5_addMoves_148 (by decide) (fun q_148 => ?_) (fun q_148 => ?_)
      · have hD := hD.1 q_148
        exact s_X5_addMoves_177 X hr hlk K126 Q o ho hK126 x1 r2 hk2 r4 hk4 x5 x6 x7 σ hw (lv_sub hl [0, 1, 2, 3, 4, 5, 6] rfl) hD
      · have hD := hD.2 q_148
        refine lv_iload_n X.1 X.2.1 d_X5_addMoves_151 rfl (lv_at hl 1 rfl) ?_
        refine lv_bipush (v := 16) X.1 X.2.1 d_X5_addMoves_152 (by decide) ?_
        refine g_ishl X d_X5_addMoves_154 ?_
        refine lv_iload X.1 X.2.1 d_X5_addMoves_155 (lv_at hl 6 rfl) ?_
        refine lv_bipush (v := 8) X.1 X.2.1 d_X5_addMoves_157 (by decide) ?_
        refine g_ishl X d_X5_addMoves_159 ?_
        refine lv_ior X.1 X.2.1 d_X5_addMoves_160 ?_
        refine lv_aload_n X.1 X.2.1 d_X5_addMoves_161 rfl (lv_at hl 0 rfl) ?_
        refine lv_aload X.1 X.2.1 d_X5_addMoves_162 (lv_at hl 3 rfl) ?_
        refine lv_iload X.1 X.2.1 d_X5_addMoves_164 (lv_at hl 6 rfl) ?_
        refine gcV_i (rest := [.int ((jshl x1 16) ||| (jshl x7 8))]) (As := [.ref (G.2.1 r4), .int x7]) (o := o) X hw (c_X5_targets l G o r4 x7 σ _ ho hk4 hD) (kd_lt ho (by decide)) (ce_5 G _ ho) rfl tb_565 tb_567 tv_20 tb_9 tb_568 hd_X5_targets ⟨rfl, rfl⟩ ⟨Nat.le_of_ble_eq_true rfl, Nat.le_of_ble_eq_true rfl⟩ rfl hl.1 rfl (Nat.le_of_ble_eq_true rfl) d_X5_addMoves_166 (fun r_1 σ_2 H locs hD hw => ?_)
        refine lv_aload_n X.1 X.2.1 d_X5_addMoves_169 rfl (lv_at hl 2 rfl) ?_
        refine lv_iload X.1 X.2.1 d_X5_addMoves_170 (lv_at hl 4 rfl) ?_
        refine gcS_i (rest := []) (As := [.int ((jshl x1 16) ||| (jshl x7 8)), .int r_1, .ref (G.2.1 r2), .int x5]) X hw (c_X5_addEach l G ((jshl x1 16) ||| (jshl x7 8)) r_1 r2 x5 σ_2 _ hk2 hD) tb_581 tb_582 tb_9 tb_583 hd_X5_addEach ⟨rfl, rfl⟩ ⟨Nat.le_of_ble_eq_true rfl, Nat.le_of_ble_eq_true rfl⟩ rfl hl.1 rfl (Nat.le_of_ble_eq_true rfl) d_X5_addMoves_172 (fun r_3 σ_4 H locs hD hw => ?_)
        refine lv_istore (lv' := [(5, .int r_3), (0, .ref (G.2.1 o)), (1, .int x1), (2, .ref (G.2.1 r2)), (4, .ref (G.2.1 r4)), (6, .int x6), (7, .int x7)]) X.1 X.2.1 d_X5_addMoves_175 hl (by decide) rfl (fun ls hl => ?_)
        exact s_X5_addMoves_177 X hr hlk K126 Q o ho hK126 x1 r2 hk2 r4 hk4 r_3 x6 x7 σ_4 hw (lv_sub hl [1, 2, 3, 4, 0, 5, 6] rfl) hD
set_option maxRecDepth 20000 in
set_option maxHeartbeats 4000000 in
theorem sl_X5_addMoves_126 {p : Program} {l : Launch} {e : Env} {s : State} {m : MethodId} {args : Array Value} {below : List Frame} {meth : Method} {c : Code} {G : GC} (X : CallFix p m c cm_X5_addMoves 9 s args lw_us "GameLoom$Position") (hr : meth.sig.returnType = some .int) (hlk : meth.locks = false) (Q : Int32 → GSt → Prop) (o : Nat) (ho : kd o = 5) : ∀ (nn : Nat), ∀ (x1 : Int32) (r2 : Nat) (r4 : Nat) (x5 : Int32) (x6 : Int32) (x7 : Int32) (σ : GSt) (H : Heap) (locs : List Loc) (ls : Array Slot), kd r2 = 12 → kd r4 = 7 → Wo G s H locs σ → lv_has ls 9 [(0, .ref (G.2.1 o)), (1, .int x1), (2, .ref (G.2.1 r2)), (4, .ref (G.2.1 r4)), (5, .int x5), (6, .int x6), (7, .int x7)] → L_X5_addMoves_126 Q o nn x1 r2 r4 x5 x6 x7 σ → W p l e rm_X5_addMoves s m args below meth c H locs 0 0 (QMI G Q below args s) (F0 m 126 ls []) := by
  intro nn
  induction nn with
  | zero => intro x1 r2 r4 x5 x6 x7 σ H locs ls hk2 hk4 hw hl hD; exact hD.elim
  | succ nn ih =>
    intro x1 r2 r4 x5 x6 x7 σ H locs ls hk2 hk4 hw hl hD
    exact s_X5_addMoves_126 X hr hlk (L_X5_addMoves_126 Q o nn) Q o ho ih x1 r2 hk2 r4 hk4 x5 x6 x7 σ hw hl hD
set_option maxRecDepth 20000 in
set_option maxHeartbeats 4000000 in
theorem s_X5_addMoves_70 {p : Program} {l : Launch} {e : Env} {s : State} {m : MethodId} {args : Array Value} {below : List Frame} {meth : Method} {c : Code} {G : GC} (X : CallFix p m c cm_X5_addMoves 9 s args lw_us "GameLoom$Position") (hr : meth.sig.returnType = some .int) (hlk : meth.locks = false) (Q : Int32 → GSt → Prop) (o : Nat) (ho : kd o = 5) (x1 : Int32) (r2 : Nat) (hk2 : kd r2 = 12) (x5 : Int32) (s0 : Int32) (σ : GSt) {H : Heap} {locs : List Loc} {ls : Array Slot} (hw : Wo G s H locs σ) (hl : lv_has ls 9 [(0, .ref (G.2.1 o)), (1, .int x1), (2, .ref (G.2.1 r2)), (5, .int x5)]) (hD : D_X5_addMoves_70 Q o x1 r2 x5 s0 σ) : W p l e rm_X5_addMoves s m args below meth c H locs 0 0 (QMI G Q below args s) (F0 m 70 ls [.int s0]) := by
  unfold D_X5_addMoves_70 at hD
  refine lv_istore (lv' := [(7, .int s0), (0, .ref (G.2.1 o)), (1, .int x1), (2, .ref (G.2.1 r2)), (5, .int x5)]) X.1 X.2.1 d_X5_addMoves_70 hl (by decide) rfl (fun ls hl => ?_)
  refine lv_aload_n X.1 X.2.1 d_X5_addMoves_72 rfl (lv_at hl 1 rfl) ?_
  obtain ⟨q_73, hD⟩ := hD
  refine gf_5_0 X hw ho tb_237 q_73.1 d_X5_addMoves_73 ?_
  refine gf_1_1 X hw q_73.2 tb_158 d_X5_addMoves_76 ?_
  refine gf_0_7 X hw (ly_1_1 q_73.2) tb_89 d_X5_addMoves_79 ?_
  refine lv_aload_n X.1 X.2.1 d_X5_addMoves_82 rfl (lv_at hl 1 rfl) ?_
  refine gf_5_1 X hw ho tb_240 d_X5_addMoves_83 ?_
  refine lv_aload_n X.1 X.2.1 d_X5_addMoves_86 rfl (lv_at hl 1 rfl) ?_
  refine gf_5_2 X hw ho tb_245 d_X5_addMoves_87 ?_
  refine lv_ior X.1 X.2.1 d_X5_addMoves_90 ?_
  refine lv_iconst (v := (-1)) X.1 X.2.1 d_X5_addMoves_91 (by decide) ?_
  refine lv_ixor X.1 X.2.1 d_X5_addMoves_92 ?_
  refine lv_iand X.1 X.2.1 d_X5_addMoves_93 ?_
  refine lv_topi (fun x8_1 e_x8_1 => ?_)
  have hD := hD x8_1 e_x8_1
  refine lv_istore (lv' := [(8, .int x8_1), (7, .int s0), (0, .ref (G.2.1 o)), (1, .int x1), (2, .ref (G.2.1 r2)), (5, .int x5)]) X.1 X.2.1 d_X5_addMoves_94 hl (by decide) rfl (fun ls hl => ?_)
  refine lv_iload X.1 X.2.1 d_X5_addMoves_96 (lv_at hl 1 rfl) ?_
  refine lv_if_eq (tgt := 120) X.1 X.2.1 d_X5_addMoves_98 (by decide) (fun q_98 => ?_) (fun q_98 => ?_)
  · have hD := hD.1 q_98
    refine lv_iload X.1 X.2.1 d_X5_addMoves_120 (lv_at hl 5 rfl) ?_
    exact g_iret X hr hlk hw hD d_X5_addMoves_122
  · have hD := hD.2 q_98
    refine lv_iload_n X.1 X.2.1 d_X5_addMoves_101 rfl (lv_at hl 3 rfl) ?_
    refine lv_bipush (v := 16) X.1 X.2.1 d_X5_addMoves_102 (by decide) ?_
    refine g_ishl X d_X5_addMoves_104 ?_
    refine lv_sipush (v := 25344) X.1 X.2.1 d_X5_addMoves_105 (by decide) ?_
    refine lv_ior X.1 X.2.1 d_X5_addMoves_108 ?_
    refine lv_iload X.1 X.2.1 d_X5_addMoves_109 (lv_at hl 0 rfl) ?_
    refine lv_aload_n X.1 X.2.1 d_X5_addMoves_111 rfl (lv_at hl 4 rfl) ?_
    refine lv_iload X.1 X.2.1 d_X5_addMoves_112 (lv_at hl 5 rfl) ?_
    refine gcS_i (rest := []) (As := [.int ((jshl x1 16) ||| 25344), .int x8_1, .ref (G.2.1 r2), .int x5]) X hw (c_X5_addEach l G ((jshl x1 16) ||| 25344) x8_1 r2 x5 σ _ hk2 hD) tb_581 tb_582 tb_9 tb_583 hd_X5_addEach ⟨rfl, rfl⟩ ⟨Nat.le_of_ble_eq_true rfl, Nat.le_of_ble_eq_true rfl⟩ rfl hl.1 rfl (Nat.le_of_ble_eq_true rfl) d_X5_addMoves_114 (fun r_2 σ_3 H locs hD hw => ?_)
    refine lv_goto (tgt := 122) X.1 X.2.1 d_X5_addMoves_117 (by decide) ?_
    exact g_iret X hr hlk hw hD d_X5_addMoves_122
set_option maxRecDepth 20000 in
set_option maxHeartbeats 4000000 in
theorem s_X5_addMoves_65 {p : Program} {l : Launch} {e : Env} {s : State} {m : MethodId} {args : Array Value} {below : List Frame} {meth : Method} {c : Code} {G : GC} (X : CallFix p m c cm_X5_addMoves 9 s args lw_us "GameLoom$Position") (hr : meth.sig.returnType = some .int) (hlk : meth.locks = false) (Q : Int32 → GSt → Prop) (o : Nat) (ho : kd o = 5) (x1 : Int32) (r2 : Nat) (hk2 : kd r2 = 12) (x5 : Int32) (σ : GSt) {H : Heap} {locs : List Loc} {ls : Array Slot} (hw : Wo G s H locs σ) (hl : lv_has ls 9 [(0, .ref (G.2.1 o)), (1, .int x1), (2, .ref (G.2.1 r2)), (5, .int x5)]) (hD : D_X5_addMoves_65 Q o x1 r2 x5 σ) : W p l e rm_X5_addMoves s m args below meth c H locs 0 0 (QMI G Q below args s) (F0 m 65 ls []) := by
  unfold D_X5_addMoves_65 at hD
  refine lv_iconst (v := 1) X.1 X.2.1 d_X5_addMoves_65 (by decide) ?_
  refine lv_goto (tgt := 70) X.1 X.2.1 d_X5_addMoves_66 (by decide) ?_
  exact s_X5_addMoves_70 X hr hlk  Q o ho  x1 r2 hk2 x5 1 σ hw (lv_sub hl [0, 1, 2, 3] rfl) hD
set_option maxRecDepth 20000 in
set_option maxHeartbeats 4000000 in
theorem s_X5_addMoves_34 {p : Program} {l : Launch} {e : Env} {s : State} {m : MethodId} {args : Array Value} {below : List Frame} {meth : Method} {c : Code} {G : GC} (X : CallFix p m c cm_X5_addMoves 9 s args lw_us "GameLoom$Position") (hr : meth.sig.returnType = some .int) (hlk : meth.locks = false) (Q : Int32 → GSt → Prop) (o : Nat) (ho : kd o = 5) (x1 : Int32) (r2 : Nat) (hk2 : kd r2 = 12) (r4 : Nat) (hk4 : kd r4 = 7) (x5 : Int32) (s0 : Int32) (σ : GSt) {H : Heap} {locs : List Loc} {ls : Array Slot} (hw : Wo G s H locs σ) (hl : lv_has ls 9 [(0, .ref (G.2.1 o)), (1, .int x1), (2, .ref (G.2.1 r2)), (4, .ref (G.2.1 r4)), (5, .int x5)]) (hD : D_X5_addMoves_34 Q o x1 r2 r4 x5 s0 σ) : W p l e rm_X5_addMoves s m args below meth c H locs 0 0 (QMI G Q below args s) (F0 m 34 ls [.int s0]) := by
  unfold D_X5_addMoves_34 at hD
  refine lv_istore (lv' := [(6, .int s0), (0, .ref (G.2.1 o)), (1, .int x1), (2, .ref (G.2.1 r2)), (4, .ref (G.2.1 r4)), (5, .int x5)]) X.1 X.2.1 d_X5_addMoves_34 hl (by decide) rfl (fun ls hl => ?_)
  refine lv_aload X.1 X.2.1 d_X5_addMoves_36 (lv_at hl 4 rfl) ?_
  refine gf_7_0 X hw hk4 tb_128 d_X5_addMoves_38 ?_
  refine lv_if_ne (tgt := 123) X.1 X.2.1 d_X5_addMoves_41 (by decide) (fun q_41 => ?_) (fun q_41 => ?_)
  · have hD := hD.1 q_41
    refine lv_iconst (v := 0) X.1 X.2.1 d_X5_addMoves_123 (by decide) ?_
    refine lv_istore (lv' := [(7, .int 0), (6, .int s0), (0, .ref (G.2.1 o)), (1, .int x1), (2, .ref (G.2.1 r2)), (4, .ref (G.2.1 r4)), (5, .int x5)]) X.1 X.2.1 d_X5_addMoves_124 hl (by decide) rfl (fun ls hl => ?_)
    obtain ⟨n9, hD⟩ := hD
    exact sl_X5_addMoves_126 X hr hlk  Q o ho  n9 x1 r2 r4 x5 s0 0 σ _ _ _ hk2 hk4 hw (lv_sub hl [2, 3, 4, 5, 6, 1, 0] rfl) hD
  · have hD := hD.2 q_41
    refine lv_aload X.1 X.2.1 d_X5_addMoves_44 (lv_at hl 4 rfl) ?_
    refine gf_7_1 X hw hk4 tb_130 d_X5_addMoves_46 ?_
    refine lv_if_eq (tgt := 65) X.1 X.2.1 d_X5_addMoves_49 (by decide) (fun q_49 => ?_) (fun q_49 => ?_)
    · have hD := hD.1 q_49
      exact s_X5_addMoves_65 X hr hlk  Q o ho  x1 r2 hk2 x5 σ hw (lv_sub hl [1, 2, 3, 5] rfl) hD
    · have hD := hD.2 q_49
      refine lv_iload X.1 X.2.1 d_X5_addMoves_52 (lv_at hl 0 rfl) ?_
      refine gcS_i (rest := []) (As := [.int s0]) X hw (c_J6_bitCount_0f7a4 l G s0 σ _  hD) tb_559 tb_560 tb_13 tb_561 hd_J6_bitCount_0f7a4 ⟨rfl, rfl⟩ ⟨Nat.le_of_ble_eq_true rfl, Nat.le_of_ble_eq_true rfl⟩ rfl hl.1 rfl (Nat.le_of_ble_eq_true rfl) d_X5_addMoves_54 (fun r_1 σ_2 H locs hD hw => ?_)
      refine lv_aload X.1 X.2.1 d_X5_addMoves_57 (lv_at hl 4 rfl) ?_
      refine gf_7_1 X hw hk4 tb_130 d_X5_addMoves_59 ?_
      refine lv_icmp_ge (tgt := 69) X.1 X.2.1 d_X5_addMoves_62 (by decide) (fun q_62 => ?_) (fun q_62 => ?_)
      · have hD := hD.1 q_62
        refine lv_iconst (v := 0) X.1 X.2.1 d_X5_addMoves_69 (by decide) ?_
        exact s_X5_addMoves_70 X hr hlk  Q o ho  x1 r2 hk2 x5 0 σ_2 hw (lv_sub hl [1, 2, 3, 5] rfl) hD
      · have hD := hD.2 q_62
        exact s_X5_addMoves_65 X hr hlk  Q o ho  x1 r2 hk2 x5 σ_2 hw (lv_sub hl [1, 2, 3, 5] rfl) hD
set_option maxRecDepth 20000 in
set_option maxHeartbeats 4000000 in
theorem s_X5_addMoves_0 {p : Program} {l : Launch} {e : Env} {s : State} {m : MethodId} {args : Array Value} {below : List Frame} {meth : Method} {c : Code} {G : GC} (X : CallFix p m c cm_X5_addMoves 9 s args lw_us "GameLoom$Position") (hr : meth.sig.returnType = some .int) (hlk : meth.locks = false) (Q : Int32 → GSt → Prop) (o : Nat) (ho : kd o = 5) (x1 : Int32) (r2 : Nat) (hk2 : kd r2 = 12) (x3 : Int32) (σ : GSt) {H : Heap} {locs : List Loc} {ls : Array Slot} (hw : Wo G s H locs σ) (hl : lv_has ls 9 [(0, .ref (G.2.1 o)), (1, .int x1), (2, .ref (G.2.1 r2)), (3, .int x3)]) (hD : D_X5_addMoves_0 Q o x1 r2 x3 σ) : W p l e rm_X5_addMoves s m args below meth c H locs 0 0 (QMI G Q below args s) (F0 m 0 ls []) := by
  unfold D_X5_addMoves_0 at hD
  refine lv_aload_n X.1 X.2.1 d_X5_addMoves_0 rfl (lv_at hl 0 rfl) ?_
  obtain ⟨q_1, hD⟩ := hD
  refine gf_5_0 X hw ho tb_237 q_1.1 d_X5_addMoves_1 ?_
  refine gf_1_4 X hw q_1.2 tb_165 d_X5_addMoves_4 ?_
  refine lv_iload_n X.1 X.2.1 d_X5_addMoves_7 rfl (lv_at hl 1 rfl) ?_
  obtain ⟨q_8, hD⟩ := hD
  refine g_aald15 X hw (ly_1_4 q_1.2).1 q_8 d_X5_addMoves_8 ?_
  refine lv_astore (lv' := [(4, .ref (G.2.1 ((((σ o 0).toNatClampNeg) + 8) + 2 + 2 * Int32.toNatClampNeg x1))), (0, .ref (G.2.1 o)), (1, .int x1), (2, .ref (G.2.1 r2)), (3, .int x3)]) X.1 X.2.1 d_X5_addMoves_9 hl (by decide) rfl (fun ls hl => ?_)
  refine lv_iload_n X.1 X.2.1 d_X5_addMoves_11 rfl (lv_at hl 4 rfl) ?_
  refine lv_istore (lv' := [(5, .int x3), (4, .ref (G.2.1 ((((σ o 0).toNatClampNeg) + 8) + 2 + 2 * Int32.toNatClampNeg x1))), (0, .ref (G.2.1 o)), (1, .int x1), (2, .ref (G.2.1 r2)), (3, .int x3)]) X.1 X.2.1 d_X5_addMoves_12 hl (by decide) rfl (fun ls hl => ?_)
  refine lv_aload_n X.1 X.2.1 d_X5_addMoves_14 rfl (lv_at hl 2 rfl) ?_
  refine gf_5_3 X hw ho tb_250 d_X5_addMoves_15 ?_
  refine lv_iconst (v := 1) X.1 X.2.1 d_X5_addMoves_18 (by decide) ?_
  refine lv_iand X.1 X.2.1 d_X5_addMoves_19 ?_
  refine lv_if_ne (tgt := 30) X.1 X.2.1 d_X5_addMoves_20 (by decide) (fun q_20 => ?_) (fun q_20 => ?_)
  · have hD := hD.1 q_20
    refine lv_aload_n X.1 X.2.1 d_X5_addMoves_30 rfl (lv_at hl 2 rfl) ?_
    refine gf_5_2 X hw ho tb_245 d_X5_addMoves_31 ?_
    exact s_X5_addMoves_34 X hr hlk  Q o ho  x1 r2 hk2 ((((σ o 0).toNatClampNeg) + 8) + 2 + 2 * Int32.toNatClampNeg x1) (le_15 (ly_1_4 q_1.2).1 q_8) x3 (σ o 2) σ hw (lv_sub hl [2, 3, 4, 1, 0] rfl) hD
  · have hD := hD.2 q_20
    refine lv_aload_n X.1 X.2.1 d_X5_addMoves_23 rfl (lv_at hl 2 rfl) ?_
    refine gf_5_1 X hw ho tb_240 d_X5_addMoves_24 ?_
    refine lv_goto (tgt := 34) X.1 X.2.1 d_X5_addMoves_27 (by decide) ?_
    exact s_X5_addMoves_34 X hr hlk  Q o ho  x1 r2 hk2 ((((σ o 0).toNatClampNeg) + 8) + 2 + 2 * Int32.toNatClampNeg x1) (le_15 (ly_1_4 q_1.2).1 q_8) x3 (σ o 1) σ hw (lv_sub hl [2, 3, 4, 1, 0] rfl) hD
theorem c_X5_addMoves (l : Launch) (G : GC) (o : Nat) (x1 : Int32) (r2 : Nat) (x3 : Int32) (σ : GSt) (Q : Int32 → GSt → Prop) (ho : kd o = 5) (hr2 : kd r2 = 12) (hD : D_X5_addMoves o x1 r2 x3 σ Q) : MI l ym_X5_addMoves cm_X5_addMoves 9 .int rm_X5_addMoves G σ [.ref (G.2.1 o), .int x1, .ref (G.2.1 r2), .int x3] Q := by
  refine met_i (by decide) (Nat.le_of_ble_eq_true rfl) ?_
  intro p e s m args below meth c X hr hlk hw ls hl
  exact s_X5_addMoves_0 X hr hlk Q o ho x1 r2 hr2 x3 σ hw (lv_sub hl [0, 1, 2, 3] rfl) hD
theorem hd_X5_listMoves : ym_X5_listMoves.cls = "GameLoom$Position" ∧ ym_X5_listMoves.cls ≠ "java/lang/invoke/MethodHandle" ∧ ym_X5_listMoves.cls ≠ "java/lang/invoke/VarHandle" ∧ (parseMethodDescriptor ym_X5_listMoves.desc).map (fun d => d.parameters.length) = some 1 := by decide +kernel
abbrev rm_X5_listMoves : Room := { frames := 2, cells := 0, slots := 0, locals := 58 }
theorem d_X5_listMoves_0 : decode cm_X5_listMoves 0 = .ok (.iconst 0, 1) := by decide +kernel
theorem d_X5_listMoves_1 : decode cm_X5_listMoves 1 = .ok (.istore_n 2, 1) := by decide +kernel
theorem d_X5_listMoves_2 : decode cm_X5_listMoves 2 = .ok (.aload_n 0, 1) := by decide +kernel
theorem d_X5_listMoves_3 : decode cm_X5_listMoves 3 = .ok (.getfield 45, 3) := by decide +kernel
theorem d_X5_listMoves_6 : decode cm_X5_listMoves 6 = .ok (.ifCond .eq 5, 3) := by decide +kernel
theorem d_X5_listMoves_9 : decode cm_X5_listMoves 9 = .ok (.iload_n 2, 1) := by decide +kernel
theorem d_X5_listMoves_10 : decode cm_X5_listMoves 10 = .ok (.ireturn, 1) := by decide +kernel
theorem d_X5_listMoves_11 : decode cm_X5_listMoves 11 = .ok (.iconst 0, 1) := by decide +kernel
theorem d_X5_listMoves_12 : decode cm_X5_listMoves 12 = .ok (.istore_n 3, 1) := by decide +kernel
theorem d_X5_listMoves_13 : decode cm_X5_listMoves 13 = .ok (.iload_n 3, 1) := by decide +kernel
theorem d_X5_listMoves_14 : decode cm_X5_listMoves 14 = .ok (.iconst 2, 1) := by decide +kernel
theorem d_X5_listMoves_15 : decode cm_X5_listMoves 15 = .ok (.if_icmp .ge 68, 3) := by decide +kernel
theorem d_X5_listMoves_18 : decode cm_X5_listMoves 18 = .ok (.iload_n 2, 1) := by decide +kernel
theorem d_X5_listMoves_19 : decode cm_X5_listMoves 19 = .ok (.ifCond .ne 64, 3) := by decide +kernel
theorem d_X5_listMoves_22 : decode cm_X5_listMoves 22 = .ok (.iconst 0, 1) := by decide +kernel
theorem d_X5_listMoves_23 : decode cm_X5_listMoves 23 = .ok (.istore 4, 2) := by decide +kernel
theorem d_X5_listMoves_25 : decode cm_X5_listMoves 25 = .ok (.iload 4, 2) := by decide +kernel
theorem d_X5_listMoves_27 : decode cm_X5_listMoves 27 = .ok (.aload_n 0, 1) := by decide +kernel
theorem d_X5_listMoves_28 : decode cm_X5_listMoves 28 = .ok (.getfield 9, 3) := by decide +kernel
theorem d_X5_listMoves_31 : decode cm_X5_listMoves 31 = .ok (.getfield 54, 3) := by decide +kernel
theorem d_X5_listMoves_34 : decode cm_X5_listMoves 34 = .ok (.if_icmp .ge 43, 3) := by decide +kernel
theorem d_X5_listMoves_37 : decode cm_X5_listMoves 37 = .ok (.aload_n 0, 1) := by decide +kernel
theorem d_X5_listMoves_38 : decode cm_X5_listMoves 38 = .ok (.getfield 9, 3) := by decide +kernel
theorem d_X5_listMoves_41 : decode cm_X5_listMoves 41 = .ok (.getfield 57, 3) := by decide +kernel
theorem d_X5_listMoves_44 : decode cm_X5_listMoves 44 = .ok (.iload 4, 2) := by decide +kernel
theorem d_X5_listMoves_46 : decode cm_X5_listMoves 46 = .ok (.aaload, 1) := by decide +kernel
theorem d_X5_listMoves_47 : decode cm_X5_listMoves 47 = .ok (.getfield 61, 3) := by decide +kernel
theorem d_X5_listMoves_50 : decode cm_X5_listMoves 50 = .ok (.iload_n 3, 1) := by decide +kernel
theorem d_X5_listMoves_51 : decode cm_X5_listMoves 51 = .ok (.ifCond .ne 7, 3) := by decide +kernel
theorem d_X5_listMoves_54 : decode cm_X5_listMoves 54 = .ok (.iconst 1, 1) := by decide +kernel
theorem d_X5_listMoves_55 : decode cm_X5_listMoves 55 = .ok (.goto 4, 3) := by decide +kernel
theorem d_X5_listMoves_58 : decode cm_X5_listMoves 58 = .ok (.iconst 0, 1) := by decide +kernel
theorem d_X5_listMoves_59 : decode cm_X5_listMoves 59 = .ok (.if_icmp .ne 12, 3) := by decide +kernel
theorem d_X5_listMoves_62 : decode cm_X5_listMoves 62 = .ok (.aload_n 0, 1) := by decide +kernel
theorem d_X5_listMoves_63 : decode cm_X5_listMoves 63 = .ok (.iload 4, 2) := by decide +kernel
theorem d_X5_listMoves_65 : decode cm_X5_listMoves 65 = .ok (.aload_n 1, 1) := by decide +kernel
theorem d_X5_listMoves_66 : decode cm_X5_listMoves 66 = .ok (.iload_n 2, 1) := by decide +kernel
theorem d_X5_listMoves_67 : decode cm_X5_listMoves 67 = .ok (.invokevirtual 67, 3) := by decide +kernel
theorem d_X5_listMoves_70 : decode cm_X5_listMoves 70 = .ok (.istore_n 2, 1) := by decide +kernel
theorem d_X5_listMoves_71 : decode cm_X5_listMoves 71 = .ok (.iinc 4 1, 3) := by decide +kernel
theorem d_X5_listMoves_74 : decode cm_X5_listMoves 74 = .ok (.goto (-49), 3) := by decide +kernel
theorem d_X5_listMoves_77 : decode cm_X5_listMoves 77 = .ok (.iinc 3 1, 3) := by decide +kernel
theorem d_X5_listMoves_80 : decode cm_X5_listMoves 80 = .ok (.goto (-67), 3) := by decide +kernel
theorem d_X5_listMoves_83 : decode cm_X5_listMoves 83 = .ok (.iload_n 2, 1) := by decide +kernel
theorem d_X5_listMoves_84 : decode cm_X5_listMoves 84 = .ok (.ireturn, 1) := by decide +kernel
def D_X5_listMoves_71 (K13 : Nat → Int32 → Int32 → GSt → Prop) (K25 : Nat → Int32 → Int32 → Int32 → GSt → Prop) (Q : Int32 → GSt → Prop) (o : Nat) (r1 : Nat) (x2 : Int32) (x3 : Int32) (x4 : Int32) (σ : GSt) : Prop :=
  ∀ x4_1 : Int32, x4_1 = x4 + 1 → (K25 r1 x2 x3 x4_1 σ)
def D_X5_listMoves_59 (K13 : Nat → Int32 → Int32 → GSt → Prop) (K25 : Nat → Int32 → Int32 → Int32 → GSt → Prop) (Q : Int32 → GSt → Prop) (o : Nat) (r1 : Nat) (x2 : Int32) (x3 : Int32) (x4 : Int32) (s0 : Int32) (s1 : Int32) (σ : GSt) : Prop :=
  (¬ s0 = s1 → D_X5_listMoves_71 K13 K25 Q o r1 x2 x3 x4 σ) ∧
  (s0 = s1 → D_X5_addMoves o x4 r1 x2 σ (fun r_1 σ_2 => D_X5_listMoves_71 K13 K25 Q o r1 r_1 x3 x4 σ_2))
def D_X5_listMoves_25 (K13 : Nat → Int32 → Int32 → GSt → Prop) (K25 : Nat → Int32 → Int32 → Int32 → GSt → Prop) (Q : Int32 → GSt → Prop) (o : Nat) (r1 : Nat) (x2 : Int32) (x3 : Int32) (x4 : Int32) (σ : GSt) : Prop :=
  (¬ σ o 0 < 0 ∧ kd (σ o 0).toNatClampNeg = 1) ∧ (((σ ((σ o 0).toNatClampNeg) 5) ≤ x4 → ∀ x3_1 : Int32, x3_1 = x3 + 1 → (K13 r1 x2 x3_1 σ)) ∧
  (¬ (σ ((σ o 0).toNatClampNeg) 5) ≤ x4 → (¬ σ o 0 < 0 ∧ kd (σ o 0).toNatClampNeg = 1) ∧ (vp_in x4 6 ∧ ((¬ x3 = 0 → D_X5_listMoves_59 K13 K25 Q o r1 x2 x3 x4 (σ ((((σ o 0).toNatClampNeg) + 8) + 2 + 2 * Int32.toNatClampNeg x4) 3) 0 σ) ∧
  (x3 = 0 → D_X5_listMoves_59 K13 K25 Q o r1 x2 x3 x4 (σ ((((σ o 0).toNatClampNeg) + 8) + 2 + 2 * Int32.toNatClampNeg x4) 3) 1 σ)))))
def L_X5_listMoves_25 (K13 : Nat → Int32 → Int32 → GSt → Prop) (Q : Int32 → GSt → Prop) (o : Nat) : Nat → Nat → Int32 → Int32 → Int32 → GSt → Prop
  | 0 => fun _ _ _ _ _ => False
  | n + 1 => fun r1 x2 x3 x4 σ => D_X5_listMoves_25 K13 (L_X5_listMoves_25 K13 Q o n) Q o r1 x2 x3 x4 σ
def D_X5_listMoves_13 (K13 : Nat → Int32 → Int32 → GSt → Prop) (Q : Int32 → GSt → Prop) (o : Nat) (r1 : Nat) (x2 : Int32) (x3 : Int32) (σ : GSt) : Prop :=
  (2 ≤ x3 → Q x2 σ) ∧
  (¬ 2 ≤ x3 → (¬ x2 = 0 → Q x2 σ) ∧
  (x2 = 0 → ∃ n : Nat, L_X5_listMoves_25 K13 Q o n r1 x2 x3 0 σ))
def L_X5_listMoves_13 (Q : Int32 → GSt → Prop) (o : Nat) : Nat → Nat → Int32 → Int32 → GSt → Prop
  | 0 => fun _ _ _ _ => False
  | n + 1 => fun r1 x2 x3 σ => D_X5_listMoves_13 (L_X5_listMoves_13 Q o n) Q o r1 x2 x3 σ
def D_X5_listMoves_0 (Q : Int32 → GSt → Prop) (o : Nat) (r1 : Nat) (σ : GSt) : Prop :=
  ((σ o 4) = 0 → ∃ n : Nat, L_X5_listMoves_13 Q o n r1 0 0 σ) ∧
  (¬ (σ o 4) = 0 → Q 0 σ)
def D_X5_listMoves (o : Nat) (r1 : Nat) (σ : GSt) (Q : Int32 → GSt → Prop) : Prop := D_X5_listMoves_0 Q o r1 σ
set_option maxRecDepth 20000 in
set_option maxHeartbeats 4000000 in
theorem s_X5_listMoves_71 {p : Program} {l : Launch} {e : Env} {s : State} {m : MethodId} {args : Array Value} {below : List Frame} {meth : Method} {c : Code} {G : GC} (X : CallFix p m c cm_X5_listMoves 5 s args lw_us "GameLoom$Position") (hr : meth.sig.returnType = some .int) (hlk : meth.locks = false) (K13 : Nat → Int32 → Int32 → GSt → Prop) (K25 : Nat → Int32 → Int32 → Int32 → GSt → Prop) (Q : Int32 → GSt → Prop) (o : Nat) (ho : kd o = 5) (hK13 : ∀ (r1 : Nat) (x2 : Int32) (x3 : Int32) (σ : GSt) (H : Heap) (locs : List Loc) (ls : Array Slot), kd r1 = 12 → Wo G s H locs σ → lv_has ls 5 [(0, .ref (G.2.1 o)), (1, .ref (G.2.1 r1)), (2, .int x2), (3, .int x3)] → K13 r1 x2 x3 σ → W p l e rm_X5_listMoves s m args below meth c H locs 0 0 (QMI G Q below args s) (F0 m 13 ls [])) (hK25 : ∀ (r1 : Nat) (x2 : Int32) (x3 : Int32) (x4 : Int32) (σ : GSt) (H : Heap) (locs : List Loc) (ls : Array Slot), kd r1 = 12 → Wo G s H locs σ → lv_has ls 5 [(0, .ref (G.2.1 o)), (1, .ref (G.2.1 r1)), (2, .int x2), (3, .int x3), (4, .int x4)] → K25 r1 x2 x3 x4 σ → W p l e rm_X5_listMoves s m args below meth c H locs 0 0 (QMI G Q below args s) (F0 m 25 ls [])) (r1 : Nat) (hk1 : kd r1 = 12) (x2 : Int32) (x3 : Int32) (x4 : Int32) (σ : GSt) {H : Heap} {locs : List Loc} {ls : Array Slot} (hw : Wo G s H locs σ) (hl : lv_has ls 5 [(0, .ref (G.2.1 o)), (1, .ref (G.2.1 r1)), (2, .int x2), (3, .int x3), (4, .int x4)]) (hD : D_X5_listMoves_71 K13 K25 Q o r1 x2 x3 x4 σ) : W p l e rm_X5_listMoves s m args below meth c H locs 0 0 (QMI G Q below args s) (F0 m 71 ls []) := by
  unfold D_X5_listMoves_71 at hD
  obtain ⟨x4_1, e_x4_1⟩ : ∃ y : Int32, y = x4 + 1 := ⟨_, rfl⟩
  have hD := hD x4_1 e_x4_1
  refine lv_iinc (v := x4_1) (lv' := [(4, .int x4_1), (0, .ref (G.2.1 o)), (1, .ref (G.2.1 r1)), (2, .int x2), (3, .int x3)]) X.1 X.2.1 d_X5_listMoves_71 hl (k := 4) rfl (by rw [e_x4_1]; rfl) (by decide) rfl (fun ls hl => ?_)
  refine lv_goto (tgt := 25) X.1 X.2.1 d_X5_listMoves_74 (by decide) ?_
  exact hK25 r1 x2 x3 x4_1 σ _ _ _ hk1 hw (lv_sub hl [1, 2, 3, 4, 0] rfl) hD
set_option maxRecDepth 20000 in
set_option maxHeartbeats 4000000 in
theorem s_X5_listMoves_59 {p : Program} {l : Launch} {e : Env} {s : State} {m : MethodId} {args : Array Value} {below : List Frame} {meth : Method} {c : Code} {G : GC} (X : CallFix p m c cm_X5_listMoves 5 s args lw_us "GameLoom$Position") (hr : meth.sig.returnType = some .int) (hlk : meth.locks = false) (K13 : Nat → Int32 → Int32 → GSt → Prop) (K25 : Nat → Int32 → Int32 → Int32 → GSt → Prop) (Q : Int32 → GSt → Prop) (o : Nat) (ho : kd o = 5) (hK13 : ∀ (r1 : Nat) (x2 : Int32) (x3 : Int32) (σ : GSt) (H : Heap) (locs : List Loc) (ls : Array Slot), kd r1 = 12 → Wo G s H locs σ → lv_has ls 5 [(0, .ref (G.2.1 o)), (1, .ref (G.2.1 r1)), (2, .int x2), (3, .int x3)] → K13 r1 x2 x3 σ → W p l e rm_X5_listMoves s m args below meth c H locs 0 0 (QMI G Q below args s) (F0 m 13 ls [])) (hK25 : ∀ (r1 : Nat) (x2 : Int32) (x3 : Int32) (x4 : Int32) (σ : GSt) (H : Heap) (locs : List Loc) (ls : Array Slot), kd r1 = 12 → Wo G s H locs σ → lv_has ls 5 [(0, .ref (G.2.1 o)), (1, .ref (G.2.1 r1)), (2, .int x2), (3, .int x3), (4, .int x4)] → K25 r1 x2 x3 x4 σ → W p l e rm_X5_listMoves s m args below meth c H locs 0 0 (QMI G Q below args s) (F0 m 25 ls [])) (r1 : Nat) (hk1 : kd r1 = 12) (x2 : Int32) (x3 : Int32) (x4 : Int32) (s0 : Int32) (s1 : Int32) (σ : GSt) {H : Heap} {locs : List Loc} {ls : Array Slot} (hw : Wo G s H locs σ) (hl : lv_has ls 5 [(0, .ref (G.2.1 o)), (1, .ref (G.2.1 r1)), (2, .int x2), (3, .int x3), (4, .int x4)]) (hD : D_X5_listMoves_59 K13 K25 Q o r1 x2 x3 x4 s0 s1 σ) : W p l e rm_X5_listMoves s m args below meth c H locs 0 0 (QMI G Q below args s) (F0 m 59 ls [.int s1, .int s0]) := by
  unfold D_X5_listMoves_59 at hD
  refine lv_icmp_ne (tgt := 71) X.1 X.2.1 d_X5_listMoves_59 (by decide) (fun q_59 => ?_) (fun q_59 => ?_)
  · have hD := hD.1 q_59
    exact s_X5_listMoves_71 X hr hlk K13 K25 Q o ho hK13 hK25 r1 hk1 x2 x3 x4 σ hw (lv_sub hl [0, 1, 2, 3, 4] rfl) hD
  · have hD := hD.2 q_59
    refine lv_aload_n X.1 X.2.1 d_X5_listMoves_62 rfl (lv_at hl 0 rfl) ?_
    refine lv_iload X.1 X.2.1 d_X5_listMoves_63 (lv_at hl 4 rfl) ?_
    refine lv_aload_n X.1 X.2.1 d_X5_listMoves_65 rfl (lv_at hl 1 rfl) ?_
    refine lv_iload_n X.1 X.2.1 d_X5_listMoves_66 rfl (lv_at hl 2 rfl) ?_
    refine gcV_i (rest := []) (As := [.int x4, .ref (G.2.1 r1), .int x2]) (o := o) X hw (c_X5_addMoves l G o x4 r1 x2 σ _ ho hk1 hD) (kd_lt ho (by decide)) (ce_5 G _ ho) rfl tb_577 tb_579 tv_22 tb_9 tb_580 hd_X5_addMoves ⟨rfl, rfl⟩ ⟨Nat.le_of_ble_eq_true rfl, Nat.le_of_ble_eq_true rfl⟩ rfl hl.1 rfl (Nat.le_of_ble_eq_true rfl) d_X5_listMoves_67 (fun r_1 σ_2 H locs hD hw => ?_)
    refine lv_istore_n (lv' := [(2, .int r_1), (0, .ref (G.2.1 o)), (1, .ref (G.2.1 r1)), (3, .int x3), (4, .int x4)]) X.1 X.2.1 d_X5_listMoves_70 rfl hl (by decide) rfl (fun ls hl => ?_)
    exact s_X5_listMoves_71 X hr hlk K13 K25 Q o ho hK13 hK25 r1 hk1 r_1 x3 x4 σ_2 hw (lv_sub hl [1, 2, 0, 3, 4] rfl) hD
set_option maxRecDepth 20000 in
set_option maxHeartbeats 4000000 in
theorem s_X5_listMoves_25 {p : Program} {l : Launch} {e : Env} {s : State} {m : MethodId} {args : Array Value} {below : List Frame} {meth : Method} {c : Code} {G : GC} (X : CallFix p m c cm_X5_listMoves 5 s args lw_us "GameLoom$Position") (hr : meth.sig.returnType = some .int) (hlk : meth.locks = false) (K13 : Nat → Int32 → Int32 → GSt → Prop) (K25 : Nat → Int32 → Int32 → Int32 → GSt → Prop) (Q : Int32 → GSt → Prop) (o : Nat) (ho : kd o = 5) (hK13 : ∀ (r1 : Nat) (x2 : Int32) (x3 : Int32) (σ : GSt) (H : Heap) (locs : List Loc) (ls : Array Slot), kd r1 = 12 → Wo G s H locs σ → lv_has ls 5 [(0, .ref (G.2.1 o)), (1, .ref (G.2.1 r1)), (2, .int x2), (3, .int x3)] → K13 r1 x2 x3 σ → W p l e rm_X5_listMoves s m args below meth c H locs 0 0 (QMI G Q below args s) (F0 m 13 ls [])) (hK25 : ∀ (r1 : Nat) (x2 : Int32) (x3 : Int32) (x4 : Int32) (σ : GSt) (H : Heap) (locs : List Loc) (ls : Array Slot), kd r1 = 12 → Wo G s H locs σ → lv_has ls 5 [(0, .ref (G.2.1 o)), (1, .ref (G.2.1 r1)), (2, .int x2), (3, .int x3), (4, .int x4)] → K25 r1 x2 x3 x4 σ → W p l e rm_X5_listMoves s m args below meth c H locs 0 0 (QMI G Q below args s) (F0 m 25 ls [])) (r1 : Nat) (hk1 : kd r1 = 12) (x2 : Int32) (x3 : Int32) (x4 : Int32) (σ : GSt) {H : Heap} {locs : List Loc} {ls : Array Slot} (hw : Wo G s H locs σ) (hl : lv_has ls 5 [(0, .ref (G.2.1 o)), (1, .ref (G.2.1 r1)), (2, .int x2), (3, .int x3), (4, .int x4)]) (hD : D_X5_listMoves_25 K13 K25 Q o r1 x2 x3 x4 σ) : W p l e rm_X5_listMoves s m args below meth c H locs 0 0 (QMI G Q below args s) (F0 m 25 ls []) := by
  unfold D_X5_listMoves_25 at hD
  refine lv_iload X.1 X.2.1 d_X5_listMoves_25 (lv_at hl 4 rfl) ?_
  refine lv_aload_n X.1 X.2.1 d_X5_listMoves_27 rfl (lv_at hl 0 rfl) ?_
  obtain ⟨q_28, hD⟩ := hD
  refine gf_5_0 X hw ho tb_237 q_28.1 d_X5_listMoves_28 ?_
  refine gf_1_5 X hw q_28.2 tb_169 d_X5_listMoves_31 ?_
  refine lv_icmp_ge (tgt := 77) X.1 X.2.1 d_X5_listMoves_34 (by decide) (fun q_34 => ?_) (fun q_34 => ?_)
  · have hD := hD.1 q_34
    obtain ⟨x3_1, e_x3_1⟩ : ∃ y : Int32, y = x3 + 1 := ⟨_, rfl⟩
    have hD := hD x3_1 e_x3_1
    refine lv_iinc (v := x3_1) (lv' := [(3, .int x3_1), (0, .ref (G.2.1 o)), (1, .ref (G.2.1 r1)), (2, .int x2), (4, .int x4)]) X.1 X.2.1 d_X5_listMoves_77 hl (k := 3) rfl (by rw [e_x3_1]; rfl) (by decide) rfl (fun ls hl => ?_)
    refine lv_goto (tgt := 13) X.1 X.2.1 d_X5_listMoves_80 (by decide) ?_
    exact hK13 r1 x2 x3_1 σ _ _ _ hk1 hw (lv_sub hl [1, 2, 3, 0] rfl) hD
  · have hD := hD.2 q_34
    refine lv_aload_n X.1 X.2.1 d_X5_listMoves_37 rfl (lv_at hl 0 rfl) ?_
    obtain ⟨q_38, hD⟩ := hD
    refine gf_5_0 X hw ho tb_237 q_38.1 d_X5_listMoves_38 ?_
    refine gf_1_4 X hw q_38.2 tb_165 d_X5_listMoves_41 ?_
    refine lv_iload X.1 X.2.1 d_X5_listMoves_44 (lv_at hl 4 rfl) ?_
    obtain ⟨q_46, hD⟩ := hD
    refine g_aald15 X hw (ly_1_4 q_38.2).1 q_46 d_X5_listMoves_46 ?_
    refine gf_7_3 X hw (le_15 (ly_1_4 q_38.2).1 q_46) tb_133 d_X5_listMoves_47 ?_
    refine lv_iload_n X.1 X.2.1 d_X5_listMoves_50 rfl (lv_at hl 3 rfl) ?_
    refine lv_if_ne (tgt := 58) X.1 X.2.1 d_X5_listMoves_51 (by decide) (fun q_51 => ?_) (fun q_51 => ?_)
    · have hD := hD.1 q_51
      refine lv_iconst (v := 0) X.1 X.2.1 d_X5_listMoves_58 (by decide) ?_
      exact s_X5_listMoves_59 X hr hlk K13 K25 Q o ho hK13 hK25 r1 hk1 x2 x3 x4 (σ ((((σ o 0).toNatClampNeg) + 8) + 2 + 2 * Int32.toNatClampNeg x4) 3) 0 σ hw (lv_sub hl [0, 1, 2, 3, 4] rfl) hD
    · have hD := hD.2 q_51
      refine lv_iconst (v := 1) X.1 X.2.1 d_X5_listMoves_54 (by decide) ?_
      refine lv_goto (tgt := 59) X.1 X.2.1 d_X5_listMoves_55 (by decide) ?_
      exact s_X5_listMoves_59 X hr hlk K13 K25 Q o ho hK13 hK25 r1 hk1 x2 x3 x4 (σ ((((σ o 0).toNatClampNeg) + 8) + 2 + 2 * Int32.toNatClampNeg x4) 3) 1 σ hw (lv_sub hl [0, 1, 2, 3, 4] rfl) hD
set_option maxRecDepth 20000 in
set_option maxHeartbeats 4000000 in
theorem sl_X5_listMoves_25 {p : Program} {l : Launch} {e : Env} {s : State} {m : MethodId} {args : Array Value} {below : List Frame} {meth : Method} {c : Code} {G : GC} (X : CallFix p m c cm_X5_listMoves 5 s args lw_us "GameLoom$Position") (hr : meth.sig.returnType = some .int) (hlk : meth.locks = false) (K13 : Nat → Int32 → Int32 → GSt → Prop) (Q : Int32 → GSt → Prop) (o : Nat) (ho : kd o = 5) (hK13 : ∀ (r1 : Nat) (x2 : Int32) (x3 : Int32) (σ : GSt) (H : Heap) (locs : List Loc) (ls : Array Slot), kd r1 = 12 → Wo G s H locs σ → lv_has ls 5 [(0, .ref (G.2.1 o)), (1, .ref (G.2.1 r1)), (2, .int x2), (3, .int x3)] → K13 r1 x2 x3 σ → W p l e rm_X5_listMoves s m args below meth c H locs 0 0 (QMI G Q below args s) (F0 m 13 ls [])) : ∀ (nn : Nat), ∀ (r1 : Nat) (x2 : Int32) (x3 : Int32) (x4 : Int32) (σ : GSt) (H : Heap) (locs : List Loc) (ls : Array Slot), kd r1 = 12 → Wo G s H locs σ → lv_has ls 5 [(0, .ref (G.2.1 o)), (1, .ref (G.2.1 r1)), (2, .int x2), (3, .int x3), (4, .int x4)] → L_X5_listMoves_25 K13 Q o nn r1 x2 x3 x4 σ → W p l e rm_X5_listMoves s m args below meth c H locs 0 0 (QMI G Q below args s) (F0 m 25 ls []) := by
  intro nn
  induction nn with
  | zero => intro r1 x2 x3 x4 σ H locs ls hk1 hw hl hD; exact hD.elim
  | succ nn ih =>
    intro r1 x2 x3 x4 σ H locs ls hk1 hw hl hD
    exact s_X5_listMoves_25 X hr hlk K13 (L_X5_listMoves_25 K13 Q o nn) Q o ho hK13 ih r1 hk1 x2 x3 x4 σ hw hl hD
set_option maxRecDepth 20000 in
set_option maxHeartbeats 4000000 in
theorem s_X5_listMoves_13 {p : Program} {l : Launch} {e : Env} {s : State} {m : MethodId} {args : Array Value} {below : List Frame} {meth : Method} {c : Code} {G : GC} (X : CallFix p m c cm_X5_listMoves 5 s args lw_us "GameLoom$Position") (hr : meth.sig.returnType = some .int) (hlk : meth.locks = false) (K13 : Nat → Int32 → Int32 → GSt → Prop) (Q : Int32 → GSt → Prop) (o : Nat) (ho : kd o = 5) (hK13 : ∀ (r1 : Nat) (x2 : Int32) (x3 : Int32) (σ : GSt) (H : Heap) (locs : List Loc) (ls : Array Slot), kd r1 = 12 → Wo G s H locs σ → lv_has ls 5 [(0, .ref (G.2.1 o)), (1, .ref (G.2.1 r1)), (2, .int x2), (3, .int x3)] → K13 r1 x2 x3 σ → W p l e rm_X5_listMoves s m args below meth c H locs 0 0 (QMI G Q below args s) (F0 m 13 ls [])) (r1 : Nat) (hk1 : kd r1 = 12) (x2 : Int32) (x3 : Int32) (σ : GSt) {H : Heap} {locs : List Loc} {ls : Array Slot} (hw : Wo G s H locs σ) (hl : lv_has ls 5 [(0, .ref (G.2.1 o)), (1, .ref (G.2.1 r1)), (2, .int x2), (3, .int x3)]) (hD : D_X5_listMoves_13 K13 Q o r1 x2 x3 σ) : W p l e rm_X5_listMoves s m args below meth c H locs 0 0 (QMI G Q below args s) (F0 m 13 ls []) := by
  unfold D_X5_listMoves_13 at hD
  refine lv_iload_n X.1 X.2.1 d_X5_listMoves_13 rfl (lv_at hl 3 rfl) ?_
  refine lv_iconst (v := 2) X.1 X.2.1 d_X5_listMoves_14 (by decide) ?_
  refine lv_icmp_ge (tgt := 83) X.1 X.2.1 d_X5_listMoves_15 (by decide) (fun q_15 => ?_) (fun q_15 => ?_)
  · have hD := hD.1 q_15
    refine lv_iload_n X.1 X.2.1 d_X5_listMoves_83 rfl (lv_at hl 2 rfl) ?_
    exact g_iret X hr hlk hw hD d_X5_listMoves_84
  · have hD := hD.2 q_15
    refine lv_iload_n X.1 X.2.1 d_X5_listMoves_18 rfl (lv_at hl 2 rfl) ?_
    refine lv_if_ne (tgt := 83) X.1 X.2.1 d_X5_listMoves_19 (by decide) (fun q_19 => ?_) (fun q_19 => ?_)
    · have hD := hD.1 q_19
      refine lv_iload_n X.1 X.2.1 d_X5_listMoves_83 rfl (lv_at hl 2 rfl) ?_
      exact g_iret X hr hlk hw hD d_X5_listMoves_84
    · have hD := hD.2 q_19
      refine lv_iconst (v := 0) X.1 X.2.1 d_X5_listMoves_22 (by decide) ?_
      refine lv_istore (lv' := [(4, .int 0), (0, .ref (G.2.1 o)), (1, .ref (G.2.1 r1)), (2, .int x2), (3, .int x3)]) X.1 X.2.1 d_X5_listMoves_23 hl (by decide) rfl (fun ls hl => ?_)
      obtain ⟨n9, hD⟩ := hD
      exact sl_X5_listMoves_25 X hr hlk K13 Q o ho hK13 n9 r1 x2 x3 0 σ _ _ _ hk1 hw (lv_sub hl [1, 2, 3, 4, 0] rfl) hD
set_option maxRecDepth 20000 in
set_option maxHeartbeats 4000000 in
theorem sl_X5_listMoves_13 {p : Program} {l : Launch} {e : Env} {s : State} {m : MethodId} {args : Array Value} {below : List Frame} {meth : Method} {c : Code} {G : GC} (X : CallFix p m c cm_X5_listMoves 5 s args lw_us "GameLoom$Position") (hr : meth.sig.returnType = some .int) (hlk : meth.locks = false) (Q : Int32 → GSt → Prop) (o : Nat) (ho : kd o = 5) : ∀ (nn : Nat), ∀ (r1 : Nat) (x2 : Int32) (x3 : Int32) (σ : GSt) (H : Heap) (locs : List Loc) (ls : Array Slot), kd r1 = 12 → Wo G s H locs σ → lv_has ls 5 [(0, .ref (G.2.1 o)), (1, .ref (G.2.1 r1)), (2, .int x2), (3, .int x3)] → L_X5_listMoves_13 Q o nn r1 x2 x3 σ → W p l e rm_X5_listMoves s m args below meth c H locs 0 0 (QMI G Q below args s) (F0 m 13 ls []) := by
  intro nn
  induction nn with
  | zero => intro r1 x2 x3 σ H locs ls hk1 hw hl hD; exact hD.elim
  | succ nn ih =>
    intro r1 x2 x3 σ H locs ls hk1 hw hl hD
    exact s_X5_listMoves_13 X hr hlk (L_X5_listMoves_13 Q o nn) Q o ho ih r1 hk1 x2 x3 σ hw hl hD
set_option maxRecDepth 20000 in
set_option maxHeartbeats 4000000 in
theorem s_X5_listMoves_0 {p : Program} {l : Launch} {e : Env} {s : State} {m : MethodId} {args : Array Value} {below : List Frame} {meth : Method} {c : Code} {G : GC} (X : CallFix p m c cm_X5_listMoves 5 s args lw_us "GameLoom$Position") (hr : meth.sig.returnType = some .int) (hlk : meth.locks = false) (Q : Int32 → GSt → Prop) (o : Nat) (ho : kd o = 5) (r1 : Nat) (hk1 : kd r1 = 12) (σ : GSt) {H : Heap} {locs : List Loc} {ls : Array Slot} (hw : Wo G s H locs σ) (hl : lv_has ls 5 [(0, .ref (G.2.1 o)), (1, .ref (G.2.1 r1))]) (hD : D_X5_listMoves_0 Q o r1 σ) : W p l e rm_X5_listMoves s m args below meth c H locs 0 0 (QMI G Q below args s) (F0 m 0 ls []) := by
  unfold D_X5_listMoves_0 at hD
  refine lv_iconst (v := 0) X.1 X.2.1 d_X5_listMoves_0 (by decide) ?_
  refine lv_istore_n (lv' := [(2, .int 0), (0, .ref (G.2.1 o)), (1, .ref (G.2.1 r1))]) X.1 X.2.1 d_X5_listMoves_1 rfl hl (by decide) rfl (fun ls hl => ?_)
  refine lv_aload_n X.1 X.2.1 d_X5_listMoves_2 rfl (lv_at hl 1 rfl) ?_
  refine gf_5_4 X hw ho tb_255 d_X5_listMoves_3 ?_
  refine lv_if_eq (tgt := 11) X.1 X.2.1 d_X5_listMoves_6 (by decide) (fun q_6 => ?_) (fun q_6 => ?_)
  · have hD := hD.1 q_6
    refine lv_iconst (v := 0) X.1 X.2.1 d_X5_listMoves_11 (by decide) ?_
    refine lv_istore_n (lv' := [(3, .int 0), (2, .int 0), (0, .ref (G.2.1 o)), (1, .ref (G.2.1 r1))]) X.1 X.2.1 d_X5_listMoves_12 rfl hl (by decide) rfl (fun ls hl => ?_)
    obtain ⟨n9, hD⟩ := hD
    exact sl_X5_listMoves_13 X hr hlk  Q o ho  n9 r1 0 0 σ _ _ _ hk1 hw (lv_sub hl [2, 3, 1, 0] rfl) hD
  · have hD := hD.2 q_6
    refine lv_iload_n X.1 X.2.1 d_X5_listMoves_9 rfl (lv_at hl 0 rfl) ?_
    exact g_iret X hr hlk hw hD d_X5_listMoves_10
theorem c_X5_listMoves (l : Launch) (G : GC) (o : Nat) (r1 : Nat) (σ : GSt) (Q : Int32 → GSt → Prop) (ho : kd o = 5) (hr1 : kd r1 = 12) (hD : D_X5_listMoves o r1 σ Q) : MI l ym_X5_listMoves cm_X5_listMoves 5 .int rm_X5_listMoves G σ [.ref (G.2.1 o), .ref (G.2.1 r1)] Q := by
  refine met_i (by decide) (Nat.le_of_ble_eq_true rfl) ?_
  intro p e s m args below meth c X hr hlk hw ls hl
  exact s_X5_listMoves_0 X hr hlk Q o ho r1 hr1 σ hw (lv_sub hl [0, 1] rfl) hD
theorem hd_X5_close : ym_X5_close.cls = "GameLoom$Position" ∧ ym_X5_close.cls ≠ "java/lang/invoke/MethodHandle" ∧ ym_X5_close.cls ≠ "java/lang/invoke/VarHandle" ∧ (parseMethodDescriptor ym_X5_close.desc).map (fun d => d.parameters.length) = some 3 := by decide +kernel
abbrev rm_X5_close : Room := { frames := 0, cells := 0, slots := 0, locals := 0 }
theorem d_X5_close_0 : decode cm_X5_close 0 = .ok (.aload_n 0, 1) := by decide +kernel
theorem d_X5_close_1 : decode cm_X5_close 1 = .ok (.iload_n 1, 1) := by decide +kernel
theorem d_X5_close_2 : decode cm_X5_close 2 = .ok (.putfield 45, 3) := by decide +kernel
theorem d_X5_close_5 : decode cm_X5_close 5 = .ok (.aload_n 0, 1) := by decide +kernel
theorem d_X5_close_6 : decode cm_X5_close 6 = .ok (.iload_n 2, 1) := by decide +kernel
theorem d_X5_close_7 : decode cm_X5_close 7 = .ok (.putfield 48, 3) := by decide +kernel
theorem d_X5_close_10 : decode cm_X5_close 10 = .ok (.aload_n 0, 1) := by decide +kernel
theorem d_X5_close_11 : decode cm_X5_close 11 = .ok (.iload_n 3, 1) := by decide +kernel
theorem d_X5_close_12 : decode cm_X5_close 12 = .ok (.putfield 51, 3) := by decide +kernel
theorem d_X5_close_15 : decode cm_X5_close 15 = .ok (.return_, 1) := by decide +kernel
def D_X5_close_0 (Q : GSt → Prop) (o : Nat) (x1 : Int32) (x2 : Int32) (x3 : Int32) (σ : GSt) : Prop :=
  ∀ σ_1 : GSt, σ_1 = up2 σ o 4 x1 → (∀ σ_2 : GSt, σ_2 = up2 σ_1 o 5 x2 → (∀ σ_3 : GSt, σ_3 = up2 σ_2 o 6 x3 → (Q σ_3)))
def D_X5_close (o : Nat) (x1 : Int32) (x2 : Int32) (x3 : Int32) (σ : GSt) (Q : GSt → Prop) : Prop := D_X5_close_0 Q o x1 x2 x3 σ
set_option maxRecDepth 20000 in
set_option maxHeartbeats 4000000 in
theorem s_X5_close_0 {p : Program} {l : Launch} {e : Env} {s : State} {m : MethodId} {args : Array Value} {below : List Frame} {meth : Method} {c : Code} {G : GC} (X : CallFix p m c cm_X5_close 4 s args lw_us "GameLoom$Position") (hr : meth.sig.returnType = none) (hlk : meth.locks = false) (Q : GSt → Prop) (o : Nat) (ho : kd o = 5) (x1 : Int32) (x2 : Int32) (x3 : Int32) (σ : GSt) {H : Heap} {locs : List Loc} {ls : Array Slot} (hw : Wo G s H locs σ) (hl : lv_has ls 4 [(0, .ref (G.2.1 o)), (1, .int x1), (2, .int x2), (3, .int x3)]) (hD : D_X5_close_0 Q o x1 x2 x3 σ) : W p l e rm_X5_close s m args below meth c H locs 0 0 (QMV G Q below args s) (F0 m 0 ls []) := by
  unfold D_X5_close_0 at hD
  refine lv_aload_n X.1 X.2.1 d_X5_close_0 rfl (lv_at hl 0 rfl) ?_
  refine lv_iload_n X.1 X.2.1 d_X5_close_1 rfl (lv_at hl 1 rfl) ?_
  refine pf_5_4 X hw ho tb_255 d_X5_close_2 (fun H locs hw => ?_)
  obtain ⟨σ_1, e_σ_1⟩ : ∃ z : GSt, z = up2 σ o 4 x1 := ⟨_, rfl⟩
  rw [← e_σ_1] at hw
  have hD := hD σ_1 e_σ_1
  refine lv_aload_n X.1 X.2.1 d_X5_close_5 rfl (lv_at hl 0 rfl) ?_
  refine lv_iload_n X.1 X.2.1 d_X5_close_6 rfl (lv_at hl 2 rfl) ?_
  refine pf_5_5 X hw ho tb_260 d_X5_close_7 (fun H locs hw => ?_)
  obtain ⟨σ_2, e_σ_2⟩ : ∃ z : GSt, z = up2 σ_1 o 5 x2 := ⟨_, rfl⟩
  rw [← e_σ_2] at hw
  have hD := hD σ_2 e_σ_2
  refine lv_aload_n X.1 X.2.1 d_X5_close_10 rfl (lv_at hl 0 rfl) ?_
  refine lv_iload_n X.1 X.2.1 d_X5_close_11 rfl (lv_at hl 3 rfl) ?_
  refine pf_5_6 X hw ho tb_264 d_X5_close_12 (fun H locs hw => ?_)
  obtain ⟨σ_3, e_σ_3⟩ : ∃ z : GSt, z = up2 σ_2 o 6 x3 := ⟨_, rfl⟩
  rw [← e_σ_3] at hw
  have hD := hD σ_3 e_σ_3
  exact g_vret X hr hlk hw hD d_X5_close_15
theorem c_X5_close (l : Launch) (G : GC) (o : Nat) (x1 : Int32) (x2 : Int32) (x3 : Int32) (σ : GSt) (Q : GSt → Prop) (ho : kd o = 5) (hD : D_X5_close o x1 x2 x3 σ Q) : MV l ym_X5_close cm_X5_close 4 rm_X5_close G σ [.ref (G.2.1 o), .int x1, .int x2, .int x3] Q := by
  refine met_v (by decide) (Nat.le_of_ble_eq_true rfl) ?_
  intro p e s m args below meth c X hr hlk hw ls hl
  exact s_X5_close_0 X hr hlk Q o ho x1 x2 x3 σ hw (lv_sub hl [0, 1, 2, 3] rfl) hD
theorem hd_X5_hasMove : ym_X5_hasMove.cls = "GameLoom$Position" ∧ ym_X5_hasMove.cls ≠ "java/lang/invoke/MethodHandle" ∧ ym_X5_hasMove.cls ≠ "java/lang/invoke/VarHandle" ∧ (parseMethodDescriptor ym_X5_hasMove.desc).map (fun d => d.parameters.length) = some 0 := by decide +kernel
abbrev rm_X5_hasMove : Room := { frames := 1, cells := 0, slots := 0, locals := 30 }
theorem d_X5_hasMove_0 : decode cm_X5_hasMove 0 = .ok (.aload_n 0, 1) := by decide +kernel
theorem d_X5_hasMove_1 : decode cm_X5_hasMove 1 = .ok (.getfield 15, 3) := by decide +kernel
theorem d_X5_hasMove_4 : decode cm_X5_hasMove 4 = .ok (.iconst 1, 1) := by decide +kernel
theorem d_X5_hasMove_5 : decode cm_X5_hasMove 5 = .ok (.iand, 1) := by decide +kernel
theorem d_X5_hasMove_6 : decode cm_X5_hasMove 6 = .ok (.ifCond .ne 10, 3) := by decide +kernel
theorem d_X5_hasMove_9 : decode cm_X5_hasMove 9 = .ok (.aload_n 0, 1) := by decide +kernel
theorem d_X5_hasMove_10 : decode cm_X5_hasMove 10 = .ok (.getfield 39, 3) := by decide +kernel
theorem d_X5_hasMove_13 : decode cm_X5_hasMove 13 = .ok (.goto 7, 3) := by decide +kernel
theorem d_X5_hasMove_16 : decode cm_X5_hasMove 16 = .ok (.aload_n 0, 1) := by decide +kernel
theorem d_X5_hasMove_17 : decode cm_X5_hasMove 17 = .ok (.getfield 42, 3) := by decide +kernel
theorem d_X5_hasMove_20 : decode cm_X5_hasMove 20 = .ok (.istore_n 1, 1) := by decide +kernel
theorem d_X5_hasMove_21 : decode cm_X5_hasMove 21 = .ok (.iconst 0, 1) := by decide +kernel
theorem d_X5_hasMove_22 : decode cm_X5_hasMove 22 = .ok (.istore_n 2, 1) := by decide +kernel
theorem d_X5_hasMove_23 : decode cm_X5_hasMove 23 = .ok (.iload_n 2, 1) := by decide +kernel
theorem d_X5_hasMove_24 : decode cm_X5_hasMove 24 = .ok (.aload_n 0, 1) := by decide +kernel
theorem d_X5_hasMove_25 : decode cm_X5_hasMove 25 = .ok (.getfield 9, 3) := by decide +kernel
theorem d_X5_hasMove_28 : decode cm_X5_hasMove 28 = .ok (.getfield 54, 3) := by decide +kernel
theorem d_X5_hasMove_31 : decode cm_X5_hasMove 31 = .ok (.if_icmp .ge 127, 3) := by decide +kernel
theorem d_X5_hasMove_34 : decode cm_X5_hasMove 34 = .ok (.aload_n 0, 1) := by decide +kernel
theorem d_X5_hasMove_35 : decode cm_X5_hasMove 35 = .ok (.getfield 9, 3) := by decide +kernel
theorem d_X5_hasMove_38 : decode cm_X5_hasMove 38 = .ok (.getfield 57, 3) := by decide +kernel
theorem d_X5_hasMove_41 : decode cm_X5_hasMove 41 = .ok (.iload_n 2, 1) := by decide +kernel
theorem d_X5_hasMove_42 : decode cm_X5_hasMove 42 = .ok (.aaload, 1) := by decide +kernel
theorem d_X5_hasMove_43 : decode cm_X5_hasMove 43 = .ok (.astore_n 3, 1) := by decide +kernel
theorem d_X5_hasMove_44 : decode cm_X5_hasMove 44 = .ok (.aload_n 3, 1) := by decide +kernel
theorem d_X5_hasMove_45 : decode cm_X5_hasMove 45 = .ok (.getfield 71, 3) := by decide +kernel
theorem d_X5_hasMove_48 : decode cm_X5_hasMove 48 = .ok (.ifCond .ne 60, 3) := by decide +kernel
theorem d_X5_hasMove_51 : decode cm_X5_hasMove 51 = .ok (.aload_n 3, 1) := by decide +kernel
theorem d_X5_hasMove_52 : decode cm_X5_hasMove 52 = .ok (.getfield 74, 3) := by decide +kernel
theorem d_X5_hasMove_55 : decode cm_X5_hasMove 55 = .ok (.ifCond .eq 14, 3) := by decide +kernel
theorem d_X5_hasMove_58 : decode cm_X5_hasMove 58 = .ok (.iload_n 1, 1) := by decide +kernel
theorem d_X5_hasMove_59 : decode cm_X5_hasMove 59 = .ok (.invokestatic 77, 3) := by decide +kernel
theorem d_X5_hasMove_62 : decode cm_X5_hasMove 62 = .ok (.aload_n 3, 1) := by decide +kernel
theorem d_X5_hasMove_63 : decode cm_X5_hasMove 63 = .ok (.getfield 74, 3) := by decide +kernel
theorem d_X5_hasMove_66 : decode cm_X5_hasMove 66 = .ok (.if_icmp .ge 7, 3) := by decide +kernel
theorem d_X5_hasMove_69 : decode cm_X5_hasMove 69 = .ok (.iconst 1, 1) := by decide +kernel
theorem d_X5_hasMove_70 : decode cm_X5_hasMove 70 = .ok (.goto 4, 3) := by decide +kernel
theorem d_X5_hasMove_73 : decode cm_X5_hasMove 73 = .ok (.iconst 0, 1) := by decide +kernel
theorem d_X5_hasMove_74 : decode cm_X5_hasMove 74 = .ok (.istore 4, 2) := by decide +kernel
theorem d_X5_hasMove_76 : decode cm_X5_hasMove 76 = .ok (.iload 4, 2) := by decide +kernel
theorem d_X5_hasMove_78 : decode cm_X5_hasMove 78 = .ok (.ifCond .eq 74, 3) := by decide +kernel
theorem d_X5_hasMove_81 : decode cm_X5_hasMove 81 = .ok (.aload_n 0, 1) := by decide +kernel
theorem d_X5_hasMove_82 : decode cm_X5_hasMove 82 = .ok (.getfield 9, 3) := by decide +kernel
theorem d_X5_hasMove_85 : decode cm_X5_hasMove 85 = .ok (.getfield 83, 3) := by decide +kernel
theorem d_X5_hasMove_88 : decode cm_X5_hasMove 88 = .ok (.getfield 87, 3) := by decide +kernel
theorem d_X5_hasMove_91 : decode cm_X5_hasMove 91 = .ok (.aload_n 0, 1) := by decide +kernel
theorem d_X5_hasMove_92 : decode cm_X5_hasMove 92 = .ok (.getfield 39, 3) := by decide +kernel
theorem d_X5_hasMove_95 : decode cm_X5_hasMove 95 = .ok (.aload_n 0, 1) := by decide +kernel
theorem d_X5_hasMove_96 : decode cm_X5_hasMove 96 = .ok (.getfield 42, 3) := by decide +kernel
theorem d_X5_hasMove_99 : decode cm_X5_hasMove 99 = .ok (.ior, 1) := by decide +kernel
theorem d_X5_hasMove_100 : decode cm_X5_hasMove 100 = .ok (.iconst (-1), 1) := by decide +kernel
theorem d_X5_hasMove_101 : decode cm_X5_hasMove 101 = .ok (.ixor, 1) := by decide +kernel
theorem d_X5_hasMove_102 : decode cm_X5_hasMove 102 = .ok (.iand, 1) := by decide +kernel
theorem d_X5_hasMove_103 : decode cm_X5_hasMove 103 = .ok (.ifCond .eq 49, 3) := by decide +kernel
theorem d_X5_hasMove_106 : decode cm_X5_hasMove 106 = .ok (.iconst 1, 1) := by decide +kernel
theorem d_X5_hasMove_107 : decode cm_X5_hasMove 107 = .ok (.ireturn, 1) := by decide +kernel
theorem d_X5_hasMove_108 : decode cm_X5_hasMove 108 = .ok (.iconst 0, 1) := by decide +kernel
theorem d_X5_hasMove_109 : decode cm_X5_hasMove 109 = .ok (.istore 4, 2) := by decide +kernel
theorem d_X5_hasMove_111 : decode cm_X5_hasMove 111 = .ok (.iload_n 1, 1) := by decide +kernel
theorem d_X5_hasMove_112 : decode cm_X5_hasMove 112 = .ok (.iload 4, 2) := by decide +kernel
theorem d_X5_hasMove_114 : decode cm_X5_hasMove 114 = .ok (.iushr, 1) := by decide +kernel
theorem d_X5_hasMove_115 : decode cm_X5_hasMove 115 = .ok (.ifCond .eq 37, 3) := by decide +kernel
theorem d_X5_hasMove_118 : decode cm_X5_hasMove 118 = .ok (.iload 4, 2) := by decide +kernel
theorem d_X5_hasMove_120 : decode cm_X5_hasMove 120 = .ok (.bipush 16, 2) := by decide +kernel
theorem d_X5_hasMove_122 : decode cm_X5_hasMove 122 = .ok (.if_icmp .ge 30, 3) := by decide +kernel
theorem d_X5_hasMove_125 : decode cm_X5_hasMove 125 = .ok (.iload_n 1, 1) := by decide +kernel
theorem d_X5_hasMove_126 : decode cm_X5_hasMove 126 = .ok (.iload 4, 2) := by decide +kernel
theorem d_X5_hasMove_128 : decode cm_X5_hasMove 128 = .ok (.iushr, 1) := by decide +kernel
theorem d_X5_hasMove_129 : decode cm_X5_hasMove 129 = .ok (.iconst 1, 1) := by decide +kernel
theorem d_X5_hasMove_130 : decode cm_X5_hasMove 130 = .ok (.iand, 1) := by decide +kernel
theorem d_X5_hasMove_131 : decode cm_X5_hasMove 131 = .ok (.ifCond .eq 15, 3) := by decide +kernel
theorem d_X5_hasMove_134 : decode cm_X5_hasMove 134 = .ok (.aload_n 0, 1) := by decide +kernel
theorem d_X5_hasMove_135 : decode cm_X5_hasMove 135 = .ok (.aload_n 3, 1) := by decide +kernel
theorem d_X5_hasMove_136 : decode cm_X5_hasMove 136 = .ok (.iload 4, 2) := by decide +kernel
theorem d_X5_hasMove_138 : decode cm_X5_hasMove 138 = .ok (.invokevirtual 96, 3) := by decide +kernel
theorem d_X5_hasMove_141 : decode cm_X5_hasMove 141 = .ok (.ifCond .eq 5, 3) := by decide +kernel
theorem d_X5_hasMove_144 : decode cm_X5_hasMove 144 = .ok (.iconst 1, 1) := by decide +kernel
theorem d_X5_hasMove_145 : decode cm_X5_hasMove 145 = .ok (.ireturn, 1) := by decide +kernel
theorem d_X5_hasMove_146 : decode cm_X5_hasMove 146 = .ok (.iinc 4 1, 3) := by decide +kernel
theorem d_X5_hasMove_149 : decode cm_X5_hasMove 149 = .ok (.goto (-38), 3) := by decide +kernel
theorem d_X5_hasMove_152 : decode cm_X5_hasMove 152 = .ok (.iinc 2 1, 3) := by decide +kernel
theorem d_X5_hasMove_155 : decode cm_X5_hasMove 155 = .ok (.goto (-132), 3) := by decide +kernel
theorem d_X5_hasMove_158 : decode cm_X5_hasMove 158 = .ok (.iconst 0, 1) := by decide +kernel
theorem d_X5_hasMove_159 : decode cm_X5_hasMove 159 = .ok (.ireturn, 1) := by decide +kernel
def D_X5_hasMove_152 (K23 : Int32 → Int32 → GSt → Prop) (Q : Int32 → GSt → Prop) (o : Nat) (x1 : Int32) (x2 : Int32) (σ : GSt) : Prop :=
  ∀ x2_1 : Int32, x2_1 = x2 + 1 → (K23 x1 x2_1 σ)
def D_X5_hasMove_146 (K23 : Int32 → Int32 → GSt → Prop) (K111 : Int32 → Int32 → Nat → Int32 → GSt → Prop) (Q : Int32 → GSt → Prop) (o : Nat) (x1 : Int32) (x2 : Int32) (r3 : Nat) (x4 : Int32) (σ : GSt) : Prop :=
  ∀ x4_1 : Int32, x4_1 = x4 + 1 → (K111 x1 x2 r3 x4_1 σ)
def D_X5_hasMove_111 (K23 : Int32 → Int32 → GSt → Prop) (K111 : Int32 → Int32 → Nat → Int32 → GSt → Prop) (Q : Int32 → GSt → Prop) (o : Nat) (x1 : Int32) (x2 : Int32) (r3 : Nat) (x4 : Int32) (σ : GSt) : Prop :=
  ((jushr x1 x4) = 0 → D_X5_hasMove_152 K23 Q o x1 x2 σ) ∧
  (¬ (jushr x1 x4) = 0 → (16 ≤ x4 → D_X5_hasMove_152 K23 Q o x1 x2 σ) ∧
  (¬ 16 ≤ x4 → (((jushr x1 x4) &&& 1) = 0 → D_X5_hasMove_146 K23 K111 Q o x1 x2 r3 x4 σ) ∧
  (¬ ((jushr x1 x4) &&& 1) = 0 → D_X5_targets o r3 x4 σ (fun r_1 σ_2 => (r_1 = 0 → D_X5_hasMove_146 K23 K111 Q o x1 x2 r3 x4 σ_2) ∧
  (¬ r_1 = 0 → Q 1 σ_2)))))
def L_X5_hasMove_111 (K23 : Int32 → Int32 → GSt → Prop) (Q : Int32 → GSt → Prop) (o : Nat) : Nat → Int32 → Int32 → Nat → Int32 → GSt → Prop
  | 0 => fun _ _ _ _ _ => False
  | n + 1 => fun x1 x2 r3 x4 σ => D_X5_hasMove_111 K23 (L_X5_hasMove_111 K23 Q o n) Q o x1 x2 r3 x4 σ
def D_X5_hasMove_74 (K23 : Int32 → Int32 → GSt → Prop) (Q : Int32 → GSt → Prop) (o : Nat) (x1 : Int32) (x2 : Int32) (s0 : Int32) (σ : GSt) : Prop :=
  (s0 = 0 → D_X5_hasMove_152 K23 Q o x1 x2 σ) ∧
  (¬ s0 = 0 → (¬ σ o 0 < 0 ∧ kd (σ o 0).toNatClampNeg = 1) ∧ ((((σ (((σ o 0).toNatClampNeg) + 3) 7) &&& (((σ o 1) ||| (σ o 2)) ^^^ (-1))) = 0 → D_X5_hasMove_152 K23 Q o x1 x2 σ) ∧
  (¬ ((σ (((σ o 0).toNatClampNeg) + 3) 7) &&& (((σ o 1) ||| (σ o 2)) ^^^ (-1))) = 0 → Q 1 σ)))
def D_X5_hasMove_69 (K23 : Int32 → Int32 → GSt → Prop) (Q : Int32 → GSt → Prop) (o : Nat) (x1 : Int32) (x2 : Int32) (σ : GSt) : Prop :=
  D_X5_hasMove_74 K23 Q o x1 x2 1 σ
def D_X5_hasMove_23 (K23 : Int32 → Int32 → GSt → Prop) (Q : Int32 → GSt → Prop) (o : Nat) (x1 : Int32) (x2 : Int32) (σ : GSt) : Prop :=
  (¬ σ o 0 < 0 ∧ kd (σ o 0).toNatClampNeg = 1) ∧ (((σ ((σ o 0).toNatClampNeg) 5) ≤ x2 → Q 0 σ) ∧
  (¬ (σ ((σ o 0).toNatClampNeg) 5) ≤ x2 → (¬ σ o 0 < 0 ∧ kd (σ o 0).toNatClampNeg = 1) ∧ (vp_in x2 6 ∧ ((¬ (σ ((((σ o 0).toNatClampNeg) + 8) + 2 + 2 * Int32.toNatClampNeg x2) 0) = 0 → ∃ n : Nat, L_X5_hasMove_111 K23 Q o n x1 x2 ((((σ o 0).toNatClampNeg) + 8) + 2 + 2 * Int32.toNatClampNeg x2) 0 σ) ∧
  ((σ ((((σ o 0).toNatClampNeg) + 8) + 2 + 2 * Int32.toNatClampNeg x2) 0) = 0 → ((σ ((((σ o 0).toNatClampNeg) + 8) + 2 + 2 * Int32.toNatClampNeg x2) 1) = 0 → D_X5_hasMove_69 K23 Q o x1 x2 σ) ∧
  (¬ (σ ((((σ o 0).toNatClampNeg) + 8) + 2 + 2 * Int32.toNatClampNeg x2) 1) = 0 → D_J6_bitCount_0f7a4 x1 σ (fun r_1 σ_2 => ((σ_2 ((((σ o 0).toNatClampNeg) + 8) + 2 + 2 * Int32.toNatClampNeg x2) 1) ≤ r_1 → D_X5_hasMove_74 K23 Q o x1 x2 0 σ_2) ∧
  (¬ (σ_2 ((((σ o 0).toNatClampNeg) + 8) + 2 + 2 * Int32.toNatClampNeg x2) 1) ≤ r_1 → D_X5_hasMove_69 K23 Q o x1 x2 σ_2))))))))
def L_X5_hasMove_23 (Q : Int32 → GSt → Prop) (o : Nat) : Nat → Int32 → Int32 → GSt → Prop
  | 0 => fun _ _ _ => False
  | n + 1 => fun x1 x2 σ => D_X5_hasMove_23 (L_X5_hasMove_23 Q o n) Q o x1 x2 σ
def D_X5_hasMove_20 (Q : Int32 → GSt → Prop) (o : Nat) (s0 : Int32) (σ : GSt) : Prop :=
  ∃ n : Nat, L_X5_hasMove_23 Q o n s0 0 σ
def D_X5_hasMove_0 (Q : Int32 → GSt → Prop) (o : Nat) (σ : GSt) : Prop :=
  (¬ ((σ o 3) &&& 1) = 0 → D_X5_hasMove_20 Q o (σ o 2) σ) ∧
  (((σ o 3) &&& 1) = 0 → D_X5_hasMove_20 Q o (σ o 1) σ)
def D_X5_hasMove (o : Nat) (σ : GSt) (Q : Int32 → GSt → Prop) : Prop := D_X5_hasMove_0 Q o σ
set_option maxRecDepth 20000 in
set_option maxHeartbeats 4000000 in
theorem s_X5_hasMove_152 {p : Program} {l : Launch} {e : Env} {s : State} {m : MethodId} {args : Array Value} {below : List Frame} {meth : Method} {c : Code} {G : GC} (X : CallFix p m c cm_X5_hasMove 5 s args lw_us "GameLoom$Position") (hr : meth.sig.returnType = some .boolean) (hlk : meth.locks = false) (K23 : Int32 → Int32 → GSt → Prop) (Q : Int32 → GSt → Prop) (o : Nat) (ho : kd o = 5) (hK23 : ∀ (x1 : Int32) (x2 : Int32) (σ : GSt) (H : Heap) (locs : List Loc) (ls : Array Slot), Wo G s H locs σ → lv_has ls 5 [(0, .ref (G.2.1 o)), (1, .int x1), (2, .int x2)] → K23 x1 x2 σ → W p l e rm_X5_hasMove s m args below meth c H locs 0 0 (QMI G Q below args s) (F0 m 23 ls [])) (x1 : Int32) (x2 : Int32) (σ : GSt) {H : Heap} {locs : List Loc} {ls : Array Slot} (hw : Wo G s H locs σ) (hl : lv_has ls 5 [(0, .ref (G.2.1 o)), (1, .int x1), (2, .int x2)]) (hD : D_X5_hasMove_152 K23 Q o x1 x2 σ) : W p l e rm_X5_hasMove s m args below meth c H locs 0 0 (QMI G Q below args s) (F0 m 152 ls []) := by
  unfold D_X5_hasMove_152 at hD
  obtain ⟨x2_1, e_x2_1⟩ : ∃ y : Int32, y = x2 + 1 := ⟨_, rfl⟩
  have hD := hD x2_1 e_x2_1
  refine lv_iinc (v := x2_1) (lv' := [(2, .int x2_1), (0, .ref (G.2.1 o)), (1, .int x1)]) X.1 X.2.1 d_X5_hasMove_152 hl (k := 2) rfl (by rw [e_x2_1]; rfl) (by decide) rfl (fun ls hl => ?_)
  refine lv_goto (tgt := 23) X.1 X.2.1 d_X5_hasMove_155 (by decide) ?_
  exact hK23 x1 x2_1 σ _ _ _  hw (lv_sub hl [1, 2, 0] rfl) hD
set_option maxRecDepth 20000 in
set_option maxHeartbeats 4000000 in
theorem s_X5_hasMove_146 {p : Program} {l : Launch} {e : Env} {s : State} {m : MethodId} {args : Array Value} {below : List Frame} {meth : Method} {c : Code} {G : GC} (X : CallFix p m c cm_X5_hasMove 5 s args lw_us "GameLoom$Position") (hr : meth.sig.returnType = some .boolean) (hlk : meth.locks = false) (K23 : Int32 → Int32 → GSt → Prop) (K111 : Int32 → Int32 → Nat → Int32 → GSt → Prop) (Q : Int32 → GSt → Prop) (o : Nat) (ho : kd o = 5) (hK23 : ∀ (x1 : Int32) (x2 : Int32) (σ : GSt) (H : Heap) (locs : List Loc) (ls : Array Slot), Wo G s H locs σ → lv_has ls 5 [(0, .ref (G.2.1 o)), (1, .int x1), (2, .int x2)] → K23 x1 x2 σ → W p l e rm_X5_hasMove s m args below meth c H locs 0 0 (QMI G Q below args s) (F0 m 23 ls [])) (hK111 : ∀ (x1 : Int32) (x2 : Int32) (r3 : Nat) (x4 : Int32) (σ : GSt) (H : Heap) (locs : List Loc) (ls : Array Slot), kd r3 = 7 → Wo G s H locs σ → lv_has ls 5 [(0, .ref (G.2.1 o)), (1, .int x1), (2, .int x2), (3, .ref (G.2.1 r3)), (4, .int x4)] → K111 x1 x2 r3 x4 σ → W p l e rm_X5_hasMove s m args below meth c H locs 0 0 (QMI G Q below args s) (F0 m 111 ls [])) (x1 : Int32) (x2 : Int32) (r3 : Nat) (hk3 : kd r3 = 7) (x4 : Int32) (σ : GSt) {H : Heap} {locs : List Loc} {ls : Array Slot} (hw : Wo G s H locs σ) (hl : lv_has ls 5 [(0, .ref (G.2.1 o)), (1, .int x1), (2, .int x2), (3, .ref (G.2.1 r3)), (4, .int x4)]) (hD : D_X5_hasMove_146 K23 K111 Q o x1 x2 r3 x4 σ) : W p l e rm_X5_hasMove s m args below meth c H locs 0 0 (QMI G Q below args s) (F0 m 146 ls []) := by
  unfold D_X5_hasMove_146 at hD
  obtain ⟨x4_1, e_x4_1⟩ : ∃ y : Int32, y = x4 + 1 := ⟨_, rfl⟩
  have hD := hD x4_1 e_x4_1
  refine lv_iinc (v := x4_1) (lv' := [(4, .int x4_1), (0, .ref (G.2.1 o)), (1, .int x1), (2, .int x2), (3, .ref (G.2.1 r3))]) X.1 X.2.1 d_X5_hasMove_146 hl (k := 4) rfl (by rw [e_x4_1]; rfl) (by decide) rfl (fun ls hl => ?_)
  refine lv_goto (tgt := 111) X.1 X.2.1 d_X5_hasMove_149 (by decide) ?_
  exact hK111 x1 x2 r3 x4_1 σ _ _ _ hk3 hw (lv_sub hl [1, 2, 3, 4, 0] rfl) hD
set_option maxRecDepth 20000 in
set_option maxHeartbeats 4000000 in
theorem s_X5_hasMove_111 {p : Program} {l : Launch} {e : Env} {s : State} {m : MethodId} {args : Array Value} {below : List Frame} {meth : Method} {c : Code} {G : GC} (X : CallFix p m c cm_X5_hasMove 5 s args lw_us "GameLoom$Position") (hr : meth.sig.returnType = some .boolean) (hlk : meth.locks = false) (K23 : Int32 → Int32 → GSt → Prop) (K111 : Int32 → Int32 → Nat → Int32 → GSt → Prop) (Q : Int32 → GSt → Prop) (o : Nat) (ho : kd o = 5) (hK23 : ∀ (x1 : Int32) (x2 : Int32) (σ : GSt) (H : Heap) (locs : List Loc) (ls : Array Slot), Wo G s H locs σ → lv_has ls 5 [(0, .ref (G.2.1 o)), (1, .int x1), (2, .int x2)] → K23 x1 x2 σ → W p l e rm_X5_hasMove s m args below meth c H locs 0 0 (QMI G Q below args s) (F0 m 23 ls [])) (hK111 : ∀ (x1 : Int32) (x2 : Int32) (r3 : Nat) (x4 : Int32) (σ : GSt) (H : Heap) (locs : List Loc) (ls : Array Slot), kd r3 = 7 → Wo G s H locs σ → lv_has ls 5 [(0, .ref (G.2.1 o)), (1, .int x1), (2, .int x2), (3, .ref (G.2.1 r3)), (4, .int x4)] → K111 x1 x2 r3 x4 σ → W p l e rm_X5_hasMove s m args below meth c H locs 0 0 (QMI G Q below args s) (F0 m 111 ls [])) (x1 : Int32) (x2 : Int32) (r3 : Nat) (hk3 : kd r3 = 7) (x4 : Int32) (σ : GSt) {H : Heap} {locs : List Loc} {ls : Array Slot} (hw : Wo G s H locs σ) (hl : lv_has ls 5 [(0, .ref (G.2.1 o)), (1, .int x1), (2, .int x2), (3, .ref (G.2.1 r3)), (4, .int x4)]) (hD : D_X5_hasMove_111 K23 K111 Q o x1 x2 r3 x4 σ) : W p l e rm_X5_hasMove s m args below meth c H locs 0 0 (QMI G Q below args s) (F0 m 111 ls []) := by
  unfold D_X5_hasMove_111 at hD
  refine lv_iload_n X.1 X.2.1 d_X5_hasMove_111 rfl (lv_at hl 1 rfl) ?_
  refine lv_iload X.1 X.2.1 d_X5_hasMove_112 (lv_at hl 4 rfl) ?_
  refine lv_iushr (v := (jushr x1 x4)) X.1 X.2.1 d_X5_hasMove_114 rfl ?_
  refine lv_if_eq (tgt := 152) X.1 X.2.1 d_X5_hasMove_115 (by decide) (fun q_115 => ?_) (fun q_115 => ?_)
  · have hD := hD.1 q_115
    exact s_X5_hasMove_152 X hr hlk K23 Q o ho hK23 x1 x2 σ hw (lv_sub hl [0, 1, 2] rfl) hD
  · have hD := hD.2 q_115
    refine lv_iload X.1 X.2.1 d_X5_hasMove_118 (lv_at hl 4 rfl) ?_
    refine lv_bipush (v := 16) X.1 X.2.1 d_X5_hasMove_120 (by decide) ?_
    refine lv_icmp_ge (tgt := 152) X.1 X.2.1 d_X5_hasMove_122 (by decide) (fun q_122 => ?_) (fun q_122 => ?_)
    · have hD := hD.1 q_122
      exact s_X5_hasMove_152 X hr hlk K23 Q o ho hK23 x1 x2 σ hw (lv_sub hl [0, 1, 2] rfl) hD
    · have hD := hD.2 q_122
      refine lv_iload_n X.1 X.2.1 d_X5_hasMove_125 rfl (lv_at hl 1 rfl) ?_
      refine lv_iload X.1 X.2.1 d_X5_hasMove_126 (lv_at hl 4 rfl) ?_
      refine lv_iushr (v := (jushr x1 x4)) X.1 X.2.1 d_X5_hasMove_128 rfl ?_
      refine lv_iconst (v := 1) X.1 X.2.1 d_X5_hasMove_129 (by decide) ?_
      refine lv_iand X.1 X.2.1 d_X5_hasMove_130 ?_
      refine lv_if_eq (tgt := 146) X.1 X.2.1 d_X5_hasMove_131 (by decide) (fun q_131 => ?_) (fun q_131 => ?_)
      · have hD := hD.1 q_131
        exact s_X5_hasMove_146 X hr hlk K23 K111 Q o ho hK23 hK111 x1 x2 r3 hk3 x4 σ hw (lv_sub hl [0, 1, 2, 3, 4] rfl) hD
      · have hD := hD.2 q_131
        refine lv_aload_n X.1 X.2.1 d_X5_hasMove_134 rfl (lv_at hl 0 rfl) ?_
        refine lv_aload_n X.1 X.2.1 d_X5_hasMove_135 rfl (lv_at hl 3 rfl) ?_
        refine lv_iload X.1 X.2.1 d_X5_hasMove_136 (lv_at hl 4 rfl) ?_
        refine gcV_i (rest := []) (As := [.ref (G.2.1 r3), .int x4]) (o := o) X hw (c_X5_targets l G o r3 x4 σ _ ho hk3 hD) (kd_lt ho (by decide)) (ce_5 G _ ho) rfl tb_565 tb_567 tv_20 tb_9 tb_568 hd_X5_targets ⟨rfl, rfl⟩ ⟨Nat.le_of_ble_eq_true rfl, Nat.le_of_ble_eq_true rfl⟩ rfl hl.1 rfl (Nat.le_of_ble_eq_true rfl) d_X5_hasMove_138 (fun r_1 σ_2 H locs hD hw => ?_)
        refine lv_if_eq (tgt := 146) X.1 X.2.1 d_X5_hasMove_141 (by decide) (fun q_141 => ?_) (fun q_141 => ?_)
        · have hD := hD.1 q_141
          exact s_X5_hasMove_146 X hr hlk K23 K111 Q o ho hK23 hK111 x1 x2 r3 hk3 x4 σ_2 hw (lv_sub hl [0, 1, 2, 3, 4] rfl) hD
        · have hD := hD.2 q_141
          refine lv_iconst (v := 1) X.1 X.2.1 d_X5_hasMove_144 (by decide) ?_
          exact g_zret X hr hlk hw (by decide) hD d_X5_hasMove_145
set_option maxRecDepth 20000 in
set_option maxHeartbeats 4000000 in
theorem sl_X5_hasMove_111 {p : Program} {l : Launch} {e : Env} {s : State} {m : MethodId} {args : Array Value} {below : List Frame} {meth : Method} {c : Code} {G : GC} (X : CallFix p m c cm_X5_hasMove 5 s args lw_us "GameLoom$Position") (hr : meth.sig.returnType = some .boolean) (hlk : meth.locks = false) (K23 : Int32 → Int32 → GSt → Prop) (Q : Int32 → GSt → Prop) (o : Nat) (ho : kd o = 5) (hK23 : ∀ (x1 : Int32) (x2 : Int32) (σ : GSt) (H : Heap) (locs : List Loc) (ls : Array Slot), Wo G s H locs σ → lv_has ls 5 [(0, .ref (G.2.1 o)), (1, .int x1), (2, .int x2)] → K23 x1 x2 σ → W p l e rm_X5_hasMove s m args below meth c H locs 0 0 (QMI G Q below args s) (F0 m 23 ls [])) : ∀ (nn : Nat), ∀ (x1 : Int32) (x2 : Int32) (r3 : Nat) (x4 : Int32) (σ : GSt) (H : Heap) (locs : List Loc) (ls : Array Slot), kd r3 = 7 → Wo G s H locs σ → lv_has ls 5 [(0, .ref (G.2.1 o)), (1, .int x1), (2, .int x2), (3, .ref (G.2.1 r3)), (4, .int x4)] → L_X5_hasMove_111 K23 Q o nn x1 x2 r3 x4 σ → W p l e rm_X5_hasMove s m args below meth c H locs 0 0 (QMI G Q below args s) (F0 m 111 ls []) := by
  intro nn
  induction nn with
  | zero => intro x1 x2 r3 x4 σ H locs ls hk3 hw hl hD; exact hD.elim
  | succ nn ih =>
    intro x1 x2 r3 x4 σ H locs ls hk3 hw hl hD
    exact s_X5_hasMove_111 X hr hlk K23 (L_X5_hasMove_111 K23 Q o nn) Q o ho hK23 ih x1 x2 r3 hk3 x4 σ hw hl hD
set_option maxRecDepth 20000 in
set_option maxHeartbeats 4000000 in
theorem s_X5_hasMove_74 {p : Program} {l : Launch} {e : Env} {s : State} {m : MethodId} {args : Array Value} {below : List Frame} {meth : Method} {c : Code} {G : GC} (X : CallFix p m c cm_X5_hasMove 5 s args lw_us "GameLoom$Position") (hr : meth.sig.returnType = some .boolean) (hlk : meth.locks = false) (K23 : Int32 → Int32 → GSt → Prop) (Q : Int32 → GSt → Prop) (o : Nat) (ho : kd o = 5) (hK23 : ∀ (x1 : Int32) (x2 : Int32) (σ : GSt) (H : Heap) (locs : List Loc) (ls : Array Slot), Wo G s H locs σ → lv_has ls 5 [(0, .ref (G.2.1 o)), (1, .int x1), (2, .int x2)] → K23 x1 x2 σ → W p l e rm_X5_hasMove s m args below meth c H locs 0 0 (QMI G Q below args s) (F0 m 23 ls [])) (x1 : Int32) (x2 : Int32) (s0 : Int32) (σ : GSt) {H : Heap} {locs : List Loc} {ls : Array Slot} (hw : Wo G s H locs σ) (hl : lv_has ls 5 [(0, .ref (G.2.1 o)), (1, .int x1), (2, .int x2)]) (hD : D_X5_hasMove_74 K23 Q o x1 x2 s0 σ) : W p l e rm_X5_hasMove s m args below meth c H locs 0 0 (QMI G Q below args s) (F0 m 74 ls [.int s0]) := by
  unfold D_X5_hasMove_74 at hD
  refine lv_istore (lv' := [(4, .int s0), (0, .ref (G.2.1 o)), (1, .int x1), (2, .int x2)]) X.1 X.2.1 d_X5_hasMove_74 hl (by decide) rfl (fun ls hl => ?_)
  refine lv_iload X.1 X.2.1 d_X5_hasMove_76 (lv_at hl 0 rfl) ?_
  refine lv_if_eq (tgt := 152) X.1 X.2.1 d_X5_hasMove_78 (by decide) (fun q_78 => ?_) (fun q_78 => ?_)
  · have hD := hD.1 q_78
    exact s_X5_hasMove_152 X hr hlk K23 Q o ho hK23 x1 x2 σ hw (lv_sub hl [1, 2, 3] rfl) hD
  · have hD := hD.2 q_78
    refine lv_aload_n X.1 X.2.1 d_X5_hasMove_81 rfl (lv_at hl 1 rfl) ?_
    obtain ⟨q_82, hD⟩ := hD
    refine gf_5_0 X hw ho tb_237 q_82.1 d_X5_hasMove_82 ?_
    refine gf_1_1 X hw q_82.2 tb_158 d_X5_hasMove_85 ?_
    refine gf_0_7 X hw (ly_1_1 q_82.2) tb_89 d_X5_hasMove_88 ?_
    refine lv_aload_n X.1 X.2.1 d_X5_hasMove_91 rfl (lv_at hl 1 rfl) ?_
    refine gf_5_1 X hw ho tb_240 d_X5_hasMove_92 ?_
    refine lv_aload_n X.1 X.2.1 d_X5_hasMove_95 rfl (lv_at hl 1 rfl) ?_
    refine gf_5_2 X hw ho tb_245 d_X5_hasMove_96 ?_
    refine lv_ior X.1 X.2.1 d_X5_hasMove_99 ?_
    refine lv_iconst (v := (-1)) X.1 X.2.1 d_X5_hasMove_100 (by decide) ?_
    refine lv_ixor X.1 X.2.1 d_X5_hasMove_101 ?_
    refine lv_iand X.1 X.2.1 d_X5_hasMove_102 ?_
    refine lv_if_eq (tgt := 152) X.1 X.2.1 d_X5_hasMove_103 (by decide) (fun q_103 => ?_) (fun q_103 => ?_)
    · have hD := hD.1 q_103
      exact s_X5_hasMove_152 X hr hlk K23 Q o ho hK23 x1 x2 σ hw (lv_sub hl [1, 2, 3] rfl) hD
    · have hD := hD.2 q_103
      refine lv_iconst (v := 1) X.1 X.2.1 d_X5_hasMove_106 (by decide) ?_
      exact g_zret X hr hlk hw (by decide) hD d_X5_hasMove_107
set_option maxRecDepth 20000 in
set_option maxHeartbeats 4000000 in
theorem s_X5_hasMove_69 {p : Program} {l : Launch} {e : Env} {s : State} {m : MethodId} {args : Array Value} {below : List Frame} {meth : Method} {c : Code} {G : GC} (X : CallFix p m c cm_X5_hasMove 5 s args lw_us "GameLoom$Position") (hr : meth.sig.returnType = some .boolean) (hlk : meth.locks = false) (K23 : Int32 → Int32 → GSt → Prop) (Q : Int32 → GSt → Prop) (o : Nat) (ho : kd o = 5) (hK23 : ∀ (x1 : Int32) (x2 : Int32) (σ : GSt) (H : Heap) (locs : List Loc) (ls : Array Slot), Wo G s H locs σ → lv_has ls 5 [(0, .ref (G.2.1 o)), (1, .int x1), (2, .int x2)] → K23 x1 x2 σ → W p l e rm_X5_hasMove s m args below meth c H locs 0 0 (QMI G Q below args s) (F0 m 23 ls [])) (x1 : Int32) (x2 : Int32) (σ : GSt) {H : Heap} {locs : List Loc} {ls : Array Slot} (hw : Wo G s H locs σ) (hl : lv_has ls 5 [(0, .ref (G.2.1 o)), (1, .int x1), (2, .int x2)]) (hD : D_X5_hasMove_69 K23 Q o x1 x2 σ) : W p l e rm_X5_hasMove s m args below meth c H locs 0 0 (QMI G Q below args s) (F0 m 69 ls []) := by
  unfold D_X5_hasMove_69 at hD
  refine lv_iconst (v := 1) X.1 X.2.1 d_X5_hasMove_69 (by decide) ?_
  refine lv_goto (tgt := 74) X.1 X.2.1 d_X5_hasMove_70 (by decide) ?_
  exact s_X5_hasMove_74 X hr hlk K23 Q o ho hK23 x1 x2 1 σ hw (lv_sub hl [0, 1, 2] rfl) hD
set_option maxRecDepth 20000 in
set_option maxHeartbeats 4000000 in
theorem s_X5_hasMove_23 {p : Program} {l : Launch} {e : Env} {s : State} {m : MethodId} {args : Array Value} {below : List Frame} {meth : Method} {c : Code} {G : GC} (X : CallFix p m c cm_X5_hasMove 5 s args lw_us "GameLoom$Position") (hr : meth.sig.returnType = some .boolean) (hlk : meth.locks = false) (K23 : Int32 → Int32 → GSt → Prop) (Q : Int32 → GSt → Prop) (o : Nat) (ho : kd o = 5) (hK23 : ∀ (x1 : Int32) (x2 : Int32) (σ : GSt) (H : Heap) (locs : List Loc) (ls : Array Slot), Wo G s H locs σ → lv_has ls 5 [(0, .ref (G.2.1 o)), (1, .int x1), (2, .int x2)] → K23 x1 x2 σ → W p l e rm_X5_hasMove s m args below meth c H locs 0 0 (QMI G Q below args s) (F0 m 23 ls [])) (x1 : Int32) (x2 : Int32) (σ : GSt) {H : Heap} {locs : List Loc} {ls : Array Slot} (hw : Wo G s H locs σ) (hl : lv_has ls 5 [(0, .ref (G.2.1 o)), (1, .int x1), (2, .int x2)]) (hD : D_X5_hasMove_23 K23 Q o x1 x2 σ) : W p l e rm_X5_hasMove s m args below meth c H locs 0 0 (QMI G Q below args s) (F0 m 23 ls []) := by
  unfold D_X5_hasMove_23 at hD
  refine lv_iload_n X.1 X.2.1 d_X5_hasMove_23 rfl (lv_at hl 2 rfl) ?_
  refine lv_aload_n X.1 X.2.1 d_X5_hasMove_24 rfl (lv_at hl 0 rfl) ?_
  obtain ⟨q_25, hD⟩ := hD
  refine gf_5_0 X hw ho tb_237 q_25.1 d_X5_hasMove_25 ?_
  refine gf_1_5 X hw q_25.2 tb_169 d_X5_hasMove_28 ?_
  refine lv_icmp_ge (tgt := 158) X.1 X.2.1 d_X5_hasMove_31 (by decide) (fun q_31 => ?_) (fun q_31 => ?_)
  · have hD := hD.1 q_31
    refine lv_iconst (v := 0) X.1 X.2.1 d_X5_hasMove_158 (by decide) ?_
    exact g_zret X hr hlk hw (by decide) hD d_X5_hasMove_159
  · have hD := hD.2 q_31
    refine lv_aload_n X.1 X.2.1 d_X5_hasMove_34 rfl (lv_at hl 0 rfl) ?_
    obtain ⟨q_35, hD⟩ := hD
    refine gf_5_0 X hw ho tb_237 q_35.1 d_X5_hasMove_35 ?_
    refine gf_1_4 X hw q_35.2 tb_165 d_X5_hasMove_38 ?_
    refine lv_iload_n X.1 X.2.1 d_X5_hasMove_41 rfl (lv_at hl 2 rfl) ?_
    obtain ⟨q_42, hD⟩ := hD
    refine g_aald15 X hw (ly_1_4 q_35.2).1 q_42 d_X5_hasMove_42 ?_
    refine lv_astore_n (lv' := [(3, .ref (G.2.1 ((((σ o 0).toNatClampNeg) + 8) + 2 + 2 * Int32.toNatClampNeg x2))), (0, .ref (G.2.1 o)), (1, .int x1), (2, .int x2)]) X.1 X.2.1 d_X5_hasMove_43 rfl hl (by decide) rfl (fun ls hl => ?_)
    refine lv_aload_n X.1 X.2.1 d_X5_hasMove_44 rfl (lv_at hl 0 rfl) ?_
    refine gf_7_0 X hw (le_15 (ly_1_4 q_35.2).1 q_42) tb_128 d_X5_hasMove_45 ?_
    refine lv_if_ne (tgt := 108) X.1 X.2.1 d_X5_hasMove_48 (by decide) (fun q_48 => ?_) (fun q_48 => ?_)
    · have hD := hD.1 q_48
      refine lv_iconst (v := 0) X.1 X.2.1 d_X5_hasMove_108 (by decide) ?_
      refine lv_istore (lv' := [(4, .int 0), (3, .ref (G.2.1 ((((σ o 0).toNatClampNeg) + 8) + 2 + 2 * Int32.toNatClampNeg x2))), (0, .ref (G.2.1 o)), (1, .int x1), (2, .int x2)]) X.1 X.2.1 d_X5_hasMove_109 hl (by decide) rfl (fun ls hl => ?_)
      obtain ⟨n9, hD⟩ := hD
      exact sl_X5_hasMove_111 X hr hlk K23 Q o ho hK23 n9 x1 x2 ((((σ o 0).toNatClampNeg) + 8) + 2 + 2 * Int32.toNatClampNeg x2) 0 σ _ _ _ (le_15 (ly_1_4 q_35.2).1 q_42) hw (lv_sub hl [2, 3, 4, 1, 0] rfl) hD
    · have hD := hD.2 q_48
      refine lv_aload_n X.1 X.2.1 d_X5_hasMove_51 rfl (lv_at hl 0 rfl) ?_
      refine gf_7_1 X hw (le_15 (ly_1_4 q_35.2).1 q_42) tb_130 d_X5_hasMove_52 ?_
      refine lv_if_eq (tgt := 69) X.1 X.2.1 d_X5_hasMove_55 (by decide) (fun q_55 => ?_) (fun q_55 => ?_)
      · have hD := hD.1 q_55
        exact s_X5_hasMove_69 X hr hlk K23 Q o ho hK23 x1 x2 σ hw (lv_sub hl [1, 2, 3] rfl) hD
      · have hD := hD.2 q_55
        refine lv_iload_n X.1 X.2.1 d_X5_hasMove_58 rfl (lv_at hl 2 rfl) ?_
        refine gcS_i (rest := []) (As := [.int x1]) X hw (c_J6_bitCount_0f7a4 l G x1 σ _  hD) tb_559 tb_560 tb_13 tb_561 hd_J6_bitCount_0f7a4 ⟨rfl, rfl⟩ ⟨Nat.le_of_ble_eq_true rfl, Nat.le_of_ble_eq_true rfl⟩ rfl hl.1 rfl (Nat.le_of_ble_eq_true rfl) d_X5_hasMove_59 (fun r_1 σ_2 H locs hD hw => ?_)
        refine lv_aload_n X.1 X.2.1 d_X5_hasMove_62 rfl (lv_at hl 0 rfl) ?_
        refine gf_7_1 X hw (le_15 (ly_1_4 q_35.2).1 q_42) tb_130 d_X5_hasMove_63 ?_
        refine lv_icmp_ge (tgt := 73) X.1 X.2.1 d_X5_hasMove_66 (by decide) (fun q_66 => ?_) (fun q_66 => ?_)
        · have hD := hD.1 q_66
          refine lv_iconst (v := 0) X.1 X.2.1 d_X5_hasMove_73 (by decide) ?_
          exact s_X5_hasMove_74 X hr hlk K23 Q o ho hK23 x1 x2 0 σ_2 hw (lv_sub hl [1, 2, 3] rfl) hD
        · have hD := hD.2 q_66
          exact s_X5_hasMove_69 X hr hlk K23 Q o ho hK23 x1 x2 σ_2 hw (lv_sub hl [1, 2, 3] rfl) hD
set_option maxRecDepth 20000 in
set_option maxHeartbeats 4000000 in
theorem sl_X5_hasMove_23 {p : Program} {l : Launch} {e : Env} {s : State} {m : MethodId} {args : Array Value} {below : List Frame} {meth : Method} {c : Code} {G : GC} (X : CallFix p m c cm_X5_hasMove 5 s args lw_us "GameLoom$Position") (hr : meth.sig.returnType = some .boolean) (hlk : meth.locks = false) (Q : Int32 → GSt → Prop) (o : Nat) (ho : kd o = 5) : ∀ (nn : Nat), ∀ (x1 : Int32) (x2 : Int32) (σ : GSt) (H : Heap) (locs : List Loc) (ls : Array Slot), Wo G s H locs σ → lv_has ls 5 [(0, .ref (G.2.1 o)), (1, .int x1), (2, .int x2)] → L_X5_hasMove_23 Q o nn x1 x2 σ → W p l e rm_X5_hasMove s m args below meth c H locs 0 0 (QMI G Q below args s) (F0 m 23 ls []) := by
  intro nn
  induction nn with
  | zero => intro x1 x2 σ H locs ls  hw hl hD; exact hD.elim
  | succ nn ih =>
    intro x1 x2 σ H locs ls  hw hl hD
    exact s_X5_hasMove_23 X hr hlk (L_X5_hasMove_23 Q o nn) Q o ho ih x1 x2 σ hw hl hD
set_option maxRecDepth 20000 in
set_option maxHeartbeats 4000000 in
theorem s_X5_hasMove_20 {p : Program} {l : Launch} {e : Env} {s : State} {m : MethodId} {args : Array Value} {below : List Frame} {meth : Method} {c : Code} {G : GC} (X : CallFix p m c cm_X5_hasMove 5 s args lw_us "GameLoom$Position") (hr : meth.sig.returnType = some .boolean) (hlk : meth.locks = false) (Q : Int32 → GSt → Prop) (o : Nat) (ho : kd o = 5) (s0 : Int32) (σ : GSt) {H : Heap} {locs : List Loc} {ls : Array Slot} (hw : Wo G s H locs σ) (hl : lv_has ls 5 [(0, .ref (G.2.1 o))]) (hD : D_X5_hasMove_20 Q o s0 σ) : W p l e rm_X5_hasMove s m args below meth c H locs 0 0 (QMI G Q below args s) (F0 m 20 ls [.int s0]) := by
  unfold D_X5_hasMove_20 at hD
  refine lv_istore_n (lv' := [(1, .int s0), (0, .ref (G.2.1 o))]) X.1 X.2.1 d_X5_hasMove_20 rfl hl (by decide) rfl (fun ls hl => ?_)
  refine lv_iconst (v := 0) X.1 X.2.1 d_X5_hasMove_21 (by decide) ?_
  refine lv_istore_n (lv' := [(2, .int 0), (1, .int s0), (0, .ref (G.2.1 o))]) X.1 X.2.1 d_X5_hasMove_22 rfl hl (by decide) rfl (fun ls hl => ?_)
  obtain ⟨n9, hD⟩ := hD
  exact sl_X5_hasMove_23 X hr hlk  Q o ho  n9 s0 0 σ _ _ _  hw (lv_sub hl [2, 1, 0] rfl) hD
set_option maxRecDepth 20000 in
set_option maxHeartbeats 4000000 in
theorem s_X5_hasMove_0 {p : Program} {l : Launch} {e : Env} {s : State} {m : MethodId} {args : Array Value} {below : List Frame} {meth : Method} {c : Code} {G : GC} (X : CallFix p m c cm_X5_hasMove 5 s args lw_us "GameLoom$Position") (hr : meth.sig.returnType = some .boolean) (hlk : meth.locks = false) (Q : Int32 → GSt → Prop) (o : Nat) (ho : kd o = 5) (σ : GSt) {H : Heap} {locs : List Loc} {ls : Array Slot} (hw : Wo G s H locs σ) (hl : lv_has ls 5 [(0, .ref (G.2.1 o))]) (hD : D_X5_hasMove_0 Q o σ) : W p l e rm_X5_hasMove s m args below meth c H locs 0 0 (QMI G Q below args s) (F0 m 0 ls []) := by
  unfold D_X5_hasMove_0 at hD
  refine lv_aload_n X.1 X.2.1 d_X5_hasMove_0 rfl (lv_at hl 0 rfl) ?_
  refine gf_5_3 X hw ho tb_250 d_X5_hasMove_1 ?_
  refine lv_iconst (v := 1) X.1 X.2.1 d_X5_hasMove_4 (by decide) ?_
  refine lv_iand X.1 X.2.1 d_X5_hasMove_5 ?_
  refine lv_if_ne (tgt := 16) X.1 X.2.1 d_X5_hasMove_6 (by decide) (fun q_6 => ?_) (fun q_6 => ?_)
  · have hD := hD.1 q_6
    refine lv_aload_n X.1 X.2.1 d_X5_hasMove_16 rfl (lv_at hl 0 rfl) ?_
    refine gf_5_2 X hw ho tb_245 d_X5_hasMove_17 ?_
    exact s_X5_hasMove_20 X hr hlk  Q o ho  (σ o 2) σ hw (lv_sub hl [0] rfl) hD
  · have hD := hD.2 q_6
    refine lv_aload_n X.1 X.2.1 d_X5_hasMove_9 rfl (lv_at hl 0 rfl) ?_
    refine gf_5_1 X hw ho tb_240 d_X5_hasMove_10 ?_
    refine lv_goto (tgt := 20) X.1 X.2.1 d_X5_hasMove_13 (by decide) ?_
    exact s_X5_hasMove_20 X hr hlk  Q o ho  (σ o 1) σ hw (lv_sub hl [0] rfl) hD
theorem c_X5_hasMove (l : Launch) (G : GC) (o : Nat) (σ : GSt) (Q : Int32 → GSt → Prop) (ho : kd o = 5) (hD : D_X5_hasMove o σ Q) : MI l ym_X5_hasMove cm_X5_hasMove 5 .boolean rm_X5_hasMove G σ [.ref (G.2.1 o)] Q := by
  refine met_i (by decide) (Nat.le_of_ble_eq_true rfl) ?_
  intro p e s m args below meth c X hr hlk hw ls hl
  exact s_X5_hasMove_0 X hr hlk Q o ho  σ hw (lv_sub hl [0] rfl) hD
theorem hd_X5_holds : ym_X5_holds.cls = "GameLoom$Position" ∧ ym_X5_holds.cls ≠ "java/lang/invoke/MethodHandle" ∧ ym_X5_holds.cls ≠ "java/lang/invoke/VarHandle" ∧ (parseMethodDescriptor ym_X5_holds.desc).map (fun d => d.parameters.length) = some 3 := by decide +kernel
abbrev rm_X5_holds : Room := { frames := 1, cells := 0, slots := 0, locals := 28 }
theorem d_X5_holds_0 : decode cm_X5_holds 0 = .ok (.iload_n 2, 1) := by decide +kernel
theorem d_X5_holds_1 : decode cm_X5_holds 1 = .ok (.ifCond .ne 10, 3) := by decide +kernel
theorem d_X5_holds_4 : decode cm_X5_holds 4 = .ok (.aload_n 0, 1) := by decide +kernel
theorem d_X5_holds_5 : decode cm_X5_holds 5 = .ok (.getfield 39, 3) := by decide +kernel
theorem d_X5_holds_8 : decode cm_X5_holds 8 = .ok (.goto 7, 3) := by decide +kernel
theorem d_X5_holds_11 : decode cm_X5_holds 11 = .ok (.aload_n 0, 1) := by decide +kernel
theorem d_X5_holds_12 : decode cm_X5_holds 12 = .ok (.getfield 42, 3) := by decide +kernel
theorem d_X5_holds_15 : decode cm_X5_holds 15 = .ok (.istore 4, 2) := by decide +kernel
theorem d_X5_holds_17 : decode cm_X5_holds 17 = .ok (.iload_n 2, 1) := by decide +kernel
theorem d_X5_holds_18 : decode cm_X5_holds 18 = .ok (.ifCond .ne 10, 3) := by decide +kernel
theorem d_X5_holds_21 : decode cm_X5_holds 21 = .ok (.aload_n 0, 1) := by decide +kernel
theorem d_X5_holds_22 : decode cm_X5_holds 22 = .ok (.getfield 42, 3) := by decide +kernel
theorem d_X5_holds_25 : decode cm_X5_holds 25 = .ok (.goto 7, 3) := by decide +kernel
theorem d_X5_holds_28 : decode cm_X5_holds 28 = .ok (.aload_n 0, 1) := by decide +kernel
theorem d_X5_holds_29 : decode cm_X5_holds 29 = .ok (.getfield 39, 3) := by decide +kernel
theorem d_X5_holds_32 : decode cm_X5_holds 32 = .ok (.istore 5, 2) := by decide +kernel
theorem d_X5_holds_34 : decode cm_X5_holds 34 = .ok (.aload_n 1, 1) := by decide +kernel
theorem d_X5_holds_35 : decode cm_X5_holds 35 = .ok (.getfield 71, 3) := by decide +kernel
theorem d_X5_holds_38 : decode cm_X5_holds 38 = .ok (.tableswitch 96 0 4 #[34, 51, 53, 64, 78], 34) := by decide +kernel
theorem d_X5_holds_72 : decode cm_X5_holds 72 = .ok (.aload_n 0, 1) := by decide +kernel
theorem d_X5_holds_73 : decode cm_X5_holds 73 = .ok (.getfield 9, 3) := by decide +kernel
theorem d_X5_holds_76 : decode cm_X5_holds 76 = .ok (.getfield 83, 3) := by decide +kernel
theorem d_X5_holds_79 : decode cm_X5_holds 79 = .ok (.iload 4, 2) := by decide +kernel
theorem d_X5_holds_81 : decode cm_X5_holds 81 = .ok (.aload_n 1, 1) := by decide +kernel
theorem d_X5_holds_82 : decode cm_X5_holds 82 = .ok (.getfield 74, 3) := by decide +kernel
theorem d_X5_holds_85 : decode cm_X5_holds 85 = .ok (.invokevirtual 132, 3) := by decide +kernel
theorem d_X5_holds_88 : decode cm_X5_holds 88 = .ok (.ireturn, 1) := by decide +kernel
theorem d_X5_holds_89 : decode cm_X5_holds 89 = .ok (.iload_n 3, 1) := by decide +kernel
theorem d_X5_holds_90 : decode cm_X5_holds 90 = .ok (.ireturn, 1) := by decide +kernel
theorem d_X5_holds_91 : decode cm_X5_holds 91 = .ok (.iload 5, 2) := by decide +kernel
theorem d_X5_holds_93 : decode cm_X5_holds 93 = .ok (.ifCond .ne 7, 3) := by decide +kernel
theorem d_X5_holds_96 : decode cm_X5_holds 96 = .ok (.iconst 1, 1) := by decide +kernel
theorem d_X5_holds_97 : decode cm_X5_holds 97 = .ok (.goto 4, 3) := by decide +kernel
theorem d_X5_holds_100 : decode cm_X5_holds 100 = .ok (.iconst 0, 1) := by decide +kernel
theorem d_X5_holds_101 : decode cm_X5_holds 101 = .ok (.ireturn, 1) := by decide +kernel
theorem d_X5_holds_102 : decode cm_X5_holds 102 = .ok (.aload_n 0, 1) := by decide +kernel
theorem d_X5_holds_103 : decode cm_X5_holds 103 = .ok (.getfield 9, 3) := by decide +kernel
theorem d_X5_holds_106 : decode cm_X5_holds 106 = .ok (.getfield 83, 3) := by decide +kernel
theorem d_X5_holds_109 : decode cm_X5_holds 109 = .ok (.iload 4, 2) := by decide +kernel
theorem d_X5_holds_111 : decode cm_X5_holds 111 = .ok (.iload_n 2, 1) := by decide +kernel
theorem d_X5_holds_112 : decode cm_X5_holds 112 = .ok (.invokevirtual 136, 3) := by decide +kernel
theorem d_X5_holds_115 : decode cm_X5_holds 115 = .ok (.ireturn, 1) := by decide +kernel
theorem d_X5_holds_116 : decode cm_X5_holds 116 = .ok (.iload 4, 2) := by decide +kernel
theorem d_X5_holds_118 : decode cm_X5_holds 118 = .ok (.invokestatic 77, 3) := by decide +kernel
theorem d_X5_holds_121 : decode cm_X5_holds 121 = .ok (.aload_n 1, 1) := by decide +kernel
theorem d_X5_holds_122 : decode cm_X5_holds 122 = .ok (.getfield 74, 3) := by decide +kernel
theorem d_X5_holds_125 : decode cm_X5_holds 125 = .ok (.if_icmp .lt 7, 3) := by decide +kernel
theorem d_X5_holds_128 : decode cm_X5_holds 128 = .ok (.iconst 1, 1) := by decide +kernel
theorem d_X5_holds_129 : decode cm_X5_holds 129 = .ok (.goto 4, 3) := by decide +kernel
theorem d_X5_holds_132 : decode cm_X5_holds 132 = .ok (.iconst 0, 1) := by decide +kernel
theorem d_X5_holds_133 : decode cm_X5_holds 133 = .ok (.ireturn, 1) := by decide +kernel
theorem d_X5_holds_134 : decode cm_X5_holds 134 = .ok (.aload_n 0, 1) := by decide +kernel
theorem d_X5_holds_135 : decode cm_X5_holds 135 = .ok (.getfield 15, 3) := by decide +kernel
theorem d_X5_holds_138 : decode cm_X5_holds 138 = .ok (.aload_n 1, 1) := by decide +kernel
theorem d_X5_holds_139 : decode cm_X5_holds 139 = .ok (.getfield 74, 3) := by decide +kernel
theorem d_X5_holds_142 : decode cm_X5_holds 142 = .ok (.if_icmp .lt 7, 3) := by decide +kernel
theorem d_X5_holds_145 : decode cm_X5_holds 145 = .ok (.iconst 1, 1) := by decide +kernel
theorem d_X5_holds_146 : decode cm_X5_holds 146 = .ok (.goto 4, 3) := by decide +kernel
theorem d_X5_holds_149 : decode cm_X5_holds 149 = .ok (.iconst 0, 1) := by decide +kernel
theorem d_X5_holds_150 : decode cm_X5_holds 150 = .ok (.ireturn, 1) := by decide +kernel
def D_X5_holds_32 (Q : Int32 → GSt → Prop) (o : Nat) (r1 : Nat) (x2 : Int32) (x3 : Int32) (x4 : Int32) (s0 : Int32) (σ : GSt) : Prop :=
  (((σ r1 0) < 0 ∨ 4 < (σ r1 0)) → ((σ o 3) < (σ r1 1) → Q 0 σ) ∧
  (¬ (σ o 3) < (σ r1 1) → Q 1 σ)) ∧
  ((σ r1 0) = 0 → (¬ σ o 0 < 0 ∧ kd (σ o 0).toNatClampNeg = 1) ∧ (D_X0_hasRow (((σ o 0).toNatClampNeg) + 3) x4 (σ r1 1) σ (fun r_1 σ_2 => (r_1 = 0 ∨ r_1 = 1) ∧ Q r_1 σ_2))) ∧
  ((σ r1 0) = 1 → (x3 = 0 ∨ x3 = 1) ∧ Q x3 σ) ∧
  ((σ r1 0) = 2 → (¬ s0 = 0 → Q 0 σ) ∧
  (s0 = 0 → Q 1 σ)) ∧
  ((σ r1 0) = 3 → (¬ σ o 0 < 0 ∧ kd (σ o 0).toNatClampNeg = 1) ∧ (D_X0_hasWay (((σ o 0).toNatClampNeg) + 3) x4 x2 σ (fun r_3 σ_4 => (r_3 = 0 ∨ r_3 = 1) ∧ Q r_3 σ_4))) ∧
  ((σ r1 0) = 4 → D_J6_bitCount_0f7a4 x4 σ (fun r_5 σ_6 => (r_5 < (σ_6 r1 1) → Q 0 σ_6) ∧
  (¬ r_5 < (σ_6 r1 1) → Q 1 σ_6)))
def D_X5_holds_15 (Q : Int32 → GSt → Prop) (o : Nat) (r1 : Nat) (x2 : Int32) (x3 : Int32) (s0 : Int32) (σ : GSt) : Prop :=
  (¬ x2 = 0 → D_X5_holds_32 Q o r1 x2 x3 s0 (σ o 1) σ) ∧
  (x2 = 0 → D_X5_holds_32 Q o r1 x2 x3 s0 (σ o 2) σ)
def D_X5_holds_0 (Q : Int32 → GSt → Prop) (o : Nat) (r1 : Nat) (x2 : Int32) (x3 : Int32) (σ : GSt) : Prop :=
  (¬ x2 = 0 → D_X5_holds_15 Q o r1 x2 x3 (σ o 2) σ) ∧
  (x2 = 0 → D_X5_holds_15 Q o r1 x2 x3 (σ o 1) σ)
def D_X5_holds (o : Nat) (r1 : Nat) (x2 : Int32) (x3 : Int32) (σ : GSt) (Q : Int32 → GSt → Prop) : Prop := D_X5_holds_0 Q o r1 x2 x3 σ
set_option maxRecDepth 20000 in
set_option maxHeartbeats 4000000 in
theorem s_X5_holds_32 {p : Program} {l : Launch} {e : Env} {s : State} {m : MethodId} {args : Array Value} {below : List Frame} {meth : Method} {c : Code} {G : GC} (X : CallFix p m c cm_X5_holds 6 s args lw_us "GameLoom$Position") (hr : meth.sig.returnType = some .boolean) (hlk : meth.locks = false) (Q : Int32 → GSt → Prop) (o : Nat) (ho : kd o = 5) (r1 : Nat) (hk1 : kd r1 = 7) (x2 : Int32) (x3 : Int32) (x4 : Int32) (s0 : Int32) (σ : GSt) {H : Heap} {locs : List Loc} {ls : Array Slot} (hw : Wo G s H locs σ) (hl : lv_has ls 6 [(0, .ref (G.2.1 o)), (1, .ref (G.2.1 r1)), (2, .int x2), (3, .int x3), (4, .int x4)]) (hD : D_X5_holds_32 Q o r1 x2 x3 x4 s0 σ) : W p l e rm_X5_holds s m args below meth c H locs 0 0 (QMI G Q below args s) (F0 m 32 ls [.int s0]) := by
  unfold D_X5_holds_32 at hD
  refine lv_istore (lv' := [(5, .int s0), (0, .ref (G.2.1 o)), (1, .ref (G.2.1 r1)), (2, .int x2), (3, .int x3), (4, .int x4)]) X.1 X.2.1 d_X5_holds_32 hl (by decide) rfl (fun ls hl => ?_)
  refine lv_aload_n X.1 X.2.1 d_X5_holds_34 rfl (lv_at hl 2 rfl) ?_
  refine gf_7_0 X hw hk1 tb_128 d_X5_holds_35 ?_
  by_cases q_38 : (σ r1 0) < 0 ∨ 4 < (σ r1 0)
  · have hD := hD.1 q_38
    refine lv_tableOut (tgt := 134) X.1 X.2.1 d_X5_holds_38 (sw_out (n := 4) (by decide) q_38) (by decide) ?_
    refine lv_aload_n X.1 X.2.1 d_X5_holds_134 rfl (lv_at hl 1 rfl) ?_
    refine gf_5_3 X hw ho tb_250 d_X5_holds_135 ?_
    refine lv_aload_n X.1 X.2.1 d_X5_holds_138 rfl (lv_at hl 2 rfl) ?_
    refine gf_7_1 X hw hk1 tb_130 d_X5_holds_139 ?_
    refine lv_icmp_lt (tgt := 149) X.1 X.2.1 d_X5_holds_142 (by decide) (fun q_142 => ?_) (fun q_142 => ?_)
    · have hD := hD.1 q_142
      refine lv_iconst (v := 0) X.1 X.2.1 d_X5_holds_149 (by decide) ?_
      exact g_zret X hr hlk hw (by decide) hD d_X5_holds_150
    · have hD := hD.2 q_142
      refine lv_iconst (v := 1) X.1 X.2.1 d_X5_holds_145 (by decide) ?_
      refine lv_goto (tgt := 150) X.1 X.2.1 d_X5_holds_146 (by decide) ?_
      exact g_zret X hr hlk hw (by decide) hD d_X5_holds_150
  · obtain ⟨j_38, hj, ej⟩ := sw_in (n := 4) (by decide) q_38
    have hD := hD.2
    rcases (show j_38 = 0 ∨ j_38 = 1 ∨ j_38 = 2 ∨ j_38 = 3 ∨ j_38 = 4 by omega) with rfl | rfl | rfl | rfl | rfl
    · have hD := hD.1 ej
      refine lv_tableIn (tgt := 72) X.1 X.2.1 d_X5_holds_38 (by rw [ej]; decide) (by rw [ej]; decide) (by rw [ej]; rfl) (by decide) ?_
      refine lv_aload_n X.1 X.2.1 d_X5_holds_72 rfl (lv_at hl 1 rfl) ?_
      obtain ⟨q_73, hD⟩ := hD
      refine gf_5_0 X hw ho tb_237 q_73.1 d_X5_holds_73 ?_
      refine gf_1_1 X hw q_73.2 tb_158 d_X5_holds_76 ?_
      refine lv_iload X.1 X.2.1 d_X5_holds_79 (lv_at hl 5 rfl) ?_
      refine lv_aload_n X.1 X.2.1 d_X5_holds_81 rfl (lv_at hl 2 rfl) ?_
      refine gf_7_1 X hw hk1 tb_130 d_X5_holds_82 ?_
      refine gcV_i (rest := []) (As := [.int x4, .int (σ r1 1)]) (o := (((σ o 0).toNatClampNeg) + 3)) X hw (c_X0_hasRow l G (((σ o 0).toNatClampNeg) + 3) x4 (σ r1 1) σ _ (ly_1_1 q_73.2) hD) (kd_lt (ly_1_1 q_73.2) (by decide)) (ce_0 G _ (ly_1_1 q_73.2)) rfl tb_623 tb_624 tb_625 tb_5 tb_626 hd_X0_hasRow ⟨rfl, rfl⟩ ⟨Nat.le_of_ble_eq_true rfl, Nat.le_of_ble_eq_true rfl⟩ rfl hl.1 rfl (Nat.le_of_ble_eq_true rfl) d_X5_holds_85 (fun r_1 σ_2 H locs hD hw => ?_)
      exact g_zret X hr hlk hw hD.1 hD.2 d_X5_holds_88
    · have hD := hD.2.1 ej
      refine lv_tableIn (tgt := 89) X.1 X.2.1 d_X5_holds_38 (by rw [ej]; decide) (by rw [ej]; decide) (by rw [ej]; rfl) (by decide) ?_
      refine lv_iload_n X.1 X.2.1 d_X5_holds_89 rfl (lv_at hl 4 rfl) ?_
      exact g_zret X hr hlk hw hD.1 hD.2 d_X5_holds_90
    · have hD := hD.2.2.1 ej
      refine lv_tableIn (tgt := 91) X.1 X.2.1 d_X5_holds_38 (by rw [ej]; decide) (by rw [ej]; decide) (by rw [ej]; rfl) (by decide) ?_
      refine lv_iload X.1 X.2.1 d_X5_holds_91 (lv_at hl 0 rfl) ?_
      refine lv_if_ne (tgt := 100) X.1 X.2.1 d_X5_holds_93 (by decide) (fun q_93 => ?_) (fun q_93 => ?_)
      · have hD := hD.1 q_93
        refine lv_iconst (v := 0) X.1 X.2.1 d_X5_holds_100 (by decide) ?_
        exact g_zret X hr hlk hw (by decide) hD d_X5_holds_101
      · have hD := hD.2 q_93
        refine lv_iconst (v := 1) X.1 X.2.1 d_X5_holds_96 (by decide) ?_
        refine lv_goto (tgt := 101) X.1 X.2.1 d_X5_holds_97 (by decide) ?_
        exact g_zret X hr hlk hw (by decide) hD d_X5_holds_101
    · have hD := hD.2.2.2.1 ej
      refine lv_tableIn (tgt := 102) X.1 X.2.1 d_X5_holds_38 (by rw [ej]; decide) (by rw [ej]; decide) (by rw [ej]; rfl) (by decide) ?_
      refine lv_aload_n X.1 X.2.1 d_X5_holds_102 rfl (lv_at hl 1 rfl) ?_
      obtain ⟨q_103, hD⟩ := hD
      refine gf_5_0 X hw ho tb_237 q_103.1 d_X5_holds_103 ?_
      refine gf_1_1 X hw q_103.2 tb_158 d_X5_holds_106 ?_
      refine lv_iload X.1 X.2.1 d_X5_holds_109 (lv_at hl 5 rfl) ?_
      refine lv_iload_n X.1 X.2.1 d_X5_holds_111 rfl (lv_at hl 3 rfl) ?_
      refine gcV_i (rest := []) (As := [.int x4, .int x2]) (o := (((σ o 0).toNatClampNeg) + 3)) X hw (c_X0_hasWay l G (((σ o 0).toNatClampNeg) + 3) x4 x2 σ _ (ly_1_1 q_103.2) hD) (kd_lt (ly_1_1 q_103.2) (by decide)) (ce_0 G _ (ly_1_1 q_103.2)) rfl tb_627 tb_628 tb_629 tb_5 tb_630 hd_X0_hasWay ⟨rfl, rfl⟩ ⟨Nat.le_of_ble_eq_true rfl, Nat.le_of_ble_eq_true rfl⟩ rfl hl.1 rfl (Nat.le_of_ble_eq_true rfl) d_X5_holds_112 (fun r_3 σ_4 H locs hD hw => ?_)
      exact g_zret X hr hlk hw hD.1 hD.2 d_X5_holds_115
    · have hD := hD.2.2.2.2 ej
      refine lv_tableIn (tgt := 116) X.1 X.2.1 d_X5_holds_38 (by rw [ej]; decide) (by rw [ej]; decide) (by rw [ej]; rfl) (by decide) ?_
      refine lv_iload X.1 X.2.1 d_X5_holds_116 (lv_at hl 5 rfl) ?_
      refine gcS_i (rest := []) (As := [.int x4]) X hw (c_J6_bitCount_0f7a4 l G x4 σ _  hD) tb_559 tb_560 tb_13 tb_561 hd_J6_bitCount_0f7a4 ⟨rfl, rfl⟩ ⟨Nat.le_of_ble_eq_true rfl, Nat.le_of_ble_eq_true rfl⟩ rfl hl.1 rfl (Nat.le_of_ble_eq_true rfl) d_X5_holds_118 (fun r_5 σ_6 H locs hD hw => ?_)
      refine lv_aload_n X.1 X.2.1 d_X5_holds_121 rfl (lv_at hl 2 rfl) ?_
      refine gf_7_1 X hw hk1 tb_130 d_X5_holds_122 ?_
      refine lv_icmp_lt (tgt := 132) X.1 X.2.1 d_X5_holds_125 (by decide) (fun q_125 => ?_) (fun q_125 => ?_)
      · have hD := hD.1 q_125
        refine lv_iconst (v := 0) X.1 X.2.1 d_X5_holds_132 (by decide) ?_
        exact g_zret X hr hlk hw (by decide) hD d_X5_holds_133
      · have hD := hD.2 q_125
        refine lv_iconst (v := 1) X.1 X.2.1 d_X5_holds_128 (by decide) ?_
        refine lv_goto (tgt := 133) X.1 X.2.1 d_X5_holds_129 (by decide) ?_
        exact g_zret X hr hlk hw (by decide) hD d_X5_holds_133
set_option maxRecDepth 20000 in
set_option maxHeartbeats 4000000 in
theorem s_X5_holds_15 {p : Program} {l : Launch} {e : Env} {s : State} {m : MethodId} {args : Array Value} {below : List Frame} {meth : Method} {c : Code} {G : GC} (X : CallFix p m c cm_X5_holds 6 s args lw_us "GameLoom$Position") (hr : meth.sig.returnType = some .boolean) (hlk : meth.locks = false) (Q : Int32 → GSt → Prop) (o : Nat) (ho : kd o = 5) (r1 : Nat) (hk1 : kd r1 = 7) (x2 : Int32) (x3 : Int32) (s0 : Int32) (σ : GSt) {H : Heap} {locs : List Loc} {ls : Array Slot} (hw : Wo G s H locs σ) (hl : lv_has ls 6 [(0, .ref (G.2.1 o)), (1, .ref (G.2.1 r1)), (2, .int x2), (3, .int x3)]) (hD : D_X5_holds_15 Q o r1 x2 x3 s0 σ) : W p l e rm_X5_holds s m args below meth c H locs 0 0 (QMI G Q below args s) (F0 m 15 ls [.int s0]) := by
  unfold D_X5_holds_15 at hD
  refine lv_istore (lv' := [(4, .int s0), (0, .ref (G.2.1 o)), (1, .ref (G.2.1 r1)), (2, .int x2), (3, .int x3)]) X.1 X.2.1 d_X5_holds_15 hl (by decide) rfl (fun ls hl => ?_)
  refine lv_iload_n X.1 X.2.1 d_X5_holds_17 rfl (lv_at hl 3 rfl) ?_
  refine lv_if_ne (tgt := 28) X.1 X.2.1 d_X5_holds_18 (by decide) (fun q_18 => ?_) (fun q_18 => ?_)
  · have hD := hD.1 q_18
    refine lv_aload_n X.1 X.2.1 d_X5_holds_28 rfl (lv_at hl 1 rfl) ?_
    refine gf_5_1 X hw ho tb_240 d_X5_holds_29 ?_
    exact s_X5_holds_32 X hr hlk  Q o ho  r1 hk1 x2 x3 s0 (σ o 1) σ hw (lv_sub hl [1, 2, 3, 4, 0] rfl) hD
  · have hD := hD.2 q_18
    refine lv_aload_n X.1 X.2.1 d_X5_holds_21 rfl (lv_at hl 1 rfl) ?_
    refine gf_5_2 X hw ho tb_245 d_X5_holds_22 ?_
    refine lv_goto (tgt := 32) X.1 X.2.1 d_X5_holds_25 (by decide) ?_
    exact s_X5_holds_32 X hr hlk  Q o ho  r1 hk1 x2 x3 s0 (σ o 2) σ hw (lv_sub hl [1, 2, 3, 4, 0] rfl) hD
set_option maxRecDepth 20000 in
set_option maxHeartbeats 4000000 in
theorem s_X5_holds_0 {p : Program} {l : Launch} {e : Env} {s : State} {m : MethodId} {args : Array Value} {below : List Frame} {meth : Method} {c : Code} {G : GC} (X : CallFix p m c cm_X5_holds 6 s args lw_us "GameLoom$Position") (hr : meth.sig.returnType = some .boolean) (hlk : meth.locks = false) (Q : Int32 → GSt → Prop) (o : Nat) (ho : kd o = 5) (r1 : Nat) (hk1 : kd r1 = 7) (x2 : Int32) (x3 : Int32) (σ : GSt) {H : Heap} {locs : List Loc} {ls : Array Slot} (hw : Wo G s H locs σ) (hl : lv_has ls 6 [(0, .ref (G.2.1 o)), (1, .ref (G.2.1 r1)), (2, .int x2), (3, .int x3)]) (hD : D_X5_holds_0 Q o r1 x2 x3 σ) : W p l e rm_X5_holds s m args below meth c H locs 0 0 (QMI G Q below args s) (F0 m 0 ls []) := by
  unfold D_X5_holds_0 at hD
  refine lv_iload_n X.1 X.2.1 d_X5_holds_0 rfl (lv_at hl 2 rfl) ?_
  refine lv_if_ne (tgt := 11) X.1 X.2.1 d_X5_holds_1 (by decide) (fun q_1 => ?_) (fun q_1 => ?_)
  · have hD := hD.1 q_1
    refine lv_aload_n X.1 X.2.1 d_X5_holds_11 rfl (lv_at hl 0 rfl) ?_
    refine gf_5_2 X hw ho tb_245 d_X5_holds_12 ?_
    exact s_X5_holds_15 X hr hlk  Q o ho  r1 hk1 x2 x3 (σ o 2) σ hw (lv_sub hl [0, 1, 2, 3] rfl) hD
  · have hD := hD.2 q_1
    refine lv_aload_n X.1 X.2.1 d_X5_holds_4 rfl (lv_at hl 0 rfl) ?_
    refine gf_5_1 X hw ho tb_240 d_X5_holds_5 ?_
    refine lv_goto (tgt := 15) X.1 X.2.1 d_X5_holds_8 (by decide) ?_
    exact s_X5_holds_15 X hr hlk  Q o ho  r1 hk1 x2 x3 (σ o 1) σ hw (lv_sub hl [0, 1, 2, 3] rfl) hD
theorem c_X5_holds (l : Launch) (G : GC) (o : Nat) (r1 : Nat) (x2 : Int32) (x3 : Int32) (σ : GSt) (Q : Int32 → GSt → Prop) (ho : kd o = 5) (hr1 : kd r1 = 7) (hD : D_X5_holds o r1 x2 x3 σ Q) : MI l ym_X5_holds cm_X5_holds 6 .boolean rm_X5_holds G σ [.ref (G.2.1 o), .ref (G.2.1 r1), .int x2, .int x3] Q := by
  refine met_i (by decide) (Nat.le_of_ble_eq_true rfl) ?_
  intro p e s m args below meth c X hr hlk hw ls hl
  exact s_X5_holds_0 X hr hlk Q o ho r1 hr1 x2 x3 σ hw (lv_sub hl [0, 1, 2, 3] rfl) hD
theorem hd_X5_side : ym_X5_side.cls = "GameLoom$Position" ∧ ym_X5_side.cls ≠ "java/lang/invoke/MethodHandle" ∧ ym_X5_side.cls ≠ "java/lang/invoke/VarHandle" ∧ (parseMethodDescriptor ym_X5_side.desc).map (fun d => d.parameters.length) = some 0 := by decide +kernel
abbrev rm_X5_side : Room := { frames := 0, cells := 0, slots := 0, locals := 0 }
theorem d_X5_side_0 : decode cm_X5_side 0 = .ok (.aload_n 0, 1) := by decide +kernel
theorem d_X5_side_1 : decode cm_X5_side 1 = .ok (.getfield 15, 3) := by decide +kernel
theorem d_X5_side_4 : decode cm_X5_side 4 = .ok (.iconst 1, 1) := by decide +kernel
theorem d_X5_side_5 : decode cm_X5_side 5 = .ok (.iand, 1) := by decide +kernel
theorem d_X5_side_6 : decode cm_X5_side 6 = .ok (.ireturn, 1) := by decide +kernel
def D_X5_side_0 (Q : Int32 → GSt → Prop) (o : Nat) (σ : GSt) : Prop :=
  Q ((σ o 3) &&& 1) σ
def D_X5_side (o : Nat) (σ : GSt) (Q : Int32 → GSt → Prop) : Prop := D_X5_side_0 Q o σ
set_option maxRecDepth 20000 in
set_option maxHeartbeats 4000000 in
theorem s_X5_side_0 {p : Program} {l : Launch} {e : Env} {s : State} {m : MethodId} {args : Array Value} {below : List Frame} {meth : Method} {c : Code} {G : GC} (X : CallFix p m c cm_X5_side 1 s args lw_us "GameLoom$Position") (hr : meth.sig.returnType = some .int) (hlk : meth.locks = false) (Q : Int32 → GSt → Prop) (o : Nat) (ho : kd o = 5) (σ : GSt) {H : Heap} {locs : List Loc} {ls : Array Slot} (hw : Wo G s H locs σ) (hl : lv_has ls 1 [(0, .ref (G.2.1 o))]) (hD : D_X5_side_0 Q o σ) : W p l e rm_X5_side s m args below meth c H locs 0 0 (QMI G Q below args s) (F0 m 0 ls []) := by
  unfold D_X5_side_0 at hD
  refine lv_aload_n X.1 X.2.1 d_X5_side_0 rfl (lv_at hl 0 rfl) ?_
  refine gf_5_3 X hw ho tb_250 d_X5_side_1 ?_
  refine lv_iconst (v := 1) X.1 X.2.1 d_X5_side_4 (by decide) ?_
  refine lv_iand X.1 X.2.1 d_X5_side_5 ?_
  exact g_iret X hr hlk hw hD d_X5_side_6
theorem c_X5_side (l : Launch) (G : GC) (o : Nat) (σ : GSt) (Q : Int32 → GSt → Prop) (ho : kd o = 5) (hD : D_X5_side o σ Q) : MI l ym_X5_side cm_X5_side 1 .int rm_X5_side G σ [.ref (G.2.1 o)] Q := by
  refine met_i (by decide) (Nat.le_of_ble_eq_true rfl) ?_
  intro p e s m args below meth c X hr hlk hw ls hl
  exact s_X5_side_0 X hr hlk Q o ho  σ hw (lv_sub hl [0] rfl) hD
theorem hd_X5_shift : ym_X5_shift.cls = "GameLoom$Position" ∧ ym_X5_shift.cls ≠ "java/lang/invoke/MethodHandle" ∧ ym_X5_shift.cls ≠ "java/lang/invoke/VarHandle" ∧ (parseMethodDescriptor ym_X5_shift.desc).map (fun d => d.parameters.length) = some 1 := by decide +kernel
abbrev rm_X5_shift : Room := { frames := 1, cells := 0, slots := 0, locals := 24 }
theorem d_X5_shift_0 : decode cm_X5_shift 0 = .ok (.iload_n 1, 1) := by decide +kernel
theorem d_X5_shift_1 : decode cm_X5_shift 1 = .ok (.bipush 8, 2) := by decide +kernel
theorem d_X5_shift_3 : decode cm_X5_shift 3 = .ok (.iushr, 1) := by decide +kernel
theorem d_X5_shift_4 : decode cm_X5_shift 4 = .ok (.sipush 255, 3) := by decide +kernel
theorem d_X5_shift_7 : decode cm_X5_shift 7 = .ok (.iand, 1) := by decide +kernel
theorem d_X5_shift_8 : decode cm_X5_shift 8 = .ok (.istore_n 2, 1) := by decide +kernel
theorem d_X5_shift_9 : decode cm_X5_shift 9 = .ok (.iload_n 1, 1) := by decide +kernel
theorem d_X5_shift_10 : decode cm_X5_shift 10 = .ok (.sipush 255, 3) := by decide +kernel
theorem d_X5_shift_13 : decode cm_X5_shift 13 = .ok (.iand, 1) := by decide +kernel
theorem d_X5_shift_14 : decode cm_X5_shift 14 = .ok (.istore_n 3, 1) := by decide +kernel
theorem d_X5_shift_15 : decode cm_X5_shift 15 = .ok (.aload_n 0, 1) := by decide +kernel
theorem d_X5_shift_16 : decode cm_X5_shift 16 = .ok (.getfield 9, 3) := by decide +kernel
theorem d_X5_shift_19 : decode cm_X5_shift 19 = .ok (.getfield 57, 3) := by decide +kernel
theorem d_X5_shift_22 : decode cm_X5_shift 22 = .ok (.iload_n 1, 1) := by decide +kernel
theorem d_X5_shift_23 : decode cm_X5_shift 23 = .ok (.bipush 16, 2) := by decide +kernel
theorem d_X5_shift_25 : decode cm_X5_shift 25 = .ok (.iushr, 1) := by decide +kernel
theorem d_X5_shift_26 : decode cm_X5_shift 26 = .ok (.aaload, 1) := by decide +kernel
theorem d_X5_shift_27 : decode cm_X5_shift 27 = .ok (.getfield 71, 3) := by decide +kernel
theorem d_X5_shift_30 : decode cm_X5_shift 30 = .ok (.istore 4, 2) := by decide +kernel
theorem d_X5_shift_32 : decode cm_X5_shift 32 = .ok (.aload_n 0, 1) := by decide +kernel
theorem d_X5_shift_33 : decode cm_X5_shift 33 = .ok (.invokevirtual 107, 3) := by decide +kernel
theorem d_X5_shift_36 : decode cm_X5_shift 36 = .ok (.ifCond .ne 7, 3) := by decide +kernel
theorem d_X5_shift_39 : decode cm_X5_shift 39 = .ok (.iconst 1, 1) := by decide +kernel
theorem d_X5_shift_40 : decode cm_X5_shift 40 = .ok (.goto 4, 3) := by decide +kernel
theorem d_X5_shift_43 : decode cm_X5_shift 43 = .ok (.iconst 0, 1) := by decide +kernel
theorem d_X5_shift_44 : decode cm_X5_shift 44 = .ok (.istore 5, 2) := by decide +kernel
theorem d_X5_shift_46 : decode cm_X5_shift 46 = .ok (.iload 5, 2) := by decide +kernel
theorem d_X5_shift_48 : decode cm_X5_shift 48 = .ok (.ifCond .eq 10, 3) := by decide +kernel
theorem d_X5_shift_51 : decode cm_X5_shift 51 = .ok (.aload_n 0, 1) := by decide +kernel
theorem d_X5_shift_52 : decode cm_X5_shift 52 = .ok (.getfield 39, 3) := by decide +kernel
theorem d_X5_shift_55 : decode cm_X5_shift 55 = .ok (.goto 7, 3) := by decide +kernel
theorem d_X5_shift_58 : decode cm_X5_shift 58 = .ok (.aload_n 0, 1) := by decide +kernel
theorem d_X5_shift_59 : decode cm_X5_shift 59 = .ok (.getfield 42, 3) := by decide +kernel
theorem d_X5_shift_62 : decode cm_X5_shift 62 = .ok (.istore 6, 2) := by decide +kernel
theorem d_X5_shift_64 : decode cm_X5_shift 64 = .ok (.iload 5, 2) := by decide +kernel
theorem d_X5_shift_66 : decode cm_X5_shift 66 = .ok (.ifCond .eq 10, 3) := by decide +kernel
theorem d_X5_shift_69 : decode cm_X5_shift 69 = .ok (.aload_n 0, 1) := by decide +kernel
theorem d_X5_shift_70 : decode cm_X5_shift 70 = .ok (.getfield 42, 3) := by decide +kernel
theorem d_X5_shift_73 : decode cm_X5_shift 73 = .ok (.goto 7, 3) := by decide +kernel
theorem d_X5_shift_76 : decode cm_X5_shift 76 = .ok (.aload_n 0, 1) := by decide +kernel
theorem d_X5_shift_77 : decode cm_X5_shift 77 = .ok (.getfield 39, 3) := by decide +kernel
theorem d_X5_shift_80 : decode cm_X5_shift 80 = .ok (.istore 7, 2) := by decide +kernel
theorem d_X5_shift_82 : decode cm_X5_shift 82 = .ok (.iload 6, 2) := by decide +kernel
theorem d_X5_shift_84 : decode cm_X5_shift 84 = .ok (.iconst 1, 1) := by decide +kernel
theorem d_X5_shift_85 : decode cm_X5_shift 85 = .ok (.iload_n 3, 1) := by decide +kernel
theorem d_X5_shift_86 : decode cm_X5_shift 86 = .ok (.ishl, 1) := by decide +kernel
theorem d_X5_shift_87 : decode cm_X5_shift 87 = .ok (.ior, 1) := by decide +kernel
theorem d_X5_shift_88 : decode cm_X5_shift 88 = .ok (.istore 6, 2) := by decide +kernel
theorem d_X5_shift_90 : decode cm_X5_shift 90 = .ok (.iload 4, 2) := by decide +kernel
theorem d_X5_shift_92 : decode cm_X5_shift 92 = .ok (.ifCond .eq 13, 3) := by decide +kernel
theorem d_X5_shift_95 : decode cm_X5_shift 95 = .ok (.iload 6, 2) := by decide +kernel
theorem d_X5_shift_97 : decode cm_X5_shift 97 = .ok (.iconst 1, 1) := by decide +kernel
theorem d_X5_shift_98 : decode cm_X5_shift 98 = .ok (.iload_n 2, 1) := by decide +kernel
theorem d_X5_shift_99 : decode cm_X5_shift 99 = .ok (.ishl, 1) := by decide +kernel
theorem d_X5_shift_100 : decode cm_X5_shift 100 = .ok (.iconst (-1), 1) := by decide +kernel
theorem d_X5_shift_101 : decode cm_X5_shift 101 = .ok (.ixor, 1) := by decide +kernel
theorem d_X5_shift_102 : decode cm_X5_shift 102 = .ok (.iand, 1) := by decide +kernel
theorem d_X5_shift_103 : decode cm_X5_shift 103 = .ok (.istore 6, 2) := by decide +kernel
theorem d_X5_shift_105 : decode cm_X5_shift 105 = .ok (.iload 4, 2) := by decide +kernel
theorem d_X5_shift_107 : decode cm_X5_shift 107 = .ok (.iconst 2, 1) := by decide +kernel
theorem d_X5_shift_108 : decode cm_X5_shift 108 = .ok (.if_icmp .ne 20, 3) := by decide +kernel
theorem d_X5_shift_111 : decode cm_X5_shift 111 = .ok (.iload 7, 2) := by decide +kernel
theorem d_X5_shift_113 : decode cm_X5_shift 113 = .ok (.iconst 1, 1) := by decide +kernel
theorem d_X5_shift_114 : decode cm_X5_shift 114 = .ok (.iload_n 2, 1) := by decide +kernel
theorem d_X5_shift_115 : decode cm_X5_shift 115 = .ok (.iload_n 3, 1) := by decide +kernel
theorem d_X5_shift_116 : decode cm_X5_shift 116 = .ok (.iadd, 1) := by decide +kernel
theorem d_X5_shift_117 : decode cm_X5_shift 117 = .ok (.iconst 2, 1) := by decide +kernel
theorem d_X5_shift_118 : decode cm_X5_shift 118 = .ok (.idiv, 1) := by decide +kernel
theorem d_X5_shift_119 : decode cm_X5_shift 119 = .ok (.ishl, 1) := by decide +kernel
theorem d_X5_shift_120 : decode cm_X5_shift 120 = .ok (.iconst (-1), 1) := by decide +kernel
theorem d_X5_shift_121 : decode cm_X5_shift 121 = .ok (.ixor, 1) := by decide +kernel
theorem d_X5_shift_122 : decode cm_X5_shift 122 = .ok (.iand, 1) := by decide +kernel
theorem d_X5_shift_123 : decode cm_X5_shift 123 = .ok (.istore 7, 2) := by decide +kernel
theorem d_X5_shift_125 : decode cm_X5_shift 125 = .ok (.goto 25, 3) := by decide +kernel
theorem d_X5_shift_128 : decode cm_X5_shift 128 = .ok (.iload 4, 2) := by decide +kernel
theorem d_X5_shift_130 : decode cm_X5_shift 130 = .ok (.iconst 3, 1) := by decide +kernel
theorem d_X5_shift_131 : decode cm_X5_shift 131 = .ok (.if_icmp .eq 9, 3) := by decide +kernel
theorem d_X5_shift_134 : decode cm_X5_shift 134 = .ok (.iload 4, 2) := by decide +kernel
theorem d_X5_shift_136 : decode cm_X5_shift 136 = .ok (.iconst 4, 1) := by decide +kernel
theorem d_X5_shift_137 : decode cm_X5_shift 137 = .ok (.if_icmp .ne 13, 3) := by decide +kernel
theorem d_X5_shift_140 : decode cm_X5_shift 140 = .ok (.iload 7, 2) := by decide +kernel
theorem d_X5_shift_142 : decode cm_X5_shift 142 = .ok (.iconst 1, 1) := by decide +kernel
theorem d_X5_shift_143 : decode cm_X5_shift 143 = .ok (.iload_n 3, 1) := by decide +kernel
theorem d_X5_shift_144 : decode cm_X5_shift 144 = .ok (.ishl, 1) := by decide +kernel
theorem d_X5_shift_145 : decode cm_X5_shift 145 = .ok (.iconst (-1), 1) := by decide +kernel
theorem d_X5_shift_146 : decode cm_X5_shift 146 = .ok (.ixor, 1) := by decide +kernel
theorem d_X5_shift_147 : decode cm_X5_shift 147 = .ok (.iand, 1) := by decide +kernel
theorem d_X5_shift_148 : decode cm_X5_shift 148 = .ok (.istore 7, 2) := by decide +kernel
theorem d_X5_shift_150 : decode cm_X5_shift 150 = .ok (.iload 4, 2) := by decide +kernel
theorem d_X5_shift_152 : decode cm_X5_shift 152 = .ok (.iconst 4, 1) := by decide +kernel
theorem d_X5_shift_153 : decode cm_X5_shift 153 = .ok (.if_icmp .ne 20, 3) := by decide +kernel
theorem d_X5_shift_156 : decode cm_X5_shift 156 = .ok (.iload 7, 2) := by decide +kernel
theorem d_X5_shift_158 : decode cm_X5_shift 158 = .ok (.aload_n 0, 1) := by decide +kernel
theorem d_X5_shift_159 : decode cm_X5_shift 159 = .ok (.getfield 9, 3) := by decide +kernel
theorem d_X5_shift_162 : decode cm_X5_shift 162 = .ok (.getfield 83, 3) := by decide +kernel
theorem d_X5_shift_165 : decode cm_X5_shift 165 = .ok (.iload_n 2, 1) := by decide +kernel
theorem d_X5_shift_166 : decode cm_X5_shift 166 = .ok (.iload_n 3, 1) := by decide +kernel
theorem d_X5_shift_167 : decode cm_X5_shift 167 = .ok (.invokevirtual 128, 3) := by decide +kernel
theorem d_X5_shift_170 : decode cm_X5_shift 170 = .ok (.ior, 1) := by decide +kernel
theorem d_X5_shift_171 : decode cm_X5_shift 171 = .ok (.istore 7, 2) := by decide +kernel
theorem d_X5_shift_173 : decode cm_X5_shift 173 = .ok (.aload_n 0, 1) := by decide +kernel
theorem d_X5_shift_174 : decode cm_X5_shift 174 = .ok (.iload 5, 2) := by decide +kernel
theorem d_X5_shift_176 : decode cm_X5_shift 176 = .ok (.ifCond .eq 8, 3) := by decide +kernel
theorem d_X5_shift_179 : decode cm_X5_shift 179 = .ok (.iload 6, 2) := by decide +kernel
theorem d_X5_shift_181 : decode cm_X5_shift 181 = .ok (.goto 5, 3) := by decide +kernel
theorem d_X5_shift_184 : decode cm_X5_shift 184 = .ok (.iload 7, 2) := by decide +kernel
theorem d_X5_shift_186 : decode cm_X5_shift 186 = .ok (.putfield 39, 3) := by decide +kernel
theorem d_X5_shift_189 : decode cm_X5_shift 189 = .ok (.aload_n 0, 1) := by decide +kernel
theorem d_X5_shift_190 : decode cm_X5_shift 190 = .ok (.iload 5, 2) := by decide +kernel
theorem d_X5_shift_192 : decode cm_X5_shift 192 = .ok (.ifCond .eq 8, 3) := by decide +kernel
theorem d_X5_shift_195 : decode cm_X5_shift 195 = .ok (.iload 7, 2) := by decide +kernel
theorem d_X5_shift_197 : decode cm_X5_shift 197 = .ok (.goto 5, 3) := by decide +kernel
theorem d_X5_shift_200 : decode cm_X5_shift 200 = .ok (.iload 6, 2) := by decide +kernel
theorem d_X5_shift_202 : decode cm_X5_shift 202 = .ok (.putfield 42, 3) := by decide +kernel
theorem d_X5_shift_205 : decode cm_X5_shift 205 = .ok (.return_, 1) := by decide +kernel
def D_X5_shift_202 (Q : GSt → Prop) (o : Nat) (sr0 : Nat) (s1 : Int32) (σ : GSt) : Prop :=
  ∀ σ_1 : GSt, σ_1 = up2 σ sr0 2 s1 → (Q σ_1)
def D_X5_shift_186 (Q : GSt → Prop) (o : Nat) (x5 : Int32) (x6 : Int32) (x7 : Int32) (sr0 : Nat) (s1 : Int32) (σ : GSt) : Prop :=
  ∀ σ_1 : GSt, σ_1 = up2 σ sr0 1 s1 → ((x5 = 0 → D_X5_shift_202 Q o o x6 σ_1) ∧
  (¬ x5 = 0 → D_X5_shift_202 Q o o x7 σ_1))
def D_X5_shift_173 (Q : GSt → Prop) (o : Nat) (x5 : Int32) (x6 : Int32) (x7 : Int32) (σ : GSt) : Prop :=
  (x5 = 0 → D_X5_shift_186 Q o x5 x6 x7 o x7 σ) ∧
  (¬ x5 = 0 → D_X5_shift_186 Q o x5 x6 x7 o x6 σ)
def D_X5_shift_150 (Q : GSt → Prop) (o : Nat) (x2 : Int32) (x3 : Int32) (x4 : Int32) (x5 : Int32) (x6 : Int32) (x7 : Int32) (σ : GSt) : Prop :=
  (¬ x4 = 4 → D_X5_shift_173 Q o x5 x6 x7 σ) ∧
  (x4 = 4 → (¬ σ o 0 < 0 ∧ kd (σ o 0).toNatClampNeg = 1) ∧ (D_X0_bitBehind (((σ o 0).toNatClampNeg) + 3) x2 x3 σ (fun r_1 σ_2 => ∀ x7_3 : Int32, x7_3 = (x7 ||| r_1) → (D_X5_shift_173 Q o x5 x6 x7_3 σ_2))))
def D_X5_shift_140 (Q : GSt → Prop) (o : Nat) (x2 : Int32) (x3 : Int32) (x4 : Int32) (x5 : Int32) (x6 : Int32) (x7 : Int32) (σ : GSt) : Prop :=
  ∀ x7_1 : Int32, x7_1 = (x7 &&& ((jshl 1 x3) ^^^ (-1))) → (D_X5_shift_150 Q o x2 x3 x4 x5 x6 x7_1 σ)
def D_X5_shift_105 (Q : GSt → Prop) (o : Nat) (x2 : Int32) (x3 : Int32) (x4 : Int32) (x5 : Int32) (x6 : Int32) (x7 : Int32) (σ : GSt) : Prop :=
  (¬ x4 = 2 → (x4 = 3 → D_X5_shift_140 Q o x2 x3 x4 x5 x6 x7 σ) ∧
  (¬ x4 = 3 → (¬ x4 = 4 → D_X5_shift_150 Q o x2 x3 x4 x5 x6 x7 σ) ∧
  (x4 = 4 → D_X5_shift_140 Q o x2 x3 x4 x5 x6 x7 σ))) ∧
  (x4 = 2 → ∀ x7_1 : Int32, x7_1 = (x7 &&& ((jshl 1 ((x2 + x3) / 2)) ^^^ (-1))) → (D_X5_shift_150 Q o x2 x3 x4 x5 x6 x7_1 σ))
def D_X5_shift_80 (Q : GSt → Prop) (o : Nat) (x2 : Int32) (x3 : Int32) (x4 : Int32) (x5 : Int32) (x6 : Int32) (s0 : Int32) (σ : GSt) : Prop :=
  ∀ x6_1 : Int32, x6_1 = (x6 ||| (jshl 1 x3)) → ((x4 = 0 → D_X5_shift_105 Q o x2 x3 x4 x5 x6_1 s0 σ) ∧
  (¬ x4 = 0 → ∀ x6_2 : Int32, x6_2 = (x6_1 &&& ((jshl 1 x2) ^^^ (-1))) → (D_X5_shift_105 Q o x2 x3 x4 x5 x6_2 s0 σ)))
def D_X5_shift_62 (Q : GSt → Prop) (o : Nat) (x2 : Int32) (x3 : Int32) (x4 : Int32) (x5 : Int32) (s0 : Int32) (σ : GSt) : Prop :=
  (x5 = 0 → D_X5_shift_80 Q o x2 x3 x4 x5 s0 (σ o 1) σ) ∧
  (¬ x5 = 0 → D_X5_shift_80 Q o x2 x3 x4 x5 s0 (σ o 2) σ)
def D_X5_shift_44 (Q : GSt → Prop) (o : Nat) (x2 : Int32) (x3 : Int32) (x4 : Int32) (s0 : Int32) (σ : GSt) : Prop :=
  (s0 = 0 → D_X5_shift_62 Q o x2 x3 x4 s0 (σ o 2) σ) ∧
  (¬ s0 = 0 → D_X5_shift_62 Q o x2 x3 x4 s0 (σ o 1) σ)
def D_X5_shift_0 (Q : GSt → Prop) (o : Nat) (x1 : Int32) (σ : GSt) : Prop :=
  ∀ x2_1 : Int32, x2_1 = ((jushr x1 8) &&& 255) → (∀ x3_2 : Int32, x3_2 = (x1 &&& 255) → ((¬ σ o 0 < 0 ∧ kd (σ o 0).toNatClampNeg = 1) ∧ (vp_in (jushr x1 16) 6 ∧ (∀ x4_3 : Int32, x4_3 = (σ ((((σ o 0).toNatClampNeg) + 8) + 2 + 2 * Int32.toNatClampNeg (jushr x1 16)) 0) → (D_X5_side o σ (fun r_4 σ_5 => (¬ r_4 = 0 → D_X5_shift_44 Q o x2_1 x3_2 x4_3 0 σ_5) ∧
  (r_4 = 0 → D_X5_shift_44 Q o x2_1 x3_2 x4_3 1 σ_5)))))))
def D_X5_shift (o : Nat) (x1 : Int32) (σ : GSt) (Q : GSt → Prop) : Prop := D_X5_shift_0 Q o x1 σ
set_option maxRecDepth 20000 in
set_option maxHeartbeats 4000000 in
theorem s_X5_shift_202 {p : Program} {l : Launch} {e : Env} {s : State} {m : MethodId} {args : Array Value} {below : List Frame} {meth : Method} {c : Code} {G : GC} (X : CallFix p m c cm_X5_shift 8 s args lw_us "GameLoom$Position") (hr : meth.sig.returnType = none) (hlk : meth.locks = false) (Q : GSt → Prop) (o : Nat) (ho : kd o = 5) (sr0 : Nat) (hs0 : kd sr0 = 5) (s1 : Int32) (σ : GSt) {H : Heap} {locs : List Loc} {ls : Array Slot} (hw : Wo G s H locs σ) (hl : lv_has ls 8 [(0, .ref (G.2.1 o))]) (hD : D_X5_shift_202 Q o sr0 s1 σ) : W p l e rm_X5_shift s m args below meth c H locs 0 0 (QMV G Q below args s) (F0 m 202 ls [.int s1, .ref (G.2.1 sr0)]) := by
  unfold D_X5_shift_202 at hD
  refine pf_5_2 X hw hs0 tb_245 d_X5_shift_202 (fun H locs hw => ?_)
  obtain ⟨σ_1, e_σ_1⟩ : ∃ z : GSt, z = up2 σ sr0 2 s1 := ⟨_, rfl⟩
  rw [← e_σ_1] at hw
  have hD := hD σ_1 e_σ_1
  exact g_vret X hr hlk hw hD d_X5_shift_205
set_option maxRecDepth 20000 in
set_option maxHeartbeats 4000000 in
theorem s_X5_shift_186 {p : Program} {l : Launch} {e : Env} {s : State} {m : MethodId} {args : Array Value} {below : List Frame} {meth : Method} {c : Code} {G : GC} (X : CallFix p m c cm_X5_shift 8 s args lw_us "GameLoom$Position") (hr : meth.sig.returnType = none) (hlk : meth.locks = false) (Q : GSt → Prop) (o : Nat) (ho : kd o = 5) (x5 : Int32) (x6 : Int32) (x7 : Int32) (sr0 : Nat) (hs0 : kd sr0 = 5) (s1 : Int32) (σ : GSt) {H : Heap} {locs : List Loc} {ls : Array Slot} (hw : Wo G s H locs σ) (hl : lv_has ls 8 [(0, .ref (G.2.1 o)), (5, .int x5), (6, .int x6), (7, .int x7)]) (hD : D_X5_shift_186 Q o x5 x6 x7 sr0 s1 σ) : W p l e rm_X5_shift s m args below meth c H locs 0 0 (QMV G Q below args s) (F0 m 186 ls [.int s1, .ref (G.2.1 sr0)]) := by
  unfold D_X5_shift_186 at hD
  refine pf_5_1 X hw hs0 tb_240 d_X5_shift_186 (fun H locs hw => ?_)
  obtain ⟨σ_1, e_σ_1⟩ : ∃ z : GSt, z = up2 σ sr0 1 s1 := ⟨_, rfl⟩
  rw [← e_σ_1] at hw
  have hD := hD σ_1 e_σ_1
  refine lv_aload_n X.1 X.2.1 d_X5_shift_189 rfl (lv_at hl 0 rfl) ?_
  refine lv_iload X.1 X.2.1 d_X5_shift_190 (lv_at hl 1 rfl) ?_
  refine lv_if_eq (tgt := 200) X.1 X.2.1 d_X5_shift_192 (by decide) (fun q_192 => ?_) (fun q_192 => ?_)
  · have hD := hD.1 q_192
    refine lv_iload X.1 X.2.1 d_X5_shift_200 (lv_at hl 2 rfl) ?_
    exact s_X5_shift_202 X hr hlk  Q o ho  o ho x6 σ_1 hw (lv_sub hl [0] rfl) hD
  · have hD := hD.2 q_192
    refine lv_iload X.1 X.2.1 d_X5_shift_195 (lv_at hl 3 rfl) ?_
    refine lv_goto (tgt := 202) X.1 X.2.1 d_X5_shift_197 (by decide) ?_
    exact s_X5_shift_202 X hr hlk  Q o ho  o ho x7 σ_1 hw (lv_sub hl [0] rfl) hD
set_option maxRecDepth 20000 in
set_option maxHeartbeats 4000000 in
theorem s_X5_shift_173 {p : Program} {l : Launch} {e : Env} {s : State} {m : MethodId} {args : Array Value} {below : List Frame} {meth : Method} {c : Code} {G : GC} (X : CallFix p m c cm_X5_shift 8 s args lw_us "GameLoom$Position") (hr : meth.sig.returnType = none) (hlk : meth.locks = false) (Q : GSt → Prop) (o : Nat) (ho : kd o = 5) (x5 : Int32) (x6 : Int32) (x7 : Int32) (σ : GSt) {H : Heap} {locs : List Loc} {ls : Array Slot} (hw : Wo G s H locs σ) (hl : lv_has ls 8 [(0, .ref (G.2.1 o)), (5, .int x5), (6, .int x6), (7, .int x7)]) (hD : D_X5_shift_173 Q o x5 x6 x7 σ) : W p l e rm_X5_shift s m args below meth c H locs 0 0 (QMV G Q below args s) (F0 m 173 ls []) := by
  unfold D_X5_shift_173 at hD
  refine lv_aload_n X.1 X.2.1 d_X5_shift_173 rfl (lv_at hl 0 rfl) ?_
  refine lv_iload X.1 X.2.1 d_X5_shift_174 (lv_at hl 1 rfl) ?_
  refine lv_if_eq (tgt := 184) X.1 X.2.1 d_X5_shift_176 (by decide) (fun q_176 => ?_) (fun q_176 => ?_)
  · have hD := hD.1 q_176
    refine lv_iload X.1 X.2.1 d_X5_shift_184 (lv_at hl 3 rfl) ?_
    exact s_X5_shift_186 X hr hlk  Q o ho  x5 x6 x7 o ho x7 σ hw (lv_sub hl [0, 1, 2, 3] rfl) hD
  · have hD := hD.2 q_176
    refine lv_iload X.1 X.2.1 d_X5_shift_179 (lv_at hl 2 rfl) ?_
    refine lv_goto (tgt := 186) X.1 X.2.1 d_X5_shift_181 (by decide) ?_
    exact s_X5_shift_186 X hr hlk  Q o ho  x5 x6 x7 o ho x6 σ hw (lv_sub hl [0, 1, 2, 3] rfl) hD
set_option maxRecDepth 20000 in
set_option maxHeartbeats 4000000 in
theorem s_X5_shift_150 {p : Program} {l : Launch} {e : Env} {s : State} {m : MethodId} {args : Array Value} {below : List Frame} {meth : Method} {c : Code} {G : GC} (X : CallFix p m c cm_X5_shift 8 s args lw_us "GameLoom$Position") (hr : meth.sig.returnType = none) (hlk : meth.locks = false) (Q : GSt → Prop) (o : Nat) (ho : kd o = 5) (x2 : Int32) (x3 : Int32) (x4 : Int32) (x5 : Int32) (x6 : Int32) (x7 : Int32) (σ : GSt) {H : Heap} {locs : List Loc} {ls : Array Slot} (hw : Wo G s H locs σ) (hl : lv_has ls 8 [(0, .ref (G.2.1 o)), (2, .int x2), (3, .int x3), (4, .int x4), (5, .int x5), (6, .int x6), (7, .int x7)]) (hD : D_X5_shift_150 Q o x2 x3 x4 x5 x6 x7 σ) : W p l e rm_X5_shift s m args below meth c H locs 0 0 (QMV G Q below args s) (F0 m 150 ls []) := by
  unfold D_X5_shift_150 at hD
  refine lv_iload X.1 X.2.1 d_X5_shift_150 (lv_at hl 3 rfl) ?_
  refine lv_iconst (v := 4) X.1 X.2.1 d_X5_shift_152 (by decide) ?_
  refine lv_icmp_ne (tgt := 173) X.1 X.2.1 d_X5_shift_153 (by decide) (fun q_153 => ?_) (fun q_153 => ?_)
  · have hD := hD.1 q_153
    exact s_X5_shift_173 X hr hlk  Q o ho  x5 x6 x7 σ hw (lv_sub hl [0, 4, 5, 6] rfl) hD
  · have hD := hD.2 q_153
    refine lv_iload X.1 X.2.1 d_X5_shift_156 (lv_at hl 6 rfl) ?_
    refine lv_aload_n X.1 X.2.1 d_X5_shift_158 rfl (lv_at hl 0 rfl) ?_
    obtain ⟨q_159, hD⟩ := hD
    refine gf_5_0 X hw ho tb_237 q_159.1 d_X5_shift_159 ?_
    refine gf_1_1 X hw q_159.2 tb_158 d_X5_shift_162 ?_
    refine lv_iload_n X.1 X.2.1 d_X5_shift_165 rfl (lv_at hl 1 rfl) ?_
    refine lv_iload_n X.1 X.2.1 d_X5_shift_166 rfl (lv_at hl 2 rfl) ?_
    refine gcV_i (rest := [.int x7]) (As := [.int x2, .int x3]) (o := (((σ o 0).toNatClampNeg) + 3)) X hw (c_X0_bitBehind l G (((σ o 0).toNatClampNeg) + 3) x2 x3 σ _ (ly_1_1 q_159.2) hD) (kd_lt (ly_1_1 q_159.2) (by decide)) (ce_0 G _ (ly_1_1 q_159.2)) rfl tb_615 tb_616 tb_617 tb_5 tb_618 hd_X0_bitBehind ⟨rfl, rfl⟩ ⟨Nat.le_of_ble_eq_true rfl, Nat.le_of_ble_eq_true rfl⟩ rfl hl.1 rfl (Nat.le_of_ble_eq_true rfl) d_X5_shift_167 (fun r_1 σ_2 H locs hD hw => ?_)
    refine lv_ior X.1 X.2.1 d_X5_shift_170 ?_
    refine lv_topi (fun x7_3 e_x7_3 => ?_)
    have hD := hD x7_3 e_x7_3
    refine lv_istore (lv' := [(7, .int x7_3), (0, .ref (G.2.1 o)), (2, .int x2), (3, .int x3), (4, .int x4), (5, .int x5), (6, .int x6)]) X.1 X.2.1 d_X5_shift_171 hl (by decide) rfl (fun ls hl => ?_)
    exact s_X5_shift_173 X hr hlk  Q o ho  x5 x6 x7_3 σ_2 hw (lv_sub hl [1, 5, 6, 0] rfl) hD
set_option maxRecDepth 20000 in
set_option maxHeartbeats 4000000 in
theorem s_X5_shift_140 {p : Program} {l : Launch} {e : Env} {s : State} {m : MethodId} {args : Array Value} {below : List Frame} {meth : Method} {c : Code} {G : GC} (X : CallFix p m c cm_X5_shift 8 s args lw_us "GameLoom$Position") (hr : meth.sig.returnType = none) (hlk : meth.locks = false) (Q : GSt → Prop) (o : Nat) (ho : kd o = 5) (x2 : Int32) (x3 : Int32) (x4 : Int32) (x5 : Int32) (x6 : Int32) (x7 : Int32) (σ : GSt) {H : Heap} {locs : List Loc} {ls : Array Slot} (hw : Wo G s H locs σ) (hl : lv_has ls 8 [(0, .ref (G.2.1 o)), (2, .int x2), (3, .int x3), (4, .int x4), (5, .int x5), (6, .int x6), (7, .int x7)]) (hD : D_X5_shift_140 Q o x2 x3 x4 x5 x6 x7 σ) : W p l e rm_X5_shift s m args below meth c H locs 0 0 (QMV G Q below args s) (F0 m 140 ls []) := by
  unfold D_X5_shift_140 at hD
  refine lv_iload X.1 X.2.1 d_X5_shift_140 (lv_at hl 6 rfl) ?_
  refine lv_iconst (v := 1) X.1 X.2.1 d_X5_shift_142 (by decide) ?_
  refine lv_iload_n X.1 X.2.1 d_X5_shift_143 rfl (lv_at hl 2 rfl) ?_
  refine g_ishl X d_X5_shift_144 ?_
  refine lv_iconst (v := (-1)) X.1 X.2.1 d_X5_shift_145 (by decide) ?_
  refine lv_ixor X.1 X.2.1 d_X5_shift_146 ?_
  refine lv_iand X.1 X.2.1 d_X5_shift_147 ?_
  refine lv_topi (fun x7_1 e_x7_1 => ?_)
  have hD := hD x7_1 e_x7_1
  refine lv_istore (lv' := [(7, .int x7_1), (0, .ref (G.2.1 o)), (2, .int x2), (3, .int x3), (4, .int x4), (5, .int x5), (6, .int x6)]) X.1 X.2.1 d_X5_shift_148 hl (by decide) rfl (fun ls hl => ?_)
  exact s_X5_shift_150 X hr hlk  Q o ho  x2 x3 x4 x5 x6 x7_1 σ hw (lv_sub hl [1, 2, 3, 4, 5, 6, 0] rfl) hD
set_option maxRecDepth 20000 in
set_option maxHeartbeats 4000000 in
theorem s_X5_shift_105 {p : Program} {l : Launch} {e : Env} {s : State} {m : MethodId} {args : Array Value} {below : List Frame} {meth : Method} {c : Code} {G : GC} (X : CallFix p m c cm_X5_shift 8 s args lw_us "GameLoom$Position") (hr : meth.sig.returnType = none) (hlk : meth.locks = false) (Q : GSt → Prop) (o : Nat) (ho : kd o = 5) (x2 : Int32) (x3 : Int32) (x4 : Int32) (x5 : Int32) (x6 : Int32) (x7 : Int32) (σ : GSt) {H : Heap} {locs : List Loc} {ls : Array Slot} (hw : Wo G s H locs σ) (hl : lv_has ls 8 [(0, .ref (G.2.1 o)), (2, .int x2), (3, .int x3), (4, .int x4), (5, .int x5), (6, .int x6), (7, .int x7)]) (hD : D_X5_shift_105 Q o x2 x3 x4 x5 x6 x7 σ) : W p l e rm_X5_shift s m args below meth c H locs 0 0 (QMV G Q below args s) (F0 m 105 ls []) := by
  unfold D_X5_shift_105 at hD
  refine lv_iload X.1 X.2.1 d_X5_shift_105 (lv_at hl 3 rfl) ?_
  refine lv_iconst (v := 2) X.1 X.2.1 d_X5_shift_107 (by decide) ?_
  refine lv_icmp_ne (tgt := 128) X.1 X.2.1 d_X5_shift_108 (by decide) (fun q_108 => ?_) (fun q_108 => ?_)
  · have hD := hD.1 q_108
    refine lv_iload X.1 X.2.1 d_X5_shift_128 (lv_at hl 3 rfl) ?_
    refine lv_iconst (v := 3) X.1 X.2.1 d_X5_shift_130 (by decide) ?_
    refine lv_icmp_eq (tgt := 140) X.1 X.2.1 d_X5_shift_131 (by decide) (fun q_131 => ?_) (fun q_131 => ?_)
    · have hD := hD.1 q_131
      exact s_X5_shift_140 X hr hlk  Q o ho  x2 x3 x4 x5 x6 x7 σ hw (lv_sub hl [0, 1, 2, 3, 4, 5, 6] rfl) hD
    · have hD := hD.2 q_131
      refine lv_iload X.1 X.2.1 d_X5_shift_134 (lv_at hl 3 rfl) ?_
      refine lv_iconst (v := 4) X.1 X.2.1 d_X5_shift_136 (by decide) ?_
      refine lv_icmp_ne (tgt := 150) X.1 X.2.1 d_X5_shift_137 (by decide) (fun q_137 => ?_) (fun q_137 => ?_)
      · have hD := hD.1 q_137
        exact s_X5_shift_150 X hr hlk  Q o ho  x2 x3 x4 x5 x6 x7 σ hw (lv_sub hl [0, 1, 2, 3, 4, 5, 6] rfl) hD
      · have hD := hD.2 q_137
        exact s_X5_shift_140 X hr hlk  Q o ho  x2 x3 x4 x5 x6 x7 σ hw (lv_sub hl [0, 1, 2, 3, 4, 5, 6] rfl) hD
  · have hD := hD.2 q_108
    refine lv_iload X.1 X.2.1 d_X5_shift_111 (lv_at hl 6 rfl) ?_
    refine lv_iconst (v := 1) X.1 X.2.1 d_X5_shift_113 (by decide) ?_
    refine lv_iload_n X.1 X.2.1 d_X5_shift_114 rfl (lv_at hl 1 rfl) ?_
    refine lv_iload_n X.1 X.2.1 d_X5_shift_115 rfl (lv_at hl 2 rfl) ?_
    refine lv_iadd X.1 X.2.1 d_X5_shift_116 ?_
    refine lv_iconst (v := 2) X.1 X.2.1 d_X5_shift_117 (by decide) ?_
    refine lv_idiv X.1 X.2.1 d_X5_shift_118 (by decide) ?_
    refine g_ishl X d_X5_shift_119 ?_
    refine lv_iconst (v := (-1)) X.1 X.2.1 d_X5_shift_120 (by decide) ?_
    refine lv_ixor X.1 X.2.1 d_X5_shift_121 ?_
    refine lv_iand X.1 X.2.1 d_X5_shift_122 ?_
    refine lv_topi (fun x7_1 e_x7_1 => ?_)
    have hD := hD x7_1 e_x7_1
    refine lv_istore (lv' := [(7, .int x7_1), (0, .ref (G.2.1 o)), (2, .int x2), (3, .int x3), (4, .int x4), (5, .int x5), (6, .int x6)]) X.1 X.2.1 d_X5_shift_123 hl (by decide) rfl (fun ls hl => ?_)
    refine lv_goto (tgt := 150) X.1 X.2.1 d_X5_shift_125 (by decide) ?_
    exact s_X5_shift_150 X hr hlk  Q o ho  x2 x3 x4 x5 x6 x7_1 σ hw (lv_sub hl [1, 2, 3, 4, 5, 6, 0] rfl) hD
set_option maxRecDepth 20000 in
set_option maxHeartbeats 4000000 in
theorem s_X5_shift_80 {p : Program} {l : Launch} {e : Env} {s : State} {m : MethodId} {args : Array Value} {below : List Frame} {meth : Method} {c : Code} {G : GC} (X : CallFix p m c cm_X5_shift 8 s args lw_us "GameLoom$Position") (hr : meth.sig.returnType = none) (hlk : meth.locks = false) (Q : GSt → Prop) (o : Nat) (ho : kd o = 5) (x2 : Int32) (x3 : Int32) (x4 : Int32) (x5 : Int32) (x6 : Int32) (s0 : Int32) (σ : GSt) {H : Heap} {locs : List Loc} {ls : Array Slot} (hw : Wo G s H locs σ) (hl : lv_has ls 8 [(0, .ref (G.2.1 o)), (2, .int x2), (3, .int x3), (4, .int x4), (5, .int x5), (6, .int x6)]) (hD : D_X5_shift_80 Q o x2 x3 x4 x5 x6 s0 σ) : W p l e rm_X5_shift s m args below meth c H locs 0 0 (QMV G Q below args s) (F0 m 80 ls [.int s0]) := by
  unfold D_X5_shift_80 at hD
  refine lv_istore (lv' := [(7, .int s0), (0, .ref (G.2.1 o)), (2, .int x2), (3, .int x3), (4, .int x4), (5, .int x5), (6, .int x6)]) X.1 X.2.1 d_X5_shift_80 hl (by decide) rfl (fun ls hl => ?_)
  refine lv_iload X.1 X.2.1 d_X5_shift_82 (lv_at hl 6 rfl) ?_
  refine lv_iconst (v := 1) X.1 X.2.1 d_X5_shift_84 (by decide) ?_
  refine lv_iload_n X.1 X.2.1 d_X5_shift_85 rfl (lv_at hl 3 rfl) ?_
  refine g_ishl X d_X5_shift_86 ?_
  refine lv_ior X.1 X.2.1 d_X5_shift_87 ?_
  refine lv_topi (fun x6_1 e_x6_1 => ?_)
  have hD := hD x6_1 e_x6_1
  refine lv_istore (lv' := [(6, .int x6_1), (7, .int s0), (0, .ref (G.2.1 o)), (2, .int x2), (3, .int x3), (4, .int x4), (5, .int x5)]) X.1 X.2.1 d_X5_shift_88 hl (by decide) rfl (fun ls hl => ?_)
  refine lv_iload X.1 X.2.1 d_X5_shift_90 (lv_at hl 5 rfl) ?_
  refine lv_if_eq (tgt := 105) X.1 X.2.1 d_X5_shift_92 (by decide) (fun q_92 => ?_) (fun q_92 => ?_)
  · have hD := hD.1 q_92
    exact s_X5_shift_105 X hr hlk  Q o ho  x2 x3 x4 x5 x6_1 s0 σ hw (lv_sub hl [2, 3, 4, 5, 6, 0, 1] rfl) hD
  · have hD := hD.2 q_92
    refine lv_iload X.1 X.2.1 d_X5_shift_95 (lv_at hl 0 rfl) ?_
    refine lv_iconst (v := 1) X.1 X.2.1 d_X5_shift_97 (by decide) ?_
    refine lv_iload_n X.1 X.2.1 d_X5_shift_98 rfl (lv_at hl 3 rfl) ?_
    refine g_ishl X d_X5_shift_99 ?_
    refine lv_iconst (v := (-1)) X.1 X.2.1 d_X5_shift_100 (by decide) ?_
    refine lv_ixor X.1 X.2.1 d_X5_shift_101 ?_
    refine lv_iand X.1 X.2.1 d_X5_shift_102 ?_
    refine lv_topi (fun x6_2 e_x6_2 => ?_)
    have hD := hD x6_2 e_x6_2
    refine lv_istore (lv' := [(6, .int x6_2), (7, .int s0), (0, .ref (G.2.1 o)), (2, .int x2), (3, .int x3), (4, .int x4), (5, .int x5)]) X.1 X.2.1 d_X5_shift_103 hl (by decide) rfl (fun ls hl => ?_)
    exact s_X5_shift_105 X hr hlk  Q o ho  x2 x3 x4 x5 x6_2 s0 σ hw (lv_sub hl [2, 3, 4, 5, 6, 0, 1] rfl) hD
set_option maxRecDepth 20000 in
set_option maxHeartbeats 4000000 in
theorem s_X5_shift_62 {p : Program} {l : Launch} {e : Env} {s : State} {m : MethodId} {args : Array Value} {below : List Frame} {meth : Method} {c : Code} {G : GC} (X : CallFix p m c cm_X5_shift 8 s args lw_us "GameLoom$Position") (hr : meth.sig.returnType = none) (hlk : meth.locks = false) (Q : GSt → Prop) (o : Nat) (ho : kd o = 5) (x2 : Int32) (x3 : Int32) (x4 : Int32) (x5 : Int32) (s0 : Int32) (σ : GSt) {H : Heap} {locs : List Loc} {ls : Array Slot} (hw : Wo G s H locs σ) (hl : lv_has ls 8 [(0, .ref (G.2.1 o)), (2, .int x2), (3, .int x3), (4, .int x4), (5, .int x5)]) (hD : D_X5_shift_62 Q o x2 x3 x4 x5 s0 σ) : W p l e rm_X5_shift s m args below meth c H locs 0 0 (QMV G Q below args s) (F0 m 62 ls [.int s0]) := by
  unfold D_X5_shift_62 at hD
  refine lv_istore (lv' := [(6, .int s0), (0, .ref (G.2.1 o)), (2, .int x2), (3, .int x3), (4, .int x4), (5, .int x5)]) X.1 X.2.1 d_X5_shift_62 hl (by decide) rfl (fun ls hl => ?_)
  refine lv_iload X.1 X.2.1 d_X5_shift_64 (lv_at hl 5 rfl) ?_
  refine lv_if_eq (tgt := 76) X.1 X.2.1 d_X5_shift_66 (by decide) (fun q_66 => ?_) (fun q_66 => ?_)
  · have hD := hD.1 q_66
    refine lv_aload_n X.1 X.2.1 d_X5_shift_76 rfl (lv_at hl 1 rfl) ?_
    refine gf_5_1 X hw ho tb_240 d_X5_shift_77 ?_
    exact s_X5_shift_80 X hr hlk  Q o ho  x2 x3 x4 x5 s0 (σ o 1) σ hw (lv_sub hl [1, 2, 3, 4, 5, 0] rfl) hD
  · have hD := hD.2 q_66
    refine lv_aload_n X.1 X.2.1 d_X5_shift_69 rfl (lv_at hl 1 rfl) ?_
    refine gf_5_2 X hw ho tb_245 d_X5_shift_70 ?_
    refine lv_goto (tgt := 80) X.1 X.2.1 d_X5_shift_73 (by decide) ?_
    exact s_X5_shift_80 X hr hlk  Q o ho  x2 x3 x4 x5 s0 (σ o 2) σ hw (lv_sub hl [1, 2, 3, 4, 5, 0] rfl) hD
set_option maxRecDepth 20000 in
set_option maxHeartbeats 4000000 in
theorem s_X5_shift_44 {p : Program} {l : Launch} {e : Env} {s : State} {m : MethodId} {args : Array Value} {below : List Frame} {meth : Method} {c : Code} {G : GC} (X : CallFix p m c cm_X5_shift 8 s args lw_us "GameLoom$Position") (hr : meth.sig.returnType = none) (hlk : meth.locks = false) (Q : GSt → Prop) (o : Nat) (ho : kd o = 5) (x2 : Int32) (x3 : Int32) (x4 : Int32) (s0 : Int32) (σ : GSt) {H : Heap} {locs : List Loc} {ls : Array Slot} (hw : Wo G s H locs σ) (hl : lv_has ls 8 [(0, .ref (G.2.1 o)), (2, .int x2), (3, .int x3), (4, .int x4)]) (hD : D_X5_shift_44 Q o x2 x3 x4 s0 σ) : W p l e rm_X5_shift s m args below meth c H locs 0 0 (QMV G Q below args s) (F0 m 44 ls [.int s0]) := by
  unfold D_X5_shift_44 at hD
  refine lv_istore (lv' := [(5, .int s0), (0, .ref (G.2.1 o)), (2, .int x2), (3, .int x3), (4, .int x4)]) X.1 X.2.1 d_X5_shift_44 hl (by decide) rfl (fun ls hl => ?_)
  refine lv_iload X.1 X.2.1 d_X5_shift_46 (lv_at hl 0 rfl) ?_
  refine lv_if_eq (tgt := 58) X.1 X.2.1 d_X5_shift_48 (by decide) (fun q_48 => ?_) (fun q_48 => ?_)
  · have hD := hD.1 q_48
    refine lv_aload_n X.1 X.2.1 d_X5_shift_58 rfl (lv_at hl 1 rfl) ?_
    refine gf_5_2 X hw ho tb_245 d_X5_shift_59 ?_
    exact s_X5_shift_62 X hr hlk  Q o ho  x2 x3 x4 s0 (σ o 2) σ hw (lv_sub hl [1, 2, 3, 4, 0] rfl) hD
  · have hD := hD.2 q_48
    refine lv_aload_n X.1 X.2.1 d_X5_shift_51 rfl (lv_at hl 1 rfl) ?_
    refine gf_5_1 X hw ho tb_240 d_X5_shift_52 ?_
    refine lv_goto (tgt := 62) X.1 X.2.1 d_X5_shift_55 (by decide) ?_
    exact s_X5_shift_62 X hr hlk  Q o ho  x2 x3 x4 s0 (σ o 1) σ hw (lv_sub hl [1, 2, 3, 4, 0] rfl) hD
set_option maxRecDepth 20000 in
set_option maxHeartbeats 4000000 in
theorem s_X5_shift_0 {p : Program} {l : Launch} {e : Env} {s : State} {m : MethodId} {args : Array Value} {below : List Frame} {meth : Method} {c : Code} {G : GC} (X : CallFix p m c cm_X5_shift 8 s args lw_us "GameLoom$Position") (hr : meth.sig.returnType = none) (hlk : meth.locks = false) (Q : GSt → Prop) (o : Nat) (ho : kd o = 5) (x1 : Int32) (σ : GSt) {H : Heap} {locs : List Loc} {ls : Array Slot} (hw : Wo G s H locs σ) (hl : lv_has ls 8 [(0, .ref (G.2.1 o)), (1, .int x1)]) (hD : D_X5_shift_0 Q o x1 σ) : W p l e rm_X5_shift s m args below meth c H locs 0 0 (QMV G Q below args s) (F0 m 0 ls []) := by
  unfold D_X5_shift_0 at hD
  refine lv_iload_n X.1 X.2.1 d_X5_shift_0 rfl (lv_at hl 1 rfl) ?_
  refine lv_bipush (v := 8) X.1 X.2.1 d_X5_shift_1 (by decide) ?_
  refine lv_iushr (v := (jushr x1 8)) X.1 X.2.1 d_X5_shift_3 rfl ?_
  refine lv_sipush (v := 255) X.1 X.2.1 d_X5_shift_4 (by decide) ?_
  refine lv_iand X.1 X.2.1 d_X5_shift_7 ?_
  refine lv_topi (fun x2_1 e_x2_1 => ?_)
  have hD := hD x2_1 e_x2_1
  refine lv_istore_n (lv' := [(2, .int x2_1), (0, .ref (G.2.1 o)), (1, .int x1)]) X.1 X.2.1 d_X5_shift_8 rfl hl (by decide) rfl (fun ls hl => ?_)
  refine lv_iload_n X.1 X.2.1 d_X5_shift_9 rfl (lv_at hl 2 rfl) ?_
  refine lv_sipush (v := 255) X.1 X.2.1 d_X5_shift_10 (by decide) ?_
  refine lv_iand X.1 X.2.1 d_X5_shift_13 ?_
  refine lv_topi (fun x3_2 e_x3_2 => ?_)
  have hD := hD x3_2 e_x3_2
  refine lv_istore_n (lv' := [(3, .int x3_2), (2, .int x2_1), (0, .ref (G.2.1 o)), (1, .int x1)]) X.1 X.2.1 d_X5_shift_14 rfl hl (by decide) rfl (fun ls hl => ?_)
  refine lv_aload_n X.1 X.2.1 d_X5_shift_15 rfl (lv_at hl 2 rfl) ?_
  obtain ⟨q_16, hD⟩ := hD
  refine gf_5_0 X hw ho tb_237 q_16.1 d_X5_shift_16 ?_
  refine gf_1_4 X hw q_16.2 tb_165 d_X5_shift_19 ?_
  refine lv_iload_n X.1 X.2.1 d_X5_shift_22 rfl (lv_at hl 3 rfl) ?_
  refine lv_bipush (v := 16) X.1 X.2.1 d_X5_shift_23 (by decide) ?_
  refine lv_iushr (v := (jushr x1 16)) X.1 X.2.1 d_X5_shift_25 rfl ?_
  obtain ⟨q_26, hD⟩ := hD
  refine g_aald15 X hw (ly_1_4 q_16.2).1 q_26 d_X5_shift_26 ?_
  refine gf_7_0 X hw (le_15 (ly_1_4 q_16.2).1 q_26) tb_128 d_X5_shift_27 ?_
  refine lv_topi (fun x4_3 e_x4_3 => ?_)
  have hD := hD x4_3 e_x4_3
  refine lv_istore (lv' := [(4, .int x4_3), (3, .int x3_2), (2, .int x2_1), (0, .ref (G.2.1 o)), (1, .int x1)]) X.1 X.2.1 d_X5_shift_30 hl (by decide) rfl (fun ls hl => ?_)
  refine lv_aload_n X.1 X.2.1 d_X5_shift_32 rfl (lv_at hl 3 rfl) ?_
  refine gcV_i (rest := []) (As := []) (o := o) X hw (c_X5_side l G o σ _ ho hD) (kd_lt ho (by decide)) (ce_5 G _ ho) rfl tb_607 tb_608 tb_609 tb_9 tb_610 hd_X5_side ⟨rfl, rfl⟩ ⟨Nat.le_of_ble_eq_true rfl, Nat.le_of_ble_eq_true rfl⟩ rfl hl.1 rfl (Nat.le_of_ble_eq_true rfl) d_X5_shift_33 (fun r_4 σ_5 H locs hD hw => ?_)
  refine lv_if_ne (tgt := 43) X.1 X.2.1 d_X5_shift_36 (by decide) (fun q_36 => ?_) (fun q_36 => ?_)
  · have hD := hD.1 q_36
    refine lv_iconst (v := 0) X.1 X.2.1 d_X5_shift_43 (by decide) ?_
    exact s_X5_shift_44 X hr hlk  Q o ho  x2_1 x3_2 x4_3 0 σ_5 hw (lv_sub hl [3, 2, 1, 0] rfl) hD
  · have hD := hD.2 q_36
    refine lv_iconst (v := 1) X.1 X.2.1 d_X5_shift_39 (by decide) ?_
    refine lv_goto (tgt := 44) X.1 X.2.1 d_X5_shift_40 (by decide) ?_
    exact s_X5_shift_44 X hr hlk  Q o ho  x2_1 x3_2 x4_3 1 σ_5 hw (lv_sub hl [3, 2, 1, 0] rfl) hD
theorem c_X5_shift (l : Launch) (G : GC) (o : Nat) (x1 : Int32) (σ : GSt) (Q : GSt → Prop) (ho : kd o = 5) (hD : D_X5_shift o x1 σ Q) : MV l ym_X5_shift cm_X5_shift 8 rm_X5_shift G σ [.ref (G.2.1 o), .int x1] Q := by
  refine met_v (by decide) (Nat.le_of_ble_eq_true rfl) ?_
  intro p e s m args below meth c X hr hlk hw ls hl
  exact s_X5_shift_0 X hr hlk Q o ho x1 σ hw (lv_sub hl [0, 1] rfl) hD
theorem hd_X5_make : ym_X5_make.cls = "GameLoom$Position" ∧ ym_X5_make.cls ≠ "java/lang/invoke/MethodHandle" ∧ ym_X5_make.cls ≠ "java/lang/invoke/VarHandle" ∧ (parseMethodDescriptor ym_X5_make.desc).map (fun d => d.parameters.length) = some 1 := by decide +kernel
abbrev rm_X5_make : Room := { frames := 2, cells := 0, slots := 0, locals := 54 }
theorem d_X5_make_0 : decode cm_X5_make 0 = .ok (.aload_n 0, 1) := by decide +kernel
theorem d_X5_make_1 : decode cm_X5_make 1 = .ok (.invokevirtual 107, 3) := by decide +kernel
theorem d_X5_make_4 : decode cm_X5_make 4 = .ok (.istore_n 2, 1) := by decide +kernel
theorem d_X5_make_5 : decode cm_X5_make 5 = .ok (.aload_n 0, 1) := by decide +kernel
theorem d_X5_make_6 : decode cm_X5_make 6 = .ok (.iload_n 1, 1) := by decide +kernel
theorem d_X5_make_7 : decode cm_X5_make 7 = .ok (.invokevirtual 111, 3) := by decide +kernel
theorem d_X5_make_10 : decode cm_X5_make 10 = .ok (.aload_n 0, 1) := by decide +kernel
theorem d_X5_make_11 : decode cm_X5_make 11 = .ok (.dup, 1) := by decide +kernel
theorem d_X5_make_12 : decode cm_X5_make 12 = .ok (.getfield 15, 3) := by decide +kernel
theorem d_X5_make_15 : decode cm_X5_make 15 = .ok (.iconst 1, 1) := by decide +kernel
theorem d_X5_make_16 : decode cm_X5_make 16 = .ok (.iadd, 1) := by decide +kernel
theorem d_X5_make_17 : decode cm_X5_make 17 = .ok (.putfield 15, 3) := by decide +kernel
theorem d_X5_make_20 : decode cm_X5_make 20 = .ok (.aload_n 0, 1) := by decide +kernel
theorem d_X5_make_21 : decode cm_X5_make 21 = .ok (.invokevirtual 31, 3) := by decide +kernel
theorem d_X5_make_24 : decode cm_X5_make 24 = .ok (.ifCond .ne 7, 3) := by decide +kernel
theorem d_X5_make_27 : decode cm_X5_make 27 = .ok (.iconst 1, 1) := by decide +kernel
theorem d_X5_make_28 : decode cm_X5_make 28 = .ok (.goto 4, 3) := by decide +kernel
theorem d_X5_make_31 : decode cm_X5_make 31 = .ok (.iconst 0, 1) := by decide +kernel
theorem d_X5_make_32 : decode cm_X5_make 32 = .ok (.istore_n 3, 1) := by decide +kernel
theorem d_X5_make_33 : decode cm_X5_make 33 = .ok (.iconst 0, 1) := by decide +kernel
theorem d_X5_make_34 : decode cm_X5_make 34 = .ok (.istore 4, 2) := by decide +kernel
theorem d_X5_make_36 : decode cm_X5_make 36 = .ok (.iload 4, 2) := by decide +kernel
theorem d_X5_make_38 : decode cm_X5_make 38 = .ok (.aload_n 0, 1) := by decide +kernel
theorem d_X5_make_39 : decode cm_X5_make 39 = .ok (.getfield 9, 3) := by decide +kernel
theorem d_X5_make_42 : decode cm_X5_make 42 = .ok (.getfield 115, 3) := by decide +kernel
theorem d_X5_make_45 : decode cm_X5_make 45 = .ok (.if_icmp .ge 77, 3) := by decide +kernel
theorem d_X5_make_48 : decode cm_X5_make 48 = .ok (.aload_n 0, 1) := by decide +kernel
theorem d_X5_make_49 : decode cm_X5_make 49 = .ok (.aload_n 0, 1) := by decide +kernel
theorem d_X5_make_50 : decode cm_X5_make 50 = .ok (.getfield 9, 3) := by decide +kernel
theorem d_X5_make_53 : decode cm_X5_make 53 = .ok (.getfield 118, 3) := by decide +kernel
theorem d_X5_make_56 : decode cm_X5_make 56 = .ok (.iload 4, 2) := by decide +kernel
theorem d_X5_make_58 : decode cm_X5_make 58 = .ok (.aaload, 1) := by decide +kernel
theorem d_X5_make_59 : decode cm_X5_make 59 = .ok (.iload_n 2, 1) := by decide +kernel
theorem d_X5_make_60 : decode cm_X5_make 60 = .ok (.iload_n 3, 1) := by decide +kernel
theorem d_X5_make_61 : decode cm_X5_make 61 = .ok (.invokevirtual 121, 3) := by decide +kernel
theorem d_X5_make_64 : decode cm_X5_make 64 = .ok (.ifCond .eq 52, 3) := by decide +kernel
theorem d_X5_make_67 : decode cm_X5_make 67 = .ok (.aload_n 0, 1) := by decide +kernel
theorem d_X5_make_68 : decode cm_X5_make 68 = .ok (.getfield 9, 3) := by decide +kernel
theorem d_X5_make_71 : decode cm_X5_make 71 = .ok (.getfield 118, 3) := by decide +kernel
theorem d_X5_make_74 : decode cm_X5_make 74 = .ok (.iload 4, 2) := by decide +kernel
theorem d_X5_make_76 : decode cm_X5_make 76 = .ok (.aaload, 1) := by decide +kernel
theorem d_X5_make_77 : decode cm_X5_make 77 = .ok (.getfield 125, 3) := by decide +kernel
theorem d_X5_make_80 : decode cm_X5_make 80 = .ok (.istore 5, 2) := by decide +kernel
theorem d_X5_make_82 : decode cm_X5_make 82 = .ok (.iload 5, 2) := by decide +kernel
theorem d_X5_make_84 : decode cm_X5_make 84 = .ok (.ifCond .ne 7, 3) := by decide +kernel
theorem d_X5_make_87 : decode cm_X5_make 87 = .ok (.iload_n 2, 1) := by decide +kernel
theorem d_X5_make_88 : decode cm_X5_make 88 = .ok (.goto 16, 3) := by decide +kernel
theorem d_X5_make_91 : decode cm_X5_make 91 = .ok (.iload 5, 2) := by decide +kernel
theorem d_X5_make_93 : decode cm_X5_make 93 = .ok (.iconst 1, 1) := by decide +kernel
theorem d_X5_make_94 : decode cm_X5_make 94 = .ok (.if_icmp .ne 9, 3) := by decide +kernel
theorem d_X5_make_97 : decode cm_X5_make 97 = .ok (.iconst 1, 1) := by decide +kernel
theorem d_X5_make_98 : decode cm_X5_make 98 = .ok (.iload_n 2, 1) := by decide +kernel
theorem d_X5_make_99 : decode cm_X5_make 99 = .ok (.isub, 1) := by decide +kernel
theorem d_X5_make_100 : decode cm_X5_make 100 = .ok (.goto 4, 3) := by decide +kernel
theorem d_X5_make_103 : decode cm_X5_make 103 = .ok (.iconst 2, 1) := by decide +kernel
theorem d_X5_make_104 : decode cm_X5_make 104 = .ok (.istore 6, 2) := by decide +kernel
theorem d_X5_make_106 : decode cm_X5_make 106 = .ok (.aload_n 0, 1) := by decide +kernel
theorem d_X5_make_107 : decode cm_X5_make 107 = .ok (.iconst 1, 1) := by decide +kernel
theorem d_X5_make_108 : decode cm_X5_make 108 = .ok (.iload 6, 2) := by decide +kernel
theorem d_X5_make_110 : decode cm_X5_make 110 = .ok (.iload 4, 2) := by decide +kernel
theorem d_X5_make_112 : decode cm_X5_make 112 = .ok (.invokevirtual 35, 3) := by decide +kernel
theorem d_X5_make_115 : decode cm_X5_make 115 = .ok (.return_, 1) := by decide +kernel
theorem d_X5_make_116 : decode cm_X5_make 116 = .ok (.iinc 4 1, 3) := by decide +kernel
theorem d_X5_make_119 : decode cm_X5_make 119 = .ok (.goto (-83), 3) := by decide +kernel
theorem d_X5_make_122 : decode cm_X5_make 122 = .ok (.iload_n 3, 1) := by decide +kernel
theorem d_X5_make_123 : decode cm_X5_make 123 = .ok (.ifCond .eq 14, 3) := by decide +kernel
theorem d_X5_make_126 : decode cm_X5_make 126 = .ok (.aload_n 0, 1) := by decide +kernel
theorem d_X5_make_127 : decode cm_X5_make 127 = .ok (.iconst 2, 1) := by decide +kernel
theorem d_X5_make_128 : decode cm_X5_make 128 = .ok (.iconst 2, 1) := by decide +kernel
theorem d_X5_make_129 : decode cm_X5_make 129 = .ok (.bipush (-9), 2) := by decide +kernel
theorem d_X5_make_131 : decode cm_X5_make 131 = .ok (.invokevirtual 35, 3) := by decide +kernel
theorem d_X5_make_134 : decode cm_X5_make 134 = .ok (.goto 20, 3) := by decide +kernel
theorem d_X5_make_137 : decode cm_X5_make 137 = .ok (.aload_n 0, 1) := by decide +kernel
theorem d_X5_make_138 : decode cm_X5_make 138 = .ok (.getfield 15, 3) := by decide +kernel
theorem d_X5_make_141 : decode cm_X5_make 141 = .ok (.bipush 60, 2) := by decide +kernel
theorem d_X5_make_143 : decode cm_X5_make 143 = .ok (.if_icmp .lt 11, 3) := by decide +kernel
theorem d_X5_make_146 : decode cm_X5_make 146 = .ok (.aload_n 0, 1) := by decide +kernel
theorem d_X5_make_147 : decode cm_X5_make 147 = .ok (.iconst 3, 1) := by decide +kernel
theorem d_X5_make_148 : decode cm_X5_make 148 = .ok (.iconst 2, 1) := by decide +kernel
theorem d_X5_make_149 : decode cm_X5_make 149 = .ok (.bipush (-9), 2) := by decide +kernel
theorem d_X5_make_151 : decode cm_X5_make 151 = .ok (.invokevirtual 35, 3) := by decide +kernel
theorem d_X5_make_154 : decode cm_X5_make 154 = .ok (.return_, 1) := by decide +kernel
def D_X5_make_104 (Q : GSt → Prop) (o : Nat) (x4 : Int32) (s0 : Int32) (σ : GSt) : Prop :=
  D_X5_close o 1 s0 x4 σ (fun σ_1 => Q σ_1)
def D_X5_make_36 (K36 : Int32 → Int32 → Int32 → GSt → Prop) (Q : GSt → Prop) (o : Nat) (x2 : Int32) (x3 : Int32) (x4 : Int32) (σ : GSt) : Prop :=
  (¬ σ o 0 < 0 ∧ kd (σ o 0).toNatClampNeg = 1) ∧ (((σ ((σ o 0).toNatClampNeg) 7) ≤ x4 → (x3 = 0 → ((σ o 3) < 60 → Q σ) ∧
  (¬ (σ o 3) < 60 → D_X5_close o 3 2 (-9) σ (fun σ_1 => Q σ_1))) ∧
  (¬ x3 = 0 → D_X5_close o 2 2 (-9) σ (fun σ_2 => Q σ_2))) ∧
  (¬ (σ ((σ o 0).toNatClampNeg) 7) ≤ x4 → (¬ σ o 0 < 0 ∧ kd (σ o 0).toNatClampNeg = 1) ∧ (vp_in x4 6 ∧ (D_X5_holds o ((((σ o 0).toNatClampNeg) + 9) + 2 + 2 * Int32.toNatClampNeg x4) x2 x3 σ (fun r_3 σ_4 => (r_3 = 0 → ∀ x4_5 : Int32, x4_5 = x4 + 1 → (K36 x2 x3 x4_5 σ_4)) ∧
  (¬ r_3 = 0 → (¬ σ_4 o 0 < 0 ∧ kd (σ_4 o 0).toNatClampNeg = 1) ∧ (vp_in x4 6 ∧ (∀ x5_6 : Int32, x5_6 = (σ_4 ((((σ_4 o 0).toNatClampNeg) + 9) + 2 + 2 * Int32.toNatClampNeg x4) 2) → ((¬ x5_6 = 0 → (¬ x5_6 = 1 → D_X5_make_104 Q o x4 2 σ_4) ∧
  (x5_6 = 1 → D_X5_make_104 Q o x4 (1 - x2) σ_4)) ∧
  (x5_6 = 0 → D_X5_make_104 Q o x4 x2 σ_4))))))))))
def L_X5_make_36 (Q : GSt → Prop) (o : Nat) : Nat → Int32 → Int32 → Int32 → GSt → Prop
  | 0 => fun _ _ _ _ => False
  | n + 1 => fun x2 x3 x4 σ => D_X5_make_36 (L_X5_make_36 Q o n) Q o x2 x3 x4 σ
def D_X5_make_32 (Q : GSt → Prop) (o : Nat) (x2 : Int32) (s0 : Int32) (σ : GSt) : Prop :=
  ∃ n : Nat, L_X5_make_36 Q o n x2 s0 0 σ
def D_X5_make_0 (Q : GSt → Prop) (o : Nat) (x1 : Int32) (σ : GSt) : Prop :=
  D_X5_side o σ (fun r_1 σ_2 => D_X5_shift o x1 σ_2 (fun σ_3 => ∀ σ_4 : GSt, σ_4 = up2 σ_3 o 3 ((σ_3 o 3) + 1) → (D_X5_hasMove o σ_4 (fun r_5 σ_6 => (¬ r_5 = 0 → D_X5_make_32 Q o r_1 0 σ_6) ∧
  (r_5 = 0 → D_X5_make_32 Q o r_1 1 σ_6)))))
def D_X5_make (o : Nat) (x1 : Int32) (σ : GSt) (Q : GSt → Prop) : Prop := D_X5_make_0 Q o x1 σ
set_option maxRecDepth 20000 in
set_option maxHeartbeats 4000000 in
theorem s_X5_make_104 {p : Program} {l : Launch} {e : Env} {s : State} {m : MethodId} {args : Array Value} {below : List Frame} {meth : Method} {c : Code} {G : GC} (X : CallFix p m c cm_X5_make 7 s args lw_us "GameLoom$Position") (hr : meth.sig.returnType = none) (hlk : meth.locks = false) (Q : GSt → Prop) (o : Nat) (ho : kd o = 5) (x4 : Int32) (s0 : Int32) (σ : GSt) {H : Heap} {locs : List Loc} {ls : Array Slot} (hw : Wo G s H locs σ) (hl : lv_has ls 7 [(0, .ref (G.2.1 o)), (4, .int x4)]) (hD : D_X5_make_104 Q o x4 s0 σ) : W p l e rm_X5_make s m args below meth c H locs 0 0 (QMV G Q below args s) (F0 m 104 ls [.int s0]) := by
  unfold D_X5_make_104 at hD
  refine lv_istore (lv' := [(6, .int s0), (0, .ref (G.2.1 o)), (4, .int x4)]) X.1 X.2.1 d_X5_make_104 hl (by decide) rfl (fun ls hl => ?_)
  refine lv_aload_n X.1 X.2.1 d_X5_make_106 rfl (lv_at hl 1 rfl) ?_
  refine lv_iconst (v := 1) X.1 X.2.1 d_X5_make_107 (by decide) ?_
  refine lv_iload X.1 X.2.1 d_X5_make_108 (lv_at hl 0 rfl) ?_
  refine lv_iload X.1 X.2.1 d_X5_make_110 (lv_at hl 2 rfl) ?_
  refine gcV_v (rest := []) (As := [.int 1, .int s0, .int x4]) (o := o) X hw (c_X5_close l G o 1 s0 x4 σ _ ho hD) (kd_lt ho (by decide)) (ce_5 G _ ho) rfl tb_569 tb_571 tv_21 tb_9 tb_572 hd_X5_close ⟨rfl, rfl⟩ ⟨Nat.le_of_ble_eq_true rfl, Nat.le_of_ble_eq_true rfl⟩ rfl hl.1 rfl (Nat.le_of_ble_eq_true rfl) d_X5_make_112 (fun σ_1 H locs hD hw => ?_)
  exact g_vret X hr hlk hw hD d_X5_make_115
set_option maxRecDepth 20000 in
set_option maxHeartbeats 4000000 in
theorem s_X5_make_36 {p : Program} {l : Launch} {e : Env} {s : State} {m : MethodId} {args : Array Value} {below : List Frame} {meth : Method} {c : Code} {G : GC} (X : CallFix p m c cm_X5_make 7 s args lw_us "GameLoom$Position") (hr : meth.sig.returnType = none) (hlk : meth.locks = false) (K36 : Int32 → Int32 → Int32 → GSt → Prop) (Q : GSt → Prop) (o : Nat) (ho : kd o = 5) (hK36 : ∀ (x2 : Int32) (x3 : Int32) (x4 : Int32) (σ : GSt) (H : Heap) (locs : List Loc) (ls : Array Slot), Wo G s H locs σ → lv_has ls 7 [(0, .ref (G.2.1 o)), (2, .int x2), (3, .int x3), (4, .int x4)] → K36 x2 x3 x4 σ → W p l e rm_X5_make s m args below meth c H locs 0 0 (QMV G Q below args s) (F0 m 36 ls [])) (x2 : Int32) (x3 : Int32) (x4 : Int32) (σ : GSt) {H : Heap} {locs : List Loc} {ls : Array Slot} (hw : Wo G s H locs σ) (hl : lv_has ls 7 [(0, .ref (G.2.1 o)), (2, .int x2), (3, .int x3), (4, .int x4)]) (hD : D_X5_make_36 K36 Q o x2 x3 x4 σ) : W p l e rm_X5_make s m args below meth c H locs 0 0 (QMV G Q below args s) (F0 m 36 ls []) := by
  unfold D_X5_make_36 at hD
  refine lv_iload X.1 X.2.1 d_X5_make_36 (lv_at hl 3 rfl) ?_
  refine lv_aload_n X.1 X.2.1 d_X5_make_38 rfl (lv_at hl 0 rfl) ?_
  obtain ⟨q_39, hD⟩ := hD
  refine gf_5_0 X hw ho tb_237 q_39.1 d_X5_make_39 ?_
  refine gf_1_7 X hw q_39.2 tb_178 d_X5_make_42 ?_
  refine lv_icmp_ge (tgt := 122) X.1 X.2.1 d_X5_make_45 (by decide) (fun q_45 => ?_) (fun q_45 => ?_)
  · have hD := hD.1 q_45
    refine lv_iload_n X.1 X.2.1 d_X5_make_122 rfl (lv_at hl 2 rfl) ?_
    refine lv_if_eq (tgt := 137) X.1 X.2.1 d_X5_make_123 (by decide) (fun q_123 => ?_) (fun q_123 => ?_)
    · have hD := hD.1 q_123
      refine lv_aload_n X.1 X.2.1 d_X5_make_137 rfl (lv_at hl 0 rfl) ?_
      refine gf_5_3 X hw ho tb_250 d_X5_make_138 ?_
      refine lv_bipush (v := 60) X.1 X.2.1 d_X5_make_141 (by decide) ?_
      refine lv_icmp_lt (tgt := 154) X.1 X.2.1 d_X5_make_143 (by decide) (fun q_143 => ?_) (fun q_143 => ?_)
      · have hD := hD.1 q_143
        exact g_vret X hr hlk hw hD d_X5_make_154
      · have hD := hD.2 q_143
        refine lv_aload_n X.1 X.2.1 d_X5_make_146 rfl (lv_at hl 0 rfl) ?_
        refine lv_iconst (v := 3) X.1 X.2.1 d_X5_make_147 (by decide) ?_
        refine lv_iconst (v := 2) X.1 X.2.1 d_X5_make_148 (by decide) ?_
        refine lv_bipush (v := (-9)) X.1 X.2.1 d_X5_make_149 (by decide) ?_
        refine gcV_v (rest := []) (As := [.int 3, .int 2, .int (-9)]) (o := o) X hw (c_X5_close l G o 3 2 (-9) σ _ ho hD) (kd_lt ho (by decide)) (ce_5 G _ ho) rfl tb_569 tb_571 tv_21 tb_9 tb_572 hd_X5_close ⟨rfl, rfl⟩ ⟨Nat.le_of_ble_eq_true rfl, Nat.le_of_ble_eq_true rfl⟩ rfl hl.1 rfl (Nat.le_of_ble_eq_true rfl) d_X5_make_151 (fun σ_1 H locs hD hw => ?_)
        exact g_vret X hr hlk hw hD d_X5_make_154
    · have hD := hD.2 q_123
      refine lv_aload_n X.1 X.2.1 d_X5_make_126 rfl (lv_at hl 0 rfl) ?_
      refine lv_iconst (v := 2) X.1 X.2.1 d_X5_make_127 (by decide) ?_
      refine lv_iconst (v := 2) X.1 X.2.1 d_X5_make_128 (by decide) ?_
      refine lv_bipush (v := (-9)) X.1 X.2.1 d_X5_make_129 (by decide) ?_
      refine gcV_v (rest := []) (As := [.int 2, .int 2, .int (-9)]) (o := o) X hw (c_X5_close l G o 2 2 (-9) σ _ ho hD) (kd_lt ho (by decide)) (ce_5 G _ ho) rfl tb_569 tb_571 tv_21 tb_9 tb_572 hd_X5_close ⟨rfl, rfl⟩ ⟨Nat.le_of_ble_eq_true rfl, Nat.le_of_ble_eq_true rfl⟩ rfl hl.1 rfl (Nat.le_of_ble_eq_true rfl) d_X5_make_131 (fun σ_2 H locs hD hw => ?_)
      refine lv_goto (tgt := 154) X.1 X.2.1 d_X5_make_134 (by decide) ?_
      exact g_vret X hr hlk hw hD d_X5_make_154
  · have hD := hD.2 q_45
    refine lv_aload_n X.1 X.2.1 d_X5_make_48 rfl (lv_at hl 0 rfl) ?_
    refine lv_aload_n X.1 X.2.1 d_X5_make_49 rfl (lv_at hl 0 rfl) ?_
    obtain ⟨q_50, hD⟩ := hD
    refine gf_5_0 X hw ho tb_237 q_50.1 d_X5_make_50 ?_
    refine gf_1_6 X hw q_50.2 tb_173 d_X5_make_53 ?_
    refine lv_iload X.1 X.2.1 d_X5_make_56 (lv_at hl 3 rfl) ?_
    obtain ⟨q_58, hD⟩ := hD
    refine g_aald15 X hw (ly_1_6 q_50.2).1 q_58 d_X5_make_58 ?_
    refine lv_iload_n X.1 X.2.1 d_X5_make_59 rfl (lv_at hl 1 rfl) ?_
    refine lv_iload_n X.1 X.2.1 d_X5_make_60 rfl (lv_at hl 2 rfl) ?_
    refine gcV_i (rest := []) (As := [.ref (G.2.1 ((((σ o 0).toNatClampNeg) + 9) + 2 + 2 * Int32.toNatClampNeg x4)), .int x2, .int x3]) (o := o) X hw (c_X5_holds l G o ((((σ o 0).toNatClampNeg) + 9) + 2 + 2 * Int32.toNatClampNeg x4) x2 x3 σ _ ho (le_15 (ly_1_6 q_50.2).1 q_58) hD) (kd_lt ho (by decide)) (ce_5 G _ ho) rfl tb_619 tb_621 tv_24 tb_9 tb_622 hd_X5_holds ⟨rfl, rfl⟩ ⟨Nat.le_of_ble_eq_true rfl, Nat.le_of_ble_eq_true rfl⟩ rfl hl.1 rfl (Nat.le_of_ble_eq_true rfl) d_X5_make_61 (fun r_3 σ_4 H locs hD hw => ?_)
    refine lv_if_eq (tgt := 116) X.1 X.2.1 d_X5_make_64 (by decide) (fun q_64 => ?_) (fun q_64 => ?_)
    · have hD := hD.1 q_64
      obtain ⟨x4_5, e_x4_5⟩ : ∃ y : Int32, y = x4 + 1 := ⟨_, rfl⟩
      have hD := hD x4_5 e_x4_5
      refine lv_iinc (v := x4_5) (lv' := [(4, .int x4_5), (0, .ref (G.2.1 o)), (2, .int x2), (3, .int x3)]) X.1 X.2.1 d_X5_make_116 hl (k := 3) rfl (by rw [e_x4_5]; rfl) (by decide) rfl (fun ls hl => ?_)
      refine lv_goto (tgt := 36) X.1 X.2.1 d_X5_make_119 (by decide) ?_
      exact hK36 x2 x3 x4_5 σ_4 _ _ _  hw (lv_sub hl [1, 2, 3, 0] rfl) hD
    · have hD := hD.2 q_64
      refine lv_aload_n X.1 X.2.1 d_X5_make_67 rfl (lv_at hl 0 rfl) ?_
      obtain ⟨q_68, hD⟩ := hD
      refine gf_5_0 X hw ho tb_237 q_68.1 d_X5_make_68 ?_
      refine gf_1_6 X hw q_68.2 tb_173 d_X5_make_71 ?_
      refine lv_iload X.1 X.2.1 d_X5_make_74 (lv_at hl 3 rfl) ?_
      obtain ⟨q_76, hD⟩ := hD
      refine g_aald15 X hw (ly_1_6 q_68.2).1 q_76 d_X5_make_76 ?_
      refine gf_7_2 X hw (le_15 (ly_1_6 q_68.2).1 q_76) tb_132 d_X5_make_77 ?_
      refine lv_topi (fun x5_6 e_x5_6 => ?_)
      have hD := hD x5_6 e_x5_6
      refine lv_istore (lv' := [(5, .int x5_6), (0, .ref (G.2.1 o)), (2, .int x2), (3, .int x3), (4, .int x4)]) X.1 X.2.1 d_X5_make_80 hl (by decide) rfl (fun ls hl => ?_)
      refine lv_iload X.1 X.2.1 d_X5_make_82 (lv_at hl 0 rfl) ?_
      refine lv_if_ne (tgt := 91) X.1 X.2.1 d_X5_make_84 (by decide) (fun q_84 => ?_) (fun q_84 => ?_)
      · have hD := hD.1 q_84
        refine lv_iload X.1 X.2.1 d_X5_make_91 (lv_at hl 0 rfl) ?_
        refine lv_iconst (v := 1) X.1 X.2.1 d_X5_make_93 (by decide) ?_
        refine lv_icmp_ne (tgt := 103) X.1 X.2.1 d_X5_make_94 (by decide) (fun q_94 => ?_) (fun q_94 => ?_)
        · have hD := hD.1 q_94
          refine lv_iconst (v := 2) X.1 X.2.1 d_X5_make_103 (by decide) ?_
          exact s_X5_make_104 X hr hlk  Q o ho  x4 2 σ_4 hw (lv_sub hl [1, 4] rfl) hD
        · have hD := hD.2 q_94
          refine lv_iconst (v := 1) X.1 X.2.1 d_X5_make_97 (by decide) ?_
          refine lv_iload_n X.1 X.2.1 d_X5_make_98 rfl (lv_at hl 2 rfl) ?_
          refine lv_isub X.1 X.2.1 d_X5_make_99 ?_
          refine lv_goto (tgt := 104) X.1 X.2.1 d_X5_make_100 (by decide) ?_
          exact s_X5_make_104 X hr hlk  Q o ho  x4 (1 - x2) σ_4 hw (lv_sub hl [1, 4] rfl) hD
      · have hD := hD.2 q_84
        refine lv_iload_n X.1 X.2.1 d_X5_make_87 rfl (lv_at hl 2 rfl) ?_
        refine lv_goto (tgt := 104) X.1 X.2.1 d_X5_make_88 (by decide) ?_
        exact s_X5_make_104 X hr hlk  Q o ho  x4 x2 σ_4 hw (lv_sub hl [1, 4] rfl) hD
set_option maxRecDepth 20000 in
set_option maxHeartbeats 4000000 in
theorem sl_X5_make_36 {p : Program} {l : Launch} {e : Env} {s : State} {m : MethodId} {args : Array Value} {below : List Frame} {meth : Method} {c : Code} {G : GC} (X : CallFix p m c cm_X5_make 7 s args lw_us "GameLoom$Position") (hr : meth.sig.returnType = none) (hlk : meth.locks = false) (Q : GSt → Prop) (o : Nat) (ho : kd o = 5) : ∀ (nn : Nat), ∀ (x2 : Int32) (x3 : Int32) (x4 : Int32) (σ : GSt) (H : Heap) (locs : List Loc) (ls : Array Slot), Wo G s H locs σ → lv_has ls 7 [(0, .ref (G.2.1 o)), (2, .int x2), (3, .int x3), (4, .int x4)] → L_X5_make_36 Q o nn x2 x3 x4 σ → W p l e rm_X5_make s m args below meth c H locs 0 0 (QMV G Q below args s) (F0 m 36 ls []) := by
  intro nn
  induction nn with
  | zero => intro x2 x3 x4 σ H locs ls  hw hl hD; exact hD.elim
  | succ nn ih =>
    intro x2 x3 x4 σ H locs ls  hw hl hD
    exact s_X5_make_36 X hr hlk (L_X5_make_36 Q o nn) Q o ho ih x2 x3 x4 σ hw hl hD
set_option maxRecDepth 20000 in
set_option maxHeartbeats 4000000 in
theorem s_X5_make_32 {p : Program} {l : Launch} {e : Env} {s : State} {m : MethodId} {args : Array Value} {below : List Frame} {meth : Method} {c : Code} {G : GC} (X : CallFix p m c cm_X5_make 7 s args lw_us "GameLoom$Position") (hr : meth.sig.returnType = none) (hlk : meth.locks = false) (Q : GSt → Prop) (o : Nat) (ho : kd o = 5) (x2 : Int32) (s0 : Int32) (σ : GSt) {H : Heap} {locs : List Loc} {ls : Array Slot} (hw : Wo G s H locs σ) (hl : lv_has ls 7 [(0, .ref (G.2.1 o)), (2, .int x2)]) (hD : D_X5_make_32 Q o x2 s0 σ) : W p l e rm_X5_make s m args below meth c H locs 0 0 (QMV G Q below args s) (F0 m 32 ls [.int s0]) := by
  unfold D_X5_make_32 at hD
  refine lv_istore_n (lv' := [(3, .int s0), (0, .ref (G.2.1 o)), (2, .int x2)]) X.1 X.2.1 d_X5_make_32 rfl hl (by decide) rfl (fun ls hl => ?_)
  refine lv_iconst (v := 0) X.1 X.2.1 d_X5_make_33 (by decide) ?_
  refine lv_istore (lv' := [(4, .int 0), (3, .int s0), (0, .ref (G.2.1 o)), (2, .int x2)]) X.1 X.2.1 d_X5_make_34 hl (by decide) rfl (fun ls hl => ?_)
  obtain ⟨n9, hD⟩ := hD
  exact sl_X5_make_36 X hr hlk  Q o ho  n9 x2 s0 0 σ _ _ _  hw (lv_sub hl [2, 3, 1, 0] rfl) hD
set_option maxRecDepth 20000 in
set_option maxHeartbeats 4000000 in
theorem s_X5_make_0 {p : Program} {l : Launch} {e : Env} {s : State} {m : MethodId} {args : Array Value} {below : List Frame} {meth : Method} {c : Code} {G : GC} (X : CallFix p m c cm_X5_make 7 s args lw_us "GameLoom$Position") (hr : meth.sig.returnType = none) (hlk : meth.locks = false) (Q : GSt → Prop) (o : Nat) (ho : kd o = 5) (x1 : Int32) (σ : GSt) {H : Heap} {locs : List Loc} {ls : Array Slot} (hw : Wo G s H locs σ) (hl : lv_has ls 7 [(0, .ref (G.2.1 o)), (1, .int x1)]) (hD : D_X5_make_0 Q o x1 σ) : W p l e rm_X5_make s m args below meth c H locs 0 0 (QMV G Q below args s) (F0 m 0 ls []) := by
  unfold D_X5_make_0 at hD
  refine lv_aload_n X.1 X.2.1 d_X5_make_0 rfl (lv_at hl 0 rfl) ?_
  refine gcV_i (rest := []) (As := []) (o := o) X hw (c_X5_side l G o σ _ ho hD) (kd_lt ho (by decide)) (ce_5 G _ ho) rfl tb_607 tb_608 tb_609 tb_9 tb_610 hd_X5_side ⟨rfl, rfl⟩ ⟨Nat.le_of_ble_eq_true rfl, Nat.le_of_ble_eq_true rfl⟩ rfl hl.1 rfl (Nat.le_of_ble_eq_true rfl) d_X5_make_1 (fun r_1 σ_2 H locs hD hw => ?_)
  refine lv_istore_n (lv' := [(2, .int r_1), (0, .ref (G.2.1 o)), (1, .int x1)]) X.1 X.2.1 d_X5_make_4 rfl hl (by decide) rfl (fun ls hl => ?_)
  refine lv_aload_n X.1 X.2.1 d_X5_make_5 rfl (lv_at hl 1 rfl) ?_
  refine lv_iload_n X.1 X.2.1 d_X5_make_6 rfl (lv_at hl 2 rfl) ?_
  refine gcV_v (rest := []) (As := [.int x1]) (o := o) X hw (c_X5_shift l G o x1 σ_2 _ ho hD) (kd_lt ho (by decide)) (ce_5 G _ ho) rfl tb_611 tb_613 tv_23 tb_9 tb_614 hd_X5_shift ⟨rfl, rfl⟩ ⟨Nat.le_of_ble_eq_true rfl, Nat.le_of_ble_eq_true rfl⟩ rfl hl.1 rfl (Nat.le_of_ble_eq_true rfl) d_X5_make_7 (fun σ_3 H locs hD hw => ?_)
  refine lv_aload_n X.1 X.2.1 d_X5_make_10 rfl (lv_at hl 1 rfl) ?_
  refine lv_dup X.1 X.2.1 d_X5_make_11 rfl ?_
  refine gf_5_3 X hw ho tb_250 d_X5_make_12 ?_
  refine lv_iconst (v := 1) X.1 X.2.1 d_X5_make_15 (by decide) ?_
  refine lv_iadd X.1 X.2.1 d_X5_make_16 ?_
  refine pf_5_3 X hw ho tb_250 d_X5_make_17 (fun H locs hw => ?_)
  obtain ⟨σ_4, e_σ_4⟩ : ∃ z : GSt, z = up2 σ_3 o 3 ((σ_3 o 3) + 1) := ⟨_, rfl⟩
  rw [← e_σ_4] at hw
  have hD := hD σ_4 e_σ_4
  refine lv_aload_n X.1 X.2.1 d_X5_make_20 rfl (lv_at hl 1 rfl) ?_
  refine gcV_i (rest := []) (As := []) (o := o) X hw (c_X5_hasMove l G o σ_4 _ ho hD) (kd_lt ho (by decide)) (ce_5 G _ ho) rfl tb_555 tb_557 tv_19 tb_9 tb_558 hd_X5_hasMove ⟨rfl, rfl⟩ ⟨Nat.le_of_ble_eq_true rfl, Nat.le_of_ble_eq_true rfl⟩ rfl hl.1 rfl (Nat.le_of_ble_eq_true rfl) d_X5_make_21 (fun r_5 σ_6 H locs hD hw => ?_)
  refine lv_if_ne (tgt := 31) X.1 X.2.1 d_X5_make_24 (by decide) (fun q_24 => ?_) (fun q_24 => ?_)
  · have hD := hD.1 q_24
    refine lv_iconst (v := 0) X.1 X.2.1 d_X5_make_31 (by decide) ?_
    exact s_X5_make_32 X hr hlk  Q o ho  r_1 0 σ_6 hw (lv_sub hl [1, 0] rfl) hD
  · have hD := hD.2 q_24
    refine lv_iconst (v := 1) X.1 X.2.1 d_X5_make_27 (by decide) ?_
    refine lv_goto (tgt := 32) X.1 X.2.1 d_X5_make_28 (by decide) ?_
    exact s_X5_make_32 X hr hlk  Q o ho  r_1 1 σ_6 hw (lv_sub hl [1, 0] rfl) hD
theorem c_X5_make (l : Launch) (G : GC) (o : Nat) (x1 : Int32) (σ : GSt) (Q : GSt → Prop) (ho : kd o = 5) (hD : D_X5_make o x1 σ Q) : MV l ym_X5_make cm_X5_make 7 rm_X5_make G σ [.ref (G.2.1 o), .int x1] Q := by
  refine met_v (by decide) (Nat.le_of_ble_eq_true rfl) ?_
  intro p e s m args below meth c X hr hlk hw ls hl
  exact s_X5_make_0 X hr hlk Q o ho x1 σ hw (lv_sub hl [0, 1] rfl) hD
