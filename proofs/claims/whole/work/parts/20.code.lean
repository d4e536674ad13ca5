theorem hd_X11_oneMove : ym_X11_oneMove.cls = "GameLoomModel" ∧ ym_X11_oneMove.cls ≠ "java/lang/invoke/MethodHandle" ∧ ym_X11_oneMove.cls ≠ "java/lang/invoke/VarHandle" ∧ (parseMethodDescriptor ym_X11_oneMove.desc).map (fun d => d.parameters.length) = some 0 := by decide +kernel
abbrev rm_X11_oneMove : Room := { frames := 2, cells := 0, slots := 0, locals := 48 }
theorem d_X11_oneMove_0 : decode cm_X11_oneMove 0 = .ok (.bipush 6, 2) := by decide +kernel
theorem d_X11_oneMove_2 : decode cm_X11_oneMove 2 = .ok (.aload_n 0, 1) := by decide +kernel
theorem d_X11_oneMove_3 : decode cm_X11_oneMove 3 = .ok (.getfield 156, 3) := by decide +kernel
theorem d_X11_oneMove_6 : decode cm_X11_oneMove 6 = .ok (.imul, 1) := by decide +kernel
theorem d_X11_oneMove_7 : decode cm_X11_oneMove 7 = .ok (.aload_n 0, 1) := by decide +kernel
theorem d_X11_oneMove_8 : decode cm_X11_oneMove 8 = .ok (.getfield 40, 3) := by decide +kernel
theorem d_X11_oneMove_11 : decode cm_X11_oneMove 11 = .ok (.aload_n 0, 1) := by decide +kernel
theorem d_X11_oneMove_12 : decode cm_X11_oneMove 12 = .ok (.getfield 156, 3) := by decide +kernel
theorem d_X11_oneMove_15 : decode cm_X11_oneMove 15 = .ok (.iaload, 1) := by decide +kernel
theorem d_X11_oneMove_16 : decode cm_X11_oneMove 16 = .ok (.iadd, 1) := by decide +kernel
theorem d_X11_oneMove_17 : decode cm_X11_oneMove 17 = .ok (.istore_n 1, 1) := by decide +kernel
theorem d_X11_oneMove_18 : decode cm_X11_oneMove 18 = .ok (.aload_n 0, 1) := by decide +kernel
theorem d_X11_oneMove_19 : decode cm_X11_oneMove 19 = .ok (.invokevirtual 159, 3) := by decide +kernel
theorem d_X11_oneMove_22 : decode cm_X11_oneMove 22 = .ok (.istore_n 2, 1) := by decide +kernel
theorem d_X11_oneMove_23 : decode cm_X11_oneMove 23 = .ok (.aload_n 0, 1) := by decide +kernel
theorem d_X11_oneMove_24 : decode cm_X11_oneMove 24 = .ok (.getfield 40, 3) := by decide +kernel
theorem d_X11_oneMove_27 : decode cm_X11_oneMove 27 = .ok (.aload_n 0, 1) := by decide +kernel
theorem d_X11_oneMove_28 : decode cm_X11_oneMove 28 = .ok (.getfield 156, 3) := by decide +kernel
theorem d_X11_oneMove_31 : decode cm_X11_oneMove 31 = .ok (.iaload, 1) := by decide +kernel
theorem d_X11_oneMove_32 : decode cm_X11_oneMove 32 = .ok (.bipush 6, 2) := by decide +kernel
theorem d_X11_oneMove_34 : decode cm_X11_oneMove 34 = .ok (.if_icmp .eq 33, 3) := by decide +kernel
theorem d_X11_oneMove_37 : decode cm_X11_oneMove 37 = .ok (.iload_n 2, 1) := by decide +kernel
theorem d_X11_oneMove_38 : decode cm_X11_oneMove 38 = .ok (.bipush 112, 2) := by decide +kernel
theorem d_X11_oneMove_40 : decode cm_X11_oneMove 40 = .ok (.if_icmp .eq 29, 3) := by decide +kernel
theorem d_X11_oneMove_43 : decode cm_X11_oneMove 43 = .ok (.iload_n 2, 1) := by decide +kernel
theorem d_X11_oneMove_44 : decode cm_X11_oneMove 44 = .ok (.bipush 115, 2) := by decide +kernel
theorem d_X11_oneMove_46 : decode cm_X11_oneMove 46 = .ok (.if_icmp .eq 23, 3) := by decide +kernel
theorem d_X11_oneMove_49 : decode cm_X11_oneMove 49 = .ok (.iload_n 2, 1) := by decide +kernel
theorem d_X11_oneMove_50 : decode cm_X11_oneMove 50 = .ok (.bipush 104, 2) := by decide +kernel
theorem d_X11_oneMove_52 : decode cm_X11_oneMove 52 = .ok (.if_icmp .eq 17, 3) := by decide +kernel
theorem d_X11_oneMove_55 : decode cm_X11_oneMove 55 = .ok (.iload_n 2, 1) := by decide +kernel
theorem d_X11_oneMove_56 : decode cm_X11_oneMove 56 = .ok (.bipush 116, 2) := by decide +kernel
theorem d_X11_oneMove_58 : decode cm_X11_oneMove 58 = .ok (.if_icmp .eq 11, 3) := by decide +kernel
theorem d_X11_oneMove_61 : decode cm_X11_oneMove 61 = .ok (.iload_n 2, 1) := by decide +kernel
theorem d_X11_oneMove_62 : decode cm_X11_oneMove 62 = .ok (.bipush 117, 2) := by decide +kernel
theorem d_X11_oneMove_64 : decode cm_X11_oneMove 64 = .ok (.if_icmp .eq 5, 3) := by decide +kernel
theorem d_X11_oneMove_67 : decode cm_X11_oneMove 67 = .ok (.iconst 0, 1) := by decide +kernel
theorem d_X11_oneMove_68 : decode cm_X11_oneMove 68 = .ok (.ireturn, 1) := by decide +kernel
theorem d_X11_oneMove_69 : decode cm_X11_oneMove 69 = .ok (.aload_n 0, 1) := by decide +kernel
theorem d_X11_oneMove_70 : decode cm_X11_oneMove 70 = .ok (.getfield 31, 3) := by decide +kernel
theorem d_X11_oneMove_73 : decode cm_X11_oneMove 73 = .ok (.iload_n 1, 1) := by decide +kernel
theorem d_X11_oneMove_74 : decode cm_X11_oneMove 74 = .ok (.iload_n 2, 1) := by decide +kernel
theorem d_X11_oneMove_75 : decode cm_X11_oneMove 75 = .ok (.iastore, 1) := by decide +kernel
theorem d_X11_oneMove_76 : decode cm_X11_oneMove 76 = .ok (.aload_n 0, 1) := by decide +kernel
theorem d_X11_oneMove_77 : decode cm_X11_oneMove 77 = .ok (.getfield 37, 3) := by decide +kernel
theorem d_X11_oneMove_80 : decode cm_X11_oneMove 80 = .ok (.iload_n 1, 1) := by decide +kernel
theorem d_X11_oneMove_81 : decode cm_X11_oneMove 81 = .ok (.aload_n 0, 1) := by decide +kernel
theorem d_X11_oneMove_82 : decode cm_X11_oneMove 82 = .ok (.getfield 153, 3) := by decide +kernel
theorem d_X11_oneMove_85 : decode cm_X11_oneMove 85 = .ok (.iastore, 1) := by decide +kernel
theorem d_X11_oneMove_86 : decode cm_X11_oneMove 86 = .ok (.aload_n 0, 1) := by decide +kernel
theorem d_X11_oneMove_87 : decode cm_X11_oneMove 87 = .ok (.dup, 1) := by decide +kernel
theorem d_X11_oneMove_88 : decode cm_X11_oneMove 88 = .ok (.getfield 153, 3) := by decide +kernel
theorem d_X11_oneMove_91 : decode cm_X11_oneMove 91 = .ok (.iconst 1, 1) := by decide +kernel
theorem d_X11_oneMove_92 : decode cm_X11_oneMove 92 = .ok (.iadd, 1) := by decide +kernel
theorem d_X11_oneMove_93 : decode cm_X11_oneMove 93 = .ok (.putfield 153, 3) := by decide +kernel
theorem d_X11_oneMove_96 : decode cm_X11_oneMove 96 = .ok (.iload_n 2, 1) := by decide +kernel
theorem d_X11_oneMove_97 : decode cm_X11_oneMove 97 = .ok (.bipush 112, 2) := by decide +kernel
theorem d_X11_oneMove_99 : decode cm_X11_oneMove 99 = .ok (.if_icmp .ne 27, 3) := by decide +kernel
theorem d_X11_oneMove_102 : decode cm_X11_oneMove 102 = .ok (.aload_n 0, 1) := by decide +kernel
theorem d_X11_oneMove_103 : decode cm_X11_oneMove 103 = .ok (.getfield 34, 3) := by decide +kernel
theorem d_X11_oneMove_106 : decode cm_X11_oneMove 106 = .ok (.iload_n 1, 1) := by decide +kernel
theorem d_X11_oneMove_107 : decode cm_X11_oneMove 107 = .ok (.aload_n 0, 1) := by decide +kernel
theorem d_X11_oneMove_108 : decode cm_X11_oneMove 108 = .ok (.iconst 0, 1) := by decide +kernel
theorem d_X11_oneMove_109 : decode cm_X11_oneMove 109 = .ok (.bipush 9, 2) := by decide +kernel
theorem d_X11_oneMove_111 : decode cm_X11_oneMove 111 = .ok (.invokevirtual 171, 3) := by decide +kernel
theorem d_X11_oneMove_114 : decode cm_X11_oneMove 114 = .ok (.iastore, 1) := by decide +kernel
theorem d_X11_oneMove_115 : decode cm_X11_oneMove 115 = .ok (.aload_n 0, 1) := by decide +kernel
theorem d_X11_oneMove_116 : decode cm_X11_oneMove 116 = .ok (.getfield 34, 3) := by decide +kernel
theorem d_X11_oneMove_119 : decode cm_X11_oneMove 119 = .ok (.iload_n 1, 1) := by decide +kernel
theorem d_X11_oneMove_120 : decode cm_X11_oneMove 120 = .ok (.iaload, 1) := by decide +kernel
theorem d_X11_oneMove_121 : decode cm_X11_oneMove 121 = .ok (.ifCond .ge 47, 3) := by decide +kernel
theorem d_X11_oneMove_124 : decode cm_X11_oneMove 124 = .ok (.iconst 0, 1) := by decide +kernel
theorem d_X11_oneMove_125 : decode cm_X11_oneMove 125 = .ok (.ireturn, 1) := by decide +kernel
theorem d_X11_oneMove_126 : decode cm_X11_oneMove 126 = .ok (.aload_n 0, 1) := by decide +kernel
theorem d_X11_oneMove_127 : decode cm_X11_oneMove 127 = .ok (.invokevirtual 159, 3) := by decide +kernel
theorem d_X11_oneMove_130 : decode cm_X11_oneMove 130 = .ok (.istore_n 3, 1) := by decide +kernel
theorem d_X11_oneMove_131 : decode cm_X11_oneMove 131 = .ok (.iload_n 3, 1) := by decide +kernel
theorem d_X11_oneMove_132 : decode cm_X11_oneMove 132 = .ok (.bipush 111, 2) := by decide +kernel
theorem d_X11_oneMove_134 : decode cm_X11_oneMove 134 = .ok (.if_icmp .eq 17, 3) := by decide +kernel
theorem d_X11_oneMove_137 : decode cm_X11_oneMove 137 = .ok (.iload_n 3, 1) := by decide +kernel
theorem d_X11_oneMove_138 : decode cm_X11_oneMove 138 = .ok (.bipush 100, 2) := by decide +kernel
theorem d_X11_oneMove_140 : decode cm_X11_oneMove 140 = .ok (.if_icmp .eq 11, 3) := by decide +kernel
theorem d_X11_oneMove_143 : decode cm_X11_oneMove 143 = .ok (.iload_n 3, 1) := by decide +kernel
theorem d_X11_oneMove_144 : decode cm_X11_oneMove 144 = .ok (.bipush 113, 2) := by decide +kernel
theorem d_X11_oneMove_146 : decode cm_X11_oneMove 146 = .ok (.if_icmp .eq 5, 3) := by decide +kernel
theorem d_X11_oneMove_149 : decode cm_X11_oneMove 149 = .ok (.iconst 0, 1) := by decide +kernel
theorem d_X11_oneMove_150 : decode cm_X11_oneMove 150 = .ok (.ireturn, 1) := by decide +kernel
theorem d_X11_oneMove_151 : decode cm_X11_oneMove 151 = .ok (.aload_n 0, 1) := by decide +kernel
theorem d_X11_oneMove_152 : decode cm_X11_oneMove 152 = .ok (.getfield 34, 3) := by decide +kernel
theorem d_X11_oneMove_155 : decode cm_X11_oneMove 155 = .ok (.iload_n 1, 1) := by decide +kernel
theorem d_X11_oneMove_156 : decode cm_X11_oneMove 156 = .ok (.iload_n 3, 1) := by decide +kernel
theorem d_X11_oneMove_157 : decode cm_X11_oneMove 157 = .ok (.iastore, 1) := by decide +kernel
theorem d_X11_oneMove_158 : decode cm_X11_oneMove 158 = .ok (.aload_n 0, 1) := by decide +kernel
theorem d_X11_oneMove_159 : decode cm_X11_oneMove 159 = .ok (.dup, 1) := by decide +kernel
theorem d_X11_oneMove_160 : decode cm_X11_oneMove 160 = .ok (.getfield 153, 3) := by decide +kernel
theorem d_X11_oneMove_163 : decode cm_X11_oneMove 163 = .ok (.iconst 1, 1) := by decide +kernel
theorem d_X11_oneMove_164 : decode cm_X11_oneMove 164 = .ok (.iadd, 1) := by decide +kernel
theorem d_X11_oneMove_165 : decode cm_X11_oneMove 165 = .ok (.putfield 153, 3) := by decide +kernel
theorem d_X11_oneMove_168 : decode cm_X11_oneMove 168 = .ok (.aload_n 0, 1) := by decide +kernel
theorem d_X11_oneMove_169 : decode cm_X11_oneMove 169 = .ok (.getfield 64, 3) := by decide +kernel
theorem d_X11_oneMove_172 : decode cm_X11_oneMove 172 = .ok (.iload_n 1, 1) := by decide +kernel
theorem d_X11_oneMove_173 : decode cm_X11_oneMove 173 = .ok (.aload_n 0, 1) := by decide +kernel
theorem d_X11_oneMove_174 : decode cm_X11_oneMove 174 = .ok (.bipush 33, 2) := by decide +kernel
theorem d_X11_oneMove_176 : decode cm_X11_oneMove 176 = .ok (.invokevirtual 167, 3) := by decide +kernel
theorem d_X11_oneMove_179 : decode cm_X11_oneMove 179 = .ok (.bastore, 1) := by decide +kernel
theorem d_X11_oneMove_180 : decode cm_X11_oneMove 180 = .ok (.aload_n 0, 1) := by decide +kernel
theorem d_X11_oneMove_181 : decode cm_X11_oneMove 181 = .ok (.getfield 40, 3) := by decide +kernel
theorem d_X11_oneMove_184 : decode cm_X11_oneMove 184 = .ok (.aload_n 0, 1) := by decide +kernel
theorem d_X11_oneMove_185 : decode cm_X11_oneMove 185 = .ok (.getfield 156, 3) := by decide +kernel
theorem d_X11_oneMove_188 : decode cm_X11_oneMove 188 = .ok (.dup2, 1) := by decide +kernel
theorem d_X11_oneMove_189 : decode cm_X11_oneMove 189 = .ok (.iaload, 1) := by decide +kernel
theorem d_X11_oneMove_190 : decode cm_X11_oneMove 190 = .ok (.iconst 1, 1) := by decide +kernel
theorem d_X11_oneMove_191 : decode cm_X11_oneMove 191 = .ok (.iadd, 1) := by decide +kernel
theorem d_X11_oneMove_192 : decode cm_X11_oneMove 192 = .ok (.iastore, 1) := by decide +kernel
theorem d_X11_oneMove_193 : decode cm_X11_oneMove 193 = .ok (.iconst 1, 1) := by decide +kernel
theorem d_X11_oneMove_194 : decode cm_X11_oneMove 194 = .ok (.ireturn, 1) := by decide +kernel
def D_X11_oneMove_168 (Q : Int32 → GSt → Prop) (x1 : Int32) (σ : GSt) : Prop :=
  D_X11_takes 33 σ (fun r_1 σ_2 => vp_in x1 54 ∧ ((r_1 = 0 ∨ r_1 = 1) ∧ (∀ σ_3 : GSt, σ_3 = up2 σ_2 256 (Int32.toNatClampNeg x1) r_1 → (vp_in (σ_3 237 22) 9 ∧ (vp_in (σ_3 237 22) 9 ∧ (∀ σ_4 : GSt, σ_4 = up2 σ_3 248 (Int32.toNatClampNeg (σ_3 237 22)) ((σ_3 248 (Int32.toNatClampNeg (σ_3 237 22))) + 1) → (Q 1 σ_4)))))))
def D_X11_oneMove_151 (Q : Int32 → GSt → Prop) (x1 : Int32) (x3 : Int32) (σ : GSt) : Prop :=
  vp_in x1 54 ∧ (∀ σ_1 : GSt, σ_1 = up2 σ 246 (Int32.toNatClampNeg x1) x3 → (∀ σ_2 : GSt, σ_2 = up2 σ_1 237 21 ((σ_1 237 21) + 1) → (D_X11_oneMove_168 Q x1 σ_2)))
def D_X11_oneMove_69 (Q : Int32 → GSt → Prop) (x1 : Int32) (x2 : Int32) (σ : GSt) : Prop :=
  vp_in x1 54 ∧ (∀ σ_1 : GSt, σ_1 = up2 σ 245 (Int32.toNatClampNeg x1) x2 → (vp_in x1 54 ∧ (∀ σ_2 : GSt, σ_2 = up2 σ_1 247 (Int32.toNatClampNeg x1) (σ_1 237 21) → (∀ σ_3 : GSt, σ_3 = up2 σ_2 237 21 ((σ_2 237 21) + 1) → ((¬ x2 = 112 → D_X11_sign  σ_3 (fun r_4 σ_5 => (r_4 = 111 → D_X11_oneMove_151 Q x1 r_4 σ_5) ∧
  (¬ r_4 = 111 → (r_4 = 100 → D_X11_oneMove_151 Q x1 r_4 σ_5) ∧
  (¬ r_4 = 100 → (r_4 = 113 → D_X11_oneMove_151 Q x1 r_4 σ_5) ∧
  (¬ r_4 = 113 → Q 0 σ_5))))) ∧
  (x2 = 112 → D_X11_digit 0 9 σ_3 (fun r_6 σ_7 => vp_in x1 54 ∧ (∀ σ_8 : GSt, σ_8 = up2 σ_7 246 (Int32.toNatClampNeg x1) r_6 → (vp_in x1 54 ∧ ((0 ≤ (σ_8 246 (Int32.toNatClampNeg x1)) → D_X11_oneMove_168 Q x1 σ_8) ∧
  (¬ 0 ≤ (σ_8 246 (Int32.toNatClampNeg x1)) → Q 0 σ_8)))))))))))
def D_X11_oneMove_0 (Q : Int32 → GSt → Prop) (σ : GSt) : Prop :=
  vp_in (σ 237 22) 9 ∧ (∀ x1_1 : Int32, x1_1 = ((6 * (σ 237 22)) + (σ 248 (Int32.toNatClampNeg (σ 237 22)))) → (D_X11_sign  σ (fun r_2 σ_3 => vp_in (σ_3 237 22) 9 ∧ (((σ_3 248 (Int32.toNatClampNeg (σ_3 237 22))) = 6 → Q 0 σ_3) ∧
  (¬ (σ_3 248 (Int32.toNatClampNeg (σ_3 237 22))) = 6 → (r_2 = 112 → D_X11_oneMove_69 Q x1_1 r_2 σ_3) ∧
  (¬ r_2 = 112 → (r_2 = 115 → D_X11_oneMove_69 Q x1_1 r_2 σ_3) ∧
  (¬ r_2 = 115 → (r_2 = 104 → D_X11_oneMove_69 Q x1_1 r_2 σ_3) ∧
  (¬ r_2 = 104 → (r_2 = 116 → D_X11_oneMove_69 Q x1_1 r_2 σ_3) ∧
  (¬ r_2 = 116 → (r_2 = 117 → D_X11_oneMove_69 Q x1_1 r_2 σ_3) ∧
  (¬ r_2 = 117 → Q 0 σ_3))))))))))
def D_X11_oneMove (σ : GSt) (Q : Int32 → GSt → Prop) : Prop := D_X11_oneMove_0 Q σ
set_option maxRecDepth 20000 in
set_option maxHeartbeats 4000000 in
theorem s_X11_oneMove_168 {p : Program} {l : Launch} {e : Env} {s : State} {m : MethodId} {args : Array Value} {below : List Frame} {meth : Method} {c : Code} {G : GC} (X : CallFix p m c cm_X11_oneMove 4 s args lw_us "GameLoomModel") (hr : meth.sig.returnType = some .boolean) (hlk : meth.locks = false) (Q : Int32 → GSt → Prop) (x1 : Int32) (σ : GSt) {H : Heap} {locs : List Loc} {ls : Array Slot} (hw : Wo G s H locs σ) (hl : lv_has ls 4 [(0, .ref (G.2.1 237)), (1, .int x1)]) (hD : D_X11_oneMove_168 Q x1 σ) : W p l e rm_X11_oneMove s m args below meth c H locs 0 0 (QMI G Q below args s) (F0 m 168 ls []) := by
  unfold D_X11_oneMove_168 at hD
  refine lv_aload_n X.1 X.2.1 d_X11_oneMove_168 rfl (lv_at hl 0 rfl) ?_
  refine gf_11_18 X hw (by decide +kernel : kd 237 = 11) tb_924 d_X11_oneMove_169 ?_
  refine lv_iload_n X.1 X.2.1 d_X11_oneMove_172 rfl (lv_at hl 1 rfl) ?_
  refine lv_aload_n X.1 X.2.1 d_X11_oneMove_173 rfl (lv_at hl 0 rfl) ?_
  refine lv_bipush (v := 33) X.1 X.2.1 d_X11_oneMove_174 (by decide) ?_
  refine gcV_i (rest := [.int x1, .ref (G.2.1 256)]) (As := [.int 33]) (o := 237) X hw (c_X11_takes l G 33 σ _  hD) (kd_lt (by decide +kernel : kd 237 = 11) (by decide)) (ce_11 G _ (by decide +kernel : kd 237 = 11)) rfl tb_1113 tb_1115 tv_41 tb_12 tb_1116 hd_X11_takes ⟨rfl, rfl⟩ ⟨Nat.le_of_ble_eq_true rfl, Nat.le_of_ble_eq_true rfl⟩ rfl hl.1 rfl (Nat.le_of_ble_eq_true rfl) d_X11_oneMove_176 (fun r_1 σ_2 H locs hD hw => ?_)
  obtain ⟨q_179, hD⟩ := hD
  obtain ⟨qb_179, hD⟩ := hD
  refine g_zast X hw ly_11_18.1 ly_11_18.2 q_179 qb_179 d_X11_oneMove_179 (fun H locs hw => ?_)
  obtain ⟨σ_3, e_σ_3⟩ : ∃ z : GSt, z = up2 σ_2 256 (Int32.toNatClampNeg x1) r_1 := ⟨_, rfl⟩
  rw [← e_σ_3] at hw
  have hD := hD σ_3 e_σ_3
  refine lv_aload_n X.1 X.2.1 d_X11_oneMove_180 rfl (lv_at hl 0 rfl) ?_
  refine gf_11_10 X hw (by decide +kernel : kd 237 = 11) tb_916 d_X11_oneMove_181 ?_
  refine lv_aload_n X.1 X.2.1 d_X11_oneMove_184 rfl (lv_at hl 0 rfl) ?_
  refine gf_11_22 X hw (by decide +kernel : kd 237 = 11) tb_928 d_X11_oneMove_185 ?_
  refine lv_dup2_11 X.1 X.2.1 d_X11_oneMove_188 rfl rfl ?_
  obtain ⟨q_189, hD⟩ := hD
  refine g_iald X hw ly_11_10.1 ly_11_10.2 q_189 d_X11_oneMove_189 ?_
  refine lv_iconst (v := 1) X.1 X.2.1 d_X11_oneMove_190 (by decide) ?_
  refine lv_iadd X.1 X.2.1 d_X11_oneMove_191 ?_
  obtain ⟨q_192, hD⟩ := hD
  refine g_iast X hw ly_11_10.1 ly_11_10.2 q_192 d_X11_oneMove_192 (fun H locs hw => ?_)
  obtain ⟨σ_4, e_σ_4⟩ : ∃ z : GSt, z = up2 σ_3 248 (Int32.toNatClampNeg (σ_3 237 22)) ((σ_3 248 (Int32.toNatClampNeg (σ_3 237 22))) + 1) := ⟨_, rfl⟩
  rw [← e_σ_4] at hw
  have hD := hD σ_4 e_σ_4
  refine lv_iconst (v := 1) X.1 X.2.1 d_X11_oneMove_193 (by decide) ?_
  exact g_zret X hr hlk hw (by decide) hD d_X11_oneMove_194
set_option maxRecDepth 20000 in
set_option maxHeartbeats 4000000 in
theorem s_X11_oneMove_151 {p : Program} {l : Launch} {e : Env} {s : State} {m : MethodId} {args : Array Value} {below : List Frame} {meth : Method} {c : Code} {G : GC} (X : CallFix p m c cm_X11_oneMove 4 s args lw_us "GameLoomModel") (hr : meth.sig.returnType = some .boolean) (hlk : meth.locks = false) (Q : Int32 → GSt → Prop) (x1 : Int32) (x3 : Int32) (σ : GSt) {H : Heap} {locs : List Loc} {ls : Array Slot} (hw : Wo G s H locs σ) (hl : lv_has ls 4 [(0, .ref (G.2.1 237)), (1, .int x1), (3, .int x3)]) (hD : D_X11_oneMove_151 Q x1 x3 σ) : W p l e rm_X11_oneMove s m args below meth c H locs 0 0 (QMI G Q below args s) (F0 m 151 ls []) := by
  unfold D_X11_oneMove_151 at hD
  refine lv_aload_n X.1 X.2.1 d_X11_oneMove_151 rfl (lv_at hl 0 rfl) ?_
  refine gf_11_8 X hw (by decide +kernel : kd 237 = 11) tb_914 d_X11_oneMove_152 ?_
  refine lv_iload_n X.1 X.2.1 d_X11_oneMove_155 rfl (lv_at hl 1 rfl) ?_
  refine lv_iload_n X.1 X.2.1 d_X11_oneMove_156 rfl (lv_at hl 2 rfl) ?_
  obtain ⟨q_157, hD⟩ := hD
  refine g_iast X hw ly_11_8.1 ly_11_8.2 q_157 d_X11_oneMove_157 (fun H locs hw => ?_)
  obtain ⟨σ_1, e_σ_1⟩ : ∃ z : GSt, z = up2 σ 246 (Int32.toNatClampNeg x1) x3 := ⟨_, rfl⟩
  rw [← e_σ_1] at hw
  have hD := hD σ_1 e_σ_1
  refine lv_aload_n X.1 X.2.1 d_X11_oneMove_158 rfl (lv_at hl 0 rfl) ?_
  refine lv_dup X.1 X.2.1 d_X11_oneMove_159 rfl ?_
  refine gf_11_21 X hw (by decide +kernel : kd 237 = 11) tb_927 d_X11_oneMove_160 ?_
  refine lv_iconst (v := 1) X.1 X.2.1 d_X11_oneMove_163 (by decide) ?_
  refine lv_iadd X.1 X.2.1 d_X11_oneMove_164 ?_
  refine pf_11_21 X hw (by decide +kernel : kd 237 = 11) tb_927 d_X11_oneMove_165 (fun H locs hw => ?_)
  obtain ⟨σ_2, e_σ_2⟩ : ∃ z : GSt, z = up2 σ_1 237 21 ((σ_1 237 21) + 1) := ⟨_, rfl⟩
  rw [← e_σ_2] at hw
  have hD := hD σ_2 e_σ_2
  exact s_X11_oneMove_168 X hr hlk  Q  x1 σ_2 hw (lv_sub hl [0, 1] rfl) hD
set_option maxRecDepth 20000 in
set_option maxHeartbeats 4000000 in
theorem s_X11_oneMove_69 {p : Program} {l : Launch} {e : Env} {s : State} {m : MethodId} {args : Array Value} {below : List Frame} {meth : Method} {c : Code} {G : GC} (X : CallFix p m c cm_X11_oneMove 4 s args lw_us "GameLoomModel") (hr : meth.sig.returnType = some .boolean) (hlk : meth.locks = false) (Q : Int32 → GSt → Prop) (x1 : Int32) (x2 : Int32) (σ : GSt) {H : Heap} {locs : List Loc} {ls : Array Slot} (hw : Wo G s H locs σ) (hl : lv_has ls 4 [(0, .ref (G.2.1 237)), (1, .int x1), (2, .int x2)]) (hD : D_X11_oneMove_69 Q x1 x2 σ) : W p l e rm_X11_oneMove s m args below meth c H locs 0 0 (QMI G Q below args s) (F0 m 69 ls []) := by
  unfold D_X11_oneMove_69 at hD
  refine lv_aload_n X.1 X.2.1 d_X11_oneMove_69 rfl (lv_at hl 0 rfl) ?_
  refine gf_11_7 X hw (by decide +kernel : kd 237 = 11) tb_913 d_X11_oneMove_70 ?_
  refine lv_iload_n X.1 X.2.1 d_X11_oneMove_73 rfl (lv_at hl 1 rfl) ?_
  refine lv_iload_n X.1 X.2.1 d_X11_oneMove_74 rfl (lv_at hl 2 rfl) ?_
  obtain ⟨q_75, hD⟩ := hD
  refine g_iast X hw ly_11_7.1 ly_11_7.2 q_75 d_X11_oneMove_75 (fun H locs hw => ?_)
  obtain ⟨σ_1, e_σ_1⟩ : ∃ z : GSt, z = up2 σ 245 (Int32.toNatClampNeg x1) x2 := ⟨_, rfl⟩
  rw [← e_σ_1] at hw
  have hD := hD σ_1 e_σ_1
  refine lv_aload_n X.1 X.2.1 d_X11_oneMove_76 rfl (lv_at hl 0 rfl) ?_
  refine gf_11_9 X hw (by decide +kernel : kd 237 = 11) tb_915 d_X11_oneMove_77 ?_
  refine lv_iload_n X.1 X.2.1 d_X11_oneMove_80 rfl (lv_at hl 1 rfl) ?_
  refine lv_aload_n X.1 X.2.1 d_X11_oneMove_81 rfl (lv_at hl 0 rfl) ?_
  refine gf_11_21 X hw (by decide +kernel : kd 237 = 11) tb_927 d_X11_oneMove_82 ?_
  obtain ⟨q_85, hD⟩ := hD
  refine g_iast X hw ly_11_9.1 ly_11_9.2 q_85 d_X11_oneMove_85 (fun H locs hw => ?_)
  obtain ⟨σ_2, e_σ_2⟩ : ∃ z : GSt, z = up2 σ_1 247 (Int32.toNatClampNeg x1) (σ_1 237 21) := ⟨_, rfl⟩
  rw [← e_σ_2] at hw
  have hD := hD σ_2 e_σ_2
  refine lv_aload_n X.1 X.2.1 d_X11_oneMove_86 rfl (lv_at hl 0 rfl) ?_
  refine lv_dup X.1 X.2.1 d_X11_oneMove_87 rfl ?_
  refine gf_11_21 X hw (by decide +kernel : kd 237 = 11) tb_927 d_X11_oneMove_88 ?_
  refine lv_iconst (v := 1) X.1 X.2.1 d_X11_oneMove_91 (by decide) ?_
  refine lv_iadd X.1 X.2.1 d_X11_oneMove_92 ?_
  refine pf_11_21 X hw (by decide +kernel : kd 237 = 11) tb_927 d_X11_oneMove_93 (fun H locs hw => ?_)
  obtain ⟨σ_3, e_σ_3⟩ : ∃ z : GSt, z = up2 σ_2 237 21 ((σ_2 237 21) + 1) := ⟨_, rfl⟩
  rw [← e_σ_3] at hw
  have hD := hD σ_3 e_σ_3
  refine lv_iload_n X.1 X.2.1 d_X11_oneMove_96 rfl (lv_at hl 2 rfl) ?_
  refine lv_bipush (v := 112) X.1 X.2.1 d_X11_oneMove_97 (by decide) ?_
  refine lv_icmp_ne (tgt := 126) X.1 X.2.1 d_X11_oneMove_99 (by decide) (fun q_99 => ?_) (fun q_99 => ?_)
  · have hD := hD.1 q_99
    refine lv_aload_n X.1 X.2.1 d_X11_oneMove_126 rfl (lv_at hl 0 rfl) ?_
    refine gcV_i (rest := []) (As := []) (o := 237) X hw (c_X11_sign l G  σ_3 _  hD) (kd_lt (by decide +kernel : kd 237 = 11) (by decide)) (ce_11 G _ (by decide +kernel : kd 237 = 11)) rfl tb_1117 tb_1119 tv_42 tb_12 tb_1120 hd_X11_sign ⟨rfl, rfl⟩ ⟨Nat.le_of_ble_eq_true rfl, Nat.le_of_ble_eq_true rfl⟩ rfl hl.1 rfl (Nat.le_of_ble_eq_true rfl) d_X11_oneMove_127 (fun r_4 σ_5 H locs hD hw => ?_)
    refine lv_istore_n (lv' := [(3, .int r_4), (0, .ref (G.2.1 237)), (1, .int x1), (2, .int x2)]) X.1 X.2.1 d_X11_oneMove_130 rfl hl (by decide) rfl (fun ls hl => ?_)
    refine lv_iload_n X.1 X.2.1 d_X11_oneMove_131 rfl (lv_at hl 0 rfl) ?_
    refine lv_bipush (v := 111) X.1 X.2.1 d_X11_oneMove_132 (by decide) ?_
    refine lv_icmp_eq (tgt := 151) X.1 X.2.1 d_X11_oneMove_134 (by decide) (fun q_134 => ?_) (fun q_134 => ?_)
    · have hD := hD.1 q_134
      exact s_X11_oneMove_151 X hr hlk  Q  x1 r_4 σ_5 hw (lv_sub hl [1, 2, 0] rfl) hD
    · have hD := hD.2 q_134
      refine lv_iload_n X.1 X.2.1 d_X11_oneMove_137 rfl (lv_at hl 0 rfl) ?_
      refine lv_bipush (v := 100) X.1 X.2.1 d_X11_oneMove_138 (by decide) ?_
      refine lv_icmp_eq (tgt := 151) X.1 X.2.1 d_X11_oneMove_140 (by decide) (fun q_140 => ?_) (fun q_140 => ?_)
      · have hD := hD.1 q_140
        exact s_X11_oneMove_151 X hr hlk  Q  x1 r_4 σ_5 hw (lv_sub hl [1, 2, 0] rfl) hD
      · have hD := hD.2 q_140
        refine lv_iload_n X.1 X.2.1 d_X11_oneMove_143 rfl (lv_at hl 0 rfl) ?_
        refine lv_bipush (v := 113) X.1 X.2.1 d_X11_oneMove_144 (by decide) ?_
        refine lv_icmp_eq (tgt := 151) X.1 X.2.1 d_X11_oneMove_146 (by decide) (fun q_146 => ?_) (fun q_146 => ?_)
        · have hD := hD.1 q_146
          exact s_X11_oneMove_151 X hr hlk  Q  x1 r_4 σ_5 hw (lv_sub hl [1, 2, 0] rfl) hD
        · have hD := hD.2 q_146
          refine lv_iconst (v := 0) X.1 X.2.1 d_X11_oneMove_149 (by decide) ?_
          exact g_zret X hr hlk hw (by decide) hD d_X11_oneMove_150
  · have hD := hD.2 q_99
    refine lv_aload_n X.1 X.2.1 d_X11_oneMove_102 rfl (lv_at hl 0 rfl) ?_
    refine gf_11_8 X hw (by decide +kernel : kd 237 = 11) tb_914 d_X11_oneMove_103 ?_
    refine lv_iload_n X.1 X.2.1 d_X11_oneMove_106 rfl (lv_at hl 1 rfl) ?_
    refine lv_aload_n X.1 X.2.1 d_X11_oneMove_107 rfl (lv_at hl 0 rfl) ?_
    refine lv_iconst (v := 0) X.1 X.2.1 d_X11_oneMove_108 (by decide) ?_
    refine lv_bipush (v := 9) X.1 X.2.1 d_X11_oneMove_109 (by decide) ?_
    refine gcV_i (rest := [.int x1, .ref (G.2.1 246)]) (As := [.int 0, .int 9]) (o := 237) X hw (c_X11_digit l G 0 9 σ_3 _  hD) (kd_lt (by decide +kernel : kd 237 = 11) (by decide)) (ce_11 G _ (by decide +kernel : kd 237 = 11)) rfl tb_1121 tb_1123 tv_43 tb_12 tb_1124 hd_X11_digit ⟨rfl, rfl⟩ ⟨Nat.le_of_ble_eq_true rfl, Nat.le_of_ble_eq_true rfl⟩ rfl hl.1 rfl (Nat.le_of_ble_eq_true rfl) d_X11_oneMove_111 (fun r_6 σ_7 H locs hD hw => ?_)
    obtain ⟨q_114, hD⟩ := hD
    refine g_iast X hw ly_11_8.1 ly_11_8.2 q_114 d_X11_oneMove_114 (fun H locs hw => ?_)
    obtain ⟨σ_8, e_σ_8⟩ : ∃ z : GSt, z = up2 σ_7 246 (Int32.toNatClampNeg x1) r_6 := ⟨_, rfl⟩
    rw [← e_σ_8] at hw
    have hD := hD σ_8 e_σ_8
    refine lv_aload_n X.1 X.2.1 d_X11_oneMove_115 rfl (lv_at hl 0 rfl) ?_
    refine gf_11_8 X hw (by decide +kernel : kd 237 = 11) tb_914 d_X11_oneMove_116 ?_
    refine lv_iload_n X.1 X.2.1 d_X11_oneMove_119 rfl (lv_at hl 1 rfl) ?_
    obtain ⟨q_120, hD⟩ := hD
    refine g_iald X hw ly_11_8.1 ly_11_8.2 q_120 d_X11_oneMove_120 ?_
    refine lv_if_ge (tgt := 168) X.1 X.2.1 d_X11_oneMove_121 (by decide) (fun q_121 => ?_) (fun q_121 => ?_)
    · have hD := hD.1 q_121
      exact s_X11_oneMove_168 X hr hlk  Q  x1 σ_8 hw (lv_sub hl [0, 1] rfl) hD
    · have hD := hD.2 q_121
      refine lv_iconst (v := 0) X.1 X.2.1 d_X11_oneMove_124 (by decide) ?_
      exact g_zret X hr hlk hw (by decide) hD d_X11_oneMove_125
set_option maxRecDepth 20000 in
set_option maxHeartbeats 4000000 in
theorem s_X11_oneMove_0 {p : Program} {l : Launch} {e : Env} {s : State} {m : MethodId} {args : Array Value} {below : List Frame} {meth : Method} {c : Code} {G : GC} (X : CallFix p m c cm_X11_oneMove 4 s args lw_us "GameLoomModel") (hr : meth.sig.returnType = some .boolean) (hlk : meth.locks = false) (Q : Int32 → GSt → Prop) (σ : GSt) {H : Heap} {locs : List Loc} {ls : Array Slot} (hw : Wo G s H locs σ) (hl : lv_has ls 4 [(0, .ref (G.2.1 237))]) (hD : D_X11_oneMove_0 Q σ) : W p l e rm_X11_oneMove s m args below meth c H locs 0 0 (QMI G Q below args s) (F0 m 0 ls []) := by
  unfold D_X11_oneMove_0 at hD
  refine lv_bipush (v := 6) X.1 X.2.1 d_X11_oneMove_0 (by decide) ?_
  refine lv_aload_n X.1 X.2.1 d_X11_oneMove_2 rfl (lv_at hl 0 rfl) ?_
  refine gf_11_22 X hw (by decide +kernel : kd 237 = 11) tb_928 d_X11_oneMove_3 ?_
  refine lv_imul X.1 X.2.1 d_X11_oneMove_6 ?_
  refine lv_aload_n X.1 X.2.1 d_X11_oneMove_7 rfl (lv_at hl 0 rfl) ?_
  refine gf_11_10 X hw (by decide +kernel : kd 237 = 11) tb_916 d_X11_oneMove_8 ?_
  refine lv_aload_n X.1 X.2.1 d_X11_oneMove_11 rfl (lv_at hl 0 rfl) ?_
  refine gf_11_22 X hw (by decide +kernel : kd 237 = 11) tb_928 d_X11_oneMove_12 ?_
  obtain ⟨q_15, hD⟩ := hD
  refine g_iald X hw ly_11_10.1 ly_11_10.2 q_15 d_X11_oneMove_15 ?_
  refine lv_iadd X.1 X.2.1 d_X11_oneMove_16 ?_
  refine lv_topi (fun x1_1 e_x1_1 => ?_)
  have hD := hD x1_1 e_x1_1
  refine lv_istore_n (lv' := [(1, .int x1_1), (0, .ref (G.2.1 237))]) X.1 X.2.1 d_X11_oneMove_17 rfl hl (by decide) rfl (fun ls hl => ?_)
  refine lv_aload_n X.1 X.2.1 d_X11_oneMove_18 rfl (lv_at hl 1 rfl) ?_
  refine gcV_i (rest := []) (As := []) (o := 237) X hw (c_X11_sign l G  σ _  hD) (kd_lt (by decide +kernel : kd 237 = 11) (by decide)) (ce_11 G _ (by decide +kernel : kd 237 = 11)) rfl tb_1117 tb_1119 tv_42 tb_12 tb_1120 hd_X11_sign ⟨rfl, rfl⟩ ⟨Nat.le_of_ble_eq_true rfl, Nat.le_of_ble_eq_true rfl⟩ rfl hl.1 rfl (Nat.le_of_ble_eq_true rfl) d_X11_oneMove_19 (fun r_2 σ_3 H locs hD hw => ?_)
  refine lv_istore_n (lv' := [(2, .int r_2), (1, .int x1_1), (0, .ref (G.2.1 237))]) X.1 X.2.1 d_X11_oneMove_22 rfl hl (by decide) rfl (fun ls hl => ?_)
  refine lv_aload_n X.1 X.2.1 d_X11_oneMove_23 rfl (lv_at hl 2 rfl) ?_
  refine gf_11_10 X hw (by decide +kernel : kd 237 = 11) tb_916 d_X11_oneMove_24 ?_
  refine lv_aload_n X.1 X.2.1 d_X11_oneMove_27 rfl (lv_at hl 2 rfl) ?_
  refine gf_11_22 X hw (by decide +kernel : kd 237 = 11) tb_928 d_X11_oneMove_28 ?_
  obtain ⟨q_31, hD⟩ := hD
  refine g_iald X hw ly_11_10.1 ly_11_10.2 q_31 d_X11_oneMove_31 ?_
  refine lv_bipush (v := 6) X.1 X.2.1 d_X11_oneMove_32 (by decide) ?_
  refine lv_icmp_eq (tgt := 67) X.1 X.2.1 d_X11_oneMove_34 (by decide) (fun q_34 => ?_) (fun q_34 => ?_)
  · have hD := hD.1 q_34
    refine lv_iconst (v := 0) X.1 X.2.1 d_X11_oneMove_67 (by decide) ?_
    exact g_zret X hr hlk hw (by decide) hD d_X11_oneMove_68
  · have hD := hD.2 q_34
    refine lv_iload_n X.1 X.2.1 d_X11_oneMove_37 rfl (lv_at hl 0 rfl) ?_
    refine lv_bipush (v := 112) X.1 X.2.1 d_X11_oneMove_38 (by decide) ?_
    refine lv_icmp_eq (tgt := 69) X.1 X.2.1 d_X11_oneMove_40 (by decide) (fun q_40 => ?_) (fun q_40 => ?_)
    · have hD := hD.1 q_40
      exact s_X11_oneMove_69 X hr hlk  Q  x1_1 r_2 σ_3 hw (lv_sub hl [2, 1, 0] rfl) hD
    · have hD := hD.2 q_40
      refine lv_iload_n X.1 X.2.1 d_X11_oneMove_43 rfl (lv_at hl 0 rfl) ?_
      refine lv_bipush (v := 115) X.1 X.2.1 d_X11_oneMove_44 (by decide) ?_
      refine lv_icmp_eq (tgt := 69) X.1 X.2.1 d_X11_oneMove_46 (by decide) (fun q_46 => ?_) (fun q_46 => ?_)
      · have hD := hD.1 q_46
        exact s_X11_oneMove_69 X hr hlk  Q  x1_1 r_2 σ_3 hw (lv_sub hl [2, 1, 0] rfl) hD
      · have hD := hD.2 q_46
        refine lv_iload_n X.1 X.2.1 d_X11_oneMove_49 rfl (lv_at hl 0 rfl) ?_
        refine lv_bipush (v := 104) X.1 X.2.1 d_X11_oneMove_50 (by decide) ?_
        refine lv_icmp_eq (tgt := 69) X.1 X.2.1 d_X11_oneMove_52 (by decide) (fun q_52 => ?_) (fun q_52 => ?_)
        · have hD := hD.1 q_52
          exact s_X11_oneMove_69 X hr hlk  Q  x1_1 r_2 σ_3 hw (lv_sub hl [2, 1, 0] rfl) hD
        · have hD := hD.2 q_52
          refine lv_iload_n X.1 X.2.1 d_X11_oneMove_55 rfl (lv_at hl 0 rfl) ?_
          refine lv_bipush (v := 116) X.1 X.2.1 d_X11_oneMove_56 (by decide) ?_
          refine lv_icmp_eq (tgt := 69) X.1 X.2.1 d_X11_oneMove_58 (by decide) (fun q_58 => ?_) (fun q_58 => ?_)
          · have hD := hD.1 q_58
            exact s_X11_oneMove_69 X hr hlk  Q  x1_1 r_2 σ_3 hw (lv_sub hl [2, 1, 0] rfl) hD
          · have hD := hD.2 q_58
            refine lv_iload_n X.1 X.2.1 d_X11_oneMove_61 rfl (lv_at hl 0 rfl) ?_
            refine lv_bipush (v := 117) X.1 X.2.1 d_X11_oneMove_62 (by decide) ?_
            refine lv_icmp_eq (tgt := 69) X.1 X.2.1 d_X11_oneMove_64 (by decide) (fun q_64 => ?_) (fun q_64 => ?_)
            · have hD := hD.1 q_64
              exact s_X11_oneMove_69 X hr hlk  Q  x1_1 r_2 σ_3 hw (lv_sub hl [2, 1, 0] rfl) hD
            · have hD := hD.2 q_64
              refine lv_iconst (v := 0) X.1 X.2.1 d_X11_oneMove_67 (by decide) ?_
              exact g_zret X hr hlk hw (by decide) hD d_X11_oneMove_68
theorem c_X11_oneMove (l : Launch) (G : GC) (σ : GSt) (Q : Int32 → GSt → Prop)  (hD : D_X11_oneMove  σ Q) : MI l ym_X11_oneMove cm_X11_oneMove 4 .boolean rm_X11_oneMove G σ [.ref (G.2.1 237)] Q := by
  refine met_i (by decide) (Nat.le_of_ble_eq_true rfl) ?_
  intro p e s m args below meth c X hr hlk hw ls hl
  exact s_X11_oneMove_0 X hr hlk Q   σ hw (lv_sub hl [0] rfl) hD
theorem hd_X11_oneEnd : ym_X11_oneEnd.cls = "GameLoomModel" ∧ ym_X11_oneEnd.cls ≠ "java/lang/invoke/MethodHandle" ∧ ym_X11_oneEnd.cls ≠ "java/lang/invoke/VarHandle" ∧ (parseMethodDescriptor ym_X11_oneEnd.desc).map (fun d => d.parameters.length) = some 0 := by decide +kernel
abbrev rm_X11_oneEnd : Room := { frames := 2, cells := 0, slots := 0, locals := 48 }
theorem d_X11_oneEnd_0 : decode cm_X11_oneEnd 0 = .ok (.bipush 6, 2) := by decide +kernel
theorem d_X11_oneEnd_2 : decode cm_X11_oneEnd 2 = .ok (.aload_n 0, 1) := by decide +kernel
theorem d_X11_oneEnd_3 : decode cm_X11_oneEnd 3 = .ok (.getfield 156, 3) := by decide +kernel
theorem d_X11_oneEnd_6 : decode cm_X11_oneEnd 6 = .ok (.imul, 1) := by decide +kernel
theorem d_X11_oneEnd_7 : decode cm_X11_oneEnd 7 = .ok (.aload_n 0, 1) := by decide +kernel
theorem d_X11_oneEnd_8 : decode cm_X11_oneEnd 8 = .ok (.getfield 55, 3) := by decide +kernel
theorem d_X11_oneEnd_11 : decode cm_X11_oneEnd 11 = .ok (.aload_n 0, 1) := by decide +kernel
theorem d_X11_oneEnd_12 : decode cm_X11_oneEnd 12 = .ok (.getfield 156, 3) := by decide +kernel
theorem d_X11_oneEnd_15 : decode cm_X11_oneEnd 15 = .ok (.iaload, 1) := by decide +kernel
theorem d_X11_oneEnd_16 : decode cm_X11_oneEnd 16 = .ok (.iadd, 1) := by decide +kernel
theorem d_X11_oneEnd_17 : decode cm_X11_oneEnd 17 = .ok (.istore_n 1, 1) := by decide +kernel
theorem d_X11_oneEnd_18 : decode cm_X11_oneEnd 18 = .ok (.aload_n 0, 1) := by decide +kernel
theorem d_X11_oneEnd_19 : decode cm_X11_oneEnd 19 = .ok (.invokevirtual 159, 3) := by decide +kernel
theorem d_X11_oneEnd_22 : decode cm_X11_oneEnd 22 = .ok (.istore_n 2, 1) := by decide +kernel
theorem d_X11_oneEnd_23 : decode cm_X11_oneEnd 23 = .ok (.aload_n 0, 1) := by decide +kernel
theorem d_X11_oneEnd_24 : decode cm_X11_oneEnd 24 = .ok (.getfield 55, 3) := by decide +kernel
theorem d_X11_oneEnd_27 : decode cm_X11_oneEnd 27 = .ok (.aload_n 0, 1) := by decide +kernel
theorem d_X11_oneEnd_28 : decode cm_X11_oneEnd 28 = .ok (.getfield 156, 3) := by decide +kernel
theorem d_X11_oneEnd_31 : decode cm_X11_oneEnd 31 = .ok (.iaload, 1) := by decide +kernel
theorem d_X11_oneEnd_32 : decode cm_X11_oneEnd 32 = .ok (.bipush 6, 2) := by decide +kernel
theorem d_X11_oneEnd_34 : decode cm_X11_oneEnd 34 = .ok (.if_icmp .eq 39, 3) := by decide +kernel
theorem d_X11_oneEnd_37 : decode cm_X11_oneEnd 37 = .ok (.iload_n 2, 1) := by decide +kernel
theorem d_X11_oneEnd_38 : decode cm_X11_oneEnd 38 = .ok (.bipush 114, 2) := by decide +kernel
theorem d_X11_oneEnd_40 : decode cm_X11_oneEnd 40 = .ok (.if_icmp .eq 35, 3) := by decide +kernel
theorem d_X11_oneEnd_43 : decode cm_X11_oneEnd 43 = .ok (.iload_n 2, 1) := by decide +kernel
theorem d_X11_oneEnd_44 : decode cm_X11_oneEnd 44 = .ok (.bipush 110, 2) := by decide +kernel
theorem d_X11_oneEnd_46 : decode cm_X11_oneEnd 46 = .ok (.if_icmp .eq 29, 3) := by decide +kernel
theorem d_X11_oneEnd_49 : decode cm_X11_oneEnd 49 = .ok (.iload_n 2, 1) := by decide +kernel
theorem d_X11_oneEnd_50 : decode cm_X11_oneEnd 50 = .ok (.bipush 103, 2) := by decide +kernel
theorem d_X11_oneEnd_52 : decode cm_X11_oneEnd 52 = .ok (.if_icmp .eq 23, 3) := by decide +kernel
theorem d_X11_oneEnd_55 : decode cm_X11_oneEnd 55 = .ok (.iload_n 2, 1) := by decide +kernel
theorem d_X11_oneEnd_56 : decode cm_X11_oneEnd 56 = .ok (.bipush 121, 2) := by decide +kernel
theorem d_X11_oneEnd_58 : decode cm_X11_oneEnd 58 = .ok (.if_icmp .eq 17, 3) := by decide +kernel
theorem d_X11_oneEnd_61 : decode cm_X11_oneEnd 61 = .ok (.iload_n 2, 1) := by decide +kernel
theorem d_X11_oneEnd_62 : decode cm_X11_oneEnd 62 = .ok (.bipush 107, 2) := by decide +kernel
theorem d_X11_oneEnd_64 : decode cm_X11_oneEnd 64 = .ok (.if_icmp .eq 11, 3) := by decide +kernel
theorem d_X11_oneEnd_67 : decode cm_X11_oneEnd 67 = .ok (.iload_n 2, 1) := by decide +kernel
theorem d_X11_oneEnd_68 : decode cm_X11_oneEnd 68 = .ok (.bipush 109, 2) := by decide +kernel
theorem d_X11_oneEnd_70 : decode cm_X11_oneEnd 70 = .ok (.if_icmp .eq 5, 3) := by decide +kernel
theorem d_X11_oneEnd_73 : decode cm_X11_oneEnd 73 = .ok (.iconst 0, 1) := by decide +kernel
theorem d_X11_oneEnd_74 : decode cm_X11_oneEnd 74 = .ok (.ireturn, 1) := by decide +kernel
theorem d_X11_oneEnd_75 : decode cm_X11_oneEnd 75 = .ok (.aload_n 0, 1) := by decide +kernel
theorem d_X11_oneEnd_76 : decode cm_X11_oneEnd 76 = .ok (.getfield 43, 3) := by decide +kernel
theorem d_X11_oneEnd_79 : decode cm_X11_oneEnd 79 = .ok (.iload_n 1, 1) := by decide +kernel
theorem d_X11_oneEnd_80 : decode cm_X11_oneEnd 80 = .ok (.iload_n 2, 1) := by decide +kernel
theorem d_X11_oneEnd_81 : decode cm_X11_oneEnd 81 = .ok (.iastore, 1) := by decide +kernel
theorem d_X11_oneEnd_82 : decode cm_X11_oneEnd 82 = .ok (.aload_n 0, 1) := by decide +kernel
theorem d_X11_oneEnd_83 : decode cm_X11_oneEnd 83 = .ok (.getfield 52, 3) := by decide +kernel
theorem d_X11_oneEnd_86 : decode cm_X11_oneEnd 86 = .ok (.iload_n 1, 1) := by decide +kernel
theorem d_X11_oneEnd_87 : decode cm_X11_oneEnd 87 = .ok (.aload_n 0, 1) := by decide +kernel
theorem d_X11_oneEnd_88 : decode cm_X11_oneEnd 88 = .ok (.getfield 153, 3) := by decide +kernel
theorem d_X11_oneEnd_91 : decode cm_X11_oneEnd 91 = .ok (.iastore, 1) := by decide +kernel
theorem d_X11_oneEnd_92 : decode cm_X11_oneEnd 92 = .ok (.aload_n 0, 1) := by decide +kernel
theorem d_X11_oneEnd_93 : decode cm_X11_oneEnd 93 = .ok (.getfield 46, 3) := by decide +kernel
theorem d_X11_oneEnd_96 : decode cm_X11_oneEnd 96 = .ok (.iload_n 1, 1) := by decide +kernel
theorem d_X11_oneEnd_97 : decode cm_X11_oneEnd 97 = .ok (.iconst 0, 1) := by decide +kernel
theorem d_X11_oneEnd_98 : decode cm_X11_oneEnd 98 = .ok (.iastore, 1) := by decide +kernel
theorem d_X11_oneEnd_99 : decode cm_X11_oneEnd 99 = .ok (.aload_n 0, 1) := by decide +kernel
theorem d_X11_oneEnd_100 : decode cm_X11_oneEnd 100 = .ok (.getfield 49, 3) := by decide +kernel
theorem d_X11_oneEnd_103 : decode cm_X11_oneEnd 103 = .ok (.iload_n 1, 1) := by decide +kernel
theorem d_X11_oneEnd_104 : decode cm_X11_oneEnd 104 = .ok (.bipush 100, 2) := by decide +kernel
theorem d_X11_oneEnd_106 : decode cm_X11_oneEnd 106 = .ok (.iastore, 1) := by decide +kernel
theorem d_X11_oneEnd_107 : decode cm_X11_oneEnd 107 = .ok (.aload_n 0, 1) := by decide +kernel
theorem d_X11_oneEnd_108 : decode cm_X11_oneEnd 108 = .ok (.dup, 1) := by decide +kernel
theorem d_X11_oneEnd_109 : decode cm_X11_oneEnd 109 = .ok (.getfield 153, 3) := by decide +kernel
theorem d_X11_oneEnd_112 : decode cm_X11_oneEnd 112 = .ok (.iconst 1, 1) := by decide +kernel
theorem d_X11_oneEnd_113 : decode cm_X11_oneEnd 113 = .ok (.iadd, 1) := by decide +kernel
theorem d_X11_oneEnd_114 : decode cm_X11_oneEnd 114 = .ok (.putfield 153, 3) := by decide +kernel
theorem d_X11_oneEnd_117 : decode cm_X11_oneEnd 117 = .ok (.iload_n 2, 1) := by decide +kernel
theorem d_X11_oneEnd_118 : decode cm_X11_oneEnd 118 = .ok (.bipush 114, 2) := by decide +kernel
theorem d_X11_oneEnd_120 : decode cm_X11_oneEnd 120 = .ok (.if_icmp .eq 15, 3) := by decide +kernel
theorem d_X11_oneEnd_123 : decode cm_X11_oneEnd 123 = .ok (.iload_n 2, 1) := by decide +kernel
theorem d_X11_oneEnd_124 : decode cm_X11_oneEnd 124 = .ok (.bipush 107, 2) := by decide +kernel
theorem d_X11_oneEnd_126 : decode cm_X11_oneEnd 126 = .ok (.if_icmp .eq 9, 3) := by decide +kernel
theorem d_X11_oneEnd_129 : decode cm_X11_oneEnd 129 = .ok (.iload_n 2, 1) := by decide +kernel
theorem d_X11_oneEnd_130 : decode cm_X11_oneEnd 130 = .ok (.bipush 109, 2) := by decide +kernel
theorem d_X11_oneEnd_132 : decode cm_X11_oneEnd 132 = .ok (.if_icmp .ne 57, 3) := by decide +kernel
theorem d_X11_oneEnd_135 : decode cm_X11_oneEnd 135 = .ok (.aload_n 0, 1) := by decide +kernel
theorem d_X11_oneEnd_136 : decode cm_X11_oneEnd 136 = .ok (.getfield 46, 3) := by decide +kernel
theorem d_X11_oneEnd_139 : decode cm_X11_oneEnd 139 = .ok (.iload_n 1, 1) := by decide +kernel
theorem d_X11_oneEnd_140 : decode cm_X11_oneEnd 140 = .ok (.aload_n 0, 1) := by decide +kernel
theorem d_X11_oneEnd_141 : decode cm_X11_oneEnd 141 = .ok (.iload_n 2, 1) := by decide +kernel
theorem d_X11_oneEnd_142 : decode cm_X11_oneEnd 142 = .ok (.bipush 114, 2) := by decide +kernel
theorem d_X11_oneEnd_144 : decode cm_X11_oneEnd 144 = .ok (.if_icmp .ne 7, 3) := by decide +kernel
theorem d_X11_oneEnd_147 : decode cm_X11_oneEnd 147 = .ok (.iconst 2, 1) := by decide +kernel
theorem d_X11_oneEnd_148 : decode cm_X11_oneEnd 148 = .ok (.goto 14, 3) := by decide +kernel
theorem d_X11_oneEnd_151 : decode cm_X11_oneEnd 151 = .ok (.iload_n 2, 1) := by decide +kernel
theorem d_X11_oneEnd_152 : decode cm_X11_oneEnd 152 = .ok (.bipush 107, 2) := by decide +kernel
theorem d_X11_oneEnd_154 : decode cm_X11_oneEnd 154 = .ok (.if_icmp .ne 7, 3) := by decide +kernel
theorem d_X11_oneEnd_157 : decode cm_X11_oneEnd 157 = .ok (.iconst 1, 1) := by decide +kernel
theorem d_X11_oneEnd_158 : decode cm_X11_oneEnd 158 = .ok (.goto 4, 3) := by decide +kernel
theorem d_X11_oneEnd_161 : decode cm_X11_oneEnd 161 = .ok (.iconst 0, 1) := by decide +kernel
theorem d_X11_oneEnd_162 : decode cm_X11_oneEnd 162 = .ok (.iload_n 2, 1) := by decide +kernel
theorem d_X11_oneEnd_163 : decode cm_X11_oneEnd 163 = .ok (.bipush 114, 2) := by decide +kernel
theorem d_X11_oneEnd_165 : decode cm_X11_oneEnd 165 = .ok (.if_icmp .ne 7, 3) := by decide +kernel
theorem d_X11_oneEnd_168 : decode cm_X11_oneEnd 168 = .ok (.iconst 4, 1) := by decide +kernel
theorem d_X11_oneEnd_169 : decode cm_X11_oneEnd 169 = .ok (.goto 5, 3) := by decide +kernel
theorem d_X11_oneEnd_172 : decode cm_X11_oneEnd 172 = .ok (.bipush 9, 2) := by decide +kernel
theorem d_X11_oneEnd_174 : decode cm_X11_oneEnd 174 = .ok (.invokevirtual 171, 3) := by decide +kernel
theorem d_X11_oneEnd_177 : decode cm_X11_oneEnd 177 = .ok (.iastore, 1) := by decide +kernel
theorem d_X11_oneEnd_178 : decode cm_X11_oneEnd 178 = .ok (.aload_n 0, 1) := by decide +kernel
theorem d_X11_oneEnd_179 : decode cm_X11_oneEnd 179 = .ok (.getfield 46, 3) := by decide +kernel
theorem d_X11_oneEnd_182 : decode cm_X11_oneEnd 182 = .ok (.iload_n 1, 1) := by decide +kernel
theorem d_X11_oneEnd_183 : decode cm_X11_oneEnd 183 = .ok (.iaload, 1) := by decide +kernel
theorem d_X11_oneEnd_184 : decode cm_X11_oneEnd 184 = .ok (.ifCond .ge 5, 3) := by decide +kernel
theorem d_X11_oneEnd_187 : decode cm_X11_oneEnd 187 = .ok (.iconst 0, 1) := by decide +kernel
theorem d_X11_oneEnd_188 : decode cm_X11_oneEnd 188 = .ok (.ireturn, 1) := by decide +kernel
theorem d_X11_oneEnd_189 : decode cm_X11_oneEnd 189 = .ok (.iload_n 2, 1) := by decide +kernel
theorem d_X11_oneEnd_190 : decode cm_X11_oneEnd 190 = .ok (.bipush 109, 2) := by decide +kernel
theorem d_X11_oneEnd_192 : decode cm_X11_oneEnd 192 = .ok (.if_icmp .ne 37, 3) := by decide +kernel
theorem d_X11_oneEnd_195 : decode cm_X11_oneEnd 195 = .ok (.aload_n 0, 1) := by decide +kernel
theorem d_X11_oneEnd_196 : decode cm_X11_oneEnd 196 = .ok (.iconst 0, 1) := by decide +kernel
theorem d_X11_oneEnd_197 : decode cm_X11_oneEnd 197 = .ok (.bipush 9, 2) := by decide +kernel
theorem d_X11_oneEnd_199 : decode cm_X11_oneEnd 199 = .ok (.invokevirtual 171, 3) := by decide +kernel
theorem d_X11_oneEnd_202 : decode cm_X11_oneEnd 202 = .ok (.istore_n 3, 1) := by decide +kernel
theorem d_X11_oneEnd_203 : decode cm_X11_oneEnd 203 = .ok (.iload_n 3, 1) := by decide +kernel
theorem d_X11_oneEnd_204 : decode cm_X11_oneEnd 204 = .ok (.ifCond .ge 5, 3) := by decide +kernel
theorem d_X11_oneEnd_207 : decode cm_X11_oneEnd 207 = .ok (.iconst 0, 1) := by decide +kernel
theorem d_X11_oneEnd_208 : decode cm_X11_oneEnd 208 = .ok (.ireturn, 1) := by decide +kernel
theorem d_X11_oneEnd_209 : decode cm_X11_oneEnd 209 = .ok (.aload_n 0, 1) := by decide +kernel
theorem d_X11_oneEnd_210 : decode cm_X11_oneEnd 210 = .ok (.getfield 46, 3) := by decide +kernel
theorem d_X11_oneEnd_213 : decode cm_X11_oneEnd 213 = .ok (.iload_n 1, 1) := by decide +kernel
theorem d_X11_oneEnd_214 : decode cm_X11_oneEnd 214 = .ok (.bipush 10, 2) := by decide +kernel
theorem d_X11_oneEnd_216 : decode cm_X11_oneEnd 216 = .ok (.aload_n 0, 1) := by decide +kernel
theorem d_X11_oneEnd_217 : decode cm_X11_oneEnd 217 = .ok (.getfield 46, 3) := by decide +kernel
theorem d_X11_oneEnd_220 : decode cm_X11_oneEnd 220 = .ok (.iload_n 1, 1) := by decide +kernel
theorem d_X11_oneEnd_221 : decode cm_X11_oneEnd 221 = .ok (.iaload, 1) := by decide +kernel
theorem d_X11_oneEnd_222 : decode cm_X11_oneEnd 222 = .ok (.imul, 1) := by decide +kernel
theorem d_X11_oneEnd_223 : decode cm_X11_oneEnd 223 = .ok (.iload_n 3, 1) := by decide +kernel
theorem d_X11_oneEnd_224 : decode cm_X11_oneEnd 224 = .ok (.iadd, 1) := by decide +kernel
theorem d_X11_oneEnd_225 : decode cm_X11_oneEnd 225 = .ok (.iastore, 1) := by decide +kernel
theorem d_X11_oneEnd_226 : decode cm_X11_oneEnd 226 = .ok (.goto 45, 3) := by decide +kernel
theorem d_X11_oneEnd_229 : decode cm_X11_oneEnd 229 = .ok (.aload_n 0, 1) := by decide +kernel
theorem d_X11_oneEnd_230 : decode cm_X11_oneEnd 230 = .ok (.invokevirtual 159, 3) := by decide +kernel
theorem d_X11_oneEnd_233 : decode cm_X11_oneEnd 233 = .ok (.istore_n 3, 1) := by decide +kernel
theorem d_X11_oneEnd_234 : decode cm_X11_oneEnd 234 = .ok (.iload_n 3, 1) := by decide +kernel
theorem d_X11_oneEnd_235 : decode cm_X11_oneEnd 235 = .ok (.bipush 119, 2) := by decide +kernel
theorem d_X11_oneEnd_237 : decode cm_X11_oneEnd 237 = .ok (.if_icmp .eq 17, 3) := by decide +kernel
theorem d_X11_oneEnd_240 : decode cm_X11_oneEnd 240 = .ok (.iload_n 3, 1) := by decide +kernel
theorem d_X11_oneEnd_241 : decode cm_X11_oneEnd 241 = .ok (.bipush 108, 2) := by decide +kernel
theorem d_X11_oneEnd_243 : decode cm_X11_oneEnd 243 = .ok (.if_icmp .eq 11, 3) := by decide +kernel
theorem d_X11_oneEnd_246 : decode cm_X11_oneEnd 246 = .ok (.iload_n 3, 1) := by decide +kernel
theorem d_X11_oneEnd_247 : decode cm_X11_oneEnd 247 = .ok (.bipush 100, 2) := by decide +kernel
theorem d_X11_oneEnd_249 : decode cm_X11_oneEnd 249 = .ok (.if_icmp .eq 5, 3) := by decide +kernel
theorem d_X11_oneEnd_252 : decode cm_X11_oneEnd 252 = .ok (.iconst 0, 1) := by decide +kernel
theorem d_X11_oneEnd_253 : decode cm_X11_oneEnd 253 = .ok (.ireturn, 1) := by decide +kernel
theorem d_X11_oneEnd_254 : decode cm_X11_oneEnd 254 = .ok (.aload_n 0, 1) := by decide +kernel
theorem d_X11_oneEnd_255 : decode cm_X11_oneEnd 255 = .ok (.getfield 49, 3) := by decide +kernel
theorem d_X11_oneEnd_258 : decode cm_X11_oneEnd 258 = .ok (.iload_n 1, 1) := by decide +kernel
theorem d_X11_oneEnd_259 : decode cm_X11_oneEnd 259 = .ok (.iload_n 3, 1) := by decide +kernel
theorem d_X11_oneEnd_260 : decode cm_X11_oneEnd 260 = .ok (.iastore, 1) := by decide +kernel
theorem d_X11_oneEnd_261 : decode cm_X11_oneEnd 261 = .ok (.aload_n 0, 1) := by decide +kernel
theorem d_X11_oneEnd_262 : decode cm_X11_oneEnd 262 = .ok (.dup, 1) := by decide +kernel
theorem d_X11_oneEnd_263 : decode cm_X11_oneEnd 263 = .ok (.getfield 153, 3) := by decide +kernel
theorem d_X11_oneEnd_266 : decode cm_X11_oneEnd 266 = .ok (.iconst 1, 1) := by decide +kernel
theorem d_X11_oneEnd_267 : decode cm_X11_oneEnd 267 = .ok (.iadd, 1) := by decide +kernel
theorem d_X11_oneEnd_268 : decode cm_X11_oneEnd 268 = .ok (.putfield 153, 3) := by decide +kernel
theorem d_X11_oneEnd_271 : decode cm_X11_oneEnd 271 = .ok (.aload_n 0, 1) := by decide +kernel
theorem d_X11_oneEnd_272 : decode cm_X11_oneEnd 272 = .ok (.getfield 55, 3) := by decide +kernel
theorem d_X11_oneEnd_275 : decode cm_X11_oneEnd 275 = .ok (.aload_n 0, 1) := by decide +kernel
theorem d_X11_oneEnd_276 : decode cm_X11_oneEnd 276 = .ok (.getfield 156, 3) := by decide +kernel
theorem d_X11_oneEnd_279 : decode cm_X11_oneEnd 279 = .ok (.dup2, 1) := by decide +kernel
theorem d_X11_oneEnd_280 : decode cm_X11_oneEnd 280 = .ok (.iaload, 1) := by decide +kernel
theorem d_X11_oneEnd_281 : decode cm_X11_oneEnd 281 = .ok (.iconst 1, 1) := by decide +kernel
theorem d_X11_oneEnd_282 : decode cm_X11_oneEnd 282 = .ok (.iadd, 1) := by decide +kernel
theorem d_X11_oneEnd_283 : decode cm_X11_oneEnd 283 = .ok (.iastore, 1) := by decide +kernel
theorem d_X11_oneEnd_284 : decode cm_X11_oneEnd 284 = .ok (.iconst 1, 1) := by decide +kernel
theorem d_X11_oneEnd_285 : decode cm_X11_oneEnd 285 = .ok (.ireturn, 1) := by decide +kernel
def D_X11_oneEnd_271 (Q : Int32 → GSt → Prop) (σ : GSt) : Prop :=
  vp_in (σ 237 22) 9 ∧ (vp_in (σ 237 22) 9 ∧ (∀ σ_1 : GSt, σ_1 = up2 σ 253 (Int32.toNatClampNeg (σ 237 22)) ((σ 253 (Int32.toNatClampNeg (σ 237 22))) + 1) → (Q 1 σ_1)))
def D_X11_oneEnd_254 (Q : Int32 → GSt → Prop) (x1 : Int32) (x3 : Int32) (σ : GSt) : Prop :=
  vp_in x1 54 ∧ (∀ σ_1 : GSt, σ_1 = up2 σ 251 (Int32.toNatClampNeg x1) x3 → (∀ σ_2 : GSt, σ_2 = up2 σ_1 237 21 ((σ_1 237 21) + 1) → (D_X11_oneEnd_271 Q σ_2)))
def D_X11_oneEnd_189 (Q : Int32 → GSt → Prop) (x1 : Int32) (x2 : Int32) (σ : GSt) : Prop :=
  (¬ x2 = 109 → D_X11_sign  σ (fun r_1 σ_2 => (r_1 = 119 → D_X11_oneEnd_254 Q x1 r_1 σ_2) ∧
  (¬ r_1 = 119 → (r_1 = 108 → D_X11_oneEnd_254 Q x1 r_1 σ_2) ∧
  (¬ r_1 = 108 → (r_1 = 100 → D_X11_oneEnd_254 Q x1 r_1 σ_2) ∧
  (¬ r_1 = 100 → Q 0 σ_2))))) ∧
  (x2 = 109 → D_X11_digit 0 9 σ (fun r_3 σ_4 => (0 ≤ r_3 → vp_in x1 54 ∧ (vp_in x1 54 ∧ (∀ σ_5 : GSt, σ_5 = up2 σ_4 250 (Int32.toNatClampNeg x1) ((10 * (σ_4 250 (Int32.toNatClampNeg x1))) + r_3) → (D_X11_oneEnd_271 Q σ_5)))) ∧
  (¬ 0 ≤ r_3 → Q 0 σ_4)))
def D_X11_oneEnd_174 (Q : Int32 → GSt → Prop) (x1 : Int32) (x2 : Int32) (sr0 : Nat) (s1 : Int32) (s3 : Int32) (s4 : Int32) (σ : GSt) : Prop :=
  D_X11_digit s3 s4 σ (fun r_1 σ_2 => vp_in s1 (ln sr0) ∧ (∀ σ_3 : GSt, σ_3 = up2 σ_2 sr0 (Int32.toNatClampNeg s1) r_1 → (vp_in x1 54 ∧ ((0 ≤ (σ_3 250 (Int32.toNatClampNeg x1)) → D_X11_oneEnd_189 Q x1 x2 σ_3) ∧
  (¬ 0 ≤ (σ_3 250 (Int32.toNatClampNeg x1)) → Q 0 σ_3)))))
def D_X11_oneEnd_162 (Q : Int32 → GSt → Prop) (x1 : Int32) (x2 : Int32) (sr0 : Nat) (s1 : Int32) (s3 : Int32) (σ : GSt) : Prop :=
  (¬ x2 = 114 → D_X11_oneEnd_174 Q x1 x2 sr0 s1 s3 9 σ) ∧
  (x2 = 114 → D_X11_oneEnd_174 Q x1 x2 sr0 s1 s3 4 σ)
def D_X11_oneEnd_135 (Q : Int32 → GSt → Prop) (x1 : Int32) (x2 : Int32) (σ : GSt) : Prop :=
  (¬ x2 = 114 → (¬ x2 = 107 → D_X11_oneEnd_162 Q x1 x2 250 x1 0 σ) ∧
  (x2 = 107 → D_X11_oneEnd_162 Q x1 x2 250 x1 1 σ)) ∧
  (x2 = 114 → D_X11_oneEnd_162 Q x1 x2 250 x1 2 σ)
def D_X11_oneEnd_75 (Q : Int32 → GSt → Prop) (x1 : Int32) (x2 : Int32) (σ : GSt) : Prop :=
  vp_in x1 54 ∧ (∀ σ_1 : GSt, σ_1 = up2 σ 249 (Int32.toNatClampNeg x1) x2 → (vp_in x1 54 ∧ (∀ σ_2 : GSt, σ_2 = up2 σ_1 252 (Int32.toNatClampNeg x1) (σ_1 237 21) → (vp_in x1 54 ∧ (∀ σ_3 : GSt, σ_3 = up2 σ_2 250 (Int32.toNatClampNeg x1) 0 → (vp_in x1 54 ∧ (∀ σ_4 : GSt, σ_4 = up2 σ_3 251 (Int32.toNatClampNeg x1) 100 → (∀ σ_5 : GSt, σ_5 = up2 σ_4 237 21 ((σ_4 237 21) + 1) → ((x2 = 114 → D_X11_oneEnd_135 Q x1 x2 σ_5) ∧
  (¬ x2 = 114 → (x2 = 107 → D_X11_oneEnd_135 Q x1 x2 σ_5) ∧
  (¬ x2 = 107 → (¬ x2 = 109 → D_X11_oneEnd_189 Q x1 x2 σ_5) ∧
  (x2 = 109 → D_X11_oneEnd_135 Q x1 x2 σ_5))))))))))))
def D_X11_oneEnd_0 (Q : Int32 → GSt → Prop) (σ : GSt) : Prop :=
  vp_in (σ 237 22) 9 ∧ (∀ x1_1 : Int32, x1_1 = ((6 * (σ 237 22)) + (σ 253 (Int32.toNatClampNeg (σ 237 22)))) → (D_X11_sign  σ (fun r_2 σ_3 => vp_in (σ_3 237 22) 9 ∧ (((σ_3 253 (Int32.toNatClampNeg (σ_3 237 22))) = 6 → Q 0 σ_3) ∧
  (¬ (σ_3 253 (Int32.toNatClampNeg (σ_3 237 22))) = 6 → (r_2 = 114 → D_X11_oneEnd_75 Q x1_1 r_2 σ_3) ∧
  (¬ r_2 = 114 → (r_2 = 110 → D_X11_oneEnd_75 Q x1_1 r_2 σ_3) ∧
  (¬ r_2 = 110 → (r_2 = 103 → D_X11_oneEnd_75 Q x1_1 r_2 σ_3) ∧
  (¬ r_2 = 103 → (r_2 = 121 → D_X11_oneEnd_75 Q x1_1 r_2 σ_3) ∧
  (¬ r_2 = 121 → (r_2 = 107 → D_X11_oneEnd_75 Q x1_1 r_2 σ_3) ∧
  (¬ r_2 = 107 → (r_2 = 109 → D_X11_oneEnd_75 Q x1_1 r_2 σ_3) ∧
  (¬ r_2 = 109 → Q 0 σ_3)))))))))))
def D_X11_oneEnd (σ : GSt) (Q : Int32 → GSt → Prop) : Prop := D_X11_oneEnd_0 Q σ
set_option maxRecDepth 20000 in
set_option maxHeartbeats 4000000 in
theorem s_X11_oneEnd_271 {p : Program} {l : Launch} {e : Env} {s : State} {m : MethodId} {args : Array Value} {below : List Frame} {meth : Method} {c : Code} {G : GC} (X : CallFix p m c cm_X11_oneEnd 4 s args lw_us "GameLoomModel") (hr : meth.sig.returnType = some .boolean) (hlk : meth.locks = false) (Q : Int32 → GSt → Prop) (σ : GSt) {H : Heap} {locs : List Loc} {ls : Array Slot} (hw : Wo G s H locs σ) (hl : lv_has ls 4 [(0, .ref (G.2.1 237))]) (hD : D_X11_oneEnd_271 Q σ) : W p l e rm_X11_oneEnd s m args below meth c H locs 0 0 (QMI G Q below args s) (F0 m 271 ls []) := by
  unfold D_X11_oneEnd_271 at hD
  refine lv_aload_n X.1 X.2.1 d_X11_oneEnd_271 rfl (lv_at hl 0 rfl) ?_
  refine gf_11_15 X hw (by decide +kernel : kd 237 = 11) tb_921 d_X11_oneEnd_272 ?_
  refine lv_aload_n X.1 X.2.1 d_X11_oneEnd_275 rfl (lv_at hl 0 rfl) ?_
  refine gf_11_22 X hw (by decide +kernel : kd 237 = 11) tb_928 d_X11_oneEnd_276 ?_
  refine lv_dup2_11 X.1 X.2.1 d_X11_oneEnd_279 rfl rfl ?_
  obtain ⟨q_280, hD⟩ := hD
  refine g_iald X hw ly_11_15.1 ly_11_15.2 q_280 d_X11_oneEnd_280 ?_
  refine lv_iconst (v := 1) X.1 X.2.1 d_X11_oneEnd_281 (by decide) ?_
  refine lv_iadd X.1 X.2.1 d_X11_oneEnd_282 ?_
  obtain ⟨q_283, hD⟩ := hD
  refine g_iast X hw ly_11_15.1 ly_11_15.2 q_283 d_X11_oneEnd_283 (fun H locs hw => ?_)
  obtain ⟨σ_1, e_σ_1⟩ : ∃ z : GSt, z = up2 σ 253 (Int32.toNatClampNeg (σ 237 22)) ((σ 253 (Int32.toNatClampNeg (σ 237 22))) + 1) := ⟨_, rfl⟩
  rw [← e_σ_1] at hw
  have hD := hD σ_1 e_σ_1
  refine lv_iconst (v := 1) X.1 X.2.1 d_X11_oneEnd_284 (by decide) ?_
  exact g_zret X hr hlk hw (by decide) hD d_X11_oneEnd_285
set_option maxRecDepth 20000 in
set_option maxHeartbeats 4000000 in
theorem s_X11_oneEnd_254 {p : Program} {l : Launch} {e : Env} {s : State} {m : MethodId} {args : Array Value} {below : List Frame} {meth : Method} {c : Code} {G : GC} (X : CallFix p m c cm_X11_oneEnd 4 s args lw_us "GameLoomModel") (hr : meth.sig.returnType = some .boolean) (hlk : meth.locks = false) (Q : Int32 → GSt → Prop) (x1 : Int32) (x3 : Int32) (σ : GSt) {H : Heap} {locs : List Loc} {ls : Array Slot} (hw : Wo G s H locs σ) (hl : lv_has ls 4 [(0, .ref (G.2.1 237)), (1, .int x1), (3, .int x3)]) (hD : D_X11_oneEnd_254 Q x1 x3 σ) : W p l e rm_X11_oneEnd s m args below meth c H locs 0 0 (QMI G Q below args s) (F0 m 254 ls []) := by
  unfold D_X11_oneEnd_254 at hD
  refine lv_aload_n X.1 X.2.1 d_X11_oneEnd_254 rfl (lv_at hl 0 rfl) ?_
  refine gf_11_13 X hw (by decide +kernel : kd 237 = 11) tb_919 d_X11_oneEnd_255 ?_
  refine lv_iload_n X.1 X.2.1 d_X11_oneEnd_258 rfl (lv_at hl 1 rfl) ?_
  refine lv_iload_n X.1 X.2.1 d_X11_oneEnd_259 rfl (lv_at hl 2 rfl) ?_
  obtain ⟨q_260, hD⟩ := hD
  refine g_iast X hw ly_11_13.1 ly_11_13.2 q_260 d_X11_oneEnd_260 (fun H locs hw => ?_)
  obtain ⟨σ_1, e_σ_1⟩ : ∃ z : GSt, z = up2 σ 251 (Int32.toNatClampNeg x1) x3 := ⟨_, rfl⟩
  rw [← e_σ_1] at hw
  have hD := hD σ_1 e_σ_1
  refine lv_aload_n X.1 X.2.1 d_X11_oneEnd_261 rfl (lv_at hl 0 rfl) ?_
  refine lv_dup X.1 X.2.1 d_X11_oneEnd_262 rfl ?_
  refine gf_11_21 X hw (by decide +kernel : kd 237 = 11) tb_927 d_X11_oneEnd_263 ?_
  refine lv_iconst (v := 1) X.1 X.2.1 d_X11_oneEnd_266 (by decide) ?_
  refine lv_iadd X.1 X.2.1 d_X11_oneEnd_267 ?_
  refine pf_11_21 X hw (by decide +kernel : kd 237 = 11) tb_927 d_X11_oneEnd_268 (fun H locs hw => ?_)
  obtain ⟨σ_2, e_σ_2⟩ : ∃ z : GSt, z = up2 σ_1 237 21 ((σ_1 237 21) + 1) := ⟨_, rfl⟩
  rw [← e_σ_2] at hw
  have hD := hD σ_2 e_σ_2
  exact s_X11_oneEnd_271 X hr hlk  Q   σ_2 hw (lv_sub hl [0] rfl) hD
set_option maxRecDepth 20000 in
set_option maxHeartbeats 4000000 in
theorem s_X11_oneEnd_189 {p : Program} {l : Launch} {e : Env} {s : State} {m : MethodId} {args : Array Value} {below : List Frame} {meth : Method} {c : Code} {G : GC} (X : CallFix p m c cm_X11_oneEnd 4 s args lw_us "GameLoomModel") (hr : meth.sig.returnType = some .boolean) (hlk : meth.locks = false) (Q : Int32 → GSt → Prop) (x1 : Int32) (x2 : Int32) (σ : GSt) {H : Heap} {locs : List Loc} {ls : Array Slot} (hw : Wo G s H locs σ) (hl : lv_has ls 4 [(0, .ref (G.2.1 237)), (1, .int x1), (2, .int x2)]) (hD : D_X11_oneEnd_189 Q x1 x2 σ) : W p l e rm_X11_oneEnd s m args below meth c H locs 0 0 (QMI G Q below args s) (F0 m 189 ls []) := by
  unfold D_X11_oneEnd_189 at hD
  refine lv_iload_n X.1 X.2.1 d_X11_oneEnd_189 rfl (lv_at hl 2 rfl) ?_
  refine lv_bipush (v := 109) X.1 X.2.1 d_X11_oneEnd_190 (by decide) ?_
  refine lv_icmp_ne (tgt := 229) X.1 X.2.1 d_X11_oneEnd_192 (by decide) (fun q_192 => ?_) (fun q_192 => ?_)
  · have hD := hD.1 q_192
    refine lv_aload_n X.1 X.2.1 d_X11_oneEnd_229 rfl (lv_at hl 0 rfl) ?_
    refine gcV_i (rest := []) (As := []) (o := 237) X hw (c_X11_sign l G  σ _  hD) (kd_lt (by decide +kernel : kd 237 = 11) (by decide)) (ce_11 G _ (by decide +kernel : kd 237 = 11)) rfl tb_1117 tb_1119 tv_42 tb_12 tb_1120 hd_X11_sign ⟨rfl, rfl⟩ ⟨Nat.le_of_ble_eq_true rfl, Nat.le_of_ble_eq_true rfl⟩ rfl hl.1 rfl (Nat.le_of_ble_eq_true rfl) d_X11_oneEnd_230 (fun r_1 σ_2 H locs hD hw => ?_)
    refine lv_istore_n (lv' := [(3, .int r_1), (0, .ref (G.2.1 237)), (1, .int x1), (2, .int x2)]) X.1 X.2.1 d_X11_oneEnd_233 rfl hl (by decide) rfl (fun ls hl => ?_)
    refine lv_iload_n X.1 X.2.1 d_X11_oneEnd_234 rfl (lv_at hl 0 rfl) ?_
    refine lv_bipush (v := 119) X.1 X.2.1 d_X11_oneEnd_235 (by decide) ?_
    refine lv_icmp_eq (tgt := 254) X.1 X.2.1 d_X11_oneEnd_237 (by decide) (fun q_237 => ?_) (fun q_237 => ?_)
    · have hD := hD.1 q_237
      exact s_X11_oneEnd_254 X hr hlk  Q  x1 r_1 σ_2 hw (lv_sub hl [1, 2, 0] rfl) hD
    · have hD := hD.2 q_237
      refine lv_iload_n X.1 X.2.1 d_X11_oneEnd_240 rfl (lv_at hl 0 rfl) ?_
      refine lv_bipush (v := 108) X.1 X.2.1 d_X11_oneEnd_241 (by decide) ?_
      refine lv_icmp_eq (tgt := 254) X.1 X.2.1 d_X11_oneEnd_243 (by decide) (fun q_243 => ?_) (fun q_243 => ?_)
      · have hD := hD.1 q_243
        exact s_X11_oneEnd_254 X hr hlk  Q  x1 r_1 σ_2 hw (lv_sub hl [1, 2, 0] rfl) hD
      · have hD := hD.2 q_243
        refine lv_iload_n X.1 X.2.1 d_X11_oneEnd_246 rfl (lv_at hl 0 rfl) ?_
        refine lv_bipush (v := 100) X.1 X.2.1 d_X11_oneEnd_247 (by decide) ?_
        refine lv_icmp_eq (tgt := 254) X.1 X.2.1 d_X11_oneEnd_249 (by decide) (fun q_249 => ?_) (fun q_249 => ?_)
        · have hD := hD.1 q_249
          exact s_X11_oneEnd_254 X hr hlk  Q  x1 r_1 σ_2 hw (lv_sub hl [1, 2, 0] rfl) hD
        · have hD := hD.2 q_249
          refine lv_iconst (v := 0) X.1 X.2.1 d_X11_oneEnd_252 (by decide) ?_
          exact g_zret X hr hlk hw (by decide) hD d_X11_oneEnd_253
  · have hD := hD.2 q_192
    refine lv_aload_n X.1 X.2.1 d_X11_oneEnd_195 rfl (lv_at hl 0 rfl) ?_
    refine lv_iconst (v := 0) X.1 X.2.1 d_X11_oneEnd_196 (by decide) ?_
    refine lv_bipush (v := 9) X.1 X.2.1 d_X11_oneEnd_197 (by decide) ?_
    refine gcV_i (rest := []) (As := [.int 0, .int 9]) (o := 237) X hw (c_X11_digit l G 0 9 σ _  hD) (kd_lt (by decide +kernel : kd 237 = 11) (by decide)) (ce_11 G _ (by decide +kernel : kd 237 = 11)) rfl tb_1121 tb_1123 tv_43 tb_12 tb_1124 hd_X11_digit ⟨rfl, rfl⟩ ⟨Nat.le_of_ble_eq_true rfl, Nat.le_of_ble_eq_true rfl⟩ rfl hl.1 rfl (Nat.le_of_ble_eq_true rfl) d_X11_oneEnd_199 (fun r_3 σ_4 H locs hD hw => ?_)
    refine lv_istore_n (lv' := [(3, .int r_3), (0, .ref (G.2.1 237)), (1, .int x1), (2, .int x2)]) X.1 X.2.1 d_X11_oneEnd_202 rfl hl (by decide) rfl (fun ls hl => ?_)
    refine lv_iload_n X.1 X.2.1 d_X11_oneEnd_203 rfl (lv_at hl 0 rfl) ?_
    refine lv_if_ge (tgt := 209) X.1 X.2.1 d_X11_oneEnd_204 (by decide) (fun q_204 => ?_) (fun q_204 => ?_)
    · have hD := hD.1 q_204
      refine lv_aload_n X.1 X.2.1 d_X11_oneEnd_209 rfl (lv_at hl 1 rfl) ?_
      refine gf_11_12 X hw (by decide +kernel : kd 237 = 11) tb_918 d_X11_oneEnd_210 ?_
      refine lv_iload_n X.1 X.2.1 d_X11_oneEnd_213 rfl (lv_at hl 2 rfl) ?_
      refine lv_bipush (v := 10) X.1 X.2.1 d_X11_oneEnd_214 (by decide) ?_
      refine lv_aload_n X.1 X.2.1 d_X11_oneEnd_216 rfl (lv_at hl 1 rfl) ?_
      refine gf_11_12 X hw (by decide +kernel : kd 237 = 11) tb_918 d_X11_oneEnd_217 ?_
      refine lv_iload_n X.1 X.2.1 d_X11_oneEnd_220 rfl (lv_at hl 2 rfl) ?_
      obtain ⟨q_221, hD⟩ := hD
      refine g_iald X hw ly_11_12.1 ly_11_12.2 q_221 d_X11_oneEnd_221 ?_
      refine lv_imul X.1 X.2.1 d_X11_oneEnd_222 ?_
      refine lv_iload_n X.1 X.2.1 d_X11_oneEnd_223 rfl (lv_at hl 0 rfl) ?_
      refine lv_iadd X.1 X.2.1 d_X11_oneEnd_224 ?_
      obtain ⟨q_225, hD⟩ := hD
      refine g_iast X hw ly_11_12.1 ly_11_12.2 q_225 d_X11_oneEnd_225 (fun H locs hw => ?_)
      obtain ⟨σ_5, e_σ_5⟩ : ∃ z : GSt, z = up2 σ_4 250 (Int32.toNatClampNeg x1) ((10 * (σ_4 250 (Int32.toNatClampNeg x1))) + r_3) := ⟨_, rfl⟩
      rw [← e_σ_5] at hw
      have hD := hD σ_5 e_σ_5
      refine lv_goto (tgt := 271) X.1 X.2.1 d_X11_oneEnd_226 (by decide) ?_
      exact s_X11_oneEnd_271 X hr hlk  Q   σ_5 hw (lv_sub hl [1] rfl) hD
    · have hD := hD.2 q_204
      refine lv_iconst (v := 0) X.1 X.2.1 d_X11_oneEnd_207 (by decide) ?_
      exact g_zret X hr hlk hw (by decide) hD d_X11_oneEnd_208
set_option maxRecDepth 20000 in
set_option maxHeartbeats 4000000 in
theorem s_X11_oneEnd_174 {p : Program} {l : Launch} {e : Env} {s : State} {m : MethodId} {args : Array Value} {below : List Frame} {meth : Method} {c : Code} {G : GC} (X : CallFix p m c cm_X11_oneEnd 4 s args lw_us "GameLoomModel") (hr : meth.sig.returnType = some .boolean) (hlk : meth.locks = false) (Q : Int32 → GSt → Prop) (x1 : Int32) (x2 : Int32) (sr0 : Nat) (hs0 : kd sr0 = 12) (s1 : Int32) (s3 : Int32) (s4 : Int32) (σ : GSt) {H : Heap} {locs : List Loc} {ls : Array Slot} (hw : Wo G s H locs σ) (hl : lv_has ls 4 [(0, .ref (G.2.1 237)), (1, .int x1), (2, .int x2)]) (hD : D_X11_oneEnd_174 Q x1 x2 sr0 s1 s3 s4 σ) : W p l e rm_X11_oneEnd s m args below meth c H locs 0 0 (QMI G Q below args s) (F0 m 174 ls [.int s4, .int s3, .ref (G.2.1 237), .int s1, .ref (G.2.1 sr0)]) := by
  unfold D_X11_oneEnd_174 at hD
  refine gcV_i (rest := [.int s1, .ref (G.2.1 sr0)]) (As := [.int s3, .int s4]) (o := 237) X hw (c_X11_digit l G s3 s4 σ _  hD) (kd_lt (by decide +kernel : kd 237 = 11) (by decide)) (ce_11 G _ (by decide +kernel : kd 237 = 11)) rfl tb_1121 tb_1123 tv_43 tb_12 tb_1124 hd_X11_digit ⟨rfl, rfl⟩ ⟨Nat.le_of_ble_eq_true rfl, Nat.le_of_ble_eq_true rfl⟩ rfl hl.1 rfl (Nat.le_of_ble_eq_true rfl) d_X11_oneEnd_174 (fun r_1 σ_2 H locs hD hw => ?_)
  obtain ⟨q_177, hD⟩ := hD
  refine g_iast X hw hs0 rfl q_177 d_X11_oneEnd_177 (fun H locs hw => ?_)
  obtain ⟨σ_3, e_σ_3⟩ : ∃ z : GSt, z = up2 σ_2 sr0 (Int32.toNatClampNeg s1) r_1 := ⟨_, rfl⟩
  rw [← e_σ_3] at hw
  have hD := hD σ_3 e_σ_3
  refine lv_aload_n X.1 X.2.1 d_X11_oneEnd_178 rfl (lv_at hl 0 rfl) ?_
  refine gf_11_12 X hw (by decide +kernel : kd 237 = 11) tb_918 d_X11_oneEnd_179 ?_
  refine lv_iload_n X.1 X.2.1 d_X11_oneEnd_182 rfl (lv_at hl 1 rfl) ?_
  obtain ⟨q_183, hD⟩ := hD
  refine g_iald X hw ly_11_12.1 ly_11_12.2 q_183 d_X11_oneEnd_183 ?_
  refine lv_if_ge (tgt := 189) X.1 X.2.1 d_X11_oneEnd_184 (by decide) (fun q_184 => ?_) (fun q_184 => ?_)
  · have hD := hD.1 q_184
    exact s_X11_oneEnd_189 X hr hlk  Q  x1 x2 σ_3 hw (lv_sub hl [0, 1, 2] rfl) hD
  · have hD := hD.2 q_184
    refine lv_iconst (v := 0) X.1 X.2.1 d_X11_oneEnd_187 (by decide) ?_
    exact g_zret X hr hlk hw (by decide) hD d_X11_oneEnd_188
set_option maxRecDepth 20000 in
set_option maxHeartbeats 4000000 in
theorem s_X11_oneEnd_162 {p : Program} {l : Launch} {e : Env} {s : State} {m : MethodId} {args : Array Value} {below : List Frame} {meth : Method} {c : Code} {G : GC} (X : CallFix p m c cm_X11_oneEnd 4 s args lw_us "GameLoomModel") (hr : meth.sig.returnType = some .boolean) (hlk : meth.locks = false) (Q : Int32 → GSt → Prop) (x1 : Int32) (x2 : Int32) (sr0 : Nat) (hs0 : kd sr0 = 12) (s1 : Int32) (s3 : Int32) (σ : GSt) {H : Heap} {locs : List Loc} {ls : Array Slot} (hw : Wo G s H locs σ) (hl : lv_has ls 4 [(0, .ref (G.2.1 237)), (1, .int x1), (2, .int x2)]) (hD : D_X11_oneEnd_162 Q x1 x2 sr0 s1 s3 σ) : W p l e rm_X11_oneEnd s m args below meth c H locs 0 0 (QMI G Q below args s) (F0 m 162 ls [.int s3, .ref (G.2.1 237), .int s1, .ref (G.2.1 sr0)]) := by
  unfold D_X11_oneEnd_162 at hD
  refine lv_iload_n X.1 X.2.1 d_X11_oneEnd_162 rfl (lv_at hl 2 rfl) ?_
  refine lv_bipush (v := 114) X.1 X.2.1 d_X11_oneEnd_163 (by decide) ?_
  refine lv_icmp_ne (tgt := 172) X.1 X.2.1 d_X11_oneEnd_165 (by decide) (fun q_165 => ?_) (fun q_165 => ?_)
  · have hD := hD.1 q_165
    refine lv_bipush (v := 9) X.1 X.2.1 d_X11_oneEnd_172 (by decide) ?_
    exact s_X11_oneEnd_174 X hr hlk  Q  x1 x2 sr0 hs0 s1 s3 9 σ hw (lv_sub hl [0, 1, 2] rfl) hD
  · have hD := hD.2 q_165
    refine lv_iconst (v := 4) X.1 X.2.1 d_X11_oneEnd_168 (by decide) ?_
    refine lv_goto (tgt := 174) X.1 X.2.1 d_X11_oneEnd_169 (by decide) ?_
    exact s_X11_oneEnd_174 X hr hlk  Q  x1 x2 sr0 hs0 s1 s3 4 σ hw (lv_sub hl [0, 1, 2] rfl) hD
set_option maxRecDepth 20000 in
set_option maxHeartbeats 4000000 in
theorem s_X11_oneEnd_135 {p : Program} {l : Launch} {e : Env} {s : State} {m : MethodId} {args : Array Value} {below : List Frame} {meth : Method} {c : Code} {G : GC} (X : CallFix p m c cm_X11_oneEnd 4 s args lw_us "GameLoomModel") (hr : meth.sig.returnType = some .boolean) (hlk : meth.locks = false) (Q : Int32 → GSt → Prop) (x1 : Int32) (x2 : Int32) (σ : GSt) {H : Heap} {locs : List Loc} {ls : Array Slot} (hw : Wo G s H locs σ) (hl : lv_has ls 4 [(0, .ref (G.2.1 237)), (1, .int x1), (2, .int x2)]) (hD : D_X11_oneEnd_135 Q x1 x2 σ) : W p l e rm_X11_oneEnd s m args below meth c H locs 0 0 (QMI G Q below args s) (F0 m 135 ls []) := by
  unfold D_X11_oneEnd_135 at hD
  refine lv_aload_n X.1 X.2.1 d_X11_oneEnd_135 rfl (lv_at hl 0 rfl) ?_
  refine gf_11_12 X hw (by decide +kernel : kd 237 = 11) tb_918 d_X11_oneEnd_136 ?_
  refine lv_iload_n X.1 X.2.1 d_X11_oneEnd_139 rfl (lv_at hl 1 rfl) ?_
  refine lv_aload_n X.1 X.2.1 d_X11_oneEnd_140 rfl (lv_at hl 0 rfl) ?_
  refine lv_iload_n X.1 X.2.1 d_X11_oneEnd_141 rfl (lv_at hl 2 rfl) ?_
  refine lv_bipush (v := 114) X.1 X.2.1 d_X11_oneEnd_142 (by decide) ?_
  refine lv_icmp_ne (tgt := 151) X.1 X.2.1 d_X11_oneEnd_144 (by decide) (fun q_144 => ?_) (fun q_144 => ?_)
  · have hD := hD.1 q_144
    refine lv_iload_n X.1 X.2.1 d_X11_oneEnd_151 rfl (lv_at hl 2 rfl) ?_
    refine lv_bipush (v := 107) X.1 X.2.1 d_X11_oneEnd_152 (by decide) ?_
    refine lv_icmp_ne (tgt := 161) X.1 X.2.1 d_X11_oneEnd_154 (by decide) (fun q_154 => ?_) (fun q_154 => ?_)
    · have hD := hD.1 q_154
      refine lv_iconst (v := 0) X.1 X.2.1 d_X11_oneEnd_161 (by decide) ?_
      exact s_X11_oneEnd_162 X hr hlk  Q  x1 x2 250 ly_11_12.1 x1 0 σ hw (lv_sub hl [0, 1, 2] rfl) hD
    · have hD := hD.2 q_154
      refine lv_iconst (v := 1) X.1 X.2.1 d_X11_oneEnd_157 (by decide) ?_
      refine lv_goto (tgt := 162) X.1 X.2.1 d_X11_oneEnd_158 (by decide) ?_
      exact s_X11_oneEnd_162 X hr hlk  Q  x1 x2 250 ly_11_12.1 x1 1 σ hw (lv_sub hl [0, 1, 2] rfl) hD
  · have hD := hD.2 q_144
    refine lv_iconst (v := 2) X.1 X.2.1 d_X11_oneEnd_147 (by decide) ?_
    refine lv_goto (tgt := 162) X.1 X.2.1 d_X11_oneEnd_148 (by decide) ?_
    exact s_X11_oneEnd_162 X hr hlk  Q  x1 x2 250 ly_11_12.1 x1 2 σ hw (lv_sub hl [0, 1, 2] rfl) hD
set_option maxRecDepth 20000 in
set_option maxHeartbeats 4000000 in
theorem s_X11_oneEnd_75 {p : Program} {l : Launch} {e : Env} {s : State} {m : MethodId} {args : Array Value} {below : List Frame} {meth : Method} {c : Code} {G : GC} (X : CallFix p m c cm_X11_oneEnd 4 s args lw_us "GameLoomModel") (hr : meth.sig.returnType = some .boolean) (hlk : meth.locks = false) (Q : Int32 → GSt → Prop) (x1 : Int32) (x2 : Int32) (σ : GSt) {H : Heap} {locs : List Loc} {ls : Array Slot} (hw : Wo G s H locs σ) (hl : lv_has ls 4 [(0, .ref (G.2.1 237)), (1, .int x1), (2, .int x2)]) (hD : D_X11_oneEnd_75 Q x1 x2 σ) : W p l e rm_X11_oneEnd s m args below meth c H locs 0 0 (QMI G Q below args s) (F0 m 75 ls []) := by
  unfold D_X11_oneEnd_75 at hD
  refine lv_aload_n X.1 X.2.1 d_X11_oneEnd_75 rfl (lv_at hl 0 rfl) ?_
  refine gf_11_11 X hw (by decide +kernel : kd 237 = 11) tb_917 d_X11_oneEnd_76 ?_
  refine lv_iload_n X.1 X.2.1 d_X11_oneEnd_79 rfl (lv_at hl 1 rfl) ?_
  refine lv_iload_n X.1 X.2.1 d_X11_oneEnd_80 rfl (lv_at hl 2 rfl) ?_
  obtain ⟨q_81, hD⟩ := hD
  refine g_iast X hw ly_11_11.1 ly_11_11.2 q_81 d_X11_oneEnd_81 (fun H locs hw => ?_)
  obtain ⟨σ_1, e_σ_1⟩ : ∃ z : GSt, z = up2 σ 249 (Int32.toNatClampNeg x1) x2 := ⟨_, rfl⟩
  rw [← e_σ_1] at hw
  have hD := hD σ_1 e_σ_1
  refine lv_aload_n X.1 X.2.1 d_X11_oneEnd_82 rfl (lv_at hl 0 rfl) ?_
  refine gf_11_14 X hw (by decide +kernel : kd 237 = 11) tb_920 d_X11_oneEnd_83 ?_
  refine lv_iload_n X.1 X.2.1 d_X11_oneEnd_86 rfl (lv_at hl 1 rfl) ?_
  refine lv_aload_n X.1 X.2.1 d_X11_oneEnd_87 rfl (lv_at hl 0 rfl) ?_
  refine gf_11_21 X hw (by decide +kernel : kd 237 = 11) tb_927 d_X11_oneEnd_88 ?_
  obtain ⟨q_91, hD⟩ := hD
  refine g_iast X hw ly_11_14.1 ly_11_14.2 q_91 d_X11_oneEnd_91 (fun H locs hw => ?_)
  obtain ⟨σ_2, e_σ_2⟩ : ∃ z : GSt, z = up2 σ_1 252 (Int32.toNatClampNeg x1) (σ_1 237 21) := ⟨_, rfl⟩
  rw [← e_σ_2] at hw
  have hD := hD σ_2 e_σ_2
  refine lv_aload_n X.1 X.2.1 d_X11_oneEnd_92 rfl (lv_at hl 0 rfl) ?_
  refine gf_11_12 X hw (by decide +kernel : kd 237 = 11) tb_918 d_X11_oneEnd_93 ?_
  refine lv_iload_n X.1 X.2.1 d_X11_oneEnd_96 rfl (lv_at hl 1 rfl) ?_
  refine lv_iconst (v := 0) X.1 X.2.1 d_X11_oneEnd_97 (by decide) ?_
  obtain ⟨q_98, hD⟩ := hD
  refine g_iast X hw ly_11_12.1 ly_11_12.2 q_98 d_X11_oneEnd_98 (fun H locs hw => ?_)
  obtain ⟨σ_3, e_σ_3⟩ : ∃ z : GSt, z = up2 σ_2 250 (Int32.toNatClampNeg x1) 0 := ⟨_, rfl⟩
  rw [← e_σ_3] at hw
  have hD := hD σ_3 e_σ_3
  refine lv_aload_n X.1 X.2.1 d_X11_oneEnd_99 rfl (lv_at hl 0 rfl) ?_
  refine gf_11_13 X hw (by decide +kernel : kd 237 = 11) tb_919 d_X11_oneEnd_100 ?_
  refine lv_iload_n X.1 X.2.1 d_X11_oneEnd_103 rfl (lv_at hl 1 rfl) ?_
  refine lv_bipush (v := 100) X.1 X.2.1 d_X11_oneEnd_104 (by decide) ?_
  obtain ⟨q_106, hD⟩ := hD
  refine g_iast X hw ly_11_13.1 ly_11_13.2 q_106 d_X11_oneEnd_106 (fun H locs hw => ?_)
  obtain ⟨σ_4, e_σ_4⟩ : ∃ z : GSt, z = up2 σ_3 251 (Int32.toNatClampNeg x1) 100 := ⟨_, rfl⟩
  rw [← e_σ_4] at hw
  have hD := hD σ_4 e_σ_4
  refine lv_aload_n X.1 X.2.1 d_X11_oneEnd_107 rfl (lv_at hl 0 rfl) ?_
  refine lv_dup X.1 X.2.1 d_X11_oneEnd_108 rfl ?_
  refine gf_11_21 X hw (by decide +kernel : kd 237 = 11) tb_927 d_X11_oneEnd_109 ?_
  refine lv_iconst (v := 1) X.1 X.2.1 d_X11_oneEnd_112 (by decide) ?_
  refine lv_iadd X.1 X.2.1 d_X11_oneEnd_113 ?_
  refine pf_11_21 X hw (by decide +kernel : kd 237 = 11) tb_927 d_X11_oneEnd_114 (fun H locs hw => ?_)
  obtain ⟨σ_5, e_σ_5⟩ : ∃ z : GSt, z = up2 σ_4 237 21 ((σ_4 237 21) + 1) := ⟨_, rfl⟩
  rw [← e_σ_5] at hw
  have hD := hD σ_5 e_σ_5
  refine lv_iload_n X.1 X.2.1 d_X11_oneEnd_117 rfl (lv_at hl 2 rfl) ?_
  refine lv_bipush (v := 114) X.1 X.2.1 d_X11_oneEnd_118 (by decide) ?_
  refine lv_icmp_eq (tgt := 135) X.1 X.2.1 d_X11_oneEnd_120 (by decide) (fun q_120 => ?_) (fun q_120 => ?_)
  · have hD := hD.1 q_120
    exact s_X11_oneEnd_135 X hr hlk  Q  x1 x2 σ_5 hw (lv_sub hl [0, 1, 2] rfl) hD
  · have hD := hD.2 q_120
    refine lv_iload_n X.1 X.2.1 d_X11_oneEnd_123 rfl (lv_at hl 2 rfl) ?_
    refine lv_bipush (v := 107) X.1 X.2.1 d_X11_oneEnd_124 (by decide) ?_
    refine lv_icmp_eq (tgt := 135) X.1 X.2.1 d_X11_oneEnd_126 (by decide) (fun q_126 => ?_) (fun q_126 => ?_)
    · have hD := hD.1 q_126
      exact s_X11_oneEnd_135 X hr hlk  Q  x1 x2 σ_5 hw (lv_sub hl [0, 1, 2] rfl) hD
    · have hD := hD.2 q_126
      refine lv_iload_n X.1 X.2.1 d_X11_oneEnd_129 rfl (lv_at hl 2 rfl) ?_
      refine lv_bipush (v := 109) X.1 X.2.1 d_X11_oneEnd_130 (by decide) ?_
      refine lv_icmp_ne (tgt := 189) X.1 X.2.1 d_X11_oneEnd_132 (by decide) (fun q_132 => ?_) (fun q_132 => ?_)
      · have hD := hD.1 q_132
        exact s_X11_oneEnd_189 X hr hlk  Q  x1 x2 σ_5 hw (lv_sub hl [0, 1, 2] rfl) hD
      · have hD := hD.2 q_132
        exact s_X11_oneEnd_135 X hr hlk  Q  x1 x2 σ_5 hw (lv_sub hl [0, 1, 2] rfl) hD
set_option maxRecDepth 20000 in
set_option maxHeartbeats 4000000 in
theorem s_X11_oneEnd_0 {p : Program} {l : Launch} {e : Env} {s : State} {m : MethodId} {args : Array Value} {below : List Frame} {meth : Method} {c : Code} {G : GC} (X : CallFix p m c cm_X11_oneEnd 4 s args lw_us "GameLoomModel") (hr : meth.sig.returnType = some .boolean) (hlk : meth.locks = false) (Q : Int32 → GSt → Prop) (σ : GSt) {H : Heap} {locs : List Loc} {ls : Array Slot} (hw : Wo G s H locs σ) (hl : lv_has ls 4 [(0, .ref (G.2.1 237))]) (hD : D_X11_oneEnd_0 Q σ) : W p l e rm_X11_oneEnd s m args below meth c H locs 0 0 (QMI G Q below args s) (F0 m 0 ls []) := by
  unfold D_X11_oneEnd_0 at hD
  refine lv_bipush (v := 6) X.1 X.2.1 d_X11_oneEnd_0 (by decide) ?_
  refine lv_aload_n X.1 X.2.1 d_X11_oneEnd_2 rfl (lv_at hl 0 rfl) ?_
  refine gf_11_22 X hw (by decide +kernel : kd 237 = 11) tb_928 d_X11_oneEnd_3 ?_
  refine lv_imul X.1 X.2.1 d_X11_oneEnd_6 ?_
  refine lv_aload_n X.1 X.2.1 d_X11_oneEnd_7 rfl (lv_at hl 0 rfl) ?_
  refine gf_11_15 X hw (by decide +kernel : kd 237 = 11) tb_921 d_X11_oneEnd_8 ?_
  refine lv_aload_n X.1 X.2.1 d_X11_oneEnd_11 rfl (lv_at hl 0 rfl) ?_
  refine gf_11_22 X hw (by decide +kernel : kd 237 = 11) tb_928 d_X11_oneEnd_12 ?_
  obtain ⟨q_15, hD⟩ := hD
  refine g_iald X hw ly_11_15.1 ly_11_15.2 q_15 d_X11_oneEnd_15 ?_
  refine lv_iadd X.1 X.2.1 d_X11_oneEnd_16 ?_
  refine lv_topi (fun x1_1 e_x1_1 => ?_)
  have hD := hD x1_1 e_x1_1
  refine lv_istore_n (lv' := [(1, .int x1_1), (0, .ref (G.2.1 237))]) X.1 X.2.1 d_X11_oneEnd_17 rfl hl (by decide) rfl (fun ls hl => ?_)
  refine lv_aload_n X.1 X.2.1 d_X11_oneEnd_18 rfl (lv_at hl 1 rfl) ?_
  refine gcV_i (rest := []) (As := []) (o := 237) X hw (c_X11_sign l G  σ _  hD) (kd_lt (by decide +kernel : kd 237 = 11) (by decide)) (ce_11 G _ (by decide +kernel : kd 237 = 11)) rfl tb_1117 tb_1119 tv_42 tb_12 tb_1120 hd_X11_sign ⟨rfl, rfl⟩ ⟨Nat.le_of_ble_eq_true rfl, Nat.le_of_ble_eq_true rfl⟩ rfl hl.1 rfl (Nat.le_of_ble_eq_true rfl) d_X11_oneEnd_19 (fun r_2 σ_3 H locs hD hw => ?_)
  refine lv_istore_n (lv' := [(2, .int r_2), (1, .int x1_1), (0, .ref (G.2.1 237))]) X.1 X.2.1 d_X11_oneEnd_22 rfl hl (by decide) rfl (fun ls hl => ?_)
  refine lv_aload_n X.1 X.2.1 d_X11_oneEnd_23 rfl (lv_at hl 2 rfl) ?_
  refine gf_11_15 X hw (by decide +kernel : kd 237 = 11) tb_921 d_X11_oneEnd_24 ?_
  refine lv_aload_n X.1 X.2.1 d_X11_oneEnd_27 rfl (lv_at hl 2 rfl) ?_
  refine gf_11_22 X hw (by decide +kernel : kd 237 = 11) tb_928 d_X11_oneEnd_28 ?_
  obtain ⟨q_31, hD⟩ := hD
  refine g_iald X hw ly_11_15.1 ly_11_15.2 q_31 d_X11_oneEnd_31 ?_
  refine lv_bipush (v := 6) X.1 X.2.1 d_X11_oneEnd_32 (by decide) ?_
  refine lv_icmp_eq (tgt := 73) X.1 X.2.1 d_X11_oneEnd_34 (by decide) (fun q_34 => ?_) (fun q_34 => ?_)
  · have hD := hD.1 q_34
    refine lv_iconst (v := 0) X.1 X.2.1 d_X11_oneEnd_73 (by decide) ?_
    exact g_zret X hr hlk hw (by decide) hD d_X11_oneEnd_74
  · have hD := hD.2 q_34
    refine lv_iload_n X.1 X.2.1 d_X11_oneEnd_37 rfl (lv_at hl 0 rfl) ?_
    refine lv_bipush (v := 114) X.1 X.2.1 d_X11_oneEnd_38 (by decide) ?_
    refine lv_icmp_eq (tgt := 75) X.1 X.2.1 d_X11_oneEnd_40 (by decide) (fun q_40 => ?_) (fun q_40 => ?_)
    · have hD := hD.1 q_40
      exact s_X11_oneEnd_75 X hr hlk  Q  x1_1 r_2 σ_3 hw (lv_sub hl [2, 1, 0] rfl) hD
    · have hD := hD.2 q_40
      refine lv_iload_n X.1 X.2.1 d_X11_oneEnd_43 rfl (lv_at hl 0 rfl) ?_
      refine lv_bipush (v := 110) X.1 X.2.1 d_X11_oneEnd_44 (by decide) ?_
      refine lv_icmp_eq (tgt := 75) X.1 X.2.1 d_X11_oneEnd_46 (by decide) (fun q_46 => ?_) (fun q_46 => ?_)
      · have hD := hD.1 q_46
        exact s_X11_oneEnd_75 X hr hlk  Q  x1_1 r_2 σ_3 hw (lv_sub hl [2, 1, 0] rfl) hD
      · have hD := hD.2 q_46
        refine lv_iload_n X.1 X.2.1 d_X11_oneEnd_49 rfl (lv_at hl 0 rfl) ?_
        refine lv_bipush (v := 103) X.1 X.2.1 d_X11_oneEnd_50 (by decide) ?_
        refine lv_icmp_eq (tgt := 75) X.1 X.2.1 d_X11_oneEnd_52 (by decide) (fun q_52 => ?_) (fun q_52 => ?_)
        · have hD := hD.1 q_52
          exact s_X11_oneEnd_75 X hr hlk  Q  x1_1 r_2 σ_3 hw (lv_sub hl [2, 1, 0] rfl) hD
        · have hD := hD.2 q_52
          refine lv_iload_n X.1 X.2.1 d_X11_oneEnd_55 rfl (lv_at hl 0 rfl) ?_
          refine lv_bipush (v := 121) X.1 X.2.1 d_X11_oneEnd_56 (by decide) ?_
          refine lv_icmp_eq (tgt := 75) X.1 X.2.1 d_X11_oneEnd_58 (by decide) (fun q_58 => ?_) (fun q_58 => ?_)
          · have hD := hD.1 q_58
            exact s_X11_oneEnd_75 X hr hlk  Q  x1_1 r_2 σ_3 hw (lv_sub hl [2, 1, 0] rfl) hD
          · have hD := hD.2 q_58
            refine lv_iload_n X.1 X.2.1 d_X11_oneEnd_61 rfl (lv_at hl 0 rfl) ?_
            refine lv_bipush (v := 107) X.1 X.2.1 d_X11_oneEnd_62 (by decide) ?_
            refine lv_icmp_eq (tgt := 75) X.1 X.2.1 d_X11_oneEnd_64 (by decide) (fun q_64 => ?_) (fun q_64 => ?_)
            · have hD := hD.1 q_64
              exact s_X11_oneEnd_75 X hr hlk  Q  x1_1 r_2 σ_3 hw (lv_sub hl [2, 1, 0] rfl) hD
            · have hD := hD.2 q_64
              refine lv_iload_n X.1 X.2.1 d_X11_oneEnd_67 rfl (lv_at hl 0 rfl) ?_
              refine lv_bipush (v := 109) X.1 X.2.1 d_X11_oneEnd_68 (by decide) ?_
              refine lv_icmp_eq (tgt := 75) X.1 X.2.1 d_X11_oneEnd_70 (by decide) (fun q_70 => ?_) (fun q_70 => ?_)
              · have hD := hD.1 q_70
                exact s_X11_oneEnd_75 X hr hlk  Q  x1_1 r_2 σ_3 hw (lv_sub hl [2, 1, 0] rfl) hD
              · have hD := hD.2 q_70
                refine lv_iconst (v := 0) X.1 X.2.1 d_X11_oneEnd_73 (by decide) ?_
                exact g_zret X hr hlk hw (by decide) hD d_X11_oneEnd_74
theorem c_X11_oneEnd (l : Launch) (G : GC) (σ : GSt) (Q : Int32 → GSt → Prop)  (hD : D_X11_oneEnd  σ Q) : MI l ym_X11_oneEnd cm_X11_oneEnd 4 .boolean rm_X11_oneEnd G σ [.ref (G.2.1 237)] Q := by
  refine met_i (by decide) (Nat.le_of_ble_eq_true rfl) ?_
  intro p e s m args below meth c X hr hlk hw ls hl
  exact s_X11_oneEnd_0 X hr hlk Q   σ hw (lv_sub hl [0] rfl) hD
theorem hd_X11_reads : ym_X11_reads.cls = "GameLoomModel" ∧ ym_X11_reads.cls ≠ "java/lang/invoke/MethodHandle" ∧ ym_X11_reads.cls ≠ "java/lang/invoke/VarHandle" ∧ (parseMethodDescriptor ym_X11_reads.desc).map (fun d => d.parameters.length) = some 1 := by decide +kernel
abbrev rm_X11_reads : Room := { frames := 3, cells := 0, slots := 0, locals := 71 }
theorem d_X11_reads_0 : decode cm_X11_reads 0 = .ok (.aload_n 0, 1) := by decide +kernel
theorem d_X11_reads_1 : decode cm_X11_reads 1 = .ok (.iload_n 1, 1) := by decide +kernel
theorem d_X11_reads_2 : decode cm_X11_reads 2 = .ok (.putfield 156, 3) := by decide +kernel
theorem d_X11_reads_5 : decode cm_X11_reads 5 = .ok (.aload_n 0, 1) := by decide +kernel
theorem d_X11_reads_6 : decode cm_X11_reads 6 = .ok (.iconst 0, 1) := by decide +kernel
theorem d_X11_reads_7 : decode cm_X11_reads 7 = .ok (.putfield 153, 3) := by decide +kernel
theorem d_X11_reads_10 : decode cm_X11_reads 10 = .ok (.aload_n 0, 1) := by decide +kernel
theorem d_X11_reads_11 : decode cm_X11_reads 11 = .ok (.getfield 40, 3) := by decide +kernel
theorem d_X11_reads_14 : decode cm_X11_reads 14 = .ok (.aload_n 0, 1) := by decide +kernel
theorem d_X11_reads_15 : decode cm_X11_reads 15 = .ok (.getfield 156, 3) := by decide +kernel
theorem d_X11_reads_18 : decode cm_X11_reads 18 = .ok (.iconst 0, 1) := by decide +kernel
theorem d_X11_reads_19 : decode cm_X11_reads 19 = .ok (.iastore, 1) := by decide +kernel
theorem d_X11_reads_20 : decode cm_X11_reads 20 = .ok (.aload_n 0, 1) := by decide +kernel
theorem d_X11_reads_21 : decode cm_X11_reads 21 = .ok (.getfield 55, 3) := by decide +kernel
theorem d_X11_reads_24 : decode cm_X11_reads 24 = .ok (.aload_n 0, 1) := by decide +kernel
theorem d_X11_reads_25 : decode cm_X11_reads 25 = .ok (.getfield 156, 3) := by decide +kernel
theorem d_X11_reads_28 : decode cm_X11_reads 28 = .ok (.iconst 0, 1) := by decide +kernel
theorem d_X11_reads_29 : decode cm_X11_reads 29 = .ok (.iastore, 1) := by decide +kernel
theorem d_X11_reads_30 : decode cm_X11_reads 30 = .ok (.aload_n 0, 1) := by decide +kernel
theorem d_X11_reads_31 : decode cm_X11_reads 31 = .ok (.invokevirtual 175, 3) := by decide +kernel
theorem d_X11_reads_34 : decode cm_X11_reads 34 = .ok (.ifCond .eq 10, 3) := by decide +kernel
theorem d_X11_reads_37 : decode cm_X11_reads 37 = .ok (.aload_n 0, 1) := by decide +kernel
theorem d_X11_reads_38 : decode cm_X11_reads 38 = .ok (.invokevirtual 179, 3) := by decide +kernel
theorem d_X11_reads_41 : decode cm_X11_reads 41 = .ok (.ifCond .ne 5, 3) := by decide +kernel
theorem d_X11_reads_44 : decode cm_X11_reads 44 = .ok (.iconst 0, 1) := by decide +kernel
theorem d_X11_reads_45 : decode cm_X11_reads 45 = .ok (.ireturn, 1) := by decide +kernel
theorem d_X11_reads_46 : decode cm_X11_reads 46 = .ok (.aload_n 0, 1) := by decide +kernel
theorem d_X11_reads_47 : decode cm_X11_reads 47 = .ok (.getfield 58, 3) := by decide +kernel
theorem d_X11_reads_50 : decode cm_X11_reads 50 = .ok (.aload_n 0, 1) := by decide +kernel
theorem d_X11_reads_51 : decode cm_X11_reads 51 = .ok (.getfield 156, 3) := by decide +kernel
theorem d_X11_reads_54 : decode cm_X11_reads 54 = .ok (.aload_n 0, 1) := by decide +kernel
theorem d_X11_reads_55 : decode cm_X11_reads 55 = .ok (.getfield 153, 3) := by decide +kernel
theorem d_X11_reads_58 : decode cm_X11_reads 58 = .ok (.iastore, 1) := by decide +kernel
theorem d_X11_reads_59 : decode cm_X11_reads 59 = .ok (.iconst 1, 1) := by decide +kernel
theorem d_X11_reads_60 : decode cm_X11_reads 60 = .ok (.istore_n 2, 1) := by decide +kernel
theorem d_X11_reads_61 : decode cm_X11_reads 61 = .ok (.iload_n 2, 1) := by decide +kernel
theorem d_X11_reads_62 : decode cm_X11_reads 62 = .ok (.ifCond .eq 22, 3) := by decide +kernel
theorem d_X11_reads_65 : decode cm_X11_reads 65 = .ok (.aload_n 0, 1) := by decide +kernel
theorem d_X11_reads_66 : decode cm_X11_reads 66 = .ok (.invokevirtual 182, 3) := by decide +kernel
theorem d_X11_reads_69 : decode cm_X11_reads 69 = .ok (.ifCond .ne 5, 3) := by decide +kernel
theorem d_X11_reads_72 : decode cm_X11_reads 72 = .ok (.iconst 0, 1) := by decide +kernel
theorem d_X11_reads_73 : decode cm_X11_reads 73 = .ok (.ireturn, 1) := by decide +kernel
theorem d_X11_reads_74 : decode cm_X11_reads 74 = .ok (.aload_n 0, 1) := by decide +kernel
theorem d_X11_reads_75 : decode cm_X11_reads 75 = .ok (.bipush 44, 2) := by decide +kernel
theorem d_X11_reads_77 : decode cm_X11_reads 77 = .ok (.invokevirtual 167, 3) := by decide +kernel
theorem d_X11_reads_80 : decode cm_X11_reads 80 = .ok (.istore_n 2, 1) := by decide +kernel
theorem d_X11_reads_81 : decode cm_X11_reads 81 = .ok (.goto (-20), 3) := by decide +kernel
theorem d_X11_reads_84 : decode cm_X11_reads 84 = .ok (.aload_n 0, 1) := by decide +kernel
theorem d_X11_reads_85 : decode cm_X11_reads 85 = .ok (.bipush 59, 2) := by decide +kernel
theorem d_X11_reads_87 : decode cm_X11_reads 87 = .ok (.invokevirtual 167, 3) := by decide +kernel
theorem d_X11_reads_90 : decode cm_X11_reads 90 = .ok (.ifCond .ne 5, 3) := by decide +kernel
theorem d_X11_reads_93 : decode cm_X11_reads 93 = .ok (.iconst 0, 1) := by decide +kernel
theorem d_X11_reads_94 : decode cm_X11_reads 94 = .ok (.ireturn, 1) := by decide +kernel
theorem d_X11_reads_95 : decode cm_X11_reads 95 = .ok (.aload_n 0, 1) := by decide +kernel
theorem d_X11_reads_96 : decode cm_X11_reads 96 = .ok (.getfield 61, 3) := by decide +kernel
theorem d_X11_reads_99 : decode cm_X11_reads 99 = .ok (.aload_n 0, 1) := by decide +kernel
theorem d_X11_reads_100 : decode cm_X11_reads 100 = .ok (.getfield 156, 3) := by decide +kernel
theorem d_X11_reads_103 : decode cm_X11_reads 103 = .ok (.aload_n 0, 1) := by decide +kernel
theorem d_X11_reads_104 : decode cm_X11_reads 104 = .ok (.getfield 153, 3) := by decide +kernel
theorem d_X11_reads_107 : decode cm_X11_reads 107 = .ok (.iastore, 1) := by decide +kernel
theorem d_X11_reads_108 : decode cm_X11_reads 108 = .ok (.iconst 1, 1) := by decide +kernel
theorem d_X11_reads_109 : decode cm_X11_reads 109 = .ok (.istore_n 2, 1) := by decide +kernel
theorem d_X11_reads_110 : decode cm_X11_reads 110 = .ok (.iload_n 2, 1) := by decide +kernel
theorem d_X11_reads_111 : decode cm_X11_reads 111 = .ok (.ifCond .eq 22, 3) := by decide +kernel
theorem d_X11_reads_114 : decode cm_X11_reads 114 = .ok (.aload_n 0, 1) := by decide +kernel
theorem d_X11_reads_115 : decode cm_X11_reads 115 = .ok (.invokevirtual 185, 3) := by decide +kernel
theorem d_X11_reads_118 : decode cm_X11_reads 118 = .ok (.ifCond .ne 5, 3) := by decide +kernel
theorem d_X11_reads_121 : decode cm_X11_reads 121 = .ok (.iconst 0, 1) := by decide +kernel
theorem d_X11_reads_122 : decode cm_X11_reads 122 = .ok (.ireturn, 1) := by decide +kernel
theorem d_X11_reads_123 : decode cm_X11_reads 123 = .ok (.aload_n 0, 1) := by decide +kernel
theorem d_X11_reads_124 : decode cm_X11_reads 124 = .ok (.bipush 44, 2) := by decide +kernel
theorem d_X11_reads_126 : decode cm_X11_reads 126 = .ok (.invokevirtual 167, 3) := by decide +kernel
theorem d_X11_reads_129 : decode cm_X11_reads 129 = .ok (.istore_n 2, 1) := by decide +kernel
theorem d_X11_reads_130 : decode cm_X11_reads 130 = .ok (.goto (-20), 3) := by decide +kernel
theorem d_X11_reads_133 : decode cm_X11_reads 133 = .ok (.aload_n 0, 1) := by decide +kernel
theorem d_X11_reads_134 : decode cm_X11_reads 134 = .ok (.bipush 46, 2) := by decide +kernel
theorem d_X11_reads_136 : decode cm_X11_reads 136 = .ok (.invokevirtual 167, 3) := by decide +kernel
theorem d_X11_reads_139 : decode cm_X11_reads 139 = .ok (.ifCond .eq 23, 3) := by decide +kernel
theorem d_X11_reads_142 : decode cm_X11_reads 142 = .ok (.aload_n 0, 1) := by decide +kernel
theorem d_X11_reads_143 : decode cm_X11_reads 143 = .ok (.getfield 153, 3) := by decide +kernel
theorem d_X11_reads_146 : decode cm_X11_reads 146 = .ok (.aload_n 0, 1) := by decide +kernel
theorem d_X11_reads_147 : decode cm_X11_reads 147 = .ok (.getfield 19, 3) := by decide +kernel
theorem d_X11_reads_150 : decode cm_X11_reads 150 = .ok (.aload_n 0, 1) := by decide +kernel
theorem d_X11_reads_151 : decode cm_X11_reads 151 = .ok (.getfield 156, 3) := by decide +kernel
theorem d_X11_reads_154 : decode cm_X11_reads 154 = .ok (.iaload, 1) := by decide +kernel
theorem d_X11_reads_155 : decode cm_X11_reads 155 = .ok (.if_icmp .ne 7, 3) := by decide +kernel
theorem d_X11_reads_158 : decode cm_X11_reads 158 = .ok (.iconst 1, 1) := by decide +kernel
theorem d_X11_reads_159 : decode cm_X11_reads 159 = .ok (.goto 4, 3) := by decide +kernel
theorem d_X11_reads_162 : decode cm_X11_reads 162 = .ok (.iconst 0, 1) := by decide +kernel
theorem d_X11_reads_163 : decode cm_X11_reads 163 = .ok (.ireturn, 1) := by decide +kernel
def D_X11_reads_110 (K110 : Int32 → GSt → Prop) (Q : Int32 → GSt → Prop) (x2 : Int32) (σ : GSt) : Prop :=
  (x2 = 0 → D_X11_takes 46 σ (fun r_1 σ_2 => (r_1 = 0 → Q 0 σ_2) ∧
  (¬ r_1 = 0 → vp_in (σ_2 237 22) 9 ∧ ((¬ (σ_2 237 21) = (σ_2 241 (Int32.toNatClampNeg (σ_2 237 22))) → Q 0 σ_2) ∧
  ((σ_2 237 21) = (σ_2 241 (Int32.toNatClampNeg (σ_2 237 22))) → Q 1 σ_2))))) ∧
  (¬ x2 = 0 → D_X11_oneEnd  σ (fun r_3 σ_4 => (¬ r_3 = 0 → D_X11_takes 44 σ_4 (fun r_5 σ_6 => K110 r_5 σ_6)) ∧
  (r_3 = 0 → Q 0 σ_4)))
def L_X11_reads_110 (Q : Int32 → GSt → Prop) : Nat → Int32 → GSt → Prop
  | 0 => fun _ _ => False
  | n + 1 => fun x2 σ => D_X11_reads_110 (L_X11_reads_110 Q n) Q x2 σ
def D_X11_reads_61 (K61 : Int32 → GSt → Prop) (Q : Int32 → GSt → Prop) (x2 : Int32) (σ : GSt) : Prop :=
  (x2 = 0 → D_X11_takes 59 σ (fun r_1 σ_2 => (¬ r_1 = 0 → vp_in (σ_2 237 22) 9 ∧ (∀ σ_3 : GSt, σ_3 = up2 σ_2 255 (Int32.toNatClampNeg (σ_2 237 22)) (σ_2 237 21) → (∃ n : Nat, L_X11_reads_110 Q n 1 σ_3))) ∧
  (r_1 = 0 → Q 0 σ_2))) ∧
  (¬ x2 = 0 → D_X11_oneMove  σ (fun r_4 σ_5 => (¬ r_4 = 0 → D_X11_takes 44 σ_5 (fun r_6 σ_7 => K61 r_6 σ_7)) ∧
  (r_4 = 0 → Q 0 σ_5)))
def L_X11_reads_61 (Q : Int32 → GSt → Prop) : Nat → Int32 → GSt → Prop
  | 0 => fun _ _ => False
  | n + 1 => fun x2 σ => D_X11_reads_61 (L_X11_reads_61 Q n) Q x2 σ
def D_X11_reads_0 (Q : Int32 → GSt → Prop) (x1 : Int32) (σ : GSt) : Prop :=
  ∀ σ_1 : GSt, σ_1 = up2 σ 237 22 x1 → (∀ σ_2 : GSt, σ_2 = up2 σ_1 237 21 0 → (vp_in (σ_2 237 22) 9 ∧ (∀ σ_3 : GSt, σ_3 = up2 σ_2 248 (Int32.toNatClampNeg (σ_2 237 22)) 0 → (vp_in (σ_3 237 22) 9 ∧ (∀ σ_4 : GSt, σ_4 = up2 σ_3 253 (Int32.toNatClampNeg (σ_3 237 22)) 0 → (D_X11_board  σ_4 (fun r_5 σ_6 => (r_5 = 0 → Q 0 σ_6) ∧
  (¬ r_5 = 0 → D_X11_begins  σ_6 (fun r_7 σ_8 => (¬ r_7 = 0 → vp_in (σ_8 237 22) 9 ∧ (∀ σ_9 : GSt, σ_9 = up2 σ_8 254 (Int32.toNatClampNeg (σ_8 237 22)) (σ_8 237 21) → (∃ n : Nat, L_X11_reads_61 Q n 1 σ_9))) ∧
  (r_7 = 0 → Q 0 σ_8))))))))))
def D_X11_reads (x1 : Int32) (σ : GSt) (Q : Int32 → GSt → Prop) : Prop := D_X11_reads_0 Q x1 σ
set_option maxRecDepth 20000 in
set_option maxHeartbeats 4000000 in
theorem s_X11_reads_110 {p : Program} {l : Launch} {e : Env} {s : State} {m : MethodId} {args : Array Value} {below : List Frame} {meth : Method} {c : Code} {G : GC} (X : CallFix p m c cm_X11_reads 3 s args lw_us "GameLoomModel") (hr : meth.sig.returnType = some .boolean) (hlk : meth.locks = false) (K110 : Int32 → GSt → Prop) (Q : Int32 → GSt → Prop) (hK110 : ∀ (x2 : Int32) (σ : GSt) (H : Heap) (locs : List Loc) (ls : Array Slot), Wo G s H locs σ → lv_has ls 3 [(0, .ref (G.2.1 237)), (2, .int x2)] → K110 x2 σ → W p l e rm_X11_reads s m args below meth c H locs 0 0 (QMI G Q below args s) (F0 m 110 ls [])) (x2 : Int32) (σ : GSt) {H : Heap} {locs : List Loc} {ls : Array Slot} (hw : Wo G s H locs σ) (hl : lv_has ls 3 [(0, .ref (G.2.1 237)), (2, .int x2)]) (hD : D_X11_reads_110 K110 Q x2 σ) : W p l e rm_X11_reads s m args below meth c H locs 0 0 (QMI G Q below args s) (F0 m 110 ls []) := by
  unfold D_X11_reads_110 at hD
  refine lv_iload_n X.1 X.2.1 d_X11_reads_110 rfl (lv_at hl 1 rfl) ?_
  refine lv_if_eq (tgt := 133) X.1 X.2.1 d_X11_reads_111 (by decide) (fun q_111 => ?_) (fun q_111 => ?_)
  · have hD := hD.1 q_111
    refine lv_aload_n X.1 X.2.1 d_X11_reads_133 rfl (lv_at hl 0 rfl) ?_
    refine lv_bipush (v := 46) X.1 X.2.1 d_X11_reads_134 (by decide) ?_
    refine gcV_i (rest := []) (As := [.int 46]) (o := 237) X hw (c_X11_takes l G 46 σ _  hD) (kd_lt (by decide +kernel : kd 237 = 11) (by decide)) (ce_11 G _ (by decide +kernel : kd 237 = 11)) rfl tb_1113 tb_1115 tv_41 tb_12 tb_1116 hd_X11_takes ⟨rfl, rfl⟩ ⟨Nat.le_of_ble_eq_true rfl, Nat.le_of_ble_eq_true rfl⟩ rfl hl.1 rfl (Nat.le_of_ble_eq_true rfl) d_X11_reads_136 (fun r_1 σ_2 H locs hD hw => ?_)
    refine lv_if_eq (tgt := 162) X.1 X.2.1 d_X11_reads_139 (by decide) (fun q_139 => ?_) (fun q_139 => ?_)
    · have hD := hD.1 q_139
      refine lv_iconst (v := 0) X.1 X.2.1 d_X11_reads_162 (by decide) ?_
      exact g_zret X hr hlk hw (by decide) hD d_X11_reads_163
    · have hD := hD.2 q_139
      refine lv_aload_n X.1 X.2.1 d_X11_reads_142 rfl (lv_at hl 0 rfl) ?_
      refine gf_11_21 X hw (by decide +kernel : kd 237 = 11) tb_927 d_X11_reads_143 ?_
      refine lv_aload_n X.1 X.2.1 d_X11_reads_146 rfl (lv_at hl 0 rfl) ?_
      refine gf_11_3 X hw (by decide +kernel : kd 237 = 11) tb_909 d_X11_reads_147 ?_
      refine lv_aload_n X.1 X.2.1 d_X11_reads_150 rfl (lv_at hl 0 rfl) ?_
      refine gf_11_22 X hw (by decide +kernel : kd 237 = 11) tb_928 d_X11_reads_151 ?_
      obtain ⟨q_154, hD⟩ := hD
      refine g_iald X hw ly_11_3.1 ly_11_3.2 q_154 d_X11_reads_154 ?_
      refine lv_icmp_ne (tgt := 162) X.1 X.2.1 d_X11_reads_155 (by decide) (fun q_155 => ?_) (fun q_155 => ?_)
      · have hD := hD.1 q_155
        refine lv_iconst (v := 0) X.1 X.2.1 d_X11_reads_162 (by decide) ?_
        exact g_zret X hr hlk hw (by decide) hD d_X11_reads_163
      · have hD := hD.2 q_155
        refine lv_iconst (v := 1) X.1 X.2.1 d_X11_reads_158 (by decide) ?_
        refine lv_goto (tgt := 163) X.1 X.2.1 d_X11_reads_159 (by decide) ?_
        exact g_zret X hr hlk hw (by decide) hD d_X11_reads_163
  · have hD := hD.2 q_111
    refine lv_aload_n X.1 X.2.1 d_X11_reads_114 rfl (lv_at hl 0 rfl) ?_
    refine gcV_i (rest := []) (As := []) (o := 237) X hw (c_X11_oneEnd l G  σ _  hD) (kd_lt (by decide +kernel : kd 237 = 11) (by decide)) (ce_11 G _ (by decide +kernel : kd 237 = 11)) rfl tb_1136 tb_1138 tv_46 tb_12 tb_1139 hd_X11_oneEnd ⟨rfl, rfl⟩ ⟨Nat.le_of_ble_eq_true rfl, Nat.le_of_ble_eq_true rfl⟩ rfl hl.1 rfl (Nat.le_of_ble_eq_true rfl) d_X11_reads_115 (fun r_3 σ_4 H locs hD hw => ?_)
    refine lv_if_ne (tgt := 123) X.1 X.2.1 d_X11_reads_118 (by decide) (fun q_118 => ?_) (fun q_118 => ?_)
    · have hD := hD.1 q_118
      refine lv_aload_n X.1 X.2.1 d_X11_reads_123 rfl (lv_at hl 0 rfl) ?_
      refine lv_bipush (v := 44) X.1 X.2.1 d_X11_reads_124 (by decide) ?_
      refine gcV_i (rest := []) (As := [.int 44]) (o := 237) X hw (c_X11_takes l G 44 σ_4 _  hD) (kd_lt (by decide +kernel : kd 237 = 11) (by decide)) (ce_11 G _ (by decide +kernel : kd 237 = 11)) rfl tb_1113 tb_1115 tv_41 tb_12 tb_1116 hd_X11_takes ⟨rfl, rfl⟩ ⟨Nat.le_of_ble_eq_true rfl, Nat.le_of_ble_eq_true rfl⟩ rfl hl.1 rfl (Nat.le_of_ble_eq_true rfl) d_X11_reads_126 (fun r_5 σ_6 H locs hD hw => ?_)
      refine lv_istore_n (lv' := [(2, .int r_5), (0, .ref (G.2.1 237))]) X.1 X.2.1 d_X11_reads_129 rfl hl (by decide) rfl (fun ls hl => ?_)
      refine lv_goto (tgt := 110) X.1 X.2.1 d_X11_reads_130 (by decide) ?_
      exact hK110 r_5 σ_6 _ _ _  hw (lv_sub hl [1, 0] rfl) hD
    · have hD := hD.2 q_118
      refine lv_iconst (v := 0) X.1 X.2.1 d_X11_reads_121 (by decide) ?_
      exact g_zret X hr hlk hw (by decide) hD d_X11_reads_122
set_option maxRecDepth 20000 in
set_option maxHeartbeats 4000000 in
theorem sl_X11_reads_110 {p : Program} {l : Launch} {e : Env} {s : State} {m : MethodId} {args : Array Value} {below : List Frame} {meth : Method} {c : Code} {G : GC} (X : CallFix p m c cm_X11_reads 3 s args lw_us "GameLoomModel") (hr : meth.sig.returnType = some .boolean) (hlk : meth.locks = false) (Q : Int32 → GSt → Prop) : ∀ (nn : Nat), ∀ (x2 : Int32) (σ : GSt) (H : Heap) (locs : List Loc) (ls : Array Slot), Wo G s H locs σ → lv_has ls 3 [(0, .ref (G.2.1 237)), (2, .int x2)] → L_X11_reads_110 Q nn x2 σ → W p l e rm_X11_reads s m args below meth c H locs 0 0 (QMI G Q below args s) (F0 m 110 ls []) := by
  intro nn
  induction nn with
  | zero => intro x2 σ H locs ls  hw hl hD; exact hD.elim
  | succ nn ih =>
    intro x2 σ H locs ls  hw hl hD
    exact s_X11_reads_110 X hr hlk (L_X11_reads_110 Q nn) Q ih x2 σ hw hl hD
set_option maxRecDepth 20000 in
set_option maxHeartbeats 4000000 in
theorem s_X11_reads_61 {p : Program} {l : Launch} {e : Env} {s : State} {m : MethodId} {args : Array Value} {below : List Frame} {meth : Method} {c : Code} {G : GC} (X : CallFix p m c cm_X11_reads 3 s args lw_us "GameLoomModel") (hr : meth.sig.returnType = some .boolean) (hlk : meth.locks = false) (K61 : Int32 → GSt → Prop) (Q : Int32 → GSt → Prop) (hK61 : ∀ (x2 : Int32) (σ : GSt) (H : Heap) (locs : List Loc) (ls : Array Slot), Wo G s H locs σ → lv_has ls 3 [(0, .ref (G.2.1 237)), (2, .int x2)] → K61 x2 σ → W p l e rm_X11_reads s m args below meth c H locs 0 0 (QMI G Q below args s) (F0 m 61 ls [])) (x2 : Int32) (σ : GSt) {H : Heap} {locs : List Loc} {ls : Array Slot} (hw : Wo G s H locs σ) (hl : lv_has ls 3 [(0, .ref (G.2.1 237)), (2, .int x2)]) (hD : D_X11_reads_61 K61 Q x2 σ) : W p l e rm_X11_reads s m args below meth c H locs 0 0 (QMI G Q below args s) (F0 m 61 ls []) := by
  unfold D_X11_reads_61 at hD
  refine lv_iload_n X.1 X.2.1 d_X11_reads_61 rfl (lv_at hl 1 rfl) ?_
  refine lv_if_eq (tgt := 84) X.1 X.2.1 d_X11_reads_62 (by decide) (fun q_62 => ?_) (fun q_62 => ?_)
  · have hD := hD.1 q_62
    refine lv_aload_n X.1 X.2.1 d_X11_reads_84 rfl (lv_at hl 0 rfl) ?_
    refine lv_bipush (v := 59) X.1 X.2.1 d_X11_reads_85 (by decide) ?_
    refine gcV_i (rest := []) (As := [.int 59]) (o := 237) X hw (c_X11_takes l G 59 σ _  hD) (kd_lt (by decide +kernel : kd 237 = 11) (by decide)) (ce_11 G _ (by decide +kernel : kd 237 = 11)) rfl tb_1113 tb_1115 tv_41 tb_12 tb_1116 hd_X11_takes ⟨rfl, rfl⟩ ⟨Nat.le_of_ble_eq_true rfl, Nat.le_of_ble_eq_true rfl⟩ rfl hl.1 rfl (Nat.le_of_ble_eq_true rfl) d_X11_reads_87 (fun r_1 σ_2 H locs hD hw => ?_)
    refine lv_if_ne (tgt := 95) X.1 X.2.1 d_X11_reads_90 (by decide) (fun q_90 => ?_) (fun q_90 => ?_)
    · have hD := hD.1 q_90
      refine lv_aload_n X.1 X.2.1 d_X11_reads_95 rfl (lv_at hl 0 rfl) ?_
      refine gf_11_17 X hw (by decide +kernel : kd 237 = 11) tb_923 d_X11_reads_96 ?_
      refine lv_aload_n X.1 X.2.1 d_X11_reads_99 rfl (lv_at hl 0 rfl) ?_
      refine gf_11_22 X hw (by decide +kernel : kd 237 = 11) tb_928 d_X11_reads_100 ?_
      refine lv_aload_n X.1 X.2.1 d_X11_reads_103 rfl (lv_at hl 0 rfl) ?_
      refine gf_11_21 X hw (by decide +kernel : kd 237 = 11) tb_927 d_X11_reads_104 ?_
      obtain ⟨q_107, hD⟩ := hD
      refine g_iast X hw ly_11_17.1 ly_11_17.2 q_107 d_X11_reads_107 (fun H locs hw => ?_)
      obtain ⟨σ_3, e_σ_3⟩ : ∃ z : GSt, z = up2 σ_2 255 (Int32.toNatClampNeg (σ_2 237 22)) (σ_2 237 21) := ⟨_, rfl⟩
      rw [← e_σ_3] at hw
      have hD := hD σ_3 e_σ_3
      refine lv_iconst (v := 1) X.1 X.2.1 d_X11_reads_108 (by decide) ?_
      refine lv_istore_n (lv' := [(2, .int 1), (0, .ref (G.2.1 237))]) X.1 X.2.1 d_X11_reads_109 rfl hl (by decide) rfl (fun ls hl => ?_)
      obtain ⟨n9, hD⟩ := hD
      exact sl_X11_reads_110 X hr hlk  Q  n9 1 σ_3 _ _ _  hw (lv_sub hl [1, 0] rfl) hD
    · have hD := hD.2 q_90
      refine lv_iconst (v := 0) X.1 X.2.1 d_X11_reads_93 (by decide) ?_
      exact g_zret X hr hlk hw (by decide) hD d_X11_reads_94
  · have hD := hD.2 q_62
    refine lv_aload_n X.1 X.2.1 d_X11_reads_65 rfl (lv_at hl 0 rfl) ?_
    refine gcV_i (rest := []) (As := []) (o := 237) X hw (c_X11_oneMove l G  σ _  hD) (kd_lt (by decide +kernel : kd 237 = 11) (by decide)) (ce_11 G _ (by decide +kernel : kd 237 = 11)) rfl tb_1132 tb_1134 tv_45 tb_12 tb_1135 hd_X11_oneMove ⟨rfl, rfl⟩ ⟨Nat.le_of_ble_eq_true rfl, Nat.le_of_ble_eq_true rfl⟩ rfl hl.1 rfl (Nat.le_of_ble_eq_true rfl) d_X11_reads_66 (fun r_4 σ_5 H locs hD hw => ?_)
    refine lv_if_ne (tgt := 74) X.1 X.2.1 d_X11_reads_69 (by decide) (fun q_69 => ?_) (fun q_69 => ?_)
    · have hD := hD.1 q_69
      refine lv_aload_n X.1 X.2.1 d_X11_reads_74 rfl (lv_at hl 0 rfl) ?_
      refine lv_bipush (v := 44) X.1 X.2.1 d_X11_reads_75 (by decide) ?_
      refine gcV_i (rest := []) (As := [.int 44]) (o := 237) X hw (c_X11_takes l G 44 σ_5 _  hD) (kd_lt (by decide +kernel : kd 237 = 11) (by decide)) (ce_11 G _ (by decide +kernel : kd 237 = 11)) rfl tb_1113 tb_1115 tv_41 tb_12 tb_1116 hd_X11_takes ⟨rfl, rfl⟩ ⟨Nat.le_of_ble_eq_true rfl, Nat.le_of_ble_eq_true rfl⟩ rfl hl.1 rfl (Nat.le_of_ble_eq_true rfl) d_X11_reads_77 (fun r_6 σ_7 H locs hD hw => ?_)
      refine lv_istore_n (lv' := [(2, .int r_6), (0, .ref (G.2.1 237))]) X.1 X.2.1 d_X11_reads_80 rfl hl (by decide) rfl (fun ls hl => ?_)
      refine lv_goto (tgt := 61) X.1 X.2.1 d_X11_reads_81 (by decide) ?_
      exact hK61 r_6 σ_7 _ _ _  hw (lv_sub hl [1, 0] rfl) hD
    · have hD := hD.2 q_69
      refine lv_iconst (v := 0) X.1 X.2.1 d_X11_reads_72 (by decide) ?_
      exact g_zret X hr hlk hw (by decide) hD d_X11_reads_73
set_option maxRecDepth 20000 in
set_option maxHeartbeats 4000000 in
theorem sl_X11_reads_61 {p : Program} {l : Launch} {e : Env} {s : State} {m : MethodId} {args : Array Value} {below : List Frame} {meth : Method} {c : Code} {G : GC} (X : CallFix p m c cm_X11_reads 3 s args lw_us "GameLoomModel") (hr : meth.sig.returnType = some .boolean) (hlk : meth.locks = false) (Q : Int32 → GSt → Prop) : ∀ (nn : Nat), ∀ (x2 : Int32) (σ : GSt) (H : Heap) (locs : List Loc) (ls : Array Slot), Wo G s H locs σ → lv_has ls 3 [(0, .ref (G.2.1 237)), (2, .int x2)] → L_X11_reads_61 Q nn x2 σ → W p l e rm_X11_reads s m args below meth c H locs 0 0 (QMI G Q below args s) (F0 m 61 ls []) := by
  intro nn
  induction nn with
  | zero => intro x2 σ H locs ls  hw hl hD; exact hD.elim
  | succ nn ih =>
    intro x2 σ H locs ls  hw hl hD
    exact s_X11_reads_61 X hr hlk (L_X11_reads_61 Q nn) Q ih x2 σ hw hl hD
set_option maxRecDepth 20000 in
set_option maxHeartbeats 4000000 in
theorem s_X11_reads_0 {p : Program} {l : Launch} {e : Env} {s : State} {m : MethodId} {args : Array Value} {below : List Frame} {meth : Method} {c : Code} {G : GC} (X : CallFix p m c cm_X11_reads 3 s args lw_us "GameLoomModel") (hr : meth.sig.returnType = some .boolean) (hlk : meth.locks = false) (Q : Int32 → GSt → Prop) (x1 : Int32) (σ : GSt) {H : Heap} {locs : List Loc} {ls : Array Slot} (hw : Wo G s H locs σ) (hl : lv_has ls 3 [(0, .ref (G.2.1 237)), (1, .int x1)]) (hD : D_X11_reads_0 Q x1 σ) : W p l e rm_X11_reads s m args below meth c H locs 0 0 (QMI G Q below args s) (F0 m 0 ls []) := by
  unfold D_X11_reads_0 at hD
  refine lv_aload_n X.1 X.2.1 d_X11_reads_0 rfl (lv_at hl 0 rfl) ?_
  refine lv_iload_n X.1 X.2.1 d_X11_reads_1 rfl (lv_at hl 1 rfl) ?_
  refine pf_11_22 X hw (by decide +kernel : kd 237 = 11) tb_928 d_X11_reads_2 (fun H locs hw => ?_)
  obtain ⟨σ_1, e_σ_1⟩ : ∃ z : GSt, z = up2 σ 237 22 x1 := ⟨_, rfl⟩
  rw [← e_σ_1] at hw
  have hD := hD σ_1 e_σ_1
  refine lv_aload_n X.1 X.2.1 d_X11_reads_5 rfl (lv_at hl 0 rfl) ?_
  refine lv_iconst (v := 0) X.1 X.2.1 d_X11_reads_6 (by decide) ?_
  refine pf_11_21 X hw (by decide +kernel : kd 237 = 11) tb_927 d_X11_reads_7 (fun H locs hw => ?_)
  obtain ⟨σ_2, e_σ_2⟩ : ∃ z : GSt, z = up2 σ_1 237 21 0 := ⟨_, rfl⟩
  rw [← e_σ_2] at hw
  have hD := hD σ_2 e_σ_2
  refine lv_aload_n X.1 X.2.1 d_X11_reads_10 rfl (lv_at hl 0 rfl) ?_
  refine gf_11_10 X hw (by decide +kernel : kd 237 = 11) tb_916 d_X11_reads_11 ?_
  refine lv_aload_n X.1 X.2.1 d_X11_reads_14 rfl (lv_at hl 0 rfl) ?_
  refine gf_11_22 X hw (by decide +kernel : kd 237 = 11) tb_928 d_X11_reads_15 ?_
  refine lv_iconst (v := 0) X.1 X.2.1 d_X11_reads_18 (by decide) ?_
  obtain ⟨q_19, hD⟩ := hD
  refine g_iast X hw ly_11_10.1 ly_11_10.2 q_19 d_X11_reads_19 (fun H locs hw => ?_)
  obtain ⟨σ_3, e_σ_3⟩ : ∃ z : GSt, z = up2 σ_2 248 (Int32.toNatClampNeg (σ_2 237 22)) 0 := ⟨_, rfl⟩
  rw [← e_σ_3] at hw
  have hD := hD σ_3 e_σ_3
  refine lv_aload_n X.1 X.2.1 d_X11_reads_20 rfl (lv_at hl 0 rfl) ?_
  refine gf_11_15 X hw (by decide +kernel : kd 237 = 11) tb_921 d_X11_reads_21 ?_
  refine lv_aload_n X.1 X.2.1 d_X11_reads_24 rfl (lv_at hl 0 rfl) ?_
  refine gf_11_22 X hw (by decide +kernel : kd 237 = 11) tb_928 d_X11_reads_25 ?_
  refine lv_iconst (v := 0) X.1 X.2.1 d_X11_reads_28 (by decide) ?_
  obtain ⟨q_29, hD⟩ := hD
  refine g_iast X hw ly_11_15.1 ly_11_15.2 q_29 d_X11_reads_29 (fun H locs hw => ?_)
  obtain ⟨σ_4, e_σ_4⟩ : ∃ z : GSt, z = up2 σ_3 253 (Int32.toNatClampNeg (σ_3 237 22)) 0 := ⟨_, rfl⟩
  rw [← e_σ_4] at hw
  have hD := hD σ_4 e_σ_4
  refine lv_aload_n X.1 X.2.1 d_X11_reads_30 rfl (lv_at hl 0 rfl) ?_
  refine gcV_i (rest := []) (As := []) (o := 237) X hw (c_X11_board l G  σ_4 _  hD) (kd_lt (by decide +kernel : kd 237 = 11) (by decide)) (ce_11 G _ (by decide +kernel : kd 237 = 11)) rfl tb_1109 tb_1111 tv_40 tb_12 tb_1112 hd_X11_board ⟨rfl, rfl⟩ ⟨Nat.le_of_ble_eq_true rfl, Nat.le_of_ble_eq_true rfl⟩ rfl hl.1 rfl (Nat.le_of_ble_eq_true rfl) d_X11_reads_31 (fun r_5 σ_6 H locs hD hw => ?_)
  refine lv_if_eq (tgt := 44) X.1 X.2.1 d_X11_reads_34 (by decide) (fun q_34 => ?_) (fun q_34 => ?_)
  · have hD := hD.1 q_34
    refine lv_iconst (v := 0) X.1 X.2.1 d_X11_reads_44 (by decide) ?_
    exact g_zret X hr hlk hw (by decide) hD d_X11_reads_45
  · have hD := hD.2 q_34
    refine lv_aload_n X.1 X.2.1 d_X11_reads_37 rfl (lv_at hl 0 rfl) ?_
    refine gcV_i (rest := []) (As := []) (o := 237) X hw (c_X11_begins l G  σ_6 _  hD) (kd_lt (by decide +kernel : kd 237 = 11) (by decide)) (ce_11 G _ (by decide +kernel : kd 237 = 11)) rfl tb_1128 tb_1130 tv_44 tb_12 tb_1131 hd_X11_begins ⟨rfl, rfl⟩ ⟨Nat.le_of_ble_eq_true rfl, Nat.le_of_ble_eq_true rfl⟩ rfl hl.1 rfl (Nat.le_of_ble_eq_true rfl) d_X11_reads_38 (fun r_7 σ_8 H locs hD hw => ?_)
    refine lv_if_ne (tgt := 46) X.1 X.2.1 d_X11_reads_41 (by decide) (fun q_41 => ?_) (fun q_41 => ?_)
    · have hD := hD.1 q_41
      refine lv_aload_n X.1 X.2.1 d_X11_reads_46 rfl (lv_at hl 0 rfl) ?_
      refine gf_11_16 X hw (by decide +kernel : kd 237 = 11) tb_922 d_X11_reads_47 ?_
      refine lv_aload_n X.1 X.2.1 d_X11_reads_50 rfl (lv_at hl 0 rfl) ?_
      refine gf_11_22 X hw (by decide +kernel : kd 237 = 11) tb_928 d_X11_reads_51 ?_
      refine lv_aload_n X.1 X.2.1 d_X11_reads_54 rfl (lv_at hl 0 rfl) ?_
      refine gf_11_21 X hw (by decide +kernel : kd 237 = 11) tb_927 d_X11_reads_55 ?_
      obtain ⟨q_58, hD⟩ := hD
      refine g_iast X hw ly_11_16.1 ly_11_16.2 q_58 d_X11_reads_58 (fun H locs hw => ?_)
      obtain ⟨σ_9, e_σ_9⟩ : ∃ z : GSt, z = up2 σ_8 254 (Int32.toNatClampNeg (σ_8 237 22)) (σ_8 237 21) := ⟨_, rfl⟩
      rw [← e_σ_9] at hw
      have hD := hD σ_9 e_σ_9
      refine lv_iconst (v := 1) X.1 X.2.1 d_X11_reads_59 (by decide) ?_
      refine lv_istore_n (lv' := [(2, .int 1), (0, .ref (G.2.1 237)), (1, .int x1)]) X.1 X.2.1 d_X11_reads_60 rfl hl (by decide) rfl (fun ls hl => ?_)
      obtain ⟨n9, hD⟩ := hD
      exact sl_X11_reads_61 X hr hlk  Q  n9 1 σ_9 _ _ _  hw (lv_sub hl [1, 0] rfl) hD
    · have hD := hD.2 q_41
      refine lv_iconst (v := 0) X.1 X.2.1 d_X11_reads_44 (by decide) ?_
      exact g_zret X hr hlk hw (by decide) hD d_X11_reads_45
theorem c_X11_reads (l : Launch) (G : GC) (x1 : Int32) (σ : GSt) (Q : Int32 → GSt → Prop)  (hD : D_X11_reads x1 σ Q) : MI l ym_X11_reads cm_X11_reads 3 .boolean rm_X11_reads G σ [.ref (G.2.1 237), .int x1] Q := by
  refine met_i (by decide) (Nat.le_of_ble_eq_true rfl) ?_
  intro p e s m args below meth c X hr hlk hw ls hl
  exact s_X11_reads_0 X hr hlk Q  x1 σ hw (lv_sub hl [0, 1] rfl) hD
theorem hd_X11_grown : ym_X11_grown.cls = "GameLoomModel" ∧ ym_X11_grown.cls ≠ "java/lang/invoke/MethodHandle" ∧ ym_X11_grown.cls ≠ "java/lang/invoke/VarHandle" ∧ (parseMethodDescriptor ym_X11_grown.desc).map (fun d => d.parameters.length) = some 0 := by decide +kernel
abbrev rm_X11_grown : Room := { frames := 4, cells := 0, slots := 0, locals := 93 }
theorem d_X11_grown_0 : decode cm_X11_grown 0 = .ok (.aload_n 0, 1) := by decide +kernel
theorem d_X11_grown_1 : decode cm_X11_grown 1 = .ok (.bipush 8, 2) := by decide +kernel
theorem d_X11_grown_3 : decode cm_X11_grown 3 = .ok (.invokevirtual 188, 3) := by decide +kernel
theorem d_X11_grown_6 : decode cm_X11_grown 6 = .ok (.ifCond .ne 11, 3) := by decide +kernel
theorem d_X11_grown_9 : decode cm_X11_grown 9 = .ok (.bipush (-20), 2) := by decide +kernel
theorem d_X11_grown_11 : decode cm_X11_grown 11 = .ok (.aload_n 0, 1) := by decide +kernel
theorem d_X11_grown_12 : decode cm_X11_grown 12 = .ok (.getfield 153, 3) := by decide +kernel
theorem d_X11_grown_15 : decode cm_X11_grown 15 = .ok (.isub, 1) := by decide +kernel
theorem d_X11_grown_16 : decode cm_X11_grown 16 = .ok (.ireturn, 1) := by decide +kernel
theorem d_X11_grown_17 : decode cm_X11_grown 17 = .ok (.aload_n 0, 1) := by decide +kernel
theorem d_X11_grown_18 : decode cm_X11_grown 18 = .ok (.getfield 19, 3) := by decide +kernel
theorem d_X11_grown_21 : decode cm_X11_grown 21 = .ok (.aload_n 0, 1) := by decide +kernel
theorem d_X11_grown_22 : decode cm_X11_grown 22 = .ok (.getfield 191, 3) := by decide +kernel
theorem d_X11_grown_25 : decode cm_X11_grown 25 = .ok (.aload_n 0, 1) := by decide +kernel
theorem d_X11_grown_26 : decode cm_X11_grown 26 = .ok (.getfield 19, 3) := by decide +kernel
theorem d_X11_grown_29 : decode cm_X11_grown 29 = .ok (.bipush 8, 2) := by decide +kernel
theorem d_X11_grown_31 : decode cm_X11_grown 31 = .ok (.iaload, 1) := by decide +kernel
theorem d_X11_grown_32 : decode cm_X11_grown 32 = .ok (.iastore, 1) := by decide +kernel
theorem d_X11_grown_33 : decode cm_X11_grown 33 = .ok (.iconst 0, 1) := by decide +kernel
theorem d_X11_grown_34 : decode cm_X11_grown 34 = .ok (.istore_n 1, 1) := by decide +kernel
theorem d_X11_grown_35 : decode cm_X11_grown 35 = .ok (.iload_n 1, 1) := by decide +kernel
theorem d_X11_grown_36 : decode cm_X11_grown 36 = .ok (.bipush 90, 2) := by decide +kernel
theorem d_X11_grown_38 : decode cm_X11_grown 38 = .ok (.if_icmp .ge 33, 3) := by decide +kernel
theorem d_X11_grown_41 : decode cm_X11_grown 41 = .ok (.aload_n 0, 1) := by decide +kernel
theorem d_X11_grown_42 : decode cm_X11_grown 42 = .ok (.getfield 16, 3) := by decide +kernel
theorem d_X11_grown_45 : decode cm_X11_grown 45 = .ok (.bipush 90, 2) := by decide +kernel
theorem d_X11_grown_47 : decode cm_X11_grown 47 = .ok (.aload_n 0, 1) := by decide +kernel
theorem d_X11_grown_48 : decode cm_X11_grown 48 = .ok (.getfield 191, 3) := by decide +kernel
theorem d_X11_grown_51 : decode cm_X11_grown 51 = .ok (.imul, 1) := by decide +kernel
theorem d_X11_grown_52 : decode cm_X11_grown 52 = .ok (.iload_n 1, 1) := by decide +kernel
theorem d_X11_grown_53 : decode cm_X11_grown 53 = .ok (.iadd, 1) := by decide +kernel
theorem d_X11_grown_54 : decode cm_X11_grown 54 = .ok (.aload_n 0, 1) := by decide +kernel
theorem d_X11_grown_55 : decode cm_X11_grown 55 = .ok (.getfield 16, 3) := by decide +kernel
theorem d_X11_grown_58 : decode cm_X11_grown 58 = .ok (.sipush 720, 3) := by decide +kernel
theorem d_X11_grown_61 : decode cm_X11_grown 61 = .ok (.iload_n 1, 1) := by decide +kernel
theorem d_X11_grown_62 : decode cm_X11_grown 62 = .ok (.iadd, 1) := by decide +kernel
theorem d_X11_grown_63 : decode cm_X11_grown 63 = .ok (.iaload, 1) := by decide +kernel
theorem d_X11_grown_64 : decode cm_X11_grown 64 = .ok (.iastore, 1) := by decide +kernel
theorem d_X11_grown_65 : decode cm_X11_grown 65 = .ok (.iinc 1 1, 3) := by decide +kernel
theorem d_X11_grown_68 : decode cm_X11_grown 68 = .ok (.goto (-33), 3) := by decide +kernel
theorem d_X11_grown_71 : decode cm_X11_grown 71 = .ok (.aload_n 0, 1) := by decide +kernel
theorem d_X11_grown_72 : decode cm_X11_grown 72 = .ok (.aload_n 0, 1) := by decide +kernel
theorem d_X11_grown_73 : decode cm_X11_grown 73 = .ok (.getfield 191, 3) := by decide +kernel
theorem d_X11_grown_76 : decode cm_X11_grown 76 = .ok (.invokevirtual 188, 3) := by decide +kernel
theorem d_X11_grown_79 : decode cm_X11_grown 79 = .ok (.istore_n 1, 1) := by decide +kernel
theorem d_X11_grown_80 : decode cm_X11_grown 80 = .ok (.aload_n 0, 1) := by decide +kernel
theorem d_X11_grown_81 : decode cm_X11_grown 81 = .ok (.dup, 1) := by decide +kernel
theorem d_X11_grown_82 : decode cm_X11_grown 82 = .ok (.getfield 191, 3) := by decide +kernel
theorem d_X11_grown_85 : decode cm_X11_grown 85 = .ok (.iconst 1, 1) := by decide +kernel
theorem d_X11_grown_86 : decode cm_X11_grown 86 = .ok (.iadd, 1) := by decide +kernel
theorem d_X11_grown_87 : decode cm_X11_grown 87 = .ok (.putfield 191, 3) := by decide +kernel
theorem d_X11_grown_90 : decode cm_X11_grown 90 = .ok (.iload_n 1, 1) := by decide +kernel
theorem d_X11_grown_91 : decode cm_X11_grown 91 = .ok (.ifCond .eq 12, 3) := by decide +kernel
theorem d_X11_grown_94 : decode cm_X11_grown 94 = .ok (.aload_n 0, 1) := by decide +kernel
theorem d_X11_grown_95 : decode cm_X11_grown 95 = .ok (.getfield 191, 3) := by decide +kernel
theorem d_X11_grown_98 : decode cm_X11_grown 98 = .ok (.iconst 1, 1) := by decide +kernel
theorem d_X11_grown_99 : decode cm_X11_grown 99 = .ok (.isub, 1) := by decide +kernel
theorem d_X11_grown_100 : decode cm_X11_grown 100 = .ok (.goto 5, 3) := by decide +kernel
theorem d_X11_grown_103 : decode cm_X11_grown 103 = .ok (.bipush (-9), 2) := by decide +kernel
theorem d_X11_grown_105 : decode cm_X11_grown 105 = .ok (.ireturn, 1) := by decide +kernel
def D_X11_grown_35 (K35 : Int32 → GSt → Prop) (Q : Int32 → GSt → Prop) (x1 : Int32) (σ : GSt) : Prop :=
  (90 ≤ x1 → D_X11_reads (σ 237 20) σ (fun r_1 σ_2 => ∀ σ_3 : GSt, σ_3 = up2 σ_2 237 20 ((σ_2 237 20) + 1) → ((r_1 = 0 → Q (-9) σ_3) ∧
  (¬ r_1 = 0 → Q ((σ_3 237 20) - 1) σ_3)))) ∧
  (¬ 90 ≤ x1 → vp_in (720 + x1) 810 ∧ (vp_in ((90 * (σ 237 20)) + x1) 810 ∧ (∀ σ_4 : GSt, σ_4 = up2 σ 240 (Int32.toNatClampNeg ((90 * (σ 237 20)) + x1)) (σ 240 (Int32.toNatClampNeg (720 + x1))) → (∀ x1_5 : Int32, x1_5 = x1 + 1 → (K35 x1_5 σ_4)))))
def L_X11_grown_35 (Q : Int32 → GSt → Prop) : Nat → Int32 → GSt → Prop
  | 0 => fun _ _ => False
  | n + 1 => fun x1 σ => D_X11_grown_35 (L_X11_grown_35 Q n) Q x1 σ
def D_X11_grown_0 (Q : Int32 → GSt → Prop) (σ : GSt) : Prop :=
  D_X11_reads 8 σ (fun r_1 σ_2 => (¬ r_1 = 0 → vp_in (σ_2 237 20) 9 ∧ (∀ σ_3 : GSt, σ_3 = up2 σ_2 241 (Int32.toNatClampNeg (σ_2 237 20)) (σ_2 241 (Int32.toNatClampNeg 8)) → (∃ n : Nat, L_X11_grown_35 Q n 0 σ_3))) ∧
  (r_1 = 0 → Q ((-20) - (σ_2 237 21)) σ_2))
def D_X11_grown (σ : GSt) (Q : Int32 → GSt → Prop) : Prop := D_X11_grown_0 Q σ
set_option maxRecDepth 20000 in
set_option maxHeartbeats 4000000 in
theorem s_X11_grown_35 {p : Program} {l : Launch} {e : Env} {s : State} {m : MethodId} {args : Array Value} {below : List Frame} {meth : Method} {c : Code} {G : GC} (X : CallFix p m c cm_X11_grown 2 s args lw_us "GameLoomModel") (hr : meth.sig.returnType = some .int) (hlk : meth.locks = false) (K35 : Int32 → GSt → Prop) (Q : Int32 → GSt → Prop) (hK35 : ∀ (x1 : Int32) (σ : GSt) (H : Heap) (locs : List Loc) (ls : Array Slot), Wo G s H locs σ → lv_has ls 2 [(0, .ref (G.2.1 237)), (1, .int x1)] → K35 x1 σ → W p l e rm_X11_grown s m args below meth c H locs 0 0 (QMI G Q below args s) (F0 m 35 ls [])) (x1 : Int32) (σ : GSt) {H : Heap} {locs : List Loc} {ls : Array Slot} (hw : Wo G s H locs σ) (hl : lv_has ls 2 [(0, .ref (G.2.1 237)), (1, .int x1)]) (hD : D_X11_grown_35 K35 Q x1 σ) : W p l e rm_X11_grown s m args below meth c H locs 0 0 (QMI G Q below args s) (F0 m 35 ls []) := by
  unfold D_X11_grown_35 at hD
  refine lv_iload_n X.1 X.2.1 d_X11_grown_35 rfl (lv_at hl 1 rfl) ?_
  refine lv_bipush (v := 90) X.1 X.2.1 d_X11_grown_36 (by decide) ?_
  refine lv_icmp_ge (tgt := 71) X.1 X.2.1 d_X11_grown_38 (by decide) (fun q_38 => ?_) (fun q_38 => ?_)
  · have hD := hD.1 q_38
    refine lv_aload_n X.1 X.2.1 d_X11_grown_71 rfl (lv_at hl 0 rfl) ?_
    refine lv_aload_n X.1 X.2.1 d_X11_grown_72 rfl (lv_at hl 0 rfl) ?_
    refine gf_11_20 X hw (by decide +kernel : kd 237 = 11) tb_926 d_X11_grown_73 ?_
    refine gcV_i (rest := []) (As := [.int (σ 237 20)]) (o := 237) X hw (c_X11_reads l G (σ 237 20) σ _  hD) (kd_lt (by decide +kernel : kd 237 = 11) (by decide)) (ce_11 G _ (by decide +kernel : kd 237 = 11)) rfl tb_1105 tb_1107 tv_39 tb_12 tb_1108 hd_X11_reads ⟨rfl, rfl⟩ ⟨Nat.le_of_ble_eq_true rfl, Nat.le_of_ble_eq_true rfl⟩ rfl hl.1 rfl (Nat.le_of_ble_eq_true rfl) d_X11_grown_76 (fun r_1 σ_2 H locs hD hw => ?_)
    refine lv_istore_n (lv' := [(1, .int r_1), (0, .ref (G.2.1 237))]) X.1 X.2.1 d_X11_grown_79 rfl hl (by decide) rfl (fun ls hl => ?_)
    refine lv_aload_n X.1 X.2.1 d_X11_grown_80 rfl (lv_at hl 1 rfl) ?_
    refine lv_dup X.1 X.2.1 d_X11_grown_81 rfl ?_
    refine gf_11_20 X hw (by decide +kernel : kd 237 = 11) tb_926 d_X11_grown_82 ?_
    refine lv_iconst (v := 1) X.1 X.2.1 d_X11_grown_85 (by decide) ?_
    refine lv_iadd X.1 X.2.1 d_X11_grown_86 ?_
    refine pf_11_20 X hw (by decide +kernel : kd 237 = 11) tb_926 d_X11_grown_87 (fun H locs hw => ?_)
    obtain ⟨σ_3, e_σ_3⟩ : ∃ z : GSt, z = up2 σ_2 237 20 ((σ_2 237 20) + 1) := ⟨_, rfl⟩
    rw [← e_σ_3] at hw
    have hD := hD σ_3 e_σ_3
    refine lv_iload_n X.1 X.2.1 d_X11_grown_90 rfl (lv_at hl 0 rfl) ?_
    refine lv_if_eq (tgt := 103) X.1 X.2.1 d_X11_grown_91 (by decide) (fun q_91 => ?_) (fun q_91 => ?_)
    · have hD := hD.1 q_91
      refine lv_bipush (v := (-9)) X.1 X.2.1 d_X11_grown_103 (by decide) ?_
      exact g_iret X hr hlk hw hD d_X11_grown_105
    · have hD := hD.2 q_91
      refine lv_aload_n X.1 X.2.1 d_X11_grown_94 rfl (lv_at hl 1 rfl) ?_
      refine gf_11_20 X hw (by decide +kernel : kd 237 = 11) tb_926 d_X11_grown_95 ?_
      refine lv_iconst (v := 1) X.1 X.2.1 d_X11_grown_98 (by decide) ?_
      refine lv_isub X.1 X.2.1 d_X11_grown_99 ?_
      refine lv_goto (tgt := 105) X.1 X.2.1 d_X11_grown_100 (by decide) ?_
      exact g_iret X hr hlk hw hD d_X11_grown_105
  · have hD := hD.2 q_38
    refine lv_aload_n X.1 X.2.1 d_X11_grown_41 rfl (lv_at hl 0 rfl) ?_
    refine gf_11_2 X hw (by decide +kernel : kd 237 = 11) tb_908 d_X11_grown_42 ?_
    refine lv_bipush (v := 90) X.1 X.2.1 d_X11_grown_45 (by decide) ?_
    refine lv_aload_n X.1 X.2.1 d_X11_grown_47 rfl (lv_at hl 0 rfl) ?_
    refine gf_11_20 X hw (by decide +kernel : kd 237 = 11) tb_926 d_X11_grown_48 ?_
    refine lv_imul X.1 X.2.1 d_X11_grown_51 ?_
    refine lv_iload_n X.1 X.2.1 d_X11_grown_52 rfl (lv_at hl 1 rfl) ?_
    refine lv_iadd X.1 X.2.1 d_X11_grown_53 ?_
    refine lv_aload_n X.1 X.2.1 d_X11_grown_54 rfl (lv_at hl 0 rfl) ?_
    refine gf_11_2 X hw (by decide +kernel : kd 237 = 11) tb_908 d_X11_grown_55 ?_
    refine lv_sipush (v := 720) X.1 X.2.1 d_X11_grown_58 (by decide) ?_
    refine lv_iload_n X.1 X.2.1 d_X11_grown_61 rfl (lv_at hl 1 rfl) ?_
    refine lv_iadd X.1 X.2.1 d_X11_grown_62 ?_
    obtain ⟨q_63, hD⟩ := hD
    refine g_iald X hw ly_11_2.1 ly_11_2.2 q_63 d_X11_grown_63 ?_
    obtain ⟨q_64, hD⟩ := hD
    refine g_iast X hw ly_11_2.1 ly_11_2.2 q_64 d_X11_grown_64 (fun H locs hw => ?_)
    obtain ⟨σ_4, e_σ_4⟩ : ∃ z : GSt, z = up2 σ 240 (Int32.toNatClampNeg ((90 * (σ 237 20)) + x1)) (σ 240 (Int32.toNatClampNeg (720 + x1))) := ⟨_, rfl⟩
    rw [← e_σ_4] at hw
    have hD := hD σ_4 e_σ_4
    obtain ⟨x1_5, e_x1_5⟩ : ∃ y : Int32, y = x1 + 1 := ⟨_, rfl⟩
    have hD := hD x1_5 e_x1_5
    refine lv_iinc (v := x1_5) (lv' := [(1, .int x1_5), (0, .ref (G.2.1 237))]) X.1 X.2.1 d_X11_grown_65 hl (k := 1) rfl (by rw [e_x1_5]; rfl) (by decide) rfl (fun ls hl => ?_)
    refine lv_goto (tgt := 35) X.1 X.2.1 d_X11_grown_68 (by decide) ?_
    exact hK35 x1_5 σ_4 _ _ _  hw (lv_sub hl [1, 0] rfl) hD
set_option maxRecDepth 20000 in
set_option maxHeartbeats 4000000 in
theorem sl_X11_grown_35 {p : Program} {l : Launch} {e : Env} {s : State} {m : MethodId} {args : Array Value} {below : List Frame} {meth : Method} {c : Code} {G : GC} (X : CallFix p m c cm_X11_grown 2 s args lw_us "GameLoomModel") (hr : meth.sig.returnType = some .int) (hlk : meth.locks = false) (Q : Int32 → GSt → Prop) : ∀ (nn : Nat), ∀ (x1 : Int32) (σ : GSt) (H : Heap) (locs : List Loc) (ls : Array Slot), Wo G s H locs σ → lv_has ls 2 [(0, .ref (G.2.1 237)), (1, .int x1)] → L_X11_grown_35 Q nn x1 σ → W p l e rm_X11_grown s m args below meth c H locs 0 0 (QMI G Q below args s) (F0 m 35 ls []) := by
  intro nn
  induction nn with
  | zero => intro x1 σ H locs ls  hw hl hD; exact hD.elim
  | succ nn ih =>
    intro x1 σ H locs ls  hw hl hD
    exact s_X11_grown_35 X hr hlk (L_X11_grown_35 Q nn) Q ih x1 σ hw hl hD
set_option maxRecDepth 20000 in
set_option maxHeartbeats 4000000 in
theorem s_X11_grown_0 {p : Program} {l : Launch} {e : Env} {s : State} {m : MethodId} {args : Array Value} {below : List Frame} {meth : Method} {c : Code} {G : GC} (X : CallFix p m c cm_X11_grown 2 s args lw_us "GameLoomModel") (hr : meth.sig.returnType = some .int) (hlk : meth.locks = false) (Q : Int32 → GSt → Prop) (σ : GSt) {H : Heap} {locs : List Loc} {ls : Array Slot} (hw : Wo G s H locs σ) (hl : lv_has ls 2 [(0, .ref (G.2.1 237))]) (hD : D_X11_grown_0 Q σ) : W p l e rm_X11_grown s m args below meth c H locs 0 0 (QMI G Q below args s) (F0 m 0 ls []) := by
  unfold D_X11_grown_0 at hD
  refine lv_aload_n X.1 X.2.1 d_X11_grown_0 rfl (lv_at hl 0 rfl) ?_
  refine lv_bipush (v := 8) X.1 X.2.1 d_X11_grown_1 (by decide) ?_
  refine gcV_i (rest := []) (As := [.int 8]) (o := 237) X hw (c_X11_reads l G 8 σ _  hD) (kd_lt (by decide +kernel : kd 237 = 11) (by decide)) (ce_11 G _ (by decide +kernel : kd 237 = 11)) rfl tb_1105 tb_1107 tv_39 tb_12 tb_1108 hd_X11_reads ⟨rfl, rfl⟩ ⟨Nat.le_of_ble_eq_true rfl, Nat.le_of_ble_eq_true rfl⟩ rfl hl.1 rfl (Nat.le_of_ble_eq_true rfl) d_X11_grown_3 (fun r_1 σ_2 H locs hD hw => ?_)
  refine lv_if_ne (tgt := 17) X.1 X.2.1 d_X11_grown_6 (by decide) (fun q_6 => ?_) (fun q_6 => ?_)
  · have hD := hD.1 q_6
    refine lv_aload_n X.1 X.2.1 d_X11_grown_17 rfl (lv_at hl 0 rfl) ?_
    refine gf_11_3 X hw (by decide +kernel : kd 237 = 11) tb_909 d_X11_grown_18 ?_
    refine lv_aload_n X.1 X.2.1 d_X11_grown_21 rfl (lv_at hl 0 rfl) ?_
    refine gf_11_20 X hw (by decide +kernel : kd 237 = 11) tb_926 d_X11_grown_22 ?_
    refine lv_aload_n X.1 X.2.1 d_X11_grown_25 rfl (lv_at hl 0 rfl) ?_
    refine gf_11_3 X hw (by decide +kernel : kd 237 = 11) tb_909 d_X11_grown_26 ?_
    refine lv_bipush (v := 8) X.1 X.2.1 d_X11_grown_29 (by decide) ?_
    have q_31 : vp_in 8 9 := by unfold vp_in; decide
    refine g_iald X hw ly_11_3.1 ly_11_3.2 q_31 d_X11_grown_31 ?_
    obtain ⟨q_32, hD⟩ := hD
    refine g_iast X hw ly_11_3.1 ly_11_3.2 q_32 d_X11_grown_32 (fun H locs hw => ?_)
    obtain ⟨σ_3, e_σ_3⟩ : ∃ z : GSt, z = up2 σ_2 241 (Int32.toNatClampNeg (σ_2 237 20)) (σ_2 241 (Int32.toNatClampNeg 8)) := ⟨_, rfl⟩
    rw [← e_σ_3] at hw
    have hD := hD σ_3 e_σ_3
    refine lv_iconst (v := 0) X.1 X.2.1 d_X11_grown_33 (by decide) ?_
    refine lv_istore_n (lv' := [(1, .int 0), (0, .ref (G.2.1 237))]) X.1 X.2.1 d_X11_grown_34 rfl hl (by decide) rfl (fun ls hl => ?_)
    obtain ⟨n9, hD⟩ := hD
    exact sl_X11_grown_35 X hr hlk  Q  n9 0 σ_3 _ _ _  hw (lv_sub hl [1, 0] rfl) hD
  · have hD := hD.2 q_6
    refine lv_bipush (v := (-20)) X.1 X.2.1 d_X11_grown_9 (by decide) ?_
    refine lv_aload_n X.1 X.2.1 d_X11_grown_11 rfl (lv_at hl 0 rfl) ?_
    refine gf_11_21 X hw (by decide +kernel : kd 237 = 11) tb_927 d_X11_grown_12 ?_
    refine lv_isub X.1 X.2.1 d_X11_grown_15 ?_
    exact g_iret X hr hlk hw hD d_X11_grown_16
theorem c_X11_grown (l : Launch) (G : GC) (σ : GSt) (Q : Int32 → GSt → Prop)  (hD : D_X11_grown  σ Q) : MI l ym_X11_grown cm_X11_grown 2 .int rm_X11_grown G σ [.ref (G.2.1 237)] Q := by
  refine met_i (by decide) (Nat.le_of_ble_eq_true rfl) ?_
  intro p e s m args below meth c X hr hlk hw ls hl
  exact s_X11_grown_0 X hr hlk Q   σ hw (lv_sub hl [0] rfl) hD
theorem hd_X11_starts : ym_X11_starts.cls = "GameLoomModel" ∧ ym_X11_starts.cls ≠ "java/lang/invoke/MethodHandle" ∧ ym_X11_starts.cls ≠ "java/lang/invoke/VarHandle" ∧ (parseMethodDescriptor ym_X11_starts.desc).map (fun d => d.parameters.length) = some 0 := by decide +kernel
abbrev rm_X11_starts : Room := { frames := 0, cells := 0, slots := 0, locals := 0 }
theorem d_X11_starts_0 : decode cm_X11_starts 0 = .ok (.aload_n 0, 1) := by decide +kernel
theorem d_X11_starts_1 : decode cm_X11_starts 1 = .ok (.getfield 19, 3) := by decide +kernel
theorem d_X11_starts_4 : decode cm_X11_starts 4 = .ok (.bipush 8, 2) := by decide +kernel
theorem d_X11_starts_6 : decode cm_X11_starts 6 = .ok (.iconst 0, 1) := by decide +kernel
theorem d_X11_starts_7 : decode cm_X11_starts 7 = .ok (.iastore, 1) := by decide +kernel
theorem d_X11_starts_8 : decode cm_X11_starts 8 = .ok (.return_, 1) := by decide +kernel
def D_X11_starts_0 (Q : GSt → Prop) (σ : GSt) : Prop :=
  ∀ σ_1 : GSt, σ_1 = up2 σ 241 (Int32.toNatClampNeg 8) 0 → (Q σ_1)
def D_X11_starts (σ : GSt) (Q : GSt → Prop) : Prop := D_X11_starts_0 Q σ
set_option maxRecDepth 20000 in
set_option maxHeartbeats 4000000 in
theorem s_X11_starts_0 {p : Program} {l : Launch} {e : Env} {s : State} {m : MethodId} {args : Array Value} {below : List Frame} {meth : Method} {c : Code} {G : GC} (X : CallFix p m c cm_X11_starts 1 s args lw_us "GameLoomModel") (hr : meth.sig.returnType = none) (hlk : meth.locks = false) (Q : GSt → Prop) (σ : GSt) {H : Heap} {locs : List Loc} {ls : Array Slot} (hw : Wo G s H locs σ) (hl : lv_has ls 1 [(0, .ref (G.2.1 237))]) (hD : D_X11_starts_0 Q σ) : W p l e rm_X11_starts s m args below meth c H locs 0 0 (QMV G Q below args s) (F0 m 0 ls []) := by
  unfold D_X11_starts_0 at hD
  refine lv_aload_n X.1 X.2.1 d_X11_starts_0 rfl (lv_at hl 0 rfl) ?_
  refine gf_11_3 X hw (by decide +kernel : kd 237 = 11) tb_909 d_X11_starts_1 ?_
  refine lv_bipush (v := 8) X.1 X.2.1 d_X11_starts_4 (by decide) ?_
  refine lv_iconst (v := 0) X.1 X.2.1 d_X11_starts_6 (by decide) ?_
  have q_7 : vp_in 8 9 := by unfold vp_in; decide
  refine g_iast X hw ly_11_3.1 ly_11_3.2 q_7 d_X11_starts_7 (fun H locs hw => ?_)
  obtain ⟨σ_1, e_σ_1⟩ : ∃ z : GSt, z = up2 σ 241 (Int32.toNatClampNeg 8) 0 := ⟨_, rfl⟩
  rw [← e_σ_1] at hw
  have hD := hD σ_1 e_σ_1
  exact g_vret X hr hlk hw hD d_X11_starts_8
theorem c_X11_starts (l : Launch) (G : GC) (σ : GSt) (Q : GSt → Prop)  (hD : D_X11_starts  σ Q) : MV l ym_X11_starts cm_X11_starts 1 rm_X11_starts G σ [.ref (G.2.1 237)] Q := by
  refine met_v (by decide) (Nat.le_of_ble_eq_true rfl) ?_
  intro p e s m args below meth c X hr hlk hw ls hl
  exact s_X11_starts_0 X hr hlk Q   σ hw (lv_sub hl [0] rfl) hD
theorem hd_X11_adds : ym_X11_adds.cls = "GameLoomModel" ∧ ym_X11_adds.cls ≠ "java/lang/invoke/MethodHandle" ∧ ym_X11_adds.cls ≠ "java/lang/invoke/VarHandle" ∧ (parseMethodDescriptor ym_X11_adds.desc).map (fun d => d.parameters.length) = some 1 := by decide +kernel
abbrev rm_X11_adds : Room := { frames := 0, cells := 0, slots := 0, locals := 0 }
theorem d_X11_adds_0 : decode cm_X11_adds 0 = .ok (.aload_n 0, 1) := by decide +kernel
theorem d_X11_adds_1 : decode cm_X11_adds 1 = .ok (.getfield 16, 3) := by decide +kernel
theorem d_X11_adds_4 : decode cm_X11_adds 4 = .ok (.sipush 720, 3) := by decide +kernel
theorem d_X11_adds_7 : decode cm_X11_adds 7 = .ok (.aload_n 0, 1) := by decide +kernel
theorem d_X11_adds_8 : decode cm_X11_adds 8 = .ok (.getfield 19, 3) := by decide +kernel
theorem d_X11_adds_11 : decode cm_X11_adds 11 = .ok (.bipush 8, 2) := by decide +kernel
theorem d_X11_adds_13 : decode cm_X11_adds 13 = .ok (.iaload, 1) := by decide +kernel
theorem d_X11_adds_14 : decode cm_X11_adds 14 = .ok (.iadd, 1) := by decide +kernel
theorem d_X11_adds_15 : decode cm_X11_adds 15 = .ok (.iload_n 1, 1) := by decide +kernel
theorem d_X11_adds_16 : decode cm_X11_adds 16 = .ok (.iastore, 1) := by decide +kernel
theorem d_X11_adds_17 : decode cm_X11_adds 17 = .ok (.aload_n 0, 1) := by decide +kernel
theorem d_X11_adds_18 : decode cm_X11_adds 18 = .ok (.getfield 19, 3) := by decide +kernel
theorem d_X11_adds_21 : decode cm_X11_adds 21 = .ok (.bipush 8, 2) := by decide +kernel
theorem d_X11_adds_23 : decode cm_X11_adds 23 = .ok (.dup2, 1) := by decide +kernel
theorem d_X11_adds_24 : decode cm_X11_adds 24 = .ok (.iaload, 1) := by decide +kernel
theorem d_X11_adds_25 : decode cm_X11_adds 25 = .ok (.iconst 1, 1) := by decide +kernel
theorem d_X11_adds_26 : decode cm_X11_adds 26 = .ok (.iadd, 1) := by decide +kernel
theorem d_X11_adds_27 : decode cm_X11_adds 27 = .ok (.iastore, 1) := by decide +kernel
theorem d_X11_adds_28 : decode cm_X11_adds 28 = .ok (.return_, 1) := by decide +kernel
def D_X11_adds_0 (Q : GSt → Prop) (x1 : Int32) (σ : GSt) : Prop :=
  vp_in (720 + (σ 241 (Int32.toNatClampNeg 8))) 810 ∧ (∀ σ_1 : GSt, σ_1 = up2 σ 240 (Int32.toNatClampNeg (720 + (σ 241 (Int32.toNatClampNeg 8)))) x1 → (∀ σ_2 : GSt, σ_2 = up2 σ_1 241 (Int32.toNatClampNeg 8) ((σ_1 241 (Int32.toNatClampNeg 8)) + 1) → (Q σ_2)))
def D_X11_adds (x1 : Int32) (σ : GSt) (Q : GSt → Prop) : Prop := D_X11_adds_0 Q x1 σ
set_option maxRecDepth 20000 in
set_option maxHeartbeats 4000000 in
theorem s_X11_adds_0 {p : Program} {l : Launch} {e : Env} {s : State} {m : MethodId} {args : Array Value} {below : List Frame} {meth : Method} {c : Code} {G : GC} (X : CallFix p m c cm_X11_adds 2 s args lw_us "GameLoomModel") (hr : meth.sig.returnType = none) (hlk : meth.locks = false) (Q : GSt → Prop) (x1 : Int32) (σ : GSt) {H : Heap} {locs : List Loc} {ls : Array Slot} (hw : Wo G s H locs σ) (hl : lv_has ls 2 [(0, .ref (G.2.1 237)), (1, .int x1)]) (hD : D_X11_adds_0 Q x1 σ) : W p l e rm_X11_adds s m args below meth c H locs 0 0 (QMV G Q below args s) (F0 m 0 ls []) := by
  unfold D_X11_adds_0 at hD
  refine lv_aload_n X.1 X.2.1 d_X11_adds_0 rfl (lv_at hl 0 rfl) ?_
  refine gf_11_2 X hw (by decide +kernel : kd 237 = 11) tb_908 d_X11_adds_1 ?_
  refine lv_sipush (v := 720) X.1 X.2.1 d_X11_adds_4 (by decide) ?_
  refine lv_aload_n X.1 X.2.1 d_X11_adds_7 rfl (lv_at hl 0 rfl) ?_
  refine gf_11_3 X hw (by decide +kernel : kd 237 = 11) tb_909 d_X11_adds_8 ?_
  refine lv_bipush (v := 8) X.1 X.2.1 d_X11_adds_11 (by decide) ?_
  have q_13 : vp_in 8 9 := by unfold vp_in; decide
  refine g_iald X hw ly_11_3.1 ly_11_3.2 q_13 d_X11_adds_13 ?_
  refine lv_iadd X.1 X.2.1 d_X11_adds_14 ?_
  refine lv_iload_n X.1 X.2.1 d_X11_adds_15 rfl (lv_at hl 1 rfl) ?_
  obtain ⟨q_16, hD⟩ := hD
  refine g_iast X hw ly_11_2.1 ly_11_2.2 q_16 d_X11_adds_16 (fun H locs hw => ?_)
  obtain ⟨σ_1, e_σ_1⟩ : ∃ z : GSt, z = up2 σ 240 (Int32.toNatClampNeg (720 + (σ 241 (Int32.toNatClampNeg 8)))) x1 := ⟨_, rfl⟩
  rw [← e_σ_1] at hw
  have hD := hD σ_1 e_σ_1
  refine lv_aload_n X.1 X.2.1 d_X11_adds_17 rfl (lv_at hl 0 rfl) ?_
  refine gf_11_3 X hw (by decide +kernel : kd 237 = 11) tb_909 d_X11_adds_18 ?_
  refine lv_bipush (v := 8) X.1 X.2.1 d_X11_adds_21 (by decide) ?_
  refine lv_dup2_11 X.1 X.2.1 d_X11_adds_23 rfl rfl ?_
  have q_24 : vp_in 8 9 := by unfold vp_in; decide
  refine g_iald X hw ly_11_3.1 ly_11_3.2 q_24 d_X11_adds_24 ?_
  refine lv_iconst (v := 1) X.1 X.2.1 d_X11_adds_25 (by decide) ?_
  refine lv_iadd X.1 X.2.1 d_X11_adds_26 ?_
  have q_27 : vp_in 8 9 := by unfold vp_in; decide
  refine g_iast X hw ly_11_3.1 ly_11_3.2 q_27 d_X11_adds_27 (fun H locs hw => ?_)
  obtain ⟨σ_2, e_σ_2⟩ : ∃ z : GSt, z = up2 σ_1 241 (Int32.toNatClampNeg 8) ((σ_1 241 (Int32.toNatClampNeg 8)) + 1) := ⟨_, rfl⟩
  rw [← e_σ_2] at hw
  have hD := hD σ_2 e_σ_2
  exact g_vret X hr hlk hw hD d_X11_adds_28
theorem c_X11_adds (l : Launch) (G : GC) (x1 : Int32) (σ : GSt) (Q : GSt → Prop)  (hD : D_X11_adds x1 σ Q) : MV l ym_X11_adds cm_X11_adds 2 rm_X11_adds G σ [.ref (G.2.1 237), .int x1] Q := by
  refine met_v (by decide) (Nat.le_of_ble_eq_true rfl) ?_
  intro p e s m args below meth c X hr hlk hw ls hl
  exact s_X11_adds_0 X hr hlk Q  x1 σ hw (lv_sub hl [0, 1] rfl) hD
theorem hd_X11_addsFrom : ym_X11_addsFrom.cls = "GameLoomModel" ∧ ym_X11_addsFrom.cls ≠ "java/lang/invoke/MethodHandle" ∧ ym_X11_addsFrom.cls ≠ "java/lang/invoke/VarHandle" ∧ (parseMethodDescriptor ym_X11_addsFrom.desc).map (fun d => d.parameters.length) = some 3 := by decide +kernel
abbrev rm_X11_addsFrom : Room := { frames := 1, cells := 0, slots := 0, locals := 21 }
theorem d_X11_addsFrom_0 : decode cm_X11_addsFrom 0 = .ok (.iload_n 2, 1) := by decide +kernel
theorem d_X11_addsFrom_1 : decode cm_X11_addsFrom 1 = .ok (.istore 4, 2) := by decide +kernel
theorem d_X11_addsFrom_3 : decode cm_X11_addsFrom 3 = .ok (.iload 4, 2) := by decide +kernel
theorem d_X11_addsFrom_5 : decode cm_X11_addsFrom 5 = .ok (.iload_n 3, 1) := by decide +kernel
theorem d_X11_addsFrom_6 : decode cm_X11_addsFrom 6 = .ok (.if_icmp .ge 25, 3) := by decide +kernel
theorem d_X11_addsFrom_9 : decode cm_X11_addsFrom 9 = .ok (.aload_n 0, 1) := by decide +kernel
theorem d_X11_addsFrom_10 : decode cm_X11_addsFrom 10 = .ok (.aload_n 0, 1) := by decide +kernel
theorem d_X11_addsFrom_11 : decode cm_X11_addsFrom 11 = .ok (.getfield 16, 3) := by decide +kernel
theorem d_X11_addsFrom_14 : decode cm_X11_addsFrom 14 = .ok (.bipush 90, 2) := by decide +kernel
theorem d_X11_addsFrom_16 : decode cm_X11_addsFrom 16 = .ok (.iload_n 1, 1) := by decide +kernel
theorem d_X11_addsFrom_17 : decode cm_X11_addsFrom 17 = .ok (.imul, 1) := by decide +kernel
theorem d_X11_addsFrom_18 : decode cm_X11_addsFrom 18 = .ok (.iload 4, 2) := by decide +kernel
theorem d_X11_addsFrom_20 : decode cm_X11_addsFrom 20 = .ok (.iadd, 1) := by decide +kernel
theorem d_X11_addsFrom_21 : decode cm_X11_addsFrom 21 = .ok (.iaload, 1) := by decide +kernel
theorem d_X11_addsFrom_22 : decode cm_X11_addsFrom 22 = .ok (.invokevirtual 194, 3) := by decide +kernel
theorem d_X11_addsFrom_25 : decode cm_X11_addsFrom 25 = .ok (.iinc 4 1, 3) := by decide +kernel
theorem d_X11_addsFrom_28 : decode cm_X11_addsFrom 28 = .ok (.goto (-25), 3) := by decide +kernel
theorem d_X11_addsFrom_31 : decode cm_X11_addsFrom 31 = .ok (.return_, 1) := by decide +kernel
def D_X11_addsFrom_3 (K3 : Int32 → Int32 → Int32 → GSt → Prop) (Q : GSt → Prop) (x1 : Int32) (x3 : Int32) (x4 : Int32) (σ : GSt) : Prop :=
  (x3 ≤ x4 → Q σ) ∧
  (¬ x3 ≤ x4 → vp_in ((90 * x1) + x4) 810 ∧ (D_X11_adds (σ 240 (Int32.toNatClampNeg ((90 * x1) + x4))) σ (fun σ_1 => ∀ x4_2 : Int32, x4_2 = x4 + 1 → (K3 x1 x3 x4_2 σ_1))))
def L_X11_addsFrom_3 (Q : GSt → Prop) : Nat → Int32 → Int32 → Int32 → GSt → Prop
  | 0 => fun _ _ _ _ => False
  | n + 1 => fun x1 x3 x4 σ => D_X11_addsFrom_3 (L_X11_addsFrom_3 Q n) Q x1 x3 x4 σ
def D_X11_addsFrom_0 (Q : GSt → Prop) (x1 : Int32) (x2 : Int32) (x3 : Int32) (σ : GSt) : Prop :=
  ∃ n : Nat, L_X11_addsFrom_3 Q n x1 x3 x2 σ
def D_X11_addsFrom (x1 : Int32) (x2 : Int32) (x3 : Int32) (σ : GSt) (Q : GSt → Prop) : Prop := D_X11_addsFrom_0 Q x1 x2 x3 σ
set_option maxRecDepth 20000 in
set_option maxHeartbeats 4000000 in
theorem s_X11_addsFrom_3 {p : Program} {l : Launch} {e : Env} {s : State} {m : MethodId} {args : Array Value} {below : List Frame} {meth : Method} {c : Code} {G : GC} (X : CallFix p m c cm_X11_addsFrom 5 s args lw_us "GameLoomModel") (hr : meth.sig.returnType = none) (hlk : meth.locks = false) (K3 : Int32 → Int32 → Int32 → GSt → Prop) (Q : GSt → Prop) (hK3 : ∀ (x1 : Int32) (x3 : Int32) (x4 : Int32) (σ : GSt) (H : Heap) (locs : List Loc) (ls : Array Slot), Wo G s H locs σ → lv_has ls 5 [(0, .ref (G.2.1 237)), (1, .int x1), (3, .int x3), (4, .int x4)] → K3 x1 x3 x4 σ → W p l e rm_X11_addsFrom s m args below meth c H locs 0 0 (QMV G Q below args s) (F0 m 3 ls [])) (x1 : Int32) (x3 : Int32) (x4 : Int32) (σ : GSt) {H : Heap} {locs : List Loc} {ls : Array Slot} (hw : Wo G s H locs σ) (hl : lv_has ls 5 [(0, .ref (G.2.1 237)), (1, .int x1), (3, .int x3), (4, .int x4)]) (hD : D_X11_addsFrom_3 K3 Q x1 x3 x4 σ) : W p l e rm_X11_addsFrom s m args below meth c H locs 0 0 (QMV G Q below args s) (F0 m 3 ls []) := by
  unfold D_X11_addsFrom_3 at hD
  refine lv_iload X.1 X.2.1 d_X11_addsFrom_3 (lv_at hl 3 rfl) ?_
  refine lv_iload_n X.1 X.2.1 d_X11_addsFrom_5 rfl (lv_at hl 2 rfl) ?_
  refine lv_icmp_ge (tgt := 31) X.1 X.2.1 d_X11_addsFrom_6 (by decide) (fun q_6 => ?_) (fun q_6 => ?_)
  · have hD := hD.1 q_6
    exact g_vret X hr hlk hw hD d_X11_addsFrom_31
  · have hD := hD.2 q_6
    refine lv_aload_n X.1 X.2.1 d_X11_addsFrom_9 rfl (lv_at hl 0 rfl) ?_
    refine lv_aload_n X.1 X.2.1 d_X11_addsFrom_10 rfl (lv_at hl 0 rfl) ?_
    refine gf_11_2 X hw (by decide +kernel : kd 237 = 11) tb_908 d_X11_addsFrom_11 ?_
    refine lv_bipush (v := 90) X.1 X.2.1 d_X11_addsFrom_14 (by decide) ?_
    refine lv_iload_n X.1 X.2.1 d_X11_addsFrom_16 rfl (lv_at hl 1 rfl) ?_
    refine lv_imul X.1 X.2.1 d_X11_addsFrom_17 ?_
    refine lv_iload X.1 X.2.1 d_X11_addsFrom_18 (lv_at hl 3 rfl) ?_
    refine lv_iadd X.1 X.2.1 d_X11_addsFrom_20 ?_
    obtain ⟨q_21, hD⟩ := hD
    refine g_iald X hw ly_11_2.1 ly_11_2.2 q_21 d_X11_addsFrom_21 ?_
    refine gcV_v (rest := []) (As := [.int (σ 240 (Int32.toNatClampNeg ((90 * x1) + x4)))]) (o := 237) X hw (c_X11_adds l G (σ 240 (Int32.toNatClampNeg ((90 * x1) + x4))) σ _  hD) (kd_lt (by decide +kernel : kd 237 = 11) (by decide)) (ce_11 G _ (by decide +kernel : kd 237 = 11)) rfl tb_1097 tb_1099 tv_37 tb_12 tb_1100 hd_X11_adds ⟨rfl, rfl⟩ ⟨Nat.le_of_ble_eq_true rfl, Nat.le_of_ble_eq_true rfl⟩ rfl hl.1 rfl (Nat.le_of_ble_eq_true rfl) d_X11_addsFrom_22 (fun σ_1 H locs hD hw => ?_)
    obtain ⟨x4_2, e_x4_2⟩ : ∃ y : Int32, y = x4 + 1 := ⟨_, rfl⟩
    have hD := hD x4_2 e_x4_2
    refine lv_iinc (v := x4_2) (lv' := [(4, .int x4_2), (0, .ref (G.2.1 237)), (1, .int x1), (3, .int x3)]) X.1 X.2.1 d_X11_addsFrom_25 hl (k := 3) rfl (by rw [e_x4_2]; rfl) (by decide) rfl (fun ls hl => ?_)
    refine lv_goto (tgt := 3) X.1 X.2.1 d_X11_addsFrom_28 (by decide) ?_
    exact hK3 x1 x3 x4_2 σ_1 _ _ _  hw (lv_sub hl [1, 2, 3, 0] rfl) hD
set_option maxRecDepth 20000 in
set_option maxHeartbeats 4000000 in
theorem sl_X11_addsFrom_3 {p : Program} {l : Launch} {e : Env} {s : State} {m : MethodId} {args : Array Value} {below : List Frame} {meth : Method} {c : Code} {G : GC} (X : CallFix p m c cm_X11_addsFrom 5 s args lw_us "GameLoomModel") (hr : meth.sig.returnType = none) (hlk : meth.locks = false) (Q : GSt → Prop) : ∀ (nn : Nat), ∀ (x1 : Int32) (x3 : Int32) (x4 : Int32) (σ : GSt) (H : Heap) (locs : List Loc) (ls : Array Slot), Wo G s H locs σ → lv_has ls 5 [(0, .ref (G.2.1 237)), (1, .int x1), (3, .int x3), (4, .int x4)] → L_X11_addsFrom_3 Q nn x1 x3 x4 σ → W p l e rm_X11_addsFrom s m args below meth c H locs 0 0 (QMV G Q below args s) (F0 m 3 ls []) := by
  intro nn
  induction nn with
  | zero => intro x1 x3 x4 σ H locs ls  hw hl hD; exact hD.elim
  | succ nn ih =>
    intro x1 x3 x4 σ H locs ls  hw hl hD
    exact s_X11_addsFrom_3 X hr hlk (L_X11_addsFrom_3 Q nn) Q ih x1 x3 x4 σ hw hl hD
set_option maxRecDepth 20000 in
set_option maxHeartbeats 4000000 in
theorem s_X11_addsFrom_0 {p : Program} {l : Launch} {e : Env} {s : State} {m : MethodId} {args : Array Value} {below : List Frame} {meth : Method} {c : Code} {G : GC} (X : CallFix p m c cm_X11_addsFrom 5 s args lw_us "GameLoomModel") (hr : meth.sig.returnType = none) (hlk : meth.locks = false) (Q : GSt → Prop) (x1 : Int32) (x2 : Int32) (x3 : Int32) (σ : GSt) {H : Heap} {locs : List Loc} {ls : Array Slot} (hw : Wo G s H locs σ) (hl : lv_has ls 5 [(0, .ref (G.2.1 237)), (1, .int x1), (2, .int x2), (3, .int x3)]) (hD : D_X11_addsFrom_0 Q x1 x2 x3 σ) : W p l e rm_X11_addsFrom s m args below meth c H locs 0 0 (QMV G Q below args s) (F0 m 0 ls []) := by
  unfold D_X11_addsFrom_0 at hD
  refine lv_iload_n X.1 X.2.1 d_X11_addsFrom_0 rfl (lv_at hl 2 rfl) ?_
  refine lv_istore (lv' := [(4, .int x2), (0, .ref (G.2.1 237)), (1, .int x1), (2, .int x2), (3, .int x3)]) X.1 X.2.1 d_X11_addsFrom_1 hl (by decide) rfl (fun ls hl => ?_)
  obtain ⟨n9, hD⟩ := hD
  exact sl_X11_addsFrom_3 X hr hlk  Q  n9 x1 x3 x2 σ _ _ _  hw (lv_sub hl [1, 2, 4, 0] rfl) hD
theorem c_X11_addsFrom (l : Launch) (G : GC) (x1 : Int32) (x2 : Int32) (x3 : Int32) (σ : GSt) (Q : GSt → Prop)  (hD : D_X11_addsFrom x1 x2 x3 σ Q) : MV l ym_X11_addsFrom cm_X11_addsFrom 5 rm_X11_addsFrom G σ [.ref (G.2.1 237), .int x1, .int x2, .int x3] Q := by
  refine met_v (by decide) (Nat.le_of_ble_eq_true rfl) ?_
  intro p e s m args below meth c X hr hlk hw ls hl
  exact s_X11_addsFrom_0 X hr hlk Q  x1 x2 x3 σ hw (lv_sub hl [0, 1, 2, 3] rfl) hD
