theorem hd_X11_holds : ym_X11_holds.cls = "GameLoomModel" ∧ ym_X11_holds.cls ≠ "java/lang/invoke/MethodHandle" ∧ ym_X11_holds.cls ≠ "java/lang/invoke/VarHandle" ∧ (parseMethodDescriptor ym_X11_holds.desc).map (fun d => d.parameters.length) = some 3 := by decide +kernel
abbrev rm_X11_holds : Room := { frames := 3, cells := 0, slots := 0, locals := 74 }
theorem d_X11_holds_0 : decode cm_X11_holds 0 = .ok (.aload_n 0, 1) := by decide +kernel
theorem d_X11_holds_1 : decode cm_X11_holds 1 = .ok (.getfield 46, 3) := by decide +kernel
theorem d_X11_holds_4 : decode cm_X11_holds 4 = .ok (.bipush 6, 2) := by decide +kernel
theorem d_X11_holds_6 : decode cm_X11_holds 6 = .ok (.aload_n 0, 1) := by decide +kernel
theorem d_X11_holds_7 : decode cm_X11_holds 7 = .ok (.getfield 156, 3) := by decide +kernel
theorem d_X11_holds_10 : decode cm_X11_holds 10 = .ok (.imul, 1) := by decide +kernel
theorem d_X11_holds_11 : decode cm_X11_holds 11 = .ok (.iload_n 2, 1) := by decide +kernel
theorem d_X11_holds_12 : decode cm_X11_holds 12 = .ok (.iadd, 1) := by decide +kernel
theorem d_X11_holds_13 : decode cm_X11_holds 13 = .ok (.iaload, 1) := by decide +kernel
theorem d_X11_holds_14 : decode cm_X11_holds 14 = .ok (.istore 4, 2) := by decide +kernel
theorem d_X11_holds_16 : decode cm_X11_holds 16 = .ok (.aload_n 0, 1) := by decide +kernel
theorem d_X11_holds_17 : decode cm_X11_holds 17 = .ok (.getfield 43, 3) := by decide +kernel
theorem d_X11_holds_20 : decode cm_X11_holds 20 = .ok (.bipush 6, 2) := by decide +kernel
theorem d_X11_holds_22 : decode cm_X11_holds 22 = .ok (.aload_n 0, 1) := by decide +kernel
theorem d_X11_holds_23 : decode cm_X11_holds 23 = .ok (.getfield 156, 3) := by decide +kernel
theorem d_X11_holds_26 : decode cm_X11_holds 26 = .ok (.imul, 1) := by decide +kernel
theorem d_X11_holds_27 : decode cm_X11_holds 27 = .ok (.iload_n 2, 1) := by decide +kernel
theorem d_X11_holds_28 : decode cm_X11_holds 28 = .ok (.iadd, 1) := by decide +kernel
theorem d_X11_holds_29 : decode cm_X11_holds 29 = .ok (.iaload, 1) := by decide +kernel
theorem d_X11_holds_30 : decode cm_X11_holds 30 = .ok (.lookupswitch 118 #[(103, 74), (107, 101), (110, 59), (114, 50), (121, 94)], 50) := by decide +kernel
theorem d_X11_holds_80 : decode cm_X11_holds 80 = .ok (.aload_n 0, 1) := by decide +kernel
theorem d_X11_holds_81 : decode cm_X11_holds 81 = .ok (.iload_n 1, 1) := by decide +kernel
theorem d_X11_holds_82 : decode cm_X11_holds 82 = .ok (.iload 4, 2) := by decide +kernel
theorem d_X11_holds_84 : decode cm_X11_holds 84 = .ok (.iload_n 3, 1) := by decide +kernel
theorem d_X11_holds_85 : decode cm_X11_holds 85 = .ok (.invokevirtual 244, 3) := by decide +kernel
theorem d_X11_holds_88 : decode cm_X11_holds 88 = .ok (.ireturn, 1) := by decide +kernel
theorem d_X11_holds_89 : decode cm_X11_holds 89 = .ok (.aload_n 0, 1) := by decide +kernel
theorem d_X11_holds_90 : decode cm_X11_holds 90 = .ok (.getfield 95, 3) := by decide +kernel
theorem d_X11_holds_93 : decode cm_X11_holds 93 = .ok (.iload_n 1, 1) := by decide +kernel
theorem d_X11_holds_94 : decode cm_X11_holds 94 = .ok (.iaload, 1) := by decide +kernel
theorem d_X11_holds_95 : decode cm_X11_holds 95 = .ok (.ifCond .ne 7, 3) := by decide +kernel
theorem d_X11_holds_98 : decode cm_X11_holds 98 = .ok (.iconst 1, 1) := by decide +kernel
theorem d_X11_holds_99 : decode cm_X11_holds 99 = .ok (.goto 4, 3) := by decide +kernel
theorem d_X11_holds_102 : decode cm_X11_holds 102 = .ok (.iconst 0, 1) := by decide +kernel
theorem d_X11_holds_103 : decode cm_X11_holds 103 = .ok (.ireturn, 1) := by decide +kernel
theorem d_X11_holds_104 : decode cm_X11_holds 104 = .ok (.aload_n 0, 1) := by decide +kernel
theorem d_X11_holds_105 : decode cm_X11_holds 105 = .ok (.iload_n 1, 1) := by decide +kernel
theorem d_X11_holds_106 : decode cm_X11_holds 106 = .ok (.aload_n 0, 1) := by decide +kernel
theorem d_X11_holds_107 : decode cm_X11_holds 107 = .ok (.getfield 71, 3) := by decide +kernel
theorem d_X11_holds_110 : decode cm_X11_holds 110 = .ok (.iload_n 1, 1) := by decide +kernel
theorem d_X11_holds_111 : decode cm_X11_holds 111 = .ok (.iaload, 1) := by decide +kernel
theorem d_X11_holds_112 : decode cm_X11_holds 112 = .ok (.invokevirtual 213, 3) := by decide +kernel
theorem d_X11_holds_115 : decode cm_X11_holds 115 = .ok (.ifCond .ne 7, 3) := by decide +kernel
theorem d_X11_holds_118 : decode cm_X11_holds 118 = .ok (.iconst 1, 1) := by decide +kernel
theorem d_X11_holds_119 : decode cm_X11_holds 119 = .ok (.goto 4, 3) := by decide +kernel
theorem d_X11_holds_122 : decode cm_X11_holds 122 = .ok (.iconst 0, 1) := by decide +kernel
theorem d_X11_holds_123 : decode cm_X11_holds 123 = .ok (.ireturn, 1) := by decide +kernel
theorem d_X11_holds_124 : decode cm_X11_holds 124 = .ok (.aload_n 0, 1) := by decide +kernel
theorem d_X11_holds_125 : decode cm_X11_holds 125 = .ok (.iload_n 1, 1) := by decide +kernel
theorem d_X11_holds_126 : decode cm_X11_holds 126 = .ok (.iload_n 3, 1) := by decide +kernel
theorem d_X11_holds_127 : decode cm_X11_holds 127 = .ok (.invokevirtual 247, 3) := by decide +kernel
theorem d_X11_holds_130 : decode cm_X11_holds 130 = .ok (.ireturn, 1) := by decide +kernel
theorem d_X11_holds_131 : decode cm_X11_holds 131 = .ok (.aload_n 0, 1) := by decide +kernel
theorem d_X11_holds_132 : decode cm_X11_holds 132 = .ok (.iload_n 1, 1) := by decide +kernel
theorem d_X11_holds_133 : decode cm_X11_holds 133 = .ok (.iload_n 3, 1) := by decide +kernel
theorem d_X11_holds_134 : decode cm_X11_holds 134 = .ok (.invokevirtual 213, 3) := by decide +kernel
theorem d_X11_holds_137 : decode cm_X11_holds 137 = .ok (.iload 4, 2) := by decide +kernel
theorem d_X11_holds_139 : decode cm_X11_holds 139 = .ok (.if_icmp .lt 7, 3) := by decide +kernel
theorem d_X11_holds_142 : decode cm_X11_holds 142 = .ok (.iconst 1, 1) := by decide +kernel
theorem d_X11_holds_143 : decode cm_X11_holds 143 = .ok (.goto 4, 3) := by decide +kernel
theorem d_X11_holds_146 : decode cm_X11_holds 146 = .ok (.iconst 0, 1) := by decide +kernel
theorem d_X11_holds_147 : decode cm_X11_holds 147 = .ok (.ireturn, 1) := by decide +kernel
theorem d_X11_holds_148 : decode cm_X11_holds 148 = .ok (.aload_n 0, 1) := by decide +kernel
theorem d_X11_holds_149 : decode cm_X11_holds 149 = .ok (.getfield 74, 3) := by decide +kernel
theorem d_X11_holds_152 : decode cm_X11_holds 152 = .ok (.iload_n 1, 1) := by decide +kernel
theorem d_X11_holds_153 : decode cm_X11_holds 153 = .ok (.iaload, 1) := by decide +kernel
theorem d_X11_holds_154 : decode cm_X11_holds 154 = .ok (.iload 4, 2) := by decide +kernel
theorem d_X11_holds_156 : decode cm_X11_holds 156 = .ok (.if_icmp .lt 7, 3) := by decide +kernel
theorem d_X11_holds_159 : decode cm_X11_holds 159 = .ok (.iconst 1, 1) := by decide +kernel
theorem d_X11_holds_160 : decode cm_X11_holds 160 = .ok (.goto 4, 3) := by decide +kernel
theorem d_X11_holds_163 : decode cm_X11_holds 163 = .ok (.iconst 0, 1) := by decide +kernel
theorem d_X11_holds_164 : decode cm_X11_holds 164 = .ok (.ireturn, 1) := by decide +kernel
def D_X11_holds_0 (Q : Int32 → GSt → Prop) (x1 : Int32) (x2 : Int32) (x3 : Int32) (σ : GSt) : Prop :=
  vp_in ((6 * (σ 237 22)) + x2) 54 ∧ (∀ x4_1 : Int32, x4_1 = (σ 250 (Int32.toNatClampNeg ((6 * (σ 237 22)) + x2))) → (vp_in ((6 * (σ 237 22)) + x2) 54 ∧ (((σ 249 (Int32.toNatClampNeg ((6 * (σ 237 22)) + x2))) = 103 → vp_in x1 9 ∧ (D_X11_pieces x1 (σ 258 (Int32.toNatClampNeg x1)) σ (fun r_2 σ_3 => (¬ r_2 = 0 → Q 0 σ_3) ∧
  (r_2 = 0 → Q 1 σ_3)))) ∧
  ((σ 249 (Int32.toNatClampNeg ((6 * (σ 237 22)) + x2))) = 107 → D_X11_pieces x1 x3 σ (fun r_4 σ_5 => (r_4 < x4_1 → Q 0 σ_5) ∧
  (¬ r_4 < x4_1 → Q 1 σ_5))) ∧
  ((σ 249 (Int32.toNatClampNeg ((6 * (σ 237 22)) + x2))) = 110 → vp_in x1 9 ∧ ((¬ (σ 266 (Int32.toNatClampNeg x1)) = 0 → Q 0 σ) ∧
  ((σ 266 (Int32.toNatClampNeg x1)) = 0 → Q 1 σ))) ∧
  ((σ 249 (Int32.toNatClampNeg ((6 * (σ 237 22)) + x2))) = 114 → D_X11_hasRow x1 x4_1 x3 σ (fun r_6 σ_7 => (r_6 = 0 ∨ r_6 = 1) ∧ Q r_6 σ_7)) ∧
  ((σ 249 (Int32.toNatClampNeg ((6 * (σ 237 22)) + x2))) = 121 → D_X11_hasWay x1 x3 σ (fun r_8 σ_9 => (r_8 = 0 ∨ r_8 = 1) ∧ Q r_8 σ_9)) ∧
  (¬ (σ 249 (Int32.toNatClampNeg ((6 * (σ 237 22)) + x2))) = 103 ∧ ¬ (σ 249 (Int32.toNatClampNeg ((6 * (σ 237 22)) + x2))) = 107 ∧ ¬ (σ 249 (Int32.toNatClampNeg ((6 * (σ 237 22)) + x2))) = 110 ∧ ¬ (σ 249 (Int32.toNatClampNeg ((6 * (σ 237 22)) + x2))) = 114 ∧ ¬ (σ 249 (Int32.toNatClampNeg ((6 * (σ 237 22)) + x2))) = 121 → vp_in x1 9 ∧ (((σ 259 (Int32.toNatClampNeg x1)) < x4_1 → Q 0 σ) ∧
  (¬ (σ 259 (Int32.toNatClampNeg x1)) < x4_1 → Q 1 σ))))))
def D_X11_holds (x1 : Int32) (x2 : Int32) (x3 : Int32) (σ : GSt) (Q : Int32 → GSt → Prop) : Prop := D_X11_holds_0 Q x1 x2 x3 σ
set_option maxRecDepth 20000 in
set_option maxHeartbeats 4000000 in
theorem s_X11_holds_0 {p : Program} {l : Launch} {e : Env} {s : State} {m : MethodId} {args : Array Value} {below : List Frame} {meth : Method} {c : Code} {G : GC} (X : CallFix p m c cm_X11_holds 5 s args lw_us "GameLoomModel") (hr : meth.sig.returnType = some .boolean) (hlk : meth.locks = false) (Q : Int32 → GSt → Prop) (x1 : Int32) (x2 : Int32) (x3 : Int32) (σ : GSt) {H : Heap} {locs : List Loc} {ls : Array Slot} (hw : Wo G s H locs σ) (hl : lv_has ls 5 [(0, .ref (G.2.1 237)), (1, .int x1), (2, .int x2), (3, .int x3)]) (hD : D_X11_holds_0 Q x1 x2 x3 σ) : W p l e rm_X11_holds s m args below meth c H locs 0 0 (QMI G Q below args s) (F0 m 0 ls []) := by
  unfold D_X11_holds_0 at hD
  refine lv_aload_n X.1 X.2.1 d_X11_holds_0 rfl (lv_at hl 0 rfl) ?_
  refine gf_11_12 X hw (by decide +kernel : kd 237 = 11) tb_918 d_X11_holds_1 ?_
  refine lv_bipush (v := 6) X.1 X.2.1 d_X11_holds_4 (by decide) ?_
  refine lv_aload_n X.1 X.2.1 d_X11_holds_6 rfl (lv_at hl 0 rfl) ?_
  refine gf_11_22 X hw (by decide +kernel : kd 237 = 11) tb_928 d_X11_holds_7 ?_
  refine lv_imul X.1 X.2.1 d_X11_holds_10 ?_
  refine lv_iload_n X.1 X.2.1 d_X11_holds_11 rfl (lv_at hl 2 rfl) ?_
  refine lv_iadd X.1 X.2.1 d_X11_holds_12 ?_
  obtain ⟨q_13, hD⟩ := hD
  refine g_iald X hw ly_11_12.1 ly_11_12.2 q_13 d_X11_holds_13 ?_
  refine lv_topi (fun x4_1 e_x4_1 => ?_)
  have hD := hD x4_1 e_x4_1
  refine lv_istore (lv' := [(4, .int x4_1), (0, .ref (G.2.1 237)), (1, .int x1), (2, .int x2), (3, .int x3)]) X.1 X.2.1 d_X11_holds_14 hl (by decide) rfl (fun ls hl => ?_)
  refine lv_aload_n X.1 X.2.1 d_X11_holds_16 rfl (lv_at hl 1 rfl) ?_
  refine gf_11_11 X hw (by decide +kernel : kd 237 = 11) tb_917 d_X11_holds_17 ?_
  refine lv_bipush (v := 6) X.1 X.2.1 d_X11_holds_20 (by decide) ?_
  refine lv_aload_n X.1 X.2.1 d_X11_holds_22 rfl (lv_at hl 1 rfl) ?_
  refine gf_11_22 X hw (by decide +kernel : kd 237 = 11) tb_928 d_X11_holds_23 ?_
  refine lv_imul X.1 X.2.1 d_X11_holds_26 ?_
  refine lv_iload_n X.1 X.2.1 d_X11_holds_27 rfl (lv_at hl 3 rfl) ?_
  refine lv_iadd X.1 X.2.1 d_X11_holds_28 ?_
  obtain ⟨q_29, hD⟩ := hD
  refine g_iald X hw ly_11_11.1 ly_11_11.2 q_29 d_X11_holds_29 ?_
  by_cases q_30_103 : (σ 249 (Int32.toNatClampNeg ((6 * (σ 237 22)) + x2))) = 103
  · have hD := hD.1 q_30_103
    refine lv_lookup (tgt := 104) X.1 X.2.1 d_X11_holds_30 (by decide) (by rw [q_30_103] <;> rfl) (by decide) ?_
    refine lv_aload_n X.1 X.2.1 d_X11_holds_104 rfl (lv_at hl 1 rfl) ?_
    refine lv_iload_n X.1 X.2.1 d_X11_holds_105 rfl (lv_at hl 2 rfl) ?_
    refine lv_aload_n X.1 X.2.1 d_X11_holds_106 rfl (lv_at hl 1 rfl) ?_
    refine gf_11_24 X hw (by decide +kernel : kd 237 = 11) tb_930 d_X11_holds_107 ?_
    refine lv_iload_n X.1 X.2.1 d_X11_holds_110 rfl (lv_at hl 2 rfl) ?_
    obtain ⟨q_111, hD⟩ := hD
    refine g_iald X hw ly_11_24.1 ly_11_24.2 q_111 d_X11_holds_111 ?_
    refine gcV_i (rest := []) (As := [.int x1, .int (σ 258 (Int32.toNatClampNeg x1))]) (o := 237) X hw (c_X11_pieces l G x1 (σ 258 (Int32.toNatClampNeg x1)) σ _  hD) (kd_lt (by decide +kernel : kd 237 = 11) (by decide)) (ce_11 G _ (by decide +kernel : kd 237 = 11)) rfl tb_1176 tb_1178 tv_53 tb_12 tb_1179 hd_X11_pieces ⟨rfl, rfl⟩ ⟨Nat.le_of_ble_eq_true rfl, Nat.le_of_ble_eq_true rfl⟩ rfl hl.1 rfl (Nat.le_of_ble_eq_true rfl) d_X11_holds_112 (fun r_2 σ_3 H locs hD hw => ?_)
    refine lv_if_ne (tgt := 122) X.1 X.2.1 d_X11_holds_115 (by decide) (fun q_115 => ?_) (fun q_115 => ?_)
    · have hD := hD.1 q_115
      refine lv_iconst (v := 0) X.1 X.2.1 d_X11_holds_122 (by decide) ?_
      exact g_zret X hr hlk hw (by decide) hD d_X11_holds_123
    · have hD := hD.2 q_115
      refine lv_iconst (v := 1) X.1 X.2.1 d_X11_holds_118 (by decide) ?_
      refine lv_goto (tgt := 123) X.1 X.2.1 d_X11_holds_119 (by decide) ?_
      exact g_zret X hr hlk hw (by decide) hD d_X11_holds_123
  by_cases q_30_107 : (σ 249 (Int32.toNatClampNeg ((6 * (σ 237 22)) + x2))) = 107
  · have hD := hD.2.1 q_30_107
    refine lv_lookup (tgt := 131) X.1 X.2.1 d_X11_holds_30 (by decide) (by rw [q_30_107] <;> rfl) (by decide) ?_
    refine lv_aload_n X.1 X.2.1 d_X11_holds_131 rfl (lv_at hl 1 rfl) ?_
    refine lv_iload_n X.1 X.2.1 d_X11_holds_132 rfl (lv_at hl 2 rfl) ?_
    refine lv_iload_n X.1 X.2.1 d_X11_holds_133 rfl (lv_at hl 4 rfl) ?_
    refine gcV_i (rest := []) (As := [.int x1, .int x3]) (o := 237) X hw (c_X11_pieces l G x1 x3 σ _  hD) (kd_lt (by decide +kernel : kd 237 = 11) (by decide)) (ce_11 G _ (by decide +kernel : kd 237 = 11)) rfl tb_1176 tb_1178 tv_53 tb_12 tb_1179 hd_X11_pieces ⟨rfl, rfl⟩ ⟨Nat.le_of_ble_eq_true rfl, Nat.le_of_ble_eq_true rfl⟩ rfl hl.1 rfl (Nat.le_of_ble_eq_true rfl) d_X11_holds_134 (fun r_4 σ_5 H locs hD hw => ?_)
    refine lv_iload X.1 X.2.1 d_X11_holds_137 (lv_at hl 0 rfl) ?_
    refine lv_icmp_lt (tgt := 146) X.1 X.2.1 d_X11_holds_139 (by decide) (fun q_139 => ?_) (fun q_139 => ?_)
    · have hD := hD.1 q_139
      refine lv_iconst (v := 0) X.1 X.2.1 d_X11_holds_146 (by decide) ?_
      exact g_zret X hr hlk hw (by decide) hD d_X11_holds_147
    · have hD := hD.2 q_139
      refine lv_iconst (v := 1) X.1 X.2.1 d_X11_holds_142 (by decide) ?_
      refine lv_goto (tgt := 147) X.1 X.2.1 d_X11_holds_143 (by decide) ?_
      exact g_zret X hr hlk hw (by decide) hD d_X11_holds_147
  by_cases q_30_110 : (σ 249 (Int32.toNatClampNeg ((6 * (σ 237 22)) + x2))) = 110
  · have hD := hD.2.2.1 q_30_110
    refine lv_lookup (tgt := 89) X.1 X.2.1 d_X11_holds_30 (by decide) (by rw [q_30_110] <;> rfl) (by decide) ?_
    refine lv_aload_n X.1 X.2.1 d_X11_holds_89 rfl (lv_at hl 1 rfl) ?_
    refine gf_11_32 X hw (by decide +kernel : kd 237 = 11) tb_938 d_X11_holds_90 ?_
    refine lv_iload_n X.1 X.2.1 d_X11_holds_93 rfl (lv_at hl 2 rfl) ?_
    obtain ⟨q_94, hD⟩ := hD
    refine g_iald X hw ly_11_32.1 ly_11_32.2 q_94 d_X11_holds_94 ?_
    refine lv_if_ne (tgt := 102) X.1 X.2.1 d_X11_holds_95 (by decide) (fun q_95 => ?_) (fun q_95 => ?_)
    · have hD := hD.1 q_95
      refine lv_iconst (v := 0) X.1 X.2.1 d_X11_holds_102 (by decide) ?_
      exact g_zret X hr hlk hw (by decide) hD d_X11_holds_103
    · have hD := hD.2 q_95
      refine lv_iconst (v := 1) X.1 X.2.1 d_X11_holds_98 (by decide) ?_
      refine lv_goto (tgt := 103) X.1 X.2.1 d_X11_holds_99 (by decide) ?_
      exact g_zret X hr hlk hw (by decide) hD d_X11_holds_103
  by_cases q_30_114 : (σ 249 (Int32.toNatClampNeg ((6 * (σ 237 22)) + x2))) = 114
  · have hD := hD.2.2.2.1 q_30_114
    refine lv_lookup (tgt := 80) X.1 X.2.1 d_X11_holds_30 (by decide) (by rw [q_30_114] <;> rfl) (by decide) ?_
    refine lv_aload_n X.1 X.2.1 d_X11_holds_80 rfl (lv_at hl 1 rfl) ?_
    refine lv_iload_n X.1 X.2.1 d_X11_holds_81 rfl (lv_at hl 2 rfl) ?_
    refine lv_iload X.1 X.2.1 d_X11_holds_82 (lv_at hl 0 rfl) ?_
    refine lv_iload_n X.1 X.2.1 d_X11_holds_84 rfl (lv_at hl 4 rfl) ?_
    refine gcV_i (rest := []) (As := [.int x1, .int x4_1, .int x3]) (o := 237) X hw (c_X11_hasRow l G x1 x4_1 x3 σ _  hD) (kd_lt (by decide +kernel : kd 237 = 11) (by decide)) (ce_11 G _ (by decide +kernel : kd 237 = 11)) rfl tb_1220 tb_1222 tv_63 tb_12 tb_1223 hd_X11_hasRow ⟨rfl, rfl⟩ ⟨Nat.le_of_ble_eq_true rfl, Nat.le_of_ble_eq_true rfl⟩ rfl hl.1 rfl (Nat.le_of_ble_eq_true rfl) d_X11_holds_85 (fun r_6 σ_7 H locs hD hw => ?_)
    exact g_zret X hr hlk hw hD.1 hD.2 d_X11_holds_88
  by_cases q_30_121 : (σ 249 (Int32.toNatClampNeg ((6 * (σ 237 22)) + x2))) = 121
  · have hD := hD.2.2.2.2.1 q_30_121
    refine lv_lookup (tgt := 124) X.1 X.2.1 d_X11_holds_30 (by decide) (by rw [q_30_121] <;> rfl) (by decide) ?_
    refine lv_aload_n X.1 X.2.1 d_X11_holds_124 rfl (lv_at hl 1 rfl) ?_
    refine lv_iload_n X.1 X.2.1 d_X11_holds_125 rfl (lv_at hl 2 rfl) ?_
    refine lv_iload_n X.1 X.2.1 d_X11_holds_126 rfl (lv_at hl 4 rfl) ?_
    refine gcV_i (rest := []) (As := [.int x1, .int x3]) (o := 237) X hw (c_X11_hasWay l G x1 x3 σ _  hD) (kd_lt (by decide +kernel : kd 237 = 11) (by decide)) (ce_11 G _ (by decide +kernel : kd 237 = 11)) rfl tb_1224 tb_1226 tv_64 tb_12 tb_1227 hd_X11_hasWay ⟨rfl, rfl⟩ ⟨Nat.le_of_ble_eq_true rfl, Nat.le_of_ble_eq_true rfl⟩ rfl hl.1 rfl (Nat.le_of_ble_eq_true rfl) d_X11_holds_127 (fun r_8 σ_9 H locs hD hw => ?_)
    exact g_zret X hr hlk hw hD.1 hD.2 d_X11_holds_130
  have hD := hD.2.2.2.2.2 ⟨q_30_103, q_30_107, q_30_110, q_30_114, q_30_121⟩
  have h9_103 : ¬ (103 : Int) = Int32.toInt (σ 249 (Int32.toNatClampNeg ((6 * (σ 237 22)) + x2))) := fun e9 => q_30_103 (Int32.toInt_inj.mp (e9.symm.trans rfl))
  have h9_107 : ¬ (107 : Int) = Int32.toInt (σ 249 (Int32.toNatClampNeg ((6 * (σ 237 22)) + x2))) := fun e9 => q_30_107 (Int32.toInt_inj.mp (e9.symm.trans rfl))
  have h9_110 : ¬ (110 : Int) = Int32.toInt (σ 249 (Int32.toNatClampNeg ((6 * (σ 237 22)) + x2))) := fun e9 => q_30_110 (Int32.toInt_inj.mp (e9.symm.trans rfl))
  have h9_114 : ¬ (114 : Int) = Int32.toInt (σ 249 (Int32.toNatClampNeg ((6 * (σ 237 22)) + x2))) := fun e9 => q_30_114 (Int32.toInt_inj.mp (e9.symm.trans rfl))
  have h9_121 : ¬ (121 : Int) = Int32.toInt (σ 249 (Int32.toNatClampNeg ((6 * (σ 237 22)) + x2))) := fun e9 => q_30_121 (Int32.toInt_inj.mp (e9.symm.trans rfl))
  have h9 : Op.lookupswitch.offset [(103, 74), (107, 101), (110, 59), (114, 50), (121, 94)] 118 (Int32.toInt (σ 249 (Int32.toNatClampNeg ((6 * (σ 237 22)) + x2)))) = 118 := by
    simp only [Op.lookupswitch.offset]
    rw [if_neg h9_103, if_neg h9_107, if_neg h9_110, if_neg h9_114, if_neg h9_121]
  refine lv_lookup (tgt := 148) X.1 X.2.1 d_X11_holds_30 (by decide) h9 (by decide) ?_
  refine lv_aload_n X.1 X.2.1 d_X11_holds_148 rfl (lv_at hl 1 rfl) ?_
  refine gf_11_25 X hw (by decide +kernel : kd 237 = 11) tb_931 d_X11_holds_149 ?_
  refine lv_iload_n X.1 X.2.1 d_X11_holds_152 rfl (lv_at hl 2 rfl) ?_
  obtain ⟨q_153, hD⟩ := hD
  refine g_iald X hw ly_11_25.1 ly_11_25.2 q_153 d_X11_holds_153 ?_
  refine lv_iload X.1 X.2.1 d_X11_holds_154 (lv_at hl 0 rfl) ?_
  refine lv_icmp_lt (tgt := 163) X.1 X.2.1 d_X11_holds_156 (by decide) (fun q_156 => ?_) (fun q_156 => ?_)
  · have hD := hD.1 q_156
    refine lv_iconst (v := 0) X.1 X.2.1 d_X11_holds_163 (by decide) ?_
    exact g_zret X hr hlk hw (by decide) hD d_X11_holds_164
  · have hD := hD.2 q_156
    refine lv_iconst (v := 1) X.1 X.2.1 d_X11_holds_159 (by decide) ?_
    refine lv_goto (tgt := 164) X.1 X.2.1 d_X11_holds_160 (by decide) ?_
    exact g_zret X hr hlk hw (by decide) hD d_X11_holds_164
theorem c_X11_holds (l : Launch) (G : GC) (x1 : Int32) (x2 : Int32) (x3 : Int32) (σ : GSt) (Q : Int32 → GSt → Prop)  (hD : D_X11_holds x1 x2 x3 σ Q) : MI l ym_X11_holds cm_X11_holds 5 .boolean rm_X11_holds G σ [.ref (G.2.1 237), .int x1, .int x2, .int x3] Q := by
  refine met_i (by decide) (Nat.le_of_ble_eq_true rfl) ?_
  intro p e s m args below meth c X hr hlk hw ls hl
  exact s_X11_holds_0 X hr hlk Q  x1 x2 x3 σ hw (lv_sub hl [0, 1, 2, 3] rfl) hD
theorem hd_X11_ends : ym_X11_ends.cls = "GameLoomModel" ∧ ym_X11_ends.cls ≠ "java/lang/invoke/MethodHandle" ∧ ym_X11_ends.cls ≠ "java/lang/invoke/VarHandle" ∧ (parseMethodDescriptor ym_X11_ends.desc).map (fun d => d.parameters.length) = some 1 := by decide +kernel
abbrev rm_X11_ends : Room := { frames := 4, cells := 0, slots := 0, locals := 98 }
theorem d_X11_ends_0 : decode cm_X11_ends 0 = .ok (.aload_n 0, 1) := by decide +kernel
theorem d_X11_ends_1 : decode cm_X11_ends 1 = .ok (.getfield 77, 3) := by decide +kernel
theorem d_X11_ends_4 : decode cm_X11_ends 4 = .ok (.iload_n 1, 1) := by decide +kernel
theorem d_X11_ends_5 : decode cm_X11_ends 5 = .ok (.iconst 0, 1) := by decide +kernel
theorem d_X11_ends_6 : decode cm_X11_ends 6 = .ok (.iastore, 1) := by decide +kernel
theorem d_X11_ends_7 : decode cm_X11_ends 7 = .ok (.aload_n 0, 1) := by decide +kernel
theorem d_X11_ends_8 : decode cm_X11_ends 8 = .ok (.getfield 80, 3) := by decide +kernel
theorem d_X11_ends_11 : decode cm_X11_ends 11 = .ok (.iload_n 1, 1) := by decide +kernel
theorem d_X11_ends_12 : decode cm_X11_ends 12 = .ok (.iconst 0, 1) := by decide +kernel
theorem d_X11_ends_13 : decode cm_X11_ends 13 = .ok (.iastore, 1) := by decide +kernel
theorem d_X11_ends_14 : decode cm_X11_ends 14 = .ok (.aload_n 0, 1) := by decide +kernel
theorem d_X11_ends_15 : decode cm_X11_ends 15 = .ok (.getfield 83, 3) := by decide +kernel
theorem d_X11_ends_18 : decode cm_X11_ends 18 = .ok (.iload_n 1, 1) := by decide +kernel
theorem d_X11_ends_19 : decode cm_X11_ends 19 = .ok (.bipush (-9), 2) := by decide +kernel
theorem d_X11_ends_21 : decode cm_X11_ends 21 = .ok (.iastore, 1) := by decide +kernel
theorem d_X11_ends_22 : decode cm_X11_ends 22 = .ok (.iconst 3, 1) := by decide +kernel
theorem d_X11_ends_23 : decode cm_X11_ends 23 = .ok (.aload_n 0, 1) := by decide +kernel
theorem d_X11_ends_24 : decode cm_X11_ends 24 = .ok (.getfield 71, 3) := by decide +kernel
theorem d_X11_ends_27 : decode cm_X11_ends 27 = .ok (.iload_n 1, 1) := by decide +kernel
theorem d_X11_ends_28 : decode cm_X11_ends 28 = .ok (.iaload, 1) := by decide +kernel
theorem d_X11_ends_29 : decode cm_X11_ends 29 = .ok (.isub, 1) := by decide +kernel
theorem d_X11_ends_30 : decode cm_X11_ends 30 = .ok (.istore_n 2, 1) := by decide +kernel
theorem d_X11_ends_31 : decode cm_X11_ends 31 = .ok (.iconst 0, 1) := by decide +kernel
theorem d_X11_ends_32 : decode cm_X11_ends 32 = .ok (.istore_n 3, 1) := by decide +kernel
theorem d_X11_ends_33 : decode cm_X11_ends 33 = .ok (.iload_n 3, 1) := by decide +kernel
theorem d_X11_ends_34 : decode cm_X11_ends 34 = .ok (.aload_n 0, 1) := by decide +kernel
theorem d_X11_ends_35 : decode cm_X11_ends 35 = .ok (.getfield 55, 3) := by decide +kernel
theorem d_X11_ends_38 : decode cm_X11_ends 38 = .ok (.aload_n 0, 1) := by decide +kernel
theorem d_X11_ends_39 : decode cm_X11_ends 39 = .ok (.getfield 156, 3) := by decide +kernel
theorem d_X11_ends_42 : decode cm_X11_ends 42 = .ok (.iaload, 1) := by decide +kernel
theorem d_X11_ends_43 : decode cm_X11_ends 43 = .ok (.if_icmp .ge 95, 3) := by decide +kernel
theorem d_X11_ends_46 : decode cm_X11_ends 46 = .ok (.aload_n 0, 1) := by decide +kernel
theorem d_X11_ends_47 : decode cm_X11_ends 47 = .ok (.getfield 77, 3) := by decide +kernel
theorem d_X11_ends_50 : decode cm_X11_ends 50 = .ok (.iload_n 1, 1) := by decide +kernel
theorem d_X11_ends_51 : decode cm_X11_ends 51 = .ok (.iaload, 1) := by decide +kernel
theorem d_X11_ends_52 : decode cm_X11_ends 52 = .ok (.ifCond .ne 86, 3) := by decide +kernel
theorem d_X11_ends_55 : decode cm_X11_ends 55 = .ok (.aload_n 0, 1) := by decide +kernel
theorem d_X11_ends_56 : decode cm_X11_ends 56 = .ok (.iload_n 1, 1) := by decide +kernel
theorem d_X11_ends_57 : decode cm_X11_ends 57 = .ok (.iload_n 3, 1) := by decide +kernel
theorem d_X11_ends_58 : decode cm_X11_ends 58 = .ok (.iload_n 2, 1) := by decide +kernel
theorem d_X11_ends_59 : decode cm_X11_ends 59 = .ok (.invokevirtual 240, 3) := by decide +kernel
theorem d_X11_ends_62 : decode cm_X11_ends 62 = .ok (.ifCond .ne 6, 3) := by decide +kernel
theorem d_X11_ends_65 : decode cm_X11_ends 65 = .ok (.goto 67, 3) := by decide +kernel
theorem d_X11_ends_68 : decode cm_X11_ends 68 = .ok (.aload_n 0, 1) := by decide +kernel
theorem d_X11_ends_69 : decode cm_X11_ends 69 = .ok (.getfield 77, 3) := by decide +kernel
theorem d_X11_ends_72 : decode cm_X11_ends 72 = .ok (.iload_n 1, 1) := by decide +kernel
theorem d_X11_ends_73 : decode cm_X11_ends 73 = .ok (.iconst 1, 1) := by decide +kernel
theorem d_X11_ends_74 : decode cm_X11_ends 74 = .ok (.iastore, 1) := by decide +kernel
theorem d_X11_ends_75 : decode cm_X11_ends 75 = .ok (.aload_n 0, 1) := by decide +kernel
theorem d_X11_ends_76 : decode cm_X11_ends 76 = .ok (.getfield 83, 3) := by decide +kernel
theorem d_X11_ends_79 : decode cm_X11_ends 79 = .ok (.iload_n 1, 1) := by decide +kernel
theorem d_X11_ends_80 : decode cm_X11_ends 80 = .ok (.iload_n 3, 1) := by decide +kernel
theorem d_X11_ends_81 : decode cm_X11_ends 81 = .ok (.iastore, 1) := by decide +kernel
theorem d_X11_ends_82 : decode cm_X11_ends 82 = .ok (.aload_n 0, 1) := by decide +kernel
theorem d_X11_ends_83 : decode cm_X11_ends 83 = .ok (.getfield 49, 3) := by decide +kernel
theorem d_X11_ends_86 : decode cm_X11_ends 86 = .ok (.bipush 6, 2) := by decide +kernel
theorem d_X11_ends_88 : decode cm_X11_ends 88 = .ok (.aload_n 0, 1) := by decide +kernel
theorem d_X11_ends_89 : decode cm_X11_ends 89 = .ok (.getfield 156, 3) := by decide +kernel
theorem d_X11_ends_92 : decode cm_X11_ends 92 = .ok (.imul, 1) := by decide +kernel
theorem d_X11_ends_93 : decode cm_X11_ends 93 = .ok (.iload_n 3, 1) := by decide +kernel
theorem d_X11_ends_94 : decode cm_X11_ends 94 = .ok (.iadd, 1) := by decide +kernel
theorem d_X11_ends_95 : decode cm_X11_ends 95 = .ok (.iaload, 1) := by decide +kernel
theorem d_X11_ends_96 : decode cm_X11_ends 96 = .ok (.istore 4, 2) := by decide +kernel
theorem d_X11_ends_98 : decode cm_X11_ends 98 = .ok (.aload_n 0, 1) := by decide +kernel
theorem d_X11_ends_99 : decode cm_X11_ends 99 = .ok (.getfield 80, 3) := by decide +kernel
theorem d_X11_ends_102 : decode cm_X11_ends 102 = .ok (.iload_n 1, 1) := by decide +kernel
theorem d_X11_ends_103 : decode cm_X11_ends 103 = .ok (.iload 4, 2) := by decide +kernel
theorem d_X11_ends_105 : decode cm_X11_ends 105 = .ok (.bipush 119, 2) := by decide +kernel
theorem d_X11_ends_107 : decode cm_X11_ends 107 = .ok (.if_icmp .ne 7, 3) := by decide +kernel
theorem d_X11_ends_110 : decode cm_X11_ends 110 = .ok (.iload_n 2, 1) := by decide +kernel
theorem d_X11_ends_111 : decode cm_X11_ends 111 = .ok (.goto 20, 3) := by decide +kernel
theorem d_X11_ends_114 : decode cm_X11_ends 114 = .ok (.iload 4, 2) := by decide +kernel
theorem d_X11_ends_116 : decode cm_X11_ends 116 = .ok (.bipush 108, 2) := by decide +kernel
theorem d_X11_ends_118 : decode cm_X11_ends 118 = .ok (.if_icmp .ne 12, 3) := by decide +kernel
theorem d_X11_ends_121 : decode cm_X11_ends 121 = .ok (.aload_n 0, 1) := by decide +kernel
theorem d_X11_ends_122 : decode cm_X11_ends 122 = .ok (.getfield 71, 3) := by decide +kernel
theorem d_X11_ends_125 : decode cm_X11_ends 125 = .ok (.iload_n 1, 1) := by decide +kernel
theorem d_X11_ends_126 : decode cm_X11_ends 126 = .ok (.iaload, 1) := by decide +kernel
theorem d_X11_ends_127 : decode cm_X11_ends 127 = .ok (.goto 4, 3) := by decide +kernel
theorem d_X11_ends_130 : decode cm_X11_ends 130 = .ok (.iconst 0, 1) := by decide +kernel
theorem d_X11_ends_131 : decode cm_X11_ends 131 = .ok (.iastore, 1) := by decide +kernel
theorem d_X11_ends_132 : decode cm_X11_ends 132 = .ok (.iinc 3 1, 3) := by decide +kernel
theorem d_X11_ends_135 : decode cm_X11_ends 135 = .ok (.goto (-102), 3) := by decide +kernel
theorem d_X11_ends_138 : decode cm_X11_ends 138 = .ok (.aload_n 0, 1) := by decide +kernel
theorem d_X11_ends_139 : decode cm_X11_ends 139 = .ok (.getfield 77, 3) := by decide +kernel
theorem d_X11_ends_142 : decode cm_X11_ends 142 = .ok (.iload_n 1, 1) := by decide +kernel
theorem d_X11_ends_143 : decode cm_X11_ends 143 = .ok (.iaload, 1) := by decide +kernel
theorem d_X11_ends_144 : decode cm_X11_ends 144 = .ok (.ifCond .ne 19, 3) := by decide +kernel
theorem d_X11_ends_147 : decode cm_X11_ends 147 = .ok (.aload_n 0, 1) := by decide +kernel
theorem d_X11_ends_148 : decode cm_X11_ends 148 = .ok (.getfield 95, 3) := by decide +kernel
theorem d_X11_ends_151 : decode cm_X11_ends 151 = .ok (.iload_n 1, 1) := by decide +kernel
theorem d_X11_ends_152 : decode cm_X11_ends 152 = .ok (.iaload, 1) := by decide +kernel
theorem d_X11_ends_153 : decode cm_X11_ends 153 = .ok (.ifCond .ne 10, 3) := by decide +kernel
theorem d_X11_ends_156 : decode cm_X11_ends 156 = .ok (.aload_n 0, 1) := by decide +kernel
theorem d_X11_ends_157 : decode cm_X11_ends 157 = .ok (.getfield 77, 3) := by decide +kernel
theorem d_X11_ends_160 : decode cm_X11_ends 160 = .ok (.iload_n 1, 1) := by decide +kernel
theorem d_X11_ends_161 : decode cm_X11_ends 161 = .ok (.iconst 2, 1) := by decide +kernel
theorem d_X11_ends_162 : decode cm_X11_ends 162 = .ok (.iastore, 1) := by decide +kernel
theorem d_X11_ends_163 : decode cm_X11_ends 163 = .ok (.aload_n 0, 1) := by decide +kernel
theorem d_X11_ends_164 : decode cm_X11_ends 164 = .ok (.getfield 77, 3) := by decide +kernel
theorem d_X11_ends_167 : decode cm_X11_ends 167 = .ok (.iload_n 1, 1) := by decide +kernel
theorem d_X11_ends_168 : decode cm_X11_ends 168 = .ok (.iaload, 1) := by decide +kernel
theorem d_X11_ends_169 : decode cm_X11_ends 169 = .ok (.ifCond .ne 21, 3) := by decide +kernel
theorem d_X11_ends_172 : decode cm_X11_ends 172 = .ok (.aload_n 0, 1) := by decide +kernel
theorem d_X11_ends_173 : decode cm_X11_ends 173 = .ok (.getfield 74, 3) := by decide +kernel
theorem d_X11_ends_176 : decode cm_X11_ends 176 = .ok (.iload_n 1, 1) := by decide +kernel
theorem d_X11_ends_177 : decode cm_X11_ends 177 = .ok (.iaload, 1) := by decide +kernel
theorem d_X11_ends_178 : decode cm_X11_ends 178 = .ok (.bipush 60, 2) := by decide +kernel
theorem d_X11_ends_180 : decode cm_X11_ends 180 = .ok (.if_icmp .lt 10, 3) := by decide +kernel
theorem d_X11_ends_183 : decode cm_X11_ends 183 = .ok (.aload_n 0, 1) := by decide +kernel
theorem d_X11_ends_184 : decode cm_X11_ends 184 = .ok (.getfield 77, 3) := by decide +kernel
theorem d_X11_ends_187 : decode cm_X11_ends 187 = .ok (.iload_n 1, 1) := by decide +kernel
theorem d_X11_ends_188 : decode cm_X11_ends 188 = .ok (.iconst 3, 1) := by decide +kernel
theorem d_X11_ends_189 : decode cm_X11_ends 189 = .ok (.iastore, 1) := by decide +kernel
theorem d_X11_ends_190 : decode cm_X11_ends 190 = .ok (.return_, 1) := by decide +kernel
def D_X11_ends_163 (Q : GSt → Prop) (x1 : Int32) (σ : GSt) : Prop :=
  vp_in x1 9 ∧ ((¬ (σ 260 (Int32.toNatClampNeg x1)) = 0 → Q σ) ∧
  ((σ 260 (Int32.toNatClampNeg x1)) = 0 → vp_in x1 9 ∧ (((σ 259 (Int32.toNatClampNeg x1)) < 60 → Q σ) ∧
  (¬ (σ 259 (Int32.toNatClampNeg x1)) < 60 → vp_in x1 9 ∧ (∀ σ_1 : GSt, σ_1 = up2 σ 260 (Int32.toNatClampNeg x1) 3 → (Q σ_1))))))
def D_X11_ends_138 (Q : GSt → Prop) (x1 : Int32) (σ : GSt) : Prop :=
  vp_in x1 9 ∧ ((¬ (σ 260 (Int32.toNatClampNeg x1)) = 0 → D_X11_ends_163 Q x1 σ) ∧
  ((σ 260 (Int32.toNatClampNeg x1)) = 0 → vp_in x1 9 ∧ ((¬ (σ 266 (Int32.toNatClampNeg x1)) = 0 → D_X11_ends_163 Q x1 σ) ∧
  ((σ 266 (Int32.toNatClampNeg x1)) = 0 → vp_in x1 9 ∧ (∀ σ_1 : GSt, σ_1 = up2 σ 260 (Int32.toNatClampNeg x1) 2 → (D_X11_ends_163 Q x1 σ_1))))))
def D_X11_ends_132 (K33 : Int32 → Int32 → Int32 → GSt → Prop) (Q : GSt → Prop) (x1 : Int32) (x2 : Int32) (x3 : Int32) (σ : GSt) : Prop :=
  ∀ x3_1 : Int32, x3_1 = x3 + 1 → (K33 x1 x2 x3_1 σ)
def D_X11_ends_131 (K33 : Int32 → Int32 → Int32 → GSt → Prop) (Q : GSt → Prop) (x1 : Int32) (x2 : Int32) (x3 : Int32) (sr0 : Nat) (s1 : Int32) (s2 : Int32) (σ : GSt) : Prop :=
  vp_in s1 (ln sr0) ∧ (∀ σ_1 : GSt, σ_1 = up2 σ sr0 (Int32.toNatClampNeg s1) s2 → (D_X11_ends_132 K33 Q x1 x2 x3 σ_1))
def D_X11_ends_33 (K33 : Int32 → Int32 → Int32 → GSt → Prop) (Q : GSt → Prop) (x1 : Int32) (x2 : Int32) (x3 : Int32) (σ : GSt) : Prop :=
  vp_in (σ 237 22) 9 ∧ (((σ 253 (Int32.toNatClampNeg (σ 237 22))) ≤ x3 → D_X11_ends_138 Q x1 σ) ∧
  (¬ (σ 253 (Int32.toNatClampNeg (σ 237 22))) ≤ x3 → vp_in x1 9 ∧ ((¬ (σ 260 (Int32.toNatClampNeg x1)) = 0 → D_X11_ends_138 Q x1 σ) ∧
  ((σ 260 (Int32.toNatClampNeg x1)) = 0 → D_X11_holds x1 x3 x2 σ (fun r_1 σ_2 => (¬ r_1 = 0 → vp_in x1 9 ∧ (∀ σ_3 : GSt, σ_3 = up2 σ_2 260 (Int32.toNatClampNeg x1) 1 → (vp_in x1 9 ∧ (∀ σ_4 : GSt, σ_4 = up2 σ_3 262 (Int32.toNatClampNeg x1) x3 → (vp_in ((6 * (σ_4 237 22)) + x3) 54 ∧ (∀ x4_5 : Int32, x4_5 = (σ_4 251 (Int32.toNatClampNeg ((6 * (σ_4 237 22)) + x3))) → ((¬ x4_5 = 119 → (¬ x4_5 = 108 → D_X11_ends_131 K33 Q x1 x2 x3 261 x1 0 σ_4) ∧
  (x4_5 = 108 → vp_in x1 9 ∧ (D_X11_ends_131 K33 Q x1 x2 x3 261 x1 (σ_4 258 (Int32.toNatClampNeg x1)) σ_4))) ∧
  (x4_5 = 119 → D_X11_ends_131 K33 Q x1 x2 x3 261 x1 x2 σ_4)))))))) ∧
  (r_1 = 0 → D_X11_ends_132 K33 Q x1 x2 x3 σ_2))))))
def L_X11_ends_33 (Q : GSt → Prop) : Nat → Int32 → Int32 → Int32 → GSt → Prop
  | 0 => fun _ _ _ _ => False
  | n + 1 => fun x1 x2 x3 σ => D_X11_ends_33 (L_X11_ends_33 Q n) Q x1 x2 x3 σ
def D_X11_ends_0 (Q : GSt → Prop) (x1 : Int32) (σ : GSt) : Prop :=
  vp_in x1 9 ∧ (∀ σ_1 : GSt, σ_1 = up2 σ 260 (Int32.toNatClampNeg x1) 0 → (vp_in x1 9 ∧ (∀ σ_2 : GSt, σ_2 = up2 σ_1 261 (Int32.toNatClampNeg x1) 0 → (vp_in x1 9 ∧ (∀ σ_3 : GSt, σ_3 = up2 σ_2 262 (Int32.toNatClampNeg x1) (-9) → (vp_in x1 9 ∧ (∀ x2_4 : Int32, x2_4 = (3 - (σ_3 258 (Int32.toNatClampNeg x1))) → (∃ n : Nat, L_X11_ends_33 Q n x1 x2_4 0 σ_3))))))))
def D_X11_ends (x1 : Int32) (σ : GSt) (Q : GSt → Prop) : Prop := D_X11_ends_0 Q x1 σ
set_option maxRecDepth 20000 in
set_option maxHeartbeats 4000000 in
theorem s_X11_ends_163 {p : Program} {l : Launch} {e : Env} {s : State} {m : MethodId} {args : Array Value} {below : List Frame} {meth : Method} {c : Code} {G : GC} (X : CallFix p m c cm_X11_ends 5 s args lw_us "GameLoomModel") (hr : meth.sig.returnType = none) (hlk : meth.locks = false) (Q : GSt → Prop) (x1 : Int32) (σ : GSt) {H : Heap} {locs : List Loc} {ls : Array Slot} (hw : Wo G s H locs σ) (hl : lv_has ls 5 [(0, .ref (G.2.1 237)), (1, .int x1)]) (hD : D_X11_ends_163 Q x1 σ) : W p l e rm_X11_ends s m args below meth c H locs 0 0 (QMV G Q below args s) (F0 m 163 ls []) := by
  unfold D_X11_ends_163 at hD
  refine lv_aload_n X.1 X.2.1 d_X11_ends_163 rfl (lv_at hl 0 rfl) ?_
  refine gf_11_26 X hw (by decide +kernel : kd 237 = 11) tb_932 d_X11_ends_164 ?_
  refine lv_iload_n X.1 X.2.1 d_X11_ends_167 rfl (lv_at hl 1 rfl) ?_
  obtain ⟨q_168, hD⟩ := hD
  refine g_iald X hw ly_11_26.1 ly_11_26.2 q_168 d_X11_ends_168 ?_
  refine lv_if_ne (tgt := 190) X.1 X.2.1 d_X11_ends_169 (by decide) (fun q_169 => ?_) (fun q_169 => ?_)
  · have hD := hD.1 q_169
    exact g_vret X hr hlk hw hD d_X11_ends_190
  · have hD := hD.2 q_169
    refine lv_aload_n X.1 X.2.1 d_X11_ends_172 rfl (lv_at hl 0 rfl) ?_
    refine gf_11_25 X hw (by decide +kernel : kd 237 = 11) tb_931 d_X11_ends_173 ?_
    refine lv_iload_n X.1 X.2.1 d_X11_ends_176 rfl (lv_at hl 1 rfl) ?_
    obtain ⟨q_177, hD⟩ := hD
    refine g_iald X hw ly_11_25.1 ly_11_25.2 q_177 d_X11_ends_177 ?_
    refine lv_bipush (v := 60) X.1 X.2.1 d_X11_ends_178 (by decide) ?_
    refine lv_icmp_lt (tgt := 190) X.1 X.2.1 d_X11_ends_180 (by decide) (fun q_180 => ?_) (fun q_180 => ?_)
    · have hD := hD.1 q_180
      exact g_vret X hr hlk hw hD d_X11_ends_190
    · have hD := hD.2 q_180
      refine lv_aload_n X.1 X.2.1 d_X11_ends_183 rfl (lv_at hl 0 rfl) ?_
      refine gf_11_26 X hw (by decide +kernel : kd 237 = 11) tb_932 d_X11_ends_184 ?_
      refine lv_iload_n X.1 X.2.1 d_X11_ends_187 rfl (lv_at hl 1 rfl) ?_
      refine lv_iconst (v := 3) X.1 X.2.1 d_X11_ends_188 (by decide) ?_
      obtain ⟨q_189, hD⟩ := hD
      refine g_iast X hw ly_11_26.1 ly_11_26.2 q_189 d_X11_ends_189 (fun H locs hw => ?_)
      obtain ⟨σ_1, e_σ_1⟩ : ∃ z : GSt, z = up2 σ 260 (Int32.toNatClampNeg x1) 3 := ⟨_, rfl⟩
      rw [← e_σ_1] at hw
      have hD := hD σ_1 e_σ_1
      exact g_vret X hr hlk hw hD d_X11_ends_190
set_option maxRecDepth 20000 in
set_option maxHeartbeats 4000000 in
theorem s_X11_ends_138 {p : Program} {l : Launch} {e : Env} {s : State} {m : MethodId} {args : Array Value} {below : List Frame} {meth : Method} {c : Code} {G : GC} (X : CallFix p m c cm_X11_ends 5 s args lw_us "GameLoomModel") (hr : meth.sig.returnType = none) (hlk : meth.locks = false) (Q : GSt → Prop) (x1 : Int32) (σ : GSt) {H : Heap} {locs : List Loc} {ls : Array Slot} (hw : Wo G s H locs σ) (hl : lv_has ls 5 [(0, .ref (G.2.1 237)), (1, .int x1)]) (hD : D_X11_ends_138 Q x1 σ) : W p l e rm_X11_ends s m args below meth c H locs 0 0 (QMV G Q below args s) (F0 m 138 ls []) := by
  unfold D_X11_ends_138 at hD
  refine lv_aload_n X.1 X.2.1 d_X11_ends_138 rfl (lv_at hl 0 rfl) ?_
  refine gf_11_26 X hw (by decide +kernel : kd 237 = 11) tb_932 d_X11_ends_139 ?_
  refine lv_iload_n X.1 X.2.1 d_X11_ends_142 rfl (lv_at hl 1 rfl) ?_
  obtain ⟨q_143, hD⟩ := hD
  refine g_iald X hw ly_11_26.1 ly_11_26.2 q_143 d_X11_ends_143 ?_
  refine lv_if_ne (tgt := 163) X.1 X.2.1 d_X11_ends_144 (by decide) (fun q_144 => ?_) (fun q_144 => ?_)
  · have hD := hD.1 q_144
    exact s_X11_ends_163 X hr hlk  Q  x1 σ hw (lv_sub hl [0, 1] rfl) hD
  · have hD := hD.2 q_144
    refine lv_aload_n X.1 X.2.1 d_X11_ends_147 rfl (lv_at hl 0 rfl) ?_
    refine gf_11_32 X hw (by decide +kernel : kd 237 = 11) tb_938 d_X11_ends_148 ?_
    refine lv_iload_n X.1 X.2.1 d_X11_ends_151 rfl (lv_at hl 1 rfl) ?_
    obtain ⟨q_152, hD⟩ := hD
    refine g_iald X hw ly_11_32.1 ly_11_32.2 q_152 d_X11_ends_152 ?_
    refine lv_if_ne (tgt := 163) X.1 X.2.1 d_X11_ends_153 (by decide) (fun q_153 => ?_) (fun q_153 => ?_)
    · have hD := hD.1 q_153
      exact s_X11_ends_163 X hr hlk  Q  x1 σ hw (lv_sub hl [0, 1] rfl) hD
    · have hD := hD.2 q_153
      refine lv_aload_n X.1 X.2.1 d_X11_ends_156 rfl (lv_at hl 0 rfl) ?_
      refine gf_11_26 X hw (by decide +kernel : kd 237 = 11) tb_932 d_X11_ends_157 ?_
      refine lv_iload_n X.1 X.2.1 d_X11_ends_160 rfl (lv_at hl 1 rfl) ?_
      refine lv_iconst (v := 2) X.1 X.2.1 d_X11_ends_161 (by decide) ?_
      obtain ⟨q_162, hD⟩ := hD
      refine g_iast X hw ly_11_26.1 ly_11_26.2 q_162 d_X11_ends_162 (fun H locs hw => ?_)
      obtain ⟨σ_1, e_σ_1⟩ : ∃ z : GSt, z = up2 σ 260 (Int32.toNatClampNeg x1) 2 := ⟨_, rfl⟩
      rw [← e_σ_1] at hw
      have hD := hD σ_1 e_σ_1
      exact s_X11_ends_163 X hr hlk  Q  x1 σ_1 hw (lv_sub hl [0, 1] rfl) hD
set_option maxRecDepth 20000 in
set_option maxHeartbeats 4000000 in
theorem s_X11_ends_132 {p : Program} {l : Launch} {e : Env} {s : State} {m : MethodId} {args : Array Value} {below : List Frame} {meth : Method} {c : Code} {G : GC} (X : CallFix p m c cm_X11_ends 5 s args lw_us "GameLoomModel") (hr : meth.sig.returnType = none) (hlk : meth.locks = false) (K33 : Int32 → Int32 → Int32 → GSt → Prop) (Q : GSt → Prop) (hK33 : ∀ (x1 : Int32) (x2 : Int32) (x3 : Int32) (σ : GSt) (H : Heap) (locs : List Loc) (ls : Array Slot), Wo G s H locs σ → lv_has ls 5 [(0, .ref (G.2.1 237)), (1, .int x1), (2, .int x2), (3, .int x3)] → K33 x1 x2 x3 σ → W p l e rm_X11_ends s m args below meth c H locs 0 0 (QMV G Q below args s) (F0 m 33 ls [])) (x1 : Int32) (x2 : Int32) (x3 : Int32) (σ : GSt) {H : Heap} {locs : List Loc} {ls : Array Slot} (hw : Wo G s H locs σ) (hl : lv_has ls 5 [(0, .ref (G.2.1 237)), (1, .int x1), (2, .int x2), (3, .int x3)]) (hD : D_X11_ends_132 K33 Q x1 x2 x3 σ) : W p l e rm_X11_ends s m args below meth c H locs 0 0 (QMV G Q below args s) (F0 m 132 ls []) := by
  unfold D_X11_ends_132 at hD
  obtain ⟨x3_1, e_x3_1⟩ : ∃ y : Int32, y = x3 + 1 := ⟨_, rfl⟩
  have hD := hD x3_1 e_x3_1
  refine lv_iinc (v := x3_1) (lv' := [(3, .int x3_1), (0, .ref (G.2.1 237)), (1, .int x1), (2, .int x2)]) X.1 X.2.1 d_X11_ends_132 hl (k := 3) rfl (by rw [e_x3_1]; rfl) (by decide) rfl (fun ls hl => ?_)
  refine lv_goto (tgt := 33) X.1 X.2.1 d_X11_ends_135 (by decide) ?_
  exact hK33 x1 x2 x3_1 σ _ _ _  hw (lv_sub hl [1, 2, 3, 0] rfl) hD
set_option maxRecDepth 20000 in
set_option maxHeartbeats 4000000 in
theorem s_X11_ends_131 {p : Program} {l : Launch} {e : Env} {s : State} {m : MethodId} {args : Array Value} {below : List Frame} {meth : Method} {c : Code} {G : GC} (X : CallFix p m c cm_X11_ends 5 s args lw_us "GameLoomModel") (hr : meth.sig.returnType = none) (hlk : meth.locks = false) (K33 : Int32 → Int32 → Int32 → GSt → Prop) (Q : GSt → Prop) (hK33 : ∀ (x1 : Int32) (x2 : Int32) (x3 : Int32) (σ : GSt) (H : Heap) (locs : List Loc) (ls : Array Slot), Wo G s H locs σ → lv_has ls 5 [(0, .ref (G.2.1 237)), (1, .int x1), (2, .int x2), (3, .int x3)] → K33 x1 x2 x3 σ → W p l e rm_X11_ends s m args below meth c H locs 0 0 (QMV G Q below args s) (F0 m 33 ls [])) (x1 : Int32) (x2 : Int32) (x3 : Int32) (sr0 : Nat) (hs0 : kd sr0 = 12) (s1 : Int32) (s2 : Int32) (σ : GSt) {H : Heap} {locs : List Loc} {ls : Array Slot} (hw : Wo G s H locs σ) (hl : lv_has ls 5 [(0, .ref (G.2.1 237)), (1, .int x1), (2, .int x2), (3, .int x3)]) (hD : D_X11_ends_131 K33 Q x1 x2 x3 sr0 s1 s2 σ) : W p l e rm_X11_ends s m args below meth c H locs 0 0 (QMV G Q below args s) (F0 m 131 ls [.int s2, .int s1, .ref (G.2.1 sr0)]) := by
  unfold D_X11_ends_131 at hD
  obtain ⟨q_131, hD⟩ := hD
  refine g_iast X hw hs0 rfl q_131 d_X11_ends_131 (fun H locs hw => ?_)
  obtain ⟨σ_1, e_σ_1⟩ : ∃ z : GSt, z = up2 σ sr0 (Int32.toNatClampNeg s1) s2 := ⟨_, rfl⟩
  rw [← e_σ_1] at hw
  have hD := hD σ_1 e_σ_1
  exact s_X11_ends_132 X hr hlk K33 Q hK33 x1 x2 x3 σ_1 hw (lv_sub hl [0, 1, 2, 3] rfl) hD
set_option maxRecDepth 20000 in
set_option maxHeartbeats 4000000 in
theorem s_X11_ends_33 {p : Program} {l : Launch} {e : Env} {s : State} {m : MethodId} {args : Array Value} {below : List Frame} {meth : Method} {c : Code} {G : GC} (X : CallFix p m c cm_X11_ends 5 s args lw_us "GameLoomModel") (hr : meth.sig.returnType = none) (hlk : meth.locks = false) (K33 : Int32 → Int32 → Int32 → GSt → Prop) (Q : GSt → Prop) (hK33 : ∀ (x1 : Int32) (x2 : Int32) (x3 : Int32) (σ : GSt) (H : Heap) (locs : List Loc) (ls : Array Slot), Wo G s H locs σ → lv_has ls 5 [(0, .ref (G.2.1 237)), (1, .int x1), (2, .int x2), (3, .int x3)] → K33 x1 x2 x3 σ → W p l e rm_X11_ends s m args below meth c H locs 0 0 (QMV G Q below args s) (F0 m 33 ls [])) (x1 : Int32) (x2 : Int32) (x3 : Int32) (σ : GSt) {H : Heap} {locs : List Loc} {ls : Array Slot} (hw : Wo G s H locs σ) (hl : lv_has ls 5 [(0, .ref (G.2.1 237)), (1, .int x1), (2, .int x2), (3, .int x3)]) (hD : D_X11_ends_33 K33 Q x1 x2 x3 σ) : W p l e rm_X11_ends s m args below meth c H locs 0 0 (QMV G Q below args s) (F0 m 33 ls []) := by
  unfold D_X11_ends_33 at hD
  refine lv_iload_n X.1 X.2.1 d_X11_ends_33 rfl (lv_at hl 3 rfl) ?_
  refine lv_aload_n X.1 X.2.1 d_X11_ends_34 rfl (lv_at hl 0 rfl) ?_
  refine gf_11_15 X hw (by decide +kernel : kd 237 = 11) tb_921 d_X11_ends_35 ?_
  refine lv_aload_n X.1 X.2.1 d_X11_ends_38 rfl (lv_at hl 0 rfl) ?_
  refine gf_11_22 X hw (by decide +kernel : kd 237 = 11) tb_928 d_X11_ends_39 ?_
  obtain ⟨q_42, hD⟩ := hD
  refine g_iald X hw ly_11_15.1 ly_11_15.2 q_42 d_X11_ends_42 ?_
  refine lv_icmp_ge (tgt := 138) X.1 X.2.1 d_X11_ends_43 (by decide) (fun q_43 => ?_) (fun q_43 => ?_)
  · have hD := hD.1 q_43
    exact s_X11_ends_138 X hr hlk  Q  x1 σ hw (lv_sub hl [0, 1] rfl) hD
  · have hD := hD.2 q_43
    refine lv_aload_n X.1 X.2.1 d_X11_ends_46 rfl (lv_at hl 0 rfl) ?_
    refine gf_11_26 X hw (by decide +kernel : kd 237 = 11) tb_932 d_X11_ends_47 ?_
    refine lv_iload_n X.1 X.2.1 d_X11_ends_50 rfl (lv_at hl 1 rfl) ?_
    obtain ⟨q_51, hD⟩ := hD
    refine g_iald X hw ly_11_26.1 ly_11_26.2 q_51 d_X11_ends_51 ?_
    refine lv_if_ne (tgt := 138) X.1 X.2.1 d_X11_ends_52 (by decide) (fun q_52 => ?_) (fun q_52 => ?_)
    · have hD := hD.1 q_52
      exact s_X11_ends_138 X hr hlk  Q  x1 σ hw (lv_sub hl [0, 1] rfl) hD
    · have hD := hD.2 q_52
      refine lv_aload_n X.1 X.2.1 d_X11_ends_55 rfl (lv_at hl 0 rfl) ?_
      refine lv_iload_n X.1 X.2.1 d_X11_ends_56 rfl (lv_at hl 1 rfl) ?_
      refine lv_iload_n X.1 X.2.1 d_X11_ends_57 rfl (lv_at hl 3 rfl) ?_
      refine lv_iload_n X.1 X.2.1 d_X11_ends_58 rfl (lv_at hl 2 rfl) ?_
      refine gcV_i (rest := []) (As := [.int x1, .int x3, .int x2]) (o := 237) X hw (c_X11_holds l G x1 x3 x2 σ _  hD) (kd_lt (by decide +kernel : kd 237 = 11) (by decide)) (ce_11 G _ (by decide +kernel : kd 237 = 11)) rfl tb_1216 tb_1218 tv_62 tb_12 tb_1219 hd_X11_holds ⟨rfl, rfl⟩ ⟨Nat.le_of_ble_eq_true rfl, Nat.le_of_ble_eq_true rfl⟩ rfl hl.1 rfl (Nat.le_of_ble_eq_true rfl) d_X11_ends_59 (fun r_1 σ_2 H locs hD hw => ?_)
      refine lv_if_ne (tgt := 68) X.1 X.2.1 d_X11_ends_62 (by decide) (fun q_62 => ?_) (fun q_62 => ?_)
      · have hD := hD.1 q_62
        refine lv_aload_n X.1 X.2.1 d_X11_ends_68 rfl (lv_at hl 0 rfl) ?_
        refine gf_11_26 X hw (by decide +kernel : kd 237 = 11) tb_932 d_X11_ends_69 ?_
        refine lv_iload_n X.1 X.2.1 d_X11_ends_72 rfl (lv_at hl 1 rfl) ?_
        refine lv_iconst (v := 1) X.1 X.2.1 d_X11_ends_73 (by decide) ?_
        obtain ⟨q_74, hD⟩ := hD
        refine g_iast X hw ly_11_26.1 ly_11_26.2 q_74 d_X11_ends_74 (fun H locs hw => ?_)
        obtain ⟨σ_3, e_σ_3⟩ : ∃ z : GSt, z = up2 σ_2 260 (Int32.toNatClampNeg x1) 1 := ⟨_, rfl⟩
        rw [← e_σ_3] at hw
        have hD := hD σ_3 e_σ_3
        refine lv_aload_n X.1 X.2.1 d_X11_ends_75 rfl (lv_at hl 0 rfl) ?_
        refine gf_11_28 X hw (by decide +kernel : kd 237 = 11) tb_934 d_X11_ends_76 ?_
        refine lv_iload_n X.1 X.2.1 d_X11_ends_79 rfl (lv_at hl 1 rfl) ?_
        refine lv_iload_n X.1 X.2.1 d_X11_ends_80 rfl (lv_at hl 3 rfl) ?_
        obtain ⟨q_81, hD⟩ := hD
        refine g_iast X hw ly_11_28.1 ly_11_28.2 q_81 d_X11_ends_81 (fun H locs hw => ?_)
        obtain ⟨σ_4, e_σ_4⟩ : ∃ z : GSt, z = up2 σ_3 262 (Int32.toNatClampNeg x1) x3 := ⟨_, rfl⟩
        rw [← e_σ_4] at hw
        have hD := hD σ_4 e_σ_4
        refine lv_aload_n X.1 X.2.1 d_X11_ends_82 rfl (lv_at hl 0 rfl) ?_
        refine gf_11_13 X hw (by decide +kernel : kd 237 = 11) tb_919 d_X11_ends_83 ?_
        refine lv_bipush (v := 6) X.1 X.2.1 d_X11_ends_86 (by decide) ?_
        refine lv_aload_n X.1 X.2.1 d_X11_ends_88 rfl (lv_at hl 0 rfl) ?_
        refine gf_11_22 X hw (by decide +kernel : kd 237 = 11) tb_928 d_X11_ends_89 ?_
        refine lv_imul X.1 X.2.1 d_X11_ends_92 ?_
        refine lv_iload_n X.1 X.2.1 d_X11_ends_93 rfl (lv_at hl 3 rfl) ?_
        refine lv_iadd X.1 X.2.1 d_X11_ends_94 ?_
        obtain ⟨q_95, hD⟩ := hD
        refine g_iald X hw ly_11_13.1 ly_11_13.2 q_95 d_X11_ends_95 ?_
        refine lv_topi (fun x4_5 e_x4_5 => ?_)
        have hD := hD x4_5 e_x4_5
        refine lv_istore (lv' := [(4, .int x4_5), (0, .ref (G.2.1 237)), (1, .int x1), (2, .int x2), (3, .int x3)]) X.1 X.2.1 d_X11_ends_96 hl (by decide) rfl (fun ls hl => ?_)
        refine lv_aload_n X.1 X.2.1 d_X11_ends_98 rfl (lv_at hl 1 rfl) ?_
        refine gf_11_27 X hw (by decide +kernel : kd 237 = 11) tb_933 d_X11_ends_99 ?_
        refine lv_iload_n X.1 X.2.1 d_X11_ends_102 rfl (lv_at hl 2 rfl) ?_
        refine lv_iload X.1 X.2.1 d_X11_ends_103 (lv_at hl 0 rfl) ?_
        refine lv_bipush (v := 119) X.1 X.2.1 d_X11_ends_105 (by decide) ?_
        refine lv_icmp_ne (tgt := 114) X.1 X.2.1 d_X11_ends_107 (by decide) (fun q_107 => ?_) (fun q_107 => ?_)
        · have hD := hD.1 q_107
          refine lv_iload X.1 X.2.1 d_X11_ends_114 (lv_at hl 0 rfl) ?_
          refine lv_bipush (v := 108) X.1 X.2.1 d_X11_ends_116 (by decide) ?_
          refine lv_icmp_ne (tgt := 130) X.1 X.2.1 d_X11_ends_118 (by decide) (fun q_118 => ?_) (fun q_118 => ?_)
          · have hD := hD.1 q_118
            refine lv_iconst (v := 0) X.1 X.2.1 d_X11_ends_130 (by decide) ?_
            exact s_X11_ends_131 X hr hlk K33 Q hK33 x1 x2 x3 261 ly_11_27.1 x1 0 σ_4 hw (lv_sub hl [1, 2, 3, 4] rfl) hD
          · have hD := hD.2 q_118
            refine lv_aload_n X.1 X.2.1 d_X11_ends_121 rfl (lv_at hl 1 rfl) ?_
            refine gf_11_24 X hw (by decide +kernel : kd 237 = 11) tb_930 d_X11_ends_122 ?_
            refine lv_iload_n X.1 X.2.1 d_X11_ends_125 rfl (lv_at hl 2 rfl) ?_
            obtain ⟨q_126, hD⟩ := hD
            refine g_iald X hw ly_11_24.1 ly_11_24.2 q_126 d_X11_ends_126 ?_
            refine lv_goto (tgt := 131) X.1 X.2.1 d_X11_ends_127 (by decide) ?_
            exact s_X11_ends_131 X hr hlk K33 Q hK33 x1 x2 x3 261 ly_11_27.1 x1 (σ_4 258 (Int32.toNatClampNeg x1)) σ_4 hw (lv_sub hl [1, 2, 3, 4] rfl) hD
        · have hD := hD.2 q_107
          refine lv_iload_n X.1 X.2.1 d_X11_ends_110 rfl (lv_at hl 3 rfl) ?_
          refine lv_goto (tgt := 131) X.1 X.2.1 d_X11_ends_111 (by decide) ?_
          exact s_X11_ends_131 X hr hlk K33 Q hK33 x1 x2 x3 261 ly_11_27.1 x1 x2 σ_4 hw (lv_sub hl [1, 2, 3, 4] rfl) hD
      · have hD := hD.2 q_62
        refine lv_goto (tgt := 132) X.1 X.2.1 d_X11_ends_65 (by decide) ?_
        exact s_X11_ends_132 X hr hlk K33 Q hK33 x1 x2 x3 σ_2 hw (lv_sub hl [0, 1, 2, 3] rfl) hD
set_option maxRecDepth 20000 in
set_option maxHeartbeats 4000000 in
theorem sl_X11_ends_33 {p : Program} {l : Launch} {e : Env} {s : State} {m : MethodId} {args : Array Value} {below : List Frame} {meth : Method} {c : Code} {G : GC} (X : CallFix p m c cm_X11_ends 5 s args lw_us "GameLoomModel") (hr : meth.sig.returnType = none) (hlk : meth.locks = false) (Q : GSt → Prop) : ∀ (nn : Nat), ∀ (x1 : Int32) (x2 : Int32) (x3 : Int32) (σ : GSt) (H : Heap) (locs : List Loc) (ls : Array Slot), Wo G s H locs σ → lv_has ls 5 [(0, .ref (G.2.1 237)), (1, .int x1), (2, .int x2), (3, .int x3)] → L_X11_ends_33 Q nn x1 x2 x3 σ → W p l e rm_X11_ends s m args below meth c H locs 0 0 (QMV G Q below args s) (F0 m 33 ls []) := by
  intro nn
  induction nn with
  | zero => intro x1 x2 x3 σ H locs ls  hw hl hD; exact hD.elim
  | succ nn ih =>
    intro x1 x2 x3 σ H locs ls  hw hl hD
    exact s_X11_ends_33 X hr hlk (L_X11_ends_33 Q nn) Q ih x1 x2 x3 σ hw hl hD
set_option maxRecDepth 20000 in
set_option maxHeartbeats 4000000 in
theorem s_X11_ends_0 {p : Program} {l : Launch} {e : Env} {s : State} {m : MethodId} {args : Array Value} {below : List Frame} {meth : Method} {c : Code} {G : GC} (X : CallFix p m c cm_X11_ends 5 s args lw_us "GameLoomModel") (hr : meth.sig.returnType = none) (hlk : meth.locks = false) (Q : GSt → Prop) (x1 : Int32) (σ : GSt) {H : Heap} {locs : List Loc} {ls : Array Slot} (hw : Wo G s H locs σ) (hl : lv_has ls 5 [(0, .ref (G.2.1 237)), (1, .int x1)]) (hD : D_X11_ends_0 Q x1 σ) : W p l e rm_X11_ends s m args below meth c H locs 0 0 (QMV G Q below args s) (F0 m 0 ls []) := by
  unfold D_X11_ends_0 at hD
  refine lv_aload_n X.1 X.2.1 d_X11_ends_0 rfl (lv_at hl 0 rfl) ?_
  refine gf_11_26 X hw (by decide +kernel : kd 237 = 11) tb_932 d_X11_ends_1 ?_
  refine lv_iload_n X.1 X.2.1 d_X11_ends_4 rfl (lv_at hl 1 rfl) ?_
  refine lv_iconst (v := 0) X.1 X.2.1 d_X11_ends_5 (by decide) ?_
  obtain ⟨q_6, hD⟩ := hD
  refine g_iast X hw ly_11_26.1 ly_11_26.2 q_6 d_X11_ends_6 (fun H locs hw => ?_)
  obtain ⟨σ_1, e_σ_1⟩ : ∃ z : GSt, z = up2 σ 260 (Int32.toNatClampNeg x1) 0 := ⟨_, rfl⟩
  rw [← e_σ_1] at hw
  have hD := hD σ_1 e_σ_1
  refine lv_aload_n X.1 X.2.1 d_X11_ends_7 rfl (lv_at hl 0 rfl) ?_
  refine gf_11_27 X hw (by decide +kernel : kd 237 = 11) tb_933 d_X11_ends_8 ?_
  refine lv_iload_n X.1 X.2.1 d_X11_ends_11 rfl (lv_at hl 1 rfl) ?_
  refine lv_iconst (v := 0) X.1 X.2.1 d_X11_ends_12 (by decide) ?_
  obtain ⟨q_13, hD⟩ := hD
  refine g_iast X hw ly_11_27.1 ly_11_27.2 q_13 d_X11_ends_13 (fun H locs hw => ?_)
  obtain ⟨σ_2, e_σ_2⟩ : ∃ z : GSt, z = up2 σ_1 261 (Int32.toNatClampNeg x1) 0 := ⟨_, rfl⟩
  rw [← e_σ_2] at hw
  have hD := hD σ_2 e_σ_2
  refine lv_aload_n X.1 X.2.1 d_X11_ends_14 rfl (lv_at hl 0 rfl) ?_
  refine gf_11_28 X hw (by decide +kernel : kd 237 = 11) tb_934 d_X11_ends_15 ?_
  refine lv_iload_n X.1 X.2.1 d_X11_ends_18 rfl (lv_at hl 1 rfl) ?_
  refine lv_bipush (v := (-9)) X.1 X.2.1 d_X11_ends_19 (by decide) ?_
  obtain ⟨q_21, hD⟩ := hD
  refine g_iast X hw ly_11_28.1 ly_11_28.2 q_21 d_X11_ends_21 (fun H locs hw => ?_)
  obtain ⟨σ_3, e_σ_3⟩ : ∃ z : GSt, z = up2 σ_2 262 (Int32.toNatClampNeg x1) (-9) := ⟨_, rfl⟩
  rw [← e_σ_3] at hw
  have hD := hD σ_3 e_σ_3
  refine lv_iconst (v := 3) X.1 X.2.1 d_X11_ends_22 (by decide) ?_
  refine lv_aload_n X.1 X.2.1 d_X11_ends_23 rfl (lv_at hl 0 rfl) ?_
  refine gf_11_24 X hw (by decide +kernel : kd 237 = 11) tb_930 d_X11_ends_24 ?_
  refine lv_iload_n X.1 X.2.1 d_X11_ends_27 rfl (lv_at hl 1 rfl) ?_
  obtain ⟨q_28, hD⟩ := hD
  refine g_iald X hw ly_11_24.1 ly_11_24.2 q_28 d_X11_ends_28 ?_
  refine lv_isub X.1 X.2.1 d_X11_ends_29 ?_
  refine lv_topi (fun x2_4 e_x2_4 => ?_)
  have hD := hD x2_4 e_x2_4
  refine lv_istore_n (lv' := [(2, .int x2_4), (0, .ref (G.2.1 237)), (1, .int x1)]) X.1 X.2.1 d_X11_ends_30 rfl hl (by decide) rfl (fun ls hl => ?_)
  refine lv_iconst (v := 0) X.1 X.2.1 d_X11_ends_31 (by decide) ?_
  refine lv_istore_n (lv' := [(3, .int 0), (2, .int x2_4), (0, .ref (G.2.1 237)), (1, .int x1)]) X.1 X.2.1 d_X11_ends_32 rfl hl (by decide) rfl (fun ls hl => ?_)
  obtain ⟨n9, hD⟩ := hD
  exact sl_X11_ends_33 X hr hlk  Q  n9 x1 x2_4 0 σ_3 _ _ _  hw (lv_sub hl [2, 3, 1, 0] rfl) hD
theorem c_X11_ends (l : Launch) (G : GC) (x1 : Int32) (σ : GSt) (Q : GSt → Prop)  (hD : D_X11_ends x1 σ Q) : MV l ym_X11_ends cm_X11_ends 5 rm_X11_ends G σ [.ref (G.2.1 237), .int x1] Q := by
  refine met_v (by decide) (Nat.le_of_ble_eq_true rfl) ?_
  intro p e s m args below meth c X hr hlk hw ls hl
  exact s_X11_ends_0 X hr hlk Q  x1 σ hw (lv_sub hl [0, 1] rfl) hD
theorem hd_X11_does : ym_X11_does.cls = "GameLoomModel" ∧ ym_X11_does.cls ≠ "java/lang/invoke/MethodHandle" ∧ ym_X11_does.cls ≠ "java/lang/invoke/VarHandle" ∧ (parseMethodDescriptor ym_X11_does.desc).map (fun d => d.parameters.length) = some 2 := by decide +kernel
abbrev rm_X11_does : Room := { frames := 5, cells := 0, slots := 0, locals := 128 }
theorem d_X11_does_0 : decode cm_X11_does 0 = .ok (.sipush 800, 3) := by decide +kernel
theorem d_X11_does_3 : decode cm_X11_does 3 = .ok (.iload_n 1, 1) := by decide +kernel
theorem d_X11_does_4 : decode cm_X11_does 4 = .ok (.imul, 1) := by decide +kernel
theorem d_X11_does_5 : decode cm_X11_does 5 = .ok (.iload_n 2, 1) := by decide +kernel
theorem d_X11_does_6 : decode cm_X11_does 6 = .ok (.iadd, 1) := by decide +kernel
theorem d_X11_does_7 : decode cm_X11_does 7 = .ok (.istore_n 3, 1) := by decide +kernel
theorem d_X11_does_8 : decode cm_X11_does 8 = .ok (.iload_n 1, 1) := by decide +kernel
theorem d_X11_does_9 : decode cm_X11_does 9 = .ok (.iconst 1, 1) := by decide +kernel
theorem d_X11_does_10 : decode cm_X11_does 10 = .ok (.iadd, 1) := by decide +kernel
theorem d_X11_does_11 : decode cm_X11_does 11 = .ok (.istore 4, 2) := by decide +kernel
theorem d_X11_does_13 : decode cm_X11_does 13 = .ok (.iconst 0, 1) := by decide +kernel
theorem d_X11_does_14 : decode cm_X11_does 14 = .ok (.istore 5, 2) := by decide +kernel
theorem d_X11_does_16 : decode cm_X11_does 16 = .ok (.iload 5, 2) := by decide +kernel
theorem d_X11_does_18 : decode cm_X11_does 18 = .ok (.bipush 16, 2) := by decide +kernel
theorem d_X11_does_20 : decode cm_X11_does 20 = .ok (.if_icmp .ge 34, 3) := by decide +kernel
theorem d_X11_does_23 : decode cm_X11_does 23 = .ok (.aload_n 0, 1) := by decide +kernel
theorem d_X11_does_24 : decode cm_X11_does 24 = .ok (.getfield 68, 3) := by decide +kernel
theorem d_X11_does_27 : decode cm_X11_does 27 = .ok (.bipush 16, 2) := by decide +kernel
theorem d_X11_does_29 : decode cm_X11_does 29 = .ok (.iload 4, 2) := by decide +kernel
theorem d_X11_does_31 : decode cm_X11_does 31 = .ok (.imul, 1) := by decide +kernel
theorem d_X11_does_32 : decode cm_X11_does 32 = .ok (.iload 5, 2) := by decide +kernel
theorem d_X11_does_34 : decode cm_X11_does 34 = .ok (.iadd, 1) := by decide +kernel
theorem d_X11_does_35 : decode cm_X11_does 35 = .ok (.aload_n 0, 1) := by decide +kernel
theorem d_X11_does_36 : decode cm_X11_does 36 = .ok (.getfield 68, 3) := by decide +kernel
theorem d_X11_does_39 : decode cm_X11_does 39 = .ok (.bipush 16, 2) := by decide +kernel
theorem d_X11_does_41 : decode cm_X11_does 41 = .ok (.iload_n 1, 1) := by decide +kernel
theorem d_X11_does_42 : decode cm_X11_does 42 = .ok (.imul, 1) := by decide +kernel
theorem d_X11_does_43 : decode cm_X11_does 43 = .ok (.iload 5, 2) := by decide +kernel
theorem d_X11_does_45 : decode cm_X11_does 45 = .ok (.iadd, 1) := by decide +kernel
theorem d_X11_does_46 : decode cm_X11_does 46 = .ok (.iaload, 1) := by decide +kernel
theorem d_X11_does_47 : decode cm_X11_does 47 = .ok (.iastore, 1) := by decide +kernel
theorem d_X11_does_48 : decode cm_X11_does 48 = .ok (.iinc 5 1, 3) := by decide +kernel
theorem d_X11_does_51 : decode cm_X11_does 51 = .ok (.goto (-35), 3) := by decide +kernel
theorem d_X11_does_54 : decode cm_X11_does 54 = .ok (.aload_n 0, 1) := by decide +kernel
theorem d_X11_does_55 : decode cm_X11_does 55 = .ok (.getfield 31, 3) := by decide +kernel
theorem d_X11_does_58 : decode cm_X11_does 58 = .ok (.bipush 6, 2) := by decide +kernel
theorem d_X11_does_60 : decode cm_X11_does 60 = .ok (.aload_n 0, 1) := by decide +kernel
theorem d_X11_does_61 : decode cm_X11_does 61 = .ok (.getfield 156, 3) := by decide +kernel
theorem d_X11_does_64 : decode cm_X11_does 64 = .ok (.imul, 1) := by decide +kernel
theorem d_X11_does_65 : decode cm_X11_does 65 = .ok (.aload_n 0, 1) := by decide +kernel
theorem d_X11_does_66 : decode cm_X11_does 66 = .ok (.getfield 86, 3) := by decide +kernel
theorem d_X11_does_69 : decode cm_X11_does 69 = .ok (.iload_n 3, 1) := by decide +kernel
theorem d_X11_does_70 : decode cm_X11_does 70 = .ok (.iaload, 1) := by decide +kernel
theorem d_X11_does_71 : decode cm_X11_does 71 = .ok (.iadd, 1) := by decide +kernel
theorem d_X11_does_72 : decode cm_X11_does 72 = .ok (.iaload, 1) := by decide +kernel
theorem d_X11_does_73 : decode cm_X11_does 73 = .ok (.istore 5, 2) := by decide +kernel
theorem d_X11_does_75 : decode cm_X11_does 75 = .ok (.aload_n 0, 1) := by decide +kernel
theorem d_X11_does_76 : decode cm_X11_does 76 = .ok (.getfield 92, 3) := by decide +kernel
theorem d_X11_does_79 : decode cm_X11_does 79 = .ok (.iload_n 3, 1) := by decide +kernel
theorem d_X11_does_80 : decode cm_X11_does 80 = .ok (.iaload, 1) := by decide +kernel
theorem d_X11_does_81 : decode cm_X11_does 81 = .ok (.istore 6, 2) := by decide +kernel
theorem d_X11_does_83 : decode cm_X11_does 83 = .ok (.aload_n 0, 1) := by decide +kernel
theorem d_X11_does_84 : decode cm_X11_does 84 = .ok (.getfield 89, 3) := by decide +kernel
theorem d_X11_does_87 : decode cm_X11_does 87 = .ok (.iload_n 3, 1) := by decide +kernel
theorem d_X11_does_88 : decode cm_X11_does 88 = .ok (.iaload, 1) := by decide +kernel
theorem d_X11_does_89 : decode cm_X11_does 89 = .ok (.istore 7, 2) := by decide +kernel
theorem d_X11_does_91 : decode cm_X11_does 91 = .ok (.iload 5, 2) := by decide +kernel
theorem d_X11_does_93 : decode cm_X11_does 93 = .ok (.bipush 112, 2) := by decide +kernel
theorem d_X11_does_95 : decode cm_X11_does 95 = .ok (.if_icmp .eq 199, 3) := by decide +kernel
theorem d_X11_does_98 : decode cm_X11_does 98 = .ok (.iload 6, 2) := by decide +kernel
theorem d_X11_does_100 : decode cm_X11_does 100 = .ok (.aload_n 0, 1) := by decide +kernel
theorem d_X11_does_101 : decode cm_X11_does 101 = .ok (.getfield 22, 3) := by decide +kernel
theorem d_X11_does_104 : decode cm_X11_does 104 = .ok (.aload_n 0, 1) := by decide +kernel
theorem d_X11_does_105 : decode cm_X11_does 105 = .ok (.getfield 156, 3) := by decide +kernel
theorem d_X11_does_108 : decode cm_X11_does 108 = .ok (.iaload, 1) := by decide +kernel
theorem d_X11_does_109 : decode cm_X11_does 109 = .ok (.irem, 1) := by decide +kernel
theorem d_X11_does_110 : decode cm_X11_does 110 = .ok (.iload 7, 2) := by decide +kernel
theorem d_X11_does_112 : decode cm_X11_does 112 = .ok (.aload_n 0, 1) := by decide +kernel
theorem d_X11_does_113 : decode cm_X11_does 113 = .ok (.getfield 22, 3) := by decide +kernel
theorem d_X11_does_116 : decode cm_X11_does 116 = .ok (.aload_n 0, 1) := by decide +kernel
theorem d_X11_does_117 : decode cm_X11_does 117 = .ok (.getfield 156, 3) := by decide +kernel
theorem d_X11_does_120 : decode cm_X11_does 120 = .ok (.iaload, 1) := by decide +kernel
theorem d_X11_does_121 : decode cm_X11_does 121 = .ok (.irem, 1) := by decide +kernel
theorem d_X11_does_122 : decode cm_X11_does 122 = .ok (.isub, 1) := by decide +kernel
theorem d_X11_does_123 : decode cm_X11_does 123 = .ok (.istore 8, 2) := by decide +kernel
theorem d_X11_does_125 : decode cm_X11_does 125 = .ok (.iload 6, 2) := by decide +kernel
theorem d_X11_does_127 : decode cm_X11_does 127 = .ok (.aload_n 0, 1) := by decide +kernel
theorem d_X11_does_128 : decode cm_X11_does 128 = .ok (.getfield 22, 3) := by decide +kernel
theorem d_X11_does_131 : decode cm_X11_does 131 = .ok (.aload_n 0, 1) := by decide +kernel
theorem d_X11_does_132 : decode cm_X11_does 132 = .ok (.getfield 156, 3) := by decide +kernel
theorem d_X11_does_135 : decode cm_X11_does 135 = .ok (.iaload, 1) := by decide +kernel
theorem d_X11_does_136 : decode cm_X11_does 136 = .ok (.idiv, 1) := by decide +kernel
theorem d_X11_does_137 : decode cm_X11_does 137 = .ok (.iload 7, 2) := by decide +kernel
theorem d_X11_does_139 : decode cm_X11_does 139 = .ok (.aload_n 0, 1) := by decide +kernel
theorem d_X11_does_140 : decode cm_X11_does 140 = .ok (.getfield 22, 3) := by decide +kernel
theorem d_X11_does_143 : decode cm_X11_does 143 = .ok (.aload_n 0, 1) := by decide +kernel
theorem d_X11_does_144 : decode cm_X11_does 144 = .ok (.getfield 156, 3) := by decide +kernel
theorem d_X11_does_147 : decode cm_X11_does 147 = .ok (.iaload, 1) := by decide +kernel
theorem d_X11_does_148 : decode cm_X11_does 148 = .ok (.idiv, 1) := by decide +kernel
theorem d_X11_does_149 : decode cm_X11_does 149 = .ok (.isub, 1) := by decide +kernel
theorem d_X11_does_150 : decode cm_X11_does 150 = .ok (.istore 9, 2) := by decide +kernel
theorem d_X11_does_152 : decode cm_X11_does 152 = .ok (.aload_n 0, 1) := by decide +kernel
theorem d_X11_does_153 : decode cm_X11_does 153 = .ok (.getfield 68, 3) := by decide +kernel
theorem d_X11_does_156 : decode cm_X11_does 156 = .ok (.bipush 16, 2) := by decide +kernel
theorem d_X11_does_158 : decode cm_X11_does 158 = .ok (.iload 4, 2) := by decide +kernel
theorem d_X11_does_160 : decode cm_X11_does 160 = .ok (.imul, 1) := by decide +kernel
theorem d_X11_does_161 : decode cm_X11_does 161 = .ok (.iload 7, 2) := by decide +kernel
theorem d_X11_does_163 : decode cm_X11_does 163 = .ok (.iadd, 1) := by decide +kernel
theorem d_X11_does_164 : decode cm_X11_does 164 = .ok (.iconst 0, 1) := by decide +kernel
theorem d_X11_does_165 : decode cm_X11_does 165 = .ok (.iastore, 1) := by decide +kernel
theorem d_X11_does_166 : decode cm_X11_does 166 = .ok (.iload 5, 2) := by decide +kernel
theorem d_X11_does_168 : decode cm_X11_does 168 = .ok (.bipush 104, 2) := by decide +kernel
theorem d_X11_does_170 : decode cm_X11_does 170 = .ok (.if_icmp .ne 37, 3) := by decide +kernel
theorem d_X11_does_173 : decode cm_X11_does 173 = .ok (.aload_n 0, 1) := by decide +kernel
theorem d_X11_does_174 : decode cm_X11_does 174 = .ok (.getfield 68, 3) := by decide +kernel
theorem d_X11_does_177 : decode cm_X11_does 177 = .ok (.bipush 16, 2) := by decide +kernel
theorem d_X11_does_179 : decode cm_X11_does 179 = .ok (.iload 4, 2) := by decide +kernel
theorem d_X11_does_181 : decode cm_X11_does 181 = .ok (.imul, 1) := by decide +kernel
theorem d_X11_does_182 : decode cm_X11_does 182 = .ok (.iload 7, 2) := by decide +kernel
theorem d_X11_does_184 : decode cm_X11_does 184 = .ok (.iadd, 1) := by decide +kernel
theorem d_X11_does_185 : decode cm_X11_does 185 = .ok (.aload_n 0, 1) := by decide +kernel
theorem d_X11_does_186 : decode cm_X11_does 186 = .ok (.getfield 22, 3) := by decide +kernel
theorem d_X11_does_189 : decode cm_X11_does 189 = .ok (.aload_n 0, 1) := by decide +kernel
theorem d_X11_does_190 : decode cm_X11_does 190 = .ok (.getfield 156, 3) := by decide +kernel
theorem d_X11_does_193 : decode cm_X11_does 193 = .ok (.iaload, 1) := by decide +kernel
theorem d_X11_does_194 : decode cm_X11_does 194 = .ok (.iload 9, 2) := by decide +kernel
theorem d_X11_does_196 : decode cm_X11_does 196 = .ok (.iconst 2, 1) := by decide +kernel
theorem d_X11_does_197 : decode cm_X11_does 197 = .ok (.idiv, 1) := by decide +kernel
theorem d_X11_does_198 : decode cm_X11_does 198 = .ok (.imul, 1) := by decide +kernel
theorem d_X11_does_199 : decode cm_X11_does 199 = .ok (.iadd, 1) := by decide +kernel
theorem d_X11_does_200 : decode cm_X11_does 200 = .ok (.iload 8, 2) := by decide +kernel
theorem d_X11_does_202 : decode cm_X11_does 202 = .ok (.iconst 2, 1) := by decide +kernel
theorem d_X11_does_203 : decode cm_X11_does 203 = .ok (.idiv, 1) := by decide +kernel
theorem d_X11_does_204 : decode cm_X11_does 204 = .ok (.iadd, 1) := by decide +kernel
theorem d_X11_does_205 : decode cm_X11_does 205 = .ok (.iconst 0, 1) := by decide +kernel
theorem d_X11_does_206 : decode cm_X11_does 206 = .ok (.iastore, 1) := by decide +kernel
theorem d_X11_does_207 : decode cm_X11_does 207 = .ok (.iload 6, 2) := by decide +kernel
theorem d_X11_does_209 : decode cm_X11_does 209 = .ok (.aload_n 0, 1) := by decide +kernel
theorem d_X11_does_210 : decode cm_X11_does 210 = .ok (.getfield 22, 3) := by decide +kernel
theorem d_X11_does_213 : decode cm_X11_does 213 = .ok (.aload_n 0, 1) := by decide +kernel
theorem d_X11_does_214 : decode cm_X11_does 214 = .ok (.getfield 156, 3) := by decide +kernel
theorem d_X11_does_217 : decode cm_X11_does 217 = .ok (.iaload, 1) := by decide +kernel
theorem d_X11_does_218 : decode cm_X11_does 218 = .ok (.irem, 1) := by decide +kernel
theorem d_X11_does_219 : decode cm_X11_does 219 = .ok (.iload 8, 2) := by decide +kernel
theorem d_X11_does_221 : decode cm_X11_does 221 = .ok (.iadd, 1) := by decide +kernel
theorem d_X11_does_222 : decode cm_X11_does 222 = .ok (.istore 10, 2) := by decide +kernel
theorem d_X11_does_224 : decode cm_X11_does 224 = .ok (.iload 6, 2) := by decide +kernel
theorem d_X11_does_226 : decode cm_X11_does 226 = .ok (.aload_n 0, 1) := by decide +kernel
theorem d_X11_does_227 : decode cm_X11_does 227 = .ok (.getfield 22, 3) := by decide +kernel
theorem d_X11_does_230 : decode cm_X11_does 230 = .ok (.aload_n 0, 1) := by decide +kernel
theorem d_X11_does_231 : decode cm_X11_does 231 = .ok (.getfield 156, 3) := by decide +kernel
theorem d_X11_does_234 : decode cm_X11_does 234 = .ok (.iaload, 1) := by decide +kernel
theorem d_X11_does_235 : decode cm_X11_does 235 = .ok (.idiv, 1) := by decide +kernel
theorem d_X11_does_236 : decode cm_X11_does 236 = .ok (.iload 9, 2) := by decide +kernel
theorem d_X11_does_238 : decode cm_X11_does 238 = .ok (.iadd, 1) := by decide +kernel
theorem d_X11_does_239 : decode cm_X11_does 239 = .ok (.istore 11, 2) := by decide +kernel
theorem d_X11_does_241 : decode cm_X11_does 241 = .ok (.iload 5, 2) := by decide +kernel
theorem d_X11_does_243 : decode cm_X11_does 243 = .ok (.bipush 117, 2) := by decide +kernel
theorem d_X11_does_245 : decode cm_X11_does 245 = .ok (.if_icmp .ne 49, 3) := by decide +kernel
theorem d_X11_does_248 : decode cm_X11_does 248 = .ok (.aload_n 0, 1) := by decide +kernel
theorem d_X11_does_249 : decode cm_X11_does 249 = .ok (.iload_n 1, 1) := by decide +kernel
theorem d_X11_does_250 : decode cm_X11_does 250 = .ok (.iload 10, 2) := by decide +kernel
theorem d_X11_does_252 : decode cm_X11_does 252 = .ok (.iload 11, 2) := by decide +kernel
theorem d_X11_does_254 : decode cm_X11_does 254 = .ok (.invokevirtual 220, 3) := by decide +kernel
theorem d_X11_does_257 : decode cm_X11_does 257 = .ok (.ifCond .ne 37, 3) := by decide +kernel
theorem d_X11_does_260 : decode cm_X11_does 260 = .ok (.aload_n 0, 1) := by decide +kernel
theorem d_X11_does_261 : decode cm_X11_does 261 = .ok (.getfield 68, 3) := by decide +kernel
theorem d_X11_does_264 : decode cm_X11_does 264 = .ok (.bipush 16, 2) := by decide +kernel
theorem d_X11_does_266 : decode cm_X11_does 266 = .ok (.iload 4, 2) := by decide +kernel
theorem d_X11_does_268 : decode cm_X11_does 268 = .ok (.imul, 1) := by decide +kernel
theorem d_X11_does_269 : decode cm_X11_does 269 = .ok (.aload_n 0, 1) := by decide +kernel
theorem d_X11_does_270 : decode cm_X11_does 270 = .ok (.getfield 22, 3) := by decide +kernel
theorem d_X11_does_273 : decode cm_X11_does 273 = .ok (.aload_n 0, 1) := by decide +kernel
theorem d_X11_does_274 : decode cm_X11_does 274 = .ok (.getfield 156, 3) := by decide +kernel
theorem d_X11_does_277 : decode cm_X11_does 277 = .ok (.iaload, 1) := by decide +kernel
theorem d_X11_does_278 : decode cm_X11_does 278 = .ok (.iload 11, 2) := by decide +kernel
theorem d_X11_does_280 : decode cm_X11_does 280 = .ok (.imul, 1) := by decide +kernel
theorem d_X11_does_281 : decode cm_X11_does 281 = .ok (.iadd, 1) := by decide +kernel
theorem d_X11_does_282 : decode cm_X11_does 282 = .ok (.iload 10, 2) := by decide +kernel
theorem d_X11_does_284 : decode cm_X11_does 284 = .ok (.iadd, 1) := by decide +kernel
theorem d_X11_does_285 : decode cm_X11_does 285 = .ok (.iconst 3, 1) := by decide +kernel
theorem d_X11_does_286 : decode cm_X11_does 286 = .ok (.aload_n 0, 1) := by decide +kernel
theorem d_X11_does_287 : decode cm_X11_does 287 = .ok (.getfield 71, 3) := by decide +kernel
theorem d_X11_does_290 : decode cm_X11_does 290 = .ok (.iload_n 1, 1) := by decide +kernel
theorem d_X11_does_291 : decode cm_X11_does 291 = .ok (.iaload, 1) := by decide +kernel
theorem d_X11_does_292 : decode cm_X11_does 292 = .ok (.isub, 1) := by decide +kernel
theorem d_X11_does_293 : decode cm_X11_does 293 = .ok (.iastore, 1) := by decide +kernel
theorem d_X11_does_294 : decode cm_X11_does 294 = .ok (.aload_n 0, 1) := by decide +kernel
theorem d_X11_does_295 : decode cm_X11_does 295 = .ok (.getfield 68, 3) := by decide +kernel
theorem d_X11_does_298 : decode cm_X11_does 298 = .ok (.bipush 16, 2) := by decide +kernel
theorem d_X11_does_300 : decode cm_X11_does 300 = .ok (.iload 4, 2) := by decide +kernel
theorem d_X11_does_302 : decode cm_X11_does 302 = .ok (.imul, 1) := by decide +kernel
theorem d_X11_does_303 : decode cm_X11_does 303 = .ok (.iload 6, 2) := by decide +kernel
theorem d_X11_does_305 : decode cm_X11_does 305 = .ok (.iadd, 1) := by decide +kernel
theorem d_X11_does_306 : decode cm_X11_does 306 = .ok (.aload_n 0, 1) := by decide +kernel
theorem d_X11_does_307 : decode cm_X11_does 307 = .ok (.getfield 71, 3) := by decide +kernel
theorem d_X11_does_310 : decode cm_X11_does 310 = .ok (.iload_n 1, 1) := by decide +kernel
theorem d_X11_does_311 : decode cm_X11_does 311 = .ok (.iaload, 1) := by decide +kernel
theorem d_X11_does_312 : decode cm_X11_does 312 = .ok (.iastore, 1) := by decide +kernel
theorem d_X11_does_313 : decode cm_X11_does 313 = .ok (.aload_n 0, 1) := by decide +kernel
theorem d_X11_does_314 : decode cm_X11_does 314 = .ok (.getfield 71, 3) := by decide +kernel
theorem d_X11_does_317 : decode cm_X11_does 317 = .ok (.iload 4, 2) := by decide +kernel
theorem d_X11_does_319 : decode cm_X11_does 319 = .ok (.iconst 3, 1) := by decide +kernel
theorem d_X11_does_320 : decode cm_X11_does 320 = .ok (.aload_n 0, 1) := by decide +kernel
theorem d_X11_does_321 : decode cm_X11_does 321 = .ok (.getfield 71, 3) := by decide +kernel
theorem d_X11_does_324 : decode cm_X11_does 324 = .ok (.iload_n 1, 1) := by decide +kernel
theorem d_X11_does_325 : decode cm_X11_does 325 = .ok (.iaload, 1) := by decide +kernel
theorem d_X11_does_326 : decode cm_X11_does 326 = .ok (.isub, 1) := by decide +kernel
theorem d_X11_does_327 : decode cm_X11_does 327 = .ok (.iastore, 1) := by decide +kernel
theorem d_X11_does_328 : decode cm_X11_does 328 = .ok (.aload_n 0, 1) := by decide +kernel
theorem d_X11_does_329 : decode cm_X11_does 329 = .ok (.getfield 74, 3) := by decide +kernel
theorem d_X11_does_332 : decode cm_X11_does 332 = .ok (.iload 4, 2) := by decide +kernel
theorem d_X11_does_334 : decode cm_X11_does 334 = .ok (.aload_n 0, 1) := by decide +kernel
theorem d_X11_does_335 : decode cm_X11_does 335 = .ok (.getfield 74, 3) := by decide +kernel
theorem d_X11_does_338 : decode cm_X11_does 338 = .ok (.iload_n 1, 1) := by decide +kernel
theorem d_X11_does_339 : decode cm_X11_does 339 = .ok (.iaload, 1) := by decide +kernel
theorem d_X11_does_340 : decode cm_X11_does 340 = .ok (.iconst 1, 1) := by decide +kernel
theorem d_X11_does_341 : decode cm_X11_does 341 = .ok (.iadd, 1) := by decide +kernel
theorem d_X11_does_342 : decode cm_X11_does 342 = .ok (.iastore, 1) := by decide +kernel
theorem d_X11_does_343 : decode cm_X11_does 343 = .ok (.aload_n 0, 1) := by decide +kernel
theorem d_X11_does_344 : decode cm_X11_does 344 = .ok (.iload 4, 2) := by decide +kernel
theorem d_X11_does_346 : decode cm_X11_does 346 = .ok (.invokevirtual 234, 3) := by decide +kernel
theorem d_X11_does_349 : decode cm_X11_does 349 = .ok (.aload_n 0, 1) := by decide +kernel
theorem d_X11_does_350 : decode cm_X11_does 350 = .ok (.iload 4, 2) := by decide +kernel
theorem d_X11_does_352 : decode cm_X11_does 352 = .ok (.invokevirtual 237, 3) := by decide +kernel
theorem d_X11_does_355 : decode cm_X11_does 355 = .ok (.return_, 1) := by decide +kernel
def D_X11_does_294 (Q : GSt → Prop) (x1 : Int32) (x4 : Int32) (x6 : Int32) (σ : GSt) : Prop :=
  vp_in x1 9 ∧ (vp_in ((16 * x4) + x6) 144 ∧ (∀ σ_1 : GSt, σ_1 = up2 σ 257 (Int32.toNatClampNeg ((16 * x4) + x6)) (σ 258 (Int32.toNatClampNeg x1)) → (vp_in x1 9 ∧ (vp_in x4 9 ∧ (∀ σ_2 : GSt, σ_2 = up2 σ_1 258 (Int32.toNatClampNeg x4) (3 - (σ_1 258 (Int32.toNatClampNeg x1))) → (vp_in x1 9 ∧ (vp_in x4 9 ∧ (∀ σ_3 : GSt, σ_3 = up2 σ_2 259 (Int32.toNatClampNeg x4) ((σ_2 259 (Int32.toNatClampNeg x1)) + 1) → (D_X11_findMoves x4 σ_3 (fun σ_4 => D_X11_ends x4 σ_4 (fun σ_5 => Q σ_5)))))))))))
def D_X11_does_207 (Q : GSt → Prop) (x1 : Int32) (x4 : Int32) (x5 : Int32) (x6 : Int32) (x8 : Int32) (x9 : Int32) (σ : GSt) : Prop :=
  vp_in (σ 237 22) 9 ∧ (¬ (σ 242 (Int32.toNatClampNeg (σ 237 22))) = 0 ∧ (∀ x10_1 : Int32, x10_1 = ((jrem x6 (σ 242 (Int32.toNatClampNeg (σ 237 22)))) + x8) → (vp_in (σ 237 22) 9 ∧ (¬ (σ 242 (Int32.toNatClampNeg (σ 237 22))) = 0 ∧ (∀ x11_2 : Int32, x11_2 = ((x6 / (σ 242 (Int32.toNatClampNeg (σ 237 22)))) + x9) → ((¬ x5 = 117 → D_X11_does_294 Q x1 x4 x6 σ) ∧
  (x5 = 117 → D_X11_cellAt x1 x10_1 x11_2 σ (fun r_3 σ_4 => (¬ r_3 = 0 → D_X11_does_294 Q x1 x4 x6 σ_4) ∧
  (r_3 = 0 → vp_in (σ_4 237 22) 9 ∧ (vp_in x1 9 ∧ (vp_in (((16 * x4) + ((σ_4 242 (Int32.toNatClampNeg (σ_4 237 22))) * x11_2)) + x10_1) 144 ∧ (∀ σ_5 : GSt, σ_5 = up2 σ_4 257 (Int32.toNatClampNeg (((16 * x4) + ((σ_4 242 (Int32.toNatClampNeg (σ_4 237 22))) * x11_2)) + x10_1)) (3 - (σ_4 258 (Int32.toNatClampNeg x1))) → (D_X11_does_294 Q x1 x4 x6 σ_5)))))))))))))
def D_X11_does_16 (K16 : Int32 → Int32 → Int32 → Int32 → GSt → Prop) (Q : GSt → Prop) (x1 : Int32) (x3 : Int32) (x4 : Int32) (x5 : Int32) (σ : GSt) : Prop :=
  (16 ≤ x5 → vp_in x3 7200 ∧ (vp_in ((6 * (σ 237 22)) + (σ 263 (Int32.toNatClampNeg x3))) 54 ∧ (∀ x5_1 : Int32, x5_1 = (σ 245 (Int32.toNatClampNeg ((6 * (σ 237 22)) + (σ 263 (Int32.toNatClampNeg x3))))) → (vp_in x3 7200 ∧ (∀ x6_2 : Int32, x6_2 = (σ 265 (Int32.toNatClampNeg x3)) → (vp_in x3 7200 ∧ (∀ x7_3 : Int32, x7_3 = (σ 264 (Int32.toNatClampNeg x3)) → ((x5_1 = 112 → D_X11_does_294 Q x1 x4 x6_2 σ) ∧
  (¬ x5_1 = 112 → vp_in (σ 237 22) 9 ∧ (¬ (σ 242 (Int32.toNatClampNeg (σ 237 22))) = 0 ∧ (vp_in (σ 237 22) 9 ∧ (¬ (σ 242 (Int32.toNatClampNeg (σ 237 22))) = 0 ∧ (∀ x8_4 : Int32, x8_4 = ((jrem x6_2 (σ 242 (Int32.toNatClampNeg (σ 237 22)))) - (jrem x7_3 (σ 242 (Int32.toNatClampNeg (σ 237 22))))) → (vp_in (σ 237 22) 9 ∧ (¬ (σ 242 (Int32.toNatClampNeg (σ 237 22))) = 0 ∧ (vp_in (σ 237 22) 9 ∧ (¬ (σ 242 (Int32.toNatClampNeg (σ 237 22))) = 0 ∧ (∀ x9_5 : Int32, x9_5 = ((x6_2 / (σ 242 (Int32.toNatClampNeg (σ 237 22)))) - (x7_3 / (σ 242 (Int32.toNatClampNeg (σ 237 22))))) → (vp_in ((16 * x4) + x7_3) 144 ∧ (∀ σ_6 : GSt, σ_6 = up2 σ 257 (Int32.toNatClampNeg ((16 * x4) + x7_3)) 0 → ((¬ x5_1 = 104 → D_X11_does_207 Q x1 x4 x5_1 x6_2 x8_4 x9_5 σ_6) ∧
  (x5_1 = 104 → vp_in (σ_6 237 22) 9 ∧ (vp_in ((((16 * x4) + x7_3) + ((σ_6 242 (Int32.toNatClampNeg (σ_6 237 22))) * (x9_5 / 2))) + (x8_4 / 2)) 144 ∧ (∀ σ_7 : GSt, σ_7 = up2 σ_6 257 (Int32.toNatClampNeg ((((16 * x4) + x7_3) + ((σ_6 242 (Int32.toNatClampNeg (σ_6 237 22))) * (x9_5 / 2))) + (x8_4 / 2))) 0 → (D_X11_does_207 Q x1 x4 x5_1 x6_2 x8_4 x9_5 σ_7))))))))))))))))))))))))) ∧
  (¬ 16 ≤ x5 → vp_in ((16 * x1) + x5) 144 ∧ (vp_in ((16 * x4) + x5) 144 ∧ (∀ σ_8 : GSt, σ_8 = up2 σ 257 (Int32.toNatClampNeg ((16 * x4) + x5)) (σ 257 (Int32.toNatClampNeg ((16 * x1) + x5))) → (∀ x5_9 : Int32, x5_9 = x5 + 1 → (K16 x1 x3 x4 x5_9 σ_8)))))
def L_X11_does_16 (Q : GSt → Prop) : Nat → Int32 → Int32 → Int32 → Int32 → GSt → Prop
  | 0 => fun _ _ _ _ _ => False
  | n + 1 => fun x1 x3 x4 x5 σ => D_X11_does_16 (L_X11_does_16 Q n) Q x1 x3 x4 x5 σ
def D_X11_does_0 (Q : GSt → Prop) (x1 : Int32) (x2 : Int32) (σ : GSt) : Prop :=
  ∀ x3_1 : Int32, x3_1 = ((800 * x1) + x2) → (∀ x4_2 : Int32, x4_2 = (x1 + 1) → (∃ n : Nat, L_X11_does_16 Q n x1 x3_1 x4_2 0 σ))
def D_X11_does (x1 : Int32) (x2 : Int32) (σ : GSt) (Q : GSt → Prop) : Prop := D_X11_does_0 Q x1 x2 σ
set_option maxRecDepth 20000 in
set_option maxHeartbeats 4000000 in
theorem s_X11_does_294 {p : Program} {l : Launch} {e : Env} {s : State} {m : MethodId} {args : Array Value} {below : List Frame} {meth : Method} {c : Code} {G : GC} (X : CallFix p m c cm_X11_does 12 s args lw_us "GameLoomModel") (hr : meth.sig.returnType = none) (hlk : meth.locks = false) (Q : GSt → Prop) (x1 : Int32) (x4 : Int32) (x6 : Int32) (σ : GSt) {H : Heap} {locs : List Loc} {ls : Array Slot} (hw : Wo G s H locs σ) (hl : lv_has ls 12 [(0, .ref (G.2.1 237)), (1, .int x1), (4, .int x4), (6, .int x6)]) (hD : D_X11_does_294 Q x1 x4 x6 σ) : W p l e rm_X11_does s m args below meth c H locs 0 0 (QMV G Q below args s) (F0 m 294 ls []) := by
  unfold D_X11_does_294 at hD
  refine lv_aload_n X.1 X.2.1 d_X11_does_294 rfl (lv_at hl 0 rfl) ?_
  refine gf_11_23 X hw (by decide +kernel : kd 237 = 11) tb_929 d_X11_does_295 ?_
  refine lv_bipush (v := 16) X.1 X.2.1 d_X11_does_298 (by decide) ?_
  refine lv_iload X.1 X.2.1 d_X11_does_300 (lv_at hl 2 rfl) ?_
  refine lv_imul X.1 X.2.1 d_X11_does_302 ?_
  refine lv_iload X.1 X.2.1 d_X11_does_303 (lv_at hl 3 rfl) ?_
  refine lv_iadd X.1 X.2.1 d_X11_does_305 ?_
  refine lv_aload_n X.1 X.2.1 d_X11_does_306 rfl (lv_at hl 0 rfl) ?_
  refine gf_11_24 X hw (by decide +kernel : kd 237 = 11) tb_930 d_X11_does_307 ?_
  refine lv_iload_n X.1 X.2.1 d_X11_does_310 rfl (lv_at hl 1 rfl) ?_
  obtain ⟨q_311, hD⟩ := hD
  refine g_iald X hw ly_11_24.1 ly_11_24.2 q_311 d_X11_does_311 ?_
  obtain ⟨q_312, hD⟩ := hD
  refine g_iast X hw ly_11_23.1 ly_11_23.2 q_312 d_X11_does_312 (fun H locs hw => ?_)
  obtain ⟨σ_1, e_σ_1⟩ : ∃ z : GSt, z = up2 σ 257 (Int32.toNatClampNeg ((16 * x4) + x6)) (σ 258 (Int32.toNatClampNeg x1)) := ⟨_, rfl⟩
  rw [← e_σ_1] at hw
  have hD := hD σ_1 e_σ_1
  refine lv_aload_n X.1 X.2.1 d_X11_does_313 rfl (lv_at hl 0 rfl) ?_
  refine gf_11_24 X hw (by decide +kernel : kd 237 = 11) tb_930 d_X11_does_314 ?_
  refine lv_iload X.1 X.2.1 d_X11_does_317 (lv_at hl 2 rfl) ?_
  refine lv_iconst (v := 3) X.1 X.2.1 d_X11_does_319 (by decide) ?_
  refine lv_aload_n X.1 X.2.1 d_X11_does_320 rfl (lv_at hl 0 rfl) ?_
  refine gf_11_24 X hw (by decide +kernel : kd 237 = 11) tb_930 d_X11_does_321 ?_
  refine lv_iload_n X.1 X.2.1 d_X11_does_324 rfl (lv_at hl 1 rfl) ?_
  obtain ⟨q_325, hD⟩ := hD
  refine g_iald X hw ly_11_24.1 ly_11_24.2 q_325 d_X11_does_325 ?_
  refine lv_isub X.1 X.2.1 d_X11_does_326 ?_
  obtain ⟨q_327, hD⟩ := hD
  refine g_iast X hw ly_11_24.1 ly_11_24.2 q_327 d_X11_does_327 (fun H locs hw => ?_)
  obtain ⟨σ_2, e_σ_2⟩ : ∃ z : GSt, z = up2 σ_1 258 (Int32.toNatClampNeg x4) (3 - (σ_1 258 (Int32.toNatClampNeg x1))) := ⟨_, rfl⟩
  rw [← e_σ_2] at hw
  have hD := hD σ_2 e_σ_2
  refine lv_aload_n X.1 X.2.1 d_X11_does_328 rfl (lv_at hl 0 rfl) ?_
  refine gf_11_25 X hw (by decide +kernel : kd 237 = 11) tb_931 d_X11_does_329 ?_
  refine lv_iload X.1 X.2.1 d_X11_does_332 (lv_at hl 2 rfl) ?_
  refine lv_aload_n X.1 X.2.1 d_X11_does_334 rfl (lv_at hl 0 rfl) ?_
  refine gf_11_25 X hw (by decide +kernel : kd 237 = 11) tb_931 d_X11_does_335 ?_
  refine lv_iload_n X.1 X.2.1 d_X11_does_338 rfl (lv_at hl 1 rfl) ?_
  obtain ⟨q_339, hD⟩ := hD
  refine g_iald X hw ly_11_25.1 ly_11_25.2 q_339 d_X11_does_339 ?_
  refine lv_iconst (v := 1) X.1 X.2.1 d_X11_does_340 (by decide) ?_
  refine lv_iadd X.1 X.2.1 d_X11_does_341 ?_
  obtain ⟨q_342, hD⟩ := hD
  refine g_iast X hw ly_11_25.1 ly_11_25.2 q_342 d_X11_does_342 (fun H locs hw => ?_)
  obtain ⟨σ_3, e_σ_3⟩ : ∃ z : GSt, z = up2 σ_2 259 (Int32.toNatClampNeg x4) ((σ_2 259 (Int32.toNatClampNeg x1)) + 1) := ⟨_, rfl⟩
  rw [← e_σ_3] at hw
  have hD := hD σ_3 e_σ_3
  refine lv_aload_n X.1 X.2.1 d_X11_does_343 rfl (lv_at hl 0 rfl) ?_
  refine lv_iload X.1 X.2.1 d_X11_does_344 (lv_at hl 2 rfl) ?_
  refine gcV_v (rest := []) (As := [.int x4]) (o := 237) X hw (c_X11_findMoves l G x4 σ_3 _  hD) (kd_lt (by decide +kernel : kd 237 = 11) (by decide)) (ce_11 G _ (by decide +kernel : kd 237 = 11)) rfl tb_1164 tb_1166 tv_50 tb_12 tb_1167 hd_X11_findMoves ⟨rfl, rfl⟩ ⟨Nat.le_of_ble_eq_true rfl, Nat.le_of_ble_eq_true rfl⟩ rfl hl.1 rfl (Nat.le_of_ble_eq_true rfl) d_X11_does_346 (fun σ_4 H locs hD hw => ?_)
  refine lv_aload_n X.1 X.2.1 d_X11_does_349 rfl (lv_at hl 0 rfl) ?_
  refine lv_iload X.1 X.2.1 d_X11_does_350 (lv_at hl 2 rfl) ?_
  refine gcV_v (rest := []) (As := [.int x4]) (o := 237) X hw (c_X11_ends l G x4 σ_4 _  hD) (kd_lt (by decide +kernel : kd 237 = 11) (by decide)) (ce_11 G _ (by decide +kernel : kd 237 = 11)) rfl tb_1212 tb_1214 tv_61 tb_12 tb_1215 hd_X11_ends ⟨rfl, rfl⟩ ⟨Nat.le_of_ble_eq_true rfl, Nat.le_of_ble_eq_true rfl⟩ rfl hl.1 rfl (Nat.le_of_ble_eq_true rfl) d_X11_does_352 (fun σ_5 H locs hD hw => ?_)
  exact g_vret X hr hlk hw hD d_X11_does_355
set_option maxRecDepth 20000 in
set_option maxHeartbeats 4000000 in
theorem s_X11_does_207 {p : Program} {l : Launch} {e : Env} {s : State} {m : MethodId} {args : Array Value} {below : List Frame} {meth : Method} {c : Code} {G : GC} (X : CallFix p m c cm_X11_does 12 s args lw_us "GameLoomModel") (hr : meth.sig.returnType = none) (hlk : meth.locks = false) (Q : GSt → Prop) (x1 : Int32) (x4 : Int32) (x5 : Int32) (x6 : Int32) (x8 : Int32) (x9 : Int32) (σ : GSt) {H : Heap} {locs : List Loc} {ls : Array Slot} (hw : Wo G s H locs σ) (hl : lv_has ls 12 [(0, .ref (G.2.1 237)), (1, .int x1), (4, .int x4), (5, .int x5), (6, .int x6), (8, .int x8), (9, .int x9)]) (hD : D_X11_does_207 Q x1 x4 x5 x6 x8 x9 σ) : W p l e rm_X11_does s m args below meth c H locs 0 0 (QMV G Q below args s) (F0 m 207 ls []) := by
  unfold D_X11_does_207 at hD
  refine lv_iload X.1 X.2.1 d_X11_does_207 (lv_at hl 4 rfl) ?_
  refine lv_aload_n X.1 X.2.1 d_X11_does_209 rfl (lv_at hl 0 rfl) ?_
  refine gf_11_4 X hw (by decide +kernel : kd 237 = 11) tb_910 d_X11_does_210 ?_
  refine lv_aload_n X.1 X.2.1 d_X11_does_213 rfl (lv_at hl 0 rfl) ?_
  refine gf_11_22 X hw (by decide +kernel : kd 237 = 11) tb_928 d_X11_does_214 ?_
  obtain ⟨q_217, hD⟩ := hD
  refine g_iald X hw ly_11_4.1 ly_11_4.2 q_217 d_X11_does_217 ?_
  obtain ⟨q_218, hD⟩ := hD
  refine g_irem X d_X11_does_218 q_218 ?_
  refine lv_iload X.1 X.2.1 d_X11_does_219 (lv_at hl 5 rfl) ?_
  refine lv_iadd X.1 X.2.1 d_X11_does_221 ?_
  refine lv_topi (fun x10_1 e_x10_1 => ?_)
  have hD := hD x10_1 e_x10_1
  refine lv_istore (lv' := [(10, .int x10_1), (0, .ref (G.2.1 237)), (1, .int x1), (4, .int x4), (5, .int x5), (6, .int x6), (8, .int x8), (9, .int x9)]) X.1 X.2.1 d_X11_does_222 hl (by decide) rfl (fun ls hl => ?_)
  refine lv_iload X.1 X.2.1 d_X11_does_224 (lv_at hl 5 rfl) ?_
  refine lv_aload_n X.1 X.2.1 d_X11_does_226 rfl (lv_at hl 1 rfl) ?_
  refine gf_11_4 X hw (by decide +kernel : kd 237 = 11) tb_910 d_X11_does_227 ?_
  refine lv_aload_n X.1 X.2.1 d_X11_does_230 rfl (lv_at hl 1 rfl) ?_
  refine gf_11_22 X hw (by decide +kernel : kd 237 = 11) tb_928 d_X11_does_231 ?_
  obtain ⟨q_234, hD⟩ := hD
  refine g_iald X hw ly_11_4.1 ly_11_4.2 q_234 d_X11_does_234 ?_
  obtain ⟨q_235, hD⟩ := hD
  refine lv_idiv X.1 X.2.1 d_X11_does_235 q_235 ?_
  refine lv_iload X.1 X.2.1 d_X11_does_236 (lv_at hl 7 rfl) ?_
  refine lv_iadd X.1 X.2.1 d_X11_does_238 ?_
  refine lv_topi (fun x11_2 e_x11_2 => ?_)
  have hD := hD x11_2 e_x11_2
  refine lv_istore (lv' := [(11, .int x11_2), (10, .int x10_1), (0, .ref (G.2.1 237)), (1, .int x1), (4, .int x4), (5, .int x5), (6, .int x6), (8, .int x8), (9, .int x9)]) X.1 X.2.1 d_X11_does_239 hl (by decide) rfl (fun ls hl => ?_)
  refine lv_iload X.1 X.2.1 d_X11_does_241 (lv_at hl 5 rfl) ?_
  refine lv_bipush (v := 117) X.1 X.2.1 d_X11_does_243 (by decide) ?_
  refine lv_icmp_ne (tgt := 294) X.1 X.2.1 d_X11_does_245 (by decide) (fun q_245 => ?_) (fun q_245 => ?_)
  · have hD := hD.1 q_245
    exact s_X11_does_294 X hr hlk  Q  x1 x4 x6 σ hw (lv_sub hl [2, 3, 4, 6] rfl) hD
  · have hD := hD.2 q_245
    refine lv_aload_n X.1 X.2.1 d_X11_does_248 rfl (lv_at hl 2 rfl) ?_
    refine lv_iload_n X.1 X.2.1 d_X11_does_249 rfl (lv_at hl 3 rfl) ?_
    refine lv_iload X.1 X.2.1 d_X11_does_250 (lv_at hl 1 rfl) ?_
    refine lv_iload X.1 X.2.1 d_X11_does_252 (lv_at hl 0 rfl) ?_
    refine gcV_i (rest := []) (As := [.int x1, .int x10_1, .int x11_2]) (o := 237) X hw (c_X11_cellAt l G x1 x10_1 x11_2 σ _  hD) (kd_lt (by decide +kernel : kd 237 = 11) (by decide)) (ce_11 G _ (by decide +kernel : kd 237 = 11)) rfl tb_1192 tb_1194 tv_57 tb_12 tb_1195 hd_X11_cellAt ⟨rfl, rfl⟩ ⟨Nat.le_of_ble_eq_true rfl, Nat.le_of_ble_eq_true rfl⟩ rfl hl.1 rfl (Nat.le_of_ble_eq_true rfl) d_X11_does_254 (fun r_3 σ_4 H locs hD hw => ?_)
    refine lv_if_ne (tgt := 294) X.1 X.2.1 d_X11_does_257 (by decide) (fun q_257 => ?_) (fun q_257 => ?_)
    · have hD := hD.1 q_257
      exact s_X11_does_294 X hr hlk  Q  x1 x4 x6 σ_4 hw (lv_sub hl [2, 3, 4, 6] rfl) hD
    · have hD := hD.2 q_257
      refine lv_aload_n X.1 X.2.1 d_X11_does_260 rfl (lv_at hl 2 rfl) ?_
      refine gf_11_23 X hw (by decide +kernel : kd 237 = 11) tb_929 d_X11_does_261 ?_
      refine lv_bipush (v := 16) X.1 X.2.1 d_X11_does_264 (by decide) ?_
      refine lv_iload X.1 X.2.1 d_X11_does_266 (lv_at hl 4 rfl) ?_
      refine lv_imul X.1 X.2.1 d_X11_does_268 ?_
      refine lv_aload_n X.1 X.2.1 d_X11_does_269 rfl (lv_at hl 2 rfl) ?_
      refine gf_11_4 X hw (by decide +kernel : kd 237 = 11) tb_910 d_X11_does_270 ?_
      refine lv_aload_n X.1 X.2.1 d_X11_does_273 rfl (lv_at hl 2 rfl) ?_
      refine gf_11_22 X hw (by decide +kernel : kd 237 = 11) tb_928 d_X11_does_274 ?_
      obtain ⟨q_277, hD⟩ := hD
      refine g_iald X hw ly_11_4.1 ly_11_4.2 q_277 d_X11_does_277 ?_
      refine lv_iload X.1 X.2.1 d_X11_does_278 (lv_at hl 0 rfl) ?_
      refine lv_imul X.1 X.2.1 d_X11_does_280 ?_
      refine lv_iadd X.1 X.2.1 d_X11_does_281 ?_
      refine lv_iload X.1 X.2.1 d_X11_does_282 (lv_at hl 1 rfl) ?_
      refine lv_iadd X.1 X.2.1 d_X11_does_284 ?_
      refine lv_iconst (v := 3) X.1 X.2.1 d_X11_does_285 (by decide) ?_
      refine lv_aload_n X.1 X.2.1 d_X11_does_286 rfl (lv_at hl 2 rfl) ?_
      refine gf_11_24 X hw (by decide +kernel : kd 237 = 11) tb_930 d_X11_does_287 ?_
      refine lv_iload_n X.1 X.2.1 d_X11_does_290 rfl (lv_at hl 3 rfl) ?_
      obtain ⟨q_291, hD⟩ := hD
      refine g_iald X hw ly_11_24.1 ly_11_24.2 q_291 d_X11_does_291 ?_
      refine lv_isub X.1 X.2.1 d_X11_does_292 ?_
      obtain ⟨q_293, hD⟩ := hD
      refine g_iast X hw ly_11_23.1 ly_11_23.2 q_293 d_X11_does_293 (fun H locs hw => ?_)
      obtain ⟨σ_5, e_σ_5⟩ : ∃ z : GSt, z = up2 σ_4 257 (Int32.toNatClampNeg (((16 * x4) + ((σ_4 242 (Int32.toNatClampNeg (σ_4 237 22))) * x11_2)) + x10_1)) (3 - (σ_4 258 (Int32.toNatClampNeg x1))) := ⟨_, rfl⟩
      rw [← e_σ_5] at hw
      have hD := hD σ_5 e_σ_5
      exact s_X11_does_294 X hr hlk  Q  x1 x4 x6 σ_5 hw (lv_sub hl [2, 3, 4, 6] rfl) hD
set_option maxRecDepth 20000 in
set_option maxHeartbeats 4000000 in
theorem s_X11_does_16 {p : Program} {l : Launch} {e : Env} {s : State} {m : MethodId} {args : Array Value} {below : List Frame} {meth : Method} {c : Code} {G : GC} (X : CallFix p m c cm_X11_does 12 s args lw_us "GameLoomModel") (hr : meth.sig.returnType = none) (hlk : meth.locks = false) (K16 : Int32 → Int32 → Int32 → Int32 → GSt → Prop) (Q : GSt → Prop) (hK16 : ∀ (x1 : Int32) (x3 : Int32) (x4 : Int32) (x5 : Int32) (σ : GSt) (H : Heap) (locs : List Loc) (ls : Array Slot), Wo G s H locs σ → lv_has ls 12 [(0, .ref (G.2.1 237)), (1, .int x1), (3, .int x3), (4, .int x4), (5, .int x5)] → K16 x1 x3 x4 x5 σ → W p l e rm_X11_does s m args below meth c H locs 0 0 (QMV G Q below args s) (F0 m 16 ls [])) (x1 : Int32) (x3 : Int32) (x4 : Int32) (x5 : Int32) (σ : GSt) {H : Heap} {locs : List Loc} {ls : Array Slot} (hw : Wo G s H locs σ) (hl : lv_has ls 12 [(0, .ref (G.2.1 237)), (1, .int x1), (3, .int x3), (4, .int x4), (5, .int x5)]) (hD : D_X11_does_16 K16 Q x1 x3 x4 x5 σ) : W p l e rm_X11_does s m args below meth c H locs 0 0 (QMV G Q below args s) (F0 m 16 ls []) := by
  unfold D_X11_does_16 at hD
  refine lv_iload X.1 X.2.1 d_X11_does_16 (lv_at hl 4 rfl) ?_
  refine lv_bipush (v := 16) X.1 X.2.1 d_X11_does_18 (by decide) ?_
  refine lv_icmp_ge (tgt := 54) X.1 X.2.1 d_X11_does_20 (by decide) (fun q_20 => ?_) (fun q_20 => ?_)
  · have hD := hD.1 q_20
    refine lv_aload_n X.1 X.2.1 d_X11_does_54 rfl (lv_at hl 0 rfl) ?_
    refine gf_11_7 X hw (by decide +kernel : kd 237 = 11) tb_913 d_X11_does_55 ?_
    refine lv_bipush (v := 6) X.1 X.2.1 d_X11_does_58 (by decide) ?_
    refine lv_aload_n X.1 X.2.1 d_X11_does_60 rfl (lv_at hl 0 rfl) ?_
    refine gf_11_22 X hw (by decide +kernel : kd 237 = 11) tb_928 d_X11_does_61 ?_
    refine lv_imul X.1 X.2.1 d_X11_does_64 ?_
    refine lv_aload_n X.1 X.2.1 d_X11_does_65 rfl (lv_at hl 0 rfl) ?_
    refine gf_11_29 X hw (by decide +kernel : kd 237 = 11) tb_935 d_X11_does_66 ?_
    refine lv_iload_n X.1 X.2.1 d_X11_does_69 rfl (lv_at hl 2 rfl) ?_
    obtain ⟨q_70, hD⟩ := hD
    refine g_iald X hw ly_11_29.1 ly_11_29.2 q_70 d_X11_does_70 ?_
    refine lv_iadd X.1 X.2.1 d_X11_does_71 ?_
    obtain ⟨q_72, hD⟩ := hD
    refine g_iald X hw ly_11_7.1 ly_11_7.2 q_72 d_X11_does_72 ?_
    refine lv_topi (fun x5_1 e_x5_1 => ?_)
    have hD := hD x5_1 e_x5_1
    refine lv_istore (lv' := [(5, .int x5_1), (0, .ref (G.2.1 237)), (1, .int x1), (3, .int x3), (4, .int x4)]) X.1 X.2.1 d_X11_does_73 hl (by decide) rfl (fun ls hl => ?_)
    refine lv_aload_n X.1 X.2.1 d_X11_does_75 rfl (lv_at hl 1 rfl) ?_
    refine gf_11_31 X hw (by decide +kernel : kd 237 = 11) tb_937 d_X11_does_76 ?_
    refine lv_iload_n X.1 X.2.1 d_X11_does_79 rfl (lv_at hl 3 rfl) ?_
    obtain ⟨q_80, hD⟩ := hD
    refine g_iald X hw ly_11_31.1 ly_11_31.2 q_80 d_X11_does_80 ?_
    refine lv_topi (fun x6_2 e_x6_2 => ?_)
    have hD := hD x6_2 e_x6_2
    refine lv_istore (lv' := [(6, .int x6_2), (5, .int x5_1), (0, .ref (G.2.1 237)), (1, .int x1), (3, .int x3), (4, .int x4)]) X.1 X.2.1 d_X11_does_81 hl (by decide) rfl (fun ls hl => ?_)
    refine lv_aload_n X.1 X.2.1 d_X11_does_83 rfl (lv_at hl 2 rfl) ?_
    refine gf_11_30 X hw (by decide +kernel : kd 237 = 11) tb_936 d_X11_does_84 ?_
    refine lv_iload_n X.1 X.2.1 d_X11_does_87 rfl (lv_at hl 4 rfl) ?_
    obtain ⟨q_88, hD⟩ := hD
    refine g_iald X hw ly_11_30.1 ly_11_30.2 q_88 d_X11_does_88 ?_
    refine lv_topi (fun x7_3 e_x7_3 => ?_)
    have hD := hD x7_3 e_x7_3
    refine lv_istore (lv' := [(7, .int x7_3), (6, .int x6_2), (5, .int x5_1), (0, .ref (G.2.1 237)), (1, .int x1), (3, .int x3), (4, .int x4)]) X.1 X.2.1 d_X11_does_89 hl (by decide) rfl (fun ls hl => ?_)
    refine lv_iload X.1 X.2.1 d_X11_does_91 (lv_at hl 2 rfl) ?_
    refine lv_bipush (v := 112) X.1 X.2.1 d_X11_does_93 (by decide) ?_
    refine lv_icmp_eq (tgt := 294) X.1 X.2.1 d_X11_does_95 (by decide) (fun q_95 => ?_) (fun q_95 => ?_)
    · have hD := hD.1 q_95
      exact s_X11_does_294 X hr hlk  Q  x1 x4 x6_2 σ hw (lv_sub hl [3, 4, 6, 1] rfl) hD
    · have hD := hD.2 q_95
      refine lv_iload X.1 X.2.1 d_X11_does_98 (lv_at hl 1 rfl) ?_
      refine lv_aload_n X.1 X.2.1 d_X11_does_100 rfl (lv_at hl 3 rfl) ?_
      refine gf_11_4 X hw (by decide +kernel : kd 237 = 11) tb_910 d_X11_does_101 ?_
      refine lv_aload_n X.1 X.2.1 d_X11_does_104 rfl (lv_at hl 3 rfl) ?_
      refine gf_11_22 X hw (by decide +kernel : kd 237 = 11) tb_928 d_X11_does_105 ?_
      obtain ⟨q_108, hD⟩ := hD
      refine g_iald X hw ly_11_4.1 ly_11_4.2 q_108 d_X11_does_108 ?_
      obtain ⟨q_109, hD⟩ := hD
      refine g_irem X d_X11_does_109 q_109 ?_
      refine lv_iload X.1 X.2.1 d_X11_does_110 (lv_at hl 0 rfl) ?_
      refine lv_aload_n X.1 X.2.1 d_X11_does_112 rfl (lv_at hl 3 rfl) ?_
      refine gf_11_4 X hw (by decide +kernel : kd 237 = 11) tb_910 d_X11_does_113 ?_
      refine lv_aload_n X.1 X.2.1 d_X11_does_116 rfl (lv_at hl 3 rfl) ?_
      refine gf_11_22 X hw (by decide +kernel : kd 237 = 11) tb_928 d_X11_does_117 ?_
      obtain ⟨q_120, hD⟩ := hD
      refine g_iald X hw ly_11_4.1 ly_11_4.2 q_120 d_X11_does_120 ?_
      obtain ⟨q_121, hD⟩ := hD
      refine g_irem X d_X11_does_121 q_121 ?_
      refine lv_isub X.1 X.2.1 d_X11_does_122 ?_
      refine lv_topi (fun x8_4 e_x8_4 => ?_)
      have hD := hD x8_4 e_x8_4
      refine lv_istore (lv' := [(8, .int x8_4), (7, .int x7_3), (6, .int x6_2), (5, .int x5_1), (0, .ref (G.2.1 237)), (1, .int x1), (3, .int x3), (4, .int x4)]) X.1 X.2.1 d_X11_does_123 hl (by decide) rfl (fun ls hl => ?_)
      refine lv_iload X.1 X.2.1 d_X11_does_125 (lv_at hl 2 rfl) ?_
      refine lv_aload_n X.1 X.2.1 d_X11_does_127 rfl (lv_at hl 4 rfl) ?_
      refine gf_11_4 X hw (by decide +kernel : kd 237 = 11) tb_910 d_X11_does_128 ?_
      refine lv_aload_n X.1 X.2.1 d_X11_does_131 rfl (lv_at hl 4 rfl) ?_
      refine gf_11_22 X hw (by decide +kernel : kd 237 = 11) tb_928 d_X11_does_132 ?_
      obtain ⟨q_135, hD⟩ := hD
      refine g_iald X hw ly_11_4.1 ly_11_4.2 q_135 d_X11_does_135 ?_
      obtain ⟨q_136, hD⟩ := hD
      refine lv_idiv X.1 X.2.1 d_X11_does_136 q_136 ?_
      refine lv_iload X.1 X.2.1 d_X11_does_137 (lv_at hl 1 rfl) ?_
      refine lv_aload_n X.1 X.2.1 d_X11_does_139 rfl (lv_at hl 4 rfl) ?_
      refine gf_11_4 X hw (by decide +kernel : kd 237 = 11) tb_910 d_X11_does_140 ?_
      refine lv_aload_n X.1 X.2.1 d_X11_does_143 rfl (lv_at hl 4 rfl) ?_
      refine gf_11_22 X hw (by decide +kernel : kd 237 = 11) tb_928 d_X11_does_144 ?_
      obtain ⟨q_147, hD⟩ := hD
      refine g_iald X hw ly_11_4.1 ly_11_4.2 q_147 d_X11_does_147 ?_
      obtain ⟨q_148, hD⟩ := hD
      refine lv_idiv X.1 X.2.1 d_X11_does_148 q_148 ?_
      refine lv_isub X.1 X.2.1 d_X11_does_149 ?_
      refine lv_topi (fun x9_5 e_x9_5 => ?_)
      have hD := hD x9_5 e_x9_5
      refine lv_istore (lv' := [(9, .int x9_5), (8, .int x8_4), (7, .int x7_3), (6, .int x6_2), (5, .int x5_1), (0, .ref (G.2.1 237)), (1, .int x1), (3, .int x3), (4, .int x4)]) X.1 X.2.1 d_X11_does_150 hl (by decide) rfl (fun ls hl => ?_)
      refine lv_aload_n X.1 X.2.1 d_X11_does_152 rfl (lv_at hl 5 rfl) ?_
      refine gf_11_23 X hw (by decide +kernel : kd 237 = 11) tb_929 d_X11_does_153 ?_
      refine lv_bipush (v := 16) X.1 X.2.1 d_X11_does_156 (by decide) ?_
      refine lv_iload X.1 X.2.1 d_X11_does_158 (lv_at hl 8 rfl) ?_
      refine lv_imul X.1 X.2.1 d_X11_does_160 ?_
      refine lv_iload X.1 X.2.1 d_X11_does_161 (lv_at hl 2 rfl) ?_
      refine lv_iadd X.1 X.2.1 d_X11_does_163 ?_
      refine lv_iconst (v := 0) X.1 X.2.1 d_X11_does_164 (by decide) ?_
      obtain ⟨q_165, hD⟩ := hD
      refine g_iast X hw ly_11_23.1 ly_11_23.2 q_165 d_X11_does_165 (fun H locs hw => ?_)
      obtain ⟨σ_6, e_σ_6⟩ : ∃ z : GSt, z = up2 σ 257 (Int32.toNatClampNeg ((16 * x4) + x7_3)) 0 := ⟨_, rfl⟩
      rw [← e_σ_6] at hw
      have hD := hD σ_6 e_σ_6
      refine lv_iload X.1 X.2.1 d_X11_does_166 (lv_at hl 4 rfl) ?_
      refine lv_bipush (v := 104) X.1 X.2.1 d_X11_does_168 (by decide) ?_
      refine lv_icmp_ne (tgt := 207) X.1 X.2.1 d_X11_does_170 (by decide) (fun q_170 => ?_) (fun q_170 => ?_)
      · have hD := hD.1 q_170
        exact s_X11_does_207 X hr hlk  Q  x1 x4 x5_1 x6_2 x8_4 x9_5 σ_6 hw (lv_sub hl [5, 6, 8, 4, 3, 1, 0] rfl) hD
      · have hD := hD.2 q_170
        refine lv_aload_n X.1 X.2.1 d_X11_does_173 rfl (lv_at hl 5 rfl) ?_
        refine gf_11_23 X hw (by decide +kernel : kd 237 = 11) tb_929 d_X11_does_174 ?_
        refine lv_bipush (v := 16) X.1 X.2.1 d_X11_does_177 (by decide) ?_
        refine lv_iload X.1 X.2.1 d_X11_does_179 (lv_at hl 8 rfl) ?_
        refine lv_imul X.1 X.2.1 d_X11_does_181 ?_
        refine lv_iload X.1 X.2.1 d_X11_does_182 (lv_at hl 2 rfl) ?_
        refine lv_iadd X.1 X.2.1 d_X11_does_184 ?_
        refine lv_aload_n X.1 X.2.1 d_X11_does_185 rfl (lv_at hl 5 rfl) ?_
        refine gf_11_4 X hw (by decide +kernel : kd 237 = 11) tb_910 d_X11_does_186 ?_
        refine lv_aload_n X.1 X.2.1 d_X11_does_189 rfl (lv_at hl 5 rfl) ?_
        refine gf_11_22 X hw (by decide +kernel : kd 237 = 11) tb_928 d_X11_does_190 ?_
        obtain ⟨q_193, hD⟩ := hD
        refine g_iald X hw ly_11_4.1 ly_11_4.2 q_193 d_X11_does_193 ?_
        refine lv_iload X.1 X.2.1 d_X11_does_194 (lv_at hl 0 rfl) ?_
        refine lv_iconst (v := 2) X.1 X.2.1 d_X11_does_196 (by decide) ?_
        refine lv_idiv X.1 X.2.1 d_X11_does_197 (by decide) ?_
        refine lv_imul X.1 X.2.1 d_X11_does_198 ?_
        refine lv_iadd X.1 X.2.1 d_X11_does_199 ?_
        refine lv_iload X.1 X.2.1 d_X11_does_200 (lv_at hl 1 rfl) ?_
        refine lv_iconst (v := 2) X.1 X.2.1 d_X11_does_202 (by decide) ?_
        refine lv_idiv X.1 X.2.1 d_X11_does_203 (by decide) ?_
        refine lv_iadd X.1 X.2.1 d_X11_does_204 ?_
        refine lv_iconst (v := 0) X.1 X.2.1 d_X11_does_205 (by decide) ?_
        obtain ⟨q_206, hD⟩ := hD
        refine g_iast X hw ly_11_23.1 ly_11_23.2 q_206 d_X11_does_206 (fun H locs hw => ?_)
        obtain ⟨σ_7, e_σ_7⟩ : ∃ z : GSt, z = up2 σ_6 257 (Int32.toNatClampNeg ((((16 * x4) + x7_3) + ((σ_6 242 (Int32.toNatClampNeg (σ_6 237 22))) * (x9_5 / 2))) + (x8_4 / 2))) 0 := ⟨_, rfl⟩
        rw [← e_σ_7] at hw
        have hD := hD σ_7 e_σ_7
        exact s_X11_does_207 X hr hlk  Q  x1 x4 x5_1 x6_2 x8_4 x9_5 σ_7 hw (lv_sub hl [5, 6, 8, 4, 3, 1, 0] rfl) hD
  · have hD := hD.2 q_20
    refine lv_aload_n X.1 X.2.1 d_X11_does_23 rfl (lv_at hl 0 rfl) ?_
    refine gf_11_23 X hw (by decide +kernel : kd 237 = 11) tb_929 d_X11_does_24 ?_
    refine lv_bipush (v := 16) X.1 X.2.1 d_X11_does_27 (by decide) ?_
    refine lv_iload X.1 X.2.1 d_X11_does_29 (lv_at hl 3 rfl) ?_
    refine lv_imul X.1 X.2.1 d_X11_does_31 ?_
    refine lv_iload X.1 X.2.1 d_X11_does_32 (lv_at hl 4 rfl) ?_
    refine lv_iadd X.1 X.2.1 d_X11_does_34 ?_
    refine lv_aload_n X.1 X.2.1 d_X11_does_35 rfl (lv_at hl 0 rfl) ?_
    refine gf_11_23 X hw (by decide +kernel : kd 237 = 11) tb_929 d_X11_does_36 ?_
    refine lv_bipush (v := 16) X.1 X.2.1 d_X11_does_39 (by decide) ?_
    refine lv_iload_n X.1 X.2.1 d_X11_does_41 rfl (lv_at hl 1 rfl) ?_
    refine lv_imul X.1 X.2.1 d_X11_does_42 ?_
    refine lv_iload X.1 X.2.1 d_X11_does_43 (lv_at hl 4 rfl) ?_
    refine lv_iadd X.1 X.2.1 d_X11_does_45 ?_
    obtain ⟨q_46, hD⟩ := hD
    refine g_iald X hw ly_11_23.1 ly_11_23.2 q_46 d_X11_does_46 ?_
    obtain ⟨q_47, hD⟩ := hD
    refine g_iast X hw ly_11_23.1 ly_11_23.2 q_47 d_X11_does_47 (fun H locs hw => ?_)
    obtain ⟨σ_8, e_σ_8⟩ : ∃ z : GSt, z = up2 σ 257 (Int32.toNatClampNeg ((16 * x4) + x5)) (σ 257 (Int32.toNatClampNeg ((16 * x1) + x5))) := ⟨_, rfl⟩
    rw [← e_σ_8] at hw
    have hD := hD σ_8 e_σ_8
    obtain ⟨x5_9, e_x5_9⟩ : ∃ y : Int32, y = x5 + 1 := ⟨_, rfl⟩
    have hD := hD x5_9 e_x5_9
    refine lv_iinc (v := x5_9) (lv' := [(5, .int x5_9), (0, .ref (G.2.1 237)), (1, .int x1), (3, .int x3), (4, .int x4)]) X.1 X.2.1 d_X11_does_48 hl (k := 4) rfl (by rw [e_x5_9]; rfl) (by decide) rfl (fun ls hl => ?_)
    refine lv_goto (tgt := 16) X.1 X.2.1 d_X11_does_51 (by decide) ?_
    exact hK16 x1 x3 x4 x5_9 σ_8 _ _ _  hw (lv_sub hl [1, 2, 3, 4, 0] rfl) hD
set_option maxRecDepth 20000 in
set_option maxHeartbeats 4000000 in
theorem sl_X11_does_16 {p : Program} {l : Launch} {e : Env} {s : State} {m : MethodId} {args : Array Value} {below : List Frame} {meth : Method} {c : Code} {G : GC} (X : CallFix p m c cm_X11_does 12 s args lw_us "GameLoomModel") (hr : meth.sig.returnType = none) (hlk : meth.locks = false) (Q : GSt → Prop) : ∀ (nn : Nat), ∀ (x1 : Int32) (x3 : Int32) (x4 : Int32) (x5 : Int32) (σ : GSt) (H : Heap) (locs : List Loc) (ls : Array Slot), Wo G s H locs σ → lv_has ls 12 [(0, .ref (G.2.1 237)), (1, .int x1), (3, .int x3), (4, .int x4), (5, .int x5)] → L_X11_does_16 Q nn x1 x3 x4 x5 σ → W p l e rm_X11_does s m args below meth c H locs 0 0 (QMV G Q below args s) (F0 m 16 ls []) := by
  intro nn
  induction nn with
  | zero => intro x1 x3 x4 x5 σ H locs ls  hw hl hD; exact hD.elim
  | succ nn ih =>
    intro x1 x3 x4 x5 σ H locs ls  hw hl hD
    exact s_X11_does_16 X hr hlk (L_X11_does_16 Q nn) Q ih x1 x3 x4 x5 σ hw hl hD
set_option maxRecDepth 20000 in
set_option maxHeartbeats 4000000 in
theorem s_X11_does_0 {p : Program} {l : Launch} {e : Env} {s : State} {m : MethodId} {args : Array Value} {below : List Frame} {meth : Method} {c : Code} {G : GC} (X : CallFix p m c cm_X11_does 12 s args lw_us "GameLoomModel") (hr : meth.sig.returnType = none) (hlk : meth.locks = false) (Q : GSt → Prop) (x1 : Int32) (x2 : Int32) (σ : GSt) {H : Heap} {locs : List Loc} {ls : Array Slot} (hw : Wo G s H locs σ) (hl : lv_has ls 12 [(0, .ref (G.2.1 237)), (1, .int x1), (2, .int x2)]) (hD : D_X11_does_0 Q x1 x2 σ) : W p l e rm_X11_does s m args below meth c H locs 0 0 (QMV G Q below args s) (F0 m 0 ls []) := by
  unfold D_X11_does_0 at hD
  refine lv_sipush (v := 800) X.1 X.2.1 d_X11_does_0 (by decide) ?_
  refine lv_iload_n X.1 X.2.1 d_X11_does_3 rfl (lv_at hl 1 rfl) ?_
  refine lv_imul X.1 X.2.1 d_X11_does_4 ?_
  refine lv_iload_n X.1 X.2.1 d_X11_does_5 rfl (lv_at hl 2 rfl) ?_
  refine lv_iadd X.1 X.2.1 d_X11_does_6 ?_
  refine lv_topi (fun x3_1 e_x3_1 => ?_)
  have hD := hD x3_1 e_x3_1
  refine lv_istore_n (lv' := [(3, .int x3_1), (0, .ref (G.2.1 237)), (1, .int x1), (2, .int x2)]) X.1 X.2.1 d_X11_does_7 rfl hl (by decide) rfl (fun ls hl => ?_)
  refine lv_iload_n X.1 X.2.1 d_X11_does_8 rfl (lv_at hl 2 rfl) ?_
  refine lv_iconst (v := 1) X.1 X.2.1 d_X11_does_9 (by decide) ?_
  refine lv_iadd X.1 X.2.1 d_X11_does_10 ?_
  refine lv_topi (fun x4_2 e_x4_2 => ?_)
  have hD := hD x4_2 e_x4_2
  refine lv_istore (lv' := [(4, .int x4_2), (3, .int x3_1), (0, .ref (G.2.1 237)), (1, .int x1), (2, .int x2)]) X.1 X.2.1 d_X11_does_11 hl (by decide) rfl (fun ls hl => ?_)
  refine lv_iconst (v := 0) X.1 X.2.1 d_X11_does_13 (by decide) ?_
  refine lv_istore (lv' := [(5, .int 0), (4, .int x4_2), (3, .int x3_1), (0, .ref (G.2.1 237)), (1, .int x1), (2, .int x2)]) X.1 X.2.1 d_X11_does_14 hl (by decide) rfl (fun ls hl => ?_)
  obtain ⟨n9, hD⟩ := hD
  exact sl_X11_does_16 X hr hlk  Q  n9 x1 x3_1 x4_2 0 σ _ _ _  hw (lv_sub hl [3, 4, 2, 1, 0] rfl) hD
theorem c_X11_does (l : Launch) (G : GC) (x1 : Int32) (x2 : Int32) (σ : GSt) (Q : GSt → Prop)  (hD : D_X11_does x1 x2 σ Q) : MV l ym_X11_does cm_X11_does 12 rm_X11_does G σ [.ref (G.2.1 237), .int x1, .int x2] Q := by
  refine met_v (by decide) (Nat.le_of_ble_eq_true rfl) ?_
  intro p e s m args below meth c X hr hlk hw ls hl
  exact s_X11_does_0 X hr hlk Q  x1 x2 σ hw (lv_sub hl [0, 1, 2] rfl) hD
theorem hd_X11_opens : ym_X11_opens.cls = "GameLoomModel" ∧ ym_X11_opens.cls ≠ "java/lang/invoke/MethodHandle" ∧ ym_X11_opens.cls ≠ "java/lang/invoke/VarHandle" ∧ (parseMethodDescriptor ym_X11_opens.desc).map (fun d => d.parameters.length) = some 1 := by decide +kernel
abbrev rm_X11_opens : Room := { frames := 5, cells := 0, slots := 0, locals := 128 }
theorem d_X11_opens_0 : decode cm_X11_opens 0 = .ok (.aload_n 0, 1) := by decide +kernel
theorem d_X11_opens_1 : decode cm_X11_opens 1 = .ok (.iload_n 1, 1) := by decide +kernel
theorem d_X11_opens_2 : decode cm_X11_opens 2 = .ok (.putfield 156, 3) := by decide +kernel
theorem d_X11_opens_5 : decode cm_X11_opens 5 = .ok (.iconst 0, 1) := by decide +kernel
theorem d_X11_opens_6 : decode cm_X11_opens 6 = .ok (.istore_n 2, 1) := by decide +kernel
theorem d_X11_opens_7 : decode cm_X11_opens 7 = .ok (.iload_n 2, 1) := by decide +kernel
theorem d_X11_opens_8 : decode cm_X11_opens 8 = .ok (.bipush 16, 2) := by decide +kernel
theorem d_X11_opens_10 : decode cm_X11_opens 10 = .ok (.if_icmp .ge 29, 3) := by decide +kernel
theorem d_X11_opens_13 : decode cm_X11_opens 13 = .ok (.aload_n 0, 1) := by decide +kernel
theorem d_X11_opens_14 : decode cm_X11_opens 14 = .ok (.getfield 68, 3) := by decide +kernel
theorem d_X11_opens_17 : decode cm_X11_opens 17 = .ok (.iload_n 2, 1) := by decide +kernel
theorem d_X11_opens_18 : decode cm_X11_opens 18 = .ok (.aload_n 0, 1) := by decide +kernel
theorem d_X11_opens_19 : decode cm_X11_opens 19 = .ok (.getfield 28, 3) := by decide +kernel
theorem d_X11_opens_22 : decode cm_X11_opens 22 = .ok (.bipush 16, 2) := by decide +kernel
theorem d_X11_opens_24 : decode cm_X11_opens 24 = .ok (.aload_n 0, 1) := by decide +kernel
theorem d_X11_opens_25 : decode cm_X11_opens 25 = .ok (.getfield 156, 3) := by decide +kernel
theorem d_X11_opens_28 : decode cm_X11_opens 28 = .ok (.imul, 1) := by decide +kernel
theorem d_X11_opens_29 : decode cm_X11_opens 29 = .ok (.iload_n 2, 1) := by decide +kernel
theorem d_X11_opens_30 : decode cm_X11_opens 30 = .ok (.iadd, 1) := by decide +kernel
theorem d_X11_opens_31 : decode cm_X11_opens 31 = .ok (.iaload, 1) := by decide +kernel
theorem d_X11_opens_32 : decode cm_X11_opens 32 = .ok (.iastore, 1) := by decide +kernel
theorem d_X11_opens_33 : decode cm_X11_opens 33 = .ok (.iinc 2 1, 3) := by decide +kernel
theorem d_X11_opens_36 : decode cm_X11_opens 36 = .ok (.goto (-29), 3) := by decide +kernel
theorem d_X11_opens_39 : decode cm_X11_opens 39 = .ok (.aload_n 0, 1) := by decide +kernel
theorem d_X11_opens_40 : decode cm_X11_opens 40 = .ok (.getfield 71, 3) := by decide +kernel
theorem d_X11_opens_43 : decode cm_X11_opens 43 = .ok (.iconst 0, 1) := by decide +kernel
theorem d_X11_opens_44 : decode cm_X11_opens 44 = .ok (.iconst 1, 1) := by decide +kernel
theorem d_X11_opens_45 : decode cm_X11_opens 45 = .ok (.iastore, 1) := by decide +kernel
theorem d_X11_opens_46 : decode cm_X11_opens 46 = .ok (.aload_n 0, 1) := by decide +kernel
theorem d_X11_opens_47 : decode cm_X11_opens 47 = .ok (.getfield 74, 3) := by decide +kernel
theorem d_X11_opens_50 : decode cm_X11_opens 50 = .ok (.iconst 0, 1) := by decide +kernel
theorem d_X11_opens_51 : decode cm_X11_opens 51 = .ok (.iconst 0, 1) := by decide +kernel
theorem d_X11_opens_52 : decode cm_X11_opens 52 = .ok (.iastore, 1) := by decide +kernel
theorem d_X11_opens_53 : decode cm_X11_opens 53 = .ok (.aload_n 0, 1) := by decide +kernel
theorem d_X11_opens_54 : decode cm_X11_opens 54 = .ok (.getfield 80, 3) := by decide +kernel
theorem d_X11_opens_57 : decode cm_X11_opens 57 = .ok (.iconst 0, 1) := by decide +kernel
theorem d_X11_opens_58 : decode cm_X11_opens 58 = .ok (.iconst 0, 1) := by decide +kernel
theorem d_X11_opens_59 : decode cm_X11_opens 59 = .ok (.iastore, 1) := by decide +kernel
theorem d_X11_opens_60 : decode cm_X11_opens 60 = .ok (.aload_n 0, 1) := by decide +kernel
theorem d_X11_opens_61 : decode cm_X11_opens 61 = .ok (.getfield 83, 3) := by decide +kernel
theorem d_X11_opens_64 : decode cm_X11_opens 64 = .ok (.iconst 0, 1) := by decide +kernel
theorem d_X11_opens_65 : decode cm_X11_opens 65 = .ok (.bipush (-9), 2) := by decide +kernel
theorem d_X11_opens_67 : decode cm_X11_opens 67 = .ok (.iastore, 1) := by decide +kernel
theorem d_X11_opens_68 : decode cm_X11_opens 68 = .ok (.aload_n 0, 1) := by decide +kernel
theorem d_X11_opens_69 : decode cm_X11_opens 69 = .ok (.iconst 0, 1) := by decide +kernel
theorem d_X11_opens_70 : decode cm_X11_opens 70 = .ok (.invokevirtual 234, 3) := by decide +kernel
theorem d_X11_opens_73 : decode cm_X11_opens 73 = .ok (.aload_n 0, 1) := by decide +kernel
theorem d_X11_opens_74 : decode cm_X11_opens 74 = .ok (.getfield 77, 3) := by decide +kernel
theorem d_X11_opens_77 : decode cm_X11_opens 77 = .ok (.iconst 0, 1) := by decide +kernel
theorem d_X11_opens_78 : decode cm_X11_opens 78 = .ok (.aload_n 0, 1) := by decide +kernel
theorem d_X11_opens_79 : decode cm_X11_opens 79 = .ok (.getfield 95, 3) := by decide +kernel
theorem d_X11_opens_82 : decode cm_X11_opens 82 = .ok (.iconst 0, 1) := by decide +kernel
theorem d_X11_opens_83 : decode cm_X11_opens 83 = .ok (.iaload, 1) := by decide +kernel
theorem d_X11_opens_84 : decode cm_X11_opens 84 = .ok (.ifCond .ne 7, 3) := by decide +kernel
theorem d_X11_opens_87 : decode cm_X11_opens 87 = .ok (.iconst 2, 1) := by decide +kernel
theorem d_X11_opens_88 : decode cm_X11_opens 88 = .ok (.goto 4, 3) := by decide +kernel
theorem d_X11_opens_91 : decode cm_X11_opens 91 = .ok (.iconst 0, 1) := by decide +kernel
theorem d_X11_opens_92 : decode cm_X11_opens 92 = .ok (.iastore, 1) := by decide +kernel
theorem d_X11_opens_93 : decode cm_X11_opens 93 = .ok (.return_, 1) := by decide +kernel
def D_X11_opens_92 (Q : GSt → Prop) (sr0 : Nat) (s1 : Int32) (s2 : Int32) (σ : GSt) : Prop :=
  vp_in s1 (ln sr0) ∧ (∀ σ_1 : GSt, σ_1 = up2 σ sr0 (Int32.toNatClampNeg s1) s2 → (Q σ_1))
def D_X11_opens_7 (K7 : Int32 → GSt → Prop) (Q : GSt → Prop) (x2 : Int32) (σ : GSt) : Prop :=
  (16 ≤ x2 → ∀ σ_1 : GSt, σ_1 = up2 σ 258 (Int32.toNatClampNeg 0) 1 → (∀ σ_2 : GSt, σ_2 = up2 σ_1 259 (Int32.toNatClampNeg 0) 0 → (∀ σ_3 : GSt, σ_3 = up2 σ_2 261 (Int32.toNatClampNeg 0) 0 → (∀ σ_4 : GSt, σ_4 = up2 σ_3 262 (Int32.toNatClampNeg 0) (-9) → (D_X11_findMoves 0 σ_4 (fun σ_5 => (¬ (σ_5 266 (Int32.toNatClampNeg 0)) = 0 → D_X11_opens_92 Q 260 0 0 σ_5) ∧
  ((σ_5 266 (Int32.toNatClampNeg 0)) = 0 → D_X11_opens_92 Q 260 0 2 σ_5))))))) ∧
  (¬ 16 ≤ x2 → vp_in ((16 * (σ 237 22)) + x2) 144 ∧ (vp_in x2 144 ∧ (∀ σ_6 : GSt, σ_6 = up2 σ 257 (Int32.toNatClampNeg x2) (σ 244 (Int32.toNatClampNeg ((16 * (σ 237 22)) + x2))) → (∀ x2_7 : Int32, x2_7 = x2 + 1 → (K7 x2_7 σ_6)))))
def L_X11_opens_7 (Q : GSt → Prop) : Nat → Int32 → GSt → Prop
  | 0 => fun _ _ => False
  | n + 1 => fun x2 σ => D_X11_opens_7 (L_X11_opens_7 Q n) Q x2 σ
def D_X11_opens_0 (Q : GSt → Prop) (x1 : Int32) (σ : GSt) : Prop :=
  ∀ σ_1 : GSt, σ_1 = up2 σ 237 22 x1 → (∃ n : Nat, L_X11_opens_7 Q n 0 σ_1)
def D_X11_opens (x1 : Int32) (σ : GSt) (Q : GSt → Prop) : Prop := D_X11_opens_0 Q x1 σ
set_option maxRecDepth 20000 in
set_option maxHeartbeats 4000000 in
theorem s_X11_opens_92 {p : Program} {l : Launch} {e : Env} {s : State} {m : MethodId} {args : Array Value} {below : List Frame} {meth : Method} {c : Code} {G : GC} (X : CallFix p m c cm_X11_opens 3 s args lw_us "GameLoomModel") (hr : meth.sig.returnType = none) (hlk : meth.locks = false) (Q : GSt → Prop) (sr0 : Nat) (hs0 : kd sr0 = 12) (s1 : Int32) (s2 : Int32) (σ : GSt) {H : Heap} {locs : List Loc} {ls : Array Slot} (hw : Wo G s H locs σ) (hl : lv_has ls 3 [(0, .ref (G.2.1 237))]) (hD : D_X11_opens_92 Q sr0 s1 s2 σ) : W p l e rm_X11_opens s m args below meth c H locs 0 0 (QMV G Q below args s) (F0 m 92 ls [.int s2, .int s1, .ref (G.2.1 sr0)]) := by
  unfold D_X11_opens_92 at hD
  obtain ⟨q_92, hD⟩ := hD
  refine g_iast X hw hs0 rfl q_92 d_X11_opens_92 (fun H locs hw => ?_)
  obtain ⟨σ_1, e_σ_1⟩ : ∃ z : GSt, z = up2 σ sr0 (Int32.toNatClampNeg s1) s2 := ⟨_, rfl⟩
  rw [← e_σ_1] at hw
  have hD := hD σ_1 e_σ_1
  exact g_vret X hr hlk hw hD d_X11_opens_93
set_option maxRecDepth 20000 in
set_option maxHeartbeats 4000000 in
theorem s_X11_opens_7 {p : Program} {l : Launch} {e : Env} {s : State} {m : MethodId} {args : Array Value} {below : List Frame} {meth : Method} {c : Code} {G : GC} (X : CallFix p m c cm_X11_opens 3 s args lw_us "GameLoomModel") (hr : meth.sig.returnType = none) (hlk : meth.locks = false) (K7 : Int32 → GSt → Prop) (Q : GSt → Prop) (hK7 : ∀ (x2 : Int32) (σ : GSt) (H : Heap) (locs : List Loc) (ls : Array Slot), Wo G s H locs σ → lv_has ls 3 [(0, .ref (G.2.1 237)), (2, .int x2)] → K7 x2 σ → W p l e rm_X11_opens s m args below meth c H locs 0 0 (QMV G Q below args s) (F0 m 7 ls [])) (x2 : Int32) (σ : GSt) {H : Heap} {locs : List Loc} {ls : Array Slot} (hw : Wo G s H locs σ) (hl : lv_has ls 3 [(0, .ref (G.2.1 237)), (2, .int x2)]) (hD : D_X11_opens_7 K7 Q x2 σ) : W p l e rm_X11_opens s m args below meth c H locs 0 0 (QMV G Q below args s) (F0 m 7 ls []) := by
  unfold D_X11_opens_7 at hD
  refine lv_iload_n X.1 X.2.1 d_X11_opens_7 rfl (lv_at hl 1 rfl) ?_
  refine lv_bipush (v := 16) X.1 X.2.1 d_X11_opens_8 (by decide) ?_
  refine lv_icmp_ge (tgt := 39) X.1 X.2.1 d_X11_opens_10 (by decide) (fun q_10 => ?_) (fun q_10 => ?_)
  · have hD := hD.1 q_10
    refine lv_aload_n X.1 X.2.1 d_X11_opens_39 rfl (lv_at hl 0 rfl) ?_
    refine gf_11_24 X hw (by decide +kernel : kd 237 = 11) tb_930 d_X11_opens_40 ?_
    refine lv_iconst (v := 0) X.1 X.2.1 d_X11_opens_43 (by decide) ?_
    refine lv_iconst (v := 1) X.1 X.2.1 d_X11_opens_44 (by decide) ?_
    have q_45 : vp_in 0 9 := by unfold vp_in; decide
    refine g_iast X hw ly_11_24.1 ly_11_24.2 q_45 d_X11_opens_45 (fun H locs hw => ?_)
    obtain ⟨σ_1, e_σ_1⟩ : ∃ z : GSt, z = up2 σ 258 (Int32.toNatClampNeg 0) 1 := ⟨_, rfl⟩
    rw [← e_σ_1] at hw
    have hD := hD σ_1 e_σ_1
    refine lv_aload_n X.1 X.2.1 d_X11_opens_46 rfl (lv_at hl 0 rfl) ?_
    refine gf_11_25 X hw (by decide +kernel : kd 237 = 11) tb_931 d_X11_opens_47 ?_
    refine lv_iconst (v := 0) X.1 X.2.1 d_X11_opens_50 (by decide) ?_
    refine lv_iconst (v := 0) X.1 X.2.1 d_X11_opens_51 (by decide) ?_
    have q_52 : vp_in 0 9 := by unfold vp_in; decide
    refine g_iast X hw ly_11_25.1 ly_11_25.2 q_52 d_X11_opens_52 (fun H locs hw => ?_)
    obtain ⟨σ_2, e_σ_2⟩ : ∃ z : GSt, z = up2 σ_1 259 (Int32.toNatClampNeg 0) 0 := ⟨_, rfl⟩
    rw [← e_σ_2] at hw
    have hD := hD σ_2 e_σ_2
    refine lv_aload_n X.1 X.2.1 d_X11_opens_53 rfl (lv_at hl 0 rfl) ?_
    refine gf_11_27 X hw (by decide +kernel : kd 237 = 11) tb_933 d_X11_opens_54 ?_
    refine lv_iconst (v := 0) X.1 X.2.1 d_X11_opens_57 (by decide) ?_
    refine lv_iconst (v := 0) X.1 X.2.1 d_X11_opens_58 (by decide) ?_
    have q_59 : vp_in 0 9 := by unfold vp_in; decide
    refine g_iast X hw ly_11_27.1 ly_11_27.2 q_59 d_X11_opens_59 (fun H locs hw => ?_)
    obtain ⟨σ_3, e_σ_3⟩ : ∃ z : GSt, z = up2 σ_2 261 (Int32.toNatClampNeg 0) 0 := ⟨_, rfl⟩
    rw [← e_σ_3] at hw
    have hD := hD σ_3 e_σ_3
    refine lv_aload_n X.1 X.2.1 d_X11_opens_60 rfl (lv_at hl 0 rfl) ?_
    refine gf_11_28 X hw (by decide +kernel : kd 237 = 11) tb_934 d_X11_opens_61 ?_
    refine lv_iconst (v := 0) X.1 X.2.1 d_X11_opens_64 (by decide) ?_
    refine lv_bipush (v := (-9)) X.1 X.2.1 d_X11_opens_65 (by decide) ?_
    have q_67 : vp_in 0 9 := by unfold vp_in; decide
    refine g_iast X hw ly_11_28.1 ly_11_28.2 q_67 d_X11_opens_67 (fun H locs hw => ?_)
    obtain ⟨σ_4, e_σ_4⟩ : ∃ z : GSt, z = up2 σ_3 262 (Int32.toNatClampNeg 0) (-9) := ⟨_, rfl⟩
    rw [← e_σ_4] at hw
    have hD := hD σ_4 e_σ_4
    refine lv_aload_n X.1 X.2.1 d_X11_opens_68 rfl (lv_at hl 0 rfl) ?_
    refine lv_iconst (v := 0) X.1 X.2.1 d_X11_opens_69 (by decide) ?_
    refine gcV_v (rest := []) (As := [.int 0]) (o := 237) X hw (c_X11_findMoves l G 0 σ_4 _  hD) (kd_lt (by decide +kernel : kd 237 = 11) (by decide)) (ce_11 G _ (by decide +kernel : kd 237 = 11)) rfl tb_1164 tb_1166 tv_50 tb_12 tb_1167 hd_X11_findMoves ⟨rfl, rfl⟩ ⟨Nat.le_of_ble_eq_true rfl, Nat.le_of_ble_eq_true rfl⟩ rfl hl.1 rfl (Nat.le_of_ble_eq_true rfl) d_X11_opens_70 (fun σ_5 H locs hD hw => ?_)
    refine lv_aload_n X.1 X.2.1 d_X11_opens_73 rfl (lv_at hl 0 rfl) ?_
    refine gf_11_26 X hw (by decide +kernel : kd 237 = 11) tb_932 d_X11_opens_74 ?_
    refine lv_iconst (v := 0) X.1 X.2.1 d_X11_opens_77 (by decide) ?_
    refine lv_aload_n X.1 X.2.1 d_X11_opens_78 rfl (lv_at hl 0 rfl) ?_
    refine gf_11_32 X hw (by decide +kernel : kd 237 = 11) tb_938 d_X11_opens_79 ?_
    refine lv_iconst (v := 0) X.1 X.2.1 d_X11_opens_82 (by decide) ?_
    have q_83 : vp_in 0 9 := by unfold vp_in; decide
    refine g_iald X hw ly_11_32.1 ly_11_32.2 q_83 d_X11_opens_83 ?_
    refine lv_if_ne (tgt := 91) X.1 X.2.1 d_X11_opens_84 (by decide) (fun q_84 => ?_) (fun q_84 => ?_)
    · have hD := hD.1 q_84
      refine lv_iconst (v := 0) X.1 X.2.1 d_X11_opens_91 (by decide) ?_
      exact s_X11_opens_92 X hr hlk  Q  260 ly_11_26.1 0 0 σ_5 hw (lv_sub hl [0] rfl) hD
    · have hD := hD.2 q_84
      refine lv_iconst (v := 2) X.1 X.2.1 d_X11_opens_87 (by decide) ?_
      refine lv_goto (tgt := 92) X.1 X.2.1 d_X11_opens_88 (by decide) ?_
      exact s_X11_opens_92 X hr hlk  Q  260 ly_11_26.1 0 2 σ_5 hw (lv_sub hl [0] rfl) hD
  · have hD := hD.2 q_10
    refine lv_aload_n X.1 X.2.1 d_X11_opens_13 rfl (lv_at hl 0 rfl) ?_
    refine gf_11_23 X hw (by decide +kernel : kd 237 = 11) tb_929 d_X11_opens_14 ?_
    refine lv_iload_n X.1 X.2.1 d_X11_opens_17 rfl (lv_at hl 1 rfl) ?_
    refine lv_aload_n X.1 X.2.1 d_X11_opens_18 rfl (lv_at hl 0 rfl) ?_
    refine gf_11_6 X hw (by decide +kernel : kd 237 = 11) tb_912 d_X11_opens_19 ?_
    refine lv_bipush (v := 16) X.1 X.2.1 d_X11_opens_22 (by decide) ?_
    refine lv_aload_n X.1 X.2.1 d_X11_opens_24 rfl (lv_at hl 0 rfl) ?_
    refine gf_11_22 X hw (by decide +kernel : kd 237 = 11) tb_928 d_X11_opens_25 ?_
    refine lv_imul X.1 X.2.1 d_X11_opens_28 ?_
    refine lv_iload_n X.1 X.2.1 d_X11_opens_29 rfl (lv_at hl 1 rfl) ?_
    refine lv_iadd X.1 X.2.1 d_X11_opens_30 ?_
    obtain ⟨q_31, hD⟩ := hD
    refine g_iald X hw ly_11_6.1 ly_11_6.2 q_31 d_X11_opens_31 ?_
    obtain ⟨q_32, hD⟩ := hD
    refine g_iast X hw ly_11_23.1 ly_11_23.2 q_32 d_X11_opens_32 (fun H locs hw => ?_)
    obtain ⟨σ_6, e_σ_6⟩ : ∃ z : GSt, z = up2 σ 257 (Int32.toNatClampNeg x2) (σ 244 (Int32.toNatClampNeg ((16 * (σ 237 22)) + x2))) := ⟨_, rfl⟩
    rw [← e_σ_6] at hw
    have hD := hD σ_6 e_σ_6
    obtain ⟨x2_7, e_x2_7⟩ : ∃ y : Int32, y = x2 + 1 := ⟨_, rfl⟩
    have hD := hD x2_7 e_x2_7
    refine lv_iinc (v := x2_7) (lv' := [(2, .int x2_7), (0, .ref (G.2.1 237))]) X.1 X.2.1 d_X11_opens_33 hl (k := 1) rfl (by rw [e_x2_7]; rfl) (by decide) rfl (fun ls hl => ?_)
    refine lv_goto (tgt := 7) X.1 X.2.1 d_X11_opens_36 (by decide) ?_
    exact hK7 x2_7 σ_6 _ _ _  hw (lv_sub hl [1, 0] rfl) hD
set_option maxRecDepth 20000 in
set_option maxHeartbeats 4000000 in
theorem sl_X11_opens_7 {p : Program} {l : Launch} {e : Env} {s : State} {m : MethodId} {args : Array Value} {below : List Frame} {meth : Method} {c : Code} {G : GC} (X : CallFix p m c cm_X11_opens 3 s args lw_us "GameLoomModel") (hr : meth.sig.returnType = none) (hlk : meth.locks = false) (Q : GSt → Prop) : ∀ (nn : Nat), ∀ (x2 : Int32) (σ : GSt) (H : Heap) (locs : List Loc) (ls : Array Slot), Wo G s H locs σ → lv_has ls 3 [(0, .ref (G.2.1 237)), (2, .int x2)] → L_X11_opens_7 Q nn x2 σ → W p l e rm_X11_opens s m args below meth c H locs 0 0 (QMV G Q below args s) (F0 m 7 ls []) := by
  intro nn
  induction nn with
  | zero => intro x2 σ H locs ls  hw hl hD; exact hD.elim
  | succ nn ih =>
    intro x2 σ H locs ls  hw hl hD
    exact s_X11_opens_7 X hr hlk (L_X11_opens_7 Q nn) Q ih x2 σ hw hl hD
set_option maxRecDepth 20000 in
set_option maxHeartbeats 4000000 in
theorem s_X11_opens_0 {p : Program} {l : Launch} {e : Env} {s : State} {m : MethodId} {args : Array Value} {below : List Frame} {meth : Method} {c : Code} {G : GC} (X : CallFix p m c cm_X11_opens 3 s args lw_us "GameLoomModel") (hr : meth.sig.returnType = none) (hlk : meth.locks = false) (Q : GSt → Prop) (x1 : Int32) (σ : GSt) {H : Heap} {locs : List Loc} {ls : Array Slot} (hw : Wo G s H locs σ) (hl : lv_has ls 3 [(0, .ref (G.2.1 237)), (1, .int x1)]) (hD : D_X11_opens_0 Q x1 σ) : W p l e rm_X11_opens s m args below meth c H locs 0 0 (QMV G Q below args s) (F0 m 0 ls []) := by
  unfold D_X11_opens_0 at hD
  refine lv_aload_n X.1 X.2.1 d_X11_opens_0 rfl (lv_at hl 0 rfl) ?_
  refine lv_iload_n X.1 X.2.1 d_X11_opens_1 rfl (lv_at hl 1 rfl) ?_
  refine pf_11_22 X hw (by decide +kernel : kd 237 = 11) tb_928 d_X11_opens_2 (fun H locs hw => ?_)
  obtain ⟨σ_1, e_σ_1⟩ : ∃ z : GSt, z = up2 σ 237 22 x1 := ⟨_, rfl⟩
  rw [← e_σ_1] at hw
  have hD := hD σ_1 e_σ_1
  refine lv_iconst (v := 0) X.1 X.2.1 d_X11_opens_5 (by decide) ?_
  refine lv_istore_n (lv' := [(2, .int 0), (0, .ref (G.2.1 237)), (1, .int x1)]) X.1 X.2.1 d_X11_opens_6 rfl hl (by decide) rfl (fun ls hl => ?_)
  obtain ⟨n9, hD⟩ := hD
  exact sl_X11_opens_7 X hr hlk  Q  n9 0 σ_1 _ _ _  hw (lv_sub hl [1, 0] rfl) hD
theorem c_X11_opens (l : Launch) (G : GC) (x1 : Int32) (σ : GSt) (Q : GSt → Prop)  (hD : D_X11_opens x1 σ Q) : MV l ym_X11_opens cm_X11_opens 3 rm_X11_opens G σ [.ref (G.2.1 237), .int x1] Q := by
  refine met_v (by decide) (Nat.le_of_ble_eq_true rfl) ?_
  intro p e s m args below meth c X hr hlk hw ls hl
  exact s_X11_opens_0 X hr hlk Q  x1 σ hw (lv_sub hl [0, 1] rfl) hD
