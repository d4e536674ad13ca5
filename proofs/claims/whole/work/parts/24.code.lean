theorem hd_X11_goesOn : ym_X11_goesOn.cls = "GameLoomModel" ∧ ym_X11_goesOn.cls ≠ "java/lang/invoke/MethodHandle" ∧ ym_X11_goesOn.cls ≠ "java/lang/invoke/VarHandle" ∧ (parseMethodDescriptor ym_X11_goesOn.desc).map (fun d => d.parameters.length) = some 1 := by decide +kernel
abbrev rm_X11_goesOn : Room := { frames := 6, cells := 0, slots := 0, locals := 159 }
theorem d_X11_goesOn_0 : decode cm_X11_goesOn 0 = .ok (.aload_n 0, 1) := by decide +kernel
theorem d_X11_goesOn_1 : decode cm_X11_goesOn 1 = .ok (.iconst 0, 1) := by decide +kernel
theorem d_X11_goesOn_2 : decode cm_X11_goesOn 2 = .ok (.iload_n 1, 1) := by decide +kernel
theorem d_X11_goesOn_3 : decode cm_X11_goesOn 3 = .ok (.invokevirtual 251, 3) := by decide +kernel
theorem d_X11_goesOn_6 : decode cm_X11_goesOn 6 = .ok (.iconst 0, 1) := by decide +kernel
theorem d_X11_goesOn_7 : decode cm_X11_goesOn 7 = .ok (.istore_n 2, 1) := by decide +kernel
theorem d_X11_goesOn_8 : decode cm_X11_goesOn 8 = .ok (.iload_n 2, 1) := by decide +kernel
theorem d_X11_goesOn_9 : decode cm_X11_goesOn 9 = .ok (.bipush 16, 2) := by decide +kernel
theorem d_X11_goesOn_11 : decode cm_X11_goesOn 11 = .ok (.if_icmp .ge 24, 3) := by decide +kernel
theorem d_X11_goesOn_14 : decode cm_X11_goesOn 14 = .ok (.aload_n 0, 1) := by decide +kernel
theorem d_X11_goesOn_15 : decode cm_X11_goesOn 15 = .ok (.getfield 68, 3) := by decide +kernel
theorem d_X11_goesOn_18 : decode cm_X11_goesOn 18 = .ok (.iload_n 2, 1) := by decide +kernel
theorem d_X11_goesOn_19 : decode cm_X11_goesOn 19 = .ok (.aload_n 0, 1) := by decide +kernel
theorem d_X11_goesOn_20 : decode cm_X11_goesOn 20 = .ok (.getfield 68, 3) := by decide +kernel
theorem d_X11_goesOn_23 : decode cm_X11_goesOn 23 = .ok (.bipush 16, 2) := by decide +kernel
theorem d_X11_goesOn_25 : decode cm_X11_goesOn 25 = .ok (.iload_n 2, 1) := by decide +kernel
theorem d_X11_goesOn_26 : decode cm_X11_goesOn 26 = .ok (.iadd, 1) := by decide +kernel
theorem d_X11_goesOn_27 : decode cm_X11_goesOn 27 = .ok (.iaload, 1) := by decide +kernel
theorem d_X11_goesOn_28 : decode cm_X11_goesOn 28 = .ok (.iastore, 1) := by decide +kernel
theorem d_X11_goesOn_29 : decode cm_X11_goesOn 29 = .ok (.iinc 2 1, 3) := by decide +kernel
theorem d_X11_goesOn_32 : decode cm_X11_goesOn 32 = .ok (.goto (-24), 3) := by decide +kernel
theorem d_X11_goesOn_35 : decode cm_X11_goesOn 35 = .ok (.aload_n 0, 1) := by decide +kernel
theorem d_X11_goesOn_36 : decode cm_X11_goesOn 36 = .ok (.getfield 71, 3) := by decide +kernel
theorem d_X11_goesOn_39 : decode cm_X11_goesOn 39 = .ok (.iconst 0, 1) := by decide +kernel
theorem d_X11_goesOn_40 : decode cm_X11_goesOn 40 = .ok (.aload_n 0, 1) := by decide +kernel
theorem d_X11_goesOn_41 : decode cm_X11_goesOn 41 = .ok (.getfield 71, 3) := by decide +kernel
theorem d_X11_goesOn_44 : decode cm_X11_goesOn 44 = .ok (.iconst 1, 1) := by decide +kernel
theorem d_X11_goesOn_45 : decode cm_X11_goesOn 45 = .ok (.iaload, 1) := by decide +kernel
theorem d_X11_goesOn_46 : decode cm_X11_goesOn 46 = .ok (.iastore, 1) := by decide +kernel
theorem d_X11_goesOn_47 : decode cm_X11_goesOn 47 = .ok (.aload_n 0, 1) := by decide +kernel
theorem d_X11_goesOn_48 : decode cm_X11_goesOn 48 = .ok (.getfield 74, 3) := by decide +kernel
theorem d_X11_goesOn_51 : decode cm_X11_goesOn 51 = .ok (.iconst 0, 1) := by decide +kernel
theorem d_X11_goesOn_52 : decode cm_X11_goesOn 52 = .ok (.aload_n 0, 1) := by decide +kernel
theorem d_X11_goesOn_53 : decode cm_X11_goesOn 53 = .ok (.getfield 74, 3) := by decide +kernel
theorem d_X11_goesOn_56 : decode cm_X11_goesOn 56 = .ok (.iconst 1, 1) := by decide +kernel
theorem d_X11_goesOn_57 : decode cm_X11_goesOn 57 = .ok (.iaload, 1) := by decide +kernel
theorem d_X11_goesOn_58 : decode cm_X11_goesOn 58 = .ok (.iastore, 1) := by decide +kernel
theorem d_X11_goesOn_59 : decode cm_X11_goesOn 59 = .ok (.aload_n 0, 1) := by decide +kernel
theorem d_X11_goesOn_60 : decode cm_X11_goesOn 60 = .ok (.getfield 77, 3) := by decide +kernel
theorem d_X11_goesOn_63 : decode cm_X11_goesOn 63 = .ok (.iconst 0, 1) := by decide +kernel
theorem d_X11_goesOn_64 : decode cm_X11_goesOn 64 = .ok (.aload_n 0, 1) := by decide +kernel
theorem d_X11_goesOn_65 : decode cm_X11_goesOn 65 = .ok (.getfield 77, 3) := by decide +kernel
theorem d_X11_goesOn_68 : decode cm_X11_goesOn 68 = .ok (.iconst 1, 1) := by decide +kernel
theorem d_X11_goesOn_69 : decode cm_X11_goesOn 69 = .ok (.iaload, 1) := by decide +kernel
theorem d_X11_goesOn_70 : decode cm_X11_goesOn 70 = .ok (.iastore, 1) := by decide +kernel
theorem d_X11_goesOn_71 : decode cm_X11_goesOn 71 = .ok (.aload_n 0, 1) := by decide +kernel
theorem d_X11_goesOn_72 : decode cm_X11_goesOn 72 = .ok (.getfield 80, 3) := by decide +kernel
theorem d_X11_goesOn_75 : decode cm_X11_goesOn 75 = .ok (.iconst 0, 1) := by decide +kernel
theorem d_X11_goesOn_76 : decode cm_X11_goesOn 76 = .ok (.aload_n 0, 1) := by decide +kernel
theorem d_X11_goesOn_77 : decode cm_X11_goesOn 77 = .ok (.getfield 80, 3) := by decide +kernel
theorem d_X11_goesOn_80 : decode cm_X11_goesOn 80 = .ok (.iconst 1, 1) := by decide +kernel
theorem d_X11_goesOn_81 : decode cm_X11_goesOn 81 = .ok (.iaload, 1) := by decide +kernel
theorem d_X11_goesOn_82 : decode cm_X11_goesOn 82 = .ok (.iastore, 1) := by decide +kernel
theorem d_X11_goesOn_83 : decode cm_X11_goesOn 83 = .ok (.aload_n 0, 1) := by decide +kernel
theorem d_X11_goesOn_84 : decode cm_X11_goesOn 84 = .ok (.getfield 83, 3) := by decide +kernel
theorem d_X11_goesOn_87 : decode cm_X11_goesOn 87 = .ok (.iconst 0, 1) := by decide +kernel
theorem d_X11_goesOn_88 : decode cm_X11_goesOn 88 = .ok (.aload_n 0, 1) := by decide +kernel
theorem d_X11_goesOn_89 : decode cm_X11_goesOn 89 = .ok (.getfield 83, 3) := by decide +kernel
theorem d_X11_goesOn_92 : decode cm_X11_goesOn 92 = .ok (.iconst 1, 1) := by decide +kernel
theorem d_X11_goesOn_93 : decode cm_X11_goesOn 93 = .ok (.iaload, 1) := by decide +kernel
theorem d_X11_goesOn_94 : decode cm_X11_goesOn 94 = .ok (.iastore, 1) := by decide +kernel
theorem d_X11_goesOn_95 : decode cm_X11_goesOn 95 = .ok (.aload_n 0, 1) := by decide +kernel
theorem d_X11_goesOn_96 : decode cm_X11_goesOn 96 = .ok (.getfield 95, 3) := by decide +kernel
theorem d_X11_goesOn_99 : decode cm_X11_goesOn 99 = .ok (.iconst 0, 1) := by decide +kernel
theorem d_X11_goesOn_100 : decode cm_X11_goesOn 100 = .ok (.aload_n 0, 1) := by decide +kernel
theorem d_X11_goesOn_101 : decode cm_X11_goesOn 101 = .ok (.getfield 95, 3) := by decide +kernel
theorem d_X11_goesOn_104 : decode cm_X11_goesOn 104 = .ok (.iconst 1, 1) := by decide +kernel
theorem d_X11_goesOn_105 : decode cm_X11_goesOn 105 = .ok (.iaload, 1) := by decide +kernel
theorem d_X11_goesOn_106 : decode cm_X11_goesOn 106 = .ok (.iastore, 1) := by decide +kernel
theorem d_X11_goesOn_107 : decode cm_X11_goesOn 107 = .ok (.iconst 0, 1) := by decide +kernel
theorem d_X11_goesOn_108 : decode cm_X11_goesOn 108 = .ok (.istore_n 2, 1) := by decide +kernel
theorem d_X11_goesOn_109 : decode cm_X11_goesOn 109 = .ok (.iload_n 2, 1) := by decide +kernel
theorem d_X11_goesOn_110 : decode cm_X11_goesOn 110 = .ok (.aload_n 0, 1) := by decide +kernel
theorem d_X11_goesOn_111 : decode cm_X11_goesOn 111 = .ok (.getfield 95, 3) := by decide +kernel
theorem d_X11_goesOn_114 : decode cm_X11_goesOn 114 = .ok (.iconst 1, 1) := by decide +kernel
theorem d_X11_goesOn_115 : decode cm_X11_goesOn 115 = .ok (.iaload, 1) := by decide +kernel
theorem d_X11_goesOn_116 : decode cm_X11_goesOn 116 = .ok (.if_icmp .ge 57, 3) := by decide +kernel
theorem d_X11_goesOn_119 : decode cm_X11_goesOn 119 = .ok (.aload_n 0, 1) := by decide +kernel
theorem d_X11_goesOn_120 : decode cm_X11_goesOn 120 = .ok (.getfield 86, 3) := by decide +kernel
theorem d_X11_goesOn_123 : decode cm_X11_goesOn 123 = .ok (.iload_n 2, 1) := by decide +kernel
theorem d_X11_goesOn_124 : decode cm_X11_goesOn 124 = .ok (.aload_n 0, 1) := by decide +kernel
theorem d_X11_goesOn_125 : decode cm_X11_goesOn 125 = .ok (.getfield 86, 3) := by decide +kernel
theorem d_X11_goesOn_128 : decode cm_X11_goesOn 128 = .ok (.sipush 800, 3) := by decide +kernel
theorem d_X11_goesOn_131 : decode cm_X11_goesOn 131 = .ok (.iload_n 2, 1) := by decide +kernel
theorem d_X11_goesOn_132 : decode cm_X11_goesOn 132 = .ok (.iadd, 1) := by decide +kernel
theorem d_X11_goesOn_133 : decode cm_X11_goesOn 133 = .ok (.iaload, 1) := by decide +kernel
theorem d_X11_goesOn_134 : decode cm_X11_goesOn 134 = .ok (.iastore, 1) := by decide +kernel
theorem d_X11_goesOn_135 : decode cm_X11_goesOn 135 = .ok (.aload_n 0, 1) := by decide +kernel
theorem d_X11_goesOn_136 : decode cm_X11_goesOn 136 = .ok (.getfield 89, 3) := by decide +kernel
theorem d_X11_goesOn_139 : decode cm_X11_goesOn 139 = .ok (.iload_n 2, 1) := by decide +kernel
theorem d_X11_goesOn_140 : decode cm_X11_goesOn 140 = .ok (.aload_n 0, 1) := by decide +kernel
theorem d_X11_goesOn_141 : decode cm_X11_goesOn 141 = .ok (.getfield 89, 3) := by decide +kernel
theorem d_X11_goesOn_144 : decode cm_X11_goesOn 144 = .ok (.sipush 800, 3) := by decide +kernel
theorem d_X11_goesOn_147 : decode cm_X11_goesOn 147 = .ok (.iload_n 2, 1) := by decide +kernel
theorem d_X11_goesOn_148 : decode cm_X11_goesOn 148 = .ok (.iadd, 1) := by decide +kernel
theorem d_X11_goesOn_149 : decode cm_X11_goesOn 149 = .ok (.iaload, 1) := by decide +kernel
theorem d_X11_goesOn_150 : decode cm_X11_goesOn 150 = .ok (.iastore, 1) := by decide +kernel
theorem d_X11_goesOn_151 : decode cm_X11_goesOn 151 = .ok (.aload_n 0, 1) := by decide +kernel
theorem d_X11_goesOn_152 : decode cm_X11_goesOn 152 = .ok (.getfield 92, 3) := by decide +kernel
theorem d_X11_goesOn_155 : decode cm_X11_goesOn 155 = .ok (.iload_n 2, 1) := by decide +kernel
theorem d_X11_goesOn_156 : decode cm_X11_goesOn 156 = .ok (.aload_n 0, 1) := by decide +kernel
theorem d_X11_goesOn_157 : decode cm_X11_goesOn 157 = .ok (.getfield 92, 3) := by decide +kernel
theorem d_X11_goesOn_160 : decode cm_X11_goesOn 160 = .ok (.sipush 800, 3) := by decide +kernel
theorem d_X11_goesOn_163 : decode cm_X11_goesOn 163 = .ok (.iload_n 2, 1) := by decide +kernel
theorem d_X11_goesOn_164 : decode cm_X11_goesOn 164 = .ok (.iadd, 1) := by decide +kernel
theorem d_X11_goesOn_165 : decode cm_X11_goesOn 165 = .ok (.iaload, 1) := by decide +kernel
theorem d_X11_goesOn_166 : decode cm_X11_goesOn 166 = .ok (.iastore, 1) := by decide +kernel
theorem d_X11_goesOn_167 : decode cm_X11_goesOn 167 = .ok (.iinc 2 1, 3) := by decide +kernel
theorem d_X11_goesOn_170 : decode cm_X11_goesOn 170 = .ok (.goto (-61), 3) := by decide +kernel
theorem d_X11_goesOn_173 : decode cm_X11_goesOn 173 = .ok (.return_, 1) := by decide +kernel
def D_X11_goesOn_109 (K109 : Int32 → GSt → Prop) (Q : GSt → Prop) (x2 : Int32) (σ : GSt) : Prop :=
  ((σ 266 (Int32.toNatClampNeg 1)) ≤ x2 → Q σ) ∧
  (¬ (σ 266 (Int32.toNatClampNeg 1)) ≤ x2 → vp_in (800 + x2) 7200 ∧ (vp_in x2 7200 ∧ (∀ σ_1 : GSt, σ_1 = up2 σ 263 (Int32.toNatClampNeg x2) (σ 263 (Int32.toNatClampNeg (800 + x2))) → (vp_in (800 + x2) 7200 ∧ (vp_in x2 7200 ∧ (∀ σ_2 : GSt, σ_2 = up2 σ_1 264 (Int32.toNatClampNeg x2) (σ_1 264 (Int32.toNatClampNeg (800 + x2))) → (vp_in (800 + x2) 7200 ∧ (vp_in x2 7200 ∧ (∀ σ_3 : GSt, σ_3 = up2 σ_2 265 (Int32.toNatClampNeg x2) (σ_2 265 (Int32.toNatClampNeg (800 + x2))) → (∀ x2_4 : Int32, x2_4 = x2 + 1 → (K109 x2_4 σ_3)))))))))))
def L_X11_goesOn_109 (Q : GSt → Prop) : Nat → Int32 → GSt → Prop
  | 0 => fun _ _ => False
  | n + 1 => fun x2 σ => D_X11_goesOn_109 (L_X11_goesOn_109 Q n) Q x2 σ
def D_X11_goesOn_8 (K8 : Int32 → GSt → Prop) (Q : GSt → Prop) (x2 : Int32) (σ : GSt) : Prop :=
  (16 ≤ x2 → ∀ σ_1 : GSt, σ_1 = up2 σ 258 (Int32.toNatClampNeg 0) (σ 258 (Int32.toNatClampNeg 1)) → (∀ σ_2 : GSt, σ_2 = up2 σ_1 259 (Int32.toNatClampNeg 0) (σ_1 259 (Int32.toNatClampNeg 1)) → (∀ σ_3 : GSt, σ_3 = up2 σ_2 260 (Int32.toNatClampNeg 0) (σ_2 260 (Int32.toNatClampNeg 1)) → (∀ σ_4 : GSt, σ_4 = up2 σ_3 261 (Int32.toNatClampNeg 0) (σ_3 261 (Int32.toNatClampNeg 1)) → (∀ σ_5 : GSt, σ_5 = up2 σ_4 262 (Int32.toNatClampNeg 0) (σ_4 262 (Int32.toNatClampNeg 1)) → (∀ σ_6 : GSt, σ_6 = up2 σ_5 266 (Int32.toNatClampNeg 0) (σ_5 266 (Int32.toNatClampNeg 1)) → (∃ n : Nat, L_X11_goesOn_109 Q n 0 σ_6))))))) ∧
  (¬ 16 ≤ x2 → vp_in (16 + x2) 144 ∧ (vp_in x2 144 ∧ (∀ σ_7 : GSt, σ_7 = up2 σ 257 (Int32.toNatClampNeg x2) (σ 257 (Int32.toNatClampNeg (16 + x2))) → (∀ x2_8 : Int32, x2_8 = x2 + 1 → (K8 x2_8 σ_7)))))
def L_X11_goesOn_8 (Q : GSt → Prop) : Nat → Int32 → GSt → Prop
  | 0 => fun _ _ => False
  | n + 1 => fun x2 σ => D_X11_goesOn_8 (L_X11_goesOn_8 Q n) Q x2 σ
def D_X11_goesOn_0 (Q : GSt → Prop) (x1 : Int32) (σ : GSt) : Prop :=
  D_X11_does 0 x1 σ (fun σ_1 => ∃ n : Nat, L_X11_goesOn_8 Q n 0 σ_1)
def D_X11_goesOn (x1 : Int32) (σ : GSt) (Q : GSt → Prop) : Prop := D_X11_goesOn_0 Q x1 σ
set_option maxRecDepth 20000 in
set_option maxHeartbeats 4000000 in
theorem s_X11_goesOn_109 {p : Program} {l : Launch} {e : Env} {s : State} {m : MethodId} {args : Array Value} {below : List Frame} {meth : Method} {c : Code} {G : GC} (X : CallFix p m c cm_X11_goesOn 3 s args lw_us "GameLoomModel") (hr : meth.sig.returnType = none) (hlk : meth.locks = false) (K109 : Int32 → GSt → Prop) (Q : GSt → Prop) (hK109 : ∀ (x2 : Int32) (σ : GSt) (H : Heap) (locs : List Loc) (ls : Array Slot), Wo G s H locs σ → lv_has ls 3 [(0, .ref (G.2.1 237)), (2, .int x2)] → K109 x2 σ → W p l e rm_X11_goesOn s m args below meth c H locs 0 0 (QMV G Q below args s) (F0 m 109 ls [])) (x2 : Int32) (σ : GSt) {H : Heap} {locs : List Loc} {ls : Array Slot} (hw : Wo G s H locs σ) (hl : lv_has ls 3 [(0, .ref (G.2.1 237)), (2, .int x2)]) (hD : D_X11_goesOn_109 K109 Q x2 σ) : W p l e rm_X11_goesOn s m args below meth c H locs 0 0 (QMV G Q below args s) (F0 m 109 ls []) := by
  unfold D_X11_goesOn_109 at hD
  refine lv_iload_n X.1 X.2.1 d_X11_goesOn_109 rfl (lv_at hl 1 rfl) ?_
  refine lv_aload_n X.1 X.2.1 d_X11_goesOn_110 rfl (lv_at hl 0 rfl) ?_
  refine gf_11_32 X hw (by decide +kernel : kd 237 = 11) tb_938 d_X11_goesOn_111 ?_
  refine lv_iconst (v := 1) X.1 X.2.1 d_X11_goesOn_114 (by decide) ?_
  have q_115 : vp_in 1 9 := by unfold vp_in; decide
  refine g_iald X hw ly_11_32.1 ly_11_32.2 q_115 d_X11_goesOn_115 ?_
  refine lv_icmp_ge (tgt := 173) X.1 X.2.1 d_X11_goesOn_116 (by decide) (fun q_116 => ?_) (fun q_116 => ?_)
  · have hD := hD.1 q_116
    exact g_vret X hr hlk hw hD d_X11_goesOn_173
  · have hD := hD.2 q_116
    refine lv_aload_n X.1 X.2.1 d_X11_goesOn_119 rfl (lv_at hl 0 rfl) ?_
    refine gf_11_29 X hw (by decide +kernel : kd 237 = 11) tb_935 d_X11_goesOn_120 ?_
    refine lv_iload_n X.1 X.2.1 d_X11_goesOn_123 rfl (lv_at hl 1 rfl) ?_
    refine lv_aload_n X.1 X.2.1 d_X11_goesOn_124 rfl (lv_at hl 0 rfl) ?_
    refine gf_11_29 X hw (by decide +kernel : kd 237 = 11) tb_935 d_X11_goesOn_125 ?_
    refine lv_sipush (v := 800) X.1 X.2.1 d_X11_goesOn_128 (by decide) ?_
    refine lv_iload_n X.1 X.2.1 d_X11_goesOn_131 rfl (lv_at hl 1 rfl) ?_
    refine lv_iadd X.1 X.2.1 d_X11_goesOn_132 ?_
    obtain ⟨q_133, hD⟩ := hD
    refine g_iald X hw ly_11_29.1 ly_11_29.2 q_133 d_X11_goesOn_133 ?_
    obtain ⟨q_134, hD⟩ := hD
    refine g_iast X hw ly_11_29.1 ly_11_29.2 q_134 d_X11_goesOn_134 (fun H locs hw => ?_)
    obtain ⟨σ_1, e_σ_1⟩ : ∃ z : GSt, z = up2 σ 263 (Int32.toNatClampNeg x2) (σ 263 (Int32.toNatClampNeg (800 + x2))) := ⟨_, rfl⟩
    rw [← e_σ_1] at hw
    have hD := hD σ_1 e_σ_1
    refine lv_aload_n X.1 X.2.1 d_X11_goesOn_135 rfl (lv_at hl 0 rfl) ?_
    refine gf_11_30 X hw (by decide +kernel : kd 237 = 11) tb_936 d_X11_goesOn_136 ?_
    refine lv_iload_n X.1 X.2.1 d_X11_goesOn_139 rfl (lv_at hl 1 rfl) ?_
    refine lv_aload_n X.1 X.2.1 d_X11_goesOn_140 rfl (lv_at hl 0 rfl) ?_
    refine gf_11_30 X hw (by decide +kernel : kd 237 = 11) tb_936 d_X11_goesOn_141 ?_
    refine lv_sipush (v := 800) X.1 X.2.1 d_X11_goesOn_144 (by decide) ?_
    refine lv_iload_n X.1 X.2.1 d_X11_goesOn_147 rfl (lv_at hl 1 rfl) ?_
    refine lv_iadd X.1 X.2.1 d_X11_goesOn_148 ?_
    obtain ⟨q_149, hD⟩ := hD
    refine g_iald X hw ly_11_30.1 ly_11_30.2 q_149 d_X11_goesOn_149 ?_
    obtain ⟨q_150, hD⟩ := hD
    refine g_iast X hw ly_11_30.1 ly_11_30.2 q_150 d_X11_goesOn_150 (fun H locs hw => ?_)
    obtain ⟨σ_2, e_σ_2⟩ : ∃ z : GSt, z = up2 σ_1 264 (Int32.toNatClampNeg x2) (σ_1 264 (Int32.toNatClampNeg (800 + x2))) := ⟨_, rfl⟩
    rw [← e_σ_2] at hw
    have hD := hD σ_2 e_σ_2
    refine lv_aload_n X.1 X.2.1 d_X11_goesOn_151 rfl (lv_at hl 0 rfl) ?_
    refine gf_11_31 X hw (by decide +kernel : kd 237 = 11) tb_937 d_X11_goesOn_152 ?_
    refine lv_iload_n X.1 X.2.1 d_X11_goesOn_155 rfl (lv_at hl 1 rfl) ?_
    refine lv_aload_n X.1 X.2.1 d_X11_goesOn_156 rfl (lv_at hl 0 rfl) ?_
    refine gf_11_31 X hw (by decide +kernel : kd 237 = 11) tb_937 d_X11_goesOn_157 ?_
    refine lv_sipush (v := 800) X.1 X.2.1 d_X11_goesOn_160 (by decide) ?_
    refine lv_iload_n X.1 X.2.1 d_X11_goesOn_163 rfl (lv_at hl 1 rfl) ?_
    refine lv_iadd X.1 X.2.1 d_X11_goesOn_164 ?_
    obtain ⟨q_165, hD⟩ := hD
    refine g_iald X hw ly_11_31.1 ly_11_31.2 q_165 d_X11_goesOn_165 ?_
    obtain ⟨q_166, hD⟩ := hD
    refine g_iast X hw ly_11_31.1 ly_11_31.2 q_166 d_X11_goesOn_166 (fun H locs hw => ?_)
    obtain ⟨σ_3, e_σ_3⟩ : ∃ z : GSt, z = up2 σ_2 265 (Int32.toNatClampNeg x2) (σ_2 265 (Int32.toNatClampNeg (800 + x2))) := ⟨_, rfl⟩
    rw [← e_σ_3] at hw
    have hD := hD σ_3 e_σ_3
    obtain ⟨x2_4, e_x2_4⟩ : ∃ y : Int32, y = x2 + 1 := ⟨_, rfl⟩
    have hD := hD x2_4 e_x2_4
    refine lv_iinc (v := x2_4) (lv' := [(2, .int x2_4), (0, .ref (G.2.1 237))]) X.1 X.2.1 d_X11_goesOn_167 hl (k := 1) rfl (by rw [e_x2_4]; rfl) (by decide) rfl (fun ls hl => ?_)
    refine lv_goto (tgt := 109) X.1 X.2.1 d_X11_goesOn_170 (by decide) ?_
    exact hK109 x2_4 σ_3 _ _ _  hw (lv_sub hl [1, 0] rfl) hD
set_option maxRecDepth 20000 in
set_option maxHeartbeats 4000000 in
theorem sl_X11_goesOn_109 {p : Program} {l : Launch} {e : Env} {s : State} {m : MethodId} {args : Array Value} {below : List Frame} {meth : Method} {c : Code} {G : GC} (X : CallFix p m c cm_X11_goesOn 3 s args lw_us "GameLoomModel") (hr : meth.sig.returnType = none) (hlk : meth.locks = false) (Q : GSt → Prop) : ∀ (nn : Nat), ∀ (x2 : Int32) (σ : GSt) (H : Heap) (locs : List Loc) (ls : Array Slot), Wo G s H locs σ → lv_has ls 3 [(0, .ref (G.2.1 237)), (2, .int x2)] → L_X11_goesOn_109 Q nn x2 σ → W p l e rm_X11_goesOn s m args below meth c H locs 0 0 (QMV G Q below args s) (F0 m 109 ls []) := by
  intro nn
  induction nn with
  | zero => intro x2 σ H locs ls  hw hl hD; exact hD.elim
  | succ nn ih =>
    intro x2 σ H locs ls  hw hl hD
    exact s_X11_goesOn_109 X hr hlk (L_X11_goesOn_109 Q nn) Q ih x2 σ hw hl hD
set_option maxRecDepth 20000 in
set_option maxHeartbeats 4000000 in
theorem s_X11_goesOn_8 {p : Program} {l : Launch} {e : Env} {s : State} {m : MethodId} {args : Array Value} {below : List Frame} {meth : Method} {c : Code} {G : GC} (X : CallFix p m c cm_X11_goesOn 3 s args lw_us "GameLoomModel") (hr : meth.sig.returnType = none) (hlk : meth.locks = false) (K8 : Int32 → GSt → Prop) (Q : GSt → Prop) (hK8 : ∀ (x2 : Int32) (σ : GSt) (H : Heap) (locs : List Loc) (ls : Array Slot), Wo G s H locs σ → lv_has ls 3 [(0, .ref (G.2.1 237)), (2, .int x2)] → K8 x2 σ → W p l e rm_X11_goesOn s m args below meth c H locs 0 0 (QMV G Q below args s) (F0 m 8 ls [])) (x2 : Int32) (σ : GSt) {H : Heap} {locs : List Loc} {ls : Array Slot} (hw : Wo G s H locs σ) (hl : lv_has ls 3 [(0, .ref (G.2.1 237)), (2, .int x2)]) (hD : D_X11_goesOn_8 K8 Q x2 σ) : W p l e rm_X11_goesOn s m args below meth c H locs 0 0 (QMV G Q below args s) (F0 m 8 ls []) := by
  unfold D_X11_goesOn_8 at hD
  refine lv_iload_n X.1 X.2.1 d_X11_goesOn_8 rfl (lv_at hl 1 rfl) ?_
  refine lv_bipush (v := 16) X.1 X.2.1 d_X11_goesOn_9 (by decide) ?_
  refine lv_icmp_ge (tgt := 35) X.1 X.2.1 d_X11_goesOn_11 (by decide) (fun q_11 => ?_) (fun q_11 => ?_)
  · have hD := hD.1 q_11
    refine lv_aload_n X.1 X.2.1 d_X11_goesOn_35 rfl (lv_at hl 0 rfl) ?_
    refine gf_11_24 X hw (by decide +kernel : kd 237 = 11) tb_930 d_X11_goesOn_36 ?_
    refine lv_iconst (v := 0) X.1 X.2.1 d_X11_goesOn_39 (by decide) ?_
    refine lv_aload_n X.1 X.2.1 d_X11_goesOn_40 rfl (lv_at hl 0 rfl) ?_
    refine gf_11_24 X hw (by decide +kernel : kd 237 = 11) tb_930 d_X11_goesOn_41 ?_
    refine lv_iconst (v := 1) X.1 X.2.1 d_X11_goesOn_44 (by decide) ?_
    have q_45 : vp_in 1 9 := by unfold vp_in; decide
    refine g_iald X hw ly_11_24.1 ly_11_24.2 q_45 d_X11_goesOn_45 ?_
    have q_46 : vp_in 0 9 := by unfold vp_in; decide
    refine g_iast X hw ly_11_24.1 ly_11_24.2 q_46 d_X11_goesOn_46 (fun H locs hw => ?_)
    obtain ⟨σ_1, e_σ_1⟩ : ∃ z : GSt, z = up2 σ 258 (Int32.toNatClampNeg 0) (σ 258 (Int32.toNatClampNeg 1)) := ⟨_, rfl⟩
    rw [← e_σ_1] at hw
    have hD := hD σ_1 e_σ_1
    refine lv_aload_n X.1 X.2.1 d_X11_goesOn_47 rfl (lv_at hl 0 rfl) ?_
    refine gf_11_25 X hw (by decide +kernel : kd 237 = 11) tb_931 d_X11_goesOn_48 ?_
    refine lv_iconst (v := 0) X.1 X.2.1 d_X11_goesOn_51 (by decide) ?_
    refine lv_aload_n X.1 X.2.1 d_X11_goesOn_52 rfl (lv_at hl 0 rfl) ?_
    refine gf_11_25 X hw (by decide +kernel : kd 237 = 11) tb_931 d_X11_goesOn_53 ?_
    refine lv_iconst (v := 1) X.1 X.2.1 d_X11_goesOn_56 (by decide) ?_
    have q_57 : vp_in 1 9 := by unfold vp_in; decide
    refine g_iald X hw ly_11_25.1 ly_11_25.2 q_57 d_X11_goesOn_57 ?_
    have q_58 : vp_in 0 9 := by unfold vp_in; decide
    refine g_iast X hw ly_11_25.1 ly_11_25.2 q_58 d_X11_goesOn_58 (fun H locs hw => ?_)
    obtain ⟨σ_2, e_σ_2⟩ : ∃ z : GSt, z = up2 σ_1 259 (Int32.toNatClampNeg 0) (σ_1 259 (Int32.toNatClampNeg 1)) := ⟨_, rfl⟩
    rw [← e_σ_2] at hw
    have hD := hD σ_2 e_σ_2
    refine lv_aload_n X.1 X.2.1 d_X11_goesOn_59 rfl (lv_at hl 0 rfl) ?_
    refine gf_11_26 X hw (by decide +kernel : kd 237 = 11) tb_932 d_X11_goesOn_60 ?_
    refine lv_iconst (v := 0) X.1 X.2.1 d_X11_goesOn_63 (by decide) ?_
    refine lv_aload_n X.1 X.2.1 d_X11_goesOn_64 rfl (lv_at hl 0 rfl) ?_
    refine gf_11_26 X hw (by decide +kernel : kd 237 = 11) tb_932 d_X11_goesOn_65 ?_
    refine lv_iconst (v := 1) X.1 X.2.1 d_X11_goesOn_68 (by decide) ?_
    have q_69 : vp_in 1 9 := by unfold vp_in; decide
    refine g_iald X hw ly_11_26.1 ly_11_26.2 q_69 d_X11_goesOn_69 ?_
    have q_70 : vp_in 0 9 := by unfold vp_in; decide
    refine g_iast X hw ly_11_26.1 ly_11_26.2 q_70 d_X11_goesOn_70 (fun H locs hw => ?_)
    obtain ⟨σ_3, e_σ_3⟩ : ∃ z : GSt, z = up2 σ_2 260 (Int32.toNatClampNeg 0) (σ_2 260 (Int32.toNatClampNeg 1)) := ⟨_, rfl⟩
    rw [← e_σ_3] at hw
    have hD := hD σ_3 e_σ_3
    refine lv_aload_n X.1 X.2.1 d_X11_goesOn_71 rfl (lv_at hl 0 rfl) ?_
    refine gf_11_27 X hw (by decide +kernel : kd 237 = 11) tb_933 d_X11_goesOn_72 ?_
    refine lv_iconst (v := 0) X.1 X.2.1 d_X11_goesOn_75 (by decide) ?_
    refine lv_aload_n X.1 X.2.1 d_X11_goesOn_76 rfl (lv_at hl 0 rfl) ?_
    refine gf_11_27 X hw (by decide +kernel : kd 237 = 11) tb_933 d_X11_goesOn_77 ?_
    refine lv_iconst (v := 1) X.1 X.2.1 d_X11_goesOn_80 (by decide) ?_
    have q_81 : vp_in 1 9 := by unfold vp_in; decide
    refine g_iald X hw ly_11_27.1 ly_11_27.2 q_81 d_X11_goesOn_81 ?_
    have q_82 : vp_in 0 9 := by unfold vp_in; decide
    refine g_iast X hw ly_11_27.1 ly_11_27.2 q_82 d_X11_goesOn_82 (fun H locs hw => ?_)
    obtain ⟨σ_4, e_σ_4⟩ : ∃ z : GSt, z = up2 σ_3 261 (Int32.toNatClampNeg 0) (σ_3 261 (Int32.toNatClampNeg 1)) := ⟨_, rfl⟩
    rw [← e_σ_4] at hw
    have hD := hD σ_4 e_σ_4
    refine lv_aload_n X.1 X.2.1 d_X11_goesOn_83 rfl (lv_at hl 0 rfl) ?_
    refine gf_11_28 X hw (by decide +kernel : kd 237 = 11) tb_934 d_X11_goesOn_84 ?_
    refine lv_iconst (v := 0) X.1 X.2.1 d_X11_goesOn_87 (by decide) ?_
    refine lv_aload_n X.1 X.2.1 d_X11_goesOn_88 rfl (lv_at hl 0 rfl) ?_
    refine gf_11_28 X hw (by decide +kernel : kd 237 = 11) tb_934 d_X11_goesOn_89 ?_
    refine lv_iconst (v := 1) X.1 X.2.1 d_X11_goesOn_92 (by decide) ?_
    have q_93 : vp_in 1 9 := by unfold vp_in; decide
    refine g_iald X hw ly_11_28.1 ly_11_28.2 q_93 d_X11_goesOn_93 ?_
    have q_94 : vp_in 0 9 := by unfold vp_in; decide
    refine g_iast X hw ly_11_28.1 ly_11_28.2 q_94 d_X11_goesOn_94 (fun H locs hw => ?_)
    obtain ⟨σ_5, e_σ_5⟩ : ∃ z : GSt, z = up2 σ_4 262 (Int32.toNatClampNeg 0) (σ_4 262 (Int32.toNatClampNeg 1)) := ⟨_, rfl⟩
    rw [← e_σ_5] at hw
    have hD := hD σ_5 e_σ_5
    refine lv_aload_n X.1 X.2.1 d_X11_goesOn_95 rfl (lv_at hl 0 rfl) ?_
    refine gf_11_32 X hw (by decide +kernel : kd 237 = 11) tb_938 d_X11_goesOn_96 ?_
    refine lv_iconst (v := 0) X.1 X.2.1 d_X11_goesOn_99 (by decide) ?_
    refine lv_aload_n X.1 X.2.1 d_X11_goesOn_100 rfl (lv_at hl 0 rfl) ?_
    refine gf_11_32 X hw (by decide +kernel : kd 237 = 11) tb_938 d_X11_goesOn_101 ?_
    refine lv_iconst (v := 1) X.1 X.2.1 d_X11_goesOn_104 (by decide) ?_
    have q_105 : vp_in 1 9 := by unfold vp_in; decide
    refine g_iald X hw ly_11_32.1 ly_11_32.2 q_105 d_X11_goesOn_105 ?_
    have q_106 : vp_in 0 9 := by unfold vp_in; decide
    refine g_iast X hw ly_11_32.1 ly_11_32.2 q_106 d_X11_goesOn_106 (fun H locs hw => ?_)
    obtain ⟨σ_6, e_σ_6⟩ : ∃ z : GSt, z = up2 σ_5 266 (Int32.toNatClampNeg 0) (σ_5 266 (Int32.toNatClampNeg 1)) := ⟨_, rfl⟩
    rw [← e_σ_6] at hw
    have hD := hD σ_6 e_σ_6
    refine lv_iconst (v := 0) X.1 X.2.1 d_X11_goesOn_107 (by decide) ?_
    refine lv_istore_n (lv' := [(2, .int 0), (0, .ref (G.2.1 237))]) X.1 X.2.1 d_X11_goesOn_108 rfl hl (by decide) rfl (fun ls hl => ?_)
    obtain ⟨n9, hD⟩ := hD
    exact sl_X11_goesOn_109 X hr hlk  Q  n9 0 σ_6 _ _ _  hw (lv_sub hl [1, 0] rfl) hD
  · have hD := hD.2 q_11
    refine lv_aload_n X.1 X.2.1 d_X11_goesOn_14 rfl (lv_at hl 0 rfl) ?_
    refine gf_11_23 X hw (by decide +kernel : kd 237 = 11) tb_929 d_X11_goesOn_15 ?_
    refine lv_iload_n X.1 X.2.1 d_X11_goesOn_18 rfl (lv_at hl 1 rfl) ?_
    refine lv_aload_n X.1 X.2.1 d_X11_goesOn_19 rfl (lv_at hl 0 rfl) ?_
    refine gf_11_23 X hw (by decide +kernel : kd 237 = 11) tb_929 d_X11_goesOn_20 ?_
    refine lv_bipush (v := 16) X.1 X.2.1 d_X11_goesOn_23 (by decide) ?_
    refine lv_iload_n X.1 X.2.1 d_X11_goesOn_25 rfl (lv_at hl 1 rfl) ?_
    refine lv_iadd X.1 X.2.1 d_X11_goesOn_26 ?_
    obtain ⟨q_27, hD⟩ := hD
    refine g_iald X hw ly_11_23.1 ly_11_23.2 q_27 d_X11_goesOn_27 ?_
    obtain ⟨q_28, hD⟩ := hD
    refine g_iast X hw ly_11_23.1 ly_11_23.2 q_28 d_X11_goesOn_28 (fun H locs hw => ?_)
    obtain ⟨σ_7, e_σ_7⟩ : ∃ z : GSt, z = up2 σ 257 (Int32.toNatClampNeg x2) (σ 257 (Int32.toNatClampNeg (16 + x2))) := ⟨_, rfl⟩
    rw [← e_σ_7] at hw
    have hD := hD σ_7 e_σ_7
    obtain ⟨x2_8, e_x2_8⟩ : ∃ y : Int32, y = x2 + 1 := ⟨_, rfl⟩
    have hD := hD x2_8 e_x2_8
    refine lv_iinc (v := x2_8) (lv' := [(2, .int x2_8), (0, .ref (G.2.1 237))]) X.1 X.2.1 d_X11_goesOn_29 hl (k := 1) rfl (by rw [e_x2_8]; rfl) (by decide) rfl (fun ls hl => ?_)
    refine lv_goto (tgt := 8) X.1 X.2.1 d_X11_goesOn_32 (by decide) ?_
    exact hK8 x2_8 σ_7 _ _ _  hw (lv_sub hl [1, 0] rfl) hD
set_option maxRecDepth 20000 in
set_option maxHeartbeats 4000000 in
theorem sl_X11_goesOn_8 {p : Program} {l : Launch} {e : Env} {s : State} {m : MethodId} {args : Array Value} {below : List Frame} {meth : Method} {c : Code} {G : GC} (X : CallFix p m c cm_X11_goesOn 3 s args lw_us "GameLoomModel") (hr : meth.sig.returnType = none) (hlk : meth.locks = false) (Q : GSt → Prop) : ∀ (nn : Nat), ∀ (x2 : Int32) (σ : GSt) (H : Heap) (locs : List Loc) (ls : Array Slot), Wo G s H locs σ → lv_has ls 3 [(0, .ref (G.2.1 237)), (2, .int x2)] → L_X11_goesOn_8 Q nn x2 σ → W p l e rm_X11_goesOn s m args below meth c H locs 0 0 (QMV G Q below args s) (F0 m 8 ls []) := by
  intro nn
  induction nn with
  | zero => intro x2 σ H locs ls  hw hl hD; exact hD.elim
  | succ nn ih =>
    intro x2 σ H locs ls  hw hl hD
    exact s_X11_goesOn_8 X hr hlk (L_X11_goesOn_8 Q nn) Q ih x2 σ hw hl hD
set_option maxRecDepth 20000 in
set_option maxHeartbeats 4000000 in
theorem s_X11_goesOn_0 {p : Program} {l : Launch} {e : Env} {s : State} {m : MethodId} {args : Array Value} {below : List Frame} {meth : Method} {c : Code} {G : GC} (X : CallFix p m c cm_X11_goesOn 3 s args lw_us "GameLoomModel") (hr : meth.sig.returnType = none) (hlk : meth.locks = false) (Q : GSt → Prop) (x1 : Int32) (σ : GSt) {H : Heap} {locs : List Loc} {ls : Array Slot} (hw : Wo G s H locs σ) (hl : lv_has ls 3 [(0, .ref (G.2.1 237)), (1, .int x1)]) (hD : D_X11_goesOn_0 Q x1 σ) : W p l e rm_X11_goesOn s m args below meth c H locs 0 0 (QMV G Q below args s) (F0 m 0 ls []) := by
  unfold D_X11_goesOn_0 at hD
  refine lv_aload_n X.1 X.2.1 d_X11_goesOn_0 rfl (lv_at hl 0 rfl) ?_
  refine lv_iconst (v := 0) X.1 X.2.1 d_X11_goesOn_1 (by decide) ?_
  refine lv_iload_n X.1 X.2.1 d_X11_goesOn_2 rfl (lv_at hl 1 rfl) ?_
  refine gcV_v (rest := []) (As := [.int 0, .int x1]) (o := 237) X hw (c_X11_does l G 0 x1 σ _  hD) (kd_lt (by decide +kernel : kd 237 = 11) (by decide)) (ce_11 G _ (by decide +kernel : kd 237 = 11)) rfl tb_1208 tb_1210 tv_60 tb_12 tb_1211 hd_X11_does ⟨rfl, rfl⟩ ⟨Nat.le_of_ble_eq_true rfl, Nat.le_of_ble_eq_true rfl⟩ rfl hl.1 rfl (Nat.le_of_ble_eq_true rfl) d_X11_goesOn_3 (fun σ_1 H locs hD hw => ?_)
  refine lv_iconst (v := 0) X.1 X.2.1 d_X11_goesOn_6 (by decide) ?_
  refine lv_istore_n (lv' := [(2, .int 0), (0, .ref (G.2.1 237)), (1, .int x1)]) X.1 X.2.1 d_X11_goesOn_7 rfl hl (by decide) rfl (fun ls hl => ?_)
  obtain ⟨n9, hD⟩ := hD
  exact sl_X11_goesOn_8 X hr hlk  Q  n9 0 σ_1 _ _ _  hw (lv_sub hl [1, 0] rfl) hD
theorem c_X11_goesOn (l : Launch) (G : GC) (x1 : Int32) (σ : GSt) (Q : GSt → Prop)  (hD : D_X11_goesOn x1 σ Q) : MV l ym_X11_goesOn cm_X11_goesOn 3 rm_X11_goesOn G σ [.ref (G.2.1 237), .int x1] Q := by
  refine met_v (by decide) (Nat.le_of_ble_eq_true rfl) ?_
  intro p e s m args below meth c X hr hlk hw ls hl
  exact s_X11_goesOn_0 X hr hlk Q  x1 σ hw (lv_sub hl [0, 1] rfl) hD
theorem hd_X11_asEnded : ym_X11_asEnded.cls = "GameLoomModel" ∧ ym_X11_asEnded.cls ≠ "java/lang/invoke/MethodHandle" ∧ ym_X11_asEnded.cls ≠ "java/lang/invoke/VarHandle" ∧ (parseMethodDescriptor ym_X11_asEnded.desc).map (fun d => d.parameters.length) = some 1 := by decide +kernel
abbrev rm_X11_asEnded : Room := { frames := 0, cells := 0, slots := 0, locals := 0 }
theorem d_X11_asEnded_0 : decode cm_X11_asEnded 0 = .ok (.aload_n 0, 1) := by decide +kernel
theorem d_X11_asEnded_1 : decode cm_X11_asEnded 1 = .ok (.getfield 80, 3) := by decide +kernel
theorem d_X11_asEnded_4 : decode cm_X11_asEnded 4 = .ok (.iload_n 1, 1) := by decide +kernel
theorem d_X11_asEnded_5 : decode cm_X11_asEnded 5 = .ok (.iaload, 1) := by decide +kernel
theorem d_X11_asEnded_6 : decode cm_X11_asEnded 6 = .ok (.ifCond .ne 7, 3) := by decide +kernel
theorem d_X11_asEnded_9 : decode cm_X11_asEnded 9 = .ok (.iconst 1, 1) := by decide +kernel
theorem d_X11_asEnded_10 : decode cm_X11_asEnded 10 = .ok (.goto 23, 3) := by decide +kernel
theorem d_X11_asEnded_13 : decode cm_X11_asEnded 13 = .ok (.aload_n 0, 1) := by decide +kernel
theorem d_X11_asEnded_14 : decode cm_X11_asEnded 14 = .ok (.getfield 80, 3) := by decide +kernel
theorem d_X11_asEnded_17 : decode cm_X11_asEnded 17 = .ok (.iload_n 1, 1) := by decide +kernel
theorem d_X11_asEnded_18 : decode cm_X11_asEnded 18 = .ok (.iaload, 1) := by decide +kernel
theorem d_X11_asEnded_19 : decode cm_X11_asEnded 19 = .ok (.aload_n 0, 1) := by decide +kernel
theorem d_X11_asEnded_20 : decode cm_X11_asEnded 20 = .ok (.getfield 71, 3) := by decide +kernel
theorem d_X11_asEnded_23 : decode cm_X11_asEnded 23 = .ok (.iload_n 1, 1) := by decide +kernel
theorem d_X11_asEnded_24 : decode cm_X11_asEnded 24 = .ok (.iaload, 1) := by decide +kernel
theorem d_X11_asEnded_25 : decode cm_X11_asEnded 25 = .ok (.if_icmp .ne 7, 3) := by decide +kernel
theorem d_X11_asEnded_28 : decode cm_X11_asEnded 28 = .ok (.iconst 2, 1) := by decide +kernel
theorem d_X11_asEnded_29 : decode cm_X11_asEnded 29 = .ok (.goto 4, 3) := by decide +kernel
theorem d_X11_asEnded_32 : decode cm_X11_asEnded 32 = .ok (.iconst 0, 1) := by decide +kernel
theorem d_X11_asEnded_33 : decode cm_X11_asEnded 33 = .ok (.ireturn, 1) := by decide +kernel
def D_X11_asEnded_0 (Q : Int32 → GSt → Prop) (x1 : Int32) (σ : GSt) : Prop :=
  vp_in x1 9 ∧ ((¬ (σ 261 (Int32.toNatClampNeg x1)) = 0 → vp_in x1 9 ∧ (vp_in x1 9 ∧ ((¬ (σ 261 (Int32.toNatClampNeg x1)) = (σ 258 (Int32.toNatClampNeg x1)) → Q 0 σ) ∧
  ((σ 261 (Int32.toNatClampNeg x1)) = (σ 258 (Int32.toNatClampNeg x1)) → Q 2 σ)))) ∧
  ((σ 261 (Int32.toNatClampNeg x1)) = 0 → Q 1 σ))
def D_X11_asEnded (x1 : Int32) (σ : GSt) (Q : Int32 → GSt → Prop) : Prop := D_X11_asEnded_0 Q x1 σ
set_option maxRecDepth 20000 in
set_option maxHeartbeats 4000000 in
theorem s_X11_asEnded_0 {p : Program} {l : Launch} {e : Env} {s : State} {m : MethodId} {args : Array Value} {below : List Frame} {meth : Method} {c : Code} {G : GC} (X : CallFix p m c cm_X11_asEnded 2 s args lw_us "GameLoomModel") (hr : meth.sig.returnType = some .int) (hlk : meth.locks = false) (Q : Int32 → GSt → Prop) (x1 : Int32) (σ : GSt) {H : Heap} {locs : List Loc} {ls : Array Slot} (hw : Wo G s H locs σ) (hl : lv_has ls 2 [(0, .ref (G.2.1 237)), (1, .int x1)]) (hD : D_X11_asEnded_0 Q x1 σ) : W p l e rm_X11_asEnded s m args below meth c H locs 0 0 (QMI G Q below args s) (F0 m 0 ls []) := by
  unfold D_X11_asEnded_0 at hD
  refine lv_aload_n X.1 X.2.1 d_X11_asEnded_0 rfl (lv_at hl 0 rfl) ?_
  refine gf_11_27 X hw (by decide +kernel : kd 237 = 11) tb_933 d_X11_asEnded_1 ?_
  refine lv_iload_n X.1 X.2.1 d_X11_asEnded_4 rfl (lv_at hl 1 rfl) ?_
  obtain ⟨q_5, hD⟩ := hD
  refine g_iald X hw ly_11_27.1 ly_11_27.2 q_5 d_X11_asEnded_5 ?_
  refine lv_if_ne (tgt := 13) X.1 X.2.1 d_X11_asEnded_6 (by decide) (fun q_6 => ?_) (fun q_6 => ?_)
  · have hD := hD.1 q_6
    refine lv_aload_n X.1 X.2.1 d_X11_asEnded_13 rfl (lv_at hl 0 rfl) ?_
    refine gf_11_27 X hw (by decide +kernel : kd 237 = 11) tb_933 d_X11_asEnded_14 ?_
    refine lv_iload_n X.1 X.2.1 d_X11_asEnded_17 rfl (lv_at hl 1 rfl) ?_
    obtain ⟨q_18, hD⟩ := hD
    refine g_iald X hw ly_11_27.1 ly_11_27.2 q_18 d_X11_asEnded_18 ?_
    refine lv_aload_n X.1 X.2.1 d_X11_asEnded_19 rfl (lv_at hl 0 rfl) ?_
    refine gf_11_24 X hw (by decide +kernel : kd 237 = 11) tb_930 d_X11_asEnded_20 ?_
    refine lv_iload_n X.1 X.2.1 d_X11_asEnded_23 rfl (lv_at hl 1 rfl) ?_
    obtain ⟨q_24, hD⟩ := hD
    refine g_iald X hw ly_11_24.1 ly_11_24.2 q_24 d_X11_asEnded_24 ?_
    refine lv_icmp_ne (tgt := 32) X.1 X.2.1 d_X11_asEnded_25 (by decide) (fun q_25 => ?_) (fun q_25 => ?_)
    · have hD := hD.1 q_25
      refine lv_iconst (v := 0) X.1 X.2.1 d_X11_asEnded_32 (by decide) ?_
      exact g_iret X hr hlk hw hD d_X11_asEnded_33
    · have hD := hD.2 q_25
      refine lv_iconst (v := 2) X.1 X.2.1 d_X11_asEnded_28 (by decide) ?_
      refine lv_goto (tgt := 33) X.1 X.2.1 d_X11_asEnded_29 (by decide) ?_
      exact g_iret X hr hlk hw hD d_X11_asEnded_33
  · have hD := hD.2 q_6
    refine lv_iconst (v := 1) X.1 X.2.1 d_X11_asEnded_9 (by decide) ?_
    refine lv_goto (tgt := 33) X.1 X.2.1 d_X11_asEnded_10 (by decide) ?_
    exact g_iret X hr hlk hw hD d_X11_asEnded_33
theorem c_X11_asEnded (l : Launch) (G : GC) (x1 : Int32) (σ : GSt) (Q : Int32 → GSt → Prop)  (hD : D_X11_asEnded x1 σ Q) : MI l ym_X11_asEnded cm_X11_asEnded 2 .int rm_X11_asEnded G σ [.ref (G.2.1 237), .int x1] Q := by
  refine met_i (by decide) (Nat.le_of_ble_eq_true rfl) ?_
  intro p e s m args below meth c X hr hlk hw ls hl
  exact s_X11_asEnded_0 X hr hlk Q  x1 σ hw (lv_sub hl [0, 1] rfl) hD
theorem hd_X11_isSpent : ym_X11_isSpent.cls = "GameLoomModel" ∧ ym_X11_isSpent.cls ≠ "java/lang/invoke/MethodHandle" ∧ ym_X11_isSpent.cls ≠ "java/lang/invoke/VarHandle" ∧ (parseMethodDescriptor ym_X11_isSpent.desc).map (fun d => d.parameters.length) = some 2 := by decide +kernel
abbrev rm_X11_isSpent : Room := { frames := 6, cells := 0, slots := 0, locals := 159 }
theorem d_X11_isSpent_0 : decode cm_X11_isSpent 0 = .ok (.iconst 0, 1) := by decide +kernel
theorem d_X11_isSpent_1 : decode cm_X11_isSpent 1 = .ok (.istore_n 3, 1) := by decide +kernel
theorem d_X11_isSpent_2 : decode cm_X11_isSpent 2 = .ok (.iload_n 3, 1) := by decide +kernel
theorem d_X11_isSpent_3 : decode cm_X11_isSpent 3 = .ok (.bipush 8, 2) := by decide +kernel
theorem d_X11_isSpent_5 : decode cm_X11_isSpent 5 = .ok (.if_icmp .ge 16, 3) := by decide +kernel
theorem d_X11_isSpent_8 : decode cm_X11_isSpent 8 = .ok (.aload_n 0, 1) := by decide +kernel
theorem d_X11_isSpent_9 : decode cm_X11_isSpent 9 = .ok (.getfield 113, 3) := by decide +kernel
theorem d_X11_isSpent_12 : decode cm_X11_isSpent 12 = .ok (.iload_n 3, 1) := by decide +kernel
theorem d_X11_isSpent_13 : decode cm_X11_isSpent 13 = .ok (.iconst 0, 1) := by decide +kernel
theorem d_X11_isSpent_14 : decode cm_X11_isSpent 14 = .ok (.iastore, 1) := by decide +kernel
theorem d_X11_isSpent_15 : decode cm_X11_isSpent 15 = .ok (.iinc 3 1, 3) := by decide +kernel
theorem d_X11_isSpent_18 : decode cm_X11_isSpent 18 = .ok (.goto (-16), 3) := by decide +kernel
theorem d_X11_isSpent_21 : decode cm_X11_isSpent 21 = .ok (.iload_n 2, 1) := by decide +kernel
theorem d_X11_isSpent_22 : decode cm_X11_isSpent 22 = .ok (.ifCond .eq 12, 3) := by decide +kernel
theorem d_X11_isSpent_25 : decode cm_X11_isSpent 25 = .ok (.aload_n 0, 1) := by decide +kernel
theorem d_X11_isSpent_26 : decode cm_X11_isSpent 26 = .ok (.getfield 77, 3) := by decide +kernel
theorem d_X11_isSpent_29 : decode cm_X11_isSpent 29 = .ok (.iload_n 1, 1) := by decide +kernel
theorem d_X11_isSpent_30 : decode cm_X11_isSpent 30 = .ok (.iaload, 1) := by decide +kernel
theorem d_X11_isSpent_31 : decode cm_X11_isSpent 31 = .ok (.ifCond .eq 5, 3) := by decide +kernel
theorem d_X11_isSpent_34 : decode cm_X11_isSpent 34 = .ok (.iconst 0, 1) := by decide +kernel
theorem d_X11_isSpent_35 : decode cm_X11_isSpent 35 = .ok (.ireturn, 1) := by decide +kernel
theorem d_X11_isSpent_36 : decode cm_X11_isSpent 36 = .ok (.iconst 0, 1) := by decide +kernel
theorem d_X11_isSpent_37 : decode cm_X11_isSpent 37 = .ok (.istore_n 3, 1) := by decide +kernel
theorem d_X11_isSpent_38 : decode cm_X11_isSpent 38 = .ok (.iload_n 1, 1) := by decide +kernel
theorem d_X11_isSpent_39 : decode cm_X11_isSpent 39 = .ok (.istore 4, 2) := by decide +kernel
theorem d_X11_isSpent_41 : decode cm_X11_isSpent 41 = .ok (.aload_n 0, 1) := by decide +kernel
theorem d_X11_isSpent_42 : decode cm_X11_isSpent 42 = .ok (.getfield 107, 3) := by decide +kernel
theorem d_X11_isSpent_45 : decode cm_X11_isSpent 45 = .ok (.iload_n 1, 1) := by decide +kernel
theorem d_X11_isSpent_46 : decode cm_X11_isSpent 46 = .ok (.iconst 0, 1) := by decide +kernel
theorem d_X11_isSpent_47 : decode cm_X11_isSpent 47 = .ok (.iastore, 1) := by decide +kernel
theorem d_X11_isSpent_48 : decode cm_X11_isSpent 48 = .ok (.iload 4, 2) := by decide +kernel
theorem d_X11_isSpent_50 : decode cm_X11_isSpent 50 = .ok (.iload_n 1, 1) := by decide +kernel
theorem d_X11_isSpent_51 : decode cm_X11_isSpent 51 = .ok (.if_icmp .lt 121, 3) := by decide +kernel
theorem d_X11_isSpent_54 : decode cm_X11_isSpent 54 = .ok (.aload_n 0, 1) := by decide +kernel
theorem d_X11_isSpent_55 : decode cm_X11_isSpent 55 = .ok (.getfield 107, 3) := by decide +kernel
theorem d_X11_isSpent_58 : decode cm_X11_isSpent 58 = .ok (.iload 4, 2) := by decide +kernel
theorem d_X11_isSpent_60 : decode cm_X11_isSpent 60 = .ok (.iaload, 1) := by decide +kernel
theorem d_X11_isSpent_61 : decode cm_X11_isSpent 61 = .ok (.aload_n 0, 1) := by decide +kernel
theorem d_X11_isSpent_62 : decode cm_X11_isSpent 62 = .ok (.getfield 95, 3) := by decide +kernel
theorem d_X11_isSpent_65 : decode cm_X11_isSpent 65 = .ok (.iload 4, 2) := by decide +kernel
theorem d_X11_isSpent_67 : decode cm_X11_isSpent 67 = .ok (.iaload, 1) := by decide +kernel
theorem d_X11_isSpent_68 : decode cm_X11_isSpent 68 = .ok (.if_icmp .ne 9, 3) := by decide +kernel
theorem d_X11_isSpent_71 : decode cm_X11_isSpent 71 = .ok (.iinc 4 (-1), 3) := by decide +kernel
theorem d_X11_isSpent_74 : decode cm_X11_isSpent 74 = .ok (.goto (-26), 3) := by decide +kernel
theorem d_X11_isSpent_77 : decode cm_X11_isSpent 77 = .ok (.aload_n 0, 1) := by decide +kernel
theorem d_X11_isSpent_78 : decode cm_X11_isSpent 78 = .ok (.getfield 107, 3) := by decide +kernel
theorem d_X11_isSpent_81 : decode cm_X11_isSpent 81 = .ok (.iload 4, 2) := by decide +kernel
theorem d_X11_isSpent_83 : decode cm_X11_isSpent 83 = .ok (.dup2, 1) := by decide +kernel
theorem d_X11_isSpent_84 : decode cm_X11_isSpent 84 = .ok (.iaload, 1) := by decide +kernel
theorem d_X11_isSpent_85 : decode cm_X11_isSpent 85 = .ok (.iconst 1, 1) := by decide +kernel
theorem d_X11_isSpent_86 : decode cm_X11_isSpent 86 = .ok (.iadd, 1) := by decide +kernel
theorem d_X11_isSpent_87 : decode cm_X11_isSpent 87 = .ok (.iastore, 1) := by decide +kernel
theorem d_X11_isSpent_88 : decode cm_X11_isSpent 88 = .ok (.aload_n 0, 1) := by decide +kernel
theorem d_X11_isSpent_89 : decode cm_X11_isSpent 89 = .ok (.getfield 113, 3) := by decide +kernel
theorem d_X11_isSpent_92 : decode cm_X11_isSpent 92 = .ok (.iload 4, 2) := by decide +kernel
theorem d_X11_isSpent_94 : decode cm_X11_isSpent 94 = .ok (.iload_n 1, 1) := by decide +kernel
theorem d_X11_isSpent_95 : decode cm_X11_isSpent 95 = .ok (.isub, 1) := by decide +kernel
theorem d_X11_isSpent_96 : decode cm_X11_isSpent 96 = .ok (.iconst 1, 1) := by decide +kernel
theorem d_X11_isSpent_97 : decode cm_X11_isSpent 97 = .ok (.iadd, 1) := by decide +kernel
theorem d_X11_isSpent_98 : decode cm_X11_isSpent 98 = .ok (.dup2, 1) := by decide +kernel
theorem d_X11_isSpent_99 : decode cm_X11_isSpent 99 = .ok (.iaload, 1) := by decide +kernel
theorem d_X11_isSpent_100 : decode cm_X11_isSpent 100 = .ok (.iconst 1, 1) := by decide +kernel
theorem d_X11_isSpent_101 : decode cm_X11_isSpent 101 = .ok (.iadd, 1) := by decide +kernel
theorem d_X11_isSpent_102 : decode cm_X11_isSpent 102 = .ok (.iastore, 1) := by decide +kernel
theorem d_X11_isSpent_103 : decode cm_X11_isSpent 103 = .ok (.iinc 3 1, 3) := by decide +kernel
theorem d_X11_isSpent_106 : decode cm_X11_isSpent 106 = .ok (.iload_n 3, 1) := by decide +kernel
theorem d_X11_isSpent_107 : decode cm_X11_isSpent 107 = .ok (.sipush 3000, 3) := by decide +kernel
theorem d_X11_isSpent_110 : decode cm_X11_isSpent 110 = .ok (.if_icmp .le 5, 3) := by decide +kernel
theorem d_X11_isSpent_113 : decode cm_X11_isSpent 113 = .ok (.iconst 1, 1) := by decide +kernel
theorem d_X11_isSpent_114 : decode cm_X11_isSpent 114 = .ok (.ireturn, 1) := by decide +kernel
theorem d_X11_isSpent_115 : decode cm_X11_isSpent 115 = .ok (.iload 4, 2) := by decide +kernel
theorem d_X11_isSpent_117 : decode cm_X11_isSpent 117 = .ok (.iload_n 1, 1) := by decide +kernel
theorem d_X11_isSpent_118 : decode cm_X11_isSpent 118 = .ok (.isub, 1) := by decide +kernel
theorem d_X11_isSpent_119 : decode cm_X11_isSpent 119 = .ok (.iconst 1, 1) := by decide +kernel
theorem d_X11_isSpent_120 : decode cm_X11_isSpent 120 = .ok (.iadd, 1) := by decide +kernel
theorem d_X11_isSpent_121 : decode cm_X11_isSpent 121 = .ok (.iload_n 2, 1) := by decide +kernel
theorem d_X11_isSpent_122 : decode cm_X11_isSpent 122 = .ok (.if_icmp .ne 6, 3) := by decide +kernel
theorem d_X11_isSpent_125 : decode cm_X11_isSpent 125 = .ok (.goto (-77), 3) := by decide +kernel
theorem d_X11_isSpent_128 : decode cm_X11_isSpent 128 = .ok (.aload_n 0, 1) := by decide +kernel
theorem d_X11_isSpent_129 : decode cm_X11_isSpent 129 = .ok (.iload 4, 2) := by decide +kernel
theorem d_X11_isSpent_131 : decode cm_X11_isSpent 131 = .ok (.aload_n 0, 1) := by decide +kernel
theorem d_X11_isSpent_132 : decode cm_X11_isSpent 132 = .ok (.getfield 107, 3) := by decide +kernel
theorem d_X11_isSpent_135 : decode cm_X11_isSpent 135 = .ok (.iload 4, 2) := by decide +kernel
theorem d_X11_isSpent_137 : decode cm_X11_isSpent 137 = .ok (.iaload, 1) := by decide +kernel
theorem d_X11_isSpent_138 : decode cm_X11_isSpent 138 = .ok (.iconst 1, 1) := by decide +kernel
theorem d_X11_isSpent_139 : decode cm_X11_isSpent 139 = .ok (.isub, 1) := by decide +kernel
theorem d_X11_isSpent_140 : decode cm_X11_isSpent 140 = .ok (.invokevirtual 251, 3) := by decide +kernel
theorem d_X11_isSpent_143 : decode cm_X11_isSpent 143 = .ok (.aload_n 0, 1) := by decide +kernel
theorem d_X11_isSpent_144 : decode cm_X11_isSpent 144 = .ok (.getfield 77, 3) := by decide +kernel
theorem d_X11_isSpent_147 : decode cm_X11_isSpent 147 = .ok (.iload 4, 2) := by decide +kernel
theorem d_X11_isSpent_149 : decode cm_X11_isSpent 149 = .ok (.iconst 1, 1) := by decide +kernel
theorem d_X11_isSpent_150 : decode cm_X11_isSpent 150 = .ok (.iadd, 1) := by decide +kernel
theorem d_X11_isSpent_151 : decode cm_X11_isSpent 151 = .ok (.iaload, 1) := by decide +kernel
theorem d_X11_isSpent_152 : decode cm_X11_isSpent 152 = .ok (.ifCond .eq 6, 3) := by decide +kernel
theorem d_X11_isSpent_155 : decode cm_X11_isSpent 155 = .ok (.goto (-107), 3) := by decide +kernel
theorem d_X11_isSpent_158 : decode cm_X11_isSpent 158 = .ok (.iinc 4 1, 3) := by decide +kernel
theorem d_X11_isSpent_161 : decode cm_X11_isSpent 161 = .ok (.aload_n 0, 1) := by decide +kernel
theorem d_X11_isSpent_162 : decode cm_X11_isSpent 162 = .ok (.getfield 107, 3) := by decide +kernel
theorem d_X11_isSpent_165 : decode cm_X11_isSpent 165 = .ok (.iload 4, 2) := by decide +kernel
theorem d_X11_isSpent_167 : decode cm_X11_isSpent 167 = .ok (.iconst 0, 1) := by decide +kernel
theorem d_X11_isSpent_168 : decode cm_X11_isSpent 168 = .ok (.iastore, 1) := by decide +kernel
theorem d_X11_isSpent_169 : decode cm_X11_isSpent 169 = .ok (.goto (-121), 3) := by decide +kernel
theorem d_X11_isSpent_172 : decode cm_X11_isSpent 172 = .ok (.iconst 0, 1) := by decide +kernel
theorem d_X11_isSpent_173 : decode cm_X11_isSpent 173 = .ok (.ireturn, 1) := by decide +kernel
def D_X11_isSpent_48 (K48 : Int32 → Int32 → Int32 → Int32 → GSt → Prop) (Q : Int32 → GSt → Prop) (x1 : Int32) (x2 : Int32) (x3 : Int32) (x4 : Int32) (σ : GSt) : Prop :=
  (x4 < x1 → Q 0 σ) ∧
  (¬ x4 < x1 → vp_in x4 9 ∧ (vp_in x4 9 ∧ ((¬ (σ 270 (Int32.toNatClampNeg x4)) = (σ 266 (Int32.toNatClampNeg x4)) → vp_in x4 9 ∧ (vp_in x4 9 ∧ (∀ σ_1 : GSt, σ_1 = up2 σ 270 (Int32.toNatClampNeg x4) ((σ 270 (Int32.toNatClampNeg x4)) + 1) → (vp_in ((x4 - x1) + 1) 8 ∧ (vp_in ((x4 - x1) + 1) 8 ∧ (∀ σ_2 : GSt, σ_2 = up2 σ_1 272 (Int32.toNatClampNeg ((x4 - x1) + 1)) ((σ_1 272 (Int32.toNatClampNeg ((x4 - x1) + 1))) + 1) → (∀ x3_3 : Int32, x3_3 = x3 + 1 → ((x3_3 ≤ 3000 → (¬ ((x4 - x1) + 1) = x2 → vp_in x4 9 ∧ (D_X11_does x4 ((σ_2 270 (Int32.toNatClampNeg x4)) - 1) σ_2 (fun σ_4 => vp_in (x4 + 1) 9 ∧ (((σ_4 260 (Int32.toNatClampNeg (x4 + 1))) = 0 → ∀ x4_5 : Int32, x4_5 = x4 + 1 → (vp_in x4_5 9 ∧ (∀ σ_6 : GSt, σ_6 = up2 σ_4 270 (Int32.toNatClampNeg x4_5) 0 → (K48 x1 x2 x3_3 x4_5 σ_6)))) ∧
  (¬ (σ_4 260 (Int32.toNatClampNeg (x4 + 1))) = 0 → K48 x1 x2 x3_3 x4 σ_4))))) ∧
  (((x4 - x1) + 1) = x2 → K48 x1 x2 x3_3 x4 σ_2)) ∧
  (¬ x3_3 ≤ 3000 → Q 1 σ_2))))))))) ∧
  ((σ 270 (Int32.toNatClampNeg x4)) = (σ 266 (Int32.toNatClampNeg x4)) → ∀ x4_7 : Int32, x4_7 = x4 + (-1) → (K48 x1 x2 x3 x4_7 σ)))))
def L_X11_isSpent_48 (Q : Int32 → GSt → Prop) : Nat → Int32 → Int32 → Int32 → Int32 → GSt → Prop
  | 0 => fun _ _ _ _ _ => False
  | n + 1 => fun x1 x2 x3 x4 σ => D_X11_isSpent_48 (L_X11_isSpent_48 Q n) Q x1 x2 x3 x4 σ
def D_X11_isSpent_2 (K2 : Int32 → Int32 → Int32 → GSt → Prop) (Q : Int32 → GSt → Prop) (x1 : Int32) (x2 : Int32) (x3 : Int32) (σ : GSt) : Prop :=
  (8 ≤ x3 → (x2 = 0 → Q 0 σ) ∧
  (¬ x2 = 0 → vp_in x1 9 ∧ (((σ 260 (Int32.toNatClampNeg x1)) = 0 → vp_in x1 9 ∧ (∀ σ_1 : GSt, σ_1 = up2 σ 270 (Int32.toNatClampNeg x1) 0 → (∃ n : Nat, L_X11_isSpent_48 Q n x1 x2 0 x1 σ_1))) ∧
  (¬ (σ 260 (Int32.toNatClampNeg x1)) = 0 → Q 0 σ)))) ∧
  (¬ 8 ≤ x3 → vp_in x3 8 ∧ (∀ σ_2 : GSt, σ_2 = up2 σ 272 (Int32.toNatClampNeg x3) 0 → (∀ x3_3 : Int32, x3_3 = x3 + 1 → (K2 x1 x2 x3_3 σ_2))))
def L_X11_isSpent_2 (Q : Int32 → GSt → Prop) : Nat → Int32 → Int32 → Int32 → GSt → Prop
  | 0 => fun _ _ _ _ => False
  | n + 1 => fun x1 x2 x3 σ => D_X11_isSpent_2 (L_X11_isSpent_2 Q n) Q x1 x2 x3 σ
def D_X11_isSpent_0 (Q : Int32 → GSt → Prop) (x1 : Int32) (x2 : Int32) (σ : GSt) : Prop :=
  ∃ n : Nat, L_X11_isSpent_2 Q n x1 x2 0 σ
def D_X11_isSpent (x1 : Int32) (x2 : Int32) (σ : GSt) (Q : Int32 → GSt → Prop) : Prop := D_X11_isSpent_0 Q x1 x2 σ
set_option maxRecDepth 20000 in
set_option maxHeartbeats 4000000 in
theorem s_X11_isSpent_48 {p : Program} {l : Launch} {e : Env} {s : State} {m : MethodId} {args : Array Value} {below : List Frame} {meth : Method} {c : Code} {G : GC} (X : CallFix p m c cm_X11_isSpent 5 s args lw_us "GameLoomModel") (hr : meth.sig.returnType = some .boolean) (hlk : meth.locks = false) (K48 : Int32 → Int32 → Int32 → Int32 → GSt → Prop) (Q : Int32 → GSt → Prop) (hK48 : ∀ (x1 : Int32) (x2 : Int32) (x3 : Int32) (x4 : Int32) (σ : GSt) (H : Heap) (locs : List Loc) (ls : Array Slot), Wo G s H locs σ → lv_has ls 5 [(0, .ref (G.2.1 237)), (1, .int x1), (2, .int x2), (3, .int x3), (4, .int x4)] → K48 x1 x2 x3 x4 σ → W p l e rm_X11_isSpent s m args below meth c H locs 0 0 (QMI G Q below args s) (F0 m 48 ls [])) (x1 : Int32) (x2 : Int32) (x3 : Int32) (x4 : Int32) (σ : GSt) {H : Heap} {locs : List Loc} {ls : Array Slot} (hw : Wo G s H locs σ) (hl : lv_has ls 5 [(0, .ref (G.2.1 237)), (1, .int x1), (2, .int x2), (3, .int x3), (4, .int x4)]) (hD : D_X11_isSpent_48 K48 Q x1 x2 x3 x4 σ) : W p l e rm_X11_isSpent s m args below meth c H locs 0 0 (QMI G Q below args s) (F0 m 48 ls []) := by
  unfold D_X11_isSpent_48 at hD
  refine lv_iload X.1 X.2.1 d_X11_isSpent_48 (lv_at hl 4 rfl) ?_
  refine lv_iload_n X.1 X.2.1 d_X11_isSpent_50 rfl (lv_at hl 1 rfl) ?_
  refine lv_icmp_lt (tgt := 172) X.1 X.2.1 d_X11_isSpent_51 (by decide) (fun q_51 => ?_) (fun q_51 => ?_)
  · have hD := hD.1 q_51
    refine lv_iconst (v := 0) X.1 X.2.1 d_X11_isSpent_172 (by decide) ?_
    exact g_zret X hr hlk hw (by decide) hD d_X11_isSpent_173
  · have hD := hD.2 q_51
    refine lv_aload_n X.1 X.2.1 d_X11_isSpent_54 rfl (lv_at hl 0 rfl) ?_
    refine gf_11_36 X hw (by decide +kernel : kd 237 = 11) tb_942 d_X11_isSpent_55 ?_
    refine lv_iload X.1 X.2.1 d_X11_isSpent_58 (lv_at hl 4 rfl) ?_
    obtain ⟨q_60, hD⟩ := hD
    refine g_iald X hw ly_11_36.1 ly_11_36.2 q_60 d_X11_isSpent_60 ?_
    refine lv_aload_n X.1 X.2.1 d_X11_isSpent_61 rfl (lv_at hl 0 rfl) ?_
    refine gf_11_32 X hw (by decide +kernel : kd 237 = 11) tb_938 d_X11_isSpent_62 ?_
    refine lv_iload X.1 X.2.1 d_X11_isSpent_65 (lv_at hl 4 rfl) ?_
    obtain ⟨q_67, hD⟩ := hD
    refine g_iald X hw ly_11_32.1 ly_11_32.2 q_67 d_X11_isSpent_67 ?_
    refine lv_icmp_ne (tgt := 77) X.1 X.2.1 d_X11_isSpent_68 (by decide) (fun q_68 => ?_) (fun q_68 => ?_)
    · have hD := hD.1 q_68
      refine lv_aload_n X.1 X.2.1 d_X11_isSpent_77 rfl (lv_at hl 0 rfl) ?_
      refine gf_11_36 X hw (by decide +kernel : kd 237 = 11) tb_942 d_X11_isSpent_78 ?_
      refine lv_iload X.1 X.2.1 d_X11_isSpent_81 (lv_at hl 4 rfl) ?_
      refine lv_dup2_11 X.1 X.2.1 d_X11_isSpent_83 rfl rfl ?_
      obtain ⟨q_84, hD⟩ := hD
      refine g_iald X hw ly_11_36.1 ly_11_36.2 q_84 d_X11_isSpent_84 ?_
      refine lv_iconst (v := 1) X.1 X.2.1 d_X11_isSpent_85 (by decide) ?_
      refine lv_iadd X.1 X.2.1 d_X11_isSpent_86 ?_
      obtain ⟨q_87, hD⟩ := hD
      refine g_iast X hw ly_11_36.1 ly_11_36.2 q_87 d_X11_isSpent_87 (fun H locs hw => ?_)
      obtain ⟨σ_1, e_σ_1⟩ : ∃ z : GSt, z = up2 σ 270 (Int32.toNatClampNeg x4) ((σ 270 (Int32.toNatClampNeg x4)) + 1) := ⟨_, rfl⟩
      rw [← e_σ_1] at hw
      have hD := hD σ_1 e_σ_1
      refine lv_aload_n X.1 X.2.1 d_X11_isSpent_88 rfl (lv_at hl 0 rfl) ?_
      refine gf_11_38 X hw (by decide +kernel : kd 237 = 11) tb_944 d_X11_isSpent_89 ?_
      refine lv_iload X.1 X.2.1 d_X11_isSpent_92 (lv_at hl 4 rfl) ?_
      refine lv_iload_n X.1 X.2.1 d_X11_isSpent_94 rfl (lv_at hl 1 rfl) ?_
      refine lv_isub X.1 X.2.1 d_X11_isSpent_95 ?_
      refine lv_iconst (v := 1) X.1 X.2.1 d_X11_isSpent_96 (by decide) ?_
      refine lv_iadd X.1 X.2.1 d_X11_isSpent_97 ?_
      refine lv_dup2_11 X.1 X.2.1 d_X11_isSpent_98 rfl rfl ?_
      obtain ⟨q_99, hD⟩ := hD
      refine g_iald X hw ly_11_38.1 ly_11_38.2 q_99 d_X11_isSpent_99 ?_
      refine lv_iconst (v := 1) X.1 X.2.1 d_X11_isSpent_100 (by decide) ?_
      refine lv_iadd X.1 X.2.1 d_X11_isSpent_101 ?_
      obtain ⟨q_102, hD⟩ := hD
      refine g_iast X hw ly_11_38.1 ly_11_38.2 q_102 d_X11_isSpent_102 (fun H locs hw => ?_)
      obtain ⟨σ_2, e_σ_2⟩ : ∃ z : GSt, z = up2 σ_1 272 (Int32.toNatClampNeg ((x4 - x1) + 1)) ((σ_1 272 (Int32.toNatClampNeg ((x4 - x1) + 1))) + 1) := ⟨_, rfl⟩
      rw [← e_σ_2] at hw
      have hD := hD σ_2 e_σ_2
      obtain ⟨x3_3, e_x3_3⟩ : ∃ y : Int32, y = x3 + 1 := ⟨_, rfl⟩
      have hD := hD x3_3 e_x3_3
      refine lv_iinc (v := x3_3) (lv' := [(3, .int x3_3), (0, .ref (G.2.1 237)), (1, .int x1), (2, .int x2), (4, .int x4)]) X.1 X.2.1 d_X11_isSpent_103 hl (k := 3) rfl (by rw [e_x3_3]; rfl) (by decide) rfl (fun ls hl => ?_)
      refine lv_iload_n X.1 X.2.1 d_X11_isSpent_106 rfl (lv_at hl 0 rfl) ?_
      refine lv_sipush (v := 3000) X.1 X.2.1 d_X11_isSpent_107 (by decide) ?_
      refine lv_icmp_le (tgt := 115) X.1 X.2.1 d_X11_isSpent_110 (by decide) (fun q_110 => ?_) (fun q_110 => ?_)
      · have hD := hD.1 q_110
        refine lv_iload X.1 X.2.1 d_X11_isSpent_115 (lv_at hl 4 rfl) ?_
        refine lv_iload_n X.1 X.2.1 d_X11_isSpent_117 rfl (lv_at hl 2 rfl) ?_
        refine lv_isub X.1 X.2.1 d_X11_isSpent_118 ?_
        refine lv_iconst (v := 1) X.1 X.2.1 d_X11_isSpent_119 (by decide) ?_
        refine lv_iadd X.1 X.2.1 d_X11_isSpent_120 ?_
        refine lv_iload_n X.1 X.2.1 d_X11_isSpent_121 rfl (lv_at hl 3 rfl) ?_
        refine lv_icmp_ne (tgt := 128) X.1 X.2.1 d_X11_isSpent_122 (by decide) (fun q_122 => ?_) (fun q_122 => ?_)
        · have hD := hD.1 q_122
          refine lv_aload_n X.1 X.2.1 d_X11_isSpent_128 rfl (lv_at hl 1 rfl) ?_
          refine lv_iload X.1 X.2.1 d_X11_isSpent_129 (lv_at hl 4 rfl) ?_
          refine lv_aload_n X.1 X.2.1 d_X11_isSpent_131 rfl (lv_at hl 1 rfl) ?_
          refine gf_11_36 X hw (by decide +kernel : kd 237 = 11) tb_942 d_X11_isSpent_132 ?_
          refine lv_iload X.1 X.2.1 d_X11_isSpent_135 (lv_at hl 4 rfl) ?_
          obtain ⟨q_137, hD⟩ := hD
          refine g_iald X hw ly_11_36.1 ly_11_36.2 q_137 d_X11_isSpent_137 ?_
          refine lv_iconst (v := 1) X.1 X.2.1 d_X11_isSpent_138 (by decide) ?_
          refine lv_isub X.1 X.2.1 d_X11_isSpent_139 ?_
          refine gcV_v (rest := []) (As := [.int x4, .int ((σ_2 270 (Int32.toNatClampNeg x4)) - 1)]) (o := 237) X hw (c_X11_does l G x4 ((σ_2 270 (Int32.toNatClampNeg x4)) - 1) σ_2 _  hD) (kd_lt (by decide +kernel : kd 237 = 11) (by decide)) (ce_11 G _ (by decide +kernel : kd 237 = 11)) rfl tb_1208 tb_1210 tv_60 tb_12 tb_1211 hd_X11_does ⟨rfl, rfl⟩ ⟨Nat.le_of_ble_eq_true rfl, Nat.le_of_ble_eq_true rfl⟩ rfl hl.1 rfl (Nat.le_of_ble_eq_true rfl) d_X11_isSpent_140 (fun σ_4 H locs hD hw => ?_)
          refine lv_aload_n X.1 X.2.1 d_X11_isSpent_143 rfl (lv_at hl 1 rfl) ?_
          refine gf_11_26 X hw (by decide +kernel : kd 237 = 11) tb_932 d_X11_isSpent_144 ?_
          refine lv_iload X.1 X.2.1 d_X11_isSpent_147 (lv_at hl 4 rfl) ?_
          refine lv_iconst (v := 1) X.1 X.2.1 d_X11_isSpent_149 (by decide) ?_
          refine lv_iadd X.1 X.2.1 d_X11_isSpent_150 ?_
          obtain ⟨q_151, hD⟩ := hD
          refine g_iald X hw ly_11_26.1 ly_11_26.2 q_151 d_X11_isSpent_151 ?_
          refine lv_if_eq (tgt := 158) X.1 X.2.1 d_X11_isSpent_152 (by decide) (fun q_152 => ?_) (fun q_152 => ?_)
          · have hD := hD.1 q_152
            obtain ⟨x4_5, e_x4_5⟩ : ∃ y : Int32, y = x4 + 1 := ⟨_, rfl⟩
            have hD := hD x4_5 e_x4_5
            refine lv_iinc (v := x4_5) (lv' := [(4, .int x4_5), (3, .int x3_3), (0, .ref (G.2.1 237)), (1, .int x1), (2, .int x2)]) X.1 X.2.1 d_X11_isSpent_158 hl (k := 4) rfl (by rw [e_x4_5]; rfl) (by decide) rfl (fun ls hl => ?_)
            refine lv_aload_n X.1 X.2.1 d_X11_isSpent_161 rfl (lv_at hl 2 rfl) ?_
            refine gf_11_36 X hw (by decide +kernel : kd 237 = 11) tb_942 d_X11_isSpent_162 ?_
            refine lv_iload X.1 X.2.1 d_X11_isSpent_165 (lv_at hl 0 rfl) ?_
            refine lv_iconst (v := 0) X.1 X.2.1 d_X11_isSpent_167 (by decide) ?_
            obtain ⟨q_168, hD⟩ := hD
            refine g_iast X hw ly_11_36.1 ly_11_36.2 q_168 d_X11_isSpent_168 (fun H locs hw => ?_)
            obtain ⟨σ_6, e_σ_6⟩ : ∃ z : GSt, z = up2 σ_4 270 (Int32.toNatClampNeg x4_5) 0 := ⟨_, rfl⟩
            rw [← e_σ_6] at hw
            have hD := hD σ_6 e_σ_6
            refine lv_goto (tgt := 48) X.1 X.2.1 d_X11_isSpent_169 (by decide) ?_
            exact hK48 x1 x2 x3_3 x4_5 σ_6 _ _ _  hw (lv_sub hl [2, 3, 4, 1, 0] rfl) hD
          · have hD := hD.2 q_152
            refine lv_goto (tgt := 48) X.1 X.2.1 d_X11_isSpent_155 (by decide) ?_
            exact hK48 x1 x2 x3_3 x4 σ_4 _ _ _  hw (lv_sub hl [1, 2, 3, 0, 4] rfl) hD
        · have hD := hD.2 q_122
          refine lv_goto (tgt := 48) X.1 X.2.1 d_X11_isSpent_125 (by decide) ?_
          exact hK48 x1 x2 x3_3 x4 σ_2 _ _ _  hw (lv_sub hl [1, 2, 3, 0, 4] rfl) hD
      · have hD := hD.2 q_110
        refine lv_iconst (v := 1) X.1 X.2.1 d_X11_isSpent_113 (by decide) ?_
        exact g_zret X hr hlk hw (by decide) hD d_X11_isSpent_114
    · have hD := hD.2 q_68
      obtain ⟨x4_7, e_x4_7⟩ : ∃ y : Int32, y = x4 + (-1) := ⟨_, rfl⟩
      have hD := hD x4_7 e_x4_7
      refine lv_iinc (v := x4_7) (lv' := [(4, .int x4_7), (0, .ref (G.2.1 237)), (1, .int x1), (2, .int x2), (3, .int x3)]) X.1 X.2.1 d_X11_isSpent_71 hl (k := 4) rfl (by rw [e_x4_7]; rfl) (by decide) rfl (fun ls hl => ?_)
      refine lv_goto (tgt := 48) X.1 X.2.1 d_X11_isSpent_74 (by decide) ?_
      exact hK48 x1 x2 x3 x4_7 σ _ _ _  hw (lv_sub hl [1, 2, 3, 4, 0] rfl) hD
set_option maxRecDepth 20000 in
set_option maxHeartbeats 4000000 in
theorem sl_X11_isSpent_48 {p : Program} {l : Launch} {e : Env} {s : State} {m : MethodId} {args : Array Value} {below : List Frame} {meth : Method} {c : Code} {G : GC} (X : CallFix p m c cm_X11_isSpent 5 s args lw_us "GameLoomModel") (hr : meth.sig.returnType = some .boolean) (hlk : meth.locks = false) (Q : Int32 → GSt → Prop) : ∀ (nn : Nat), ∀ (x1 : Int32) (x2 : Int32) (x3 : Int32) (x4 : Int32) (σ : GSt) (H : Heap) (locs : List Loc) (ls : Array Slot), Wo G s H locs σ → lv_has ls 5 [(0, .ref (G.2.1 237)), (1, .int x1), (2, .int x2), (3, .int x3), (4, .int x4)] → L_X11_isSpent_48 Q nn x1 x2 x3 x4 σ → W p l e rm_X11_isSpent s m args below meth c H locs 0 0 (QMI G Q below args s) (F0 m 48 ls []) := by
  intro nn
  induction nn with
  | zero => intro x1 x2 x3 x4 σ H locs ls  hw hl hD; exact hD.elim
  | succ nn ih =>
    intro x1 x2 x3 x4 σ H locs ls  hw hl hD
    exact s_X11_isSpent_48 X hr hlk (L_X11_isSpent_48 Q nn) Q ih x1 x2 x3 x4 σ hw hl hD
set_option maxRecDepth 20000 in
set_option maxHeartbeats 4000000 in
theorem s_X11_isSpent_2 {p : Program} {l : Launch} {e : Env} {s : State} {m : MethodId} {args : Array Value} {below : List Frame} {meth : Method} {c : Code} {G : GC} (X : CallFix p m c cm_X11_isSpent 5 s args lw_us "GameLoomModel") (hr : meth.sig.returnType = some .boolean) (hlk : meth.locks = false) (K2 : Int32 → Int32 → Int32 → GSt → Prop) (Q : Int32 → GSt → Prop) (hK2 : ∀ (x1 : Int32) (x2 : Int32) (x3 : Int32) (σ : GSt) (H : Heap) (locs : List Loc) (ls : Array Slot), Wo G s H locs σ → lv_has ls 5 [(0, .ref (G.2.1 237)), (1, .int x1), (2, .int x2), (3, .int x3)] → K2 x1 x2 x3 σ → W p l e rm_X11_isSpent s m args below meth c H locs 0 0 (QMI G Q below args s) (F0 m 2 ls [])) (x1 : Int32) (x2 : Int32) (x3 : Int32) (σ : GSt) {H : Heap} {locs : List Loc} {ls : Array Slot} (hw : Wo G s H locs σ) (hl : lv_has ls 5 [(0, .ref (G.2.1 237)), (1, .int x1), (2, .int x2), (3, .int x3)]) (hD : D_X11_isSpent_2 K2 Q x1 x2 x3 σ) : W p l e rm_X11_isSpent s m args below meth c H locs 0 0 (QMI G Q below args s) (F0 m 2 ls []) := by
  unfold D_X11_isSpent_2 at hD
  refine lv_iload_n X.1 X.2.1 d_X11_isSpent_2 rfl (lv_at hl 3 rfl) ?_
  refine lv_bipush (v := 8) X.1 X.2.1 d_X11_isSpent_3 (by decide) ?_
  refine lv_icmp_ge (tgt := 21) X.1 X.2.1 d_X11_isSpent_5 (by decide) (fun q_5 => ?_) (fun q_5 => ?_)
  · have hD := hD.1 q_5
    refine lv_iload_n X.1 X.2.1 d_X11_isSpent_21 rfl (lv_at hl 2 rfl) ?_
    refine lv_if_eq (tgt := 34) X.1 X.2.1 d_X11_isSpent_22 (by decide) (fun q_22 => ?_) (fun q_22 => ?_)
    · have hD := hD.1 q_22
      refine lv_iconst (v := 0) X.1 X.2.1 d_X11_isSpent_34 (by decide) ?_
      exact g_zret X hr hlk hw (by decide) hD d_X11_isSpent_35
    · have hD := hD.2 q_22
      refine lv_aload_n X.1 X.2.1 d_X11_isSpent_25 rfl (lv_at hl 0 rfl) ?_
      refine gf_11_26 X hw (by decide +kernel : kd 237 = 11) tb_932 d_X11_isSpent_26 ?_
      refine lv_iload_n X.1 X.2.1 d_X11_isSpent_29 rfl (lv_at hl 1 rfl) ?_
      obtain ⟨q_30, hD⟩ := hD
      refine g_iald X hw ly_11_26.1 ly_11_26.2 q_30 d_X11_isSpent_30 ?_
      refine lv_if_eq (tgt := 36) X.1 X.2.1 d_X11_isSpent_31 (by decide) (fun q_31 => ?_) (fun q_31 => ?_)
      · have hD := hD.1 q_31
        refine lv_iconst (v := 0) X.1 X.2.1 d_X11_isSpent_36 (by decide) ?_
        refine lv_istore_n (lv' := [(3, .int 0), (0, .ref (G.2.1 237)), (1, .int x1), (2, .int x2)]) X.1 X.2.1 d_X11_isSpent_37 rfl hl (by decide) rfl (fun ls hl => ?_)
        refine lv_iload_n X.1 X.2.1 d_X11_isSpent_38 rfl (lv_at hl 2 rfl) ?_
        refine lv_istore (lv' := [(4, .int x1), (3, .int 0), (0, .ref (G.2.1 237)), (1, .int x1), (2, .int x2)]) X.1 X.2.1 d_X11_isSpent_39 hl (by decide) rfl (fun ls hl => ?_)
        refine lv_aload_n X.1 X.2.1 d_X11_isSpent_41 rfl (lv_at hl 2 rfl) ?_
        refine gf_11_36 X hw (by decide +kernel : kd 237 = 11) tb_942 d_X11_isSpent_42 ?_
        refine lv_iload_n X.1 X.2.1 d_X11_isSpent_45 rfl (lv_at hl 3 rfl) ?_
        refine lv_iconst (v := 0) X.1 X.2.1 d_X11_isSpent_46 (by decide) ?_
        obtain ⟨q_47, hD⟩ := hD
        refine g_iast X hw ly_11_36.1 ly_11_36.2 q_47 d_X11_isSpent_47 (fun H locs hw => ?_)
        obtain ⟨σ_1, e_σ_1⟩ : ∃ z : GSt, z = up2 σ 270 (Int32.toNatClampNeg x1) 0 := ⟨_, rfl⟩
        rw [← e_σ_1] at hw
        have hD := hD σ_1 e_σ_1
        obtain ⟨n9, hD⟩ := hD
        exact sl_X11_isSpent_48 X hr hlk  Q  n9 x1 x2 0 x1 σ_1 _ _ _  hw (lv_sub hl [2, 3, 4, 1, 0] rfl) hD
      · have hD := hD.2 q_31
        refine lv_iconst (v := 0) X.1 X.2.1 d_X11_isSpent_34 (by decide) ?_
        exact g_zret X hr hlk hw (by decide) hD d_X11_isSpent_35
  · have hD := hD.2 q_5
    refine lv_aload_n X.1 X.2.1 d_X11_isSpent_8 rfl (lv_at hl 0 rfl) ?_
    refine gf_11_38 X hw (by decide +kernel : kd 237 = 11) tb_944 d_X11_isSpent_9 ?_
    refine lv_iload_n X.1 X.2.1 d_X11_isSpent_12 rfl (lv_at hl 3 rfl) ?_
    refine lv_iconst (v := 0) X.1 X.2.1 d_X11_isSpent_13 (by decide) ?_
    obtain ⟨q_14, hD⟩ := hD
    refine g_iast X hw ly_11_38.1 ly_11_38.2 q_14 d_X11_isSpent_14 (fun H locs hw => ?_)
    obtain ⟨σ_2, e_σ_2⟩ : ∃ z : GSt, z = up2 σ 272 (Int32.toNatClampNeg x3) 0 := ⟨_, rfl⟩
    rw [← e_σ_2] at hw
    have hD := hD σ_2 e_σ_2
    obtain ⟨x3_3, e_x3_3⟩ : ∃ y : Int32, y = x3 + 1 := ⟨_, rfl⟩
    have hD := hD x3_3 e_x3_3
    refine lv_iinc (v := x3_3) (lv' := [(3, .int x3_3), (0, .ref (G.2.1 237)), (1, .int x1), (2, .int x2)]) X.1 X.2.1 d_X11_isSpent_15 hl (k := 3) rfl (by rw [e_x3_3]; rfl) (by decide) rfl (fun ls hl => ?_)
    refine lv_goto (tgt := 2) X.1 X.2.1 d_X11_isSpent_18 (by decide) ?_
    exact hK2 x1 x2 x3_3 σ_2 _ _ _  hw (lv_sub hl [1, 2, 3, 0] rfl) hD
set_option maxRecDepth 20000 in
set_option maxHeartbeats 4000000 in
theorem sl_X11_isSpent_2 {p : Program} {l : Launch} {e : Env} {s : State} {m : MethodId} {args : Array Value} {below : List Frame} {meth : Method} {c : Code} {G : GC} (X : CallFix p m c cm_X11_isSpent 5 s args lw_us "GameLoomModel") (hr : meth.sig.returnType = some .boolean) (hlk : meth.locks = false) (Q : Int32 → GSt → Prop) : ∀ (nn : Nat), ∀ (x1 : Int32) (x2 : Int32) (x3 : Int32) (σ : GSt) (H : Heap) (locs : List Loc) (ls : Array Slot), Wo G s H locs σ → lv_has ls 5 [(0, .ref (G.2.1 237)), (1, .int x1), (2, .int x2), (3, .int x3)] → L_X11_isSpent_2 Q nn x1 x2 x3 σ → W p l e rm_X11_isSpent s m args below meth c H locs 0 0 (QMI G Q below args s) (F0 m 2 ls []) := by
  intro nn
  induction nn with
  | zero => intro x1 x2 x3 σ H locs ls  hw hl hD; exact hD.elim
  | succ nn ih =>
    intro x1 x2 x3 σ H locs ls  hw hl hD
    exact s_X11_isSpent_2 X hr hlk (L_X11_isSpent_2 Q nn) Q ih x1 x2 x3 σ hw hl hD
set_option maxRecDepth 20000 in
set_option maxHeartbeats 4000000 in
theorem s_X11_isSpent_0 {p : Program} {l : Launch} {e : Env} {s : State} {m : MethodId} {args : Array Value} {below : List Frame} {meth : Method} {c : Code} {G : GC} (X : CallFix p m c cm_X11_isSpent 5 s args lw_us "GameLoomModel") (hr : meth.sig.returnType = some .boolean) (hlk : meth.locks = false) (Q : Int32 → GSt → Prop) (x1 : Int32) (x2 : Int32) (σ : GSt) {H : Heap} {locs : List Loc} {ls : Array Slot} (hw : Wo G s H locs σ) (hl : lv_has ls 5 [(0, .ref (G.2.1 237)), (1, .int x1), (2, .int x2)]) (hD : D_X11_isSpent_0 Q x1 x2 σ) : W p l e rm_X11_isSpent s m args below meth c H locs 0 0 (QMI G Q below args s) (F0 m 0 ls []) := by
  unfold D_X11_isSpent_0 at hD
  refine lv_iconst (v := 0) X.1 X.2.1 d_X11_isSpent_0 (by decide) ?_
  refine lv_istore_n (lv' := [(3, .int 0), (0, .ref (G.2.1 237)), (1, .int x1), (2, .int x2)]) X.1 X.2.1 d_X11_isSpent_1 rfl hl (by decide) rfl (fun ls hl => ?_)
  obtain ⟨n9, hD⟩ := hD
  exact sl_X11_isSpent_2 X hr hlk  Q  n9 x1 x2 0 σ _ _ _  hw (lv_sub hl [1, 2, 3, 0] rfl) hD
theorem c_X11_isSpent (l : Launch) (G : GC) (x1 : Int32) (x2 : Int32) (σ : GSt) (Q : Int32 → GSt → Prop)  (hD : D_X11_isSpent x1 x2 σ Q) : MI l ym_X11_isSpent cm_X11_isSpent 5 .boolean rm_X11_isSpent G σ [.ref (G.2.1 237), .int x1, .int x2] Q := by
  refine met_i (by decide) (Nat.le_of_ble_eq_true rfl) ?_
  intro p e s m args below meth c X hr hlk hw ls hl
  exact s_X11_isSpent_0 X hr hlk Q  x1 x2 σ hw (lv_sub hl [0, 1, 2] rfl) hD
theorem hd_X11_lookAt : ym_X11_lookAt.cls = "GameLoomModel" ∧ ym_X11_lookAt.cls ≠ "java/lang/invoke/MethodHandle" ∧ ym_X11_lookAt.cls ≠ "java/lang/invoke/VarHandle" ∧ (parseMethodDescriptor ym_X11_lookAt.desc).map (fun d => d.parameters.length) = some 2 := by decide +kernel
abbrev rm_X11_lookAt : Room := { frames := 6, cells := 0, slots := 0, locals := 159 }
theorem d_X11_lookAt_0 : decode cm_X11_lookAt 0 = .ok (.aload_n 0, 1) := by decide +kernel
theorem d_X11_lookAt_1 : decode cm_X11_lookAt 1 = .ok (.getfield 77, 3) := by decide +kernel
theorem d_X11_lookAt_4 : decode cm_X11_lookAt 4 = .ok (.iload_n 1, 1) := by decide +kernel
theorem d_X11_lookAt_5 : decode cm_X11_lookAt 5 = .ok (.iaload, 1) := by decide +kernel
theorem d_X11_lookAt_6 : decode cm_X11_lookAt 6 = .ok (.ifCond .eq 9, 3) := by decide +kernel
theorem d_X11_lookAt_9 : decode cm_X11_lookAt 9 = .ok (.aload_n 0, 1) := by decide +kernel
theorem d_X11_lookAt_10 : decode cm_X11_lookAt 10 = .ok (.iload_n 1, 1) := by decide +kernel
theorem d_X11_lookAt_11 : decode cm_X11_lookAt 11 = .ok (.invokevirtual 254, 3) := by decide +kernel
theorem d_X11_lookAt_14 : decode cm_X11_lookAt 14 = .ok (.ireturn, 1) := by decide +kernel
theorem d_X11_lookAt_15 : decode cm_X11_lookAt 15 = .ok (.iload_n 2, 1) := by decide +kernel
theorem d_X11_lookAt_16 : decode cm_X11_lookAt 16 = .ok (.ifCond .ne 5, 3) := by decide +kernel
theorem d_X11_lookAt_19 : decode cm_X11_lookAt 19 = .ok (.iconst 1, 1) := by decide +kernel
theorem d_X11_lookAt_20 : decode cm_X11_lookAt 20 = .ok (.ireturn, 1) := by decide +kernel
theorem d_X11_lookAt_21 : decode cm_X11_lookAt 21 = .ok (.iload_n 1, 1) := by decide +kernel
theorem d_X11_lookAt_22 : decode cm_X11_lookAt 22 = .ok (.istore_n 3, 1) := by decide +kernel
theorem d_X11_lookAt_23 : decode cm_X11_lookAt 23 = .ok (.aload_n 0, 1) := by decide +kernel
theorem d_X11_lookAt_24 : decode cm_X11_lookAt 24 = .ok (.getfield 107, 3) := by decide +kernel
theorem d_X11_lookAt_27 : decode cm_X11_lookAt 27 = .ok (.iload_n 1, 1) := by decide +kernel
theorem d_X11_lookAt_28 : decode cm_X11_lookAt 28 = .ok (.iconst 0, 1) := by decide +kernel
theorem d_X11_lookAt_29 : decode cm_X11_lookAt 29 = .ok (.iastore, 1) := by decide +kernel
theorem d_X11_lookAt_30 : decode cm_X11_lookAt 30 = .ok (.aload_n 0, 1) := by decide +kernel
theorem d_X11_lookAt_31 : decode cm_X11_lookAt 31 = .ok (.getfield 110, 3) := by decide +kernel
theorem d_X11_lookAt_34 : decode cm_X11_lookAt 34 = .ok (.iload_n 1, 1) := by decide +kernel
theorem d_X11_lookAt_35 : decode cm_X11_lookAt 35 = .ok (.iconst 0, 1) := by decide +kernel
theorem d_X11_lookAt_36 : decode cm_X11_lookAt 36 = .ok (.iastore, 1) := by decide +kernel
theorem d_X11_lookAt_37 : decode cm_X11_lookAt 37 = .ok (.aload_n 0, 1) := by decide +kernel
theorem d_X11_lookAt_38 : decode cm_X11_lookAt 38 = .ok (.getfield 107, 3) := by decide +kernel
theorem d_X11_lookAt_41 : decode cm_X11_lookAt 41 = .ok (.iload_n 3, 1) := by decide +kernel
theorem d_X11_lookAt_42 : decode cm_X11_lookAt 42 = .ok (.iaload, 1) := by decide +kernel
theorem d_X11_lookAt_43 : decode cm_X11_lookAt 43 = .ok (.aload_n 0, 1) := by decide +kernel
theorem d_X11_lookAt_44 : decode cm_X11_lookAt 44 = .ok (.getfield 95, 3) := by decide +kernel
theorem d_X11_lookAt_47 : decode cm_X11_lookAt 47 = .ok (.iload_n 3, 1) := by decide +kernel
theorem d_X11_lookAt_48 : decode cm_X11_lookAt 48 = .ok (.iaload, 1) := by decide +kernel
theorem d_X11_lookAt_49 : decode cm_X11_lookAt 49 = .ok (.if_icmp .ge 123, 3) := by decide +kernel
theorem d_X11_lookAt_52 : decode cm_X11_lookAt 52 = .ok (.aload_n 0, 1) := by decide +kernel
theorem d_X11_lookAt_53 : decode cm_X11_lookAt 53 = .ok (.getfield 110, 3) := by decide +kernel
theorem d_X11_lookAt_56 : decode cm_X11_lookAt 56 = .ok (.iload_n 3, 1) := by decide +kernel
theorem d_X11_lookAt_57 : decode cm_X11_lookAt 57 = .ok (.iaload, 1) := by decide +kernel
theorem d_X11_lookAt_58 : decode cm_X11_lookAt 58 = .ok (.iconst 2, 1) := by decide +kernel
theorem d_X11_lookAt_59 : decode cm_X11_lookAt 59 = .ok (.if_icmp .ge 113, 3) := by decide +kernel
theorem d_X11_lookAt_62 : decode cm_X11_lookAt 62 = .ok (.aload_n 0, 1) := by decide +kernel
theorem d_X11_lookAt_63 : decode cm_X11_lookAt 63 = .ok (.iload_n 3, 1) := by decide +kernel
theorem d_X11_lookAt_64 : decode cm_X11_lookAt 64 = .ok (.aload_n 0, 1) := by decide +kernel
theorem d_X11_lookAt_65 : decode cm_X11_lookAt 65 = .ok (.getfield 107, 3) := by decide +kernel
theorem d_X11_lookAt_68 : decode cm_X11_lookAt 68 = .ok (.iload_n 3, 1) := by decide +kernel
theorem d_X11_lookAt_69 : decode cm_X11_lookAt 69 = .ok (.iaload, 1) := by decide +kernel
theorem d_X11_lookAt_70 : decode cm_X11_lookAt 70 = .ok (.invokevirtual 251, 3) := by decide +kernel
theorem d_X11_lookAt_73 : decode cm_X11_lookAt 73 = .ok (.aload_n 0, 1) := by decide +kernel
theorem d_X11_lookAt_74 : decode cm_X11_lookAt 74 = .ok (.getfield 107, 3) := by decide +kernel
theorem d_X11_lookAt_77 : decode cm_X11_lookAt 77 = .ok (.iload_n 3, 1) := by decide +kernel
theorem d_X11_lookAt_78 : decode cm_X11_lookAt 78 = .ok (.dup2, 1) := by decide +kernel
theorem d_X11_lookAt_79 : decode cm_X11_lookAt 79 = .ok (.iaload, 1) := by decide +kernel
theorem d_X11_lookAt_80 : decode cm_X11_lookAt 80 = .ok (.iconst 1, 1) := by decide +kernel
theorem d_X11_lookAt_81 : decode cm_X11_lookAt 81 = .ok (.iadd, 1) := by decide +kernel
theorem d_X11_lookAt_82 : decode cm_X11_lookAt 82 = .ok (.iastore, 1) := by decide +kernel
theorem d_X11_lookAt_83 : decode cm_X11_lookAt 83 = .ok (.iload_n 3, 1) := by decide +kernel
theorem d_X11_lookAt_84 : decode cm_X11_lookAt 84 = .ok (.iconst 1, 1) := by decide +kernel
theorem d_X11_lookAt_85 : decode cm_X11_lookAt 85 = .ok (.iadd, 1) := by decide +kernel
theorem d_X11_lookAt_86 : decode cm_X11_lookAt 86 = .ok (.istore 4, 2) := by decide +kernel
theorem d_X11_lookAt_88 : decode cm_X11_lookAt 88 = .ok (.aload_n 0, 1) := by decide +kernel
theorem d_X11_lookAt_89 : decode cm_X11_lookAt 89 = .ok (.getfield 77, 3) := by decide +kernel
theorem d_X11_lookAt_92 : decode cm_X11_lookAt 92 = .ok (.iload 4, 2) := by decide +kernel
theorem d_X11_lookAt_94 : decode cm_X11_lookAt 94 = .ok (.iaload, 1) := by decide +kernel
theorem d_X11_lookAt_95 : decode cm_X11_lookAt 95 = .ok (.ifCond .ne 11, 3) := by decide +kernel
theorem d_X11_lookAt_98 : decode cm_X11_lookAt 98 = .ok (.iload 4, 2) := by decide +kernel
theorem d_X11_lookAt_100 : decode cm_X11_lookAt 100 = .ok (.iload_n 1, 1) := by decide +kernel
theorem d_X11_lookAt_101 : decode cm_X11_lookAt 101 = .ok (.isub, 1) := by decide +kernel
theorem d_X11_lookAt_102 : decode cm_X11_lookAt 102 = .ok (.iload_n 2, 1) := by decide +kernel
theorem d_X11_lookAt_103 : decode cm_X11_lookAt 103 = .ok (.if_icmp .ne 49, 3) := by decide +kernel
theorem d_X11_lookAt_106 : decode cm_X11_lookAt 106 = .ok (.aload_n 0, 1) := by decide +kernel
theorem d_X11_lookAt_107 : decode cm_X11_lookAt 107 = .ok (.getfield 77, 3) := by decide +kernel
theorem d_X11_lookAt_110 : decode cm_X11_lookAt 110 = .ok (.iload 4, 2) := by decide +kernel
theorem d_X11_lookAt_112 : decode cm_X11_lookAt 112 = .ok (.iaload, 1) := by decide +kernel
theorem d_X11_lookAt_113 : decode cm_X11_lookAt 113 = .ok (.ifCond .eq 14, 3) := by decide +kernel
theorem d_X11_lookAt_116 : decode cm_X11_lookAt 116 = .ok (.iconst 2, 1) := by decide +kernel
theorem d_X11_lookAt_117 : decode cm_X11_lookAt 117 = .ok (.aload_n 0, 1) := by decide +kernel
theorem d_X11_lookAt_118 : decode cm_X11_lookAt 118 = .ok (.iload 4, 2) := by decide +kernel
theorem d_X11_lookAt_120 : decode cm_X11_lookAt 120 = .ok (.invokevirtual 254, 3) := by decide +kernel
theorem d_X11_lookAt_123 : decode cm_X11_lookAt 123 = .ok (.isub, 1) := by decide +kernel
theorem d_X11_lookAt_124 : decode cm_X11_lookAt 124 = .ok (.goto 4, 3) := by decide +kernel
theorem d_X11_lookAt_127 : decode cm_X11_lookAt 127 = .ok (.iconst 1, 1) := by decide +kernel
theorem d_X11_lookAt_128 : decode cm_X11_lookAt 128 = .ok (.istore 5, 2) := by decide +kernel
theorem d_X11_lookAt_130 : decode cm_X11_lookAt 130 = .ok (.iload 5, 2) := by decide +kernel
theorem d_X11_lookAt_132 : decode cm_X11_lookAt 132 = .ok (.aload_n 0, 1) := by decide +kernel
theorem d_X11_lookAt_133 : decode cm_X11_lookAt 133 = .ok (.getfield 110, 3) := by decide +kernel
theorem d_X11_lookAt_136 : decode cm_X11_lookAt 136 = .ok (.iload_n 3, 1) := by decide +kernel
theorem d_X11_lookAt_137 : decode cm_X11_lookAt 137 = .ok (.iaload, 1) := by decide +kernel
theorem d_X11_lookAt_138 : decode cm_X11_lookAt 138 = .ok (.if_icmp .le 11, 3) := by decide +kernel
theorem d_X11_lookAt_141 : decode cm_X11_lookAt 141 = .ok (.aload_n 0, 1) := by decide +kernel
theorem d_X11_lookAt_142 : decode cm_X11_lookAt 142 = .ok (.getfield 110, 3) := by decide +kernel
theorem d_X11_lookAt_145 : decode cm_X11_lookAt 145 = .ok (.iload_n 3, 1) := by decide +kernel
theorem d_X11_lookAt_146 : decode cm_X11_lookAt 146 = .ok (.iload 5, 2) := by decide +kernel
theorem d_X11_lookAt_148 : decode cm_X11_lookAt 148 = .ok (.iastore, 1) := by decide +kernel
theorem d_X11_lookAt_149 : decode cm_X11_lookAt 149 = .ok (.goto (-112), 3) := by decide +kernel
theorem d_X11_lookAt_152 : decode cm_X11_lookAt 152 = .ok (.iload 4, 2) := by decide +kernel
theorem d_X11_lookAt_154 : decode cm_X11_lookAt 154 = .ok (.istore_n 3, 1) := by decide +kernel
theorem d_X11_lookAt_155 : decode cm_X11_lookAt 155 = .ok (.aload_n 0, 1) := by decide +kernel
theorem d_X11_lookAt_156 : decode cm_X11_lookAt 156 = .ok (.getfield 107, 3) := by decide +kernel
theorem d_X11_lookAt_159 : decode cm_X11_lookAt 159 = .ok (.iload_n 3, 1) := by decide +kernel
theorem d_X11_lookAt_160 : decode cm_X11_lookAt 160 = .ok (.iconst 0, 1) := by decide +kernel
theorem d_X11_lookAt_161 : decode cm_X11_lookAt 161 = .ok (.iastore, 1) := by decide +kernel
theorem d_X11_lookAt_162 : decode cm_X11_lookAt 162 = .ok (.aload_n 0, 1) := by decide +kernel
theorem d_X11_lookAt_163 : decode cm_X11_lookAt 163 = .ok (.getfield 110, 3) := by decide +kernel
theorem d_X11_lookAt_166 : decode cm_X11_lookAt 166 = .ok (.iload_n 3, 1) := by decide +kernel
theorem d_X11_lookAt_167 : decode cm_X11_lookAt 167 = .ok (.iconst 0, 1) := by decide +kernel
theorem d_X11_lookAt_168 : decode cm_X11_lookAt 168 = .ok (.iastore, 1) := by decide +kernel
theorem d_X11_lookAt_169 : decode cm_X11_lookAt 169 = .ok (.goto (-132), 3) := by decide +kernel
theorem d_X11_lookAt_172 : decode cm_X11_lookAt 172 = .ok (.iload_n 3, 1) := by decide +kernel
theorem d_X11_lookAt_173 : decode cm_X11_lookAt 173 = .ok (.iload_n 1, 1) := by decide +kernel
theorem d_X11_lookAt_174 : decode cm_X11_lookAt 174 = .ok (.if_icmp .ne 10, 3) := by decide +kernel
theorem d_X11_lookAt_177 : decode cm_X11_lookAt 177 = .ok (.aload_n 0, 1) := by decide +kernel
theorem d_X11_lookAt_178 : decode cm_X11_lookAt 178 = .ok (.getfield 110, 3) := by decide +kernel
theorem d_X11_lookAt_181 : decode cm_X11_lookAt 181 = .ok (.iload_n 1, 1) := by decide +kernel
theorem d_X11_lookAt_182 : decode cm_X11_lookAt 182 = .ok (.iaload, 1) := by decide +kernel
theorem d_X11_lookAt_183 : decode cm_X11_lookAt 183 = .ok (.ireturn, 1) := by decide +kernel
theorem d_X11_lookAt_184 : decode cm_X11_lookAt 184 = .ok (.iinc 3 (-1), 3) := by decide +kernel
theorem d_X11_lookAt_187 : decode cm_X11_lookAt 187 = .ok (.iconst 2, 1) := by decide +kernel
theorem d_X11_lookAt_188 : decode cm_X11_lookAt 188 = .ok (.aload_n 0, 1) := by decide +kernel
theorem d_X11_lookAt_189 : decode cm_X11_lookAt 189 = .ok (.getfield 110, 3) := by decide +kernel
theorem d_X11_lookAt_192 : decode cm_X11_lookAt 192 = .ok (.iload_n 3, 1) := by decide +kernel
theorem d_X11_lookAt_193 : decode cm_X11_lookAt 193 = .ok (.iconst 1, 1) := by decide +kernel
theorem d_X11_lookAt_194 : decode cm_X11_lookAt 194 = .ok (.iadd, 1) := by decide +kernel
theorem d_X11_lookAt_195 : decode cm_X11_lookAt 195 = .ok (.iaload, 1) := by decide +kernel
theorem d_X11_lookAt_196 : decode cm_X11_lookAt 196 = .ok (.isub, 1) := by decide +kernel
theorem d_X11_lookAt_197 : decode cm_X11_lookAt 197 = .ok (.aload_n 0, 1) := by decide +kernel
theorem d_X11_lookAt_198 : decode cm_X11_lookAt 198 = .ok (.getfield 110, 3) := by decide +kernel
theorem d_X11_lookAt_201 : decode cm_X11_lookAt 201 = .ok (.iload_n 3, 1) := by decide +kernel
theorem d_X11_lookAt_202 : decode cm_X11_lookAt 202 = .ok (.iaload, 1) := by decide +kernel
theorem d_X11_lookAt_203 : decode cm_X11_lookAt 203 = .ok (.if_icmp .le (-166), 3) := by decide +kernel
theorem d_X11_lookAt_206 : decode cm_X11_lookAt 206 = .ok (.aload_n 0, 1) := by decide +kernel
theorem d_X11_lookAt_207 : decode cm_X11_lookAt 207 = .ok (.getfield 110, 3) := by decide +kernel
theorem d_X11_lookAt_210 : decode cm_X11_lookAt 210 = .ok (.iload_n 3, 1) := by decide +kernel
theorem d_X11_lookAt_211 : decode cm_X11_lookAt 211 = .ok (.iconst 2, 1) := by decide +kernel
theorem d_X11_lookAt_212 : decode cm_X11_lookAt 212 = .ok (.aload_n 0, 1) := by decide +kernel
theorem d_X11_lookAt_213 : decode cm_X11_lookAt 213 = .ok (.getfield 110, 3) := by decide +kernel
theorem d_X11_lookAt_216 : decode cm_X11_lookAt 216 = .ok (.iload_n 3, 1) := by decide +kernel
theorem d_X11_lookAt_217 : decode cm_X11_lookAt 217 = .ok (.iconst 1, 1) := by decide +kernel
theorem d_X11_lookAt_218 : decode cm_X11_lookAt 218 = .ok (.iadd, 1) := by decide +kernel
theorem d_X11_lookAt_219 : decode cm_X11_lookAt 219 = .ok (.iaload, 1) := by decide +kernel
theorem d_X11_lookAt_220 : decode cm_X11_lookAt 220 = .ok (.isub, 1) := by decide +kernel
theorem d_X11_lookAt_221 : decode cm_X11_lookAt 221 = .ok (.iastore, 1) := by decide +kernel
theorem d_X11_lookAt_222 : decode cm_X11_lookAt 222 = .ok (.goto (-185), 3) := by decide +kernel
def D_X11_lookAt_172 (K37 : Int32 → Int32 → Int32 → GSt → Prop) (Q : Int32 → GSt → Prop) (x1 : Int32) (x2 : Int32) (x3 : Int32) (σ : GSt) : Prop :=
  (¬ x3 = x1 → ∀ x3_1 : Int32, x3_1 = x3 + (-1) → (vp_in (x3_1 + 1) 9 ∧ (vp_in x3_1 9 ∧ (((2 - (σ 271 (Int32.toNatClampNeg (x3_1 + 1)))) ≤ (σ 271 (Int32.toNatClampNeg x3_1)) → K37 x1 x2 x3_1 σ) ∧
  (¬ (2 - (σ 271 (Int32.toNatClampNeg (x3_1 + 1)))) ≤ (σ 271 (Int32.toNatClampNeg x3_1)) → vp_in (x3_1 + 1) 9 ∧ (vp_in x3_1 9 ∧ (∀ σ_2 : GSt, σ_2 = up2 σ 271 (Int32.toNatClampNeg x3_1) (2 - (σ 271 (Int32.toNatClampNeg (x3_1 + 1)))) → (K37 x1 x2 x3_1 σ_2)))))))) ∧
  (x3 = x1 → vp_in x1 9 ∧ (Q (σ 271 (Int32.toNatClampNeg x1)) σ))
def D_X11_lookAt_149 (K37 : Int32 → Int32 → Int32 → GSt → Prop) (Q : Int32 → GSt → Prop) (x1 : Int32) (x2 : Int32) (x3 : Int32) (σ : GSt) : Prop :=
  K37 x1 x2 x3 σ
def D_X11_lookAt_128 (K37 : Int32 → Int32 → Int32 → GSt → Prop) (Q : Int32 → GSt → Prop) (x1 : Int32) (x2 : Int32) (x3 : Int32) (s0 : Int32) (σ : GSt) : Prop :=
  vp_in x3 9 ∧ ((s0 ≤ (σ 271 (Int32.toNatClampNeg x3)) → D_X11_lookAt_149 K37 Q x1 x2 x3 σ) ∧
  (¬ s0 ≤ (σ 271 (Int32.toNatClampNeg x3)) → vp_in x3 9 ∧ (∀ σ_1 : GSt, σ_1 = up2 σ 271 (Int32.toNatClampNeg x3) s0 → (D_X11_lookAt_149 K37 Q x1 x2 x3 σ_1))))
def D_X11_lookAt_106 (K37 : Int32 → Int32 → Int32 → GSt → Prop) (Q : Int32 → GSt → Prop) (x1 : Int32) (x2 : Int32) (x3 : Int32) (x4 : Int32) (σ : GSt) : Prop :=
  vp_in x4 9 ∧ (((σ 260 (Int32.toNatClampNeg x4)) = 0 → D_X11_lookAt_128 K37 Q x1 x2 x3 1 σ) ∧
  (¬ (σ 260 (Int32.toNatClampNeg x4)) = 0 → D_X11_asEnded x4 σ (fun r_1 σ_2 => D_X11_lookAt_128 K37 Q x1 x2 x3 (2 - r_1) σ_2)))
def D_X11_lookAt_37 (K37 : Int32 → Int32 → Int32 → GSt → Prop) (Q : Int32 → GSt → Prop) (x1 : Int32) (x2 : Int32) (x3 : Int32) (σ : GSt) : Prop :=
  vp_in x3 9 ∧ (vp_in x3 9 ∧ (((σ 266 (Int32.toNatClampNeg x3)) ≤ (σ 270 (Int32.toNatClampNeg x3)) → D_X11_lookAt_172 K37 Q x1 x2 x3 σ) ∧
  (¬ (σ 266 (Int32.toNatClampNeg x3)) ≤ (σ 270 (Int32.toNatClampNeg x3)) → vp_in x3 9 ∧ ((2 ≤ (σ 271 (Int32.toNatClampNeg x3)) → D_X11_lookAt_172 K37 Q x1 x2 x3 σ) ∧
  (¬ 2 ≤ (σ 271 (Int32.toNatClampNeg x3)) → vp_in x3 9 ∧ (D_X11_does x3 (σ 270 (Int32.toNatClampNeg x3)) σ (fun σ_1 => vp_in x3 9 ∧ (vp_in x3 9 ∧ (∀ σ_2 : GSt, σ_2 = up2 σ_1 270 (Int32.toNatClampNeg x3) ((σ_1 270 (Int32.toNatClampNeg x3)) + 1) → (∀ x4_3 : Int32, x4_3 = (x3 + 1) → (vp_in x4_3 9 ∧ ((¬ (σ_2 260 (Int32.toNatClampNeg x4_3)) = 0 → D_X11_lookAt_106 K37 Q x1 x2 x3 x4_3 σ_2) ∧
  ((σ_2 260 (Int32.toNatClampNeg x4_3)) = 0 → (¬ (x4_3 - x1) = x2 → vp_in x4_3 9 ∧ (∀ σ_4 : GSt, σ_4 = up2 σ_2 270 (Int32.toNatClampNeg x4_3) 0 → (vp_in x4_3 9 ∧ (∀ σ_5 : GSt, σ_5 = up2 σ_4 271 (Int32.toNatClampNeg x4_3) 0 → (K37 x1 x2 x4_3 σ_5))))) ∧
  ((x4_3 - x1) = x2 → D_X11_lookAt_106 K37 Q x1 x2 x3 x4_3 σ_2))))))))))))))
def L_X11_lookAt_37 (Q : Int32 → GSt → Prop) : Nat → Int32 → Int32 → Int32 → GSt → Prop
  | 0 => fun _ _ _ _ => False
  | n + 1 => fun x1 x2 x3 σ => D_X11_lookAt_37 (L_X11_lookAt_37 Q n) Q x1 x2 x3 σ
def D_X11_lookAt_0 (Q : Int32 → GSt → Prop) (x1 : Int32) (x2 : Int32) (σ : GSt) : Prop :=
  vp_in x1 9 ∧ (((σ 260 (Int32.toNatClampNeg x1)) = 0 → (¬ x2 = 0 → vp_in x1 9 ∧ (∀ σ_1 : GSt, σ_1 = up2 σ 270 (Int32.toNatClampNeg x1) 0 → (vp_in x1 9 ∧ (∀ σ_2 : GSt, σ_2 = up2 σ_1 271 (Int32.toNatClampNeg x1) 0 → (∃ n : Nat, L_X11_lookAt_37 Q n x1 x2 x1 σ_2))))) ∧
  (x2 = 0 → Q 1 σ)) ∧
  (¬ (σ 260 (Int32.toNatClampNeg x1)) = 0 → D_X11_asEnded x1 σ (fun r_3 σ_4 => Q r_3 σ_4)))
def D_X11_lookAt (x1 : Int32) (x2 : Int32) (σ : GSt) (Q : Int32 → GSt → Prop) : Prop := D_X11_lookAt_0 Q x1 x2 σ
set_option maxRecDepth 20000 in
set_option maxHeartbeats 4000000 in
theorem s_X11_lookAt_172 {p : Program} {l : Launch} {e : Env} {s : State} {m : MethodId} {args : Array Value} {below : List Frame} {meth : Method} {c : Code} {G : GC} (X : CallFix p m c cm_X11_lookAt 6 s args lw_us "GameLoomModel") (hr : meth.sig.returnType = some .int) (hlk : meth.locks = false) (K37 : Int32 → Int32 → Int32 → GSt → Prop) (Q : Int32 → GSt → Prop) (hK37 : ∀ (x1 : Int32) (x2 : Int32) (x3 : Int32) (σ : GSt) (H : Heap) (locs : List Loc) (ls : Array Slot), Wo G s H locs σ → lv_has ls 6 [(0, .ref (G.2.1 237)), (1, .int x1), (2, .int x2), (3, .int x3)] → K37 x1 x2 x3 σ → W p l e rm_X11_lookAt s m args below meth c H locs 0 0 (QMI G Q below args s) (F0 m 37 ls [])) (x1 : Int32) (x2 : Int32) (x3 : Int32) (σ : GSt) {H : Heap} {locs : List Loc} {ls : Array Slot} (hw : Wo G s H locs σ) (hl : lv_has ls 6 [(0, .ref (G.2.1 237)), (1, .int x1), (2, .int x2), (3, .int x3)]) (hD : D_X11_lookAt_172 K37 Q x1 x2 x3 σ) : W p l e rm_X11_lookAt s m args below meth c H locs 0 0 (QMI G Q below args s) (F0 m 172 ls []) := by
  unfold D_X11_lookAt_172 at hD
  refine lv_iload_n X.1 X.2.1 d_X11_lookAt_172 rfl (lv_at hl 3 rfl) ?_
  refine lv_iload_n X.1 X.2.1 d_X11_lookAt_173 rfl (lv_at hl 1 rfl) ?_
  refine lv_icmp_ne (tgt := 184) X.1 X.2.1 d_X11_lookAt_174 (by decide) (fun q_174 => ?_) (fun q_174 => ?_)
  · have hD := hD.1 q_174
    obtain ⟨x3_1, e_x3_1⟩ : ∃ y : Int32, y = x3 + (-1) := ⟨_, rfl⟩
    have hD := hD x3_1 e_x3_1
    refine lv_iinc (v := x3_1) (lv' := [(3, .int x3_1), (0, .ref (G.2.1 237)), (1, .int x1), (2, .int x2)]) X.1 X.2.1 d_X11_lookAt_184 hl (k := 3) rfl (by rw [e_x3_1]; rfl) (by decide) rfl (fun ls hl => ?_)
    refine lv_iconst (v := 2) X.1 X.2.1 d_X11_lookAt_187 (by decide) ?_
    refine lv_aload_n X.1 X.2.1 d_X11_lookAt_188 rfl (lv_at hl 1 rfl) ?_
    refine gf_11_37 X hw (by decide +kernel : kd 237 = 11) tb_943 d_X11_lookAt_189 ?_
    refine lv_iload_n X.1 X.2.1 d_X11_lookAt_192 rfl (lv_at hl 0 rfl) ?_
    refine lv_iconst (v := 1) X.1 X.2.1 d_X11_lookAt_193 (by decide) ?_
    refine lv_iadd X.1 X.2.1 d_X11_lookAt_194 ?_
    obtain ⟨q_195, hD⟩ := hD
    refine g_iald X hw ly_11_37.1 ly_11_37.2 q_195 d_X11_lookAt_195 ?_
    refine lv_isub X.1 X.2.1 d_X11_lookAt_196 ?_
    refine lv_aload_n X.1 X.2.1 d_X11_lookAt_197 rfl (lv_at hl 1 rfl) ?_
    refine gf_11_37 X hw (by decide +kernel : kd 237 = 11) tb_943 d_X11_lookAt_198 ?_
    refine lv_iload_n X.1 X.2.1 d_X11_lookAt_201 rfl (lv_at hl 0 rfl) ?_
    obtain ⟨q_202, hD⟩ := hD
    refine g_iald X hw ly_11_37.1 ly_11_37.2 q_202 d_X11_lookAt_202 ?_
    refine lv_icmp_le (tgt := 37) X.1 X.2.1 d_X11_lookAt_203 (by decide) (fun q_203 => ?_) (fun q_203 => ?_)
    · have hD := hD.1 q_203
      exact hK37 x1 x2 x3_1 σ _ _ _  hw (lv_sub hl [1, 2, 3, 0] rfl) hD
    · have hD := hD.2 q_203
      refine lv_aload_n X.1 X.2.1 d_X11_lookAt_206 rfl (lv_at hl 1 rfl) ?_
      refine gf_11_37 X hw (by decide +kernel : kd 237 = 11) tb_943 d_X11_lookAt_207 ?_
      refine lv_iload_n X.1 X.2.1 d_X11_lookAt_210 rfl (lv_at hl 0 rfl) ?_
      refine lv_iconst (v := 2) X.1 X.2.1 d_X11_lookAt_211 (by decide) ?_
      refine lv_aload_n X.1 X.2.1 d_X11_lookAt_212 rfl (lv_at hl 1 rfl) ?_
      refine gf_11_37 X hw (by decide +kernel : kd 237 = 11) tb_943 d_X11_lookAt_213 ?_
      refine lv_iload_n X.1 X.2.1 d_X11_lookAt_216 rfl (lv_at hl 0 rfl) ?_
      refine lv_iconst (v := 1) X.1 X.2.1 d_X11_lookAt_217 (by decide) ?_
      refine lv_iadd X.1 X.2.1 d_X11_lookAt_218 ?_
      obtain ⟨q_219, hD⟩ := hD
      refine g_iald X hw ly_11_37.1 ly_11_37.2 q_219 d_X11_lookAt_219 ?_
      refine lv_isub X.1 X.2.1 d_X11_lookAt_220 ?_
      obtain ⟨q_221, hD⟩ := hD
      refine g_iast X hw ly_11_37.1 ly_11_37.2 q_221 d_X11_lookAt_221 (fun H locs hw => ?_)
      obtain ⟨σ_2, e_σ_2⟩ : ∃ z : GSt, z = up2 σ 271 (Int32.toNatClampNeg x3_1) (2 - (σ 271 (Int32.toNatClampNeg (x3_1 + 1)))) := ⟨_, rfl⟩
      rw [← e_σ_2] at hw
      have hD := hD σ_2 e_σ_2
      refine lv_goto (tgt := 37) X.1 X.2.1 d_X11_lookAt_222 (by decide) ?_
      exact hK37 x1 x2 x3_1 σ_2 _ _ _  hw (lv_sub hl [1, 2, 3, 0] rfl) hD
  · have hD := hD.2 q_174
    refine lv_aload_n X.1 X.2.1 d_X11_lookAt_177 rfl (lv_at hl 0 rfl) ?_
    refine gf_11_37 X hw (by decide +kernel : kd 237 = 11) tb_943 d_X11_lookAt_178 ?_
    refine lv_iload_n X.1 X.2.1 d_X11_lookAt_181 rfl (lv_at hl 1 rfl) ?_
    obtain ⟨q_182, hD⟩ := hD
    refine g_iald X hw ly_11_37.1 ly_11_37.2 q_182 d_X11_lookAt_182 ?_
    exact g_iret X hr hlk hw hD d_X11_lookAt_183
set_option maxRecDepth 20000 in
set_option maxHeartbeats 4000000 in
theorem s_X11_lookAt_149 {p : Program} {l : Launch} {e : Env} {s : State} {m : MethodId} {args : Array Value} {below : List Frame} {meth : Method} {c : Code} {G : GC} (X : CallFix p m c cm_X11_lookAt 6 s args lw_us "GameLoomModel") (hr : meth.sig.returnType = some .int) (hlk : meth.locks = false) (K37 : Int32 → Int32 → Int32 → GSt → Prop) (Q : Int32 → GSt → Prop) (hK37 : ∀ (x1 : Int32) (x2 : Int32) (x3 : Int32) (σ : GSt) (H : Heap) (locs : List Loc) (ls : Array Slot), Wo G s H locs σ → lv_has ls 6 [(0, .ref (G.2.1 237)), (1, .int x1), (2, .int x2), (3, .int x3)] → K37 x1 x2 x3 σ → W p l e rm_X11_lookAt s m args below meth c H locs 0 0 (QMI G Q below args s) (F0 m 37 ls [])) (x1 : Int32) (x2 : Int32) (x3 : Int32) (σ : GSt) {H : Heap} {locs : List Loc} {ls : Array Slot} (hw : Wo G s H locs σ) (hl : lv_has ls 6 [(0, .ref (G.2.1 237)), (1, .int x1), (2, .int x2), (3, .int x3)]) (hD : D_X11_lookAt_149 K37 Q x1 x2 x3 σ) : W p l e rm_X11_lookAt s m args below meth c H locs 0 0 (QMI G Q below args s) (F0 m 149 ls []) := by
  unfold D_X11_lookAt_149 at hD
  refine lv_goto (tgt := 37) X.1 X.2.1 d_X11_lookAt_149 (by decide) ?_
  exact hK37 x1 x2 x3 σ _ _ _  hw (lv_sub hl [0, 1, 2, 3] rfl) hD
set_option maxRecDepth 20000 in
set_option maxHeartbeats 4000000 in
theorem s_X11_lookAt_128 {p : Program} {l : Launch} {e : Env} {s : State} {m : MethodId} {args : Array Value} {below : List Frame} {meth : Method} {c : Code} {G : GC} (X : CallFix p m c cm_X11_lookAt 6 s args lw_us "GameLoomModel") (hr : meth.sig.returnType = some .int) (hlk : meth.locks = false) (K37 : Int32 → Int32 → Int32 → GSt → Prop) (Q : Int32 → GSt → Prop) (hK37 : ∀ (x1 : Int32) (x2 : Int32) (x3 : Int32) (σ : GSt) (H : Heap) (locs : List Loc) (ls : Array Slot), Wo G s H locs σ → lv_has ls 6 [(0, .ref (G.2.1 237)), (1, .int x1), (2, .int x2), (3, .int x3)] → K37 x1 x2 x3 σ → W p l e rm_X11_lookAt s m args below meth c H locs 0 0 (QMI G Q below args s) (F0 m 37 ls [])) (x1 : Int32) (x2 : Int32) (x3 : Int32) (s0 : Int32) (σ : GSt) {H : Heap} {locs : List Loc} {ls : Array Slot} (hw : Wo G s H locs σ) (hl : lv_has ls 6 [(0, .ref (G.2.1 237)), (1, .int x1), (2, .int x2), (3, .int x3)]) (hD : D_X11_lookAt_128 K37 Q x1 x2 x3 s0 σ) : W p l e rm_X11_lookAt s m args below meth c H locs 0 0 (QMI G Q below args s) (F0 m 128 ls [.int s0]) := by
  unfold D_X11_lookAt_128 at hD
  refine lv_istore (lv' := [(5, .int s0), (0, .ref (G.2.1 237)), (1, .int x1), (2, .int x2), (3, .int x3)]) X.1 X.2.1 d_X11_lookAt_128 hl (by decide) rfl (fun ls hl => ?_)
  refine lv_iload X.1 X.2.1 d_X11_lookAt_130 (lv_at hl 0 rfl) ?_
  refine lv_aload_n X.1 X.2.1 d_X11_lookAt_132 rfl (lv_at hl 1 rfl) ?_
  refine gf_11_37 X hw (by decide +kernel : kd 237 = 11) tb_943 d_X11_lookAt_133 ?_
  refine lv_iload_n X.1 X.2.1 d_X11_lookAt_136 rfl (lv_at hl 4 rfl) ?_
  obtain ⟨q_137, hD⟩ := hD
  refine g_iald X hw ly_11_37.1 ly_11_37.2 q_137 d_X11_lookAt_137 ?_
  refine lv_icmp_le (tgt := 149) X.1 X.2.1 d_X11_lookAt_138 (by decide) (fun q_138 => ?_) (fun q_138 => ?_)
  · have hD := hD.1 q_138
    exact s_X11_lookAt_149 X hr hlk K37 Q hK37 x1 x2 x3 σ hw (lv_sub hl [1, 2, 3, 4] rfl) hD
  · have hD := hD.2 q_138
    refine lv_aload_n X.1 X.2.1 d_X11_lookAt_141 rfl (lv_at hl 1 rfl) ?_
    refine gf_11_37 X hw (by decide +kernel : kd 237 = 11) tb_943 d_X11_lookAt_142 ?_
    refine lv_iload_n X.1 X.2.1 d_X11_lookAt_145 rfl (lv_at hl 4 rfl) ?_
    refine lv_iload X.1 X.2.1 d_X11_lookAt_146 (lv_at hl 0 rfl) ?_
    obtain ⟨q_148, hD⟩ := hD
    refine g_iast X hw ly_11_37.1 ly_11_37.2 q_148 d_X11_lookAt_148 (fun H locs hw => ?_)
    obtain ⟨σ_1, e_σ_1⟩ : ∃ z : GSt, z = up2 σ 271 (Int32.toNatClampNeg x3) s0 := ⟨_, rfl⟩
    rw [← e_σ_1] at hw
    have hD := hD σ_1 e_σ_1
    exact s_X11_lookAt_149 X hr hlk K37 Q hK37 x1 x2 x3 σ_1 hw (lv_sub hl [1, 2, 3, 4] rfl) hD
set_option maxRecDepth 20000 in
set_option maxHeartbeats 4000000 in
theorem s_X11_lookAt_106 {p : Program} {l : Launch} {e : Env} {s : State} {m : MethodId} {args : Array Value} {below : List Frame} {meth : Method} {c : Code} {G : GC} (X : CallFix p m c cm_X11_lookAt 6 s args lw_us "GameLoomModel") (hr : meth.sig.returnType = some .int) (hlk : meth.locks = false) (K37 : Int32 → Int32 → Int32 → GSt → Prop) (Q : Int32 → GSt → Prop) (hK37 : ∀ (x1 : Int32) (x2 : Int32) (x3 : Int32) (σ : GSt) (H : Heap) (locs : List Loc) (ls : Array Slot), Wo G s H locs σ → lv_has ls 6 [(0, .ref (G.2.1 237)), (1, .int x1), (2, .int x2), (3, .int x3)] → K37 x1 x2 x3 σ → W p l e rm_X11_lookAt s m args below meth c H locs 0 0 (QMI G Q below args s) (F0 m 37 ls [])) (x1 : Int32) (x2 : Int32) (x3 : Int32) (x4 : Int32) (σ : GSt) {H : Heap} {locs : List Loc} {ls : Array Slot} (hw : Wo G s H locs σ) (hl : lv_has ls 6 [(0, .ref (G.2.1 237)), (1, .int x1), (2, .int x2), (3, .int x3), (4, .int x4)]) (hD : D_X11_lookAt_106 K37 Q x1 x2 x3 x4 σ) : W p l e rm_X11_lookAt s m args below meth c H locs 0 0 (QMI G Q below args s) (F0 m 106 ls []) := by
  unfold D_X11_lookAt_106 at hD
  refine lv_aload_n X.1 X.2.1 d_X11_lookAt_106 rfl (lv_at hl 0 rfl) ?_
  refine gf_11_26 X hw (by decide +kernel : kd 237 = 11) tb_932 d_X11_lookAt_107 ?_
  refine lv_iload X.1 X.2.1 d_X11_lookAt_110 (lv_at hl 4 rfl) ?_
  obtain ⟨q_112, hD⟩ := hD
  refine g_iald X hw ly_11_26.1 ly_11_26.2 q_112 d_X11_lookAt_112 ?_
  refine lv_if_eq (tgt := 127) X.1 X.2.1 d_X11_lookAt_113 (by decide) (fun q_113 => ?_) (fun q_113 => ?_)
  · have hD := hD.1 q_113
    refine lv_iconst (v := 1) X.1 X.2.1 d_X11_lookAt_127 (by decide) ?_
    exact s_X11_lookAt_128 X hr hlk K37 Q hK37 x1 x2 x3 1 σ hw (lv_sub hl [0, 1, 2, 3] rfl) hD
  · have hD := hD.2 q_113
    refine lv_iconst (v := 2) X.1 X.2.1 d_X11_lookAt_116 (by decide) ?_
    refine lv_aload_n X.1 X.2.1 d_X11_lookAt_117 rfl (lv_at hl 0 rfl) ?_
    refine lv_iload X.1 X.2.1 d_X11_lookAt_118 (lv_at hl 4 rfl) ?_
    refine gcV_i (rest := [.int 2]) (As := [.int x4]) (o := 237) X hw (c_X11_asEnded l G x4 σ _  hD) (kd_lt (by decide +kernel : kd 237 = 11) (by decide)) (ce_11 G _ (by decide +kernel : kd 237 = 11)) rfl tb_1269 tb_1271 tv_70 tb_12 tb_1272 hd_X11_asEnded ⟨rfl, rfl⟩ ⟨Nat.le_of_ble_eq_true rfl, Nat.le_of_ble_eq_true rfl⟩ rfl hl.1 rfl (Nat.le_of_ble_eq_true rfl) d_X11_lookAt_120 (fun r_1 σ_2 H locs hD hw => ?_)
    refine lv_isub X.1 X.2.1 d_X11_lookAt_123 ?_
    refine lv_goto (tgt := 128) X.1 X.2.1 d_X11_lookAt_124 (by decide) ?_
    exact s_X11_lookAt_128 X hr hlk K37 Q hK37 x1 x2 x3 (2 - r_1) σ_2 hw (lv_sub hl [0, 1, 2, 3] rfl) hD
set_option maxRecDepth 20000 in
set_option maxHeartbeats 4000000 in
theorem s_X11_lookAt_37 {p : Program} {l : Launch} {e : Env} {s : State} {m : MethodId} {args : Array Value} {below : List Frame} {meth : Method} {c : Code} {G : GC} (X : CallFix p m c cm_X11_lookAt 6 s args lw_us "GameLoomModel") (hr : meth.sig.returnType = some .int) (hlk : meth.locks = false) (K37 : Int32 → Int32 → Int32 → GSt → Prop) (Q : Int32 → GSt → Prop) (hK37 : ∀ (x1 : Int32) (x2 : Int32) (x3 : Int32) (σ : GSt) (H : Heap) (locs : List Loc) (ls : Array Slot), Wo G s H locs σ → lv_has ls 6 [(0, .ref (G.2.1 237)), (1, .int x1), (2, .int x2), (3, .int x3)] → K37 x1 x2 x3 σ → W p l e rm_X11_lookAt s m args below meth c H locs 0 0 (QMI G Q below args s) (F0 m 37 ls [])) (x1 : Int32) (x2 : Int32) (x3 : Int32) (σ : GSt) {H : Heap} {locs : List Loc} {ls : Array Slot} (hw : Wo G s H locs σ) (hl : lv_has ls 6 [(0, .ref (G.2.1 237)), (1, .int x1), (2, .int x2), (3, .int x3)]) (hD : D_X11_lookAt_37 K37 Q x1 x2 x3 σ) : W p l e rm_X11_lookAt s m args below meth c H locs 0 0 (QMI G Q below args s) (F0 m 37 ls []) := by
  unfold D_X11_lookAt_37 at hD
  refine lv_aload_n X.1 X.2.1 d_X11_lookAt_37 rfl (lv_at hl 0 rfl) ?_
  refine gf_11_36 X hw (by decide +kernel : kd 237 = 11) tb_942 d_X11_lookAt_38 ?_
  refine lv_iload_n X.1 X.2.1 d_X11_lookAt_41 rfl (lv_at hl 3 rfl) ?_
  obtain ⟨q_42, hD⟩ := hD
  refine g_iald X hw ly_11_36.1 ly_11_36.2 q_42 d_X11_lookAt_42 ?_
  refine lv_aload_n X.1 X.2.1 d_X11_lookAt_43 rfl (lv_at hl 0 rfl) ?_
  refine gf_11_32 X hw (by decide +kernel : kd 237 = 11) tb_938 d_X11_lookAt_44 ?_
  refine lv_iload_n X.1 X.2.1 d_X11_lookAt_47 rfl (lv_at hl 3 rfl) ?_
  obtain ⟨q_48, hD⟩ := hD
  refine g_iald X hw ly_11_32.1 ly_11_32.2 q_48 d_X11_lookAt_48 ?_
  refine lv_icmp_ge (tgt := 172) X.1 X.2.1 d_X11_lookAt_49 (by decide) (fun q_49 => ?_) (fun q_49 => ?_)
  · have hD := hD.1 q_49
    exact s_X11_lookAt_172 X hr hlk K37 Q hK37 x1 x2 x3 σ hw (lv_sub hl [0, 1, 2, 3] rfl) hD
  · have hD := hD.2 q_49
    refine lv_aload_n X.1 X.2.1 d_X11_lookAt_52 rfl (lv_at hl 0 rfl) ?_
    refine gf_11_37 X hw (by decide +kernel : kd 237 = 11) tb_943 d_X11_lookAt_53 ?_
    refine lv_iload_n X.1 X.2.1 d_X11_lookAt_56 rfl (lv_at hl 3 rfl) ?_
    obtain ⟨q_57, hD⟩ := hD
    refine g_iald X hw ly_11_37.1 ly_11_37.2 q_57 d_X11_lookAt_57 ?_
    refine lv_iconst (v := 2) X.1 X.2.1 d_X11_lookAt_58 (by decide) ?_
    refine lv_icmp_ge (tgt := 172) X.1 X.2.1 d_X11_lookAt_59 (by decide) (fun q_59 => ?_) (fun q_59 => ?_)
    · have hD := hD.1 q_59
      exact s_X11_lookAt_172 X hr hlk K37 Q hK37 x1 x2 x3 σ hw (lv_sub hl [0, 1, 2, 3] rfl) hD
    · have hD := hD.2 q_59
      refine lv_aload_n X.1 X.2.1 d_X11_lookAt_62 rfl (lv_at hl 0 rfl) ?_
      refine lv_iload_n X.1 X.2.1 d_X11_lookAt_63 rfl (lv_at hl 3 rfl) ?_
      refine lv_aload_n X.1 X.2.1 d_X11_lookAt_64 rfl (lv_at hl 0 rfl) ?_
      refine gf_11_36 X hw (by decide +kernel : kd 237 = 11) tb_942 d_X11_lookAt_65 ?_
      refine lv_iload_n X.1 X.2.1 d_X11_lookAt_68 rfl (lv_at hl 3 rfl) ?_
      obtain ⟨q_69, hD⟩ := hD
      refine g_iald X hw ly_11_36.1 ly_11_36.2 q_69 d_X11_lookAt_69 ?_
      refine gcV_v (rest := []) (As := [.int x3, .int (σ 270 (Int32.toNatClampNeg x3))]) (o := 237) X hw (c_X11_does l G x3 (σ 270 (Int32.toNatClampNeg x3)) σ _  hD) (kd_lt (by decide +kernel : kd 237 = 11) (by decide)) (ce_11 G _ (by decide +kernel : kd 237 = 11)) rfl tb_1208 tb_1210 tv_60 tb_12 tb_1211 hd_X11_does ⟨rfl, rfl⟩ ⟨Nat.le_of_ble_eq_true rfl, Nat.le_of_ble_eq_true rfl⟩ rfl hl.1 rfl (Nat.le_of_ble_eq_true rfl) d_X11_lookAt_70 (fun σ_1 H locs hD hw => ?_)
      refine lv_aload_n X.1 X.2.1 d_X11_lookAt_73 rfl (lv_at hl 0 rfl) ?_
      refine gf_11_36 X hw (by decide +kernel : kd 237 = 11) tb_942 d_X11_lookAt_74 ?_
      refine lv_iload_n X.1 X.2.1 d_X11_lookAt_77 rfl (lv_at hl 3 rfl) ?_
      refine lv_dup2_11 X.1 X.2.1 d_X11_lookAt_78 rfl rfl ?_
      obtain ⟨q_79, hD⟩ := hD
      refine g_iald X hw ly_11_36.1 ly_11_36.2 q_79 d_X11_lookAt_79 ?_
      refine lv_iconst (v := 1) X.1 X.2.1 d_X11_lookAt_80 (by decide) ?_
      refine lv_iadd X.1 X.2.1 d_X11_lookAt_81 ?_
      obtain ⟨q_82, hD⟩ := hD
      refine g_iast X hw ly_11_36.1 ly_11_36.2 q_82 d_X11_lookAt_82 (fun H locs hw => ?_)
      obtain ⟨σ_2, e_σ_2⟩ : ∃ z : GSt, z = up2 σ_1 270 (Int32.toNatClampNeg x3) ((σ_1 270 (Int32.toNatClampNeg x3)) + 1) := ⟨_, rfl⟩
      rw [← e_σ_2] at hw
      have hD := hD σ_2 e_σ_2
      refine lv_iload_n X.1 X.2.1 d_X11_lookAt_83 rfl (lv_at hl 3 rfl) ?_
      refine lv_iconst (v := 1) X.1 X.2.1 d_X11_lookAt_84 (by decide) ?_
      refine lv_iadd X.1 X.2.1 d_X11_lookAt_85 ?_
      refine lv_topi (fun x4_3 e_x4_3 => ?_)
      have hD := hD x4_3 e_x4_3
      refine lv_istore (lv' := [(4, .int x4_3), (0, .ref (G.2.1 237)), (1, .int x1), (2, .int x2), (3, .int x3)]) X.1 X.2.1 d_X11_lookAt_86 hl (by decide) rfl (fun ls hl => ?_)
      refine lv_aload_n X.1 X.2.1 d_X11_lookAt_88 rfl (lv_at hl 1 rfl) ?_
      refine gf_11_26 X hw (by decide +kernel : kd 237 = 11) tb_932 d_X11_lookAt_89 ?_
      refine lv_iload X.1 X.2.1 d_X11_lookAt_92 (lv_at hl 0 rfl) ?_
      obtain ⟨q_94, hD⟩ := hD
      refine g_iald X hw ly_11_26.1 ly_11_26.2 q_94 d_X11_lookAt_94 ?_
      refine lv_if_ne (tgt := 106) X.1 X.2.1 d_X11_lookAt_95 (by decide) (fun q_95 => ?_) (fun q_95 => ?_)
      · have hD := hD.1 q_95
        exact s_X11_lookAt_106 X hr hlk K37 Q hK37 x1 x2 x3 x4_3 σ_2 hw (lv_sub hl [1, 2, 3, 4, 0] rfl) hD
      · have hD := hD.2 q_95
        refine lv_iload X.1 X.2.1 d_X11_lookAt_98 (lv_at hl 0 rfl) ?_
        refine lv_iload_n X.1 X.2.1 d_X11_lookAt_100 rfl (lv_at hl 2 rfl) ?_
        refine lv_isub X.1 X.2.1 d_X11_lookAt_101 ?_
        refine lv_iload_n X.1 X.2.1 d_X11_lookAt_102 rfl (lv_at hl 3 rfl) ?_
        refine lv_icmp_ne (tgt := 152) X.1 X.2.1 d_X11_lookAt_103 (by decide) (fun q_103 => ?_) (fun q_103 => ?_)
        · have hD := hD.1 q_103
          refine lv_iload X.1 X.2.1 d_X11_lookAt_152 (lv_at hl 0 rfl) ?_
          refine lv_istore_n (lv' := [(3, .int x4_3), (4, .int x4_3), (0, .ref (G.2.1 237)), (1, .int x1), (2, .int x2)]) X.1 X.2.1 d_X11_lookAt_154 rfl hl (by decide) rfl (fun ls hl => ?_)
          refine lv_aload_n X.1 X.2.1 d_X11_lookAt_155 rfl (lv_at hl 2 rfl) ?_
          refine gf_11_36 X hw (by decide +kernel : kd 237 = 11) tb_942 d_X11_lookAt_156 ?_
          refine lv_iload_n X.1 X.2.1 d_X11_lookAt_159 rfl (lv_at hl 0 rfl) ?_
          refine lv_iconst (v := 0) X.1 X.2.1 d_X11_lookAt_160 (by decide) ?_
          obtain ⟨q_161, hD⟩ := hD
          refine g_iast X hw ly_11_36.1 ly_11_36.2 q_161 d_X11_lookAt_161 (fun H locs hw => ?_)
          obtain ⟨σ_4, e_σ_4⟩ : ∃ z : GSt, z = up2 σ_2 270 (Int32.toNatClampNeg x4_3) 0 := ⟨_, rfl⟩
          rw [← e_σ_4] at hw
          have hD := hD σ_4 e_σ_4
          refine lv_aload_n X.1 X.2.1 d_X11_lookAt_162 rfl (lv_at hl 2 rfl) ?_
          refine gf_11_37 X hw (by decide +kernel : kd 237 = 11) tb_943 d_X11_lookAt_163 ?_
          refine lv_iload_n X.1 X.2.1 d_X11_lookAt_166 rfl (lv_at hl 0 rfl) ?_
          refine lv_iconst (v := 0) X.1 X.2.1 d_X11_lookAt_167 (by decide) ?_
          obtain ⟨q_168, hD⟩ := hD
          refine g_iast X hw ly_11_37.1 ly_11_37.2 q_168 d_X11_lookAt_168 (fun H locs hw => ?_)
          obtain ⟨σ_5, e_σ_5⟩ : ∃ z : GSt, z = up2 σ_4 271 (Int32.toNatClampNeg x4_3) 0 := ⟨_, rfl⟩
          rw [← e_σ_5] at hw
          have hD := hD σ_5 e_σ_5
          refine lv_goto (tgt := 37) X.1 X.2.1 d_X11_lookAt_169 (by decide) ?_
          exact hK37 x1 x2 x4_3 σ_5 _ _ _  hw (lv_sub hl [2, 3, 4, 0] rfl) hD
        · have hD := hD.2 q_103
          exact s_X11_lookAt_106 X hr hlk K37 Q hK37 x1 x2 x3 x4_3 σ_2 hw (lv_sub hl [1, 2, 3, 4, 0] rfl) hD
set_option maxRecDepth 20000 in
set_option maxHeartbeats 4000000 in
theorem sl_X11_lookAt_37 {p : Program} {l : Launch} {e : Env} {s : State} {m : MethodId} {args : Array Value} {below : List Frame} {meth : Method} {c : Code} {G : GC} (X : CallFix p m c cm_X11_lookAt 6 s args lw_us "GameLoomModel") (hr : meth.sig.returnType = some .int) (hlk : meth.locks = false) (Q : Int32 → GSt → Prop) : ∀ (nn : Nat), ∀ (x1 : Int32) (x2 : Int32) (x3 : Int32) (σ : GSt) (H : Heap) (locs : List Loc) (ls : Array Slot), Wo G s H locs σ → lv_has ls 6 [(0, .ref (G.2.1 237)), (1, .int x1), (2, .int x2), (3, .int x3)] → L_X11_lookAt_37 Q nn x1 x2 x3 σ → W p l e rm_X11_lookAt s m args below meth c H locs 0 0 (QMI G Q below args s) (F0 m 37 ls []) := by
  intro nn
  induction nn with
  | zero => intro x1 x2 x3 σ H locs ls  hw hl hD; exact hD.elim
  | succ nn ih =>
    intro x1 x2 x3 σ H locs ls  hw hl hD
    exact s_X11_lookAt_37 X hr hlk (L_X11_lookAt_37 Q nn) Q ih x1 x2 x3 σ hw hl hD
set_option maxRecDepth 20000 in
set_option maxHeartbeats 4000000 in
theorem s_X11_lookAt_0 {p : Program} {l : Launch} {e : Env} {s : State} {m : MethodId} {args : Array Value} {below : List Frame} {meth : Method} {c : Code} {G : GC} (X : CallFix p m c cm_X11_lookAt 6 s args lw_us "GameLoomModel") (hr : meth.sig.returnType = some .int) (hlk : meth.locks = false) (Q : Int32 → GSt → Prop) (x1 : Int32) (x2 : Int32) (σ : GSt) {H : Heap} {locs : List Loc} {ls : Array Slot} (hw : Wo G s H locs σ) (hl : lv_has ls 6 [(0, .ref (G.2.1 237)), (1, .int x1), (2, .int x2)]) (hD : D_X11_lookAt_0 Q x1 x2 σ) : W p l e rm_X11_lookAt s m args below meth c H locs 0 0 (QMI G Q below args s) (F0 m 0 ls []) := by
  unfold D_X11_lookAt_0 at hD
  refine lv_aload_n X.1 X.2.1 d_X11_lookAt_0 rfl (lv_at hl 0 rfl) ?_
  refine gf_11_26 X hw (by decide +kernel : kd 237 = 11) tb_932 d_X11_lookAt_1 ?_
  refine lv_iload_n X.1 X.2.1 d_X11_lookAt_4 rfl (lv_at hl 1 rfl) ?_
  obtain ⟨q_5, hD⟩ := hD
  refine g_iald X hw ly_11_26.1 ly_11_26.2 q_5 d_X11_lookAt_5 ?_
  refine lv_if_eq (tgt := 15) X.1 X.2.1 d_X11_lookAt_6 (by decide) (fun q_6 => ?_) (fun q_6 => ?_)
  · have hD := hD.1 q_6
    refine lv_iload_n X.1 X.2.1 d_X11_lookAt_15 rfl (lv_at hl 2 rfl) ?_
    refine lv_if_ne (tgt := 21) X.1 X.2.1 d_X11_lookAt_16 (by decide) (fun q_16 => ?_) (fun q_16 => ?_)
    · have hD := hD.1 q_16
      refine lv_iload_n X.1 X.2.1 d_X11_lookAt_21 rfl (lv_at hl 1 rfl) ?_
      refine lv_istore_n (lv' := [(3, .int x1), (0, .ref (G.2.1 237)), (1, .int x1), (2, .int x2)]) X.1 X.2.1 d_X11_lookAt_22 rfl hl (by decide) rfl (fun ls hl => ?_)
      refine lv_aload_n X.1 X.2.1 d_X11_lookAt_23 rfl (lv_at hl 1 rfl) ?_
      refine gf_11_36 X hw (by decide +kernel : kd 237 = 11) tb_942 d_X11_lookAt_24 ?_
      refine lv_iload_n X.1 X.2.1 d_X11_lookAt_27 rfl (lv_at hl 2 rfl) ?_
      refine lv_iconst (v := 0) X.1 X.2.1 d_X11_lookAt_28 (by decide) ?_
      obtain ⟨q_29, hD⟩ := hD
      refine g_iast X hw ly_11_36.1 ly_11_36.2 q_29 d_X11_lookAt_29 (fun H locs hw => ?_)
      obtain ⟨σ_1, e_σ_1⟩ : ∃ z : GSt, z = up2 σ 270 (Int32.toNatClampNeg x1) 0 := ⟨_, rfl⟩
      rw [← e_σ_1] at hw
      have hD := hD σ_1 e_σ_1
      refine lv_aload_n X.1 X.2.1 d_X11_lookAt_30 rfl (lv_at hl 1 rfl) ?_
      refine gf_11_37 X hw (by decide +kernel : kd 237 = 11) tb_943 d_X11_lookAt_31 ?_
      refine lv_iload_n X.1 X.2.1 d_X11_lookAt_34 rfl (lv_at hl 2 rfl) ?_
      refine lv_iconst (v := 0) X.1 X.2.1 d_X11_lookAt_35 (by decide) ?_
      obtain ⟨q_36, hD⟩ := hD
      refine g_iast X hw ly_11_37.1 ly_11_37.2 q_36 d_X11_lookAt_36 (fun H locs hw => ?_)
      obtain ⟨σ_2, e_σ_2⟩ : ∃ z : GSt, z = up2 σ_1 271 (Int32.toNatClampNeg x1) 0 := ⟨_, rfl⟩
      rw [← e_σ_2] at hw
      have hD := hD σ_2 e_σ_2
      obtain ⟨n9, hD⟩ := hD
      exact sl_X11_lookAt_37 X hr hlk  Q  n9 x1 x2 x1 σ_2 _ _ _  hw (lv_sub hl [1, 2, 3, 0] rfl) hD
    · have hD := hD.2 q_16
      refine lv_iconst (v := 1) X.1 X.2.1 d_X11_lookAt_19 (by decide) ?_
      exact g_iret X hr hlk hw hD d_X11_lookAt_20
  · have hD := hD.2 q_6
    refine lv_aload_n X.1 X.2.1 d_X11_lookAt_9 rfl (lv_at hl 0 rfl) ?_
    refine lv_iload_n X.1 X.2.1 d_X11_lookAt_10 rfl (lv_at hl 1 rfl) ?_
    refine gcV_i (rest := []) (As := [.int x1]) (o := 237) X hw (c_X11_asEnded l G x1 σ _  hD) (kd_lt (by decide +kernel : kd 237 = 11) (by decide)) (ce_11 G _ (by decide +kernel : kd 237 = 11)) rfl tb_1269 tb_1271 tv_70 tb_12 tb_1272 hd_X11_asEnded ⟨rfl, rfl⟩ ⟨Nat.le_of_ble_eq_true rfl, Nat.le_of_ble_eq_true rfl⟩ rfl hl.1 rfl (Nat.le_of_ble_eq_true rfl) d_X11_lookAt_11 (fun r_3 σ_4 H locs hD hw => ?_)
    exact g_iret X hr hlk hw hD d_X11_lookAt_14
theorem c_X11_lookAt (l : Launch) (G : GC) (x1 : Int32) (x2 : Int32) (σ : GSt) (Q : Int32 → GSt → Prop)  (hD : D_X11_lookAt x1 x2 σ Q) : MI l ym_X11_lookAt cm_X11_lookAt 6 .int rm_X11_lookAt G σ [.ref (G.2.1 237), .int x1, .int x2] Q := by
  refine met_i (by decide) (Nat.le_of_ble_eq_true rfl) ?_
  intro p e s m args below meth c X hr hlk hw ls hl
  exact s_X11_lookAt_0 X hr hlk Q  x1 x2 σ hw (lv_sub hl [0, 1, 2] rfl) hD
theorem hd_X11_bestAt : ym_X11_bestAt.cls = "GameLoomModel" ∧ ym_X11_bestAt.cls ≠ "java/lang/invoke/MethodHandle" ∧ ym_X11_bestAt.cls ≠ "java/lang/invoke/VarHandle" ∧ (parseMethodDescriptor ym_X11_bestAt.desc).map (fun d => d.parameters.length) = some 1 := by decide +kernel
abbrev rm_X11_bestAt : Room := { frames := 7, cells := 0, slots := 0, locals := 184 }
theorem d_X11_bestAt_0 : decode cm_X11_bestAt 0 = .ok (.bipush (-9), 2) := by decide +kernel
theorem d_X11_bestAt_2 : decode cm_X11_bestAt 2 = .ok (.istore_n 2, 1) := by decide +kernel
theorem d_X11_bestAt_3 : decode cm_X11_bestAt 3 = .ok (.aload_n 0, 1) := by decide +kernel
theorem d_X11_bestAt_4 : decode cm_X11_bestAt 4 = .ok (.iconst 3, 1) := by decide +kernel
theorem d_X11_bestAt_5 : decode cm_X11_bestAt 5 = .ok (.putfield 257, 3) := by decide +kernel
theorem d_X11_bestAt_8 : decode cm_X11_bestAt 8 = .ok (.iconst 0, 1) := by decide +kernel
theorem d_X11_bestAt_9 : decode cm_X11_bestAt 9 = .ok (.istore_n 3, 1) := by decide +kernel
theorem d_X11_bestAt_10 : decode cm_X11_bestAt 10 = .ok (.iload_n 3, 1) := by decide +kernel
theorem d_X11_bestAt_11 : decode cm_X11_bestAt 11 = .ok (.aload_n 0, 1) := by decide +kernel
theorem d_X11_bestAt_12 : decode cm_X11_bestAt 12 = .ok (.getfield 95, 3) := by decide +kernel
theorem d_X11_bestAt_15 : decode cm_X11_bestAt 15 = .ok (.iconst 0, 1) := by decide +kernel
theorem d_X11_bestAt_16 : decode cm_X11_bestAt 16 = .ok (.iaload, 1) := by decide +kernel
theorem d_X11_bestAt_17 : decode cm_X11_bestAt 17 = .ok (.if_icmp .ge 45, 3) := by decide +kernel
theorem d_X11_bestAt_20 : decode cm_X11_bestAt 20 = .ok (.aload_n 0, 1) := by decide +kernel
theorem d_X11_bestAt_21 : decode cm_X11_bestAt 21 = .ok (.iconst 0, 1) := by decide +kernel
theorem d_X11_bestAt_22 : decode cm_X11_bestAt 22 = .ok (.iload_n 3, 1) := by decide +kernel
theorem d_X11_bestAt_23 : decode cm_X11_bestAt 23 = .ok (.invokevirtual 251, 3) := by decide +kernel
theorem d_X11_bestAt_26 : decode cm_X11_bestAt 26 = .ok (.aload_n 0, 1) := by decide +kernel
theorem d_X11_bestAt_27 : decode cm_X11_bestAt 27 = .ok (.iconst 1, 1) := by decide +kernel
theorem d_X11_bestAt_28 : decode cm_X11_bestAt 28 = .ok (.iload_n 1, 1) := by decide +kernel
theorem d_X11_bestAt_29 : decode cm_X11_bestAt 29 = .ok (.iconst 1, 1) := by decide +kernel
theorem d_X11_bestAt_30 : decode cm_X11_bestAt 30 = .ok (.isub, 1) := by decide +kernel
theorem d_X11_bestAt_31 : decode cm_X11_bestAt 31 = .ok (.invokevirtual 260, 3) := by decide +kernel
theorem d_X11_bestAt_34 : decode cm_X11_bestAt 34 = .ok (.istore 4, 2) := by decide +kernel
theorem d_X11_bestAt_36 : decode cm_X11_bestAt 36 = .ok (.iload 4, 2) := by decide +kernel
theorem d_X11_bestAt_38 : decode cm_X11_bestAt 38 = .ok (.aload_n 0, 1) := by decide +kernel
theorem d_X11_bestAt_39 : decode cm_X11_bestAt 39 = .ok (.getfield 257, 3) := by decide +kernel
theorem d_X11_bestAt_42 : decode cm_X11_bestAt 42 = .ok (.if_icmp .lt 6, 3) := by decide +kernel
theorem d_X11_bestAt_45 : decode cm_X11_bestAt 45 = .ok (.goto 11, 3) := by decide +kernel
theorem d_X11_bestAt_48 : decode cm_X11_bestAt 48 = .ok (.aload_n 0, 1) := by decide +kernel
theorem d_X11_bestAt_49 : decode cm_X11_bestAt 49 = .ok (.iload 4, 2) := by decide +kernel
theorem d_X11_bestAt_51 : decode cm_X11_bestAt 51 = .ok (.putfield 257, 3) := by decide +kernel
theorem d_X11_bestAt_54 : decode cm_X11_bestAt 54 = .ok (.iload_n 3, 1) := by decide +kernel
theorem d_X11_bestAt_55 : decode cm_X11_bestAt 55 = .ok (.istore_n 2, 1) := by decide +kernel
theorem d_X11_bestAt_56 : decode cm_X11_bestAt 56 = .ok (.iinc 3 1, 3) := by decide +kernel
theorem d_X11_bestAt_59 : decode cm_X11_bestAt 59 = .ok (.goto (-49), 3) := by decide +kernel
theorem d_X11_bestAt_62 : decode cm_X11_bestAt 62 = .ok (.iload_n 2, 1) := by decide +kernel
theorem d_X11_bestAt_63 : decode cm_X11_bestAt 63 = .ok (.ireturn, 1) := by decide +kernel
def D_X11_bestAt_56 (K10 : Int32 → Int32 → Int32 → GSt → Prop) (Q : Int32 → GSt → Prop) (x1 : Int32) (x2 : Int32) (x3 : Int32) (σ : GSt) : Prop :=
  ∀ x3_1 : Int32, x3_1 = x3 + 1 → (K10 x1 x2 x3_1 σ)
def D_X11_bestAt_10 (K10 : Int32 → Int32 → Int32 → GSt → Prop) (Q : Int32 → GSt → Prop) (x1 : Int32) (x2 : Int32) (x3 : Int32) (σ : GSt) : Prop :=
  ((σ 266 (Int32.toNatClampNeg 0)) ≤ x3 → Q x2 σ) ∧
  (¬ (σ 266 (Int32.toNatClampNeg 0)) ≤ x3 → D_X11_does 0 x3 σ (fun σ_1 => D_X11_lookAt 1 (x1 - 1) σ_1 (fun r_2 σ_3 => (r_2 < (σ_3 237 39) → ∀ σ_4 : GSt, σ_4 = up2 σ_3 237 39 r_2 → (D_X11_bestAt_56 K10 Q x1 x3 x3 σ_4)) ∧
  (¬ r_2 < (σ_3 237 39) → D_X11_bestAt_56 K10 Q x1 x2 x3 σ_3))))
def L_X11_bestAt_10 (Q : Int32 → GSt → Prop) : Nat → Int32 → Int32 → Int32 → GSt → Prop
  | 0 => fun _ _ _ _ => False
  | n + 1 => fun x1 x2 x3 σ => D_X11_bestAt_10 (L_X11_bestAt_10 Q n) Q x1 x2 x3 σ
def D_X11_bestAt_0 (Q : Int32 → GSt → Prop) (x1 : Int32) (σ : GSt) : Prop :=
  ∀ σ_1 : GSt, σ_1 = up2 σ 237 39 3 → (∃ n : Nat, L_X11_bestAt_10 Q n x1 (-9) 0 σ_1)
def D_X11_bestAt (x1 : Int32) (σ : GSt) (Q : Int32 → GSt → Prop) : Prop := D_X11_bestAt_0 Q x1 σ
set_option maxRecDepth 20000 in
set_option maxHeartbeats 4000000 in
theorem s_X11_bestAt_56 {p : Program} {l : Launch} {e : Env} {s : State} {m : MethodId} {args : Array Value} {below : List Frame} {meth : Method} {c : Code} {G : GC} (X : CallFix p m c cm_X11_bestAt 5 s args lw_us "GameLoomModel") (hr : meth.sig.returnType = some .int) (hlk : meth.locks = false) (K10 : Int32 → Int32 → Int32 → GSt → Prop) (Q : Int32 → GSt → Prop) (hK10 : ∀ (x1 : Int32) (x2 : Int32) (x3 : Int32) (σ : GSt) (H : Heap) (locs : List Loc) (ls : Array Slot), Wo G s H locs σ → lv_has ls 5 [(0, .ref (G.2.1 237)), (1, .int x1), (2, .int x2), (3, .int x3)] → K10 x1 x2 x3 σ → W p l e rm_X11_bestAt s m args below meth c H locs 0 0 (QMI G Q below args s) (F0 m 10 ls [])) (x1 : Int32) (x2 : Int32) (x3 : Int32) (σ : GSt) {H : Heap} {locs : List Loc} {ls : Array Slot} (hw : Wo G s H locs σ) (hl : lv_has ls 5 [(0, .ref (G.2.1 237)), (1, .int x1), (2, .int x2), (3, .int x3)]) (hD : D_X11_bestAt_56 K10 Q x1 x2 x3 σ) : W p l e rm_X11_bestAt s m args below meth c H locs 0 0 (QMI G Q below args s) (F0 m 56 ls []) := by
  unfold D_X11_bestAt_56 at hD
  obtain ⟨x3_1, e_x3_1⟩ : ∃ y : Int32, y = x3 + 1 := ⟨_, rfl⟩
  have hD := hD x3_1 e_x3_1
  refine lv_iinc (v := x3_1) (lv' := [(3, .int x3_1), (0, .ref (G.2.1 237)), (1, .int x1), (2, .int x2)]) X.1 X.2.1 d_X11_bestAt_56 hl (k := 3) rfl (by rw [e_x3_1]; rfl) (by decide) rfl (fun ls hl => ?_)
  refine lv_goto (tgt := 10) X.1 X.2.1 d_X11_bestAt_59 (by decide) ?_
  exact hK10 x1 x2 x3_1 σ _ _ _  hw (lv_sub hl [1, 2, 3, 0] rfl) hD
set_option maxRecDepth 20000 in
set_option maxHeartbeats 4000000 in
theorem s_X11_bestAt_10 {p : Program} {l : Launch} {e : Env} {s : State} {m : MethodId} {args : Array Value} {below : List Frame} {meth : Method} {c : Code} {G : GC} (X : CallFix p m c cm_X11_bestAt 5 s args lw_us "GameLoomModel") (hr : meth.sig.returnType = some .int) (hlk : meth.locks = false) (K10 : Int32 → Int32 → Int32 → GSt → Prop) (Q : Int32 → GSt → Prop) (hK10 : ∀ (x1 : Int32) (x2 : Int32) (x3 : Int32) (σ : GSt) (H : Heap) (locs : List Loc) (ls : Array Slot), Wo G s H locs σ → lv_has ls 5 [(0, .ref (G.2.1 237)), (1, .int x1), (2, .int x2), (3, .int x3)] → K10 x1 x2 x3 σ → W p l e rm_X11_bestAt s m args below meth c H locs 0 0 (QMI G Q below args s) (F0 m 10 ls [])) (x1 : Int32) (x2 : Int32) (x3 : Int32) (σ : GSt) {H : Heap} {locs : List Loc} {ls : Array Slot} (hw : Wo G s H locs σ) (hl : lv_has ls 5 [(0, .ref (G.2.1 237)), (1, .int x1), (2, .int x2), (3, .int x3)]) (hD : D_X11_bestAt_10 K10 Q x1 x2 x3 σ) : W p l e rm_X11_bestAt s m args below meth c H locs 0 0 (QMI G Q below args s) (F0 m 10 ls []) := by
  unfold D_X11_bestAt_10 at hD
  refine lv_iload_n X.1 X.2.1 d_X11_bestAt_10 rfl (lv_at hl 3 rfl) ?_
  refine lv_aload_n X.1 X.2.1 d_X11_bestAt_11 rfl (lv_at hl 0 rfl) ?_
  refine gf_11_32 X hw (by decide +kernel : kd 237 = 11) tb_938 d_X11_bestAt_12 ?_
  refine lv_iconst (v := 0) X.1 X.2.1 d_X11_bestAt_15 (by decide) ?_
  have q_16 : vp_in 0 9 := by unfold vp_in; decide
  refine g_iald X hw ly_11_32.1 ly_11_32.2 q_16 d_X11_bestAt_16 ?_
  refine lv_icmp_ge (tgt := 62) X.1 X.2.1 d_X11_bestAt_17 (by decide) (fun q_17 => ?_) (fun q_17 => ?_)
  · have hD := hD.1 q_17
    refine lv_iload_n X.1 X.2.1 d_X11_bestAt_62 rfl (lv_at hl 2 rfl) ?_
    exact g_iret X hr hlk hw hD d_X11_bestAt_63
  · have hD := hD.2 q_17
    refine lv_aload_n X.1 X.2.1 d_X11_bestAt_20 rfl (lv_at hl 0 rfl) ?_
    refine lv_iconst (v := 0) X.1 X.2.1 d_X11_bestAt_21 (by decide) ?_
    refine lv_iload_n X.1 X.2.1 d_X11_bestAt_22 rfl (lv_at hl 3 rfl) ?_
    refine gcV_v (rest := []) (As := [.int 0, .int x3]) (o := 237) X hw (c_X11_does l G 0 x3 σ _  hD) (kd_lt (by decide +kernel : kd 237 = 11) (by decide)) (ce_11 G _ (by decide +kernel : kd 237 = 11)) rfl tb_1208 tb_1210 tv_60 tb_12 tb_1211 hd_X11_does ⟨rfl, rfl⟩ ⟨Nat.le_of_ble_eq_true rfl, Nat.le_of_ble_eq_true rfl⟩ rfl hl.1 rfl (Nat.le_of_ble_eq_true rfl) d_X11_bestAt_23 (fun σ_1 H locs hD hw => ?_)
    refine lv_aload_n X.1 X.2.1 d_X11_bestAt_26 rfl (lv_at hl 0 rfl) ?_
    refine lv_iconst (v := 1) X.1 X.2.1 d_X11_bestAt_27 (by decide) ?_
    refine lv_iload_n X.1 X.2.1 d_X11_bestAt_28 rfl (lv_at hl 1 rfl) ?_
    refine lv_iconst (v := 1) X.1 X.2.1 d_X11_bestAt_29 (by decide) ?_
    refine lv_isub X.1 X.2.1 d_X11_bestAt_30 ?_
    refine gcV_i (rest := []) (As := [.int 1, .int (x1 - 1)]) (o := 237) X hw (c_X11_lookAt l G 1 (x1 - 1) σ_1 _  hD) (kd_lt (by decide +kernel : kd 237 = 11) (by decide)) (ce_11 G _ (by decide +kernel : kd 237 = 11)) rfl tb_1265 tb_1267 tv_69 tb_12 tb_1268 hd_X11_lookAt ⟨rfl, rfl⟩ ⟨Nat.le_of_ble_eq_true rfl, Nat.le_of_ble_eq_true rfl⟩ rfl hl.1 rfl (Nat.le_of_ble_eq_true rfl) d_X11_bestAt_31 (fun r_2 σ_3 H locs hD hw => ?_)
    refine lv_istore (lv' := [(4, .int r_2), (0, .ref (G.2.1 237)), (1, .int x1), (2, .int x2), (3, .int x3)]) X.1 X.2.1 d_X11_bestAt_34 hl (by decide) rfl (fun ls hl => ?_)
    refine lv_iload X.1 X.2.1 d_X11_bestAt_36 (lv_at hl 0 rfl) ?_
    refine lv_aload_n X.1 X.2.1 d_X11_bestAt_38 rfl (lv_at hl 1 rfl) ?_
    refine gf_11_39 X hw (by decide +kernel : kd 237 = 11) tb_945 d_X11_bestAt_39 ?_
    refine lv_icmp_lt (tgt := 48) X.1 X.2.1 d_X11_bestAt_42 (by decide) (fun q_42 => ?_) (fun q_42 => ?_)
    · have hD := hD.1 q_42
      refine lv_aload_n X.1 X.2.1 d_X11_bestAt_48 rfl (lv_at hl 1 rfl) ?_
      refine lv_iload X.1 X.2.1 d_X11_bestAt_49 (lv_at hl 0 rfl) ?_
      refine pf_11_39 X hw (by decide +kernel : kd 237 = 11) tb_945 d_X11_bestAt_51 (fun H locs hw => ?_)
      obtain ⟨σ_4, e_σ_4⟩ : ∃ z : GSt, z = up2 σ_3 237 39 r_2 := ⟨_, rfl⟩
      rw [← e_σ_4] at hw
      have hD := hD σ_4 e_σ_4
      refine lv_iload_n X.1 X.2.1 d_X11_bestAt_54 rfl (lv_at hl 4 rfl) ?_
      refine lv_istore_n (lv' := [(2, .int x3), (4, .int r_2), (0, .ref (G.2.1 237)), (1, .int x1), (3, .int x3)]) X.1 X.2.1 d_X11_bestAt_55 rfl hl (by decide) rfl (fun ls hl => ?_)
      exact s_X11_bestAt_56 X hr hlk K10 Q hK10 x1 x3 x3 σ_4 hw (lv_sub hl [2, 3, 0, 4] rfl) hD
    · have hD := hD.2 q_42
      refine lv_goto (tgt := 56) X.1 X.2.1 d_X11_bestAt_45 (by decide) ?_
      exact s_X11_bestAt_56 X hr hlk K10 Q hK10 x1 x2 x3 σ_3 hw (lv_sub hl [1, 2, 3, 4] rfl) hD
set_option maxRecDepth 20000 in
set_option maxHeartbeats 4000000 in
theorem sl_X11_bestAt_10 {p : Program} {l : Launch} {e : Env} {s : State} {m : MethodId} {args : Array Value} {below : List Frame} {meth : Method} {c : Code} {G : GC} (X : CallFix p m c cm_X11_bestAt 5 s args lw_us "GameLoomModel") (hr : meth.sig.returnType = some .int) (hlk : meth.locks = false) (Q : Int32 → GSt → Prop) : ∀ (nn : Nat), ∀ (x1 : Int32) (x2 : Int32) (x3 : Int32) (σ : GSt) (H : Heap) (locs : List Loc) (ls : Array Slot), Wo G s H locs σ → lv_has ls 5 [(0, .ref (G.2.1 237)), (1, .int x1), (2, .int x2), (3, .int x3)] → L_X11_bestAt_10 Q nn x1 x2 x3 σ → W p l e rm_X11_bestAt s m args below meth c H locs 0 0 (QMI G Q below args s) (F0 m 10 ls []) := by
  intro nn
  induction nn with
  | zero => intro x1 x2 x3 σ H locs ls  hw hl hD; exact hD.elim
  | succ nn ih =>
    intro x1 x2 x3 σ H locs ls  hw hl hD
    exact s_X11_bestAt_10 X hr hlk (L_X11_bestAt_10 Q nn) Q ih x1 x2 x3 σ hw hl hD
set_option maxRecDepth 20000 in
set_option maxHeartbeats 4000000 in
theorem s_X11_bestAt_0 {p : Program} {l : Launch} {e : Env} {s : State} {m : MethodId} {args : Array Value} {below : List Frame} {meth : Method} {c : Code} {G : GC} (X : CallFix p m c cm_X11_bestAt 5 s args lw_us "GameLoomModel") (hr : meth.sig.returnType = some .int) (hlk : meth.locks = false) (Q : Int32 → GSt → Prop) (x1 : Int32) (σ : GSt) {H : Heap} {locs : List Loc} {ls : Array Slot} (hw : Wo G s H locs σ) (hl : lv_has ls 5 [(0, .ref (G.2.1 237)), (1, .int x1)]) (hD : D_X11_bestAt_0 Q x1 σ) : W p l e rm_X11_bestAt s m args below meth c H locs 0 0 (QMI G Q below args s) (F0 m 0 ls []) := by
  unfold D_X11_bestAt_0 at hD
  refine lv_bipush (v := (-9)) X.1 X.2.1 d_X11_bestAt_0 (by decide) ?_
  refine lv_istore_n (lv' := [(2, .int (-9)), (0, .ref (G.2.1 237)), (1, .int x1)]) X.1 X.2.1 d_X11_bestAt_2 rfl hl (by decide) rfl (fun ls hl => ?_)
  refine lv_aload_n X.1 X.2.1 d_X11_bestAt_3 rfl (lv_at hl 1 rfl) ?_
  refine lv_iconst (v := 3) X.1 X.2.1 d_X11_bestAt_4 (by decide) ?_
  refine pf_11_39 X hw (by decide +kernel : kd 237 = 11) tb_945 d_X11_bestAt_5 (fun H locs hw => ?_)
  obtain ⟨σ_1, e_σ_1⟩ : ∃ z : GSt, z = up2 σ 237 39 3 := ⟨_, rfl⟩
  rw [← e_σ_1] at hw
  have hD := hD σ_1 e_σ_1
  refine lv_iconst (v := 0) X.1 X.2.1 d_X11_bestAt_8 (by decide) ?_
  refine lv_istore_n (lv' := [(3, .int 0), (2, .int (-9)), (0, .ref (G.2.1 237)), (1, .int x1)]) X.1 X.2.1 d_X11_bestAt_9 rfl hl (by decide) rfl (fun ls hl => ?_)
  obtain ⟨n9, hD⟩ := hD
  exact sl_X11_bestAt_10 X hr hlk  Q  n9 x1 (-9) 0 σ_1 _ _ _  hw (lv_sub hl [2, 3, 1, 0] rfl) hD
theorem c_X11_bestAt (l : Launch) (G : GC) (x1 : Int32) (σ : GSt) (Q : Int32 → GSt → Prop)  (hD : D_X11_bestAt x1 σ Q) : MI l ym_X11_bestAt cm_X11_bestAt 5 .int rm_X11_bestAt G σ [.ref (G.2.1 237), .int x1] Q := by
  refine met_i (by decide) (Nat.le_of_ble_eq_true rfl) ?_
  intro p e s m args below meth c X hr hlk hw ls hl
  exact s_X11_bestAt_0 X hr hlk Q  x1 σ hw (lv_sub hl [0, 1] rfl) hD
theorem hd_X11_stands : ym_X11_stands.cls = "GameLoomModel" ∧ ym_X11_stands.cls ≠ "java/lang/invoke/MethodHandle" ∧ ym_X11_stands.cls ≠ "java/lang/invoke/VarHandle" ∧ (parseMethodDescriptor ym_X11_stands.desc).map (fun d => d.parameters.length) = some 0 := by decide +kernel
abbrev rm_X11_stands : Room := { frames := 7, cells := 0, slots := 0, locals := 181 }
theorem d_X11_stands_0 : decode cm_X11_stands 0 = .ok (.aload_n 0, 1) := by decide +kernel
theorem d_X11_stands_1 : decode cm_X11_stands 1 = .ok (.getfield 119, 3) := by decide +kernel
theorem d_X11_stands_4 : decode cm_X11_stands 4 = .ok (.ifCond .ge 5, 3) := by decide +kernel
theorem d_X11_stands_7 : decode cm_X11_stands 7 = .ok (.iconst 0, 1) := by decide +kernel
theorem d_X11_stands_8 : decode cm_X11_stands 8 = .ok (.ireturn, 1) := by decide +kernel
theorem d_X11_stands_9 : decode cm_X11_stands 9 = .ok (.aload_n 0, 1) := by decide +kernel
theorem d_X11_stands_10 : decode cm_X11_stands 10 = .ok (.aload_n 0, 1) := by decide +kernel
theorem d_X11_stands_11 : decode cm_X11_stands 11 = .ok (.getfield 119, 3) := by decide +kernel
theorem d_X11_stands_14 : decode cm_X11_stands 14 = .ok (.invokevirtual 263, 3) := by decide +kernel
theorem d_X11_stands_17 : decode cm_X11_stands 17 = .ok (.iconst 0, 1) := by decide +kernel
theorem d_X11_stands_18 : decode cm_X11_stands 18 = .ok (.istore_n 1, 1) := by decide +kernel
theorem d_X11_stands_19 : decode cm_X11_stands 19 = .ok (.iload_n 1, 1) := by decide +kernel
theorem d_X11_stands_20 : decode cm_X11_stands 20 = .ok (.aload_n 0, 1) := by decide +kernel
theorem d_X11_stands_21 : decode cm_X11_stands 21 = .ok (.getfield 266, 3) := by decide +kernel
theorem d_X11_stands_24 : decode cm_X11_stands 24 = .ok (.if_icmp .ge 19, 3) := by decide +kernel
theorem d_X11_stands_27 : decode cm_X11_stands 27 = .ok (.aload_n 0, 1) := by decide +kernel
theorem d_X11_stands_28 : decode cm_X11_stands 28 = .ok (.aload_n 0, 1) := by decide +kernel
theorem d_X11_stands_29 : decode cm_X11_stands 29 = .ok (.getfield 116, 3) := by decide +kernel
theorem d_X11_stands_32 : decode cm_X11_stands 32 = .ok (.iload_n 1, 1) := by decide +kernel
theorem d_X11_stands_33 : decode cm_X11_stands 33 = .ok (.iaload, 1) := by decide +kernel
theorem d_X11_stands_34 : decode cm_X11_stands 34 = .ok (.invokevirtual 269, 3) := by decide +kernel
theorem d_X11_stands_37 : decode cm_X11_stands 37 = .ok (.iinc 1 1, 3) := by decide +kernel
theorem d_X11_stands_40 : decode cm_X11_stands 40 = .ok (.goto (-21), 3) := by decide +kernel
theorem d_X11_stands_43 : decode cm_X11_stands 43 = .ok (.iconst 1, 1) := by decide +kernel
theorem d_X11_stands_44 : decode cm_X11_stands 44 = .ok (.ireturn, 1) := by decide +kernel
def D_X11_stands_19 (K19 : Int32 → GSt → Prop) (Q : Int32 → GSt → Prop) (x1 : Int32) (σ : GSt) : Prop :=
  ((σ 237 42) ≤ x1 → Q 1 σ) ∧
  (¬ (σ 237 42) ≤ x1 → vp_in x1 60 ∧ (D_X11_goesOn (σ 273 (Int32.toNatClampNeg x1)) σ (fun σ_1 => ∀ x1_2 : Int32, x1_2 = x1 + 1 → (K19 x1_2 σ_1))))
def L_X11_stands_19 (Q : Int32 → GSt → Prop) : Nat → Int32 → GSt → Prop
  | 0 => fun _ _ => False
  | n + 1 => fun x1 σ => D_X11_stands_19 (L_X11_stands_19 Q n) Q x1 σ
def D_X11_stands_0 (Q : Int32 → GSt → Prop) (σ : GSt) : Prop :=
  (0 ≤ (σ 237 41) → D_X11_opens (σ 237 41) σ (fun σ_1 => ∃ n : Nat, L_X11_stands_19 Q n 0 σ_1)) ∧
  (¬ 0 ≤ (σ 237 41) → Q 0 σ)
def D_X11_stands (σ : GSt) (Q : Int32 → GSt → Prop) : Prop := D_X11_stands_0 Q σ
set_option maxRecDepth 20000 in
set_option maxHeartbeats 4000000 in
theorem s_X11_stands_19 {p : Program} {l : Launch} {e : Env} {s : State} {m : MethodId} {args : Array Value} {below : List Frame} {meth : Method} {c : Code} {G : GC} (X : CallFix p m c cm_X11_stands 2 s args lw_us "GameLoomModel") (hr : meth.sig.returnType = some .boolean) (hlk : meth.locks = false) (K19 : Int32 → GSt → Prop) (Q : Int32 → GSt → Prop) (hK19 : ∀ (x1 : Int32) (σ : GSt) (H : Heap) (locs : List Loc) (ls : Array Slot), Wo G s H locs σ → lv_has ls 2 [(0, .ref (G.2.1 237)), (1, .int x1)] → K19 x1 σ → W p l e rm_X11_stands s m args below meth c H locs 0 0 (QMI G Q below args s) (F0 m 19 ls [])) (x1 : Int32) (σ : GSt) {H : Heap} {locs : List Loc} {ls : Array Slot} (hw : Wo G s H locs σ) (hl : lv_has ls 2 [(0, .ref (G.2.1 237)), (1, .int x1)]) (hD : D_X11_stands_19 K19 Q x1 σ) : W p l e rm_X11_stands s m args below meth c H locs 0 0 (QMI G Q below args s) (F0 m 19 ls []) := by
  unfold D_X11_stands_19 at hD
  refine lv_iload_n X.1 X.2.1 d_X11_stands_19 rfl (lv_at hl 1 rfl) ?_
  refine lv_aload_n X.1 X.2.1 d_X11_stands_20 rfl (lv_at hl 0 rfl) ?_
  refine gf_11_42 X hw (by decide +kernel : kd 237 = 11) tb_948 d_X11_stands_21 ?_
  refine lv_icmp_ge (tgt := 43) X.1 X.2.1 d_X11_stands_24 (by decide) (fun q_24 => ?_) (fun q_24 => ?_)
  · have hD := hD.1 q_24
    refine lv_iconst (v := 1) X.1 X.2.1 d_X11_stands_43 (by decide) ?_
    exact g_zret X hr hlk hw (by decide) hD d_X11_stands_44
  · have hD := hD.2 q_24
    refine lv_aload_n X.1 X.2.1 d_X11_stands_27 rfl (lv_at hl 0 rfl) ?_
    refine lv_aload_n X.1 X.2.1 d_X11_stands_28 rfl (lv_at hl 0 rfl) ?_
    refine gf_11_40 X hw (by decide +kernel : kd 237 = 11) tb_946 d_X11_stands_29 ?_
    refine lv_iload_n X.1 X.2.1 d_X11_stands_32 rfl (lv_at hl 1 rfl) ?_
    obtain ⟨q_33, hD⟩ := hD
    refine g_iald X hw ly_11_40.1 ly_11_40.2 q_33 d_X11_stands_33 ?_
    refine gcV_v (rest := []) (As := [.int (σ 273 (Int32.toNatClampNeg x1))]) (o := 237) X hw (c_X11_goesOn l G (σ 273 (Int32.toNatClampNeg x1)) σ _  hD) (kd_lt (by decide +kernel : kd 237 = 11) (by decide)) (ce_11 G _ (by decide +kernel : kd 237 = 11)) rfl tb_1204 tb_1206 tv_59 tb_12 tb_1207 hd_X11_goesOn ⟨rfl, rfl⟩ ⟨Nat.le_of_ble_eq_true rfl, Nat.le_of_ble_eq_true rfl⟩ rfl hl.1 rfl (Nat.le_of_ble_eq_true rfl) d_X11_stands_34 (fun σ_1 H locs hD hw => ?_)
    obtain ⟨x1_2, e_x1_2⟩ : ∃ y : Int32, y = x1 + 1 := ⟨_, rfl⟩
    have hD := hD x1_2 e_x1_2
    refine lv_iinc (v := x1_2) (lv' := [(1, .int x1_2), (0, .ref (G.2.1 237))]) X.1 X.2.1 d_X11_stands_37 hl (k := 1) rfl (by rw [e_x1_2]; rfl) (by decide) rfl (fun ls hl => ?_)
    refine lv_goto (tgt := 19) X.1 X.2.1 d_X11_stands_40 (by decide) ?_
    exact hK19 x1_2 σ_1 _ _ _  hw (lv_sub hl [1, 0] rfl) hD
set_option maxRecDepth 20000 in
set_option maxHeartbeats 4000000 in
theorem sl_X11_stands_19 {p : Program} {l : Launch} {e : Env} {s : State} {m : MethodId} {args : Array Value} {below : List Frame} {meth : Method} {c : Code} {G : GC} (X : CallFix p m c cm_X11_stands 2 s args lw_us "GameLoomModel") (hr : meth.sig.returnType = some .boolean) (hlk : meth.locks = false) (Q : Int32 → GSt → Prop) : ∀ (nn : Nat), ∀ (x1 : Int32) (σ : GSt) (H : Heap) (locs : List Loc) (ls : Array Slot), Wo G s H locs σ → lv_has ls 2 [(0, .ref (G.2.1 237)), (1, .int x1)] → L_X11_stands_19 Q nn x1 σ → W p l e rm_X11_stands s m args below meth c H locs 0 0 (QMI G Q below args s) (F0 m 19 ls []) := by
  intro nn
  induction nn with
  | zero => intro x1 σ H locs ls  hw hl hD; exact hD.elim
  | succ nn ih =>
    intro x1 σ H locs ls  hw hl hD
    exact s_X11_stands_19 X hr hlk (L_X11_stands_19 Q nn) Q ih x1 σ hw hl hD
set_option maxRecDepth 20000 in
set_option maxHeartbeats 4000000 in
theorem s_X11_stands_0 {p : Program} {l : Launch} {e : Env} {s : State} {m : MethodId} {args : Array Value} {below : List Frame} {meth : Method} {c : Code} {G : GC} (X : CallFix p m c cm_X11_stands 2 s args lw_us "GameLoomModel") (hr : meth.sig.returnType = some .boolean) (hlk : meth.locks = false) (Q : Int32 → GSt → Prop) (σ : GSt) {H : Heap} {locs : List Loc} {ls : Array Slot} (hw : Wo G s H locs σ) (hl : lv_has ls 2 [(0, .ref (G.2.1 237))]) (hD : D_X11_stands_0 Q σ) : W p l e rm_X11_stands s m args below meth c H locs 0 0 (QMI G Q below args s) (F0 m 0 ls []) := by
  unfold D_X11_stands_0 at hD
  refine lv_aload_n X.1 X.2.1 d_X11_stands_0 rfl (lv_at hl 0 rfl) ?_
  refine gf_11_41 X hw (by decide +kernel : kd 237 = 11) tb_947 d_X11_stands_1 ?_
  refine lv_if_ge (tgt := 9) X.1 X.2.1 d_X11_stands_4 (by decide) (fun q_4 => ?_) (fun q_4 => ?_)
  · have hD := hD.1 q_4
    refine lv_aload_n X.1 X.2.1 d_X11_stands_9 rfl (lv_at hl 0 rfl) ?_
    refine lv_aload_n X.1 X.2.1 d_X11_stands_10 rfl (lv_at hl 0 rfl) ?_
    refine gf_11_41 X hw (by decide +kernel : kd 237 = 11) tb_947 d_X11_stands_11 ?_
    refine gcV_v (rest := []) (As := [.int (σ 237 41)]) (o := 237) X hw (c_X11_opens l G (σ 237 41) σ _  hD) (kd_lt (by decide +kernel : kd 237 = 11) (by decide)) (ce_11 G _ (by decide +kernel : kd 237 = 11)) rfl tb_1160 tb_1162 tv_49 tb_12 tb_1163 hd_X11_opens ⟨rfl, rfl⟩ ⟨Nat.le_of_ble_eq_true rfl, Nat.le_of_ble_eq_true rfl⟩ rfl hl.1 rfl (Nat.le_of_ble_eq_true rfl) d_X11_stands_14 (fun σ_1 H locs hD hw => ?_)
    refine lv_iconst (v := 0) X.1 X.2.1 d_X11_stands_17 (by decide) ?_
    refine lv_istore_n (lv' := [(1, .int 0), (0, .ref (G.2.1 237))]) X.1 X.2.1 d_X11_stands_18 rfl hl (by decide) rfl (fun ls hl => ?_)
    obtain ⟨n9, hD⟩ := hD
    exact sl_X11_stands_19 X hr hlk  Q  n9 0 σ_1 _ _ _  hw (lv_sub hl [1, 0] rfl) hD
  · have hD := hD.2 q_4
    refine lv_iconst (v := 0) X.1 X.2.1 d_X11_stands_7 (by decide) ?_
    exact g_zret X hr hlk hw (by decide) hD d_X11_stands_8
theorem c_X11_stands (l : Launch) (G : GC) (σ : GSt) (Q : Int32 → GSt → Prop)  (hD : D_X11_stands  σ Q) : MI l ym_X11_stands cm_X11_stands 2 .boolean rm_X11_stands G σ [.ref (G.2.1 237)] Q := by
  refine met_i (by decide) (Nat.le_of_ble_eq_true rfl) ?_
  intro p e s m args below meth c X hr hlk hw ls hl
  exact s_X11_stands_0 X hr hlk Q   σ hw (lv_sub hl [0] rfl) hD
theorem hd_X11_start : ym_X11_start.cls = "GameLoomModel" ∧ ym_X11_start.cls ≠ "java/lang/invoke/MethodHandle" ∧ ym_X11_start.cls ≠ "java/lang/invoke/VarHandle" ∧ (parseMethodDescriptor ym_X11_start.desc).map (fun d => d.parameters.length) = some 1 := by decide +kernel
abbrev rm_X11_start : Room := { frames := 6, cells := 0, slots := 0, locals := 150 }
theorem d_X11_start_0 : decode cm_X11_start 0 = .ok (.aload_n 0, 1) := by decide +kernel
theorem d_X11_start_1 : decode cm_X11_start 1 = .ok (.iload_n 1, 1) := by decide +kernel
theorem d_X11_start_2 : decode cm_X11_start 2 = .ok (.invokevirtual 204, 3) := by decide +kernel
theorem d_X11_start_5 : decode cm_X11_start 5 = .ok (.ifCond .ne 9, 3) := by decide +kernel
theorem d_X11_start_8 : decode cm_X11_start 8 = .ok (.aload_n 0, 1) := by decide +kernel
theorem d_X11_start_9 : decode cm_X11_start 9 = .ok (.iconst (-1), 1) := by decide +kernel
theorem d_X11_start_10 : decode cm_X11_start 10 = .ok (.invokevirtual 147, 3) := by decide +kernel
theorem d_X11_start_13 : decode cm_X11_start 13 = .ok (.ireturn, 1) := by decide +kernel
theorem d_X11_start_14 : decode cm_X11_start 14 = .ok (.aload_n 0, 1) := by decide +kernel
theorem d_X11_start_15 : decode cm_X11_start 15 = .ok (.iload_n 1, 1) := by decide +kernel
theorem d_X11_start_16 : decode cm_X11_start 16 = .ok (.putfield 119, 3) := by decide +kernel
theorem d_X11_start_19 : decode cm_X11_start 19 = .ok (.aload_n 0, 1) := by decide +kernel
theorem d_X11_start_20 : decode cm_X11_start 20 = .ok (.iconst 0, 1) := by decide +kernel
theorem d_X11_start_21 : decode cm_X11_start 21 = .ok (.putfield 266, 3) := by decide +kernel
theorem d_X11_start_24 : decode cm_X11_start 24 = .ok (.aload_n 0, 1) := by decide +kernel
theorem d_X11_start_25 : decode cm_X11_start 25 = .ok (.iload_n 1, 1) := by decide +kernel
theorem d_X11_start_26 : decode cm_X11_start 26 = .ok (.invokevirtual 263, 3) := by decide +kernel
theorem d_X11_start_29 : decode cm_X11_start 29 = .ok (.aload_n 0, 1) := by decide +kernel
theorem d_X11_start_30 : decode cm_X11_start 30 = .ok (.getfield 95, 3) := by decide +kernel
theorem d_X11_start_33 : decode cm_X11_start 33 = .ok (.iconst 0, 1) := by decide +kernel
theorem d_X11_start_34 : decode cm_X11_start 34 = .ok (.iaload, 1) := by decide +kernel
theorem d_X11_start_35 : decode cm_X11_start 35 = .ok (.ireturn, 1) := by decide +kernel
def D_X11_start_0 (Q : Int32 → GSt → Prop) (x1 : Int32) (σ : GSt) : Prop :=
  D_X11_isGame x1 σ (fun r_1 σ_2 => (¬ r_1 = 0 → ∀ σ_3 : GSt, σ_3 = up2 σ_2 237 41 x1 → (∀ σ_4 : GSt, σ_4 = up2 σ_3 237 42 0 → (D_X11_opens x1 σ_4 (fun σ_5 => Q (σ_5 266 (Int32.toNatClampNeg 0)) σ_5)))) ∧
  (r_1 = 0 → D_X11_no (-1) σ_2 (fun r_6 σ_7 => Q r_6 σ_7)))
def D_X11_start (x1 : Int32) (σ : GSt) (Q : Int32 → GSt → Prop) : Prop := D_X11_start_0 Q x1 σ
set_option maxRecDepth 20000 in
set_option maxHeartbeats 4000000 in
theorem s_X11_start_0 {p : Program} {l : Launch} {e : Env} {s : State} {m : MethodId} {args : Array Value} {below : List Frame} {meth : Method} {c : Code} {G : GC} (X : CallFix p m c cm_X11_start 2 s args lw_us "GameLoomModel") (hr : meth.sig.returnType = some .int) (hlk : meth.locks = false) (Q : Int32 → GSt → Prop) (x1 : Int32) (σ : GSt) {H : Heap} {locs : List Loc} {ls : Array Slot} (hw : Wo G s H locs σ) (hl : lv_has ls 2 [(0, .ref (G.2.1 237)), (1, .int x1)]) (hD : D_X11_start_0 Q x1 σ) : W p l e rm_X11_start s m args below meth c H locs 0 0 (QMI G Q below args s) (F0 m 0 ls []) := by
  unfold D_X11_start_0 at hD
  refine lv_aload_n X.1 X.2.1 d_X11_start_0 rfl (lv_at hl 0 rfl) ?_
  refine lv_iload_n X.1 X.2.1 d_X11_start_1 rfl (lv_at hl 1 rfl) ?_
  refine gcV_i (rest := []) (As := [.int x1]) (o := 237) X hw (c_X11_isGame l G x1 σ _  hD) (kd_lt (by decide +kernel : kd 237 = 11) (by decide)) (ce_11 G _ (by decide +kernel : kd 237 = 11)) rfl tb_1144 tb_1146 tv_47 tb_12 tb_1147 hd_X11_isGame ⟨rfl, rfl⟩ ⟨Nat.le_of_ble_eq_true rfl, Nat.le_of_ble_eq_true rfl⟩ rfl hl.1 rfl (Nat.le_of_ble_eq_true rfl) d_X11_start_2 (fun r_1 σ_2 H locs hD hw => ?_)
  refine lv_if_ne (tgt := 14) X.1 X.2.1 d_X11_start_5 (by decide) (fun q_5 => ?_) (fun q_5 => ?_)
  · have hD := hD.1 q_5
    refine lv_aload_n X.1 X.2.1 d_X11_start_14 rfl (lv_at hl 0 rfl) ?_
    refine lv_iload_n X.1 X.2.1 d_X11_start_15 rfl (lv_at hl 1 rfl) ?_
    refine pf_11_41 X hw (by decide +kernel : kd 237 = 11) tb_947 d_X11_start_16 (fun H locs hw => ?_)
    obtain ⟨σ_3, e_σ_3⟩ : ∃ z : GSt, z = up2 σ_2 237 41 x1 := ⟨_, rfl⟩
    rw [← e_σ_3] at hw
    have hD := hD σ_3 e_σ_3
    refine lv_aload_n X.1 X.2.1 d_X11_start_19 rfl (lv_at hl 0 rfl) ?_
    refine lv_iconst (v := 0) X.1 X.2.1 d_X11_start_20 (by decide) ?_
    refine pf_11_42 X hw (by decide +kernel : kd 237 = 11) tb_948 d_X11_start_21 (fun H locs hw => ?_)
    obtain ⟨σ_4, e_σ_4⟩ : ∃ z : GSt, z = up2 σ_3 237 42 0 := ⟨_, rfl⟩
    rw [← e_σ_4] at hw
    have hD := hD σ_4 e_σ_4
    refine lv_aload_n X.1 X.2.1 d_X11_start_24 rfl (lv_at hl 0 rfl) ?_
    refine lv_iload_n X.1 X.2.1 d_X11_start_25 rfl (lv_at hl 1 rfl) ?_
    refine gcV_v (rest := []) (As := [.int x1]) (o := 237) X hw (c_X11_opens l G x1 σ_4 _  hD) (kd_lt (by decide +kernel : kd 237 = 11) (by decide)) (ce_11 G _ (by decide +kernel : kd 237 = 11)) rfl tb_1160 tb_1162 tv_49 tb_12 tb_1163 hd_X11_opens ⟨rfl, rfl⟩ ⟨Nat.le_of_ble_eq_true rfl, Nat.le_of_ble_eq_true rfl⟩ rfl hl.1 rfl (Nat.le_of_ble_eq_true rfl) d_X11_start_26 (fun σ_5 H locs hD hw => ?_)
    refine lv_aload_n X.1 X.2.1 d_X11_start_29 rfl (lv_at hl 0 rfl) ?_
    refine gf_11_32 X hw (by decide +kernel : kd 237 = 11) tb_938 d_X11_start_30 ?_
    refine lv_iconst (v := 0) X.1 X.2.1 d_X11_start_33 (by decide) ?_
    have q_34 : vp_in 0 9 := by unfold vp_in; decide
    refine g_iald X hw ly_11_32.1 ly_11_32.2 q_34 d_X11_start_34 ?_
    exact g_iret X hr hlk hw hD d_X11_start_35
  · have hD := hD.2 q_5
    refine lv_aload_n X.1 X.2.1 d_X11_start_8 rfl (lv_at hl 0 rfl) ?_
    refine lv_iconst (v := (-1)) X.1 X.2.1 d_X11_start_9 (by decide) ?_
    refine gcV_i (rest := []) (As := [.int (-1)]) (o := 237) X hw (c_X11_no l G (-1) σ_2 _  hD) (kd_lt (by decide +kernel : kd 237 = 11) (by decide)) (ce_11 G _ (by decide +kernel : kd 237 = 11)) rfl tb_1084 tb_1086 tv_35 tb_12 tb_1087 hd_X11_no ⟨rfl, rfl⟩ ⟨Nat.le_of_ble_eq_true rfl, Nat.le_of_ble_eq_true rfl⟩ rfl hl.1 rfl (Nat.le_of_ble_eq_true rfl) d_X11_start_10 (fun r_6 σ_7 H locs hD hw => ?_)
    exact g_iret X hr hlk hw hD d_X11_start_13
theorem c_X11_start (l : Launch) (G : GC) (x1 : Int32) (σ : GSt) (Q : Int32 → GSt → Prop)  (hD : D_X11_start x1 σ Q) : MI l ym_X11_start cm_X11_start 2 .int rm_X11_start G σ [.ref (G.2.1 237), .int x1] Q := by
  refine met_i (by decide) (Nat.le_of_ble_eq_true rfl) ?_
  intro p e s m args below meth c X hr hlk hw ls hl
  exact s_X11_start_0 X hr hlk Q  x1 σ hw (lv_sub hl [0, 1] rfl) hD
theorem hd_X11_moves : ym_X11_moves.cls = "GameLoomModel" ∧ ym_X11_moves.cls ≠ "java/lang/invoke/MethodHandle" ∧ ym_X11_moves.cls ≠ "java/lang/invoke/VarHandle" ∧ (parseMethodDescriptor ym_X11_moves.desc).map (fun d => d.parameters.length) = some 0 := by decide +kernel
abbrev rm_X11_moves : Room := { frames := 0, cells := 0, slots := 0, locals := 0 }
theorem d_X11_moves_0 : decode cm_X11_moves 0 = .ok (.aload_n 0, 1) := by decide +kernel
theorem d_X11_moves_1 : decode cm_X11_moves 1 = .ok (.getfield 77, 3) := by decide +kernel
theorem d_X11_moves_4 : decode cm_X11_moves 4 = .ok (.iconst 0, 1) := by decide +kernel
theorem d_X11_moves_5 : decode cm_X11_moves 5 = .ok (.iaload, 1) := by decide +kernel
theorem d_X11_moves_6 : decode cm_X11_moves 6 = .ok (.ifCond .eq 7, 3) := by decide +kernel
theorem d_X11_moves_9 : decode cm_X11_moves 9 = .ok (.iconst 0, 1) := by decide +kernel
theorem d_X11_moves_10 : decode cm_X11_moves 10 = .ok (.goto 9, 3) := by decide +kernel
theorem d_X11_moves_13 : decode cm_X11_moves 13 = .ok (.aload_n 0, 1) := by decide +kernel
theorem d_X11_moves_14 : decode cm_X11_moves 14 = .ok (.getfield 95, 3) := by decide +kernel
theorem d_X11_moves_17 : decode cm_X11_moves 17 = .ok (.iconst 0, 1) := by decide +kernel
theorem d_X11_moves_18 : decode cm_X11_moves 18 = .ok (.iaload, 1) := by decide +kernel
theorem d_X11_moves_19 : decode cm_X11_moves 19 = .ok (.ireturn, 1) := by decide +kernel
def D_X11_moves_0 (Q : Int32 → GSt → Prop) (σ : GSt) : Prop :=
  ((σ 260 (Int32.toNatClampNeg 0)) = 0 → Q (σ 266 (Int32.toNatClampNeg 0)) σ) ∧
  (¬ (σ 260 (Int32.toNatClampNeg 0)) = 0 → Q 0 σ)
def D_X11_moves (σ : GSt) (Q : Int32 → GSt → Prop) : Prop := D_X11_moves_0 Q σ
set_option maxRecDepth 20000 in
set_option maxHeartbeats 4000000 in
theorem s_X11_moves_0 {p : Program} {l : Launch} {e : Env} {s : State} {m : MethodId} {args : Array Value} {below : List Frame} {meth : Method} {c : Code} {G : GC} (X : CallFix p m c cm_X11_moves 1 s args lw_us "GameLoomModel") (hr : meth.sig.returnType = some .int) (hlk : meth.locks = false) (Q : Int32 → GSt → Prop) (σ : GSt) {H : Heap} {locs : List Loc} {ls : Array Slot} (hw : Wo G s H locs σ) (hl : lv_has ls 1 [(0, .ref (G.2.1 237))]) (hD : D_X11_moves_0 Q σ) : W p l e rm_X11_moves s m args below meth c H locs 0 0 (QMI G Q below args s) (F0 m 0 ls []) := by
  unfold D_X11_moves_0 at hD
  refine lv_aload_n X.1 X.2.1 d_X11_moves_0 rfl (lv_at hl 0 rfl) ?_
  refine gf_11_26 X hw (by decide +kernel : kd 237 = 11) tb_932 d_X11_moves_1 ?_
  refine lv_iconst (v := 0) X.1 X.2.1 d_X11_moves_4 (by decide) ?_
  have q_5 : vp_in 0 9 := by unfold vp_in; decide
  refine g_iald X hw ly_11_26.1 ly_11_26.2 q_5 d_X11_moves_5 ?_
  refine lv_if_eq (tgt := 13) X.1 X.2.1 d_X11_moves_6 (by decide) (fun q_6 => ?_) (fun q_6 => ?_)
  · have hD := hD.1 q_6
    refine lv_aload_n X.1 X.2.1 d_X11_moves_13 rfl (lv_at hl 0 rfl) ?_
    refine gf_11_32 X hw (by decide +kernel : kd 237 = 11) tb_938 d_X11_moves_14 ?_
    refine lv_iconst (v := 0) X.1 X.2.1 d_X11_moves_17 (by decide) ?_
    have q_18 : vp_in 0 9 := by unfold vp_in; decide
    refine g_iald X hw ly_11_32.1 ly_11_32.2 q_18 d_X11_moves_18 ?_
    exact g_iret X hr hlk hw hD d_X11_moves_19
  · have hD := hD.2 q_6
    refine lv_iconst (v := 0) X.1 X.2.1 d_X11_moves_9 (by decide) ?_
    refine lv_goto (tgt := 19) X.1 X.2.1 d_X11_moves_10 (by decide) ?_
    exact g_iret X hr hlk hw hD d_X11_moves_19
theorem c_X11_moves (l : Launch) (G : GC) (σ : GSt) (Q : Int32 → GSt → Prop)  (hD : D_X11_moves  σ Q) : MI l ym_X11_moves cm_X11_moves 1 .int rm_X11_moves G σ [.ref (G.2.1 237)] Q := by
  refine met_i (by decide) (Nat.le_of_ble_eq_true rfl) ?_
  intro p e s m args below meth c X hr hlk hw ls hl
  exact s_X11_moves_0 X hr hlk Q   σ hw (lv_sub hl [0] rfl) hD
