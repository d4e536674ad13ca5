theorem hd_X8_note : ym_X8_note.cls = "GameLoom$Tally" ∧ ym_X8_note.cls ≠ "java/lang/invoke/MethodHandle" ∧ ym_X8_note.cls ≠ "java/lang/invoke/VarHandle" ∧ (parseMethodDescriptor ym_X8_note.desc).map (fun d => d.parameters.length) = some 0 := by decide +kernel
abbrev rm_X8_note : Room := { frames := 1, cells := 0, slots := 0, locals := 40 }
theorem d_X8_note_0 : decode cm_X8_note 0 = .ok (.aload_n 0, 1) := by decide +kernel
theorem d_X8_note_1 : decode cm_X8_note 1 = .ok (.dup, 1) := by decide +kernel
theorem d_X8_note_2 : decode cm_X8_note 2 = .ok (.getfield 42, 3) := by decide +kernel
theorem d_X8_note_5 : decode cm_X8_note 5 = .ok (.iconst 1, 1) := by decide +kernel
theorem d_X8_note_6 : decode cm_X8_note 6 = .ok (.iadd, 1) := by decide +kernel
theorem d_X8_note_7 : decode cm_X8_note 7 = .ok (.putfield 42, 3) := by decide +kernel
theorem d_X8_note_10 : decode cm_X8_note 10 = .ok (.aload_n 0, 1) := by decide +kernel
theorem d_X8_note_11 : decode cm_X8_note 11 = .ok (.dup, 1) := by decide +kernel
theorem d_X8_note_12 : decode cm_X8_note 12 = .ok (.getfield 46, 3) := by decide +kernel
theorem d_X8_note_15 : decode cm_X8_note 15 = .ok (.aload_n 0, 1) := by decide +kernel
theorem d_X8_note_16 : decode cm_X8_note 16 = .ok (.getfield 12, 3) := by decide +kernel
theorem d_X8_note_19 : decode cm_X8_note 19 = .ok (.getfield 101, 3) := by decide +kernel
theorem d_X8_note_22 : decode cm_X8_note 22 = .ok (.iadd, 1) := by decide +kernel
theorem d_X8_note_23 : decode cm_X8_note 23 = .ok (.putfield 46, 3) := by decide +kernel
theorem d_X8_note_26 : decode cm_X8_note 26 = .ok (.aload_n 0, 1) := by decide +kernel
theorem d_X8_note_27 : decode cm_X8_note 27 = .ok (.aload_n 0, 1) := by decide +kernel
theorem d_X8_note_28 : decode cm_X8_note 28 = .ok (.getfield 61, 3) := by decide +kernel
theorem d_X8_note_31 : decode cm_X8_note 31 = .ok (.aload_n 0, 1) := by decide +kernel
theorem d_X8_note_32 : decode cm_X8_note 32 = .ok (.getfield 12, 3) := by decide +kernel
theorem d_X8_note_35 : decode cm_X8_note 35 = .ok (.getfield 101, 3) := by decide +kernel
theorem d_X8_note_38 : decode cm_X8_note 38 = .ok (.invokestatic 104, 3) := by decide +kernel
theorem d_X8_note_41 : decode cm_X8_note 41 = .ok (.putfield 61, 3) := by decide +kernel
theorem d_X8_note_44 : decode cm_X8_note 44 = .ok (.aload_n 0, 1) := by decide +kernel
theorem d_X8_note_45 : decode cm_X8_note 45 = .ok (.getfield 12, 3) := by decide +kernel
theorem d_X8_note_48 : decode cm_X8_note 48 = .ok (.getfield 109, 3) := by decide +kernel
theorem d_X8_note_51 : decode cm_X8_note 51 = .ok (.ifCond .ne 16, 3) := by decide +kernel
theorem d_X8_note_54 : decode cm_X8_note 54 = .ok (.aload_n 0, 1) := by decide +kernel
theorem d_X8_note_55 : decode cm_X8_note 55 = .ok (.dup, 1) := by decide +kernel
theorem d_X8_note_56 : decode cm_X8_note 56 = .ok (.getfield 49, 3) := by decide +kernel
theorem d_X8_note_59 : decode cm_X8_note 59 = .ok (.iconst 1, 1) := by decide +kernel
theorem d_X8_note_60 : decode cm_X8_note 60 = .ok (.iadd, 1) := by decide +kernel
theorem d_X8_note_61 : decode cm_X8_note 61 = .ok (.putfield 49, 3) := by decide +kernel
theorem d_X8_note_64 : decode cm_X8_note 64 = .ok (.goto 24, 3) := by decide +kernel
theorem d_X8_note_67 : decode cm_X8_note 67 = .ok (.aload_n 0, 1) := by decide +kernel
theorem d_X8_note_68 : decode cm_X8_note 68 = .ok (.getfield 12, 3) := by decide +kernel
theorem d_X8_note_71 : decode cm_X8_note 71 = .ok (.getfield 109, 3) := by decide +kernel
theorem d_X8_note_74 : decode cm_X8_note 74 = .ok (.iconst 1, 1) := by decide +kernel
theorem d_X8_note_75 : decode cm_X8_note 75 = .ok (.if_icmp .ne 13, 3) := by decide +kernel
theorem d_X8_note_78 : decode cm_X8_note 78 = .ok (.aload_n 0, 1) := by decide +kernel
theorem d_X8_note_79 : decode cm_X8_note 79 = .ok (.dup, 1) := by decide +kernel
theorem d_X8_note_80 : decode cm_X8_note 80 = .ok (.getfield 52, 3) := by decide +kernel
theorem d_X8_note_83 : decode cm_X8_note 83 = .ok (.iconst 1, 1) := by decide +kernel
theorem d_X8_note_84 : decode cm_X8_note 84 = .ok (.iadd, 1) := by decide +kernel
theorem d_X8_note_85 : decode cm_X8_note 85 = .ok (.putfield 52, 3) := by decide +kernel
theorem d_X8_note_88 : decode cm_X8_note 88 = .ok (.aload_n 0, 1) := by decide +kernel
theorem d_X8_note_89 : decode cm_X8_note 89 = .ok (.getfield 12, 3) := by decide +kernel
theorem d_X8_note_92 : decode cm_X8_note 92 = .ok (.getfield 68, 3) := by decide +kernel
theorem d_X8_note_95 : decode cm_X8_note 95 = .ok (.iconst 3, 1) := by decide +kernel
theorem d_X8_note_96 : decode cm_X8_note 96 = .ok (.if_icmp .ne 16, 3) := by decide +kernel
theorem d_X8_note_99 : decode cm_X8_note 99 = .ok (.aload_n 0, 1) := by decide +kernel
theorem d_X8_note_100 : decode cm_X8_note 100 = .ok (.dup, 1) := by decide +kernel
theorem d_X8_note_101 : decode cm_X8_note 101 = .ok (.getfield 55, 3) := by decide +kernel
theorem d_X8_note_104 : decode cm_X8_note 104 = .ok (.iconst 1, 1) := by decide +kernel
theorem d_X8_note_105 : decode cm_X8_note 105 = .ok (.iadd, 1) := by decide +kernel
theorem d_X8_note_106 : decode cm_X8_note 106 = .ok (.putfield 55, 3) := by decide +kernel
theorem d_X8_note_109 : decode cm_X8_note 109 = .ok (.goto 24, 3) := by decide +kernel
theorem d_X8_note_112 : decode cm_X8_note 112 = .ok (.aload_n 0, 1) := by decide +kernel
theorem d_X8_note_113 : decode cm_X8_note 113 = .ok (.getfield 12, 3) := by decide +kernel
theorem d_X8_note_116 : decode cm_X8_note 116 = .ok (.getfield 68, 3) := by decide +kernel
theorem d_X8_note_119 : decode cm_X8_note 119 = .ok (.iconst 2, 1) := by decide +kernel
theorem d_X8_note_120 : decode cm_X8_note 120 = .ok (.if_icmp .ne 13, 3) := by decide +kernel
theorem d_X8_note_123 : decode cm_X8_note 123 = .ok (.aload_n 0, 1) := by decide +kernel
theorem d_X8_note_124 : decode cm_X8_note 124 = .ok (.dup, 1) := by decide +kernel
theorem d_X8_note_125 : decode cm_X8_note 125 = .ok (.getfield 58, 3) := by decide +kernel
theorem d_X8_note_128 : decode cm_X8_note 128 = .ok (.iconst 1, 1) := by decide +kernel
theorem d_X8_note_129 : decode cm_X8_note 129 = .ok (.iadd, 1) := by decide +kernel
theorem d_X8_note_130 : decode cm_X8_note 130 = .ok (.putfield 58, 3) := by decide +kernel
theorem d_X8_note_133 : decode cm_X8_note 133 = .ok (.aload_n 0, 1) := by decide +kernel
theorem d_X8_note_134 : decode cm_X8_note 134 = .ok (.getfield 12, 3) := by decide +kernel
theorem d_X8_note_137 : decode cm_X8_note 137 = .ok (.getfield 112, 3) := by decide +kernel
theorem d_X8_note_140 : decode cm_X8_note 140 = .ok (.ifCond .lt 31, 3) := by decide +kernel
theorem d_X8_note_143 : decode cm_X8_note 143 = .ok (.aload_n 0, 1) := by decide +kernel
theorem d_X8_note_144 : decode cm_X8_note 144 = .ok (.getfield 12, 3) := by decide +kernel
theorem d_X8_note_147 : decode cm_X8_note 147 = .ok (.getfield 112, 3) := by decide +kernel
theorem d_X8_note_150 : decode cm_X8_note 150 = .ok (.bipush 6, 2) := by decide +kernel
theorem d_X8_note_152 : decode cm_X8_note 152 = .ok (.if_icmp .ge 19, 3) := by decide +kernel
theorem d_X8_note_155 : decode cm_X8_note 155 = .ok (.aload_n 0, 1) := by decide +kernel
theorem d_X8_note_156 : decode cm_X8_note 156 = .ok (.getfield 25, 3) := by decide +kernel
theorem d_X8_note_159 : decode cm_X8_note 159 = .ok (.aload_n 0, 1) := by decide +kernel
theorem d_X8_note_160 : decode cm_X8_note 160 = .ok (.getfield 12, 3) := by decide +kernel
theorem d_X8_note_163 : decode cm_X8_note 163 = .ok (.getfield 112, 3) := by decide +kernel
theorem d_X8_note_166 : decode cm_X8_note 166 = .ok (.dup2, 1) := by decide +kernel
theorem d_X8_note_167 : decode cm_X8_note 167 = .ok (.iaload, 1) := by decide +kernel
theorem d_X8_note_168 : decode cm_X8_note 168 = .ok (.iconst 1, 1) := by decide +kernel
theorem d_X8_note_169 : decode cm_X8_note 169 = .ok (.iadd, 1) := by decide +kernel
theorem d_X8_note_170 : decode cm_X8_note 170 = .ok (.iastore, 1) := by decide +kernel
theorem d_X8_note_171 : decode cm_X8_note 171 = .ok (.return_, 1) := by decide +kernel
def D_X8_note_133 (Q : GSt → Prop) (o : Nat) (σ : GSt) : Prop :=
  ((σ (o + 1) 6) < 0 → Q σ) ∧
  (¬ (σ (o + 1) 6) < 0 → (6 ≤ (σ (o + 1) 6) → Q σ) ∧
  (¬ 6 ≤ (σ (o + 1) 6) → vp_in (σ (o + 1) 6) 6 ∧ (vp_in (σ (o + 1) 6) 6 ∧ (∀ σ_1 : GSt, σ_1 = up2 σ (o + 4) (Int32.toNatClampNeg (σ (o + 1) 6)) ((σ (o + 4) (Int32.toNatClampNeg (σ (o + 1) 6))) + 1) → (Q σ_1)))))
def D_X8_note_88 (Q : GSt → Prop) (o : Nat) (σ : GSt) : Prop :=
  (¬ (σ (o + 1) 4) = 3 → (¬ (σ (o + 1) 4) = 2 → D_X8_note_133 Q o σ) ∧
  ((σ (o + 1) 4) = 2 → ∀ σ_1 : GSt, σ_1 = up2 σ o 8 ((σ o 8) + 1) → (D_X8_note_133 Q o σ_1))) ∧
  ((σ (o + 1) 4) = 3 → ∀ σ_2 : GSt, σ_2 = up2 σ o 7 ((σ o 7) + 1) → (D_X8_note_133 Q o σ_2))
def D_X8_note_0 (Q : GSt → Prop) (o : Nat) (σ : GSt) : Prop :=
  ∀ σ_1 : GSt, σ_1 = up2 σ o 4 ((σ o 4) + 1) → (∀ σ_2 : GSt, σ_2 = up2 σ_1 o 1 ((σ_1 o 1) + (σ_1 (o + 1) 3)) → (∀ σ_3 : GSt, σ_3 = up2 σ_2 o 9 (jmax (σ_2 o 9) (σ_2 (o + 1) 3)) → ((¬ (σ_3 (o + 1) 5) = 0 → (¬ (σ_3 (o + 1) 5) = 1 → D_X8_note_88 Q o σ_3) ∧
  ((σ_3 (o + 1) 5) = 1 → ∀ σ_4 : GSt, σ_4 = up2 σ_3 o 6 ((σ_3 o 6) + 1) → (D_X8_note_88 Q o σ_4))) ∧
  ((σ_3 (o + 1) 5) = 0 → ∀ σ_5 : GSt, σ_5 = up2 σ_3 o 5 ((σ_3 o 5) + 1) → (D_X8_note_88 Q o σ_5)))))
def D_X8_note (o : Nat) (σ : GSt) (Q : GSt → Prop) : Prop := D_X8_note_0 Q o σ
set_option maxRecDepth 20000 in
set_option maxHeartbeats 4000000 in
theorem s_X8_note_133 {p : Program} {l : Launch} {e : Env} {s : State} {m : MethodId} {args : Array Value} {below : List Frame} {meth : Method} {c : Code} {G : GC} (X : CallFix p m c cm_X8_note 1 s args lw_us "GameLoom$Tally") (hr : meth.sig.returnType = none) (hlk : meth.locks = false) (Q : GSt → Prop) (o : Nat) (ho : kd o = 8) (σ : GSt) {H : Heap} {locs : List Loc} {ls : Array Slot} (hw : Wo G s H locs σ) (hl : lv_has ls 1 [(0, .ref (G.2.1 o))]) (hD : D_X8_note_133 Q o σ) : W p l e rm_X8_note s m args below meth c H locs 0 0 (QMV G Q below args s) (F0 m 133 ls []) := by
  unfold D_X8_note_133 at hD
  refine lv_aload_n X.1 X.2.1 d_X8_note_133 rfl (lv_at hl 0 rfl) ?_
  refine gf_8_0 X hw ho tb_282 d_X8_note_134 ?_
  refine gf_5_6 X hw (ly_8_0 ho) tb_265 d_X8_note_137 ?_
  refine lv_if_lt (tgt := 171) X.1 X.2.1 d_X8_note_140 (by decide) (fun q_140 => ?_) (fun q_140 => ?_)
  · have hD := hD.1 q_140
    exact g_vret X hr hlk hw hD d_X8_note_171
  · have hD := hD.2 q_140
    refine lv_aload_n X.1 X.2.1 d_X8_note_143 rfl (lv_at hl 0 rfl) ?_
    refine gf_8_0 X hw ho tb_282 d_X8_note_144 ?_
    refine gf_5_6 X hw (ly_8_0 ho) tb_265 d_X8_note_147 ?_
    refine lv_bipush (v := 6) X.1 X.2.1 d_X8_note_150 (by decide) ?_
    refine lv_icmp_ge (tgt := 171) X.1 X.2.1 d_X8_note_152 (by decide) (fun q_152 => ?_) (fun q_152 => ?_)
    · have hD := hD.1 q_152
      exact g_vret X hr hlk hw hD d_X8_note_171
    · have hD := hD.2 q_152
      refine lv_aload_n X.1 X.2.1 d_X8_note_155 rfl (lv_at hl 0 rfl) ?_
      refine gf_8_11 X hw ho tb_295 d_X8_note_156 ?_
      refine lv_aload_n X.1 X.2.1 d_X8_note_159 rfl (lv_at hl 0 rfl) ?_
      refine gf_8_0 X hw ho tb_282 d_X8_note_160 ?_
      refine gf_5_6 X hw (ly_8_0 ho) tb_265 d_X8_note_163 ?_
      refine lv_dup2_11 X.1 X.2.1 d_X8_note_166 rfl rfl ?_
      obtain ⟨q_167, hD⟩ := hD
      refine g_iald X hw (ly_8_11 ho).1 (ly_8_11 ho).2 q_167 d_X8_note_167 ?_
      refine lv_iconst (v := 1) X.1 X.2.1 d_X8_note_168 (by decide) ?_
      refine lv_iadd X.1 X.2.1 d_X8_note_169 ?_
      obtain ⟨q_170, hD⟩ := hD
      refine g_iast X hw (ly_8_11 ho).1 (ly_8_11 ho).2 q_170 d_X8_note_170 (fun H locs hw => ?_)
      obtain ⟨σ_1, e_σ_1⟩ : ∃ z : GSt, z = up2 σ (o + 4) (Int32.toNatClampNeg (σ (o + 1) 6)) ((σ (o + 4) (Int32.toNatClampNeg (σ (o + 1) 6))) + 1) := ⟨_, rfl⟩
      rw [← e_σ_1] at hw
      have hD := hD σ_1 e_σ_1
      exact g_vret X hr hlk hw hD d_X8_note_171
set_option maxRecDepth 20000 in
set_option maxHeartbeats 4000000 in
theorem s_X8_note_88 {p : Program} {l : Launch} {e : Env} {s : State} {m : MethodId} {args : Array Value} {below : List Frame} {meth : Method} {c : Code} {G : GC} (X : CallFix p m c cm_X8_note 1 s args lw_us "GameLoom$Tally") (hr : meth.sig.returnType = none) (hlk : meth.locks = false) (Q : GSt → Prop) (o : Nat) (ho : kd o = 8) (σ : GSt) {H : Heap} {locs : List Loc} {ls : Array Slot} (hw : Wo G s H locs σ) (hl : lv_has ls 1 [(0, .ref (G.2.1 o))]) (hD : D_X8_note_88 Q o σ) : W p l e rm_X8_note s m args below meth c H locs 0 0 (QMV G Q below args s) (F0 m 88 ls []) := by
  unfold D_X8_note_88 at hD
  refine lv_aload_n X.1 X.2.1 d_X8_note_88 rfl (lv_at hl 0 rfl) ?_
  refine gf_8_0 X hw ho tb_282 d_X8_note_89 ?_
  refine gf_5_4 X hw (ly_8_0 ho) tb_257 d_X8_note_92 ?_
  refine lv_iconst (v := 3) X.1 X.2.1 d_X8_note_95 (by decide) ?_
  refine lv_icmp_ne (tgt := 112) X.1 X.2.1 d_X8_note_96 (by decide) (fun q_96 => ?_) (fun q_96 => ?_)
  · have hD := hD.1 q_96
    refine lv_aload_n X.1 X.2.1 d_X8_note_112 rfl (lv_at hl 0 rfl) ?_
    refine gf_8_0 X hw ho tb_282 d_X8_note_113 ?_
    refine gf_5_4 X hw (ly_8_0 ho) tb_257 d_X8_note_116 ?_
    refine lv_iconst (v := 2) X.1 X.2.1 d_X8_note_119 (by decide) ?_
    refine lv_icmp_ne (tgt := 133) X.1 X.2.1 d_X8_note_120 (by decide) (fun q_120 => ?_) (fun q_120 => ?_)
    · have hD := hD.1 q_120
      exact s_X8_note_133 X hr hlk  Q o ho   σ hw (lv_sub hl [0] rfl) hD
    · have hD := hD.2 q_120
      refine lv_aload_n X.1 X.2.1 d_X8_note_123 rfl (lv_at hl 0 rfl) ?_
      refine lv_dup X.1 X.2.1 d_X8_note_124 rfl ?_
      refine gf_8_8 X hw ho tb_292 d_X8_note_125 ?_
      refine lv_iconst (v := 1) X.1 X.2.1 d_X8_note_128 (by decide) ?_
      refine lv_iadd X.1 X.2.1 d_X8_note_129 ?_
      refine pf_8_8 X hw ho tb_292 d_X8_note_130 (fun H locs hw => ?_)
      obtain ⟨σ_1, e_σ_1⟩ : ∃ z : GSt, z = up2 σ o 8 ((σ o 8) + 1) := ⟨_, rfl⟩
      rw [← e_σ_1] at hw
      have hD := hD σ_1 e_σ_1
      exact s_X8_note_133 X hr hlk  Q o ho   σ_1 hw (lv_sub hl [0] rfl) hD
  · have hD := hD.2 q_96
    refine lv_aload_n X.1 X.2.1 d_X8_note_99 rfl (lv_at hl 0 rfl) ?_
    refine lv_dup X.1 X.2.1 d_X8_note_100 rfl ?_
    refine gf_8_7 X hw ho tb_291 d_X8_note_101 ?_
    refine lv_iconst (v := 1) X.1 X.2.1 d_X8_note_104 (by decide) ?_
    refine lv_iadd X.1 X.2.1 d_X8_note_105 ?_
    refine pf_8_7 X hw ho tb_291 d_X8_note_106 (fun H locs hw => ?_)
    obtain ⟨σ_2, e_σ_2⟩ : ∃ z : GSt, z = up2 σ o 7 ((σ o 7) + 1) := ⟨_, rfl⟩
    rw [← e_σ_2] at hw
    have hD := hD σ_2 e_σ_2
    refine lv_goto (tgt := 133) X.1 X.2.1 d_X8_note_109 (by decide) ?_
    exact s_X8_note_133 X hr hlk  Q o ho   σ_2 hw (lv_sub hl [0] rfl) hD
set_option maxRecDepth 20000 in
set_option maxHeartbeats 4000000 in
theorem s_X8_note_0 {p : Program} {l : Launch} {e : Env} {s : State} {m : MethodId} {args : Array Value} {below : List Frame} {meth : Method} {c : Code} {G : GC} (X : CallFix p m c cm_X8_note 1 s args lw_us "GameLoom$Tally") (hr : meth.sig.returnType = none) (hlk : meth.locks = false) (Q : GSt → Prop) (o : Nat) (ho : kd o = 8) (σ : GSt) {H : Heap} {locs : List Loc} {ls : Array Slot} (hw : Wo G s H locs σ) (hl : lv_has ls 1 [(0, .ref (G.2.1 o))]) (hD : D_X8_note_0 Q o σ) : W p l e rm_X8_note s m args below meth c H locs 0 0 (QMV G Q below args s) (F0 m 0 ls []) := by
  unfold D_X8_note_0 at hD
  refine lv_aload_n X.1 X.2.1 d_X8_note_0 rfl (lv_at hl 0 rfl) ?_
  refine lv_dup X.1 X.2.1 d_X8_note_1 rfl ?_
  refine gf_8_4 X hw ho tb_288 d_X8_note_2 ?_
  refine lv_iconst (v := 1) X.1 X.2.1 d_X8_note_5 (by decide) ?_
  refine lv_iadd X.1 X.2.1 d_X8_note_6 ?_
  refine pf_8_4 X hw ho tb_288 d_X8_note_7 (fun H locs hw => ?_)
  obtain ⟨σ_1, e_σ_1⟩ : ∃ z : GSt, z = up2 σ o 4 ((σ o 4) + 1) := ⟨_, rfl⟩
  rw [← e_σ_1] at hw
  have hD := hD σ_1 e_σ_1
  refine lv_aload_n X.1 X.2.1 d_X8_note_10 rfl (lv_at hl 0 rfl) ?_
  refine lv_dup X.1 X.2.1 d_X8_note_11 rfl ?_
  refine gf_8_1 X hw ho tb_284 d_X8_note_12 ?_
  refine lv_aload_n X.1 X.2.1 d_X8_note_15 rfl (lv_at hl 0 rfl) ?_
  refine gf_8_0 X hw ho tb_282 d_X8_note_16 ?_
  refine gf_5_3 X hw (ly_8_0 ho) tb_252 d_X8_note_19 ?_
  refine lv_iadd X.1 X.2.1 d_X8_note_22 ?_
  refine pf_8_1 X hw ho tb_284 d_X8_note_23 (fun H locs hw => ?_)
  obtain ⟨σ_2, e_σ_2⟩ : ∃ z : GSt, z = up2 σ_1 o 1 ((σ_1 o 1) + (σ_1 (o + 1) 3)) := ⟨_, rfl⟩
  rw [← e_σ_2] at hw
  have hD := hD σ_2 e_σ_2
  refine lv_aload_n X.1 X.2.1 d_X8_note_26 rfl (lv_at hl 0 rfl) ?_
  refine lv_aload_n X.1 X.2.1 d_X8_note_27 rfl (lv_at hl 0 rfl) ?_
  refine gf_8_9 X hw ho tb_293 d_X8_note_28 ?_
  refine lv_aload_n X.1 X.2.1 d_X8_note_31 rfl (lv_at hl 0 rfl) ?_
  refine gf_8_0 X hw ho tb_282 d_X8_note_32 ?_
  refine gf_5_3 X hw (ly_8_0 ho) tb_252 d_X8_note_35 ?_
  refine g_mmax (rest := [.ref (G.2.1 o)]) X hl.1 tb_749 (Nat.le_of_ble_eq_true rfl) (Nat.le_of_ble_eq_true rfl) d_X8_note_38 ?_
  refine pf_8_9 X hw ho tb_293 d_X8_note_41 (fun H locs hw => ?_)
  obtain ⟨σ_3, e_σ_3⟩ : ∃ z : GSt, z = up2 σ_2 o 9 (jmax (σ_2 o 9) (σ_2 (o + 1) 3)) := ⟨_, rfl⟩
  rw [← e_σ_3] at hw
  have hD := hD σ_3 e_σ_3
  refine lv_aload_n X.1 X.2.1 d_X8_note_44 rfl (lv_at hl 0 rfl) ?_
  refine gf_8_0 X hw ho tb_282 d_X8_note_45 ?_
  refine gf_5_5 X hw (ly_8_0 ho) tb_262 d_X8_note_48 ?_
  refine lv_if_ne (tgt := 67) X.1 X.2.1 d_X8_note_51 (by decide) (fun q_51 => ?_) (fun q_51 => ?_)
  · have hD := hD.1 q_51
    refine lv_aload_n X.1 X.2.1 d_X8_note_67 rfl (lv_at hl 0 rfl) ?_
    refine gf_8_0 X hw ho tb_282 d_X8_note_68 ?_
    refine gf_5_5 X hw (ly_8_0 ho) tb_262 d_X8_note_71 ?_
    refine lv_iconst (v := 1) X.1 X.2.1 d_X8_note_74 (by decide) ?_
    refine lv_icmp_ne (tgt := 88) X.1 X.2.1 d_X8_note_75 (by decide) (fun q_75 => ?_) (fun q_75 => ?_)
    · have hD := hD.1 q_75
      exact s_X8_note_88 X hr hlk  Q o ho   σ_3 hw (lv_sub hl [0] rfl) hD
    · have hD := hD.2 q_75
      refine lv_aload_n X.1 X.2.1 d_X8_note_78 rfl (lv_at hl 0 rfl) ?_
      refine lv_dup X.1 X.2.1 d_X8_note_79 rfl ?_
      refine gf_8_6 X hw ho tb_290 d_X8_note_80 ?_
      refine lv_iconst (v := 1) X.1 X.2.1 d_X8_note_83 (by decide) ?_
      refine lv_iadd X.1 X.2.1 d_X8_note_84 ?_
      refine pf_8_6 X hw ho tb_290 d_X8_note_85 (fun H locs hw => ?_)
      obtain ⟨σ_4, e_σ_4⟩ : ∃ z : GSt, z = up2 σ_3 o 6 ((σ_3 o 6) + 1) := ⟨_, rfl⟩
      rw [← e_σ_4] at hw
      have hD := hD σ_4 e_σ_4
      exact s_X8_note_88 X hr hlk  Q o ho   σ_4 hw (lv_sub hl [0] rfl) hD
  · have hD := hD.2 q_51
    refine lv_aload_n X.1 X.2.1 d_X8_note_54 rfl (lv_at hl 0 rfl) ?_
    refine lv_dup X.1 X.2.1 d_X8_note_55 rfl ?_
    refine gf_8_5 X hw ho tb_289 d_X8_note_56 ?_
    refine lv_iconst (v := 1) X.1 X.2.1 d_X8_note_59 (by decide) ?_
    refine lv_iadd X.1 X.2.1 d_X8_note_60 ?_
    refine pf_8_5 X hw ho tb_289 d_X8_note_61 (fun H locs hw => ?_)
    obtain ⟨σ_5, e_σ_5⟩ : ∃ z : GSt, z = up2 σ_3 o 5 ((σ_3 o 5) + 1) := ⟨_, rfl⟩
    rw [← e_σ_5] at hw
    have hD := hD σ_5 e_σ_5
    refine lv_goto (tgt := 88) X.1 X.2.1 d_X8_note_64 (by decide) ?_
    exact s_X8_note_88 X hr hlk  Q o ho   σ_5 hw (lv_sub hl [0] rfl) hD
theorem c_X8_note (l : Launch) (G : GC) (o : Nat) (σ : GSt) (Q : GSt → Prop) (ho : kd o = 8) (hD : D_X8_note o σ Q) : MV l ym_X8_note cm_X8_note 1 rm_X8_note G σ [.ref (G.2.1 o)] Q := by
  refine met_v (by decide) (Nat.le_of_ble_eq_true rfl) ?_
  intro p e s m args below meth c X hr hlk hw ls hl
  exact s_X8_note_0 X hr hlk Q o ho  σ hw (lv_sub hl [0] rfl) hD
theorem hd_X8_playOut : ym_X8_playOut.cls = "GameLoom$Tally" ∧ ym_X8_playOut.cls ≠ "java/lang/invoke/MethodHandle" ∧ ym_X8_playOut.cls ≠ "java/lang/invoke/VarHandle" ∧ (parseMethodDescriptor ym_X8_playOut.desc).map (fun d => d.parameters.length) = some 4 := by decide +kernel
abbrev rm_X8_playOut : Room := { frames := 14, cells := 0, slots := 0, locals := 365 }
theorem d_X8_playOut_0 : decode cm_X8_playOut 0 = .ok (.iload_n 2, 1) := by decide +kernel
theorem d_X8_playOut_1 : decode cm_X8_playOut 1 = .ok (.istore 5, 2) := by decide +kernel
theorem d_X8_playOut_3 : decode cm_X8_playOut 3 = .ok (.aload_n 0, 1) := by decide +kernel
theorem d_X8_playOut_4 : decode cm_X8_playOut 4 = .ok (.getfield 12, 3) := by decide +kernel
theorem d_X8_playOut_7 : decode cm_X8_playOut 7 = .ok (.aload_n 1, 1) := by decide +kernel
theorem d_X8_playOut_8 : decode cm_X8_playOut 8 = .ok (.invokevirtual 64, 3) := by decide +kernel
theorem d_X8_playOut_11 : decode cm_X8_playOut 11 = .ok (.iconst 0, 1) := by decide +kernel
theorem d_X8_playOut_12 : decode cm_X8_playOut 12 = .ok (.istore 6, 2) := by decide +kernel
theorem d_X8_playOut_14 : decode cm_X8_playOut 14 = .ok (.iload 6, 2) := by decide +kernel
theorem d_X8_playOut_16 : decode cm_X8_playOut 16 = .ok (.bipush 60, 2) := by decide +kernel
theorem d_X8_playOut_18 : decode cm_X8_playOut 18 = .ok (.if_icmp .ge 141, 3) := by decide +kernel
theorem d_X8_playOut_21 : decode cm_X8_playOut 21 = .ok (.aload_n 0, 1) := by decide +kernel
theorem d_X8_playOut_22 : decode cm_X8_playOut 22 = .ok (.getfield 12, 3) := by decide +kernel
theorem d_X8_playOut_25 : decode cm_X8_playOut 25 = .ok (.getfield 68, 3) := by decide +kernel
theorem d_X8_playOut_28 : decode cm_X8_playOut 28 = .ok (.ifCond .ne 131, 3) := by decide +kernel
theorem d_X8_playOut_31 : decode cm_X8_playOut 31 = .ok (.aload_n 0, 1) := by decide +kernel
theorem d_X8_playOut_32 : decode cm_X8_playOut 32 = .ok (.getfield 12, 3) := by decide +kernel
theorem d_X8_playOut_35 : decode cm_X8_playOut 35 = .ok (.aload_n 0, 1) := by decide +kernel
theorem d_X8_playOut_36 : decode cm_X8_playOut 36 = .ok (.getfield 18, 3) := by decide +kernel
theorem d_X8_playOut_39 : decode cm_X8_playOut 39 = .ok (.invokevirtual 71, 3) := by decide +kernel
theorem d_X8_playOut_42 : decode cm_X8_playOut 42 = .ok (.istore 7, 2) := by decide +kernel
theorem d_X8_playOut_44 : decode cm_X8_playOut 44 = .ok (.aload_n 0, 1) := by decide +kernel
theorem d_X8_playOut_45 : decode cm_X8_playOut 45 = .ok (.getfield 12, 3) := by decide +kernel
theorem d_X8_playOut_48 : decode cm_X8_playOut 48 = .ok (.invokevirtual 75, 3) := by decide +kernel
theorem d_X8_playOut_51 : decode cm_X8_playOut 51 = .ok (.ifCond .ne 7, 3) := by decide +kernel
theorem d_X8_playOut_54 : decode cm_X8_playOut 54 = .ok (.iload_n 3, 1) := by decide +kernel
theorem d_X8_playOut_55 : decode cm_X8_playOut 55 = .ok (.goto 5, 3) := by decide +kernel
theorem d_X8_playOut_58 : decode cm_X8_playOut 58 = .ok (.iload 4, 2) := by decide +kernel
theorem d_X8_playOut_60 : decode cm_X8_playOut 60 = .ok (.istore 8, 2) := by decide +kernel
theorem d_X8_playOut_62 : decode cm_X8_playOut 62 = .ok (.iconst 0, 1) := by decide +kernel
theorem d_X8_playOut_63 : decode cm_X8_playOut 63 = .ok (.istore 9, 2) := by decide +kernel
theorem d_X8_playOut_65 : decode cm_X8_playOut 65 = .ok (.iload 8, 2) := by decide +kernel
theorem d_X8_playOut_67 : decode cm_X8_playOut 67 = .ok (.ifCond .ne 22, 3) := by decide +kernel
theorem d_X8_playOut_70 : decode cm_X8_playOut 70 = .ok (.iload 5, 2) := by decide +kernel
theorem d_X8_playOut_72 : decode cm_X8_playOut 72 = .ok (.invokestatic 79, 3) := by decide +kernel
theorem d_X8_playOut_75 : decode cm_X8_playOut 75 = .ok (.istore 5, 2) := by decide +kernel
theorem d_X8_playOut_77 : decode cm_X8_playOut 77 = .ok (.iload 5, 2) := by decide +kernel
theorem d_X8_playOut_79 : decode cm_X8_playOut 79 = .ok (.iload 7, 2) := by decide +kernel
theorem d_X8_playOut_81 : decode cm_X8_playOut 81 = .ok (.invokestatic 83, 3) := by decide +kernel
theorem d_X8_playOut_84 : decode cm_X8_playOut 84 = .ok (.istore 9, 2) := by decide +kernel
theorem d_X8_playOut_86 : decode cm_X8_playOut 86 = .ok (.goto 34, 3) := by decide +kernel
theorem d_X8_playOut_89 : decode cm_X8_playOut 89 = .ok (.aload_n 0, 1) := by decide +kernel
theorem d_X8_playOut_90 : decode cm_X8_playOut 90 = .ok (.getfield 28, 3) := by decide +kernel
theorem d_X8_playOut_93 : decode cm_X8_playOut 93 = .ok (.aload_n 0, 1) := by decide +kernel
theorem d_X8_playOut_94 : decode cm_X8_playOut 94 = .ok (.getfield 12, 3) := by decide +kernel
theorem d_X8_playOut_97 : decode cm_X8_playOut 97 = .ok (.iload 8, 2) := by decide +kernel
theorem d_X8_playOut_99 : decode cm_X8_playOut 99 = .ok (.invokevirtual 87, 3) := by decide +kernel
theorem d_X8_playOut_102 : decode cm_X8_playOut 102 = .ok (.ifCond .ne 18, 3) := by decide +kernel
theorem d_X8_playOut_105 : decode cm_X8_playOut 105 = .ok (.aload_n 0, 1) := by decide +kernel
theorem d_X8_playOut_106 : decode cm_X8_playOut 106 = .ok (.getfield 28, 3) := by decide +kernel
theorem d_X8_playOut_109 : decode cm_X8_playOut 109 = .ok (.aload_n 0, 1) := by decide +kernel
theorem d_X8_playOut_110 : decode cm_X8_playOut 110 = .ok (.getfield 12, 3) := by decide +kernel
theorem d_X8_playOut_113 : decode cm_X8_playOut 113 = .ok (.iload 8, 2) := by decide +kernel
theorem d_X8_playOut_115 : decode cm_X8_playOut 115 = .ok (.invokevirtual 93, 3) := by decide +kernel
theorem d_X8_playOut_118 : decode cm_X8_playOut 118 = .ok (.istore 9, 2) := by decide +kernel
theorem d_X8_playOut_120 : decode cm_X8_playOut 120 = .ok (.aload_n 0, 1) := by decide +kernel
theorem d_X8_playOut_121 : decode cm_X8_playOut 121 = .ok (.getfield 22, 3) := by decide +kernel
theorem d_X8_playOut_124 : decode cm_X8_playOut 124 = .ok (.aload_n 0, 1) := by decide +kernel
theorem d_X8_playOut_125 : decode cm_X8_playOut 125 = .ok (.getfield 18, 3) := by decide +kernel
theorem d_X8_playOut_128 : decode cm_X8_playOut 128 = .ok (.iload 9, 2) := by decide +kernel
theorem d_X8_playOut_130 : decode cm_X8_playOut 130 = .ok (.iaload, 1) := by decide +kernel
theorem d_X8_playOut_131 : decode cm_X8_playOut 131 = .ok (.bipush 16, 2) := by decide +kernel
theorem d_X8_playOut_133 : decode cm_X8_playOut 133 = .ok (.iushr, 1) := by decide +kernel
theorem d_X8_playOut_134 : decode cm_X8_playOut 134 = .ok (.dup2, 1) := by decide +kernel
theorem d_X8_playOut_135 : decode cm_X8_playOut 135 = .ok (.iaload, 1) := by decide +kernel
theorem d_X8_playOut_136 : decode cm_X8_playOut 136 = .ok (.iconst 1, 1) := by decide +kernel
theorem d_X8_playOut_137 : decode cm_X8_playOut 137 = .ok (.iadd, 1) := by decide +kernel
theorem d_X8_playOut_138 : decode cm_X8_playOut 138 = .ok (.iastore, 1) := by decide +kernel
theorem d_X8_playOut_139 : decode cm_X8_playOut 139 = .ok (.aload_n 0, 1) := by decide +kernel
theorem d_X8_playOut_140 : decode cm_X8_playOut 140 = .ok (.getfield 12, 3) := by decide +kernel
theorem d_X8_playOut_143 : decode cm_X8_playOut 143 = .ok (.aload_n 0, 1) := by decide +kernel
theorem d_X8_playOut_144 : decode cm_X8_playOut 144 = .ok (.getfield 18, 3) := by decide +kernel
theorem d_X8_playOut_147 : decode cm_X8_playOut 147 = .ok (.iload 9, 2) := by decide +kernel
theorem d_X8_playOut_149 : decode cm_X8_playOut 149 = .ok (.iaload, 1) := by decide +kernel
theorem d_X8_playOut_150 : decode cm_X8_playOut 150 = .ok (.invokevirtual 97, 3) := by decide +kernel
theorem d_X8_playOut_153 : decode cm_X8_playOut 153 = .ok (.iinc 6 1, 3) := by decide +kernel
theorem d_X8_playOut_156 : decode cm_X8_playOut 156 = .ok (.goto (-142), 3) := by decide +kernel
theorem d_X8_playOut_159 : decode cm_X8_playOut 159 = .ok (.return_, 1) := by decide +kernel
def D_X8_playOut_120 (K14 : Int32 → Int32 → Int32 → Int32 → GSt → Prop) (Q : GSt → Prop) (o : Nat) (x3 : Int32) (x4 : Int32) (x5 : Int32) (x6 : Int32) (x9 : Int32) (σ : GSt) : Prop :=
  vp_in x9 256 ∧ (vp_in (jushr (σ (o + 2) (Int32.toNatClampNeg x9)) 16) 6 ∧ (vp_in (jushr (σ (o + 2) (Int32.toNatClampNeg x9)) 16) 6 ∧ (∀ σ_1 : GSt, σ_1 = up2 σ (o + 3) (Int32.toNatClampNeg (jushr (σ (o + 2) (Int32.toNatClampNeg x9)) 16)) ((σ (o + 3) (Int32.toNatClampNeg (jushr (σ (o + 2) (Int32.toNatClampNeg x9)) 16))) + 1) → (vp_in x9 256 ∧ (D_X5_make (o + 1) (σ_1 (o + 2) (Int32.toNatClampNeg x9)) σ_1 (fun σ_2 => ∀ x6_3 : Int32, x6_3 = x6 + 1 → (K14 x3 x4 x5 x6_3 σ_2)))))))
def D_X8_playOut_60 (K14 : Int32 → Int32 → Int32 → Int32 → GSt → Prop) (Q : GSt → Prop) (o : Nat) (x3 : Int32) (x4 : Int32) (x5 : Int32) (x6 : Int32) (x7 : Int32) (s0 : Int32) (σ : GSt) : Prop :=
  (¬ s0 = 0 → D_X3_isSpent (o + 1) s0 σ (fun r_1 σ_2 => (¬ r_1 = 0 → D_X8_playOut_120 K14 Q o x3 x4 x5 x6 0 σ_2) ∧
  (r_1 = 0 → D_X3_bestOf (o + 1) s0 σ_2 (fun r_3 σ_4 => D_X8_playOut_120 K14 Q o x3 x4 x5 x6 r_3 σ_4)))) ∧
  (s0 = 0 → D_X10_nextLot x5 σ (fun r_5 σ_6 => D_X10_drawnFrom r_5 x7 σ_6 (fun r_7 σ_8 => D_X8_playOut_120 K14 Q o x3 x4 r_5 x6 r_7 σ_8)))
def D_X8_playOut_14 (K14 : Int32 → Int32 → Int32 → Int32 → GSt → Prop) (Q : GSt → Prop) (o : Nat) (x3 : Int32) (x4 : Int32) (x5 : Int32) (x6 : Int32) (σ : GSt) : Prop :=
  (60 ≤ x6 → Q σ) ∧
  (¬ 60 ≤ x6 → (¬ (σ (o + 1) 4) = 0 → Q σ) ∧
  ((σ (o + 1) 4) = 0 → D_X5_listMoves (o + 1) (o + 2) σ (fun r_1 σ_2 => D_X5_side (o + 1) σ_2 (fun r_3 σ_4 => (¬ r_3 = 0 → D_X8_playOut_60 K14 Q o x3 x4 x5 x6 r_1 x4 σ_4) ∧
  (r_3 = 0 → D_X8_playOut_60 K14 Q o x3 x4 x5 x6 r_1 x3 σ_4)))))
def L_X8_playOut_14 (Q : GSt → Prop) (o : Nat) : Nat → Int32 → Int32 → Int32 → Int32 → GSt → Prop
  | 0 => fun _ _ _ _ _ => False
  | n + 1 => fun x3 x4 x5 x6 σ => D_X8_playOut_14 (L_X8_playOut_14 Q o n) Q o x3 x4 x5 x6 σ
def D_X8_playOut_0 (Q : GSt → Prop) (o : Nat) (r1 : Nat) (x2 : Int32) (x3 : Int32) (x4 : Int32) (σ : GSt) : Prop :=
  D_X5_begin (o + 1) r1 σ (fun σ_1 => ∃ n : Nat, L_X8_playOut_14 Q o n x3 x4 x2 0 σ_1)
def D_X8_playOut (o : Nat) (r1 : Nat) (x2 : Int32) (x3 : Int32) (x4 : Int32) (σ : GSt) (Q : GSt → Prop) : Prop := D_X8_playOut_0 Q o r1 x2 x3 x4 σ
set_option maxRecDepth 20000 in
set_option maxHeartbeats 4000000 in
theorem s_X8_playOut_120 {p : Program} {l : Launch} {e : Env} {s : State} {m : MethodId} {args : Array Value} {below : List Frame} {meth : Method} {c : Code} {G : GC} (X : CallFix p m c cm_X8_playOut 10 s args lw_us "GameLoom$Tally") (hr : meth.sig.returnType = none) (hlk : meth.locks = false) (K14 : Int32 → Int32 → Int32 → Int32 → GSt → Prop) (Q : GSt → Prop) (o : Nat) (ho : kd o = 8) (hK14 : ∀ (x3 : Int32) (x4 : Int32) (x5 : Int32) (x6 : Int32) (σ : GSt) (H : Heap) (locs : List Loc) (ls : Array Slot), Wo G s H locs σ → lv_has ls 10 [(0, .ref (G.2.1 o)), (3, .int x3), (4, .int x4), (5, .int x5), (6, .int x6)] → K14 x3 x4 x5 x6 σ → W p l e rm_X8_playOut s m args below meth c H locs 0 0 (QMV G Q below args s) (F0 m 14 ls [])) (x3 : Int32) (x4 : Int32) (x5 : Int32) (x6 : Int32) (x9 : Int32) (σ : GSt) {H : Heap} {locs : List Loc} {ls : Array Slot} (hw : Wo G s H locs σ) (hl : lv_has ls 10 [(0, .ref (G.2.1 o)), (3, .int x3), (4, .int x4), (5, .int x5), (6, .int x6), (9, .int x9)]) (hD : D_X8_playOut_120 K14 Q o x3 x4 x5 x6 x9 σ) : W p l e rm_X8_playOut s m args below meth c H locs 0 0 (QMV G Q below args s) (F0 m 120 ls []) := by
  unfold D_X8_playOut_120 at hD
  refine lv_aload_n X.1 X.2.1 d_X8_playOut_120 rfl (lv_at hl 0 rfl) ?_
  refine gf_8_10 X hw ho tb_294 d_X8_playOut_121 ?_
  refine lv_aload_n X.1 X.2.1 d_X8_playOut_124 rfl (lv_at hl 0 rfl) ?_
  refine gf_8_3 X hw ho tb_287 d_X8_playOut_125 ?_
  refine lv_iload X.1 X.2.1 d_X8_playOut_128 (lv_at hl 5 rfl) ?_
  obtain ⟨q_130, hD⟩ := hD
  refine g_iald X hw (ly_8_3 ho).1 (ly_8_3 ho).2 q_130 d_X8_playOut_130 ?_
  refine lv_bipush (v := 16) X.1 X.2.1 d_X8_playOut_131 (by decide) ?_
  refine lv_iushr (v := (jushr (σ (o + 2) (Int32.toNatClampNeg x9)) 16)) X.1 X.2.1 d_X8_playOut_133 rfl ?_
  refine lv_dup2_11 X.1 X.2.1 d_X8_playOut_134 rfl rfl ?_
  obtain ⟨q_135, hD⟩ := hD
  refine g_iald X hw (ly_8_10 ho).1 (ly_8_10 ho).2 q_135 d_X8_playOut_135 ?_
  refine lv_iconst (v := 1) X.1 X.2.1 d_X8_playOut_136 (by decide) ?_
  refine lv_iadd X.1 X.2.1 d_X8_playOut_137 ?_
  obtain ⟨q_138, hD⟩ := hD
  refine g_iast X hw (ly_8_10 ho).1 (ly_8_10 ho).2 q_138 d_X8_playOut_138 (fun H locs hw => ?_)
  obtain ⟨σ_1, e_σ_1⟩ : ∃ z : GSt, z = up2 σ (o + 3) (Int32.toNatClampNeg (jushr (σ (o + 2) (Int32.toNatClampNeg x9)) 16)) ((σ (o + 3) (Int32.toNatClampNeg (jushr (σ (o + 2) (Int32.toNatClampNeg x9)) 16))) + 1) := ⟨_, rfl⟩
  rw [← e_σ_1] at hw
  have hD := hD σ_1 e_σ_1
  refine lv_aload_n X.1 X.2.1 d_X8_playOut_139 rfl (lv_at hl 0 rfl) ?_
  refine gf_8_0 X hw ho tb_282 d_X8_playOut_140 ?_
  refine lv_aload_n X.1 X.2.1 d_X8_playOut_143 rfl (lv_at hl 0 rfl) ?_
  refine gf_8_3 X hw ho tb_287 d_X8_playOut_144 ?_
  refine lv_iload X.1 X.2.1 d_X8_playOut_147 (lv_at hl 5 rfl) ?_
  obtain ⟨q_149, hD⟩ := hD
  refine g_iald X hw (ly_8_3 ho).1 (ly_8_3 ho).2 q_149 d_X8_playOut_149 ?_
  refine gcV_v (rest := []) (As := [.int (σ_1 (o + 2) (Int32.toNatClampNeg x9))]) (o := (o + 1)) X hw (c_X5_make l G (o + 1) (σ_1 (o + 2) (Int32.toNatClampNeg x9)) σ_1 _ (ly_8_0 ho) hD) (kd_lt (ly_8_0 ho) (by decide)) (ce_5 G _ (ly_8_0 ho)) rfl tb_744 tb_604 tb_605 tb_9 tb_606 hd_X5_make ⟨rfl, rfl⟩ ⟨Nat.le_of_ble_eq_true rfl, Nat.le_of_ble_eq_true rfl⟩ rfl hl.1 rfl (Nat.le_of_ble_eq_true rfl) d_X8_playOut_150 (fun σ_2 H locs hD hw => ?_)
  obtain ⟨x6_3, e_x6_3⟩ : ∃ y : Int32, y = x6 + 1 := ⟨_, rfl⟩
  have hD := hD x6_3 e_x6_3
  refine lv_iinc (v := x6_3) (lv' := [(6, .int x6_3), (0, .ref (G.2.1 o)), (3, .int x3), (4, .int x4), (5, .int x5), (9, .int x9)]) X.1 X.2.1 d_X8_playOut_153 hl (k := 4) rfl (by rw [e_x6_3]; rfl) (by decide) rfl (fun ls hl => ?_)
  refine lv_goto (tgt := 14) X.1 X.2.1 d_X8_playOut_156 (by decide) ?_
  exact hK14 x3 x4 x5 x6_3 σ_2 _ _ _  hw (lv_sub hl [1, 2, 3, 4, 0] rfl) hD
set_option maxRecDepth 20000 in
set_option maxHeartbeats 4000000 in
theorem s_X8_playOut_60 {p : Program} {l : Launch} {e : Env} {s : State} {m : MethodId} {args : Array Value} {below : List Frame} {meth : Method} {c : Code} {G : GC} (X : CallFix p m c cm_X8_playOut 10 s args lw_us "GameLoom$Tally") (hr : meth.sig.returnType = none) (hlk : meth.locks = false) (K14 : Int32 → Int32 → Int32 → Int32 → GSt → Prop) (Q : GSt → Prop) (o : Nat) (ho : kd o = 8) (hK14 : ∀ (x3 : Int32) (x4 : Int32) (x5 : Int32) (x6 : Int32) (σ : GSt) (H : Heap) (locs : List Loc) (ls : Array Slot), Wo G s H locs σ → lv_has ls 10 [(0, .ref (G.2.1 o)), (3, .int x3), (4, .int x4), (5, .int x5), (6, .int x6)] → K14 x3 x4 x5 x6 σ → W p l e rm_X8_playOut s m args below meth c H locs 0 0 (QMV G Q below args s) (F0 m 14 ls [])) (x3 : Int32) (x4 : Int32) (x5 : Int32) (x6 : Int32) (x7 : Int32) (s0 : Int32) (σ : GSt) {H : Heap} {locs : List Loc} {ls : Array Slot} (hw : Wo G s H locs σ) (hl : lv_has ls 10 [(0, .ref (G.2.1 o)), (3, .int x3), (4, .int x4), (5, .int x5), (6, .int x6), (7, .int x7)]) (hD : D_X8_playOut_60 K14 Q o x3 x4 x5 x6 x7 s0 σ) : W p l e rm_X8_playOut s m args below meth c H locs 0 0 (QMV G Q below args s) (F0 m 60 ls [.int s0]) := by
  unfold D_X8_playOut_60 at hD
  refine lv_istore (lv' := [(8, .int s0), (0, .ref (G.2.1 o)), (3, .int x3), (4, .int x4), (5, .int x5), (6, .int x6), (7, .int x7)]) X.1 X.2.1 d_X8_playOut_60 hl (by decide) rfl (fun ls hl => ?_)
  refine lv_iconst (v := 0) X.1 X.2.1 d_X8_playOut_62 (by decide) ?_
  refine lv_istore (lv' := [(9, .int 0), (8, .int s0), (0, .ref (G.2.1 o)), (3, .int x3), (4, .int x4), (5, .int x5), (6, .int x6), (7, .int x7)]) X.1 X.2.1 d_X8_playOut_63 hl (by decide) rfl (fun ls hl => ?_)
  refine lv_iload X.1 X.2.1 d_X8_playOut_65 (lv_at hl 1 rfl) ?_
  refine lv_if_ne (tgt := 89) X.1 X.2.1 d_X8_playOut_67 (by decide) (fun q_67 => ?_) (fun q_67 => ?_)
  · have hD := hD.1 q_67
    refine lv_aload_n X.1 X.2.1 d_X8_playOut_89 rfl (lv_at hl 2 rfl) ?_
    refine gf_8_2 X hw ho tb_286 d_X8_playOut_90 ?_
    refine lv_aload_n X.1 X.2.1 d_X8_playOut_93 rfl (lv_at hl 2 rfl) ?_
    refine gf_8_0 X hw ho tb_282 d_X8_playOut_94 ?_
    refine lv_iload X.1 X.2.1 d_X8_playOut_97 (lv_at hl 1 rfl) ?_
    refine gcV_i (rest := []) (As := [.ref (G.2.1 (o + 1)), .int s0]) (o := 29) X hw (c_X3_isSpent l G (o + 1) s0 σ _ (ly_8_0 ho) hD) (kd_lt ly_8_2 (by decide)) (ce_3 G _ ly_8_2) rfl tb_742 tb_679 tb_680 tb_7 tb_681 hd_X3_isSpent ⟨rfl, rfl⟩ ⟨Nat.le_of_ble_eq_true rfl, Nat.le_of_ble_eq_true rfl⟩ rfl hl.1 rfl (Nat.le_of_ble_eq_true rfl) d_X8_playOut_99 (fun r_1 σ_2 H locs hD hw => ?_)
    refine lv_if_ne (tgt := 120) X.1 X.2.1 d_X8_playOut_102 (by decide) (fun q_102 => ?_) (fun q_102 => ?_)
    · have hD := hD.1 q_102
      exact s_X8_playOut_120 X hr hlk K14 Q o ho hK14 x3 x4 x5 x6 0 σ_2 hw (lv_sub hl [2, 3, 4, 5, 6, 0] rfl) hD
    · have hD := hD.2 q_102
      refine lv_aload_n X.1 X.2.1 d_X8_playOut_105 rfl (lv_at hl 2 rfl) ?_
      refine gf_8_2 X hw ho tb_286 d_X8_playOut_106 ?_
      refine lv_aload_n X.1 X.2.1 d_X8_playOut_109 rfl (lv_at hl 2 rfl) ?_
      refine gf_8_0 X hw ho tb_282 d_X8_playOut_110 ?_
      refine lv_iload X.1 X.2.1 d_X8_playOut_113 (lv_at hl 1 rfl) ?_
      refine gcV_i (rest := []) (As := [.ref (G.2.1 (o + 1)), .int s0]) (o := 29) X hw (c_X3_bestOf l G (o + 1) s0 σ_2 _ (ly_8_0 ho) hD) (kd_lt ly_8_2 (by decide)) (ce_3 G _ ly_8_2) rfl tb_743 tb_706 tb_707 tb_7 tb_708 hd_X3_bestOf ⟨rfl, rfl⟩ ⟨Nat.le_of_ble_eq_true rfl, Nat.le_of_ble_eq_true rfl⟩ rfl hl.1 rfl (Nat.le_of_ble_eq_true rfl) d_X8_playOut_115 (fun r_3 σ_4 H locs hD hw => ?_)
      refine lv_istore (lv' := [(9, .int r_3), (8, .int s0), (0, .ref (G.2.1 o)), (3, .int x3), (4, .int x4), (5, .int x5), (6, .int x6), (7, .int x7)]) X.1 X.2.1 d_X8_playOut_118 hl (by decide) rfl (fun ls hl => ?_)
      exact s_X8_playOut_120 X hr hlk K14 Q o ho hK14 x3 x4 x5 x6 r_3 σ_4 hw (lv_sub hl [2, 3, 4, 5, 6, 0] rfl) hD
  · have hD := hD.2 q_67
    refine lv_iload X.1 X.2.1 d_X8_playOut_70 (lv_at hl 5 rfl) ?_
    refine gcSN_i (rest := []) (As := [.int x5]) X hw (c_X10_nextLot l G x5 σ _  hD) hw.2.2.2.2.2.2.2.1 tb_736 tb_1 tb_737 hd_X10_nextLot ⟨rfl, rfl⟩ ⟨Nat.le_of_ble_eq_true rfl, Nat.le_of_ble_eq_true rfl⟩ rfl hl.1 rfl (Nat.le_of_ble_eq_true rfl) d_X8_playOut_72 (fun r_5 σ_6 H locs hD hw => ?_)
    refine lv_istore (lv' := [(5, .int r_5), (9, .int 0), (8, .int s0), (0, .ref (G.2.1 o)), (3, .int x3), (4, .int x4), (6, .int x6), (7, .int x7)]) X.1 X.2.1 d_X8_playOut_75 hl (by decide) rfl (fun ls hl => ?_)
    refine lv_iload X.1 X.2.1 d_X8_playOut_77 (lv_at hl 0 rfl) ?_
    refine lv_iload X.1 X.2.1 d_X8_playOut_79 (lv_at hl 7 rfl) ?_
    refine gcSN_i (rest := []) (As := [.int r_5, .int x7]) X hw (c_X10_drawnFrom l G r_5 x7 σ_6 _  hD) hw.2.2.2.2.2.2.2.2.1 tb_740 tb_1 tb_741 hd_X10_drawnFrom ⟨rfl, rfl⟩ ⟨Nat.le_of_ble_eq_true rfl, Nat.le_of_ble_eq_true rfl⟩ rfl hl.1 rfl (Nat.le_of_ble_eq_true rfl) d_X8_playOut_81 (fun r_7 σ_8 H locs hD hw => ?_)
    refine lv_istore (lv' := [(9, .int r_7), (5, .int r_5), (8, .int s0), (0, .ref (G.2.1 o)), (3, .int x3), (4, .int x4), (6, .int x6), (7, .int x7)]) X.1 X.2.1 d_X8_playOut_84 hl (by decide) rfl (fun ls hl => ?_)
    refine lv_goto (tgt := 120) X.1 X.2.1 d_X8_playOut_86 (by decide) ?_
    exact s_X8_playOut_120 X hr hlk K14 Q o ho hK14 x3 x4 r_5 x6 r_7 σ_8 hw (lv_sub hl [3, 4, 5, 1, 6, 0] rfl) hD
set_option maxRecDepth 20000 in
set_option maxHeartbeats 4000000 in
theorem s_X8_playOut_14 {p : Program} {l : Launch} {e : Env} {s : State} {m : MethodId} {args : Array Value} {below : List Frame} {meth : Method} {c : Code} {G : GC} (X : CallFix p m c cm_X8_playOut 10 s args lw_us "GameLoom$Tally") (hr : meth.sig.returnType = none) (hlk : meth.locks = false) (K14 : Int32 → Int32 → Int32 → Int32 → GSt → Prop) (Q : GSt → Prop) (o : Nat) (ho : kd o = 8) (hK14 : ∀ (x3 : Int32) (x4 : Int32) (x5 : Int32) (x6 : Int32) (σ : GSt) (H : Heap) (locs : List Loc) (ls : Array Slot), Wo G s H locs σ → lv_has ls 10 [(0, .ref (G.2.1 o)), (3, .int x3), (4, .int x4), (5, .int x5), (6, .int x6)] → K14 x3 x4 x5 x6 σ → W p l e rm_X8_playOut s m args below meth c H locs 0 0 (QMV G Q below args s) (F0 m 14 ls [])) (x3 : Int32) (x4 : Int32) (x5 : Int32) (x6 : Int32) (σ : GSt) {H : Heap} {locs : List Loc} {ls : Array Slot} (hw : Wo G s H locs σ) (hl : lv_has ls 10 [(0, .ref (G.2.1 o)), (3, .int x3), (4, .int x4), (5, .int x5), (6, .int x6)]) (hD : D_X8_playOut_14 K14 Q o x3 x4 x5 x6 σ) : W p l e rm_X8_playOut s m args below meth c H locs 0 0 (QMV G Q below args s) (F0 m 14 ls []) := by
  unfold D_X8_playOut_14 at hD
  refine lv_iload X.1 X.2.1 d_X8_playOut_14 (lv_at hl 4 rfl) ?_
  refine lv_bipush (v := 60) X.1 X.2.1 d_X8_playOut_16 (by decide) ?_
  refine lv_icmp_ge (tgt := 159) X.1 X.2.1 d_X8_playOut_18 (by decide) (fun q_18 => ?_) (fun q_18 => ?_)
  · have hD := hD.1 q_18
    exact g_vret X hr hlk hw hD d_X8_playOut_159
  · have hD := hD.2 q_18
    refine lv_aload_n X.1 X.2.1 d_X8_playOut_21 rfl (lv_at hl 0 rfl) ?_
    refine gf_8_0 X hw ho tb_282 d_X8_playOut_22 ?_
    refine gf_5_4 X hw (ly_8_0 ho) tb_257 d_X8_playOut_25 ?_
    refine lv_if_ne (tgt := 159) X.1 X.2.1 d_X8_playOut_28 (by decide) (fun q_28 => ?_) (fun q_28 => ?_)
    · have hD := hD.1 q_28
      exact g_vret X hr hlk hw hD d_X8_playOut_159
    · have hD := hD.2 q_28
      refine lv_aload_n X.1 X.2.1 d_X8_playOut_31 rfl (lv_at hl 0 rfl) ?_
      refine gf_8_0 X hw ho tb_282 d_X8_playOut_32 ?_
      refine lv_aload_n X.1 X.2.1 d_X8_playOut_35 rfl (lv_at hl 0 rfl) ?_
      refine gf_8_3 X hw ho tb_287 d_X8_playOut_36 ?_
      refine gcV_i (rest := []) (As := [.ref (G.2.1 (o + 2))]) (o := (o + 1)) X hw (c_X5_listMoves l G (o + 1) (o + 2) σ _ (ly_8_0 ho) (ly_8_3 ho).1 hD) (kd_lt (ly_8_0 ho) (by decide)) (ce_5 G _ (ly_8_0 ho)) rfl tb_733 tb_574 tb_575 tb_9 tb_576 hd_X5_listMoves ⟨rfl, rfl⟩ ⟨Nat.le_of_ble_eq_true rfl, Nat.le_of_ble_eq_true rfl⟩ rfl hl.1 rfl (Nat.le_of_ble_eq_true rfl) d_X8_playOut_39 (fun r_1 σ_2 H locs hD hw => ?_)
      refine lv_istore (lv' := [(7, .int r_1), (0, .ref (G.2.1 o)), (3, .int x3), (4, .int x4), (5, .int x5), (6, .int x6)]) X.1 X.2.1 d_X8_playOut_42 hl (by decide) rfl (fun ls hl => ?_)
      refine lv_aload_n X.1 X.2.1 d_X8_playOut_44 rfl (lv_at hl 1 rfl) ?_
      refine gf_8_0 X hw ho tb_282 d_X8_playOut_45 ?_
      refine gcV_i (rest := []) (As := []) (o := (o + 1)) X hw (c_X5_side l G (o + 1) σ_2 _ (ly_8_0 ho) hD) (kd_lt (ly_8_0 ho) (by decide)) (ce_5 G _ (ly_8_0 ho)) rfl tb_734 tb_608 tb_609 tb_9 tb_610 hd_X5_side ⟨rfl, rfl⟩ ⟨Nat.le_of_ble_eq_true rfl, Nat.le_of_ble_eq_true rfl⟩ rfl hl.1 rfl (Nat.le_of_ble_eq_true rfl) d_X8_playOut_48 (fun r_3 σ_4 H locs hD hw => ?_)
      refine lv_if_ne (tgt := 58) X.1 X.2.1 d_X8_playOut_51 (by decide) (fun q_51 => ?_) (fun q_51 => ?_)
      · have hD := hD.1 q_51
        refine lv_iload X.1 X.2.1 d_X8_playOut_58 (lv_at hl 3 rfl) ?_
        exact s_X8_playOut_60 X hr hlk K14 Q o ho hK14 x3 x4 x5 x6 r_1 x4 σ_4 hw (lv_sub hl [1, 2, 3, 4, 5, 0] rfl) hD
      · have hD := hD.2 q_51
        refine lv_iload_n X.1 X.2.1 d_X8_playOut_54 rfl (lv_at hl 2 rfl) ?_
        refine lv_goto (tgt := 60) X.1 X.2.1 d_X8_playOut_55 (by decide) ?_
        exact s_X8_playOut_60 X hr hlk K14 Q o ho hK14 x3 x4 x5 x6 r_1 x3 σ_4 hw (lv_sub hl [1, 2, 3, 4, 5, 0] rfl) hD
set_option maxRecDepth 20000 in
set_option maxHeartbeats 4000000 in
theorem sl_X8_playOut_14 {p : Program} {l : Launch} {e : Env} {s : State} {m : MethodId} {args : Array Value} {below : List Frame} {meth : Method} {c : Code} {G : GC} (X : CallFix p m c cm_X8_playOut 10 s args lw_us "GameLoom$Tally") (hr : meth.sig.returnType = none) (hlk : meth.locks = false) (Q : GSt → Prop) (o : Nat) (ho : kd o = 8) : ∀ (nn : Nat), ∀ (x3 : Int32) (x4 : Int32) (x5 : Int32) (x6 : Int32) (σ : GSt) (H : Heap) (locs : List Loc) (ls : Array Slot), Wo G s H locs σ → lv_has ls 10 [(0, .ref (G.2.1 o)), (3, .int x3), (4, .int x4), (5, .int x5), (6, .int x6)] → L_X8_playOut_14 Q o nn x3 x4 x5 x6 σ → W p l e rm_X8_playOut s m args below meth c H locs 0 0 (QMV G Q below args s) (F0 m 14 ls []) := by
  intro nn
  induction nn with
  | zero => intro x3 x4 x5 x6 σ H locs ls  hw hl hD; exact hD.elim
  | succ nn ih =>
    intro x3 x4 x5 x6 σ H locs ls  hw hl hD
    exact s_X8_playOut_14 X hr hlk (L_X8_playOut_14 Q o nn) Q o ho ih x3 x4 x5 x6 σ hw hl hD
set_option maxRecDepth 20000 in
set_option maxHeartbeats 4000000 in
theorem s_X8_playOut_0 {p : Program} {l : Launch} {e : Env} {s : State} {m : MethodId} {args : Array Value} {below : List Frame} {meth : Method} {c : Code} {G : GC} (X : CallFix p m c cm_X8_playOut 10 s args lw_us "GameLoom$Tally") (hr : meth.sig.returnType = none) (hlk : meth.locks = false) (Q : GSt → Prop) (o : Nat) (ho : kd o = 8) (r1 : Nat) (hk1 : kd r1 = 1) (x2 : Int32) (x3 : Int32) (x4 : Int32) (σ : GSt) {H : Heap} {locs : List Loc} {ls : Array Slot} (hw : Wo G s H locs σ) (hl : lv_has ls 10 [(0, .ref (G.2.1 o)), (1, .ref (G.2.1 r1)), (2, .int x2), (3, .int x3), (4, .int x4)]) (hD : D_X8_playOut_0 Q o r1 x2 x3 x4 σ) : W p l e rm_X8_playOut s m args below meth c H locs 0 0 (QMV G Q below args s) (F0 m 0 ls []) := by
  unfold D_X8_playOut_0 at hD
  refine lv_iload_n X.1 X.2.1 d_X8_playOut_0 rfl (lv_at hl 2 rfl) ?_
  refine lv_istore (lv' := [(5, .int x2), (0, .ref (G.2.1 o)), (1, .ref (G.2.1 r1)), (2, .int x2), (3, .int x3), (4, .int x4)]) X.1 X.2.1 d_X8_playOut_1 hl (by decide) rfl (fun ls hl => ?_)
  refine lv_aload_n X.1 X.2.1 d_X8_playOut_3 rfl (lv_at hl 1 rfl) ?_
  refine gf_8_0 X hw ho tb_282 d_X8_playOut_4 ?_
  refine lv_aload_n X.1 X.2.1 d_X8_playOut_7 rfl (lv_at hl 2 rfl) ?_
  refine gcV_v (rest := []) (As := [.ref (G.2.1 r1)]) (o := (o + 1)) X hw (c_X5_begin l G (o + 1) r1 σ _ (ly_8_0 ho) hk1 hD) (kd_lt (ly_8_0 ho) (by decide)) (ce_5 G _ (ly_8_0 ho)) rfl tb_732 tb_548 tb_549 tb_9 tb_550 hd_X5_begin ⟨rfl, rfl⟩ ⟨Nat.le_of_ble_eq_true rfl, Nat.le_of_ble_eq_true rfl⟩ rfl hl.1 rfl (Nat.le_of_ble_eq_true rfl) d_X8_playOut_8 (fun σ_1 H locs hD hw => ?_)
  refine lv_iconst (v := 0) X.1 X.2.1 d_X8_playOut_11 (by decide) ?_
  refine lv_istore (lv' := [(6, .int 0), (5, .int x2), (0, .ref (G.2.1 o)), (1, .ref (G.2.1 r1)), (2, .int x2), (3, .int x3), (4, .int x4)]) X.1 X.2.1 d_X8_playOut_12 hl (by decide) rfl (fun ls hl => ?_)
  obtain ⟨n9, hD⟩ := hD
  exact sl_X8_playOut_14 X hr hlk  Q o ho  n9 x3 x4 x2 0 σ_1 _ _ _  hw (lv_sub hl [2, 5, 6, 1, 0] rfl) hD
theorem c_X8_playOut (l : Launch) (G : GC) (o : Nat) (r1 : Nat) (x2 : Int32) (x3 : Int32) (x4 : Int32) (σ : GSt) (Q : GSt → Prop) (ho : kd o = 8) (hr1 : kd r1 = 1) (hD : D_X8_playOut o r1 x2 x3 x4 σ Q) : MV l ym_X8_playOut cm_X8_playOut 10 rm_X8_playOut G σ [.ref (G.2.1 o), .ref (G.2.1 r1), .int x2, .int x3, .int x4] Q := by
  refine met_v (by decide) (Nat.le_of_ble_eq_true rfl) ?_
  intro p e s m args below meth c X hr hlk hw ls hl
  exact s_X8_playOut_0 X hr hlk Q o ho r1 hr1 x2 x3 x4 σ hw (lv_sub hl [0, 1, 2, 3, 4] rfl) hD
theorem hd_X8_run : ym_X8_run.cls = "GameLoom$Tally" ∧ ym_X8_run.cls ≠ "java/lang/invoke/MethodHandle" ∧ ym_X8_run.cls ≠ "java/lang/invoke/VarHandle" ∧ (parseMethodDescriptor ym_X8_run.desc).map (fun d => d.parameters.length) = some 5 := by decide +kernel
abbrev rm_X8_run : Room := { frames := 15, cells := 0, slots := 0, locals := 394 }
theorem d_X8_run_0 : decode cm_X8_run 0 = .ok (.aload_n 0, 1) := by decide +kernel
theorem d_X8_run_1 : decode cm_X8_run 1 = .ok (.invokevirtual 32, 3) := by decide +kernel
theorem d_X8_run_4 : decode cm_X8_run 4 = .ok (.iconst 0, 1) := by decide +kernel
theorem d_X8_run_5 : decode cm_X8_run 5 = .ok (.istore 6, 2) := by decide +kernel
theorem d_X8_run_7 : decode cm_X8_run 7 = .ok (.iload 6, 2) := by decide +kernel
theorem d_X8_run_9 : decode cm_X8_run 9 = .ok (.iload_n 2, 1) := by decide +kernel
theorem d_X8_run_10 : decode cm_X8_run 10 = .ok (.if_icmp .ge 26, 3) := by decide +kernel
theorem d_X8_run_13 : decode cm_X8_run 13 = .ok (.aload_n 0, 1) := by decide +kernel
theorem d_X8_run_14 : decode cm_X8_run 14 = .ok (.aload_n 1, 1) := by decide +kernel
theorem d_X8_run_15 : decode cm_X8_run 15 = .ok (.iload_n 3, 1) := by decide +kernel
theorem d_X8_run_16 : decode cm_X8_run 16 = .ok (.iload 6, 2) := by decide +kernel
theorem d_X8_run_18 : decode cm_X8_run 18 = .ok (.iadd, 1) := by decide +kernel
theorem d_X8_run_19 : decode cm_X8_run 19 = .ok (.iload 4, 2) := by decide +kernel
theorem d_X8_run_21 : decode cm_X8_run 21 = .ok (.iload 5, 2) := by decide +kernel
theorem d_X8_run_23 : decode cm_X8_run 23 = .ok (.invokevirtual 35, 3) := by decide +kernel
theorem d_X8_run_26 : decode cm_X8_run 26 = .ok (.aload_n 0, 1) := by decide +kernel
theorem d_X8_run_27 : decode cm_X8_run 27 = .ok (.invokevirtual 39, 3) := by decide +kernel
theorem d_X8_run_30 : decode cm_X8_run 30 = .ok (.iinc 6 1, 3) := by decide +kernel
theorem d_X8_run_33 : decode cm_X8_run 33 = .ok (.goto (-26), 3) := by decide +kernel
theorem d_X8_run_36 : decode cm_X8_run 36 = .ok (.return_, 1) := by decide +kernel
def D_X8_run_7 (K7 : Nat → Int32 → Int32 → Int32 → Int32 → Int32 → GSt → Prop) (Q : GSt → Prop) (o : Nat) (r1 : Nat) (x2 : Int32) (x3 : Int32) (x4 : Int32) (x5 : Int32) (x6 : Int32) (σ : GSt) : Prop :=
  (x2 ≤ x6 → Q σ) ∧
  (¬ x2 ≤ x6 → D_X8_playOut o r1 (x3 + x6) x4 x5 σ (fun σ_1 => D_X8_note o σ_1 (fun σ_2 => ∀ x6_3 : Int32, x6_3 = x6 + 1 → (K7 r1 x2 x3 x4 x5 x6_3 σ_2))))
def L_X8_run_7 (Q : GSt → Prop) (o : Nat) : Nat → Nat → Int32 → Int32 → Int32 → Int32 → Int32 → GSt → Prop
  | 0 => fun _ _ _ _ _ _ _ => False
  | n + 1 => fun r1 x2 x3 x4 x5 x6 σ => D_X8_run_7 (L_X8_run_7 Q o n) Q o r1 x2 x3 x4 x5 x6 σ
def D_X8_run_0 (Q : GSt → Prop) (o : Nat) (r1 : Nat) (x2 : Int32) (x3 : Int32) (x4 : Int32) (x5 : Int32) (σ : GSt) : Prop :=
  D_X8_clear o σ (fun σ_1 => ∃ n : Nat, L_X8_run_7 Q o n r1 x2 x3 x4 x5 0 σ_1)
def D_X8_run (o : Nat) (r1 : Nat) (x2 : Int32) (x3 : Int32) (x4 : Int32) (x5 : Int32) (σ : GSt) (Q : GSt → Prop) : Prop := D_X8_run_0 Q o r1 x2 x3 x4 x5 σ
set_option maxRecDepth 20000 in
set_option maxHeartbeats 4000000 in
theorem s_X8_run_7 {p : Program} {l : Launch} {e : Env} {s : State} {m : MethodId} {args : Array Value} {below : List Frame} {meth : Method} {c : Code} {G : GC} (X : CallFix p m c cm_X8_run 7 s args lw_us "GameLoom$Tally") (hr : meth.sig.returnType = none) (hlk : meth.locks = false) (K7 : Nat → Int32 → Int32 → Int32 → Int32 → Int32 → GSt → Prop) (Q : GSt → Prop) (o : Nat) (ho : kd o = 8) (hK7 : ∀ (r1 : Nat) (x2 : Int32) (x3 : Int32) (x4 : Int32) (x5 : Int32) (x6 : Int32) (σ : GSt) (H : Heap) (locs : List Loc) (ls : Array Slot), kd r1 = 1 → Wo G s H locs σ → lv_has ls 7 [(0, .ref (G.2.1 o)), (1, .ref (G.2.1 r1)), (2, .int x2), (3, .int x3), (4, .int x4), (5, .int x5), (6, .int x6)] → K7 r1 x2 x3 x4 x5 x6 σ → W p l e rm_X8_run s m args below meth c H locs 0 0 (QMV G Q below args s) (F0 m 7 ls [])) (r1 : Nat) (hk1 : kd r1 = 1) (x2 : Int32) (x3 : Int32) (x4 : Int32) (x5 : Int32) (x6 : Int32) (σ : GSt) {H : Heap} {locs : List Loc} {ls : Array Slot} (hw : Wo G s H locs σ) (hl : lv_has ls 7 [(0, .ref (G.2.1 o)), (1, .ref (G.2.1 r1)), (2, .int x2), (3, .int x3), (4, .int x4), (5, .int x5), (6, .int x6)]) (hD : D_X8_run_7 K7 Q o r1 x2 x3 x4 x5 x6 σ) : W p l e rm_X8_run s m args below meth c H locs 0 0 (QMV G Q below args s) (F0 m 7 ls []) := by
  unfold D_X8_run_7 at hD
  refine lv_iload X.1 X.2.1 d_X8_run_7 (lv_at hl 6 rfl) ?_
  refine lv_iload_n X.1 X.2.1 d_X8_run_9 rfl (lv_at hl 2 rfl) ?_
  refine lv_icmp_ge (tgt := 36) X.1 X.2.1 d_X8_run_10 (by decide) (fun q_10 => ?_) (fun q_10 => ?_)
  · have hD := hD.1 q_10
    exact g_vret X hr hlk hw hD d_X8_run_36
  · have hD := hD.2 q_10
    refine lv_aload_n X.1 X.2.1 d_X8_run_13 rfl (lv_at hl 0 rfl) ?_
    refine lv_aload_n X.1 X.2.1 d_X8_run_14 rfl (lv_at hl 1 rfl) ?_
    refine lv_iload_n X.1 X.2.1 d_X8_run_15 rfl (lv_at hl 3 rfl) ?_
    refine lv_iload X.1 X.2.1 d_X8_run_16 (lv_at hl 6 rfl) ?_
    refine lv_iadd X.1 X.2.1 d_X8_run_18 ?_
    refine lv_iload X.1 X.2.1 d_X8_run_19 (lv_at hl 4 rfl) ?_
    refine lv_iload X.1 X.2.1 d_X8_run_21 (lv_at hl 5 rfl) ?_
    refine gcV_v (rest := []) (As := [.ref (G.2.1 r1), .int (x3 + x6), .int x4, .int x5]) (o := o) X hw (c_X8_playOut l G o r1 (x3 + x6) x4 x5 σ _ ho hk1 hD) (kd_lt ho (by decide)) (ce_8 G _ ho) rfl tb_728 tb_730 tv_29 tb_8 tb_731 hd_X8_playOut ⟨rfl, rfl⟩ ⟨Nat.le_of_ble_eq_true rfl, Nat.le_of_ble_eq_true rfl⟩ rfl hl.1 rfl (Nat.le_of_ble_eq_true rfl) d_X8_run_23 (fun σ_1 H locs hD hw => ?_)
    refine lv_aload_n X.1 X.2.1 d_X8_run_26 rfl (lv_at hl 0 rfl) ?_
    refine gcV_v (rest := []) (As := []) (o := o) X hw (c_X8_note l G o σ_1 _ ho hD) (kd_lt ho (by decide)) (ce_8 G _ ho) rfl tb_745 tb_747 tv_30 tb_8 tb_748 hd_X8_note ⟨rfl, rfl⟩ ⟨Nat.le_of_ble_eq_true rfl, Nat.le_of_ble_eq_true rfl⟩ rfl hl.1 rfl (Nat.le_of_ble_eq_true rfl) d_X8_run_27 (fun σ_2 H locs hD hw => ?_)
    obtain ⟨x6_3, e_x6_3⟩ : ∃ y : Int32, y = x6 + 1 := ⟨_, rfl⟩
    have hD := hD x6_3 e_x6_3
    refine lv_iinc (v := x6_3) (lv' := [(6, .int x6_3), (0, .ref (G.2.1 o)), (1, .ref (G.2.1 r1)), (2, .int x2), (3, .int x3), (4, .int x4), (5, .int x5)]) X.1 X.2.1 d_X8_run_30 hl (k := 6) rfl (by rw [e_x6_3]; rfl) (by decide) rfl (fun ls hl => ?_)
    refine lv_goto (tgt := 7) X.1 X.2.1 d_X8_run_33 (by decide) ?_
    exact hK7 r1 x2 x3 x4 x5 x6_3 σ_2 _ _ _ hk1 hw (lv_sub hl [1, 2, 3, 4, 5, 6, 0] rfl) hD
set_option maxRecDepth 20000 in
set_option maxHeartbeats 4000000 in
theorem sl_X8_run_7 {p : Program} {l : Launch} {e : Env} {s : State} {m : MethodId} {args : Array Value} {below : List Frame} {meth : Method} {c : Code} {G : GC} (X : CallFix p m c cm_X8_run 7 s args lw_us "GameLoom$Tally") (hr : meth.sig.returnType = none) (hlk : meth.locks = false) (Q : GSt → Prop) (o : Nat) (ho : kd o = 8) : ∀ (nn : Nat), ∀ (r1 : Nat) (x2 : Int32) (x3 : Int32) (x4 : Int32) (x5 : Int32) (x6 : Int32) (σ : GSt) (H : Heap) (locs : List Loc) (ls : Array Slot), kd r1 = 1 → Wo G s H locs σ → lv_has ls 7 [(0, .ref (G.2.1 o)), (1, .ref (G.2.1 r1)), (2, .int x2), (3, .int x3), (4, .int x4), (5, .int x5), (6, .int x6)] → L_X8_run_7 Q o nn r1 x2 x3 x4 x5 x6 σ → W p l e rm_X8_run s m args below meth c H locs 0 0 (QMV G Q below args s) (F0 m 7 ls []) := by
  intro nn
  induction nn with
  | zero => intro r1 x2 x3 x4 x5 x6 σ H locs ls hk1 hw hl hD; exact hD.elim
  | succ nn ih =>
    intro r1 x2 x3 x4 x5 x6 σ H locs ls hk1 hw hl hD
    exact s_X8_run_7 X hr hlk (L_X8_run_7 Q o nn) Q o ho ih r1 hk1 x2 x3 x4 x5 x6 σ hw hl hD
set_option maxRecDepth 20000 in
set_option maxHeartbeats 4000000 in
theorem s_X8_run_0 {p : Program} {l : Launch} {e : Env} {s : State} {m : MethodId} {args : Array Value} {below : List Frame} {meth : Method} {c : Code} {G : GC} (X : CallFix p m c cm_X8_run 7 s args lw_us "GameLoom$Tally") (hr : meth.sig.returnType = none) (hlk : meth.locks = false) (Q : GSt → Prop) (o : Nat) (ho : kd o = 8) (r1 : Nat) (hk1 : kd r1 = 1) (x2 : Int32) (x3 : Int32) (x4 : Int32) (x5 : Int32) (σ : GSt) {H : Heap} {locs : List Loc} {ls : Array Slot} (hw : Wo G s H locs σ) (hl : lv_has ls 7 [(0, .ref (G.2.1 o)), (1, .ref (G.2.1 r1)), (2, .int x2), (3, .int x3), (4, .int x4), (5, .int x5)]) (hD : D_X8_run_0 Q o r1 x2 x3 x4 x5 σ) : W p l e rm_X8_run s m args below meth c H locs 0 0 (QMV G Q below args s) (F0 m 0 ls []) := by
  unfold D_X8_run_0 at hD
  refine lv_aload_n X.1 X.2.1 d_X8_run_0 rfl (lv_at hl 0 rfl) ?_
  refine gcV_v (rest := []) (As := []) (o := o) X hw (c_X8_clear l G o σ _ ho hD) (kd_lt ho (by decide)) (ce_8 G _ ho) rfl tb_724 tb_726 tv_28 tb_8 tb_727 hd_X8_clear ⟨rfl, rfl⟩ ⟨Nat.le_of_ble_eq_true rfl, Nat.le_of_ble_eq_true rfl⟩ rfl hl.1 rfl (Nat.le_of_ble_eq_true rfl) d_X8_run_1 (fun σ_1 H locs hD hw => ?_)
  refine lv_iconst (v := 0) X.1 X.2.1 d_X8_run_4 (by decide) ?_
  refine lv_istore (lv' := [(6, .int 0), (0, .ref (G.2.1 o)), (1, .ref (G.2.1 r1)), (2, .int x2), (3, .int x3), (4, .int x4), (5, .int x5)]) X.1 X.2.1 d_X8_run_5 hl (by decide) rfl (fun ls hl => ?_)
  obtain ⟨n9, hD⟩ := hD
  exact sl_X8_run_7 X hr hlk  Q o ho  n9 r1 x2 x3 x4 x5 0 σ_1 _ _ _ hk1 hw (lv_sub hl [1, 2, 3, 4, 5, 6, 0] rfl) hD
theorem c_X8_run (l : Launch) (G : GC) (o : Nat) (r1 : Nat) (x2 : Int32) (x3 : Int32) (x4 : Int32) (x5 : Int32) (σ : GSt) (Q : GSt → Prop) (ho : kd o = 8) (hr1 : kd r1 = 1) (hD : D_X8_run o r1 x2 x3 x4 x5 σ Q) : MV l ym_X8_run cm_X8_run 7 rm_X8_run G σ [.ref (G.2.1 o), .ref (G.2.1 r1), .int x2, .int x3, .int x4, .int x5] Q := by
  refine met_v (by decide) (Nat.le_of_ble_eq_true rfl) ?_
  intro p e s m args below meth c X hr hlk hw ls hl
  exact s_X8_run_0 X hr hlk Q o ho r1 hr1 x2 x3 x4 x5 σ hw (lv_sub hl [0, 1, 2, 3, 4, 5] rfl) hD
theorem hd_X8_told : ym_X8_told.cls = "GameLoom$Tally" ∧ ym_X8_told.cls ≠ "java/lang/invoke/MethodHandle" ∧ ym_X8_told.cls ≠ "java/lang/invoke/VarHandle" ∧ (parseMethodDescriptor ym_X8_told.desc).map (fun d => d.parameters.length) = some 1 := by decide +kernel
abbrev rm_X8_told : Room := { frames := 0, cells := 0, slots := 0, locals := 0 }
theorem d_X8_told_0 : decode cm_X8_told 0 = .ok (.iload_n 1, 1) := by decide +kernel
theorem d_X8_told_1 : decode cm_X8_told 1 = .ok (.bipush 20, 2) := by decide +kernel
theorem d_X8_told_3 : decode cm_X8_told 3 = .ok (.if_icmp .lt 19, 3) := by decide +kernel
theorem d_X8_told_6 : decode cm_X8_told 6 = .ok (.iload_n 1, 1) := by decide +kernel
theorem d_X8_told_7 : decode cm_X8_told 7 = .ok (.bipush 26, 2) := by decide +kernel
theorem d_X8_told_9 : decode cm_X8_told 9 = .ok (.if_icmp .ge 13, 3) := by decide +kernel
theorem d_X8_told_12 : decode cm_X8_told 12 = .ok (.aload_n 0, 1) := by decide +kernel
theorem d_X8_told_13 : decode cm_X8_told 13 = .ok (.getfield 25, 3) := by decide +kernel
theorem d_X8_told_16 : decode cm_X8_told 16 = .ok (.iload_n 1, 1) := by decide +kernel
theorem d_X8_told_17 : decode cm_X8_told 17 = .ok (.bipush 20, 2) := by decide +kernel
theorem d_X8_told_19 : decode cm_X8_told 19 = .ok (.isub, 1) := by decide +kernel
theorem d_X8_told_20 : decode cm_X8_told 20 = .ok (.iaload, 1) := by decide +kernel
theorem d_X8_told_21 : decode cm_X8_told 21 = .ok (.ireturn, 1) := by decide +kernel
theorem d_X8_told_22 : decode cm_X8_told 22 = .ok (.iload_n 1, 1) := by decide +kernel
theorem d_X8_told_23 : decode cm_X8_told 23 = .ok (.bipush 10, 2) := by decide +kernel
theorem d_X8_told_25 : decode cm_X8_told 25 = .ok (.if_icmp .lt 19, 3) := by decide +kernel
theorem d_X8_told_28 : decode cm_X8_told 28 = .ok (.iload_n 1, 1) := by decide +kernel
theorem d_X8_told_29 : decode cm_X8_told 29 = .ok (.bipush 16, 2) := by decide +kernel
theorem d_X8_told_31 : decode cm_X8_told 31 = .ok (.if_icmp .ge 13, 3) := by decide +kernel
theorem d_X8_told_34 : decode cm_X8_told 34 = .ok (.aload_n 0, 1) := by decide +kernel
theorem d_X8_told_35 : decode cm_X8_told 35 = .ok (.getfield 22, 3) := by decide +kernel
theorem d_X8_told_38 : decode cm_X8_told 38 = .ok (.iload_n 1, 1) := by decide +kernel
theorem d_X8_told_39 : decode cm_X8_told 39 = .ok (.bipush 10, 2) := by decide +kernel
theorem d_X8_told_41 : decode cm_X8_told 41 = .ok (.isub, 1) := by decide +kernel
theorem d_X8_told_42 : decode cm_X8_told 42 = .ok (.iaload, 1) := by decide +kernel
theorem d_X8_told_43 : decode cm_X8_told 43 = .ok (.ireturn, 1) := by decide +kernel
theorem d_X8_told_44 : decode cm_X8_told 44 = .ok (.iload_n 1, 1) := by decide +kernel
theorem d_X8_told_45 : decode cm_X8_told 45 = .ok (.tableswitch 79 0 5 #[39, 44, 49, 64, 69, 74], 39) := by decide +kernel
theorem d_X8_told_84 : decode cm_X8_told 84 = .ok (.aload_n 0, 1) := by decide +kernel
theorem d_X8_told_85 : decode cm_X8_told 85 = .ok (.getfield 49, 3) := by decide +kernel
theorem d_X8_told_88 : decode cm_X8_told 88 = .ok (.ireturn, 1) := by decide +kernel
theorem d_X8_told_89 : decode cm_X8_told 89 = .ok (.aload_n 0, 1) := by decide +kernel
theorem d_X8_told_90 : decode cm_X8_told 90 = .ok (.getfield 52, 3) := by decide +kernel
theorem d_X8_told_93 : decode cm_X8_told 93 = .ok (.ireturn, 1) := by decide +kernel
theorem d_X8_told_94 : decode cm_X8_told 94 = .ok (.aload_n 0, 1) := by decide +kernel
theorem d_X8_told_95 : decode cm_X8_told 95 = .ok (.getfield 42, 3) := by decide +kernel
theorem d_X8_told_98 : decode cm_X8_told 98 = .ok (.aload_n 0, 1) := by decide +kernel
theorem d_X8_told_99 : decode cm_X8_told 99 = .ok (.getfield 49, 3) := by decide +kernel
theorem d_X8_told_102 : decode cm_X8_told 102 = .ok (.isub, 1) := by decide +kernel
theorem d_X8_told_103 : decode cm_X8_told 103 = .ok (.aload_n 0, 1) := by decide +kernel
theorem d_X8_told_104 : decode cm_X8_told 104 = .ok (.getfield 52, 3) := by decide +kernel
theorem d_X8_told_107 : decode cm_X8_told 107 = .ok (.isub, 1) := by decide +kernel
theorem d_X8_told_108 : decode cm_X8_told 108 = .ok (.ireturn, 1) := by decide +kernel
theorem d_X8_told_109 : decode cm_X8_told 109 = .ok (.aload_n 0, 1) := by decide +kernel
theorem d_X8_told_110 : decode cm_X8_told 110 = .ok (.getfield 46, 3) := by decide +kernel
theorem d_X8_told_113 : decode cm_X8_told 113 = .ok (.ireturn, 1) := by decide +kernel
theorem d_X8_told_114 : decode cm_X8_told 114 = .ok (.aload_n 0, 1) := by decide +kernel
theorem d_X8_told_115 : decode cm_X8_told 115 = .ok (.getfield 55, 3) := by decide +kernel
theorem d_X8_told_118 : decode cm_X8_told 118 = .ok (.ireturn, 1) := by decide +kernel
theorem d_X8_told_119 : decode cm_X8_told 119 = .ok (.aload_n 0, 1) := by decide +kernel
theorem d_X8_told_120 : decode cm_X8_told 120 = .ok (.getfield 58, 3) := by decide +kernel
theorem d_X8_told_123 : decode cm_X8_told 123 = .ok (.ireturn, 1) := by decide +kernel
theorem d_X8_told_124 : decode cm_X8_told 124 = .ok (.aload_n 0, 1) := by decide +kernel
theorem d_X8_told_125 : decode cm_X8_told 125 = .ok (.getfield 61, 3) := by decide +kernel
theorem d_X8_told_128 : decode cm_X8_told 128 = .ok (.ireturn, 1) := by decide +kernel
def D_X8_told_44 (Q : Int32 → GSt → Prop) (o : Nat) (x1 : Int32) (σ : GSt) : Prop :=
  ((x1 < 0 ∨ 5 < x1) → Q (σ o 9) σ) ∧
  (x1 = 0 → Q (σ o 5) σ) ∧
  (x1 = 1 → Q (σ o 6) σ) ∧
  (x1 = 2 → Q (((σ o 4) - (σ o 5)) - (σ o 6)) σ) ∧
  (x1 = 3 → Q (σ o 1) σ) ∧
  (x1 = 4 → Q (σ o 7) σ) ∧
  (x1 = 5 → Q (σ o 8) σ)
def D_X8_told_22 (Q : Int32 → GSt → Prop) (o : Nat) (x1 : Int32) (σ : GSt) : Prop :=
  (x1 < 10 → D_X8_told_44 Q o x1 σ) ∧
  (¬ x1 < 10 → (16 ≤ x1 → D_X8_told_44 Q o x1 σ) ∧
  (¬ 16 ≤ x1 → vp_in (x1 - 10) 6 ∧ (Q (σ (o + 3) (Int32.toNatClampNeg (x1 - 10))) σ)))
def D_X8_told_0 (Q : Int32 → GSt → Prop) (o : Nat) (x1 : Int32) (σ : GSt) : Prop :=
  (x1 < 20 → D_X8_told_22 Q o x1 σ) ∧
  (¬ x1 < 20 → (26 ≤ x1 → D_X8_told_22 Q o x1 σ) ∧
  (¬ 26 ≤ x1 → vp_in (x1 - 20) 6 ∧ (Q (σ (o + 4) (Int32.toNatClampNeg (x1 - 20))) σ)))
def D_X8_told (o : Nat) (x1 : Int32) (σ : GSt) (Q : Int32 → GSt → Prop) : Prop := D_X8_told_0 Q o x1 σ
set_option maxRecDepth 20000 in
set_option maxHeartbeats 4000000 in
theorem s_X8_told_44 {p : Program} {l : Launch} {e : Env} {s : State} {m : MethodId} {args : Array Value} {below : List Frame} {meth : Method} {c : Code} {G : GC} (X : CallFix p m c cm_X8_told 2 s args lw_us "GameLoom$Tally") (hr : meth.sig.returnType = some .int) (hlk : meth.locks = false) (Q : Int32 → GSt → Prop) (o : Nat) (ho : kd o = 8) (x1 : Int32) (σ : GSt) {H : Heap} {locs : List Loc} {ls : Array Slot} (hw : Wo G s H locs σ) (hl : lv_has ls 2 [(0, .ref (G.2.1 o)), (1, .int x1)]) (hD : D_X8_told_44 Q o x1 σ) : W p l e rm_X8_told s m args below meth c H locs 0 0 (QMI G Q below args s) (F0 m 44 ls []) := by
  unfold D_X8_told_44 at hD
  refine lv_iload_n X.1 X.2.1 d_X8_told_44 rfl (lv_at hl 1 rfl) ?_
  by_cases q_45 : x1 < 0 ∨ 5 < x1
  · have hD := hD.1 q_45
    refine lv_tableOut (tgt := 124) X.1 X.2.1 d_X8_told_45 (sw_out (n := 5) (by decide) q_45) (by decide) ?_
    refine lv_aload_n X.1 X.2.1 d_X8_told_124 rfl (lv_at hl 0 rfl) ?_
    refine gf_8_9 X hw ho tb_293 d_X8_told_125 ?_
    exact g_iret X hr hlk hw hD d_X8_told_128
  · obtain ⟨j_45, hj, ej⟩ := sw_in (n := 5) (by decide) q_45
    have hD := hD.2
    rcases (show j_45 = 0 ∨ j_45 = 1 ∨ j_45 = 2 ∨ j_45 = 3 ∨ j_45 = 4 ∨ j_45 = 5 by omega) with rfl | rfl | rfl | rfl | rfl | rfl
    · have hD := hD.1 ej
      refine lv_tableIn (tgt := 84) X.1 X.2.1 d_X8_told_45 (by rw [ej]; decide) (by rw [ej]; decide) (by rw [ej]; rfl) (by decide) ?_
      refine lv_aload_n X.1 X.2.1 d_X8_told_84 rfl (lv_at hl 0 rfl) ?_
      refine gf_8_5 X hw ho tb_289 d_X8_told_85 ?_
      exact g_iret X hr hlk hw hD d_X8_told_88
    · have hD := hD.2.1 ej
      refine lv_tableIn (tgt := 89) X.1 X.2.1 d_X8_told_45 (by rw [ej]; decide) (by rw [ej]; decide) (by rw [ej]; rfl) (by decide) ?_
      refine lv_aload_n X.1 X.2.1 d_X8_told_89 rfl (lv_at hl 0 rfl) ?_
      refine gf_8_6 X hw ho tb_290 d_X8_told_90 ?_
      exact g_iret X hr hlk hw hD d_X8_told_93
    · have hD := hD.2.2.1 ej
      refine lv_tableIn (tgt := 94) X.1 X.2.1 d_X8_told_45 (by rw [ej]; decide) (by rw [ej]; decide) (by rw [ej]; rfl) (by decide) ?_
      refine lv_aload_n X.1 X.2.1 d_X8_told_94 rfl (lv_at hl 0 rfl) ?_
      refine gf_8_4 X hw ho tb_288 d_X8_told_95 ?_
      refine lv_aload_n X.1 X.2.1 d_X8_told_98 rfl (lv_at hl 0 rfl) ?_
      refine gf_8_5 X hw ho tb_289 d_X8_told_99 ?_
      refine lv_isub X.1 X.2.1 d_X8_told_102 ?_
      refine lv_aload_n X.1 X.2.1 d_X8_told_103 rfl (lv_at hl 0 rfl) ?_
      refine gf_8_6 X hw ho tb_290 d_X8_told_104 ?_
      refine lv_isub X.1 X.2.1 d_X8_told_107 ?_
      exact g_iret X hr hlk hw hD d_X8_told_108
    · have hD := hD.2.2.2.1 ej
      refine lv_tableIn (tgt := 109) X.1 X.2.1 d_X8_told_45 (by rw [ej]; decide) (by rw [ej]; decide) (by rw [ej]; rfl) (by decide) ?_
      refine lv_aload_n X.1 X.2.1 d_X8_told_109 rfl (lv_at hl 0 rfl) ?_
      refine gf_8_1 X hw ho tb_284 d_X8_told_110 ?_
      exact g_iret X hr hlk hw hD d_X8_told_113
    · have hD := hD.2.2.2.2.1 ej
      refine lv_tableIn (tgt := 114) X.1 X.2.1 d_X8_told_45 (by rw [ej]; decide) (by rw [ej]; decide) (by rw [ej]; rfl) (by decide) ?_
      refine lv_aload_n X.1 X.2.1 d_X8_told_114 rfl (lv_at hl 0 rfl) ?_
      refine gf_8_7 X hw ho tb_291 d_X8_told_115 ?_
      exact g_iret X hr hlk hw hD d_X8_told_118
    · have hD := hD.2.2.2.2.2 ej
      refine lv_tableIn (tgt := 119) X.1 X.2.1 d_X8_told_45 (by rw [ej]; decide) (by rw [ej]; decide) (by rw [ej]; rfl) (by decide) ?_
      refine lv_aload_n X.1 X.2.1 d_X8_told_119 rfl (lv_at hl 0 rfl) ?_
      refine gf_8_8 X hw ho tb_292 d_X8_told_120 ?_
      exact g_iret X hr hlk hw hD d_X8_told_123
set_option maxRecDepth 20000 in
set_option maxHeartbeats 4000000 in
theorem s_X8_told_22 {p : Program} {l : Launch} {e : Env} {s : State} {m : MethodId} {args : Array Value} {below : List Frame} {meth : Method} {c : Code} {G : GC} (X : CallFix p m c cm_X8_told 2 s args lw_us "GameLoom$Tally") (hr : meth.sig.returnType = some .int) (hlk : meth.locks = false) (Q : Int32 → GSt → Prop) (o : Nat) (ho : kd o = 8) (x1 : Int32) (σ : GSt) {H : Heap} {locs : List Loc} {ls : Array Slot} (hw : Wo G s H locs σ) (hl : lv_has ls 2 [(0, .ref (G.2.1 o)), (1, .int x1)]) (hD : D_X8_told_22 Q o x1 σ) : W p l e rm_X8_told s m args below meth c H locs 0 0 (QMI G Q below args s) (F0 m 22 ls []) := by
  unfold D_X8_told_22 at hD
  refine lv_iload_n X.1 X.2.1 d_X8_told_22 rfl (lv_at hl 1 rfl) ?_
  refine lv_bipush (v := 10) X.1 X.2.1 d_X8_told_23 (by decide) ?_
  refine lv_icmp_lt (tgt := 44) X.1 X.2.1 d_X8_told_25 (by decide) (fun q_25 => ?_) (fun q_25 => ?_)
  · have hD := hD.1 q_25
    exact s_X8_told_44 X hr hlk  Q o ho  x1 σ hw (lv_sub hl [0, 1] rfl) hD
  · have hD := hD.2 q_25
    refine lv_iload_n X.1 X.2.1 d_X8_told_28 rfl (lv_at hl 1 rfl) ?_
    refine lv_bipush (v := 16) X.1 X.2.1 d_X8_told_29 (by decide) ?_
    refine lv_icmp_ge (tgt := 44) X.1 X.2.1 d_X8_told_31 (by decide) (fun q_31 => ?_) (fun q_31 => ?_)
    · have hD := hD.1 q_31
      exact s_X8_told_44 X hr hlk  Q o ho  x1 σ hw (lv_sub hl [0, 1] rfl) hD
    · have hD := hD.2 q_31
      refine lv_aload_n X.1 X.2.1 d_X8_told_34 rfl (lv_at hl 0 rfl) ?_
      refine gf_8_10 X hw ho tb_294 d_X8_told_35 ?_
      refine lv_iload_n X.1 X.2.1 d_X8_told_38 rfl (lv_at hl 1 rfl) ?_
      refine lv_bipush (v := 10) X.1 X.2.1 d_X8_told_39 (by decide) ?_
      refine lv_isub X.1 X.2.1 d_X8_told_41 ?_
      obtain ⟨q_42, hD⟩ := hD
      refine g_iald X hw (ly_8_10 ho).1 (ly_8_10 ho).2 q_42 d_X8_told_42 ?_
      exact g_iret X hr hlk hw hD d_X8_told_43
set_option maxRecDepth 20000 in
set_option maxHeartbeats 4000000 in
theorem s_X8_told_0 {p : Program} {l : Launch} {e : Env} {s : State} {m : MethodId} {args : Array Value} {below : List Frame} {meth : Method} {c : Code} {G : GC} (X : CallFix p m c cm_X8_told 2 s args lw_us "GameLoom$Tally") (hr : meth.sig.returnType = some .int) (hlk : meth.locks = false) (Q : Int32 → GSt → Prop) (o : Nat) (ho : kd o = 8) (x1 : Int32) (σ : GSt) {H : Heap} {locs : List Loc} {ls : Array Slot} (hw : Wo G s H locs σ) (hl : lv_has ls 2 [(0, .ref (G.2.1 o)), (1, .int x1)]) (hD : D_X8_told_0 Q o x1 σ) : W p l e rm_X8_told s m args below meth c H locs 0 0 (QMI G Q below args s) (F0 m 0 ls []) := by
  unfold D_X8_told_0 at hD
  refine lv_iload_n X.1 X.2.1 d_X8_told_0 rfl (lv_at hl 1 rfl) ?_
  refine lv_bipush (v := 20) X.1 X.2.1 d_X8_told_1 (by decide) ?_
  refine lv_icmp_lt (tgt := 22) X.1 X.2.1 d_X8_told_3 (by decide) (fun q_3 => ?_) (fun q_3 => ?_)
  · have hD := hD.1 q_3
    exact s_X8_told_22 X hr hlk  Q o ho  x1 σ hw (lv_sub hl [0, 1] rfl) hD
  · have hD := hD.2 q_3
    refine lv_iload_n X.1 X.2.1 d_X8_told_6 rfl (lv_at hl 1 rfl) ?_
    refine lv_bipush (v := 26) X.1 X.2.1 d_X8_told_7 (by decide) ?_
    refine lv_icmp_ge (tgt := 22) X.1 X.2.1 d_X8_told_9 (by decide) (fun q_9 => ?_) (fun q_9 => ?_)
    · have hD := hD.1 q_9
      exact s_X8_told_22 X hr hlk  Q o ho  x1 σ hw (lv_sub hl [0, 1] rfl) hD
    · have hD := hD.2 q_9
      refine lv_aload_n X.1 X.2.1 d_X8_told_12 rfl (lv_at hl 0 rfl) ?_
      refine gf_8_11 X hw ho tb_295 d_X8_told_13 ?_
      refine lv_iload_n X.1 X.2.1 d_X8_told_16 rfl (lv_at hl 1 rfl) ?_
      refine lv_bipush (v := 20) X.1 X.2.1 d_X8_told_17 (by decide) ?_
      refine lv_isub X.1 X.2.1 d_X8_told_19 ?_
      obtain ⟨q_20, hD⟩ := hD
      refine g_iald X hw (ly_8_11 ho).1 (ly_8_11 ho).2 q_20 d_X8_told_20 ?_
      exact g_iret X hr hlk hw hD d_X8_told_21
theorem c_X8_told (l : Launch) (G : GC) (o : Nat) (x1 : Int32) (σ : GSt) (Q : Int32 → GSt → Prop) (ho : kd o = 8) (hD : D_X8_told o x1 σ Q) : MI l ym_X8_told cm_X8_told 2 .int rm_X8_told G σ [.ref (G.2.1 o), .int x1] Q := by
  refine met_i (by decide) (Nat.le_of_ble_eq_true rfl) ?_
  intro p e s m args below meth c X hr hlk hw ls hl
  exact s_X8_told_0 X hr hlk Q o ho x1 σ hw (lv_sub hl [0, 1] rfl) hD
theorem hd_X8_hasNought : ym_X8_hasNought.cls ≠ "java/lang/invoke/MethodHandle" ∧ ym_X8_hasNought.cls ≠ "java/lang/invoke/VarHandle" ∧ (parseMethodDescriptor ym_X8_hasNought.desc).map (fun d => d.parameters.length) = some 2 := by decide +kernel
abbrev rm_X8_hasNought : Room := { frames := 0, cells := 0, slots := 0, locals := 0 }
theorem d_X8_hasNought_0 : decode cm_X8_hasNought 0 = .ok (.iconst 0, 1) := by decide +kernel
theorem d_X8_hasNought_1 : decode cm_X8_hasNought 1 = .ok (.istore_n 2, 1) := by decide +kernel
theorem d_X8_hasNought_2 : decode cm_X8_hasNought 2 = .ok (.iload_n 2, 1) := by decide +kernel
theorem d_X8_hasNought_3 : decode cm_X8_hasNought 3 = .ok (.iload_n 1, 1) := by decide +kernel
theorem d_X8_hasNought_4 : decode cm_X8_hasNought 4 = .ok (.if_icmp .ge 23, 3) := by decide +kernel
theorem d_X8_hasNought_7 : decode cm_X8_hasNought 7 = .ok (.iload_n 2, 1) := by decide +kernel
theorem d_X8_hasNought_8 : decode cm_X8_hasNought 8 = .ok (.aload_n 0, 1) := by decide +kernel
theorem d_X8_hasNought_9 : decode cm_X8_hasNought 9 = .ok (.arraylength, 1) := by decide +kernel
theorem d_X8_hasNought_10 : decode cm_X8_hasNought 10 = .ok (.if_icmp .ge 17, 3) := by decide +kernel
theorem d_X8_hasNought_13 : decode cm_X8_hasNought 13 = .ok (.aload_n 0, 1) := by decide +kernel
theorem d_X8_hasNought_14 : decode cm_X8_hasNought 14 = .ok (.iload_n 2, 1) := by decide +kernel
theorem d_X8_hasNought_15 : decode cm_X8_hasNought 15 = .ok (.iaload, 1) := by decide +kernel
theorem d_X8_hasNought_16 : decode cm_X8_hasNought 16 = .ok (.ifCond .ne 5, 3) := by decide +kernel
theorem d_X8_hasNought_19 : decode cm_X8_hasNought 19 = .ok (.iconst 1, 1) := by decide +kernel
theorem d_X8_hasNought_20 : decode cm_X8_hasNought 20 = .ok (.ireturn, 1) := by decide +kernel
theorem d_X8_hasNought_21 : decode cm_X8_hasNought 21 = .ok (.iinc 2 1, 3) := by decide +kernel
theorem d_X8_hasNought_24 : decode cm_X8_hasNought 24 = .ok (.goto (-22), 3) := by decide +kernel
theorem d_X8_hasNought_27 : decode cm_X8_hasNought 27 = .ok (.iconst 0, 1) := by decide +kernel
theorem d_X8_hasNought_28 : decode cm_X8_hasNought 28 = .ok (.ireturn, 1) := by decide +kernel
def D_X8_hasNought_2 (K2 : Nat → Int32 → Int32 → GSt → Prop) (Q : Int32 → GSt → Prop) (r0 : Nat) (x1 : Int32) (x2 : Int32) (σ : GSt) : Prop :=
  (x1 ≤ x2 → Q 0 σ) ∧
  (¬ x1 ≤ x2 → ((nI (ln r0)) ≤ x2 → Q 0 σ) ∧
  (¬ (nI (ln r0)) ≤ x2 → vp_in x2 (ln r0) ∧ ((¬ (σ r0 (Int32.toNatClampNeg x2)) = 0 → ∀ x2_1 : Int32, x2_1 = x2 + 1 → (K2 r0 x1 x2_1 σ)) ∧
  ((σ r0 (Int32.toNatClampNeg x2)) = 0 → Q 1 σ))))
def L_X8_hasNought_2 (Q : Int32 → GSt → Prop) : Nat → Nat → Int32 → Int32 → GSt → Prop
  | 0 => fun _ _ _ _ => False
  | n + 1 => fun r0 x1 x2 σ => D_X8_hasNought_2 (L_X8_hasNought_2 Q n) Q r0 x1 x2 σ
def D_X8_hasNought_0 (Q : Int32 → GSt → Prop) (r0 : Nat) (x1 : Int32) (σ : GSt) : Prop :=
  ∃ n : Nat, L_X8_hasNought_2 Q n r0 x1 0 σ
def D_X8_hasNought (r0 : Nat) (x1 : Int32) (σ : GSt) (Q : Int32 → GSt → Prop) : Prop := D_X8_hasNought_0 Q r0 x1 σ
set_option maxRecDepth 20000 in
set_option maxHeartbeats 4000000 in
theorem s_X8_hasNought_2 {p : Program} {l : Launch} {e : Env} {s : State} {m : MethodId} {args : Array Value} {below : List Frame} {meth : Method} {c : Code} {G : GC} (X : CallFix p m c cm_X8_hasNought 3 s args lw_us "GameLoom$Tally") (hr : meth.sig.returnType = some .boolean) (hlk : meth.locks = false) (K2 : Nat → Int32 → Int32 → GSt → Prop) (Q : Int32 → GSt → Prop) (hK2 : ∀ (r0 : Nat) (x1 : Int32) (x2 : Int32) (σ : GSt) (H : Heap) (locs : List Loc) (ls : Array Slot), kd r0 = 12 → Wo G s H locs σ → lv_has ls 3 [(0, .ref (G.2.1 r0)), (1, .int x1), (2, .int x2)] → K2 r0 x1 x2 σ → W p l e rm_X8_hasNought s m args below meth c H locs 0 0 (QMI G Q below args s) (F0 m 2 ls [])) (r0 : Nat) (hk0 : kd r0 = 12) (x1 : Int32) (x2 : Int32) (σ : GSt) {H : Heap} {locs : List Loc} {ls : Array Slot} (hw : Wo G s H locs σ) (hl : lv_has ls 3 [(0, .ref (G.2.1 r0)), (1, .int x1), (2, .int x2)]) (hD : D_X8_hasNought_2 K2 Q r0 x1 x2 σ) : W p l e rm_X8_hasNought s m args below meth c H locs 0 0 (QMI G Q below args s) (F0 m 2 ls []) := by
  unfold D_X8_hasNought_2 at hD
  refine lv_iload_n X.1 X.2.1 d_X8_hasNought_2 rfl (lv_at hl 2 rfl) ?_
  refine lv_iload_n X.1 X.2.1 d_X8_hasNought_3 rfl (lv_at hl 1 rfl) ?_
  refine lv_icmp_ge (tgt := 27) X.1 X.2.1 d_X8_hasNought_4 (by decide) (fun q_4 => ?_) (fun q_4 => ?_)
  · have hD := hD.1 q_4
    refine lv_iconst (v := 0) X.1 X.2.1 d_X8_hasNought_27 (by decide) ?_
    exact g_zret X hr hlk hw (by decide) hD d_X8_hasNought_28
  · have hD := hD.2 q_4
    refine lv_iload_n X.1 X.2.1 d_X8_hasNought_7 rfl (lv_at hl 2 rfl) ?_
    refine lv_aload_n X.1 X.2.1 d_X8_hasNought_8 rfl (lv_at hl 0 rfl) ?_
    refine g_alen12 X hw hk0 d_X8_hasNought_9 ?_
    refine lv_icmp_ge (tgt := 27) X.1 X.2.1 d_X8_hasNought_10 (by decide) (fun q_10 => ?_) (fun q_10 => ?_)
    · have hD := hD.1 q_10
      refine lv_iconst (v := 0) X.1 X.2.1 d_X8_hasNought_27 (by decide) ?_
      exact g_zret X hr hlk hw (by decide) hD d_X8_hasNought_28
    · have hD := hD.2 q_10
      refine lv_aload_n X.1 X.2.1 d_X8_hasNought_13 rfl (lv_at hl 0 rfl) ?_
      refine lv_iload_n X.1 X.2.1 d_X8_hasNought_14 rfl (lv_at hl 2 rfl) ?_
      obtain ⟨q_15, hD⟩ := hD
      refine g_iald X hw hk0 rfl q_15 d_X8_hasNought_15 ?_
      refine lv_if_ne (tgt := 21) X.1 X.2.1 d_X8_hasNought_16 (by decide) (fun q_16 => ?_) (fun q_16 => ?_)
      · have hD := hD.1 q_16
        obtain ⟨x2_1, e_x2_1⟩ : ∃ y : Int32, y = x2 + 1 := ⟨_, rfl⟩
        have hD := hD x2_1 e_x2_1
        refine lv_iinc (v := x2_1) (lv' := [(2, .int x2_1), (0, .ref (G.2.1 r0)), (1, .int x1)]) X.1 X.2.1 d_X8_hasNought_21 hl (k := 2) rfl (by rw [e_x2_1]; rfl) (by decide) rfl (fun ls hl => ?_)
        refine lv_goto (tgt := 2) X.1 X.2.1 d_X8_hasNought_24 (by decide) ?_
        exact hK2 r0 x1 x2_1 σ _ _ _ hk0 hw (lv_sub hl [1, 2, 0] rfl) hD
      · have hD := hD.2 q_16
        refine lv_iconst (v := 1) X.1 X.2.1 d_X8_hasNought_19 (by decide) ?_
        exact g_zret X hr hlk hw (by decide) hD d_X8_hasNought_20
set_option maxRecDepth 20000 in
set_option maxHeartbeats 4000000 in
theorem sl_X8_hasNought_2 {p : Program} {l : Launch} {e : Env} {s : State} {m : MethodId} {args : Array Value} {below : List Frame} {meth : Method} {c : Code} {G : GC} (X : CallFix p m c cm_X8_hasNought 3 s args lw_us "GameLoom$Tally") (hr : meth.sig.returnType = some .boolean) (hlk : meth.locks = false) (Q : Int32 → GSt → Prop) : ∀ (nn : Nat), ∀ (r0 : Nat) (x1 : Int32) (x2 : Int32) (σ : GSt) (H : Heap) (locs : List Loc) (ls : Array Slot), kd r0 = 12 → Wo G s H locs σ → lv_has ls 3 [(0, .ref (G.2.1 r0)), (1, .int x1), (2, .int x2)] → L_X8_hasNought_2 Q nn r0 x1 x2 σ → W p l e rm_X8_hasNought s m args below meth c H locs 0 0 (QMI G Q below args s) (F0 m 2 ls []) := by
  intro nn
  induction nn with
  | zero => intro r0 x1 x2 σ H locs ls hk0 hw hl hD; exact hD.elim
  | succ nn ih =>
    intro r0 x1 x2 σ H locs ls hk0 hw hl hD
    exact s_X8_hasNought_2 X hr hlk (L_X8_hasNought_2 Q nn) Q ih r0 hk0 x1 x2 σ hw hl hD
set_option maxRecDepth 20000 in
set_option maxHeartbeats 4000000 in
theorem s_X8_hasNought_0 {p : Program} {l : Launch} {e : Env} {s : State} {m : MethodId} {args : Array Value} {below : List Frame} {meth : Method} {c : Code} {G : GC} (X : CallFix p m c cm_X8_hasNought 3 s args lw_us "GameLoom$Tally") (hr : meth.sig.returnType = some .boolean) (hlk : meth.locks = false) (Q : Int32 → GSt → Prop) (r0 : Nat) (hk0 : kd r0 = 12) (x1 : Int32) (σ : GSt) {H : Heap} {locs : List Loc} {ls : Array Slot} (hw : Wo G s H locs σ) (hl : lv_has ls 3 [(0, .ref (G.2.1 r0)), (1, .int x1)]) (hD : D_X8_hasNought_0 Q r0 x1 σ) : W p l e rm_X8_hasNought s m args below meth c H locs 0 0 (QMI G Q below args s) (F0 m 0 ls []) := by
  unfold D_X8_hasNought_0 at hD
  refine lv_iconst (v := 0) X.1 X.2.1 d_X8_hasNought_0 (by decide) ?_
  refine lv_istore_n (lv' := [(2, .int 0), (0, .ref (G.2.1 r0)), (1, .int x1)]) X.1 X.2.1 d_X8_hasNought_1 rfl hl (by decide) rfl (fun ls hl => ?_)
  obtain ⟨n9, hD⟩ := hD
  exact sl_X8_hasNought_2 X hr hlk  Q  n9 r0 x1 0 σ _ _ _ hk0 hw (lv_sub hl [1, 2, 0] rfl) hD
theorem c_X8_hasNought (l : Launch) (G : GC) (r0 : Nat) (x1 : Int32) (σ : GSt) (Q : Int32 → GSt → Prop) (hr0 : kd r0 = 12) (hD : D_X8_hasNought r0 x1 σ Q) : MI l ym_X8_hasNought cm_X8_hasNought 3 .boolean rm_X8_hasNought G σ [.ref (G.2.1 r0), .int x1] Q := by
  refine met_i (by decide) (Nat.le_of_ble_eq_true rfl) ?_
  intro p e s m args below meth c X hr hlk hw ls hl
  exact s_X8_hasNought_0 X hr hlk Q  r0 hr0 x1 σ hw (lv_sub hl [0, 1] rfl) hD
theorem hd_X8_faults : ym_X8_faults.cls = "GameLoom$Tally" ∧ ym_X8_faults.cls ≠ "java/lang/invoke/MethodHandle" ∧ ym_X8_faults.cls ≠ "java/lang/invoke/VarHandle" ∧ (parseMethodDescriptor ym_X8_faults.desc).map (fun d => d.parameters.length) = some 0 := by decide +kernel
abbrev rm_X8_faults : Room := { frames := 1, cells := 0, slots := 0, locals := 22 }
theorem d_X8_faults_0 : decode cm_X8_faults 0 = .ok (.aload_n 0, 1) := by decide +kernel
theorem d_X8_faults_1 : decode cm_X8_faults 1 = .ok (.getfield 12, 3) := by decide +kernel
theorem d_X8_faults_4 : decode cm_X8_faults 4 = .ok (.getfield 115, 3) := by decide +kernel
theorem d_X8_faults_7 : decode cm_X8_faults 7 = .ok (.astore_n 1, 1) := by decide +kernel
theorem d_X8_faults_8 : decode cm_X8_faults 8 = .ok (.aload_n 0, 1) := by decide +kernel
theorem d_X8_faults_9 : decode cm_X8_faults 9 = .ok (.getfield 49, 3) := by decide +kernel
theorem d_X8_faults_12 : decode cm_X8_faults 12 = .ok (.aload_n 0, 1) := by decide +kernel
theorem d_X8_faults_13 : decode cm_X8_faults 13 = .ok (.getfield 52, 3) := by decide +kernel
theorem d_X8_faults_16 : decode cm_X8_faults 16 = .ok (.iadd, 1) := by decide +kernel
theorem d_X8_faults_17 : decode cm_X8_faults 17 = .ok (.istore_n 2, 1) := by decide +kernel
theorem d_X8_faults_18 : decode cm_X8_faults 18 = .ok (.iconst 4, 1) := by decide +kernel
theorem d_X8_faults_19 : decode cm_X8_faults 19 = .ok (.aload_n 0, 1) := by decide +kernel
theorem d_X8_faults_20 : decode cm_X8_faults 20 = .ok (.getfield 49, 3) := by decide +kernel
theorem d_X8_faults_23 : decode cm_X8_faults 23 = .ok (.imul, 1) := by decide +kernel
theorem d_X8_faults_24 : decode cm_X8_faults 24 = .ok (.iload_n 2, 1) := by decide +kernel
theorem d_X8_faults_25 : decode cm_X8_faults 25 = .ok (.if_icmp .lt 15, 3) := by decide +kernel
theorem d_X8_faults_28 : decode cm_X8_faults 28 = .ok (.iconst 4, 1) := by decide +kernel
theorem d_X8_faults_29 : decode cm_X8_faults 29 = .ok (.aload_n 0, 1) := by decide +kernel
theorem d_X8_faults_30 : decode cm_X8_faults 30 = .ok (.getfield 49, 3) := by decide +kernel
theorem d_X8_faults_33 : decode cm_X8_faults 33 = .ok (.imul, 1) := by decide +kernel
theorem d_X8_faults_34 : decode cm_X8_faults 34 = .ok (.iconst 3, 1) := by decide +kernel
theorem d_X8_faults_35 : decode cm_X8_faults 35 = .ok (.iload_n 2, 1) := by decide +kernel
theorem d_X8_faults_36 : decode cm_X8_faults 36 = .ok (.imul, 1) := by decide +kernel
theorem d_X8_faults_37 : decode cm_X8_faults 37 = .ok (.if_icmp .le 7, 3) := by decide +kernel
theorem d_X8_faults_40 : decode cm_X8_faults 40 = .ok (.iconst 1, 1) := by decide +kernel
theorem d_X8_faults_41 : decode cm_X8_faults 41 = .ok (.goto 4, 3) := by decide +kernel
theorem d_X8_faults_44 : decode cm_X8_faults 44 = .ok (.iconst 0, 1) := by decide +kernel
theorem d_X8_faults_45 : decode cm_X8_faults 45 = .ok (.istore_n 3, 1) := by decide +kernel
theorem d_X8_faults_46 : decode cm_X8_faults 46 = .ok (.iload_n 3, 1) := by decide +kernel
theorem d_X8_faults_47 : decode cm_X8_faults 47 = .ok (.ifCond .eq 7, 3) := by decide +kernel
theorem d_X8_faults_50 : decode cm_X8_faults 50 = .ok (.iconst 1, 1) := by decide +kernel
theorem d_X8_faults_51 : decode cm_X8_faults 51 = .ok (.goto 4, 3) := by decide +kernel
theorem d_X8_faults_54 : decode cm_X8_faults 54 = .ok (.iconst 0, 1) := by decide +kernel
theorem d_X8_faults_55 : decode cm_X8_faults 55 = .ok (.aload_n 0, 1) := by decide +kernel
theorem d_X8_faults_56 : decode cm_X8_faults 56 = .ok (.getfield 55, 3) := by decide +kernel
theorem d_X8_faults_59 : decode cm_X8_faults 59 = .ok (.ifCond .le 7, 3) := by decide +kernel
theorem d_X8_faults_62 : decode cm_X8_faults 62 = .ok (.iconst 2, 1) := by decide +kernel
theorem d_X8_faults_63 : decode cm_X8_faults 63 = .ok (.goto 4, 3) := by decide +kernel
theorem d_X8_faults_66 : decode cm_X8_faults 66 = .ok (.iconst 0, 1) := by decide +kernel
theorem d_X8_faults_67 : decode cm_X8_faults 67 = .ok (.iadd, 1) := by decide +kernel
theorem d_X8_faults_68 : decode cm_X8_faults 68 = .ok (.aload_n 0, 1) := by decide +kernel
theorem d_X8_faults_69 : decode cm_X8_faults 69 = .ok (.getfield 22, 3) := by decide +kernel
theorem d_X8_faults_72 : decode cm_X8_faults 72 = .ok (.aload_n 1, 1) := by decide +kernel
theorem d_X8_faults_73 : decode cm_X8_faults 73 = .ok (.getfield 119, 3) := by decide +kernel
theorem d_X8_faults_76 : decode cm_X8_faults 76 = .ok (.invokestatic 124, 3) := by decide +kernel
theorem d_X8_faults_79 : decode cm_X8_faults 79 = .ok (.ifCond .eq 7, 3) := by decide +kernel
theorem d_X8_faults_82 : decode cm_X8_faults 82 = .ok (.iconst 4, 1) := by decide +kernel
theorem d_X8_faults_83 : decode cm_X8_faults 83 = .ok (.goto 4, 3) := by decide +kernel
theorem d_X8_faults_86 : decode cm_X8_faults 86 = .ok (.iconst 0, 1) := by decide +kernel
theorem d_X8_faults_87 : decode cm_X8_faults 87 = .ok (.iadd, 1) := by decide +kernel
theorem d_X8_faults_88 : decode cm_X8_faults 88 = .ok (.aload_n 0, 1) := by decide +kernel
theorem d_X8_faults_89 : decode cm_X8_faults 89 = .ok (.getfield 46, 3) := by decide +kernel
theorem d_X8_faults_92 : decode cm_X8_faults 92 = .ok (.bipush 48, 2) := by decide +kernel
theorem d_X8_faults_94 : decode cm_X8_faults 94 = .ok (.if_icmp .ge 8, 3) := by decide +kernel
theorem d_X8_faults_97 : decode cm_X8_faults 97 = .ok (.bipush 8, 2) := by decide +kernel
theorem d_X8_faults_99 : decode cm_X8_faults 99 = .ok (.goto 4, 3) := by decide +kernel
theorem d_X8_faults_102 : decode cm_X8_faults 102 = .ok (.iconst 0, 1) := by decide +kernel
theorem d_X8_faults_103 : decode cm_X8_faults 103 = .ok (.iadd, 1) := by decide +kernel
theorem d_X8_faults_104 : decode cm_X8_faults 104 = .ok (.aload_n 0, 1) := by decide +kernel
theorem d_X8_faults_105 : decode cm_X8_faults 105 = .ok (.getfield 25, 3) := by decide +kernel
theorem d_X8_faults_108 : decode cm_X8_faults 108 = .ok (.aload_n 1, 1) := by decide +kernel
theorem d_X8_faults_109 : decode cm_X8_faults 109 = .ok (.getfield 128, 3) := by decide +kernel
theorem d_X8_faults_112 : decode cm_X8_faults 112 = .ok (.invokestatic 124, 3) := by decide +kernel
theorem d_X8_faults_115 : decode cm_X8_faults 115 = .ok (.ifCond .eq 8, 3) := by decide +kernel
theorem d_X8_faults_118 : decode cm_X8_faults 118 = .ok (.bipush 16, 2) := by decide +kernel
theorem d_X8_faults_120 : decode cm_X8_faults 120 = .ok (.goto 4, 3) := by decide +kernel
theorem d_X8_faults_123 : decode cm_X8_faults 123 = .ok (.iconst 0, 1) := by decide +kernel
theorem d_X8_faults_124 : decode cm_X8_faults 124 = .ok (.iadd, 1) := by decide +kernel
theorem d_X8_faults_125 : decode cm_X8_faults 125 = .ok (.ireturn, 1) := by decide +kernel
def D_X8_faults_103 (Q : Int32 → GSt → Prop) (o : Nat) (r1 : Nat) (s0 : Int32) (s1 : Int32) (σ : GSt) : Prop :=
  D_X8_hasNought (o + 4) (σ r1 7) σ (fun r_1 σ_2 => (r_1 = 0 → Q ((s0 + s1) + 0) σ_2) ∧
  (¬ r_1 = 0 → Q ((s0 + s1) + 16) σ_2))
def D_X8_faults_87 (Q : Int32 → GSt → Prop) (o : Nat) (r1 : Nat) (s0 : Int32) (s1 : Int32) (σ : GSt) : Prop :=
  (48 ≤ (σ o 1) → D_X8_faults_103 Q o r1 (s0 + s1) 0 σ) ∧
  (¬ 48 ≤ (σ o 1) → D_X8_faults_103 Q o r1 (s0 + s1) 8 σ)
def D_X8_faults_67 (Q : Int32 → GSt → Prop) (o : Nat) (r1 : Nat) (s0 : Int32) (s1 : Int32) (σ : GSt) : Prop :=
  D_X8_hasNought (o + 3) (σ r1 5) σ (fun r_1 σ_2 => (r_1 = 0 → D_X8_faults_87 Q o r1 (s0 + s1) 0 σ_2) ∧
  (¬ r_1 = 0 → D_X8_faults_87 Q o r1 (s0 + s1) 4 σ_2))
def D_X8_faults_55 (Q : Int32 → GSt → Prop) (o : Nat) (r1 : Nat) (s0 : Int32) (σ : GSt) : Prop :=
  ((σ o 7) ≤ 0 → D_X8_faults_67 Q o r1 s0 0 σ) ∧
  (¬ (σ o 7) ≤ 0 → D_X8_faults_67 Q o r1 s0 2 σ)
def D_X8_faults_45 (Q : Int32 → GSt → Prop) (o : Nat) (r1 : Nat) (s0 : Int32) (σ : GSt) : Prop :=
  (s0 = 0 → D_X8_faults_55 Q o r1 0 σ) ∧
  (¬ s0 = 0 → D_X8_faults_55 Q o r1 1 σ)
def D_X8_faults_40 (Q : Int32 → GSt → Prop) (o : Nat) (r1 : Nat) (σ : GSt) : Prop :=
  D_X8_faults_45 Q o r1 1 σ
def D_X8_faults_0 (Q : Int32 → GSt → Prop) (o : Nat) (σ : GSt) : Prop :=
  (¬ σ (o + 1) 0 < 0 ∧ kd (σ (o + 1) 0).toNatClampNeg = 1) ∧ (∀ x2_1 : Int32, x2_1 = ((σ o 5) + (σ o 6)) → (((4 * (σ o 5)) < x2_1 → D_X8_faults_40 Q o ((σ (o + 1) 0).toNatClampNeg) σ) ∧
  (¬ (4 * (σ o 5)) < x2_1 → ((4 * (σ o 5)) ≤ (3 * x2_1) → D_X8_faults_45 Q o ((σ (o + 1) 0).toNatClampNeg) 0 σ) ∧
  (¬ (4 * (σ o 5)) ≤ (3 * x2_1) → D_X8_faults_40 Q o ((σ (o + 1) 0).toNatClampNeg) σ))))
def D_X8_faults (o : Nat) (σ : GSt) (Q : Int32 → GSt → Prop) : Prop := D_X8_faults_0 Q o σ
set_option maxRecDepth 20000 in
set_option maxHeartbeats 4000000 in
theorem s_X8_faults_103 {p : Program} {l : Launch} {e : Env} {s : State} {m : MethodId} {args : Array Value} {below : List Frame} {meth : Method} {c : Code} {G : GC} (X : CallFix p m c cm_X8_faults 4 s args lw_us "GameLoom$Tally") (hr : meth.sig.returnType = some .int) (hlk : meth.locks = false) (Q : Int32 → GSt → Prop) (o : Nat) (ho : kd o = 8) (r1 : Nat) (hk1 : kd r1 = 1) (s0 : Int32) (s1 : Int32) (σ : GSt) {H : Heap} {locs : List Loc} {ls : Array Slot} (hw : Wo G s H locs σ) (hl : lv_has ls 4 [(0, .ref (G.2.1 o)), (1, .ref (G.2.1 r1))]) (hD : D_X8_faults_103 Q o r1 s0 s1 σ) : W p l e rm_X8_faults s m args below meth c H locs 0 0 (QMI G Q below args s) (F0 m 103 ls [.int s1, .int s0]) := by
  unfold D_X8_faults_103 at hD
  refine lv_iadd X.1 X.2.1 d_X8_faults_103 ?_
  refine lv_aload_n X.1 X.2.1 d_X8_faults_104 rfl (lv_at hl 0 rfl) ?_
  refine gf_8_11 X hw ho tb_295 d_X8_faults_105 ?_
  refine lv_aload_n X.1 X.2.1 d_X8_faults_108 rfl (lv_at hl 1 rfl) ?_
  refine gf_1_7 X hw hk1 tb_176 d_X8_faults_109 ?_
  refine gcS_i (rest := [.int (s0 + s1)]) (As := [.ref (G.2.1 (o + 4)), .int (σ r1 7)]) X hw (c_X8_hasNought l G (o + 4) (σ r1 7) σ _ (ly_8_11 ho).1 hD) tb_770 tb_771 tb_8 tb_772 hd_X8_hasNought ⟨rfl, rfl⟩ ⟨Nat.le_of_ble_eq_true rfl, Nat.le_of_ble_eq_true rfl⟩ rfl hl.1 rfl (Nat.le_of_ble_eq_true rfl) d_X8_faults_112 (fun r_1 σ_2 H locs hD hw => ?_)
  refine lv_if_eq (tgt := 123) X.1 X.2.1 d_X8_faults_115 (by decide) (fun q_115 => ?_) (fun q_115 => ?_)
  · have hD := hD.1 q_115
    refine lv_iconst (v := 0) X.1 X.2.1 d_X8_faults_123 (by decide) ?_
    refine lv_iadd X.1 X.2.1 d_X8_faults_124 ?_
    exact g_iret X hr hlk hw hD d_X8_faults_125
  · have hD := hD.2 q_115
    refine lv_bipush (v := 16) X.1 X.2.1 d_X8_faults_118 (by decide) ?_
    refine lv_goto (tgt := 124) X.1 X.2.1 d_X8_faults_120 (by decide) ?_
    refine lv_iadd X.1 X.2.1 d_X8_faults_124 ?_
    exact g_iret X hr hlk hw hD d_X8_faults_125
set_option maxRecDepth 20000 in
set_option maxHeartbeats 4000000 in
theorem s_X8_faults_87 {p : Program} {l : Launch} {e : Env} {s : State} {m : MethodId} {args : Array Value} {below : List Frame} {meth : Method} {c : Code} {G : GC} (X : CallFix p m c cm_X8_faults 4 s args lw_us "GameLoom$Tally") (hr : meth.sig.returnType = some .int) (hlk : meth.locks = false) (Q : Int32 → GSt → Prop) (o : Nat) (ho : kd o = 8) (r1 : Nat) (hk1 : kd r1 = 1) (s0 : Int32) (s1 : Int32) (σ : GSt) {H : Heap} {locs : List Loc} {ls : Array Slot} (hw : Wo G s H locs σ) (hl : lv_has ls 4 [(0, .ref (G.2.1 o)), (1, .ref (G.2.1 r1))]) (hD : D_X8_faults_87 Q o r1 s0 s1 σ) : W p l e rm_X8_faults s m args below meth c H locs 0 0 (QMI G Q below args s) (F0 m 87 ls [.int s1, .int s0]) := by
  unfold D_X8_faults_87 at hD
  refine lv_iadd X.1 X.2.1 d_X8_faults_87 ?_
  refine lv_aload_n X.1 X.2.1 d_X8_faults_88 rfl (lv_at hl 0 rfl) ?_
  refine gf_8_1 X hw ho tb_284 d_X8_faults_89 ?_
  refine lv_bipush (v := 48) X.1 X.2.1 d_X8_faults_92 (by decide) ?_
  refine lv_icmp_ge (tgt := 102) X.1 X.2.1 d_X8_faults_94 (by decide) (fun q_94 => ?_) (fun q_94 => ?_)
  · have hD := hD.1 q_94
    refine lv_iconst (v := 0) X.1 X.2.1 d_X8_faults_102 (by decide) ?_
    exact s_X8_faults_103 X hr hlk  Q o ho  r1 hk1 (s0 + s1) 0 σ hw (lv_sub hl [0, 1] rfl) hD
  · have hD := hD.2 q_94
    refine lv_bipush (v := 8) X.1 X.2.1 d_X8_faults_97 (by decide) ?_
    refine lv_goto (tgt := 103) X.1 X.2.1 d_X8_faults_99 (by decide) ?_
    exact s_X8_faults_103 X hr hlk  Q o ho  r1 hk1 (s0 + s1) 8 σ hw (lv_sub hl [0, 1] rfl) hD
set_option maxRecDepth 20000 in
set_option maxHeartbeats 4000000 in
theorem s_X8_faults_67 {p : Program} {l : Launch} {e : Env} {s : State} {m : MethodId} {args : Array Value} {below : List Frame} {meth : Method} {c : Code} {G : GC} (X : CallFix p m c cm_X8_faults 4 s args lw_us "GameLoom$Tally") (hr : meth.sig.returnType = some .int) (hlk : meth.locks = false) (Q : Int32 → GSt → Prop) (o : Nat) (ho : kd o = 8) (r1 : Nat) (hk1 : kd r1 = 1) (s0 : Int32) (s1 : Int32) (σ : GSt) {H : Heap} {locs : List Loc} {ls : Array Slot} (hw : Wo G s H locs σ) (hl : lv_has ls 4 [(0, .ref (G.2.1 o)), (1, .ref (G.2.1 r1))]) (hD : D_X8_faults_67 Q o r1 s0 s1 σ) : W p l e rm_X8_faults s m args below meth c H locs 0 0 (QMI G Q below args s) (F0 m 67 ls [.int s1, .int s0]) := by
  unfold D_X8_faults_67 at hD
  refine lv_iadd X.1 X.2.1 d_X8_faults_67 ?_
  refine lv_aload_n X.1 X.2.1 d_X8_faults_68 rfl (lv_at hl 0 rfl) ?_
  refine gf_8_10 X hw ho tb_294 d_X8_faults_69 ?_
  refine lv_aload_n X.1 X.2.1 d_X8_faults_72 rfl (lv_at hl 1 rfl) ?_
  refine gf_1_5 X hw hk1 tb_170 d_X8_faults_73 ?_
  refine gcS_i (rest := [.int (s0 + s1)]) (As := [.ref (G.2.1 (o + 3)), .int (σ r1 5)]) X hw (c_X8_hasNought l G (o + 3) (σ r1 5) σ _ (ly_8_10 ho).1 hD) tb_770 tb_771 tb_8 tb_772 hd_X8_hasNought ⟨rfl, rfl⟩ ⟨Nat.le_of_ble_eq_true rfl, Nat.le_of_ble_eq_true rfl⟩ rfl hl.1 rfl (Nat.le_of_ble_eq_true rfl) d_X8_faults_76 (fun r_1 σ_2 H locs hD hw => ?_)
  refine lv_if_eq (tgt := 86) X.1 X.2.1 d_X8_faults_79 (by decide) (fun q_79 => ?_) (fun q_79 => ?_)
  · have hD := hD.1 q_79
    refine lv_iconst (v := 0) X.1 X.2.1 d_X8_faults_86 (by decide) ?_
    exact s_X8_faults_87 X hr hlk  Q o ho  r1 hk1 (s0 + s1) 0 σ_2 hw (lv_sub hl [0, 1] rfl) hD
  · have hD := hD.2 q_79
    refine lv_iconst (v := 4) X.1 X.2.1 d_X8_faults_82 (by decide) ?_
    refine lv_goto (tgt := 87) X.1 X.2.1 d_X8_faults_83 (by decide) ?_
    exact s_X8_faults_87 X hr hlk  Q o ho  r1 hk1 (s0 + s1) 4 σ_2 hw (lv_sub hl [0, 1] rfl) hD
set_option maxRecDepth 20000 in
set_option maxHeartbeats 4000000 in
theorem s_X8_faults_55 {p : Program} {l : Launch} {e : Env} {s : State} {m : MethodId} {args : Array Value} {below : List Frame} {meth : Method} {c : Code} {G : GC} (X : CallFix p m c cm_X8_faults 4 s args lw_us "GameLoom$Tally") (hr : meth.sig.returnType = some .int) (hlk : meth.locks = false) (Q : Int32 → GSt → Prop) (o : Nat) (ho : kd o = 8) (r1 : Nat) (hk1 : kd r1 = 1) (s0 : Int32) (σ : GSt) {H : Heap} {locs : List Loc} {ls : Array Slot} (hw : Wo G s H locs σ) (hl : lv_has ls 4 [(0, .ref (G.2.1 o)), (1, .ref (G.2.1 r1))]) (hD : D_X8_faults_55 Q o r1 s0 σ) : W p l e rm_X8_faults s m args below meth c H locs 0 0 (QMI G Q below args s) (F0 m 55 ls [.int s0]) := by
  unfold D_X8_faults_55 at hD
  refine lv_aload_n X.1 X.2.1 d_X8_faults_55 rfl (lv_at hl 0 rfl) ?_
  refine gf_8_7 X hw ho tb_291 d_X8_faults_56 ?_
  refine lv_if_le (tgt := 66) X.1 X.2.1 d_X8_faults_59 (by decide) (fun q_59 => ?_) (fun q_59 => ?_)
  · have hD := hD.1 q_59
    refine lv_iconst (v := 0) X.1 X.2.1 d_X8_faults_66 (by decide) ?_
    exact s_X8_faults_67 X hr hlk  Q o ho  r1 hk1 s0 0 σ hw (lv_sub hl [0, 1] rfl) hD
  · have hD := hD.2 q_59
    refine lv_iconst (v := 2) X.1 X.2.1 d_X8_faults_62 (by decide) ?_
    refine lv_goto (tgt := 67) X.1 X.2.1 d_X8_faults_63 (by decide) ?_
    exact s_X8_faults_67 X hr hlk  Q o ho  r1 hk1 s0 2 σ hw (lv_sub hl [0, 1] rfl) hD
set_option maxRecDepth 20000 in
set_option maxHeartbeats 4000000 in
theorem s_X8_faults_45 {p : Program} {l : Launch} {e : Env} {s : State} {m : MethodId} {args : Array Value} {below : List Frame} {meth : Method} {c : Code} {G : GC} (X : CallFix p m c cm_X8_faults 4 s args lw_us "GameLoom$Tally") (hr : meth.sig.returnType = some .int) (hlk : meth.locks = false) (Q : Int32 → GSt → Prop) (o : Nat) (ho : kd o = 8) (r1 : Nat) (hk1 : kd r1 = 1) (s0 : Int32) (σ : GSt) {H : Heap} {locs : List Loc} {ls : Array Slot} (hw : Wo G s H locs σ) (hl : lv_has ls 4 [(0, .ref (G.2.1 o)), (1, .ref (G.2.1 r1))]) (hD : D_X8_faults_45 Q o r1 s0 σ) : W p l e rm_X8_faults s m args below meth c H locs 0 0 (QMI G Q below args s) (F0 m 45 ls [.int s0]) := by
  unfold D_X8_faults_45 at hD
  refine lv_istore_n (lv' := [(3, .int s0), (0, .ref (G.2.1 o)), (1, .ref (G.2.1 r1))]) X.1 X.2.1 d_X8_faults_45 rfl hl (by decide) rfl (fun ls hl => ?_)
  refine lv_iload_n X.1 X.2.1 d_X8_faults_46 rfl (lv_at hl 0 rfl) ?_
  refine lv_if_eq (tgt := 54) X.1 X.2.1 d_X8_faults_47 (by decide) (fun q_47 => ?_) (fun q_47 => ?_)
  · have hD := hD.1 q_47
    refine lv_iconst (v := 0) X.1 X.2.1 d_X8_faults_54 (by decide) ?_
    exact s_X8_faults_55 X hr hlk  Q o ho  r1 hk1 0 σ hw (lv_sub hl [1, 2] rfl) hD
  · have hD := hD.2 q_47
    refine lv_iconst (v := 1) X.1 X.2.1 d_X8_faults_50 (by decide) ?_
    refine lv_goto (tgt := 55) X.1 X.2.1 d_X8_faults_51 (by decide) ?_
    exact s_X8_faults_55 X hr hlk  Q o ho  r1 hk1 1 σ hw (lv_sub hl [1, 2] rfl) hD
set_option maxRecDepth 20000 in
set_option maxHeartbeats 4000000 in
theorem s_X8_faults_40 {p : Program} {l : Launch} {e : Env} {s : State} {m : MethodId} {args : Array Value} {below : List Frame} {meth : Method} {c : Code} {G : GC} (X : CallFix p m c cm_X8_faults 4 s args lw_us "GameLoom$Tally") (hr : meth.sig.returnType = some .int) (hlk : meth.locks = false) (Q : Int32 → GSt → Prop) (o : Nat) (ho : kd o = 8) (r1 : Nat) (hk1 : kd r1 = 1) (σ : GSt) {H : Heap} {locs : List Loc} {ls : Array Slot} (hw : Wo G s H locs σ) (hl : lv_has ls 4 [(0, .ref (G.2.1 o)), (1, .ref (G.2.1 r1))]) (hD : D_X8_faults_40 Q o r1 σ) : W p l e rm_X8_faults s m args below meth c H locs 0 0 (QMI G Q below args s) (F0 m 40 ls []) := by
  unfold D_X8_faults_40 at hD
  refine lv_iconst (v := 1) X.1 X.2.1 d_X8_faults_40 (by decide) ?_
  refine lv_goto (tgt := 45) X.1 X.2.1 d_X8_faults_41 (by decide) ?_
  exact s_X8_faults_45 X hr hlk  Q o ho  r1 hk1 1 σ hw (lv_sub hl [0, 1] rfl) hD
set_option maxRecDepth 20000 in
set_option maxHeartbeats 4000000 in
theorem s_X8_faults_0 {p : Program} {l : Launch} {e : Env} {s : State} {m : MethodId} {args : Array Value} {below : List Frame} {meth : Method} {c : Code} {G : GC} (X : CallFix p m c cm_X8_faults 4 s args lw_us "GameLoom$Tally") (hr : meth.sig.returnType = some .int) (hlk : meth.locks = false) (Q : Int32 → GSt → Prop) (o : Nat) (ho : kd o = 8) (σ : GSt) {H : Heap} {locs : List Loc} {ls : Array Slot} (hw : Wo G s H locs σ) (hl : lv_has ls 4 [(0, .ref (G.2.1 o))]) (hD : D_X8_faults_0 Q o σ) : W p l e rm_X8_faults s m args below meth c H locs 0 0 (QMI G Q below args s) (F0 m 0 ls []) := by
  unfold D_X8_faults_0 at hD
  refine lv_aload_n X.1 X.2.1 d_X8_faults_0 rfl (lv_at hl 0 rfl) ?_
  refine gf_8_0 X hw ho tb_282 d_X8_faults_1 ?_
  obtain ⟨q_4, hD⟩ := hD
  refine gf_5_0 X hw (ly_8_0 ho) tb_238 q_4.1 d_X8_faults_4 ?_
  refine lv_astore_n (lv' := [(1, .ref (G.2.1 ((σ (o + 1) 0).toNatClampNeg))), (0, .ref (G.2.1 o))]) X.1 X.2.1 d_X8_faults_7 rfl hl (by decide) rfl (fun ls hl => ?_)
  refine lv_aload_n X.1 X.2.1 d_X8_faults_8 rfl (lv_at hl 1 rfl) ?_
  refine gf_8_5 X hw ho tb_289 d_X8_faults_9 ?_
  refine lv_aload_n X.1 X.2.1 d_X8_faults_12 rfl (lv_at hl 1 rfl) ?_
  refine gf_8_6 X hw ho tb_290 d_X8_faults_13 ?_
  refine lv_iadd X.1 X.2.1 d_X8_faults_16 ?_
  refine lv_topi (fun x2_1 e_x2_1 => ?_)
  have hD := hD x2_1 e_x2_1
  refine lv_istore_n (lv' := [(2, .int x2_1), (1, .ref (G.2.1 ((σ (o + 1) 0).toNatClampNeg))), (0, .ref (G.2.1 o))]) X.1 X.2.1 d_X8_faults_17 rfl hl (by decide) rfl (fun ls hl => ?_)
  refine lv_iconst (v := 4) X.1 X.2.1 d_X8_faults_18 (by decide) ?_
  refine lv_aload_n X.1 X.2.1 d_X8_faults_19 rfl (lv_at hl 2 rfl) ?_
  refine gf_8_5 X hw ho tb_289 d_X8_faults_20 ?_
  refine lv_imul X.1 X.2.1 d_X8_faults_23 ?_
  refine lv_iload_n X.1 X.2.1 d_X8_faults_24 rfl (lv_at hl 0 rfl) ?_
  refine lv_icmp_lt (tgt := 40) X.1 X.2.1 d_X8_faults_25 (by decide) (fun q_25 => ?_) (fun q_25 => ?_)
  · have hD := hD.1 q_25
    exact s_X8_faults_40 X hr hlk  Q o ho  ((σ (o + 1) 0).toNatClampNeg) q_4.2 σ hw (lv_sub hl [2, 1] rfl) hD
  · have hD := hD.2 q_25
    refine lv_iconst (v := 4) X.1 X.2.1 d_X8_faults_28 (by decide) ?_
    refine lv_aload_n X.1 X.2.1 d_X8_faults_29 rfl (lv_at hl 2 rfl) ?_
    refine gf_8_5 X hw ho tb_289 d_X8_faults_30 ?_
    refine lv_imul X.1 X.2.1 d_X8_faults_33 ?_
    refine lv_iconst (v := 3) X.1 X.2.1 d_X8_faults_34 (by decide) ?_
    refine lv_iload_n X.1 X.2.1 d_X8_faults_35 rfl (lv_at hl 0 rfl) ?_
    refine lv_imul X.1 X.2.1 d_X8_faults_36 ?_
    refine lv_icmp_le (tgt := 44) X.1 X.2.1 d_X8_faults_37 (by decide) (fun q_37 => ?_) (fun q_37 => ?_)
    · have hD := hD.1 q_37
      refine lv_iconst (v := 0) X.1 X.2.1 d_X8_faults_44 (by decide) ?_
      exact s_X8_faults_45 X hr hlk  Q o ho  ((σ (o + 1) 0).toNatClampNeg) q_4.2 0 σ hw (lv_sub hl [2, 1] rfl) hD
    · have hD := hD.2 q_37
      exact s_X8_faults_40 X hr hlk  Q o ho  ((σ (o + 1) 0).toNatClampNeg) q_4.2 σ hw (lv_sub hl [2, 1] rfl) hD
theorem c_X8_faults (l : Launch) (G : GC) (o : Nat) (σ : GSt) (Q : Int32 → GSt → Prop) (ho : kd o = 8) (hD : D_X8_faults o σ Q) : MI l ym_X8_faults cm_X8_faults 4 .int rm_X8_faults G σ [.ref (G.2.1 o)] Q := by
  refine met_i (by decide) (Nat.le_of_ble_eq_true rfl) ?_
  intro p e s m args below meth c X hr hlk hw ls hl
  exact s_X8_faults_0 X hr hlk Q o ho  σ hw (lv_sub hl [0] rfl) hD
theorem hd_X8_farFrom : ym_X8_farFrom.cls = "GameLoom$Tally" ∧ ym_X8_farFrom.cls ≠ "java/lang/invoke/MethodHandle" ∧ ym_X8_farFrom.cls ≠ "java/lang/invoke/VarHandle" ∧ (parseMethodDescriptor ym_X8_farFrom.desc).map (fun d => d.parameters.length) = some 1 := by decide +kernel
abbrev rm_X8_farFrom : Room := { frames := 1, cells := 0, slots := 0, locals := 40 }
theorem d_X8_farFrom_0 : decode cm_X8_farFrom 0 = .ok (.aload_n 0, 1) := by decide +kernel
theorem d_X8_farFrom_1 : decode cm_X8_farFrom 1 = .ok (.getfield 49, 3) := by decide +kernel
theorem d_X8_farFrom_4 : decode cm_X8_farFrom 4 = .ok (.aload_n 1, 1) := by decide +kernel
theorem d_X8_farFrom_5 : decode cm_X8_farFrom 5 = .ok (.getfield 49, 3) := by decide +kernel
theorem d_X8_farFrom_8 : decode cm_X8_farFrom 8 = .ok (.isub, 1) := by decide +kernel
theorem d_X8_farFrom_9 : decode cm_X8_farFrom 9 = .ok (.invokestatic 131, 3) := by decide +kernel
theorem d_X8_farFrom_12 : decode cm_X8_farFrom 12 = .ok (.aload_n 0, 1) := by decide +kernel
theorem d_X8_farFrom_13 : decode cm_X8_farFrom 13 = .ok (.getfield 52, 3) := by decide +kernel
theorem d_X8_farFrom_16 : decode cm_X8_farFrom 16 = .ok (.aload_n 1, 1) := by decide +kernel
theorem d_X8_farFrom_17 : decode cm_X8_farFrom 17 = .ok (.getfield 52, 3) := by decide +kernel
theorem d_X8_farFrom_20 : decode cm_X8_farFrom 20 = .ok (.isub, 1) := by decide +kernel
theorem d_X8_farFrom_21 : decode cm_X8_farFrom 21 = .ok (.invokestatic 131, 3) := by decide +kernel
theorem d_X8_farFrom_24 : decode cm_X8_farFrom 24 = .ok (.iadd, 1) := by decide +kernel
theorem d_X8_farFrom_25 : decode cm_X8_farFrom 25 = .ok (.aload_n 0, 1) := by decide +kernel
theorem d_X8_farFrom_26 : decode cm_X8_farFrom 26 = .ok (.getfield 46, 3) := by decide +kernel
theorem d_X8_farFrom_29 : decode cm_X8_farFrom 29 = .ok (.bipush 10, 2) := by decide +kernel
theorem d_X8_farFrom_31 : decode cm_X8_farFrom 31 = .ok (.idiv, 1) := by decide +kernel
theorem d_X8_farFrom_32 : decode cm_X8_farFrom 32 = .ok (.aload_n 1, 1) := by decide +kernel
theorem d_X8_farFrom_33 : decode cm_X8_farFrom 33 = .ok (.getfield 46, 3) := by decide +kernel
theorem d_X8_farFrom_36 : decode cm_X8_farFrom 36 = .ok (.bipush 10, 2) := by decide +kernel
theorem d_X8_farFrom_38 : decode cm_X8_farFrom 38 = .ok (.idiv, 1) := by decide +kernel
theorem d_X8_farFrom_39 : decode cm_X8_farFrom 39 = .ok (.isub, 1) := by decide +kernel
theorem d_X8_farFrom_40 : decode cm_X8_farFrom 40 = .ok (.invokestatic 131, 3) := by decide +kernel
theorem d_X8_farFrom_43 : decode cm_X8_farFrom 43 = .ok (.iadd, 1) := by decide +kernel
theorem d_X8_farFrom_44 : decode cm_X8_farFrom 44 = .ok (.ireturn, 1) := by decide +kernel
def D_X8_farFrom_0 (Q : Int32 → GSt → Prop) (o : Nat) (r1 : Nat) (σ : GSt) : Prop :=
  Q (((jabs ((σ o 5) - (σ r1 5))) + (jabs ((σ o 6) - (σ r1 6)))) + (jabs (((σ o 1) / 10) - ((σ r1 1) / 10)))) σ
def D_X8_farFrom (o : Nat) (r1 : Nat) (σ : GSt) (Q : Int32 → GSt → Prop) : Prop := D_X8_farFrom_0 Q o r1 σ
set_option maxRecDepth 20000 in
set_option maxHeartbeats 4000000 in
theorem s_X8_farFrom_0 {p : Program} {l : Launch} {e : Env} {s : State} {m : MethodId} {args : Array Value} {below : List Frame} {meth : Method} {c : Code} {G : GC} (X : CallFix p m c cm_X8_farFrom 2 s args lw_us "GameLoom$Tally") (hr : meth.sig.returnType = some .int) (hlk : meth.locks = false) (Q : Int32 → GSt → Prop) (o : Nat) (ho : kd o = 8) (r1 : Nat) (hk1 : kd r1 = 8) (σ : GSt) {H : Heap} {locs : List Loc} {ls : Array Slot} (hw : Wo G s H locs σ) (hl : lv_has ls 2 [(0, .ref (G.2.1 o)), (1, .ref (G.2.1 r1))]) (hD : D_X8_farFrom_0 Q o r1 σ) : W p l e rm_X8_farFrom s m args below meth c H locs 0 0 (QMI G Q below args s) (F0 m 0 ls []) := by
  unfold D_X8_farFrom_0 at hD
  refine lv_aload_n X.1 X.2.1 d_X8_farFrom_0 rfl (lv_at hl 0 rfl) ?_
  refine gf_8_5 X hw ho tb_289 d_X8_farFrom_1 ?_
  refine lv_aload_n X.1 X.2.1 d_X8_farFrom_4 rfl (lv_at hl 1 rfl) ?_
  refine gf_8_5 X hw hk1 tb_289 d_X8_farFrom_5 ?_
  refine lv_isub X.1 X.2.1 d_X8_farFrom_8 ?_
  refine g_mabs (rest := []) X hl.1 tb_781 (Nat.le_of_ble_eq_true rfl) (Nat.le_of_ble_eq_true rfl) d_X8_farFrom_9 ?_
  refine lv_aload_n X.1 X.2.1 d_X8_farFrom_12 rfl (lv_at hl 0 rfl) ?_
  refine gf_8_6 X hw ho tb_290 d_X8_farFrom_13 ?_
  refine lv_aload_n X.1 X.2.1 d_X8_farFrom_16 rfl (lv_at hl 1 rfl) ?_
  refine gf_8_6 X hw hk1 tb_290 d_X8_farFrom_17 ?_
  refine lv_isub X.1 X.2.1 d_X8_farFrom_20 ?_
  refine g_mabs (rest := [.int (jabs ((σ o 5) - (σ r1 5)))]) X hl.1 tb_781 (Nat.le_of_ble_eq_true rfl) (Nat.le_of_ble_eq_true rfl) d_X8_farFrom_21 ?_
  refine lv_iadd X.1 X.2.1 d_X8_farFrom_24 ?_
  refine lv_aload_n X.1 X.2.1 d_X8_farFrom_25 rfl (lv_at hl 0 rfl) ?_
  refine gf_8_1 X hw ho tb_284 d_X8_farFrom_26 ?_
  refine lv_bipush (v := 10) X.1 X.2.1 d_X8_farFrom_29 (by decide) ?_
  refine lv_idiv X.1 X.2.1 d_X8_farFrom_31 (by decide) ?_
  refine lv_aload_n X.1 X.2.1 d_X8_farFrom_32 rfl (lv_at hl 1 rfl) ?_
  refine gf_8_1 X hw hk1 tb_284 d_X8_farFrom_33 ?_
  refine lv_bipush (v := 10) X.1 X.2.1 d_X8_farFrom_36 (by decide) ?_
  refine lv_idiv X.1 X.2.1 d_X8_farFrom_38 (by decide) ?_
  refine lv_isub X.1 X.2.1 d_X8_farFrom_39 ?_
  refine g_mabs (rest := [.int ((jabs ((σ o 5) - (σ r1 5))) + (jabs ((σ o 6) - (σ r1 6))))]) X hl.1 tb_781 (Nat.le_of_ble_eq_true rfl) (Nat.le_of_ble_eq_true rfl) d_X8_farFrom_40 ?_
  refine lv_iadd X.1 X.2.1 d_X8_farFrom_43 ?_
  exact g_iret X hr hlk hw hD d_X8_farFrom_44
theorem c_X8_farFrom (l : Launch) (G : GC) (o : Nat) (r1 : Nat) (σ : GSt) (Q : Int32 → GSt → Prop) (ho : kd o = 8) (hr1 : kd r1 = 8) (hD : D_X8_farFrom o r1 σ Q) : MI l ym_X8_farFrom cm_X8_farFrom 2 .int rm_X8_farFrom G σ [.ref (G.2.1 o), .ref (G.2.1 r1)] Q := by
  refine met_i (by decide) (Nat.le_of_ble_eq_true rfl) ?_
  intro p e s m args below meth c X hr hlk hw ls hl
  exact s_X8_farFrom_0 X hr hlk Q o ho r1 hr1 σ hw (lv_sub hl [0, 1] rfl) hD
theorem hd_X8_worth : ym_X8_worth.cls = "GameLoom$Tally" ∧ ym_X8_worth.cls ≠ "java/lang/invoke/MethodHandle" ∧ ym_X8_worth.cls ≠ "java/lang/invoke/VarHandle" ∧ (parseMethodDescriptor ym_X8_worth.desc).map (fun d => d.parameters.length) = some 0 := by decide +kernel
abbrev rm_X8_worth : Room := { frames := 1, cells := 0, slots := 0, locals := 40 }
theorem d_X8_worth_0 : decode cm_X8_worth 0 = .ok (.bipush 10, 2) := by decide +kernel
theorem d_X8_worth_2 : decode cm_X8_worth 2 = .ok (.aload_n 0, 1) := by decide +kernel
theorem d_X8_worth_3 : decode cm_X8_worth 3 = .ok (.getfield 49, 3) := by decide +kernel
theorem d_X8_worth_6 : decode cm_X8_worth 6 = .ok (.aload_n 0, 1) := by decide +kernel
theorem d_X8_worth_7 : decode cm_X8_worth 7 = .ok (.getfield 52, 3) := by decide +kernel
theorem d_X8_worth_10 : decode cm_X8_worth 10 = .ok (.invokestatic 134, 3) := by decide +kernel
theorem d_X8_worth_13 : decode cm_X8_worth 13 = .ok (.imul, 1) := by decide +kernel
theorem d_X8_worth_14 : decode cm_X8_worth 14 = .ok (.aload_n 0, 1) := by decide +kernel
theorem d_X8_worth_15 : decode cm_X8_worth 15 = .ok (.getfield 46, 3) := by decide +kernel
theorem d_X8_worth_18 : decode cm_X8_worth 18 = .ok (.bipush 10, 2) := by decide +kernel
theorem d_X8_worth_20 : decode cm_X8_worth 20 = .ok (.idiv, 1) := by decide +kernel
theorem d_X8_worth_21 : decode cm_X8_worth 21 = .ok (.iadd, 1) := by decide +kernel
theorem d_X8_worth_22 : decode cm_X8_worth 22 = .ok (.ireturn, 1) := by decide +kernel
def D_X8_worth_0 (Q : Int32 → GSt → Prop) (o : Nat) (σ : GSt) : Prop :=
  Q ((10 * (jmin (σ o 5) (σ o 6))) + ((σ o 1) / 10)) σ
def D_X8_worth (o : Nat) (σ : GSt) (Q : Int32 → GSt → Prop) : Prop := D_X8_worth_0 Q o σ
set_option maxRecDepth 20000 in
set_option maxHeartbeats 4000000 in
theorem s_X8_worth_0 {p : Program} {l : Launch} {e : Env} {s : State} {m : MethodId} {args : Array Value} {below : List Frame} {meth : Method} {c : Code} {G : GC} (X : CallFix p m c cm_X8_worth 1 s args lw_us "GameLoom$Tally") (hr : meth.sig.returnType = some .int) (hlk : meth.locks = false) (Q : Int32 → GSt → Prop) (o : Nat) (ho : kd o = 8) (σ : GSt) {H : Heap} {locs : List Loc} {ls : Array Slot} (hw : Wo G s H locs σ) (hl : lv_has ls 1 [(0, .ref (G.2.1 o))]) (hD : D_X8_worth_0 Q o σ) : W p l e rm_X8_worth s m args below meth c H locs 0 0 (QMI G Q below args s) (F0 m 0 ls []) := by
  unfold D_X8_worth_0 at hD
  refine lv_bipush (v := 10) X.1 X.2.1 d_X8_worth_0 (by decide) ?_
  refine lv_aload_n X.1 X.2.1 d_X8_worth_2 rfl (lv_at hl 0 rfl) ?_
  refine gf_8_5 X hw ho tb_289 d_X8_worth_3 ?_
  refine lv_aload_n X.1 X.2.1 d_X8_worth_6 rfl (lv_at hl 0 rfl) ?_
  refine gf_8_6 X hw ho tb_290 d_X8_worth_7 ?_
  refine g_mmin (rest := [.int 10]) X hl.1 tb_887 (Nat.le_of_ble_eq_true rfl) (Nat.le_of_ble_eq_true rfl) d_X8_worth_10 ?_
  refine lv_imul X.1 X.2.1 d_X8_worth_13 ?_
  refine lv_aload_n X.1 X.2.1 d_X8_worth_14 rfl (lv_at hl 0 rfl) ?_
  refine gf_8_1 X hw ho tb_284 d_X8_worth_15 ?_
  refine lv_bipush (v := 10) X.1 X.2.1 d_X8_worth_18 (by decide) ?_
  refine lv_idiv X.1 X.2.1 d_X8_worth_20 (by decide) ?_
  refine lv_iadd X.1 X.2.1 d_X8_worth_21 ?_
  exact g_iret X hr hlk hw hD d_X8_worth_22
theorem c_X8_worth (l : Launch) (G : GC) (o : Nat) (σ : GSt) (Q : Int32 → GSt → Prop) (ho : kd o = 8) (hD : D_X8_worth o σ Q) : MI l ym_X8_worth cm_X8_worth 1 .int rm_X8_worth G σ [.ref (G.2.1 o)] Q := by
  refine met_i (by decide) (Nat.le_of_ble_eq_true rfl) ?_
  intro p e s m args below meth c X hr hlk hw ls hl
  exact s_X8_worth_0 X hr hlk Q o ho  σ hw (lv_sub hl [0] rfl) hD
theorem hd_X9_placeOfDigit : ym_X9_placeOfDigit.cls = "GameLoom$Text" ∧ ym_X9_placeOfDigit.cls ≠ "java/lang/invoke/MethodHandle" ∧ ym_X9_placeOfDigit.cls ≠ "java/lang/invoke/VarHandle" ∧ (parseMethodDescriptor ym_X9_placeOfDigit.desc).map (fun d => d.parameters.length) = some 1 := by decide +kernel
abbrev rm_X9_placeOfDigit : Room := { frames := 0, cells := 0, slots := 0, locals := 0 }
theorem d_X9_placeOfDigit_0 : decode cm_X9_placeOfDigit 0 = .ok (.iload_n 1, 1) := by decide +kernel
theorem d_X9_placeOfDigit_1 : decode cm_X9_placeOfDigit 1 = .ok (.istore_n 2, 1) := by decide +kernel
theorem d_X9_placeOfDigit_2 : decode cm_X9_placeOfDigit 2 = .ok (.iconst 0, 1) := by decide +kernel
theorem d_X9_placeOfDigit_3 : decode cm_X9_placeOfDigit 3 = .ok (.istore_n 3, 1) := by decide +kernel
theorem d_X9_placeOfDigit_4 : decode cm_X9_placeOfDigit 4 = .ok (.iload_n 3, 1) := by decide +kernel
theorem d_X9_placeOfDigit_5 : decode cm_X9_placeOfDigit 5 = .ok (.aload_n 0, 1) := by decide +kernel
theorem d_X9_placeOfDigit_6 : decode cm_X9_placeOfDigit 6 = .ok (.getfield 15, 3) := by decide +kernel
theorem d_X9_placeOfDigit_9 : decode cm_X9_placeOfDigit 9 = .ok (.if_icmp .ge 44, 3) := by decide +kernel
theorem d_X9_placeOfDigit_12 : decode cm_X9_placeOfDigit 12 = .ok (.iload_n 2, 1) := by decide +kernel
theorem d_X9_placeOfDigit_13 : decode cm_X9_placeOfDigit 13 = .ok (.ifCond .lt 40, 3) := by decide +kernel
theorem d_X9_placeOfDigit_16 : decode cm_X9_placeOfDigit 16 = .ok (.aload_n 0, 1) := by decide +kernel
theorem d_X9_placeOfDigit_17 : decode cm_X9_placeOfDigit 17 = .ok (.getfield 9, 3) := by decide +kernel
theorem d_X9_placeOfDigit_20 : decode cm_X9_placeOfDigit 20 = .ok (.iload_n 3, 1) := by decide +kernel
theorem d_X9_placeOfDigit_21 : decode cm_X9_placeOfDigit 21 = .ok (.iaload, 1) := by decide +kernel
theorem d_X9_placeOfDigit_22 : decode cm_X9_placeOfDigit 22 = .ok (.bipush 48, 2) := by decide +kernel
theorem d_X9_placeOfDigit_24 : decode cm_X9_placeOfDigit 24 = .ok (.if_icmp .lt 23, 3) := by decide +kernel
theorem d_X9_placeOfDigit_27 : decode cm_X9_placeOfDigit 27 = .ok (.aload_n 0, 1) := by decide +kernel
theorem d_X9_placeOfDigit_28 : decode cm_X9_placeOfDigit 28 = .ok (.getfield 9, 3) := by decide +kernel
theorem d_X9_placeOfDigit_31 : decode cm_X9_placeOfDigit 31 = .ok (.iload_n 3, 1) := by decide +kernel
theorem d_X9_placeOfDigit_32 : decode cm_X9_placeOfDigit 32 = .ok (.iaload, 1) := by decide +kernel
theorem d_X9_placeOfDigit_33 : decode cm_X9_placeOfDigit 33 = .ok (.bipush 57, 2) := by decide +kernel
theorem d_X9_placeOfDigit_35 : decode cm_X9_placeOfDigit 35 = .ok (.if_icmp .gt 12, 3) := by decide +kernel
theorem d_X9_placeOfDigit_38 : decode cm_X9_placeOfDigit 38 = .ok (.iload_n 2, 1) := by decide +kernel
theorem d_X9_placeOfDigit_39 : decode cm_X9_placeOfDigit 39 = .ok (.ifCond .ne 5, 3) := by decide +kernel
theorem d_X9_placeOfDigit_42 : decode cm_X9_placeOfDigit 42 = .ok (.iload_n 3, 1) := by decide +kernel
theorem d_X9_placeOfDigit_43 : decode cm_X9_placeOfDigit 43 = .ok (.ireturn, 1) := by decide +kernel
theorem d_X9_placeOfDigit_44 : decode cm_X9_placeOfDigit 44 = .ok (.iinc 2 (-1), 3) := by decide +kernel
theorem d_X9_placeOfDigit_47 : decode cm_X9_placeOfDigit 47 = .ok (.iinc 3 1, 3) := by decide +kernel
theorem d_X9_placeOfDigit_50 : decode cm_X9_placeOfDigit 50 = .ok (.goto (-46), 3) := by decide +kernel
theorem d_X9_placeOfDigit_53 : decode cm_X9_placeOfDigit 53 = .ok (.iconst (-1), 1) := by decide +kernel
theorem d_X9_placeOfDigit_54 : decode cm_X9_placeOfDigit 54 = .ok (.ireturn, 1) := by decide +kernel
def D_X9_placeOfDigit_47 (K4 : Int32 → Int32 → GSt → Prop) (Q : Int32 → GSt → Prop) (o : Nat) (x2 : Int32) (x3 : Int32) (σ : GSt) : Prop :=
  ∀ x3_1 : Int32, x3_1 = x3 + 1 → (K4 x2 x3_1 σ)
def D_X9_placeOfDigit_4 (K4 : Int32 → Int32 → GSt → Prop) (Q : Int32 → GSt → Prop) (o : Nat) (x2 : Int32) (x3 : Int32) (σ : GSt) : Prop :=
  ((σ o 1) ≤ x3 → Q (-1) σ) ∧
  (¬ (σ o 1) ≤ x3 → (x2 < 0 → Q (-1) σ) ∧
  (¬ x2 < 0 → vp_in x3 90 ∧ (((σ (o + 1) (Int32.toNatClampNeg x3)) < 48 → D_X9_placeOfDigit_47 K4 Q o x2 x3 σ) ∧
  (¬ (σ (o + 1) (Int32.toNatClampNeg x3)) < 48 → vp_in x3 90 ∧ ((57 < (σ (o + 1) (Int32.toNatClampNeg x3)) → D_X9_placeOfDigit_47 K4 Q o x2 x3 σ) ∧
  (¬ 57 < (σ (o + 1) (Int32.toNatClampNeg x3)) → (¬ x2 = 0 → ∀ x2_1 : Int32, x2_1 = x2 + (-1) → (D_X9_placeOfDigit_47 K4 Q o x2_1 x3 σ)) ∧
  (x2 = 0 → Q x3 σ)))))))
def L_X9_placeOfDigit_4 (Q : Int32 → GSt → Prop) (o : Nat) : Nat → Int32 → Int32 → GSt → Prop
  | 0 => fun _ _ _ => False
  | n + 1 => fun x2 x3 σ => D_X9_placeOfDigit_4 (L_X9_placeOfDigit_4 Q o n) Q o x2 x3 σ
def D_X9_placeOfDigit_0 (Q : Int32 → GSt → Prop) (o : Nat) (x1 : Int32) (σ : GSt) : Prop :=
  ∃ n : Nat, L_X9_placeOfDigit_4 Q o n x1 0 σ
def D_X9_placeOfDigit (o : Nat) (x1 : Int32) (σ : GSt) (Q : Int32 → GSt → Prop) : Prop := D_X9_placeOfDigit_0 Q o x1 σ
set_option maxRecDepth 20000 in
set_option maxHeartbeats 4000000 in
theorem s_X9_placeOfDigit_47 {p : Program} {l : Launch} {e : Env} {s : State} {m : MethodId} {args : Array Value} {below : List Frame} {meth : Method} {c : Code} {G : GC} (X : CallFix p m c cm_X9_placeOfDigit 4 s args lw_us "GameLoom$Text") (hr : meth.sig.returnType = some .int) (hlk : meth.locks = false) (K4 : Int32 → Int32 → GSt → Prop) (Q : Int32 → GSt → Prop) (o : Nat) (ho : kd o = 9) (hK4 : ∀ (x2 : Int32) (x3 : Int32) (σ : GSt) (H : Heap) (locs : List Loc) (ls : Array Slot), Wo G s H locs σ → lv_has ls 4 [(0, .ref (G.2.1 o)), (2, .int x2), (3, .int x3)] → K4 x2 x3 σ → W p l e rm_X9_placeOfDigit s m args below meth c H locs 0 0 (QMI G Q below args s) (F0 m 4 ls [])) (x2 : Int32) (x3 : Int32) (σ : GSt) {H : Heap} {locs : List Loc} {ls : Array Slot} (hw : Wo G s H locs σ) (hl : lv_has ls 4 [(0, .ref (G.2.1 o)), (2, .int x2), (3, .int x3)]) (hD : D_X9_placeOfDigit_47 K4 Q o x2 x3 σ) : W p l e rm_X9_placeOfDigit s m args below meth c H locs 0 0 (QMI G Q below args s) (F0 m 47 ls []) := by
  unfold D_X9_placeOfDigit_47 at hD
  obtain ⟨x3_1, e_x3_1⟩ : ∃ y : Int32, y = x3 + 1 := ⟨_, rfl⟩
  have hD := hD x3_1 e_x3_1
  refine lv_iinc (v := x3_1) (lv' := [(3, .int x3_1), (0, .ref (G.2.1 o)), (2, .int x2)]) X.1 X.2.1 d_X9_placeOfDigit_47 hl (k := 2) rfl (by rw [e_x3_1]; rfl) (by decide) rfl (fun ls hl => ?_)
  refine lv_goto (tgt := 4) X.1 X.2.1 d_X9_placeOfDigit_50 (by decide) ?_
  exact hK4 x2 x3_1 σ _ _ _  hw (lv_sub hl [1, 2, 0] rfl) hD
set_option maxRecDepth 20000 in
set_option maxHeartbeats 4000000 in
theorem s_X9_placeOfDigit_4 {p : Program} {l : Launch} {e : Env} {s : State} {m : MethodId} {args : Array Value} {below : List Frame} {meth : Method} {c : Code} {G : GC} (X : CallFix p m c cm_X9_placeOfDigit 4 s args lw_us "GameLoom$Text") (hr : meth.sig.returnType = some .int) (hlk : meth.locks = false) (K4 : Int32 → Int32 → GSt → Prop) (Q : Int32 → GSt → Prop) (o : Nat) (ho : kd o = 9) (hK4 : ∀ (x2 : Int32) (x3 : Int32) (σ : GSt) (H : Heap) (locs : List Loc) (ls : Array Slot), Wo G s H locs σ → lv_has ls 4 [(0, .ref (G.2.1 o)), (2, .int x2), (3, .int x3)] → K4 x2 x3 σ → W p l e rm_X9_placeOfDigit s m args below meth c H locs 0 0 (QMI G Q below args s) (F0 m 4 ls [])) (x2 : Int32) (x3 : Int32) (σ : GSt) {H : Heap} {locs : List Loc} {ls : Array Slot} (hw : Wo G s H locs σ) (hl : lv_has ls 4 [(0, .ref (G.2.1 o)), (2, .int x2), (3, .int x3)]) (hD : D_X9_placeOfDigit_4 K4 Q o x2 x3 σ) : W p l e rm_X9_placeOfDigit s m args below meth c H locs 0 0 (QMI G Q below args s) (F0 m 4 ls []) := by
  unfold D_X9_placeOfDigit_4 at hD
  refine lv_iload_n X.1 X.2.1 d_X9_placeOfDigit_4 rfl (lv_at hl 2 rfl) ?_
  refine lv_aload_n X.1 X.2.1 d_X9_placeOfDigit_5 rfl (lv_at hl 0 rfl) ?_
  refine gf_9_1 X hw ho tb_32 d_X9_placeOfDigit_6 ?_
  refine lv_icmp_ge (tgt := 53) X.1 X.2.1 d_X9_placeOfDigit_9 (by decide) (fun q_9 => ?_) (fun q_9 => ?_)
  · have hD := hD.1 q_9
    refine lv_iconst (v := (-1)) X.1 X.2.1 d_X9_placeOfDigit_53 (by decide) ?_
    exact g_iret X hr hlk hw hD d_X9_placeOfDigit_54
  · have hD := hD.2 q_9
    refine lv_iload_n X.1 X.2.1 d_X9_placeOfDigit_12 rfl (lv_at hl 1 rfl) ?_
    refine lv_if_lt (tgt := 53) X.1 X.2.1 d_X9_placeOfDigit_13 (by decide) (fun q_13 => ?_) (fun q_13 => ?_)
    · have hD := hD.1 q_13
      refine lv_iconst (v := (-1)) X.1 X.2.1 d_X9_placeOfDigit_53 (by decide) ?_
      exact g_iret X hr hlk hw hD d_X9_placeOfDigit_54
    · have hD := hD.2 q_13
      refine lv_aload_n X.1 X.2.1 d_X9_placeOfDigit_16 rfl (lv_at hl 0 rfl) ?_
      refine gf_9_0 X hw ho tb_30 d_X9_placeOfDigit_17 ?_
      refine lv_iload_n X.1 X.2.1 d_X9_placeOfDigit_20 rfl (lv_at hl 2 rfl) ?_
      obtain ⟨q_21, hD⟩ := hD
      refine g_iald X hw (ly_9_0 ho).1 (ly_9_0 ho).2 q_21 d_X9_placeOfDigit_21 ?_
      refine lv_bipush (v := 48) X.1 X.2.1 d_X9_placeOfDigit_22 (by decide) ?_
      refine lv_icmp_lt (tgt := 47) X.1 X.2.1 d_X9_placeOfDigit_24 (by decide) (fun q_24 => ?_) (fun q_24 => ?_)
      · have hD := hD.1 q_24
        exact s_X9_placeOfDigit_47 X hr hlk K4 Q o ho hK4 x2 x3 σ hw (lv_sub hl [0, 1, 2] rfl) hD
      · have hD := hD.2 q_24
        refine lv_aload_n X.1 X.2.1 d_X9_placeOfDigit_27 rfl (lv_at hl 0 rfl) ?_
        refine gf_9_0 X hw ho tb_30 d_X9_placeOfDigit_28 ?_
        refine lv_iload_n X.1 X.2.1 d_X9_placeOfDigit_31 rfl (lv_at hl 2 rfl) ?_
        obtain ⟨q_32, hD⟩ := hD
        refine g_iald X hw (ly_9_0 ho).1 (ly_9_0 ho).2 q_32 d_X9_placeOfDigit_32 ?_
        refine lv_bipush (v := 57) X.1 X.2.1 d_X9_placeOfDigit_33 (by decide) ?_
        refine lv_icmp_gt (tgt := 47) X.1 X.2.1 d_X9_placeOfDigit_35 (by decide) (fun q_35 => ?_) (fun q_35 => ?_)
        · have hD := hD.1 q_35
          exact s_X9_placeOfDigit_47 X hr hlk K4 Q o ho hK4 x2 x3 σ hw (lv_sub hl [0, 1, 2] rfl) hD
        · have hD := hD.2 q_35
          refine lv_iload_n X.1 X.2.1 d_X9_placeOfDigit_38 rfl (lv_at hl 1 rfl) ?_
          refine lv_if_ne (tgt := 44) X.1 X.2.1 d_X9_placeOfDigit_39 (by decide) (fun q_39 => ?_) (fun q_39 => ?_)
          · have hD := hD.1 q_39
            obtain ⟨x2_1, e_x2_1⟩ : ∃ y : Int32, y = x2 + (-1) := ⟨_, rfl⟩
            have hD := hD x2_1 e_x2_1
            refine lv_iinc (v := x2_1) (lv' := [(2, .int x2_1), (0, .ref (G.2.1 o)), (3, .int x3)]) X.1 X.2.1 d_X9_placeOfDigit_44 hl (k := 1) rfl (by rw [e_x2_1]; rfl) (by decide) rfl (fun ls hl => ?_)
            exact s_X9_placeOfDigit_47 X hr hlk K4 Q o ho hK4 x2_1 x3 σ hw (lv_sub hl [1, 0, 2] rfl) hD
          · have hD := hD.2 q_39
            refine lv_iload_n X.1 X.2.1 d_X9_placeOfDigit_42 rfl (lv_at hl 2 rfl) ?_
            exact g_iret X hr hlk hw hD d_X9_placeOfDigit_43
set_option maxRecDepth 20000 in
set_option maxHeartbeats 4000000 in
theorem sl_X9_placeOfDigit_4 {p : Program} {l : Launch} {e : Env} {s : State} {m : MethodId} {args : Array Value} {below : List Frame} {meth : Method} {c : Code} {G : GC} (X : CallFix p m c cm_X9_placeOfDigit 4 s args lw_us "GameLoom$Text") (hr : meth.sig.returnType = some .int) (hlk : meth.locks = false) (Q : Int32 → GSt → Prop) (o : Nat) (ho : kd o = 9) : ∀ (nn : Nat), ∀ (x2 : Int32) (x3 : Int32) (σ : GSt) (H : Heap) (locs : List Loc) (ls : Array Slot), Wo G s H locs σ → lv_has ls 4 [(0, .ref (G.2.1 o)), (2, .int x2), (3, .int x3)] → L_X9_placeOfDigit_4 Q o nn x2 x3 σ → W p l e rm_X9_placeOfDigit s m args below meth c H locs 0 0 (QMI G Q below args s) (F0 m 4 ls []) := by
  intro nn
  induction nn with
  | zero => intro x2 x3 σ H locs ls  hw hl hD; exact hD.elim
  | succ nn ih =>
    intro x2 x3 σ H locs ls  hw hl hD
    exact s_X9_placeOfDigit_4 X hr hlk (L_X9_placeOfDigit_4 Q o nn) Q o ho ih x2 x3 σ hw hl hD
set_option maxRecDepth 20000 in
set_option maxHeartbeats 4000000 in
theorem s_X9_placeOfDigit_0 {p : Program} {l : Launch} {e : Env} {s : State} {m : MethodId} {args : Array Value} {below : List Frame} {meth : Method} {c : Code} {G : GC} (X : CallFix p m c cm_X9_placeOfDigit 4 s args lw_us "GameLoom$Text") (hr : meth.sig.returnType = some .int) (hlk : meth.locks = false) (Q : Int32 → GSt → Prop) (o : Nat) (ho : kd o = 9) (x1 : Int32) (σ : GSt) {H : Heap} {locs : List Loc} {ls : Array Slot} (hw : Wo G s H locs σ) (hl : lv_has ls 4 [(0, .ref (G.2.1 o)), (1, .int x1)]) (hD : D_X9_placeOfDigit_0 Q o x1 σ) : W p l e rm_X9_placeOfDigit s m args below meth c H locs 0 0 (QMI G Q below args s) (F0 m 0 ls []) := by
  unfold D_X9_placeOfDigit_0 at hD
  refine lv_iload_n X.1 X.2.1 d_X9_placeOfDigit_0 rfl (lv_at hl 1 rfl) ?_
  refine lv_istore_n (lv' := [(2, .int x1), (0, .ref (G.2.1 o)), (1, .int x1)]) X.1 X.2.1 d_X9_placeOfDigit_1 rfl hl (by decide) rfl (fun ls hl => ?_)
  refine lv_iconst (v := 0) X.1 X.2.1 d_X9_placeOfDigit_2 (by decide) ?_
  refine lv_istore_n (lv' := [(3, .int 0), (2, .int x1), (0, .ref (G.2.1 o)), (1, .int x1)]) X.1 X.2.1 d_X9_placeOfDigit_3 rfl hl (by decide) rfl (fun ls hl => ?_)
  obtain ⟨n9, hD⟩ := hD
  exact sl_X9_placeOfDigit_4 X hr hlk  Q o ho  n9 x1 0 σ _ _ _  hw (lv_sub hl [2, 1, 0] rfl) hD
theorem c_X9_placeOfDigit (l : Launch) (G : GC) (o : Nat) (x1 : Int32) (σ : GSt) (Q : Int32 → GSt → Prop) (ho : kd o = 9) (hD : D_X9_placeOfDigit o x1 σ Q) : MI l ym_X9_placeOfDigit cm_X9_placeOfDigit 4 .int rm_X9_placeOfDigit G σ [.ref (G.2.1 o), .int x1] Q := by
  refine met_i (by decide) (Nat.le_of_ble_eq_true rfl) ?_
  intro p e s m args below meth c X hr hlk hw ls hl
  exact s_X9_placeOfDigit_0 X hr hlk Q o ho x1 σ hw (lv_sub hl [0, 1] rfl) hD
theorem hd_X10_refuse : ym_X10_refuse.cls = "GameLoom" ∧ ym_X10_refuse.cls ≠ "java/lang/invoke/MethodHandle" ∧ ym_X10_refuse.cls ≠ "java/lang/invoke/VarHandle" ∧ (parseMethodDescriptor ym_X10_refuse.desc).map (fun d => d.parameters.length) = some 1 := by decide +kernel
abbrev rm_X10_refuse : Room := { frames := 0, cells := 0, slots := 0, locals := 0 }
theorem d_X10_refuse_0 : decode cm_X10_refuse 0 = .ok (.aload_n 0, 1) := by decide +kernel
theorem d_X10_refuse_1 : decode cm_X10_refuse 1 = .ok (.getfield 77, 3) := by decide +kernel
theorem d_X10_refuse_4 : decode cm_X10_refuse 4 = .ok (.iload_n 1, 1) := by decide +kernel
theorem d_X10_refuse_5 : decode cm_X10_refuse 5 = .ok (.ineg, 1) := by decide +kernel
theorem d_X10_refuse_6 : decode cm_X10_refuse 6 = .ok (.dup2, 1) := by decide +kernel
theorem d_X10_refuse_7 : decode cm_X10_refuse 7 = .ok (.iaload, 1) := by decide +kernel
theorem d_X10_refuse_8 : decode cm_X10_refuse 8 = .ok (.iconst 1, 1) := by decide +kernel
theorem d_X10_refuse_9 : decode cm_X10_refuse 9 = .ok (.iadd, 1) := by decide +kernel
theorem d_X10_refuse_10 : decode cm_X10_refuse 10 = .ok (.iastore, 1) := by decide +kernel
theorem d_X10_refuse_11 : decode cm_X10_refuse 11 = .ok (.iload_n 1, 1) := by decide +kernel
theorem d_X10_refuse_12 : decode cm_X10_refuse 12 = .ok (.ireturn, 1) := by decide +kernel
def D_X10_refuse_0 (Q : Int32 → GSt → Prop) (x1 : Int32) (σ : GSt) : Prop :=
  vp_in (-x1) 7 ∧ (vp_in (-x1) 7 ∧ (∀ σ_1 : GSt, σ_1 = up2 σ 60 (Int32.toNatClampNeg (-x1)) ((σ 60 (Int32.toNatClampNeg (-x1))) + 1) → (Q x1 σ_1)))
def D_X10_refuse (x1 : Int32) (σ : GSt) (Q : Int32 → GSt → Prop) : Prop := D_X10_refuse_0 Q x1 σ
set_option maxRecDepth 20000 in
set_option maxHeartbeats 4000000 in
theorem s_X10_refuse_0 {p : Program} {l : Launch} {e : Env} {s : State} {m : MethodId} {args : Array Value} {below : List Frame} {meth : Method} {c : Code} {G : GC} (X : CallFix p m c cm_X10_refuse 2 s args lw_us "GameLoom") (hr : meth.sig.returnType = some .int) (hlk : meth.locks = false) (Q : Int32 → GSt → Prop) (x1 : Int32) (σ : GSt) {H : Heap} {locs : List Loc} {ls : Array Slot} (hw : Wo G s H locs σ) (hl : lv_has ls 2 [(0, .ref (G.2.1 0)), (1, .int x1)]) (hD : D_X10_refuse_0 Q x1 σ) : W p l e rm_X10_refuse s m args below meth c H locs 0 0 (QMI G Q below args s) (F0 m 0 ls []) := by
  unfold D_X10_refuse_0 at hD
  refine lv_aload_n X.1 X.2.1 d_X10_refuse_0 rfl (lv_at hl 0 rfl) ?_
  refine gf_10_13 X hw (by decide +kernel : kd 0 = 10) tb_386 d_X10_refuse_1 ?_
  refine lv_iload_n X.1 X.2.1 d_X10_refuse_4 rfl (lv_at hl 1 rfl) ?_
  refine lv_ineg X.1 X.2.1 d_X10_refuse_5 ?_
  refine lv_dup2_11 X.1 X.2.1 d_X10_refuse_6 rfl rfl ?_
  obtain ⟨q_7, hD⟩ := hD
  refine g_iald X hw ly_10_13.1 ly_10_13.2 q_7 d_X10_refuse_7 ?_
  refine lv_iconst (v := 1) X.1 X.2.1 d_X10_refuse_8 (by decide) ?_
  refine lv_iadd X.1 X.2.1 d_X10_refuse_9 ?_
  obtain ⟨q_10, hD⟩ := hD
  refine g_iast X hw ly_10_13.1 ly_10_13.2 q_10 d_X10_refuse_10 (fun H locs hw => ?_)
  obtain ⟨σ_1, e_σ_1⟩ : ∃ z : GSt, z = up2 σ 60 (Int32.toNatClampNeg (-x1)) ((σ 60 (Int32.toNatClampNeg (-x1))) + 1) := ⟨_, rfl⟩
  rw [← e_σ_1] at hw
  have hD := hD σ_1 e_σ_1
  refine lv_iload_n X.1 X.2.1 d_X10_refuse_11 rfl (lv_at hl 1 rfl) ?_
  exact g_iret X hr hlk hw hD d_X10_refuse_12
theorem c_X10_refuse (l : Launch) (G : GC) (x1 : Int32) (σ : GSt) (Q : Int32 → GSt → Prop)  (hD : D_X10_refuse x1 σ Q) : MI l ym_X10_refuse cm_X10_refuse 2 .int rm_X10_refuse G σ [.ref (G.2.1 0), .int x1] Q := by
  refine met_i (by decide) (Nat.le_of_ble_eq_true rfl) ?_
  intro p e s m args below meth c X hr hlk hw ls hl
  exact s_X10_refuse_0 X hr hlk Q  x1 σ hw (lv_sub hl [0, 1] rfl) hD
theorem hd_X10_feed : ym_X10_feed.cls = "GameLoom" ∧ ym_X10_feed.cls ≠ "java/lang/invoke/MethodHandle" ∧ ym_X10_feed.cls ≠ "java/lang/invoke/VarHandle" ∧ (parseMethodDescriptor ym_X10_feed.desc).map (fun d => d.parameters.length) = some 2 := by decide +kernel
abbrev rm_X10_feed : Room := { frames := 1, cells := 0, slots := 0, locals := 21 }
theorem d_X10_feed_0 : decode cm_X10_feed 0 = .ok (.iload_n 1, 1) := by decide +kernel
theorem d_X10_feed_1 : decode cm_X10_feed 1 = .ok (.iconst 1, 1) := by decide +kernel
theorem d_X10_feed_2 : decode cm_X10_feed 2 = .ok (.if_icmp .ge 10, 3) := by decide +kernel
theorem d_X10_feed_5 : decode cm_X10_feed 5 = .ok (.aload_n 0, 1) := by decide +kernel
theorem d_X10_feed_6 : decode cm_X10_feed 6 = .ok (.bipush (-4), 2) := by decide +kernel
theorem d_X10_feed_8 : decode cm_X10_feed 8 = .ok (.invokevirtual 80, 3) := by decide +kernel
theorem d_X10_feed_11 : decode cm_X10_feed 11 = .ok (.ireturn, 1) := by decide +kernel
theorem d_X10_feed_12 : decode cm_X10_feed 12 = .ok (.iload_n 1, 1) := by decide +kernel
theorem d_X10_feed_13 : decode cm_X10_feed 13 = .ok (.bipush 8, 2) := by decide +kernel
theorem d_X10_feed_15 : decode cm_X10_feed 15 = .ok (.if_icmp .gt 17, 3) := by decide +kernel
theorem d_X10_feed_18 : decode cm_X10_feed 18 = .ok (.aload_n 0, 1) := by decide +kernel
theorem d_X10_feed_19 : decode cm_X10_feed 19 = .ok (.getfield 10, 3) := by decide +kernel
theorem d_X10_feed_22 : decode cm_X10_feed 22 = .ok (.getfield 84, 3) := by decide +kernel
theorem d_X10_feed_25 : decode cm_X10_feed 25 = .ok (.iload_n 1, 1) := by decide +kernel
theorem d_X10_feed_26 : decode cm_X10_feed 26 = .ok (.iadd, 1) := by decide +kernel
theorem d_X10_feed_27 : decode cm_X10_feed 27 = .ok (.bipush 90, 2) := by decide +kernel
theorem d_X10_feed_29 : decode cm_X10_feed 29 = .ok (.if_icmp .le 10, 3) := by decide +kernel
theorem d_X10_feed_32 : decode cm_X10_feed 32 = .ok (.aload_n 0, 1) := by decide +kernel
theorem d_X10_feed_33 : decode cm_X10_feed 33 = .ok (.bipush (-6), 2) := by decide +kernel
theorem d_X10_feed_35 : decode cm_X10_feed 35 = .ok (.invokevirtual 80, 3) := by decide +kernel
theorem d_X10_feed_38 : decode cm_X10_feed 38 = .ok (.ireturn, 1) := by decide +kernel
theorem d_X10_feed_39 : decode cm_X10_feed 39 = .ok (.iconst 0, 1) := by decide +kernel
theorem d_X10_feed_40 : decode cm_X10_feed 40 = .ok (.istore 4, 2) := by decide +kernel
theorem d_X10_feed_42 : decode cm_X10_feed 42 = .ok (.iload 4, 2) := by decide +kernel
theorem d_X10_feed_44 : decode cm_X10_feed 44 = .ok (.iload_n 1, 1) := by decide +kernel
theorem d_X10_feed_45 : decode cm_X10_feed 45 = .ok (.if_icmp .ge 28, 3) := by decide +kernel
theorem d_X10_feed_48 : decode cm_X10_feed 48 = .ok (.aload_n 0, 1) := by decide +kernel
theorem d_X10_feed_49 : decode cm_X10_feed 49 = .ok (.getfield 10, 3) := by decide +kernel
theorem d_X10_feed_52 : decode cm_X10_feed 52 = .ok (.lload_n 2, 1) := by decide +kernel
theorem d_X10_feed_53 : decode cm_X10_feed 53 = .ok (.bipush 8, 2) := by decide +kernel
theorem d_X10_feed_55 : decode cm_X10_feed 55 = .ok (.iload 4, 2) := by decide +kernel
theorem d_X10_feed_57 : decode cm_X10_feed 57 = .ok (.imul, 1) := by decide +kernel
theorem d_X10_feed_58 : decode cm_X10_feed 58 = .ok (.lushr, 1) := by decide +kernel
theorem d_X10_feed_59 : decode cm_X10_feed 59 = .ok (.l2i, 1) := by decide +kernel
theorem d_X10_feed_60 : decode cm_X10_feed 60 = .ok (.sipush 255, 3) := by decide +kernel
theorem d_X10_feed_63 : decode cm_X10_feed 63 = .ok (.iand, 1) := by decide +kernel
theorem d_X10_feed_64 : decode cm_X10_feed 64 = .ok (.invokevirtual 88, 3) := by decide +kernel
theorem d_X10_feed_67 : decode cm_X10_feed 67 = .ok (.iinc 4 1, 3) := by decide +kernel
theorem d_X10_feed_70 : decode cm_X10_feed 70 = .ok (.goto (-28), 3) := by decide +kernel
theorem d_X10_feed_73 : decode cm_X10_feed 73 = .ok (.aload_n 0, 1) := by decide +kernel
theorem d_X10_feed_74 : decode cm_X10_feed 74 = .ok (.getfield 10, 3) := by decide +kernel
theorem d_X10_feed_77 : decode cm_X10_feed 77 = .ok (.getfield 84, 3) := by decide +kernel
theorem d_X10_feed_80 : decode cm_X10_feed 80 = .ok (.ireturn, 1) := by decide +kernel
def D_X10_feed_42 (K42 : Int32 → Int64 → Int32 → GSt → Prop) (Q : Int32 → GSt → Prop) (x1 : Int32) (l2 : Int64) (x4 : Int32) (σ : GSt) : Prop :=
  (x1 ≤ x4 → Q (σ 1 1) σ) ∧
  (¬ x1 ≤ x4 → D_X9_add 1 ((Int64.toInt32 (jlushr l2 (8 * x4))) &&& 255) σ (fun σ_1 => ∀ x4_2 : Int32, x4_2 = x4 + 1 → (K42 x1 l2 x4_2 σ_1)))
def L_X10_feed_42 (Q : Int32 → GSt → Prop) : Nat → Int32 → Int64 → Int32 → GSt → Prop
  | 0 => fun _ _ _ _ => False
  | n + 1 => fun x1 l2 x4 σ => D_X10_feed_42 (L_X10_feed_42 Q n) Q x1 l2 x4 σ
def D_X10_feed_32 (Q : Int32 → GSt → Prop) (σ : GSt) : Prop :=
  D_X10_refuse (-6) σ (fun r_1 σ_2 => Q r_1 σ_2)
def D_X10_feed_0 (Q : Int32 → GSt → Prop) (x1 : Int32) (l2 : Int64) (σ : GSt) : Prop :=
  (1 ≤ x1 → (8 < x1 → D_X10_feed_32 Q σ) ∧
  (¬ 8 < x1 → (((σ 1 1) + x1) ≤ 90 → ∃ n : Nat, L_X10_feed_42 Q n x1 l2 0 σ) ∧
  (¬ ((σ 1 1) + x1) ≤ 90 → D_X10_feed_32 Q σ))) ∧
  (¬ 1 ≤ x1 → D_X10_refuse (-4) σ (fun r_1 σ_2 => Q r_1 σ_2))
def D_X10_feed (x1 : Int32) (l2 : Int64) (σ : GSt) (Q : Int32 → GSt → Prop) : Prop := D_X10_feed_0 Q x1 l2 σ
set_option maxRecDepth 20000 in
set_option maxHeartbeats 4000000 in
theorem s_X10_feed_42 {p : Program} {l : Launch} {e : Env} {s : State} {m : MethodId} {args : Array Value} {below : List Frame} {meth : Method} {c : Code} {G : GC} (X : CallFix p m c cm_X10_feed 5 s args lw_us "GameLoom") (hr : meth.sig.returnType = some .int) (hlk : meth.locks = false) (K42 : Int32 → Int64 → Int32 → GSt → Prop) (Q : Int32 → GSt → Prop) (hK42 : ∀ (x1 : Int32) (l2 : Int64) (x4 : Int32) (σ : GSt) (H : Heap) (locs : List Loc) (ls : Array Slot), Wo G s H locs σ → lv_has ls 5 [(0, .ref (G.2.1 0)), (1, .int x1), (2, .long l2), (4, .int x4)] → K42 x1 l2 x4 σ → W p l e rm_X10_feed s m args below meth c H locs 0 0 (QMI G Q below args s) (F0 m 42 ls [])) (x1 : Int32) (l2 : Int64) (x4 : Int32) (σ : GSt) {H : Heap} {locs : List Loc} {ls : Array Slot} (hw : Wo G s H locs σ) (hl : lv_has ls 5 [(0, .ref (G.2.1 0)), (1, .int x1), (2, .long l2), (4, .int x4)]) (hD : D_X10_feed_42 K42 Q x1 l2 x4 σ) : W p l e rm_X10_feed s m args below meth c H locs 0 0 (QMI G Q below args s) (F0 m 42 ls []) := by
  unfold D_X10_feed_42 at hD
  refine lv_iload X.1 X.2.1 d_X10_feed_42 (lv_at hl 3 rfl) ?_
  refine lv_iload_n X.1 X.2.1 d_X10_feed_44 rfl (lv_at hl 1 rfl) ?_
  refine lv_icmp_ge (tgt := 73) X.1 X.2.1 d_X10_feed_45 (by decide) (fun q_45 => ?_) (fun q_45 => ?_)
  · have hD := hD.1 q_45
    refine lv_aload_n X.1 X.2.1 d_X10_feed_73 rfl (lv_at hl 0 rfl) ?_
    refine gf_10_0 X hw (by decide +kernel : kd 0 = 10) tb_373 d_X10_feed_74 ?_
    refine gf_9_1 X hw ly_10_0 tb_33 d_X10_feed_77 ?_
    exact g_iret X hr hlk hw hD d_X10_feed_80
  · have hD := hD.2 q_45
    refine lv_aload_n X.1 X.2.1 d_X10_feed_48 rfl (lv_at hl 0 rfl) ?_
    refine gf_10_0 X hw (by decide +kernel : kd 0 = 10) tb_373 d_X10_feed_49 ?_
    refine lv_lload_n X.1 X.2.1 d_X10_feed_52 rfl (lv_at hl 2 rfl) ?_
    refine lv_bipush (v := 8) X.1 X.2.1 d_X10_feed_53 (by decide) ?_
    refine lv_iload X.1 X.2.1 d_X10_feed_55 (lv_at hl 3 rfl) ?_
    refine lv_imul X.1 X.2.1 d_X10_feed_57 ?_
    refine lv_lushr (v := (jlushr l2 (8 * x4))) X.1 X.2.1 d_X10_feed_58 rfl ?_
    refine lv_l2i (v := (Int64.toInt32 (jlushr l2 (8 * x4)))) X.1 X.2.1 d_X10_feed_59 rfl ?_
    refine lv_sipush (v := 255) X.1 X.2.1 d_X10_feed_60 (by decide) ?_
    refine lv_iand X.1 X.2.1 d_X10_feed_63 ?_
    refine gcV_v (rest := []) (As := [.int ((Int64.toInt32 (jlushr l2 (8 * x4))) &&& 255)]) (o := 1) X hw (c_X9_add l G 1 ((Int64.toInt32 (jlushr l2 (8 * x4))) &&& 255) σ _ ly_10_0 hD) (kd_lt ly_10_0 (by decide)) (ce_9 G _ ly_10_0) rfl tb_424 tb_425 tb_426 tb_2 tb_427 hd_X9_add ⟨rfl, rfl⟩ ⟨Nat.le_of_ble_eq_true rfl, Nat.le_of_ble_eq_true rfl⟩ rfl hl.1 rfl (Nat.le_of_ble_eq_true rfl) d_X10_feed_64 (fun σ_1 H locs hD hw => ?_)
    obtain ⟨x4_2, e_x4_2⟩ : ∃ y : Int32, y = x4 + 1 := ⟨_, rfl⟩
    have hD := hD x4_2 e_x4_2
    refine lv_iinc (v := x4_2) (lv' := [(4, .int x4_2), (0, .ref (G.2.1 0)), (1, .int x1), (2, .long l2)]) X.1 X.2.1 d_X10_feed_67 hl (k := 3) rfl (by rw [e_x4_2]; rfl) (by decide) rfl (fun ls hl => ?_)
    refine lv_goto (tgt := 42) X.1 X.2.1 d_X10_feed_70 (by decide) ?_
    exact hK42 x1 l2 x4_2 σ_1 _ _ _  hw (lv_sub hl [1, 2, 3, 0] rfl) hD
set_option maxRecDepth 20000 in
set_option maxHeartbeats 4000000 in
theorem sl_X10_feed_42 {p : Program} {l : Launch} {e : Env} {s : State} {m : MethodId} {args : Array Value} {below : List Frame} {meth : Method} {c : Code} {G : GC} (X : CallFix p m c cm_X10_feed 5 s args lw_us "GameLoom") (hr : meth.sig.returnType = some .int) (hlk : meth.locks = false) (Q : Int32 → GSt → Prop) : ∀ (nn : Nat), ∀ (x1 : Int32) (l2 : Int64) (x4 : Int32) (σ : GSt) (H : Heap) (locs : List Loc) (ls : Array Slot), Wo G s H locs σ → lv_has ls 5 [(0, .ref (G.2.1 0)), (1, .int x1), (2, .long l2), (4, .int x4)] → L_X10_feed_42 Q nn x1 l2 x4 σ → W p l e rm_X10_feed s m args below meth c H locs 0 0 (QMI G Q below args s) (F0 m 42 ls []) := by
  intro nn
  induction nn with
  | zero => intro x1 l2 x4 σ H locs ls  hw hl hD; exact hD.elim
  | succ nn ih =>
    intro x1 l2 x4 σ H locs ls  hw hl hD
    exact s_X10_feed_42 X hr hlk (L_X10_feed_42 Q nn) Q ih x1 l2 x4 σ hw hl hD
set_option maxRecDepth 20000 in
set_option maxHeartbeats 4000000 in
theorem s_X10_feed_32 {p : Program} {l : Launch} {e : Env} {s : State} {m : MethodId} {args : Array Value} {below : List Frame} {meth : Method} {c : Code} {G : GC} (X : CallFix p m c cm_X10_feed 5 s args lw_us "GameLoom") (hr : meth.sig.returnType = some .int) (hlk : meth.locks = false) (Q : Int32 → GSt → Prop) (σ : GSt) {H : Heap} {locs : List Loc} {ls : Array Slot} (hw : Wo G s H locs σ) (hl : lv_has ls 5 [(0, .ref (G.2.1 0))]) (hD : D_X10_feed_32 Q σ) : W p l e rm_X10_feed s m args below meth c H locs 0 0 (QMI G Q below args s) (F0 m 32 ls []) := by
  unfold D_X10_feed_32 at hD
  refine lv_aload_n X.1 X.2.1 d_X10_feed_32 rfl (lv_at hl 0 rfl) ?_
  refine lv_bipush (v := (-6)) X.1 X.2.1 d_X10_feed_33 (by decide) ?_
  refine gcV_i (rest := []) (As := [.int (-6)]) (o := 0) X hw (c_X10_refuse l G (-6) σ _  hD) (kd_lt (by decide +kernel : kd 0 = 10) (by decide)) (ce_10 G _ (by decide +kernel : kd 0 = 10)) rfl tb_420 tb_422 tv_0 tb_1 tb_423 hd_X10_refuse ⟨rfl, rfl⟩ ⟨Nat.le_of_ble_eq_true rfl, Nat.le_of_ble_eq_true rfl⟩ rfl hl.1 rfl (Nat.le_of_ble_eq_true rfl) d_X10_feed_35 (fun r_1 σ_2 H locs hD hw => ?_)
  exact g_iret X hr hlk hw hD d_X10_feed_38
set_option maxRecDepth 20000 in
set_option maxHeartbeats 4000000 in
theorem s_X10_feed_0 {p : Program} {l : Launch} {e : Env} {s : State} {m : MethodId} {args : Array Value} {below : List Frame} {meth : Method} {c : Code} {G : GC} (X : CallFix p m c cm_X10_feed 5 s args lw_us "GameLoom") (hr : meth.sig.returnType = some .int) (hlk : meth.locks = false) (Q : Int32 → GSt → Prop) (x1 : Int32) (l2 : Int64) (σ : GSt) {H : Heap} {locs : List Loc} {ls : Array Slot} (hw : Wo G s H locs σ) (hl : lv_has ls 5 [(0, .ref (G.2.1 0)), (1, .int x1), (2, .long l2)]) (hD : D_X10_feed_0 Q x1 l2 σ) : W p l e rm_X10_feed s m args below meth c H locs 0 0 (QMI G Q below args s) (F0 m 0 ls []) := by
  unfold D_X10_feed_0 at hD
  refine lv_iload_n X.1 X.2.1 d_X10_feed_0 rfl (lv_at hl 1 rfl) ?_
  refine lv_iconst (v := 1) X.1 X.2.1 d_X10_feed_1 (by decide) ?_
  refine lv_icmp_ge (tgt := 12) X.1 X.2.1 d_X10_feed_2 (by decide) (fun q_2 => ?_) (fun q_2 => ?_)
  · have hD := hD.1 q_2
    refine lv_iload_n X.1 X.2.1 d_X10_feed_12 rfl (lv_at hl 1 rfl) ?_
    refine lv_bipush (v := 8) X.1 X.2.1 d_X10_feed_13 (by decide) ?_
    refine lv_icmp_gt (tgt := 32) X.1 X.2.1 d_X10_feed_15 (by decide) (fun q_15 => ?_) (fun q_15 => ?_)
    · have hD := hD.1 q_15
      exact s_X10_feed_32 X hr hlk  Q   σ hw (lv_sub hl [0] rfl) hD
    · have hD := hD.2 q_15
      refine lv_aload_n X.1 X.2.1 d_X10_feed_18 rfl (lv_at hl 0 rfl) ?_
      refine gf_10_0 X hw (by decide +kernel : kd 0 = 10) tb_373 d_X10_feed_19 ?_
      refine gf_9_1 X hw ly_10_0 tb_33 d_X10_feed_22 ?_
      refine lv_iload_n X.1 X.2.1 d_X10_feed_25 rfl (lv_at hl 1 rfl) ?_
      refine lv_iadd X.1 X.2.1 d_X10_feed_26 ?_
      refine lv_bipush (v := 90) X.1 X.2.1 d_X10_feed_27 (by decide) ?_
      refine lv_icmp_le (tgt := 39) X.1 X.2.1 d_X10_feed_29 (by decide) (fun q_29 => ?_) (fun q_29 => ?_)
      · have hD := hD.1 q_29
        refine lv_iconst (v := 0) X.1 X.2.1 d_X10_feed_39 (by decide) ?_
        refine lv_istore (lv' := [(4, .int 0), (0, .ref (G.2.1 0)), (1, .int x1), (2, .long l2)]) X.1 X.2.1 d_X10_feed_40 hl (by decide) rfl (fun ls hl => ?_)
        obtain ⟨n9, hD⟩ := hD
        exact sl_X10_feed_42 X hr hlk  Q  n9 x1 l2 0 σ _ _ _  hw (lv_sub hl [1, 2, 3, 0] rfl) hD
      · have hD := hD.2 q_29
        exact s_X10_feed_32 X hr hlk  Q   σ hw (lv_sub hl [0] rfl) hD
  · have hD := hD.2 q_2
    refine lv_aload_n X.1 X.2.1 d_X10_feed_5 rfl (lv_at hl 0 rfl) ?_
    refine lv_bipush (v := (-4)) X.1 X.2.1 d_X10_feed_6 (by decide) ?_
    refine gcV_i (rest := []) (As := [.int (-4)]) (o := 0) X hw (c_X10_refuse l G (-4) σ _  hD) (kd_lt (by decide +kernel : kd 0 = 10) (by decide)) (ce_10 G _ (by decide +kernel : kd 0 = 10)) rfl tb_420 tb_422 tv_0 tb_1 tb_423 hd_X10_refuse ⟨rfl, rfl⟩ ⟨Nat.le_of_ble_eq_true rfl, Nat.le_of_ble_eq_true rfl⟩ rfl hl.1 rfl (Nat.le_of_ble_eq_true rfl) d_X10_feed_8 (fun r_1 σ_2 H locs hD hw => ?_)
    exact g_iret X hr hlk hw hD d_X10_feed_11
theorem c_X10_feed (l : Launch) (G : GC) (x1 : Int32) (l2 : Int64) (σ : GSt) (Q : Int32 → GSt → Prop)  (hD : D_X10_feed x1 l2 σ Q) : MI l ym_X10_feed cm_X10_feed 5 .int rm_X10_feed G σ [.ref (G.2.1 0), .int x1, .long l2] Q := by
  refine met_i (by decide) (Nat.le_of_ble_eq_true rfl) ?_
  intro p e s m args below meth c X hr hlk hw ls hl
  exact s_X10_feed_0 X hr hlk Q  x1 l2 σ hw (lv_sub hl [0, 1, 2] rfl) hD
theorem hd_X10_admit : ym_X10_admit.cls = "GameLoom" ∧ ym_X10_admit.cls ≠ "java/lang/invoke/MethodHandle" ∧ ym_X10_admit.cls ≠ "java/lang/invoke/VarHandle" ∧ (parseMethodDescriptor ym_X10_admit.desc).map (fun d => d.parameters.length) = some 1 := by decide +kernel
abbrev rm_X10_admit : Room := { frames := 6, cells := 0, slots := 0, locals := 133 }
theorem d_X10_admit_0 : decode cm_X10_admit 0 = .ok (.aload_n 0, 1) := by decide +kernel
theorem d_X10_admit_1 : decode cm_X10_admit 1 = .ok (.getfield 22, 3) := by decide +kernel
theorem d_X10_admit_4 : decode cm_X10_admit 4 = .ok (.aload_n 1, 1) := by decide +kernel
theorem d_X10_admit_5 : decode cm_X10_admit 5 = .ok (.aload_n 0, 1) := by decide +kernel
theorem d_X10_admit_6 : decode cm_X10_admit 6 = .ok (.getfield 28, 3) := by decide +kernel
theorem d_X10_admit_9 : decode cm_X10_admit 9 = .ok (.aload_n 0, 1) := by decide +kernel
theorem d_X10_admit_10 : decode cm_X10_admit 10 = .ok (.getfield 92, 3) := by decide +kernel
theorem d_X10_admit_13 : decode cm_X10_admit 13 = .ok (.aaload, 1) := by decide +kernel
theorem d_X10_admit_14 : decode cm_X10_admit 14 = .ok (.invokevirtual 244, 3) := by decide +kernel
theorem d_X10_admit_17 : decode cm_X10_admit 17 = .ok (.istore_n 2, 1) := by decide +kernel
theorem d_X10_admit_18 : decode cm_X10_admit 18 = .ok (.iload_n 2, 1) := by decide +kernel
theorem d_X10_admit_19 : decode cm_X10_admit 19 = .ok (.ifCond .lt 8, 3) := by decide +kernel
theorem d_X10_admit_22 : decode cm_X10_admit 22 = .ok (.bipush (-20), 2) := by decide +kernel
theorem d_X10_admit_24 : decode cm_X10_admit 24 = .ok (.iload_n 2, 1) := by decide +kernel
theorem d_X10_admit_25 : decode cm_X10_admit 25 = .ok (.isub, 1) := by decide +kernel
theorem d_X10_admit_26 : decode cm_X10_admit 26 = .ok (.ireturn, 1) := by decide +kernel
theorem d_X10_admit_27 : decode cm_X10_admit 27 = .ok (.aload_n 0, 1) := by decide +kernel
theorem d_X10_admit_28 : decode cm_X10_admit 28 = .ok (.dup, 1) := by decide +kernel
theorem d_X10_admit_29 : decode cm_X10_admit 29 = .ok (.getfield 92, 3) := by decide +kernel
theorem d_X10_admit_32 : decode cm_X10_admit 32 = .ok (.iconst 1, 1) := by decide +kernel
theorem d_X10_admit_33 : decode cm_X10_admit 33 = .ok (.iadd, 1) := by decide +kernel
theorem d_X10_admit_34 : decode cm_X10_admit 34 = .ok (.putfield 92, 3) := by decide +kernel
theorem d_X10_admit_37 : decode cm_X10_admit 37 = .ok (.aload_n 0, 1) := by decide +kernel
theorem d_X10_admit_38 : decode cm_X10_admit 38 = .ok (.getfield 92, 3) := by decide +kernel
theorem d_X10_admit_41 : decode cm_X10_admit 41 = .ok (.iconst 1, 1) := by decide +kernel
theorem d_X10_admit_42 : decode cm_X10_admit 42 = .ok (.isub, 1) := by decide +kernel
theorem d_X10_admit_43 : decode cm_X10_admit 43 = .ok (.ireturn, 1) := by decide +kernel
def D_X10_admit_0 (Q : Int32 → GSt → Prop) (r1 : Nat) (σ : GSt) : Prop :=
  vp_in (σ 0 4) 8 ∧ (D_X6_read r1 (61 + 22 * Int32.toNatClampNeg (σ 0 4)) σ (fun r_1 σ_2 => (r_1 < 0 → ∀ σ_3 : GSt, σ_3 = up2 σ_2 0 4 ((σ_2 0 4) + 1) → (Q ((σ_3 0 4) - 1) σ_3)) ∧
  (¬ r_1 < 0 → Q ((-20) - r_1) σ_2)))
def D_X10_admit (r1 : Nat) (σ : GSt) (Q : Int32 → GSt → Prop) : Prop := D_X10_admit_0 Q r1 σ
set_option maxRecDepth 20000 in
set_option maxHeartbeats 4000000 in
theorem s_X10_admit_0 {p : Program} {l : Launch} {e : Env} {s : State} {m : MethodId} {args : Array Value} {below : List Frame} {meth : Method} {c : Code} {G : GC} (X : CallFix p m c cm_X10_admit 3 s args lw_us "GameLoom") (hr : meth.sig.returnType = some .int) (hlk : meth.locks = false) (Q : Int32 → GSt → Prop) (r1 : Nat) (hk1 : kd r1 = 9) (σ : GSt) {H : Heap} {locs : List Loc} {ls : Array Slot} (hw : Wo G s H locs σ) (hl : lv_has ls 3 [(0, .ref (G.2.1 0)), (1, .ref (G.2.1 r1))]) (hD : D_X10_admit_0 Q r1 σ) : W p l e rm_X10_admit s m args below meth c H locs 0 0 (QMI G Q below args s) (F0 m 0 ls []) := by
  unfold D_X10_admit_0 at hD
  refine lv_aload_n X.1 X.2.1 d_X10_admit_0 rfl (lv_at hl 0 rfl) ?_
  refine gf_10_2 X hw (by decide +kernel : kd 0 = 10) tb_375 d_X10_admit_1 ?_
  refine lv_aload_n X.1 X.2.1 d_X10_admit_4 rfl (lv_at hl 1 rfl) ?_
  refine lv_aload_n X.1 X.2.1 d_X10_admit_5 rfl (lv_at hl 0 rfl) ?_
  refine gf_10_3 X hw (by decide +kernel : kd 0 = 10) tb_376 d_X10_admit_6 ?_
  refine lv_aload_n X.1 X.2.1 d_X10_admit_9 rfl (lv_at hl 0 rfl) ?_
  refine gf_10_4 X hw (by decide +kernel : kd 0 = 10) tb_377 d_X10_admit_10 ?_
  obtain ⟨q_13, hD⟩ := hD
  refine g_aald14 X hw ly_10_3.1 q_13 d_X10_admit_13 ?_
  refine gcV_i (rest := []) (As := [.ref (G.2.1 r1), .ref (G.2.1 (61 + 22 * Int32.toNatClampNeg (σ 0 4)))]) (o := 5) X hw (c_X6_read l G r1 (61 + 22 * Int32.toNatClampNeg (σ 0 4)) σ _ hk1 (le_14 ly_10_3.1 q_13) hD) (kd_lt ly_10_2 (by decide)) (ce_6 G _ ly_10_2) rfl tb_436 tb_437 tb_438 tb_3 tb_439 hd_X6_read ⟨rfl, rfl⟩ ⟨Nat.le_of_ble_eq_true rfl, Nat.le_of_ble_eq_true rfl⟩ rfl hl.1 rfl (Nat.le_of_ble_eq_true rfl) d_X10_admit_14 (fun r_1 σ_2 H locs hD hw => ?_)
  refine lv_istore_n (lv' := [(2, .int r_1), (0, .ref (G.2.1 0)), (1, .ref (G.2.1 r1))]) X.1 X.2.1 d_X10_admit_17 rfl hl (by decide) rfl (fun ls hl => ?_)
  refine lv_iload_n X.1 X.2.1 d_X10_admit_18 rfl (lv_at hl 0 rfl) ?_
  refine lv_if_lt (tgt := 27) X.1 X.2.1 d_X10_admit_19 (by decide) (fun q_19 => ?_) (fun q_19 => ?_)
  · have hD := hD.1 q_19
    refine lv_aload_n X.1 X.2.1 d_X10_admit_27 rfl (lv_at hl 1 rfl) ?_
    refine lv_dup X.1 X.2.1 d_X10_admit_28 rfl ?_
    refine gf_10_4 X hw (by decide +kernel : kd 0 = 10) tb_377 d_X10_admit_29 ?_
    refine lv_iconst (v := 1) X.1 X.2.1 d_X10_admit_32 (by decide) ?_
    refine lv_iadd X.1 X.2.1 d_X10_admit_33 ?_
    refine pf_10_4 X hw (by decide +kernel : kd 0 = 10) tb_377 d_X10_admit_34 (fun H locs hw => ?_)
    obtain ⟨σ_3, e_σ_3⟩ : ∃ z : GSt, z = up2 σ_2 0 4 ((σ_2 0 4) + 1) := ⟨_, rfl⟩
    rw [← e_σ_3] at hw
    have hD := hD σ_3 e_σ_3
    refine lv_aload_n X.1 X.2.1 d_X10_admit_37 rfl (lv_at hl 1 rfl) ?_
    refine gf_10_4 X hw (by decide +kernel : kd 0 = 10) tb_377 d_X10_admit_38 ?_
    refine lv_iconst (v := 1) X.1 X.2.1 d_X10_admit_41 (by decide) ?_
    refine lv_isub X.1 X.2.1 d_X10_admit_42 ?_
    exact g_iret X hr hlk hw hD d_X10_admit_43
  · have hD := hD.2 q_19
    refine lv_bipush (v := (-20)) X.1 X.2.1 d_X10_admit_22 (by decide) ?_
    refine lv_iload_n X.1 X.2.1 d_X10_admit_24 rfl (lv_at hl 0 rfl) ?_
    refine lv_isub X.1 X.2.1 d_X10_admit_25 ?_
    exact g_iret X hr hlk hw hD d_X10_admit_26
theorem c_X10_admit (l : Launch) (G : GC) (r1 : Nat) (σ : GSt) (Q : Int32 → GSt → Prop) (hr1 : kd r1 = 9) (hD : D_X10_admit r1 σ Q) : MI l ym_X10_admit cm_X10_admit 3 .int rm_X10_admit G σ [.ref (G.2.1 0), .ref (G.2.1 r1)] Q := by
  refine met_i (by decide) (Nat.le_of_ble_eq_true rfl) ?_
  intro p e s m args below meth c X hr hlk hw ls hl
  exact s_X10_admit_0 X hr hlk Q  r1 hr1 σ hw (lv_sub hl [0, 1] rfl) hD
theorem hd_X10_game : ym_X10_game.cls = "GameLoom" ∧ ym_X10_game.cls ≠ "java/lang/invoke/MethodHandle" ∧ ym_X10_game.cls ≠ "java/lang/invoke/VarHandle" ∧ (parseMethodDescriptor ym_X10_game.desc).map (fun d => d.parameters.length) = some 0 := by decide +kernel
abbrev rm_X10_game : Room := { frames := 7, cells := 0, slots := 0, locals := 155 }
theorem d_X10_game_0 : decode cm_X10_game 0 = .ok (.aload_n 0, 1) := by decide +kernel
theorem d_X10_game_1 : decode cm_X10_game 1 = .ok (.getfield 92, 3) := by decide +kernel
theorem d_X10_game_4 : decode cm_X10_game 4 = .ok (.bipush 8, 2) := by decide +kernel
theorem d_X10_game_6 : decode cm_X10_game 6 = .ok (.if_icmp .lt 10, 3) := by decide +kernel
theorem d_X10_game_9 : decode cm_X10_game 9 = .ok (.aload_n 0, 1) := by decide +kernel
theorem d_X10_game_10 : decode cm_X10_game 10 = .ok (.bipush (-6), 2) := by decide +kernel
theorem d_X10_game_12 : decode cm_X10_game 12 = .ok (.invokevirtual 80, 3) := by decide +kernel
theorem d_X10_game_15 : decode cm_X10_game 15 = .ok (.ireturn, 1) := by decide +kernel
theorem d_X10_game_16 : decode cm_X10_game 16 = .ok (.aload_n 0, 1) := by decide +kernel
theorem d_X10_game_17 : decode cm_X10_game 17 = .ok (.aload_n 0, 1) := by decide +kernel
theorem d_X10_game_18 : decode cm_X10_game 18 = .ok (.getfield 10, 3) := by decide +kernel
theorem d_X10_game_21 : decode cm_X10_game 21 = .ok (.invokevirtual 95, 3) := by decide +kernel
theorem d_X10_game_24 : decode cm_X10_game 24 = .ok (.istore_n 1, 1) := by decide +kernel
theorem d_X10_game_25 : decode cm_X10_game 25 = .ok (.aload_n 0, 1) := by decide +kernel
theorem d_X10_game_26 : decode cm_X10_game 26 = .ok (.getfield 10, 3) := by decide +kernel
theorem d_X10_game_29 : decode cm_X10_game 29 = .ok (.iconst 0, 1) := by decide +kernel
theorem d_X10_game_30 : decode cm_X10_game 30 = .ok (.putfield 84, 3) := by decide +kernel
theorem d_X10_game_33 : decode cm_X10_game 33 = .ok (.iload_n 1, 1) := by decide +kernel
theorem d_X10_game_34 : decode cm_X10_game 34 = .ok (.ireturn, 1) := by decide +kernel
def D_X10_game_0 (Q : Int32 → GSt → Prop) (σ : GSt) : Prop :=
  ((σ 0 4) < 8 → D_X10_admit 1 σ (fun r_1 σ_2 => ∀ σ_3 : GSt, σ_3 = up2 σ_2 1 1 0 → (Q r_1 σ_3))) ∧
  (¬ (σ 0 4) < 8 → D_X10_refuse (-6) σ (fun r_4 σ_5 => Q r_4 σ_5))
def D_X10_game (σ : GSt) (Q : Int32 → GSt → Prop) : Prop := D_X10_game_0 Q σ
set_option maxRecDepth 20000 in
set_option maxHeartbeats 4000000 in
theorem s_X10_game_0 {p : Program} {l : Launch} {e : Env} {s : State} {m : MethodId} {args : Array Value} {below : List Frame} {meth : Method} {c : Code} {G : GC} (X : CallFix p m c cm_X10_game 2 s args lw_us "GameLoom") (hr : meth.sig.returnType = some .int) (hlk : meth.locks = false) (Q : Int32 → GSt → Prop) (σ : GSt) {H : Heap} {locs : List Loc} {ls : Array Slot} (hw : Wo G s H locs σ) (hl : lv_has ls 2 [(0, .ref (G.2.1 0))]) (hD : D_X10_game_0 Q σ) : W p l e rm_X10_game s m args below meth c H locs 0 0 (QMI G Q below args s) (F0 m 0 ls []) := by
  unfold D_X10_game_0 at hD
  refine lv_aload_n X.1 X.2.1 d_X10_game_0 rfl (lv_at hl 0 rfl) ?_
  refine gf_10_4 X hw (by decide +kernel : kd 0 = 10) tb_377 d_X10_game_1 ?_
  refine lv_bipush (v := 8) X.1 X.2.1 d_X10_game_4 (by decide) ?_
  refine lv_icmp_lt (tgt := 16) X.1 X.2.1 d_X10_game_6 (by decide) (fun q_6 => ?_) (fun q_6 => ?_)
  · have hD := hD.1 q_6
    refine lv_aload_n X.1 X.2.1 d_X10_game_16 rfl (lv_at hl 0 rfl) ?_
    refine lv_aload_n X.1 X.2.1 d_X10_game_17 rfl (lv_at hl 0 rfl) ?_
    refine gf_10_0 X hw (by decide +kernel : kd 0 = 10) tb_373 d_X10_game_18 ?_
    refine gcV_i (rest := []) (As := [.ref (G.2.1 1)]) (o := 0) X hw (c_X10_admit l G 1 σ _ ly_10_0 hD) (kd_lt (by decide +kernel : kd 0 = 10) (by decide)) (ce_10 G _ (by decide +kernel : kd 0 = 10)) rfl tb_432 tb_434 tv_1 tb_1 tb_435 hd_X10_admit ⟨rfl, rfl⟩ ⟨Nat.le_of_ble_eq_true rfl, Nat.le_of_ble_eq_true rfl⟩ rfl hl.1 rfl (Nat.le_of_ble_eq_true rfl) d_X10_game_21 (fun r_1 σ_2 H locs hD hw => ?_)
    refine lv_istore_n (lv' := [(1, .int r_1), (0, .ref (G.2.1 0))]) X.1 X.2.1 d_X10_game_24 rfl hl (by decide) rfl (fun ls hl => ?_)
    refine lv_aload_n X.1 X.2.1 d_X10_game_25 rfl (lv_at hl 1 rfl) ?_
    refine gf_10_0 X hw (by decide +kernel : kd 0 = 10) tb_373 d_X10_game_26 ?_
    refine lv_iconst (v := 0) X.1 X.2.1 d_X10_game_29 (by decide) ?_
    refine pf_9_1 X hw ly_10_0 tb_33 d_X10_game_30 (fun H locs hw => ?_)
    obtain ⟨σ_3, e_σ_3⟩ : ∃ z : GSt, z = up2 σ_2 1 1 0 := ⟨_, rfl⟩
    rw [← e_σ_3] at hw
    have hD := hD σ_3 e_σ_3
    refine lv_iload_n X.1 X.2.1 d_X10_game_33 rfl (lv_at hl 0 rfl) ?_
    exact g_iret X hr hlk hw hD d_X10_game_34
  · have hD := hD.2 q_6
    refine lv_aload_n X.1 X.2.1 d_X10_game_9 rfl (lv_at hl 0 rfl) ?_
    refine lv_bipush (v := (-6)) X.1 X.2.1 d_X10_game_10 (by decide) ?_
    refine gcV_i (rest := []) (As := [.int (-6)]) (o := 0) X hw (c_X10_refuse l G (-6) σ _  hD) (kd_lt (by decide +kernel : kd 0 = 10) (by decide)) (ce_10 G _ (by decide +kernel : kd 0 = 10)) rfl tb_420 tb_422 tv_0 tb_1 tb_423 hd_X10_refuse ⟨rfl, rfl⟩ ⟨Nat.le_of_ble_eq_true rfl, Nat.le_of_ble_eq_true rfl⟩ rfl hl.1 rfl (Nat.le_of_ble_eq_true rfl) d_X10_game_12 (fun r_4 σ_5 H locs hD hw => ?_)
    exact g_iret X hr hlk hw hD d_X10_game_15
theorem c_X10_game (l : Launch) (G : GC) (σ : GSt) (Q : Int32 → GSt → Prop)  (hD : D_X10_game  σ Q) : MI l ym_X10_game cm_X10_game 2 .int rm_X10_game G σ [.ref (G.2.1 0)] Q := by
  refine met_i (by decide) (Nat.le_of_ble_eq_true rfl) ?_
  intro p e s m args below meth c X hr hlk hw ls hl
  exact s_X10_game_0 X hr hlk Q   σ hw (lv_sub hl [0] rfl) hD
