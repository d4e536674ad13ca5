theorem hd_X10_keep : ym_X10_keep.cls = "GameLoom" ∧ ym_X10_keep.cls ≠ "java/lang/invoke/MethodHandle" ∧ ym_X10_keep.cls ≠ "java/lang/invoke/VarHandle" ∧ (parseMethodDescriptor ym_X10_keep.desc).map (fun d => d.parameters.length) = some 2 := by decide +kernel
abbrev rm_X10_keep : Room := { frames := 16, cells := 0, slots := 0, locals := 420 }
theorem d_X10_keep_0 : decode cm_X10_keep 0 = .ok (.aload_n 0, 1) := by decide +kernel
theorem d_X10_keep_1 : decode cm_X10_keep 1 = .ok (.iload_n 1, 1) := by decide +kernel
theorem d_X10_keep_2 : decode cm_X10_keep 2 = .ok (.invokevirtual 99, 3) := by decide +kernel
theorem d_X10_keep_5 : decode cm_X10_keep 5 = .ok (.ifCond .eq 9, 3) := by decide +kernel
theorem d_X10_keep_8 : decode cm_X10_keep 8 = .ok (.aload_n 0, 1) := by decide +kernel
theorem d_X10_keep_9 : decode cm_X10_keep 9 = .ok (.iconst (-1), 1) := by decide +kernel
theorem d_X10_keep_10 : decode cm_X10_keep 10 = .ok (.invokevirtual 80, 3) := by decide +kernel
theorem d_X10_keep_13 : decode cm_X10_keep 13 = .ok (.ireturn, 1) := by decide +kernel
theorem d_X10_keep_14 : decode cm_X10_keep 14 = .ok (.aload_n 0, 1) := by decide +kernel
theorem d_X10_keep_15 : decode cm_X10_keep 15 = .ok (.getfield 28, 3) := by decide +kernel
theorem d_X10_keep_18 : decode cm_X10_keep 18 = .ok (.iload_n 1, 1) := by decide +kernel
theorem d_X10_keep_19 : decode cm_X10_keep 19 = .ok (.aaload, 1) := by decide +kernel
theorem d_X10_keep_20 : decode cm_X10_keep 20 = .ok (.getfield 103, 3) := by decide +kernel
theorem d_X10_keep_23 : decode cm_X10_keep 23 = .ok (.getfield 195, 3) := by decide +kernel
theorem d_X10_keep_26 : decode cm_X10_keep 26 = .ok (.istore_n 3, 1) := by decide +kernel
theorem d_X10_keep_27 : decode cm_X10_keep 27 = .ok (.aload_n 0, 1) := by decide +kernel
theorem d_X10_keep_28 : decode cm_X10_keep 28 = .ok (.getfield 49, 3) := by decide +kernel
theorem d_X10_keep_31 : decode cm_X10_keep 31 = .ok (.aload_n 0, 1) := by decide +kernel
theorem d_X10_keep_32 : decode cm_X10_keep 32 = .ok (.getfield 28, 3) := by decide +kernel
theorem d_X10_keep_35 : decode cm_X10_keep 35 = .ok (.iload_n 1, 1) := by decide +kernel
theorem d_X10_keep_36 : decode cm_X10_keep 36 = .ok (.aaload, 1) := by decide +kernel
theorem d_X10_keep_37 : decode cm_X10_keep 37 = .ok (.bipush 10, 2) := by decide +kernel
theorem d_X10_keep_39 : decode cm_X10_keep 39 = .ok (.iload_n 2, 1) := by decide +kernel
theorem d_X10_keep_40 : decode cm_X10_keep 40 = .ok (.iconst 0, 1) := by decide +kernel
theorem d_X10_keep_41 : decode cm_X10_keep 41 = .ok (.iconst 0, 1) := by decide +kernel
theorem d_X10_keep_42 : decode cm_X10_keep 42 = .ok (.invokevirtual 222, 3) := by decide +kernel
theorem d_X10_keep_45 : decode cm_X10_keep 45 = .ok (.aload_n 0, 1) := by decide +kernel
theorem d_X10_keep_46 : decode cm_X10_keep 46 = .ok (.getfield 49, 3) := by decide +kernel
theorem d_X10_keep_49 : decode cm_X10_keep 49 = .ok (.invokevirtual 288, 3) := by decide +kernel
theorem d_X10_keep_52 : decode cm_X10_keep 52 = .ok (.istore 4, 2) := by decide +kernel
theorem d_X10_keep_54 : decode cm_X10_keep 54 = .ok (.aload_n 0, 1) := by decide +kernel
theorem d_X10_keep_55 : decode cm_X10_keep 55 = .ok (.getfield 70, 3) := by decide +kernel
theorem d_X10_keep_58 : decode cm_X10_keep 58 = .ok (.iload_n 3, 1) := by decide +kernel
theorem d_X10_keep_59 : decode cm_X10_keep 59 = .ok (.iaload, 1) := by decide +kernel
theorem d_X10_keep_60 : decode cm_X10_keep 60 = .ok (.bipush (-9), 2) := by decide +kernel
theorem d_X10_keep_62 : decode cm_X10_keep 62 = .ok (.if_icmp .eq 14, 3) := by decide +kernel
theorem d_X10_keep_65 : decode cm_X10_keep 65 = .ok (.iload 4, 2) := by decide +kernel
theorem d_X10_keep_67 : decode cm_X10_keep 67 = .ok (.aload_n 0, 1) := by decide +kernel
theorem d_X10_keep_68 : decode cm_X10_keep 68 = .ok (.getfield 74, 3) := by decide +kernel
theorem d_X10_keep_71 : decode cm_X10_keep 71 = .ok (.iload_n 3, 1) := by decide +kernel
theorem d_X10_keep_72 : decode cm_X10_keep 72 = .ok (.iaload, 1) := by decide +kernel
theorem d_X10_keep_73 : decode cm_X10_keep 73 = .ok (.if_icmp .le 18, 3) := by decide +kernel
theorem d_X10_keep_76 : decode cm_X10_keep 76 = .ok (.aload_n 0, 1) := by decide +kernel
theorem d_X10_keep_77 : decode cm_X10_keep 77 = .ok (.getfield 70, 3) := by decide +kernel
theorem d_X10_keep_80 : decode cm_X10_keep 80 = .ok (.iload_n 3, 1) := by decide +kernel
theorem d_X10_keep_81 : decode cm_X10_keep 81 = .ok (.iload_n 1, 1) := by decide +kernel
theorem d_X10_keep_82 : decode cm_X10_keep 82 = .ok (.iastore, 1) := by decide +kernel
theorem d_X10_keep_83 : decode cm_X10_keep 83 = .ok (.aload_n 0, 1) := by decide +kernel
theorem d_X10_keep_84 : decode cm_X10_keep 84 = .ok (.getfield 74, 3) := by decide +kernel
theorem d_X10_keep_87 : decode cm_X10_keep 87 = .ok (.iload_n 3, 1) := by decide +kernel
theorem d_X10_keep_88 : decode cm_X10_keep 88 = .ok (.iload 4, 2) := by decide +kernel
theorem d_X10_keep_90 : decode cm_X10_keep 90 = .ok (.iastore, 1) := by decide +kernel
theorem d_X10_keep_91 : decode cm_X10_keep 91 = .ok (.aload_n 0, 1) := by decide +kernel
theorem d_X10_keep_92 : decode cm_X10_keep 92 = .ok (.getfield 70, 3) := by decide +kernel
theorem d_X10_keep_95 : decode cm_X10_keep 95 = .ok (.iload_n 3, 1) := by decide +kernel
theorem d_X10_keep_96 : decode cm_X10_keep 96 = .ok (.iaload, 1) := by decide +kernel
theorem d_X10_keep_97 : decode cm_X10_keep 97 = .ok (.ireturn, 1) := by decide +kernel
def D_X10_keep_91 (Q : Int32 → GSt → Prop) (x3 : Int32) (σ : GSt) : Prop :=
  vp_in x3 17 ∧ (Q (σ 58 (Int32.toNatClampNeg x3)) σ)
def D_X10_keep_76 (Q : Int32 → GSt → Prop) (x1 : Int32) (x3 : Int32) (x4 : Int32) (σ : GSt) : Prop :=
  vp_in x3 17 ∧ (∀ σ_1 : GSt, σ_1 = up2 σ 58 (Int32.toNatClampNeg x3) x1 → (vp_in x3 17 ∧ (∀ σ_2 : GSt, σ_2 = up2 σ_1 59 (Int32.toNatClampNeg x3) x4 → (D_X10_keep_91 Q x3 σ_2))))
def D_X10_keep_0 (Q : Int32 → GSt → Prop) (x1 : Int32) (x2 : Int32) (σ : GSt) : Prop :=
  D_X10_isNoGame x1 σ (fun r_1 σ_2 => (r_1 = 0 → vp_in x1 8 ∧ (∀ x3_3 : Int32, x3_3 = (σ_2 ((61 + 22 * Int32.toNatClampNeg x1) + 3) 2) → (vp_in x1 8 ∧ (D_X8_run 39 (61 + 22 * Int32.toNatClampNeg x1) 10 x2 0 0 σ_2 (fun σ_4 => D_X8_worth 39 σ_4 (fun r_5 σ_6 => vp_in x3_3 17 ∧ (((σ_6 58 (Int32.toNatClampNeg x3_3)) = (-9) → D_X10_keep_76 Q x1 x3_3 r_5 σ_6) ∧
  (¬ (σ_6 58 (Int32.toNatClampNeg x3_3)) = (-9) → vp_in x3_3 17 ∧ ((r_5 ≤ (σ_6 59 (Int32.toNatClampNeg x3_3)) → D_X10_keep_91 Q x3_3 σ_6) ∧
  (¬ r_5 ≤ (σ_6 59 (Int32.toNatClampNeg x3_3)) → D_X10_keep_76 Q x1 x3_3 r_5 σ_6)))))))))) ∧
  (¬ r_1 = 0 → D_X10_refuse (-1) σ_2 (fun r_7 σ_8 => Q r_7 σ_8)))
def D_X10_keep (x1 : Int32) (x2 : Int32) (σ : GSt) (Q : Int32 → GSt → Prop) : Prop := D_X10_keep_0 Q x1 x2 σ
set_option maxRecDepth 20000 in
set_option maxHeartbeats 4000000 in
theorem s_X10_keep_91 {p : Program} {l : Launch} {e : Env} {s : State} {m : MethodId} {args : Array Value} {below : List Frame} {meth : Method} {c : Code} {G : GC} (X : CallFix p m c cm_X10_keep 5 s args lw_us "GameLoom") (hr : meth.sig.returnType = some .int) (hlk : meth.locks = false) (Q : Int32 → GSt → Prop) (x3 : Int32) (σ : GSt) {H : Heap} {locs : List Loc} {ls : Array Slot} (hw : Wo G s H locs σ) (hl : lv_has ls 5 [(0, .ref (G.2.1 0)), (3, .int x3)]) (hD : D_X10_keep_91 Q x3 σ) : W p l e rm_X10_keep s m args below meth c H locs 0 0 (QMI G Q below args s) (F0 m 91 ls []) := by
  unfold D_X10_keep_91 at hD
  refine lv_aload_n X.1 X.2.1 d_X10_keep_91 rfl (lv_at hl 0 rfl) ?_
  refine gf_10_11 X hw (by decide +kernel : kd 0 = 10) tb_384 d_X10_keep_92 ?_
  refine lv_iload_n X.1 X.2.1 d_X10_keep_95 rfl (lv_at hl 1 rfl) ?_
  obtain ⟨q_96, hD⟩ := hD
  refine g_iald X hw ly_10_11.1 ly_10_11.2 q_96 d_X10_keep_96 ?_
  exact g_iret X hr hlk hw hD d_X10_keep_97
set_option maxRecDepth 20000 in
set_option maxHeartbeats 4000000 in
theorem s_X10_keep_76 {p : Program} {l : Launch} {e : Env} {s : State} {m : MethodId} {args : Array Value} {below : List Frame} {meth : Method} {c : Code} {G : GC} (X : CallFix p m c cm_X10_keep 5 s args lw_us "GameLoom") (hr : meth.sig.returnType = some .int) (hlk : meth.locks = false) (Q : Int32 → GSt → Prop) (x1 : Int32) (x3 : Int32) (x4 : Int32) (σ : GSt) {H : Heap} {locs : List Loc} {ls : Array Slot} (hw : Wo G s H locs σ) (hl : lv_has ls 5 [(0, .ref (G.2.1 0)), (1, .int x1), (3, .int x3), (4, .int x4)]) (hD : D_X10_keep_76 Q x1 x3 x4 σ) : W p l e rm_X10_keep s m args below meth c H locs 0 0 (QMI G Q below args s) (F0 m 76 ls []) := by
  unfold D_X10_keep_76 at hD
  refine lv_aload_n X.1 X.2.1 d_X10_keep_76 rfl (lv_at hl 0 rfl) ?_
  refine gf_10_11 X hw (by decide +kernel : kd 0 = 10) tb_384 d_X10_keep_77 ?_
  refine lv_iload_n X.1 X.2.1 d_X10_keep_80 rfl (lv_at hl 2 rfl) ?_
  refine lv_iload_n X.1 X.2.1 d_X10_keep_81 rfl (lv_at hl 1 rfl) ?_
  obtain ⟨q_82, hD⟩ := hD
  refine g_iast X hw ly_10_11.1 ly_10_11.2 q_82 d_X10_keep_82 (fun H locs hw => ?_)
  obtain ⟨σ_1, e_σ_1⟩ : ∃ z : GSt, z = up2 σ 58 (Int32.toNatClampNeg x3) x1 := ⟨_, rfl⟩
  rw [← e_σ_1] at hw
  have hD := hD σ_1 e_σ_1
  refine lv_aload_n X.1 X.2.1 d_X10_keep_83 rfl (lv_at hl 0 rfl) ?_
  refine gf_10_12 X hw (by decide +kernel : kd 0 = 10) tb_385 d_X10_keep_84 ?_
  refine lv_iload_n X.1 X.2.1 d_X10_keep_87 rfl (lv_at hl 2 rfl) ?_
  refine lv_iload X.1 X.2.1 d_X10_keep_88 (lv_at hl 3 rfl) ?_
  obtain ⟨q_90, hD⟩ := hD
  refine g_iast X hw ly_10_12.1 ly_10_12.2 q_90 d_X10_keep_90 (fun H locs hw => ?_)
  obtain ⟨σ_2, e_σ_2⟩ : ∃ z : GSt, z = up2 σ_1 59 (Int32.toNatClampNeg x3) x4 := ⟨_, rfl⟩
  rw [← e_σ_2] at hw
  have hD := hD σ_2 e_σ_2
  exact s_X10_keep_91 X hr hlk  Q  x3 σ_2 hw (lv_sub hl [0, 2] rfl) hD
set_option maxRecDepth 20000 in
set_option maxHeartbeats 4000000 in
theorem s_X10_keep_0 {p : Program} {l : Launch} {e : Env} {s : State} {m : MethodId} {args : Array Value} {below : List Frame} {meth : Method} {c : Code} {G : GC} (X : CallFix p m c cm_X10_keep 5 s args lw_us "GameLoom") (hr : meth.sig.returnType = some .int) (hlk : meth.locks = false) (Q : Int32 → GSt → Prop) (x1 : Int32) (x2 : Int32) (σ : GSt) {H : Heap} {locs : List Loc} {ls : Array Slot} (hw : Wo G s H locs σ) (hl : lv_has ls 5 [(0, .ref (G.2.1 0)), (1, .int x1), (2, .int x2)]) (hD : D_X10_keep_0 Q x1 x2 σ) : W p l e rm_X10_keep s m args below meth c H locs 0 0 (QMI G Q below args s) (F0 m 0 ls []) := by
  unfold D_X10_keep_0 at hD
  refine lv_aload_n X.1 X.2.1 d_X10_keep_0 rfl (lv_at hl 0 rfl) ?_
  refine lv_iload_n X.1 X.2.1 d_X10_keep_1 rfl (lv_at hl 1 rfl) ?_
  refine gcV_i (rest := []) (As := [.int x1]) (o := 0) X hw (c_X10_isNoGame l G x1 σ _  hD) (kd_lt (by decide +kernel : kd 0 = 10) (by decide)) (ce_10 G _ (by decide +kernel : kd 0 = 10)) rfl tb_526 tb_528 tv_17 tb_1 tb_529 hd_X10_isNoGame ⟨rfl, rfl⟩ ⟨Nat.le_of_ble_eq_true rfl, Nat.le_of_ble_eq_true rfl⟩ rfl hl.1 rfl (Nat.le_of_ble_eq_true rfl) d_X10_keep_2 (fun r_1 σ_2 H locs hD hw => ?_)
  refine lv_if_eq (tgt := 14) X.1 X.2.1 d_X10_keep_5 (by decide) (fun q_5 => ?_) (fun q_5 => ?_)
  · have hD := hD.1 q_5
    refine lv_aload_n X.1 X.2.1 d_X10_keep_14 rfl (lv_at hl 0 rfl) ?_
    refine gf_10_3 X hw (by decide +kernel : kd 0 = 10) tb_376 d_X10_keep_15 ?_
    refine lv_iload_n X.1 X.2.1 d_X10_keep_18 rfl (lv_at hl 1 rfl) ?_
    obtain ⟨q_19, hD⟩ := hD
    refine g_aald14 X hw ly_10_3.1 q_19 d_X10_keep_19 ?_
    refine gf_1_1 X hw (le_14 ly_10_3.1 q_19) tb_156 d_X10_keep_20 ?_
    refine gf_0_2 X hw (ly_1_1 (le_14 ly_10_3.1 q_19)) tb_81 d_X10_keep_23 ?_
    refine lv_topi (fun x3_3 e_x3_3 => ?_)
    have hD := hD x3_3 e_x3_3
    refine lv_istore_n (lv' := [(3, .int x3_3), (0, .ref (G.2.1 0)), (1, .int x1), (2, .int x2)]) X.1 X.2.1 d_X10_keep_26 rfl hl (by decide) rfl (fun ls hl => ?_)
    refine lv_aload_n X.1 X.2.1 d_X10_keep_27 rfl (lv_at hl 1 rfl) ?_
    refine gf_10_7 X hw (by decide +kernel : kd 0 = 10) tb_380 d_X10_keep_28 ?_
    refine lv_aload_n X.1 X.2.1 d_X10_keep_31 rfl (lv_at hl 1 rfl) ?_
    refine gf_10_3 X hw (by decide +kernel : kd 0 = 10) tb_376 d_X10_keep_32 ?_
    refine lv_iload_n X.1 X.2.1 d_X10_keep_35 rfl (lv_at hl 2 rfl) ?_
    obtain ⟨q_36, hD⟩ := hD
    refine g_aald14 X hw ly_10_3.1 q_36 d_X10_keep_36 ?_
    refine lv_bipush (v := 10) X.1 X.2.1 d_X10_keep_37 (by decide) ?_
    refine lv_iload_n X.1 X.2.1 d_X10_keep_39 rfl (lv_at hl 3 rfl) ?_
    refine lv_iconst (v := 0) X.1 X.2.1 d_X10_keep_40 (by decide) ?_
    refine lv_iconst (v := 0) X.1 X.2.1 d_X10_keep_41 (by decide) ?_
    refine gcV_v (rest := []) (As := [.ref (G.2.1 (61 + 22 * Int32.toNatClampNeg x1)), .int 10, .int x2, .int 0, .int 0]) (o := 39) X hw (c_X8_run l G 39 (61 + 22 * Int32.toNatClampNeg x1) 10 x2 0 0 σ_2 _ ly_10_7 (le_14 ly_10_3.1 q_36) hD) (kd_lt ly_10_7 (by decide)) (ce_8 G _ ly_10_7) rfl tb_720 tb_721 tb_722 tb_8 tb_723 hd_X8_run ⟨rfl, rfl⟩ ⟨Nat.le_of_ble_eq_true rfl, Nat.le_of_ble_eq_true rfl⟩ rfl hl.1 rfl (Nat.le_of_ble_eq_true rfl) d_X10_keep_42 (fun σ_4 H locs hD hw => ?_)
    refine lv_aload_n X.1 X.2.1 d_X10_keep_45 rfl (lv_at hl 1 rfl) ?_
    refine gf_10_7 X hw (by decide +kernel : kd 0 = 10) tb_380 d_X10_keep_46 ?_
    refine gcV_i (rest := []) (As := []) (o := 39) X hw (c_X8_worth l G 39 σ_4 _ ly_10_7 hD) (kd_lt ly_10_7 (by decide)) (ce_8 G _ ly_10_7) rfl tb_883 tb_884 tb_885 tb_8 tb_886 hd_X8_worth ⟨rfl, rfl⟩ ⟨Nat.le_of_ble_eq_true rfl, Nat.le_of_ble_eq_true rfl⟩ rfl hl.1 rfl (Nat.le_of_ble_eq_true rfl) d_X10_keep_49 (fun r_5 σ_6 H locs hD hw => ?_)
    refine lv_istore (lv' := [(4, .int r_5), (3, .int x3_3), (0, .ref (G.2.1 0)), (1, .int x1), (2, .int x2)]) X.1 X.2.1 d_X10_keep_52 hl (by decide) rfl (fun ls hl => ?_)
    refine lv_aload_n X.1 X.2.1 d_X10_keep_54 rfl (lv_at hl 2 rfl) ?_
    refine gf_10_11 X hw (by decide +kernel : kd 0 = 10) tb_384 d_X10_keep_55 ?_
    refine lv_iload_n X.1 X.2.1 d_X10_keep_58 rfl (lv_at hl 1 rfl) ?_
    obtain ⟨q_59, hD⟩ := hD
    refine g_iald X hw ly_10_11.1 ly_10_11.2 q_59 d_X10_keep_59 ?_
    refine lv_bipush (v := (-9)) X.1 X.2.1 d_X10_keep_60 (by decide) ?_
    refine lv_icmp_eq (tgt := 76) X.1 X.2.1 d_X10_keep_62 (by decide) (fun q_62 => ?_) (fun q_62 => ?_)
    · have hD := hD.1 q_62
      exact s_X10_keep_76 X hr hlk  Q  x1 x3_3 r_5 σ_6 hw (lv_sub hl [2, 3, 1, 0] rfl) hD
    · have hD := hD.2 q_62
      refine lv_iload X.1 X.2.1 d_X10_keep_65 (lv_at hl 0 rfl) ?_
      refine lv_aload_n X.1 X.2.1 d_X10_keep_67 rfl (lv_at hl 2 rfl) ?_
      refine gf_10_12 X hw (by decide +kernel : kd 0 = 10) tb_385 d_X10_keep_68 ?_
      refine lv_iload_n X.1 X.2.1 d_X10_keep_71 rfl (lv_at hl 1 rfl) ?_
      obtain ⟨q_72, hD⟩ := hD
      refine g_iald X hw ly_10_12.1 ly_10_12.2 q_72 d_X10_keep_72 ?_
      refine lv_icmp_le (tgt := 91) X.1 X.2.1 d_X10_keep_73 (by decide) (fun q_73 => ?_) (fun q_73 => ?_)
      · have hD := hD.1 q_73
        exact s_X10_keep_91 X hr hlk  Q  x3_3 σ_6 hw (lv_sub hl [2, 1] rfl) hD
      · have hD := hD.2 q_73
        exact s_X10_keep_76 X hr hlk  Q  x1 x3_3 r_5 σ_6 hw (lv_sub hl [2, 3, 1, 0] rfl) hD
  · have hD := hD.2 q_5
    refine lv_aload_n X.1 X.2.1 d_X10_keep_8 rfl (lv_at hl 0 rfl) ?_
    refine lv_iconst (v := (-1)) X.1 X.2.1 d_X10_keep_9 (by decide) ?_
    refine gcV_i (rest := []) (As := [.int (-1)]) (o := 0) X hw (c_X10_refuse l G (-1) σ_2 _  hD) (kd_lt (by decide +kernel : kd 0 = 10) (by decide)) (ce_10 G _ (by decide +kernel : kd 0 = 10)) rfl tb_420 tb_422 tv_0 tb_1 tb_423 hd_X10_refuse ⟨rfl, rfl⟩ ⟨Nat.le_of_ble_eq_true rfl, Nat.le_of_ble_eq_true rfl⟩ rfl hl.1 rfl (Nat.le_of_ble_eq_true rfl) d_X10_keep_10 (fun r_7 σ_8 H locs hD hw => ?_)
    exact g_iret X hr hlk hw hD d_X10_keep_13
theorem c_X10_keep (l : Launch) (G : GC) (x1 : Int32) (x2 : Int32) (σ : GSt) (Q : Int32 → GSt → Prop)  (hD : D_X10_keep x1 x2 σ Q) : MI l ym_X10_keep cm_X10_keep 5 .int rm_X10_keep G σ [.ref (G.2.1 0), .int x1, .int x2] Q := by
  refine met_i (by decide) (Nat.le_of_ble_eq_true rfl) ?_
  intro p e s m args below meth c X hr hlk hw ls hl
  exact s_X10_keep_0 X hr hlk Q  x1 x2 σ hw (lv_sub hl [0, 1, 2] rfl) hD
theorem hd_X10_niche : ym_X10_niche.cls = "GameLoom" ∧ ym_X10_niche.cls ≠ "java/lang/invoke/MethodHandle" ∧ ym_X10_niche.cls ≠ "java/lang/invoke/VarHandle" ∧ (parseMethodDescriptor ym_X10_niche.desc).map (fun d => d.parameters.length) = some 1 := by decide +kernel
abbrev rm_X10_niche : Room := { frames := 1, cells := 0, slots := 0, locals := 21 }
theorem d_X10_niche_0 : decode cm_X10_niche 0 = .ok (.iload_n 1, 1) := by decide +kernel
theorem d_X10_niche_1 : decode cm_X10_niche 1 = .ok (.iconst 4, 1) := by decide +kernel
theorem d_X10_niche_2 : decode cm_X10_niche 2 = .ok (.if_icmp .ge 10, 3) := by decide +kernel
theorem d_X10_niche_5 : decode cm_X10_niche 5 = .ok (.aload_n 0, 1) := by decide +kernel
theorem d_X10_niche_6 : decode cm_X10_niche 6 = .ok (.bipush (-4), 2) := by decide +kernel
theorem d_X10_niche_8 : decode cm_X10_niche 8 = .ok (.invokevirtual 80, 3) := by decide +kernel
theorem d_X10_niche_11 : decode cm_X10_niche 11 = .ok (.ireturn, 1) := by decide +kernel
theorem d_X10_niche_12 : decode cm_X10_niche 12 = .ok (.iload_n 1, 1) := by decide +kernel
theorem d_X10_niche_13 : decode cm_X10_niche 13 = .ok (.bipush 16, 2) := by decide +kernel
theorem d_X10_niche_15 : decode cm_X10_niche 15 = .ok (.if_icmp .le 10, 3) := by decide +kernel
theorem d_X10_niche_18 : decode cm_X10_niche 18 = .ok (.aload_n 0, 1) := by decide +kernel
theorem d_X10_niche_19 : decode cm_X10_niche 19 = .ok (.bipush (-6), 2) := by decide +kernel
theorem d_X10_niche_21 : decode cm_X10_niche 21 = .ok (.invokevirtual 80, 3) := by decide +kernel
theorem d_X10_niche_24 : decode cm_X10_niche 24 = .ok (.ireturn, 1) := by decide +kernel
theorem d_X10_niche_25 : decode cm_X10_niche 25 = .ok (.aload_n 0, 1) := by decide +kernel
theorem d_X10_niche_26 : decode cm_X10_niche 26 = .ok (.getfield 70, 3) := by decide +kernel
theorem d_X10_niche_29 : decode cm_X10_niche 29 = .ok (.iload_n 1, 1) := by decide +kernel
theorem d_X10_niche_30 : decode cm_X10_niche 30 = .ok (.iaload, 1) := by decide +kernel
theorem d_X10_niche_31 : decode cm_X10_niche 31 = .ok (.ireturn, 1) := by decide +kernel
def D_X10_niche_0 (Q : Int32 → GSt → Prop) (x1 : Int32) (σ : GSt) : Prop :=
  (4 ≤ x1 → (x1 ≤ 16 → vp_in x1 17 ∧ (Q (σ 58 (Int32.toNatClampNeg x1)) σ)) ∧
  (¬ x1 ≤ 16 → D_X10_refuse (-6) σ (fun r_1 σ_2 => Q r_1 σ_2))) ∧
  (¬ 4 ≤ x1 → D_X10_refuse (-4) σ (fun r_3 σ_4 => Q r_3 σ_4))
def D_X10_niche (x1 : Int32) (σ : GSt) (Q : Int32 → GSt → Prop) : Prop := D_X10_niche_0 Q x1 σ
set_option maxRecDepth 20000 in
set_option maxHeartbeats 4000000 in
theorem s_X10_niche_0 {p : Program} {l : Launch} {e : Env} {s : State} {m : MethodId} {args : Array Value} {below : List Frame} {meth : Method} {c : Code} {G : GC} (X : CallFix p m c cm_X10_niche 2 s args lw_us "GameLoom") (hr : meth.sig.returnType = some .int) (hlk : meth.locks = false) (Q : Int32 → GSt → Prop) (x1 : Int32) (σ : GSt) {H : Heap} {locs : List Loc} {ls : Array Slot} (hw : Wo G s H locs σ) (hl : lv_has ls 2 [(0, .ref (G.2.1 0)), (1, .int x1)]) (hD : D_X10_niche_0 Q x1 σ) : W p l e rm_X10_niche s m args below meth c H locs 0 0 (QMI G Q below args s) (F0 m 0 ls []) := by
  unfold D_X10_niche_0 at hD
  refine lv_iload_n X.1 X.2.1 d_X10_niche_0 rfl (lv_at hl 1 rfl) ?_
  refine lv_iconst (v := 4) X.1 X.2.1 d_X10_niche_1 (by decide) ?_
  refine lv_icmp_ge (tgt := 12) X.1 X.2.1 d_X10_niche_2 (by decide) (fun q_2 => ?_) (fun q_2 => ?_)
  · have hD := hD.1 q_2
    refine lv_iload_n X.1 X.2.1 d_X10_niche_12 rfl (lv_at hl 1 rfl) ?_
    refine lv_bipush (v := 16) X.1 X.2.1 d_X10_niche_13 (by decide) ?_
    refine lv_icmp_le (tgt := 25) X.1 X.2.1 d_X10_niche_15 (by decide) (fun q_15 => ?_) (fun q_15 => ?_)
    · have hD := hD.1 q_15
      refine lv_aload_n X.1 X.2.1 d_X10_niche_25 rfl (lv_at hl 0 rfl) ?_
      refine gf_10_11 X hw (by decide +kernel : kd 0 = 10) tb_384 d_X10_niche_26 ?_
      refine lv_iload_n X.1 X.2.1 d_X10_niche_29 rfl (lv_at hl 1 rfl) ?_
      obtain ⟨q_30, hD⟩ := hD
      refine g_iald X hw ly_10_11.1 ly_10_11.2 q_30 d_X10_niche_30 ?_
      exact g_iret X hr hlk hw hD d_X10_niche_31
    · have hD := hD.2 q_15
      refine lv_aload_n X.1 X.2.1 d_X10_niche_18 rfl (lv_at hl 0 rfl) ?_
      refine lv_bipush (v := (-6)) X.1 X.2.1 d_X10_niche_19 (by decide) ?_
      refine gcV_i (rest := []) (As := [.int (-6)]) (o := 0) X hw (c_X10_refuse l G (-6) σ _  hD) (kd_lt (by decide +kernel : kd 0 = 10) (by decide)) (ce_10 G _ (by decide +kernel : kd 0 = 10)) rfl tb_420 tb_422 tv_0 tb_1 tb_423 hd_X10_refuse ⟨rfl, rfl⟩ ⟨Nat.le_of_ble_eq_true rfl, Nat.le_of_ble_eq_true rfl⟩ rfl hl.1 rfl (Nat.le_of_ble_eq_true rfl) d_X10_niche_21 (fun r_1 σ_2 H locs hD hw => ?_)
      exact g_iret X hr hlk hw hD d_X10_niche_24
  · have hD := hD.2 q_2
    refine lv_aload_n X.1 X.2.1 d_X10_niche_5 rfl (lv_at hl 0 rfl) ?_
    refine lv_bipush (v := (-4)) X.1 X.2.1 d_X10_niche_6 (by decide) ?_
    refine gcV_i (rest := []) (As := [.int (-4)]) (o := 0) X hw (c_X10_refuse l G (-4) σ _  hD) (kd_lt (by decide +kernel : kd 0 = 10) (by decide)) (ce_10 G _ (by decide +kernel : kd 0 = 10)) rfl tb_420 tb_422 tv_0 tb_1 tb_423 hd_X10_refuse ⟨rfl, rfl⟩ ⟨Nat.le_of_ble_eq_true rfl, Nat.le_of_ble_eq_true rfl⟩ rfl hl.1 rfl (Nat.le_of_ble_eq_true rfl) d_X10_niche_8 (fun r_3 σ_4 H locs hD hw => ?_)
    exact g_iret X hr hlk hw hD d_X10_niche_11
theorem c_X10_niche (l : Launch) (G : GC) (x1 : Int32) (σ : GSt) (Q : Int32 → GSt → Prop)  (hD : D_X10_niche x1 σ Q) : MI l ym_X10_niche cm_X10_niche 2 .int rm_X10_niche G σ [.ref (G.2.1 0), .int x1] Q := by
  refine met_i (by decide) (Nat.le_of_ble_eq_true rfl) ?_
  intro p e s m args below meth c X hr hlk hw ls hl
  exact s_X10_niche_0 X hr hlk Q  x1 σ hw (lv_sub hl [0, 1] rfl) hD
theorem hd_X10_nichesTaken : ym_X10_nichesTaken.cls = "GameLoom" ∧ ym_X10_nichesTaken.cls ≠ "java/lang/invoke/MethodHandle" ∧ ym_X10_nichesTaken.cls ≠ "java/lang/invoke/VarHandle" ∧ (parseMethodDescriptor ym_X10_nichesTaken.desc).map (fun d => d.parameters.length) = some 0 := by decide +kernel
abbrev rm_X10_nichesTaken : Room := { frames := 0, cells := 0, slots := 0, locals := 0 }
theorem d_X10_nichesTaken_0 : decode cm_X10_nichesTaken 0 = .ok (.iconst 0, 1) := by decide +kernel
theorem d_X10_nichesTaken_1 : decode cm_X10_nichesTaken 1 = .ok (.istore_n 1, 1) := by decide +kernel
theorem d_X10_nichesTaken_2 : decode cm_X10_nichesTaken 2 = .ok (.iconst 4, 1) := by decide +kernel
theorem d_X10_nichesTaken_3 : decode cm_X10_nichesTaken 3 = .ok (.istore_n 2, 1) := by decide +kernel
theorem d_X10_nichesTaken_4 : decode cm_X10_nichesTaken 4 = .ok (.iload_n 2, 1) := by decide +kernel
theorem d_X10_nichesTaken_5 : decode cm_X10_nichesTaken 5 = .ok (.bipush 16, 2) := by decide +kernel
theorem d_X10_nichesTaken_7 : decode cm_X10_nichesTaken 7 = .ok (.if_icmp .gt 23, 3) := by decide +kernel
theorem d_X10_nichesTaken_10 : decode cm_X10_nichesTaken 10 = .ok (.aload_n 0, 1) := by decide +kernel
theorem d_X10_nichesTaken_11 : decode cm_X10_nichesTaken 11 = .ok (.getfield 70, 3) := by decide +kernel
theorem d_X10_nichesTaken_14 : decode cm_X10_nichesTaken 14 = .ok (.iload_n 2, 1) := by decide +kernel
theorem d_X10_nichesTaken_15 : decode cm_X10_nichesTaken 15 = .ok (.iaload, 1) := by decide +kernel
theorem d_X10_nichesTaken_16 : decode cm_X10_nichesTaken 16 = .ok (.bipush (-9), 2) := by decide +kernel
theorem d_X10_nichesTaken_18 : decode cm_X10_nichesTaken 18 = .ok (.if_icmp .eq 6, 3) := by decide +kernel
theorem d_X10_nichesTaken_21 : decode cm_X10_nichesTaken 21 = .ok (.iinc 1 1, 3) := by decide +kernel
theorem d_X10_nichesTaken_24 : decode cm_X10_nichesTaken 24 = .ok (.iinc 2 1, 3) := by decide +kernel
theorem d_X10_nichesTaken_27 : decode cm_X10_nichesTaken 27 = .ok (.goto (-23), 3) := by decide +kernel
theorem d_X10_nichesTaken_30 : decode cm_X10_nichesTaken 30 = .ok (.iload_n 1, 1) := by decide +kernel
theorem d_X10_nichesTaken_31 : decode cm_X10_nichesTaken 31 = .ok (.ireturn, 1) := by decide +kernel
def D_X10_nichesTaken_24 (K4 : Int32 → Int32 → GSt → Prop) (Q : Int32 → GSt → Prop) (x1 : Int32) (x2 : Int32) (σ : GSt) : Prop :=
  ∀ x2_1 : Int32, x2_1 = x2 + 1 → (K4 x1 x2_1 σ)
def D_X10_nichesTaken_4 (K4 : Int32 → Int32 → GSt → Prop) (Q : Int32 → GSt → Prop) (x1 : Int32) (x2 : Int32) (σ : GSt) : Prop :=
  (16 < x2 → Q x1 σ) ∧
  (¬ 16 < x2 → vp_in x2 17 ∧ (((σ 58 (Int32.toNatClampNeg x2)) = (-9) → D_X10_nichesTaken_24 K4 Q x1 x2 σ) ∧
  (¬ (σ 58 (Int32.toNatClampNeg x2)) = (-9) → ∀ x1_1 : Int32, x1_1 = x1 + 1 → (D_X10_nichesTaken_24 K4 Q x1_1 x2 σ))))
def L_X10_nichesTaken_4 (Q : Int32 → GSt → Prop) : Nat → Int32 → Int32 → GSt → Prop
  | 0 => fun _ _ _ => False
  | n + 1 => fun x1 x2 σ => D_X10_nichesTaken_4 (L_X10_nichesTaken_4 Q n) Q x1 x2 σ
def D_X10_nichesTaken_0 (Q : Int32 → GSt → Prop) (σ : GSt) : Prop :=
  ∃ n : Nat, L_X10_nichesTaken_4 Q n 0 4 σ
def D_X10_nichesTaken (σ : GSt) (Q : Int32 → GSt → Prop) : Prop := D_X10_nichesTaken_0 Q σ
set_option maxRecDepth 20000 in
set_option maxHeartbeats 4000000 in
theorem s_X10_nichesTaken_24 {p : Program} {l : Launch} {e : Env} {s : State} {m : MethodId} {args : Array Value} {below : List Frame} {meth : Method} {c : Code} {G : GC} (X : CallFix p m c cm_X10_nichesTaken 3 s args lw_us "GameLoom") (hr : meth.sig.returnType = some .int) (hlk : meth.locks = false) (K4 : Int32 → Int32 → GSt → Prop) (Q : Int32 → GSt → Prop) (hK4 : ∀ (x1 : Int32) (x2 : Int32) (σ : GSt) (H : Heap) (locs : List Loc) (ls : Array Slot), Wo G s H locs σ → lv_has ls 3 [(0, .ref (G.2.1 0)), (1, .int x1), (2, .int x2)] → K4 x1 x2 σ → W p l e rm_X10_nichesTaken s m args below meth c H locs 0 0 (QMI G Q below args s) (F0 m 4 ls [])) (x1 : Int32) (x2 : Int32) (σ : GSt) {H : Heap} {locs : List Loc} {ls : Array Slot} (hw : Wo G s H locs σ) (hl : lv_has ls 3 [(0, .ref (G.2.1 0)), (1, .int x1), (2, .int x2)]) (hD : D_X10_nichesTaken_24 K4 Q x1 x2 σ) : W p l e rm_X10_nichesTaken s m args below meth c H locs 0 0 (QMI G Q below args s) (F0 m 24 ls []) := by
  unfold D_X10_nichesTaken_24 at hD
  obtain ⟨x2_1, e_x2_1⟩ : ∃ y : Int32, y = x2 + 1 := ⟨_, rfl⟩
  have hD := hD x2_1 e_x2_1
  refine lv_iinc (v := x2_1) (lv' := [(2, .int x2_1), (0, .ref (G.2.1 0)), (1, .int x1)]) X.1 X.2.1 d_X10_nichesTaken_24 hl (k := 2) rfl (by rw [e_x2_1]; rfl) (by decide) rfl (fun ls hl => ?_)
  refine lv_goto (tgt := 4) X.1 X.2.1 d_X10_nichesTaken_27 (by decide) ?_
  exact hK4 x1 x2_1 σ _ _ _  hw (lv_sub hl [1, 2, 0] rfl) hD
set_option maxRecDepth 20000 in
set_option maxHeartbeats 4000000 in
theorem s_X10_nichesTaken_4 {p : Program} {l : Launch} {e : Env} {s : State} {m : MethodId} {args : Array Value} {below : List Frame} {meth : Method} {c : Code} {G : GC} (X : CallFix p m c cm_X10_nichesTaken 3 s args lw_us "GameLoom") (hr : meth.sig.returnType = some .int) (hlk : meth.locks = false) (K4 : Int32 → Int32 → GSt → Prop) (Q : Int32 → GSt → Prop) (hK4 : ∀ (x1 : Int32) (x2 : Int32) (σ : GSt) (H : Heap) (locs : List Loc) (ls : Array Slot), Wo G s H locs σ → lv_has ls 3 [(0, .ref (G.2.1 0)), (1, .int x1), (2, .int x2)] → K4 x1 x2 σ → W p l e rm_X10_nichesTaken s m args below meth c H locs 0 0 (QMI G Q below args s) (F0 m 4 ls [])) (x1 : Int32) (x2 : Int32) (σ : GSt) {H : Heap} {locs : List Loc} {ls : Array Slot} (hw : Wo G s H locs σ) (hl : lv_has ls 3 [(0, .ref (G.2.1 0)), (1, .int x1), (2, .int x2)]) (hD : D_X10_nichesTaken_4 K4 Q x1 x2 σ) : W p l e rm_X10_nichesTaken s m args below meth c H locs 0 0 (QMI G Q below args s) (F0 m 4 ls []) := by
  unfold D_X10_nichesTaken_4 at hD
  refine lv_iload_n X.1 X.2.1 d_X10_nichesTaken_4 rfl (lv_at hl 2 rfl) ?_
  refine lv_bipush (v := 16) X.1 X.2.1 d_X10_nichesTaken_5 (by decide) ?_
  refine lv_icmp_gt (tgt := 30) X.1 X.2.1 d_X10_nichesTaken_7 (by decide) (fun q_7 => ?_) (fun q_7 => ?_)
  · have hD := hD.1 q_7
    refine lv_iload_n X.1 X.2.1 d_X10_nichesTaken_30 rfl (lv_at hl 1 rfl) ?_
    exact g_iret X hr hlk hw hD d_X10_nichesTaken_31
  · have hD := hD.2 q_7
    refine lv_aload_n X.1 X.2.1 d_X10_nichesTaken_10 rfl (lv_at hl 0 rfl) ?_
    refine gf_10_11 X hw (by decide +kernel : kd 0 = 10) tb_384 d_X10_nichesTaken_11 ?_
    refine lv_iload_n X.1 X.2.1 d_X10_nichesTaken_14 rfl (lv_at hl 2 rfl) ?_
    obtain ⟨q_15, hD⟩ := hD
    refine g_iald X hw ly_10_11.1 ly_10_11.2 q_15 d_X10_nichesTaken_15 ?_
    refine lv_bipush (v := (-9)) X.1 X.2.1 d_X10_nichesTaken_16 (by decide) ?_
    refine lv_icmp_eq (tgt := 24) X.1 X.2.1 d_X10_nichesTaken_18 (by decide) (fun q_18 => ?_) (fun q_18 => ?_)
    · have hD := hD.1 q_18
      exact s_X10_nichesTaken_24 X hr hlk K4 Q hK4 x1 x2 σ hw (lv_sub hl [0, 1, 2] rfl) hD
    · have hD := hD.2 q_18
      obtain ⟨x1_1, e_x1_1⟩ : ∃ y : Int32, y = x1 + 1 := ⟨_, rfl⟩
      have hD := hD x1_1 e_x1_1
      refine lv_iinc (v := x1_1) (lv' := [(1, .int x1_1), (0, .ref (G.2.1 0)), (2, .int x2)]) X.1 X.2.1 d_X10_nichesTaken_21 hl (k := 1) rfl (by rw [e_x1_1]; rfl) (by decide) rfl (fun ls hl => ?_)
      exact s_X10_nichesTaken_24 X hr hlk K4 Q hK4 x1_1 x2 σ hw (lv_sub hl [1, 0, 2] rfl) hD
set_option maxRecDepth 20000 in
set_option maxHeartbeats 4000000 in
theorem sl_X10_nichesTaken_4 {p : Program} {l : Launch} {e : Env} {s : State} {m : MethodId} {args : Array Value} {below : List Frame} {meth : Method} {c : Code} {G : GC} (X : CallFix p m c cm_X10_nichesTaken 3 s args lw_us "GameLoom") (hr : meth.sig.returnType = some .int) (hlk : meth.locks = false) (Q : Int32 → GSt → Prop) : ∀ (nn : Nat), ∀ (x1 : Int32) (x2 : Int32) (σ : GSt) (H : Heap) (locs : List Loc) (ls : Array Slot), Wo G s H locs σ → lv_has ls 3 [(0, .ref (G.2.1 0)), (1, .int x1), (2, .int x2)] → L_X10_nichesTaken_4 Q nn x1 x2 σ → W p l e rm_X10_nichesTaken s m args below meth c H locs 0 0 (QMI G Q below args s) (F0 m 4 ls []) := by
  intro nn
  induction nn with
  | zero => intro x1 x2 σ H locs ls  hw hl hD; exact hD.elim
  | succ nn ih =>
    intro x1 x2 σ H locs ls  hw hl hD
    exact s_X10_nichesTaken_4 X hr hlk (L_X10_nichesTaken_4 Q nn) Q ih x1 x2 σ hw hl hD
set_option maxRecDepth 20000 in
set_option maxHeartbeats 4000000 in
theorem s_X10_nichesTaken_0 {p : Program} {l : Launch} {e : Env} {s : State} {m : MethodId} {args : Array Value} {below : List Frame} {meth : Method} {c : Code} {G : GC} (X : CallFix p m c cm_X10_nichesTaken 3 s args lw_us "GameLoom") (hr : meth.sig.returnType = some .int) (hlk : meth.locks = false) (Q : Int32 → GSt → Prop) (σ : GSt) {H : Heap} {locs : List Loc} {ls : Array Slot} (hw : Wo G s H locs σ) (hl : lv_has ls 3 [(0, .ref (G.2.1 0))]) (hD : D_X10_nichesTaken_0 Q σ) : W p l e rm_X10_nichesTaken s m args below meth c H locs 0 0 (QMI G Q below args s) (F0 m 0 ls []) := by
  unfold D_X10_nichesTaken_0 at hD
  refine lv_iconst (v := 0) X.1 X.2.1 d_X10_nichesTaken_0 (by decide) ?_
  refine lv_istore_n (lv' := [(1, .int 0), (0, .ref (G.2.1 0))]) X.1 X.2.1 d_X10_nichesTaken_1 rfl hl (by decide) rfl (fun ls hl => ?_)
  refine lv_iconst (v := 4) X.1 X.2.1 d_X10_nichesTaken_2 (by decide) ?_
  refine lv_istore_n (lv' := [(2, .int 4), (1, .int 0), (0, .ref (G.2.1 0))]) X.1 X.2.1 d_X10_nichesTaken_3 rfl hl (by decide) rfl (fun ls hl => ?_)
  obtain ⟨n9, hD⟩ := hD
  exact sl_X10_nichesTaken_4 X hr hlk  Q  n9 0 4 σ _ _ _  hw (lv_sub hl [2, 1, 0] rfl) hD
theorem c_X10_nichesTaken (l : Launch) (G : GC) (σ : GSt) (Q : Int32 → GSt → Prop)  (hD : D_X10_nichesTaken  σ Q) : MI l ym_X10_nichesTaken cm_X10_nichesTaken 3 .int rm_X10_nichesTaken G σ [.ref (G.2.1 0)] Q := by
  refine met_i (by decide) (Nat.le_of_ble_eq_true rfl) ?_
  intro p e s m args below meth c X hr hlk hw ls hl
  exact s_X10_nichesTaken_0 X hr hlk Q   σ hw (lv_sub hl [0] rfl) hD
theorem hd_X10_count : ym_X10_count.cls = "GameLoom" ∧ ym_X10_count.cls ≠ "java/lang/invoke/MethodHandle" ∧ ym_X10_count.cls ≠ "java/lang/invoke/VarHandle" ∧ (parseMethodDescriptor ym_X10_count.desc).map (fun d => d.parameters.length) = some 1 := by decide +kernel
abbrev rm_X10_count : Room := { frames := 1, cells := 0, slots := 0, locals := 22 }
theorem d_X10_count_0 : decode cm_X10_count 0 = .ok (.iload_n 1, 1) := by decide +kernel
theorem d_X10_count_1 : decode cm_X10_count 1 = .ok (.bipush 11, 2) := by decide +kernel
theorem d_X10_count_3 : decode cm_X10_count 3 = .ok (.if_icmp .lt 19, 3) := by decide +kernel
theorem d_X10_count_6 : decode cm_X10_count 6 = .ok (.iload_n 1, 1) := by decide +kernel
theorem d_X10_count_7 : decode cm_X10_count 7 = .ok (.bipush 16, 2) := by decide +kernel
theorem d_X10_count_9 : decode cm_X10_count 9 = .ok (.if_icmp .gt 13, 3) := by decide +kernel
theorem d_X10_count_12 : decode cm_X10_count 12 = .ok (.aload_n 0, 1) := by decide +kernel
theorem d_X10_count_13 : decode cm_X10_count 13 = .ok (.getfield 77, 3) := by decide +kernel
theorem d_X10_count_16 : decode cm_X10_count 16 = .ok (.iload_n 1, 1) := by decide +kernel
theorem d_X10_count_17 : decode cm_X10_count 17 = .ok (.bipush 10, 2) := by decide +kernel
theorem d_X10_count_19 : decode cm_X10_count 19 = .ok (.isub, 1) := by decide +kernel
theorem d_X10_count_20 : decode cm_X10_count 20 = .ok (.iaload, 1) := by decide +kernel
theorem d_X10_count_21 : decode cm_X10_count 21 = .ok (.ireturn, 1) := by decide +kernel
theorem d_X10_count_22 : decode cm_X10_count 22 = .ok (.iload_n 1, 1) := by decide +kernel
theorem d_X10_count_23 : decode cm_X10_count 23 = .ok (.tableswitch 73 0 3 #[29, 34, 42, 68], 29) := by decide +kernel
theorem d_X10_count_52 : decode cm_X10_count 52 = .ok (.aload_n 0, 1) := by decide +kernel
theorem d_X10_count_53 : decode cm_X10_count 53 = .ok (.getfield 92, 3) := by decide +kernel
theorem d_X10_count_56 : decode cm_X10_count 56 = .ok (.ireturn, 1) := by decide +kernel
theorem d_X10_count_57 : decode cm_X10_count 57 = .ok (.aload_n 0, 1) := by decide +kernel
theorem d_X10_count_58 : decode cm_X10_count 58 = .ok (.getfield 10, 3) := by decide +kernel
theorem d_X10_count_61 : decode cm_X10_count 61 = .ok (.getfield 84, 3) := by decide +kernel
theorem d_X10_count_64 : decode cm_X10_count 64 = .ok (.ireturn, 1) := by decide +kernel
theorem d_X10_count_65 : decode cm_X10_count 65 = .ok (.aload_n 0, 1) := by decide +kernel
theorem d_X10_count_66 : decode cm_X10_count 66 = .ok (.getfield 66, 3) := by decide +kernel
theorem d_X10_count_69 : decode cm_X10_count 69 = .ok (.getfield 134, 3) := by decide +kernel
theorem d_X10_count_72 : decode cm_X10_count 72 = .ok (.ifCond .eq 16, 3) := by decide +kernel
theorem d_X10_count_75 : decode cm_X10_count 75 = .ok (.aload_n 0, 1) := by decide +kernel
theorem d_X10_count_76 : decode cm_X10_count 76 = .ok (.getfield 66, 3) := by decide +kernel
theorem d_X10_count_79 : decode cm_X10_count 79 = .ok (.getfield 151, 3) := by decide +kernel
theorem d_X10_count_82 : decode cm_X10_count 82 = .ok (.getfield 155, 3) := by decide +kernel
theorem d_X10_count_85 : decode cm_X10_count 85 = .ok (.goto 5, 3) := by decide +kernel
theorem d_X10_count_88 : decode cm_X10_count 88 = .ok (.bipush (-9), 2) := by decide +kernel
theorem d_X10_count_90 : decode cm_X10_count 90 = .ok (.ireturn, 1) := by decide +kernel
theorem d_X10_count_91 : decode cm_X10_count 91 = .ok (.aload_n 0, 1) := by decide +kernel
theorem d_X10_count_92 : decode cm_X10_count 92 = .ok (.invokevirtual 291, 3) := by decide +kernel
theorem d_X10_count_95 : decode cm_X10_count 95 = .ok (.ireturn, 1) := by decide +kernel
theorem d_X10_count_96 : decode cm_X10_count 96 = .ok (.bipush (-9), 2) := by decide +kernel
theorem d_X10_count_98 : decode cm_X10_count 98 = .ok (.ireturn, 1) := by decide +kernel
def D_X10_count_22 (Q : Int32 → GSt → Prop) (x1 : Int32) (σ : GSt) : Prop :=
  ((x1 < 0 ∨ 3 < x1) → Q (-9) σ) ∧
  (x1 = 0 → Q (σ 0 4) σ) ∧
  (x1 = 1 → Q (σ 1 1) σ) ∧
  (x1 = 2 → ((σ 53 3) = 0 → Q (-9) σ) ∧
  (¬ (σ 53 3) = 0 → Q (σ 54 3) σ)) ∧
  (x1 = 3 → D_X10_nichesTaken  σ (fun r_1 σ_2 => Q r_1 σ_2))
def D_X10_count_0 (Q : Int32 → GSt → Prop) (x1 : Int32) (σ : GSt) : Prop :=
  (x1 < 11 → D_X10_count_22 Q x1 σ) ∧
  (¬ x1 < 11 → (16 < x1 → D_X10_count_22 Q x1 σ) ∧
  (¬ 16 < x1 → vp_in (x1 - 10) 7 ∧ (Q (σ 60 (Int32.toNatClampNeg (x1 - 10))) σ)))
def D_X10_count (x1 : Int32) (σ : GSt) (Q : Int32 → GSt → Prop) : Prop := D_X10_count_0 Q x1 σ
set_option maxRecDepth 20000 in
set_option maxHeartbeats 4000000 in
theorem s_X10_count_22 {p : Program} {l : Launch} {e : Env} {s : State} {m : MethodId} {args : Array Value} {below : List Frame} {meth : Method} {c : Code} {G : GC} (X : CallFix p m c cm_X10_count 2 s args lw_us "GameLoom") (hr : meth.sig.returnType = some .int) (hlk : meth.locks = false) (Q : Int32 → GSt → Prop) (x1 : Int32) (σ : GSt) {H : Heap} {locs : List Loc} {ls : Array Slot} (hw : Wo G s H locs σ) (hl : lv_has ls 2 [(0, .ref (G.2.1 0)), (1, .int x1)]) (hD : D_X10_count_22 Q x1 σ) : W p l e rm_X10_count s m args below meth c H locs 0 0 (QMI G Q below args s) (F0 m 22 ls []) := by
  unfold D_X10_count_22 at hD
  refine lv_iload_n X.1 X.2.1 d_X10_count_22 rfl (lv_at hl 1 rfl) ?_
  by_cases q_23 : x1 < 0 ∨ 3 < x1
  · have hD := hD.1 q_23
    refine lv_tableOut (tgt := 96) X.1 X.2.1 d_X10_count_23 (sw_out (n := 3) (by decide) q_23) (by decide) ?_
    refine lv_bipush (v := (-9)) X.1 X.2.1 d_X10_count_96 (by decide) ?_
    exact g_iret X hr hlk hw hD d_X10_count_98
  · obtain ⟨j_23, hj, ej⟩ := sw_in (n := 3) (by decide) q_23
    have hD := hD.2
    rcases (show j_23 = 0 ∨ j_23 = 1 ∨ j_23 = 2 ∨ j_23 = 3 by omega) with rfl | rfl | rfl | rfl
    · have hD := hD.1 ej
      refine lv_tableIn (tgt := 52) X.1 X.2.1 d_X10_count_23 (by rw [ej]; decide) (by rw [ej]; decide) (by rw [ej]; rfl) (by decide) ?_
      refine lv_aload_n X.1 X.2.1 d_X10_count_52 rfl (lv_at hl 0 rfl) ?_
      refine gf_10_4 X hw (by decide +kernel : kd 0 = 10) tb_377 d_X10_count_53 ?_
      exact g_iret X hr hlk hw hD d_X10_count_56
    · have hD := hD.2.1 ej
      refine lv_tableIn (tgt := 57) X.1 X.2.1 d_X10_count_23 (by rw [ej]; decide) (by rw [ej]; decide) (by rw [ej]; rfl) (by decide) ?_
      refine lv_aload_n X.1 X.2.1 d_X10_count_57 rfl (lv_at hl 0 rfl) ?_
      refine gf_10_0 X hw (by decide +kernel : kd 0 = 10) tb_373 d_X10_count_58 ?_
      refine gf_9_1 X hw ly_10_0 tb_33 d_X10_count_61 ?_
      exact g_iret X hr hlk hw hD d_X10_count_64
    · have hD := hD.2.2.1 ej
      refine lv_tableIn (tgt := 65) X.1 X.2.1 d_X10_count_23 (by rw [ej]; decide) (by rw [ej]; decide) (by rw [ej]; rfl) (by decide) ?_
      refine lv_aload_n X.1 X.2.1 d_X10_count_65 rfl (lv_at hl 0 rfl) ?_
      refine gf_10_10 X hw (by decide +kernel : kd 0 = 10) tb_383 d_X10_count_66 ?_
      refine gf_4_3 X hw ly_10_10 tb_357 d_X10_count_69 ?_
      refine lv_if_eq (tgt := 88) X.1 X.2.1 d_X10_count_72 (by decide) (fun q_72 => ?_) (fun q_72 => ?_)
      · have hD := hD.1 q_72
        refine lv_bipush (v := (-9)) X.1 X.2.1 d_X10_count_88 (by decide) ?_
        exact g_iret X hr hlk hw hD d_X10_count_90
      · have hD := hD.2 q_72
        refine lv_aload_n X.1 X.2.1 d_X10_count_75 rfl (lv_at hl 0 rfl) ?_
        refine gf_10_10 X hw (by decide +kernel : kd 0 = 10) tb_383 d_X10_count_76 ?_
        refine gf_4_0 X hw ly_10_10 tb_351 d_X10_count_79 ?_
        refine gf_5_3 X hw ly_4_0 tb_253 d_X10_count_82 ?_
        refine lv_goto (tgt := 90) X.1 X.2.1 d_X10_count_85 (by decide) ?_
        exact g_iret X hr hlk hw hD d_X10_count_90
    · have hD := hD.2.2.2 ej
      refine lv_tableIn (tgt := 91) X.1 X.2.1 d_X10_count_23 (by rw [ej]; decide) (by rw [ej]; decide) (by rw [ej]; rfl) (by decide) ?_
      refine lv_aload_n X.1 X.2.1 d_X10_count_91 rfl (lv_at hl 0 rfl) ?_
      refine gcV_i (rest := []) (As := []) (o := 0) X hw (c_X10_nichesTaken l G  σ _  hD) (kd_lt (by decide +kernel : kd 0 = 10) (by decide)) (ce_10 G _ (by decide +kernel : kd 0 = 10)) rfl tb_896 tb_898 tv_34 tb_1 tb_899 hd_X10_nichesTaken ⟨rfl, rfl⟩ ⟨Nat.le_of_ble_eq_true rfl, Nat.le_of_ble_eq_true rfl⟩ rfl hl.1 rfl (Nat.le_of_ble_eq_true rfl) d_X10_count_92 (fun r_1 σ_2 H locs hD hw => ?_)
      exact g_iret X hr hlk hw hD d_X10_count_95
set_option maxRecDepth 20000 in
set_option maxHeartbeats 4000000 in
theorem s_X10_count_0 {p : Program} {l : Launch} {e : Env} {s : State} {m : MethodId} {args : Array Value} {below : List Frame} {meth : Method} {c : Code} {G : GC} (X : CallFix p m c cm_X10_count 2 s args lw_us "GameLoom") (hr : meth.sig.returnType = some .int) (hlk : meth.locks = false) (Q : Int32 → GSt → Prop) (x1 : Int32) (σ : GSt) {H : Heap} {locs : List Loc} {ls : Array Slot} (hw : Wo G s H locs σ) (hl : lv_has ls 2 [(0, .ref (G.2.1 0)), (1, .int x1)]) (hD : D_X10_count_0 Q x1 σ) : W p l e rm_X10_count s m args below meth c H locs 0 0 (QMI G Q below args s) (F0 m 0 ls []) := by
  unfold D_X10_count_0 at hD
  refine lv_iload_n X.1 X.2.1 d_X10_count_0 rfl (lv_at hl 1 rfl) ?_
  refine lv_bipush (v := 11) X.1 X.2.1 d_X10_count_1 (by decide) ?_
  refine lv_icmp_lt (tgt := 22) X.1 X.2.1 d_X10_count_3 (by decide) (fun q_3 => ?_) (fun q_3 => ?_)
  · have hD := hD.1 q_3
    exact s_X10_count_22 X hr hlk  Q  x1 σ hw (lv_sub hl [0, 1] rfl) hD
  · have hD := hD.2 q_3
    refine lv_iload_n X.1 X.2.1 d_X10_count_6 rfl (lv_at hl 1 rfl) ?_
    refine lv_bipush (v := 16) X.1 X.2.1 d_X10_count_7 (by decide) ?_
    refine lv_icmp_gt (tgt := 22) X.1 X.2.1 d_X10_count_9 (by decide) (fun q_9 => ?_) (fun q_9 => ?_)
    · have hD := hD.1 q_9
      exact s_X10_count_22 X hr hlk  Q  x1 σ hw (lv_sub hl [0, 1] rfl) hD
    · have hD := hD.2 q_9
      refine lv_aload_n X.1 X.2.1 d_X10_count_12 rfl (lv_at hl 0 rfl) ?_
      refine gf_10_13 X hw (by decide +kernel : kd 0 = 10) tb_386 d_X10_count_13 ?_
      refine lv_iload_n X.1 X.2.1 d_X10_count_16 rfl (lv_at hl 1 rfl) ?_
      refine lv_bipush (v := 10) X.1 X.2.1 d_X10_count_17 (by decide) ?_
      refine lv_isub X.1 X.2.1 d_X10_count_19 ?_
      obtain ⟨q_20, hD⟩ := hD
      refine g_iald X hw ly_10_13.1 ly_10_13.2 q_20 d_X10_count_20 ?_
      exact g_iret X hr hlk hw hD d_X10_count_21
theorem c_X10_count (l : Launch) (G : GC) (x1 : Int32) (σ : GSt) (Q : Int32 → GSt → Prop)  (hD : D_X10_count x1 σ Q) : MI l ym_X10_count cm_X10_count 2 .int rm_X10_count G σ [.ref (G.2.1 0), .int x1] Q := by
  refine met_i (by decide) (Nat.le_of_ble_eq_true rfl) ?_
  intro p e s m args below meth c X hr hlk hw ls hl
  exact s_X10_count_0 X hr hlk Q  x1 σ hw (lv_sub hl [0, 1] rfl) hD
theorem hd_X11_no : ym_X11_no.cls = "GameLoomModel" ∧ ym_X11_no.cls ≠ "java/lang/invoke/MethodHandle" ∧ ym_X11_no.cls ≠ "java/lang/invoke/VarHandle" ∧ (parseMethodDescriptor ym_X11_no.desc).map (fun d => d.parameters.length) = some 1 := by decide +kernel
abbrev rm_X11_no : Room := { frames := 0, cells := 0, slots := 0, locals := 0 }
theorem d_X11_no_0 : decode cm_X11_no 0 = .ok (.aload_n 0, 1) := by decide +kernel
theorem d_X11_no_1 : decode cm_X11_no 1 = .ok (.getfield 7, 3) := by decide +kernel
theorem d_X11_no_4 : decode cm_X11_no 4 = .ok (.iload_n 1, 1) := by decide +kernel
theorem d_X11_no_5 : decode cm_X11_no 5 = .ok (.ineg, 1) := by decide +kernel
theorem d_X11_no_6 : decode cm_X11_no 6 = .ok (.dup2, 1) := by decide +kernel
theorem d_X11_no_7 : decode cm_X11_no 7 = .ok (.iaload, 1) := by decide +kernel
theorem d_X11_no_8 : decode cm_X11_no 8 = .ok (.iconst 1, 1) := by decide +kernel
theorem d_X11_no_9 : decode cm_X11_no 9 = .ok (.iadd, 1) := by decide +kernel
theorem d_X11_no_10 : decode cm_X11_no 10 = .ok (.iastore, 1) := by decide +kernel
theorem d_X11_no_11 : decode cm_X11_no 11 = .ok (.iload_n 1, 1) := by decide +kernel
theorem d_X11_no_12 : decode cm_X11_no 12 = .ok (.ireturn, 1) := by decide +kernel
def D_X11_no_0 (Q : Int32 → GSt → Prop) (x1 : Int32) (σ : GSt) : Prop :=
  vp_in (-x1) 7 ∧ (vp_in (-x1) 7 ∧ (∀ σ_1 : GSt, σ_1 = up2 σ 238 (Int32.toNatClampNeg (-x1)) ((σ 238 (Int32.toNatClampNeg (-x1))) + 1) → (Q x1 σ_1)))
def D_X11_no (x1 : Int32) (σ : GSt) (Q : Int32 → GSt → Prop) : Prop := D_X11_no_0 Q x1 σ
set_option maxRecDepth 20000 in
set_option maxHeartbeats 4000000 in
theorem s_X11_no_0 {p : Program} {l : Launch} {e : Env} {s : State} {m : MethodId} {args : Array Value} {below : List Frame} {meth : Method} {c : Code} {G : GC} (X : CallFix p m c cm_X11_no 2 s args lw_us "GameLoomModel") (hr : meth.sig.returnType = some .int) (hlk : meth.locks = false) (Q : Int32 → GSt → Prop) (x1 : Int32) (σ : GSt) {H : Heap} {locs : List Loc} {ls : Array Slot} (hw : Wo G s H locs σ) (hl : lv_has ls 2 [(0, .ref (G.2.1 237)), (1, .int x1)]) (hD : D_X11_no_0 Q x1 σ) : W p l e rm_X11_no s m args below meth c H locs 0 0 (QMI G Q below args s) (F0 m 0 ls []) := by
  unfold D_X11_no_0 at hD
  refine lv_aload_n X.1 X.2.1 d_X11_no_0 rfl (lv_at hl 0 rfl) ?_
  refine gf_11_0 X hw (by decide +kernel : kd 237 = 11) tb_906 d_X11_no_1 ?_
  refine lv_iload_n X.1 X.2.1 d_X11_no_4 rfl (lv_at hl 1 rfl) ?_
  refine lv_ineg X.1 X.2.1 d_X11_no_5 ?_
  refine lv_dup2_11 X.1 X.2.1 d_X11_no_6 rfl rfl ?_
  obtain ⟨q_7, hD⟩ := hD
  refine g_iald X hw ly_11_0.1 ly_11_0.2 q_7 d_X11_no_7 ?_
  refine lv_iconst (v := 1) X.1 X.2.1 d_X11_no_8 (by decide) ?_
  refine lv_iadd X.1 X.2.1 d_X11_no_9 ?_
  obtain ⟨q_10, hD⟩ := hD
  refine g_iast X hw ly_11_0.1 ly_11_0.2 q_10 d_X11_no_10 (fun H locs hw => ?_)
  obtain ⟨σ_1, e_σ_1⟩ : ∃ z : GSt, z = up2 σ 238 (Int32.toNatClampNeg (-x1)) ((σ 238 (Int32.toNatClampNeg (-x1))) + 1) := ⟨_, rfl⟩
  rw [← e_σ_1] at hw
  have hD := hD σ_1 e_σ_1
  refine lv_iload_n X.1 X.2.1 d_X11_no_11 rfl (lv_at hl 1 rfl) ?_
  exact g_iret X hr hlk hw hD d_X11_no_12
theorem c_X11_no (l : Launch) (G : GC) (x1 : Int32) (σ : GSt) (Q : Int32 → GSt → Prop)  (hD : D_X11_no x1 σ Q) : MI l ym_X11_no cm_X11_no 2 .int rm_X11_no G σ [.ref (G.2.1 237), .int x1] Q := by
  refine met_i (by decide) (Nat.le_of_ble_eq_true rfl) ?_
  intro p e s m args below meth c X hr hlk hw ls hl
  exact s_X11_no_0 X hr hlk Q  x1 σ hw (lv_sub hl [0, 1] rfl) hD
theorem hd_X11_isIn : ym_X11_isIn.cls ≠ "java/lang/invoke/MethodHandle" ∧ ym_X11_isIn.cls ≠ "java/lang/invoke/VarHandle" ∧ (parseMethodDescriptor ym_X11_isIn.desc).map (fun d => d.parameters.length) = some 3 := by decide +kernel
abbrev rm_X11_isIn : Room := { frames := 0, cells := 0, slots := 0, locals := 0 }
theorem d_X11_isIn_0 : decode cm_X11_isIn 0 = .ok (.lload_n 0, 1) := by decide +kernel
theorem d_X11_isIn_1 : decode cm_X11_isIn 1 = .ok (.lload_n 2, 1) := by decide +kernel
theorem d_X11_isIn_2 : decode cm_X11_isIn 2 = .ok (.lcmp, 1) := by decide +kernel
theorem d_X11_isIn_3 : decode cm_X11_isIn 3 = .ok (.ifCond .lt 14, 3) := by decide +kernel
theorem d_X11_isIn_6 : decode cm_X11_isIn 6 = .ok (.lload_n 0, 1) := by decide +kernel
theorem d_X11_isIn_7 : decode cm_X11_isIn 7 = .ok (.lload 4, 2) := by decide +kernel
theorem d_X11_isIn_9 : decode cm_X11_isIn 9 = .ok (.lcmp, 1) := by decide +kernel
theorem d_X11_isIn_10 : decode cm_X11_isIn 10 = .ok (.ifCond .gt 7, 3) := by decide +kernel
theorem d_X11_isIn_13 : decode cm_X11_isIn 13 = .ok (.iconst 1, 1) := by decide +kernel
theorem d_X11_isIn_14 : decode cm_X11_isIn 14 = .ok (.goto 4, 3) := by decide +kernel
theorem d_X11_isIn_17 : decode cm_X11_isIn 17 = .ok (.iconst 0, 1) := by decide +kernel
theorem d_X11_isIn_18 : decode cm_X11_isIn 18 = .ok (.ireturn, 1) := by decide +kernel
def D_X11_isIn_0 (Q : Int32 → GSt → Prop) (l0 : Int64) (l2 : Int64) (l4 : Int64) (σ : GSt) : Prop :=
  ((lg_cmp l0 l2) < 0 → Q 0 σ) ∧
  (¬ (lg_cmp l0 l2) < 0 → (0 < (lg_cmp l0 l4) → Q 0 σ) ∧
  (¬ 0 < (lg_cmp l0 l4) → Q 1 σ))
def D_X11_isIn (l0 : Int64) (l2 : Int64) (l4 : Int64) (σ : GSt) (Q : Int32 → GSt → Prop) : Prop := D_X11_isIn_0 Q l0 l2 l4 σ
set_option maxRecDepth 20000 in
set_option maxHeartbeats 4000000 in
theorem s_X11_isIn_0 {p : Program} {l : Launch} {e : Env} {s : State} {m : MethodId} {args : Array Value} {below : List Frame} {meth : Method} {c : Code} {G : GC} (X : CallFix p m c cm_X11_isIn 6 s args lw_us "GameLoomModel") (hr : meth.sig.returnType = some .boolean) (hlk : meth.locks = false) (Q : Int32 → GSt → Prop) (l0 : Int64) (l2 : Int64) (l4 : Int64) (σ : GSt) {H : Heap} {locs : List Loc} {ls : Array Slot} (hw : Wo G s H locs σ) (hl : lv_has ls 6 [(0, .long l0), (2, .long l2), (4, .long l4)]) (hD : D_X11_isIn_0 Q l0 l2 l4 σ) : W p l e rm_X11_isIn s m args below meth c H locs 0 0 (QMI G Q below args s) (F0 m 0 ls []) := by
  unfold D_X11_isIn_0 at hD
  refine lv_lload_n X.1 X.2.1 d_X11_isIn_0 rfl (lv_at hl 0 rfl) ?_
  refine lv_lload_n X.1 X.2.1 d_X11_isIn_1 rfl (lv_at hl 1 rfl) ?_
  refine W.lcmp X.1 X.2.1 d_X11_isIn_2 ?_
  refine lv_if_lt (tgt := 17) X.1 X.2.1 d_X11_isIn_3 (by decide) (fun q_3 => ?_) (fun q_3 => ?_)
  · have hD := hD.1 q_3
    refine lv_iconst (v := 0) X.1 X.2.1 d_X11_isIn_17 (by decide) ?_
    exact g_zret X hr hlk hw (by decide) hD d_X11_isIn_18
  · have hD := hD.2 q_3
    refine lv_lload_n X.1 X.2.1 d_X11_isIn_6 rfl (lv_at hl 0 rfl) ?_
    refine lv_lload X.1 X.2.1 d_X11_isIn_7 (lv_at hl 2 rfl) ?_
    refine W.lcmp X.1 X.2.1 d_X11_isIn_9 ?_
    refine lv_if_gt (tgt := 17) X.1 X.2.1 d_X11_isIn_10 (by decide) (fun q_10 => ?_) (fun q_10 => ?_)
    · have hD := hD.1 q_10
      refine lv_iconst (v := 0) X.1 X.2.1 d_X11_isIn_17 (by decide) ?_
      exact g_zret X hr hlk hw (by decide) hD d_X11_isIn_18
    · have hD := hD.2 q_10
      refine lv_iconst (v := 1) X.1 X.2.1 d_X11_isIn_13 (by decide) ?_
      refine lv_goto (tgt := 18) X.1 X.2.1 d_X11_isIn_14 (by decide) ?_
      exact g_zret X hr hlk hw (by decide) hD d_X11_isIn_18
theorem c_X11_isIn (l : Launch) (G : GC) (l0 : Int64) (l2 : Int64) (l4 : Int64) (σ : GSt) (Q : Int32 → GSt → Prop)  (hD : D_X11_isIn l0 l2 l4 σ Q) : MI l ym_X11_isIn cm_X11_isIn 6 .boolean rm_X11_isIn G σ [.long l0, .long l2, .long l4] Q := by
  refine met_i (by decide) (Nat.le_of_ble_eq_true rfl) ?_
  intro p e s m args below meth c X hr hlk hw ls hl
  exact s_X11_isIn_0 X hr hlk Q  l0 l2 l4 σ hw (lv_sub hl [0, 1, 2] rfl) hD
theorem hd_X11_out : ym_X11_out.cls ≠ "java/lang/invoke/MethodHandle" ∧ ym_X11_out.cls ≠ "java/lang/invoke/VarHandle" ∧ (parseMethodDescriptor ym_X11_out.desc).map (fun d => d.parameters.length) = some 3 := by decide +kernel
abbrev rm_X11_out : Room := { frames := 0, cells := 0, slots := 0, locals := 0 }
theorem d_X11_out_0 : decode cm_X11_out 0 = .ok (.lload_n 0, 1) := by decide +kernel
theorem d_X11_out_1 : decode cm_X11_out 1 = .ok (.lload_n 2, 1) := by decide +kernel
theorem d_X11_out_2 : decode cm_X11_out 2 = .ok (.lcmp, 1) := by decide +kernel
theorem d_X11_out_3 : decode cm_X11_out 3 = .ok (.ifCond .ge 8, 3) := by decide +kernel
theorem d_X11_out_6 : decode cm_X11_out 6 = .ok (.bipush (-4), 2) := by decide +kernel
theorem d_X11_out_8 : decode cm_X11_out 8 = .ok (.goto 16, 3) := by decide +kernel
theorem d_X11_out_11 : decode cm_X11_out 11 = .ok (.lload_n 0, 1) := by decide +kernel
theorem d_X11_out_12 : decode cm_X11_out 12 = .ok (.lload 4, 2) := by decide +kernel
theorem d_X11_out_14 : decode cm_X11_out 14 = .ok (.lcmp, 1) := by decide +kernel
theorem d_X11_out_15 : decode cm_X11_out 15 = .ok (.ifCond .le 8, 3) := by decide +kernel
theorem d_X11_out_18 : decode cm_X11_out 18 = .ok (.bipush (-6), 2) := by decide +kernel
theorem d_X11_out_20 : decode cm_X11_out 20 = .ok (.goto 4, 3) := by decide +kernel
theorem d_X11_out_23 : decode cm_X11_out 23 = .ok (.iconst 0, 1) := by decide +kernel
theorem d_X11_out_24 : decode cm_X11_out 24 = .ok (.ireturn, 1) := by decide +kernel
def D_X11_out_0 (Q : Int32 → GSt → Prop) (l0 : Int64) (l2 : Int64) (l4 : Int64) (σ : GSt) : Prop :=
  (0 ≤ (lg_cmp l0 l2) → ((lg_cmp l0 l4) ≤ 0 → Q 0 σ) ∧
  (¬ (lg_cmp l0 l4) ≤ 0 → Q (-6) σ)) ∧
  (¬ 0 ≤ (lg_cmp l0 l2) → Q (-4) σ)
def D_X11_out (l0 : Int64) (l2 : Int64) (l4 : Int64) (σ : GSt) (Q : Int32 → GSt → Prop) : Prop := D_X11_out_0 Q l0 l2 l4 σ
set_option maxRecDepth 20000 in
set_option maxHeartbeats 4000000 in
theorem s_X11_out_0 {p : Program} {l : Launch} {e : Env} {s : State} {m : MethodId} {args : Array Value} {below : List Frame} {meth : Method} {c : Code} {G : GC} (X : CallFix p m c cm_X11_out 6 s args lw_us "GameLoomModel") (hr : meth.sig.returnType = some .int) (hlk : meth.locks = false) (Q : Int32 → GSt → Prop) (l0 : Int64) (l2 : Int64) (l4 : Int64) (σ : GSt) {H : Heap} {locs : List Loc} {ls : Array Slot} (hw : Wo G s H locs σ) (hl : lv_has ls 6 [(0, .long l0), (2, .long l2), (4, .long l4)]) (hD : D_X11_out_0 Q l0 l2 l4 σ) : W p l e rm_X11_out s m args below meth c H locs 0 0 (QMI G Q below args s) (F0 m 0 ls []) := by
  unfold D_X11_out_0 at hD
  refine lv_lload_n X.1 X.2.1 d_X11_out_0 rfl (lv_at hl 0 rfl) ?_
  refine lv_lload_n X.1 X.2.1 d_X11_out_1 rfl (lv_at hl 1 rfl) ?_
  refine W.lcmp X.1 X.2.1 d_X11_out_2 ?_
  refine lv_if_ge (tgt := 11) X.1 X.2.1 d_X11_out_3 (by decide) (fun q_3 => ?_) (fun q_3 => ?_)
  · have hD := hD.1 q_3
    refine lv_lload_n X.1 X.2.1 d_X11_out_11 rfl (lv_at hl 0 rfl) ?_
    refine lv_lload X.1 X.2.1 d_X11_out_12 (lv_at hl 2 rfl) ?_
    refine W.lcmp X.1 X.2.1 d_X11_out_14 ?_
    refine lv_if_le (tgt := 23) X.1 X.2.1 d_X11_out_15 (by decide) (fun q_15 => ?_) (fun q_15 => ?_)
    · have hD := hD.1 q_15
      refine lv_iconst (v := 0) X.1 X.2.1 d_X11_out_23 (by decide) ?_
      exact g_iret X hr hlk hw hD d_X11_out_24
    · have hD := hD.2 q_15
      refine lv_bipush (v := (-6)) X.1 X.2.1 d_X11_out_18 (by decide) ?_
      refine lv_goto (tgt := 24) X.1 X.2.1 d_X11_out_20 (by decide) ?_
      exact g_iret X hr hlk hw hD d_X11_out_24
  · have hD := hD.2 q_3
    refine lv_bipush (v := (-4)) X.1 X.2.1 d_X11_out_6 (by decide) ?_
    refine lv_goto (tgt := 24) X.1 X.2.1 d_X11_out_8 (by decide) ?_
    exact g_iret X hr hlk hw hD d_X11_out_24
theorem c_X11_out (l : Launch) (G : GC) (l0 : Int64) (l2 : Int64) (l4 : Int64) (σ : GSt) (Q : Int32 → GSt → Prop)  (hD : D_X11_out l0 l2 l4 σ Q) : MI l ym_X11_out cm_X11_out 6 .int rm_X11_out G σ [.long l0, .long l2, .long l4] Q := by
  refine met_i (by decide) (Nat.le_of_ble_eq_true rfl) ?_
  intro p e s m args below meth c X hr hlk hw ls hl
  exact s_X11_out_0 X hr hlk Q  l0 l2 l4 σ hw (lv_sub hl [0, 1, 2] rfl) hD
theorem hd_X11_feed : ym_X11_feed.cls = "GameLoomModel" ∧ ym_X11_feed.cls ≠ "java/lang/invoke/MethodHandle" ∧ ym_X11_feed.cls ≠ "java/lang/invoke/VarHandle" ∧ (parseMethodDescriptor ym_X11_feed.desc).map (fun d => d.parameters.length) = some 2 := by decide +kernel
abbrev rm_X11_feed : Room := { frames := 1, cells := 0, slots := 0, locals := 25 }
theorem d_X11_feed_0 : decode cm_X11_feed 0 = .ok (.iload_n 1, 1) := by decide +kernel
theorem d_X11_feed_1 : decode cm_X11_feed 1 = .ok (.i2l, 1) := by decide +kernel
theorem d_X11_feed_2 : decode cm_X11_feed 2 = .ok (.lconst 1, 1) := by decide +kernel
theorem d_X11_feed_3 : decode cm_X11_feed 3 = .ok (.ldc2_w 138, 3) := by decide +kernel
theorem d_X11_feed_6 : decode cm_X11_feed 6 = .ok (.invokestatic 140, 3) := by decide +kernel
theorem d_X11_feed_9 : decode cm_X11_feed 9 = .ok (.istore 4, 2) := by decide +kernel
theorem d_X11_feed_11 : decode cm_X11_feed 11 = .ok (.iload 4, 2) := by decide +kernel
theorem d_X11_feed_13 : decode cm_X11_feed 13 = .ok (.ifCond .ne 18, 3) := by decide +kernel
theorem d_X11_feed_16 : decode cm_X11_feed 16 = .ok (.aload_n 0, 1) := by decide +kernel
theorem d_X11_feed_17 : decode cm_X11_feed 17 = .ok (.getfield 144, 3) := by decide +kernel
theorem d_X11_feed_20 : decode cm_X11_feed 20 = .ok (.iload_n 1, 1) := by decide +kernel
theorem d_X11_feed_21 : decode cm_X11_feed 21 = .ok (.iadd, 1) := by decide +kernel
theorem d_X11_feed_22 : decode cm_X11_feed 22 = .ok (.bipush 90, 2) := by decide +kernel
theorem d_X11_feed_24 : decode cm_X11_feed 24 = .ok (.if_icmp .le 7, 3) := by decide +kernel
theorem d_X11_feed_27 : decode cm_X11_feed 27 = .ok (.bipush (-6), 2) := by decide +kernel
theorem d_X11_feed_29 : decode cm_X11_feed 29 = .ok (.istore 4, 2) := by decide +kernel
theorem d_X11_feed_31 : decode cm_X11_feed 31 = .ok (.iload 4, 2) := by decide +kernel
theorem d_X11_feed_33 : decode cm_X11_feed 33 = .ok (.ifCond .eq 10, 3) := by decide +kernel
theorem d_X11_feed_36 : decode cm_X11_feed 36 = .ok (.aload_n 0, 1) := by decide +kernel
theorem d_X11_feed_37 : decode cm_X11_feed 37 = .ok (.iload 4, 2) := by decide +kernel
theorem d_X11_feed_39 : decode cm_X11_feed 39 = .ok (.invokevirtual 147, 3) := by decide +kernel
theorem d_X11_feed_42 : decode cm_X11_feed 42 = .ok (.ireturn, 1) := by decide +kernel
theorem d_X11_feed_43 : decode cm_X11_feed 43 = .ok (.iconst 0, 1) := by decide +kernel
theorem d_X11_feed_44 : decode cm_X11_feed 44 = .ok (.istore 5, 2) := by decide +kernel
theorem d_X11_feed_46 : decode cm_X11_feed 46 = .ok (.iload 5, 2) := by decide +kernel
theorem d_X11_feed_48 : decode cm_X11_feed 48 = .ok (.iload_n 1, 1) := by decide +kernel
theorem d_X11_feed_49 : decode cm_X11_feed 49 = .ok (.if_icmp .ge 40, 3) := by decide +kernel
theorem d_X11_feed_52 : decode cm_X11_feed 52 = .ok (.aload_n 0, 1) := by decide +kernel
theorem d_X11_feed_53 : decode cm_X11_feed 53 = .ok (.getfield 13, 3) := by decide +kernel
theorem d_X11_feed_56 : decode cm_X11_feed 56 = .ok (.aload_n 0, 1) := by decide +kernel
theorem d_X11_feed_57 : decode cm_X11_feed 57 = .ok (.getfield 144, 3) := by decide +kernel
theorem d_X11_feed_60 : decode cm_X11_feed 60 = .ok (.lload_n 2, 1) := by decide +kernel
theorem d_X11_feed_61 : decode cm_X11_feed 61 = .ok (.bipush 8, 2) := by decide +kernel
theorem d_X11_feed_63 : decode cm_X11_feed 63 = .ok (.iload 5, 2) := by decide +kernel
theorem d_X11_feed_65 : decode cm_X11_feed 65 = .ok (.imul, 1) := by decide +kernel
theorem d_X11_feed_66 : decode cm_X11_feed 66 = .ok (.lshr, 1) := by decide +kernel
theorem d_X11_feed_67 : decode cm_X11_feed 67 = .ok (.ldc2_w 151, 3) := by decide +kernel
theorem d_X11_feed_70 : decode cm_X11_feed 70 = .ok (.land, 1) := by decide +kernel
theorem d_X11_feed_71 : decode cm_X11_feed 71 = .ok (.l2i, 1) := by decide +kernel
theorem d_X11_feed_72 : decode cm_X11_feed 72 = .ok (.iastore, 1) := by decide +kernel
theorem d_X11_feed_73 : decode cm_X11_feed 73 = .ok (.aload_n 0, 1) := by decide +kernel
theorem d_X11_feed_74 : decode cm_X11_feed 74 = .ok (.dup, 1) := by decide +kernel
theorem d_X11_feed_75 : decode cm_X11_feed 75 = .ok (.getfield 144, 3) := by decide +kernel
theorem d_X11_feed_78 : decode cm_X11_feed 78 = .ok (.iconst 1, 1) := by decide +kernel
theorem d_X11_feed_79 : decode cm_X11_feed 79 = .ok (.iadd, 1) := by decide +kernel
theorem d_X11_feed_80 : decode cm_X11_feed 80 = .ok (.putfield 144, 3) := by decide +kernel
theorem d_X11_feed_83 : decode cm_X11_feed 83 = .ok (.iinc 5 1, 3) := by decide +kernel
theorem d_X11_feed_86 : decode cm_X11_feed 86 = .ok (.goto (-40), 3) := by decide +kernel
theorem d_X11_feed_89 : decode cm_X11_feed 89 = .ok (.aload_n 0, 1) := by decide +kernel
theorem d_X11_feed_90 : decode cm_X11_feed 90 = .ok (.getfield 144, 3) := by decide +kernel
theorem d_X11_feed_93 : decode cm_X11_feed 93 = .ok (.ireturn, 1) := by decide +kernel
def D_X11_feed_46 (K46 : Int32 → Int64 → Int32 → GSt → Prop) (Q : Int32 → GSt → Prop) (x1 : Int32) (l2 : Int64) (x5 : Int32) (σ : GSt) : Prop :=
  (x1 ≤ x5 → Q (σ 237 19) σ) ∧
  (¬ x1 ≤ x5 → vp_in (σ 237 19) 90 ∧ (∀ σ_1 : GSt, σ_1 = up2 σ 239 (Int32.toNatClampNeg (σ 237 19)) (Int64.toInt32 ((jlshr l2 (8 * x5)) &&& 255)) → (∀ σ_2 : GSt, σ_2 = up2 σ_1 237 19 ((σ_1 237 19) + 1) → (∀ x5_3 : Int32, x5_3 = x5 + 1 → (K46 x1 l2 x5_3 σ_2)))))
def L_X11_feed_46 (Q : Int32 → GSt → Prop) : Nat → Int32 → Int64 → Int32 → GSt → Prop
  | 0 => fun _ _ _ _ => False
  | n + 1 => fun x1 l2 x5 σ => D_X11_feed_46 (L_X11_feed_46 Q n) Q x1 l2 x5 σ
def D_X11_feed_31 (Q : Int32 → GSt → Prop) (x1 : Int32) (l2 : Int64) (x4 : Int32) (σ : GSt) : Prop :=
  (x4 = 0 → ∃ n : Nat, L_X11_feed_46 Q n x1 l2 0 σ) ∧
  (¬ x4 = 0 → D_X11_no x4 σ (fun r_1 σ_2 => Q r_1 σ_2))
def D_X11_feed_0 (Q : Int32 → GSt → Prop) (x1 : Int32) (l2 : Int64) (σ : GSt) : Prop :=
  D_X11_out (Int32.toInt64 x1) 1 8 σ (fun r_1 σ_2 => (¬ r_1 = 0 → D_X11_feed_31 Q x1 l2 r_1 σ_2) ∧
  (r_1 = 0 → (((σ_2 237 19) + x1) ≤ 90 → D_X11_feed_31 Q x1 l2 r_1 σ_2) ∧
  (¬ ((σ_2 237 19) + x1) ≤ 90 → D_X11_feed_31 Q x1 l2 (-6) σ_2)))
def D_X11_feed (x1 : Int32) (l2 : Int64) (σ : GSt) (Q : Int32 → GSt → Prop) : Prop := D_X11_feed_0 Q x1 l2 σ
set_option maxRecDepth 20000 in
set_option maxHeartbeats 4000000 in
theorem s_X11_feed_46 {p : Program} {l : Launch} {e : Env} {s : State} {m : MethodId} {args : Array Value} {below : List Frame} {meth : Method} {c : Code} {G : GC} (X : CallFix p m c cm_X11_feed 6 s args lw_us "GameLoomModel") (hr : meth.sig.returnType = some .int) (hlk : meth.locks = false) (K46 : Int32 → Int64 → Int32 → GSt → Prop) (Q : Int32 → GSt → Prop) (hK46 : ∀ (x1 : Int32) (l2 : Int64) (x5 : Int32) (σ : GSt) (H : Heap) (locs : List Loc) (ls : Array Slot), Wo G s H locs σ → lv_has ls 6 [(0, .ref (G.2.1 237)), (1, .int x1), (2, .long l2), (5, .int x5)] → K46 x1 l2 x5 σ → W p l e rm_X11_feed s m args below meth c H locs 0 0 (QMI G Q below args s) (F0 m 46 ls [])) (x1 : Int32) (l2 : Int64) (x5 : Int32) (σ : GSt) {H : Heap} {locs : List Loc} {ls : Array Slot} (hw : Wo G s H locs σ) (hl : lv_has ls 6 [(0, .ref (G.2.1 237)), (1, .int x1), (2, .long l2), (5, .int x5)]) (hD : D_X11_feed_46 K46 Q x1 l2 x5 σ) : W p l e rm_X11_feed s m args below meth c H locs 0 0 (QMI G Q below args s) (F0 m 46 ls []) := by
  unfold D_X11_feed_46 at hD
  refine lv_iload X.1 X.2.1 d_X11_feed_46 (lv_at hl 3 rfl) ?_
  refine lv_iload_n X.1 X.2.1 d_X11_feed_48 rfl (lv_at hl 1 rfl) ?_
  refine lv_icmp_ge (tgt := 89) X.1 X.2.1 d_X11_feed_49 (by decide) (fun q_49 => ?_) (fun q_49 => ?_)
  · have hD := hD.1 q_49
    refine lv_aload_n X.1 X.2.1 d_X11_feed_89 rfl (lv_at hl 0 rfl) ?_
    refine gf_11_19 X hw (by decide +kernel : kd 237 = 11) tb_925 d_X11_feed_90 ?_
    exact g_iret X hr hlk hw hD d_X11_feed_93
  · have hD := hD.2 q_49
    refine lv_aload_n X.1 X.2.1 d_X11_feed_52 rfl (lv_at hl 0 rfl) ?_
    refine gf_11_1 X hw (by decide +kernel : kd 237 = 11) tb_907 d_X11_feed_53 ?_
    refine lv_aload_n X.1 X.2.1 d_X11_feed_56 rfl (lv_at hl 0 rfl) ?_
    refine gf_11_19 X hw (by decide +kernel : kd 237 = 11) tb_925 d_X11_feed_57 ?_
    refine lv_lload_n X.1 X.2.1 d_X11_feed_60 rfl (lv_at hl 2 rfl) ?_
    refine lv_bipush (v := 8) X.1 X.2.1 d_X11_feed_61 (by decide) ?_
    refine lv_iload X.1 X.2.1 d_X11_feed_63 (lv_at hl 3 rfl) ?_
    refine lv_imul X.1 X.2.1 d_X11_feed_65 ?_
    refine lv_lshr (v := (jlshr l2 (8 * x5))) X.1 X.2.1 d_X11_feed_66 rfl ?_
    refine lv_ldc2 (v := 255) X.1 X.2.1 X.2.2.2.1 (X.2.2.2.2 _ tb_1088) d_X11_feed_67 ?_
    refine lv_land X.1 X.2.1 d_X11_feed_70 ?_
    refine lv_l2i (v := (Int64.toInt32 ((jlshr l2 (8 * x5)) &&& 255))) X.1 X.2.1 d_X11_feed_71 rfl ?_
    obtain ⟨q_72, hD⟩ := hD
    refine g_iast X hw ly_11_1.1 ly_11_1.2 q_72 d_X11_feed_72 (fun H locs hw => ?_)
    obtain ⟨σ_1, e_σ_1⟩ : ∃ z : GSt, z = up2 σ 239 (Int32.toNatClampNeg (σ 237 19)) (Int64.toInt32 ((jlshr l2 (8 * x5)) &&& 255)) := ⟨_, rfl⟩
    rw [← e_σ_1] at hw
    have hD := hD σ_1 e_σ_1
    refine lv_aload_n X.1 X.2.1 d_X11_feed_73 rfl (lv_at hl 0 rfl) ?_
    refine lv_dup X.1 X.2.1 d_X11_feed_74 rfl ?_
    refine gf_11_19 X hw (by decide +kernel : kd 237 = 11) tb_925 d_X11_feed_75 ?_
    refine lv_iconst (v := 1) X.1 X.2.1 d_X11_feed_78 (by decide) ?_
    refine lv_iadd X.1 X.2.1 d_X11_feed_79 ?_
    refine pf_11_19 X hw (by decide +kernel : kd 237 = 11) tb_925 d_X11_feed_80 (fun H locs hw => ?_)
    obtain ⟨σ_2, e_σ_2⟩ : ∃ z : GSt, z = up2 σ_1 237 19 ((σ_1 237 19) + 1) := ⟨_, rfl⟩
    rw [← e_σ_2] at hw
    have hD := hD σ_2 e_σ_2
    obtain ⟨x5_3, e_x5_3⟩ : ∃ y : Int32, y = x5 + 1 := ⟨_, rfl⟩
    have hD := hD x5_3 e_x5_3
    refine lv_iinc (v := x5_3) (lv' := [(5, .int x5_3), (0, .ref (G.2.1 237)), (1, .int x1), (2, .long l2)]) X.1 X.2.1 d_X11_feed_83 hl (k := 3) rfl (by rw [e_x5_3]; rfl) (by decide) rfl (fun ls hl => ?_)
    refine lv_goto (tgt := 46) X.1 X.2.1 d_X11_feed_86 (by decide) ?_
    exact hK46 x1 l2 x5_3 σ_2 _ _ _  hw (lv_sub hl [1, 2, 3, 0] rfl) hD
set_option maxRecDepth 20000 in
set_option maxHeartbeats 4000000 in
theorem sl_X11_feed_46 {p : Program} {l : Launch} {e : Env} {s : State} {m : MethodId} {args : Array Value} {below : List Frame} {meth : Method} {c : Code} {G : GC} (X : CallFix p m c cm_X11_feed 6 s args lw_us "GameLoomModel") (hr : meth.sig.returnType = some .int) (hlk : meth.locks = false) (Q : Int32 → GSt → Prop) : ∀ (nn : Nat), ∀ (x1 : Int32) (l2 : Int64) (x5 : Int32) (σ : GSt) (H : Heap) (locs : List Loc) (ls : Array Slot), Wo G s H locs σ → lv_has ls 6 [(0, .ref (G.2.1 237)), (1, .int x1), (2, .long l2), (5, .int x5)] → L_X11_feed_46 Q nn x1 l2 x5 σ → W p l e rm_X11_feed s m args below meth c H locs 0 0 (QMI G Q below args s) (F0 m 46 ls []) := by
  intro nn
  induction nn with
  | zero => intro x1 l2 x5 σ H locs ls  hw hl hD; exact hD.elim
  | succ nn ih =>
    intro x1 l2 x5 σ H locs ls  hw hl hD
    exact s_X11_feed_46 X hr hlk (L_X11_feed_46 Q nn) Q ih x1 l2 x5 σ hw hl hD
set_option maxRecDepth 20000 in
set_option maxHeartbeats 4000000 in
theorem s_X11_feed_31 {p : Program} {l : Launch} {e : Env} {s : State} {m : MethodId} {args : Array Value} {below : List Frame} {meth : Method} {c : Code} {G : GC} (X : CallFix p m c cm_X11_feed 6 s args lw_us "GameLoomModel") (hr : meth.sig.returnType = some .int) (hlk : meth.locks = false) (Q : Int32 → GSt → Prop) (x1 : Int32) (l2 : Int64) (x4 : Int32) (σ : GSt) {H : Heap} {locs : List Loc} {ls : Array Slot} (hw : Wo G s H locs σ) (hl : lv_has ls 6 [(0, .ref (G.2.1 237)), (1, .int x1), (2, .long l2), (4, .int x4)]) (hD : D_X11_feed_31 Q x1 l2 x4 σ) : W p l e rm_X11_feed s m args below meth c H locs 0 0 (QMI G Q below args s) (F0 m 31 ls []) := by
  unfold D_X11_feed_31 at hD
  refine lv_iload X.1 X.2.1 d_X11_feed_31 (lv_at hl 3 rfl) ?_
  refine lv_if_eq (tgt := 43) X.1 X.2.1 d_X11_feed_33 (by decide) (fun q_33 => ?_) (fun q_33 => ?_)
  · have hD := hD.1 q_33
    refine lv_iconst (v := 0) X.1 X.2.1 d_X11_feed_43 (by decide) ?_
    refine lv_istore (lv' := [(5, .int 0), (0, .ref (G.2.1 237)), (1, .int x1), (2, .long l2), (4, .int x4)]) X.1 X.2.1 d_X11_feed_44 hl (by decide) rfl (fun ls hl => ?_)
    obtain ⟨n9, hD⟩ := hD
    exact sl_X11_feed_46 X hr hlk  Q  n9 x1 l2 0 σ _ _ _  hw (lv_sub hl [1, 2, 3, 0] rfl) hD
  · have hD := hD.2 q_33
    refine lv_aload_n X.1 X.2.1 d_X11_feed_36 rfl (lv_at hl 0 rfl) ?_
    refine lv_iload X.1 X.2.1 d_X11_feed_37 (lv_at hl 3 rfl) ?_
    refine gcV_i (rest := []) (As := [.int x4]) (o := 237) X hw (c_X11_no l G x4 σ _  hD) (kd_lt (by decide +kernel : kd 237 = 11) (by decide)) (ce_11 G _ (by decide +kernel : kd 237 = 11)) rfl tb_1084 tb_1086 tv_35 tb_12 tb_1087 hd_X11_no ⟨rfl, rfl⟩ ⟨Nat.le_of_ble_eq_true rfl, Nat.le_of_ble_eq_true rfl⟩ rfl hl.1 rfl (Nat.le_of_ble_eq_true rfl) d_X11_feed_39 (fun r_1 σ_2 H locs hD hw => ?_)
    exact g_iret X hr hlk hw hD d_X11_feed_42
set_option maxRecDepth 20000 in
set_option maxHeartbeats 4000000 in
theorem s_X11_feed_0 {p : Program} {l : Launch} {e : Env} {s : State} {m : MethodId} {args : Array Value} {below : List Frame} {meth : Method} {c : Code} {G : GC} (X : CallFix p m c cm_X11_feed 6 s args lw_us "GameLoomModel") (hr : meth.sig.returnType = some .int) (hlk : meth.locks = false) (Q : Int32 → GSt → Prop) (x1 : Int32) (l2 : Int64) (σ : GSt) {H : Heap} {locs : List Loc} {ls : Array Slot} (hw : Wo G s H locs σ) (hl : lv_has ls 6 [(0, .ref (G.2.1 237)), (1, .int x1), (2, .long l2)]) (hD : D_X11_feed_0 Q x1 l2 σ) : W p l e rm_X11_feed s m args below meth c H locs 0 0 (QMI G Q below args s) (F0 m 0 ls []) := by
  unfold D_X11_feed_0 at hD
  refine lv_iload_n X.1 X.2.1 d_X11_feed_0 rfl (lv_at hl 1 rfl) ?_
  refine lv_i2l (v := (Int32.toInt64 x1)) X.1 X.2.1 d_X11_feed_1 rfl ?_
  refine lv_lconst (v := 1) X.1 X.2.1 d_X11_feed_2 (by decide) ?_
  refine lv_ldc2 (v := 8) X.1 X.2.1 X.2.2.2.1 (X.2.2.2.2 _ tb_1080) d_X11_feed_3 ?_
  refine gcS_i (rest := []) (As := [.long (Int32.toInt64 x1), .long 1, .long 8]) X hw (c_X11_out l G (Int32.toInt64 x1) 1 8 σ _  hD) tb_1081 tb_1082 tb_12 tb_1083 hd_X11_out ⟨rfl, rfl⟩ ⟨Nat.le_of_ble_eq_true rfl, Nat.le_of_ble_eq_true rfl⟩ rfl hl.1 rfl (Nat.le_of_ble_eq_true rfl) d_X11_feed_6 (fun r_1 σ_2 H locs hD hw => ?_)
  refine lv_istore (lv' := [(4, .int r_1), (0, .ref (G.2.1 237)), (1, .int x1), (2, .long l2)]) X.1 X.2.1 d_X11_feed_9 hl (by decide) rfl (fun ls hl => ?_)
  refine lv_iload X.1 X.2.1 d_X11_feed_11 (lv_at hl 0 rfl) ?_
  refine lv_if_ne (tgt := 31) X.1 X.2.1 d_X11_feed_13 (by decide) (fun q_13 => ?_) (fun q_13 => ?_)
  · have hD := hD.1 q_13
    exact s_X11_feed_31 X hr hlk  Q  x1 l2 r_1 σ_2 hw (lv_sub hl [1, 2, 3, 0] rfl) hD
  · have hD := hD.2 q_13
    refine lv_aload_n X.1 X.2.1 d_X11_feed_16 rfl (lv_at hl 1 rfl) ?_
    refine gf_11_19 X hw (by decide +kernel : kd 237 = 11) tb_925 d_X11_feed_17 ?_
    refine lv_iload_n X.1 X.2.1 d_X11_feed_20 rfl (lv_at hl 2 rfl) ?_
    refine lv_iadd X.1 X.2.1 d_X11_feed_21 ?_
    refine lv_bipush (v := 90) X.1 X.2.1 d_X11_feed_22 (by decide) ?_
    refine lv_icmp_le (tgt := 31) X.1 X.2.1 d_X11_feed_24 (by decide) (fun q_24 => ?_) (fun q_24 => ?_)
    · have hD := hD.1 q_24
      exact s_X11_feed_31 X hr hlk  Q  x1 l2 r_1 σ_2 hw (lv_sub hl [1, 2, 3, 0] rfl) hD
    · have hD := hD.2 q_24
      refine lv_bipush (v := (-6)) X.1 X.2.1 d_X11_feed_27 (by decide) ?_
      refine lv_istore (lv' := [(4, .int (-6)), (0, .ref (G.2.1 237)), (1, .int x1), (2, .long l2)]) X.1 X.2.1 d_X11_feed_29 hl (by decide) rfl (fun ls hl => ?_)
      exact s_X11_feed_31 X hr hlk  Q  x1 l2 (-6) σ_2 hw (lv_sub hl [1, 2, 3, 0] rfl) hD
theorem c_X11_feed (l : Launch) (G : GC) (x1 : Int32) (l2 : Int64) (σ : GSt) (Q : Int32 → GSt → Prop)  (hD : D_X11_feed x1 l2 σ Q) : MI l ym_X11_feed cm_X11_feed 6 .int rm_X11_feed G σ [.ref (G.2.1 237), .int x1, .long l2] Q := by
  refine met_i (by decide) (Nat.le_of_ble_eq_true rfl) ?_
  intro p e s m args below meth c X hr hlk hw ls hl
  exact s_X11_feed_0 X hr hlk Q  x1 l2 σ hw (lv_sub hl [0, 1, 2] rfl) hD
theorem hd_X11_sign : ym_X11_sign.cls = "GameLoomModel" ∧ ym_X11_sign.cls ≠ "java/lang/invoke/MethodHandle" ∧ ym_X11_sign.cls ≠ "java/lang/invoke/VarHandle" ∧ (parseMethodDescriptor ym_X11_sign.desc).map (fun d => d.parameters.length) = some 0 := by decide +kernel
abbrev rm_X11_sign : Room := { frames := 0, cells := 0, slots := 0, locals := 0 }
theorem d_X11_sign_0 : decode cm_X11_sign 0 = .ok (.aload_n 0, 1) := by decide +kernel
theorem d_X11_sign_1 : decode cm_X11_sign 1 = .ok (.getfield 153, 3) := by decide +kernel
theorem d_X11_sign_4 : decode cm_X11_sign 4 = .ok (.aload_n 0, 1) := by decide +kernel
theorem d_X11_sign_5 : decode cm_X11_sign 5 = .ok (.getfield 19, 3) := by decide +kernel
theorem d_X11_sign_8 : decode cm_X11_sign 8 = .ok (.aload_n 0, 1) := by decide +kernel
theorem d_X11_sign_9 : decode cm_X11_sign 9 = .ok (.getfield 156, 3) := by decide +kernel
theorem d_X11_sign_12 : decode cm_X11_sign 12 = .ok (.iaload, 1) := by decide +kernel
theorem d_X11_sign_13 : decode cm_X11_sign 13 = .ok (.if_icmp .ge 23, 3) := by decide +kernel
theorem d_X11_sign_16 : decode cm_X11_sign 16 = .ok (.aload_n 0, 1) := by decide +kernel
theorem d_X11_sign_17 : decode cm_X11_sign 17 = .ok (.getfield 16, 3) := by decide +kernel
theorem d_X11_sign_20 : decode cm_X11_sign 20 = .ok (.bipush 90, 2) := by decide +kernel
theorem d_X11_sign_22 : decode cm_X11_sign 22 = .ok (.aload_n 0, 1) := by decide +kernel
theorem d_X11_sign_23 : decode cm_X11_sign 23 = .ok (.getfield 156, 3) := by decide +kernel
theorem d_X11_sign_26 : decode cm_X11_sign 26 = .ok (.imul, 1) := by decide +kernel
theorem d_X11_sign_27 : decode cm_X11_sign 27 = .ok (.aload_n 0, 1) := by decide +kernel
theorem d_X11_sign_28 : decode cm_X11_sign 28 = .ok (.getfield 153, 3) := by decide +kernel
theorem d_X11_sign_31 : decode cm_X11_sign 31 = .ok (.iadd, 1) := by decide +kernel
theorem d_X11_sign_32 : decode cm_X11_sign 32 = .ok (.iaload, 1) := by decide +kernel
theorem d_X11_sign_33 : decode cm_X11_sign 33 = .ok (.goto 4, 3) := by decide +kernel
theorem d_X11_sign_36 : decode cm_X11_sign 36 = .ok (.iconst (-1), 1) := by decide +kernel
theorem d_X11_sign_37 : decode cm_X11_sign 37 = .ok (.ireturn, 1) := by decide +kernel
def D_X11_sign_0 (Q : Int32 → GSt → Prop) (σ : GSt) : Prop :=
  vp_in (σ 237 22) 9 ∧ (((σ 241 (Int32.toNatClampNeg (σ 237 22))) ≤ (σ 237 21) → Q (-1) σ) ∧
  (¬ (σ 241 (Int32.toNatClampNeg (σ 237 22))) ≤ (σ 237 21) → vp_in ((90 * (σ 237 22)) + (σ 237 21)) 810 ∧ (Q (σ 240 (Int32.toNatClampNeg ((90 * (σ 237 22)) + (σ 237 21)))) σ)))
def D_X11_sign (σ : GSt) (Q : Int32 → GSt → Prop) : Prop := D_X11_sign_0 Q σ
set_option maxRecDepth 20000 in
set_option maxHeartbeats 4000000 in
theorem s_X11_sign_0 {p : Program} {l : Launch} {e : Env} {s : State} {m : MethodId} {args : Array Value} {below : List Frame} {meth : Method} {c : Code} {G : GC} (X : CallFix p m c cm_X11_sign 1 s args lw_us "GameLoomModel") (hr : meth.sig.returnType = some .int) (hlk : meth.locks = false) (Q : Int32 → GSt → Prop) (σ : GSt) {H : Heap} {locs : List Loc} {ls : Array Slot} (hw : Wo G s H locs σ) (hl : lv_has ls 1 [(0, .ref (G.2.1 237))]) (hD : D_X11_sign_0 Q σ) : W p l e rm_X11_sign s m args below meth c H locs 0 0 (QMI G Q below args s) (F0 m 0 ls []) := by
  unfold D_X11_sign_0 at hD
  refine lv_aload_n X.1 X.2.1 d_X11_sign_0 rfl (lv_at hl 0 rfl) ?_
  refine gf_11_21 X hw (by decide +kernel : kd 237 = 11) tb_927 d_X11_sign_1 ?_
  refine lv_aload_n X.1 X.2.1 d_X11_sign_4 rfl (lv_at hl 0 rfl) ?_
  refine gf_11_3 X hw (by decide +kernel : kd 237 = 11) tb_909 d_X11_sign_5 ?_
  refine lv_aload_n X.1 X.2.1 d_X11_sign_8 rfl (lv_at hl 0 rfl) ?_
  refine gf_11_22 X hw (by decide +kernel : kd 237 = 11) tb_928 d_X11_sign_9 ?_
  obtain ⟨q_12, hD⟩ := hD
  refine g_iald X hw ly_11_3.1 ly_11_3.2 q_12 d_X11_sign_12 ?_
  refine lv_icmp_ge (tgt := 36) X.1 X.2.1 d_X11_sign_13 (by decide) (fun q_13 => ?_) (fun q_13 => ?_)
  · have hD := hD.1 q_13
    refine lv_iconst (v := (-1)) X.1 X.2.1 d_X11_sign_36 (by decide) ?_
    exact g_iret X hr hlk hw hD d_X11_sign_37
  · have hD := hD.2 q_13
    refine lv_aload_n X.1 X.2.1 d_X11_sign_16 rfl (lv_at hl 0 rfl) ?_
    refine gf_11_2 X hw (by decide +kernel : kd 237 = 11) tb_908 d_X11_sign_17 ?_
    refine lv_bipush (v := 90) X.1 X.2.1 d_X11_sign_20 (by decide) ?_
    refine lv_aload_n X.1 X.2.1 d_X11_sign_22 rfl (lv_at hl 0 rfl) ?_
    refine gf_11_22 X hw (by decide +kernel : kd 237 = 11) tb_928 d_X11_sign_23 ?_
    refine lv_imul X.1 X.2.1 d_X11_sign_26 ?_
    refine lv_aload_n X.1 X.2.1 d_X11_sign_27 rfl (lv_at hl 0 rfl) ?_
    refine gf_11_21 X hw (by decide +kernel : kd 237 = 11) tb_927 d_X11_sign_28 ?_
    refine lv_iadd X.1 X.2.1 d_X11_sign_31 ?_
    obtain ⟨q_32, hD⟩ := hD
    refine g_iald X hw ly_11_2.1 ly_11_2.2 q_32 d_X11_sign_32 ?_
    refine lv_goto (tgt := 37) X.1 X.2.1 d_X11_sign_33 (by decide) ?_
    exact g_iret X hr hlk hw hD d_X11_sign_37
theorem c_X11_sign (l : Launch) (G : GC) (σ : GSt) (Q : Int32 → GSt → Prop)  (hD : D_X11_sign  σ Q) : MI l ym_X11_sign cm_X11_sign 1 .int rm_X11_sign G σ [.ref (G.2.1 237)] Q := by
  refine met_i (by decide) (Nat.le_of_ble_eq_true rfl) ?_
  intro p e s m args below meth c X hr hlk hw ls hl
  exact s_X11_sign_0 X hr hlk Q   σ hw (lv_sub hl [0] rfl) hD
theorem hd_X11_takes : ym_X11_takes.cls = "GameLoomModel" ∧ ym_X11_takes.cls ≠ "java/lang/invoke/MethodHandle" ∧ ym_X11_takes.cls ≠ "java/lang/invoke/VarHandle" ∧ (parseMethodDescriptor ym_X11_takes.desc).map (fun d => d.parameters.length) = some 1 := by decide +kernel
abbrev rm_X11_takes : Room := { frames := 1, cells := 0, slots := 0, locals := 20 }
theorem d_X11_takes_0 : decode cm_X11_takes 0 = .ok (.aload_n 0, 1) := by decide +kernel
theorem d_X11_takes_1 : decode cm_X11_takes 1 = .ok (.invokevirtual 159, 3) := by decide +kernel
theorem d_X11_takes_4 : decode cm_X11_takes 4 = .ok (.iload_n 1, 1) := by decide +kernel
theorem d_X11_takes_5 : decode cm_X11_takes 5 = .ok (.if_icmp .eq 5, 3) := by decide +kernel
theorem d_X11_takes_8 : decode cm_X11_takes 8 = .ok (.iconst 0, 1) := by decide +kernel
theorem d_X11_takes_9 : decode cm_X11_takes 9 = .ok (.ireturn, 1) := by decide +kernel
theorem d_X11_takes_10 : decode cm_X11_takes 10 = .ok (.aload_n 0, 1) := by decide +kernel
theorem d_X11_takes_11 : decode cm_X11_takes 11 = .ok (.dup, 1) := by decide +kernel
theorem d_X11_takes_12 : decode cm_X11_takes 12 = .ok (.getfield 153, 3) := by decide +kernel
theorem d_X11_takes_15 : decode cm_X11_takes 15 = .ok (.iconst 1, 1) := by decide +kernel
theorem d_X11_takes_16 : decode cm_X11_takes 16 = .ok (.iadd, 1) := by decide +kernel
theorem d_X11_takes_17 : decode cm_X11_takes 17 = .ok (.putfield 153, 3) := by decide +kernel
theorem d_X11_takes_20 : decode cm_X11_takes 20 = .ok (.iconst 1, 1) := by decide +kernel
theorem d_X11_takes_21 : decode cm_X11_takes 21 = .ok (.ireturn, 1) := by decide +kernel
def D_X11_takes_0 (Q : Int32 → GSt → Prop) (x1 : Int32) (σ : GSt) : Prop :=
  D_X11_sign  σ (fun r_1 σ_2 => (r_1 = x1 → ∀ σ_3 : GSt, σ_3 = up2 σ_2 237 21 ((σ_2 237 21) + 1) → (Q 1 σ_3)) ∧
  (¬ r_1 = x1 → Q 0 σ_2))
def D_X11_takes (x1 : Int32) (σ : GSt) (Q : Int32 → GSt → Prop) : Prop := D_X11_takes_0 Q x1 σ
set_option maxRecDepth 20000 in
set_option maxHeartbeats 4000000 in
theorem s_X11_takes_0 {p : Program} {l : Launch} {e : Env} {s : State} {m : MethodId} {args : Array Value} {below : List Frame} {meth : Method} {c : Code} {G : GC} (X : CallFix p m c cm_X11_takes 2 s args lw_us "GameLoomModel") (hr : meth.sig.returnType = some .boolean) (hlk : meth.locks = false) (Q : Int32 → GSt → Prop) (x1 : Int32) (σ : GSt) {H : Heap} {locs : List Loc} {ls : Array Slot} (hw : Wo G s H locs σ) (hl : lv_has ls 2 [(0, .ref (G.2.1 237)), (1, .int x1)]) (hD : D_X11_takes_0 Q x1 σ) : W p l e rm_X11_takes s m args below meth c H locs 0 0 (QMI G Q below args s) (F0 m 0 ls []) := by
  unfold D_X11_takes_0 at hD
  refine lv_aload_n X.1 X.2.1 d_X11_takes_0 rfl (lv_at hl 0 rfl) ?_
  refine gcV_i (rest := []) (As := []) (o := 237) X hw (c_X11_sign l G  σ _  hD) (kd_lt (by decide +kernel : kd 237 = 11) (by decide)) (ce_11 G _ (by decide +kernel : kd 237 = 11)) rfl tb_1117 tb_1119 tv_42 tb_12 tb_1120 hd_X11_sign ⟨rfl, rfl⟩ ⟨Nat.le_of_ble_eq_true rfl, Nat.le_of_ble_eq_true rfl⟩ rfl hl.1 rfl (Nat.le_of_ble_eq_true rfl) d_X11_takes_1 (fun r_1 σ_2 H locs hD hw => ?_)
  refine lv_iload_n X.1 X.2.1 d_X11_takes_4 rfl (lv_at hl 1 rfl) ?_
  refine lv_icmp_eq (tgt := 10) X.1 X.2.1 d_X11_takes_5 (by decide) (fun q_5 => ?_) (fun q_5 => ?_)
  · have hD := hD.1 q_5
    refine lv_aload_n X.1 X.2.1 d_X11_takes_10 rfl (lv_at hl 0 rfl) ?_
    refine lv_dup X.1 X.2.1 d_X11_takes_11 rfl ?_
    refine gf_11_21 X hw (by decide +kernel : kd 237 = 11) tb_927 d_X11_takes_12 ?_
    refine lv_iconst (v := 1) X.1 X.2.1 d_X11_takes_15 (by decide) ?_
    refine lv_iadd X.1 X.2.1 d_X11_takes_16 ?_
    refine pf_11_21 X hw (by decide +kernel : kd 237 = 11) tb_927 d_X11_takes_17 (fun H locs hw => ?_)
    obtain ⟨σ_3, e_σ_3⟩ : ∃ z : GSt, z = up2 σ_2 237 21 ((σ_2 237 21) + 1) := ⟨_, rfl⟩
    rw [← e_σ_3] at hw
    have hD := hD σ_3 e_σ_3
    refine lv_iconst (v := 1) X.1 X.2.1 d_X11_takes_20 (by decide) ?_
    exact g_zret X hr hlk hw (by decide) hD d_X11_takes_21
  · have hD := hD.2 q_5
    refine lv_iconst (v := 0) X.1 X.2.1 d_X11_takes_8 (by decide) ?_
    exact g_zret X hr hlk hw (by decide) hD d_X11_takes_9
theorem c_X11_takes (l : Launch) (G : GC) (x1 : Int32) (σ : GSt) (Q : Int32 → GSt → Prop)  (hD : D_X11_takes x1 σ Q) : MI l ym_X11_takes cm_X11_takes 2 .boolean rm_X11_takes G σ [.ref (G.2.1 237), .int x1] Q := by
  refine met_i (by decide) (Nat.le_of_ble_eq_true rfl) ?_
  intro p e s m args below meth c X hr hlk hw ls hl
  exact s_X11_takes_0 X hr hlk Q  x1 σ hw (lv_sub hl [0, 1] rfl) hD
theorem hd_X11_digit : ym_X11_digit.cls = "GameLoomModel" ∧ ym_X11_digit.cls ≠ "java/lang/invoke/MethodHandle" ∧ ym_X11_digit.cls ≠ "java/lang/invoke/VarHandle" ∧ (parseMethodDescriptor ym_X11_digit.desc).map (fun d => d.parameters.length) = some 2 := by decide +kernel
abbrev rm_X11_digit : Room := { frames := 1, cells := 0, slots := 0, locals := 25 }
theorem d_X11_digit_0 : decode cm_X11_digit 0 = .ok (.aload_n 0, 1) := by decide +kernel
theorem d_X11_digit_1 : decode cm_X11_digit 1 = .ok (.invokevirtual 159, 3) := by decide +kernel
theorem d_X11_digit_4 : decode cm_X11_digit 4 = .ok (.bipush 48, 2) := by decide +kernel
theorem d_X11_digit_6 : decode cm_X11_digit 6 = .ok (.isub, 1) := by decide +kernel
theorem d_X11_digit_7 : decode cm_X11_digit 7 = .ok (.istore_n 3, 1) := by decide +kernel
theorem d_X11_digit_8 : decode cm_X11_digit 8 = .ok (.iload_n 3, 1) := by decide +kernel
theorem d_X11_digit_9 : decode cm_X11_digit 9 = .ok (.i2l, 1) := by decide +kernel
theorem d_X11_digit_10 : decode cm_X11_digit 10 = .ok (.iload_n 1, 1) := by decide +kernel
theorem d_X11_digit_11 : decode cm_X11_digit 11 = .ok (.i2l, 1) := by decide +kernel
theorem d_X11_digit_12 : decode cm_X11_digit 12 = .ok (.iload_n 2, 1) := by decide +kernel
theorem d_X11_digit_13 : decode cm_X11_digit 13 = .ok (.i2l, 1) := by decide +kernel
theorem d_X11_digit_14 : decode cm_X11_digit 14 = .ok (.invokestatic 163, 3) := by decide +kernel
theorem d_X11_digit_17 : decode cm_X11_digit 17 = .ok (.ifCond .ne 5, 3) := by decide +kernel
theorem d_X11_digit_20 : decode cm_X11_digit 20 = .ok (.iconst (-1), 1) := by decide +kernel
theorem d_X11_digit_21 : decode cm_X11_digit 21 = .ok (.ireturn, 1) := by decide +kernel
theorem d_X11_digit_22 : decode cm_X11_digit 22 = .ok (.aload_n 0, 1) := by decide +kernel
theorem d_X11_digit_23 : decode cm_X11_digit 23 = .ok (.dup, 1) := by decide +kernel
theorem d_X11_digit_24 : decode cm_X11_digit 24 = .ok (.getfield 153, 3) := by decide +kernel
theorem d_X11_digit_27 : decode cm_X11_digit 27 = .ok (.iconst 1, 1) := by decide +kernel
theorem d_X11_digit_28 : decode cm_X11_digit 28 = .ok (.iadd, 1) := by decide +kernel
theorem d_X11_digit_29 : decode cm_X11_digit 29 = .ok (.putfield 153, 3) := by decide +kernel
theorem d_X11_digit_32 : decode cm_X11_digit 32 = .ok (.iload_n 3, 1) := by decide +kernel
theorem d_X11_digit_33 : decode cm_X11_digit 33 = .ok (.ireturn, 1) := by decide +kernel
def D_X11_digit_0 (Q : Int32 → GSt → Prop) (x1 : Int32) (x2 : Int32) (σ : GSt) : Prop :=
  D_X11_sign  σ (fun r_1 σ_2 => ∀ x3_3 : Int32, x3_3 = (r_1 - 48) → (D_X11_isIn (Int32.toInt64 x3_3) (Int32.toInt64 x1) (Int32.toInt64 x2) σ_2 (fun r_4 σ_5 => (¬ r_4 = 0 → ∀ σ_6 : GSt, σ_6 = up2 σ_5 237 21 ((σ_5 237 21) + 1) → (Q x3_3 σ_6)) ∧
  (r_4 = 0 → Q (-1) σ_5))))
def D_X11_digit (x1 : Int32) (x2 : Int32) (σ : GSt) (Q : Int32 → GSt → Prop) : Prop := D_X11_digit_0 Q x1 x2 σ
set_option maxRecDepth 20000 in
set_option maxHeartbeats 4000000 in
theorem s_X11_digit_0 {p : Program} {l : Launch} {e : Env} {s : State} {m : MethodId} {args : Array Value} {below : List Frame} {meth : Method} {c : Code} {G : GC} (X : CallFix p m c cm_X11_digit 4 s args lw_us "GameLoomModel") (hr : meth.sig.returnType = some .int) (hlk : meth.locks = false) (Q : Int32 → GSt → Prop) (x1 : Int32) (x2 : Int32) (σ : GSt) {H : Heap} {locs : List Loc} {ls : Array Slot} (hw : Wo G s H locs σ) (hl : lv_has ls 4 [(0, .ref (G.2.1 237)), (1, .int x1), (2, .int x2)]) (hD : D_X11_digit_0 Q x1 x2 σ) : W p l e rm_X11_digit s m args below meth c H locs 0 0 (QMI G Q below args s) (F0 m 0 ls []) := by
  unfold D_X11_digit_0 at hD
  refine lv_aload_n X.1 X.2.1 d_X11_digit_0 rfl (lv_at hl 0 rfl) ?_
  refine gcV_i (rest := []) (As := []) (o := 237) X hw (c_X11_sign l G  σ _  hD) (kd_lt (by decide +kernel : kd 237 = 11) (by decide)) (ce_11 G _ (by decide +kernel : kd 237 = 11)) rfl tb_1117 tb_1119 tv_42 tb_12 tb_1120 hd_X11_sign ⟨rfl, rfl⟩ ⟨Nat.le_of_ble_eq_true rfl, Nat.le_of_ble_eq_true rfl⟩ rfl hl.1 rfl (Nat.le_of_ble_eq_true rfl) d_X11_digit_1 (fun r_1 σ_2 H locs hD hw => ?_)
  refine lv_bipush (v := 48) X.1 X.2.1 d_X11_digit_4 (by decide) ?_
  refine lv_isub X.1 X.2.1 d_X11_digit_6 ?_
  refine lv_topi (fun x3_3 e_x3_3 => ?_)
  have hD := hD x3_3 e_x3_3
  refine lv_istore_n (lv' := [(3, .int x3_3), (0, .ref (G.2.1 237)), (1, .int x1), (2, .int x2)]) X.1 X.2.1 d_X11_digit_7 rfl hl (by decide) rfl (fun ls hl => ?_)
  refine lv_iload_n X.1 X.2.1 d_X11_digit_8 rfl (lv_at hl 0 rfl) ?_
  refine lv_i2l (v := (Int32.toInt64 x3_3)) X.1 X.2.1 d_X11_digit_9 rfl ?_
  refine lv_iload_n X.1 X.2.1 d_X11_digit_10 rfl (lv_at hl 2 rfl) ?_
  refine lv_i2l (v := (Int32.toInt64 x1)) X.1 X.2.1 d_X11_digit_11 rfl ?_
  refine lv_iload_n X.1 X.2.1 d_X11_digit_12 rfl (lv_at hl 3 rfl) ?_
  refine lv_i2l (v := (Int32.toInt64 x2)) X.1 X.2.1 d_X11_digit_13 rfl ?_
  refine gcS_i (rest := []) (As := [.long (Int32.toInt64 x3_3), .long (Int32.toInt64 x1), .long (Int32.toInt64 x2)]) X hw (c_X11_isIn l G (Int32.toInt64 x3_3) (Int32.toInt64 x1) (Int32.toInt64 x2) σ_2 _  hD) tb_1125 tb_1126 tb_12 tb_1127 hd_X11_isIn ⟨rfl, rfl⟩ ⟨Nat.le_of_ble_eq_true rfl, Nat.le_of_ble_eq_true rfl⟩ rfl hl.1 rfl (Nat.le_of_ble_eq_true rfl) d_X11_digit_14 (fun r_4 σ_5 H locs hD hw => ?_)
  refine lv_if_ne (tgt := 22) X.1 X.2.1 d_X11_digit_17 (by decide) (fun q_17 => ?_) (fun q_17 => ?_)
  · have hD := hD.1 q_17
    refine lv_aload_n X.1 X.2.1 d_X11_digit_22 rfl (lv_at hl 1 rfl) ?_
    refine lv_dup X.1 X.2.1 d_X11_digit_23 rfl ?_
    refine gf_11_21 X hw (by decide +kernel : kd 237 = 11) tb_927 d_X11_digit_24 ?_
    refine lv_iconst (v := 1) X.1 X.2.1 d_X11_digit_27 (by decide) ?_
    refine lv_iadd X.1 X.2.1 d_X11_digit_28 ?_
    refine pf_11_21 X hw (by decide +kernel : kd 237 = 11) tb_927 d_X11_digit_29 (fun H locs hw => ?_)
    obtain ⟨σ_6, e_σ_6⟩ : ∃ z : GSt, z = up2 σ_5 237 21 ((σ_5 237 21) + 1) := ⟨_, rfl⟩
    rw [← e_σ_6] at hw
    have hD := hD σ_6 e_σ_6
    refine lv_iload_n X.1 X.2.1 d_X11_digit_32 rfl (lv_at hl 0 rfl) ?_
    exact g_iret X hr hlk hw hD d_X11_digit_33
  · have hD := hD.2 q_17
    refine lv_iconst (v := (-1)) X.1 X.2.1 d_X11_digit_20 (by decide) ?_
    exact g_iret X hr hlk hw hD d_X11_digit_21
theorem c_X11_digit (l : Launch) (G : GC) (x1 : Int32) (x2 : Int32) (σ : GSt) (Q : Int32 → GSt → Prop)  (hD : D_X11_digit x1 x2 σ Q) : MI l ym_X11_digit cm_X11_digit 4 .int rm_X11_digit G σ [.ref (G.2.1 237), .int x1, .int x2] Q := by
  refine met_i (by decide) (Nat.le_of_ble_eq_true rfl) ?_
  intro p e s m args below meth c X hr hlk hw ls hl
  exact s_X11_digit_0 X hr hlk Q  x1 x2 σ hw (lv_sub hl [0, 1, 2] rfl) hD
theorem hd_X11_board : ym_X11_board.cls = "GameLoomModel" ∧ ym_X11_board.cls ≠ "java/lang/invoke/MethodHandle" ∧ ym_X11_board.cls ≠ "java/lang/invoke/VarHandle" ∧ (parseMethodDescriptor ym_X11_board.desc).map (fun d => d.parameters.length) = some 0 := by decide +kernel
abbrev rm_X11_board : Room := { frames := 2, cells := 0, slots := 0, locals := 48 }
theorem d_X11_board_0 : decode cm_X11_board 0 = .ok (.aload_n 0, 1) := by decide +kernel
theorem d_X11_board_1 : decode cm_X11_board 1 = .ok (.bipush 98, 2) := by decide +kernel
theorem d_X11_board_3 : decode cm_X11_board 3 = .ok (.invokevirtual 167, 3) := by decide +kernel
theorem d_X11_board_6 : decode cm_X11_board 6 = .ok (.ifCond .ne 5, 3) := by decide +kernel
theorem d_X11_board_9 : decode cm_X11_board 9 = .ok (.iconst 0, 1) := by decide +kernel
theorem d_X11_board_10 : decode cm_X11_board 10 = .ok (.ireturn, 1) := by decide +kernel
theorem d_X11_board_11 : decode cm_X11_board 11 = .ok (.aload_n 0, 1) := by decide +kernel
theorem d_X11_board_12 : decode cm_X11_board 12 = .ok (.getfield 22, 3) := by decide +kernel
theorem d_X11_board_15 : decode cm_X11_board 15 = .ok (.aload_n 0, 1) := by decide +kernel
theorem d_X11_board_16 : decode cm_X11_board 16 = .ok (.getfield 156, 3) := by decide +kernel
theorem d_X11_board_19 : decode cm_X11_board 19 = .ok (.aload_n 0, 1) := by decide +kernel
theorem d_X11_board_20 : decode cm_X11_board 20 = .ok (.iconst 2, 1) := by decide +kernel
theorem d_X11_board_21 : decode cm_X11_board 21 = .ok (.iconst 4, 1) := by decide +kernel
theorem d_X11_board_22 : decode cm_X11_board 22 = .ok (.invokevirtual 171, 3) := by decide +kernel
theorem d_X11_board_25 : decode cm_X11_board 25 = .ok (.iastore, 1) := by decide +kernel
theorem d_X11_board_26 : decode cm_X11_board 26 = .ok (.aload_n 0, 1) := by decide +kernel
theorem d_X11_board_27 : decode cm_X11_board 27 = .ok (.getfield 22, 3) := by decide +kernel
theorem d_X11_board_30 : decode cm_X11_board 30 = .ok (.aload_n 0, 1) := by decide +kernel
theorem d_X11_board_31 : decode cm_X11_board 31 = .ok (.getfield 156, 3) := by decide +kernel
theorem d_X11_board_34 : decode cm_X11_board 34 = .ok (.iaload, 1) := by decide +kernel
theorem d_X11_board_35 : decode cm_X11_board 35 = .ok (.ifCond .ge 5, 3) := by decide +kernel
theorem d_X11_board_38 : decode cm_X11_board 38 = .ok (.iconst 0, 1) := by decide +kernel
theorem d_X11_board_39 : decode cm_X11_board 39 = .ok (.ireturn, 1) := by decide +kernel
theorem d_X11_board_40 : decode cm_X11_board 40 = .ok (.aload_n 0, 1) := by decide +kernel
theorem d_X11_board_41 : decode cm_X11_board 41 = .ok (.getfield 25, 3) := by decide +kernel
theorem d_X11_board_44 : decode cm_X11_board 44 = .ok (.aload_n 0, 1) := by decide +kernel
theorem d_X11_board_45 : decode cm_X11_board 45 = .ok (.getfield 156, 3) := by decide +kernel
theorem d_X11_board_48 : decode cm_X11_board 48 = .ok (.aload_n 0, 1) := by decide +kernel
theorem d_X11_board_49 : decode cm_X11_board 49 = .ok (.iconst 2, 1) := by decide +kernel
theorem d_X11_board_50 : decode cm_X11_board 50 = .ok (.iconst 4, 1) := by decide +kernel
theorem d_X11_board_51 : decode cm_X11_board 51 = .ok (.invokevirtual 171, 3) := by decide +kernel
theorem d_X11_board_54 : decode cm_X11_board 54 = .ok (.iastore, 1) := by decide +kernel
theorem d_X11_board_55 : decode cm_X11_board 55 = .ok (.aload_n 0, 1) := by decide +kernel
theorem d_X11_board_56 : decode cm_X11_board 56 = .ok (.getfield 25, 3) := by decide +kernel
theorem d_X11_board_59 : decode cm_X11_board 59 = .ok (.aload_n 0, 1) := by decide +kernel
theorem d_X11_board_60 : decode cm_X11_board 60 = .ok (.getfield 156, 3) := by decide +kernel
theorem d_X11_board_63 : decode cm_X11_board 63 = .ok (.iaload, 1) := by decide +kernel
theorem d_X11_board_64 : decode cm_X11_board 64 = .ok (.ifCond .le 16, 3) := by decide +kernel
theorem d_X11_board_67 : decode cm_X11_board 67 = .ok (.aload_n 0, 1) := by decide +kernel
theorem d_X11_board_68 : decode cm_X11_board 68 = .ok (.bipush 59, 2) := by decide +kernel
theorem d_X11_board_70 : decode cm_X11_board 70 = .ok (.invokevirtual 167, 3) := by decide +kernel
theorem d_X11_board_73 : decode cm_X11_board 73 = .ok (.ifCond .eq 7, 3) := by decide +kernel
theorem d_X11_board_76 : decode cm_X11_board 76 = .ok (.iconst 1, 1) := by decide +kernel
theorem d_X11_board_77 : decode cm_X11_board 77 = .ok (.goto 4, 3) := by decide +kernel
theorem d_X11_board_80 : decode cm_X11_board 80 = .ok (.iconst 0, 1) := by decide +kernel
theorem d_X11_board_81 : decode cm_X11_board 81 = .ok (.ireturn, 1) := by decide +kernel
def D_X11_board_0 (Q : Int32 → GSt → Prop) (σ : GSt) : Prop :=
  D_X11_takes 98 σ (fun r_1 σ_2 => (¬ r_1 = 0 → D_X11_digit 2 4 σ_2 (fun r_3 σ_4 => vp_in (σ_2 237 22) 9 ∧ (∀ σ_5 : GSt, σ_5 = up2 σ_4 242 (Int32.toNatClampNeg (σ_2 237 22)) r_3 → (vp_in (σ_5 237 22) 9 ∧ ((0 ≤ (σ_5 242 (Int32.toNatClampNeg (σ_5 237 22))) → D_X11_digit 2 4 σ_5 (fun r_6 σ_7 => vp_in (σ_5 237 22) 9 ∧ (∀ σ_8 : GSt, σ_8 = up2 σ_7 243 (Int32.toNatClampNeg (σ_5 237 22)) r_6 → (vp_in (σ_8 237 22) 9 ∧ (((σ_8 243 (Int32.toNatClampNeg (σ_8 237 22))) ≤ 0 → Q 0 σ_8) ∧
  (¬ (σ_8 243 (Int32.toNatClampNeg (σ_8 237 22))) ≤ 0 → D_X11_takes 59 σ_8 (fun r_9 σ_10 => (r_9 = 0 → Q 0 σ_10) ∧
  (¬ r_9 = 0 → Q 1 σ_10)))))))) ∧
  (¬ 0 ≤ (σ_5 242 (Int32.toNatClampNeg (σ_5 237 22))) → Q 0 σ_5)))))) ∧
  (r_1 = 0 → Q 0 σ_2))
def D_X11_board (σ : GSt) (Q : Int32 → GSt → Prop) : Prop := D_X11_board_0 Q σ
set_option maxRecDepth 20000 in
set_option maxHeartbeats 4000000 in
theorem s_X11_board_0 {p : Program} {l : Launch} {e : Env} {s : State} {m : MethodId} {args : Array Value} {below : List Frame} {meth : Method} {c : Code} {G : GC} (X : CallFix p m c cm_X11_board 1 s args lw_us "GameLoomModel") (hr : meth.sig.returnType = some .boolean) (hlk : meth.locks = false) (Q : Int32 → GSt → Prop) (σ : GSt) {H : Heap} {locs : List Loc} {ls : Array Slot} (hw : Wo G s H locs σ) (hl : lv_has ls 1 [(0, .ref (G.2.1 237))]) (hD : D_X11_board_0 Q σ) : W p l e rm_X11_board s m args below meth c H locs 0 0 (QMI G Q below args s) (F0 m 0 ls []) := by
  unfold D_X11_board_0 at hD
  refine lv_aload_n X.1 X.2.1 d_X11_board_0 rfl (lv_at hl 0 rfl) ?_
  refine lv_bipush (v := 98) X.1 X.2.1 d_X11_board_1 (by decide) ?_
  refine gcV_i (rest := []) (As := [.int 98]) (o := 237) X hw (c_X11_takes l G 98 σ _  hD) (kd_lt (by decide +kernel : kd 237 = 11) (by decide)) (ce_11 G _ (by decide +kernel : kd 237 = 11)) rfl tb_1113 tb_1115 tv_41 tb_12 tb_1116 hd_X11_takes ⟨rfl, rfl⟩ ⟨Nat.le_of_ble_eq_true rfl, Nat.le_of_ble_eq_true rfl⟩ rfl hl.1 rfl (Nat.le_of_ble_eq_true rfl) d_X11_board_3 (fun r_1 σ_2 H locs hD hw => ?_)
  refine lv_if_ne (tgt := 11) X.1 X.2.1 d_X11_board_6 (by decide) (fun q_6 => ?_) (fun q_6 => ?_)
  · have hD := hD.1 q_6
    refine lv_aload_n X.1 X.2.1 d_X11_board_11 rfl (lv_at hl 0 rfl) ?_
    refine gf_11_4 X hw (by decide +kernel : kd 237 = 11) tb_910 d_X11_board_12 ?_
    refine lv_aload_n X.1 X.2.1 d_X11_board_15 rfl (lv_at hl 0 rfl) ?_
    refine gf_11_22 X hw (by decide +kernel : kd 237 = 11) tb_928 d_X11_board_16 ?_
    refine lv_aload_n X.1 X.2.1 d_X11_board_19 rfl (lv_at hl 0 rfl) ?_
    refine lv_iconst (v := 2) X.1 X.2.1 d_X11_board_20 (by decide) ?_
    refine lv_iconst (v := 4) X.1 X.2.1 d_X11_board_21 (by decide) ?_
    refine gcV_i (rest := [.int (σ_2 237 22), .ref (G.2.1 242)]) (As := [.int 2, .int 4]) (o := 237) X hw (c_X11_digit l G 2 4 σ_2 _  hD) (kd_lt (by decide +kernel : kd 237 = 11) (by decide)) (ce_11 G _ (by decide +kernel : kd 237 = 11)) rfl tb_1121 tb_1123 tv_43 tb_12 tb_1124 hd_X11_digit ⟨rfl, rfl⟩ ⟨Nat.le_of_ble_eq_true rfl, Nat.le_of_ble_eq_true rfl⟩ rfl hl.1 rfl (Nat.le_of_ble_eq_true rfl) d_X11_board_22 (fun r_3 σ_4 H locs hD hw => ?_)
    obtain ⟨q_25, hD⟩ := hD
    refine g_iast X hw ly_11_4.1 ly_11_4.2 q_25 d_X11_board_25 (fun H locs hw => ?_)
    obtain ⟨σ_5, e_σ_5⟩ : ∃ z : GSt, z = up2 σ_4 242 (Int32.toNatClampNeg (σ_2 237 22)) r_3 := ⟨_, rfl⟩
    rw [← e_σ_5] at hw
    have hD := hD σ_5 e_σ_5
    refine lv_aload_n X.1 X.2.1 d_X11_board_26 rfl (lv_at hl 0 rfl) ?_
    refine gf_11_4 X hw (by decide +kernel : kd 237 = 11) tb_910 d_X11_board_27 ?_
    refine lv_aload_n X.1 X.2.1 d_X11_board_30 rfl (lv_at hl 0 rfl) ?_
    refine gf_11_22 X hw (by decide +kernel : kd 237 = 11) tb_928 d_X11_board_31 ?_
    obtain ⟨q_34, hD⟩ := hD
    refine g_iald X hw ly_11_4.1 ly_11_4.2 q_34 d_X11_board_34 ?_
    refine lv_if_ge (tgt := 40) X.1 X.2.1 d_X11_board_35 (by decide) (fun q_35 => ?_) (fun q_35 => ?_)
    · have hD := hD.1 q_35
      refine lv_aload_n X.1 X.2.1 d_X11_board_40 rfl (lv_at hl 0 rfl) ?_
      refine gf_11_5 X hw (by decide +kernel : kd 237 = 11) tb_911 d_X11_board_41 ?_
      refine lv_aload_n X.1 X.2.1 d_X11_board_44 rfl (lv_at hl 0 rfl) ?_
      refine gf_11_22 X hw (by decide +kernel : kd 237 = 11) tb_928 d_X11_board_45 ?_
      refine lv_aload_n X.1 X.2.1 d_X11_board_48 rfl (lv_at hl 0 rfl) ?_
      refine lv_iconst (v := 2) X.1 X.2.1 d_X11_board_49 (by decide) ?_
      refine lv_iconst (v := 4) X.1 X.2.1 d_X11_board_50 (by decide) ?_
      refine gcV_i (rest := [.int (σ_5 237 22), .ref (G.2.1 243)]) (As := [.int 2, .int 4]) (o := 237) X hw (c_X11_digit l G 2 4 σ_5 _  hD) (kd_lt (by decide +kernel : kd 237 = 11) (by decide)) (ce_11 G _ (by decide +kernel : kd 237 = 11)) rfl tb_1121 tb_1123 tv_43 tb_12 tb_1124 hd_X11_digit ⟨rfl, rfl⟩ ⟨Nat.le_of_ble_eq_true rfl, Nat.le_of_ble_eq_true rfl⟩ rfl hl.1 rfl (Nat.le_of_ble_eq_true rfl) d_X11_board_51 (fun r_6 σ_7 H locs hD hw => ?_)
      obtain ⟨q_54, hD⟩ := hD
      refine g_iast X hw ly_11_5.1 ly_11_5.2 q_54 d_X11_board_54 (fun H locs hw => ?_)
      obtain ⟨σ_8, e_σ_8⟩ : ∃ z : GSt, z = up2 σ_7 243 (Int32.toNatClampNeg (σ_5 237 22)) r_6 := ⟨_, rfl⟩
      rw [← e_σ_8] at hw
      have hD := hD σ_8 e_σ_8
      refine lv_aload_n X.1 X.2.1 d_X11_board_55 rfl (lv_at hl 0 rfl) ?_
      refine gf_11_5 X hw (by decide +kernel : kd 237 = 11) tb_911 d_X11_board_56 ?_
      refine lv_aload_n X.1 X.2.1 d_X11_board_59 rfl (lv_at hl 0 rfl) ?_
      refine gf_11_22 X hw (by decide +kernel : kd 237 = 11) tb_928 d_X11_board_60 ?_
      obtain ⟨q_63, hD⟩ := hD
      refine g_iald X hw ly_11_5.1 ly_11_5.2 q_63 d_X11_board_63 ?_
      refine lv_if_le (tgt := 80) X.1 X.2.1 d_X11_board_64 (by decide) (fun q_64 => ?_) (fun q_64 => ?_)
      · have hD := hD.1 q_64
        refine lv_iconst (v := 0) X.1 X.2.1 d_X11_board_80 (by decide) ?_
        exact g_zret X hr hlk hw (by decide) hD d_X11_board_81
      · have hD := hD.2 q_64
        refine lv_aload_n X.1 X.2.1 d_X11_board_67 rfl (lv_at hl 0 rfl) ?_
        refine lv_bipush (v := 59) X.1 X.2.1 d_X11_board_68 (by decide) ?_
        refine gcV_i (rest := []) (As := [.int 59]) (o := 237) X hw (c_X11_takes l G 59 σ_8 _  hD) (kd_lt (by decide +kernel : kd 237 = 11) (by decide)) (ce_11 G _ (by decide +kernel : kd 237 = 11)) rfl tb_1113 tb_1115 tv_41 tb_12 tb_1116 hd_X11_takes ⟨rfl, rfl⟩ ⟨Nat.le_of_ble_eq_true rfl, Nat.le_of_ble_eq_true rfl⟩ rfl hl.1 rfl (Nat.le_of_ble_eq_true rfl) d_X11_board_70 (fun r_9 σ_10 H locs hD hw => ?_)
        refine lv_if_eq (tgt := 80) X.1 X.2.1 d_X11_board_73 (by decide) (fun q_73 => ?_) (fun q_73 => ?_)
        · have hD := hD.1 q_73
          refine lv_iconst (v := 0) X.1 X.2.1 d_X11_board_80 (by decide) ?_
          exact g_zret X hr hlk hw (by decide) hD d_X11_board_81
        · have hD := hD.2 q_73
          refine lv_iconst (v := 1) X.1 X.2.1 d_X11_board_76 (by decide) ?_
          refine lv_goto (tgt := 81) X.1 X.2.1 d_X11_board_77 (by decide) ?_
          exact g_zret X hr hlk hw (by decide) hD d_X11_board_81
    · have hD := hD.2 q_35
      refine lv_iconst (v := 0) X.1 X.2.1 d_X11_board_38 (by decide) ?_
      exact g_zret X hr hlk hw (by decide) hD d_X11_board_39
  · have hD := hD.2 q_6
    refine lv_iconst (v := 0) X.1 X.2.1 d_X11_board_9 (by decide) ?_
    exact g_zret X hr hlk hw (by decide) hD d_X11_board_10
theorem c_X11_board (l : Launch) (G : GC) (σ : GSt) (Q : Int32 → GSt → Prop)  (hD : D_X11_board  σ Q) : MI l ym_X11_board cm_X11_board 1 .boolean rm_X11_board G σ [.ref (G.2.1 237)] Q := by
  refine met_i (by decide) (Nat.le_of_ble_eq_true rfl) ?_
  intro p e s m args below meth c X hr hlk hw ls hl
  exact s_X11_board_0 X hr hlk Q   σ hw (lv_sub hl [0] rfl) hD
theorem hd_X11_begins : ym_X11_begins.cls = "GameLoomModel" ∧ ym_X11_begins.cls ≠ "java/lang/invoke/MethodHandle" ∧ ym_X11_begins.cls ≠ "java/lang/invoke/VarHandle" ∧ (parseMethodDescriptor ym_X11_begins.desc).map (fun d => d.parameters.length) = some 0 := by decide +kernel
abbrev rm_X11_begins : Room := { frames := 2, cells := 0, slots := 0, locals := 41 }
theorem d_X11_begins_0 : decode cm_X11_begins 0 = .ok (.iconst 0, 1) := by decide +kernel
theorem d_X11_begins_1 : decode cm_X11_begins 1 = .ok (.istore_n 1, 1) := by decide +kernel
theorem d_X11_begins_2 : decode cm_X11_begins 2 = .ok (.iload_n 1, 1) := by decide +kernel
theorem d_X11_begins_3 : decode cm_X11_begins 3 = .ok (.bipush 16, 2) := by decide +kernel
theorem d_X11_begins_5 : decode cm_X11_begins 5 = .ok (.if_icmp .ge 24, 3) := by decide +kernel
theorem d_X11_begins_8 : decode cm_X11_begins 8 = .ok (.aload_n 0, 1) := by decide +kernel
theorem d_X11_begins_9 : decode cm_X11_begins 9 = .ok (.getfield 28, 3) := by decide +kernel
theorem d_X11_begins_12 : decode cm_X11_begins 12 = .ok (.bipush 16, 2) := by decide +kernel
theorem d_X11_begins_14 : decode cm_X11_begins 14 = .ok (.aload_n 0, 1) := by decide +kernel
theorem d_X11_begins_15 : decode cm_X11_begins 15 = .ok (.getfield 156, 3) := by decide +kernel
theorem d_X11_begins_18 : decode cm_X11_begins 18 = .ok (.imul, 1) := by decide +kernel
theorem d_X11_begins_19 : decode cm_X11_begins 19 = .ok (.iload_n 1, 1) := by decide +kernel
theorem d_X11_begins_20 : decode cm_X11_begins 20 = .ok (.iadd, 1) := by decide +kernel
theorem d_X11_begins_21 : decode cm_X11_begins 21 = .ok (.iconst 0, 1) := by decide +kernel
theorem d_X11_begins_22 : decode cm_X11_begins 22 = .ok (.iastore, 1) := by decide +kernel
theorem d_X11_begins_23 : decode cm_X11_begins 23 = .ok (.iinc 1 1, 3) := by decide +kernel
theorem d_X11_begins_26 : decode cm_X11_begins 26 = .ok (.goto (-24), 3) := by decide +kernel
theorem d_X11_begins_29 : decode cm_X11_begins 29 = .ok (.aload_n 0, 1) := by decide +kernel
theorem d_X11_begins_30 : decode cm_X11_begins 30 = .ok (.bipush 105, 2) := by decide +kernel
theorem d_X11_begins_32 : decode cm_X11_begins 32 = .ok (.invokevirtual 167, 3) := by decide +kernel
theorem d_X11_begins_35 : decode cm_X11_begins 35 = .ok (.ifCond .ne 5, 3) := by decide +kernel
theorem d_X11_begins_38 : decode cm_X11_begins 38 = .ok (.iconst 1, 1) := by decide +kernel
theorem d_X11_begins_39 : decode cm_X11_begins 39 = .ok (.ireturn, 1) := by decide +kernel
theorem d_X11_begins_40 : decode cm_X11_begins 40 = .ok (.iconst 0, 1) := by decide +kernel
theorem d_X11_begins_41 : decode cm_X11_begins 41 = .ok (.istore_n 1, 1) := by decide +kernel
theorem d_X11_begins_42 : decode cm_X11_begins 42 = .ok (.iload_n 1, 1) := by decide +kernel
theorem d_X11_begins_43 : decode cm_X11_begins 43 = .ok (.aload_n 0, 1) := by decide +kernel
theorem d_X11_begins_44 : decode cm_X11_begins 44 = .ok (.getfield 22, 3) := by decide +kernel
theorem d_X11_begins_47 : decode cm_X11_begins 47 = .ok (.aload_n 0, 1) := by decide +kernel
theorem d_X11_begins_48 : decode cm_X11_begins 48 = .ok (.getfield 156, 3) := by decide +kernel
theorem d_X11_begins_51 : decode cm_X11_begins 51 = .ok (.iaload, 1) := by decide +kernel
theorem d_X11_begins_52 : decode cm_X11_begins 52 = .ok (.aload_n 0, 1) := by decide +kernel
theorem d_X11_begins_53 : decode cm_X11_begins 53 = .ok (.getfield 25, 3) := by decide +kernel
theorem d_X11_begins_56 : decode cm_X11_begins 56 = .ok (.aload_n 0, 1) := by decide +kernel
theorem d_X11_begins_57 : decode cm_X11_begins 57 = .ok (.getfield 156, 3) := by decide +kernel
theorem d_X11_begins_60 : decode cm_X11_begins 60 = .ok (.iaload, 1) := by decide +kernel
theorem d_X11_begins_61 : decode cm_X11_begins 61 = .ok (.imul, 1) := by decide +kernel
theorem d_X11_begins_62 : decode cm_X11_begins 62 = .ok (.if_icmp .ge 79, 3) := by decide +kernel
theorem d_X11_begins_65 : decode cm_X11_begins 65 = .ok (.aload_n 0, 1) := by decide +kernel
theorem d_X11_begins_66 : decode cm_X11_begins 66 = .ok (.invokevirtual 159, 3) := by decide +kernel
theorem d_X11_begins_69 : decode cm_X11_begins 69 = .ok (.istore_n 2, 1) := by decide +kernel
theorem d_X11_begins_70 : decode cm_X11_begins 70 = .ok (.iload_n 2, 1) := by decide +kernel
theorem d_X11_begins_71 : decode cm_X11_begins 71 = .ok (.bipush 97, 2) := by decide +kernel
theorem d_X11_begins_73 : decode cm_X11_begins 73 = .ok (.if_icmp .eq 17, 3) := by decide +kernel
theorem d_X11_begins_76 : decode cm_X11_begins 76 = .ok (.iload_n 2, 1) := by decide +kernel
theorem d_X11_begins_77 : decode cm_X11_begins 77 = .ok (.bipush 98, 2) := by decide +kernel
theorem d_X11_begins_79 : decode cm_X11_begins 79 = .ok (.if_icmp .eq 11, 3) := by decide +kernel
theorem d_X11_begins_82 : decode cm_X11_begins 82 = .ok (.iload_n 2, 1) := by decide +kernel
theorem d_X11_begins_83 : decode cm_X11_begins 83 = .ok (.bipush 120, 2) := by decide +kernel
theorem d_X11_begins_85 : decode cm_X11_begins 85 = .ok (.if_icmp .eq 5, 3) := by decide +kernel
theorem d_X11_begins_88 : decode cm_X11_begins 88 = .ok (.iconst 0, 1) := by decide +kernel
theorem d_X11_begins_89 : decode cm_X11_begins 89 = .ok (.ireturn, 1) := by decide +kernel
theorem d_X11_begins_90 : decode cm_X11_begins 90 = .ok (.aload_n 0, 1) := by decide +kernel
theorem d_X11_begins_91 : decode cm_X11_begins 91 = .ok (.getfield 28, 3) := by decide +kernel
theorem d_X11_begins_94 : decode cm_X11_begins 94 = .ok (.bipush 16, 2) := by decide +kernel
theorem d_X11_begins_96 : decode cm_X11_begins 96 = .ok (.aload_n 0, 1) := by decide +kernel
theorem d_X11_begins_97 : decode cm_X11_begins 97 = .ok (.getfield 156, 3) := by decide +kernel
theorem d_X11_begins_100 : decode cm_X11_begins 100 = .ok (.imul, 1) := by decide +kernel
theorem d_X11_begins_101 : decode cm_X11_begins 101 = .ok (.iload_n 1, 1) := by decide +kernel
theorem d_X11_begins_102 : decode cm_X11_begins 102 = .ok (.iadd, 1) := by decide +kernel
theorem d_X11_begins_103 : decode cm_X11_begins 103 = .ok (.iload_n 2, 1) := by decide +kernel
theorem d_X11_begins_104 : decode cm_X11_begins 104 = .ok (.bipush 97, 2) := by decide +kernel
theorem d_X11_begins_106 : decode cm_X11_begins 106 = .ok (.if_icmp .ne 7, 3) := by decide +kernel
theorem d_X11_begins_109 : decode cm_X11_begins 109 = .ok (.iconst 1, 1) := by decide +kernel
theorem d_X11_begins_110 : decode cm_X11_begins 110 = .ok (.goto 14, 3) := by decide +kernel
theorem d_X11_begins_113 : decode cm_X11_begins 113 = .ok (.iload_n 2, 1) := by decide +kernel
theorem d_X11_begins_114 : decode cm_X11_begins 114 = .ok (.bipush 98, 2) := by decide +kernel
theorem d_X11_begins_116 : decode cm_X11_begins 116 = .ok (.if_icmp .ne 7, 3) := by decide +kernel
theorem d_X11_begins_119 : decode cm_X11_begins 119 = .ok (.iconst 2, 1) := by decide +kernel
theorem d_X11_begins_120 : decode cm_X11_begins 120 = .ok (.goto 4, 3) := by decide +kernel
theorem d_X11_begins_123 : decode cm_X11_begins 123 = .ok (.iconst 0, 1) := by decide +kernel
theorem d_X11_begins_124 : decode cm_X11_begins 124 = .ok (.iastore, 1) := by decide +kernel
theorem d_X11_begins_125 : decode cm_X11_begins 125 = .ok (.aload_n 0, 1) := by decide +kernel
theorem d_X11_begins_126 : decode cm_X11_begins 126 = .ok (.dup, 1) := by decide +kernel
theorem d_X11_begins_127 : decode cm_X11_begins 127 = .ok (.getfield 153, 3) := by decide +kernel
theorem d_X11_begins_130 : decode cm_X11_begins 130 = .ok (.iconst 1, 1) := by decide +kernel
theorem d_X11_begins_131 : decode cm_X11_begins 131 = .ok (.iadd, 1) := by decide +kernel
theorem d_X11_begins_132 : decode cm_X11_begins 132 = .ok (.putfield 153, 3) := by decide +kernel
theorem d_X11_begins_135 : decode cm_X11_begins 135 = .ok (.iinc 1 1, 3) := by decide +kernel
theorem d_X11_begins_138 : decode cm_X11_begins 138 = .ok (.goto (-96), 3) := by decide +kernel
theorem d_X11_begins_141 : decode cm_X11_begins 141 = .ok (.aload_n 0, 1) := by decide +kernel
theorem d_X11_begins_142 : decode cm_X11_begins 142 = .ok (.bipush 59, 2) := by decide +kernel
theorem d_X11_begins_144 : decode cm_X11_begins 144 = .ok (.invokevirtual 167, 3) := by decide +kernel
theorem d_X11_begins_147 : decode cm_X11_begins 147 = .ok (.ireturn, 1) := by decide +kernel
def D_X11_begins_124 (K42 : Int32 → GSt → Prop) (Q : Int32 → GSt → Prop) (x1 : Int32) (sr0 : Nat) (s1 : Int32) (s2 : Int32) (σ : GSt) : Prop :=
  vp_in s1 (ln sr0) ∧ (∀ σ_1 : GSt, σ_1 = up2 σ sr0 (Int32.toNatClampNeg s1) s2 → (∀ σ_2 : GSt, σ_2 = up2 σ_1 237 21 ((σ_1 237 21) + 1) → (∀ x1_3 : Int32, x1_3 = x1 + 1 → (K42 x1_3 σ_2))))
def D_X11_begins_90 (K42 : Int32 → GSt → Prop) (Q : Int32 → GSt → Prop) (x1 : Int32) (x2 : Int32) (σ : GSt) : Prop :=
  (¬ x2 = 97 → (¬ x2 = 98 → D_X11_begins_124 K42 Q x1 244 ((16 * (σ 237 22)) + x1) 0 σ) ∧
  (x2 = 98 → D_X11_begins_124 K42 Q x1 244 ((16 * (σ 237 22)) + x1) 2 σ)) ∧
  (x2 = 97 → D_X11_begins_124 K42 Q x1 244 ((16 * (σ 237 22)) + x1) 1 σ)
def D_X11_begins_42 (K42 : Int32 → GSt → Prop) (Q : Int32 → GSt → Prop) (x1 : Int32) (σ : GSt) : Prop :=
  vp_in (σ 237 22) 9 ∧ (vp_in (σ 237 22) 9 ∧ ((((σ 242 (Int32.toNatClampNeg (σ 237 22))) * (σ 243 (Int32.toNatClampNeg (σ 237 22)))) ≤ x1 → D_X11_takes 59 σ (fun r_1 σ_2 => (r_1 = 0 ∨ r_1 = 1) ∧ Q r_1 σ_2)) ∧
  (¬ ((σ 242 (Int32.toNatClampNeg (σ 237 22))) * (σ 243 (Int32.toNatClampNeg (σ 237 22)))) ≤ x1 → D_X11_sign  σ (fun r_3 σ_4 => (r_3 = 97 → D_X11_begins_90 K42 Q x1 r_3 σ_4) ∧
  (¬ r_3 = 97 → (r_3 = 98 → D_X11_begins_90 K42 Q x1 r_3 σ_4) ∧
  (¬ r_3 = 98 → (r_3 = 120 → D_X11_begins_90 K42 Q x1 r_3 σ_4) ∧
  (¬ r_3 = 120 → Q 0 σ_4)))))))
def L_X11_begins_42 (Q : Int32 → GSt → Prop) : Nat → Int32 → GSt → Prop
  | 0 => fun _ _ => False
  | n + 1 => fun x1 σ => D_X11_begins_42 (L_X11_begins_42 Q n) Q x1 σ
def D_X11_begins_2 (K2 : Int32 → GSt → Prop) (Q : Int32 → GSt → Prop) (x1 : Int32) (σ : GSt) : Prop :=
  (16 ≤ x1 → D_X11_takes 105 σ (fun r_1 σ_2 => (¬ r_1 = 0 → ∃ n : Nat, L_X11_begins_42 Q n 0 σ_2) ∧
  (r_1 = 0 → Q 1 σ_2))) ∧
  (¬ 16 ≤ x1 → vp_in ((16 * (σ 237 22)) + x1) 144 ∧ (∀ σ_3 : GSt, σ_3 = up2 σ 244 (Int32.toNatClampNeg ((16 * (σ 237 22)) + x1)) 0 → (∀ x1_4 : Int32, x1_4 = x1 + 1 → (K2 x1_4 σ_3))))
def L_X11_begins_2 (Q : Int32 → GSt → Prop) : Nat → Int32 → GSt → Prop
  | 0 => fun _ _ => False
  | n + 1 => fun x1 σ => D_X11_begins_2 (L_X11_begins_2 Q n) Q x1 σ
def D_X11_begins_0 (Q : Int32 → GSt → Prop) (σ : GSt) : Prop :=
  ∃ n : Nat, L_X11_begins_2 Q n 0 σ
def D_X11_begins (σ : GSt) (Q : Int32 → GSt → Prop) : Prop := D_X11_begins_0 Q σ
set_option maxRecDepth 20000 in
set_option maxHeartbeats 4000000 in
theorem s_X11_begins_124 {p : Program} {l : Launch} {e : Env} {s : State} {m : MethodId} {args : Array Value} {below : List Frame} {meth : Method} {c : Code} {G : GC} (X : CallFix p m c cm_X11_begins 3 s args lw_us "GameLoomModel") (hr : meth.sig.returnType = some .boolean) (hlk : meth.locks = false) (K42 : Int32 → GSt → Prop) (Q : Int32 → GSt → Prop) (hK42 : ∀ (x1 : Int32) (σ : GSt) (H : Heap) (locs : List Loc) (ls : Array Slot), Wo G s H locs σ → lv_has ls 3 [(0, .ref (G.2.1 237)), (1, .int x1)] → K42 x1 σ → W p l e rm_X11_begins s m args below meth c H locs 0 0 (QMI G Q below args s) (F0 m 42 ls [])) (x1 : Int32) (sr0 : Nat) (hs0 : kd sr0 = 12) (s1 : Int32) (s2 : Int32) (σ : GSt) {H : Heap} {locs : List Loc} {ls : Array Slot} (hw : Wo G s H locs σ) (hl : lv_has ls 3 [(0, .ref (G.2.1 237)), (1, .int x1)]) (hD : D_X11_begins_124 K42 Q x1 sr0 s1 s2 σ) : W p l e rm_X11_begins s m args below meth c H locs 0 0 (QMI G Q below args s) (F0 m 124 ls [.int s2, .int s1, .ref (G.2.1 sr0)]) := by
  unfold D_X11_begins_124 at hD
  obtain ⟨q_124, hD⟩ := hD
  refine g_iast X hw hs0 rfl q_124 d_X11_begins_124 (fun H locs hw => ?_)
  obtain ⟨σ_1, e_σ_1⟩ : ∃ z : GSt, z = up2 σ sr0 (Int32.toNatClampNeg s1) s2 := ⟨_, rfl⟩
  rw [← e_σ_1] at hw
  have hD := hD σ_1 e_σ_1
  refine lv_aload_n X.1 X.2.1 d_X11_begins_125 rfl (lv_at hl 0 rfl) ?_
  refine lv_dup X.1 X.2.1 d_X11_begins_126 rfl ?_
  refine gf_11_21 X hw (by decide +kernel : kd 237 = 11) tb_927 d_X11_begins_127 ?_
  refine lv_iconst (v := 1) X.1 X.2.1 d_X11_begins_130 (by decide) ?_
  refine lv_iadd X.1 X.2.1 d_X11_begins_131 ?_
  refine pf_11_21 X hw (by decide +kernel : kd 237 = 11) tb_927 d_X11_begins_132 (fun H locs hw => ?_)
  obtain ⟨σ_2, e_σ_2⟩ : ∃ z : GSt, z = up2 σ_1 237 21 ((σ_1 237 21) + 1) := ⟨_, rfl⟩
  rw [← e_σ_2] at hw
  have hD := hD σ_2 e_σ_2
  obtain ⟨x1_3, e_x1_3⟩ : ∃ y : Int32, y = x1 + 1 := ⟨_, rfl⟩
  have hD := hD x1_3 e_x1_3
  refine lv_iinc (v := x1_3) (lv' := [(1, .int x1_3), (0, .ref (G.2.1 237))]) X.1 X.2.1 d_X11_begins_135 hl (k := 1) rfl (by rw [e_x1_3]; rfl) (by decide) rfl (fun ls hl => ?_)
  refine lv_goto (tgt := 42) X.1 X.2.1 d_X11_begins_138 (by decide) ?_
  exact hK42 x1_3 σ_2 _ _ _  hw (lv_sub hl [1, 0] rfl) hD
set_option maxRecDepth 20000 in
set_option maxHeartbeats 4000000 in
theorem s_X11_begins_90 {p : Program} {l : Launch} {e : Env} {s : State} {m : MethodId} {args : Array Value} {below : List Frame} {meth : Method} {c : Code} {G : GC} (X : CallFix p m c cm_X11_begins 3 s args lw_us "GameLoomModel") (hr : meth.sig.returnType = some .boolean) (hlk : meth.locks = false) (K42 : Int32 → GSt → Prop) (Q : Int32 → GSt → Prop) (hK42 : ∀ (x1 : Int32) (σ : GSt) (H : Heap) (locs : List Loc) (ls : Array Slot), Wo G s H locs σ → lv_has ls 3 [(0, .ref (G.2.1 237)), (1, .int x1)] → K42 x1 σ → W p l e rm_X11_begins s m args below meth c H locs 0 0 (QMI G Q below args s) (F0 m 42 ls [])) (x1 : Int32) (x2 : Int32) (σ : GSt) {H : Heap} {locs : List Loc} {ls : Array Slot} (hw : Wo G s H locs σ) (hl : lv_has ls 3 [(0, .ref (G.2.1 237)), (1, .int x1), (2, .int x2)]) (hD : D_X11_begins_90 K42 Q x1 x2 σ) : W p l e rm_X11_begins s m args below meth c H locs 0 0 (QMI G Q below args s) (F0 m 90 ls []) := by
  unfold D_X11_begins_90 at hD
  refine lv_aload_n X.1 X.2.1 d_X11_begins_90 rfl (lv_at hl 0 rfl) ?_
  refine gf_11_6 X hw (by decide +kernel : kd 237 = 11) tb_912 d_X11_begins_91 ?_
  refine lv_bipush (v := 16) X.1 X.2.1 d_X11_begins_94 (by decide) ?_
  refine lv_aload_n X.1 X.2.1 d_X11_begins_96 rfl (lv_at hl 0 rfl) ?_
  refine gf_11_22 X hw (by decide +kernel : kd 237 = 11) tb_928 d_X11_begins_97 ?_
  refine lv_imul X.1 X.2.1 d_X11_begins_100 ?_
  refine lv_iload_n X.1 X.2.1 d_X11_begins_101 rfl (lv_at hl 1 rfl) ?_
  refine lv_iadd X.1 X.2.1 d_X11_begins_102 ?_
  refine lv_iload_n X.1 X.2.1 d_X11_begins_103 rfl (lv_at hl 2 rfl) ?_
  refine lv_bipush (v := 97) X.1 X.2.1 d_X11_begins_104 (by decide) ?_
  refine lv_icmp_ne (tgt := 113) X.1 X.2.1 d_X11_begins_106 (by decide) (fun q_106 => ?_) (fun q_106 => ?_)
  · have hD := hD.1 q_106
    refine lv_iload_n X.1 X.2.1 d_X11_begins_113 rfl (lv_at hl 2 rfl) ?_
    refine lv_bipush (v := 98) X.1 X.2.1 d_X11_begins_114 (by decide) ?_
    refine lv_icmp_ne (tgt := 123) X.1 X.2.1 d_X11_begins_116 (by decide) (fun q_116 => ?_) (fun q_116 => ?_)
    · have hD := hD.1 q_116
      refine lv_iconst (v := 0) X.1 X.2.1 d_X11_begins_123 (by decide) ?_
      exact s_X11_begins_124 X hr hlk K42 Q hK42 x1 244 ly_11_6.1 ((16 * (σ 237 22)) + x1) 0 σ hw (lv_sub hl [0, 1] rfl) hD
    · have hD := hD.2 q_116
      refine lv_iconst (v := 2) X.1 X.2.1 d_X11_begins_119 (by decide) ?_
      refine lv_goto (tgt := 124) X.1 X.2.1 d_X11_begins_120 (by decide) ?_
      exact s_X11_begins_124 X hr hlk K42 Q hK42 x1 244 ly_11_6.1 ((16 * (σ 237 22)) + x1) 2 σ hw (lv_sub hl [0, 1] rfl) hD
  · have hD := hD.2 q_106
    refine lv_iconst (v := 1) X.1 X.2.1 d_X11_begins_109 (by decide) ?_
    refine lv_goto (tgt := 124) X.1 X.2.1 d_X11_begins_110 (by decide) ?_
    exact s_X11_begins_124 X hr hlk K42 Q hK42 x1 244 ly_11_6.1 ((16 * (σ 237 22)) + x1) 1 σ hw (lv_sub hl [0, 1] rfl) hD
set_option maxRecDepth 20000 in
set_option maxHeartbeats 4000000 in
theorem s_X11_begins_42 {p : Program} {l : Launch} {e : Env} {s : State} {m : MethodId} {args : Array Value} {below : List Frame} {meth : Method} {c : Code} {G : GC} (X : CallFix p m c cm_X11_begins 3 s args lw_us "GameLoomModel") (hr : meth.sig.returnType = some .boolean) (hlk : meth.locks = false) (K42 : Int32 → GSt → Prop) (Q : Int32 → GSt → Prop) (hK42 : ∀ (x1 : Int32) (σ : GSt) (H : Heap) (locs : List Loc) (ls : Array Slot), Wo G s H locs σ → lv_has ls 3 [(0, .ref (G.2.1 237)), (1, .int x1)] → K42 x1 σ → W p l e rm_X11_begins s m args below meth c H locs 0 0 (QMI G Q below args s) (F0 m 42 ls [])) (x1 : Int32) (σ : GSt) {H : Heap} {locs : List Loc} {ls : Array Slot} (hw : Wo G s H locs σ) (hl : lv_has ls 3 [(0, .ref (G.2.1 237)), (1, .int x1)]) (hD : D_X11_begins_42 K42 Q x1 σ) : W p l e rm_X11_begins s m args below meth c H locs 0 0 (QMI G Q below args s) (F0 m 42 ls []) := by
  unfold D_X11_begins_42 at hD
  refine lv_iload_n X.1 X.2.1 d_X11_begins_42 rfl (lv_at hl 1 rfl) ?_
  refine lv_aload_n X.1 X.2.1 d_X11_begins_43 rfl (lv_at hl 0 rfl) ?_
  refine gf_11_4 X hw (by decide +kernel : kd 237 = 11) tb_910 d_X11_begins_44 ?_
  refine lv_aload_n X.1 X.2.1 d_X11_begins_47 rfl (lv_at hl 0 rfl) ?_
  refine gf_11_22 X hw (by decide +kernel : kd 237 = 11) tb_928 d_X11_begins_48 ?_
  obtain ⟨q_51, hD⟩ := hD
  refine g_iald X hw ly_11_4.1 ly_11_4.2 q_51 d_X11_begins_51 ?_
  refine lv_aload_n X.1 X.2.1 d_X11_begins_52 rfl (lv_at hl 0 rfl) ?_
  refine gf_11_5 X hw (by decide +kernel : kd 237 = 11) tb_911 d_X11_begins_53 ?_
  refine lv_aload_n X.1 X.2.1 d_X11_begins_56 rfl (lv_at hl 0 rfl) ?_
  refine gf_11_22 X hw (by decide +kernel : kd 237 = 11) tb_928 d_X11_begins_57 ?_
  obtain ⟨q_60, hD⟩ := hD
  refine g_iald X hw ly_11_5.1 ly_11_5.2 q_60 d_X11_begins_60 ?_
  refine lv_imul X.1 X.2.1 d_X11_begins_61 ?_
  refine lv_icmp_ge (tgt := 141) X.1 X.2.1 d_X11_begins_62 (by decide) (fun q_62 => ?_) (fun q_62 => ?_)
  · have hD := hD.1 q_62
    refine lv_aload_n X.1 X.2.1 d_X11_begins_141 rfl (lv_at hl 0 rfl) ?_
    refine lv_bipush (v := 59) X.1 X.2.1 d_X11_begins_142 (by decide) ?_
    refine gcV_i (rest := []) (As := [.int 59]) (o := 237) X hw (c_X11_takes l G 59 σ _  hD) (kd_lt (by decide +kernel : kd 237 = 11) (by decide)) (ce_11 G _ (by decide +kernel : kd 237 = 11)) rfl tb_1113 tb_1115 tv_41 tb_12 tb_1116 hd_X11_takes ⟨rfl, rfl⟩ ⟨Nat.le_of_ble_eq_true rfl, Nat.le_of_ble_eq_true rfl⟩ rfl hl.1 rfl (Nat.le_of_ble_eq_true rfl) d_X11_begins_144 (fun r_1 σ_2 H locs hD hw => ?_)
    exact g_zret X hr hlk hw hD.1 hD.2 d_X11_begins_147
  · have hD := hD.2 q_62
    refine lv_aload_n X.1 X.2.1 d_X11_begins_65 rfl (lv_at hl 0 rfl) ?_
    refine gcV_i (rest := []) (As := []) (o := 237) X hw (c_X11_sign l G  σ _  hD) (kd_lt (by decide +kernel : kd 237 = 11) (by decide)) (ce_11 G _ (by decide +kernel : kd 237 = 11)) rfl tb_1117 tb_1119 tv_42 tb_12 tb_1120 hd_X11_sign ⟨rfl, rfl⟩ ⟨Nat.le_of_ble_eq_true rfl, Nat.le_of_ble_eq_true rfl⟩ rfl hl.1 rfl (Nat.le_of_ble_eq_true rfl) d_X11_begins_66 (fun r_3 σ_4 H locs hD hw => ?_)
    refine lv_istore_n (lv' := [(2, .int r_3), (0, .ref (G.2.1 237)), (1, .int x1)]) X.1 X.2.1 d_X11_begins_69 rfl hl (by decide) rfl (fun ls hl => ?_)
    refine lv_iload_n X.1 X.2.1 d_X11_begins_70 rfl (lv_at hl 0 rfl) ?_
    refine lv_bipush (v := 97) X.1 X.2.1 d_X11_begins_71 (by decide) ?_
    refine lv_icmp_eq (tgt := 90) X.1 X.2.1 d_X11_begins_73 (by decide) (fun q_73 => ?_) (fun q_73 => ?_)
    · have hD := hD.1 q_73
      exact s_X11_begins_90 X hr hlk K42 Q hK42 x1 r_3 σ_4 hw (lv_sub hl [1, 2, 0] rfl) hD
    · have hD := hD.2 q_73
      refine lv_iload_n X.1 X.2.1 d_X11_begins_76 rfl (lv_at hl 0 rfl) ?_
      refine lv_bipush (v := 98) X.1 X.2.1 d_X11_begins_77 (by decide) ?_
      refine lv_icmp_eq (tgt := 90) X.1 X.2.1 d_X11_begins_79 (by decide) (fun q_79 => ?_) (fun q_79 => ?_)
      · have hD := hD.1 q_79
        exact s_X11_begins_90 X hr hlk K42 Q hK42 x1 r_3 σ_4 hw (lv_sub hl [1, 2, 0] rfl) hD
      · have hD := hD.2 q_79
        refine lv_iload_n X.1 X.2.1 d_X11_begins_82 rfl (lv_at hl 0 rfl) ?_
        refine lv_bipush (v := 120) X.1 X.2.1 d_X11_begins_83 (by decide) ?_
        refine lv_icmp_eq (tgt := 90) X.1 X.2.1 d_X11_begins_85 (by decide) (fun q_85 => ?_) (fun q_85 => ?_)
        · have hD := hD.1 q_85
          exact s_X11_begins_90 X hr hlk K42 Q hK42 x1 r_3 σ_4 hw (lv_sub hl [1, 2, 0] rfl) hD
        · have hD := hD.2 q_85
          refine lv_iconst (v := 0) X.1 X.2.1 d_X11_begins_88 (by decide) ?_
          exact g_zret X hr hlk hw (by decide) hD d_X11_begins_89
set_option maxRecDepth 20000 in
set_option maxHeartbeats 4000000 in
theorem sl_X11_begins_42 {p : Program} {l : Launch} {e : Env} {s : State} {m : MethodId} {args : Array Value} {below : List Frame} {meth : Method} {c : Code} {G : GC} (X : CallFix p m c cm_X11_begins 3 s args lw_us "GameLoomModel") (hr : meth.sig.returnType = some .boolean) (hlk : meth.locks = false) (Q : Int32 → GSt → Prop) : ∀ (nn : Nat), ∀ (x1 : Int32) (σ : GSt) (H : Heap) (locs : List Loc) (ls : Array Slot), Wo G s H locs σ → lv_has ls 3 [(0, .ref (G.2.1 237)), (1, .int x1)] → L_X11_begins_42 Q nn x1 σ → W p l e rm_X11_begins s m args below meth c H locs 0 0 (QMI G Q below args s) (F0 m 42 ls []) := by
  intro nn
  induction nn with
  | zero => intro x1 σ H locs ls  hw hl hD; exact hD.elim
  | succ nn ih =>
    intro x1 σ H locs ls  hw hl hD
    exact s_X11_begins_42 X hr hlk (L_X11_begins_42 Q nn) Q ih x1 σ hw hl hD
set_option maxRecDepth 20000 in
set_option maxHeartbeats 4000000 in
theorem s_X11_begins_2 {p : Program} {l : Launch} {e : Env} {s : State} {m : MethodId} {args : Array Value} {below : List Frame} {meth : Method} {c : Code} {G : GC} (X : CallFix p m c cm_X11_begins 3 s args lw_us "GameLoomModel") (hr : meth.sig.returnType = some .boolean) (hlk : meth.locks = false) (K2 : Int32 → GSt → Prop) (Q : Int32 → GSt → Prop) (hK2 : ∀ (x1 : Int32) (σ : GSt) (H : Heap) (locs : List Loc) (ls : Array Slot), Wo G s H locs σ → lv_has ls 3 [(0, .ref (G.2.1 237)), (1, .int x1)] → K2 x1 σ → W p l e rm_X11_begins s m args below meth c H locs 0 0 (QMI G Q below args s) (F0 m 2 ls [])) (x1 : Int32) (σ : GSt) {H : Heap} {locs : List Loc} {ls : Array Slot} (hw : Wo G s H locs σ) (hl : lv_has ls 3 [(0, .ref (G.2.1 237)), (1, .int x1)]) (hD : D_X11_begins_2 K2 Q x1 σ) : W p l e rm_X11_begins s m args below meth c H locs 0 0 (QMI G Q below args s) (F0 m 2 ls []) := by
  unfold D_X11_begins_2 at hD
  refine lv_iload_n X.1 X.2.1 d_X11_begins_2 rfl (lv_at hl 1 rfl) ?_
  refine lv_bipush (v := 16) X.1 X.2.1 d_X11_begins_3 (by decide) ?_
  refine lv_icmp_ge (tgt := 29) X.1 X.2.1 d_X11_begins_5 (by decide) (fun q_5 => ?_) (fun q_5 => ?_)
  · have hD := hD.1 q_5
    refine lv_aload_n X.1 X.2.1 d_X11_begins_29 rfl (lv_at hl 0 rfl) ?_
    refine lv_bipush (v := 105) X.1 X.2.1 d_X11_begins_30 (by decide) ?_
    refine gcV_i (rest := []) (As := [.int 105]) (o := 237) X hw (c_X11_takes l G 105 σ _  hD) (kd_lt (by decide +kernel : kd 237 = 11) (by decide)) (ce_11 G _ (by decide +kernel : kd 237 = 11)) rfl tb_1113 tb_1115 tv_41 tb_12 tb_1116 hd_X11_takes ⟨rfl, rfl⟩ ⟨Nat.le_of_ble_eq_true rfl, Nat.le_of_ble_eq_true rfl⟩ rfl hl.1 rfl (Nat.le_of_ble_eq_true rfl) d_X11_begins_32 (fun r_1 σ_2 H locs hD hw => ?_)
    refine lv_if_ne (tgt := 40) X.1 X.2.1 d_X11_begins_35 (by decide) (fun q_35 => ?_) (fun q_35 => ?_)
    · have hD := hD.1 q_35
      refine lv_iconst (v := 0) X.1 X.2.1 d_X11_begins_40 (by decide) ?_
      refine lv_istore_n (lv' := [(1, .int 0), (0, .ref (G.2.1 237))]) X.1 X.2.1 d_X11_begins_41 rfl hl (by decide) rfl (fun ls hl => ?_)
      obtain ⟨n9, hD⟩ := hD
      exact sl_X11_begins_42 X hr hlk  Q  n9 0 σ_2 _ _ _  hw (lv_sub hl [1, 0] rfl) hD
    · have hD := hD.2 q_35
      refine lv_iconst (v := 1) X.1 X.2.1 d_X11_begins_38 (by decide) ?_
      exact g_zret X hr hlk hw (by decide) hD d_X11_begins_39
  · have hD := hD.2 q_5
    refine lv_aload_n X.1 X.2.1 d_X11_begins_8 rfl (lv_at hl 0 rfl) ?_
    refine gf_11_6 X hw (by decide +kernel : kd 237 = 11) tb_912 d_X11_begins_9 ?_
    refine lv_bipush (v := 16) X.1 X.2.1 d_X11_begins_12 (by decide) ?_
    refine lv_aload_n X.1 X.2.1 d_X11_begins_14 rfl (lv_at hl 0 rfl) ?_
    refine gf_11_22 X hw (by decide +kernel : kd 237 = 11) tb_928 d_X11_begins_15 ?_
    refine lv_imul X.1 X.2.1 d_X11_begins_18 ?_
    refine lv_iload_n X.1 X.2.1 d_X11_begins_19 rfl (lv_at hl 1 rfl) ?_
    refine lv_iadd X.1 X.2.1 d_X11_begins_20 ?_
    refine lv_iconst (v := 0) X.1 X.2.1 d_X11_begins_21 (by decide) ?_
    obtain ⟨q_22, hD⟩ := hD
    refine g_iast X hw ly_11_6.1 ly_11_6.2 q_22 d_X11_begins_22 (fun H locs hw => ?_)
    obtain ⟨σ_3, e_σ_3⟩ : ∃ z : GSt, z = up2 σ 244 (Int32.toNatClampNeg ((16 * (σ 237 22)) + x1)) 0 := ⟨_, rfl⟩
    rw [← e_σ_3] at hw
    have hD := hD σ_3 e_σ_3
    obtain ⟨x1_4, e_x1_4⟩ : ∃ y : Int32, y = x1 + 1 := ⟨_, rfl⟩
    have hD := hD x1_4 e_x1_4
    refine lv_iinc (v := x1_4) (lv' := [(1, .int x1_4), (0, .ref (G.2.1 237))]) X.1 X.2.1 d_X11_begins_23 hl (k := 1) rfl (by rw [e_x1_4]; rfl) (by decide) rfl (fun ls hl => ?_)
    refine lv_goto (tgt := 2) X.1 X.2.1 d_X11_begins_26 (by decide) ?_
    exact hK2 x1_4 σ_3 _ _ _  hw (lv_sub hl [1, 0] rfl) hD
set_option maxRecDepth 20000 in
set_option maxHeartbeats 4000000 in
theorem sl_X11_begins_2 {p : Program} {l : Launch} {e : Env} {s : State} {m : MethodId} {args : Array Value} {below : List Frame} {meth : Method} {c : Code} {G : GC} (X : CallFix p m c cm_X11_begins 3 s args lw_us "GameLoomModel") (hr : meth.sig.returnType = some .boolean) (hlk : meth.locks = false) (Q : Int32 → GSt → Prop) : ∀ (nn : Nat), ∀ (x1 : Int32) (σ : GSt) (H : Heap) (locs : List Loc) (ls : Array Slot), Wo G s H locs σ → lv_has ls 3 [(0, .ref (G.2.1 237)), (1, .int x1)] → L_X11_begins_2 Q nn x1 σ → W p l e rm_X11_begins s m args below meth c H locs 0 0 (QMI G Q below args s) (F0 m 2 ls []) := by
  intro nn
  induction nn with
  | zero => intro x1 σ H locs ls  hw hl hD; exact hD.elim
  | succ nn ih =>
    intro x1 σ H locs ls  hw hl hD
    exact s_X11_begins_2 X hr hlk (L_X11_begins_2 Q nn) Q ih x1 σ hw hl hD
set_option maxRecDepth 20000 in
set_option maxHeartbeats 4000000 in
theorem s_X11_begins_0 {p : Program} {l : Launch} {e : Env} {s : State} {m : MethodId} {args : Array Value} {below : List Frame} {meth : Method} {c : Code} {G : GC} (X : CallFix p m c cm_X11_begins 3 s args lw_us "GameLoomModel") (hr : meth.sig.returnType = some .boolean) (hlk : meth.locks = false) (Q : Int32 → GSt → Prop) (σ : GSt) {H : Heap} {locs : List Loc} {ls : Array Slot} (hw : Wo G s H locs σ) (hl : lv_has ls 3 [(0, .ref (G.2.1 237))]) (hD : D_X11_begins_0 Q σ) : W p l e rm_X11_begins s m args below meth c H locs 0 0 (QMI G Q below args s) (F0 m 0 ls []) := by
  unfold D_X11_begins_0 at hD
  refine lv_iconst (v := 0) X.1 X.2.1 d_X11_begins_0 (by decide) ?_
  refine lv_istore_n (lv' := [(1, .int 0), (0, .ref (G.2.1 237))]) X.1 X.2.1 d_X11_begins_1 rfl hl (by decide) rfl (fun ls hl => ?_)
  obtain ⟨n9, hD⟩ := hD
  exact sl_X11_begins_2 X hr hlk  Q  n9 0 σ _ _ _  hw (lv_sub hl [1, 0] rfl) hD
theorem c_X11_begins (l : Launch) (G : GC) (σ : GSt) (Q : Int32 → GSt → Prop)  (hD : D_X11_begins  σ Q) : MI l ym_X11_begins cm_X11_begins 3 .boolean rm_X11_begins G σ [.ref (G.2.1 237)] Q := by
  refine met_i (by decide) (Nat.le_of_ble_eq_true rfl) ?_
  intro p e s m args below meth c X hr hlk hw ls hl
  exact s_X11_begins_0 X hr hlk Q   σ hw (lv_sub hl [0] rfl) hD
