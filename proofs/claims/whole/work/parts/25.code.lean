theorem hd_X11_move : ym_X11_move.cls = "GameLoomModel" ∧ ym_X11_move.cls ≠ "java/lang/invoke/MethodHandle" ∧ ym_X11_move.cls ≠ "java/lang/invoke/VarHandle" ∧ (parseMethodDescriptor ym_X11_move.desc).map (fun d => d.parameters.length) = some 1 := by decide +kernel
abbrev rm_X11_move : Room := { frames := 8, cells := 0, slots := 0, locals := 202 }
theorem d_X11_move_0 : decode cm_X11_move 0 = .ok (.aload_n 0, 1) := by decide +kernel
theorem d_X11_move_1 : decode cm_X11_move 1 = .ok (.invokevirtual 272, 3) := by decide +kernel
theorem d_X11_move_4 : decode cm_X11_move 4 = .ok (.ifCond .ne 10, 3) := by decide +kernel
theorem d_X11_move_7 : decode cm_X11_move 7 = .ok (.aload_n 0, 1) := by decide +kernel
theorem d_X11_move_8 : decode cm_X11_move 8 = .ok (.bipush (-3), 2) := by decide +kernel
theorem d_X11_move_10 : decode cm_X11_move 10 = .ok (.invokevirtual 147, 3) := by decide +kernel
theorem d_X11_move_13 : decode cm_X11_move 13 = .ok (.ireturn, 1) := by decide +kernel
theorem d_X11_move_14 : decode cm_X11_move 14 = .ok (.iload_n 1, 1) := by decide +kernel
theorem d_X11_move_15 : decode cm_X11_move 15 = .ok (.iconst (-1), 1) := by decide +kernel
theorem d_X11_move_16 : decode cm_X11_move 16 = .ok (.if_icmp .ge 10, 3) := by decide +kernel
theorem d_X11_move_19 : decode cm_X11_move 19 = .ok (.aload_n 0, 1) := by decide +kernel
theorem d_X11_move_20 : decode cm_X11_move 20 = .ok (.bipush (-4), 2) := by decide +kernel
theorem d_X11_move_22 : decode cm_X11_move 22 = .ok (.invokevirtual 147, 3) := by decide +kernel
theorem d_X11_move_25 : decode cm_X11_move 25 = .ok (.ireturn, 1) := by decide +kernel
theorem d_X11_move_26 : decode cm_X11_move 26 = .ok (.iload_n 1, 1) := by decide +kernel
theorem d_X11_move_27 : decode cm_X11_move 27 = .ok (.ifCond .ge 10, 3) := by decide +kernel
theorem d_X11_move_30 : decode cm_X11_move 30 = .ok (.aload_n 0, 1) := by decide +kernel
theorem d_X11_move_31 : decode cm_X11_move 31 = .ok (.invokevirtual 275, 3) := by decide +kernel
theorem d_X11_move_34 : decode cm_X11_move 34 = .ok (.goto 43, 3) := by decide +kernel
theorem d_X11_move_37 : decode cm_X11_move 37 = .ok (.iload_n 1, 1) := by decide +kernel
theorem d_X11_move_38 : decode cm_X11_move 38 = .ok (.aload_n 0, 1) := by decide +kernel
theorem d_X11_move_39 : decode cm_X11_move 39 = .ok (.invokevirtual 275, 3) := by decide +kernel
theorem d_X11_move_42 : decode cm_X11_move 42 = .ok (.if_icmp .ge 33, 3) := by decide +kernel
theorem d_X11_move_45 : decode cm_X11_move 45 = .ok (.sipush 10000, 3) := by decide +kernel
theorem d_X11_move_48 : decode cm_X11_move 48 = .ok (.aload_n 0, 1) := by decide +kernel
theorem d_X11_move_49 : decode cm_X11_move 49 = .ok (.getfield 86, 3) := by decide +kernel
theorem d_X11_move_52 : decode cm_X11_move 52 = .ok (.iload_n 1, 1) := by decide +kernel
theorem d_X11_move_53 : decode cm_X11_move 53 = .ok (.iaload, 1) := by decide +kernel
theorem d_X11_move_54 : decode cm_X11_move 54 = .ok (.imul, 1) := by decide +kernel
theorem d_X11_move_55 : decode cm_X11_move 55 = .ok (.bipush 100, 2) := by decide +kernel
theorem d_X11_move_57 : decode cm_X11_move 57 = .ok (.aload_n 0, 1) := by decide +kernel
theorem d_X11_move_58 : decode cm_X11_move 58 = .ok (.getfield 89, 3) := by decide +kernel
theorem d_X11_move_61 : decode cm_X11_move 61 = .ok (.iload_n 1, 1) := by decide +kernel
theorem d_X11_move_62 : decode cm_X11_move 62 = .ok (.iaload, 1) := by decide +kernel
theorem d_X11_move_63 : decode cm_X11_move 63 = .ok (.imul, 1) := by decide +kernel
theorem d_X11_move_64 : decode cm_X11_move 64 = .ok (.iadd, 1) := by decide +kernel
theorem d_X11_move_65 : decode cm_X11_move 65 = .ok (.aload_n 0, 1) := by decide +kernel
theorem d_X11_move_66 : decode cm_X11_move 66 = .ok (.getfield 92, 3) := by decide +kernel
theorem d_X11_move_69 : decode cm_X11_move 69 = .ok (.iload_n 1, 1) := by decide +kernel
theorem d_X11_move_70 : decode cm_X11_move 70 = .ok (.iaload, 1) := by decide +kernel
theorem d_X11_move_71 : decode cm_X11_move 71 = .ok (.iadd, 1) := by decide +kernel
theorem d_X11_move_72 : decode cm_X11_move 72 = .ok (.goto 5, 3) := by decide +kernel
theorem d_X11_move_75 : decode cm_X11_move 75 = .ok (.bipush (-9), 2) := by decide +kernel
theorem d_X11_move_77 : decode cm_X11_move 77 = .ok (.ireturn, 1) := by decide +kernel
def D_X11_move_0 (Q : Int32 → GSt → Prop) (x1 : Int32) (σ : GSt) : Prop :=
  D_X11_stands  σ (fun r_1 σ_2 => (¬ r_1 = 0 → ((-1) ≤ x1 → (0 ≤ x1 → D_X11_moves  σ_2 (fun r_3 σ_4 => (r_3 ≤ x1 → Q (-9) σ_4) ∧
  (¬ r_3 ≤ x1 → vp_in x1 7200 ∧ (vp_in x1 7200 ∧ (vp_in x1 7200 ∧ (Q (((10000 * (σ_4 263 (Int32.toNatClampNeg x1))) + (100 * (σ_4 264 (Int32.toNatClampNeg x1)))) + (σ_4 265 (Int32.toNatClampNeg x1))) σ_4)))))) ∧
  (¬ 0 ≤ x1 → D_X11_moves  σ_2 (fun r_5 σ_6 => Q r_5 σ_6))) ∧
  (¬ (-1) ≤ x1 → D_X11_no (-4) σ_2 (fun r_7 σ_8 => Q r_7 σ_8))) ∧
  (r_1 = 0 → D_X11_no (-3) σ_2 (fun r_9 σ_10 => Q r_9 σ_10)))
def D_X11_move (x1 : Int32) (σ : GSt) (Q : Int32 → GSt → Prop) : Prop := D_X11_move_0 Q x1 σ
set_option maxRecDepth 20000 in
set_option maxHeartbeats 4000000 in
theorem s_X11_move_0 {p : Program} {l : Launch} {e : Env} {s : State} {m : MethodId} {args : Array Value} {below : List Frame} {meth : Method} {c : Code} {G : GC} (X : CallFix p m c cm_X11_move 2 s args lw_us "GameLoomModel") (hr : meth.sig.returnType = some .int) (hlk : meth.locks = false) (Q : Int32 → GSt → Prop) (x1 : Int32) (σ : GSt) {H : Heap} {locs : List Loc} {ls : Array Slot} (hw : Wo G s H locs σ) (hl : lv_has ls 2 [(0, .ref (G.2.1 237)), (1, .int x1)]) (hD : D_X11_move_0 Q x1 σ) : W p l e rm_X11_move s m args below meth c H locs 0 0 (QMI G Q below args s) (F0 m 0 ls []) := by
  unfold D_X11_move_0 at hD
  refine lv_aload_n X.1 X.2.1 d_X11_move_0 rfl (lv_at hl 0 rfl) ?_
  refine gcV_i (rest := []) (As := []) (o := 237) X hw (c_X11_stands l G  σ _  hD) (kd_lt (by decide +kernel : kd 237 = 11) (by decide)) (ce_11 G _ (by decide +kernel : kd 237 = 11)) rfl tb_1200 tb_1202 tv_58 tb_12 tb_1203 hd_X11_stands ⟨rfl, rfl⟩ ⟨Nat.le_of_ble_eq_true rfl, Nat.le_of_ble_eq_true rfl⟩ rfl hl.1 rfl (Nat.le_of_ble_eq_true rfl) d_X11_move_1 (fun r_1 σ_2 H locs hD hw => ?_)
  refine lv_if_ne (tgt := 14) X.1 X.2.1 d_X11_move_4 (by decide) (fun q_4 => ?_) (fun q_4 => ?_)
  · have hD := hD.1 q_4
    refine lv_iload_n X.1 X.2.1 d_X11_move_14 rfl (lv_at hl 1 rfl) ?_
    refine lv_iconst (v := (-1)) X.1 X.2.1 d_X11_move_15 (by decide) ?_
    refine lv_icmp_ge (tgt := 26) X.1 X.2.1 d_X11_move_16 (by decide) (fun q_16 => ?_) (fun q_16 => ?_)
    · have hD := hD.1 q_16
      refine lv_iload_n X.1 X.2.1 d_X11_move_26 rfl (lv_at hl 1 rfl) ?_
      refine lv_if_ge (tgt := 37) X.1 X.2.1 d_X11_move_27 (by decide) (fun q_27 => ?_) (fun q_27 => ?_)
      · have hD := hD.1 q_27
        refine lv_iload_n X.1 X.2.1 d_X11_move_37 rfl (lv_at hl 1 rfl) ?_
        refine lv_aload_n X.1 X.2.1 d_X11_move_38 rfl (lv_at hl 0 rfl) ?_
        refine gcV_i (rest := [.int x1]) (As := []) (o := 237) X hw (c_X11_moves l G  σ_2 _  hD) (kd_lt (by decide +kernel : kd 237 = 11) (by decide)) (ce_11 G _ (by decide +kernel : kd 237 = 11)) rfl tb_1228 tb_1230 tv_65 tb_12 tb_1231 hd_X11_moves ⟨rfl, rfl⟩ ⟨Nat.le_of_ble_eq_true rfl, Nat.le_of_ble_eq_true rfl⟩ rfl hl.1 rfl (Nat.le_of_ble_eq_true rfl) d_X11_move_39 (fun r_3 σ_4 H locs hD hw => ?_)
        refine lv_icmp_ge (tgt := 75) X.1 X.2.1 d_X11_move_42 (by decide) (fun q_42 => ?_) (fun q_42 => ?_)
        · have hD := hD.1 q_42
          refine lv_bipush (v := (-9)) X.1 X.2.1 d_X11_move_75 (by decide) ?_
          exact g_iret X hr hlk hw hD d_X11_move_77
        · have hD := hD.2 q_42
          refine lv_sipush (v := 10000) X.1 X.2.1 d_X11_move_45 (by decide) ?_
          refine lv_aload_n X.1 X.2.1 d_X11_move_48 rfl (lv_at hl 0 rfl) ?_
          refine gf_11_29 X hw (by decide +kernel : kd 237 = 11) tb_935 d_X11_move_49 ?_
          refine lv_iload_n X.1 X.2.1 d_X11_move_52 rfl (lv_at hl 1 rfl) ?_
          obtain ⟨q_53, hD⟩ := hD
          refine g_iald X hw ly_11_29.1 ly_11_29.2 q_53 d_X11_move_53 ?_
          refine lv_imul X.1 X.2.1 d_X11_move_54 ?_
          refine lv_bipush (v := 100) X.1 X.2.1 d_X11_move_55 (by decide) ?_
          refine lv_aload_n X.1 X.2.1 d_X11_move_57 rfl (lv_at hl 0 rfl) ?_
          refine gf_11_30 X hw (by decide +kernel : kd 237 = 11) tb_936 d_X11_move_58 ?_
          refine lv_iload_n X.1 X.2.1 d_X11_move_61 rfl (lv_at hl 1 rfl) ?_
          obtain ⟨q_62, hD⟩ := hD
          refine g_iald X hw ly_11_30.1 ly_11_30.2 q_62 d_X11_move_62 ?_
          refine lv_imul X.1 X.2.1 d_X11_move_63 ?_
          refine lv_iadd X.1 X.2.1 d_X11_move_64 ?_
          refine lv_aload_n X.1 X.2.1 d_X11_move_65 rfl (lv_at hl 0 rfl) ?_
          refine gf_11_31 X hw (by decide +kernel : kd 237 = 11) tb_937 d_X11_move_66 ?_
          refine lv_iload_n X.1 X.2.1 d_X11_move_69 rfl (lv_at hl 1 rfl) ?_
          obtain ⟨q_70, hD⟩ := hD
          refine g_iald X hw ly_11_31.1 ly_11_31.2 q_70 d_X11_move_70 ?_
          refine lv_iadd X.1 X.2.1 d_X11_move_71 ?_
          refine lv_goto (tgt := 77) X.1 X.2.1 d_X11_move_72 (by decide) ?_
          exact g_iret X hr hlk hw hD d_X11_move_77
      · have hD := hD.2 q_27
        refine lv_aload_n X.1 X.2.1 d_X11_move_30 rfl (lv_at hl 0 rfl) ?_
        refine gcV_i (rest := []) (As := []) (o := 237) X hw (c_X11_moves l G  σ_2 _  hD) (kd_lt (by decide +kernel : kd 237 = 11) (by decide)) (ce_11 G _ (by decide +kernel : kd 237 = 11)) rfl tb_1228 tb_1230 tv_65 tb_12 tb_1231 hd_X11_moves ⟨rfl, rfl⟩ ⟨Nat.le_of_ble_eq_true rfl, Nat.le_of_ble_eq_true rfl⟩ rfl hl.1 rfl (Nat.le_of_ble_eq_true rfl) d_X11_move_31 (fun r_5 σ_6 H locs hD hw => ?_)
        refine lv_goto (tgt := 77) X.1 X.2.1 d_X11_move_34 (by decide) ?_
        exact g_iret X hr hlk hw hD d_X11_move_77
    · have hD := hD.2 q_16
      refine lv_aload_n X.1 X.2.1 d_X11_move_19 rfl (lv_at hl 0 rfl) ?_
      refine lv_bipush (v := (-4)) X.1 X.2.1 d_X11_move_20 (by decide) ?_
      refine gcV_i (rest := []) (As := [.int (-4)]) (o := 237) X hw (c_X11_no l G (-4) σ_2 _  hD) (kd_lt (by decide +kernel : kd 237 = 11) (by decide)) (ce_11 G _ (by decide +kernel : kd 237 = 11)) rfl tb_1084 tb_1086 tv_35 tb_12 tb_1087 hd_X11_no ⟨rfl, rfl⟩ ⟨Nat.le_of_ble_eq_true rfl, Nat.le_of_ble_eq_true rfl⟩ rfl hl.1 rfl (Nat.le_of_ble_eq_true rfl) d_X11_move_22 (fun r_7 σ_8 H locs hD hw => ?_)
      exact g_iret X hr hlk hw hD d_X11_move_25
  · have hD := hD.2 q_4
    refine lv_aload_n X.1 X.2.1 d_X11_move_7 rfl (lv_at hl 0 rfl) ?_
    refine lv_bipush (v := (-3)) X.1 X.2.1 d_X11_move_8 (by decide) ?_
    refine gcV_i (rest := []) (As := [.int (-3)]) (o := 237) X hw (c_X11_no l G (-3) σ_2 _  hD) (kd_lt (by decide +kernel : kd 237 = 11) (by decide)) (ce_11 G _ (by decide +kernel : kd 237 = 11)) rfl tb_1084 tb_1086 tv_35 tb_12 tb_1087 hd_X11_no ⟨rfl, rfl⟩ ⟨Nat.le_of_ble_eq_true rfl, Nat.le_of_ble_eq_true rfl⟩ rfl hl.1 rfl (Nat.le_of_ble_eq_true rfl) d_X11_move_10 (fun r_9 σ_10 H locs hD hw => ?_)
    exact g_iret X hr hlk hw hD d_X11_move_13
theorem c_X11_move (l : Launch) (G : GC) (x1 : Int32) (σ : GSt) (Q : Int32 → GSt → Prop)  (hD : D_X11_move x1 σ Q) : MI l ym_X11_move cm_X11_move 2 .int rm_X11_move G σ [.ref (G.2.1 237), .int x1] Q := by
  refine met_i (by decide) (Nat.le_of_ble_eq_true rfl) ?_
  intro p e s m args below meth c X hr hlk hw ls hl
  exact s_X11_move_0 X hr hlk Q  x1 σ hw (lv_sub hl [0, 1] rfl) hD
theorem hd_X11_play : ym_X11_play.cls = "GameLoomModel" ∧ ym_X11_play.cls ≠ "java/lang/invoke/MethodHandle" ∧ ym_X11_play.cls ≠ "java/lang/invoke/VarHandle" ∧ (parseMethodDescriptor ym_X11_play.desc).map (fun d => d.parameters.length) = some 1 := by decide +kernel
abbrev rm_X11_play : Room := { frames := 8, cells := 0, slots := 0, locals := 202 }
theorem d_X11_play_0 : decode cm_X11_play 0 = .ok (.aload_n 0, 1) := by decide +kernel
theorem d_X11_play_1 : decode cm_X11_play 1 = .ok (.invokevirtual 272, 3) := by decide +kernel
theorem d_X11_play_4 : decode cm_X11_play 4 = .ok (.ifCond .eq 12, 3) := by decide +kernel
theorem d_X11_play_7 : decode cm_X11_play 7 = .ok (.aload_n 0, 1) := by decide +kernel
theorem d_X11_play_8 : decode cm_X11_play 8 = .ok (.getfield 77, 3) := by decide +kernel
theorem d_X11_play_11 : decode cm_X11_play 11 = .ok (.iconst 0, 1) := by decide +kernel
theorem d_X11_play_12 : decode cm_X11_play 12 = .ok (.iaload, 1) := by decide +kernel
theorem d_X11_play_13 : decode cm_X11_play 13 = .ok (.ifCond .eq 10, 3) := by decide +kernel
theorem d_X11_play_16 : decode cm_X11_play 16 = .ok (.aload_n 0, 1) := by decide +kernel
theorem d_X11_play_17 : decode cm_X11_play 17 = .ok (.bipush (-3), 2) := by decide +kernel
theorem d_X11_play_19 : decode cm_X11_play 19 = .ok (.invokevirtual 147, 3) := by decide +kernel
theorem d_X11_play_22 : decode cm_X11_play 22 = .ok (.ireturn, 1) := by decide +kernel
theorem d_X11_play_23 : decode cm_X11_play 23 = .ok (.iload_n 1, 1) := by decide +kernel
theorem d_X11_play_24 : decode cm_X11_play 24 = .ok (.i2l, 1) := by decide +kernel
theorem d_X11_play_25 : decode cm_X11_play 25 = .ok (.lconst 0, 1) := by decide +kernel
theorem d_X11_play_26 : decode cm_X11_play 26 = .ok (.aload_n 0, 1) := by decide +kernel
theorem d_X11_play_27 : decode cm_X11_play 27 = .ok (.invokevirtual 275, 3) := by decide +kernel
theorem d_X11_play_30 : decode cm_X11_play 30 = .ok (.iconst 1, 1) := by decide +kernel
theorem d_X11_play_31 : decode cm_X11_play 31 = .ok (.isub, 1) := by decide +kernel
theorem d_X11_play_32 : decode cm_X11_play 32 = .ok (.i2l, 1) := by decide +kernel
theorem d_X11_play_33 : decode cm_X11_play 33 = .ok (.invokestatic 140, 3) := by decide +kernel
theorem d_X11_play_36 : decode cm_X11_play 36 = .ok (.istore_n 2, 1) := by decide +kernel
theorem d_X11_play_37 : decode cm_X11_play 37 = .ok (.iload_n 2, 1) := by decide +kernel
theorem d_X11_play_38 : decode cm_X11_play 38 = .ok (.ifCond .eq 9, 3) := by decide +kernel
theorem d_X11_play_41 : decode cm_X11_play 41 = .ok (.aload_n 0, 1) := by decide +kernel
theorem d_X11_play_42 : decode cm_X11_play 42 = .ok (.iload_n 2, 1) := by decide +kernel
theorem d_X11_play_43 : decode cm_X11_play 43 = .ok (.invokevirtual 147, 3) := by decide +kernel
theorem d_X11_play_46 : decode cm_X11_play 46 = .ok (.ireturn, 1) := by decide +kernel
theorem d_X11_play_47 : decode cm_X11_play 47 = .ok (.aload_n 0, 1) := by decide +kernel
theorem d_X11_play_48 : decode cm_X11_play 48 = .ok (.getfield 116, 3) := by decide +kernel
theorem d_X11_play_51 : decode cm_X11_play 51 = .ok (.aload_n 0, 1) := by decide +kernel
theorem d_X11_play_52 : decode cm_X11_play 52 = .ok (.getfield 266, 3) := by decide +kernel
theorem d_X11_play_55 : decode cm_X11_play 55 = .ok (.iload_n 1, 1) := by decide +kernel
theorem d_X11_play_56 : decode cm_X11_play 56 = .ok (.iastore, 1) := by decide +kernel
theorem d_X11_play_57 : decode cm_X11_play 57 = .ok (.aload_n 0, 1) := by decide +kernel
theorem d_X11_play_58 : decode cm_X11_play 58 = .ok (.dup, 1) := by decide +kernel
theorem d_X11_play_59 : decode cm_X11_play 59 = .ok (.getfield 266, 3) := by decide +kernel
theorem d_X11_play_62 : decode cm_X11_play 62 = .ok (.iconst 1, 1) := by decide +kernel
theorem d_X11_play_63 : decode cm_X11_play 63 = .ok (.iadd, 1) := by decide +kernel
theorem d_X11_play_64 : decode cm_X11_play 64 = .ok (.putfield 266, 3) := by decide +kernel
theorem d_X11_play_67 : decode cm_X11_play 67 = .ok (.aload_n 0, 1) := by decide +kernel
theorem d_X11_play_68 : decode cm_X11_play 68 = .ok (.getfield 266, 3) := by decide +kernel
theorem d_X11_play_71 : decode cm_X11_play 71 = .ok (.ireturn, 1) := by decide +kernel
def D_X11_play_16 (Q : Int32 → GSt → Prop) (σ : GSt) : Prop :=
  D_X11_no (-3) σ (fun r_1 σ_2 => Q r_1 σ_2)
def D_X11_play_0 (Q : Int32 → GSt → Prop) (x1 : Int32) (σ : GSt) : Prop :=
  D_X11_stands  σ (fun r_1 σ_2 => (r_1 = 0 → D_X11_play_16 Q σ_2) ∧
  (¬ r_1 = 0 → ((σ_2 260 (Int32.toNatClampNeg 0)) = 0 → D_X11_moves  σ_2 (fun r_3 σ_4 => D_X11_out (Int32.toInt64 x1) 0 (Int32.toInt64 (r_3 - 1)) σ_4 (fun r_5 σ_6 => (r_5 = 0 → vp_in (σ_6 237 42) 60 ∧ (∀ σ_7 : GSt, σ_7 = up2 σ_6 273 (Int32.toNatClampNeg (σ_6 237 42)) x1 → (∀ σ_8 : GSt, σ_8 = up2 σ_7 237 42 ((σ_7 237 42) + 1) → (Q (σ_8 237 42) σ_8)))) ∧
  (¬ r_5 = 0 → D_X11_no r_5 σ_6 (fun r_9 σ_10 => Q r_9 σ_10))))) ∧
  (¬ (σ_2 260 (Int32.toNatClampNeg 0)) = 0 → D_X11_play_16 Q σ_2)))
def D_X11_play (x1 : Int32) (σ : GSt) (Q : Int32 → GSt → Prop) : Prop := D_X11_play_0 Q x1 σ
set_option maxRecDepth 20000 in
set_option maxHeartbeats 4000000 in
theorem s_X11_play_16 {p : Program} {l : Launch} {e : Env} {s : State} {m : MethodId} {args : Array Value} {below : List Frame} {meth : Method} {c : Code} {G : GC} (X : CallFix p m c cm_X11_play 3 s args lw_us "GameLoomModel") (hr : meth.sig.returnType = some .int) (hlk : meth.locks = false) (Q : Int32 → GSt → Prop) (σ : GSt) {H : Heap} {locs : List Loc} {ls : Array Slot} (hw : Wo G s H locs σ) (hl : lv_has ls 3 [(0, .ref (G.2.1 237))]) (hD : D_X11_play_16 Q σ) : W p l e rm_X11_play s m args below meth c H locs 0 0 (QMI G Q below args s) (F0 m 16 ls []) := by
  unfold D_X11_play_16 at hD
  refine lv_aload_n X.1 X.2.1 d_X11_play_16 rfl (lv_at hl 0 rfl) ?_
  refine lv_bipush (v := (-3)) X.1 X.2.1 d_X11_play_17 (by decide) ?_
  refine gcV_i (rest := []) (As := [.int (-3)]) (o := 237) X hw (c_X11_no l G (-3) σ _  hD) (kd_lt (by decide +kernel : kd 237 = 11) (by decide)) (ce_11 G _ (by decide +kernel : kd 237 = 11)) rfl tb_1084 tb_1086 tv_35 tb_12 tb_1087 hd_X11_no ⟨rfl, rfl⟩ ⟨Nat.le_of_ble_eq_true rfl, Nat.le_of_ble_eq_true rfl⟩ rfl hl.1 rfl (Nat.le_of_ble_eq_true rfl) d_X11_play_19 (fun r_1 σ_2 H locs hD hw => ?_)
  exact g_iret X hr hlk hw hD d_X11_play_22
set_option maxRecDepth 20000 in
set_option maxHeartbeats 4000000 in
theorem s_X11_play_0 {p : Program} {l : Launch} {e : Env} {s : State} {m : MethodId} {args : Array Value} {below : List Frame} {meth : Method} {c : Code} {G : GC} (X : CallFix p m c cm_X11_play 3 s args lw_us "GameLoomModel") (hr : meth.sig.returnType = some .int) (hlk : meth.locks = false) (Q : Int32 → GSt → Prop) (x1 : Int32) (σ : GSt) {H : Heap} {locs : List Loc} {ls : Array Slot} (hw : Wo G s H locs σ) (hl : lv_has ls 3 [(0, .ref (G.2.1 237)), (1, .int x1)]) (hD : D_X11_play_0 Q x1 σ) : W p l e rm_X11_play s m args below meth c H locs 0 0 (QMI G Q below args s) (F0 m 0 ls []) := by
  unfold D_X11_play_0 at hD
  refine lv_aload_n X.1 X.2.1 d_X11_play_0 rfl (lv_at hl 0 rfl) ?_
  refine gcV_i (rest := []) (As := []) (o := 237) X hw (c_X11_stands l G  σ _  hD) (kd_lt (by decide +kernel : kd 237 = 11) (by decide)) (ce_11 G _ (by decide +kernel : kd 237 = 11)) rfl tb_1200 tb_1202 tv_58 tb_12 tb_1203 hd_X11_stands ⟨rfl, rfl⟩ ⟨Nat.le_of_ble_eq_true rfl, Nat.le_of_ble_eq_true rfl⟩ rfl hl.1 rfl (Nat.le_of_ble_eq_true rfl) d_X11_play_1 (fun r_1 σ_2 H locs hD hw => ?_)
  refine lv_if_eq (tgt := 16) X.1 X.2.1 d_X11_play_4 (by decide) (fun q_4 => ?_) (fun q_4 => ?_)
  · have hD := hD.1 q_4
    exact s_X11_play_16 X hr hlk  Q   σ_2 hw (lv_sub hl [0] rfl) hD
  · have hD := hD.2 q_4
    refine lv_aload_n X.1 X.2.1 d_X11_play_7 rfl (lv_at hl 0 rfl) ?_
    refine gf_11_26 X hw (by decide +kernel : kd 237 = 11) tb_932 d_X11_play_8 ?_
    refine lv_iconst (v := 0) X.1 X.2.1 d_X11_play_11 (by decide) ?_
    have q_12 : vp_in 0 9 := by unfold vp_in; decide
    refine g_iald X hw ly_11_26.1 ly_11_26.2 q_12 d_X11_play_12 ?_
    refine lv_if_eq (tgt := 23) X.1 X.2.1 d_X11_play_13 (by decide) (fun q_13 => ?_) (fun q_13 => ?_)
    · have hD := hD.1 q_13
      refine lv_iload_n X.1 X.2.1 d_X11_play_23 rfl (lv_at hl 1 rfl) ?_
      refine lv_i2l (v := (Int32.toInt64 x1)) X.1 X.2.1 d_X11_play_24 rfl ?_
      refine lv_lconst (v := 0) X.1 X.2.1 d_X11_play_25 (by decide) ?_
      refine lv_aload_n X.1 X.2.1 d_X11_play_26 rfl (lv_at hl 0 rfl) ?_
      refine gcV_i (rest := [.long 0, .long (Int32.toInt64 x1)]) (As := []) (o := 237) X hw (c_X11_moves l G  σ_2 _  hD) (kd_lt (by decide +kernel : kd 237 = 11) (by decide)) (ce_11 G _ (by decide +kernel : kd 237 = 11)) rfl tb_1228 tb_1230 tv_65 tb_12 tb_1231 hd_X11_moves ⟨rfl, rfl⟩ ⟨Nat.le_of_ble_eq_true rfl, Nat.le_of_ble_eq_true rfl⟩ rfl hl.1 rfl (Nat.le_of_ble_eq_true rfl) d_X11_play_27 (fun r_3 σ_4 H locs hD hw => ?_)
      refine lv_iconst (v := 1) X.1 X.2.1 d_X11_play_30 (by decide) ?_
      refine lv_isub X.1 X.2.1 d_X11_play_31 ?_
      refine lv_i2l (v := (Int32.toInt64 (r_3 - 1))) X.1 X.2.1 d_X11_play_32 rfl ?_
      refine gcS_i (rest := []) (As := [.long (Int32.toInt64 x1), .long 0, .long (Int32.toInt64 (r_3 - 1))]) X hw (c_X11_out l G (Int32.toInt64 x1) 0 (Int32.toInt64 (r_3 - 1)) σ_4 _  hD) tb_1081 tb_1082 tb_12 tb_1083 hd_X11_out ⟨rfl, rfl⟩ ⟨Nat.le_of_ble_eq_true rfl, Nat.le_of_ble_eq_true rfl⟩ rfl hl.1 rfl (Nat.le_of_ble_eq_true rfl) d_X11_play_33 (fun r_5 σ_6 H locs hD hw => ?_)
      refine lv_istore_n (lv' := [(2, .int r_5), (0, .ref (G.2.1 237)), (1, .int x1)]) X.1 X.2.1 d_X11_play_36 rfl hl (by decide) rfl (fun ls hl => ?_)
      refine lv_iload_n X.1 X.2.1 d_X11_play_37 rfl (lv_at hl 0 rfl) ?_
      refine lv_if_eq (tgt := 47) X.1 X.2.1 d_X11_play_38 (by decide) (fun q_38 => ?_) (fun q_38 => ?_)
      · have hD := hD.1 q_38
        refine lv_aload_n X.1 X.2.1 d_X11_play_47 rfl (lv_at hl 1 rfl) ?_
        refine gf_11_40 X hw (by decide +kernel : kd 237 = 11) tb_946 d_X11_play_48 ?_
        refine lv_aload_n X.1 X.2.1 d_X11_play_51 rfl (lv_at hl 1 rfl) ?_
        refine gf_11_42 X hw (by decide +kernel : kd 237 = 11) tb_948 d_X11_play_52 ?_
        refine lv_iload_n X.1 X.2.1 d_X11_play_55 rfl (lv_at hl 2 rfl) ?_
        obtain ⟨q_56, hD⟩ := hD
        refine g_iast X hw ly_11_40.1 ly_11_40.2 q_56 d_X11_play_56 (fun H locs hw => ?_)
        obtain ⟨σ_7, e_σ_7⟩ : ∃ z : GSt, z = up2 σ_6 273 (Int32.toNatClampNeg (σ_6 237 42)) x1 := ⟨_, rfl⟩
        rw [← e_σ_7] at hw
        have hD := hD σ_7 e_σ_7
        refine lv_aload_n X.1 X.2.1 d_X11_play_57 rfl (lv_at hl 1 rfl) ?_
        refine lv_dup X.1 X.2.1 d_X11_play_58 rfl ?_
        refine gf_11_42 X hw (by decide +kernel : kd 237 = 11) tb_948 d_X11_play_59 ?_
        refine lv_iconst (v := 1) X.1 X.2.1 d_X11_play_62 (by decide) ?_
        refine lv_iadd X.1 X.2.1 d_X11_play_63 ?_
        refine pf_11_42 X hw (by decide +kernel : kd 237 = 11) tb_948 d_X11_play_64 (fun H locs hw => ?_)
        obtain ⟨σ_8, e_σ_8⟩ : ∃ z : GSt, z = up2 σ_7 237 42 ((σ_7 237 42) + 1) := ⟨_, rfl⟩
        rw [← e_σ_8] at hw
        have hD := hD σ_8 e_σ_8
        refine lv_aload_n X.1 X.2.1 d_X11_play_67 rfl (lv_at hl 1 rfl) ?_
        refine gf_11_42 X hw (by decide +kernel : kd 237 = 11) tb_948 d_X11_play_68 ?_
        exact g_iret X hr hlk hw hD d_X11_play_71
      · have hD := hD.2 q_38
        refine lv_aload_n X.1 X.2.1 d_X11_play_41 rfl (lv_at hl 1 rfl) ?_
        refine lv_iload_n X.1 X.2.1 d_X11_play_42 rfl (lv_at hl 0 rfl) ?_
        refine gcV_i (rest := []) (As := [.int r_5]) (o := 237) X hw (c_X11_no l G r_5 σ_6 _  hD) (kd_lt (by decide +kernel : kd 237 = 11) (by decide)) (ce_11 G _ (by decide +kernel : kd 237 = 11)) rfl tb_1084 tb_1086 tv_35 tb_12 tb_1087 hd_X11_no ⟨rfl, rfl⟩ ⟨Nat.le_of_ble_eq_true rfl, Nat.le_of_ble_eq_true rfl⟩ rfl hl.1 rfl (Nat.le_of_ble_eq_true rfl) d_X11_play_43 (fun r_9 σ_10 H locs hD hw => ?_)
        exact g_iret X hr hlk hw hD d_X11_play_46
    · have hD := hD.2 q_13
      exact s_X11_play_16 X hr hlk  Q   σ_2 hw (lv_sub hl [0] rfl) hD
theorem c_X11_play (l : Launch) (G : GC) (x1 : Int32) (σ : GSt) (Q : Int32 → GSt → Prop)  (hD : D_X11_play x1 σ Q) : MI l ym_X11_play cm_X11_play 3 .int rm_X11_play G σ [.ref (G.2.1 237), .int x1] Q := by
  refine met_i (by decide) (Nat.le_of_ble_eq_true rfl) ?_
  intro p e s m args below meth c X hr hlk hw ls hl
  exact s_X11_play_0 X hr hlk Q  x1 σ hw (lv_sub hl [0, 1] rfl) hD
theorem hd_X11_back : ym_X11_back.cls = "GameLoomModel" ∧ ym_X11_back.cls ≠ "java/lang/invoke/MethodHandle" ∧ ym_X11_back.cls ≠ "java/lang/invoke/VarHandle" ∧ (parseMethodDescriptor ym_X11_back.desc).map (fun d => d.parameters.length) = some 0 := by decide +kernel
abbrev rm_X11_back : Room := { frames := 1, cells := 0, slots := 0, locals := 21 }
theorem d_X11_back_0 : decode cm_X11_back 0 = .ok (.aload_n 0, 1) := by decide +kernel
theorem d_X11_back_1 : decode cm_X11_back 1 = .ok (.getfield 119, 3) := by decide +kernel
theorem d_X11_back_4 : decode cm_X11_back 4 = .ok (.ifCond .lt 10, 3) := by decide +kernel
theorem d_X11_back_7 : decode cm_X11_back 7 = .ok (.aload_n 0, 1) := by decide +kernel
theorem d_X11_back_8 : decode cm_X11_back 8 = .ok (.getfield 266, 3) := by decide +kernel
theorem d_X11_back_11 : decode cm_X11_back 11 = .ok (.ifCond .ne 10, 3) := by decide +kernel
theorem d_X11_back_14 : decode cm_X11_back 14 = .ok (.aload_n 0, 1) := by decide +kernel
theorem d_X11_back_15 : decode cm_X11_back 15 = .ok (.bipush (-3), 2) := by decide +kernel
theorem d_X11_back_17 : decode cm_X11_back 17 = .ok (.invokevirtual 147, 3) := by decide +kernel
theorem d_X11_back_20 : decode cm_X11_back 20 = .ok (.ireturn, 1) := by decide +kernel
theorem d_X11_back_21 : decode cm_X11_back 21 = .ok (.aload_n 0, 1) := by decide +kernel
theorem d_X11_back_22 : decode cm_X11_back 22 = .ok (.dup, 1) := by decide +kernel
theorem d_X11_back_23 : decode cm_X11_back 23 = .ok (.getfield 266, 3) := by decide +kernel
theorem d_X11_back_26 : decode cm_X11_back 26 = .ok (.iconst 1, 1) := by decide +kernel
theorem d_X11_back_27 : decode cm_X11_back 27 = .ok (.isub, 1) := by decide +kernel
theorem d_X11_back_28 : decode cm_X11_back 28 = .ok (.putfield 266, 3) := by decide +kernel
theorem d_X11_back_31 : decode cm_X11_back 31 = .ok (.aload_n 0, 1) := by decide +kernel
theorem d_X11_back_32 : decode cm_X11_back 32 = .ok (.getfield 266, 3) := by decide +kernel
theorem d_X11_back_35 : decode cm_X11_back 35 = .ok (.ireturn, 1) := by decide +kernel
def D_X11_back_14 (Q : Int32 → GSt → Prop) (σ : GSt) : Prop :=
  D_X11_no (-3) σ (fun r_1 σ_2 => Q r_1 σ_2)
def D_X11_back_0 (Q : Int32 → GSt → Prop) (σ : GSt) : Prop :=
  ((σ 237 41) < 0 → D_X11_back_14 Q σ) ∧
  (¬ (σ 237 41) < 0 → (¬ (σ 237 42) = 0 → ∀ σ_1 : GSt, σ_1 = up2 σ 237 42 ((σ 237 42) - 1) → (Q (σ_1 237 42) σ_1)) ∧
  ((σ 237 42) = 0 → D_X11_back_14 Q σ))
def D_X11_back (σ : GSt) (Q : Int32 → GSt → Prop) : Prop := D_X11_back_0 Q σ
set_option maxRecDepth 20000 in
set_option maxHeartbeats 4000000 in
theorem s_X11_back_14 {p : Program} {l : Launch} {e : Env} {s : State} {m : MethodId} {args : Array Value} {below : List Frame} {meth : Method} {c : Code} {G : GC} (X : CallFix p m c cm_X11_back 1 s args lw_us "GameLoomModel") (hr : meth.sig.returnType = some .int) (hlk : meth.locks = false) (Q : Int32 → GSt → Prop) (σ : GSt) {H : Heap} {locs : List Loc} {ls : Array Slot} (hw : Wo G s H locs σ) (hl : lv_has ls 1 [(0, .ref (G.2.1 237))]) (hD : D_X11_back_14 Q σ) : W p l e rm_X11_back s m args below meth c H locs 0 0 (QMI G Q below args s) (F0 m 14 ls []) := by
  unfold D_X11_back_14 at hD
  refine lv_aload_n X.1 X.2.1 d_X11_back_14 rfl (lv_at hl 0 rfl) ?_
  refine lv_bipush (v := (-3)) X.1 X.2.1 d_X11_back_15 (by decide) ?_
  refine gcV_i (rest := []) (As := [.int (-3)]) (o := 237) X hw (c_X11_no l G (-3) σ _  hD) (kd_lt (by decide +kernel : kd 237 = 11) (by decide)) (ce_11 G _ (by decide +kernel : kd 237 = 11)) rfl tb_1084 tb_1086 tv_35 tb_12 tb_1087 hd_X11_no ⟨rfl, rfl⟩ ⟨Nat.le_of_ble_eq_true rfl, Nat.le_of_ble_eq_true rfl⟩ rfl hl.1 rfl (Nat.le_of_ble_eq_true rfl) d_X11_back_17 (fun r_1 σ_2 H locs hD hw => ?_)
  exact g_iret X hr hlk hw hD d_X11_back_20
set_option maxRecDepth 20000 in
set_option maxHeartbeats 4000000 in
theorem s_X11_back_0 {p : Program} {l : Launch} {e : Env} {s : State} {m : MethodId} {args : Array Value} {below : List Frame} {meth : Method} {c : Code} {G : GC} (X : CallFix p m c cm_X11_back 1 s args lw_us "GameLoomModel") (hr : meth.sig.returnType = some .int) (hlk : meth.locks = false) (Q : Int32 → GSt → Prop) (σ : GSt) {H : Heap} {locs : List Loc} {ls : Array Slot} (hw : Wo G s H locs σ) (hl : lv_has ls 1 [(0, .ref (G.2.1 237))]) (hD : D_X11_back_0 Q σ) : W p l e rm_X11_back s m args below meth c H locs 0 0 (QMI G Q below args s) (F0 m 0 ls []) := by
  unfold D_X11_back_0 at hD
  refine lv_aload_n X.1 X.2.1 d_X11_back_0 rfl (lv_at hl 0 rfl) ?_
  refine gf_11_41 X hw (by decide +kernel : kd 237 = 11) tb_947 d_X11_back_1 ?_
  refine lv_if_lt (tgt := 14) X.1 X.2.1 d_X11_back_4 (by decide) (fun q_4 => ?_) (fun q_4 => ?_)
  · have hD := hD.1 q_4
    exact s_X11_back_14 X hr hlk  Q   σ hw (lv_sub hl [0] rfl) hD
  · have hD := hD.2 q_4
    refine lv_aload_n X.1 X.2.1 d_X11_back_7 rfl (lv_at hl 0 rfl) ?_
    refine gf_11_42 X hw (by decide +kernel : kd 237 = 11) tb_948 d_X11_back_8 ?_
    refine lv_if_ne (tgt := 21) X.1 X.2.1 d_X11_back_11 (by decide) (fun q_11 => ?_) (fun q_11 => ?_)
    · have hD := hD.1 q_11
      refine lv_aload_n X.1 X.2.1 d_X11_back_21 rfl (lv_at hl 0 rfl) ?_
      refine lv_dup X.1 X.2.1 d_X11_back_22 rfl ?_
      refine gf_11_42 X hw (by decide +kernel : kd 237 = 11) tb_948 d_X11_back_23 ?_
      refine lv_iconst (v := 1) X.1 X.2.1 d_X11_back_26 (by decide) ?_
      refine lv_isub X.1 X.2.1 d_X11_back_27 ?_
      refine pf_11_42 X hw (by decide +kernel : kd 237 = 11) tb_948 d_X11_back_28 (fun H locs hw => ?_)
      obtain ⟨σ_1, e_σ_1⟩ : ∃ z : GSt, z = up2 σ 237 42 ((σ 237 42) - 1) := ⟨_, rfl⟩
      rw [← e_σ_1] at hw
      have hD := hD σ_1 e_σ_1
      refine lv_aload_n X.1 X.2.1 d_X11_back_31 rfl (lv_at hl 0 rfl) ?_
      refine gf_11_42 X hw (by decide +kernel : kd 237 = 11) tb_948 d_X11_back_32 ?_
      exact g_iret X hr hlk hw hD d_X11_back_35
    · have hD := hD.2 q_11
      exact s_X11_back_14 X hr hlk  Q   σ hw (lv_sub hl [0] rfl) hD
theorem c_X11_back (l : Launch) (G : GC) (σ : GSt) (Q : Int32 → GSt → Prop)  (hD : D_X11_back  σ Q) : MI l ym_X11_back cm_X11_back 1 .int rm_X11_back G σ [.ref (G.2.1 237)] Q := by
  refine met_i (by decide) (Nat.le_of_ble_eq_true rfl) ?_
  intro p e s m args below meth c X hr hlk hw ls hl
  exact s_X11_back_0 X hr hlk Q   σ hw (lv_sub hl [0] rfl) hD
theorem hd_X11_code : ym_X11_code.cls = "GameLoomModel" ∧ ym_X11_code.cls ≠ "java/lang/invoke/MethodHandle" ∧ ym_X11_code.cls ≠ "java/lang/invoke/VarHandle" ∧ (parseMethodDescriptor ym_X11_code.desc).map (fun d => d.parameters.length) = some 1 := by decide +kernel
abbrev rm_X11_code : Room := { frames := 1, cells := 0, slots := 0, locals := 20 }
theorem d_X11_code_0 : decode cm_X11_code 0 = .ok (.iconst 0, 1) := by decide +kernel
theorem d_X11_code_1 : decode cm_X11_code 1 = .ok (.istore_n 2, 1) := by decide +kernel
theorem d_X11_code_2 : decode cm_X11_code 2 = .ok (.aload_n 0, 1) := by decide +kernel
theorem d_X11_code_3 : decode cm_X11_code 3 = .ok (.getfield 22, 3) := by decide +kernel
theorem d_X11_code_6 : decode cm_X11_code 6 = .ok (.aload_n 0, 1) := by decide +kernel
theorem d_X11_code_7 : decode cm_X11_code 7 = .ok (.getfield 156, 3) := by decide +kernel
theorem d_X11_code_10 : decode cm_X11_code 10 = .ok (.iaload, 1) := by decide +kernel
theorem d_X11_code_11 : decode cm_X11_code 11 = .ok (.istore_n 3, 1) := by decide +kernel
theorem d_X11_code_12 : decode cm_X11_code 12 = .ok (.aload_n 0, 1) := by decide +kernel
theorem d_X11_code_13 : decode cm_X11_code 13 = .ok (.getfield 25, 3) := by decide +kernel
theorem d_X11_code_16 : decode cm_X11_code 16 = .ok (.aload_n 0, 1) := by decide +kernel
theorem d_X11_code_17 : decode cm_X11_code 17 = .ok (.getfield 156, 3) := by decide +kernel
theorem d_X11_code_20 : decode cm_X11_code 20 = .ok (.iaload, 1) := by decide +kernel
theorem d_X11_code_21 : decode cm_X11_code 21 = .ok (.istore 4, 2) := by decide +kernel
theorem d_X11_code_23 : decode cm_X11_code 23 = .ok (.aload_n 0, 1) := by decide +kernel
theorem d_X11_code_24 : decode cm_X11_code 24 = .ok (.invokevirtual 210, 3) := by decide +kernel
theorem d_X11_code_27 : decode cm_X11_code 27 = .ok (.iconst 1, 1) := by decide +kernel
theorem d_X11_code_28 : decode cm_X11_code 28 = .ok (.isub, 1) := by decide +kernel
theorem d_X11_code_29 : decode cm_X11_code 29 = .ok (.istore 5, 2) := by decide +kernel
theorem d_X11_code_31 : decode cm_X11_code 31 = .ok (.iload 5, 2) := by decide +kernel
theorem d_X11_code_33 : decode cm_X11_code 33 = .ok (.ifCond .lt 101, 3) := by decide +kernel
theorem d_X11_code_36 : decode cm_X11_code 36 = .ok (.iload 5, 2) := by decide +kernel
theorem d_X11_code_38 : decode cm_X11_code 38 = .ok (.iload_n 3, 1) := by decide +kernel
theorem d_X11_code_39 : decode cm_X11_code 39 = .ok (.irem, 1) := by decide +kernel
theorem d_X11_code_40 : decode cm_X11_code 40 = .ok (.istore 6, 2) := by decide +kernel
theorem d_X11_code_42 : decode cm_X11_code 42 = .ok (.iload 5, 2) := by decide +kernel
theorem d_X11_code_44 : decode cm_X11_code 44 = .ok (.iload_n 3, 1) := by decide +kernel
theorem d_X11_code_45 : decode cm_X11_code 45 = .ok (.idiv, 1) := by decide +kernel
theorem d_X11_code_46 : decode cm_X11_code 46 = .ok (.istore 7, 2) := by decide +kernel
theorem d_X11_code_48 : decode cm_X11_code 48 = .ok (.iload_n 1, 1) := by decide +kernel
theorem d_X11_code_49 : decode cm_X11_code 49 = .ok (.iconst 1, 1) := by decide +kernel
theorem d_X11_code_50 : decode cm_X11_code 50 = .ok (.iand, 1) := by decide +kernel
theorem d_X11_code_51 : decode cm_X11_code 51 = .ok (.iconst 1, 1) := by decide +kernel
theorem d_X11_code_52 : decode cm_X11_code 52 = .ok (.if_icmp .ne 12, 3) := by decide +kernel
theorem d_X11_code_55 : decode cm_X11_code 55 = .ok (.iload_n 3, 1) := by decide +kernel
theorem d_X11_code_56 : decode cm_X11_code 56 = .ok (.iconst 1, 1) := by decide +kernel
theorem d_X11_code_57 : decode cm_X11_code 57 = .ok (.isub, 1) := by decide +kernel
theorem d_X11_code_58 : decode cm_X11_code 58 = .ok (.iload 6, 2) := by decide +kernel
theorem d_X11_code_60 : decode cm_X11_code 60 = .ok (.isub, 1) := by decide +kernel
theorem d_X11_code_61 : decode cm_X11_code 61 = .ok (.goto 5, 3) := by decide +kernel
theorem d_X11_code_64 : decode cm_X11_code 64 = .ok (.iload 6, 2) := by decide +kernel
theorem d_X11_code_66 : decode cm_X11_code 66 = .ok (.istore 8, 2) := by decide +kernel
theorem d_X11_code_68 : decode cm_X11_code 68 = .ok (.iload_n 1, 1) := by decide +kernel
theorem d_X11_code_69 : decode cm_X11_code 69 = .ok (.iconst 2, 1) := by decide +kernel
theorem d_X11_code_70 : decode cm_X11_code 70 = .ok (.iand, 1) := by decide +kernel
theorem d_X11_code_71 : decode cm_X11_code 71 = .ok (.iconst 2, 1) := by decide +kernel
theorem d_X11_code_72 : decode cm_X11_code 72 = .ok (.if_icmp .ne 13, 3) := by decide +kernel
theorem d_X11_code_75 : decode cm_X11_code 75 = .ok (.iload 4, 2) := by decide +kernel
theorem d_X11_code_77 : decode cm_X11_code 77 = .ok (.iconst 1, 1) := by decide +kernel
theorem d_X11_code_78 : decode cm_X11_code 78 = .ok (.isub, 1) := by decide +kernel
theorem d_X11_code_79 : decode cm_X11_code 79 = .ok (.iload 7, 2) := by decide +kernel
theorem d_X11_code_81 : decode cm_X11_code 81 = .ok (.isub, 1) := by decide +kernel
theorem d_X11_code_82 : decode cm_X11_code 82 = .ok (.goto 5, 3) := by decide +kernel
theorem d_X11_code_85 : decode cm_X11_code 85 = .ok (.iload 7, 2) := by decide +kernel
theorem d_X11_code_87 : decode cm_X11_code 87 = .ok (.istore 9, 2) := by decide +kernel
theorem d_X11_code_89 : decode cm_X11_code 89 = .ok (.iconst 3, 1) := by decide +kernel
theorem d_X11_code_90 : decode cm_X11_code 90 = .ok (.iload_n 2, 1) := by decide +kernel
theorem d_X11_code_91 : decode cm_X11_code 91 = .ok (.imul, 1) := by decide +kernel
theorem d_X11_code_92 : decode cm_X11_code 92 = .ok (.iload_n 1, 1) := by decide +kernel
theorem d_X11_code_93 : decode cm_X11_code 93 = .ok (.iconst 4, 1) := by decide +kernel
theorem d_X11_code_94 : decode cm_X11_code 94 = .ok (.iand, 1) := by decide +kernel
theorem d_X11_code_95 : decode cm_X11_code 95 = .ok (.iconst 4, 1) := by decide +kernel
theorem d_X11_code_96 : decode cm_X11_code 96 = .ok (.if_icmp .ne 18, 3) := by decide +kernel
theorem d_X11_code_99 : decode cm_X11_code 99 = .ok (.aload_n 0, 1) := by decide +kernel
theorem d_X11_code_100 : decode cm_X11_code 100 = .ok (.getfield 68, 3) := by decide +kernel
theorem d_X11_code_103 : decode cm_X11_code 103 = .ok (.iload_n 3, 1) := by decide +kernel
theorem d_X11_code_104 : decode cm_X11_code 104 = .ok (.iload 8, 2) := by decide +kernel
theorem d_X11_code_106 : decode cm_X11_code 106 = .ok (.imul, 1) := by decide +kernel
theorem d_X11_code_107 : decode cm_X11_code 107 = .ok (.iload 9, 2) := by decide +kernel
theorem d_X11_code_109 : decode cm_X11_code 109 = .ok (.iadd, 1) := by decide +kernel
theorem d_X11_code_110 : decode cm_X11_code 110 = .ok (.iaload, 1) := by decide +kernel
theorem d_X11_code_111 : decode cm_X11_code 111 = .ok (.goto 15, 3) := by decide +kernel
theorem d_X11_code_114 : decode cm_X11_code 114 = .ok (.aload_n 0, 1) := by decide +kernel
theorem d_X11_code_115 : decode cm_X11_code 115 = .ok (.getfield 68, 3) := by decide +kernel
theorem d_X11_code_118 : decode cm_X11_code 118 = .ok (.iload_n 3, 1) := by decide +kernel
theorem d_X11_code_119 : decode cm_X11_code 119 = .ok (.iload 9, 2) := by decide +kernel
theorem d_X11_code_121 : decode cm_X11_code 121 = .ok (.imul, 1) := by decide +kernel
theorem d_X11_code_122 : decode cm_X11_code 122 = .ok (.iload 8, 2) := by decide +kernel
theorem d_X11_code_124 : decode cm_X11_code 124 = .ok (.iadd, 1) := by decide +kernel
theorem d_X11_code_125 : decode cm_X11_code 125 = .ok (.iaload, 1) := by decide +kernel
theorem d_X11_code_126 : decode cm_X11_code 126 = .ok (.iadd, 1) := by decide +kernel
theorem d_X11_code_127 : decode cm_X11_code 127 = .ok (.istore_n 2, 1) := by decide +kernel
theorem d_X11_code_128 : decode cm_X11_code 128 = .ok (.iinc 5 (-1), 3) := by decide +kernel
theorem d_X11_code_131 : decode cm_X11_code 131 = .ok (.goto (-100), 3) := by decide +kernel
theorem d_X11_code_134 : decode cm_X11_code 134 = .ok (.iload_n 2, 1) := by decide +kernel
theorem d_X11_code_135 : decode cm_X11_code 135 = .ok (.ireturn, 1) := by decide +kernel
def D_X11_code_126 (K31 : Int32 → Int32 → Int32 → Int32 → Int32 → GSt → Prop) (Q : Int32 → GSt → Prop) (x1 : Int32) (x3 : Int32) (x4 : Int32) (x5 : Int32) (s0 : Int32) (s1 : Int32) (σ : GSt) : Prop :=
  ∀ x2_1 : Int32, x2_1 = (s0 + s1) → (∀ x5_2 : Int32, x5_2 = x5 + (-1) → (K31 x1 x2_1 x3 x4 x5_2 σ))
def D_X11_code_87 (K31 : Int32 → Int32 → Int32 → Int32 → Int32 → GSt → Prop) (Q : Int32 → GSt → Prop) (x1 : Int32) (x2 : Int32) (x3 : Int32) (x4 : Int32) (x5 : Int32) (x8 : Int32) (s0 : Int32) (σ : GSt) : Prop :=
  (¬ (x1 &&& 4) = 4 → vp_in ((x3 * s0) + x8) 144 ∧ (D_X11_code_126 K31 Q x1 x3 x4 x5 (3 * x2) (σ 257 (Int32.toNatClampNeg ((x3 * s0) + x8))) σ)) ∧
  ((x1 &&& 4) = 4 → vp_in ((x3 * x8) + s0) 144 ∧ (D_X11_code_126 K31 Q x1 x3 x4 x5 (3 * x2) (σ 257 (Int32.toNatClampNeg ((x3 * x8) + s0))) σ))
def D_X11_code_66 (K31 : Int32 → Int32 → Int32 → Int32 → Int32 → GSt → Prop) (Q : Int32 → GSt → Prop) (x1 : Int32) (x2 : Int32) (x3 : Int32) (x4 : Int32) (x5 : Int32) (x7 : Int32) (s0 : Int32) (σ : GSt) : Prop :=
  (¬ (x1 &&& 2) = 2 → D_X11_code_87 K31 Q x1 x2 x3 x4 x5 s0 x7 σ) ∧
  ((x1 &&& 2) = 2 → D_X11_code_87 K31 Q x1 x2 x3 x4 x5 s0 ((x4 - 1) - x7) σ)
def D_X11_code_31 (K31 : Int32 → Int32 → Int32 → Int32 → Int32 → GSt → Prop) (Q : Int32 → GSt → Prop) (x1 : Int32) (x2 : Int32) (x3 : Int32) (x4 : Int32) (x5 : Int32) (σ : GSt) : Prop :=
  (x5 < 0 → Q x2 σ) ∧
  (¬ x5 < 0 → ¬ x3 = 0 ∧ (∀ x6_1 : Int32, x6_1 = (jrem x5 x3) → (¬ x3 = 0 ∧ (∀ x7_2 : Int32, x7_2 = (x5 / x3) → ((¬ (x1 &&& 1) = 1 → D_X11_code_66 K31 Q x1 x2 x3 x4 x5 x7_2 x6_1 σ) ∧
  ((x1 &&& 1) = 1 → D_X11_code_66 K31 Q x1 x2 x3 x4 x5 x7_2 ((x3 - 1) - x6_1) σ))))))
def L_X11_code_31 (Q : Int32 → GSt → Prop) : Nat → Int32 → Int32 → Int32 → Int32 → Int32 → GSt → Prop
  | 0 => fun _ _ _ _ _ _ => False
  | n + 1 => fun x1 x2 x3 x4 x5 σ => D_X11_code_31 (L_X11_code_31 Q n) Q x1 x2 x3 x4 x5 σ
def D_X11_code_0 (Q : Int32 → GSt → Prop) (x1 : Int32) (σ : GSt) : Prop :=
  vp_in (σ 237 22) 9 ∧ (∀ x3_1 : Int32, x3_1 = (σ 242 (Int32.toNatClampNeg (σ 237 22))) → (vp_in (σ 237 22) 9 ∧ (∀ x4_2 : Int32, x4_2 = (σ 243 (Int32.toNatClampNeg (σ 237 22))) → (D_X11_cells  σ (fun r_3 σ_4 => ∀ x5_5 : Int32, x5_5 = (r_3 - 1) → (∃ n : Nat, L_X11_code_31 Q n x1 0 x3_1 x4_2 x5_5 σ_4))))))
def D_X11_code (x1 : Int32) (σ : GSt) (Q : Int32 → GSt → Prop) : Prop := D_X11_code_0 Q x1 σ
set_option maxRecDepth 20000 in
set_option maxHeartbeats 4000000 in
theorem s_X11_code_126 {p : Program} {l : Launch} {e : Env} {s : State} {m : MethodId} {args : Array Value} {below : List Frame} {meth : Method} {c : Code} {G : GC} (X : CallFix p m c cm_X11_code 10 s args lw_us "GameLoomModel") (hr : meth.sig.returnType = some .int) (hlk : meth.locks = false) (K31 : Int32 → Int32 → Int32 → Int32 → Int32 → GSt → Prop) (Q : Int32 → GSt → Prop) (hK31 : ∀ (x1 : Int32) (x2 : Int32) (x3 : Int32) (x4 : Int32) (x5 : Int32) (σ : GSt) (H : Heap) (locs : List Loc) (ls : Array Slot), Wo G s H locs σ → lv_has ls 10 [(0, .ref (G.2.1 237)), (1, .int x1), (2, .int x2), (3, .int x3), (4, .int x4), (5, .int x5)] → K31 x1 x2 x3 x4 x5 σ → W p l e rm_X11_code s m args below meth c H locs 0 0 (QMI G Q below args s) (F0 m 31 ls [])) (x1 : Int32) (x3 : Int32) (x4 : Int32) (x5 : Int32) (s0 : Int32) (s1 : Int32) (σ : GSt) {H : Heap} {locs : List Loc} {ls : Array Slot} (hw : Wo G s H locs σ) (hl : lv_has ls 10 [(0, .ref (G.2.1 237)), (1, .int x1), (3, .int x3), (4, .int x4), (5, .int x5)]) (hD : D_X11_code_126 K31 Q x1 x3 x4 x5 s0 s1 σ) : W p l e rm_X11_code s m args below meth c H locs 0 0 (QMI G Q below args s) (F0 m 126 ls [.int s1, .int s0]) := by
  unfold D_X11_code_126 at hD
  refine lv_iadd X.1 X.2.1 d_X11_code_126 ?_
  refine lv_topi (fun x2_1 e_x2_1 => ?_)
  have hD := hD x2_1 e_x2_1
  refine lv_istore_n (lv' := [(2, .int x2_1), (0, .ref (G.2.1 237)), (1, .int x1), (3, .int x3), (4, .int x4), (5, .int x5)]) X.1 X.2.1 d_X11_code_127 rfl hl (by decide) rfl (fun ls hl => ?_)
  obtain ⟨x5_2, e_x5_2⟩ : ∃ y : Int32, y = x5 + (-1) := ⟨_, rfl⟩
  have hD := hD x5_2 e_x5_2
  refine lv_iinc (v := x5_2) (lv' := [(5, .int x5_2), (2, .int x2_1), (0, .ref (G.2.1 237)), (1, .int x1), (3, .int x3), (4, .int x4)]) X.1 X.2.1 d_X11_code_128 hl (k := 5) rfl (by rw [e_x5_2]; rfl) (by decide) rfl (fun ls hl => ?_)
  refine lv_goto (tgt := 31) X.1 X.2.1 d_X11_code_131 (by decide) ?_
  exact hK31 x1 x2_1 x3 x4 x5_2 σ _ _ _  hw (lv_sub hl [2, 3, 1, 4, 5, 0] rfl) hD
set_option maxRecDepth 20000 in
set_option maxHeartbeats 4000000 in
theorem s_X11_code_87 {p : Program} {l : Launch} {e : Env} {s : State} {m : MethodId} {args : Array Value} {below : List Frame} {meth : Method} {c : Code} {G : GC} (X : CallFix p m c cm_X11_code 10 s args lw_us "GameLoomModel") (hr : meth.sig.returnType = some .int) (hlk : meth.locks = false) (K31 : Int32 → Int32 → Int32 → Int32 → Int32 → GSt → Prop) (Q : Int32 → GSt → Prop) (hK31 : ∀ (x1 : Int32) (x2 : Int32) (x3 : Int32) (x4 : Int32) (x5 : Int32) (σ : GSt) (H : Heap) (locs : List Loc) (ls : Array Slot), Wo G s H locs σ → lv_has ls 10 [(0, .ref (G.2.1 237)), (1, .int x1), (2, .int x2), (3, .int x3), (4, .int x4), (5, .int x5)] → K31 x1 x2 x3 x4 x5 σ → W p l e rm_X11_code s m args below meth c H locs 0 0 (QMI G Q below args s) (F0 m 31 ls [])) (x1 : Int32) (x2 : Int32) (x3 : Int32) (x4 : Int32) (x5 : Int32) (x8 : Int32) (s0 : Int32) (σ : GSt) {H : Heap} {locs : List Loc} {ls : Array Slot} (hw : Wo G s H locs σ) (hl : lv_has ls 10 [(0, .ref (G.2.1 237)), (1, .int x1), (2, .int x2), (3, .int x3), (4, .int x4), (5, .int x5), (8, .int x8)]) (hD : D_X11_code_87 K31 Q x1 x2 x3 x4 x5 x8 s0 σ) : W p l e rm_X11_code s m args below meth c H locs 0 0 (QMI G Q below args s) (F0 m 87 ls [.int s0]) := by
  unfold D_X11_code_87 at hD
  refine lv_istore (lv' := [(9, .int s0), (0, .ref (G.2.1 237)), (1, .int x1), (2, .int x2), (3, .int x3), (4, .int x4), (5, .int x5), (8, .int x8)]) X.1 X.2.1 d_X11_code_87 hl (by decide) rfl (fun ls hl => ?_)
  refine lv_iconst (v := 3) X.1 X.2.1 d_X11_code_89 (by decide) ?_
  refine lv_iload_n X.1 X.2.1 d_X11_code_90 rfl (lv_at hl 3 rfl) ?_
  refine lv_imul X.1 X.2.1 d_X11_code_91 ?_
  refine lv_iload_n X.1 X.2.1 d_X11_code_92 rfl (lv_at hl 2 rfl) ?_
  refine lv_iconst (v := 4) X.1 X.2.1 d_X11_code_93 (by decide) ?_
  refine lv_iand X.1 X.2.1 d_X11_code_94 ?_
  refine lv_iconst (v := 4) X.1 X.2.1 d_X11_code_95 (by decide) ?_
  refine lv_icmp_ne (tgt := 114) X.1 X.2.1 d_X11_code_96 (by decide) (fun q_96 => ?_) (fun q_96 => ?_)
  · have hD := hD.1 q_96
    refine lv_aload_n X.1 X.2.1 d_X11_code_114 rfl (lv_at hl 1 rfl) ?_
    refine gf_11_23 X hw (by decide +kernel : kd 237 = 11) tb_929 d_X11_code_115 ?_
    refine lv_iload_n X.1 X.2.1 d_X11_code_118 rfl (lv_at hl 4 rfl) ?_
    refine lv_iload X.1 X.2.1 d_X11_code_119 (lv_at hl 0 rfl) ?_
    refine lv_imul X.1 X.2.1 d_X11_code_121 ?_
    refine lv_iload X.1 X.2.1 d_X11_code_122 (lv_at hl 7 rfl) ?_
    refine lv_iadd X.1 X.2.1 d_X11_code_124 ?_
    obtain ⟨q_125, hD⟩ := hD
    refine g_iald X hw ly_11_23.1 ly_11_23.2 q_125 d_X11_code_125 ?_
    exact s_X11_code_126 X hr hlk K31 Q hK31 x1 x3 x4 x5 (3 * x2) (σ 257 (Int32.toNatClampNeg ((x3 * s0) + x8))) σ hw (lv_sub hl [1, 2, 4, 5, 6] rfl) hD
  · have hD := hD.2 q_96
    refine lv_aload_n X.1 X.2.1 d_X11_code_99 rfl (lv_at hl 1 rfl) ?_
    refine gf_11_23 X hw (by decide +kernel : kd 237 = 11) tb_929 d_X11_code_100 ?_
    refine lv_iload_n X.1 X.2.1 d_X11_code_103 rfl (lv_at hl 4 rfl) ?_
    refine lv_iload X.1 X.2.1 d_X11_code_104 (lv_at hl 7 rfl) ?_
    refine lv_imul X.1 X.2.1 d_X11_code_106 ?_
    refine lv_iload X.1 X.2.1 d_X11_code_107 (lv_at hl 0 rfl) ?_
    refine lv_iadd X.1 X.2.1 d_X11_code_109 ?_
    obtain ⟨q_110, hD⟩ := hD
    refine g_iald X hw ly_11_23.1 ly_11_23.2 q_110 d_X11_code_110 ?_
    refine lv_goto (tgt := 126) X.1 X.2.1 d_X11_code_111 (by decide) ?_
    exact s_X11_code_126 X hr hlk K31 Q hK31 x1 x3 x4 x5 (3 * x2) (σ 257 (Int32.toNatClampNeg ((x3 * x8) + s0))) σ hw (lv_sub hl [1, 2, 4, 5, 6] rfl) hD
set_option maxRecDepth 20000 in
set_option maxHeartbeats 4000000 in
theorem s_X11_code_66 {p : Program} {l : Launch} {e : Env} {s : State} {m : MethodId} {args : Array Value} {below : List Frame} {meth : Method} {c : Code} {G : GC} (X : CallFix p m c cm_X11_code 10 s args lw_us "GameLoomModel") (hr : meth.sig.returnType = some .int) (hlk : meth.locks = false) (K31 : Int32 → Int32 → Int32 → Int32 → Int32 → GSt → Prop) (Q : Int32 → GSt → Prop) (hK31 : ∀ (x1 : Int32) (x2 : Int32) (x3 : Int32) (x4 : Int32) (x5 : Int32) (σ : GSt) (H : Heap) (locs : List Loc) (ls : Array Slot), Wo G s H locs σ → lv_has ls 10 [(0, .ref (G.2.1 237)), (1, .int x1), (2, .int x2), (3, .int x3), (4, .int x4), (5, .int x5)] → K31 x1 x2 x3 x4 x5 σ → W p l e rm_X11_code s m args below meth c H locs 0 0 (QMI G Q below args s) (F0 m 31 ls [])) (x1 : Int32) (x2 : Int32) (x3 : Int32) (x4 : Int32) (x5 : Int32) (x7 : Int32) (s0 : Int32) (σ : GSt) {H : Heap} {locs : List Loc} {ls : Array Slot} (hw : Wo G s H locs σ) (hl : lv_has ls 10 [(0, .ref (G.2.1 237)), (1, .int x1), (2, .int x2), (3, .int x3), (4, .int x4), (5, .int x5), (7, .int x7)]) (hD : D_X11_code_66 K31 Q x1 x2 x3 x4 x5 x7 s0 σ) : W p l e rm_X11_code s m args below meth c H locs 0 0 (QMI G Q below args s) (F0 m 66 ls [.int s0]) := by
  unfold D_X11_code_66 at hD
  refine lv_istore (lv' := [(8, .int s0), (0, .ref (G.2.1 237)), (1, .int x1), (2, .int x2), (3, .int x3), (4, .int x4), (5, .int x5), (7, .int x7)]) X.1 X.2.1 d_X11_code_66 hl (by decide) rfl (fun ls hl => ?_)
  refine lv_iload_n X.1 X.2.1 d_X11_code_68 rfl (lv_at hl 2 rfl) ?_
  refine lv_iconst (v := 2) X.1 X.2.1 d_X11_code_69 (by decide) ?_
  refine lv_iand X.1 X.2.1 d_X11_code_70 ?_
  refine lv_iconst (v := 2) X.1 X.2.1 d_X11_code_71 (by decide) ?_
  refine lv_icmp_ne (tgt := 85) X.1 X.2.1 d_X11_code_72 (by decide) (fun q_72 => ?_) (fun q_72 => ?_)
  · have hD := hD.1 q_72
    refine lv_iload X.1 X.2.1 d_X11_code_85 (lv_at hl 7 rfl) ?_
    exact s_X11_code_87 X hr hlk K31 Q hK31 x1 x2 x3 x4 x5 s0 x7 σ hw (lv_sub hl [1, 2, 3, 4, 5, 6, 0] rfl) hD
  · have hD := hD.2 q_72
    refine lv_iload X.1 X.2.1 d_X11_code_75 (lv_at hl 5 rfl) ?_
    refine lv_iconst (v := 1) X.1 X.2.1 d_X11_code_77 (by decide) ?_
    refine lv_isub X.1 X.2.1 d_X11_code_78 ?_
    refine lv_iload X.1 X.2.1 d_X11_code_79 (lv_at hl 7 rfl) ?_
    refine lv_isub X.1 X.2.1 d_X11_code_81 ?_
    refine lv_goto (tgt := 87) X.1 X.2.1 d_X11_code_82 (by decide) ?_
    exact s_X11_code_87 X hr hlk K31 Q hK31 x1 x2 x3 x4 x5 s0 ((x4 - 1) - x7) σ hw (lv_sub hl [1, 2, 3, 4, 5, 6, 0] rfl) hD
set_option maxRecDepth 20000 in
set_option maxHeartbeats 4000000 in
theorem s_X11_code_31 {p : Program} {l : Launch} {e : Env} {s : State} {m : MethodId} {args : Array Value} {below : List Frame} {meth : Method} {c : Code} {G : GC} (X : CallFix p m c cm_X11_code 10 s args lw_us "GameLoomModel") (hr : meth.sig.returnType = some .int) (hlk : meth.locks = false) (K31 : Int32 → Int32 → Int32 → Int32 → Int32 → GSt → Prop) (Q : Int32 → GSt → Prop) (hK31 : ∀ (x1 : Int32) (x2 : Int32) (x3 : Int32) (x4 : Int32) (x5 : Int32) (σ : GSt) (H : Heap) (locs : List Loc) (ls : Array Slot), Wo G s H locs σ → lv_has ls 10 [(0, .ref (G.2.1 237)), (1, .int x1), (2, .int x2), (3, .int x3), (4, .int x4), (5, .int x5)] → K31 x1 x2 x3 x4 x5 σ → W p l e rm_X11_code s m args below meth c H locs 0 0 (QMI G Q below args s) (F0 m 31 ls [])) (x1 : Int32) (x2 : Int32) (x3 : Int32) (x4 : Int32) (x5 : Int32) (σ : GSt) {H : Heap} {locs : List Loc} {ls : Array Slot} (hw : Wo G s H locs σ) (hl : lv_has ls 10 [(0, .ref (G.2.1 237)), (1, .int x1), (2, .int x2), (3, .int x3), (4, .int x4), (5, .int x5)]) (hD : D_X11_code_31 K31 Q x1 x2 x3 x4 x5 σ) : W p l e rm_X11_code s m args below meth c H locs 0 0 (QMI G Q below args s) (F0 m 31 ls []) := by
  unfold D_X11_code_31 at hD
  refine lv_iload X.1 X.2.1 d_X11_code_31 (lv_at hl 5 rfl) ?_
  refine lv_if_lt (tgt := 134) X.1 X.2.1 d_X11_code_33 (by decide) (fun q_33 => ?_) (fun q_33 => ?_)
  · have hD := hD.1 q_33
    refine lv_iload_n X.1 X.2.1 d_X11_code_134 rfl (lv_at hl 2 rfl) ?_
    exact g_iret X hr hlk hw hD d_X11_code_135
  · have hD := hD.2 q_33
    refine lv_iload X.1 X.2.1 d_X11_code_36 (lv_at hl 5 rfl) ?_
    refine lv_iload_n X.1 X.2.1 d_X11_code_38 rfl (lv_at hl 3 rfl) ?_
    obtain ⟨q_39, hD⟩ := hD
    refine g_irem X d_X11_code_39 q_39 ?_
    refine lv_topi (fun x6_1 e_x6_1 => ?_)
    have hD := hD x6_1 e_x6_1
    refine lv_istore (lv' := [(6, .int x6_1), (0, .ref (G.2.1 237)), (1, .int x1), (2, .int x2), (3, .int x3), (4, .int x4), (5, .int x5)]) X.1 X.2.1 d_X11_code_40 hl (by decide) rfl (fun ls hl => ?_)
    refine lv_iload X.1 X.2.1 d_X11_code_42 (lv_at hl 6 rfl) ?_
    refine lv_iload_n X.1 X.2.1 d_X11_code_44 rfl (lv_at hl 4 rfl) ?_
    obtain ⟨q_45, hD⟩ := hD
    refine lv_idiv X.1 X.2.1 d_X11_code_45 q_45 ?_
    refine lv_topi (fun x7_2 e_x7_2 => ?_)
    have hD := hD x7_2 e_x7_2
    refine lv_istore (lv' := [(7, .int x7_2), (6, .int x6_1), (0, .ref (G.2.1 237)), (1, .int x1), (2, .int x2), (3, .int x3), (4, .int x4), (5, .int x5)]) X.1 X.2.1 d_X11_code_46 hl (by decide) rfl (fun ls hl => ?_)
    refine lv_iload_n X.1 X.2.1 d_X11_code_48 rfl (lv_at hl 3 rfl) ?_
    refine lv_iconst (v := 1) X.1 X.2.1 d_X11_code_49 (by decide) ?_
    refine lv_iand X.1 X.2.1 d_X11_code_50 ?_
    refine lv_iconst (v := 1) X.1 X.2.1 d_X11_code_51 (by decide) ?_
    refine lv_icmp_ne (tgt := 64) X.1 X.2.1 d_X11_code_52 (by decide) (fun q_52 => ?_) (fun q_52 => ?_)
    · have hD := hD.1 q_52
      refine lv_iload X.1 X.2.1 d_X11_code_64 (lv_at hl 1 rfl) ?_
      exact s_X11_code_66 X hr hlk K31 Q hK31 x1 x2 x3 x4 x5 x7_2 x6_1 σ hw (lv_sub hl [2, 3, 4, 5, 6, 7, 0] rfl) hD
    · have hD := hD.2 q_52
      refine lv_iload_n X.1 X.2.1 d_X11_code_55 rfl (lv_at hl 5 rfl) ?_
      refine lv_iconst (v := 1) X.1 X.2.1 d_X11_code_56 (by decide) ?_
      refine lv_isub X.1 X.2.1 d_X11_code_57 ?_
      refine lv_iload X.1 X.2.1 d_X11_code_58 (lv_at hl 1 rfl) ?_
      refine lv_isub X.1 X.2.1 d_X11_code_60 ?_
      refine lv_goto (tgt := 66) X.1 X.2.1 d_X11_code_61 (by decide) ?_
      exact s_X11_code_66 X hr hlk K31 Q hK31 x1 x2 x3 x4 x5 x7_2 ((x3 - 1) - x6_1) σ hw (lv_sub hl [2, 3, 4, 5, 6, 7, 0] rfl) hD
set_option maxRecDepth 20000 in
set_option maxHeartbeats 4000000 in
theorem sl_X11_code_31 {p : Program} {l : Launch} {e : Env} {s : State} {m : MethodId} {args : Array Value} {below : List Frame} {meth : Method} {c : Code} {G : GC} (X : CallFix p m c cm_X11_code 10 s args lw_us "GameLoomModel") (hr : meth.sig.returnType = some .int) (hlk : meth.locks = false) (Q : Int32 → GSt → Prop) : ∀ (nn : Nat), ∀ (x1 : Int32) (x2 : Int32) (x3 : Int32) (x4 : Int32) (x5 : Int32) (σ : GSt) (H : Heap) (locs : List Loc) (ls : Array Slot), Wo G s H locs σ → lv_has ls 10 [(0, .ref (G.2.1 237)), (1, .int x1), (2, .int x2), (3, .int x3), (4, .int x4), (5, .int x5)] → L_X11_code_31 Q nn x1 x2 x3 x4 x5 σ → W p l e rm_X11_code s m args below meth c H locs 0 0 (QMI G Q below args s) (F0 m 31 ls []) := by
  intro nn
  induction nn with
  | zero => intro x1 x2 x3 x4 x5 σ H locs ls  hw hl hD; exact hD.elim
  | succ nn ih =>
    intro x1 x2 x3 x4 x5 σ H locs ls  hw hl hD
    exact s_X11_code_31 X hr hlk (L_X11_code_31 Q nn) Q ih x1 x2 x3 x4 x5 σ hw hl hD
set_option maxRecDepth 20000 in
set_option maxHeartbeats 4000000 in
theorem s_X11_code_0 {p : Program} {l : Launch} {e : Env} {s : State} {m : MethodId} {args : Array Value} {below : List Frame} {meth : Method} {c : Code} {G : GC} (X : CallFix p m c cm_X11_code 10 s args lw_us "GameLoomModel") (hr : meth.sig.returnType = some .int) (hlk : meth.locks = false) (Q : Int32 → GSt → Prop) (x1 : Int32) (σ : GSt) {H : Heap} {locs : List Loc} {ls : Array Slot} (hw : Wo G s H locs σ) (hl : lv_has ls 10 [(0, .ref (G.2.1 237)), (1, .int x1)]) (hD : D_X11_code_0 Q x1 σ) : W p l e rm_X11_code s m args below meth c H locs 0 0 (QMI G Q below args s) (F0 m 0 ls []) := by
  unfold D_X11_code_0 at hD
  refine lv_iconst (v := 0) X.1 X.2.1 d_X11_code_0 (by decide) ?_
  refine lv_istore_n (lv' := [(2, .int 0), (0, .ref (G.2.1 237)), (1, .int x1)]) X.1 X.2.1 d_X11_code_1 rfl hl (by decide) rfl (fun ls hl => ?_)
  refine lv_aload_n X.1 X.2.1 d_X11_code_2 rfl (lv_at hl 1 rfl) ?_
  refine gf_11_4 X hw (by decide +kernel : kd 237 = 11) tb_910 d_X11_code_3 ?_
  refine lv_aload_n X.1 X.2.1 d_X11_code_6 rfl (lv_at hl 1 rfl) ?_
  refine gf_11_22 X hw (by decide +kernel : kd 237 = 11) tb_928 d_X11_code_7 ?_
  obtain ⟨q_10, hD⟩ := hD
  refine g_iald X hw ly_11_4.1 ly_11_4.2 q_10 d_X11_code_10 ?_
  refine lv_topi (fun x3_1 e_x3_1 => ?_)
  have hD := hD x3_1 e_x3_1
  refine lv_istore_n (lv' := [(3, .int x3_1), (2, .int 0), (0, .ref (G.2.1 237)), (1, .int x1)]) X.1 X.2.1 d_X11_code_11 rfl hl (by decide) rfl (fun ls hl => ?_)
  refine lv_aload_n X.1 X.2.1 d_X11_code_12 rfl (lv_at hl 2 rfl) ?_
  refine gf_11_5 X hw (by decide +kernel : kd 237 = 11) tb_911 d_X11_code_13 ?_
  refine lv_aload_n X.1 X.2.1 d_X11_code_16 rfl (lv_at hl 2 rfl) ?_
  refine gf_11_22 X hw (by decide +kernel : kd 237 = 11) tb_928 d_X11_code_17 ?_
  obtain ⟨q_20, hD⟩ := hD
  refine g_iald X hw ly_11_5.1 ly_11_5.2 q_20 d_X11_code_20 ?_
  refine lv_topi (fun x4_2 e_x4_2 => ?_)
  have hD := hD x4_2 e_x4_2
  refine lv_istore (lv' := [(4, .int x4_2), (3, .int x3_1), (2, .int 0), (0, .ref (G.2.1 237)), (1, .int x1)]) X.1 X.2.1 d_X11_code_21 hl (by decide) rfl (fun ls hl => ?_)
  refine lv_aload_n X.1 X.2.1 d_X11_code_23 rfl (lv_at hl 3 rfl) ?_
  refine gcV_i (rest := []) (As := []) (o := 237) X hw (c_X11_cells l G  σ _  hD) (kd_lt (by decide +kernel : kd 237 = 11) (by decide)) (ce_11 G _ (by decide +kernel : kd 237 = 11)) rfl tb_1180 tb_1182 tv_54 tb_12 tb_1183 hd_X11_cells ⟨rfl, rfl⟩ ⟨Nat.le_of_ble_eq_true rfl, Nat.le_of_ble_eq_true rfl⟩ rfl hl.1 rfl (Nat.le_of_ble_eq_true rfl) d_X11_code_24 (fun r_3 σ_4 H locs hD hw => ?_)
  refine lv_iconst (v := 1) X.1 X.2.1 d_X11_code_27 (by decide) ?_
  refine lv_isub X.1 X.2.1 d_X11_code_28 ?_
  refine lv_topi (fun x5_5 e_x5_5 => ?_)
  have hD := hD x5_5 e_x5_5
  refine lv_istore (lv' := [(5, .int x5_5), (4, .int x4_2), (3, .int x3_1), (2, .int 0), (0, .ref (G.2.1 237)), (1, .int x1)]) X.1 X.2.1 d_X11_code_29 hl (by decide) rfl (fun ls hl => ?_)
  obtain ⟨n9, hD⟩ := hD
  exact sl_X11_code_31 X hr hlk  Q  n9 x1 0 x3_1 x4_2 x5_5 σ_4 _ _ _  hw (lv_sub hl [4, 5, 3, 2, 1, 0] rfl) hD
theorem c_X11_code (l : Launch) (G : GC) (x1 : Int32) (σ : GSt) (Q : Int32 → GSt → Prop)  (hD : D_X11_code x1 σ Q) : MI l ym_X11_code cm_X11_code 10 .int rm_X11_code G σ [.ref (G.2.1 237), .int x1] Q := by
  refine met_i (by decide) (Nat.le_of_ble_eq_true rfl) ?_
  intro p e s m args below meth c X hr hlk hw ls hl
  exact s_X11_code_0 X hr hlk Q  x1 σ hw (lv_sub hl [0, 1] rfl) hD
theorem hd_X11_name : ym_X11_name.cls = "GameLoomModel" ∧ ym_X11_name.cls ≠ "java/lang/invoke/MethodHandle" ∧ ym_X11_name.cls ≠ "java/lang/invoke/VarHandle" ∧ (parseMethodDescriptor ym_X11_name.desc).map (fun d => d.parameters.length) = some 0 := by decide +kernel
abbrev rm_X11_name : Room := { frames := 2, cells := 0, slots := 0, locals := 49 }
theorem d_X11_name_0 : decode cm_X11_name 0 = .ok (.aload_n 0, 1) := by decide +kernel
theorem d_X11_name_1 : decode cm_X11_name 1 = .ok (.iconst 0, 1) := by decide +kernel
theorem d_X11_name_2 : decode cm_X11_name 2 = .ok (.invokevirtual 278, 3) := by decide +kernel
theorem d_X11_name_5 : decode cm_X11_name 5 = .ok (.istore_n 1, 1) := by decide +kernel
theorem d_X11_name_6 : decode cm_X11_name 6 = .ok (.iconst 1, 1) := by decide +kernel
theorem d_X11_name_7 : decode cm_X11_name 7 = .ok (.istore_n 2, 1) := by decide +kernel
theorem d_X11_name_8 : decode cm_X11_name 8 = .ok (.iload_n 2, 1) := by decide +kernel
theorem d_X11_name_9 : decode cm_X11_name 9 = .ok (.aload_n 0, 1) := by decide +kernel
theorem d_X11_name_10 : decode cm_X11_name 10 = .ok (.getfield 22, 3) := by decide +kernel
theorem d_X11_name_13 : decode cm_X11_name 13 = .ok (.aload_n 0, 1) := by decide +kernel
theorem d_X11_name_14 : decode cm_X11_name 14 = .ok (.getfield 156, 3) := by decide +kernel
theorem d_X11_name_17 : decode cm_X11_name 17 = .ok (.iaload, 1) := by decide +kernel
theorem d_X11_name_18 : decode cm_X11_name 18 = .ok (.aload_n 0, 1) := by decide +kernel
theorem d_X11_name_19 : decode cm_X11_name 19 = .ok (.getfield 25, 3) := by decide +kernel
theorem d_X11_name_22 : decode cm_X11_name 22 = .ok (.aload_n 0, 1) := by decide +kernel
theorem d_X11_name_23 : decode cm_X11_name 23 = .ok (.getfield 156, 3) := by decide +kernel
theorem d_X11_name_26 : decode cm_X11_name 26 = .ok (.iaload, 1) := by decide +kernel
theorem d_X11_name_27 : decode cm_X11_name 27 = .ok (.if_icmp .ne 8, 3) := by decide +kernel
theorem d_X11_name_30 : decode cm_X11_name 30 = .ok (.bipush 8, 2) := by decide +kernel
theorem d_X11_name_32 : decode cm_X11_name 32 = .ok (.goto 4, 3) := by decide +kernel
theorem d_X11_name_35 : decode cm_X11_name 35 = .ok (.iconst 4, 1) := by decide +kernel
theorem d_X11_name_36 : decode cm_X11_name 36 = .ok (.if_icmp .ge 28, 3) := by decide +kernel
theorem d_X11_name_39 : decode cm_X11_name 39 = .ok (.aload_n 0, 1) := by decide +kernel
theorem d_X11_name_40 : decode cm_X11_name 40 = .ok (.iload_n 2, 1) := by decide +kernel
theorem d_X11_name_41 : decode cm_X11_name 41 = .ok (.invokevirtual 278, 3) := by decide +kernel
theorem d_X11_name_44 : decode cm_X11_name 44 = .ok (.iload_n 1, 1) := by decide +kernel
theorem d_X11_name_45 : decode cm_X11_name 45 = .ok (.if_icmp .ge 11, 3) := by decide +kernel
theorem d_X11_name_48 : decode cm_X11_name 48 = .ok (.aload_n 0, 1) := by decide +kernel
theorem d_X11_name_49 : decode cm_X11_name 49 = .ok (.iload_n 2, 1) := by decide +kernel
theorem d_X11_name_50 : decode cm_X11_name 50 = .ok (.invokevirtual 278, 3) := by decide +kernel
theorem d_X11_name_53 : decode cm_X11_name 53 = .ok (.goto 4, 3) := by decide +kernel
theorem d_X11_name_56 : decode cm_X11_name 56 = .ok (.iload_n 1, 1) := by decide +kernel
theorem d_X11_name_57 : decode cm_X11_name 57 = .ok (.istore_n 1, 1) := by decide +kernel
theorem d_X11_name_58 : decode cm_X11_name 58 = .ok (.iinc 2 1, 3) := by decide +kernel
theorem d_X11_name_61 : decode cm_X11_name 61 = .ok (.goto (-53), 3) := by decide +kernel
theorem d_X11_name_64 : decode cm_X11_name 64 = .ok (.iload_n 1, 1) := by decide +kernel
theorem d_X11_name_65 : decode cm_X11_name 65 = .ok (.ireturn, 1) := by decide +kernel
def D_X11_name_57 (K8 : Int32 → Int32 → GSt → Prop) (Q : Int32 → GSt → Prop) (x2 : Int32) (s0 : Int32) (σ : GSt) : Prop :=
  ∀ x2_1 : Int32, x2_1 = x2 + 1 → (K8 s0 x2_1 σ)
def D_X11_name_36 (K8 : Int32 → Int32 → GSt → Prop) (Q : Int32 → GSt → Prop) (x1 : Int32) (x2 : Int32) (s0 : Int32) (s1 : Int32) (σ : GSt) : Prop :=
  (s1 ≤ s0 → Q x1 σ) ∧
  (¬ s1 ≤ s0 → D_X11_code x2 σ (fun r_1 σ_2 => (x1 ≤ r_1 → D_X11_name_57 K8 Q x2 x1 σ_2) ∧
  (¬ x1 ≤ r_1 → D_X11_code x2 σ_2 (fun r_3 σ_4 => D_X11_name_57 K8 Q x2 r_3 σ_4))))
def D_X11_name_8 (K8 : Int32 → Int32 → GSt → Prop) (Q : Int32 → GSt → Prop) (x1 : Int32) (x2 : Int32) (σ : GSt) : Prop :=
  vp_in (σ 237 22) 9 ∧ (vp_in (σ 237 22) 9 ∧ ((¬ (σ 242 (Int32.toNatClampNeg (σ 237 22))) = (σ 243 (Int32.toNatClampNeg (σ 237 22))) → D_X11_name_36 K8 Q x1 x2 x2 4 σ) ∧
  ((σ 242 (Int32.toNatClampNeg (σ 237 22))) = (σ 243 (Int32.toNatClampNeg (σ 237 22))) → D_X11_name_36 K8 Q x1 x2 x2 8 σ)))
def L_X11_name_8 (Q : Int32 → GSt → Prop) : Nat → Int32 → Int32 → GSt → Prop
  | 0 => fun _ _ _ => False
  | n + 1 => fun x1 x2 σ => D_X11_name_8 (L_X11_name_8 Q n) Q x1 x2 σ
def D_X11_name_0 (Q : Int32 → GSt → Prop) (σ : GSt) : Prop :=
  D_X11_code 0 σ (fun r_1 σ_2 => ∃ n : Nat, L_X11_name_8 Q n r_1 1 σ_2)
def D_X11_name (σ : GSt) (Q : Int32 → GSt → Prop) : Prop := D_X11_name_0 Q σ
set_option maxRecDepth 20000 in
set_option maxHeartbeats 4000000 in
theorem s_X11_name_57 {p : Program} {l : Launch} {e : Env} {s : State} {m : MethodId} {args : Array Value} {below : List Frame} {meth : Method} {c : Code} {G : GC} (X : CallFix p m c cm_X11_name 3 s args lw_us "GameLoomModel") (hr : meth.sig.returnType = some .int) (hlk : meth.locks = false) (K8 : Int32 → Int32 → GSt → Prop) (Q : Int32 → GSt → Prop) (hK8 : ∀ (x1 : Int32) (x2 : Int32) (σ : GSt) (H : Heap) (locs : List Loc) (ls : Array Slot), Wo G s H locs σ → lv_has ls 3 [(0, .ref (G.2.1 237)), (1, .int x1), (2, .int x2)] → K8 x1 x2 σ → W p l e rm_X11_name s m args below meth c H locs 0 0 (QMI G Q below args s) (F0 m 8 ls [])) (x2 : Int32) (s0 : Int32) (σ : GSt) {H : Heap} {locs : List Loc} {ls : Array Slot} (hw : Wo G s H locs σ) (hl : lv_has ls 3 [(0, .ref (G.2.1 237)), (2, .int x2)]) (hD : D_X11_name_57 K8 Q x2 s0 σ) : W p l e rm_X11_name s m args below meth c H locs 0 0 (QMI G Q below args s) (F0 m 57 ls [.int s0]) := by
  unfold D_X11_name_57 at hD
  refine lv_istore_n (lv' := [(1, .int s0), (0, .ref (G.2.1 237)), (2, .int x2)]) X.1 X.2.1 d_X11_name_57 rfl hl (by decide) rfl (fun ls hl => ?_)
  obtain ⟨x2_1, e_x2_1⟩ : ∃ y : Int32, y = x2 + 1 := ⟨_, rfl⟩
  have hD := hD x2_1 e_x2_1
  refine lv_iinc (v := x2_1) (lv' := [(2, .int x2_1), (1, .int s0), (0, .ref (G.2.1 237))]) X.1 X.2.1 d_X11_name_58 hl (k := 2) rfl (by rw [e_x2_1]; rfl) (by decide) rfl (fun ls hl => ?_)
  refine lv_goto (tgt := 8) X.1 X.2.1 d_X11_name_61 (by decide) ?_
  exact hK8 s0 x2_1 σ _ _ _  hw (lv_sub hl [2, 1, 0] rfl) hD
set_option maxRecDepth 20000 in
set_option maxHeartbeats 4000000 in
theorem s_X11_name_36 {p : Program} {l : Launch} {e : Env} {s : State} {m : MethodId} {args : Array Value} {below : List Frame} {meth : Method} {c : Code} {G : GC} (X : CallFix p m c cm_X11_name 3 s args lw_us "GameLoomModel") (hr : meth.sig.returnType = some .int) (hlk : meth.locks = false) (K8 : Int32 → Int32 → GSt → Prop) (Q : Int32 → GSt → Prop) (hK8 : ∀ (x1 : Int32) (x2 : Int32) (σ : GSt) (H : Heap) (locs : List Loc) (ls : Array Slot), Wo G s H locs σ → lv_has ls 3 [(0, .ref (G.2.1 237)), (1, .int x1), (2, .int x2)] → K8 x1 x2 σ → W p l e rm_X11_name s m args below meth c H locs 0 0 (QMI G Q below args s) (F0 m 8 ls [])) (x1 : Int32) (x2 : Int32) (s0 : Int32) (s1 : Int32) (σ : GSt) {H : Heap} {locs : List Loc} {ls : Array Slot} (hw : Wo G s H locs σ) (hl : lv_has ls 3 [(0, .ref (G.2.1 237)), (1, .int x1), (2, .int x2)]) (hD : D_X11_name_36 K8 Q x1 x2 s0 s1 σ) : W p l e rm_X11_name s m args below meth c H locs 0 0 (QMI G Q below args s) (F0 m 36 ls [.int s1, .int s0]) := by
  unfold D_X11_name_36 at hD
  refine lv_icmp_ge (tgt := 64) X.1 X.2.1 d_X11_name_36 (by decide) (fun q_36 => ?_) (fun q_36 => ?_)
  · have hD := hD.1 q_36
    refine lv_iload_n X.1 X.2.1 d_X11_name_64 rfl (lv_at hl 1 rfl) ?_
    exact g_iret X hr hlk hw hD d_X11_name_65
  · have hD := hD.2 q_36
    refine lv_aload_n X.1 X.2.1 d_X11_name_39 rfl (lv_at hl 0 rfl) ?_
    refine lv_iload_n X.1 X.2.1 d_X11_name_40 rfl (lv_at hl 2 rfl) ?_
    refine gcV_i (rest := []) (As := [.int x2]) (o := 237) X hw (c_X11_code l G x2 σ _  hD) (kd_lt (by decide +kernel : kd 237 = 11) (by decide)) (ce_11 G _ (by decide +kernel : kd 237 = 11)) rfl tb_1244 tb_1246 tv_66 tb_12 tb_1247 hd_X11_code ⟨rfl, rfl⟩ ⟨Nat.le_of_ble_eq_true rfl, Nat.le_of_ble_eq_true rfl⟩ rfl hl.1 rfl (Nat.le_of_ble_eq_true rfl) d_X11_name_41 (fun r_1 σ_2 H locs hD hw => ?_)
    refine lv_iload_n X.1 X.2.1 d_X11_name_44 rfl (lv_at hl 1 rfl) ?_
    refine lv_icmp_ge (tgt := 56) X.1 X.2.1 d_X11_name_45 (by decide) (fun q_45 => ?_) (fun q_45 => ?_)
    · have hD := hD.1 q_45
      refine lv_iload_n X.1 X.2.1 d_X11_name_56 rfl (lv_at hl 1 rfl) ?_
      exact s_X11_name_57 X hr hlk K8 Q hK8 x2 x1 σ_2 hw (lv_sub hl [0, 2] rfl) hD
    · have hD := hD.2 q_45
      refine lv_aload_n X.1 X.2.1 d_X11_name_48 rfl (lv_at hl 0 rfl) ?_
      refine lv_iload_n X.1 X.2.1 d_X11_name_49 rfl (lv_at hl 2 rfl) ?_
      refine gcV_i (rest := []) (As := [.int x2]) (o := 237) X hw (c_X11_code l G x2 σ_2 _  hD) (kd_lt (by decide +kernel : kd 237 = 11) (by decide)) (ce_11 G _ (by decide +kernel : kd 237 = 11)) rfl tb_1244 tb_1246 tv_66 tb_12 tb_1247 hd_X11_code ⟨rfl, rfl⟩ ⟨Nat.le_of_ble_eq_true rfl, Nat.le_of_ble_eq_true rfl⟩ rfl hl.1 rfl (Nat.le_of_ble_eq_true rfl) d_X11_name_50 (fun r_3 σ_4 H locs hD hw => ?_)
      refine lv_goto (tgt := 57) X.1 X.2.1 d_X11_name_53 (by decide) ?_
      exact s_X11_name_57 X hr hlk K8 Q hK8 x2 r_3 σ_4 hw (lv_sub hl [0, 2] rfl) hD
set_option maxRecDepth 20000 in
set_option maxHeartbeats 4000000 in
theorem s_X11_name_8 {p : Program} {l : Launch} {e : Env} {s : State} {m : MethodId} {args : Array Value} {below : List Frame} {meth : Method} {c : Code} {G : GC} (X : CallFix p m c cm_X11_name 3 s args lw_us "GameLoomModel") (hr : meth.sig.returnType = some .int) (hlk : meth.locks = false) (K8 : Int32 → Int32 → GSt → Prop) (Q : Int32 → GSt → Prop) (hK8 : ∀ (x1 : Int32) (x2 : Int32) (σ : GSt) (H : Heap) (locs : List Loc) (ls : Array Slot), Wo G s H locs σ → lv_has ls 3 [(0, .ref (G.2.1 237)), (1, .int x1), (2, .int x2)] → K8 x1 x2 σ → W p l e rm_X11_name s m args below meth c H locs 0 0 (QMI G Q below args s) (F0 m 8 ls [])) (x1 : Int32) (x2 : Int32) (σ : GSt) {H : Heap} {locs : List Loc} {ls : Array Slot} (hw : Wo G s H locs σ) (hl : lv_has ls 3 [(0, .ref (G.2.1 237)), (1, .int x1), (2, .int x2)]) (hD : D_X11_name_8 K8 Q x1 x2 σ) : W p l e rm_X11_name s m args below meth c H locs 0 0 (QMI G Q below args s) (F0 m 8 ls []) := by
  unfold D_X11_name_8 at hD
  refine lv_iload_n X.1 X.2.1 d_X11_name_8 rfl (lv_at hl 2 rfl) ?_
  refine lv_aload_n X.1 X.2.1 d_X11_name_9 rfl (lv_at hl 0 rfl) ?_
  refine gf_11_4 X hw (by decide +kernel : kd 237 = 11) tb_910 d_X11_name_10 ?_
  refine lv_aload_n X.1 X.2.1 d_X11_name_13 rfl (lv_at hl 0 rfl) ?_
  refine gf_11_22 X hw (by decide +kernel : kd 237 = 11) tb_928 d_X11_name_14 ?_
  obtain ⟨q_17, hD⟩ := hD
  refine g_iald X hw ly_11_4.1 ly_11_4.2 q_17 d_X11_name_17 ?_
  refine lv_aload_n X.1 X.2.1 d_X11_name_18 rfl (lv_at hl 0 rfl) ?_
  refine gf_11_5 X hw (by decide +kernel : kd 237 = 11) tb_911 d_X11_name_19 ?_
  refine lv_aload_n X.1 X.2.1 d_X11_name_22 rfl (lv_at hl 0 rfl) ?_
  refine gf_11_22 X hw (by decide +kernel : kd 237 = 11) tb_928 d_X11_name_23 ?_
  obtain ⟨q_26, hD⟩ := hD
  refine g_iald X hw ly_11_5.1 ly_11_5.2 q_26 d_X11_name_26 ?_
  refine lv_icmp_ne (tgt := 35) X.1 X.2.1 d_X11_name_27 (by decide) (fun q_27 => ?_) (fun q_27 => ?_)
  · have hD := hD.1 q_27
    refine lv_iconst (v := 4) X.1 X.2.1 d_X11_name_35 (by decide) ?_
    exact s_X11_name_36 X hr hlk K8 Q hK8 x1 x2 x2 4 σ hw (lv_sub hl [0, 1, 2] rfl) hD
  · have hD := hD.2 q_27
    refine lv_bipush (v := 8) X.1 X.2.1 d_X11_name_30 (by decide) ?_
    refine lv_goto (tgt := 36) X.1 X.2.1 d_X11_name_32 (by decide) ?_
    exact s_X11_name_36 X hr hlk K8 Q hK8 x1 x2 x2 8 σ hw (lv_sub hl [0, 1, 2] rfl) hD
set_option maxRecDepth 20000 in
set_option maxHeartbeats 4000000 in
theorem sl_X11_name_8 {p : Program} {l : Launch} {e : Env} {s : State} {m : MethodId} {args : Array Value} {below : List Frame} {meth : Method} {c : Code} {G : GC} (X : CallFix p m c cm_X11_name 3 s args lw_us "GameLoomModel") (hr : meth.sig.returnType = some .int) (hlk : meth.locks = false) (Q : Int32 → GSt → Prop) : ∀ (nn : Nat), ∀ (x1 : Int32) (x2 : Int32) (σ : GSt) (H : Heap) (locs : List Loc) (ls : Array Slot), Wo G s H locs σ → lv_has ls 3 [(0, .ref (G.2.1 237)), (1, .int x1), (2, .int x2)] → L_X11_name_8 Q nn x1 x2 σ → W p l e rm_X11_name s m args below meth c H locs 0 0 (QMI G Q below args s) (F0 m 8 ls []) := by
  intro nn
  induction nn with
  | zero => intro x1 x2 σ H locs ls  hw hl hD; exact hD.elim
  | succ nn ih =>
    intro x1 x2 σ H locs ls  hw hl hD
    exact s_X11_name_8 X hr hlk (L_X11_name_8 Q nn) Q ih x1 x2 σ hw hl hD
set_option maxRecDepth 20000 in
set_option maxHeartbeats 4000000 in
theorem s_X11_name_0 {p : Program} {l : Launch} {e : Env} {s : State} {m : MethodId} {args : Array Value} {below : List Frame} {meth : Method} {c : Code} {G : GC} (X : CallFix p m c cm_X11_name 3 s args lw_us "GameLoomModel") (hr : meth.sig.returnType = some .int) (hlk : meth.locks = false) (Q : Int32 → GSt → Prop) (σ : GSt) {H : Heap} {locs : List Loc} {ls : Array Slot} (hw : Wo G s H locs σ) (hl : lv_has ls 3 [(0, .ref (G.2.1 237))]) (hD : D_X11_name_0 Q σ) : W p l e rm_X11_name s m args below meth c H locs 0 0 (QMI G Q below args s) (F0 m 0 ls []) := by
  unfold D_X11_name_0 at hD
  refine lv_aload_n X.1 X.2.1 d_X11_name_0 rfl (lv_at hl 0 rfl) ?_
  refine lv_iconst (v := 0) X.1 X.2.1 d_X11_name_1 (by decide) ?_
  refine gcV_i (rest := []) (As := [.int 0]) (o := 237) X hw (c_X11_code l G 0 σ _  hD) (kd_lt (by decide +kernel : kd 237 = 11) (by decide)) (ce_11 G _ (by decide +kernel : kd 237 = 11)) rfl tb_1244 tb_1246 tv_66 tb_12 tb_1247 hd_X11_code ⟨rfl, rfl⟩ ⟨Nat.le_of_ble_eq_true rfl, Nat.le_of_ble_eq_true rfl⟩ rfl hl.1 rfl (Nat.le_of_ble_eq_true rfl) d_X11_name_2 (fun r_1 σ_2 H locs hD hw => ?_)
  refine lv_istore_n (lv' := [(1, .int r_1), (0, .ref (G.2.1 237))]) X.1 X.2.1 d_X11_name_5 rfl hl (by decide) rfl (fun ls hl => ?_)
  refine lv_iconst (v := 1) X.1 X.2.1 d_X11_name_6 (by decide) ?_
  refine lv_istore_n (lv' := [(2, .int 1), (1, .int r_1), (0, .ref (G.2.1 237))]) X.1 X.2.1 d_X11_name_7 rfl hl (by decide) rfl (fun ls hl => ?_)
  obtain ⟨n9, hD⟩ := hD
  exact sl_X11_name_8 X hr hlk  Q  n9 r_1 1 σ_2 _ _ _  hw (lv_sub hl [2, 1, 0] rfl) hD
theorem c_X11_name (l : Launch) (G : GC) (σ : GSt) (Q : Int32 → GSt → Prop)  (hD : D_X11_name  σ Q) : MI l ym_X11_name cm_X11_name 3 .int rm_X11_name G σ [.ref (G.2.1 237)] Q := by
  refine met_i (by decide) (Nat.le_of_ble_eq_true rfl) ?_
  intro p e s m args below meth c X hr hlk hw ls hl
  exact s_X11_name_0 X hr hlk Q   σ hw (lv_sub hl [0] rfl) hD
theorem hd_X11_state : ym_X11_state.cls = "GameLoomModel" ∧ ym_X11_state.cls ≠ "java/lang/invoke/MethodHandle" ∧ ym_X11_state.cls ≠ "java/lang/invoke/VarHandle" ∧ (parseMethodDescriptor ym_X11_state.desc).map (fun d => d.parameters.length) = some 1 := by decide +kernel
abbrev rm_X11_state : Room := { frames := 8, cells := 0, slots := 0, locals := 202 }
theorem d_X11_state_0 : decode cm_X11_state 0 = .ok (.aload_n 0, 1) := by decide +kernel
theorem d_X11_state_1 : decode cm_X11_state 1 = .ok (.invokevirtual 272, 3) := by decide +kernel
theorem d_X11_state_4 : decode cm_X11_state 4 = .ok (.ifCond .ne 10, 3) := by decide +kernel
theorem d_X11_state_7 : decode cm_X11_state 7 = .ok (.aload_n 0, 1) := by decide +kernel
theorem d_X11_state_8 : decode cm_X11_state 8 = .ok (.bipush (-3), 2) := by decide +kernel
theorem d_X11_state_10 : decode cm_X11_state 10 = .ok (.invokevirtual 147, 3) := by decide +kernel
theorem d_X11_state_13 : decode cm_X11_state 13 = .ok (.ireturn, 1) := by decide +kernel
theorem d_X11_state_14 : decode cm_X11_state 14 = .ok (.iload_n 1, 1) := by decide +kernel
theorem d_X11_state_15 : decode cm_X11_state 15 = .ok (.tableswitch 136 0 8 #[49, 56, 65, 72, 108, 115, 121, 126, 126], 49) := by decide +kernel
theorem d_X11_state_64 : decode cm_X11_state 64 = .ok (.aload_n 0, 1) := by decide +kernel
theorem d_X11_state_65 : decode cm_X11_state 65 = .ok (.getfield 74, 3) := by decide +kernel
theorem d_X11_state_68 : decode cm_X11_state 68 = .ok (.iconst 0, 1) := by decide +kernel
theorem d_X11_state_69 : decode cm_X11_state 69 = .ok (.iaload, 1) := by decide +kernel
theorem d_X11_state_70 : decode cm_X11_state 70 = .ok (.ireturn, 1) := by decide +kernel
theorem d_X11_state_71 : decode cm_X11_state 71 = .ok (.aload_n 0, 1) := by decide +kernel
theorem d_X11_state_72 : decode cm_X11_state 72 = .ok (.getfield 71, 3) := by decide +kernel
theorem d_X11_state_75 : decode cm_X11_state 75 = .ok (.iconst 0, 1) := by decide +kernel
theorem d_X11_state_76 : decode cm_X11_state 76 = .ok (.iaload, 1) := by decide +kernel
theorem d_X11_state_77 : decode cm_X11_state 77 = .ok (.iconst 1, 1) := by decide +kernel
theorem d_X11_state_78 : decode cm_X11_state 78 = .ok (.isub, 1) := by decide +kernel
theorem d_X11_state_79 : decode cm_X11_state 79 = .ok (.ireturn, 1) := by decide +kernel
theorem d_X11_state_80 : decode cm_X11_state 80 = .ok (.aload_n 0, 1) := by decide +kernel
theorem d_X11_state_81 : decode cm_X11_state 81 = .ok (.getfield 77, 3) := by decide +kernel
theorem d_X11_state_84 : decode cm_X11_state 84 = .ok (.iconst 0, 1) := by decide +kernel
theorem d_X11_state_85 : decode cm_X11_state 85 = .ok (.iaload, 1) := by decide +kernel
theorem d_X11_state_86 : decode cm_X11_state 86 = .ok (.ireturn, 1) := by decide +kernel
theorem d_X11_state_87 : decode cm_X11_state 87 = .ok (.aload_n 0, 1) := by decide +kernel
theorem d_X11_state_88 : decode cm_X11_state 88 = .ok (.getfield 77, 3) := by decide +kernel
theorem d_X11_state_91 : decode cm_X11_state 91 = .ok (.iconst 0, 1) := by decide +kernel
theorem d_X11_state_92 : decode cm_X11_state 92 = .ok (.iaload, 1) := by decide +kernel
theorem d_X11_state_93 : decode cm_X11_state 93 = .ok (.ifCond .ne 8, 3) := by decide +kernel
theorem d_X11_state_96 : decode cm_X11_state 96 = .ok (.bipush (-9), 2) := by decide +kernel
theorem d_X11_state_98 : decode cm_X11_state 98 = .ok (.goto 24, 3) := by decide +kernel
theorem d_X11_state_101 : decode cm_X11_state 101 = .ok (.aload_n 0, 1) := by decide +kernel
theorem d_X11_state_102 : decode cm_X11_state 102 = .ok (.getfield 80, 3) := by decide +kernel
theorem d_X11_state_105 : decode cm_X11_state 105 = .ok (.iconst 0, 1) := by decide +kernel
theorem d_X11_state_106 : decode cm_X11_state 106 = .ok (.iaload, 1) := by decide +kernel
theorem d_X11_state_107 : decode cm_X11_state 107 = .ok (.ifCond .ne 7, 3) := by decide +kernel
theorem d_X11_state_110 : decode cm_X11_state 110 = .ok (.iconst 2, 1) := by decide +kernel
theorem d_X11_state_111 : decode cm_X11_state 111 = .ok (.goto 11, 3) := by decide +kernel
theorem d_X11_state_114 : decode cm_X11_state 114 = .ok (.aload_n 0, 1) := by decide +kernel
theorem d_X11_state_115 : decode cm_X11_state 115 = .ok (.getfield 80, 3) := by decide +kernel
theorem d_X11_state_118 : decode cm_X11_state 118 = .ok (.iconst 0, 1) := by decide +kernel
theorem d_X11_state_119 : decode cm_X11_state 119 = .ok (.iaload, 1) := by decide +kernel
theorem d_X11_state_120 : decode cm_X11_state 120 = .ok (.iconst 1, 1) := by decide +kernel
theorem d_X11_state_121 : decode cm_X11_state 121 = .ok (.isub, 1) := by decide +kernel
theorem d_X11_state_122 : decode cm_X11_state 122 = .ok (.ireturn, 1) := by decide +kernel
theorem d_X11_state_123 : decode cm_X11_state 123 = .ok (.aload_n 0, 1) := by decide +kernel
theorem d_X11_state_124 : decode cm_X11_state 124 = .ok (.getfield 83, 3) := by decide +kernel
theorem d_X11_state_127 : decode cm_X11_state 127 = .ok (.iconst 0, 1) := by decide +kernel
theorem d_X11_state_128 : decode cm_X11_state 128 = .ok (.iaload, 1) := by decide +kernel
theorem d_X11_state_129 : decode cm_X11_state 129 = .ok (.ireturn, 1) := by decide +kernel
theorem d_X11_state_130 : decode cm_X11_state 130 = .ok (.aload_n 0, 1) := by decide +kernel
theorem d_X11_state_131 : decode cm_X11_state 131 = .ok (.iconst 0, 1) := by decide +kernel
theorem d_X11_state_132 : decode cm_X11_state 132 = .ok (.invokevirtual 278, 3) := by decide +kernel
theorem d_X11_state_135 : decode cm_X11_state 135 = .ok (.ireturn, 1) := by decide +kernel
theorem d_X11_state_136 : decode cm_X11_state 136 = .ok (.aload_n 0, 1) := by decide +kernel
theorem d_X11_state_137 : decode cm_X11_state 137 = .ok (.invokevirtual 281, 3) := by decide +kernel
theorem d_X11_state_140 : decode cm_X11_state 140 = .ok (.ireturn, 1) := by decide +kernel
theorem d_X11_state_141 : decode cm_X11_state 141 = .ok (.aload_n 0, 1) := by decide +kernel
theorem d_X11_state_142 : decode cm_X11_state 142 = .ok (.iconst 0, 1) := by decide +kernel
theorem d_X11_state_143 : decode cm_X11_state 143 = .ok (.iload_n 1, 1) := by decide +kernel
theorem d_X11_state_144 : decode cm_X11_state 144 = .ok (.bipush 6, 2) := by decide +kernel
theorem d_X11_state_146 : decode cm_X11_state 146 = .ok (.isub, 1) := by decide +kernel
theorem d_X11_state_147 : decode cm_X11_state 147 = .ok (.invokevirtual 213, 3) := by decide +kernel
theorem d_X11_state_150 : decode cm_X11_state 150 = .ok (.ireturn, 1) := by decide +kernel
theorem d_X11_state_151 : decode cm_X11_state 151 = .ok (.aload_n 0, 1) := by decide +kernel
theorem d_X11_state_152 : decode cm_X11_state 152 = .ok (.bipush (-2), 2) := by decide +kernel
theorem d_X11_state_154 : decode cm_X11_state 154 = .ok (.invokevirtual 147, 3) := by decide +kernel
theorem d_X11_state_157 : decode cm_X11_state 157 = .ok (.ireturn, 1) := by decide +kernel
def D_X11_state_0 (Q : Int32 → GSt → Prop) (x1 : Int32) (σ : GSt) : Prop :=
  D_X11_stands  σ (fun r_1 σ_2 => (¬ r_1 = 0 → ((x1 < 0 ∨ 8 < x1) → D_X11_no (-2) σ_2 (fun r_3 σ_4 => Q r_3 σ_4)) ∧
  (x1 = 0 → Q (σ_2 259 (Int32.toNatClampNeg 0)) σ_2) ∧
  (x1 = 1 → Q ((σ_2 258 (Int32.toNatClampNeg 0)) - 1) σ_2) ∧
  (x1 = 2 → Q (σ_2 260 (Int32.toNatClampNeg 0)) σ_2) ∧
  (x1 = 3 → (¬ (σ_2 260 (Int32.toNatClampNeg 0)) = 0 → (¬ (σ_2 261 (Int32.toNatClampNeg 0)) = 0 → Q ((σ_2 261 (Int32.toNatClampNeg 0)) - 1) σ_2) ∧
  ((σ_2 261 (Int32.toNatClampNeg 0)) = 0 → Q 2 σ_2)) ∧
  ((σ_2 260 (Int32.toNatClampNeg 0)) = 0 → Q (-9) σ_2)) ∧
  (x1 = 4 → Q (σ_2 262 (Int32.toNatClampNeg 0)) σ_2) ∧
  (x1 = 5 → D_X11_code 0 σ_2 (fun r_5 σ_6 => Q r_5 σ_6)) ∧
  (x1 = 6 → D_X11_name  σ_2 (fun r_7 σ_8 => Q r_7 σ_8)) ∧
  (x1 = 7 → D_X11_pieces 0 (x1 - 6) σ_2 (fun r_9 σ_10 => Q r_9 σ_10)) ∧
  (x1 = 8 → D_X11_pieces 0 (x1 - 6) σ_2 (fun r_11 σ_12 => Q r_11 σ_12))) ∧
  (r_1 = 0 → D_X11_no (-3) σ_2 (fun r_13 σ_14 => Q r_13 σ_14)))
def D_X11_state (x1 : Int32) (σ : GSt) (Q : Int32 → GSt → Prop) : Prop := D_X11_state_0 Q x1 σ
set_option maxRecDepth 20000 in
set_option maxHeartbeats 4000000 in
theorem s_X11_state_0 {p : Program} {l : Launch} {e : Env} {s : State} {m : MethodId} {args : Array Value} {below : List Frame} {meth : Method} {c : Code} {G : GC} (X : CallFix p m c cm_X11_state 2 s args lw_us "GameLoomModel") (hr : meth.sig.returnType = some .int) (hlk : meth.locks = false) (Q : Int32 → GSt → Prop) (x1 : Int32) (σ : GSt) {H : Heap} {locs : List Loc} {ls : Array Slot} (hw : Wo G s H locs σ) (hl : lv_has ls 2 [(0, .ref (G.2.1 237)), (1, .int x1)]) (hD : D_X11_state_0 Q x1 σ) : W p l e rm_X11_state s m args below meth c H locs 0 0 (QMI G Q below args s) (F0 m 0 ls []) := by
  unfold D_X11_state_0 at hD
  refine lv_aload_n X.1 X.2.1 d_X11_state_0 rfl (lv_at hl 0 rfl) ?_
  refine gcV_i (rest := []) (As := []) (o := 237) X hw (c_X11_stands l G  σ _  hD) (kd_lt (by decide +kernel : kd 237 = 11) (by decide)) (ce_11 G _ (by decide +kernel : kd 237 = 11)) rfl tb_1200 tb_1202 tv_58 tb_12 tb_1203 hd_X11_stands ⟨rfl, rfl⟩ ⟨Nat.le_of_ble_eq_true rfl, Nat.le_of_ble_eq_true rfl⟩ rfl hl.1 rfl (Nat.le_of_ble_eq_true rfl) d_X11_state_1 (fun r_1 σ_2 H locs hD hw => ?_)
  refine lv_if_ne (tgt := 14) X.1 X.2.1 d_X11_state_4 (by decide) (fun q_4 => ?_) (fun q_4 => ?_)
  · have hD := hD.1 q_4
    refine lv_iload_n X.1 X.2.1 d_X11_state_14 rfl (lv_at hl 1 rfl) ?_
    by_cases q_15 : x1 < 0 ∨ 8 < x1
    · have hD := hD.1 q_15
      refine lv_tableOut (tgt := 151) X.1 X.2.1 d_X11_state_15 (sw_out (n := 8) (by decide) q_15) (by decide) ?_
      refine lv_aload_n X.1 X.2.1 d_X11_state_151 rfl (lv_at hl 0 rfl) ?_
      refine lv_bipush (v := (-2)) X.1 X.2.1 d_X11_state_152 (by decide) ?_
      refine gcV_i (rest := []) (As := [.int (-2)]) (o := 237) X hw (c_X11_no l G (-2) σ_2 _  hD) (kd_lt (by decide +kernel : kd 237 = 11) (by decide)) (ce_11 G _ (by decide +kernel : kd 237 = 11)) rfl tb_1084 tb_1086 tv_35 tb_12 tb_1087 hd_X11_no ⟨rfl, rfl⟩ ⟨Nat.le_of_ble_eq_true rfl, Nat.le_of_ble_eq_true rfl⟩ rfl hl.1 rfl (Nat.le_of_ble_eq_true rfl) d_X11_state_154 (fun r_3 σ_4 H locs hD hw => ?_)
      exact g_iret X hr hlk hw hD d_X11_state_157
    · obtain ⟨j_15, hj, ej⟩ := sw_in (n := 8) (by decide) q_15
      have hD := hD.2
      rcases (show j_15 = 0 ∨ j_15 = 1 ∨ j_15 = 2 ∨ j_15 = 3 ∨ j_15 = 4 ∨ j_15 = 5 ∨ j_15 = 6 ∨ j_15 = 7 ∨ j_15 = 8 by omega) with rfl | rfl | rfl | rfl | rfl | rfl | rfl | rfl | rfl
      · have hD := hD.1 ej
        refine lv_tableIn (tgt := 64) X.1 X.2.1 d_X11_state_15 (by rw [ej]; decide) (by rw [ej]; decide) (by rw [ej]; rfl) (by decide) ?_
        refine lv_aload_n X.1 X.2.1 d_X11_state_64 rfl (lv_at hl 0 rfl) ?_
        refine gf_11_25 X hw (by decide +kernel : kd 237 = 11) tb_931 d_X11_state_65 ?_
        refine lv_iconst (v := 0) X.1 X.2.1 d_X11_state_68 (by decide) ?_
        have q_69 : vp_in 0 9 := by unfold vp_in; decide
        refine g_iald X hw ly_11_25.1 ly_11_25.2 q_69 d_X11_state_69 ?_
        exact g_iret X hr hlk hw hD d_X11_state_70
      · have hD := hD.2.1 ej
        refine lv_tableIn (tgt := 71) X.1 X.2.1 d_X11_state_15 (by rw [ej]; decide) (by rw [ej]; decide) (by rw [ej]; rfl) (by decide) ?_
        refine lv_aload_n X.1 X.2.1 d_X11_state_71 rfl (lv_at hl 0 rfl) ?_
        refine gf_11_24 X hw (by decide +kernel : kd 237 = 11) tb_930 d_X11_state_72 ?_
        refine lv_iconst (v := 0) X.1 X.2.1 d_X11_state_75 (by decide) ?_
        have q_76 : vp_in 0 9 := by unfold vp_in; decide
        refine g_iald X hw ly_11_24.1 ly_11_24.2 q_76 d_X11_state_76 ?_
        refine lv_iconst (v := 1) X.1 X.2.1 d_X11_state_77 (by decide) ?_
        refine lv_isub X.1 X.2.1 d_X11_state_78 ?_
        exact g_iret X hr hlk hw hD d_X11_state_79
      · have hD := hD.2.2.1 ej
        refine lv_tableIn (tgt := 80) X.1 X.2.1 d_X11_state_15 (by rw [ej]; decide) (by rw [ej]; decide) (by rw [ej]; rfl) (by decide) ?_
        refine lv_aload_n X.1 X.2.1 d_X11_state_80 rfl (lv_at hl 0 rfl) ?_
        refine gf_11_26 X hw (by decide +kernel : kd 237 = 11) tb_932 d_X11_state_81 ?_
        refine lv_iconst (v := 0) X.1 X.2.1 d_X11_state_84 (by decide) ?_
        have q_85 : vp_in 0 9 := by unfold vp_in; decide
        refine g_iald X hw ly_11_26.1 ly_11_26.2 q_85 d_X11_state_85 ?_
        exact g_iret X hr hlk hw hD d_X11_state_86
      · have hD := hD.2.2.2.1 ej
        refine lv_tableIn (tgt := 87) X.1 X.2.1 d_X11_state_15 (by rw [ej]; decide) (by rw [ej]; decide) (by rw [ej]; rfl) (by decide) ?_
        refine lv_aload_n X.1 X.2.1 d_X11_state_87 rfl (lv_at hl 0 rfl) ?_
        refine gf_11_26 X hw (by decide +kernel : kd 237 = 11) tb_932 d_X11_state_88 ?_
        refine lv_iconst (v := 0) X.1 X.2.1 d_X11_state_91 (by decide) ?_
        have q_92 : vp_in 0 9 := by unfold vp_in; decide
        refine g_iald X hw ly_11_26.1 ly_11_26.2 q_92 d_X11_state_92 ?_
        refine lv_if_ne (tgt := 101) X.1 X.2.1 d_X11_state_93 (by decide) (fun q_93 => ?_) (fun q_93 => ?_)
        · have hD := hD.1 q_93
          refine lv_aload_n X.1 X.2.1 d_X11_state_101 rfl (lv_at hl 0 rfl) ?_
          refine gf_11_27 X hw (by decide +kernel : kd 237 = 11) tb_933 d_X11_state_102 ?_
          refine lv_iconst (v := 0) X.1 X.2.1 d_X11_state_105 (by decide) ?_
          have q_106 : vp_in 0 9 := by unfold vp_in; decide
          refine g_iald X hw ly_11_27.1 ly_11_27.2 q_106 d_X11_state_106 ?_
          refine lv_if_ne (tgt := 114) X.1 X.2.1 d_X11_state_107 (by decide) (fun q_107 => ?_) (fun q_107 => ?_)
          · have hD := hD.1 q_107
            refine lv_aload_n X.1 X.2.1 d_X11_state_114 rfl (lv_at hl 0 rfl) ?_
            refine gf_11_27 X hw (by decide +kernel : kd 237 = 11) tb_933 d_X11_state_115 ?_
            refine lv_iconst (v := 0) X.1 X.2.1 d_X11_state_118 (by decide) ?_
            have q_119 : vp_in 0 9 := by unfold vp_in; decide
            refine g_iald X hw ly_11_27.1 ly_11_27.2 q_119 d_X11_state_119 ?_
            refine lv_iconst (v := 1) X.1 X.2.1 d_X11_state_120 (by decide) ?_
            refine lv_isub X.1 X.2.1 d_X11_state_121 ?_
            exact g_iret X hr hlk hw hD d_X11_state_122
          · have hD := hD.2 q_107
            refine lv_iconst (v := 2) X.1 X.2.1 d_X11_state_110 (by decide) ?_
            refine lv_goto (tgt := 122) X.1 X.2.1 d_X11_state_111 (by decide) ?_
            exact g_iret X hr hlk hw hD d_X11_state_122
        · have hD := hD.2 q_93
          refine lv_bipush (v := (-9)) X.1 X.2.1 d_X11_state_96 (by decide) ?_
          refine lv_goto (tgt := 122) X.1 X.2.1 d_X11_state_98 (by decide) ?_
          exact g_iret X hr hlk hw hD d_X11_state_122
      · have hD := hD.2.2.2.2.1 ej
        refine lv_tableIn (tgt := 123) X.1 X.2.1 d_X11_state_15 (by rw [ej]; decide) (by rw [ej]; decide) (by rw [ej]; rfl) (by decide) ?_
        refine lv_aload_n X.1 X.2.1 d_X11_state_123 rfl (lv_at hl 0 rfl) ?_
        refine gf_11_28 X hw (by decide +kernel : kd 237 = 11) tb_934 d_X11_state_124 ?_
        refine lv_iconst (v := 0) X.1 X.2.1 d_X11_state_127 (by decide) ?_
        have q_128 : vp_in 0 9 := by unfold vp_in; decide
        refine g_iald X hw ly_11_28.1 ly_11_28.2 q_128 d_X11_state_128 ?_
        exact g_iret X hr hlk hw hD d_X11_state_129
      · have hD := hD.2.2.2.2.2.1 ej
        refine lv_tableIn (tgt := 130) X.1 X.2.1 d_X11_state_15 (by rw [ej]; decide) (by rw [ej]; decide) (by rw [ej]; rfl) (by decide) ?_
        refine lv_aload_n X.1 X.2.1 d_X11_state_130 rfl (lv_at hl 0 rfl) ?_
        refine lv_iconst (v := 0) X.1 X.2.1 d_X11_state_131 (by decide) ?_
        refine gcV_i (rest := []) (As := [.int 0]) (o := 237) X hw (c_X11_code l G 0 σ_2 _  hD) (kd_lt (by decide +kernel : kd 237 = 11) (by decide)) (ce_11 G _ (by decide +kernel : kd 237 = 11)) rfl tb_1244 tb_1246 tv_66 tb_12 tb_1247 hd_X11_code ⟨rfl, rfl⟩ ⟨Nat.le_of_ble_eq_true rfl, Nat.le_of_ble_eq_true rfl⟩ rfl hl.1 rfl (Nat.le_of_ble_eq_true rfl) d_X11_state_132 (fun r_5 σ_6 H locs hD hw => ?_)
        exact g_iret X hr hlk hw hD d_X11_state_135
      · have hD := hD.2.2.2.2.2.2.1 ej
        refine lv_tableIn (tgt := 136) X.1 X.2.1 d_X11_state_15 (by rw [ej]; decide) (by rw [ej]; decide) (by rw [ej]; rfl) (by decide) ?_
        refine lv_aload_n X.1 X.2.1 d_X11_state_136 rfl (lv_at hl 0 rfl) ?_
        refine gcV_i (rest := []) (As := []) (o := 237) X hw (c_X11_name l G  σ_2 _  hD) (kd_lt (by decide +kernel : kd 237 = 11) (by decide)) (ce_11 G _ (by decide +kernel : kd 237 = 11)) rfl tb_1248 tb_1250 tv_67 tb_12 tb_1251 hd_X11_name ⟨rfl, rfl⟩ ⟨Nat.le_of_ble_eq_true rfl, Nat.le_of_ble_eq_true rfl⟩ rfl hl.1 rfl (Nat.le_of_ble_eq_true rfl) d_X11_state_137 (fun r_7 σ_8 H locs hD hw => ?_)
        exact g_iret X hr hlk hw hD d_X11_state_140
      · have hD := hD.2.2.2.2.2.2.2.1 ej
        refine lv_tableIn (tgt := 141) X.1 X.2.1 d_X11_state_15 (by rw [ej]; decide) (by rw [ej]; decide) (by rw [ej]; rfl) (by decide) ?_
        refine lv_aload_n X.1 X.2.1 d_X11_state_141 rfl (lv_at hl 0 rfl) ?_
        refine lv_iconst (v := 0) X.1 X.2.1 d_X11_state_142 (by decide) ?_
        refine lv_iload_n X.1 X.2.1 d_X11_state_143 rfl (lv_at hl 1 rfl) ?_
        refine lv_bipush (v := 6) X.1 X.2.1 d_X11_state_144 (by decide) ?_
        refine lv_isub X.1 X.2.1 d_X11_state_146 ?_
        refine gcV_i (rest := []) (As := [.int 0, .int (x1 - 6)]) (o := 237) X hw (c_X11_pieces l G 0 (x1 - 6) σ_2 _  hD) (kd_lt (by decide +kernel : kd 237 = 11) (by decide)) (ce_11 G _ (by decide +kernel : kd 237 = 11)) rfl tb_1176 tb_1178 tv_53 tb_12 tb_1179 hd_X11_pieces ⟨rfl, rfl⟩ ⟨Nat.le_of_ble_eq_true rfl, Nat.le_of_ble_eq_true rfl⟩ rfl hl.1 rfl (Nat.le_of_ble_eq_true rfl) d_X11_state_147 (fun r_9 σ_10 H locs hD hw => ?_)
        exact g_iret X hr hlk hw hD d_X11_state_150
      · have hD := hD.2.2.2.2.2.2.2.2 ej
        refine lv_tableIn (tgt := 141) X.1 X.2.1 d_X11_state_15 (by rw [ej]; decide) (by rw [ej]; decide) (by rw [ej]; rfl) (by decide) ?_
        refine lv_aload_n X.1 X.2.1 d_X11_state_141 rfl (lv_at hl 0 rfl) ?_
        refine lv_iconst (v := 0) X.1 X.2.1 d_X11_state_142 (by decide) ?_
        refine lv_iload_n X.1 X.2.1 d_X11_state_143 rfl (lv_at hl 1 rfl) ?_
        refine lv_bipush (v := 6) X.1 X.2.1 d_X11_state_144 (by decide) ?_
        refine lv_isub X.1 X.2.1 d_X11_state_146 ?_
        refine gcV_i (rest := []) (As := [.int 0, .int (x1 - 6)]) (o := 237) X hw (c_X11_pieces l G 0 (x1 - 6) σ_2 _  hD) (kd_lt (by decide +kernel : kd 237 = 11) (by decide)) (ce_11 G _ (by decide +kernel : kd 237 = 11)) rfl tb_1176 tb_1178 tv_53 tb_12 tb_1179 hd_X11_pieces ⟨rfl, rfl⟩ ⟨Nat.le_of_ble_eq_true rfl, Nat.le_of_ble_eq_true rfl⟩ rfl hl.1 rfl (Nat.le_of_ble_eq_true rfl) d_X11_state_147 (fun r_11 σ_12 H locs hD hw => ?_)
        exact g_iret X hr hlk hw hD d_X11_state_150
  · have hD := hD.2 q_4
    refine lv_aload_n X.1 X.2.1 d_X11_state_7 rfl (lv_at hl 0 rfl) ?_
    refine lv_bipush (v := (-3)) X.1 X.2.1 d_X11_state_8 (by decide) ?_
    refine gcV_i (rest := []) (As := [.int (-3)]) (o := 237) X hw (c_X11_no l G (-3) σ_2 _  hD) (kd_lt (by decide +kernel : kd 237 = 11) (by decide)) (ce_11 G _ (by decide +kernel : kd 237 = 11)) rfl tb_1084 tb_1086 tv_35 tb_12 tb_1087 hd_X11_no ⟨rfl, rfl⟩ ⟨Nat.le_of_ble_eq_true rfl, Nat.le_of_ble_eq_true rfl⟩ rfl hl.1 rfl (Nat.le_of_ble_eq_true rfl) d_X11_state_10 (fun r_13 σ_14 H locs hD hw => ?_)
    exact g_iret X hr hlk hw hD d_X11_state_13
theorem c_X11_state (l : Launch) (G : GC) (x1 : Int32) (σ : GSt) (Q : Int32 → GSt → Prop)  (hD : D_X11_state x1 σ Q) : MI l ym_X11_state cm_X11_state 2 .int rm_X11_state G σ [.ref (G.2.1 237), .int x1] Q := by
  refine met_i (by decide) (Nat.le_of_ble_eq_true rfl) ?_
  intro p e s m args below meth c X hr hlk hw ls hl
  exact s_X11_state_0 X hr hlk Q  x1 σ hw (lv_sub hl [0, 1] rfl) hD
theorem hd_X11_cell : ym_X11_cell.cls = "GameLoomModel" ∧ ym_X11_cell.cls ≠ "java/lang/invoke/MethodHandle" ∧ ym_X11_cell.cls ≠ "java/lang/invoke/VarHandle" ∧ (parseMethodDescriptor ym_X11_cell.desc).map (fun d => d.parameters.length) = some 1 := by decide +kernel
abbrev rm_X11_cell : Room := { frames := 8, cells := 0, slots := 0, locals := 202 }
theorem d_X11_cell_0 : decode cm_X11_cell 0 = .ok (.aload_n 0, 1) := by decide +kernel
theorem d_X11_cell_1 : decode cm_X11_cell 1 = .ok (.invokevirtual 272, 3) := by decide +kernel
theorem d_X11_cell_4 : decode cm_X11_cell 4 = .ok (.ifCond .ne 10, 3) := by decide +kernel
theorem d_X11_cell_7 : decode cm_X11_cell 7 = .ok (.aload_n 0, 1) := by decide +kernel
theorem d_X11_cell_8 : decode cm_X11_cell 8 = .ok (.bipush (-3), 2) := by decide +kernel
theorem d_X11_cell_10 : decode cm_X11_cell 10 = .ok (.invokevirtual 147, 3) := by decide +kernel
theorem d_X11_cell_13 : decode cm_X11_cell 13 = .ok (.ireturn, 1) := by decide +kernel
theorem d_X11_cell_14 : decode cm_X11_cell 14 = .ok (.iload_n 1, 1) := by decide +kernel
theorem d_X11_cell_15 : decode cm_X11_cell 15 = .ok (.i2l, 1) := by decide +kernel
theorem d_X11_cell_16 : decode cm_X11_cell 16 = .ok (.lconst 0, 1) := by decide +kernel
theorem d_X11_cell_17 : decode cm_X11_cell 17 = .ok (.aload_n 0, 1) := by decide +kernel
theorem d_X11_cell_18 : decode cm_X11_cell 18 = .ok (.invokevirtual 210, 3) := by decide +kernel
theorem d_X11_cell_21 : decode cm_X11_cell 21 = .ok (.iconst 1, 1) := by decide +kernel
theorem d_X11_cell_22 : decode cm_X11_cell 22 = .ok (.isub, 1) := by decide +kernel
theorem d_X11_cell_23 : decode cm_X11_cell 23 = .ok (.i2l, 1) := by decide +kernel
theorem d_X11_cell_24 : decode cm_X11_cell 24 = .ok (.invokestatic 163, 3) := by decide +kernel
theorem d_X11_cell_27 : decode cm_X11_cell 27 = .ok (.ifCond .eq 12, 3) := by decide +kernel
theorem d_X11_cell_30 : decode cm_X11_cell 30 = .ok (.aload_n 0, 1) := by decide +kernel
theorem d_X11_cell_31 : decode cm_X11_cell 31 = .ok (.getfield 68, 3) := by decide +kernel
theorem d_X11_cell_34 : decode cm_X11_cell 34 = .ok (.iload_n 1, 1) := by decide +kernel
theorem d_X11_cell_35 : decode cm_X11_cell 35 = .ok (.iaload, 1) := by decide +kernel
theorem d_X11_cell_36 : decode cm_X11_cell 36 = .ok (.goto 8, 3) := by decide +kernel
theorem d_X11_cell_39 : decode cm_X11_cell 39 = .ok (.aload_n 0, 1) := by decide +kernel
theorem d_X11_cell_40 : decode cm_X11_cell 40 = .ok (.iconst (-1), 1) := by decide +kernel
theorem d_X11_cell_41 : decode cm_X11_cell 41 = .ok (.invokevirtual 147, 3) := by decide +kernel
theorem d_X11_cell_44 : decode cm_X11_cell 44 = .ok (.ireturn, 1) := by decide +kernel
def D_X11_cell_0 (Q : Int32 → GSt → Prop) (x1 : Int32) (σ : GSt) : Prop :=
  D_X11_stands  σ (fun r_1 σ_2 => (¬ r_1 = 0 → D_X11_cells  σ_2 (fun r_3 σ_4 => D_X11_isIn (Int32.toInt64 x1) 0 (Int32.toInt64 (r_3 - 1)) σ_4 (fun r_5 σ_6 => (r_5 = 0 → D_X11_no (-1) σ_6 (fun r_7 σ_8 => Q r_7 σ_8)) ∧
  (¬ r_5 = 0 → vp_in x1 144 ∧ (Q (σ_6 257 (Int32.toNatClampNeg x1)) σ_6))))) ∧
  (r_1 = 0 → D_X11_no (-3) σ_2 (fun r_9 σ_10 => Q r_9 σ_10)))
def D_X11_cell (x1 : Int32) (σ : GSt) (Q : Int32 → GSt → Prop) : Prop := D_X11_cell_0 Q x1 σ
set_option maxRecDepth 20000 in
set_option maxHeartbeats 4000000 in
theorem s_X11_cell_0 {p : Program} {l : Launch} {e : Env} {s : State} {m : MethodId} {args : Array Value} {below : List Frame} {meth : Method} {c : Code} {G : GC} (X : CallFix p m c cm_X11_cell 2 s args lw_us "GameLoomModel") (hr : meth.sig.returnType = some .int) (hlk : meth.locks = false) (Q : Int32 → GSt → Prop) (x1 : Int32) (σ : GSt) {H : Heap} {locs : List Loc} {ls : Array Slot} (hw : Wo G s H locs σ) (hl : lv_has ls 2 [(0, .ref (G.2.1 237)), (1, .int x1)]) (hD : D_X11_cell_0 Q x1 σ) : W p l e rm_X11_cell s m args below meth c H locs 0 0 (QMI G Q below args s) (F0 m 0 ls []) := by
  unfold D_X11_cell_0 at hD
  refine lv_aload_n X.1 X.2.1 d_X11_cell_0 rfl (lv_at hl 0 rfl) ?_
  refine gcV_i (rest := []) (As := []) (o := 237) X hw (c_X11_stands l G  σ _  hD) (kd_lt (by decide +kernel : kd 237 = 11) (by decide)) (ce_11 G _ (by decide +kernel : kd 237 = 11)) rfl tb_1200 tb_1202 tv_58 tb_12 tb_1203 hd_X11_stands ⟨rfl, rfl⟩ ⟨Nat.le_of_ble_eq_true rfl, Nat.le_of_ble_eq_true rfl⟩ rfl hl.1 rfl (Nat.le_of_ble_eq_true rfl) d_X11_cell_1 (fun r_1 σ_2 H locs hD hw => ?_)
  refine lv_if_ne (tgt := 14) X.1 X.2.1 d_X11_cell_4 (by decide) (fun q_4 => ?_) (fun q_4 => ?_)
  · have hD := hD.1 q_4
    refine lv_iload_n X.1 X.2.1 d_X11_cell_14 rfl (lv_at hl 1 rfl) ?_
    refine lv_i2l (v := (Int32.toInt64 x1)) X.1 X.2.1 d_X11_cell_15 rfl ?_
    refine lv_lconst (v := 0) X.1 X.2.1 d_X11_cell_16 (by decide) ?_
    refine lv_aload_n X.1 X.2.1 d_X11_cell_17 rfl (lv_at hl 0 rfl) ?_
    refine gcV_i (rest := [.long 0, .long (Int32.toInt64 x1)]) (As := []) (o := 237) X hw (c_X11_cells l G  σ_2 _  hD) (kd_lt (by decide +kernel : kd 237 = 11) (by decide)) (ce_11 G _ (by decide +kernel : kd 237 = 11)) rfl tb_1180 tb_1182 tv_54 tb_12 tb_1183 hd_X11_cells ⟨rfl, rfl⟩ ⟨Nat.le_of_ble_eq_true rfl, Nat.le_of_ble_eq_true rfl⟩ rfl hl.1 rfl (Nat.le_of_ble_eq_true rfl) d_X11_cell_18 (fun r_3 σ_4 H locs hD hw => ?_)
    refine lv_iconst (v := 1) X.1 X.2.1 d_X11_cell_21 (by decide) ?_
    refine lv_isub X.1 X.2.1 d_X11_cell_22 ?_
    refine lv_i2l (v := (Int32.toInt64 (r_3 - 1))) X.1 X.2.1 d_X11_cell_23 rfl ?_
    refine gcS_i (rest := []) (As := [.long (Int32.toInt64 x1), .long 0, .long (Int32.toInt64 (r_3 - 1))]) X hw (c_X11_isIn l G (Int32.toInt64 x1) 0 (Int32.toInt64 (r_3 - 1)) σ_4 _  hD) tb_1125 tb_1126 tb_12 tb_1127 hd_X11_isIn ⟨rfl, rfl⟩ ⟨Nat.le_of_ble_eq_true rfl, Nat.le_of_ble_eq_true rfl⟩ rfl hl.1 rfl (Nat.le_of_ble_eq_true rfl) d_X11_cell_24 (fun r_5 σ_6 H locs hD hw => ?_)
    refine lv_if_eq (tgt := 39) X.1 X.2.1 d_X11_cell_27 (by decide) (fun q_27 => ?_) (fun q_27 => ?_)
    · have hD := hD.1 q_27
      refine lv_aload_n X.1 X.2.1 d_X11_cell_39 rfl (lv_at hl 0 rfl) ?_
      refine lv_iconst (v := (-1)) X.1 X.2.1 d_X11_cell_40 (by decide) ?_
      refine gcV_i (rest := []) (As := [.int (-1)]) (o := 237) X hw (c_X11_no l G (-1) σ_6 _  hD) (kd_lt (by decide +kernel : kd 237 = 11) (by decide)) (ce_11 G _ (by decide +kernel : kd 237 = 11)) rfl tb_1084 tb_1086 tv_35 tb_12 tb_1087 hd_X11_no ⟨rfl, rfl⟩ ⟨Nat.le_of_ble_eq_true rfl, Nat.le_of_ble_eq_true rfl⟩ rfl hl.1 rfl (Nat.le_of_ble_eq_true rfl) d_X11_cell_41 (fun r_7 σ_8 H locs hD hw => ?_)
      exact g_iret X hr hlk hw hD d_X11_cell_44
    · have hD := hD.2 q_27
      refine lv_aload_n X.1 X.2.1 d_X11_cell_30 rfl (lv_at hl 0 rfl) ?_
      refine gf_11_23 X hw (by decide +kernel : kd 237 = 11) tb_929 d_X11_cell_31 ?_
      refine lv_iload_n X.1 X.2.1 d_X11_cell_34 rfl (lv_at hl 1 rfl) ?_
      obtain ⟨q_35, hD⟩ := hD
      refine g_iald X hw ly_11_23.1 ly_11_23.2 q_35 d_X11_cell_35 ?_
      refine lv_goto (tgt := 44) X.1 X.2.1 d_X11_cell_36 (by decide) ?_
      exact g_iret X hr hlk hw hD d_X11_cell_44
  · have hD := hD.2 q_4
    refine lv_aload_n X.1 X.2.1 d_X11_cell_7 rfl (lv_at hl 0 rfl) ?_
    refine lv_bipush (v := (-3)) X.1 X.2.1 d_X11_cell_8 (by decide) ?_
    refine gcV_i (rest := []) (As := [.int (-3)]) (o := 237) X hw (c_X11_no l G (-3) σ_2 _  hD) (kd_lt (by decide +kernel : kd 237 = 11) (by decide)) (ce_11 G _ (by decide +kernel : kd 237 = 11)) rfl tb_1084 tb_1086 tv_35 tb_12 tb_1087 hd_X11_no ⟨rfl, rfl⟩ ⟨Nat.le_of_ble_eq_true rfl, Nat.le_of_ble_eq_true rfl⟩ rfl hl.1 rfl (Nat.le_of_ble_eq_true rfl) d_X11_cell_10 (fun r_9 σ_10 H locs hD hw => ?_)
    exact g_iret X hr hlk hw hD d_X11_cell_13
theorem c_X11_cell (l : Launch) (G : GC) (x1 : Int32) (σ : GSt) (Q : Int32 → GSt → Prop)  (hD : D_X11_cell x1 σ Q) : MI l ym_X11_cell cm_X11_cell 2 .int rm_X11_cell G σ [.ref (G.2.1 237), .int x1] Q := by
  refine met_i (by decide) (Nat.le_of_ble_eq_true rfl) ?_
  intro p e s m args below meth c X hr hlk hw ls hl
  exact s_X11_cell_0 X hr hlk Q  x1 σ hw (lv_sub hl [0, 1] rfl) hD
theorem hd_X11_look : ym_X11_look.cls = "GameLoomModel" ∧ ym_X11_look.cls ≠ "java/lang/invoke/MethodHandle" ∧ ym_X11_look.cls ≠ "java/lang/invoke/VarHandle" ∧ (parseMethodDescriptor ym_X11_look.desc).map (fun d => d.parameters.length) = some 1 := by decide +kernel
abbrev rm_X11_look : Room := { frames := 8, cells := 0, slots := 0, locals := 202 }
theorem d_X11_look_0 : decode cm_X11_look 0 = .ok (.aload_n 0, 1) := by decide +kernel
theorem d_X11_look_1 : decode cm_X11_look 1 = .ok (.invokevirtual 272, 3) := by decide +kernel
theorem d_X11_look_4 : decode cm_X11_look 4 = .ok (.ifCond .eq 12, 3) := by decide +kernel
theorem d_X11_look_7 : decode cm_X11_look 7 = .ok (.aload_n 0, 1) := by decide +kernel
theorem d_X11_look_8 : decode cm_X11_look 8 = .ok (.getfield 77, 3) := by decide +kernel
theorem d_X11_look_11 : decode cm_X11_look 11 = .ok (.iconst 0, 1) := by decide +kernel
theorem d_X11_look_12 : decode cm_X11_look 12 = .ok (.iaload, 1) := by decide +kernel
theorem d_X11_look_13 : decode cm_X11_look 13 = .ok (.ifCond .eq 10, 3) := by decide +kernel
theorem d_X11_look_16 : decode cm_X11_look 16 = .ok (.aload_n 0, 1) := by decide +kernel
theorem d_X11_look_17 : decode cm_X11_look 17 = .ok (.bipush (-3), 2) := by decide +kernel
theorem d_X11_look_19 : decode cm_X11_look 19 = .ok (.invokevirtual 147, 3) := by decide +kernel
theorem d_X11_look_22 : decode cm_X11_look 22 = .ok (.ireturn, 1) := by decide +kernel
theorem d_X11_look_23 : decode cm_X11_look 23 = .ok (.iload_n 1, 1) := by decide +kernel
theorem d_X11_look_24 : decode cm_X11_look 24 = .ok (.i2l, 1) := by decide +kernel
theorem d_X11_look_25 : decode cm_X11_look 25 = .ok (.lconst 0, 1) := by decide +kernel
theorem d_X11_look_26 : decode cm_X11_look 26 = .ok (.ldc2_w 284, 3) := by decide +kernel
theorem d_X11_look_29 : decode cm_X11_look 29 = .ok (.invokestatic 140, 3) := by decide +kernel
theorem d_X11_look_32 : decode cm_X11_look 32 = .ok (.istore_n 2, 1) := by decide +kernel
theorem d_X11_look_33 : decode cm_X11_look 33 = .ok (.iload_n 2, 1) := by decide +kernel
theorem d_X11_look_34 : decode cm_X11_look 34 = .ok (.ifCond .ne 15, 3) := by decide +kernel
theorem d_X11_look_37 : decode cm_X11_look 37 = .ok (.aload_n 0, 1) := by decide +kernel
theorem d_X11_look_38 : decode cm_X11_look 38 = .ok (.iconst 0, 1) := by decide +kernel
theorem d_X11_look_39 : decode cm_X11_look 39 = .ok (.iload_n 1, 1) := by decide +kernel
theorem d_X11_look_40 : decode cm_X11_look 40 = .ok (.invokevirtual 286, 3) := by decide +kernel
theorem d_X11_look_43 : decode cm_X11_look 43 = .ok (.ifCond .eq 6, 3) := by decide +kernel
theorem d_X11_look_46 : decode cm_X11_look 46 = .ok (.bipush (-5), 2) := by decide +kernel
theorem d_X11_look_48 : decode cm_X11_look 48 = .ok (.istore_n 2, 1) := by decide +kernel
theorem d_X11_look_49 : decode cm_X11_look 49 = .ok (.iload_n 2, 1) := by decide +kernel
theorem d_X11_look_50 : decode cm_X11_look 50 = .ok (.ifCond .eq 11, 3) := by decide +kernel
theorem d_X11_look_53 : decode cm_X11_look 53 = .ok (.aload_n 0, 1) := by decide +kernel
theorem d_X11_look_54 : decode cm_X11_look 54 = .ok (.iload_n 2, 1) := by decide +kernel
theorem d_X11_look_55 : decode cm_X11_look 55 = .ok (.invokevirtual 147, 3) := by decide +kernel
theorem d_X11_look_58 : decode cm_X11_look 58 = .ok (.goto 9, 3) := by decide +kernel
theorem d_X11_look_61 : decode cm_X11_look 61 = .ok (.aload_n 0, 1) := by decide +kernel
theorem d_X11_look_62 : decode cm_X11_look 62 = .ok (.iconst 0, 1) := by decide +kernel
theorem d_X11_look_63 : decode cm_X11_look 63 = .ok (.iload_n 1, 1) := by decide +kernel
theorem d_X11_look_64 : decode cm_X11_look 64 = .ok (.invokevirtual 260, 3) := by decide +kernel
theorem d_X11_look_67 : decode cm_X11_look 67 = .ok (.ireturn, 1) := by decide +kernel
def D_X11_look_49 (Q : Int32 → GSt → Prop) (x1 : Int32) (x2 : Int32) (σ : GSt) : Prop :=
  (x2 = 0 → D_X11_lookAt 0 x1 σ (fun r_1 σ_2 => Q r_1 σ_2)) ∧
  (¬ x2 = 0 → D_X11_no x2 σ (fun r_3 σ_4 => Q r_3 σ_4))
def D_X11_look_16 (Q : Int32 → GSt → Prop) (σ : GSt) : Prop :=
  D_X11_no (-3) σ (fun r_1 σ_2 => Q r_1 σ_2)
def D_X11_look_0 (Q : Int32 → GSt → Prop) (x1 : Int32) (σ : GSt) : Prop :=
  D_X11_stands  σ (fun r_1 σ_2 => (r_1 = 0 → D_X11_look_16 Q σ_2) ∧
  (¬ r_1 = 0 → ((σ_2 260 (Int32.toNatClampNeg 0)) = 0 → D_X11_out (Int32.toInt64 x1) 0 6 σ_2 (fun r_3 σ_4 => (¬ r_3 = 0 → D_X11_look_49 Q x1 r_3 σ_4) ∧
  (r_3 = 0 → D_X11_isSpent 0 x1 σ_4 (fun r_5 σ_6 => (r_5 = 0 → D_X11_look_49 Q x1 r_3 σ_6) ∧
  (¬ r_5 = 0 → D_X11_look_49 Q x1 (-5) σ_6))))) ∧
  (¬ (σ_2 260 (Int32.toNatClampNeg 0)) = 0 → D_X11_look_16 Q σ_2)))
def D_X11_look (x1 : Int32) (σ : GSt) (Q : Int32 → GSt → Prop) : Prop := D_X11_look_0 Q x1 σ
set_option maxRecDepth 20000 in
set_option maxHeartbeats 4000000 in
theorem s_X11_look_49 {p : Program} {l : Launch} {e : Env} {s : State} {m : MethodId} {args : Array Value} {below : List Frame} {meth : Method} {c : Code} {G : GC} (X : CallFix p m c cm_X11_look 3 s args lw_us "GameLoomModel") (hr : meth.sig.returnType = some .int) (hlk : meth.locks = false) (Q : Int32 → GSt → Prop) (x1 : Int32) (x2 : Int32) (σ : GSt) {H : Heap} {locs : List Loc} {ls : Array Slot} (hw : Wo G s H locs σ) (hl : lv_has ls 3 [(0, .ref (G.2.1 237)), (1, .int x1), (2, .int x2)]) (hD : D_X11_look_49 Q x1 x2 σ) : W p l e rm_X11_look s m args below meth c H locs 0 0 (QMI G Q below args s) (F0 m 49 ls []) := by
  unfold D_X11_look_49 at hD
  refine lv_iload_n X.1 X.2.1 d_X11_look_49 rfl (lv_at hl 2 rfl) ?_
  refine lv_if_eq (tgt := 61) X.1 X.2.1 d_X11_look_50 (by decide) (fun q_50 => ?_) (fun q_50 => ?_)
  · have hD := hD.1 q_50
    refine lv_aload_n X.1 X.2.1 d_X11_look_61 rfl (lv_at hl 0 rfl) ?_
    refine lv_iconst (v := 0) X.1 X.2.1 d_X11_look_62 (by decide) ?_
    refine lv_iload_n X.1 X.2.1 d_X11_look_63 rfl (lv_at hl 1 rfl) ?_
    refine gcV_i (rest := []) (As := [.int 0, .int x1]) (o := 237) X hw (c_X11_lookAt l G 0 x1 σ _  hD) (kd_lt (by decide +kernel : kd 237 = 11) (by decide)) (ce_11 G _ (by decide +kernel : kd 237 = 11)) rfl tb_1265 tb_1267 tv_69 tb_12 tb_1268 hd_X11_lookAt ⟨rfl, rfl⟩ ⟨Nat.le_of_ble_eq_true rfl, Nat.le_of_ble_eq_true rfl⟩ rfl hl.1 rfl (Nat.le_of_ble_eq_true rfl) d_X11_look_64 (fun r_1 σ_2 H locs hD hw => ?_)
    exact g_iret X hr hlk hw hD d_X11_look_67
  · have hD := hD.2 q_50
    refine lv_aload_n X.1 X.2.1 d_X11_look_53 rfl (lv_at hl 0 rfl) ?_
    refine lv_iload_n X.1 X.2.1 d_X11_look_54 rfl (lv_at hl 2 rfl) ?_
    refine gcV_i (rest := []) (As := [.int x2]) (o := 237) X hw (c_X11_no l G x2 σ _  hD) (kd_lt (by decide +kernel : kd 237 = 11) (by decide)) (ce_11 G _ (by decide +kernel : kd 237 = 11)) rfl tb_1084 tb_1086 tv_35 tb_12 tb_1087 hd_X11_no ⟨rfl, rfl⟩ ⟨Nat.le_of_ble_eq_true rfl, Nat.le_of_ble_eq_true rfl⟩ rfl hl.1 rfl (Nat.le_of_ble_eq_true rfl) d_X11_look_55 (fun r_3 σ_4 H locs hD hw => ?_)
    refine lv_goto (tgt := 67) X.1 X.2.1 d_X11_look_58 (by decide) ?_
    exact g_iret X hr hlk hw hD d_X11_look_67
set_option maxRecDepth 20000 in
set_option maxHeartbeats 4000000 in
theorem s_X11_look_16 {p : Program} {l : Launch} {e : Env} {s : State} {m : MethodId} {args : Array Value} {below : List Frame} {meth : Method} {c : Code} {G : GC} (X : CallFix p m c cm_X11_look 3 s args lw_us "GameLoomModel") (hr : meth.sig.returnType = some .int) (hlk : meth.locks = false) (Q : Int32 → GSt → Prop) (σ : GSt) {H : Heap} {locs : List Loc} {ls : Array Slot} (hw : Wo G s H locs σ) (hl : lv_has ls 3 [(0, .ref (G.2.1 237))]) (hD : D_X11_look_16 Q σ) : W p l e rm_X11_look s m args below meth c H locs 0 0 (QMI G Q below args s) (F0 m 16 ls []) := by
  unfold D_X11_look_16 at hD
  refine lv_aload_n X.1 X.2.1 d_X11_look_16 rfl (lv_at hl 0 rfl) ?_
  refine lv_bipush (v := (-3)) X.1 X.2.1 d_X11_look_17 (by decide) ?_
  refine gcV_i (rest := []) (As := [.int (-3)]) (o := 237) X hw (c_X11_no l G (-3) σ _  hD) (kd_lt (by decide +kernel : kd 237 = 11) (by decide)) (ce_11 G _ (by decide +kernel : kd 237 = 11)) rfl tb_1084 tb_1086 tv_35 tb_12 tb_1087 hd_X11_no ⟨rfl, rfl⟩ ⟨Nat.le_of_ble_eq_true rfl, Nat.le_of_ble_eq_true rfl⟩ rfl hl.1 rfl (Nat.le_of_ble_eq_true rfl) d_X11_look_19 (fun r_1 σ_2 H locs hD hw => ?_)
  exact g_iret X hr hlk hw hD d_X11_look_22
set_option maxRecDepth 20000 in
set_option maxHeartbeats 4000000 in
theorem s_X11_look_0 {p : Program} {l : Launch} {e : Env} {s : State} {m : MethodId} {args : Array Value} {below : List Frame} {meth : Method} {c : Code} {G : GC} (X : CallFix p m c cm_X11_look 3 s args lw_us "GameLoomModel") (hr : meth.sig.returnType = some .int) (hlk : meth.locks = false) (Q : Int32 → GSt → Prop) (x1 : Int32) (σ : GSt) {H : Heap} {locs : List Loc} {ls : Array Slot} (hw : Wo G s H locs σ) (hl : lv_has ls 3 [(0, .ref (G.2.1 237)), (1, .int x1)]) (hD : D_X11_look_0 Q x1 σ) : W p l e rm_X11_look s m args below meth c H locs 0 0 (QMI G Q below args s) (F0 m 0 ls []) := by
  unfold D_X11_look_0 at hD
  refine lv_aload_n X.1 X.2.1 d_X11_look_0 rfl (lv_at hl 0 rfl) ?_
  refine gcV_i (rest := []) (As := []) (o := 237) X hw (c_X11_stands l G  σ _  hD) (kd_lt (by decide +kernel : kd 237 = 11) (by decide)) (ce_11 G _ (by decide +kernel : kd 237 = 11)) rfl tb_1200 tb_1202 tv_58 tb_12 tb_1203 hd_X11_stands ⟨rfl, rfl⟩ ⟨Nat.le_of_ble_eq_true rfl, Nat.le_of_ble_eq_true rfl⟩ rfl hl.1 rfl (Nat.le_of_ble_eq_true rfl) d_X11_look_1 (fun r_1 σ_2 H locs hD hw => ?_)
  refine lv_if_eq (tgt := 16) X.1 X.2.1 d_X11_look_4 (by decide) (fun q_4 => ?_) (fun q_4 => ?_)
  · have hD := hD.1 q_4
    exact s_X11_look_16 X hr hlk  Q   σ_2 hw (lv_sub hl [0] rfl) hD
  · have hD := hD.2 q_4
    refine lv_aload_n X.1 X.2.1 d_X11_look_7 rfl (lv_at hl 0 rfl) ?_
    refine gf_11_26 X hw (by decide +kernel : kd 237 = 11) tb_932 d_X11_look_8 ?_
    refine lv_iconst (v := 0) X.1 X.2.1 d_X11_look_11 (by decide) ?_
    have q_12 : vp_in 0 9 := by unfold vp_in; decide
    refine g_iald X hw ly_11_26.1 ly_11_26.2 q_12 d_X11_look_12 ?_
    refine lv_if_eq (tgt := 23) X.1 X.2.1 d_X11_look_13 (by decide) (fun q_13 => ?_) (fun q_13 => ?_)
    · have hD := hD.1 q_13
      refine lv_iload_n X.1 X.2.1 d_X11_look_23 rfl (lv_at hl 1 rfl) ?_
      refine lv_i2l (v := (Int32.toInt64 x1)) X.1 X.2.1 d_X11_look_24 rfl ?_
      refine lv_lconst (v := 0) X.1 X.2.1 d_X11_look_25 (by decide) ?_
      refine lv_ldc2 (v := 6) X.1 X.2.1 X.2.2.2.1 (X.2.2.2.2 _ tb_1260) d_X11_look_26 ?_
      refine gcS_i (rest := []) (As := [.long (Int32.toInt64 x1), .long 0, .long 6]) X hw (c_X11_out l G (Int32.toInt64 x1) 0 6 σ_2 _  hD) tb_1081 tb_1082 tb_12 tb_1083 hd_X11_out ⟨rfl, rfl⟩ ⟨Nat.le_of_ble_eq_true rfl, Nat.le_of_ble_eq_true rfl⟩ rfl hl.1 rfl (Nat.le_of_ble_eq_true rfl) d_X11_look_29 (fun r_3 σ_4 H locs hD hw => ?_)
      refine lv_istore_n (lv' := [(2, .int r_3), (0, .ref (G.2.1 237)), (1, .int x1)]) X.1 X.2.1 d_X11_look_32 rfl hl (by decide) rfl (fun ls hl => ?_)
      refine lv_iload_n X.1 X.2.1 d_X11_look_33 rfl (lv_at hl 0 rfl) ?_
      refine lv_if_ne (tgt := 49) X.1 X.2.1 d_X11_look_34 (by decide) (fun q_34 => ?_) (fun q_34 => ?_)
      · have hD := hD.1 q_34
        exact s_X11_look_49 X hr hlk  Q  x1 r_3 σ_4 hw (lv_sub hl [1, 2, 0] rfl) hD
      · have hD := hD.2 q_34
        refine lv_aload_n X.1 X.2.1 d_X11_look_37 rfl (lv_at hl 1 rfl) ?_
        refine lv_iconst (v := 0) X.1 X.2.1 d_X11_look_38 (by decide) ?_
        refine lv_iload_n X.1 X.2.1 d_X11_look_39 rfl (lv_at hl 2 rfl) ?_
        refine gcV_i (rest := []) (As := [.int 0, .int x1]) (o := 237) X hw (c_X11_isSpent l G 0 x1 σ_4 _  hD) (kd_lt (by decide +kernel : kd 237 = 11) (by decide)) (ce_11 G _ (by decide +kernel : kd 237 = 11)) rfl tb_1261 tb_1263 tv_68 tb_12 tb_1264 hd_X11_isSpent ⟨rfl, rfl⟩ ⟨Nat.le_of_ble_eq_true rfl, Nat.le_of_ble_eq_true rfl⟩ rfl hl.1 rfl (Nat.le_of_ble_eq_true rfl) d_X11_look_40 (fun r_5 σ_6 H locs hD hw => ?_)
        refine lv_if_eq (tgt := 49) X.1 X.2.1 d_X11_look_43 (by decide) (fun q_43 => ?_) (fun q_43 => ?_)
        · have hD := hD.1 q_43
          exact s_X11_look_49 X hr hlk  Q  x1 r_3 σ_6 hw (lv_sub hl [1, 2, 0] rfl) hD
        · have hD := hD.2 q_43
          refine lv_bipush (v := (-5)) X.1 X.2.1 d_X11_look_46 (by decide) ?_
          refine lv_istore_n (lv' := [(2, .int (-5)), (0, .ref (G.2.1 237)), (1, .int x1)]) X.1 X.2.1 d_X11_look_48 rfl hl (by decide) rfl (fun ls hl => ?_)
          exact s_X11_look_49 X hr hlk  Q  x1 (-5) σ_6 hw (lv_sub hl [1, 2, 0] rfl) hD
    · have hD := hD.2 q_13
      exact s_X11_look_16 X hr hlk  Q   σ_2 hw (lv_sub hl [0] rfl) hD
theorem c_X11_look (l : Launch) (G : GC) (x1 : Int32) (σ : GSt) (Q : Int32 → GSt → Prop)  (hD : D_X11_look x1 σ Q) : MI l ym_X11_look cm_X11_look 3 .int rm_X11_look G σ [.ref (G.2.1 237), .int x1] Q := by
  refine met_i (by decide) (Nat.le_of_ble_eq_true rfl) ?_
  intro p e s m args below meth c X hr hlk hw ls hl
  exact s_X11_look_0 X hr hlk Q  x1 σ hw (lv_sub hl [0, 1] rfl) hD
theorem hd_X11_best : ym_X11_best.cls = "GameLoomModel" ∧ ym_X11_best.cls ≠ "java/lang/invoke/MethodHandle" ∧ ym_X11_best.cls ≠ "java/lang/invoke/VarHandle" ∧ (parseMethodDescriptor ym_X11_best.desc).map (fun d => d.parameters.length) = some 1 := by decide +kernel
abbrev rm_X11_best : Room := { frames := 8, cells := 0, slots := 0, locals := 208 }
theorem d_X11_best_0 : decode cm_X11_best 0 = .ok (.aload_n 0, 1) := by decide +kernel
theorem d_X11_best_1 : decode cm_X11_best 1 = .ok (.invokevirtual 272, 3) := by decide +kernel
theorem d_X11_best_4 : decode cm_X11_best 4 = .ok (.ifCond .eq 12, 3) := by decide +kernel
theorem d_X11_best_7 : decode cm_X11_best 7 = .ok (.aload_n 0, 1) := by decide +kernel
theorem d_X11_best_8 : decode cm_X11_best 8 = .ok (.getfield 77, 3) := by decide +kernel
theorem d_X11_best_11 : decode cm_X11_best 11 = .ok (.iconst 0, 1) := by decide +kernel
theorem d_X11_best_12 : decode cm_X11_best 12 = .ok (.iaload, 1) := by decide +kernel
theorem d_X11_best_13 : decode cm_X11_best 13 = .ok (.ifCond .eq 10, 3) := by decide +kernel
theorem d_X11_best_16 : decode cm_X11_best 16 = .ok (.aload_n 0, 1) := by decide +kernel
theorem d_X11_best_17 : decode cm_X11_best 17 = .ok (.bipush (-3), 2) := by decide +kernel
theorem d_X11_best_19 : decode cm_X11_best 19 = .ok (.invokevirtual 147, 3) := by decide +kernel
theorem d_X11_best_22 : decode cm_X11_best 22 = .ok (.ireturn, 1) := by decide +kernel
theorem d_X11_best_23 : decode cm_X11_best 23 = .ok (.iload_n 1, 1) := by decide +kernel
theorem d_X11_best_24 : decode cm_X11_best 24 = .ok (.i2l, 1) := by decide +kernel
theorem d_X11_best_25 : decode cm_X11_best 25 = .ok (.lconst 1, 1) := by decide +kernel
theorem d_X11_best_26 : decode cm_X11_best 26 = .ok (.ldc2_w 284, 3) := by decide +kernel
theorem d_X11_best_29 : decode cm_X11_best 29 = .ok (.invokestatic 140, 3) := by decide +kernel
theorem d_X11_best_32 : decode cm_X11_best 32 = .ok (.istore_n 2, 1) := by decide +kernel
theorem d_X11_best_33 : decode cm_X11_best 33 = .ok (.iload_n 2, 1) := by decide +kernel
theorem d_X11_best_34 : decode cm_X11_best 34 = .ok (.ifCond .ne 15, 3) := by decide +kernel
theorem d_X11_best_37 : decode cm_X11_best 37 = .ok (.aload_n 0, 1) := by decide +kernel
theorem d_X11_best_38 : decode cm_X11_best 38 = .ok (.iconst 0, 1) := by decide +kernel
theorem d_X11_best_39 : decode cm_X11_best 39 = .ok (.iload_n 1, 1) := by decide +kernel
theorem d_X11_best_40 : decode cm_X11_best 40 = .ok (.invokevirtual 286, 3) := by decide +kernel
theorem d_X11_best_43 : decode cm_X11_best 43 = .ok (.ifCond .eq 6, 3) := by decide +kernel
theorem d_X11_best_46 : decode cm_X11_best 46 = .ok (.bipush (-5), 2) := by decide +kernel
theorem d_X11_best_48 : decode cm_X11_best 48 = .ok (.istore_n 2, 1) := by decide +kernel
theorem d_X11_best_49 : decode cm_X11_best 49 = .ok (.iload_n 2, 1) := by decide +kernel
theorem d_X11_best_50 : decode cm_X11_best 50 = .ok (.ifCond .eq 11, 3) := by decide +kernel
theorem d_X11_best_53 : decode cm_X11_best 53 = .ok (.aload_n 0, 1) := by decide +kernel
theorem d_X11_best_54 : decode cm_X11_best 54 = .ok (.iload_n 2, 1) := by decide +kernel
theorem d_X11_best_55 : decode cm_X11_best 55 = .ok (.invokevirtual 147, 3) := by decide +kernel
theorem d_X11_best_58 : decode cm_X11_best 58 = .ok (.goto 8, 3) := by decide +kernel
theorem d_X11_best_61 : decode cm_X11_best 61 = .ok (.aload_n 0, 1) := by decide +kernel
theorem d_X11_best_62 : decode cm_X11_best 62 = .ok (.iload_n 1, 1) := by decide +kernel
theorem d_X11_best_63 : decode cm_X11_best 63 = .ok (.invokevirtual 289, 3) := by decide +kernel
theorem d_X11_best_66 : decode cm_X11_best 66 = .ok (.ireturn, 1) := by decide +kernel
def D_X11_best_49 (Q : Int32 → GSt → Prop) (x1 : Int32) (x2 : Int32) (σ : GSt) : Prop :=
  (x2 = 0 → D_X11_bestAt x1 σ (fun r_1 σ_2 => Q r_1 σ_2)) ∧
  (¬ x2 = 0 → D_X11_no x2 σ (fun r_3 σ_4 => Q r_3 σ_4))
def D_X11_best_16 (Q : Int32 → GSt → Prop) (σ : GSt) : Prop :=
  D_X11_no (-3) σ (fun r_1 σ_2 => Q r_1 σ_2)
def D_X11_best_0 (Q : Int32 → GSt → Prop) (x1 : Int32) (σ : GSt) : Prop :=
  D_X11_stands  σ (fun r_1 σ_2 => (r_1 = 0 → D_X11_best_16 Q σ_2) ∧
  (¬ r_1 = 0 → ((σ_2 260 (Int32.toNatClampNeg 0)) = 0 → D_X11_out (Int32.toInt64 x1) 1 6 σ_2 (fun r_3 σ_4 => (¬ r_3 = 0 → D_X11_best_49 Q x1 r_3 σ_4) ∧
  (r_3 = 0 → D_X11_isSpent 0 x1 σ_4 (fun r_5 σ_6 => (r_5 = 0 → D_X11_best_49 Q x1 r_3 σ_6) ∧
  (¬ r_5 = 0 → D_X11_best_49 Q x1 (-5) σ_6))))) ∧
  (¬ (σ_2 260 (Int32.toNatClampNeg 0)) = 0 → D_X11_best_16 Q σ_2)))
def D_X11_best (x1 : Int32) (σ : GSt) (Q : Int32 → GSt → Prop) : Prop := D_X11_best_0 Q x1 σ
set_option maxRecDepth 20000 in
set_option maxHeartbeats 4000000 in
theorem s_X11_best_49 {p : Program} {l : Launch} {e : Env} {s : State} {m : MethodId} {args : Array Value} {below : List Frame} {meth : Method} {c : Code} {G : GC} (X : CallFix p m c cm_X11_best 3 s args lw_us "GameLoomModel") (hr : meth.sig.returnType = some .int) (hlk : meth.locks = false) (Q : Int32 → GSt → Prop) (x1 : Int32) (x2 : Int32) (σ : GSt) {H : Heap} {locs : List Loc} {ls : Array Slot} (hw : Wo G s H locs σ) (hl : lv_has ls 3 [(0, .ref (G.2.1 237)), (1, .int x1), (2, .int x2)]) (hD : D_X11_best_49 Q x1 x2 σ) : W p l e rm_X11_best s m args below meth c H locs 0 0 (QMI G Q below args s) (F0 m 49 ls []) := by
  unfold D_X11_best_49 at hD
  refine lv_iload_n X.1 X.2.1 d_X11_best_49 rfl (lv_at hl 2 rfl) ?_
  refine lv_if_eq (tgt := 61) X.1 X.2.1 d_X11_best_50 (by decide) (fun q_50 => ?_) (fun q_50 => ?_)
  · have hD := hD.1 q_50
    refine lv_aload_n X.1 X.2.1 d_X11_best_61 rfl (lv_at hl 0 rfl) ?_
    refine lv_iload_n X.1 X.2.1 d_X11_best_62 rfl (lv_at hl 1 rfl) ?_
    refine gcV_i (rest := []) (As := [.int x1]) (o := 237) X hw (c_X11_bestAt l G x1 σ _  hD) (kd_lt (by decide +kernel : kd 237 = 11) (by decide)) (ce_11 G _ (by decide +kernel : kd 237 = 11)) rfl tb_1277 tb_1279 tv_71 tb_12 tb_1280 hd_X11_bestAt ⟨rfl, rfl⟩ ⟨Nat.le_of_ble_eq_true rfl, Nat.le_of_ble_eq_true rfl⟩ rfl hl.1 rfl (Nat.le_of_ble_eq_true rfl) d_X11_best_63 (fun r_1 σ_2 H locs hD hw => ?_)
    exact g_iret X hr hlk hw hD d_X11_best_66
  · have hD := hD.2 q_50
    refine lv_aload_n X.1 X.2.1 d_X11_best_53 rfl (lv_at hl 0 rfl) ?_
    refine lv_iload_n X.1 X.2.1 d_X11_best_54 rfl (lv_at hl 2 rfl) ?_
    refine gcV_i (rest := []) (As := [.int x2]) (o := 237) X hw (c_X11_no l G x2 σ _  hD) (kd_lt (by decide +kernel : kd 237 = 11) (by decide)) (ce_11 G _ (by decide +kernel : kd 237 = 11)) rfl tb_1084 tb_1086 tv_35 tb_12 tb_1087 hd_X11_no ⟨rfl, rfl⟩ ⟨Nat.le_of_ble_eq_true rfl, Nat.le_of_ble_eq_true rfl⟩ rfl hl.1 rfl (Nat.le_of_ble_eq_true rfl) d_X11_best_55 (fun r_3 σ_4 H locs hD hw => ?_)
    refine lv_goto (tgt := 66) X.1 X.2.1 d_X11_best_58 (by decide) ?_
    exact g_iret X hr hlk hw hD d_X11_best_66
set_option maxRecDepth 20000 in
set_option maxHeartbeats 4000000 in
theorem s_X11_best_16 {p : Program} {l : Launch} {e : Env} {s : State} {m : MethodId} {args : Array Value} {below : List Frame} {meth : Method} {c : Code} {G : GC} (X : CallFix p m c cm_X11_best 3 s args lw_us "GameLoomModel") (hr : meth.sig.returnType = some .int) (hlk : meth.locks = false) (Q : Int32 → GSt → Prop) (σ : GSt) {H : Heap} {locs : List Loc} {ls : Array Slot} (hw : Wo G s H locs σ) (hl : lv_has ls 3 [(0, .ref (G.2.1 237))]) (hD : D_X11_best_16 Q σ) : W p l e rm_X11_best s m args below meth c H locs 0 0 (QMI G Q below args s) (F0 m 16 ls []) := by
  unfold D_X11_best_16 at hD
  refine lv_aload_n X.1 X.2.1 d_X11_best_16 rfl (lv_at hl 0 rfl) ?_
  refine lv_bipush (v := (-3)) X.1 X.2.1 d_X11_best_17 (by decide) ?_
  refine gcV_i (rest := []) (As := [.int (-3)]) (o := 237) X hw (c_X11_no l G (-3) σ _  hD) (kd_lt (by decide +kernel : kd 237 = 11) (by decide)) (ce_11 G _ (by decide +kernel : kd 237 = 11)) rfl tb_1084 tb_1086 tv_35 tb_12 tb_1087 hd_X11_no ⟨rfl, rfl⟩ ⟨Nat.le_of_ble_eq_true rfl, Nat.le_of_ble_eq_true rfl⟩ rfl hl.1 rfl (Nat.le_of_ble_eq_true rfl) d_X11_best_19 (fun r_1 σ_2 H locs hD hw => ?_)
  exact g_iret X hr hlk hw hD d_X11_best_22
set_option maxRecDepth 20000 in
set_option maxHeartbeats 4000000 in
theorem s_X11_best_0 {p : Program} {l : Launch} {e : Env} {s : State} {m : MethodId} {args : Array Value} {below : List Frame} {meth : Method} {c : Code} {G : GC} (X : CallFix p m c cm_X11_best 3 s args lw_us "GameLoomModel") (hr : meth.sig.returnType = some .int) (hlk : meth.locks = false) (Q : Int32 → GSt → Prop) (x1 : Int32) (σ : GSt) {H : Heap} {locs : List Loc} {ls : Array Slot} (hw : Wo G s H locs σ) (hl : lv_has ls 3 [(0, .ref (G.2.1 237)), (1, .int x1)]) (hD : D_X11_best_0 Q x1 σ) : W p l e rm_X11_best s m args below meth c H locs 0 0 (QMI G Q below args s) (F0 m 0 ls []) := by
  unfold D_X11_best_0 at hD
  refine lv_aload_n X.1 X.2.1 d_X11_best_0 rfl (lv_at hl 0 rfl) ?_
  refine gcV_i (rest := []) (As := []) (o := 237) X hw (c_X11_stands l G  σ _  hD) (kd_lt (by decide +kernel : kd 237 = 11) (by decide)) (ce_11 G _ (by decide +kernel : kd 237 = 11)) rfl tb_1200 tb_1202 tv_58 tb_12 tb_1203 hd_X11_stands ⟨rfl, rfl⟩ ⟨Nat.le_of_ble_eq_true rfl, Nat.le_of_ble_eq_true rfl⟩ rfl hl.1 rfl (Nat.le_of_ble_eq_true rfl) d_X11_best_1 (fun r_1 σ_2 H locs hD hw => ?_)
  refine lv_if_eq (tgt := 16) X.1 X.2.1 d_X11_best_4 (by decide) (fun q_4 => ?_) (fun q_4 => ?_)
  · have hD := hD.1 q_4
    exact s_X11_best_16 X hr hlk  Q   σ_2 hw (lv_sub hl [0] rfl) hD
  · have hD := hD.2 q_4
    refine lv_aload_n X.1 X.2.1 d_X11_best_7 rfl (lv_at hl 0 rfl) ?_
    refine gf_11_26 X hw (by decide +kernel : kd 237 = 11) tb_932 d_X11_best_8 ?_
    refine lv_iconst (v := 0) X.1 X.2.1 d_X11_best_11 (by decide) ?_
    have q_12 : vp_in 0 9 := by unfold vp_in; decide
    refine g_iald X hw ly_11_26.1 ly_11_26.2 q_12 d_X11_best_12 ?_
    refine lv_if_eq (tgt := 23) X.1 X.2.1 d_X11_best_13 (by decide) (fun q_13 => ?_) (fun q_13 => ?_)
    · have hD := hD.1 q_13
      refine lv_iload_n X.1 X.2.1 d_X11_best_23 rfl (lv_at hl 1 rfl) ?_
      refine lv_i2l (v := (Int32.toInt64 x1)) X.1 X.2.1 d_X11_best_24 rfl ?_
      refine lv_lconst (v := 1) X.1 X.2.1 d_X11_best_25 (by decide) ?_
      refine lv_ldc2 (v := 6) X.1 X.2.1 X.2.2.2.1 (X.2.2.2.2 _ tb_1260) d_X11_best_26 ?_
      refine gcS_i (rest := []) (As := [.long (Int32.toInt64 x1), .long 1, .long 6]) X hw (c_X11_out l G (Int32.toInt64 x1) 1 6 σ_2 _  hD) tb_1081 tb_1082 tb_12 tb_1083 hd_X11_out ⟨rfl, rfl⟩ ⟨Nat.le_of_ble_eq_true rfl, Nat.le_of_ble_eq_true rfl⟩ rfl hl.1 rfl (Nat.le_of_ble_eq_true rfl) d_X11_best_29 (fun r_3 σ_4 H locs hD hw => ?_)
      refine lv_istore_n (lv' := [(2, .int r_3), (0, .ref (G.2.1 237)), (1, .int x1)]) X.1 X.2.1 d_X11_best_32 rfl hl (by decide) rfl (fun ls hl => ?_)
      refine lv_iload_n X.1 X.2.1 d_X11_best_33 rfl (lv_at hl 0 rfl) ?_
      refine lv_if_ne (tgt := 49) X.1 X.2.1 d_X11_best_34 (by decide) (fun q_34 => ?_) (fun q_34 => ?_)
      · have hD := hD.1 q_34
        exact s_X11_best_49 X hr hlk  Q  x1 r_3 σ_4 hw (lv_sub hl [1, 2, 0] rfl) hD
      · have hD := hD.2 q_34
        refine lv_aload_n X.1 X.2.1 d_X11_best_37 rfl (lv_at hl 1 rfl) ?_
        refine lv_iconst (v := 0) X.1 X.2.1 d_X11_best_38 (by decide) ?_
        refine lv_iload_n X.1 X.2.1 d_X11_best_39 rfl (lv_at hl 2 rfl) ?_
        refine gcV_i (rest := []) (As := [.int 0, .int x1]) (o := 237) X hw (c_X11_isSpent l G 0 x1 σ_4 _  hD) (kd_lt (by decide +kernel : kd 237 = 11) (by decide)) (ce_11 G _ (by decide +kernel : kd 237 = 11)) rfl tb_1261 tb_1263 tv_68 tb_12 tb_1264 hd_X11_isSpent ⟨rfl, rfl⟩ ⟨Nat.le_of_ble_eq_true rfl, Nat.le_of_ble_eq_true rfl⟩ rfl hl.1 rfl (Nat.le_of_ble_eq_true rfl) d_X11_best_40 (fun r_5 σ_6 H locs hD hw => ?_)
        refine lv_if_eq (tgt := 49) X.1 X.2.1 d_X11_best_43 (by decide) (fun q_43 => ?_) (fun q_43 => ?_)
        · have hD := hD.1 q_43
          exact s_X11_best_49 X hr hlk  Q  x1 r_3 σ_6 hw (lv_sub hl [1, 2, 0] rfl) hD
        · have hD := hD.2 q_43
          refine lv_bipush (v := (-5)) X.1 X.2.1 d_X11_best_46 (by decide) ?_
          refine lv_istore_n (lv' := [(2, .int (-5)), (0, .ref (G.2.1 237)), (1, .int x1)]) X.1 X.2.1 d_X11_best_48 rfl hl (by decide) rfl (fun ls hl => ?_)
          exact s_X11_best_49 X hr hlk  Q  x1 (-5) σ_6 hw (lv_sub hl [1, 2, 0] rfl) hD
    · have hD := hD.2 q_13
      exact s_X11_best_16 X hr hlk  Q   σ_2 hw (lv_sub hl [0] rfl) hD
theorem c_X11_best (l : Launch) (G : GC) (x1 : Int32) (σ : GSt) (Q : Int32 → GSt → Prop)  (hD : D_X11_best x1 σ Q) : MI l ym_X11_best cm_X11_best 3 .int rm_X11_best G σ [.ref (G.2.1 237), .int x1] Q := by
  refine met_i (by decide) (Nat.le_of_ble_eq_true rfl) ?_
  intro p e s m args below meth c X hr hlk hw ls hl
  exact s_X11_best_0 X hr hlk Q  x1 σ hw (lv_sub hl [0, 1] rfl) hD
theorem hd_X11_ways : ym_X11_ways.cls = "GameLoomModel" ∧ ym_X11_ways.cls ≠ "java/lang/invoke/MethodHandle" ∧ ym_X11_ways.cls ≠ "java/lang/invoke/VarHandle" ∧ (parseMethodDescriptor ym_X11_ways.desc).map (fun d => d.parameters.length) = some 1 := by decide +kernel
abbrev rm_X11_ways : Room := { frames := 8, cells := 0, slots := 0, locals := 202 }
theorem d_X11_ways_0 : decode cm_X11_ways 0 = .ok (.aload_n 0, 1) := by decide +kernel
theorem d_X11_ways_1 : decode cm_X11_ways 1 = .ok (.invokevirtual 272, 3) := by decide +kernel
theorem d_X11_ways_4 : decode cm_X11_ways 4 = .ok (.ifCond .ne 10, 3) := by decide +kernel
theorem d_X11_ways_7 : decode cm_X11_ways 7 = .ok (.aload_n 0, 1) := by decide +kernel
theorem d_X11_ways_8 : decode cm_X11_ways 8 = .ok (.bipush (-3), 2) := by decide +kernel
theorem d_X11_ways_10 : decode cm_X11_ways 10 = .ok (.invokevirtual 147, 3) := by decide +kernel
theorem d_X11_ways_13 : decode cm_X11_ways 13 = .ok (.ireturn, 1) := by decide +kernel
theorem d_X11_ways_14 : decode cm_X11_ways 14 = .ok (.iload_n 1, 1) := by decide +kernel
theorem d_X11_ways_15 : decode cm_X11_ways 15 = .ok (.i2l, 1) := by decide +kernel
theorem d_X11_ways_16 : decode cm_X11_ways 16 = .ok (.lconst 1, 1) := by decide +kernel
theorem d_X11_ways_17 : decode cm_X11_ways 17 = .ok (.ldc2_w 284, 3) := by decide +kernel
theorem d_X11_ways_20 : decode cm_X11_ways 20 = .ok (.invokestatic 140, 3) := by decide +kernel
theorem d_X11_ways_23 : decode cm_X11_ways 23 = .ok (.istore_n 2, 1) := by decide +kernel
theorem d_X11_ways_24 : decode cm_X11_ways 24 = .ok (.iload_n 2, 1) := by decide +kernel
theorem d_X11_ways_25 : decode cm_X11_ways 25 = .ok (.ifCond .ne 15, 3) := by decide +kernel
theorem d_X11_ways_28 : decode cm_X11_ways 28 = .ok (.aload_n 0, 1) := by decide +kernel
theorem d_X11_ways_29 : decode cm_X11_ways 29 = .ok (.iconst 0, 1) := by decide +kernel
theorem d_X11_ways_30 : decode cm_X11_ways 30 = .ok (.iload_n 1, 1) := by decide +kernel
theorem d_X11_ways_31 : decode cm_X11_ways 31 = .ok (.invokevirtual 286, 3) := by decide +kernel
theorem d_X11_ways_34 : decode cm_X11_ways 34 = .ok (.ifCond .eq 6, 3) := by decide +kernel
theorem d_X11_ways_37 : decode cm_X11_ways 37 = .ok (.bipush (-5), 2) := by decide +kernel
theorem d_X11_ways_39 : decode cm_X11_ways 39 = .ok (.istore_n 2, 1) := by decide +kernel
theorem d_X11_ways_40 : decode cm_X11_ways 40 = .ok (.iload_n 2, 1) := by decide +kernel
theorem d_X11_ways_41 : decode cm_X11_ways 41 = .ok (.ifCond .eq 11, 3) := by decide +kernel
theorem d_X11_ways_44 : decode cm_X11_ways 44 = .ok (.aload_n 0, 1) := by decide +kernel
theorem d_X11_ways_45 : decode cm_X11_ways 45 = .ok (.iload_n 2, 1) := by decide +kernel
theorem d_X11_ways_46 : decode cm_X11_ways 46 = .ok (.invokevirtual 147, 3) := by decide +kernel
theorem d_X11_ways_49 : decode cm_X11_ways 49 = .ok (.goto 9, 3) := by decide +kernel
theorem d_X11_ways_52 : decode cm_X11_ways 52 = .ok (.aload_n 0, 1) := by decide +kernel
theorem d_X11_ways_53 : decode cm_X11_ways 53 = .ok (.getfield 113, 3) := by decide +kernel
theorem d_X11_ways_56 : decode cm_X11_ways 56 = .ok (.iload_n 1, 1) := by decide +kernel
theorem d_X11_ways_57 : decode cm_X11_ways 57 = .ok (.iaload, 1) := by decide +kernel
theorem d_X11_ways_58 : decode cm_X11_ways 58 = .ok (.ireturn, 1) := by decide +kernel
def D_X11_ways_40 (Q : Int32 → GSt → Prop) (x1 : Int32) (x2 : Int32) (σ : GSt) : Prop :=
  (x2 = 0 → vp_in x1 8 ∧ (Q (σ 272 (Int32.toNatClampNeg x1)) σ)) ∧
  (¬ x2 = 0 → D_X11_no x2 σ (fun r_1 σ_2 => Q r_1 σ_2))
def D_X11_ways_0 (Q : Int32 → GSt → Prop) (x1 : Int32) (σ : GSt) : Prop :=
  D_X11_stands  σ (fun r_1 σ_2 => (¬ r_1 = 0 → D_X11_out (Int32.toInt64 x1) 1 6 σ_2 (fun r_3 σ_4 => (¬ r_3 = 0 → D_X11_ways_40 Q x1 r_3 σ_4) ∧
  (r_3 = 0 → D_X11_isSpent 0 x1 σ_4 (fun r_5 σ_6 => (r_5 = 0 → D_X11_ways_40 Q x1 r_3 σ_6) ∧
  (¬ r_5 = 0 → D_X11_ways_40 Q x1 (-5) σ_6))))) ∧
  (r_1 = 0 → D_X11_no (-3) σ_2 (fun r_7 σ_8 => Q r_7 σ_8)))
def D_X11_ways (x1 : Int32) (σ : GSt) (Q : Int32 → GSt → Prop) : Prop := D_X11_ways_0 Q x1 σ
set_option maxRecDepth 20000 in
set_option maxHeartbeats 4000000 in
theorem s_X11_ways_40 {p : Program} {l : Launch} {e : Env} {s : State} {m : MethodId} {args : Array Value} {below : List Frame} {meth : Method} {c : Code} {G : GC} (X : CallFix p m c cm_X11_ways 3 s args lw_us "GameLoomModel") (hr : meth.sig.returnType = some .int) (hlk : meth.locks = false) (Q : Int32 → GSt → Prop) (x1 : Int32) (x2 : Int32) (σ : GSt) {H : Heap} {locs : List Loc} {ls : Array Slot} (hw : Wo G s H locs σ) (hl : lv_has ls 3 [(0, .ref (G.2.1 237)), (1, .int x1), (2, .int x2)]) (hD : D_X11_ways_40 Q x1 x2 σ) : W p l e rm_X11_ways s m args below meth c H locs 0 0 (QMI G Q below args s) (F0 m 40 ls []) := by
  unfold D_X11_ways_40 at hD
  refine lv_iload_n X.1 X.2.1 d_X11_ways_40 rfl (lv_at hl 2 rfl) ?_
  refine lv_if_eq (tgt := 52) X.1 X.2.1 d_X11_ways_41 (by decide) (fun q_41 => ?_) (fun q_41 => ?_)
  · have hD := hD.1 q_41
    refine lv_aload_n X.1 X.2.1 d_X11_ways_52 rfl (lv_at hl 0 rfl) ?_
    refine gf_11_38 X hw (by decide +kernel : kd 237 = 11) tb_944 d_X11_ways_53 ?_
    refine lv_iload_n X.1 X.2.1 d_X11_ways_56 rfl (lv_at hl 1 rfl) ?_
    obtain ⟨q_57, hD⟩ := hD
    refine g_iald X hw ly_11_38.1 ly_11_38.2 q_57 d_X11_ways_57 ?_
    exact g_iret X hr hlk hw hD d_X11_ways_58
  · have hD := hD.2 q_41
    refine lv_aload_n X.1 X.2.1 d_X11_ways_44 rfl (lv_at hl 0 rfl) ?_
    refine lv_iload_n X.1 X.2.1 d_X11_ways_45 rfl (lv_at hl 2 rfl) ?_
    refine gcV_i (rest := []) (As := [.int x2]) (o := 237) X hw (c_X11_no l G x2 σ _  hD) (kd_lt (by decide +kernel : kd 237 = 11) (by decide)) (ce_11 G _ (by decide +kernel : kd 237 = 11)) rfl tb_1084 tb_1086 tv_35 tb_12 tb_1087 hd_X11_no ⟨rfl, rfl⟩ ⟨Nat.le_of_ble_eq_true rfl, Nat.le_of_ble_eq_true rfl⟩ rfl hl.1 rfl (Nat.le_of_ble_eq_true rfl) d_X11_ways_46 (fun r_1 σ_2 H locs hD hw => ?_)
    refine lv_goto (tgt := 58) X.1 X.2.1 d_X11_ways_49 (by decide) ?_
    exact g_iret X hr hlk hw hD d_X11_ways_58
set_option maxRecDepth 20000 in
set_option maxHeartbeats 4000000 in
theorem s_X11_ways_0 {p : Program} {l : Launch} {e : Env} {s : State} {m : MethodId} {args : Array Value} {below : List Frame} {meth : Method} {c : Code} {G : GC} (X : CallFix p m c cm_X11_ways 3 s args lw_us "GameLoomModel") (hr : meth.sig.returnType = some .int) (hlk : meth.locks = false) (Q : Int32 → GSt → Prop) (x1 : Int32) (σ : GSt) {H : Heap} {locs : List Loc} {ls : Array Slot} (hw : Wo G s H locs σ) (hl : lv_has ls 3 [(0, .ref (G.2.1 237)), (1, .int x1)]) (hD : D_X11_ways_0 Q x1 σ) : W p l e rm_X11_ways s m args below meth c H locs 0 0 (QMI G Q below args s) (F0 m 0 ls []) := by
  unfold D_X11_ways_0 at hD
  refine lv_aload_n X.1 X.2.1 d_X11_ways_0 rfl (lv_at hl 0 rfl) ?_
  refine gcV_i (rest := []) (As := []) (o := 237) X hw (c_X11_stands l G  σ _  hD) (kd_lt (by decide +kernel : kd 237 = 11) (by decide)) (ce_11 G _ (by decide +kernel : kd 237 = 11)) rfl tb_1200 tb_1202 tv_58 tb_12 tb_1203 hd_X11_stands ⟨rfl, rfl⟩ ⟨Nat.le_of_ble_eq_true rfl, Nat.le_of_ble_eq_true rfl⟩ rfl hl.1 rfl (Nat.le_of_ble_eq_true rfl) d_X11_ways_1 (fun r_1 σ_2 H locs hD hw => ?_)
  refine lv_if_ne (tgt := 14) X.1 X.2.1 d_X11_ways_4 (by decide) (fun q_4 => ?_) (fun q_4 => ?_)
  · have hD := hD.1 q_4
    refine lv_iload_n X.1 X.2.1 d_X11_ways_14 rfl (lv_at hl 1 rfl) ?_
    refine lv_i2l (v := (Int32.toInt64 x1)) X.1 X.2.1 d_X11_ways_15 rfl ?_
    refine lv_lconst (v := 1) X.1 X.2.1 d_X11_ways_16 (by decide) ?_
    refine lv_ldc2 (v := 6) X.1 X.2.1 X.2.2.2.1 (X.2.2.2.2 _ tb_1260) d_X11_ways_17 ?_
    refine gcS_i (rest := []) (As := [.long (Int32.toInt64 x1), .long 1, .long 6]) X hw (c_X11_out l G (Int32.toInt64 x1) 1 6 σ_2 _  hD) tb_1081 tb_1082 tb_12 tb_1083 hd_X11_out ⟨rfl, rfl⟩ ⟨Nat.le_of_ble_eq_true rfl, Nat.le_of_ble_eq_true rfl⟩ rfl hl.1 rfl (Nat.le_of_ble_eq_true rfl) d_X11_ways_20 (fun r_3 σ_4 H locs hD hw => ?_)
    refine lv_istore_n (lv' := [(2, .int r_3), (0, .ref (G.2.1 237)), (1, .int x1)]) X.1 X.2.1 d_X11_ways_23 rfl hl (by decide) rfl (fun ls hl => ?_)
    refine lv_iload_n X.1 X.2.1 d_X11_ways_24 rfl (lv_at hl 0 rfl) ?_
    refine lv_if_ne (tgt := 40) X.1 X.2.1 d_X11_ways_25 (by decide) (fun q_25 => ?_) (fun q_25 => ?_)
    · have hD := hD.1 q_25
      exact s_X11_ways_40 X hr hlk  Q  x1 r_3 σ_4 hw (lv_sub hl [1, 2, 0] rfl) hD
    · have hD := hD.2 q_25
      refine lv_aload_n X.1 X.2.1 d_X11_ways_28 rfl (lv_at hl 1 rfl) ?_
      refine lv_iconst (v := 0) X.1 X.2.1 d_X11_ways_29 (by decide) ?_
      refine lv_iload_n X.1 X.2.1 d_X11_ways_30 rfl (lv_at hl 2 rfl) ?_
      refine gcV_i (rest := []) (As := [.int 0, .int x1]) (o := 237) X hw (c_X11_isSpent l G 0 x1 σ_4 _  hD) (kd_lt (by decide +kernel : kd 237 = 11) (by decide)) (ce_11 G _ (by decide +kernel : kd 237 = 11)) rfl tb_1261 tb_1263 tv_68 tb_12 tb_1264 hd_X11_isSpent ⟨rfl, rfl⟩ ⟨Nat.le_of_ble_eq_true rfl, Nat.le_of_ble_eq_true rfl⟩ rfl hl.1 rfl (Nat.le_of_ble_eq_true rfl) d_X11_ways_31 (fun r_5 σ_6 H locs hD hw => ?_)
      refine lv_if_eq (tgt := 40) X.1 X.2.1 d_X11_ways_34 (by decide) (fun q_34 => ?_) (fun q_34 => ?_)
      · have hD := hD.1 q_34
        exact s_X11_ways_40 X hr hlk  Q  x1 r_3 σ_6 hw (lv_sub hl [1, 2, 0] rfl) hD
      · have hD := hD.2 q_34
        refine lv_bipush (v := (-5)) X.1 X.2.1 d_X11_ways_37 (by decide) ?_
        refine lv_istore_n (lv' := [(2, .int (-5)), (0, .ref (G.2.1 237)), (1, .int x1)]) X.1 X.2.1 d_X11_ways_39 rfl hl (by decide) rfl (fun ls hl => ?_)
        exact s_X11_ways_40 X hr hlk  Q  x1 (-5) σ_6 hw (lv_sub hl [1, 2, 0] rfl) hD
  · have hD := hD.2 q_4
    refine lv_aload_n X.1 X.2.1 d_X11_ways_7 rfl (lv_at hl 0 rfl) ?_
    refine lv_bipush (v := (-3)) X.1 X.2.1 d_X11_ways_8 (by decide) ?_
    refine gcV_i (rest := []) (As := [.int (-3)]) (o := 237) X hw (c_X11_no l G (-3) σ_2 _  hD) (kd_lt (by decide +kernel : kd 237 = 11) (by decide)) (ce_11 G _ (by decide +kernel : kd 237 = 11)) rfl tb_1084 tb_1086 tv_35 tb_12 tb_1087 hd_X11_no ⟨rfl, rfl⟩ ⟨Nat.le_of_ble_eq_true rfl, Nat.le_of_ble_eq_true rfl⟩ rfl hl.1 rfl (Nat.le_of_ble_eq_true rfl) d_X11_ways_10 (fun r_7 σ_8 H locs hD hw => ?_)
    exact g_iret X hr hlk hw hD d_X11_ways_13
theorem c_X11_ways (l : Launch) (G : GC) (x1 : Int32) (σ : GSt) (Q : Int32 → GSt → Prop)  (hD : D_X11_ways x1 σ Q) : MI l ym_X11_ways cm_X11_ways 3 .int rm_X11_ways G σ [.ref (G.2.1 237), .int x1] Q := by
  refine met_i (by decide) (Nat.le_of_ble_eq_true rfl) ?_
  intro p e s m args below meth c X hr hlk hw ls hl
  exact s_X11_ways_0 X hr hlk Q  x1 σ hw (lv_sub hl [0, 1] rfl) hD
theorem hd_X11_chosen : ym_X11_chosen.cls = "GameLoomModel" ∧ ym_X11_chosen.cls ≠ "java/lang/invoke/MethodHandle" ∧ ym_X11_chosen.cls ≠ "java/lang/invoke/VarHandle" ∧ (parseMethodDescriptor ym_X11_chosen.desc).map (fun d => d.parameters.length) = some 1 := by decide +kernel
abbrev rm_X11_chosen : Room := { frames := 8, cells := 0, slots := 0, locals := 208 }
theorem d_X11_chosen_0 : decode cm_X11_chosen 0 = .ok (.iload_n 1, 1) := by decide +kernel
theorem d_X11_chosen_1 : decode cm_X11_chosen 1 = .ok (.ifCond .le 22, 3) := by decide +kernel
theorem d_X11_chosen_4 : decode cm_X11_chosen 4 = .ok (.aload_n 0, 1) := by decide +kernel
theorem d_X11_chosen_5 : decode cm_X11_chosen 5 = .ok (.iconst 0, 1) := by decide +kernel
theorem d_X11_chosen_6 : decode cm_X11_chosen 6 = .ok (.iload_n 1, 1) := by decide +kernel
theorem d_X11_chosen_7 : decode cm_X11_chosen 7 = .ok (.invokevirtual 286, 3) := by decide +kernel
theorem d_X11_chosen_10 : decode cm_X11_chosen 10 = .ok (.ifCond .eq 7, 3) := by decide +kernel
theorem d_X11_chosen_13 : decode cm_X11_chosen 13 = .ok (.iconst 0, 1) := by decide +kernel
theorem d_X11_chosen_14 : decode cm_X11_chosen 14 = .ok (.goto 8, 3) := by decide +kernel
theorem d_X11_chosen_17 : decode cm_X11_chosen 17 = .ok (.aload_n 0, 1) := by decide +kernel
theorem d_X11_chosen_18 : decode cm_X11_chosen 18 = .ok (.iload_n 1, 1) := by decide +kernel
theorem d_X11_chosen_19 : decode cm_X11_chosen 19 = .ok (.invokevirtual 289, 3) := by decide +kernel
theorem d_X11_chosen_22 : decode cm_X11_chosen 22 = .ok (.ireturn, 1) := by decide +kernel
theorem d_X11_chosen_23 : decode cm_X11_chosen 23 = .ok (.aload_n 0, 1) := by decide +kernel
theorem d_X11_chosen_24 : decode cm_X11_chosen 24 = .ok (.aload_n 0, 1) := by decide +kernel
theorem d_X11_chosen_25 : decode cm_X11_chosen 25 = .ok (.getfield 292, 3) := by decide +kernel
theorem d_X11_chosen_28 : decode cm_X11_chosen 28 = .ok (.ldc_w 295, 3) := by decide +kernel
theorem d_X11_chosen_31 : decode cm_X11_chosen 31 = .ok (.imul, 1) := by decide +kernel
theorem d_X11_chosen_32 : decode cm_X11_chosen 32 = .ok (.sipush 12345, 3) := by decide +kernel
theorem d_X11_chosen_35 : decode cm_X11_chosen 35 = .ok (.iadd, 1) := by decide +kernel
theorem d_X11_chosen_36 : decode cm_X11_chosen 36 = .ok (.putfield 292, 3) := by decide +kernel
theorem d_X11_chosen_39 : decode cm_X11_chosen 39 = .ok (.aload_n 0, 1) := by decide +kernel
theorem d_X11_chosen_40 : decode cm_X11_chosen 40 = .ok (.getfield 292, 3) := by decide +kernel
theorem d_X11_chosen_43 : decode cm_X11_chosen 43 = .ok (.bipush 8, 2) := by decide +kernel
theorem d_X11_chosen_45 : decode cm_X11_chosen 45 = .ok (.iushr, 1) := by decide +kernel
theorem d_X11_chosen_46 : decode cm_X11_chosen 46 = .ok (.aload_n 0, 1) := by decide +kernel
theorem d_X11_chosen_47 : decode cm_X11_chosen 47 = .ok (.getfield 95, 3) := by decide +kernel
theorem d_X11_chosen_50 : decode cm_X11_chosen 50 = .ok (.iconst 0, 1) := by decide +kernel
theorem d_X11_chosen_51 : decode cm_X11_chosen 51 = .ok (.iaload, 1) := by decide +kernel
theorem d_X11_chosen_52 : decode cm_X11_chosen 52 = .ok (.irem, 1) := by decide +kernel
theorem d_X11_chosen_53 : decode cm_X11_chosen 53 = .ok (.ireturn, 1) := by decide +kernel
def D_X11_chosen_0 (Q : Int32 → GSt → Prop) (x1 : Int32) (σ : GSt) : Prop :=
  (x1 ≤ 0 → ∀ σ_1 : GSt, σ_1 = up2 σ 237 45 (((σ 237 45) * 1103515245) + 12345) → (¬ (σ_1 266 (Int32.toNatClampNeg 0)) = 0 ∧ (Q (jrem (jushr (σ_1 237 45) 8) (σ_1 266 (Int32.toNatClampNeg 0))) σ_1))) ∧
  (¬ x1 ≤ 0 → D_X11_isSpent 0 x1 σ (fun r_2 σ_3 => (r_2 = 0 → D_X11_bestAt x1 σ_3 (fun r_4 σ_5 => Q r_4 σ_5)) ∧
  (¬ r_2 = 0 → Q 0 σ_3)))
def D_X11_chosen (x1 : Int32) (σ : GSt) (Q : Int32 → GSt → Prop) : Prop := D_X11_chosen_0 Q x1 σ
set_option maxRecDepth 20000 in
set_option maxHeartbeats 4000000 in
theorem s_X11_chosen_0 {p : Program} {l : Launch} {e : Env} {s : State} {m : MethodId} {args : Array Value} {below : List Frame} {meth : Method} {c : Code} {G : GC} (X : CallFix p m c cm_X11_chosen 2 s args lw_us "GameLoomModel") (hr : meth.sig.returnType = some .int) (hlk : meth.locks = false) (Q : Int32 → GSt → Prop) (x1 : Int32) (σ : GSt) {H : Heap} {locs : List Loc} {ls : Array Slot} (hw : Wo G s H locs σ) (hl : lv_has ls 2 [(0, .ref (G.2.1 237)), (1, .int x1)]) (hD : D_X11_chosen_0 Q x1 σ) : W p l e rm_X11_chosen s m args below meth c H locs 0 0 (QMI G Q below args s) (F0 m 0 ls []) := by
  unfold D_X11_chosen_0 at hD
  refine lv_iload_n X.1 X.2.1 d_X11_chosen_0 rfl (lv_at hl 1 rfl) ?_
  refine lv_if_le (tgt := 23) X.1 X.2.1 d_X11_chosen_1 (by decide) (fun q_1 => ?_) (fun q_1 => ?_)
  · have hD := hD.1 q_1
    refine lv_aload_n X.1 X.2.1 d_X11_chosen_23 rfl (lv_at hl 0 rfl) ?_
    refine lv_aload_n X.1 X.2.1 d_X11_chosen_24 rfl (lv_at hl 0 rfl) ?_
    refine gf_11_45 X hw (by decide +kernel : kd 237 = 11) tb_951 d_X11_chosen_25 ?_
    refine lv_ldcw (v := 1103515245) X.1 X.2.1 X.2.2.2.1 (X.2.2.2.2 _ tb_1302) d_X11_chosen_28 ?_
    refine lv_imul X.1 X.2.1 d_X11_chosen_31 ?_
    refine lv_sipush (v := 12345) X.1 X.2.1 d_X11_chosen_32 (by decide) ?_
    refine lv_iadd X.1 X.2.1 d_X11_chosen_35 ?_
    refine pf_11_45 X hw (by decide +kernel : kd 237 = 11) tb_951 d_X11_chosen_36 (fun H locs hw => ?_)
    obtain ⟨σ_1, e_σ_1⟩ : ∃ z : GSt, z = up2 σ 237 45 (((σ 237 45) * 1103515245) + 12345) := ⟨_, rfl⟩
    rw [← e_σ_1] at hw
    have hD := hD σ_1 e_σ_1
    refine lv_aload_n X.1 X.2.1 d_X11_chosen_39 rfl (lv_at hl 0 rfl) ?_
    refine gf_11_45 X hw (by decide +kernel : kd 237 = 11) tb_951 d_X11_chosen_40 ?_
    refine lv_bipush (v := 8) X.1 X.2.1 d_X11_chosen_43 (by decide) ?_
    refine lv_iushr (v := (jushr (σ_1 237 45) 8)) X.1 X.2.1 d_X11_chosen_45 rfl ?_
    refine lv_aload_n X.1 X.2.1 d_X11_chosen_46 rfl (lv_at hl 0 rfl) ?_
    refine gf_11_32 X hw (by decide +kernel : kd 237 = 11) tb_938 d_X11_chosen_47 ?_
    refine lv_iconst (v := 0) X.1 X.2.1 d_X11_chosen_50 (by decide) ?_
    have q_51 : vp_in 0 9 := by unfold vp_in; decide
    refine g_iald X hw ly_11_32.1 ly_11_32.2 q_51 d_X11_chosen_51 ?_
    obtain ⟨q_52, hD⟩ := hD
    refine g_irem X d_X11_chosen_52 q_52 ?_
    exact g_iret X hr hlk hw hD d_X11_chosen_53
  · have hD := hD.2 q_1
    refine lv_aload_n X.1 X.2.1 d_X11_chosen_4 rfl (lv_at hl 0 rfl) ?_
    refine lv_iconst (v := 0) X.1 X.2.1 d_X11_chosen_5 (by decide) ?_
    refine lv_iload_n X.1 X.2.1 d_X11_chosen_6 rfl (lv_at hl 1 rfl) ?_
    refine gcV_i (rest := []) (As := [.int 0, .int x1]) (o := 237) X hw (c_X11_isSpent l G 0 x1 σ _  hD) (kd_lt (by decide +kernel : kd 237 = 11) (by decide)) (ce_11 G _ (by decide +kernel : kd 237 = 11)) rfl tb_1261 tb_1263 tv_68 tb_12 tb_1264 hd_X11_isSpent ⟨rfl, rfl⟩ ⟨Nat.le_of_ble_eq_true rfl, Nat.le_of_ble_eq_true rfl⟩ rfl hl.1 rfl (Nat.le_of_ble_eq_true rfl) d_X11_chosen_7 (fun r_2 σ_3 H locs hD hw => ?_)
    refine lv_if_eq (tgt := 17) X.1 X.2.1 d_X11_chosen_10 (by decide) (fun q_10 => ?_) (fun q_10 => ?_)
    · have hD := hD.1 q_10
      refine lv_aload_n X.1 X.2.1 d_X11_chosen_17 rfl (lv_at hl 0 rfl) ?_
      refine lv_iload_n X.1 X.2.1 d_X11_chosen_18 rfl (lv_at hl 1 rfl) ?_
      refine gcV_i (rest := []) (As := [.int x1]) (o := 237) X hw (c_X11_bestAt l G x1 σ_3 _  hD) (kd_lt (by decide +kernel : kd 237 = 11) (by decide)) (ce_11 G _ (by decide +kernel : kd 237 = 11)) rfl tb_1277 tb_1279 tv_71 tb_12 tb_1280 hd_X11_bestAt ⟨rfl, rfl⟩ ⟨Nat.le_of_ble_eq_true rfl, Nat.le_of_ble_eq_true rfl⟩ rfl hl.1 rfl (Nat.le_of_ble_eq_true rfl) d_X11_chosen_19 (fun r_4 σ_5 H locs hD hw => ?_)
      exact g_iret X hr hlk hw hD d_X11_chosen_22
    · have hD := hD.2 q_10
      refine lv_iconst (v := 0) X.1 X.2.1 d_X11_chosen_13 (by decide) ?_
      refine lv_goto (tgt := 22) X.1 X.2.1 d_X11_chosen_14 (by decide) ?_
      exact g_iret X hr hlk hw hD d_X11_chosen_22
theorem c_X11_chosen (l : Launch) (G : GC) (x1 : Int32) (σ : GSt) (Q : Int32 → GSt → Prop)  (hD : D_X11_chosen x1 σ Q) : MI l ym_X11_chosen cm_X11_chosen 2 .int rm_X11_chosen G σ [.ref (G.2.1 237), .int x1] Q := by
  refine met_i (by decide) (Nat.le_of_ble_eq_true rfl) ?_
  intro p e s m args below meth c X hr hlk hw ls hl
  exact s_X11_chosen_0 X hr hlk Q  x1 σ hw (lv_sub hl [0, 1] rfl) hD
