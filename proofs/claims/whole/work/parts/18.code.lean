theorem hd_X10_verdicts : ym_X10_verdicts.cls = "GameLoom" ∧ ym_X10_verdicts.cls ≠ "java/lang/invoke/MethodHandle" ∧ ym_X10_verdicts.cls ≠ "java/lang/invoke/VarHandle" ∧ (parseMethodDescriptor ym_X10_verdicts.desc).map (fun d => d.parameters.length) = some 2 := by decide +kernel
abbrev rm_X10_verdicts : Room := { frames := 16, cells := 0, slots := 0, locals := 420 }
theorem d_X10_verdicts_0 : decode cm_X10_verdicts 0 = .ok (.aload_n 0, 1) := by decide +kernel
theorem d_X10_verdicts_1 : decode cm_X10_verdicts 1 = .ok (.iload_n 1, 1) := by decide +kernel
theorem d_X10_verdicts_2 : decode cm_X10_verdicts 2 = .ok (.invokevirtual 99, 3) := by decide +kernel
theorem d_X10_verdicts_5 : decode cm_X10_verdicts 5 = .ok (.ifCond .eq 9, 3) := by decide +kernel
theorem d_X10_verdicts_8 : decode cm_X10_verdicts 8 = .ok (.aload_n 0, 1) := by decide +kernel
theorem d_X10_verdicts_9 : decode cm_X10_verdicts 9 = .ok (.iconst (-1), 1) := by decide +kernel
theorem d_X10_verdicts_10 : decode cm_X10_verdicts 10 = .ok (.invokevirtual 80, 3) := by decide +kernel
theorem d_X10_verdicts_13 : decode cm_X10_verdicts 13 = .ok (.ireturn, 1) := by decide +kernel
theorem d_X10_verdicts_14 : decode cm_X10_verdicts 14 = .ok (.aload_n 0, 1) := by decide +kernel
theorem d_X10_verdicts_15 : decode cm_X10_verdicts 15 = .ok (.getfield 49, 3) := by decide +kernel
theorem d_X10_verdicts_18 : decode cm_X10_verdicts 18 = .ok (.aload_n 0, 1) := by decide +kernel
theorem d_X10_verdicts_19 : decode cm_X10_verdicts 19 = .ok (.getfield 28, 3) := by decide +kernel
theorem d_X10_verdicts_22 : decode cm_X10_verdicts 22 = .ok (.iload_n 1, 1) := by decide +kernel
theorem d_X10_verdicts_23 : decode cm_X10_verdicts 23 = .ok (.aaload, 1) := by decide +kernel
theorem d_X10_verdicts_24 : decode cm_X10_verdicts 24 = .ok (.bipush 12, 2) := by decide +kernel
theorem d_X10_verdicts_26 : decode cm_X10_verdicts 26 = .ok (.iload_n 2, 1) := by decide +kernel
theorem d_X10_verdicts_27 : decode cm_X10_verdicts 27 = .ok (.iconst 0, 1) := by decide +kernel
theorem d_X10_verdicts_28 : decode cm_X10_verdicts 28 = .ok (.iconst 0, 1) := by decide +kernel
theorem d_X10_verdicts_29 : decode cm_X10_verdicts 29 = .ok (.invokevirtual 222, 3) := by decide +kernel
theorem d_X10_verdicts_32 : decode cm_X10_verdicts 32 = .ok (.aload_n 0, 1) := by decide +kernel
theorem d_X10_verdicts_33 : decode cm_X10_verdicts 33 = .ok (.getfield 49, 3) := by decide +kernel
theorem d_X10_verdicts_36 : decode cm_X10_verdicts 36 = .ok (.invokevirtual 233, 3) := by decide +kernel
theorem d_X10_verdicts_39 : decode cm_X10_verdicts 39 = .ok (.ireturn, 1) := by decide +kernel
def D_X10_verdicts_0 (Q : Int32 → GSt → Prop) (x1 : Int32) (x2 : Int32) (σ : GSt) : Prop :=
  D_X10_isNoGame x1 σ (fun r_1 σ_2 => (r_1 = 0 → vp_in x1 8 ∧ (D_X8_run 39 (61 + 22 * Int32.toNatClampNeg x1) 12 x2 0 0 σ_2 (fun σ_3 => D_X8_faults 39 σ_3 (fun r_4 σ_5 => Q r_4 σ_5)))) ∧
  (¬ r_1 = 0 → D_X10_refuse (-1) σ_2 (fun r_6 σ_7 => Q r_6 σ_7)))
def D_X10_verdicts (x1 : Int32) (x2 : Int32) (σ : GSt) (Q : Int32 → GSt → Prop) : Prop := D_X10_verdicts_0 Q x1 x2 σ
set_option maxRecDepth 20000 in
set_option maxHeartbeats 4000000 in
theorem s_X10_verdicts_0 {p : Program} {l : Launch} {e : Env} {s : State} {m : MethodId} {args : Array Value} {below : List Frame} {meth : Method} {c : Code} {G : GC} (X : CallFix p m c cm_X10_verdicts 3 s args lw_us "GameLoom") (hr : meth.sig.returnType = some .int) (hlk : meth.locks = false) (Q : Int32 → GSt → Prop) (x1 : Int32) (x2 : Int32) (σ : GSt) {H : Heap} {locs : List Loc} {ls : Array Slot} (hw : Wo G s H locs σ) (hl : lv_has ls 3 [(0, .ref (G.2.1 0)), (1, .int x1), (2, .int x2)]) (hD : D_X10_verdicts_0 Q x1 x2 σ) : W p l e rm_X10_verdicts s m args below meth c H locs 0 0 (QMI G Q below args s) (F0 m 0 ls []) := by
  unfold D_X10_verdicts_0 at hD
  refine lv_aload_n X.1 X.2.1 d_X10_verdicts_0 rfl (lv_at hl 0 rfl) ?_
  refine lv_iload_n X.1 X.2.1 d_X10_verdicts_1 rfl (lv_at hl 1 rfl) ?_
  refine gcV_i (rest := []) (As := [.int x1]) (o := 0) X hw (c_X10_isNoGame l G x1 σ _  hD) (kd_lt (by decide +kernel : kd 0 = 10) (by decide)) (ce_10 G _ (by decide +kernel : kd 0 = 10)) rfl tb_526 tb_528 tv_17 tb_1 tb_529 hd_X10_isNoGame ⟨rfl, rfl⟩ ⟨Nat.le_of_ble_eq_true rfl, Nat.le_of_ble_eq_true rfl⟩ rfl hl.1 rfl (Nat.le_of_ble_eq_true rfl) d_X10_verdicts_2 (fun r_1 σ_2 H locs hD hw => ?_)
  refine lv_if_eq (tgt := 14) X.1 X.2.1 d_X10_verdicts_5 (by decide) (fun q_5 => ?_) (fun q_5 => ?_)
  · have hD := hD.1 q_5
    refine lv_aload_n X.1 X.2.1 d_X10_verdicts_14 rfl (lv_at hl 0 rfl) ?_
    refine gf_10_7 X hw (by decide +kernel : kd 0 = 10) tb_380 d_X10_verdicts_15 ?_
    refine lv_aload_n X.1 X.2.1 d_X10_verdicts_18 rfl (lv_at hl 0 rfl) ?_
    refine gf_10_3 X hw (by decide +kernel : kd 0 = 10) tb_376 d_X10_verdicts_19 ?_
    refine lv_iload_n X.1 X.2.1 d_X10_verdicts_22 rfl (lv_at hl 1 rfl) ?_
    obtain ⟨q_23, hD⟩ := hD
    refine g_aald14 X hw ly_10_3.1 q_23 d_X10_verdicts_23 ?_
    refine lv_bipush (v := 12) X.1 X.2.1 d_X10_verdicts_24 (by decide) ?_
    refine lv_iload_n X.1 X.2.1 d_X10_verdicts_26 rfl (lv_at hl 2 rfl) ?_
    refine lv_iconst (v := 0) X.1 X.2.1 d_X10_verdicts_27 (by decide) ?_
    refine lv_iconst (v := 0) X.1 X.2.1 d_X10_verdicts_28 (by decide) ?_
    refine gcV_v (rest := []) (As := [.ref (G.2.1 (61 + 22 * Int32.toNatClampNeg x1)), .int 12, .int x2, .int 0, .int 0]) (o := 39) X hw (c_X8_run l G 39 (61 + 22 * Int32.toNatClampNeg x1) 12 x2 0 0 σ_2 _ ly_10_7 (le_14 ly_10_3.1 q_23) hD) (kd_lt ly_10_7 (by decide)) (ce_8 G _ ly_10_7) rfl tb_720 tb_721 tb_722 tb_8 tb_723 hd_X8_run ⟨rfl, rfl⟩ ⟨Nat.le_of_ble_eq_true rfl, Nat.le_of_ble_eq_true rfl⟩ rfl hl.1 rfl (Nat.le_of_ble_eq_true rfl) d_X10_verdicts_29 (fun σ_3 H locs hD hw => ?_)
    refine lv_aload_n X.1 X.2.1 d_X10_verdicts_32 rfl (lv_at hl 0 rfl) ?_
    refine gf_10_7 X hw (by decide +kernel : kd 0 = 10) tb_380 d_X10_verdicts_33 ?_
    refine gcV_i (rest := []) (As := []) (o := 39) X hw (c_X8_faults l G 39 σ_3 _ ly_10_7 hD) (kd_lt ly_10_7 (by decide)) (ce_8 G _ ly_10_7) rfl tb_766 tb_767 tb_768 tb_8 tb_769 hd_X8_faults ⟨rfl, rfl⟩ ⟨Nat.le_of_ble_eq_true rfl, Nat.le_of_ble_eq_true rfl⟩ rfl hl.1 rfl (Nat.le_of_ble_eq_true rfl) d_X10_verdicts_36 (fun r_4 σ_5 H locs hD hw => ?_)
    exact g_iret X hr hlk hw hD d_X10_verdicts_39
  · have hD := hD.2 q_5
    refine lv_aload_n X.1 X.2.1 d_X10_verdicts_8 rfl (lv_at hl 0 rfl) ?_
    refine lv_iconst (v := (-1)) X.1 X.2.1 d_X10_verdicts_9 (by decide) ?_
    refine gcV_i (rest := []) (As := [.int (-1)]) (o := 0) X hw (c_X10_refuse l G (-1) σ_2 _  hD) (kd_lt (by decide +kernel : kd 0 = 10) (by decide)) (ce_10 G _ (by decide +kernel : kd 0 = 10)) rfl tb_420 tb_422 tv_0 tb_1 tb_423 hd_X10_refuse ⟨rfl, rfl⟩ ⟨Nat.le_of_ble_eq_true rfl, Nat.le_of_ble_eq_true rfl⟩ rfl hl.1 rfl (Nat.le_of_ble_eq_true rfl) d_X10_verdicts_10 (fun r_6 σ_7 H locs hD hw => ?_)
    exact g_iret X hr hlk hw hD d_X10_verdicts_13
theorem c_X10_verdicts (l : Launch) (G : GC) (x1 : Int32) (x2 : Int32) (σ : GSt) (Q : Int32 → GSt → Prop)  (hD : D_X10_verdicts x1 x2 σ Q) : MI l ym_X10_verdicts cm_X10_verdicts 3 .int rm_X10_verdicts G σ [.ref (G.2.1 0), .int x1, .int x2] Q := by
  refine met_i (by decide) (Nat.le_of_ble_eq_true rfl) ?_
  intro p e s m args below meth c X hr hlk hw ls hl
  exact s_X10_verdicts_0 X hr hlk Q  x1 x2 σ hw (lv_sub hl [0, 1, 2] rfl) hD
theorem hd_X10_distance : ym_X10_distance.cls = "GameLoom" ∧ ym_X10_distance.cls ≠ "java/lang/invoke/MethodHandle" ∧ ym_X10_distance.cls ≠ "java/lang/invoke/VarHandle" ∧ (parseMethodDescriptor ym_X10_distance.desc).map (fun d => d.parameters.length) = some 3 := by decide +kernel
abbrev rm_X10_distance : Room := { frames := 16, cells := 0, slots := 0, locals := 420 }
theorem d_X10_distance_0 : decode cm_X10_distance 0 = .ok (.aload_n 0, 1) := by decide +kernel
theorem d_X10_distance_1 : decode cm_X10_distance 1 = .ok (.iload_n 1, 1) := by decide +kernel
theorem d_X10_distance_2 : decode cm_X10_distance 2 = .ok (.invokevirtual 99, 3) := by decide +kernel
theorem d_X10_distance_5 : decode cm_X10_distance 5 = .ok (.ifCond .ne 11, 3) := by decide +kernel
theorem d_X10_distance_8 : decode cm_X10_distance 8 = .ok (.aload_n 0, 1) := by decide +kernel
theorem d_X10_distance_9 : decode cm_X10_distance 9 = .ok (.iload_n 2, 1) := by decide +kernel
theorem d_X10_distance_10 : decode cm_X10_distance 10 = .ok (.invokevirtual 99, 3) := by decide +kernel
theorem d_X10_distance_13 : decode cm_X10_distance 13 = .ok (.ifCond .eq 9, 3) := by decide +kernel
theorem d_X10_distance_16 : decode cm_X10_distance 16 = .ok (.aload_n 0, 1) := by decide +kernel
theorem d_X10_distance_17 : decode cm_X10_distance 17 = .ok (.iconst (-1), 1) := by decide +kernel
theorem d_X10_distance_18 : decode cm_X10_distance 18 = .ok (.invokevirtual 80, 3) := by decide +kernel
theorem d_X10_distance_21 : decode cm_X10_distance 21 = .ok (.ireturn, 1) := by decide +kernel
theorem d_X10_distance_22 : decode cm_X10_distance 22 = .ok (.aload_n 0, 1) := by decide +kernel
theorem d_X10_distance_23 : decode cm_X10_distance 23 = .ok (.getfield 49, 3) := by decide +kernel
theorem d_X10_distance_26 : decode cm_X10_distance 26 = .ok (.aload_n 0, 1) := by decide +kernel
theorem d_X10_distance_27 : decode cm_X10_distance 27 = .ok (.getfield 28, 3) := by decide +kernel
theorem d_X10_distance_30 : decode cm_X10_distance 30 = .ok (.iload_n 1, 1) := by decide +kernel
theorem d_X10_distance_31 : decode cm_X10_distance 31 = .ok (.aaload, 1) := by decide +kernel
theorem d_X10_distance_32 : decode cm_X10_distance 32 = .ok (.bipush 10, 2) := by decide +kernel
theorem d_X10_distance_34 : decode cm_X10_distance 34 = .ok (.iload_n 3, 1) := by decide +kernel
theorem d_X10_distance_35 : decode cm_X10_distance 35 = .ok (.iconst 0, 1) := by decide +kernel
theorem d_X10_distance_36 : decode cm_X10_distance 36 = .ok (.iconst 0, 1) := by decide +kernel
theorem d_X10_distance_37 : decode cm_X10_distance 37 = .ok (.invokevirtual 222, 3) := by decide +kernel
theorem d_X10_distance_40 : decode cm_X10_distance 40 = .ok (.aload_n 0, 1) := by decide +kernel
theorem d_X10_distance_41 : decode cm_X10_distance 41 = .ok (.getfield 53, 3) := by decide +kernel
theorem d_X10_distance_44 : decode cm_X10_distance 44 = .ok (.aload_n 0, 1) := by decide +kernel
theorem d_X10_distance_45 : decode cm_X10_distance 45 = .ok (.getfield 28, 3) := by decide +kernel
theorem d_X10_distance_48 : decode cm_X10_distance 48 = .ok (.iload_n 2, 1) := by decide +kernel
theorem d_X10_distance_49 : decode cm_X10_distance 49 = .ok (.aaload, 1) := by decide +kernel
theorem d_X10_distance_50 : decode cm_X10_distance 50 = .ok (.bipush 10, 2) := by decide +kernel
theorem d_X10_distance_52 : decode cm_X10_distance 52 = .ok (.iload_n 3, 1) := by decide +kernel
theorem d_X10_distance_53 : decode cm_X10_distance 53 = .ok (.iconst 0, 1) := by decide +kernel
theorem d_X10_distance_54 : decode cm_X10_distance 54 = .ok (.iconst 0, 1) := by decide +kernel
theorem d_X10_distance_55 : decode cm_X10_distance 55 = .ok (.invokevirtual 222, 3) := by decide +kernel
theorem d_X10_distance_58 : decode cm_X10_distance 58 = .ok (.aload_n 0, 1) := by decide +kernel
theorem d_X10_distance_59 : decode cm_X10_distance 59 = .ok (.getfield 49, 3) := by decide +kernel
theorem d_X10_distance_62 : decode cm_X10_distance 62 = .ok (.aload_n 0, 1) := by decide +kernel
theorem d_X10_distance_63 : decode cm_X10_distance 63 = .ok (.getfield 53, 3) := by decide +kernel
theorem d_X10_distance_66 : decode cm_X10_distance 66 = .ok (.invokevirtual 236, 3) := by decide +kernel
theorem d_X10_distance_69 : decode cm_X10_distance 69 = .ok (.ireturn, 1) := by decide +kernel
def D_X10_distance_16 (Q : Int32 → GSt → Prop) (σ : GSt) : Prop :=
  D_X10_refuse (-1) σ (fun r_1 σ_2 => Q r_1 σ_2)
def D_X10_distance_0 (Q : Int32 → GSt → Prop) (x1 : Int32) (x2 : Int32) (x3 : Int32) (σ : GSt) : Prop :=
  D_X10_isNoGame x1 σ (fun r_1 σ_2 => (¬ r_1 = 0 → D_X10_distance_16 Q σ_2) ∧
  (r_1 = 0 → D_X10_isNoGame x2 σ_2 (fun r_3 σ_4 => (r_3 = 0 → vp_in x1 8 ∧ (D_X8_run 39 (61 + 22 * Int32.toNatClampNeg x1) 10 x3 0 0 σ_4 (fun σ_5 => vp_in x2 8 ∧ (D_X8_run 44 (61 + 22 * Int32.toNatClampNeg x2) 10 x3 0 0 σ_5 (fun σ_6 => D_X8_farFrom 39 44 σ_6 (fun r_7 σ_8 => Q r_7 σ_8)))))) ∧
  (¬ r_3 = 0 → D_X10_distance_16 Q σ_4))))
def D_X10_distance (x1 : Int32) (x2 : Int32) (x3 : Int32) (σ : GSt) (Q : Int32 → GSt → Prop) : Prop := D_X10_distance_0 Q x1 x2 x3 σ
set_option maxRecDepth 20000 in
set_option maxHeartbeats 4000000 in
theorem s_X10_distance_16 {p : Program} {l : Launch} {e : Env} {s : State} {m : MethodId} {args : Array Value} {below : List Frame} {meth : Method} {c : Code} {G : GC} (X : CallFix p m c cm_X10_distance 4 s args lw_us "GameLoom") (hr : meth.sig.returnType = some .int) (hlk : meth.locks = false) (Q : Int32 → GSt → Prop) (σ : GSt) {H : Heap} {locs : List Loc} {ls : Array Slot} (hw : Wo G s H locs σ) (hl : lv_has ls 4 [(0, .ref (G.2.1 0))]) (hD : D_X10_distance_16 Q σ) : W p l e rm_X10_distance s m args below meth c H locs 0 0 (QMI G Q below args s) (F0 m 16 ls []) := by
  unfold D_X10_distance_16 at hD
  refine lv_aload_n X.1 X.2.1 d_X10_distance_16 rfl (lv_at hl 0 rfl) ?_
  refine lv_iconst (v := (-1)) X.1 X.2.1 d_X10_distance_17 (by decide) ?_
  refine gcV_i (rest := []) (As := [.int (-1)]) (o := 0) X hw (c_X10_refuse l G (-1) σ _  hD) (kd_lt (by decide +kernel : kd 0 = 10) (by decide)) (ce_10 G _ (by decide +kernel : kd 0 = 10)) rfl tb_420 tb_422 tv_0 tb_1 tb_423 hd_X10_refuse ⟨rfl, rfl⟩ ⟨Nat.le_of_ble_eq_true rfl, Nat.le_of_ble_eq_true rfl⟩ rfl hl.1 rfl (Nat.le_of_ble_eq_true rfl) d_X10_distance_18 (fun r_1 σ_2 H locs hD hw => ?_)
  exact g_iret X hr hlk hw hD d_X10_distance_21
set_option maxRecDepth 20000 in
set_option maxHeartbeats 4000000 in
theorem s_X10_distance_0 {p : Program} {l : Launch} {e : Env} {s : State} {m : MethodId} {args : Array Value} {below : List Frame} {meth : Method} {c : Code} {G : GC} (X : CallFix p m c cm_X10_distance 4 s args lw_us "GameLoom") (hr : meth.sig.returnType = some .int) (hlk : meth.locks = false) (Q : Int32 → GSt → Prop) (x1 : Int32) (x2 : Int32) (x3 : Int32) (σ : GSt) {H : Heap} {locs : List Loc} {ls : Array Slot} (hw : Wo G s H locs σ) (hl : lv_has ls 4 [(0, .ref (G.2.1 0)), (1, .int x1), (2, .int x2), (3, .int x3)]) (hD : D_X10_distance_0 Q x1 x2 x3 σ) : W p l e rm_X10_distance s m args below meth c H locs 0 0 (QMI G Q below args s) (F0 m 0 ls []) := by
  unfold D_X10_distance_0 at hD
  refine lv_aload_n X.1 X.2.1 d_X10_distance_0 rfl (lv_at hl 0 rfl) ?_
  refine lv_iload_n X.1 X.2.1 d_X10_distance_1 rfl (lv_at hl 1 rfl) ?_
  refine gcV_i (rest := []) (As := [.int x1]) (o := 0) X hw (c_X10_isNoGame l G x1 σ _  hD) (kd_lt (by decide +kernel : kd 0 = 10) (by decide)) (ce_10 G _ (by decide +kernel : kd 0 = 10)) rfl tb_526 tb_528 tv_17 tb_1 tb_529 hd_X10_isNoGame ⟨rfl, rfl⟩ ⟨Nat.le_of_ble_eq_true rfl, Nat.le_of_ble_eq_true rfl⟩ rfl hl.1 rfl (Nat.le_of_ble_eq_true rfl) d_X10_distance_2 (fun r_1 σ_2 H locs hD hw => ?_)
  refine lv_if_ne (tgt := 16) X.1 X.2.1 d_X10_distance_5 (by decide) (fun q_5 => ?_) (fun q_5 => ?_)
  · have hD := hD.1 q_5
    exact s_X10_distance_16 X hr hlk  Q   σ_2 hw (lv_sub hl [0] rfl) hD
  · have hD := hD.2 q_5
    refine lv_aload_n X.1 X.2.1 d_X10_distance_8 rfl (lv_at hl 0 rfl) ?_
    refine lv_iload_n X.1 X.2.1 d_X10_distance_9 rfl (lv_at hl 2 rfl) ?_
    refine gcV_i (rest := []) (As := [.int x2]) (o := 0) X hw (c_X10_isNoGame l G x2 σ_2 _  hD) (kd_lt (by decide +kernel : kd 0 = 10) (by decide)) (ce_10 G _ (by decide +kernel : kd 0 = 10)) rfl tb_526 tb_528 tv_17 tb_1 tb_529 hd_X10_isNoGame ⟨rfl, rfl⟩ ⟨Nat.le_of_ble_eq_true rfl, Nat.le_of_ble_eq_true rfl⟩ rfl hl.1 rfl (Nat.le_of_ble_eq_true rfl) d_X10_distance_10 (fun r_3 σ_4 H locs hD hw => ?_)
    refine lv_if_eq (tgt := 22) X.1 X.2.1 d_X10_distance_13 (by decide) (fun q_13 => ?_) (fun q_13 => ?_)
    · have hD := hD.1 q_13
      refine lv_aload_n X.1 X.2.1 d_X10_distance_22 rfl (lv_at hl 0 rfl) ?_
      refine gf_10_7 X hw (by decide +kernel : kd 0 = 10) tb_380 d_X10_distance_23 ?_
      refine lv_aload_n X.1 X.2.1 d_X10_distance_26 rfl (lv_at hl 0 rfl) ?_
      refine gf_10_3 X hw (by decide +kernel : kd 0 = 10) tb_376 d_X10_distance_27 ?_
      refine lv_iload_n X.1 X.2.1 d_X10_distance_30 rfl (lv_at hl 1 rfl) ?_
      obtain ⟨q_31, hD⟩ := hD
      refine g_aald14 X hw ly_10_3.1 q_31 d_X10_distance_31 ?_
      refine lv_bipush (v := 10) X.1 X.2.1 d_X10_distance_32 (by decide) ?_
      refine lv_iload_n X.1 X.2.1 d_X10_distance_34 rfl (lv_at hl 3 rfl) ?_
      refine lv_iconst (v := 0) X.1 X.2.1 d_X10_distance_35 (by decide) ?_
      refine lv_iconst (v := 0) X.1 X.2.1 d_X10_distance_36 (by decide) ?_
      refine gcV_v (rest := []) (As := [.ref (G.2.1 (61 + 22 * Int32.toNatClampNeg x1)), .int 10, .int x3, .int 0, .int 0]) (o := 39) X hw (c_X8_run l G 39 (61 + 22 * Int32.toNatClampNeg x1) 10 x3 0 0 σ_4 _ ly_10_7 (le_14 ly_10_3.1 q_31) hD) (kd_lt ly_10_7 (by decide)) (ce_8 G _ ly_10_7) rfl tb_720 tb_721 tb_722 tb_8 tb_723 hd_X8_run ⟨rfl, rfl⟩ ⟨Nat.le_of_ble_eq_true rfl, Nat.le_of_ble_eq_true rfl⟩ rfl hl.1 rfl (Nat.le_of_ble_eq_true rfl) d_X10_distance_37 (fun σ_5 H locs hD hw => ?_)
      refine lv_aload_n X.1 X.2.1 d_X10_distance_40 rfl (lv_at hl 0 rfl) ?_
      refine gf_10_8 X hw (by decide +kernel : kd 0 = 10) tb_381 d_X10_distance_41 ?_
      refine lv_aload_n X.1 X.2.1 d_X10_distance_44 rfl (lv_at hl 0 rfl) ?_
      refine gf_10_3 X hw (by decide +kernel : kd 0 = 10) tb_376 d_X10_distance_45 ?_
      refine lv_iload_n X.1 X.2.1 d_X10_distance_48 rfl (lv_at hl 2 rfl) ?_
      obtain ⟨q_49, hD⟩ := hD
      refine g_aald14 X hw ly_10_3.1 q_49 d_X10_distance_49 ?_
      refine lv_bipush (v := 10) X.1 X.2.1 d_X10_distance_50 (by decide) ?_
      refine lv_iload_n X.1 X.2.1 d_X10_distance_52 rfl (lv_at hl 3 rfl) ?_
      refine lv_iconst (v := 0) X.1 X.2.1 d_X10_distance_53 (by decide) ?_
      refine lv_iconst (v := 0) X.1 X.2.1 d_X10_distance_54 (by decide) ?_
      refine gcV_v (rest := []) (As := [.ref (G.2.1 (61 + 22 * Int32.toNatClampNeg x2)), .int 10, .int x3, .int 0, .int 0]) (o := 44) X hw (c_X8_run l G 44 (61 + 22 * Int32.toNatClampNeg x2) 10 x3 0 0 σ_5 _ ly_10_8 (le_14 ly_10_3.1 q_49) hD) (kd_lt ly_10_8 (by decide)) (ce_8 G _ ly_10_8) rfl tb_720 tb_721 tb_722 tb_8 tb_723 hd_X8_run ⟨rfl, rfl⟩ ⟨Nat.le_of_ble_eq_true rfl, Nat.le_of_ble_eq_true rfl⟩ rfl hl.1 rfl (Nat.le_of_ble_eq_true rfl) d_X10_distance_55 (fun σ_6 H locs hD hw => ?_)
      refine lv_aload_n X.1 X.2.1 d_X10_distance_58 rfl (lv_at hl 0 rfl) ?_
      refine gf_10_7 X hw (by decide +kernel : kd 0 = 10) tb_380 d_X10_distance_59 ?_
      refine lv_aload_n X.1 X.2.1 d_X10_distance_62 rfl (lv_at hl 0 rfl) ?_
      refine gf_10_8 X hw (by decide +kernel : kd 0 = 10) tb_381 d_X10_distance_63 ?_
      refine gcV_i (rest := []) (As := [.ref (G.2.1 44)]) (o := 39) X hw (c_X8_farFrom l G 39 44 σ_6 _ ly_10_7 ly_10_8 hD) (kd_lt ly_10_7 (by decide)) (ce_8 G _ ly_10_7) rfl tb_777 tb_778 tb_779 tb_8 tb_780 hd_X8_farFrom ⟨rfl, rfl⟩ ⟨Nat.le_of_ble_eq_true rfl, Nat.le_of_ble_eq_true rfl⟩ rfl hl.1 rfl (Nat.le_of_ble_eq_true rfl) d_X10_distance_66 (fun r_7 σ_8 H locs hD hw => ?_)
      exact g_iret X hr hlk hw hD d_X10_distance_69
    · have hD := hD.2 q_13
      exact s_X10_distance_16 X hr hlk  Q   σ_4 hw (lv_sub hl [0] rfl) hD
theorem c_X10_distance (l : Launch) (G : GC) (x1 : Int32) (x2 : Int32) (x3 : Int32) (σ : GSt) (Q : Int32 → GSt → Prop)  (hD : D_X10_distance x1 x2 x3 σ Q) : MI l ym_X10_distance cm_X10_distance 4 .int rm_X10_distance G σ [.ref (G.2.1 0), .int x1, .int x2, .int x3] Q := by
  refine met_i (by decide) (Nat.le_of_ble_eq_true rfl) ?_
  intro p e s m args below meth c X hr hlk hw ls hl
  exact s_X10_distance_0 X hr hlk Q  x1 x2 x3 σ hw (lv_sub hl [0, 1, 2, 3] rfl) hD
theorem hd_X10_whatFor : ym_X10_whatFor.cls = "GameLoom" ∧ ym_X10_whatFor.cls ≠ "java/lang/invoke/MethodHandle" ∧ ym_X10_whatFor.cls ≠ "java/lang/invoke/VarHandle" ∧ (parseMethodDescriptor ym_X10_whatFor.desc).map (fun d => d.parameters.length) = some 3 := by decide +kernel
abbrev rm_X10_whatFor : Room := { frames := 16, cells := 0, slots := 0, locals := 420 }
theorem d_X10_whatFor_0 : decode cm_X10_whatFor 0 = .ok (.aload_n 0, 1) := by decide +kernel
theorem d_X10_whatFor_1 : decode cm_X10_whatFor 1 = .ok (.iload_n 1, 1) := by decide +kernel
theorem d_X10_whatFor_2 : decode cm_X10_whatFor 2 = .ok (.invokevirtual 99, 3) := by decide +kernel
theorem d_X10_whatFor_5 : decode cm_X10_whatFor 5 = .ok (.ifCond .ne 20, 3) := by decide +kernel
theorem d_X10_whatFor_8 : decode cm_X10_whatFor 8 = .ok (.iload_n 2, 1) := by decide +kernel
theorem d_X10_whatFor_9 : decode cm_X10_whatFor 9 = .ok (.ifCond .lt 16, 3) := by decide +kernel
theorem d_X10_whatFor_12 : decode cm_X10_whatFor 12 = .ok (.iload_n 2, 1) := by decide +kernel
theorem d_X10_whatFor_13 : decode cm_X10_whatFor 13 = .ok (.aload_n 0, 1) := by decide +kernel
theorem d_X10_whatFor_14 : decode cm_X10_whatFor 14 = .ok (.getfield 28, 3) := by decide +kernel
theorem d_X10_whatFor_17 : decode cm_X10_whatFor 17 = .ok (.iload_n 1, 1) := by decide +kernel
theorem d_X10_whatFor_18 : decode cm_X10_whatFor 18 = .ok (.aaload, 1) := by decide +kernel
theorem d_X10_whatFor_19 : decode cm_X10_whatFor 19 = .ok (.getfield 115, 3) := by decide +kernel
theorem d_X10_whatFor_22 : decode cm_X10_whatFor 22 = .ok (.if_icmp .lt 9, 3) := by decide +kernel
theorem d_X10_whatFor_25 : decode cm_X10_whatFor 25 = .ok (.aload_n 0, 1) := by decide +kernel
theorem d_X10_whatFor_26 : decode cm_X10_whatFor 26 = .ok (.iconst (-1), 1) := by decide +kernel
theorem d_X10_whatFor_27 : decode cm_X10_whatFor 27 = .ok (.invokevirtual 80, 3) := by decide +kernel
theorem d_X10_whatFor_30 : decode cm_X10_whatFor 30 = .ok (.ireturn, 1) := by decide +kernel
theorem d_X10_whatFor_31 : decode cm_X10_whatFor 31 = .ok (.aload_n 0, 1) := by decide +kernel
theorem d_X10_whatFor_32 : decode cm_X10_whatFor 32 = .ok (.getfield 28, 3) := by decide +kernel
theorem d_X10_whatFor_35 : decode cm_X10_whatFor 35 = .ok (.iload_n 1, 1) := by decide +kernel
theorem d_X10_whatFor_36 : decode cm_X10_whatFor 36 = .ok (.aaload, 1) := by decide +kernel
theorem d_X10_whatFor_37 : decode cm_X10_whatFor 37 = .ok (.astore 4, 2) := by decide +kernel
theorem d_X10_whatFor_39 : decode cm_X10_whatFor 39 = .ok (.aload 4, 2) := by decide +kernel
theorem d_X10_whatFor_41 : decode cm_X10_whatFor 41 = .ok (.getfield 115, 3) := by decide +kernel
theorem d_X10_whatFor_44 : decode cm_X10_whatFor 44 = .ok (.iconst 2, 1) := by decide +kernel
theorem d_X10_whatFor_45 : decode cm_X10_whatFor 45 = .ok (.if_icmp .ge 6, 3) := by decide +kernel
theorem d_X10_whatFor_48 : decode cm_X10_whatFor 48 = .ok (.bipush (-9), 2) := by decide +kernel
theorem d_X10_whatFor_50 : decode cm_X10_whatFor 50 = .ok (.ireturn, 1) := by decide +kernel
theorem d_X10_whatFor_51 : decode cm_X10_whatFor 51 = .ok (.aload 4, 2) := by decide +kernel
theorem d_X10_whatFor_53 : decode cm_X10_whatFor 53 = .ok (.iload_n 2, 1) := by decide +kernel
theorem d_X10_whatFor_54 : decode cm_X10_whatFor 54 = .ok (.aload_n 0, 1) := by decide +kernel
theorem d_X10_whatFor_55 : decode cm_X10_whatFor 55 = .ok (.getfield 16, 3) := by decide +kernel
theorem d_X10_whatFor_58 : decode cm_X10_whatFor 58 = .ok (.invokevirtual 240, 3) := by decide +kernel
theorem d_X10_whatFor_61 : decode cm_X10_whatFor 61 = .ok (.aload_n 0, 1) := by decide +kernel
theorem d_X10_whatFor_62 : decode cm_X10_whatFor 62 = .ok (.getfield 22, 3) := by decide +kernel
theorem d_X10_whatFor_65 : decode cm_X10_whatFor 65 = .ok (.aload_n 0, 1) := by decide +kernel
theorem d_X10_whatFor_66 : decode cm_X10_whatFor 66 = .ok (.getfield 16, 3) := by decide +kernel
theorem d_X10_whatFor_69 : decode cm_X10_whatFor 69 = .ok (.aload_n 0, 1) := by decide +kernel
theorem d_X10_whatFor_70 : decode cm_X10_whatFor 70 = .ok (.getfield 33, 3) := by decide +kernel
theorem d_X10_whatFor_73 : decode cm_X10_whatFor 73 = .ok (.invokevirtual 244, 3) := by decide +kernel
theorem d_X10_whatFor_76 : decode cm_X10_whatFor 76 = .ok (.pop, 1) := by decide +kernel
theorem d_X10_whatFor_77 : decode cm_X10_whatFor 77 = .ok (.aload_n 0, 1) := by decide +kernel
theorem d_X10_whatFor_78 : decode cm_X10_whatFor 78 = .ok (.getfield 49, 3) := by decide +kernel
theorem d_X10_whatFor_81 : decode cm_X10_whatFor 81 = .ok (.aload 4, 2) := by decide +kernel
theorem d_X10_whatFor_83 : decode cm_X10_whatFor 83 = .ok (.bipush 10, 2) := by decide +kernel
theorem d_X10_whatFor_85 : decode cm_X10_whatFor 85 = .ok (.iload_n 3, 1) := by decide +kernel
theorem d_X10_whatFor_86 : decode cm_X10_whatFor 86 = .ok (.iconst 0, 1) := by decide +kernel
theorem d_X10_whatFor_87 : decode cm_X10_whatFor 87 = .ok (.iconst 0, 1) := by decide +kernel
theorem d_X10_whatFor_88 : decode cm_X10_whatFor 88 = .ok (.invokevirtual 222, 3) := by decide +kernel
theorem d_X10_whatFor_91 : decode cm_X10_whatFor 91 = .ok (.aload_n 0, 1) := by decide +kernel
theorem d_X10_whatFor_92 : decode cm_X10_whatFor 92 = .ok (.getfield 53, 3) := by decide +kernel
theorem d_X10_whatFor_95 : decode cm_X10_whatFor 95 = .ok (.aload_n 0, 1) := by decide +kernel
theorem d_X10_whatFor_96 : decode cm_X10_whatFor 96 = .ok (.getfield 33, 3) := by decide +kernel
theorem d_X10_whatFor_99 : decode cm_X10_whatFor 99 = .ok (.bipush 10, 2) := by decide +kernel
theorem d_X10_whatFor_101 : decode cm_X10_whatFor 101 = .ok (.iload_n 3, 1) := by decide +kernel
theorem d_X10_whatFor_102 : decode cm_X10_whatFor 102 = .ok (.iconst 0, 1) := by decide +kernel
theorem d_X10_whatFor_103 : decode cm_X10_whatFor 103 = .ok (.iconst 0, 1) := by decide +kernel
theorem d_X10_whatFor_104 : decode cm_X10_whatFor 104 = .ok (.invokevirtual 222, 3) := by decide +kernel
theorem d_X10_whatFor_107 : decode cm_X10_whatFor 107 = .ok (.aload_n 0, 1) := by decide +kernel
theorem d_X10_whatFor_108 : decode cm_X10_whatFor 108 = .ok (.getfield 49, 3) := by decide +kernel
theorem d_X10_whatFor_111 : decode cm_X10_whatFor 111 = .ok (.aload_n 0, 1) := by decide +kernel
theorem d_X10_whatFor_112 : decode cm_X10_whatFor 112 = .ok (.getfield 53, 3) := by decide +kernel
theorem d_X10_whatFor_115 : decode cm_X10_whatFor 115 = .ok (.invokevirtual 236, 3) := by decide +kernel
theorem d_X10_whatFor_118 : decode cm_X10_whatFor 118 = .ok (.ireturn, 1) := by decide +kernel
def D_X10_whatFor_25 (Q : Int32 → GSt → Prop) (σ : GSt) : Prop :=
  D_X10_refuse (-1) σ (fun r_1 σ_2 => Q r_1 σ_2)
def D_X10_whatFor_0 (Q : Int32 → GSt → Prop) (x1 : Int32) (x2 : Int32) (x3 : Int32) (σ : GSt) : Prop :=
  D_X10_isNoGame x1 σ (fun r_1 σ_2 => (¬ r_1 = 0 → D_X10_whatFor_25 Q σ_2) ∧
  (r_1 = 0 → (x2 < 0 → D_X10_whatFor_25 Q σ_2) ∧
  (¬ x2 < 0 → vp_in x1 8 ∧ ((x2 < (σ_2 (61 + 22 * Int32.toNatClampNeg x1) 5) → vp_in x1 8 ∧ ((2 ≤ (σ_2 (61 + 22 * Int32.toNatClampNeg x1) 5) → D_X1_writeWithoutMove (61 + 22 * Int32.toNatClampNeg x1) x2 3 σ_2 (fun σ_3 => D_X6_read 3 7 σ_3 (fun r_4 σ_5 => D_X8_run 39 (61 + 22 * Int32.toNatClampNeg x1) 10 x3 0 0 σ_5 (fun σ_6 => D_X8_run 44 7 10 x3 0 0 σ_6 (fun σ_7 => D_X8_farFrom 39 44 σ_7 (fun r_8 σ_9 => Q r_8 σ_9)))))) ∧
  (¬ 2 ≤ (σ_2 (61 + 22 * Int32.toNatClampNeg x1) 5) → Q (-9) σ_2))) ∧
  (¬ x2 < (σ_2 (61 + 22 * Int32.toNatClampNeg x1) 5) → D_X10_whatFor_25 Q σ_2)))))
def D_X10_whatFor (x1 : Int32) (x2 : Int32) (x3 : Int32) (σ : GSt) (Q : Int32 → GSt → Prop) : Prop := D_X10_whatFor_0 Q x1 x2 x3 σ
set_option maxRecDepth 20000 in
set_option maxHeartbeats 4000000 in
theorem s_X10_whatFor_25 {p : Program} {l : Launch} {e : Env} {s : State} {m : MethodId} {args : Array Value} {below : List Frame} {meth : Method} {c : Code} {G : GC} (X : CallFix p m c cm_X10_whatFor 5 s args lw_us "GameLoom") (hr : meth.sig.returnType = some .int) (hlk : meth.locks = false) (Q : Int32 → GSt → Prop) (σ : GSt) {H : Heap} {locs : List Loc} {ls : Array Slot} (hw : Wo G s H locs σ) (hl : lv_has ls 5 [(0, .ref (G.2.1 0))]) (hD : D_X10_whatFor_25 Q σ) : W p l e rm_X10_whatFor s m args below meth c H locs 0 0 (QMI G Q below args s) (F0 m 25 ls []) := by
  unfold D_X10_whatFor_25 at hD
  refine lv_aload_n X.1 X.2.1 d_X10_whatFor_25 rfl (lv_at hl 0 rfl) ?_
  refine lv_iconst (v := (-1)) X.1 X.2.1 d_X10_whatFor_26 (by decide) ?_
  refine gcV_i (rest := []) (As := [.int (-1)]) (o := 0) X hw (c_X10_refuse l G (-1) σ _  hD) (kd_lt (by decide +kernel : kd 0 = 10) (by decide)) (ce_10 G _ (by decide +kernel : kd 0 = 10)) rfl tb_420 tb_422 tv_0 tb_1 tb_423 hd_X10_refuse ⟨rfl, rfl⟩ ⟨Nat.le_of_ble_eq_true rfl, Nat.le_of_ble_eq_true rfl⟩ rfl hl.1 rfl (Nat.le_of_ble_eq_true rfl) d_X10_whatFor_27 (fun r_1 σ_2 H locs hD hw => ?_)
  exact g_iret X hr hlk hw hD d_X10_whatFor_30
set_option maxRecDepth 20000 in
set_option maxHeartbeats 4000000 in
theorem s_X10_whatFor_0 {p : Program} {l : Launch} {e : Env} {s : State} {m : MethodId} {args : Array Value} {below : List Frame} {meth : Method} {c : Code} {G : GC} (X : CallFix p m c cm_X10_whatFor 5 s args lw_us "GameLoom") (hr : meth.sig.returnType = some .int) (hlk : meth.locks = false) (Q : Int32 → GSt → Prop) (x1 : Int32) (x2 : Int32) (x3 : Int32) (σ : GSt) {H : Heap} {locs : List Loc} {ls : Array Slot} (hw : Wo G s H locs σ) (hl : lv_has ls 5 [(0, .ref (G.2.1 0)), (1, .int x1), (2, .int x2), (3, .int x3)]) (hD : D_X10_whatFor_0 Q x1 x2 x3 σ) : W p l e rm_X10_whatFor s m args below meth c H locs 0 0 (QMI G Q below args s) (F0 m 0 ls []) := by
  unfold D_X10_whatFor_0 at hD
  refine lv_aload_n X.1 X.2.1 d_X10_whatFor_0 rfl (lv_at hl 0 rfl) ?_
  refine lv_iload_n X.1 X.2.1 d_X10_whatFor_1 rfl (lv_at hl 1 rfl) ?_
  refine gcV_i (rest := []) (As := [.int x1]) (o := 0) X hw (c_X10_isNoGame l G x1 σ _  hD) (kd_lt (by decide +kernel : kd 0 = 10) (by decide)) (ce_10 G _ (by decide +kernel : kd 0 = 10)) rfl tb_526 tb_528 tv_17 tb_1 tb_529 hd_X10_isNoGame ⟨rfl, rfl⟩ ⟨Nat.le_of_ble_eq_true rfl, Nat.le_of_ble_eq_true rfl⟩ rfl hl.1 rfl (Nat.le_of_ble_eq_true rfl) d_X10_whatFor_2 (fun r_1 σ_2 H locs hD hw => ?_)
  refine lv_if_ne (tgt := 25) X.1 X.2.1 d_X10_whatFor_5 (by decide) (fun q_5 => ?_) (fun q_5 => ?_)
  · have hD := hD.1 q_5
    exact s_X10_whatFor_25 X hr hlk  Q   σ_2 hw (lv_sub hl [0] rfl) hD
  · have hD := hD.2 q_5
    refine lv_iload_n X.1 X.2.1 d_X10_whatFor_8 rfl (lv_at hl 2 rfl) ?_
    refine lv_if_lt (tgt := 25) X.1 X.2.1 d_X10_whatFor_9 (by decide) (fun q_9 => ?_) (fun q_9 => ?_)
    · have hD := hD.1 q_9
      exact s_X10_whatFor_25 X hr hlk  Q   σ_2 hw (lv_sub hl [0] rfl) hD
    · have hD := hD.2 q_9
      refine lv_iload_n X.1 X.2.1 d_X10_whatFor_12 rfl (lv_at hl 2 rfl) ?_
      refine lv_aload_n X.1 X.2.1 d_X10_whatFor_13 rfl (lv_at hl 0 rfl) ?_
      refine gf_10_3 X hw (by decide +kernel : kd 0 = 10) tb_376 d_X10_whatFor_14 ?_
      refine lv_iload_n X.1 X.2.1 d_X10_whatFor_17 rfl (lv_at hl 1 rfl) ?_
      obtain ⟨q_18, hD⟩ := hD
      refine g_aald14 X hw ly_10_3.1 q_18 d_X10_whatFor_18 ?_
      refine gf_1_5 X hw (le_14 ly_10_3.1 q_18) tb_167 d_X10_whatFor_19 ?_
      refine lv_icmp_lt (tgt := 31) X.1 X.2.1 d_X10_whatFor_22 (by decide) (fun q_22 => ?_) (fun q_22 => ?_)
      · have hD := hD.1 q_22
        refine lv_aload_n X.1 X.2.1 d_X10_whatFor_31 rfl (lv_at hl 0 rfl) ?_
        refine gf_10_3 X hw (by decide +kernel : kd 0 = 10) tb_376 d_X10_whatFor_32 ?_
        refine lv_iload_n X.1 X.2.1 d_X10_whatFor_35 rfl (lv_at hl 1 rfl) ?_
        obtain ⟨q_36, hD⟩ := hD
        refine g_aald14 X hw ly_10_3.1 q_36 d_X10_whatFor_36 ?_
        refine lv_astore (lv' := [(4, .ref (G.2.1 (61 + 22 * Int32.toNatClampNeg x1))), (0, .ref (G.2.1 0)), (1, .int x1), (2, .int x2), (3, .int x3)]) X.1 X.2.1 d_X10_whatFor_37 hl (by decide) rfl (fun ls hl => ?_)
        refine lv_aload X.1 X.2.1 d_X10_whatFor_39 (lv_at hl 0 rfl) ?_
        refine gf_1_5 X hw (le_14 ly_10_3.1 q_36) tb_167 d_X10_whatFor_41 ?_
        refine lv_iconst (v := 2) X.1 X.2.1 d_X10_whatFor_44 (by decide) ?_
        refine lv_icmp_ge (tgt := 51) X.1 X.2.1 d_X10_whatFor_45 (by decide) (fun q_45 => ?_) (fun q_45 => ?_)
        · have hD := hD.1 q_45
          refine lv_aload X.1 X.2.1 d_X10_whatFor_51 (lv_at hl 0 rfl) ?_
          refine lv_iload_n X.1 X.2.1 d_X10_whatFor_53 rfl (lv_at hl 3 rfl) ?_
          refine lv_aload_n X.1 X.2.1 d_X10_whatFor_54 rfl (lv_at hl 1 rfl) ?_
          refine gf_10_1 X hw (by decide +kernel : kd 0 = 10) tb_374 d_X10_whatFor_55 ?_
          refine gcV_v (rest := []) (As := [.int x2, .ref (G.2.1 3)]) (o := (61 + 22 * Int32.toNatClampNeg x1)) X hw (c_X1_writeWithoutMove l G (61 + 22 * Int32.toNatClampNeg x1) x2 3 σ_2 _ (le_14 ly_10_3.1 q_36) ly_10_1 hD) (kd_lt (le_14 ly_10_3.1 q_36) (by decide)) (ce_1 G _ (le_14 ly_10_3.1 q_36)) rfl tb_788 tb_789 tb_790 tb_4 tb_791 hd_X1_writeWithoutMove ⟨rfl, rfl⟩ ⟨Nat.le_of_ble_eq_true rfl, Nat.le_of_ble_eq_true rfl⟩ rfl hl.1 rfl (Nat.le_of_ble_eq_true rfl) d_X10_whatFor_58 (fun σ_3 H locs hD hw => ?_)
          refine lv_aload_n X.1 X.2.1 d_X10_whatFor_61 rfl (lv_at hl 1 rfl) ?_
          refine gf_10_2 X hw (by decide +kernel : kd 0 = 10) tb_375 d_X10_whatFor_62 ?_
          refine lv_aload_n X.1 X.2.1 d_X10_whatFor_65 rfl (lv_at hl 1 rfl) ?_
          refine gf_10_1 X hw (by decide +kernel : kd 0 = 10) tb_374 d_X10_whatFor_66 ?_
          refine lv_aload_n X.1 X.2.1 d_X10_whatFor_69 rfl (lv_at hl 1 rfl) ?_
          refine gf_10_5 X hw (by decide +kernel : kd 0 = 10) tb_378 d_X10_whatFor_70 ?_
          refine gcV_i (rest := []) (As := [.ref (G.2.1 3), .ref (G.2.1 7)]) (o := 5) X hw (c_X6_read l G 3 7 σ_3 _ ly_10_1 ly_10_5 hD) (kd_lt ly_10_2 (by decide)) (ce_6 G _ ly_10_2) rfl tb_436 tb_437 tb_438 tb_3 tb_439 hd_X6_read ⟨rfl, rfl⟩ ⟨Nat.le_of_ble_eq_true rfl, Nat.le_of_ble_eq_true rfl⟩ rfl hl.1 rfl (Nat.le_of_ble_eq_true rfl) d_X10_whatFor_73 (fun r_4 σ_5 H locs hD hw => ?_)
          refine lv_pop X.1 X.2.1 d_X10_whatFor_76 rfl ?_
          refine lv_aload_n X.1 X.2.1 d_X10_whatFor_77 rfl (lv_at hl 1 rfl) ?_
          refine gf_10_7 X hw (by decide +kernel : kd 0 = 10) tb_380 d_X10_whatFor_78 ?_
          refine lv_aload X.1 X.2.1 d_X10_whatFor_81 (lv_at hl 0 rfl) ?_
          refine lv_bipush (v := 10) X.1 X.2.1 d_X10_whatFor_83 (by decide) ?_
          refine lv_iload_n X.1 X.2.1 d_X10_whatFor_85 rfl (lv_at hl 4 rfl) ?_
          refine lv_iconst (v := 0) X.1 X.2.1 d_X10_whatFor_86 (by decide) ?_
          refine lv_iconst (v := 0) X.1 X.2.1 d_X10_whatFor_87 (by decide) ?_
          refine gcV_v (rest := []) (As := [.ref (G.2.1 (61 + 22 * Int32.toNatClampNeg x1)), .int 10, .int x3, .int 0, .int 0]) (o := 39) X hw (c_X8_run l G 39 (61 + 22 * Int32.toNatClampNeg x1) 10 x3 0 0 σ_5 _ ly_10_7 (le_14 ly_10_3.1 q_36) hD) (kd_lt ly_10_7 (by decide)) (ce_8 G _ ly_10_7) rfl tb_720 tb_721 tb_722 tb_8 tb_723 hd_X8_run ⟨rfl, rfl⟩ ⟨Nat.le_of_ble_eq_true rfl, Nat.le_of_ble_eq_true rfl⟩ rfl hl.1 rfl (Nat.le_of_ble_eq_true rfl) d_X10_whatFor_88 (fun σ_6 H locs hD hw => ?_)
          refine lv_aload_n X.1 X.2.1 d_X10_whatFor_91 rfl (lv_at hl 1 rfl) ?_
          refine gf_10_8 X hw (by decide +kernel : kd 0 = 10) tb_381 d_X10_whatFor_92 ?_
          refine lv_aload_n X.1 X.2.1 d_X10_whatFor_95 rfl (lv_at hl 1 rfl) ?_
          refine gf_10_5 X hw (by decide +kernel : kd 0 = 10) tb_378 d_X10_whatFor_96 ?_
          refine lv_bipush (v := 10) X.1 X.2.1 d_X10_whatFor_99 (by decide) ?_
          refine lv_iload_n X.1 X.2.1 d_X10_whatFor_101 rfl (lv_at hl 4 rfl) ?_
          refine lv_iconst (v := 0) X.1 X.2.1 d_X10_whatFor_102 (by decide) ?_
          refine lv_iconst (v := 0) X.1 X.2.1 d_X10_whatFor_103 (by decide) ?_
          refine gcV_v (rest := []) (As := [.ref (G.2.1 7), .int 10, .int x3, .int 0, .int 0]) (o := 44) X hw (c_X8_run l G 44 7 10 x3 0 0 σ_6 _ ly_10_8 ly_10_5 hD) (kd_lt ly_10_8 (by decide)) (ce_8 G _ ly_10_8) rfl tb_720 tb_721 tb_722 tb_8 tb_723 hd_X8_run ⟨rfl, rfl⟩ ⟨Nat.le_of_ble_eq_true rfl, Nat.le_of_ble_eq_true rfl⟩ rfl hl.1 rfl (Nat.le_of_ble_eq_true rfl) d_X10_whatFor_104 (fun σ_7 H locs hD hw => ?_)
          refine lv_aload_n X.1 X.2.1 d_X10_whatFor_107 rfl (lv_at hl 1 rfl) ?_
          refine gf_10_7 X hw (by decide +kernel : kd 0 = 10) tb_380 d_X10_whatFor_108 ?_
          refine lv_aload_n X.1 X.2.1 d_X10_whatFor_111 rfl (lv_at hl 1 rfl) ?_
          refine gf_10_8 X hw (by decide +kernel : kd 0 = 10) tb_381 d_X10_whatFor_112 ?_
          refine gcV_i (rest := []) (As := [.ref (G.2.1 44)]) (o := 39) X hw (c_X8_farFrom l G 39 44 σ_7 _ ly_10_7 ly_10_8 hD) (kd_lt ly_10_7 (by decide)) (ce_8 G _ ly_10_7) rfl tb_777 tb_778 tb_779 tb_8 tb_780 hd_X8_farFrom ⟨rfl, rfl⟩ ⟨Nat.le_of_ble_eq_true rfl, Nat.le_of_ble_eq_true rfl⟩ rfl hl.1 rfl (Nat.le_of_ble_eq_true rfl) d_X10_whatFor_115 (fun r_8 σ_9 H locs hD hw => ?_)
          exact g_iret X hr hlk hw hD d_X10_whatFor_118
        · have hD := hD.2 q_45
          refine lv_bipush (v := (-9)) X.1 X.2.1 d_X10_whatFor_48 (by decide) ?_
          exact g_iret X hr hlk hw hD d_X10_whatFor_50
      · have hD := hD.2 q_22
        exact s_X10_whatFor_25 X hr hlk  Q   σ_2 hw (lv_sub hl [0] rfl) hD
theorem c_X10_whatFor (l : Launch) (G : GC) (x1 : Int32) (x2 : Int32) (x3 : Int32) (σ : GSt) (Q : Int32 → GSt → Prop)  (hD : D_X10_whatFor x1 x2 x3 σ Q) : MI l ym_X10_whatFor cm_X10_whatFor 5 .int rm_X10_whatFor G σ [.ref (G.2.1 0), .int x1, .int x2, .int x3] Q := by
  refine met_i (by decide) (Nat.le_of_ble_eq_true rfl) ?_
  intro p e s m args below meth c X hr hlk hw ls hl
  exact s_X10_whatFor_0 X hr hlk Q  x1 x2 x3 σ hw (lv_sub hl [0, 1, 2, 3] rfl) hD
theorem hd_X10_graft : ym_X10_graft.cls = "GameLoom" ∧ ym_X10_graft.cls ≠ "java/lang/invoke/MethodHandle" ∧ ym_X10_graft.cls ≠ "java/lang/invoke/VarHandle" ∧ (parseMethodDescriptor ym_X10_graft.desc).map (fun d => d.parameters.length) = some 2 := by decide +kernel
abbrev rm_X10_graft : Room := { frames := 7, cells := 0, slots := 0, locals := 155 }
theorem d_X10_graft_0 : decode cm_X10_graft 0 = .ok (.aload_n 0, 1) := by decide +kernel
theorem d_X10_graft_1 : decode cm_X10_graft 1 = .ok (.iload_n 1, 1) := by decide +kernel
theorem d_X10_graft_2 : decode cm_X10_graft 2 = .ok (.invokevirtual 99, 3) := by decide +kernel
theorem d_X10_graft_5 : decode cm_X10_graft 5 = .ok (.ifCond .ne 11, 3) := by decide +kernel
theorem d_X10_graft_8 : decode cm_X10_graft 8 = .ok (.aload_n 0, 1) := by decide +kernel
theorem d_X10_graft_9 : decode cm_X10_graft 9 = .ok (.iload_n 2, 1) := by decide +kernel
theorem d_X10_graft_10 : decode cm_X10_graft 10 = .ok (.invokevirtual 99, 3) := by decide +kernel
theorem d_X10_graft_13 : decode cm_X10_graft 13 = .ok (.ifCond .eq 9, 3) := by decide +kernel
theorem d_X10_graft_16 : decode cm_X10_graft 16 = .ok (.aload_n 0, 1) := by decide +kernel
theorem d_X10_graft_17 : decode cm_X10_graft 17 = .ok (.iconst (-1), 1) := by decide +kernel
theorem d_X10_graft_18 : decode cm_X10_graft 18 = .ok (.invokevirtual 80, 3) := by decide +kernel
theorem d_X10_graft_21 : decode cm_X10_graft 21 = .ok (.ireturn, 1) := by decide +kernel
theorem d_X10_graft_22 : decode cm_X10_graft 22 = .ok (.aload_n 0, 1) := by decide +kernel
theorem d_X10_graft_23 : decode cm_X10_graft 23 = .ok (.getfield 92, 3) := by decide +kernel
theorem d_X10_graft_26 : decode cm_X10_graft 26 = .ok (.bipush 8, 2) := by decide +kernel
theorem d_X10_graft_28 : decode cm_X10_graft 28 = .ok (.if_icmp .lt 10, 3) := by decide +kernel
theorem d_X10_graft_31 : decode cm_X10_graft 31 = .ok (.aload_n 0, 1) := by decide +kernel
theorem d_X10_graft_32 : decode cm_X10_graft 32 = .ok (.bipush (-6), 2) := by decide +kernel
theorem d_X10_graft_34 : decode cm_X10_graft 34 = .ok (.invokevirtual 80, 3) := by decide +kernel
theorem d_X10_graft_37 : decode cm_X10_graft 37 = .ok (.ireturn, 1) := by decide +kernel
theorem d_X10_graft_38 : decode cm_X10_graft 38 = .ok (.aload_n 0, 1) := by decide +kernel
theorem d_X10_graft_39 : decode cm_X10_graft 39 = .ok (.getfield 16, 3) := by decide +kernel
theorem d_X10_graft_42 : decode cm_X10_graft 42 = .ok (.iconst 0, 1) := by decide +kernel
theorem d_X10_graft_43 : decode cm_X10_graft 43 = .ok (.putfield 84, 3) := by decide +kernel
theorem d_X10_graft_46 : decode cm_X10_graft 46 = .ok (.aload_n 0, 1) := by decide +kernel
theorem d_X10_graft_47 : decode cm_X10_graft 47 = .ok (.getfield 16, 3) := by decide +kernel
theorem d_X10_graft_50 : decode cm_X10_graft 50 = .ok (.aload_n 0, 1) := by decide +kernel
theorem d_X10_graft_51 : decode cm_X10_graft 51 = .ok (.getfield 28, 3) := by decide +kernel
theorem d_X10_graft_54 : decode cm_X10_graft 54 = .ok (.iload_n 1, 1) := by decide +kernel
theorem d_X10_graft_55 : decode cm_X10_graft 55 = .ok (.aaload, 1) := by decide +kernel
theorem d_X10_graft_56 : decode cm_X10_graft 56 = .ok (.getfield 121, 3) := by decide +kernel
theorem d_X10_graft_59 : decode cm_X10_graft 59 = .ok (.iconst 0, 1) := by decide +kernel
theorem d_X10_graft_60 : decode cm_X10_graft 60 = .ok (.aload_n 0, 1) := by decide +kernel
theorem d_X10_graft_61 : decode cm_X10_graft 61 = .ok (.getfield 28, 3) := by decide +kernel
theorem d_X10_graft_64 : decode cm_X10_graft 64 = .ok (.iload_n 1, 1) := by decide +kernel
theorem d_X10_graft_65 : decode cm_X10_graft 65 = .ok (.aaload, 1) := by decide +kernel
theorem d_X10_graft_66 : decode cm_X10_graft 66 = .ok (.getfield 248, 3) := by decide +kernel
theorem d_X10_graft_69 : decode cm_X10_graft 69 = .ok (.invokevirtual 251, 3) := by decide +kernel
theorem d_X10_graft_72 : decode cm_X10_graft 72 = .ok (.aload_n 0, 1) := by decide +kernel
theorem d_X10_graft_73 : decode cm_X10_graft 73 = .ok (.getfield 16, 3) := by decide +kernel
theorem d_X10_graft_76 : decode cm_X10_graft 76 = .ok (.aload_n 0, 1) := by decide +kernel
theorem d_X10_graft_77 : decode cm_X10_graft 77 = .ok (.getfield 28, 3) := by decide +kernel
theorem d_X10_graft_80 : decode cm_X10_graft 80 = .ok (.iload_n 2, 1) := by decide +kernel
theorem d_X10_graft_81 : decode cm_X10_graft 81 = .ok (.aaload, 1) := by decide +kernel
theorem d_X10_graft_82 : decode cm_X10_graft 82 = .ok (.getfield 121, 3) := by decide +kernel
theorem d_X10_graft_85 : decode cm_X10_graft 85 = .ok (.aload_n 0, 1) := by decide +kernel
theorem d_X10_graft_86 : decode cm_X10_graft 86 = .ok (.getfield 28, 3) := by decide +kernel
theorem d_X10_graft_89 : decode cm_X10_graft 89 = .ok (.iload_n 2, 1) := by decide +kernel
theorem d_X10_graft_90 : decode cm_X10_graft 90 = .ok (.aaload, 1) := by decide +kernel
theorem d_X10_graft_91 : decode cm_X10_graft 91 = .ok (.getfield 248, 3) := by decide +kernel
theorem d_X10_graft_94 : decode cm_X10_graft 94 = .ok (.aload_n 0, 1) := by decide +kernel
theorem d_X10_graft_95 : decode cm_X10_graft 95 = .ok (.getfield 28, 3) := by decide +kernel
theorem d_X10_graft_98 : decode cm_X10_graft 98 = .ok (.iload_n 2, 1) := by decide +kernel
theorem d_X10_graft_99 : decode cm_X10_graft 99 = .ok (.aaload, 1) := by decide +kernel
theorem d_X10_graft_100 : decode cm_X10_graft 100 = .ok (.getfield 121, 3) := by decide +kernel
theorem d_X10_graft_103 : decode cm_X10_graft 103 = .ok (.getfield 84, 3) := by decide +kernel
theorem d_X10_graft_106 : decode cm_X10_graft 106 = .ok (.invokevirtual 251, 3) := by decide +kernel
theorem d_X10_graft_109 : decode cm_X10_graft 109 = .ok (.aload_n 0, 1) := by decide +kernel
theorem d_X10_graft_110 : decode cm_X10_graft 110 = .ok (.aload_n 0, 1) := by decide +kernel
theorem d_X10_graft_111 : decode cm_X10_graft 111 = .ok (.getfield 16, 3) := by decide +kernel
theorem d_X10_graft_114 : decode cm_X10_graft 114 = .ok (.invokevirtual 95, 3) := by decide +kernel
theorem d_X10_graft_117 : decode cm_X10_graft 117 = .ok (.ireturn, 1) := by decide +kernel
def D_X10_graft_16 (Q : Int32 → GSt → Prop) (σ : GSt) : Prop :=
  D_X10_refuse (-1) σ (fun r_1 σ_2 => Q r_1 σ_2)
def D_X10_graft_0 (Q : Int32 → GSt → Prop) (x1 : Int32) (x2 : Int32) (σ : GSt) : Prop :=
  D_X10_isNoGame x1 σ (fun r_1 σ_2 => (¬ r_1 = 0 → D_X10_graft_16 Q σ_2) ∧
  (r_1 = 0 → D_X10_isNoGame x2 σ_2 (fun r_3 σ_4 => (r_3 = 0 → ((σ_4 0 4) < 8 → ∀ σ_5 : GSt, σ_5 = up2 σ_4 3 1 0 → (vp_in x1 8 ∧ (vp_in x1 8 ∧ (D_X9_addPart 3 ((61 + 22 * Int32.toNatClampNeg x1) + 1) 0 (σ_5 (61 + 22 * Int32.toNatClampNeg x1) 9) σ_5 (fun σ_6 => vp_in x2 8 ∧ (vp_in x2 8 ∧ (vp_in x2 8 ∧ (D_X9_addPart 3 ((61 + 22 * Int32.toNatClampNeg x2) + 1) (σ_6 (61 + 22 * Int32.toNatClampNeg x2) 9) (σ_6 ((61 + 22 * Int32.toNatClampNeg x2) + 1) 1) σ_6 (fun σ_7 => D_X10_admit 3 σ_7 (fun r_8 σ_9 => Q r_8 σ_9)))))))))) ∧
  (¬ (σ_4 0 4) < 8 → D_X10_refuse (-6) σ_4 (fun r_10 σ_11 => Q r_10 σ_11))) ∧
  (¬ r_3 = 0 → D_X10_graft_16 Q σ_4))))
def D_X10_graft (x1 : Int32) (x2 : Int32) (σ : GSt) (Q : Int32 → GSt → Prop) : Prop := D_X10_graft_0 Q x1 x2 σ
set_option maxRecDepth 20000 in
set_option maxHeartbeats 4000000 in
theorem s_X10_graft_16 {p : Program} {l : Launch} {e : Env} {s : State} {m : MethodId} {args : Array Value} {below : List Frame} {meth : Method} {c : Code} {G : GC} (X : CallFix p m c cm_X10_graft 3 s args lw_us "GameLoom") (hr : meth.sig.returnType = some .int) (hlk : meth.locks = false) (Q : Int32 → GSt → Prop) (σ : GSt) {H : Heap} {locs : List Loc} {ls : Array Slot} (hw : Wo G s H locs σ) (hl : lv_has ls 3 [(0, .ref (G.2.1 0))]) (hD : D_X10_graft_16 Q σ) : W p l e rm_X10_graft s m args below meth c H locs 0 0 (QMI G Q below args s) (F0 m 16 ls []) := by
  unfold D_X10_graft_16 at hD
  refine lv_aload_n X.1 X.2.1 d_X10_graft_16 rfl (lv_at hl 0 rfl) ?_
  refine lv_iconst (v := (-1)) X.1 X.2.1 d_X10_graft_17 (by decide) ?_
  refine gcV_i (rest := []) (As := [.int (-1)]) (o := 0) X hw (c_X10_refuse l G (-1) σ _  hD) (kd_lt (by decide +kernel : kd 0 = 10) (by decide)) (ce_10 G _ (by decide +kernel : kd 0 = 10)) rfl tb_420 tb_422 tv_0 tb_1 tb_423 hd_X10_refuse ⟨rfl, rfl⟩ ⟨Nat.le_of_ble_eq_true rfl, Nat.le_of_ble_eq_true rfl⟩ rfl hl.1 rfl (Nat.le_of_ble_eq_true rfl) d_X10_graft_18 (fun r_1 σ_2 H locs hD hw => ?_)
  exact g_iret X hr hlk hw hD d_X10_graft_21
set_option maxRecDepth 20000 in
set_option maxHeartbeats 4000000 in
theorem s_X10_graft_0 {p : Program} {l : Launch} {e : Env} {s : State} {m : MethodId} {args : Array Value} {below : List Frame} {meth : Method} {c : Code} {G : GC} (X : CallFix p m c cm_X10_graft 3 s args lw_us "GameLoom") (hr : meth.sig.returnType = some .int) (hlk : meth.locks = false) (Q : Int32 → GSt → Prop) (x1 : Int32) (x2 : Int32) (σ : GSt) {H : Heap} {locs : List Loc} {ls : Array Slot} (hw : Wo G s H locs σ) (hl : lv_has ls 3 [(0, .ref (G.2.1 0)), (1, .int x1), (2, .int x2)]) (hD : D_X10_graft_0 Q x1 x2 σ) : W p l e rm_X10_graft s m args below meth c H locs 0 0 (QMI G Q below args s) (F0 m 0 ls []) := by
  unfold D_X10_graft_0 at hD
  refine lv_aload_n X.1 X.2.1 d_X10_graft_0 rfl (lv_at hl 0 rfl) ?_
  refine lv_iload_n X.1 X.2.1 d_X10_graft_1 rfl (lv_at hl 1 rfl) ?_
  refine gcV_i (rest := []) (As := [.int x1]) (o := 0) X hw (c_X10_isNoGame l G x1 σ _  hD) (kd_lt (by decide +kernel : kd 0 = 10) (by decide)) (ce_10 G _ (by decide +kernel : kd 0 = 10)) rfl tb_526 tb_528 tv_17 tb_1 tb_529 hd_X10_isNoGame ⟨rfl, rfl⟩ ⟨Nat.le_of_ble_eq_true rfl, Nat.le_of_ble_eq_true rfl⟩ rfl hl.1 rfl (Nat.le_of_ble_eq_true rfl) d_X10_graft_2 (fun r_1 σ_2 H locs hD hw => ?_)
  refine lv_if_ne (tgt := 16) X.1 X.2.1 d_X10_graft_5 (by decide) (fun q_5 => ?_) (fun q_5 => ?_)
  · have hD := hD.1 q_5
    exact s_X10_graft_16 X hr hlk  Q   σ_2 hw (lv_sub hl [0] rfl) hD
  · have hD := hD.2 q_5
    refine lv_aload_n X.1 X.2.1 d_X10_graft_8 rfl (lv_at hl 0 rfl) ?_
    refine lv_iload_n X.1 X.2.1 d_X10_graft_9 rfl (lv_at hl 2 rfl) ?_
    refine gcV_i (rest := []) (As := [.int x2]) (o := 0) X hw (c_X10_isNoGame l G x2 σ_2 _  hD) (kd_lt (by decide +kernel : kd 0 = 10) (by decide)) (ce_10 G _ (by decide +kernel : kd 0 = 10)) rfl tb_526 tb_528 tv_17 tb_1 tb_529 hd_X10_isNoGame ⟨rfl, rfl⟩ ⟨Nat.le_of_ble_eq_true rfl, Nat.le_of_ble_eq_true rfl⟩ rfl hl.1 rfl (Nat.le_of_ble_eq_true rfl) d_X10_graft_10 (fun r_3 σ_4 H locs hD hw => ?_)
    refine lv_if_eq (tgt := 22) X.1 X.2.1 d_X10_graft_13 (by decide) (fun q_13 => ?_) (fun q_13 => ?_)
    · have hD := hD.1 q_13
      refine lv_aload_n X.1 X.2.1 d_X10_graft_22 rfl (lv_at hl 0 rfl) ?_
      refine gf_10_4 X hw (by decide +kernel : kd 0 = 10) tb_377 d_X10_graft_23 ?_
      refine lv_bipush (v := 8) X.1 X.2.1 d_X10_graft_26 (by decide) ?_
      refine lv_icmp_lt (tgt := 38) X.1 X.2.1 d_X10_graft_28 (by decide) (fun q_28 => ?_) (fun q_28 => ?_)
      · have hD := hD.1 q_28
        refine lv_aload_n X.1 X.2.1 d_X10_graft_38 rfl (lv_at hl 0 rfl) ?_
        refine gf_10_1 X hw (by decide +kernel : kd 0 = 10) tb_374 d_X10_graft_39 ?_
        refine lv_iconst (v := 0) X.1 X.2.1 d_X10_graft_42 (by decide) ?_
        refine pf_9_1 X hw ly_10_1 tb_33 d_X10_graft_43 (fun H locs hw => ?_)
        obtain ⟨σ_5, e_σ_5⟩ : ∃ z : GSt, z = up2 σ_4 3 1 0 := ⟨_, rfl⟩
        rw [← e_σ_5] at hw
        have hD := hD σ_5 e_σ_5
        refine lv_aload_n X.1 X.2.1 d_X10_graft_46 rfl (lv_at hl 0 rfl) ?_
        refine gf_10_1 X hw (by decide +kernel : kd 0 = 10) tb_374 d_X10_graft_47 ?_
        refine lv_aload_n X.1 X.2.1 d_X10_graft_50 rfl (lv_at hl 0 rfl) ?_
        refine gf_10_3 X hw (by decide +kernel : kd 0 = 10) tb_376 d_X10_graft_51 ?_
        refine lv_iload_n X.1 X.2.1 d_X10_graft_54 rfl (lv_at hl 1 rfl) ?_
        obtain ⟨q_55, hD⟩ := hD
        refine g_aald14 X hw ly_10_3.1 q_55 d_X10_graft_55 ?_
        refine gf_1_0 X hw (le_14 ly_10_3.1 q_55) tb_154 d_X10_graft_56 ?_
        refine lv_iconst (v := 0) X.1 X.2.1 d_X10_graft_59 (by decide) ?_
        refine lv_aload_n X.1 X.2.1 d_X10_graft_60 rfl (lv_at hl 0 rfl) ?_
        refine gf_10_3 X hw (by decide +kernel : kd 0 = 10) tb_376 d_X10_graft_61 ?_
        refine lv_iload_n X.1 X.2.1 d_X10_graft_64 rfl (lv_at hl 1 rfl) ?_
        obtain ⟨q_65, hD⟩ := hD
        refine g_aald14 X hw ly_10_3.1 q_65 d_X10_graft_65 ?_
        refine gf_1_9 X hw (le_14 ly_10_3.1 q_65) tb_183 d_X10_graft_66 ?_
        refine gcV_v (rest := []) (As := [.ref (G.2.1 ((61 + 22 * Int32.toNatClampNeg x1) + 1)), .int 0, .int (σ_5 (61 + 22 * Int32.toNatClampNeg x1) 9)]) (o := 3) X hw (c_X9_addPart l G 3 ((61 + 22 * Int32.toNatClampNeg x1) + 1) 0 (σ_5 (61 + 22 * Int32.toNatClampNeg x1) 9) σ_5 _ ly_10_1 (ly_1_0 (le_14 ly_10_3.1 q_55)) hD) (kd_lt ly_10_1 (by decide)) (ce_9 G _ ly_10_1) rfl tb_802 tb_517 tb_518 tb_2 tb_519 hd_X9_addPart ⟨rfl, rfl⟩ ⟨Nat.le_of_ble_eq_true rfl, Nat.le_of_ble_eq_true rfl⟩ rfl hl.1 rfl (Nat.le_of_ble_eq_true rfl) d_X10_graft_69 (fun σ_6 H locs hD hw => ?_)
        refine lv_aload_n X.1 X.2.1 d_X10_graft_72 rfl (lv_at hl 0 rfl) ?_
        refine gf_10_1 X hw (by decide +kernel : kd 0 = 10) tb_374 d_X10_graft_73 ?_
        refine lv_aload_n X.1 X.2.1 d_X10_graft_76 rfl (lv_at hl 0 rfl) ?_
        refine gf_10_3 X hw (by decide +kernel : kd 0 = 10) tb_376 d_X10_graft_77 ?_
        refine lv_iload_n X.1 X.2.1 d_X10_graft_80 rfl (lv_at hl 2 rfl) ?_
        obtain ⟨q_81, hD⟩ := hD
        refine g_aald14 X hw ly_10_3.1 q_81 d_X10_graft_81 ?_
        refine gf_1_0 X hw (le_14 ly_10_3.1 q_81) tb_154 d_X10_graft_82 ?_
        refine lv_aload_n X.1 X.2.1 d_X10_graft_85 rfl (lv_at hl 0 rfl) ?_
        refine gf_10_3 X hw (by decide +kernel : kd 0 = 10) tb_376 d_X10_graft_86 ?_
        refine lv_iload_n X.1 X.2.1 d_X10_graft_89 rfl (lv_at hl 2 rfl) ?_
        obtain ⟨q_90, hD⟩ := hD
        refine g_aald14 X hw ly_10_3.1 q_90 d_X10_graft_90 ?_
        refine gf_1_9 X hw (le_14 ly_10_3.1 q_90) tb_183 d_X10_graft_91 ?_
        refine lv_aload_n X.1 X.2.1 d_X10_graft_94 rfl (lv_at hl 0 rfl) ?_
        refine gf_10_3 X hw (by decide +kernel : kd 0 = 10) tb_376 d_X10_graft_95 ?_
        refine lv_iload_n X.1 X.2.1 d_X10_graft_98 rfl (lv_at hl 2 rfl) ?_
        obtain ⟨q_99, hD⟩ := hD
        refine g_aald14 X hw ly_10_3.1 q_99 d_X10_graft_99 ?_
        refine gf_1_0 X hw (le_14 ly_10_3.1 q_99) tb_154 d_X10_graft_100 ?_
        refine gf_9_1 X hw (ly_1_0 (le_14 ly_10_3.1 q_99)) tb_33 d_X10_graft_103 ?_
        refine gcV_v (rest := []) (As := [.ref (G.2.1 ((61 + 22 * Int32.toNatClampNeg x2) + 1)), .int (σ_6 (61 + 22 * Int32.toNatClampNeg x2) 9), .int (σ_6 ((61 + 22 * Int32.toNatClampNeg x2) + 1) 1)]) (o := 3) X hw (c_X9_addPart l G 3 ((61 + 22 * Int32.toNatClampNeg x2) + 1) (σ_6 (61 + 22 * Int32.toNatClampNeg x2) 9) (σ_6 ((61 + 22 * Int32.toNatClampNeg x2) + 1) 1) σ_6 _ ly_10_1 (ly_1_0 (le_14 ly_10_3.1 q_81)) hD) (kd_lt ly_10_1 (by decide)) (ce_9 G _ ly_10_1) rfl tb_802 tb_517 tb_518 tb_2 tb_519 hd_X9_addPart ⟨rfl, rfl⟩ ⟨Nat.le_of_ble_eq_true rfl, Nat.le_of_ble_eq_true rfl⟩ rfl hl.1 rfl (Nat.le_of_ble_eq_true rfl) d_X10_graft_106 (fun σ_7 H locs hD hw => ?_)
        refine lv_aload_n X.1 X.2.1 d_X10_graft_109 rfl (lv_at hl 0 rfl) ?_
        refine lv_aload_n X.1 X.2.1 d_X10_graft_110 rfl (lv_at hl 0 rfl) ?_
        refine gf_10_1 X hw (by decide +kernel : kd 0 = 10) tb_374 d_X10_graft_111 ?_
        refine gcV_i (rest := []) (As := [.ref (G.2.1 3)]) (o := 0) X hw (c_X10_admit l G 3 σ_7 _ ly_10_1 hD) (kd_lt (by decide +kernel : kd 0 = 10) (by decide)) (ce_10 G _ (by decide +kernel : kd 0 = 10)) rfl tb_432 tb_434 tv_1 tb_1 tb_435 hd_X10_admit ⟨rfl, rfl⟩ ⟨Nat.le_of_ble_eq_true rfl, Nat.le_of_ble_eq_true rfl⟩ rfl hl.1 rfl (Nat.le_of_ble_eq_true rfl) d_X10_graft_114 (fun r_8 σ_9 H locs hD hw => ?_)
        exact g_iret X hr hlk hw hD d_X10_graft_117
      · have hD := hD.2 q_28
        refine lv_aload_n X.1 X.2.1 d_X10_graft_31 rfl (lv_at hl 0 rfl) ?_
        refine lv_bipush (v := (-6)) X.1 X.2.1 d_X10_graft_32 (by decide) ?_
        refine gcV_i (rest := []) (As := [.int (-6)]) (o := 0) X hw (c_X10_refuse l G (-6) σ_4 _  hD) (kd_lt (by decide +kernel : kd 0 = 10) (by decide)) (ce_10 G _ (by decide +kernel : kd 0 = 10)) rfl tb_420 tb_422 tv_0 tb_1 tb_423 hd_X10_refuse ⟨rfl, rfl⟩ ⟨Nat.le_of_ble_eq_true rfl, Nat.le_of_ble_eq_true rfl⟩ rfl hl.1 rfl (Nat.le_of_ble_eq_true rfl) d_X10_graft_34 (fun r_10 σ_11 H locs hD hw => ?_)
        exact g_iret X hr hlk hw hD d_X10_graft_37
    · have hD := hD.2 q_13
      exact s_X10_graft_16 X hr hlk  Q   σ_4 hw (lv_sub hl [0] rfl) hD
theorem c_X10_graft (l : Launch) (G : GC) (x1 : Int32) (x2 : Int32) (σ : GSt) (Q : Int32 → GSt → Prop)  (hD : D_X10_graft x1 x2 σ Q) : MI l ym_X10_graft cm_X10_graft 3 .int rm_X10_graft G σ [.ref (G.2.1 0), .int x1, .int x2] Q := by
  refine met_i (by decide) (Nat.le_of_ble_eq_true rfl) ?_
  intro p e s m args below meth c X hr hlk hw ls hl
  exact s_X10_graft_0 X hr hlk Q  x1 x2 σ hw (lv_sub hl [0, 1, 2] rfl) hD
theorem hd_X10_drop : ym_X10_drop.cls = "GameLoom" ∧ ym_X10_drop.cls ≠ "java/lang/invoke/MethodHandle" ∧ ym_X10_drop.cls ≠ "java/lang/invoke/VarHandle" ∧ (parseMethodDescriptor ym_X10_drop.desc).map (fun d => d.parameters.length) = some 3 := by decide +kernel
abbrev rm_X10_drop : Room := { frames := 7, cells := 0, slots := 0, locals := 155 }
theorem d_X10_drop_0 : decode cm_X10_drop 0 = .ok (.aload_n 0, 1) := by decide +kernel
theorem d_X10_drop_1 : decode cm_X10_drop 1 = .ok (.iload_n 1, 1) := by decide +kernel
theorem d_X10_drop_2 : decode cm_X10_drop 2 = .ok (.invokevirtual 99, 3) := by decide +kernel
theorem d_X10_drop_5 : decode cm_X10_drop 5 = .ok (.ifCond .eq 9, 3) := by decide +kernel
theorem d_X10_drop_8 : decode cm_X10_drop 8 = .ok (.aload_n 0, 1) := by decide +kernel
theorem d_X10_drop_9 : decode cm_X10_drop 9 = .ok (.iconst (-1), 1) := by decide +kernel
theorem d_X10_drop_10 : decode cm_X10_drop 10 = .ok (.invokevirtual 80, 3) := by decide +kernel
theorem d_X10_drop_13 : decode cm_X10_drop 13 = .ok (.ireturn, 1) := by decide +kernel
theorem d_X10_drop_14 : decode cm_X10_drop 14 = .ok (.iload_n 3, 1) := by decide +kernel
theorem d_X10_drop_15 : decode cm_X10_drop 15 = .ok (.ifCond .eq 15, 3) := by decide +kernel
theorem d_X10_drop_18 : decode cm_X10_drop 18 = .ok (.aload_n 0, 1) := by decide +kernel
theorem d_X10_drop_19 : decode cm_X10_drop 19 = .ok (.getfield 28, 3) := by decide +kernel
theorem d_X10_drop_22 : decode cm_X10_drop 22 = .ok (.iload_n 1, 1) := by decide +kernel
theorem d_X10_drop_23 : decode cm_X10_drop 23 = .ok (.aaload, 1) := by decide +kernel
theorem d_X10_drop_24 : decode cm_X10_drop 24 = .ok (.getfield 118, 3) := by decide +kernel
theorem d_X10_drop_27 : decode cm_X10_drop 27 = .ok (.goto 12, 3) := by decide +kernel
theorem d_X10_drop_30 : decode cm_X10_drop 30 = .ok (.aload_n 0, 1) := by decide +kernel
theorem d_X10_drop_31 : decode cm_X10_drop 31 = .ok (.getfield 28, 3) := by decide +kernel
theorem d_X10_drop_34 : decode cm_X10_drop 34 = .ok (.iload_n 1, 1) := by decide +kernel
theorem d_X10_drop_35 : decode cm_X10_drop 35 = .ok (.aaload, 1) := by decide +kernel
theorem d_X10_drop_36 : decode cm_X10_drop 36 = .ok (.getfield 115, 3) := by decide +kernel
theorem d_X10_drop_39 : decode cm_X10_drop 39 = .ok (.istore 4, 2) := by decide +kernel
theorem d_X10_drop_41 : decode cm_X10_drop 41 = .ok (.iload_n 2, 1) := by decide +kernel
theorem d_X10_drop_42 : decode cm_X10_drop 42 = .ok (.ifCond .lt 15, 3) := by decide +kernel
theorem d_X10_drop_45 : decode cm_X10_drop 45 = .ok (.iload_n 2, 1) := by decide +kernel
theorem d_X10_drop_46 : decode cm_X10_drop 46 = .ok (.iload 4, 2) := by decide +kernel
theorem d_X10_drop_48 : decode cm_X10_drop 48 = .ok (.if_icmp .ge 9, 3) := by decide +kernel
theorem d_X10_drop_51 : decode cm_X10_drop 51 = .ok (.iload 4, 2) := by decide +kernel
theorem d_X10_drop_53 : decode cm_X10_drop 53 = .ok (.iconst 2, 1) := by decide +kernel
theorem d_X10_drop_54 : decode cm_X10_drop 54 = .ok (.if_icmp .ge 9, 3) := by decide +kernel
theorem d_X10_drop_57 : decode cm_X10_drop 57 = .ok (.aload_n 0, 1) := by decide +kernel
theorem d_X10_drop_58 : decode cm_X10_drop 58 = .ok (.iconst (-1), 1) := by decide +kernel
theorem d_X10_drop_59 : decode cm_X10_drop 59 = .ok (.invokevirtual 80, 3) := by decide +kernel
theorem d_X10_drop_62 : decode cm_X10_drop 62 = .ok (.ireturn, 1) := by decide +kernel
theorem d_X10_drop_63 : decode cm_X10_drop 63 = .ok (.aload_n 0, 1) := by decide +kernel
theorem d_X10_drop_64 : decode cm_X10_drop 64 = .ok (.getfield 92, 3) := by decide +kernel
theorem d_X10_drop_67 : decode cm_X10_drop 67 = .ok (.bipush 8, 2) := by decide +kernel
theorem d_X10_drop_69 : decode cm_X10_drop 69 = .ok (.if_icmp .lt 10, 3) := by decide +kernel
theorem d_X10_drop_72 : decode cm_X10_drop 72 = .ok (.aload_n 0, 1) := by decide +kernel
theorem d_X10_drop_73 : decode cm_X10_drop 73 = .ok (.bipush (-6), 2) := by decide +kernel
theorem d_X10_drop_75 : decode cm_X10_drop 75 = .ok (.invokevirtual 80, 3) := by decide +kernel
theorem d_X10_drop_78 : decode cm_X10_drop 78 = .ok (.ireturn, 1) := by decide +kernel
theorem d_X10_drop_79 : decode cm_X10_drop 79 = .ok (.iload_n 3, 1) := by decide +kernel
theorem d_X10_drop_80 : decode cm_X10_drop 80 = .ok (.ifCond .eq 20, 3) := by decide +kernel
theorem d_X10_drop_83 : decode cm_X10_drop 83 = .ok (.aload_n 0, 1) := by decide +kernel
theorem d_X10_drop_84 : decode cm_X10_drop 84 = .ok (.getfield 28, 3) := by decide +kernel
theorem d_X10_drop_87 : decode cm_X10_drop 87 = .ok (.iload_n 1, 1) := by decide +kernel
theorem d_X10_drop_88 : decode cm_X10_drop 88 = .ok (.aaload, 1) := by decide +kernel
theorem d_X10_drop_89 : decode cm_X10_drop 89 = .ok (.iload_n 2, 1) := by decide +kernel
theorem d_X10_drop_90 : decode cm_X10_drop 90 = .ok (.aload_n 0, 1) := by decide +kernel
theorem d_X10_drop_91 : decode cm_X10_drop 91 = .ok (.getfield 16, 3) := by decide +kernel
theorem d_X10_drop_94 : decode cm_X10_drop 94 = .ok (.invokevirtual 255, 3) := by decide +kernel
theorem d_X10_drop_97 : decode cm_X10_drop 97 = .ok (.goto 17, 3) := by decide +kernel
theorem d_X10_drop_100 : decode cm_X10_drop 100 = .ok (.aload_n 0, 1) := by decide +kernel
theorem d_X10_drop_101 : decode cm_X10_drop 101 = .ok (.getfield 28, 3) := by decide +kernel
theorem d_X10_drop_104 : decode cm_X10_drop 104 = .ok (.iload_n 1, 1) := by decide +kernel
theorem d_X10_drop_105 : decode cm_X10_drop 105 = .ok (.aaload, 1) := by decide +kernel
theorem d_X10_drop_106 : decode cm_X10_drop 106 = .ok (.iload_n 2, 1) := by decide +kernel
theorem d_X10_drop_107 : decode cm_X10_drop 107 = .ok (.aload_n 0, 1) := by decide +kernel
theorem d_X10_drop_108 : decode cm_X10_drop 108 = .ok (.getfield 16, 3) := by decide +kernel
theorem d_X10_drop_111 : decode cm_X10_drop 111 = .ok (.invokevirtual 240, 3) := by decide +kernel
theorem d_X10_drop_114 : decode cm_X10_drop 114 = .ok (.aload_n 0, 1) := by decide +kernel
theorem d_X10_drop_115 : decode cm_X10_drop 115 = .ok (.aload_n 0, 1) := by decide +kernel
theorem d_X10_drop_116 : decode cm_X10_drop 116 = .ok (.getfield 16, 3) := by decide +kernel
theorem d_X10_drop_119 : decode cm_X10_drop 119 = .ok (.invokevirtual 95, 3) := by decide +kernel
theorem d_X10_drop_122 : decode cm_X10_drop 122 = .ok (.ireturn, 1) := by decide +kernel
def D_X10_drop_114 (Q : Int32 → GSt → Prop) (σ : GSt) : Prop :=
  D_X10_admit 3 σ (fun r_1 σ_2 => Q r_1 σ_2)
def D_X10_drop_57 (Q : Int32 → GSt → Prop) (σ : GSt) : Prop :=
  D_X10_refuse (-1) σ (fun r_1 σ_2 => Q r_1 σ_2)
def D_X10_drop_39 (Q : Int32 → GSt → Prop) (x1 : Int32) (x2 : Int32) (x3 : Int32) (s0 : Int32) (σ : GSt) : Prop :=
  (x2 < 0 → D_X10_drop_57 Q σ) ∧
  (¬ x2 < 0 → (s0 ≤ x2 → D_X10_drop_57 Q σ) ∧
  (¬ s0 ≤ x2 → (2 ≤ s0 → ((σ 0 4) < 8 → (x3 = 0 → vp_in x1 8 ∧ (D_X1_writeWithoutMove (61 + 22 * Int32.toNatClampNeg x1) x2 3 σ (fun σ_1 => D_X10_drop_114 Q σ_1))) ∧
  (¬ x3 = 0 → vp_in x1 8 ∧ (D_X1_writeWithoutEnd (61 + 22 * Int32.toNatClampNeg x1) x2 3 σ (fun σ_2 => D_X10_drop_114 Q σ_2)))) ∧
  (¬ (σ 0 4) < 8 → D_X10_refuse (-6) σ (fun r_3 σ_4 => Q r_3 σ_4))) ∧
  (¬ 2 ≤ s0 → D_X10_drop_57 Q σ)))
def D_X10_drop_0 (Q : Int32 → GSt → Prop) (x1 : Int32) (x2 : Int32) (x3 : Int32) (σ : GSt) : Prop :=
  D_X10_isNoGame x1 σ (fun r_1 σ_2 => (r_1 = 0 → (x3 = 0 → vp_in x1 8 ∧ (D_X10_drop_39 Q x1 x2 x3 (σ_2 (61 + 22 * Int32.toNatClampNeg x1) 5) σ_2)) ∧
  (¬ x3 = 0 → vp_in x1 8 ∧ (D_X10_drop_39 Q x1 x2 x3 (σ_2 (61 + 22 * Int32.toNatClampNeg x1) 7) σ_2))) ∧
  (¬ r_1 = 0 → D_X10_refuse (-1) σ_2 (fun r_3 σ_4 => Q r_3 σ_4)))
def D_X10_drop (x1 : Int32) (x2 : Int32) (x3 : Int32) (σ : GSt) (Q : Int32 → GSt → Prop) : Prop := D_X10_drop_0 Q x1 x2 x3 σ
set_option maxRecDepth 20000 in
set_option maxHeartbeats 4000000 in
theorem s_X10_drop_114 {p : Program} {l : Launch} {e : Env} {s : State} {m : MethodId} {args : Array Value} {below : List Frame} {meth : Method} {c : Code} {G : GC} (X : CallFix p m c cm_X10_drop 5 s args lw_us "GameLoom") (hr : meth.sig.returnType = some .int) (hlk : meth.locks = false) (Q : Int32 → GSt → Prop) (σ : GSt) {H : Heap} {locs : List Loc} {ls : Array Slot} (hw : Wo G s H locs σ) (hl : lv_has ls 5 [(0, .ref (G.2.1 0))]) (hD : D_X10_drop_114 Q σ) : W p l e rm_X10_drop s m args below meth c H locs 0 0 (QMI G Q below args s) (F0 m 114 ls []) := by
  unfold D_X10_drop_114 at hD
  refine lv_aload_n X.1 X.2.1 d_X10_drop_114 rfl (lv_at hl 0 rfl) ?_
  refine lv_aload_n X.1 X.2.1 d_X10_drop_115 rfl (lv_at hl 0 rfl) ?_
  refine gf_10_1 X hw (by decide +kernel : kd 0 = 10) tb_374 d_X10_drop_116 ?_
  refine gcV_i (rest := []) (As := [.ref (G.2.1 3)]) (o := 0) X hw (c_X10_admit l G 3 σ _ ly_10_1 hD) (kd_lt (by decide +kernel : kd 0 = 10) (by decide)) (ce_10 G _ (by decide +kernel : kd 0 = 10)) rfl tb_432 tb_434 tv_1 tb_1 tb_435 hd_X10_admit ⟨rfl, rfl⟩ ⟨Nat.le_of_ble_eq_true rfl, Nat.le_of_ble_eq_true rfl⟩ rfl hl.1 rfl (Nat.le_of_ble_eq_true rfl) d_X10_drop_119 (fun r_1 σ_2 H locs hD hw => ?_)
  exact g_iret X hr hlk hw hD d_X10_drop_122
set_option maxRecDepth 20000 in
set_option maxHeartbeats 4000000 in
theorem s_X10_drop_57 {p : Program} {l : Launch} {e : Env} {s : State} {m : MethodId} {args : Array Value} {below : List Frame} {meth : Method} {c : Code} {G : GC} (X : CallFix p m c cm_X10_drop 5 s args lw_us "GameLoom") (hr : meth.sig.returnType = some .int) (hlk : meth.locks = false) (Q : Int32 → GSt → Prop) (σ : GSt) {H : Heap} {locs : List Loc} {ls : Array Slot} (hw : Wo G s H locs σ) (hl : lv_has ls 5 [(0, .ref (G.2.1 0))]) (hD : D_X10_drop_57 Q σ) : W p l e rm_X10_drop s m args below meth c H locs 0 0 (QMI G Q below args s) (F0 m 57 ls []) := by
  unfold D_X10_drop_57 at hD
  refine lv_aload_n X.1 X.2.1 d_X10_drop_57 rfl (lv_at hl 0 rfl) ?_
  refine lv_iconst (v := (-1)) X.1 X.2.1 d_X10_drop_58 (by decide) ?_
  refine gcV_i (rest := []) (As := [.int (-1)]) (o := 0) X hw (c_X10_refuse l G (-1) σ _  hD) (kd_lt (by decide +kernel : kd 0 = 10) (by decide)) (ce_10 G _ (by decide +kernel : kd 0 = 10)) rfl tb_420 tb_422 tv_0 tb_1 tb_423 hd_X10_refuse ⟨rfl, rfl⟩ ⟨Nat.le_of_ble_eq_true rfl, Nat.le_of_ble_eq_true rfl⟩ rfl hl.1 rfl (Nat.le_of_ble_eq_true rfl) d_X10_drop_59 (fun r_1 σ_2 H locs hD hw => ?_)
  exact g_iret X hr hlk hw hD d_X10_drop_62
set_option maxRecDepth 20000 in
set_option maxHeartbeats 4000000 in
theorem s_X10_drop_39 {p : Program} {l : Launch} {e : Env} {s : State} {m : MethodId} {args : Array Value} {below : List Frame} {meth : Method} {c : Code} {G : GC} (X : CallFix p m c cm_X10_drop 5 s args lw_us "GameLoom") (hr : meth.sig.returnType = some .int) (hlk : meth.locks = false) (Q : Int32 → GSt → Prop) (x1 : Int32) (x2 : Int32) (x3 : Int32) (s0 : Int32) (σ : GSt) {H : Heap} {locs : List Loc} {ls : Array Slot} (hw : Wo G s H locs σ) (hl : lv_has ls 5 [(0, .ref (G.2.1 0)), (1, .int x1), (2, .int x2), (3, .int x3)]) (hD : D_X10_drop_39 Q x1 x2 x3 s0 σ) : W p l e rm_X10_drop s m args below meth c H locs 0 0 (QMI G Q below args s) (F0 m 39 ls [.int s0]) := by
  unfold D_X10_drop_39 at hD
  refine lv_istore (lv' := [(4, .int s0), (0, .ref (G.2.1 0)), (1, .int x1), (2, .int x2), (3, .int x3)]) X.1 X.2.1 d_X10_drop_39 hl (by decide) rfl (fun ls hl => ?_)
  refine lv_iload_n X.1 X.2.1 d_X10_drop_41 rfl (lv_at hl 3 rfl) ?_
  refine lv_if_lt (tgt := 57) X.1 X.2.1 d_X10_drop_42 (by decide) (fun q_42 => ?_) (fun q_42 => ?_)
  · have hD := hD.1 q_42
    exact s_X10_drop_57 X hr hlk  Q   σ hw (lv_sub hl [1] rfl) hD
  · have hD := hD.2 q_42
    refine lv_iload_n X.1 X.2.1 d_X10_drop_45 rfl (lv_at hl 3 rfl) ?_
    refine lv_iload X.1 X.2.1 d_X10_drop_46 (lv_at hl 0 rfl) ?_
    refine lv_icmp_ge (tgt := 57) X.1 X.2.1 d_X10_drop_48 (by decide) (fun q_48 => ?_) (fun q_48 => ?_)
    · have hD := hD.1 q_48
      exact s_X10_drop_57 X hr hlk  Q   σ hw (lv_sub hl [1] rfl) hD
    · have hD := hD.2 q_48
      refine lv_iload X.1 X.2.1 d_X10_drop_51 (lv_at hl 0 rfl) ?_
      refine lv_iconst (v := 2) X.1 X.2.1 d_X10_drop_53 (by decide) ?_
      refine lv_icmp_ge (tgt := 63) X.1 X.2.1 d_X10_drop_54 (by decide) (fun q_54 => ?_) (fun q_54 => ?_)
      · have hD := hD.1 q_54
        refine lv_aload_n X.1 X.2.1 d_X10_drop_63 rfl (lv_at hl 1 rfl) ?_
        refine gf_10_4 X hw (by decide +kernel : kd 0 = 10) tb_377 d_X10_drop_64 ?_
        refine lv_bipush (v := 8) X.1 X.2.1 d_X10_drop_67 (by decide) ?_
        refine lv_icmp_lt (tgt := 79) X.1 X.2.1 d_X10_drop_69 (by decide) (fun q_69 => ?_) (fun q_69 => ?_)
        · have hD := hD.1 q_69
          refine lv_iload_n X.1 X.2.1 d_X10_drop_79 rfl (lv_at hl 4 rfl) ?_
          refine lv_if_eq (tgt := 100) X.1 X.2.1 d_X10_drop_80 (by decide) (fun q_80 => ?_) (fun q_80 => ?_)
          · have hD := hD.1 q_80
            refine lv_aload_n X.1 X.2.1 d_X10_drop_100 rfl (lv_at hl 1 rfl) ?_
            refine gf_10_3 X hw (by decide +kernel : kd 0 = 10) tb_376 d_X10_drop_101 ?_
            refine lv_iload_n X.1 X.2.1 d_X10_drop_104 rfl (lv_at hl 2 rfl) ?_
            obtain ⟨q_105, hD⟩ := hD
            refine g_aald14 X hw ly_10_3.1 q_105 d_X10_drop_105 ?_
            refine lv_iload_n X.1 X.2.1 d_X10_drop_106 rfl (lv_at hl 3 rfl) ?_
            refine lv_aload_n X.1 X.2.1 d_X10_drop_107 rfl (lv_at hl 1 rfl) ?_
            refine gf_10_1 X hw (by decide +kernel : kd 0 = 10) tb_374 d_X10_drop_108 ?_
            refine gcV_v (rest := []) (As := [.int x2, .ref (G.2.1 3)]) (o := (61 + 22 * Int32.toNatClampNeg x1)) X hw (c_X1_writeWithoutMove l G (61 + 22 * Int32.toNatClampNeg x1) x2 3 σ _ (le_14 ly_10_3.1 q_105) ly_10_1 hD) (kd_lt (le_14 ly_10_3.1 q_105) (by decide)) (ce_1 G _ (le_14 ly_10_3.1 q_105)) rfl tb_788 tb_789 tb_790 tb_4 tb_791 hd_X1_writeWithoutMove ⟨rfl, rfl⟩ ⟨Nat.le_of_ble_eq_true rfl, Nat.le_of_ble_eq_true rfl⟩ rfl hl.1 rfl (Nat.le_of_ble_eq_true rfl) d_X10_drop_111 (fun σ_1 H locs hD hw => ?_)
            exact s_X10_drop_114 X hr hlk  Q   σ_1 hw (lv_sub hl [1] rfl) hD
          · have hD := hD.2 q_80
            refine lv_aload_n X.1 X.2.1 d_X10_drop_83 rfl (lv_at hl 1 rfl) ?_
            refine gf_10_3 X hw (by decide +kernel : kd 0 = 10) tb_376 d_X10_drop_84 ?_
            refine lv_iload_n X.1 X.2.1 d_X10_drop_87 rfl (lv_at hl 2 rfl) ?_
            obtain ⟨q_88, hD⟩ := hD
            refine g_aald14 X hw ly_10_3.1 q_88 d_X10_drop_88 ?_
            refine lv_iload_n X.1 X.2.1 d_X10_drop_89 rfl (lv_at hl 3 rfl) ?_
            refine lv_aload_n X.1 X.2.1 d_X10_drop_90 rfl (lv_at hl 1 rfl) ?_
            refine gf_10_1 X hw (by decide +kernel : kd 0 = 10) tb_374 d_X10_drop_91 ?_
            refine gcV_v (rest := []) (As := [.int x2, .ref (G.2.1 3)]) (o := (61 + 22 * Int32.toNatClampNeg x1)) X hw (c_X1_writeWithoutEnd l G (61 + 22 * Int32.toNatClampNeg x1) x2 3 σ _ (le_14 ly_10_3.1 q_88) ly_10_1 hD) (kd_lt (le_14 ly_10_3.1 q_88) (by decide)) (ce_1 G _ (le_14 ly_10_3.1 q_88)) rfl tb_807 tb_808 tb_809 tb_4 tb_810 hd_X1_writeWithoutEnd ⟨rfl, rfl⟩ ⟨Nat.le_of_ble_eq_true rfl, Nat.le_of_ble_eq_true rfl⟩ rfl hl.1 rfl (Nat.le_of_ble_eq_true rfl) d_X10_drop_94 (fun σ_2 H locs hD hw => ?_)
            refine lv_goto (tgt := 114) X.1 X.2.1 d_X10_drop_97 (by decide) ?_
            exact s_X10_drop_114 X hr hlk  Q   σ_2 hw (lv_sub hl [1] rfl) hD
        · have hD := hD.2 q_69
          refine lv_aload_n X.1 X.2.1 d_X10_drop_72 rfl (lv_at hl 1 rfl) ?_
          refine lv_bipush (v := (-6)) X.1 X.2.1 d_X10_drop_73 (by decide) ?_
          refine gcV_i (rest := []) (As := [.int (-6)]) (o := 0) X hw (c_X10_refuse l G (-6) σ _  hD) (kd_lt (by decide +kernel : kd 0 = 10) (by decide)) (ce_10 G _ (by decide +kernel : kd 0 = 10)) rfl tb_420 tb_422 tv_0 tb_1 tb_423 hd_X10_refuse ⟨rfl, rfl⟩ ⟨Nat.le_of_ble_eq_true rfl, Nat.le_of_ble_eq_true rfl⟩ rfl hl.1 rfl (Nat.le_of_ble_eq_true rfl) d_X10_drop_75 (fun r_3 σ_4 H locs hD hw => ?_)
          exact g_iret X hr hlk hw hD d_X10_drop_78
      · have hD := hD.2 q_54
        exact s_X10_drop_57 X hr hlk  Q   σ hw (lv_sub hl [1] rfl) hD
set_option maxRecDepth 20000 in
set_option maxHeartbeats 4000000 in
theorem s_X10_drop_0 {p : Program} {l : Launch} {e : Env} {s : State} {m : MethodId} {args : Array Value} {below : List Frame} {meth : Method} {c : Code} {G : GC} (X : CallFix p m c cm_X10_drop 5 s args lw_us "GameLoom") (hr : meth.sig.returnType = some .int) (hlk : meth.locks = false) (Q : Int32 → GSt → Prop) (x1 : Int32) (x2 : Int32) (x3 : Int32) (σ : GSt) {H : Heap} {locs : List Loc} {ls : Array Slot} (hw : Wo G s H locs σ) (hl : lv_has ls 5 [(0, .ref (G.2.1 0)), (1, .int x1), (2, .int x2), (3, .int x3)]) (hD : D_X10_drop_0 Q x1 x2 x3 σ) : W p l e rm_X10_drop s m args below meth c H locs 0 0 (QMI G Q below args s) (F0 m 0 ls []) := by
  unfold D_X10_drop_0 at hD
  refine lv_aload_n X.1 X.2.1 d_X10_drop_0 rfl (lv_at hl 0 rfl) ?_
  refine lv_iload_n X.1 X.2.1 d_X10_drop_1 rfl (lv_at hl 1 rfl) ?_
  refine gcV_i (rest := []) (As := [.int x1]) (o := 0) X hw (c_X10_isNoGame l G x1 σ _  hD) (kd_lt (by decide +kernel : kd 0 = 10) (by decide)) (ce_10 G _ (by decide +kernel : kd 0 = 10)) rfl tb_526 tb_528 tv_17 tb_1 tb_529 hd_X10_isNoGame ⟨rfl, rfl⟩ ⟨Nat.le_of_ble_eq_true rfl, Nat.le_of_ble_eq_true rfl⟩ rfl hl.1 rfl (Nat.le_of_ble_eq_true rfl) d_X10_drop_2 (fun r_1 σ_2 H locs hD hw => ?_)
  refine lv_if_eq (tgt := 14) X.1 X.2.1 d_X10_drop_5 (by decide) (fun q_5 => ?_) (fun q_5 => ?_)
  · have hD := hD.1 q_5
    refine lv_iload_n X.1 X.2.1 d_X10_drop_14 rfl (lv_at hl 3 rfl) ?_
    refine lv_if_eq (tgt := 30) X.1 X.2.1 d_X10_drop_15 (by decide) (fun q_15 => ?_) (fun q_15 => ?_)
    · have hD := hD.1 q_15
      refine lv_aload_n X.1 X.2.1 d_X10_drop_30 rfl (lv_at hl 0 rfl) ?_
      refine gf_10_3 X hw (by decide +kernel : kd 0 = 10) tb_376 d_X10_drop_31 ?_
      refine lv_iload_n X.1 X.2.1 d_X10_drop_34 rfl (lv_at hl 1 rfl) ?_
      obtain ⟨q_35, hD⟩ := hD
      refine g_aald14 X hw ly_10_3.1 q_35 d_X10_drop_35 ?_
      refine gf_1_5 X hw (le_14 ly_10_3.1 q_35) tb_167 d_X10_drop_36 ?_
      exact s_X10_drop_39 X hr hlk  Q  x1 x2 x3 (σ_2 (61 + 22 * Int32.toNatClampNeg x1) 5) σ_2 hw (lv_sub hl [0, 1, 2, 3] rfl) hD
    · have hD := hD.2 q_15
      refine lv_aload_n X.1 X.2.1 d_X10_drop_18 rfl (lv_at hl 0 rfl) ?_
      refine gf_10_3 X hw (by decide +kernel : kd 0 = 10) tb_376 d_X10_drop_19 ?_
      refine lv_iload_n X.1 X.2.1 d_X10_drop_22 rfl (lv_at hl 1 rfl) ?_
      obtain ⟨q_23, hD⟩ := hD
      refine g_aald14 X hw ly_10_3.1 q_23 d_X10_drop_23 ?_
      refine gf_1_7 X hw (le_14 ly_10_3.1 q_23) tb_175 d_X10_drop_24 ?_
      refine lv_goto (tgt := 39) X.1 X.2.1 d_X10_drop_27 (by decide) ?_
      exact s_X10_drop_39 X hr hlk  Q  x1 x2 x3 (σ_2 (61 + 22 * Int32.toNatClampNeg x1) 7) σ_2 hw (lv_sub hl [0, 1, 2, 3] rfl) hD
  · have hD := hD.2 q_5
    refine lv_aload_n X.1 X.2.1 d_X10_drop_8 rfl (lv_at hl 0 rfl) ?_
    refine lv_iconst (v := (-1)) X.1 X.2.1 d_X10_drop_9 (by decide) ?_
    refine gcV_i (rest := []) (As := [.int (-1)]) (o := 0) X hw (c_X10_refuse l G (-1) σ_2 _  hD) (kd_lt (by decide +kernel : kd 0 = 10) (by decide)) (ce_10 G _ (by decide +kernel : kd 0 = 10)) rfl tb_420 tb_422 tv_0 tb_1 tb_423 hd_X10_refuse ⟨rfl, rfl⟩ ⟨Nat.le_of_ble_eq_true rfl, Nat.le_of_ble_eq_true rfl⟩ rfl hl.1 rfl (Nat.le_of_ble_eq_true rfl) d_X10_drop_10 (fun r_3 σ_4 H locs hD hw => ?_)
    exact g_iret X hr hlk hw hD d_X10_drop_13
theorem c_X10_drop (l : Launch) (G : GC) (x1 : Int32) (x2 : Int32) (x3 : Int32) (σ : GSt) (Q : Int32 → GSt → Prop)  (hD : D_X10_drop x1 x2 x3 σ Q) : MI l ym_X10_drop cm_X10_drop 5 .int rm_X10_drop G σ [.ref (G.2.1 0), .int x1, .int x2, .int x3] Q := by
  refine met_i (by decide) (Nat.le_of_ble_eq_true rfl) ?_
  intro p e s m args below meth c X hr hlk hw ls hl
  exact s_X10_drop_0 X hr hlk Q  x1 x2 x3 σ hw (lv_sub hl [0, 1, 2, 3] rfl) hD
theorem hd_X10_change : ym_X10_change.cls = "GameLoom" ∧ ym_X10_change.cls ≠ "java/lang/invoke/MethodHandle" ∧ ym_X10_change.cls ≠ "java/lang/invoke/VarHandle" ∧ (parseMethodDescriptor ym_X10_change.desc).map (fun d => d.parameters.length) = some 3 := by decide +kernel
abbrev rm_X10_change : Room := { frames := 7, cells := 0, slots := 0, locals := 155 }
theorem d_X10_change_0 : decode cm_X10_change 0 = .ok (.aload_n 0, 1) := by decide +kernel
theorem d_X10_change_1 : decode cm_X10_change 1 = .ok (.iload_n 1, 1) := by decide +kernel
theorem d_X10_change_2 : decode cm_X10_change 2 = .ok (.invokevirtual 99, 3) := by decide +kernel
theorem d_X10_change_5 : decode cm_X10_change 5 = .ok (.ifCond .eq 9, 3) := by decide +kernel
theorem d_X10_change_8 : decode cm_X10_change 8 = .ok (.aload_n 0, 1) := by decide +kernel
theorem d_X10_change_9 : decode cm_X10_change 9 = .ok (.iconst (-1), 1) := by decide +kernel
theorem d_X10_change_10 : decode cm_X10_change 10 = .ok (.invokevirtual 80, 3) := by decide +kernel
theorem d_X10_change_13 : decode cm_X10_change 13 = .ok (.ireturn, 1) := by decide +kernel
theorem d_X10_change_14 : decode cm_X10_change 14 = .ok (.aload_n 0, 1) := by decide +kernel
theorem d_X10_change_15 : decode cm_X10_change 15 = .ok (.getfield 28, 3) := by decide +kernel
theorem d_X10_change_18 : decode cm_X10_change 18 = .ok (.iload_n 1, 1) := by decide +kernel
theorem d_X10_change_19 : decode cm_X10_change 19 = .ok (.aaload, 1) := by decide +kernel
theorem d_X10_change_20 : decode cm_X10_change 20 = .ok (.getfield 121, 3) := by decide +kernel
theorem d_X10_change_23 : decode cm_X10_change 23 = .ok (.iload_n 2, 1) := by decide +kernel
theorem d_X10_change_24 : decode cm_X10_change 24 = .ok (.invokevirtual 258, 3) := by decide +kernel
theorem d_X10_change_27 : decode cm_X10_change 27 = .ok (.istore 4, 2) := by decide +kernel
theorem d_X10_change_29 : decode cm_X10_change 29 = .ok (.iload 4, 2) := by decide +kernel
theorem d_X10_change_31 : decode cm_X10_change 31 = .ok (.ifCond .ge 9, 3) := by decide +kernel
theorem d_X10_change_34 : decode cm_X10_change 34 = .ok (.aload_n 0, 1) := by decide +kernel
theorem d_X10_change_35 : decode cm_X10_change 35 = .ok (.iconst (-1), 1) := by decide +kernel
theorem d_X10_change_36 : decode cm_X10_change 36 = .ok (.invokevirtual 80, 3) := by decide +kernel
theorem d_X10_change_39 : decode cm_X10_change 39 = .ok (.ireturn, 1) := by decide +kernel
theorem d_X10_change_40 : decode cm_X10_change 40 = .ok (.iload_n 3, 1) := by decide +kernel
theorem d_X10_change_41 : decode cm_X10_change 41 = .ok (.ifCond .ge 10, 3) := by decide +kernel
theorem d_X10_change_44 : decode cm_X10_change 44 = .ok (.aload_n 0, 1) := by decide +kernel
theorem d_X10_change_45 : decode cm_X10_change 45 = .ok (.bipush (-4), 2) := by decide +kernel
theorem d_X10_change_47 : decode cm_X10_change 47 = .ok (.invokevirtual 80, 3) := by decide +kernel
theorem d_X10_change_50 : decode cm_X10_change 50 = .ok (.ireturn, 1) := by decide +kernel
theorem d_X10_change_51 : decode cm_X10_change 51 = .ok (.iload_n 3, 1) := by decide +kernel
theorem d_X10_change_52 : decode cm_X10_change 52 = .ok (.bipush 9, 2) := by decide +kernel
theorem d_X10_change_54 : decode cm_X10_change 54 = .ok (.if_icmp .gt 12, 3) := by decide +kernel
theorem d_X10_change_57 : decode cm_X10_change 57 = .ok (.aload_n 0, 1) := by decide +kernel
theorem d_X10_change_58 : decode cm_X10_change 58 = .ok (.getfield 92, 3) := by decide +kernel
theorem d_X10_change_61 : decode cm_X10_change 61 = .ok (.bipush 8, 2) := by decide +kernel
theorem d_X10_change_63 : decode cm_X10_change 63 = .ok (.if_icmp .lt 10, 3) := by decide +kernel
theorem d_X10_change_66 : decode cm_X10_change 66 = .ok (.aload_n 0, 1) := by decide +kernel
theorem d_X10_change_67 : decode cm_X10_change 67 = .ok (.bipush (-6), 2) := by decide +kernel
theorem d_X10_change_69 : decode cm_X10_change 69 = .ok (.invokevirtual 80, 3) := by decide +kernel
theorem d_X10_change_72 : decode cm_X10_change 72 = .ok (.ireturn, 1) := by decide +kernel
theorem d_X10_change_73 : decode cm_X10_change 73 = .ok (.aload_n 0, 1) := by decide +kernel
theorem d_X10_change_74 : decode cm_X10_change 74 = .ok (.getfield 16, 3) := by decide +kernel
theorem d_X10_change_77 : decode cm_X10_change 77 = .ok (.aload_n 0, 1) := by decide +kernel
theorem d_X10_change_78 : decode cm_X10_change 78 = .ok (.getfield 28, 3) := by decide +kernel
theorem d_X10_change_81 : decode cm_X10_change 81 = .ok (.iload_n 1, 1) := by decide +kernel
theorem d_X10_change_82 : decode cm_X10_change 82 = .ok (.aaload, 1) := by decide +kernel
theorem d_X10_change_83 : decode cm_X10_change 83 = .ok (.getfield 121, 3) := by decide +kernel
theorem d_X10_change_86 : decode cm_X10_change 86 = .ok (.invokevirtual 261, 3) := by decide +kernel
theorem d_X10_change_89 : decode cm_X10_change 89 = .ok (.aload_n 0, 1) := by decide +kernel
theorem d_X10_change_90 : decode cm_X10_change 90 = .ok (.getfield 16, 3) := by decide +kernel
theorem d_X10_change_93 : decode cm_X10_change 93 = .ok (.getfield 265, 3) := by decide +kernel
theorem d_X10_change_96 : decode cm_X10_change 96 = .ok (.iload 4, 2) := by decide +kernel
theorem d_X10_change_98 : decode cm_X10_change 98 = .ok (.bipush 48, 2) := by decide +kernel
theorem d_X10_change_100 : decode cm_X10_change 100 = .ok (.iload_n 3, 1) := by decide +kernel
theorem d_X10_change_101 : decode cm_X10_change 101 = .ok (.iadd, 1) := by decide +kernel
theorem d_X10_change_102 : decode cm_X10_change 102 = .ok (.iastore, 1) := by decide +kernel
theorem d_X10_change_103 : decode cm_X10_change 103 = .ok (.aload_n 0, 1) := by decide +kernel
theorem d_X10_change_104 : decode cm_X10_change 104 = .ok (.aload_n 0, 1) := by decide +kernel
theorem d_X10_change_105 : decode cm_X10_change 105 = .ok (.getfield 16, 3) := by decide +kernel
theorem d_X10_change_108 : decode cm_X10_change 108 = .ok (.invokevirtual 95, 3) := by decide +kernel
theorem d_X10_change_111 : decode cm_X10_change 111 = .ok (.ireturn, 1) := by decide +kernel
def D_X10_change_66 (Q : Int32 → GSt → Prop) (σ : GSt) : Prop :=
  D_X10_refuse (-6) σ (fun r_1 σ_2 => Q r_1 σ_2)
def D_X10_change_0 (Q : Int32 → GSt → Prop) (x1 : Int32) (x2 : Int32) (x3 : Int32) (σ : GSt) : Prop :=
  D_X10_isNoGame x1 σ (fun r_1 σ_2 => (r_1 = 0 → vp_in x1 8 ∧ (D_X9_placeOfDigit ((61 + 22 * Int32.toNatClampNeg x1) + 1) x2 σ_2 (fun r_3 σ_4 => (0 ≤ r_3 → (0 ≤ x3 → (9 < x3 → D_X10_change_66 Q σ_4) ∧
  (¬ 9 < x3 → ((σ_4 0 4) < 8 → vp_in x1 8 ∧ (D_X9_copyOf 3 ((61 + 22 * Int32.toNatClampNeg x1) + 1) σ_4 (fun σ_5 => vp_in r_3 90 ∧ (∀ σ_6 : GSt, σ_6 = up2 σ_5 (3 + 1) (Int32.toNatClampNeg r_3) (48 + x3) → (D_X10_admit 3 σ_6 (fun r_7 σ_8 => Q r_7 σ_8)))))) ∧
  (¬ (σ_4 0 4) < 8 → D_X10_change_66 Q σ_4))) ∧
  (¬ 0 ≤ x3 → D_X10_refuse (-4) σ_4 (fun r_9 σ_10 => Q r_9 σ_10))) ∧
  (¬ 0 ≤ r_3 → D_X10_refuse (-1) σ_4 (fun r_11 σ_12 => Q r_11 σ_12))))) ∧
  (¬ r_1 = 0 → D_X10_refuse (-1) σ_2 (fun r_13 σ_14 => Q r_13 σ_14)))
def D_X10_change (x1 : Int32) (x2 : Int32) (x3 : Int32) (σ : GSt) (Q : Int32 → GSt → Prop) : Prop := D_X10_change_0 Q x1 x2 x3 σ
set_option maxRecDepth 20000 in
set_option maxHeartbeats 4000000 in
theorem s_X10_change_66 {p : Program} {l : Launch} {e : Env} {s : State} {m : MethodId} {args : Array Value} {below : List Frame} {meth : Method} {c : Code} {G : GC} (X : CallFix p m c cm_X10_change 5 s args lw_us "GameLoom") (hr : meth.sig.returnType = some .int) (hlk : meth.locks = false) (Q : Int32 → GSt → Prop) (σ : GSt) {H : Heap} {locs : List Loc} {ls : Array Slot} (hw : Wo G s H locs σ) (hl : lv_has ls 5 [(0, .ref (G.2.1 0))]) (hD : D_X10_change_66 Q σ) : W p l e rm_X10_change s m args below meth c H locs 0 0 (QMI G Q below args s) (F0 m 66 ls []) := by
  unfold D_X10_change_66 at hD
  refine lv_aload_n X.1 X.2.1 d_X10_change_66 rfl (lv_at hl 0 rfl) ?_
  refine lv_bipush (v := (-6)) X.1 X.2.1 d_X10_change_67 (by decide) ?_
  refine gcV_i (rest := []) (As := [.int (-6)]) (o := 0) X hw (c_X10_refuse l G (-6) σ _  hD) (kd_lt (by decide +kernel : kd 0 = 10) (by decide)) (ce_10 G _ (by decide +kernel : kd 0 = 10)) rfl tb_420 tb_422 tv_0 tb_1 tb_423 hd_X10_refuse ⟨rfl, rfl⟩ ⟨Nat.le_of_ble_eq_true rfl, Nat.le_of_ble_eq_true rfl⟩ rfl hl.1 rfl (Nat.le_of_ble_eq_true rfl) d_X10_change_69 (fun r_1 σ_2 H locs hD hw => ?_)
  exact g_iret X hr hlk hw hD d_X10_change_72
set_option maxRecDepth 20000 in
set_option maxHeartbeats 4000000 in
theorem s_X10_change_0 {p : Program} {l : Launch} {e : Env} {s : State} {m : MethodId} {args : Array Value} {below : List Frame} {meth : Method} {c : Code} {G : GC} (X : CallFix p m c cm_X10_change 5 s args lw_us "GameLoom") (hr : meth.sig.returnType = some .int) (hlk : meth.locks = false) (Q : Int32 → GSt → Prop) (x1 : Int32) (x2 : Int32) (x3 : Int32) (σ : GSt) {H : Heap} {locs : List Loc} {ls : Array Slot} (hw : Wo G s H locs σ) (hl : lv_has ls 5 [(0, .ref (G.2.1 0)), (1, .int x1), (2, .int x2), (3, .int x3)]) (hD : D_X10_change_0 Q x1 x2 x3 σ) : W p l e rm_X10_change s m args below meth c H locs 0 0 (QMI G Q below args s) (F0 m 0 ls []) := by
  unfold D_X10_change_0 at hD
  refine lv_aload_n X.1 X.2.1 d_X10_change_0 rfl (lv_at hl 0 rfl) ?_
  refine lv_iload_n X.1 X.2.1 d_X10_change_1 rfl (lv_at hl 1 rfl) ?_
  refine gcV_i (rest := []) (As := [.int x1]) (o := 0) X hw (c_X10_isNoGame l G x1 σ _  hD) (kd_lt (by decide +kernel : kd 0 = 10) (by decide)) (ce_10 G _ (by decide +kernel : kd 0 = 10)) rfl tb_526 tb_528 tv_17 tb_1 tb_529 hd_X10_isNoGame ⟨rfl, rfl⟩ ⟨Nat.le_of_ble_eq_true rfl, Nat.le_of_ble_eq_true rfl⟩ rfl hl.1 rfl (Nat.le_of_ble_eq_true rfl) d_X10_change_2 (fun r_1 σ_2 H locs hD hw => ?_)
  refine lv_if_eq (tgt := 14) X.1 X.2.1 d_X10_change_5 (by decide) (fun q_5 => ?_) (fun q_5 => ?_)
  · have hD := hD.1 q_5
    refine lv_aload_n X.1 X.2.1 d_X10_change_14 rfl (lv_at hl 0 rfl) ?_
    refine gf_10_3 X hw (by decide +kernel : kd 0 = 10) tb_376 d_X10_change_15 ?_
    refine lv_iload_n X.1 X.2.1 d_X10_change_18 rfl (lv_at hl 1 rfl) ?_
    obtain ⟨q_19, hD⟩ := hD
    refine g_aald14 X hw ly_10_3.1 q_19 d_X10_change_19 ?_
    refine gf_1_0 X hw (le_14 ly_10_3.1 q_19) tb_154 d_X10_change_20 ?_
    refine lv_iload_n X.1 X.2.1 d_X10_change_23 rfl (lv_at hl 2 rfl) ?_
    refine gcV_i (rest := []) (As := [.int x2]) (o := ((61 + 22 * Int32.toNatClampNeg x1) + 1)) X hw (c_X9_placeOfDigit l G ((61 + 22 * Int32.toNatClampNeg x1) + 1) x2 σ_2 _ (ly_1_0 (le_14 ly_10_3.1 q_19)) hD) (kd_lt (ly_1_0 (le_14 ly_10_3.1 q_19)) (by decide)) (ce_9 G _ (ly_1_0 (le_14 ly_10_3.1 q_19))) rfl tb_815 tb_816 tb_817 tb_2 tb_818 hd_X9_placeOfDigit ⟨rfl, rfl⟩ ⟨Nat.le_of_ble_eq_true rfl, Nat.le_of_ble_eq_true rfl⟩ rfl hl.1 rfl (Nat.le_of_ble_eq_true rfl) d_X10_change_24 (fun r_3 σ_4 H locs hD hw => ?_)
    refine lv_istore (lv' := [(4, .int r_3), (0, .ref (G.2.1 0)), (1, .int x1), (2, .int x2), (3, .int x3)]) X.1 X.2.1 d_X10_change_27 hl (by decide) rfl (fun ls hl => ?_)
    refine lv_iload X.1 X.2.1 d_X10_change_29 (lv_at hl 0 rfl) ?_
    refine lv_if_ge (tgt := 40) X.1 X.2.1 d_X10_change_31 (by decide) (fun q_31 => ?_) (fun q_31 => ?_)
    · have hD := hD.1 q_31
      refine lv_iload_n X.1 X.2.1 d_X10_change_40 rfl (lv_at hl 4 rfl) ?_
      refine lv_if_ge (tgt := 51) X.1 X.2.1 d_X10_change_41 (by decide) (fun q_41 => ?_) (fun q_41 => ?_)
      · have hD := hD.1 q_41
        refine lv_iload_n X.1 X.2.1 d_X10_change_51 rfl (lv_at hl 4 rfl) ?_
        refine lv_bipush (v := 9) X.1 X.2.1 d_X10_change_52 (by decide) ?_
        refine lv_icmp_gt (tgt := 66) X.1 X.2.1 d_X10_change_54 (by decide) (fun q_54 => ?_) (fun q_54 => ?_)
        · have hD := hD.1 q_54
          exact s_X10_change_66 X hr hlk  Q   σ_4 hw (lv_sub hl [1] rfl) hD
        · have hD := hD.2 q_54
          refine lv_aload_n X.1 X.2.1 d_X10_change_57 rfl (lv_at hl 1 rfl) ?_
          refine gf_10_4 X hw (by decide +kernel : kd 0 = 10) tb_377 d_X10_change_58 ?_
          refine lv_bipush (v := 8) X.1 X.2.1 d_X10_change_61 (by decide) ?_
          refine lv_icmp_lt (tgt := 73) X.1 X.2.1 d_X10_change_63 (by decide) (fun q_63 => ?_) (fun q_63 => ?_)
          · have hD := hD.1 q_63
            refine lv_aload_n X.1 X.2.1 d_X10_change_73 rfl (lv_at hl 1 rfl) ?_
            refine gf_10_1 X hw (by decide +kernel : kd 0 = 10) tb_374 d_X10_change_74 ?_
            refine lv_aload_n X.1 X.2.1 d_X10_change_77 rfl (lv_at hl 1 rfl) ?_
            refine gf_10_3 X hw (by decide +kernel : kd 0 = 10) tb_376 d_X10_change_78 ?_
            refine lv_iload_n X.1 X.2.1 d_X10_change_81 rfl (lv_at hl 2 rfl) ?_
            obtain ⟨q_82, hD⟩ := hD
            refine g_aald14 X hw ly_10_3.1 q_82 d_X10_change_82 ?_
            refine gf_1_0 X hw (le_14 ly_10_3.1 q_82) tb_154 d_X10_change_83 ?_
            refine gcV_v (rest := []) (As := [.ref (G.2.1 ((61 + 22 * Int32.toNatClampNeg x1) + 1))]) (o := 3) X hw (c_X9_copyOf l G 3 ((61 + 22 * Int32.toNatClampNeg x1) + 1) σ_4 _ ly_10_1 (ly_1_0 (le_14 ly_10_3.1 q_82)) hD) (kd_lt ly_10_1 (by decide)) (ce_9 G _ ly_10_1) rfl tb_819 tb_513 tb_514 tb_2 tb_515 hd_X9_copyOf ⟨rfl, rfl⟩ ⟨Nat.le_of_ble_eq_true rfl, Nat.le_of_ble_eq_true rfl⟩ rfl hl.1 rfl (Nat.le_of_ble_eq_true rfl) d_X10_change_86 (fun σ_5 H locs hD hw => ?_)
            refine lv_aload_n X.1 X.2.1 d_X10_change_89 rfl (lv_at hl 1 rfl) ?_
            refine gf_10_1 X hw (by decide +kernel : kd 0 = 10) tb_374 d_X10_change_90 ?_
            refine gf_9_0 X hw ly_10_1 tb_31 d_X10_change_93 ?_
            refine lv_iload X.1 X.2.1 d_X10_change_96 (lv_at hl 0 rfl) ?_
            refine lv_bipush (v := 48) X.1 X.2.1 d_X10_change_98 (by decide) ?_
            refine lv_iload_n X.1 X.2.1 d_X10_change_100 rfl (lv_at hl 4 rfl) ?_
            refine lv_iadd X.1 X.2.1 d_X10_change_101 ?_
            obtain ⟨q_102, hD⟩ := hD
            refine g_iast X hw (ly_9_0 ly_10_1).1 (ly_9_0 ly_10_1).2 q_102 d_X10_change_102 (fun H locs hw => ?_)
            obtain ⟨σ_6, e_σ_6⟩ : ∃ z : GSt, z = up2 σ_5 (3 + 1) (Int32.toNatClampNeg r_3) (48 + x3) := ⟨_, rfl⟩
            rw [← e_σ_6] at hw
            have hD := hD σ_6 e_σ_6
            refine lv_aload_n X.1 X.2.1 d_X10_change_103 rfl (lv_at hl 1 rfl) ?_
            refine lv_aload_n X.1 X.2.1 d_X10_change_104 rfl (lv_at hl 1 rfl) ?_
            refine gf_10_1 X hw (by decide +kernel : kd 0 = 10) tb_374 d_X10_change_105 ?_
            refine gcV_i (rest := []) (As := [.ref (G.2.1 3)]) (o := 0) X hw (c_X10_admit l G 3 σ_6 _ ly_10_1 hD) (kd_lt (by decide +kernel : kd 0 = 10) (by decide)) (ce_10 G _ (by decide +kernel : kd 0 = 10)) rfl tb_432 tb_434 tv_1 tb_1 tb_435 hd_X10_admit ⟨rfl, rfl⟩ ⟨Nat.le_of_ble_eq_true rfl, Nat.le_of_ble_eq_true rfl⟩ rfl hl.1 rfl (Nat.le_of_ble_eq_true rfl) d_X10_change_108 (fun r_7 σ_8 H locs hD hw => ?_)
            exact g_iret X hr hlk hw hD d_X10_change_111
          · have hD := hD.2 q_63
            exact s_X10_change_66 X hr hlk  Q   σ_4 hw (lv_sub hl [1] rfl) hD
      · have hD := hD.2 q_41
        refine lv_aload_n X.1 X.2.1 d_X10_change_44 rfl (lv_at hl 1 rfl) ?_
        refine lv_bipush (v := (-4)) X.1 X.2.1 d_X10_change_45 (by decide) ?_
        refine gcV_i (rest := []) (As := [.int (-4)]) (o := 0) X hw (c_X10_refuse l G (-4) σ_4 _  hD) (kd_lt (by decide +kernel : kd 0 = 10) (by decide)) (ce_10 G _ (by decide +kernel : kd 0 = 10)) rfl tb_420 tb_422 tv_0 tb_1 tb_423 hd_X10_refuse ⟨rfl, rfl⟩ ⟨Nat.le_of_ble_eq_true rfl, Nat.le_of_ble_eq_true rfl⟩ rfl hl.1 rfl (Nat.le_of_ble_eq_true rfl) d_X10_change_47 (fun r_9 σ_10 H locs hD hw => ?_)
        exact g_iret X hr hlk hw hD d_X10_change_50
    · have hD := hD.2 q_31
      refine lv_aload_n X.1 X.2.1 d_X10_change_34 rfl (lv_at hl 1 rfl) ?_
      refine lv_iconst (v := (-1)) X.1 X.2.1 d_X10_change_35 (by decide) ?_
      refine gcV_i (rest := []) (As := [.int (-1)]) (o := 0) X hw (c_X10_refuse l G (-1) σ_4 _  hD) (kd_lt (by decide +kernel : kd 0 = 10) (by decide)) (ce_10 G _ (by decide +kernel : kd 0 = 10)) rfl tb_420 tb_422 tv_0 tb_1 tb_423 hd_X10_refuse ⟨rfl, rfl⟩ ⟨Nat.le_of_ble_eq_true rfl, Nat.le_of_ble_eq_true rfl⟩ rfl hl.1 rfl (Nat.le_of_ble_eq_true rfl) d_X10_change_36 (fun r_11 σ_12 H locs hD hw => ?_)
      exact g_iret X hr hlk hw hD d_X10_change_39
  · have hD := hD.2 q_5
    refine lv_aload_n X.1 X.2.1 d_X10_change_8 rfl (lv_at hl 0 rfl) ?_
    refine lv_iconst (v := (-1)) X.1 X.2.1 d_X10_change_9 (by decide) ?_
    refine gcV_i (rest := []) (As := [.int (-1)]) (o := 0) X hw (c_X10_refuse l G (-1) σ_2 _  hD) (kd_lt (by decide +kernel : kd 0 = 10) (by decide)) (ce_10 G _ (by decide +kernel : kd 0 = 10)) rfl tb_420 tb_422 tv_0 tb_1 tb_423 hd_X10_refuse ⟨rfl, rfl⟩ ⟨Nat.le_of_ble_eq_true rfl, Nat.le_of_ble_eq_true rfl⟩ rfl hl.1 rfl (Nat.le_of_ble_eq_true rfl) d_X10_change_10 (fun r_13 σ_14 H locs hD hw => ?_)
    exact g_iret X hr hlk hw hD d_X10_change_13
theorem c_X10_change (l : Launch) (G : GC) (x1 : Int32) (x2 : Int32) (x3 : Int32) (σ : GSt) (Q : Int32 → GSt → Prop)  (hD : D_X10_change x1 x2 x3 σ Q) : MI l ym_X10_change cm_X10_change 5 .int rm_X10_change G σ [.ref (G.2.1 0), .int x1, .int x2, .int x3] Q := by
  refine met_i (by decide) (Nat.le_of_ble_eq_true rfl) ?_
  intro p e s m args below meth c X hr hlk hw ls hl
  exact s_X10_change_0 X hr hlk Q  x1 x2 x3 σ hw (lv_sub hl [0, 1, 2, 3] rfl) hD
theorem hd_X10_mirror : ym_X10_mirror.cls = "GameLoom" ∧ ym_X10_mirror.cls ≠ "java/lang/invoke/MethodHandle" ∧ ym_X10_mirror.cls ≠ "java/lang/invoke/VarHandle" ∧ (parseMethodDescriptor ym_X10_mirror.desc).map (fun d => d.parameters.length) = some 1 := by decide +kernel
abbrev rm_X10_mirror : Room := { frames := 7, cells := 0, slots := 0, locals := 155 }
theorem d_X10_mirror_0 : decode cm_X10_mirror 0 = .ok (.aload_n 0, 1) := by decide +kernel
theorem d_X10_mirror_1 : decode cm_X10_mirror 1 = .ok (.iload_n 1, 1) := by decide +kernel
theorem d_X10_mirror_2 : decode cm_X10_mirror 2 = .ok (.invokevirtual 99, 3) := by decide +kernel
theorem d_X10_mirror_5 : decode cm_X10_mirror 5 = .ok (.ifCond .eq 9, 3) := by decide +kernel
theorem d_X10_mirror_8 : decode cm_X10_mirror 8 = .ok (.aload_n 0, 1) := by decide +kernel
theorem d_X10_mirror_9 : decode cm_X10_mirror 9 = .ok (.iconst (-1), 1) := by decide +kernel
theorem d_X10_mirror_10 : decode cm_X10_mirror 10 = .ok (.invokevirtual 80, 3) := by decide +kernel
theorem d_X10_mirror_13 : decode cm_X10_mirror 13 = .ok (.ireturn, 1) := by decide +kernel
theorem d_X10_mirror_14 : decode cm_X10_mirror 14 = .ok (.aload_n 0, 1) := by decide +kernel
theorem d_X10_mirror_15 : decode cm_X10_mirror 15 = .ok (.getfield 92, 3) := by decide +kernel
theorem d_X10_mirror_18 : decode cm_X10_mirror 18 = .ok (.bipush 8, 2) := by decide +kernel
theorem d_X10_mirror_20 : decode cm_X10_mirror 20 = .ok (.if_icmp .lt 10, 3) := by decide +kernel
theorem d_X10_mirror_23 : decode cm_X10_mirror 23 = .ok (.aload_n 0, 1) := by decide +kernel
theorem d_X10_mirror_24 : decode cm_X10_mirror 24 = .ok (.bipush (-6), 2) := by decide +kernel
theorem d_X10_mirror_26 : decode cm_X10_mirror 26 = .ok (.invokevirtual 80, 3) := by decide +kernel
theorem d_X10_mirror_29 : decode cm_X10_mirror 29 = .ok (.ireturn, 1) := by decide +kernel
theorem d_X10_mirror_30 : decode cm_X10_mirror 30 = .ok (.aload_n 0, 1) := by decide +kernel
theorem d_X10_mirror_31 : decode cm_X10_mirror 31 = .ok (.getfield 28, 3) := by decide +kernel
theorem d_X10_mirror_34 : decode cm_X10_mirror 34 = .ok (.iload_n 1, 1) := by decide +kernel
theorem d_X10_mirror_35 : decode cm_X10_mirror 35 = .ok (.aaload, 1) := by decide +kernel
theorem d_X10_mirror_36 : decode cm_X10_mirror 36 = .ok (.aload_n 0, 1) := by decide +kernel
theorem d_X10_mirror_37 : decode cm_X10_mirror 37 = .ok (.getfield 16, 3) := by decide +kernel
theorem d_X10_mirror_40 : decode cm_X10_mirror 40 = .ok (.invokevirtual 268, 3) := by decide +kernel
theorem d_X10_mirror_43 : decode cm_X10_mirror 43 = .ok (.aload_n 0, 1) := by decide +kernel
theorem d_X10_mirror_44 : decode cm_X10_mirror 44 = .ok (.aload_n 0, 1) := by decide +kernel
theorem d_X10_mirror_45 : decode cm_X10_mirror 45 = .ok (.getfield 16, 3) := by decide +kernel
theorem d_X10_mirror_48 : decode cm_X10_mirror 48 = .ok (.invokevirtual 95, 3) := by decide +kernel
theorem d_X10_mirror_51 : decode cm_X10_mirror 51 = .ok (.ireturn, 1) := by decide +kernel
def D_X10_mirror_0 (Q : Int32 → GSt → Prop) (x1 : Int32) (σ : GSt) : Prop :=
  D_X10_isNoGame x1 σ (fun r_1 σ_2 => (r_1 = 0 → ((σ_2 0 4) < 8 → vp_in x1 8 ∧ (D_X1_writeMirrored (61 + 22 * Int32.toNatClampNeg x1) 3 σ_2 (fun σ_3 => D_X10_admit 3 σ_3 (fun r_4 σ_5 => Q r_4 σ_5)))) ∧
  (¬ (σ_2 0 4) < 8 → D_X10_refuse (-6) σ_2 (fun r_6 σ_7 => Q r_6 σ_7))) ∧
  (¬ r_1 = 0 → D_X10_refuse (-1) σ_2 (fun r_8 σ_9 => Q r_8 σ_9)))
def D_X10_mirror (x1 : Int32) (σ : GSt) (Q : Int32 → GSt → Prop) : Prop := D_X10_mirror_0 Q x1 σ
set_option maxRecDepth 20000 in
set_option maxHeartbeats 4000000 in
theorem s_X10_mirror_0 {p : Program} {l : Launch} {e : Env} {s : State} {m : MethodId} {args : Array Value} {below : List Frame} {meth : Method} {c : Code} {G : GC} (X : CallFix p m c cm_X10_mirror 2 s args lw_us "GameLoom") (hr : meth.sig.returnType = some .int) (hlk : meth.locks = false) (Q : Int32 → GSt → Prop) (x1 : Int32) (σ : GSt) {H : Heap} {locs : List Loc} {ls : Array Slot} (hw : Wo G s H locs σ) (hl : lv_has ls 2 [(0, .ref (G.2.1 0)), (1, .int x1)]) (hD : D_X10_mirror_0 Q x1 σ) : W p l e rm_X10_mirror s m args below meth c H locs 0 0 (QMI G Q below args s) (F0 m 0 ls []) := by
  unfold D_X10_mirror_0 at hD
  refine lv_aload_n X.1 X.2.1 d_X10_mirror_0 rfl (lv_at hl 0 rfl) ?_
  refine lv_iload_n X.1 X.2.1 d_X10_mirror_1 rfl (lv_at hl 1 rfl) ?_
  refine gcV_i (rest := []) (As := [.int x1]) (o := 0) X hw (c_X10_isNoGame l G x1 σ _  hD) (kd_lt (by decide +kernel : kd 0 = 10) (by decide)) (ce_10 G _ (by decide +kernel : kd 0 = 10)) rfl tb_526 tb_528 tv_17 tb_1 tb_529 hd_X10_isNoGame ⟨rfl, rfl⟩ ⟨Nat.le_of_ble_eq_true rfl, Nat.le_of_ble_eq_true rfl⟩ rfl hl.1 rfl (Nat.le_of_ble_eq_true rfl) d_X10_mirror_2 (fun r_1 σ_2 H locs hD hw => ?_)
  refine lv_if_eq (tgt := 14) X.1 X.2.1 d_X10_mirror_5 (by decide) (fun q_5 => ?_) (fun q_5 => ?_)
  · have hD := hD.1 q_5
    refine lv_aload_n X.1 X.2.1 d_X10_mirror_14 rfl (lv_at hl 0 rfl) ?_
    refine gf_10_4 X hw (by decide +kernel : kd 0 = 10) tb_377 d_X10_mirror_15 ?_
    refine lv_bipush (v := 8) X.1 X.2.1 d_X10_mirror_18 (by decide) ?_
    refine lv_icmp_lt (tgt := 30) X.1 X.2.1 d_X10_mirror_20 (by decide) (fun q_20 => ?_) (fun q_20 => ?_)
    · have hD := hD.1 q_20
      refine lv_aload_n X.1 X.2.1 d_X10_mirror_30 rfl (lv_at hl 0 rfl) ?_
      refine gf_10_3 X hw (by decide +kernel : kd 0 = 10) tb_376 d_X10_mirror_31 ?_
      refine lv_iload_n X.1 X.2.1 d_X10_mirror_34 rfl (lv_at hl 1 rfl) ?_
      obtain ⟨q_35, hD⟩ := hD
      refine g_aald14 X hw ly_10_3.1 q_35 d_X10_mirror_35 ?_
      refine lv_aload_n X.1 X.2.1 d_X10_mirror_36 rfl (lv_at hl 0 rfl) ?_
      refine gf_10_1 X hw (by decide +kernel : kd 0 = 10) tb_374 d_X10_mirror_37 ?_
      refine gcV_v (rest := []) (As := [.ref (G.2.1 3)]) (o := (61 + 22 * Int32.toNatClampNeg x1)) X hw (c_X1_writeMirrored l G (61 + 22 * Int32.toNatClampNeg x1) 3 σ_2 _ (le_14 ly_10_3.1 q_35) ly_10_1 hD) (kd_lt (le_14 ly_10_3.1 q_35) (by decide)) (ce_1 G _ (le_14 ly_10_3.1 q_35)) rfl tb_824 tb_825 tb_826 tb_4 tb_827 hd_X1_writeMirrored ⟨rfl, rfl⟩ ⟨Nat.le_of_ble_eq_true rfl, Nat.le_of_ble_eq_true rfl⟩ rfl hl.1 rfl (Nat.le_of_ble_eq_true rfl) d_X10_mirror_40 (fun σ_3 H locs hD hw => ?_)
      refine lv_aload_n X.1 X.2.1 d_X10_mirror_43 rfl (lv_at hl 0 rfl) ?_
      refine lv_aload_n X.1 X.2.1 d_X10_mirror_44 rfl (lv_at hl 0 rfl) ?_
      refine gf_10_1 X hw (by decide +kernel : kd 0 = 10) tb_374 d_X10_mirror_45 ?_
      refine gcV_i (rest := []) (As := [.ref (G.2.1 3)]) (o := 0) X hw (c_X10_admit l G 3 σ_3 _ ly_10_1 hD) (kd_lt (by decide +kernel : kd 0 = 10) (by decide)) (ce_10 G _ (by decide +kernel : kd 0 = 10)) rfl tb_432 tb_434 tv_1 tb_1 tb_435 hd_X10_admit ⟨rfl, rfl⟩ ⟨Nat.le_of_ble_eq_true rfl, Nat.le_of_ble_eq_true rfl⟩ rfl hl.1 rfl (Nat.le_of_ble_eq_true rfl) d_X10_mirror_48 (fun r_4 σ_5 H locs hD hw => ?_)
      exact g_iret X hr hlk hw hD d_X10_mirror_51
    · have hD := hD.2 q_20
      refine lv_aload_n X.1 X.2.1 d_X10_mirror_23 rfl (lv_at hl 0 rfl) ?_
      refine lv_bipush (v := (-6)) X.1 X.2.1 d_X10_mirror_24 (by decide) ?_
      refine gcV_i (rest := []) (As := [.int (-6)]) (o := 0) X hw (c_X10_refuse l G (-6) σ_2 _  hD) (kd_lt (by decide +kernel : kd 0 = 10) (by decide)) (ce_10 G _ (by decide +kernel : kd 0 = 10)) rfl tb_420 tb_422 tv_0 tb_1 tb_423 hd_X10_refuse ⟨rfl, rfl⟩ ⟨Nat.le_of_ble_eq_true rfl, Nat.le_of_ble_eq_true rfl⟩ rfl hl.1 rfl (Nat.le_of_ble_eq_true rfl) d_X10_mirror_26 (fun r_6 σ_7 H locs hD hw => ?_)
      exact g_iret X hr hlk hw hD d_X10_mirror_29
  · have hD := hD.2 q_5
    refine lv_aload_n X.1 X.2.1 d_X10_mirror_8 rfl (lv_at hl 0 rfl) ?_
    refine lv_iconst (v := (-1)) X.1 X.2.1 d_X10_mirror_9 (by decide) ?_
    refine gcV_i (rest := []) (As := [.int (-1)]) (o := 0) X hw (c_X10_refuse l G (-1) σ_2 _  hD) (kd_lt (by decide +kernel : kd 0 = 10) (by decide)) (ce_10 G _ (by decide +kernel : kd 0 = 10)) rfl tb_420 tb_422 tv_0 tb_1 tb_423 hd_X10_refuse ⟨rfl, rfl⟩ ⟨Nat.le_of_ble_eq_true rfl, Nat.le_of_ble_eq_true rfl⟩ rfl hl.1 rfl (Nat.le_of_ble_eq_true rfl) d_X10_mirror_10 (fun r_8 σ_9 H locs hD hw => ?_)
    exact g_iret X hr hlk hw hD d_X10_mirror_13
theorem c_X10_mirror (l : Launch) (G : GC) (x1 : Int32) (σ : GSt) (Q : Int32 → GSt → Prop)  (hD : D_X10_mirror x1 σ Q) : MI l ym_X10_mirror cm_X10_mirror 2 .int rm_X10_mirror G σ [.ref (G.2.1 0), .int x1] Q := by
  refine met_i (by decide) (Nat.le_of_ble_eq_true rfl) ?_
  intro p e s m args below meth c X hr hlk hw ls hl
  exact s_X10_mirror_0 X hr hlk Q  x1 σ hw (lv_sub hl [0, 1] rfl) hD
theorem hd_X10_kin : ym_X10_kin.cls = "GameLoom" ∧ ym_X10_kin.cls ≠ "java/lang/invoke/MethodHandle" ∧ ym_X10_kin.cls ≠ "java/lang/invoke/VarHandle" ∧ (parseMethodDescriptor ym_X10_kin.desc).map (fun d => d.parameters.length) = some 3 := by decide +kernel
abbrev rm_X10_kin : Room := { frames := 15, cells := 0, slots := 0, locals := 382 }
theorem d_X10_kin_0 : decode cm_X10_kin 0 = .ok (.aload_n 0, 1) := by decide +kernel
theorem d_X10_kin_1 : decode cm_X10_kin 1 = .ok (.iload_n 1, 1) := by decide +kernel
theorem d_X10_kin_2 : decode cm_X10_kin 2 = .ok (.invokevirtual 99, 3) := by decide +kernel
theorem d_X10_kin_5 : decode cm_X10_kin 5 = .ok (.ifCond .ne 11, 3) := by decide +kernel
theorem d_X10_kin_8 : decode cm_X10_kin 8 = .ok (.aload_n 0, 1) := by decide +kernel
theorem d_X10_kin_9 : decode cm_X10_kin 9 = .ok (.iload_n 2, 1) := by decide +kernel
theorem d_X10_kin_10 : decode cm_X10_kin 10 = .ok (.invokevirtual 99, 3) := by decide +kernel
theorem d_X10_kin_13 : decode cm_X10_kin 13 = .ok (.ifCond .eq 9, 3) := by decide +kernel
theorem d_X10_kin_16 : decode cm_X10_kin 16 = .ok (.aload_n 0, 1) := by decide +kernel
theorem d_X10_kin_17 : decode cm_X10_kin 17 = .ok (.iconst (-1), 1) := by decide +kernel
theorem d_X10_kin_18 : decode cm_X10_kin 18 = .ok (.invokevirtual 80, 3) := by decide +kernel
theorem d_X10_kin_21 : decode cm_X10_kin 21 = .ok (.ireturn, 1) := by decide +kernel
theorem d_X10_kin_22 : decode cm_X10_kin 22 = .ok (.iload_n 3, 1) := by decide +kernel
theorem d_X10_kin_23 : decode cm_X10_kin 23 = .ok (.iconst 1, 1) := by decide +kernel
theorem d_X10_kin_24 : decode cm_X10_kin 24 = .ok (.if_icmp .ge 10, 3) := by decide +kernel
theorem d_X10_kin_27 : decode cm_X10_kin 27 = .ok (.aload_n 0, 1) := by decide +kernel
theorem d_X10_kin_28 : decode cm_X10_kin 28 = .ok (.bipush (-4), 2) := by decide +kernel
theorem d_X10_kin_30 : decode cm_X10_kin 30 = .ok (.invokevirtual 80, 3) := by decide +kernel
theorem d_X10_kin_33 : decode cm_X10_kin 33 = .ok (.ireturn, 1) := by decide +kernel
theorem d_X10_kin_34 : decode cm_X10_kin 34 = .ok (.iload_n 3, 1) := by decide +kernel
theorem d_X10_kin_35 : decode cm_X10_kin 35 = .ok (.bipush 6, 2) := by decide +kernel
theorem d_X10_kin_37 : decode cm_X10_kin 37 = .ok (.if_icmp .le 10, 3) := by decide +kernel
theorem d_X10_kin_40 : decode cm_X10_kin 40 = .ok (.aload_n 0, 1) := by decide +kernel
theorem d_X10_kin_41 : decode cm_X10_kin 41 = .ok (.bipush (-6), 2) := by decide +kernel
theorem d_X10_kin_43 : decode cm_X10_kin 43 = .ok (.invokevirtual 80, 3) := by decide +kernel
theorem d_X10_kin_46 : decode cm_X10_kin 46 = .ok (.ireturn, 1) := by decide +kernel
theorem d_X10_kin_47 : decode cm_X10_kin 47 = .ok (.aload_n 0, 1) := by decide +kernel
theorem d_X10_kin_48 : decode cm_X10_kin 48 = .ok (.getfield 59, 3) := by decide +kernel
theorem d_X10_kin_51 : decode cm_X10_kin 51 = .ok (.aload_n 0, 1) := by decide +kernel
theorem d_X10_kin_52 : decode cm_X10_kin 52 = .ok (.getfield 28, 3) := by decide +kernel
theorem d_X10_kin_55 : decode cm_X10_kin 55 = .ok (.iload_n 1, 1) := by decide +kernel
theorem d_X10_kin_56 : decode cm_X10_kin 56 = .ok (.aaload, 1) := by decide +kernel
theorem d_X10_kin_57 : decode cm_X10_kin 57 = .ok (.aload_n 0, 1) := by decide +kernel
theorem d_X10_kin_58 : decode cm_X10_kin 58 = .ok (.getfield 28, 3) := by decide +kernel
theorem d_X10_kin_61 : decode cm_X10_kin 61 = .ok (.iload_n 2, 1) := by decide +kernel
theorem d_X10_kin_62 : decode cm_X10_kin 62 = .ok (.aaload, 1) := by decide +kernel
theorem d_X10_kin_63 : decode cm_X10_kin 63 = .ok (.iload_n 3, 1) := by decide +kernel
theorem d_X10_kin_64 : decode cm_X10_kin 64 = .ok (.invokevirtual 271, 3) := by decide +kernel
theorem d_X10_kin_67 : decode cm_X10_kin 67 = .ok (.istore 4, 2) := by decide +kernel
theorem d_X10_kin_69 : decode cm_X10_kin 69 = .ok (.iload 4, 2) := by decide +kernel
theorem d_X10_kin_71 : decode cm_X10_kin 71 = .ok (.bipush (-5), 2) := by decide +kernel
theorem d_X10_kin_73 : decode cm_X10_kin 73 = .ok (.if_icmp .ne 12, 3) := by decide +kernel
theorem d_X10_kin_76 : decode cm_X10_kin 76 = .ok (.aload_n 0, 1) := by decide +kernel
theorem d_X10_kin_77 : decode cm_X10_kin 77 = .ok (.bipush (-5), 2) := by decide +kernel
theorem d_X10_kin_79 : decode cm_X10_kin 79 = .ok (.invokevirtual 80, 3) := by decide +kernel
theorem d_X10_kin_82 : decode cm_X10_kin 82 = .ok (.goto 5, 3) := by decide +kernel
theorem d_X10_kin_85 : decode cm_X10_kin 85 = .ok (.iload 4, 2) := by decide +kernel
theorem d_X10_kin_87 : decode cm_X10_kin 87 = .ok (.ireturn, 1) := by decide +kernel
def D_X10_kin_16 (Q : Int32 → GSt → Prop) (σ : GSt) : Prop :=
  D_X10_refuse (-1) σ (fun r_1 σ_2 => Q r_1 σ_2)
def D_X10_kin_0 (Q : Int32 → GSt → Prop) (x1 : Int32) (x2 : Int32) (x3 : Int32) (σ : GSt) : Prop :=
  D_X10_isNoGame x1 σ (fun r_1 σ_2 => (¬ r_1 = 0 → D_X10_kin_16 Q σ_2) ∧
  (r_1 = 0 → D_X10_isNoGame x2 σ_2 (fun r_3 σ_4 => (r_3 = 0 → (1 ≤ x3 → (x3 ≤ 6 → vp_in x1 8 ∧ (vp_in x2 8 ∧ (D_X2_sameWays (61 + 22 * Int32.toNatClampNeg x1) (61 + 22 * Int32.toNatClampNeg x2) x3 σ_4 (fun r_5 σ_6 => (¬ r_5 = (-5) → Q r_5 σ_6) ∧
  (r_5 = (-5) → D_X10_refuse (-5) σ_6 (fun r_7 σ_8 => Q r_7 σ_8)))))) ∧
  (¬ x3 ≤ 6 → D_X10_refuse (-6) σ_4 (fun r_9 σ_10 => Q r_9 σ_10))) ∧
  (¬ 1 ≤ x3 → D_X10_refuse (-4) σ_4 (fun r_11 σ_12 => Q r_11 σ_12))) ∧
  (¬ r_3 = 0 → D_X10_kin_16 Q σ_4))))
def D_X10_kin (x1 : Int32) (x2 : Int32) (x3 : Int32) (σ : GSt) (Q : Int32 → GSt → Prop) : Prop := D_X10_kin_0 Q x1 x2 x3 σ
set_option maxRecDepth 20000 in
set_option maxHeartbeats 4000000 in
theorem s_X10_kin_16 {p : Program} {l : Launch} {e : Env} {s : State} {m : MethodId} {args : Array Value} {below : List Frame} {meth : Method} {c : Code} {G : GC} (X : CallFix p m c cm_X10_kin 5 s args lw_us "GameLoom") (hr : meth.sig.returnType = some .int) (hlk : meth.locks = false) (Q : Int32 → GSt → Prop) (σ : GSt) {H : Heap} {locs : List Loc} {ls : Array Slot} (hw : Wo G s H locs σ) (hl : lv_has ls 5 [(0, .ref (G.2.1 0))]) (hD : D_X10_kin_16 Q σ) : W p l e rm_X10_kin s m args below meth c H locs 0 0 (QMI G Q below args s) (F0 m 16 ls []) := by
  unfold D_X10_kin_16 at hD
  refine lv_aload_n X.1 X.2.1 d_X10_kin_16 rfl (lv_at hl 0 rfl) ?_
  refine lv_iconst (v := (-1)) X.1 X.2.1 d_X10_kin_17 (by decide) ?_
  refine gcV_i (rest := []) (As := [.int (-1)]) (o := 0) X hw (c_X10_refuse l G (-1) σ _  hD) (kd_lt (by decide +kernel : kd 0 = 10) (by decide)) (ce_10 G _ (by decide +kernel : kd 0 = 10)) rfl tb_420 tb_422 tv_0 tb_1 tb_423 hd_X10_refuse ⟨rfl, rfl⟩ ⟨Nat.le_of_ble_eq_true rfl, Nat.le_of_ble_eq_true rfl⟩ rfl hl.1 rfl (Nat.le_of_ble_eq_true rfl) d_X10_kin_18 (fun r_1 σ_2 H locs hD hw => ?_)
  exact g_iret X hr hlk hw hD d_X10_kin_21
set_option maxRecDepth 20000 in
set_option maxHeartbeats 4000000 in
theorem s_X10_kin_0 {p : Program} {l : Launch} {e : Env} {s : State} {m : MethodId} {args : Array Value} {below : List Frame} {meth : Method} {c : Code} {G : GC} (X : CallFix p m c cm_X10_kin 5 s args lw_us "GameLoom") (hr : meth.sig.returnType = some .int) (hlk : meth.locks = false) (Q : Int32 → GSt → Prop) (x1 : Int32) (x2 : Int32) (x3 : Int32) (σ : GSt) {H : Heap} {locs : List Loc} {ls : Array Slot} (hw : Wo G s H locs σ) (hl : lv_has ls 5 [(0, .ref (G.2.1 0)), (1, .int x1), (2, .int x2), (3, .int x3)]) (hD : D_X10_kin_0 Q x1 x2 x3 σ) : W p l e rm_X10_kin s m args below meth c H locs 0 0 (QMI G Q below args s) (F0 m 0 ls []) := by
  unfold D_X10_kin_0 at hD
  refine lv_aload_n X.1 X.2.1 d_X10_kin_0 rfl (lv_at hl 0 rfl) ?_
  refine lv_iload_n X.1 X.2.1 d_X10_kin_1 rfl (lv_at hl 1 rfl) ?_
  refine gcV_i (rest := []) (As := [.int x1]) (o := 0) X hw (c_X10_isNoGame l G x1 σ _  hD) (kd_lt (by decide +kernel : kd 0 = 10) (by decide)) (ce_10 G _ (by decide +kernel : kd 0 = 10)) rfl tb_526 tb_528 tv_17 tb_1 tb_529 hd_X10_isNoGame ⟨rfl, rfl⟩ ⟨Nat.le_of_ble_eq_true rfl, Nat.le_of_ble_eq_true rfl⟩ rfl hl.1 rfl (Nat.le_of_ble_eq_true rfl) d_X10_kin_2 (fun r_1 σ_2 H locs hD hw => ?_)
  refine lv_if_ne (tgt := 16) X.1 X.2.1 d_X10_kin_5 (by decide) (fun q_5 => ?_) (fun q_5 => ?_)
  · have hD := hD.1 q_5
    exact s_X10_kin_16 X hr hlk  Q   σ_2 hw (lv_sub hl [0] rfl) hD
  · have hD := hD.2 q_5
    refine lv_aload_n X.1 X.2.1 d_X10_kin_8 rfl (lv_at hl 0 rfl) ?_
    refine lv_iload_n X.1 X.2.1 d_X10_kin_9 rfl (lv_at hl 2 rfl) ?_
    refine gcV_i (rest := []) (As := [.int x2]) (o := 0) X hw (c_X10_isNoGame l G x2 σ_2 _  hD) (kd_lt (by decide +kernel : kd 0 = 10) (by decide)) (ce_10 G _ (by decide +kernel : kd 0 = 10)) rfl tb_526 tb_528 tv_17 tb_1 tb_529 hd_X10_isNoGame ⟨rfl, rfl⟩ ⟨Nat.le_of_ble_eq_true rfl, Nat.le_of_ble_eq_true rfl⟩ rfl hl.1 rfl (Nat.le_of_ble_eq_true rfl) d_X10_kin_10 (fun r_3 σ_4 H locs hD hw => ?_)
    refine lv_if_eq (tgt := 22) X.1 X.2.1 d_X10_kin_13 (by decide) (fun q_13 => ?_) (fun q_13 => ?_)
    · have hD := hD.1 q_13
      refine lv_iload_n X.1 X.2.1 d_X10_kin_22 rfl (lv_at hl 3 rfl) ?_
      refine lv_iconst (v := 1) X.1 X.2.1 d_X10_kin_23 (by decide) ?_
      refine lv_icmp_ge (tgt := 34) X.1 X.2.1 d_X10_kin_24 (by decide) (fun q_24 => ?_) (fun q_24 => ?_)
      · have hD := hD.1 q_24
        refine lv_iload_n X.1 X.2.1 d_X10_kin_34 rfl (lv_at hl 3 rfl) ?_
        refine lv_bipush (v := 6) X.1 X.2.1 d_X10_kin_35 (by decide) ?_
        refine lv_icmp_le (tgt := 47) X.1 X.2.1 d_X10_kin_37 (by decide) (fun q_37 => ?_) (fun q_37 => ?_)
        · have hD := hD.1 q_37
          refine lv_aload_n X.1 X.2.1 d_X10_kin_47 rfl (lv_at hl 0 rfl) ?_
          refine gf_10_9 X hw (by decide +kernel : kd 0 = 10) tb_382 d_X10_kin_48 ?_
          refine lv_aload_n X.1 X.2.1 d_X10_kin_51 rfl (lv_at hl 0 rfl) ?_
          refine gf_10_3 X hw (by decide +kernel : kd 0 = 10) tb_376 d_X10_kin_52 ?_
          refine lv_iload_n X.1 X.2.1 d_X10_kin_55 rfl (lv_at hl 1 rfl) ?_
          obtain ⟨q_56, hD⟩ := hD
          refine g_aald14 X hw ly_10_3.1 q_56 d_X10_kin_56 ?_
          refine lv_aload_n X.1 X.2.1 d_X10_kin_57 rfl (lv_at hl 0 rfl) ?_
          refine gf_10_3 X hw (by decide +kernel : kd 0 = 10) tb_376 d_X10_kin_58 ?_
          refine lv_iload_n X.1 X.2.1 d_X10_kin_61 rfl (lv_at hl 2 rfl) ?_
          obtain ⟨q_62, hD⟩ := hD
          refine g_aald14 X hw ly_10_3.1 q_62 d_X10_kin_62 ?_
          refine lv_iload_n X.1 X.2.1 d_X10_kin_63 rfl (lv_at hl 3 rfl) ?_
          refine gcV_i (rest := []) (As := [.ref (G.2.1 (61 + 22 * Int32.toNatClampNeg x1)), .ref (G.2.1 (61 + 22 * Int32.toNatClampNeg x2)), .int x3]) (o := 49) X hw (c_X2_sameWays l G (61 + 22 * Int32.toNatClampNeg x1) (61 + 22 * Int32.toNatClampNeg x2) x3 σ_4 _ (le_14 ly_10_3.1 q_56) (le_14 ly_10_3.1 q_62) hD) (kd_lt ly_10_9 (by decide)) (ce_2 G _ ly_10_9) rfl tb_832 tb_833 tb_834 tb_10 tb_835 hd_X2_sameWays ⟨rfl, rfl⟩ ⟨Nat.le_of_ble_eq_true rfl, Nat.le_of_ble_eq_true rfl⟩ rfl hl.1 rfl (Nat.le_of_ble_eq_true rfl) d_X10_kin_64 (fun r_5 σ_6 H locs hD hw => ?_)
          refine lv_istore (lv' := [(4, .int r_5), (0, .ref (G.2.1 0)), (1, .int x1), (2, .int x2), (3, .int x3)]) X.1 X.2.1 d_X10_kin_67 hl (by decide) rfl (fun ls hl => ?_)
          refine lv_iload X.1 X.2.1 d_X10_kin_69 (lv_at hl 0 rfl) ?_
          refine lv_bipush (v := (-5)) X.1 X.2.1 d_X10_kin_71 (by decide) ?_
          refine lv_icmp_ne (tgt := 85) X.1 X.2.1 d_X10_kin_73 (by decide) (fun q_73 => ?_) (fun q_73 => ?_)
          · have hD := hD.1 q_73
            refine lv_iload X.1 X.2.1 d_X10_kin_85 (lv_at hl 0 rfl) ?_
            exact g_iret X hr hlk hw hD d_X10_kin_87
          · have hD := hD.2 q_73
            refine lv_aload_n X.1 X.2.1 d_X10_kin_76 rfl (lv_at hl 1 rfl) ?_
            refine lv_bipush (v := (-5)) X.1 X.2.1 d_X10_kin_77 (by decide) ?_
            refine gcV_i (rest := []) (As := [.int (-5)]) (o := 0) X hw (c_X10_refuse l G (-5) σ_6 _  hD) (kd_lt (by decide +kernel : kd 0 = 10) (by decide)) (ce_10 G _ (by decide +kernel : kd 0 = 10)) rfl tb_420 tb_422 tv_0 tb_1 tb_423 hd_X10_refuse ⟨rfl, rfl⟩ ⟨Nat.le_of_ble_eq_true rfl, Nat.le_of_ble_eq_true rfl⟩ rfl hl.1 rfl (Nat.le_of_ble_eq_true rfl) d_X10_kin_79 (fun r_7 σ_8 H locs hD hw => ?_)
            refine lv_goto (tgt := 87) X.1 X.2.1 d_X10_kin_82 (by decide) ?_
            exact g_iret X hr hlk hw hD d_X10_kin_87
        · have hD := hD.2 q_37
          refine lv_aload_n X.1 X.2.1 d_X10_kin_40 rfl (lv_at hl 0 rfl) ?_
          refine lv_bipush (v := (-6)) X.1 X.2.1 d_X10_kin_41 (by decide) ?_
          refine gcV_i (rest := []) (As := [.int (-6)]) (o := 0) X hw (c_X10_refuse l G (-6) σ_4 _  hD) (kd_lt (by decide +kernel : kd 0 = 10) (by decide)) (ce_10 G _ (by decide +kernel : kd 0 = 10)) rfl tb_420 tb_422 tv_0 tb_1 tb_423 hd_X10_refuse ⟨rfl, rfl⟩ ⟨Nat.le_of_ble_eq_true rfl, Nat.le_of_ble_eq_true rfl⟩ rfl hl.1 rfl (Nat.le_of_ble_eq_true rfl) d_X10_kin_43 (fun r_9 σ_10 H locs hD hw => ?_)
          exact g_iret X hr hlk hw hD d_X10_kin_46
      · have hD := hD.2 q_24
        refine lv_aload_n X.1 X.2.1 d_X10_kin_27 rfl (lv_at hl 0 rfl) ?_
        refine lv_bipush (v := (-4)) X.1 X.2.1 d_X10_kin_28 (by decide) ?_
        refine gcV_i (rest := []) (As := [.int (-4)]) (o := 0) X hw (c_X10_refuse l G (-4) σ_4 _  hD) (kd_lt (by decide +kernel : kd 0 = 10) (by decide)) (ce_10 G _ (by decide +kernel : kd 0 = 10)) rfl tb_420 tb_422 tv_0 tb_1 tb_423 hd_X10_refuse ⟨rfl, rfl⟩ ⟨Nat.le_of_ble_eq_true rfl, Nat.le_of_ble_eq_true rfl⟩ rfl hl.1 rfl (Nat.le_of_ble_eq_true rfl) d_X10_kin_30 (fun r_11 σ_12 H locs hD hw => ?_)
        exact g_iret X hr hlk hw hD d_X10_kin_33
    · have hD := hD.2 q_13
      exact s_X10_kin_16 X hr hlk  Q   σ_4 hw (lv_sub hl [0] rfl) hD
theorem c_X10_kin (l : Launch) (G : GC) (x1 : Int32) (x2 : Int32) (x3 : Int32) (σ : GSt) (Q : Int32 → GSt → Prop)  (hD : D_X10_kin x1 x2 x3 σ Q) : MI l ym_X10_kin cm_X10_kin 5 .int rm_X10_kin G σ [.ref (G.2.1 0), .int x1, .int x2, .int x3] Q := by
  refine met_i (by decide) (Nat.le_of_ble_eq_true rfl) ?_
  intro p e s m args below meth c X hr hlk hw ls hl
  exact s_X10_kin_0 X hr hlk Q  x1 x2 x3 σ hw (lv_sub hl [0, 1, 2, 3] rfl) hD
theorem hd_X10_refusalOfJudging : ym_X10_refusalOfJudging.cls = "GameLoom" ∧ ym_X10_refusalOfJudging.cls ≠ "java/lang/invoke/MethodHandle" ∧ ym_X10_refusalOfJudging.cls ≠ "java/lang/invoke/VarHandle" ∧ (parseMethodDescriptor ym_X10_refusalOfJudging.desc).map (fun d => d.parameters.length) = some 2 := by decide +kernel
abbrev rm_X10_refusalOfJudging : Room := { frames := 1, cells := 0, slots := 0, locals := 21 }
theorem d_X10_refusalOfJudging_0 : decode cm_X10_refusalOfJudging 0 = .ok (.aload_n 0, 1) := by decide +kernel
theorem d_X10_refusalOfJudging_1 : decode cm_X10_refusalOfJudging 1 = .ok (.iload_n 1, 1) := by decide +kernel
theorem d_X10_refusalOfJudging_2 : decode cm_X10_refusalOfJudging 2 = .ok (.invokevirtual 99, 3) := by decide +kernel
theorem d_X10_refusalOfJudging_5 : decode cm_X10_refusalOfJudging 5 = .ok (.ifCond .eq 5, 3) := by decide +kernel
theorem d_X10_refusalOfJudging_8 : decode cm_X10_refusalOfJudging 8 = .ok (.iconst (-1), 1) := by decide +kernel
theorem d_X10_refusalOfJudging_9 : decode cm_X10_refusalOfJudging 9 = .ok (.ireturn, 1) := by decide +kernel
theorem d_X10_refusalOfJudging_10 : decode cm_X10_refusalOfJudging 10 = .ok (.iload_n 2, 1) := by decide +kernel
theorem d_X10_refusalOfJudging_11 : decode cm_X10_refusalOfJudging 11 = .ok (.iconst 1, 1) := by decide +kernel
theorem d_X10_refusalOfJudging_12 : decode cm_X10_refusalOfJudging 12 = .ok (.if_icmp .ge 6, 3) := by decide +kernel
theorem d_X10_refusalOfJudging_15 : decode cm_X10_refusalOfJudging 15 = .ok (.bipush (-4), 2) := by decide +kernel
theorem d_X10_refusalOfJudging_17 : decode cm_X10_refusalOfJudging 17 = .ok (.ireturn, 1) := by decide +kernel
theorem d_X10_refusalOfJudging_18 : decode cm_X10_refusalOfJudging 18 = .ok (.iload_n 2, 1) := by decide +kernel
theorem d_X10_refusalOfJudging_19 : decode cm_X10_refusalOfJudging 19 = .ok (.iconst 4, 1) := by decide +kernel
theorem d_X10_refusalOfJudging_20 : decode cm_X10_refusalOfJudging 20 = .ok (.if_icmp .le 8, 3) := by decide +kernel
theorem d_X10_refusalOfJudging_23 : decode cm_X10_refusalOfJudging 23 = .ok (.bipush (-6), 2) := by decide +kernel
theorem d_X10_refusalOfJudging_25 : decode cm_X10_refusalOfJudging 25 = .ok (.goto 4, 3) := by decide +kernel
theorem d_X10_refusalOfJudging_28 : decode cm_X10_refusalOfJudging 28 = .ok (.iconst 0, 1) := by decide +kernel
theorem d_X10_refusalOfJudging_29 : decode cm_X10_refusalOfJudging 29 = .ok (.ireturn, 1) := by decide +kernel
def D_X10_refusalOfJudging_0 (Q : Int32 → GSt → Prop) (x1 : Int32) (x2 : Int32) (σ : GSt) : Prop :=
  D_X10_isNoGame x1 σ (fun r_1 σ_2 => (r_1 = 0 → (1 ≤ x2 → (x2 ≤ 4 → Q 0 σ_2) ∧
  (¬ x2 ≤ 4 → Q (-6) σ_2)) ∧
  (¬ 1 ≤ x2 → Q (-4) σ_2)) ∧
  (¬ r_1 = 0 → Q (-1) σ_2))
def D_X10_refusalOfJudging (x1 : Int32) (x2 : Int32) (σ : GSt) (Q : Int32 → GSt → Prop) : Prop := D_X10_refusalOfJudging_0 Q x1 x2 σ
set_option maxRecDepth 20000 in
set_option maxHeartbeats 4000000 in
theorem s_X10_refusalOfJudging_0 {p : Program} {l : Launch} {e : Env} {s : State} {m : MethodId} {args : Array Value} {below : List Frame} {meth : Method} {c : Code} {G : GC} (X : CallFix p m c cm_X10_refusalOfJudging 3 s args lw_us "GameLoom") (hr : meth.sig.returnType = some .int) (hlk : meth.locks = false) (Q : Int32 → GSt → Prop) (x1 : Int32) (x2 : Int32) (σ : GSt) {H : Heap} {locs : List Loc} {ls : Array Slot} (hw : Wo G s H locs σ) (hl : lv_has ls 3 [(0, .ref (G.2.1 0)), (1, .int x1), (2, .int x2)]) (hD : D_X10_refusalOfJudging_0 Q x1 x2 σ) : W p l e rm_X10_refusalOfJudging s m args below meth c H locs 0 0 (QMI G Q below args s) (F0 m 0 ls []) := by
  unfold D_X10_refusalOfJudging_0 at hD
  refine lv_aload_n X.1 X.2.1 d_X10_refusalOfJudging_0 rfl (lv_at hl 0 rfl) ?_
  refine lv_iload_n X.1 X.2.1 d_X10_refusalOfJudging_1 rfl (lv_at hl 1 rfl) ?_
  refine gcV_i (rest := []) (As := [.int x1]) (o := 0) X hw (c_X10_isNoGame l G x1 σ _  hD) (kd_lt (by decide +kernel : kd 0 = 10) (by decide)) (ce_10 G _ (by decide +kernel : kd 0 = 10)) rfl tb_526 tb_528 tv_17 tb_1 tb_529 hd_X10_isNoGame ⟨rfl, rfl⟩ ⟨Nat.le_of_ble_eq_true rfl, Nat.le_of_ble_eq_true rfl⟩ rfl hl.1 rfl (Nat.le_of_ble_eq_true rfl) d_X10_refusalOfJudging_2 (fun r_1 σ_2 H locs hD hw => ?_)
  refine lv_if_eq (tgt := 10) X.1 X.2.1 d_X10_refusalOfJudging_5 (by decide) (fun q_5 => ?_) (fun q_5 => ?_)
  · have hD := hD.1 q_5
    refine lv_iload_n X.1 X.2.1 d_X10_refusalOfJudging_10 rfl (lv_at hl 2 rfl) ?_
    refine lv_iconst (v := 1) X.1 X.2.1 d_X10_refusalOfJudging_11 (by decide) ?_
    refine lv_icmp_ge (tgt := 18) X.1 X.2.1 d_X10_refusalOfJudging_12 (by decide) (fun q_12 => ?_) (fun q_12 => ?_)
    · have hD := hD.1 q_12
      refine lv_iload_n X.1 X.2.1 d_X10_refusalOfJudging_18 rfl (lv_at hl 2 rfl) ?_
      refine lv_iconst (v := 4) X.1 X.2.1 d_X10_refusalOfJudging_19 (by decide) ?_
      refine lv_icmp_le (tgt := 28) X.1 X.2.1 d_X10_refusalOfJudging_20 (by decide) (fun q_20 => ?_) (fun q_20 => ?_)
      · have hD := hD.1 q_20
        refine lv_iconst (v := 0) X.1 X.2.1 d_X10_refusalOfJudging_28 (by decide) ?_
        exact g_iret X hr hlk hw hD d_X10_refusalOfJudging_29
      · have hD := hD.2 q_20
        refine lv_bipush (v := (-6)) X.1 X.2.1 d_X10_refusalOfJudging_23 (by decide) ?_
        refine lv_goto (tgt := 29) X.1 X.2.1 d_X10_refusalOfJudging_25 (by decide) ?_
        exact g_iret X hr hlk hw hD d_X10_refusalOfJudging_29
    · have hD := hD.2 q_12
      refine lv_bipush (v := (-4)) X.1 X.2.1 d_X10_refusalOfJudging_15 (by decide) ?_
      exact g_iret X hr hlk hw hD d_X10_refusalOfJudging_17
  · have hD := hD.2 q_5
    refine lv_iconst (v := (-1)) X.1 X.2.1 d_X10_refusalOfJudging_8 (by decide) ?_
    exact g_iret X hr hlk hw hD d_X10_refusalOfJudging_9
theorem c_X10_refusalOfJudging (l : Launch) (G : GC) (x1 : Int32) (x2 : Int32) (σ : GSt) (Q : Int32 → GSt → Prop)  (hD : D_X10_refusalOfJudging x1 x2 σ Q) : MI l ym_X10_refusalOfJudging cm_X10_refusalOfJudging 3 .int rm_X10_refusalOfJudging G σ [.ref (G.2.1 0), .int x1, .int x2] Q := by
  refine met_i (by decide) (Nat.le_of_ble_eq_true rfl) ?_
  intro p e s m args below meth c X hr hlk hw ls hl
  exact s_X10_refusalOfJudging_0 X hr hlk Q  x1 x2 σ hw (lv_sub hl [0, 1, 2] rfl) hD
theorem hd_X10_puzzle : ym_X10_puzzle.cls = "GameLoom" ∧ ym_X10_puzzle.cls ≠ "java/lang/invoke/MethodHandle" ∧ ym_X10_puzzle.cls ≠ "java/lang/invoke/VarHandle" ∧ (parseMethodDescriptor ym_X10_puzzle.desc).map (fun d => d.parameters.length) = some 3 := by decide +kernel
abbrev rm_X10_puzzle : Room := { frames := 16, cells := 0, slots := 0, locals := 409 }
theorem d_X10_puzzle_0 : decode cm_X10_puzzle 0 = .ok (.aload_n 0, 1) := by decide +kernel
theorem d_X10_puzzle_1 : decode cm_X10_puzzle 1 = .ok (.iload_n 1, 1) := by decide +kernel
theorem d_X10_puzzle_2 : decode cm_X10_puzzle 2 = .ok (.iload_n 3, 1) := by decide +kernel
theorem d_X10_puzzle_3 : decode cm_X10_puzzle 3 = .ok (.invokevirtual 275, 3) := by decide +kernel
theorem d_X10_puzzle_6 : decode cm_X10_puzzle 6 = .ok (.istore 4, 2) := by decide +kernel
theorem d_X10_puzzle_8 : decode cm_X10_puzzle 8 = .ok (.iload 4, 2) := by decide +kernel
theorem d_X10_puzzle_10 : decode cm_X10_puzzle 10 = .ok (.ifCond .eq 12, 3) := by decide +kernel
theorem d_X10_puzzle_13 : decode cm_X10_puzzle 13 = .ok (.aload_n 0, 1) := by decide +kernel
theorem d_X10_puzzle_14 : decode cm_X10_puzzle 14 = .ok (.iload 4, 2) := by decide +kernel
theorem d_X10_puzzle_16 : decode cm_X10_puzzle 16 = .ok (.invokevirtual 80, 3) := by decide +kernel
theorem d_X10_puzzle_19 : decode cm_X10_puzzle 19 = .ok (.goto 18, 3) := by decide +kernel
theorem d_X10_puzzle_22 : decode cm_X10_puzzle 22 = .ok (.aload_n 0, 1) := by decide +kernel
theorem d_X10_puzzle_23 : decode cm_X10_puzzle 23 = .ok (.getfield 59, 3) := by decide +kernel
theorem d_X10_puzzle_26 : decode cm_X10_puzzle 26 = .ok (.aload_n 0, 1) := by decide +kernel
theorem d_X10_puzzle_27 : decode cm_X10_puzzle 27 = .ok (.getfield 28, 3) := by decide +kernel
theorem d_X10_puzzle_30 : decode cm_X10_puzzle 30 = .ok (.iload_n 1, 1) := by decide +kernel
theorem d_X10_puzzle_31 : decode cm_X10_puzzle 31 = .ok (.aaload, 1) := by decide +kernel
theorem d_X10_puzzle_32 : decode cm_X10_puzzle 32 = .ok (.iload_n 2, 1) := by decide +kernel
theorem d_X10_puzzle_33 : decode cm_X10_puzzle 33 = .ok (.iload_n 3, 1) := by decide +kernel
theorem d_X10_puzzle_34 : decode cm_X10_puzzle 34 = .ok (.invokevirtual 278, 3) := by decide +kernel
theorem d_X10_puzzle_37 : decode cm_X10_puzzle 37 = .ok (.ireturn, 1) := by decide +kernel
def D_X10_puzzle_0 (Q : Int32 → GSt → Prop) (x1 : Int32) (x2 : Int32) (x3 : Int32) (σ : GSt) : Prop :=
  D_X10_refusalOfJudging x1 x3 σ (fun r_1 σ_2 => (r_1 = 0 → vp_in x1 8 ∧ (D_X2_firstPuzzle (61 + 22 * Int32.toNatClampNeg x1) x2 x3 σ_2 (fun r_3 σ_4 => Q r_3 σ_4))) ∧
  (¬ r_1 = 0 → D_X10_refuse r_1 σ_2 (fun r_5 σ_6 => Q r_5 σ_6)))
def D_X10_puzzle (x1 : Int32) (x2 : Int32) (x3 : Int32) (σ : GSt) (Q : Int32 → GSt → Prop) : Prop := D_X10_puzzle_0 Q x1 x2 x3 σ
set_option maxRecDepth 20000 in
set_option maxHeartbeats 4000000 in
theorem s_X10_puzzle_0 {p : Program} {l : Launch} {e : Env} {s : State} {m : MethodId} {args : Array Value} {below : List Frame} {meth : Method} {c : Code} {G : GC} (X : CallFix p m c cm_X10_puzzle 5 s args lw_us "GameLoom") (hr : meth.sig.returnType = some .int) (hlk : meth.locks = false) (Q : Int32 → GSt → Prop) (x1 : Int32) (x2 : Int32) (x3 : Int32) (σ : GSt) {H : Heap} {locs : List Loc} {ls : Array Slot} (hw : Wo G s H locs σ) (hl : lv_has ls 5 [(0, .ref (G.2.1 0)), (1, .int x1), (2, .int x2), (3, .int x3)]) (hD : D_X10_puzzle_0 Q x1 x2 x3 σ) : W p l e rm_X10_puzzle s m args below meth c H locs 0 0 (QMI G Q below args s) (F0 m 0 ls []) := by
  unfold D_X10_puzzle_0 at hD
  refine lv_aload_n X.1 X.2.1 d_X10_puzzle_0 rfl (lv_at hl 0 rfl) ?_
  refine lv_iload_n X.1 X.2.1 d_X10_puzzle_1 rfl (lv_at hl 1 rfl) ?_
  refine lv_iload_n X.1 X.2.1 d_X10_puzzle_2 rfl (lv_at hl 3 rfl) ?_
  refine gcV_i (rest := []) (As := [.int x1, .int x3]) (o := 0) X hw (c_X10_refusalOfJudging l G x1 x3 σ _  hD) (kd_lt (by decide +kernel : kd 0 = 10) (by decide)) (ce_10 G _ (by decide +kernel : kd 0 = 10)) rfl tb_845 tb_847 tv_32 tb_1 tb_848 hd_X10_refusalOfJudging ⟨rfl, rfl⟩ ⟨Nat.le_of_ble_eq_true rfl, Nat.le_of_ble_eq_true rfl⟩ rfl hl.1 rfl (Nat.le_of_ble_eq_true rfl) d_X10_puzzle_3 (fun r_1 σ_2 H locs hD hw => ?_)
  refine lv_istore (lv' := [(4, .int r_1), (0, .ref (G.2.1 0)), (1, .int x1), (2, .int x2), (3, .int x3)]) X.1 X.2.1 d_X10_puzzle_6 hl (by decide) rfl (fun ls hl => ?_)
  refine lv_iload X.1 X.2.1 d_X10_puzzle_8 (lv_at hl 0 rfl) ?_
  refine lv_if_eq (tgt := 22) X.1 X.2.1 d_X10_puzzle_10 (by decide) (fun q_10 => ?_) (fun q_10 => ?_)
  · have hD := hD.1 q_10
    refine lv_aload_n X.1 X.2.1 d_X10_puzzle_22 rfl (lv_at hl 1 rfl) ?_
    refine gf_10_9 X hw (by decide +kernel : kd 0 = 10) tb_382 d_X10_puzzle_23 ?_
    refine lv_aload_n X.1 X.2.1 d_X10_puzzle_26 rfl (lv_at hl 1 rfl) ?_
    refine gf_10_3 X hw (by decide +kernel : kd 0 = 10) tb_376 d_X10_puzzle_27 ?_
    refine lv_iload_n X.1 X.2.1 d_X10_puzzle_30 rfl (lv_at hl 2 rfl) ?_
    obtain ⟨q_31, hD⟩ := hD
    refine g_aald14 X hw ly_10_3.1 q_31 d_X10_puzzle_31 ?_
    refine lv_iload_n X.1 X.2.1 d_X10_puzzle_32 rfl (lv_at hl 3 rfl) ?_
    refine lv_iload_n X.1 X.2.1 d_X10_puzzle_33 rfl (lv_at hl 4 rfl) ?_
    refine gcV_i (rest := []) (As := [.ref (G.2.1 (61 + 22 * Int32.toNatClampNeg x1)), .int x2, .int x3]) (o := 49) X hw (c_X2_firstPuzzle l G (61 + 22 * Int32.toNatClampNeg x1) x2 x3 σ_2 _ (le_14 ly_10_3.1 q_31) hD) (kd_lt ly_10_9 (by decide)) (ce_2 G _ ly_10_9) rfl tb_849 tb_850 tb_851 tb_10 tb_852 hd_X2_firstPuzzle ⟨rfl, rfl⟩ ⟨Nat.le_of_ble_eq_true rfl, Nat.le_of_ble_eq_true rfl⟩ rfl hl.1 rfl (Nat.le_of_ble_eq_true rfl) d_X10_puzzle_34 (fun r_3 σ_4 H locs hD hw => ?_)
    exact g_iret X hr hlk hw hD d_X10_puzzle_37
  · have hD := hD.2 q_10
    refine lv_aload_n X.1 X.2.1 d_X10_puzzle_13 rfl (lv_at hl 1 rfl) ?_
    refine lv_iload X.1 X.2.1 d_X10_puzzle_14 (lv_at hl 0 rfl) ?_
    refine gcV_i (rest := []) (As := [.int r_1]) (o := 0) X hw (c_X10_refuse l G r_1 σ_2 _  hD) (kd_lt (by decide +kernel : kd 0 = 10) (by decide)) (ce_10 G _ (by decide +kernel : kd 0 = 10)) rfl tb_420 tb_422 tv_0 tb_1 tb_423 hd_X10_refuse ⟨rfl, rfl⟩ ⟨Nat.le_of_ble_eq_true rfl, Nat.le_of_ble_eq_true rfl⟩ rfl hl.1 rfl (Nat.le_of_ble_eq_true rfl) d_X10_puzzle_16 (fun r_5 σ_6 H locs hD hw => ?_)
    refine lv_goto (tgt := 37) X.1 X.2.1 d_X10_puzzle_19 (by decide) ?_
    exact g_iret X hr hlk hw hD d_X10_puzzle_37
theorem c_X10_puzzle (l : Launch) (G : GC) (x1 : Int32) (x2 : Int32) (x3 : Int32) (σ : GSt) (Q : Int32 → GSt → Prop)  (hD : D_X10_puzzle x1 x2 x3 σ Q) : MI l ym_X10_puzzle cm_X10_puzzle 5 .int rm_X10_puzzle G σ [.ref (G.2.1 0), .int x1, .int x2, .int x3] Q := by
  refine met_i (by decide) (Nat.le_of_ble_eq_true rfl) ?_
  intro p e s m args below meth c X hr hlk hw ls hl
  exact s_X10_puzzle_0 X hr hlk Q  x1 x2 x3 σ hw (lv_sub hl [0, 1, 2, 3] rfl) hD
theorem hd_X10_blunder : ym_X10_blunder.cls = "GameLoom" ∧ ym_X10_blunder.cls ≠ "java/lang/invoke/MethodHandle" ∧ ym_X10_blunder.cls ≠ "java/lang/invoke/VarHandle" ∧ (parseMethodDescriptor ym_X10_blunder.desc).map (fun d => d.parameters.length) = some 3 := by decide +kernel
abbrev rm_X10_blunder : Room := { frames := 15, cells := 0, slots := 0, locals := 385 }
theorem d_X10_blunder_0 : decode cm_X10_blunder 0 = .ok (.aload_n 0, 1) := by decide +kernel
theorem d_X10_blunder_1 : decode cm_X10_blunder 1 = .ok (.iload_n 1, 1) := by decide +kernel
theorem d_X10_blunder_2 : decode cm_X10_blunder 2 = .ok (.iload_n 3, 1) := by decide +kernel
theorem d_X10_blunder_3 : decode cm_X10_blunder 3 = .ok (.invokevirtual 275, 3) := by decide +kernel
theorem d_X10_blunder_6 : decode cm_X10_blunder 6 = .ok (.istore 4, 2) := by decide +kernel
theorem d_X10_blunder_8 : decode cm_X10_blunder 8 = .ok (.iload 4, 2) := by decide +kernel
theorem d_X10_blunder_10 : decode cm_X10_blunder 10 = .ok (.ifCond .eq 12, 3) := by decide +kernel
theorem d_X10_blunder_13 : decode cm_X10_blunder 13 = .ok (.aload_n 0, 1) := by decide +kernel
theorem d_X10_blunder_14 : decode cm_X10_blunder 14 = .ok (.iload 4, 2) := by decide +kernel
theorem d_X10_blunder_16 : decode cm_X10_blunder 16 = .ok (.invokevirtual 80, 3) := by decide +kernel
theorem d_X10_blunder_19 : decode cm_X10_blunder 19 = .ok (.goto 18, 3) := by decide +kernel
theorem d_X10_blunder_22 : decode cm_X10_blunder 22 = .ok (.aload_n 0, 1) := by decide +kernel
theorem d_X10_blunder_23 : decode cm_X10_blunder 23 = .ok (.getfield 59, 3) := by decide +kernel
theorem d_X10_blunder_26 : decode cm_X10_blunder 26 = .ok (.aload_n 0, 1) := by decide +kernel
theorem d_X10_blunder_27 : decode cm_X10_blunder 27 = .ok (.getfield 28, 3) := by decide +kernel
theorem d_X10_blunder_30 : decode cm_X10_blunder 30 = .ok (.iload_n 1, 1) := by decide +kernel
theorem d_X10_blunder_31 : decode cm_X10_blunder 31 = .ok (.aaload, 1) := by decide +kernel
theorem d_X10_blunder_32 : decode cm_X10_blunder 32 = .ok (.iload_n 2, 1) := by decide +kernel
theorem d_X10_blunder_33 : decode cm_X10_blunder 33 = .ok (.iload_n 3, 1) := by decide +kernel
theorem d_X10_blunder_34 : decode cm_X10_blunder 34 = .ok (.invokevirtual 282, 3) := by decide +kernel
theorem d_X10_blunder_37 : decode cm_X10_blunder 37 = .ok (.ireturn, 1) := by decide +kernel
def D_X10_blunder_0 (Q : Int32 → GSt → Prop) (x1 : Int32) (x2 : Int32) (x3 : Int32) (σ : GSt) : Prop :=
  D_X10_refusalOfJudging x1 x3 σ (fun r_1 σ_2 => (r_1 = 0 → vp_in x1 8 ∧ (D_X2_firstBlunder (61 + 22 * Int32.toNatClampNeg x1) x2 x3 σ_2 (fun r_3 σ_4 => Q r_3 σ_4))) ∧
  (¬ r_1 = 0 → D_X10_refuse r_1 σ_2 (fun r_5 σ_6 => Q r_5 σ_6)))
def D_X10_blunder (x1 : Int32) (x2 : Int32) (x3 : Int32) (σ : GSt) (Q : Int32 → GSt → Prop) : Prop := D_X10_blunder_0 Q x1 x2 x3 σ
set_option maxRecDepth 20000 in
set_option maxHeartbeats 4000000 in
theorem s_X10_blunder_0 {p : Program} {l : Launch} {e : Env} {s : State} {m : MethodId} {args : Array Value} {below : List Frame} {meth : Method} {c : Code} {G : GC} (X : CallFix p m c cm_X10_blunder 5 s args lw_us "GameLoom") (hr : meth.sig.returnType = some .int) (hlk : meth.locks = false) (Q : Int32 → GSt → Prop) (x1 : Int32) (x2 : Int32) (x3 : Int32) (σ : GSt) {H : Heap} {locs : List Loc} {ls : Array Slot} (hw : Wo G s H locs σ) (hl : lv_has ls 5 [(0, .ref (G.2.1 0)), (1, .int x1), (2, .int x2), (3, .int x3)]) (hD : D_X10_blunder_0 Q x1 x2 x3 σ) : W p l e rm_X10_blunder s m args below meth c H locs 0 0 (QMI G Q below args s) (F0 m 0 ls []) := by
  unfold D_X10_blunder_0 at hD
  refine lv_aload_n X.1 X.2.1 d_X10_blunder_0 rfl (lv_at hl 0 rfl) ?_
  refine lv_iload_n X.1 X.2.1 d_X10_blunder_1 rfl (lv_at hl 1 rfl) ?_
  refine lv_iload_n X.1 X.2.1 d_X10_blunder_2 rfl (lv_at hl 3 rfl) ?_
  refine gcV_i (rest := []) (As := [.int x1, .int x3]) (o := 0) X hw (c_X10_refusalOfJudging l G x1 x3 σ _  hD) (kd_lt (by decide +kernel : kd 0 = 10) (by decide)) (ce_10 G _ (by decide +kernel : kd 0 = 10)) rfl tb_845 tb_847 tv_32 tb_1 tb_848 hd_X10_refusalOfJudging ⟨rfl, rfl⟩ ⟨Nat.le_of_ble_eq_true rfl, Nat.le_of_ble_eq_true rfl⟩ rfl hl.1 rfl (Nat.le_of_ble_eq_true rfl) d_X10_blunder_3 (fun r_1 σ_2 H locs hD hw => ?_)
  refine lv_istore (lv' := [(4, .int r_1), (0, .ref (G.2.1 0)), (1, .int x1), (2, .int x2), (3, .int x3)]) X.1 X.2.1 d_X10_blunder_6 hl (by decide) rfl (fun ls hl => ?_)
  refine lv_iload X.1 X.2.1 d_X10_blunder_8 (lv_at hl 0 rfl) ?_
  refine lv_if_eq (tgt := 22) X.1 X.2.1 d_X10_blunder_10 (by decide) (fun q_10 => ?_) (fun q_10 => ?_)
  · have hD := hD.1 q_10
    refine lv_aload_n X.1 X.2.1 d_X10_blunder_22 rfl (lv_at hl 1 rfl) ?_
    refine gf_10_9 X hw (by decide +kernel : kd 0 = 10) tb_382 d_X10_blunder_23 ?_
    refine lv_aload_n X.1 X.2.1 d_X10_blunder_26 rfl (lv_at hl 1 rfl) ?_
    refine gf_10_3 X hw (by decide +kernel : kd 0 = 10) tb_376 d_X10_blunder_27 ?_
    refine lv_iload_n X.1 X.2.1 d_X10_blunder_30 rfl (lv_at hl 2 rfl) ?_
    obtain ⟨q_31, hD⟩ := hD
    refine g_aald14 X hw ly_10_3.1 q_31 d_X10_blunder_31 ?_
    refine lv_iload_n X.1 X.2.1 d_X10_blunder_32 rfl (lv_at hl 3 rfl) ?_
    refine lv_iload_n X.1 X.2.1 d_X10_blunder_33 rfl (lv_at hl 4 rfl) ?_
    refine gcV_i (rest := []) (As := [.ref (G.2.1 (61 + 22 * Int32.toNatClampNeg x1)), .int x2, .int x3]) (o := 49) X hw (c_X2_firstBlunder l G (61 + 22 * Int32.toNatClampNeg x1) x2 x3 σ_2 _ (le_14 ly_10_3.1 q_31) hD) (kd_lt ly_10_9 (by decide)) (ce_2 G _ ly_10_9) rfl tb_867 tb_868 tb_869 tb_10 tb_870 hd_X2_firstBlunder ⟨rfl, rfl⟩ ⟨Nat.le_of_ble_eq_true rfl, Nat.le_of_ble_eq_true rfl⟩ rfl hl.1 rfl (Nat.le_of_ble_eq_true rfl) d_X10_blunder_34 (fun r_3 σ_4 H locs hD hw => ?_)
    exact g_iret X hr hlk hw hD d_X10_blunder_37
  · have hD := hD.2 q_10
    refine lv_aload_n X.1 X.2.1 d_X10_blunder_13 rfl (lv_at hl 1 rfl) ?_
    refine lv_iload X.1 X.2.1 d_X10_blunder_14 (lv_at hl 0 rfl) ?_
    refine gcV_i (rest := []) (As := [.int r_1]) (o := 0) X hw (c_X10_refuse l G r_1 σ_2 _  hD) (kd_lt (by decide +kernel : kd 0 = 10) (by decide)) (ce_10 G _ (by decide +kernel : kd 0 = 10)) rfl tb_420 tb_422 tv_0 tb_1 tb_423 hd_X10_refuse ⟨rfl, rfl⟩ ⟨Nat.le_of_ble_eq_true rfl, Nat.le_of_ble_eq_true rfl⟩ rfl hl.1 rfl (Nat.le_of_ble_eq_true rfl) d_X10_blunder_16 (fun r_5 σ_6 H locs hD hw => ?_)
    refine lv_goto (tgt := 37) X.1 X.2.1 d_X10_blunder_19 (by decide) ?_
    exact g_iret X hr hlk hw hD d_X10_blunder_37
theorem c_X10_blunder (l : Launch) (G : GC) (x1 : Int32) (x2 : Int32) (x3 : Int32) (σ : GSt) (Q : Int32 → GSt → Prop)  (hD : D_X10_blunder x1 x2 x3 σ Q) : MI l ym_X10_blunder cm_X10_blunder 5 .int rm_X10_blunder G σ [.ref (G.2.1 0), .int x1, .int x2, .int x3] Q := by
  refine met_i (by decide) (Nat.le_of_ble_eq_true rfl) ?_
  intro p e s m args below meth c X hr hlk hw ls hl
  exact s_X10_blunder_0 X hr hlk Q  x1 x2 x3 σ hw (lv_sub hl [0, 1, 2, 3] rfl) hD
theorem hd_X10_pie : ym_X10_pie.cls = "GameLoom" ∧ ym_X10_pie.cls ≠ "java/lang/invoke/MethodHandle" ∧ ym_X10_pie.cls ≠ "java/lang/invoke/VarHandle" ∧ (parseMethodDescriptor ym_X10_pie.desc).map (fun d => d.parameters.length) = some 3 := by decide +kernel
abbrev rm_X10_pie : Room := { frames := 15, cells := 0, slots := 0, locals := 386 }
theorem d_X10_pie_0 : decode cm_X10_pie 0 = .ok (.aload_n 0, 1) := by decide +kernel
theorem d_X10_pie_1 : decode cm_X10_pie 1 = .ok (.iload_n 1, 1) := by decide +kernel
theorem d_X10_pie_2 : decode cm_X10_pie 2 = .ok (.invokevirtual 99, 3) := by decide +kernel
theorem d_X10_pie_5 : decode cm_X10_pie 5 = .ok (.ifCond .eq 9, 3) := by decide +kernel
theorem d_X10_pie_8 : decode cm_X10_pie 8 = .ok (.aload_n 0, 1) := by decide +kernel
theorem d_X10_pie_9 : decode cm_X10_pie 9 = .ok (.iconst (-1), 1) := by decide +kernel
theorem d_X10_pie_10 : decode cm_X10_pie 10 = .ok (.invokevirtual 80, 3) := by decide +kernel
theorem d_X10_pie_13 : decode cm_X10_pie 13 = .ok (.ireturn, 1) := by decide +kernel
theorem d_X10_pie_14 : decode cm_X10_pie 14 = .ok (.iload_n 3, 1) := by decide +kernel
theorem d_X10_pie_15 : decode cm_X10_pie 15 = .ok (.ifCond .lt 8, 3) := by decide +kernel
theorem d_X10_pie_18 : decode cm_X10_pie 18 = .ok (.iload_n 3, 1) := by decide +kernel
theorem d_X10_pie_19 : decode cm_X10_pie 19 = .ok (.iconst 2, 1) := by decide +kernel
theorem d_X10_pie_20 : decode cm_X10_pie 20 = .ok (.if_icmp .le 10, 3) := by decide +kernel
theorem d_X10_pie_23 : decode cm_X10_pie 23 = .ok (.aload_n 0, 1) := by decide +kernel
theorem d_X10_pie_24 : decode cm_X10_pie 24 = .ok (.bipush (-2), 2) := by decide +kernel
theorem d_X10_pie_26 : decode cm_X10_pie 26 = .ok (.invokevirtual 80, 3) := by decide +kernel
theorem d_X10_pie_29 : decode cm_X10_pie 29 = .ok (.ireturn, 1) := by decide +kernel
theorem d_X10_pie_30 : decode cm_X10_pie 30 = .ok (.iload_n 2, 1) := by decide +kernel
theorem d_X10_pie_31 : decode cm_X10_pie 31 = .ok (.ifCond .ge 10, 3) := by decide +kernel
theorem d_X10_pie_34 : decode cm_X10_pie 34 = .ok (.aload_n 0, 1) := by decide +kernel
theorem d_X10_pie_35 : decode cm_X10_pie 35 = .ok (.bipush (-4), 2) := by decide +kernel
theorem d_X10_pie_37 : decode cm_X10_pie 37 = .ok (.invokevirtual 80, 3) := by decide +kernel
theorem d_X10_pie_40 : decode cm_X10_pie 40 = .ok (.ireturn, 1) := by decide +kernel
theorem d_X10_pie_41 : decode cm_X10_pie 41 = .ok (.iload_n 2, 1) := by decide +kernel
theorem d_X10_pie_42 : decode cm_X10_pie 42 = .ok (.iconst 4, 1) := by decide +kernel
theorem d_X10_pie_43 : decode cm_X10_pie 43 = .ok (.if_icmp .le 10, 3) := by decide +kernel
theorem d_X10_pie_46 : decode cm_X10_pie 46 = .ok (.aload_n 0, 1) := by decide +kernel
theorem d_X10_pie_47 : decode cm_X10_pie 47 = .ok (.bipush (-6), 2) := by decide +kernel
theorem d_X10_pie_49 : decode cm_X10_pie 49 = .ok (.invokevirtual 80, 3) := by decide +kernel
theorem d_X10_pie_52 : decode cm_X10_pie 52 = .ok (.ireturn, 1) := by decide +kernel
theorem d_X10_pie_53 : decode cm_X10_pie 53 = .ok (.aload_n 0, 1) := by decide +kernel
theorem d_X10_pie_54 : decode cm_X10_pie 54 = .ok (.getfield 59, 3) := by decide +kernel
theorem d_X10_pie_57 : decode cm_X10_pie 57 = .ok (.aload_n 0, 1) := by decide +kernel
theorem d_X10_pie_58 : decode cm_X10_pie 58 = .ok (.getfield 28, 3) := by decide +kernel
theorem d_X10_pie_61 : decode cm_X10_pie 61 = .ok (.iload_n 1, 1) := by decide +kernel
theorem d_X10_pie_62 : decode cm_X10_pie 62 = .ok (.aaload, 1) := by decide +kernel
theorem d_X10_pie_63 : decode cm_X10_pie 63 = .ok (.iload_n 2, 1) := by decide +kernel
theorem d_X10_pie_64 : decode cm_X10_pie 64 = .ok (.iload_n 3, 1) := by decide +kernel
theorem d_X10_pie_65 : decode cm_X10_pie 65 = .ok (.invokevirtual 285, 3) := by decide +kernel
theorem d_X10_pie_68 : decode cm_X10_pie 68 = .ok (.istore 4, 2) := by decide +kernel
theorem d_X10_pie_70 : decode cm_X10_pie 70 = .ok (.iload 4, 2) := by decide +kernel
theorem d_X10_pie_72 : decode cm_X10_pie 72 = .ok (.bipush (-5), 2) := by decide +kernel
theorem d_X10_pie_74 : decode cm_X10_pie 74 = .ok (.if_icmp .ne 12, 3) := by decide +kernel
theorem d_X10_pie_77 : decode cm_X10_pie 77 = .ok (.aload_n 0, 1) := by decide +kernel
theorem d_X10_pie_78 : decode cm_X10_pie 78 = .ok (.bipush (-5), 2) := by decide +kernel
theorem d_X10_pie_80 : decode cm_X10_pie 80 = .ok (.invokevirtual 80, 3) := by decide +kernel
theorem d_X10_pie_83 : decode cm_X10_pie 83 = .ok (.goto 5, 3) := by decide +kernel
theorem d_X10_pie_86 : decode cm_X10_pie 86 = .ok (.iload 4, 2) := by decide +kernel
theorem d_X10_pie_88 : decode cm_X10_pie 88 = .ok (.ireturn, 1) := by decide +kernel
def D_X10_pie_23 (Q : Int32 → GSt → Prop) (σ : GSt) : Prop :=
  D_X10_refuse (-2) σ (fun r_1 σ_2 => Q r_1 σ_2)
def D_X10_pie_0 (Q : Int32 → GSt → Prop) (x1 : Int32) (x2 : Int32) (x3 : Int32) (σ : GSt) : Prop :=
  D_X10_isNoGame x1 σ (fun r_1 σ_2 => (r_1 = 0 → (x3 < 0 → D_X10_pie_23 Q σ_2) ∧
  (¬ x3 < 0 → (x3 ≤ 2 → (0 ≤ x2 → (x2 ≤ 4 → vp_in x1 8 ∧ (D_X2_firstMovesWith (61 + 22 * Int32.toNatClampNeg x1) x2 x3 σ_2 (fun r_3 σ_4 => (¬ r_3 = (-5) → Q r_3 σ_4) ∧
  (r_3 = (-5) → D_X10_refuse (-5) σ_4 (fun r_5 σ_6 => Q r_5 σ_6))))) ∧
  (¬ x2 ≤ 4 → D_X10_refuse (-6) σ_2 (fun r_7 σ_8 => Q r_7 σ_8))) ∧
  (¬ 0 ≤ x2 → D_X10_refuse (-4) σ_2 (fun r_9 σ_10 => Q r_9 σ_10))) ∧
  (¬ x3 ≤ 2 → D_X10_pie_23 Q σ_2))) ∧
  (¬ r_1 = 0 → D_X10_refuse (-1) σ_2 (fun r_11 σ_12 => Q r_11 σ_12)))
def D_X10_pie (x1 : Int32) (x2 : Int32) (x3 : Int32) (σ : GSt) (Q : Int32 → GSt → Prop) : Prop := D_X10_pie_0 Q x1 x2 x3 σ
set_option maxRecDepth 20000 in
set_option maxHeartbeats 4000000 in
theorem s_X10_pie_23 {p : Program} {l : Launch} {e : Env} {s : State} {m : MethodId} {args : Array Value} {below : List Frame} {meth : Method} {c : Code} {G : GC} (X : CallFix p m c cm_X10_pie 5 s args lw_us "GameLoom") (hr : meth.sig.returnType = some .int) (hlk : meth.locks = false) (Q : Int32 → GSt → Prop) (σ : GSt) {H : Heap} {locs : List Loc} {ls : Array Slot} (hw : Wo G s H locs σ) (hl : lv_has ls 5 [(0, .ref (G.2.1 0))]) (hD : D_X10_pie_23 Q σ) : W p l e rm_X10_pie s m args below meth c H locs 0 0 (QMI G Q below args s) (F0 m 23 ls []) := by
  unfold D_X10_pie_23 at hD
  refine lv_aload_n X.1 X.2.1 d_X10_pie_23 rfl (lv_at hl 0 rfl) ?_
  refine lv_bipush (v := (-2)) X.1 X.2.1 d_X10_pie_24 (by decide) ?_
  refine gcV_i (rest := []) (As := [.int (-2)]) (o := 0) X hw (c_X10_refuse l G (-2) σ _  hD) (kd_lt (by decide +kernel : kd 0 = 10) (by decide)) (ce_10 G _ (by decide +kernel : kd 0 = 10)) rfl tb_420 tb_422 tv_0 tb_1 tb_423 hd_X10_refuse ⟨rfl, rfl⟩ ⟨Nat.le_of_ble_eq_true rfl, Nat.le_of_ble_eq_true rfl⟩ rfl hl.1 rfl (Nat.le_of_ble_eq_true rfl) d_X10_pie_26 (fun r_1 σ_2 H locs hD hw => ?_)
  exact g_iret X hr hlk hw hD d_X10_pie_29
set_option maxRecDepth 20000 in
set_option maxHeartbeats 4000000 in
theorem s_X10_pie_0 {p : Program} {l : Launch} {e : Env} {s : State} {m : MethodId} {args : Array Value} {below : List Frame} {meth : Method} {c : Code} {G : GC} (X : CallFix p m c cm_X10_pie 5 s args lw_us "GameLoom") (hr : meth.sig.returnType = some .int) (hlk : meth.locks = false) (Q : Int32 → GSt → Prop) (x1 : Int32) (x2 : Int32) (x3 : Int32) (σ : GSt) {H : Heap} {locs : List Loc} {ls : Array Slot} (hw : Wo G s H locs σ) (hl : lv_has ls 5 [(0, .ref (G.2.1 0)), (1, .int x1), (2, .int x2), (3, .int x3)]) (hD : D_X10_pie_0 Q x1 x2 x3 σ) : W p l e rm_X10_pie s m args below meth c H locs 0 0 (QMI G Q below args s) (F0 m 0 ls []) := by
  unfold D_X10_pie_0 at hD
  refine lv_aload_n X.1 X.2.1 d_X10_pie_0 rfl (lv_at hl 0 rfl) ?_
  refine lv_iload_n X.1 X.2.1 d_X10_pie_1 rfl (lv_at hl 1 rfl) ?_
  refine gcV_i (rest := []) (As := [.int x1]) (o := 0) X hw (c_X10_isNoGame l G x1 σ _  hD) (kd_lt (by decide +kernel : kd 0 = 10) (by decide)) (ce_10 G _ (by decide +kernel : kd 0 = 10)) rfl tb_526 tb_528 tv_17 tb_1 tb_529 hd_X10_isNoGame ⟨rfl, rfl⟩ ⟨Nat.le_of_ble_eq_true rfl, Nat.le_of_ble_eq_true rfl⟩ rfl hl.1 rfl (Nat.le_of_ble_eq_true rfl) d_X10_pie_2 (fun r_1 σ_2 H locs hD hw => ?_)
  refine lv_if_eq (tgt := 14) X.1 X.2.1 d_X10_pie_5 (by decide) (fun q_5 => ?_) (fun q_5 => ?_)
  · have hD := hD.1 q_5
    refine lv_iload_n X.1 X.2.1 d_X10_pie_14 rfl (lv_at hl 3 rfl) ?_
    refine lv_if_lt (tgt := 23) X.1 X.2.1 d_X10_pie_15 (by decide) (fun q_15 => ?_) (fun q_15 => ?_)
    · have hD := hD.1 q_15
      exact s_X10_pie_23 X hr hlk  Q   σ_2 hw (lv_sub hl [0] rfl) hD
    · have hD := hD.2 q_15
      refine lv_iload_n X.1 X.2.1 d_X10_pie_18 rfl (lv_at hl 3 rfl) ?_
      refine lv_iconst (v := 2) X.1 X.2.1 d_X10_pie_19 (by decide) ?_
      refine lv_icmp_le (tgt := 30) X.1 X.2.1 d_X10_pie_20 (by decide) (fun q_20 => ?_) (fun q_20 => ?_)
      · have hD := hD.1 q_20
        refine lv_iload_n X.1 X.2.1 d_X10_pie_30 rfl (lv_at hl 2 rfl) ?_
        refine lv_if_ge (tgt := 41) X.1 X.2.1 d_X10_pie_31 (by decide) (fun q_31 => ?_) (fun q_31 => ?_)
        · have hD := hD.1 q_31
          refine lv_iload_n X.1 X.2.1 d_X10_pie_41 rfl (lv_at hl 2 rfl) ?_
          refine lv_iconst (v := 4) X.1 X.2.1 d_X10_pie_42 (by decide) ?_
          refine lv_icmp_le (tgt := 53) X.1 X.2.1 d_X10_pie_43 (by decide) (fun q_43 => ?_) (fun q_43 => ?_)
          · have hD := hD.1 q_43
            refine lv_aload_n X.1 X.2.1 d_X10_pie_53 rfl (lv_at hl 0 rfl) ?_
            refine gf_10_9 X hw (by decide +kernel : kd 0 = 10) tb_382 d_X10_pie_54 ?_
            refine lv_aload_n X.1 X.2.1 d_X10_pie_57 rfl (lv_at hl 0 rfl) ?_
            refine gf_10_3 X hw (by decide +kernel : kd 0 = 10) tb_376 d_X10_pie_58 ?_
            refine lv_iload_n X.1 X.2.1 d_X10_pie_61 rfl (lv_at hl 1 rfl) ?_
            obtain ⟨q_62, hD⟩ := hD
            refine g_aald14 X hw ly_10_3.1 q_62 d_X10_pie_62 ?_
            refine lv_iload_n X.1 X.2.1 d_X10_pie_63 rfl (lv_at hl 2 rfl) ?_
            refine lv_iload_n X.1 X.2.1 d_X10_pie_64 rfl (lv_at hl 3 rfl) ?_
            refine gcV_i (rest := []) (As := [.ref (G.2.1 (61 + 22 * Int32.toNatClampNeg x1)), .int x2, .int x3]) (o := 49) X hw (c_X2_firstMovesWith l G (61 + 22 * Int32.toNatClampNeg x1) x2 x3 σ_2 _ (le_14 ly_10_3.1 q_62) hD) (kd_lt ly_10_9 (by decide)) (ce_2 G _ ly_10_9) rfl tb_875 tb_876 tb_877 tb_10 tb_878 hd_X2_firstMovesWith ⟨rfl, rfl⟩ ⟨Nat.le_of_ble_eq_true rfl, Nat.le_of_ble_eq_true rfl⟩ rfl hl.1 rfl (Nat.le_of_ble_eq_true rfl) d_X10_pie_65 (fun r_3 σ_4 H locs hD hw => ?_)
            refine lv_istore (lv' := [(4, .int r_3), (0, .ref (G.2.1 0)), (1, .int x1), (2, .int x2), (3, .int x3)]) X.1 X.2.1 d_X10_pie_68 hl (by decide) rfl (fun ls hl => ?_)
            refine lv_iload X.1 X.2.1 d_X10_pie_70 (lv_at hl 0 rfl) ?_
            refine lv_bipush (v := (-5)) X.1 X.2.1 d_X10_pie_72 (by decide) ?_
            refine lv_icmp_ne (tgt := 86) X.1 X.2.1 d_X10_pie_74 (by decide) (fun q_74 => ?_) (fun q_74 => ?_)
            · have hD := hD.1 q_74
              refine lv_iload X.1 X.2.1 d_X10_pie_86 (lv_at hl 0 rfl) ?_
              exact g_iret X hr hlk hw hD d_X10_pie_88
            · have hD := hD.2 q_74
              refine lv_aload_n X.1 X.2.1 d_X10_pie_77 rfl (lv_at hl 1 rfl) ?_
              refine lv_bipush (v := (-5)) X.1 X.2.1 d_X10_pie_78 (by decide) ?_
              refine gcV_i (rest := []) (As := [.int (-5)]) (o := 0) X hw (c_X10_refuse l G (-5) σ_4 _  hD) (kd_lt (by decide +kernel : kd 0 = 10) (by decide)) (ce_10 G _ (by decide +kernel : kd 0 = 10)) rfl tb_420 tb_422 tv_0 tb_1 tb_423 hd_X10_refuse ⟨rfl, rfl⟩ ⟨Nat.le_of_ble_eq_true rfl, Nat.le_of_ble_eq_true rfl⟩ rfl hl.1 rfl (Nat.le_of_ble_eq_true rfl) d_X10_pie_80 (fun r_5 σ_6 H locs hD hw => ?_)
              refine lv_goto (tgt := 88) X.1 X.2.1 d_X10_pie_83 (by decide) ?_
              exact g_iret X hr hlk hw hD d_X10_pie_88
          · have hD := hD.2 q_43
            refine lv_aload_n X.1 X.2.1 d_X10_pie_46 rfl (lv_at hl 0 rfl) ?_
            refine lv_bipush (v := (-6)) X.1 X.2.1 d_X10_pie_47 (by decide) ?_
            refine gcV_i (rest := []) (As := [.int (-6)]) (o := 0) X hw (c_X10_refuse l G (-6) σ_2 _  hD) (kd_lt (by decide +kernel : kd 0 = 10) (by decide)) (ce_10 G _ (by decide +kernel : kd 0 = 10)) rfl tb_420 tb_422 tv_0 tb_1 tb_423 hd_X10_refuse ⟨rfl, rfl⟩ ⟨Nat.le_of_ble_eq_true rfl, Nat.le_of_ble_eq_true rfl⟩ rfl hl.1 rfl (Nat.le_of_ble_eq_true rfl) d_X10_pie_49 (fun r_7 σ_8 H locs hD hw => ?_)
            exact g_iret X hr hlk hw hD d_X10_pie_52
        · have hD := hD.2 q_31
          refine lv_aload_n X.1 X.2.1 d_X10_pie_34 rfl (lv_at hl 0 rfl) ?_
          refine lv_bipush (v := (-4)) X.1 X.2.1 d_X10_pie_35 (by decide) ?_
          refine gcV_i (rest := []) (As := [.int (-4)]) (o := 0) X hw (c_X10_refuse l G (-4) σ_2 _  hD) (kd_lt (by decide +kernel : kd 0 = 10) (by decide)) (ce_10 G _ (by decide +kernel : kd 0 = 10)) rfl tb_420 tb_422 tv_0 tb_1 tb_423 hd_X10_refuse ⟨rfl, rfl⟩ ⟨Nat.le_of_ble_eq_true rfl, Nat.le_of_ble_eq_true rfl⟩ rfl hl.1 rfl (Nat.le_of_ble_eq_true rfl) d_X10_pie_37 (fun r_9 σ_10 H locs hD hw => ?_)
          exact g_iret X hr hlk hw hD d_X10_pie_40
      · have hD := hD.2 q_20
        exact s_X10_pie_23 X hr hlk  Q   σ_2 hw (lv_sub hl [0] rfl) hD
  · have hD := hD.2 q_5
    refine lv_aload_n X.1 X.2.1 d_X10_pie_8 rfl (lv_at hl 0 rfl) ?_
    refine lv_iconst (v := (-1)) X.1 X.2.1 d_X10_pie_9 (by decide) ?_
    refine gcV_i (rest := []) (As := [.int (-1)]) (o := 0) X hw (c_X10_refuse l G (-1) σ_2 _  hD) (kd_lt (by decide +kernel : kd 0 = 10) (by decide)) (ce_10 G _ (by decide +kernel : kd 0 = 10)) rfl tb_420 tb_422 tv_0 tb_1 tb_423 hd_X10_refuse ⟨rfl, rfl⟩ ⟨Nat.le_of_ble_eq_true rfl, Nat.le_of_ble_eq_true rfl⟩ rfl hl.1 rfl (Nat.le_of_ble_eq_true rfl) d_X10_pie_10 (fun r_11 σ_12 H locs hD hw => ?_)
    exact g_iret X hr hlk hw hD d_X10_pie_13
theorem c_X10_pie (l : Launch) (G : GC) (x1 : Int32) (x2 : Int32) (x3 : Int32) (σ : GSt) (Q : Int32 → GSt → Prop)  (hD : D_X10_pie x1 x2 x3 σ Q) : MI l ym_X10_pie cm_X10_pie 5 .int rm_X10_pie G σ [.ref (G.2.1 0), .int x1, .int x2, .int x3] Q := by
  refine met_i (by decide) (Nat.le_of_ble_eq_true rfl) ?_
  intro p e s m args below meth c X hr hlk hw ls hl
  exact s_X10_pie_0 X hr hlk Q  x1 x2 x3 σ hw (lv_sub hl [0, 1, 2, 3] rfl) hD
