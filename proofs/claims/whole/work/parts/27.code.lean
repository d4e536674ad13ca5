theorem hd_X11_far : ym_X11_far.cls = "GameLoomModel" ∧ ym_X11_far.cls ≠ "java/lang/invoke/MethodHandle" ∧ ym_X11_far.cls ≠ "java/lang/invoke/VarHandle" ∧ (parseMethodDescriptor ym_X11_far.desc).map (fun d => d.parameters.length) = some 3 := by decide +kernel
abbrev rm_X11_far : Room := { frames := 11, cells := 0, slots := 0, locals := 280 }
theorem d_X11_far_0 : decode cm_X11_far 0 = .ok (.aload_n 0, 1) := by decide +kernel
theorem d_X11_far_1 : decode cm_X11_far 1 = .ok (.iload_n 1, 1) := by decide +kernel
theorem d_X11_far_2 : decode cm_X11_far 2 = .ok (.bipush 10, 2) := by decide +kernel
theorem d_X11_far_4 : decode cm_X11_far 4 = .ok (.iload_n 3, 1) := by decide +kernel
theorem d_X11_far_5 : decode cm_X11_far 5 = .ok (.iconst 0, 1) := by decide +kernel
theorem d_X11_far_6 : decode cm_X11_far 6 = .ok (.iconst 0, 1) := by decide +kernel
theorem d_X11_far_7 : decode cm_X11_far 7 = .ok (.invokevirtual 325, 3) := by decide +kernel
theorem d_X11_far_10 : decode cm_X11_far 10 = .ok (.aload_n 0, 1) := by decide +kernel
theorem d_X11_far_11 : decode cm_X11_far 11 = .ok (.getfield 299, 3) := by decide +kernel
theorem d_X11_far_14 : decode cm_X11_far 14 = .ok (.istore 4, 2) := by decide +kernel
theorem d_X11_far_16 : decode cm_X11_far 16 = .ok (.aload_n 0, 1) := by decide +kernel
theorem d_X11_far_17 : decode cm_X11_far 17 = .ok (.getfield 302, 3) := by decide +kernel
theorem d_X11_far_20 : decode cm_X11_far 20 = .ok (.istore 5, 2) := by decide +kernel
theorem d_X11_far_22 : decode cm_X11_far 22 = .ok (.aload_n 0, 1) := by decide +kernel
theorem d_X11_far_23 : decode cm_X11_far 23 = .ok (.getfield 308, 3) := by decide +kernel
theorem d_X11_far_26 : decode cm_X11_far 26 = .ok (.bipush 10, 2) := by decide +kernel
theorem d_X11_far_28 : decode cm_X11_far 28 = .ok (.idiv, 1) := by decide +kernel
theorem d_X11_far_29 : decode cm_X11_far 29 = .ok (.istore 6, 2) := by decide +kernel
theorem d_X11_far_31 : decode cm_X11_far 31 = .ok (.aload_n 0, 1) := by decide +kernel
theorem d_X11_far_32 : decode cm_X11_far 32 = .ok (.iload_n 2, 1) := by decide +kernel
theorem d_X11_far_33 : decode cm_X11_far 33 = .ok (.bipush 10, 2) := by decide +kernel
theorem d_X11_far_35 : decode cm_X11_far 35 = .ok (.iload_n 3, 1) := by decide +kernel
theorem d_X11_far_36 : decode cm_X11_far 36 = .ok (.iconst 0, 1) := by decide +kernel
theorem d_X11_far_37 : decode cm_X11_far 37 = .ok (.iconst 0, 1) := by decide +kernel
theorem d_X11_far_38 : decode cm_X11_far 38 = .ok (.invokevirtual 325, 3) := by decide +kernel
theorem d_X11_far_41 : decode cm_X11_far 41 = .ok (.iload 4, 2) := by decide +kernel
theorem d_X11_far_43 : decode cm_X11_far 43 = .ok (.aload_n 0, 1) := by decide +kernel
theorem d_X11_far_44 : decode cm_X11_far 44 = .ok (.getfield 299, 3) := by decide +kernel
theorem d_X11_far_47 : decode cm_X11_far 47 = .ok (.isub, 1) := by decide +kernel
theorem d_X11_far_48 : decode cm_X11_far 48 = .ok (.invokestatic 333, 3) := by decide +kernel
theorem d_X11_far_51 : decode cm_X11_far 51 = .ok (.iload 5, 2) := by decide +kernel
theorem d_X11_far_53 : decode cm_X11_far 53 = .ok (.aload_n 0, 1) := by decide +kernel
theorem d_X11_far_54 : decode cm_X11_far 54 = .ok (.getfield 302, 3) := by decide +kernel
theorem d_X11_far_57 : decode cm_X11_far 57 = .ok (.isub, 1) := by decide +kernel
theorem d_X11_far_58 : decode cm_X11_far 58 = .ok (.invokestatic 333, 3) := by decide +kernel
theorem d_X11_far_61 : decode cm_X11_far 61 = .ok (.iadd, 1) := by decide +kernel
theorem d_X11_far_62 : decode cm_X11_far 62 = .ok (.iload 6, 2) := by decide +kernel
theorem d_X11_far_64 : decode cm_X11_far 64 = .ok (.aload_n 0, 1) := by decide +kernel
theorem d_X11_far_65 : decode cm_X11_far 65 = .ok (.getfield 308, 3) := by decide +kernel
theorem d_X11_far_68 : decode cm_X11_far 68 = .ok (.bipush 10, 2) := by decide +kernel
theorem d_X11_far_70 : decode cm_X11_far 70 = .ok (.idiv, 1) := by decide +kernel
theorem d_X11_far_71 : decode cm_X11_far 71 = .ok (.isub, 1) := by decide +kernel
theorem d_X11_far_72 : decode cm_X11_far 72 = .ok (.invokestatic 333, 3) := by decide +kernel
theorem d_X11_far_75 : decode cm_X11_far 75 = .ok (.iadd, 1) := by decide +kernel
theorem d_X11_far_76 : decode cm_X11_far 76 = .ok (.ireturn, 1) := by decide +kernel
def D_X11_far_0 (Q : Int32 → GSt → Prop) (x1 : Int32) (x2 : Int32) (x3 : Int32) (σ : GSt) : Prop :=
  D_X11_measures x1 10 x3 0 0 σ (fun σ_1 => ∀ x4_2 : Int32, x4_2 = (σ_1 237 46) → (∀ x5_3 : Int32, x5_3 = (σ_1 237 47) → (∀ x6_4 : Int32, x6_4 = ((σ_1 237 49) / 10) → (D_X11_measures x2 10 x3 0 0 σ_1 (fun σ_5 => D_X11_away (x4_2 - (σ_5 237 46)) σ_5 (fun r_6 σ_7 => D_X11_away (x5_3 - (σ_7 237 47)) σ_7 (fun r_8 σ_9 => D_X11_away (x6_4 - ((σ_9 237 49) / 10)) σ_9 (fun r_10 σ_11 => Q ((r_6 + r_8) + r_10) σ_11))))))))
def D_X11_far (x1 : Int32) (x2 : Int32) (x3 : Int32) (σ : GSt) (Q : Int32 → GSt → Prop) : Prop := D_X11_far_0 Q x1 x2 x3 σ
set_option maxRecDepth 20000 in
set_option maxHeartbeats 4000000 in
theorem s_X11_far_0 {p : Program} {l : Launch} {e : Env} {s : State} {m : MethodId} {args : Array Value} {below : List Frame} {meth : Method} {c : Code} {G : GC} (X : CallFix p m c cm_X11_far 7 s args lw_us "GameLoomModel") (hr : meth.sig.returnType = some .int) (hlk : meth.locks = false) (Q : Int32 → GSt → Prop) (x1 : Int32) (x2 : Int32) (x3 : Int32) (σ : GSt) {H : Heap} {locs : List Loc} {ls : Array Slot} (hw : Wo G s H locs σ) (hl : lv_has ls 7 [(0, .ref (G.2.1 237)), (1, .int x1), (2, .int x2), (3, .int x3)]) (hD : D_X11_far_0 Q x1 x2 x3 σ) : W p l e rm_X11_far s m args below meth c H locs 0 0 (QMI G Q below args s) (F0 m 0 ls []) := by
  unfold D_X11_far_0 at hD
  refine lv_aload_n X.1 X.2.1 d_X11_far_0 rfl (lv_at hl 0 rfl) ?_
  refine lv_iload_n X.1 X.2.1 d_X11_far_1 rfl (lv_at hl 1 rfl) ?_
  refine lv_bipush (v := 10) X.1 X.2.1 d_X11_far_2 (by decide) ?_
  refine lv_iload_n X.1 X.2.1 d_X11_far_4 rfl (lv_at hl 3 rfl) ?_
  refine lv_iconst (v := 0) X.1 X.2.1 d_X11_far_5 (by decide) ?_
  refine lv_iconst (v := 0) X.1 X.2.1 d_X11_far_6 (by decide) ?_
  refine gcV_v (rest := []) (As := [.int x1, .int 10, .int x3, .int 0, .int 0]) (o := 237) X hw (c_X11_measures l G x1 10 x3 0 0 σ _  hD) (kd_lt (by decide +kernel : kd 237 = 11) (by decide)) (ce_11 G _ (by decide +kernel : kd 237 = 11)) rfl tb_1290 tb_1292 tv_72 tb_12 tb_1293 hd_X11_measures ⟨rfl, rfl⟩ ⟨Nat.le_of_ble_eq_true rfl, Nat.le_of_ble_eq_true rfl⟩ rfl hl.1 rfl (Nat.le_of_ble_eq_true rfl) d_X11_far_7 (fun σ_1 H locs hD hw => ?_)
  refine lv_aload_n X.1 X.2.1 d_X11_far_10 rfl (lv_at hl 0 rfl) ?_
  refine gf_11_46 X hw (by decide +kernel : kd 237 = 11) tb_952 d_X11_far_11 ?_
  refine lv_topi (fun x4_2 e_x4_2 => ?_)
  have hD := hD x4_2 e_x4_2
  refine lv_istore (lv' := [(4, .int x4_2), (0, .ref (G.2.1 237)), (1, .int x1), (2, .int x2), (3, .int x3)]) X.1 X.2.1 d_X11_far_14 hl (by decide) rfl (fun ls hl => ?_)
  refine lv_aload_n X.1 X.2.1 d_X11_far_16 rfl (lv_at hl 1 rfl) ?_
  refine gf_11_47 X hw (by decide +kernel : kd 237 = 11) tb_953 d_X11_far_17 ?_
  refine lv_topi (fun x5_3 e_x5_3 => ?_)
  have hD := hD x5_3 e_x5_3
  refine lv_istore (lv' := [(5, .int x5_3), (4, .int x4_2), (0, .ref (G.2.1 237)), (1, .int x1), (2, .int x2), (3, .int x3)]) X.1 X.2.1 d_X11_far_20 hl (by decide) rfl (fun ls hl => ?_)
  refine lv_aload_n X.1 X.2.1 d_X11_far_22 rfl (lv_at hl 2 rfl) ?_
  refine gf_11_49 X hw (by decide +kernel : kd 237 = 11) tb_955 d_X11_far_23 ?_
  refine lv_bipush (v := 10) X.1 X.2.1 d_X11_far_26 (by decide) ?_
  refine lv_idiv X.1 X.2.1 d_X11_far_28 (by decide) ?_
  refine lv_topi (fun x6_4 e_x6_4 => ?_)
  have hD := hD x6_4 e_x6_4
  refine lv_istore (lv' := [(6, .int x6_4), (5, .int x5_3), (4, .int x4_2), (0, .ref (G.2.1 237)), (1, .int x1), (2, .int x2), (3, .int x3)]) X.1 X.2.1 d_X11_far_29 hl (by decide) rfl (fun ls hl => ?_)
  refine lv_aload_n X.1 X.2.1 d_X11_far_31 rfl (lv_at hl 3 rfl) ?_
  refine lv_iload_n X.1 X.2.1 d_X11_far_32 rfl (lv_at hl 5 rfl) ?_
  refine lv_bipush (v := 10) X.1 X.2.1 d_X11_far_33 (by decide) ?_
  refine lv_iload_n X.1 X.2.1 d_X11_far_35 rfl (lv_at hl 6 rfl) ?_
  refine lv_iconst (v := 0) X.1 X.2.1 d_X11_far_36 (by decide) ?_
  refine lv_iconst (v := 0) X.1 X.2.1 d_X11_far_37 (by decide) ?_
  refine gcV_v (rest := []) (As := [.int x2, .int 10, .int x3, .int 0, .int 0]) (o := 237) X hw (c_X11_measures l G x2 10 x3 0 0 σ_1 _  hD) (kd_lt (by decide +kernel : kd 237 = 11) (by decide)) (ce_11 G _ (by decide +kernel : kd 237 = 11)) rfl tb_1290 tb_1292 tv_72 tb_12 tb_1293 hd_X11_measures ⟨rfl, rfl⟩ ⟨Nat.le_of_ble_eq_true rfl, Nat.le_of_ble_eq_true rfl⟩ rfl hl.1 rfl (Nat.le_of_ble_eq_true rfl) d_X11_far_38 (fun σ_5 H locs hD hw => ?_)
  refine lv_iload X.1 X.2.1 d_X11_far_41 (lv_at hl 2 rfl) ?_
  refine lv_aload_n X.1 X.2.1 d_X11_far_43 rfl (lv_at hl 3 rfl) ?_
  refine gf_11_46 X hw (by decide +kernel : kd 237 = 11) tb_952 d_X11_far_44 ?_
  refine lv_isub X.1 X.2.1 d_X11_far_47 ?_
  refine gcS_i (rest := []) (As := [.int (x4_2 - (σ_5 237 46))]) X hw (c_X11_away l G (x4_2 - (σ_5 237 46)) σ_5 _  hD) tb_1321 tb_1322 tb_12 tb_1323 hd_X11_away ⟨rfl, rfl⟩ ⟨Nat.le_of_ble_eq_true rfl, Nat.le_of_ble_eq_true rfl⟩ rfl hl.1 rfl (Nat.le_of_ble_eq_true rfl) d_X11_far_48 (fun r_6 σ_7 H locs hD hw => ?_)
  refine lv_iload X.1 X.2.1 d_X11_far_51 (lv_at hl 1 rfl) ?_
  refine lv_aload_n X.1 X.2.1 d_X11_far_53 rfl (lv_at hl 3 rfl) ?_
  refine gf_11_47 X hw (by decide +kernel : kd 237 = 11) tb_953 d_X11_far_54 ?_
  refine lv_isub X.1 X.2.1 d_X11_far_57 ?_
  refine gcS_i (rest := [.int r_6]) (As := [.int (x5_3 - (σ_7 237 47))]) X hw (c_X11_away l G (x5_3 - (σ_7 237 47)) σ_7 _  hD) tb_1321 tb_1322 tb_12 tb_1323 hd_X11_away ⟨rfl, rfl⟩ ⟨Nat.le_of_ble_eq_true rfl, Nat.le_of_ble_eq_true rfl⟩ rfl hl.1 rfl (Nat.le_of_ble_eq_true rfl) d_X11_far_58 (fun r_8 σ_9 H locs hD hw => ?_)
  refine lv_iadd X.1 X.2.1 d_X11_far_61 ?_
  refine lv_iload X.1 X.2.1 d_X11_far_62 (lv_at hl 0 rfl) ?_
  refine lv_aload_n X.1 X.2.1 d_X11_far_64 rfl (lv_at hl 3 rfl) ?_
  refine gf_11_49 X hw (by decide +kernel : kd 237 = 11) tb_955 d_X11_far_65 ?_
  refine lv_bipush (v := 10) X.1 X.2.1 d_X11_far_68 (by decide) ?_
  refine lv_idiv X.1 X.2.1 d_X11_far_70 (by decide) ?_
  refine lv_isub X.1 X.2.1 d_X11_far_71 ?_
  refine gcS_i (rest := [.int (r_6 + r_8)]) (As := [.int (x6_4 - ((σ_9 237 49) / 10))]) X hw (c_X11_away l G (x6_4 - ((σ_9 237 49) / 10)) σ_9 _  hD) tb_1321 tb_1322 tb_12 tb_1323 hd_X11_away ⟨rfl, rfl⟩ ⟨Nat.le_of_ble_eq_true rfl, Nat.le_of_ble_eq_true rfl⟩ rfl hl.1 rfl (Nat.le_of_ble_eq_true rfl) d_X11_far_72 (fun r_10 σ_11 H locs hD hw => ?_)
  refine lv_iadd X.1 X.2.1 d_X11_far_75 ?_
  exact g_iret X hr hlk hw hD d_X11_far_76
theorem c_X11_far (l : Launch) (G : GC) (x1 : Int32) (x2 : Int32) (x3 : Int32) (σ : GSt) (Q : Int32 → GSt → Prop)  (hD : D_X11_far x1 x2 x3 σ Q) : MI l ym_X11_far cm_X11_far 7 .int rm_X11_far G σ [.ref (G.2.1 237), .int x1, .int x2, .int x3] Q := by
  refine met_i (by decide) (Nat.le_of_ble_eq_true rfl) ?_
  intro p e s m args below meth c X hr hlk hw ls hl
  exact s_X11_far_0 X hr hlk Q  x1 x2 x3 σ hw (lv_sub hl [0, 1, 2, 3] rfl) hD
theorem hd_X11_distance : ym_X11_distance.cls = "GameLoomModel" ∧ ym_X11_distance.cls ≠ "java/lang/invoke/MethodHandle" ∧ ym_X11_distance.cls ≠ "java/lang/invoke/VarHandle" ∧ (parseMethodDescriptor ym_X11_distance.desc).map (fun d => d.parameters.length) = some 3 := by decide +kernel
abbrev rm_X11_distance : Room := { frames := 12, cells := 0, slots := 0, locals := 306 }
theorem d_X11_distance_0 : decode cm_X11_distance 0 = .ok (.aload_n 0, 1) := by decide +kernel
theorem d_X11_distance_1 : decode cm_X11_distance 1 = .ok (.iload_n 1, 1) := by decide +kernel
theorem d_X11_distance_2 : decode cm_X11_distance 2 = .ok (.invokevirtual 204, 3) := by decide +kernel
theorem d_X11_distance_5 : decode cm_X11_distance 5 = .ok (.ifCond .eq 21, 3) := by decide +kernel
theorem d_X11_distance_8 : decode cm_X11_distance 8 = .ok (.aload_n 0, 1) := by decide +kernel
theorem d_X11_distance_9 : decode cm_X11_distance 9 = .ok (.iload_n 2, 1) := by decide +kernel
theorem d_X11_distance_10 : decode cm_X11_distance 10 = .ok (.invokevirtual 204, 3) := by decide +kernel
theorem d_X11_distance_13 : decode cm_X11_distance 13 = .ok (.ifCond .eq 13, 3) := by decide +kernel
theorem d_X11_distance_16 : decode cm_X11_distance 16 = .ok (.aload_n 0, 1) := by decide +kernel
theorem d_X11_distance_17 : decode cm_X11_distance 17 = .ok (.iload_n 1, 1) := by decide +kernel
theorem d_X11_distance_18 : decode cm_X11_distance 18 = .ok (.iload_n 2, 1) := by decide +kernel
theorem d_X11_distance_19 : decode cm_X11_distance 19 = .ok (.iload_n 3, 1) := by decide +kernel
theorem d_X11_distance_20 : decode cm_X11_distance 20 = .ok (.invokevirtual 336, 3) := by decide +kernel
theorem d_X11_distance_23 : decode cm_X11_distance 23 = .ok (.goto 8, 3) := by decide +kernel
theorem d_X11_distance_26 : decode cm_X11_distance 26 = .ok (.aload_n 0, 1) := by decide +kernel
theorem d_X11_distance_27 : decode cm_X11_distance 27 = .ok (.iconst (-1), 1) := by decide +kernel
theorem d_X11_distance_28 : decode cm_X11_distance 28 = .ok (.invokevirtual 147, 3) := by decide +kernel
theorem d_X11_distance_31 : decode cm_X11_distance 31 = .ok (.ireturn, 1) := by decide +kernel
def D_X11_distance_26 (Q : Int32 → GSt → Prop) (σ : GSt) : Prop :=
  D_X11_no (-1) σ (fun r_1 σ_2 => Q r_1 σ_2)
def D_X11_distance_0 (Q : Int32 → GSt → Prop) (x1 : Int32) (x2 : Int32) (x3 : Int32) (σ : GSt) : Prop :=
  D_X11_isGame x1 σ (fun r_1 σ_2 => (r_1 = 0 → D_X11_distance_26 Q σ_2) ∧
  (¬ r_1 = 0 → D_X11_isGame x2 σ_2 (fun r_3 σ_4 => (r_3 = 0 → D_X11_distance_26 Q σ_4) ∧
  (¬ r_3 = 0 → D_X11_far x1 x2 x3 σ_4 (fun r_5 σ_6 => Q r_5 σ_6)))))
def D_X11_distance (x1 : Int32) (x2 : Int32) (x3 : Int32) (σ : GSt) (Q : Int32 → GSt → Prop) : Prop := D_X11_distance_0 Q x1 x2 x3 σ
set_option maxRecDepth 20000 in
set_option maxHeartbeats 4000000 in
theorem s_X11_distance_26 {p : Program} {l : Launch} {e : Env} {s : State} {m : MethodId} {args : Array Value} {below : List Frame} {meth : Method} {c : Code} {G : GC} (X : CallFix p m c cm_X11_distance 4 s args lw_us "GameLoomModel") (hr : meth.sig.returnType = some .int) (hlk : meth.locks = false) (Q : Int32 → GSt → Prop) (σ : GSt) {H : Heap} {locs : List Loc} {ls : Array Slot} (hw : Wo G s H locs σ) (hl : lv_has ls 4 [(0, .ref (G.2.1 237))]) (hD : D_X11_distance_26 Q σ) : W p l e rm_X11_distance s m args below meth c H locs 0 0 (QMI G Q below args s) (F0 m 26 ls []) := by
  unfold D_X11_distance_26 at hD
  refine lv_aload_n X.1 X.2.1 d_X11_distance_26 rfl (lv_at hl 0 rfl) ?_
  refine lv_iconst (v := (-1)) X.1 X.2.1 d_X11_distance_27 (by decide) ?_
  refine gcV_i (rest := []) (As := [.int (-1)]) (o := 237) X hw (c_X11_no l G (-1) σ _  hD) (kd_lt (by decide +kernel : kd 237 = 11) (by decide)) (ce_11 G _ (by decide +kernel : kd 237 = 11)) rfl tb_1084 tb_1086 tv_35 tb_12 tb_1087 hd_X11_no ⟨rfl, rfl⟩ ⟨Nat.le_of_ble_eq_true rfl, Nat.le_of_ble_eq_true rfl⟩ rfl hl.1 rfl (Nat.le_of_ble_eq_true rfl) d_X11_distance_28 (fun r_1 σ_2 H locs hD hw => ?_)
  exact g_iret X hr hlk hw hD d_X11_distance_31
set_option maxRecDepth 20000 in
set_option maxHeartbeats 4000000 in
theorem s_X11_distance_0 {p : Program} {l : Launch} {e : Env} {s : State} {m : MethodId} {args : Array Value} {below : List Frame} {meth : Method} {c : Code} {G : GC} (X : CallFix p m c cm_X11_distance 4 s args lw_us "GameLoomModel") (hr : meth.sig.returnType = some .int) (hlk : meth.locks = false) (Q : Int32 → GSt → Prop) (x1 : Int32) (x2 : Int32) (x3 : Int32) (σ : GSt) {H : Heap} {locs : List Loc} {ls : Array Slot} (hw : Wo G s H locs σ) (hl : lv_has ls 4 [(0, .ref (G.2.1 237)), (1, .int x1), (2, .int x2), (3, .int x3)]) (hD : D_X11_distance_0 Q x1 x2 x3 σ) : W p l e rm_X11_distance s m args below meth c H locs 0 0 (QMI G Q below args s) (F0 m 0 ls []) := by
  unfold D_X11_distance_0 at hD
  refine lv_aload_n X.1 X.2.1 d_X11_distance_0 rfl (lv_at hl 0 rfl) ?_
  refine lv_iload_n X.1 X.2.1 d_X11_distance_1 rfl (lv_at hl 1 rfl) ?_
  refine gcV_i (rest := []) (As := [.int x1]) (o := 237) X hw (c_X11_isGame l G x1 σ _  hD) (kd_lt (by decide +kernel : kd 237 = 11) (by decide)) (ce_11 G _ (by decide +kernel : kd 237 = 11)) rfl tb_1144 tb_1146 tv_47 tb_12 tb_1147 hd_X11_isGame ⟨rfl, rfl⟩ ⟨Nat.le_of_ble_eq_true rfl, Nat.le_of_ble_eq_true rfl⟩ rfl hl.1 rfl (Nat.le_of_ble_eq_true rfl) d_X11_distance_2 (fun r_1 σ_2 H locs hD hw => ?_)
  refine lv_if_eq (tgt := 26) X.1 X.2.1 d_X11_distance_5 (by decide) (fun q_5 => ?_) (fun q_5 => ?_)
  · have hD := hD.1 q_5
    exact s_X11_distance_26 X hr hlk  Q   σ_2 hw (lv_sub hl [0] rfl) hD
  · have hD := hD.2 q_5
    refine lv_aload_n X.1 X.2.1 d_X11_distance_8 rfl (lv_at hl 0 rfl) ?_
    refine lv_iload_n X.1 X.2.1 d_X11_distance_9 rfl (lv_at hl 2 rfl) ?_
    refine gcV_i (rest := []) (As := [.int x2]) (o := 237) X hw (c_X11_isGame l G x2 σ_2 _  hD) (kd_lt (by decide +kernel : kd 237 = 11) (by decide)) (ce_11 G _ (by decide +kernel : kd 237 = 11)) rfl tb_1144 tb_1146 tv_47 tb_12 tb_1147 hd_X11_isGame ⟨rfl, rfl⟩ ⟨Nat.le_of_ble_eq_true rfl, Nat.le_of_ble_eq_true rfl⟩ rfl hl.1 rfl (Nat.le_of_ble_eq_true rfl) d_X11_distance_10 (fun r_3 σ_4 H locs hD hw => ?_)
    refine lv_if_eq (tgt := 26) X.1 X.2.1 d_X11_distance_13 (by decide) (fun q_13 => ?_) (fun q_13 => ?_)
    · have hD := hD.1 q_13
      exact s_X11_distance_26 X hr hlk  Q   σ_4 hw (lv_sub hl [0] rfl) hD
    · have hD := hD.2 q_13
      refine lv_aload_n X.1 X.2.1 d_X11_distance_16 rfl (lv_at hl 0 rfl) ?_
      refine lv_iload_n X.1 X.2.1 d_X11_distance_17 rfl (lv_at hl 1 rfl) ?_
      refine lv_iload_n X.1 X.2.1 d_X11_distance_18 rfl (lv_at hl 2 rfl) ?_
      refine lv_iload_n X.1 X.2.1 d_X11_distance_19 rfl (lv_at hl 3 rfl) ?_
      refine gcV_i (rest := []) (As := [.int x1, .int x2, .int x3]) (o := 237) X hw (c_X11_far l G x1 x2 x3 σ_4 _  hD) (kd_lt (by decide +kernel : kd 237 = 11) (by decide)) (ce_11 G _ (by decide +kernel : kd 237 = 11)) rfl tb_1317 tb_1319 tv_75 tb_12 tb_1320 hd_X11_far ⟨rfl, rfl⟩ ⟨Nat.le_of_ble_eq_true rfl, Nat.le_of_ble_eq_true rfl⟩ rfl hl.1 rfl (Nat.le_of_ble_eq_true rfl) d_X11_distance_20 (fun r_5 σ_6 H locs hD hw => ?_)
      refine lv_goto (tgt := 31) X.1 X.2.1 d_X11_distance_23 (by decide) ?_
      exact g_iret X hr hlk hw hD d_X11_distance_31
theorem c_X11_distance (l : Launch) (G : GC) (x1 : Int32) (x2 : Int32) (x3 : Int32) (σ : GSt) (Q : Int32 → GSt → Prop)  (hD : D_X11_distance x1 x2 x3 σ Q) : MI l ym_X11_distance cm_X11_distance 4 .int rm_X11_distance G σ [.ref (G.2.1 237), .int x1, .int x2, .int x3] Q := by
  refine met_i (by decide) (Nat.le_of_ble_eq_true rfl) ?_
  intro p e s m args below meth c X hr hlk hw ls hl
  exact s_X11_distance_0 X hr hlk Q  x1 x2 x3 σ hw (lv_sub hl [0, 1, 2, 3] rfl) hD
theorem hd_X11_moveEnd : ym_X11_moveEnd.cls = "GameLoomModel" ∧ ym_X11_moveEnd.cls ≠ "java/lang/invoke/MethodHandle" ∧ ym_X11_moveEnd.cls ≠ "java/lang/invoke/VarHandle" ∧ (parseMethodDescriptor ym_X11_moveEnd.desc).map (fun d => d.parameters.length) = some 2 := by decide +kernel
abbrev rm_X11_moveEnd : Room := { frames := 0, cells := 0, slots := 0, locals := 0 }
theorem d_X11_moveEnd_0 : decode cm_X11_moveEnd 0 = .ok (.iload_n 2, 1) := by decide +kernel
theorem d_X11_moveEnd_1 : decode cm_X11_moveEnd 1 = .ok (.iconst 1, 1) := by decide +kernel
theorem d_X11_moveEnd_2 : decode cm_X11_moveEnd 2 = .ok (.iadd, 1) := by decide +kernel
theorem d_X11_moveEnd_3 : decode cm_X11_moveEnd 3 = .ok (.aload_n 0, 1) := by decide +kernel
theorem d_X11_moveEnd_4 : decode cm_X11_moveEnd 4 = .ok (.getfield 40, 3) := by decide +kernel
theorem d_X11_moveEnd_7 : decode cm_X11_moveEnd 7 = .ok (.iload_n 1, 1) := by decide +kernel
theorem d_X11_moveEnd_8 : decode cm_X11_moveEnd 8 = .ok (.iaload, 1) := by decide +kernel
theorem d_X11_moveEnd_9 : decode cm_X11_moveEnd 9 = .ok (.if_icmp .ge 21, 3) := by decide +kernel
theorem d_X11_moveEnd_12 : decode cm_X11_moveEnd 12 = .ok (.aload_n 0, 1) := by decide +kernel
theorem d_X11_moveEnd_13 : decode cm_X11_moveEnd 13 = .ok (.getfield 37, 3) := by decide +kernel
theorem d_X11_moveEnd_16 : decode cm_X11_moveEnd 16 = .ok (.bipush 6, 2) := by decide +kernel
theorem d_X11_moveEnd_18 : decode cm_X11_moveEnd 18 = .ok (.iload_n 1, 1) := by decide +kernel
theorem d_X11_moveEnd_19 : decode cm_X11_moveEnd 19 = .ok (.imul, 1) := by decide +kernel
theorem d_X11_moveEnd_20 : decode cm_X11_moveEnd 20 = .ok (.iload_n 2, 1) := by decide +kernel
theorem d_X11_moveEnd_21 : decode cm_X11_moveEnd 21 = .ok (.iadd, 1) := by decide +kernel
theorem d_X11_moveEnd_22 : decode cm_X11_moveEnd 22 = .ok (.iconst 1, 1) := by decide +kernel
theorem d_X11_moveEnd_23 : decode cm_X11_moveEnd 23 = .ok (.iadd, 1) := by decide +kernel
theorem d_X11_moveEnd_24 : decode cm_X11_moveEnd 24 = .ok (.iaload, 1) := by decide +kernel
theorem d_X11_moveEnd_25 : decode cm_X11_moveEnd 25 = .ok (.iconst 1, 1) := by decide +kernel
theorem d_X11_moveEnd_26 : decode cm_X11_moveEnd 26 = .ok (.isub, 1) := by decide +kernel
theorem d_X11_moveEnd_27 : decode cm_X11_moveEnd 27 = .ok (.goto 11, 3) := by decide +kernel
theorem d_X11_moveEnd_30 : decode cm_X11_moveEnd 30 = .ok (.aload_n 0, 1) := by decide +kernel
theorem d_X11_moveEnd_31 : decode cm_X11_moveEnd 31 = .ok (.getfield 61, 3) := by decide +kernel
theorem d_X11_moveEnd_34 : decode cm_X11_moveEnd 34 = .ok (.iload_n 1, 1) := by decide +kernel
theorem d_X11_moveEnd_35 : decode cm_X11_moveEnd 35 = .ok (.iaload, 1) := by decide +kernel
theorem d_X11_moveEnd_36 : decode cm_X11_moveEnd 36 = .ok (.iconst 1, 1) := by decide +kernel
theorem d_X11_moveEnd_37 : decode cm_X11_moveEnd 37 = .ok (.isub, 1) := by decide +kernel
theorem d_X11_moveEnd_38 : decode cm_X11_moveEnd 38 = .ok (.ireturn, 1) := by decide +kernel
def D_X11_moveEnd_0 (Q : Int32 → GSt → Prop) (x1 : Int32) (x2 : Int32) (σ : GSt) : Prop :=
  vp_in x1 9 ∧ (((σ 248 (Int32.toNatClampNeg x1)) ≤ (x2 + 1) → vp_in x1 9 ∧ (Q ((σ 255 (Int32.toNatClampNeg x1)) - 1) σ)) ∧
  (¬ (σ 248 (Int32.toNatClampNeg x1)) ≤ (x2 + 1) → vp_in (((6 * x1) + x2) + 1) 54 ∧ (Q ((σ 247 (Int32.toNatClampNeg (((6 * x1) + x2) + 1))) - 1) σ)))
def D_X11_moveEnd (x1 : Int32) (x2 : Int32) (σ : GSt) (Q : Int32 → GSt → Prop) : Prop := D_X11_moveEnd_0 Q x1 x2 σ
set_option maxRecDepth 20000 in
set_option maxHeartbeats 4000000 in
theorem s_X11_moveEnd_0 {p : Program} {l : Launch} {e : Env} {s : State} {m : MethodId} {args : Array Value} {below : List Frame} {meth : Method} {c : Code} {G : GC} (X : CallFix p m c cm_X11_moveEnd 3 s args lw_us "GameLoomModel") (hr : meth.sig.returnType = some .int) (hlk : meth.locks = false) (Q : Int32 → GSt → Prop) (x1 : Int32) (x2 : Int32) (σ : GSt) {H : Heap} {locs : List Loc} {ls : Array Slot} (hw : Wo G s H locs σ) (hl : lv_has ls 3 [(0, .ref (G.2.1 237)), (1, .int x1), (2, .int x2)]) (hD : D_X11_moveEnd_0 Q x1 x2 σ) : W p l e rm_X11_moveEnd s m args below meth c H locs 0 0 (QMI G Q below args s) (F0 m 0 ls []) := by
  unfold D_X11_moveEnd_0 at hD
  refine lv_iload_n X.1 X.2.1 d_X11_moveEnd_0 rfl (lv_at hl 2 rfl) ?_
  refine lv_iconst (v := 1) X.1 X.2.1 d_X11_moveEnd_1 (by decide) ?_
  refine lv_iadd X.1 X.2.1 d_X11_moveEnd_2 ?_
  refine lv_aload_n X.1 X.2.1 d_X11_moveEnd_3 rfl (lv_at hl 0 rfl) ?_
  refine gf_11_10 X hw (by decide +kernel : kd 237 = 11) tb_916 d_X11_moveEnd_4 ?_
  refine lv_iload_n X.1 X.2.1 d_X11_moveEnd_7 rfl (lv_at hl 1 rfl) ?_
  obtain ⟨q_8, hD⟩ := hD
  refine g_iald X hw ly_11_10.1 ly_11_10.2 q_8 d_X11_moveEnd_8 ?_
  refine lv_icmp_ge (tgt := 30) X.1 X.2.1 d_X11_moveEnd_9 (by decide) (fun q_9 => ?_) (fun q_9 => ?_)
  · have hD := hD.1 q_9
    refine lv_aload_n X.1 X.2.1 d_X11_moveEnd_30 rfl (lv_at hl 0 rfl) ?_
    refine gf_11_17 X hw (by decide +kernel : kd 237 = 11) tb_923 d_X11_moveEnd_31 ?_
    refine lv_iload_n X.1 X.2.1 d_X11_moveEnd_34 rfl (lv_at hl 1 rfl) ?_
    obtain ⟨q_35, hD⟩ := hD
    refine g_iald X hw ly_11_17.1 ly_11_17.2 q_35 d_X11_moveEnd_35 ?_
    refine lv_iconst (v := 1) X.1 X.2.1 d_X11_moveEnd_36 (by decide) ?_
    refine lv_isub X.1 X.2.1 d_X11_moveEnd_37 ?_
    exact g_iret X hr hlk hw hD d_X11_moveEnd_38
  · have hD := hD.2 q_9
    refine lv_aload_n X.1 X.2.1 d_X11_moveEnd_12 rfl (lv_at hl 0 rfl) ?_
    refine gf_11_9 X hw (by decide +kernel : kd 237 = 11) tb_915 d_X11_moveEnd_13 ?_
    refine lv_bipush (v := 6) X.1 X.2.1 d_X11_moveEnd_16 (by decide) ?_
    refine lv_iload_n X.1 X.2.1 d_X11_moveEnd_18 rfl (lv_at hl 1 rfl) ?_
    refine lv_imul X.1 X.2.1 d_X11_moveEnd_19 ?_
    refine lv_iload_n X.1 X.2.1 d_X11_moveEnd_20 rfl (lv_at hl 2 rfl) ?_
    refine lv_iadd X.1 X.2.1 d_X11_moveEnd_21 ?_
    refine lv_iconst (v := 1) X.1 X.2.1 d_X11_moveEnd_22 (by decide) ?_
    refine lv_iadd X.1 X.2.1 d_X11_moveEnd_23 ?_
    obtain ⟨q_24, hD⟩ := hD
    refine g_iald X hw ly_11_9.1 ly_11_9.2 q_24 d_X11_moveEnd_24 ?_
    refine lv_iconst (v := 1) X.1 X.2.1 d_X11_moveEnd_25 (by decide) ?_
    refine lv_isub X.1 X.2.1 d_X11_moveEnd_26 ?_
    refine lv_goto (tgt := 38) X.1 X.2.1 d_X11_moveEnd_27 (by decide) ?_
    exact g_iret X hr hlk hw hD d_X11_moveEnd_38
theorem c_X11_moveEnd (l : Launch) (G : GC) (x1 : Int32) (x2 : Int32) (σ : GSt) (Q : Int32 → GSt → Prop)  (hD : D_X11_moveEnd x1 x2 σ Q) : MI l ym_X11_moveEnd cm_X11_moveEnd 3 .int rm_X11_moveEnd G σ [.ref (G.2.1 237), .int x1, .int x2] Q := by
  refine met_i (by decide) (Nat.le_of_ble_eq_true rfl) ?_
  intro p e s m args below meth c X hr hlk hw ls hl
  exact s_X11_moveEnd_0 X hr hlk Q  x1 x2 σ hw (lv_sub hl [0, 1, 2] rfl) hD
theorem hd_X11_endEnd : ym_X11_endEnd.cls = "GameLoomModel" ∧ ym_X11_endEnd.cls ≠ "java/lang/invoke/MethodHandle" ∧ ym_X11_endEnd.cls ≠ "java/lang/invoke/VarHandle" ∧ (parseMethodDescriptor ym_X11_endEnd.desc).map (fun d => d.parameters.length) = some 2 := by decide +kernel
abbrev rm_X11_endEnd : Room := { frames := 0, cells := 0, slots := 0, locals := 0 }
theorem d_X11_endEnd_0 : decode cm_X11_endEnd 0 = .ok (.iload_n 2, 1) := by decide +kernel
theorem d_X11_endEnd_1 : decode cm_X11_endEnd 1 = .ok (.iconst 1, 1) := by decide +kernel
theorem d_X11_endEnd_2 : decode cm_X11_endEnd 2 = .ok (.iadd, 1) := by decide +kernel
theorem d_X11_endEnd_3 : decode cm_X11_endEnd 3 = .ok (.aload_n 0, 1) := by decide +kernel
theorem d_X11_endEnd_4 : decode cm_X11_endEnd 4 = .ok (.getfield 55, 3) := by decide +kernel
theorem d_X11_endEnd_7 : decode cm_X11_endEnd 7 = .ok (.iload_n 1, 1) := by decide +kernel
theorem d_X11_endEnd_8 : decode cm_X11_endEnd 8 = .ok (.iaload, 1) := by decide +kernel
theorem d_X11_endEnd_9 : decode cm_X11_endEnd 9 = .ok (.if_icmp .ge 21, 3) := by decide +kernel
theorem d_X11_endEnd_12 : decode cm_X11_endEnd 12 = .ok (.aload_n 0, 1) := by decide +kernel
theorem d_X11_endEnd_13 : decode cm_X11_endEnd 13 = .ok (.getfield 52, 3) := by decide +kernel
theorem d_X11_endEnd_16 : decode cm_X11_endEnd 16 = .ok (.bipush 6, 2) := by decide +kernel
theorem d_X11_endEnd_18 : decode cm_X11_endEnd 18 = .ok (.iload_n 1, 1) := by decide +kernel
theorem d_X11_endEnd_19 : decode cm_X11_endEnd 19 = .ok (.imul, 1) := by decide +kernel
theorem d_X11_endEnd_20 : decode cm_X11_endEnd 20 = .ok (.iload_n 2, 1) := by decide +kernel
theorem d_X11_endEnd_21 : decode cm_X11_endEnd 21 = .ok (.iadd, 1) := by decide +kernel
theorem d_X11_endEnd_22 : decode cm_X11_endEnd 22 = .ok (.iconst 1, 1) := by decide +kernel
theorem d_X11_endEnd_23 : decode cm_X11_endEnd 23 = .ok (.iadd, 1) := by decide +kernel
theorem d_X11_endEnd_24 : decode cm_X11_endEnd 24 = .ok (.iaload, 1) := by decide +kernel
theorem d_X11_endEnd_25 : decode cm_X11_endEnd 25 = .ok (.iconst 1, 1) := by decide +kernel
theorem d_X11_endEnd_26 : decode cm_X11_endEnd 26 = .ok (.isub, 1) := by decide +kernel
theorem d_X11_endEnd_27 : decode cm_X11_endEnd 27 = .ok (.goto 11, 3) := by decide +kernel
theorem d_X11_endEnd_30 : decode cm_X11_endEnd 30 = .ok (.aload_n 0, 1) := by decide +kernel
theorem d_X11_endEnd_31 : decode cm_X11_endEnd 31 = .ok (.getfield 19, 3) := by decide +kernel
theorem d_X11_endEnd_34 : decode cm_X11_endEnd 34 = .ok (.iload_n 1, 1) := by decide +kernel
theorem d_X11_endEnd_35 : decode cm_X11_endEnd 35 = .ok (.iaload, 1) := by decide +kernel
theorem d_X11_endEnd_36 : decode cm_X11_endEnd 36 = .ok (.iconst 1, 1) := by decide +kernel
theorem d_X11_endEnd_37 : decode cm_X11_endEnd 37 = .ok (.isub, 1) := by decide +kernel
theorem d_X11_endEnd_38 : decode cm_X11_endEnd 38 = .ok (.ireturn, 1) := by decide +kernel
def D_X11_endEnd_0 (Q : Int32 → GSt → Prop) (x1 : Int32) (x2 : Int32) (σ : GSt) : Prop :=
  vp_in x1 9 ∧ (((σ 253 (Int32.toNatClampNeg x1)) ≤ (x2 + 1) → vp_in x1 9 ∧ (Q ((σ 241 (Int32.toNatClampNeg x1)) - 1) σ)) ∧
  (¬ (σ 253 (Int32.toNatClampNeg x1)) ≤ (x2 + 1) → vp_in (((6 * x1) + x2) + 1) 54 ∧ (Q ((σ 252 (Int32.toNatClampNeg (((6 * x1) + x2) + 1))) - 1) σ)))
def D_X11_endEnd (x1 : Int32) (x2 : Int32) (σ : GSt) (Q : Int32 → GSt → Prop) : Prop := D_X11_endEnd_0 Q x1 x2 σ
set_option maxRecDepth 20000 in
set_option maxHeartbeats 4000000 in
theorem s_X11_endEnd_0 {p : Program} {l : Launch} {e : Env} {s : State} {m : MethodId} {args : Array Value} {below : List Frame} {meth : Method} {c : Code} {G : GC} (X : CallFix p m c cm_X11_endEnd 3 s args lw_us "GameLoomModel") (hr : meth.sig.returnType = some .int) (hlk : meth.locks = false) (Q : Int32 → GSt → Prop) (x1 : Int32) (x2 : Int32) (σ : GSt) {H : Heap} {locs : List Loc} {ls : Array Slot} (hw : Wo G s H locs σ) (hl : lv_has ls 3 [(0, .ref (G.2.1 237)), (1, .int x1), (2, .int x2)]) (hD : D_X11_endEnd_0 Q x1 x2 σ) : W p l e rm_X11_endEnd s m args below meth c H locs 0 0 (QMI G Q below args s) (F0 m 0 ls []) := by
  unfold D_X11_endEnd_0 at hD
  refine lv_iload_n X.1 X.2.1 d_X11_endEnd_0 rfl (lv_at hl 2 rfl) ?_
  refine lv_iconst (v := 1) X.1 X.2.1 d_X11_endEnd_1 (by decide) ?_
  refine lv_iadd X.1 X.2.1 d_X11_endEnd_2 ?_
  refine lv_aload_n X.1 X.2.1 d_X11_endEnd_3 rfl (lv_at hl 0 rfl) ?_
  refine gf_11_15 X hw (by decide +kernel : kd 237 = 11) tb_921 d_X11_endEnd_4 ?_
  refine lv_iload_n X.1 X.2.1 d_X11_endEnd_7 rfl (lv_at hl 1 rfl) ?_
  obtain ⟨q_8, hD⟩ := hD
  refine g_iald X hw ly_11_15.1 ly_11_15.2 q_8 d_X11_endEnd_8 ?_
  refine lv_icmp_ge (tgt := 30) X.1 X.2.1 d_X11_endEnd_9 (by decide) (fun q_9 => ?_) (fun q_9 => ?_)
  · have hD := hD.1 q_9
    refine lv_aload_n X.1 X.2.1 d_X11_endEnd_30 rfl (lv_at hl 0 rfl) ?_
    refine gf_11_3 X hw (by decide +kernel : kd 237 = 11) tb_909 d_X11_endEnd_31 ?_
    refine lv_iload_n X.1 X.2.1 d_X11_endEnd_34 rfl (lv_at hl 1 rfl) ?_
    obtain ⟨q_35, hD⟩ := hD
    refine g_iald X hw ly_11_3.1 ly_11_3.2 q_35 d_X11_endEnd_35 ?_
    refine lv_iconst (v := 1) X.1 X.2.1 d_X11_endEnd_36 (by decide) ?_
    refine lv_isub X.1 X.2.1 d_X11_endEnd_37 ?_
    exact g_iret X hr hlk hw hD d_X11_endEnd_38
  · have hD := hD.2 q_9
    refine lv_aload_n X.1 X.2.1 d_X11_endEnd_12 rfl (lv_at hl 0 rfl) ?_
    refine gf_11_14 X hw (by decide +kernel : kd 237 = 11) tb_920 d_X11_endEnd_13 ?_
    refine lv_bipush (v := 6) X.1 X.2.1 d_X11_endEnd_16 (by decide) ?_
    refine lv_iload_n X.1 X.2.1 d_X11_endEnd_18 rfl (lv_at hl 1 rfl) ?_
    refine lv_imul X.1 X.2.1 d_X11_endEnd_19 ?_
    refine lv_iload_n X.1 X.2.1 d_X11_endEnd_20 rfl (lv_at hl 2 rfl) ?_
    refine lv_iadd X.1 X.2.1 d_X11_endEnd_21 ?_
    refine lv_iconst (v := 1) X.1 X.2.1 d_X11_endEnd_22 (by decide) ?_
    refine lv_iadd X.1 X.2.1 d_X11_endEnd_23 ?_
    obtain ⟨q_24, hD⟩ := hD
    refine g_iald X hw ly_11_14.1 ly_11_14.2 q_24 d_X11_endEnd_24 ?_
    refine lv_iconst (v := 1) X.1 X.2.1 d_X11_endEnd_25 (by decide) ?_
    refine lv_isub X.1 X.2.1 d_X11_endEnd_26 ?_
    refine lv_goto (tgt := 38) X.1 X.2.1 d_X11_endEnd_27 (by decide) ?_
    exact g_iret X hr hlk hw hD d_X11_endEnd_38
theorem c_X11_endEnd (l : Launch) (G : GC) (x1 : Int32) (x2 : Int32) (σ : GSt) (Q : Int32 → GSt → Prop)  (hD : D_X11_endEnd x1 x2 σ Q) : MI l ym_X11_endEnd cm_X11_endEnd 3 .int rm_X11_endEnd G σ [.ref (G.2.1 237), .int x1, .int x2] Q := by
  refine met_i (by decide) (Nat.le_of_ble_eq_true rfl) ?_
  intro p e s m args below meth c X hr hlk hw ls hl
  exact s_X11_endEnd_0 X hr hlk Q  x1 x2 σ hw (lv_sub hl [0, 1, 2] rfl) hD
theorem hd_X11_without : ym_X11_without.cls = "GameLoomModel" ∧ ym_X11_without.cls ≠ "java/lang/invoke/MethodHandle" ∧ ym_X11_without.cls ≠ "java/lang/invoke/VarHandle" ∧ (parseMethodDescriptor ym_X11_without.desc).map (fun d => d.parameters.length) = some 3 := by decide +kernel
abbrev rm_X11_without : Room := { frames := 2, cells := 0, slots := 0, locals := 45 }
theorem d_X11_without_0 : decode cm_X11_without 0 = .ok (.aload_n 0, 1) := by decide +kernel
theorem d_X11_without_1 : decode cm_X11_without 1 = .ok (.invokevirtual 198, 3) := by decide +kernel
theorem d_X11_without_4 : decode cm_X11_without 4 = .ok (.aload_n 0, 1) := by decide +kernel
theorem d_X11_without_5 : decode cm_X11_without 5 = .ok (.iload_n 1, 1) := by decide +kernel
theorem d_X11_without_6 : decode cm_X11_without 6 = .ok (.iconst 0, 1) := by decide +kernel
theorem d_X11_without_7 : decode cm_X11_without 7 = .ok (.aload_n 0, 1) := by decide +kernel
theorem d_X11_without_8 : decode cm_X11_without 8 = .ok (.getfield 58, 3) := by decide +kernel
theorem d_X11_without_11 : decode cm_X11_without 11 = .ok (.iload_n 1, 1) := by decide +kernel
theorem d_X11_without_12 : decode cm_X11_without 12 = .ok (.iaload, 1) := by decide +kernel
theorem d_X11_without_13 : decode cm_X11_without 13 = .ok (.invokevirtual 339, 3) := by decide +kernel
theorem d_X11_without_16 : decode cm_X11_without 16 = .ok (.iconst 0, 1) := by decide +kernel
theorem d_X11_without_17 : decode cm_X11_without 17 = .ok (.istore 4, 2) := by decide +kernel
theorem d_X11_without_19 : decode cm_X11_without 19 = .ok (.iconst 0, 1) := by decide +kernel
theorem d_X11_without_20 : decode cm_X11_without 20 = .ok (.istore 5, 2) := by decide +kernel
theorem d_X11_without_22 : decode cm_X11_without 22 = .ok (.iload 5, 2) := by decide +kernel
theorem d_X11_without_24 : decode cm_X11_without 24 = .ok (.aload_n 0, 1) := by decide +kernel
theorem d_X11_without_25 : decode cm_X11_without 25 = .ok (.getfield 40, 3) := by decide +kernel
theorem d_X11_without_28 : decode cm_X11_without 28 = .ok (.iload_n 1, 1) := by decide +kernel
theorem d_X11_without_29 : decode cm_X11_without 29 = .ok (.iaload, 1) := by decide +kernel
theorem d_X11_without_30 : decode cm_X11_without 30 = .ok (.if_icmp .ge 56, 3) := by decide +kernel
theorem d_X11_without_33 : decode cm_X11_without 33 = .ok (.iload 5, 2) := by decide +kernel
theorem d_X11_without_35 : decode cm_X11_without 35 = .ok (.iload_n 2, 1) := by decide +kernel
theorem d_X11_without_36 : decode cm_X11_without 36 = .ok (.if_icmp .ne 6, 3) := by decide +kernel
theorem d_X11_without_39 : decode cm_X11_without 39 = .ok (.goto 41, 3) := by decide +kernel
theorem d_X11_without_42 : decode cm_X11_without 42 = .ok (.iload 4, 2) := by decide +kernel
theorem d_X11_without_44 : decode cm_X11_without 44 = .ok (.ifCond .le 9, 3) := by decide +kernel
theorem d_X11_without_47 : decode cm_X11_without 47 = .ok (.aload_n 0, 1) := by decide +kernel
theorem d_X11_without_48 : decode cm_X11_without 48 = .ok (.bipush 44, 2) := by decide +kernel
theorem d_X11_without_50 : decode cm_X11_without 50 = .ok (.invokevirtual 194, 3) := by decide +kernel
theorem d_X11_without_53 : decode cm_X11_without 53 = .ok (.aload_n 0, 1) := by decide +kernel
theorem d_X11_without_54 : decode cm_X11_without 54 = .ok (.iload_n 1, 1) := by decide +kernel
theorem d_X11_without_55 : decode cm_X11_without 55 = .ok (.aload_n 0, 1) := by decide +kernel
theorem d_X11_without_56 : decode cm_X11_without 56 = .ok (.getfield 37, 3) := by decide +kernel
theorem d_X11_without_59 : decode cm_X11_without 59 = .ok (.bipush 6, 2) := by decide +kernel
theorem d_X11_without_61 : decode cm_X11_without 61 = .ok (.iload_n 1, 1) := by decide +kernel
theorem d_X11_without_62 : decode cm_X11_without 62 = .ok (.imul, 1) := by decide +kernel
theorem d_X11_without_63 : decode cm_X11_without 63 = .ok (.iload 5, 2) := by decide +kernel
theorem d_X11_without_65 : decode cm_X11_without 65 = .ok (.iadd, 1) := by decide +kernel
theorem d_X11_without_66 : decode cm_X11_without 66 = .ok (.iaload, 1) := by decide +kernel
theorem d_X11_without_67 : decode cm_X11_without 67 = .ok (.aload_n 0, 1) := by decide +kernel
theorem d_X11_without_68 : decode cm_X11_without 68 = .ok (.iload_n 1, 1) := by decide +kernel
theorem d_X11_without_69 : decode cm_X11_without 69 = .ok (.iload 5, 2) := by decide +kernel
theorem d_X11_without_71 : decode cm_X11_without 71 = .ok (.invokevirtual 343, 3) := by decide +kernel
theorem d_X11_without_74 : decode cm_X11_without 74 = .ok (.invokevirtual 339, 3) := by decide +kernel
theorem d_X11_without_77 : decode cm_X11_without 77 = .ok (.iinc 4 1, 3) := by decide +kernel
theorem d_X11_without_80 : decode cm_X11_without 80 = .ok (.iinc 5 1, 3) := by decide +kernel
theorem d_X11_without_83 : decode cm_X11_without 83 = .ok (.goto (-61), 3) := by decide +kernel
theorem d_X11_without_86 : decode cm_X11_without 86 = .ok (.aload_n 0, 1) := by decide +kernel
theorem d_X11_without_87 : decode cm_X11_without 87 = .ok (.bipush 59, 2) := by decide +kernel
theorem d_X11_without_89 : decode cm_X11_without 89 = .ok (.invokevirtual 194, 3) := by decide +kernel
theorem d_X11_without_92 : decode cm_X11_without 92 = .ok (.iconst 0, 1) := by decide +kernel
theorem d_X11_without_93 : decode cm_X11_without 93 = .ok (.istore 4, 2) := by decide +kernel
theorem d_X11_without_95 : decode cm_X11_without 95 = .ok (.iconst 0, 1) := by decide +kernel
theorem d_X11_without_96 : decode cm_X11_without 96 = .ok (.istore 5, 2) := by decide +kernel
theorem d_X11_without_98 : decode cm_X11_without 98 = .ok (.iload 5, 2) := by decide +kernel
theorem d_X11_without_100 : decode cm_X11_without 100 = .ok (.aload_n 0, 1) := by decide +kernel
theorem d_X11_without_101 : decode cm_X11_without 101 = .ok (.getfield 55, 3) := by decide +kernel
theorem d_X11_without_104 : decode cm_X11_without 104 = .ok (.iload_n 1, 1) := by decide +kernel
theorem d_X11_without_105 : decode cm_X11_without 105 = .ok (.iaload, 1) := by decide +kernel
theorem d_X11_without_106 : decode cm_X11_without 106 = .ok (.if_icmp .ge 56, 3) := by decide +kernel
theorem d_X11_without_109 : decode cm_X11_without 109 = .ok (.iload 5, 2) := by decide +kernel
theorem d_X11_without_111 : decode cm_X11_without 111 = .ok (.iload_n 3, 1) := by decide +kernel
theorem d_X11_without_112 : decode cm_X11_without 112 = .ok (.if_icmp .ne 6, 3) := by decide +kernel
theorem d_X11_without_115 : decode cm_X11_without 115 = .ok (.goto 41, 3) := by decide +kernel
theorem d_X11_without_118 : decode cm_X11_without 118 = .ok (.iload 4, 2) := by decide +kernel
theorem d_X11_without_120 : decode cm_X11_without 120 = .ok (.ifCond .le 9, 3) := by decide +kernel
theorem d_X11_without_123 : decode cm_X11_without 123 = .ok (.aload_n 0, 1) := by decide +kernel
theorem d_X11_without_124 : decode cm_X11_without 124 = .ok (.bipush 44, 2) := by decide +kernel
theorem d_X11_without_126 : decode cm_X11_without 126 = .ok (.invokevirtual 194, 3) := by decide +kernel
theorem d_X11_without_129 : decode cm_X11_without 129 = .ok (.aload_n 0, 1) := by decide +kernel
theorem d_X11_without_130 : decode cm_X11_without 130 = .ok (.iload_n 1, 1) := by decide +kernel
theorem d_X11_without_131 : decode cm_X11_without 131 = .ok (.aload_n 0, 1) := by decide +kernel
theorem d_X11_without_132 : decode cm_X11_without 132 = .ok (.getfield 52, 3) := by decide +kernel
theorem d_X11_without_135 : decode cm_X11_without 135 = .ok (.bipush 6, 2) := by decide +kernel
theorem d_X11_without_137 : decode cm_X11_without 137 = .ok (.iload_n 1, 1) := by decide +kernel
theorem d_X11_without_138 : decode cm_X11_without 138 = .ok (.imul, 1) := by decide +kernel
theorem d_X11_without_139 : decode cm_X11_without 139 = .ok (.iload 5, 2) := by decide +kernel
theorem d_X11_without_141 : decode cm_X11_without 141 = .ok (.iadd, 1) := by decide +kernel
theorem d_X11_without_142 : decode cm_X11_without 142 = .ok (.iaload, 1) := by decide +kernel
theorem d_X11_without_143 : decode cm_X11_without 143 = .ok (.aload_n 0, 1) := by decide +kernel
theorem d_X11_without_144 : decode cm_X11_without 144 = .ok (.iload_n 1, 1) := by decide +kernel
theorem d_X11_without_145 : decode cm_X11_without 145 = .ok (.iload 5, 2) := by decide +kernel
theorem d_X11_without_147 : decode cm_X11_without 147 = .ok (.invokevirtual 346, 3) := by decide +kernel
theorem d_X11_without_150 : decode cm_X11_without 150 = .ok (.invokevirtual 339, 3) := by decide +kernel
theorem d_X11_without_153 : decode cm_X11_without 153 = .ok (.iinc 4 1, 3) := by decide +kernel
theorem d_X11_without_156 : decode cm_X11_without 156 = .ok (.iinc 5 1, 3) := by decide +kernel
theorem d_X11_without_159 : decode cm_X11_without 159 = .ok (.goto (-61), 3) := by decide +kernel
theorem d_X11_without_162 : decode cm_X11_without 162 = .ok (.aload_n 0, 1) := by decide +kernel
theorem d_X11_without_163 : decode cm_X11_without 163 = .ok (.bipush 46, 2) := by decide +kernel
theorem d_X11_without_165 : decode cm_X11_without 165 = .ok (.invokevirtual 194, 3) := by decide +kernel
theorem d_X11_without_168 : decode cm_X11_without 168 = .ok (.return_, 1) := by decide +kernel
def D_X11_without_156 (K98 : Int32 → Int32 → Int32 → Int32 → GSt → Prop) (Q : GSt → Prop) (x1 : Int32) (x3 : Int32) (x4 : Int32) (x5 : Int32) (σ : GSt) : Prop :=
  ∀ x5_1 : Int32, x5_1 = x5 + 1 → (K98 x1 x3 x4 x5_1 σ)
def D_X11_without_129 (K98 : Int32 → Int32 → Int32 → Int32 → GSt → Prop) (Q : GSt → Prop) (x1 : Int32) (x3 : Int32) (x4 : Int32) (x5 : Int32) (σ : GSt) : Prop :=
  vp_in ((6 * x1) + x5) 54 ∧ (D_X11_endEnd x1 x5 σ (fun r_1 σ_2 => D_X11_addsFrom x1 (σ 252 (Int32.toNatClampNeg ((6 * x1) + x5))) r_1 σ_2 (fun σ_3 => ∀ x4_4 : Int32, x4_4 = x4 + 1 → (D_X11_without_156 K98 Q x1 x3 x4_4 x5 σ_3))))
def D_X11_without_98 (K98 : Int32 → Int32 → Int32 → Int32 → GSt → Prop) (Q : GSt → Prop) (x1 : Int32) (x3 : Int32) (x4 : Int32) (x5 : Int32) (σ : GSt) : Prop :=
  vp_in x1 9 ∧ (((σ 253 (Int32.toNatClampNeg x1)) ≤ x5 → D_X11_adds 46 σ (fun σ_1 => Q σ_1)) ∧
  (¬ (σ 253 (Int32.toNatClampNeg x1)) ≤ x5 → (¬ x5 = x3 → (x4 ≤ 0 → D_X11_without_129 K98 Q x1 x3 x4 x5 σ) ∧
  (¬ x4 ≤ 0 → D_X11_adds 44 σ (fun σ_2 => D_X11_without_129 K98 Q x1 x3 x4 x5 σ_2))) ∧
  (x5 = x3 → D_X11_without_156 K98 Q x1 x3 x4 x5 σ)))
def L_X11_without_98 (Q : GSt → Prop) : Nat → Int32 → Int32 → Int32 → Int32 → GSt → Prop
  | 0 => fun _ _ _ _ _ => False
  | n + 1 => fun x1 x3 x4 x5 σ => D_X11_without_98 (L_X11_without_98 Q n) Q x1 x3 x4 x5 σ
def D_X11_without_80 (K22 : Int32 → Int32 → Int32 → Int32 → Int32 → GSt → Prop) (Q : GSt → Prop) (x1 : Int32) (x2 : Int32) (x3 : Int32) (x4 : Int32) (x5 : Int32) (σ : GSt) : Prop :=
  ∀ x5_1 : Int32, x5_1 = x5 + 1 → (K22 x1 x2 x3 x4 x5_1 σ)
def D_X11_without_53 (K22 : Int32 → Int32 → Int32 → Int32 → Int32 → GSt → Prop) (Q : GSt → Prop) (x1 : Int32) (x2 : Int32) (x3 : Int32) (x4 : Int32) (x5 : Int32) (σ : GSt) : Prop :=
  vp_in ((6 * x1) + x5) 54 ∧ (D_X11_moveEnd x1 x5 σ (fun r_1 σ_2 => D_X11_addsFrom x1 (σ 247 (Int32.toNatClampNeg ((6 * x1) + x5))) r_1 σ_2 (fun σ_3 => ∀ x4_4 : Int32, x4_4 = x4 + 1 → (D_X11_without_80 K22 Q x1 x2 x3 x4_4 x5 σ_3))))
def D_X11_without_22 (K22 : Int32 → Int32 → Int32 → Int32 → Int32 → GSt → Prop) (Q : GSt → Prop) (x1 : Int32) (x2 : Int32) (x3 : Int32) (x4 : Int32) (x5 : Int32) (σ : GSt) : Prop :=
  vp_in x1 9 ∧ (((σ 248 (Int32.toNatClampNeg x1)) ≤ x5 → D_X11_adds 59 σ (fun σ_1 => ∃ n : Nat, L_X11_without_98 Q n x1 x3 0 0 σ_1)) ∧
  (¬ (σ 248 (Int32.toNatClampNeg x1)) ≤ x5 → (¬ x5 = x2 → (x4 ≤ 0 → D_X11_without_53 K22 Q x1 x2 x3 x4 x5 σ) ∧
  (¬ x4 ≤ 0 → D_X11_adds 44 σ (fun σ_2 => D_X11_without_53 K22 Q x1 x2 x3 x4 x5 σ_2))) ∧
  (x5 = x2 → D_X11_without_80 K22 Q x1 x2 x3 x4 x5 σ)))
def L_X11_without_22 (Q : GSt → Prop) : Nat → Int32 → Int32 → Int32 → Int32 → Int32 → GSt → Prop
  | 0 => fun _ _ _ _ _ _ => False
  | n + 1 => fun x1 x2 x3 x4 x5 σ => D_X11_without_22 (L_X11_without_22 Q n) Q x1 x2 x3 x4 x5 σ
def D_X11_without_0 (Q : GSt → Prop) (x1 : Int32) (x2 : Int32) (x3 : Int32) (σ : GSt) : Prop :=
  D_X11_starts  σ (fun σ_1 => vp_in x1 9 ∧ (D_X11_addsFrom x1 0 (σ_1 254 (Int32.toNatClampNeg x1)) σ_1 (fun σ_2 => ∃ n : Nat, L_X11_without_22 Q n x1 x2 x3 0 0 σ_2)))
def D_X11_without (x1 : Int32) (x2 : Int32) (x3 : Int32) (σ : GSt) (Q : GSt → Prop) : Prop := D_X11_without_0 Q x1 x2 x3 σ
set_option maxRecDepth 20000 in
set_option maxHeartbeats 4000000 in
theorem s_X11_without_156 {p : Program} {l : Launch} {e : Env} {s : State} {m : MethodId} {args : Array Value} {below : List Frame} {meth : Method} {c : Code} {G : GC} (X : CallFix p m c cm_X11_without 6 s args lw_us "GameLoomModel") (hr : meth.sig.returnType = none) (hlk : meth.locks = false) (K98 : Int32 → Int32 → Int32 → Int32 → GSt → Prop) (Q : GSt → Prop) (hK98 : ∀ (x1 : Int32) (x3 : Int32) (x4 : Int32) (x5 : Int32) (σ : GSt) (H : Heap) (locs : List Loc) (ls : Array Slot), Wo G s H locs σ → lv_has ls 6 [(0, .ref (G.2.1 237)), (1, .int x1), (3, .int x3), (4, .int x4), (5, .int x5)] → K98 x1 x3 x4 x5 σ → W p l e rm_X11_without s m args below meth c H locs 0 0 (QMV G Q below args s) (F0 m 98 ls [])) (x1 : Int32) (x3 : Int32) (x4 : Int32) (x5 : Int32) (σ : GSt) {H : Heap} {locs : List Loc} {ls : Array Slot} (hw : Wo G s H locs σ) (hl : lv_has ls 6 [(0, .ref (G.2.1 237)), (1, .int x1), (3, .int x3), (4, .int x4), (5, .int x5)]) (hD : D_X11_without_156 K98 Q x1 x3 x4 x5 σ) : W p l e rm_X11_without s m args below meth c H locs 0 0 (QMV G Q below args s) (F0 m 156 ls []) := by
  unfold D_X11_without_156 at hD
  obtain ⟨x5_1, e_x5_1⟩ : ∃ y : Int32, y = x5 + 1 := ⟨_, rfl⟩
  have hD := hD x5_1 e_x5_1
  refine lv_iinc (v := x5_1) (lv' := [(5, .int x5_1), (0, .ref (G.2.1 237)), (1, .int x1), (3, .int x3), (4, .int x4)]) X.1 X.2.1 d_X11_without_156 hl (k := 4) rfl (by rw [e_x5_1]; rfl) (by decide) rfl (fun ls hl => ?_)
  refine lv_goto (tgt := 98) X.1 X.2.1 d_X11_without_159 (by decide) ?_
  exact hK98 x1 x3 x4 x5_1 σ _ _ _  hw (lv_sub hl [1, 2, 3, 4, 0] rfl) hD
set_option maxRecDepth 20000 in
set_option maxHeartbeats 4000000 in
theorem s_X11_without_129 {p : Program} {l : Launch} {e : Env} {s : State} {m : MethodId} {args : Array Value} {below : List Frame} {meth : Method} {c : Code} {G : GC} (X : CallFix p m c cm_X11_without 6 s args lw_us "GameLoomModel") (hr : meth.sig.returnType = none) (hlk : meth.locks = false) (K98 : Int32 → Int32 → Int32 → Int32 → GSt → Prop) (Q : GSt → Prop) (hK98 : ∀ (x1 : Int32) (x3 : Int32) (x4 : Int32) (x5 : Int32) (σ : GSt) (H : Heap) (locs : List Loc) (ls : Array Slot), Wo G s H locs σ → lv_has ls 6 [(0, .ref (G.2.1 237)), (1, .int x1), (3, .int x3), (4, .int x4), (5, .int x5)] → K98 x1 x3 x4 x5 σ → W p l e rm_X11_without s m args below meth c H locs 0 0 (QMV G Q below args s) (F0 m 98 ls [])) (x1 : Int32) (x3 : Int32) (x4 : Int32) (x5 : Int32) (σ : GSt) {H : Heap} {locs : List Loc} {ls : Array Slot} (hw : Wo G s H locs σ) (hl : lv_has ls 6 [(0, .ref (G.2.1 237)), (1, .int x1), (3, .int x3), (4, .int x4), (5, .int x5)]) (hD : D_X11_without_129 K98 Q x1 x3 x4 x5 σ) : W p l e rm_X11_without s m args below meth c H locs 0 0 (QMV G Q below args s) (F0 m 129 ls []) := by
  unfold D_X11_without_129 at hD
  refine lv_aload_n X.1 X.2.1 d_X11_without_129 rfl (lv_at hl 0 rfl) ?_
  refine lv_iload_n X.1 X.2.1 d_X11_without_130 rfl (lv_at hl 1 rfl) ?_
  refine lv_aload_n X.1 X.2.1 d_X11_without_131 rfl (lv_at hl 0 rfl) ?_
  refine gf_11_14 X hw (by decide +kernel : kd 237 = 11) tb_920 d_X11_without_132 ?_
  refine lv_bipush (v := 6) X.1 X.2.1 d_X11_without_135 (by decide) ?_
  refine lv_iload_n X.1 X.2.1 d_X11_without_137 rfl (lv_at hl 1 rfl) ?_
  refine lv_imul X.1 X.2.1 d_X11_without_138 ?_
  refine lv_iload X.1 X.2.1 d_X11_without_139 (lv_at hl 4 rfl) ?_
  refine lv_iadd X.1 X.2.1 d_X11_without_141 ?_
  obtain ⟨q_142, hD⟩ := hD
  refine g_iald X hw ly_11_14.1 ly_11_14.2 q_142 d_X11_without_142 ?_
  refine lv_aload_n X.1 X.2.1 d_X11_without_143 rfl (lv_at hl 0 rfl) ?_
  refine lv_iload_n X.1 X.2.1 d_X11_without_144 rfl (lv_at hl 1 rfl) ?_
  refine lv_iload X.1 X.2.1 d_X11_without_145 (lv_at hl 4 rfl) ?_
  refine gcV_i (rest := [.int (σ 252 (Int32.toNatClampNeg ((6 * x1) + x5))), .int x1, .ref (G.2.1 237)]) (As := [.int x1, .int x5]) (o := 237) X hw (c_X11_endEnd l G x1 x5 σ _  hD) (kd_lt (by decide +kernel : kd 237 = 11) (by decide)) (ce_11 G _ (by decide +kernel : kd 237 = 11)) rfl tb_1340 tb_1342 tv_79 tb_12 tb_1343 hd_X11_endEnd ⟨rfl, rfl⟩ ⟨Nat.le_of_ble_eq_true rfl, Nat.le_of_ble_eq_true rfl⟩ rfl hl.1 rfl (Nat.le_of_ble_eq_true rfl) d_X11_without_147 (fun r_1 σ_2 H locs hD hw => ?_)
  refine gcV_v (rest := []) (As := [.int x1, .int (σ 252 (Int32.toNatClampNeg ((6 * x1) + x5))), .int r_1]) (o := 237) X hw (c_X11_addsFrom l G x1 (σ 252 (Int32.toNatClampNeg ((6 * x1) + x5))) r_1 σ_2 _  hD) (kd_lt (by decide +kernel : kd 237 = 11) (by decide)) (ce_11 G _ (by decide +kernel : kd 237 = 11)) rfl tb_1332 tb_1334 tv_77 tb_12 tb_1335 hd_X11_addsFrom ⟨rfl, rfl⟩ ⟨Nat.le_of_ble_eq_true rfl, Nat.le_of_ble_eq_true rfl⟩ rfl hl.1 rfl (Nat.le_of_ble_eq_true rfl) d_X11_without_150 (fun σ_3 H locs hD hw => ?_)
  obtain ⟨x4_4, e_x4_4⟩ : ∃ y : Int32, y = x4 + 1 := ⟨_, rfl⟩
  have hD := hD x4_4 e_x4_4
  refine lv_iinc (v := x4_4) (lv' := [(4, .int x4_4), (0, .ref (G.2.1 237)), (1, .int x1), (3, .int x3), (5, .int x5)]) X.1 X.2.1 d_X11_without_153 hl (k := 3) rfl (by rw [e_x4_4]; rfl) (by decide) rfl (fun ls hl => ?_)
  exact s_X11_without_156 X hr hlk K98 Q hK98 x1 x3 x4_4 x5 σ_3 hw (lv_sub hl [1, 2, 3, 0, 4] rfl) hD
set_option maxRecDepth 20000 in
set_option maxHeartbeats 4000000 in
theorem s_X11_without_98 {p : Program} {l : Launch} {e : Env} {s : State} {m : MethodId} {args : Array Value} {below : List Frame} {meth : Method} {c : Code} {G : GC} (X : CallFix p m c cm_X11_without 6 s args lw_us "GameLoomModel") (hr : meth.sig.returnType = none) (hlk : meth.locks = false) (K98 : Int32 → Int32 → Int32 → Int32 → GSt → Prop) (Q : GSt → Prop) (hK98 : ∀ (x1 : Int32) (x3 : Int32) (x4 : Int32) (x5 : Int32) (σ : GSt) (H : Heap) (locs : List Loc) (ls : Array Slot), Wo G s H locs σ → lv_has ls 6 [(0, .ref (G.2.1 237)), (1, .int x1), (3, .int x3), (4, .int x4), (5, .int x5)] → K98 x1 x3 x4 x5 σ → W p l e rm_X11_without s m args below meth c H locs 0 0 (QMV G Q below args s) (F0 m 98 ls [])) (x1 : Int32) (x3 : Int32) (x4 : Int32) (x5 : Int32) (σ : GSt) {H : Heap} {locs : List Loc} {ls : Array Slot} (hw : Wo G s H locs σ) (hl : lv_has ls 6 [(0, .ref (G.2.1 237)), (1, .int x1), (3, .int x3), (4, .int x4), (5, .int x5)]) (hD : D_X11_without_98 K98 Q x1 x3 x4 x5 σ) : W p l e rm_X11_without s m args below meth c H locs 0 0 (QMV G Q below args s) (F0 m 98 ls []) := by
  unfold D_X11_without_98 at hD
  refine lv_iload X.1 X.2.1 d_X11_without_98 (lv_at hl 4 rfl) ?_
  refine lv_aload_n X.1 X.2.1 d_X11_without_100 rfl (lv_at hl 0 rfl) ?_
  refine gf_11_15 X hw (by decide +kernel : kd 237 = 11) tb_921 d_X11_without_101 ?_
  refine lv_iload_n X.1 X.2.1 d_X11_without_104 rfl (lv_at hl 1 rfl) ?_
  obtain ⟨q_105, hD⟩ := hD
  refine g_iald X hw ly_11_15.1 ly_11_15.2 q_105 d_X11_without_105 ?_
  refine lv_icmp_ge (tgt := 162) X.1 X.2.1 d_X11_without_106 (by decide) (fun q_106 => ?_) (fun q_106 => ?_)
  · have hD := hD.1 q_106
    refine lv_aload_n X.1 X.2.1 d_X11_without_162 rfl (lv_at hl 0 rfl) ?_
    refine lv_bipush (v := 46) X.1 X.2.1 d_X11_without_163 (by decide) ?_
    refine gcV_v (rest := []) (As := [.int 46]) (o := 237) X hw (c_X11_adds l G 46 σ _  hD) (kd_lt (by decide +kernel : kd 237 = 11) (by decide)) (ce_11 G _ (by decide +kernel : kd 237 = 11)) rfl tb_1097 tb_1099 tv_37 tb_12 tb_1100 hd_X11_adds ⟨rfl, rfl⟩ ⟨Nat.le_of_ble_eq_true rfl, Nat.le_of_ble_eq_true rfl⟩ rfl hl.1 rfl (Nat.le_of_ble_eq_true rfl) d_X11_without_165 (fun σ_1 H locs hD hw => ?_)
    exact g_vret X hr hlk hw hD d_X11_without_168
  · have hD := hD.2 q_106
    refine lv_iload X.1 X.2.1 d_X11_without_109 (lv_at hl 4 rfl) ?_
    refine lv_iload_n X.1 X.2.1 d_X11_without_111 rfl (lv_at hl 2 rfl) ?_
    refine lv_icmp_ne (tgt := 118) X.1 X.2.1 d_X11_without_112 (by decide) (fun q_112 => ?_) (fun q_112 => ?_)
    · have hD := hD.1 q_112
      refine lv_iload X.1 X.2.1 d_X11_without_118 (lv_at hl 3 rfl) ?_
      refine lv_if_le (tgt := 129) X.1 X.2.1 d_X11_without_120 (by decide) (fun q_120 => ?_) (fun q_120 => ?_)
      · have hD := hD.1 q_120
        exact s_X11_without_129 X hr hlk K98 Q hK98 x1 x3 x4 x5 σ hw (lv_sub hl [0, 1, 2, 3, 4] rfl) hD
      · have hD := hD.2 q_120
        refine lv_aload_n X.1 X.2.1 d_X11_without_123 rfl (lv_at hl 0 rfl) ?_
        refine lv_bipush (v := 44) X.1 X.2.1 d_X11_without_124 (by decide) ?_
        refine gcV_v (rest := []) (As := [.int 44]) (o := 237) X hw (c_X11_adds l G 44 σ _  hD) (kd_lt (by decide +kernel : kd 237 = 11) (by decide)) (ce_11 G _ (by decide +kernel : kd 237 = 11)) rfl tb_1097 tb_1099 tv_37 tb_12 tb_1100 hd_X11_adds ⟨rfl, rfl⟩ ⟨Nat.le_of_ble_eq_true rfl, Nat.le_of_ble_eq_true rfl⟩ rfl hl.1 rfl (Nat.le_of_ble_eq_true rfl) d_X11_without_126 (fun σ_2 H locs hD hw => ?_)
        exact s_X11_without_129 X hr hlk K98 Q hK98 x1 x3 x4 x5 σ_2 hw (lv_sub hl [0, 1, 2, 3, 4] rfl) hD
    · have hD := hD.2 q_112
      refine lv_goto (tgt := 156) X.1 X.2.1 d_X11_without_115 (by decide) ?_
      exact s_X11_without_156 X hr hlk K98 Q hK98 x1 x3 x4 x5 σ hw (lv_sub hl [0, 1, 2, 3, 4] rfl) hD
set_option maxRecDepth 20000 in
set_option maxHeartbeats 4000000 in
theorem sl_X11_without_98 {p : Program} {l : Launch} {e : Env} {s : State} {m : MethodId} {args : Array Value} {below : List Frame} {meth : Method} {c : Code} {G : GC} (X : CallFix p m c cm_X11_without 6 s args lw_us "GameLoomModel") (hr : meth.sig.returnType = none) (hlk : meth.locks = false) (Q : GSt → Prop) : ∀ (nn : Nat), ∀ (x1 : Int32) (x3 : Int32) (x4 : Int32) (x5 : Int32) (σ : GSt) (H : Heap) (locs : List Loc) (ls : Array Slot), Wo G s H locs σ → lv_has ls 6 [(0, .ref (G.2.1 237)), (1, .int x1), (3, .int x3), (4, .int x4), (5, .int x5)] → L_X11_without_98 Q nn x1 x3 x4 x5 σ → W p l e rm_X11_without s m args below meth c H locs 0 0 (QMV G Q below args s) (F0 m 98 ls []) := by
  intro nn
  induction nn with
  | zero => intro x1 x3 x4 x5 σ H locs ls  hw hl hD; exact hD.elim
  | succ nn ih =>
    intro x1 x3 x4 x5 σ H locs ls  hw hl hD
    exact s_X11_without_98 X hr hlk (L_X11_without_98 Q nn) Q ih x1 x3 x4 x5 σ hw hl hD
set_option maxRecDepth 20000 in
set_option maxHeartbeats 4000000 in
theorem s_X11_without_80 {p : Program} {l : Launch} {e : Env} {s : State} {m : MethodId} {args : Array Value} {below : List Frame} {meth : Method} {c : Code} {G : GC} (X : CallFix p m c cm_X11_without 6 s args lw_us "GameLoomModel") (hr : meth.sig.returnType = none) (hlk : meth.locks = false) (K22 : Int32 → Int32 → Int32 → Int32 → Int32 → GSt → Prop) (Q : GSt → Prop) (hK22 : ∀ (x1 : Int32) (x2 : Int32) (x3 : Int32) (x4 : Int32) (x5 : Int32) (σ : GSt) (H : Heap) (locs : List Loc) (ls : Array Slot), Wo G s H locs σ → lv_has ls 6 [(0, .ref (G.2.1 237)), (1, .int x1), (2, .int x2), (3, .int x3), (4, .int x4), (5, .int x5)] → K22 x1 x2 x3 x4 x5 σ → W p l e rm_X11_without s m args below meth c H locs 0 0 (QMV G Q below args s) (F0 m 22 ls [])) (x1 : Int32) (x2 : Int32) (x3 : Int32) (x4 : Int32) (x5 : Int32) (σ : GSt) {H : Heap} {locs : List Loc} {ls : Array Slot} (hw : Wo G s H locs σ) (hl : lv_has ls 6 [(0, .ref (G.2.1 237)), (1, .int x1), (2, .int x2), (3, .int x3), (4, .int x4), (5, .int x5)]) (hD : D_X11_without_80 K22 Q x1 x2 x3 x4 x5 σ) : W p l e rm_X11_without s m args below meth c H locs 0 0 (QMV G Q below args s) (F0 m 80 ls []) := by
  unfold D_X11_without_80 at hD
  obtain ⟨x5_1, e_x5_1⟩ : ∃ y : Int32, y = x5 + 1 := ⟨_, rfl⟩
  have hD := hD x5_1 e_x5_1
  refine lv_iinc (v := x5_1) (lv' := [(5, .int x5_1), (0, .ref (G.2.1 237)), (1, .int x1), (2, .int x2), (3, .int x3), (4, .int x4)]) X.1 X.2.1 d_X11_without_80 hl (k := 5) rfl (by rw [e_x5_1]; rfl) (by decide) rfl (fun ls hl => ?_)
  refine lv_goto (tgt := 22) X.1 X.2.1 d_X11_without_83 (by decide) ?_
  exact hK22 x1 x2 x3 x4 x5_1 σ _ _ _  hw (lv_sub hl [1, 2, 3, 4, 5, 0] rfl) hD
set_option maxRecDepth 20000 in
set_option maxHeartbeats 4000000 in
theorem s_X11_without_53 {p : Program} {l : Launch} {e : Env} {s : State} {m : MethodId} {args : Array Value} {below : List Frame} {meth : Method} {c : Code} {G : GC} (X : CallFix p m c cm_X11_without 6 s args lw_us "GameLoomModel") (hr : meth.sig.returnType = none) (hlk : meth.locks = false) (K22 : Int32 → Int32 → Int32 → Int32 → Int32 → GSt → Prop) (Q : GSt → Prop) (hK22 : ∀ (x1 : Int32) (x2 : Int32) (x3 : Int32) (x4 : Int32) (x5 : Int32) (σ : GSt) (H : Heap) (locs : List Loc) (ls : Array Slot), Wo G s H locs σ → lv_has ls 6 [(0, .ref (G.2.1 237)), (1, .int x1), (2, .int x2), (3, .int x3), (4, .int x4), (5, .int x5)] → K22 x1 x2 x3 x4 x5 σ → W p l e rm_X11_without s m args below meth c H locs 0 0 (QMV G Q below args s) (F0 m 22 ls [])) (x1 : Int32) (x2 : Int32) (x3 : Int32) (x4 : Int32) (x5 : Int32) (σ : GSt) {H : Heap} {locs : List Loc} {ls : Array Slot} (hw : Wo G s H locs σ) (hl : lv_has ls 6 [(0, .ref (G.2.1 237)), (1, .int x1), (2, .int x2), (3, .int x3), (4, .int x4), (5, .int x5)]) (hD : D_X11_without_53 K22 Q x1 x2 x3 x4 x5 σ) : W p l e rm_X11_without s m args below meth c H locs 0 0 (QMV G Q below args s) (F0 m 53 ls []) := by
  unfold D_X11_without_53 at hD
  refine lv_aload_n X.1 X.2.1 d_X11_without_53 rfl (lv_at hl 0 rfl) ?_
  refine lv_iload_n X.1 X.2.1 d_X11_without_54 rfl (lv_at hl 1 rfl) ?_
  refine lv_aload_n X.1 X.2.1 d_X11_without_55 rfl (lv_at hl 0 rfl) ?_
  refine gf_11_9 X hw (by decide +kernel : kd 237 = 11) tb_915 d_X11_without_56 ?_
  refine lv_bipush (v := 6) X.1 X.2.1 d_X11_without_59 (by decide) ?_
  refine lv_iload_n X.1 X.2.1 d_X11_without_61 rfl (lv_at hl 1 rfl) ?_
  refine lv_imul X.1 X.2.1 d_X11_without_62 ?_
  refine lv_iload X.1 X.2.1 d_X11_without_63 (lv_at hl 5 rfl) ?_
  refine lv_iadd X.1 X.2.1 d_X11_without_65 ?_
  obtain ⟨q_66, hD⟩ := hD
  refine g_iald X hw ly_11_9.1 ly_11_9.2 q_66 d_X11_without_66 ?_
  refine lv_aload_n X.1 X.2.1 d_X11_without_67 rfl (lv_at hl 0 rfl) ?_
  refine lv_iload_n X.1 X.2.1 d_X11_without_68 rfl (lv_at hl 1 rfl) ?_
  refine lv_iload X.1 X.2.1 d_X11_without_69 (lv_at hl 5 rfl) ?_
  refine gcV_i (rest := [.int (σ 247 (Int32.toNatClampNeg ((6 * x1) + x5))), .int x1, .ref (G.2.1 237)]) (As := [.int x1, .int x5]) (o := 237) X hw (c_X11_moveEnd l G x1 x5 σ _  hD) (kd_lt (by decide +kernel : kd 237 = 11) (by decide)) (ce_11 G _ (by decide +kernel : kd 237 = 11)) rfl tb_1336 tb_1338 tv_78 tb_12 tb_1339 hd_X11_moveEnd ⟨rfl, rfl⟩ ⟨Nat.le_of_ble_eq_true rfl, Nat.le_of_ble_eq_true rfl⟩ rfl hl.1 rfl (Nat.le_of_ble_eq_true rfl) d_X11_without_71 (fun r_1 σ_2 H locs hD hw => ?_)
  refine gcV_v (rest := []) (As := [.int x1, .int (σ 247 (Int32.toNatClampNeg ((6 * x1) + x5))), .int r_1]) (o := 237) X hw (c_X11_addsFrom l G x1 (σ 247 (Int32.toNatClampNeg ((6 * x1) + x5))) r_1 σ_2 _  hD) (kd_lt (by decide +kernel : kd 237 = 11) (by decide)) (ce_11 G _ (by decide +kernel : kd 237 = 11)) rfl tb_1332 tb_1334 tv_77 tb_12 tb_1335 hd_X11_addsFrom ⟨rfl, rfl⟩ ⟨Nat.le_of_ble_eq_true rfl, Nat.le_of_ble_eq_true rfl⟩ rfl hl.1 rfl (Nat.le_of_ble_eq_true rfl) d_X11_without_74 (fun σ_3 H locs hD hw => ?_)
  obtain ⟨x4_4, e_x4_4⟩ : ∃ y : Int32, y = x4 + 1 := ⟨_, rfl⟩
  have hD := hD x4_4 e_x4_4
  refine lv_iinc (v := x4_4) (lv' := [(4, .int x4_4), (0, .ref (G.2.1 237)), (1, .int x1), (2, .int x2), (3, .int x3), (5, .int x5)]) X.1 X.2.1 d_X11_without_77 hl (k := 4) rfl (by rw [e_x4_4]; rfl) (by decide) rfl (fun ls hl => ?_)
  exact s_X11_without_80 X hr hlk K22 Q hK22 x1 x2 x3 x4_4 x5 σ_3 hw (lv_sub hl [1, 2, 3, 4, 0, 5] rfl) hD
set_option maxRecDepth 20000 in
set_option maxHeartbeats 4000000 in
theorem s_X11_without_22 {p : Program} {l : Launch} {e : Env} {s : State} {m : MethodId} {args : Array Value} {below : List Frame} {meth : Method} {c : Code} {G : GC} (X : CallFix p m c cm_X11_without 6 s args lw_us "GameLoomModel") (hr : meth.sig.returnType = none) (hlk : meth.locks = false) (K22 : Int32 → Int32 → Int32 → Int32 → Int32 → GSt → Prop) (Q : GSt → Prop) (hK22 : ∀ (x1 : Int32) (x2 : Int32) (x3 : Int32) (x4 : Int32) (x5 : Int32) (σ : GSt) (H : Heap) (locs : List Loc) (ls : Array Slot), Wo G s H locs σ → lv_has ls 6 [(0, .ref (G.2.1 237)), (1, .int x1), (2, .int x2), (3, .int x3), (4, .int x4), (5, .int x5)] → K22 x1 x2 x3 x4 x5 σ → W p l e rm_X11_without s m args below meth c H locs 0 0 (QMV G Q below args s) (F0 m 22 ls [])) (x1 : Int32) (x2 : Int32) (x3 : Int32) (x4 : Int32) (x5 : Int32) (σ : GSt) {H : Heap} {locs : List Loc} {ls : Array Slot} (hw : Wo G s H locs σ) (hl : lv_has ls 6 [(0, .ref (G.2.1 237)), (1, .int x1), (2, .int x2), (3, .int x3), (4, .int x4), (5, .int x5)]) (hD : D_X11_without_22 K22 Q x1 x2 x3 x4 x5 σ) : W p l e rm_X11_without s m args below meth c H locs 0 0 (QMV G Q below args s) (F0 m 22 ls []) := by
  unfold D_X11_without_22 at hD
  refine lv_iload X.1 X.2.1 d_X11_without_22 (lv_at hl 5 rfl) ?_
  refine lv_aload_n X.1 X.2.1 d_X11_without_24 rfl (lv_at hl 0 rfl) ?_
  refine gf_11_10 X hw (by decide +kernel : kd 237 = 11) tb_916 d_X11_without_25 ?_
  refine lv_iload_n X.1 X.2.1 d_X11_without_28 rfl (lv_at hl 1 rfl) ?_
  obtain ⟨q_29, hD⟩ := hD
  refine g_iald X hw ly_11_10.1 ly_11_10.2 q_29 d_X11_without_29 ?_
  refine lv_icmp_ge (tgt := 86) X.1 X.2.1 d_X11_without_30 (by decide) (fun q_30 => ?_) (fun q_30 => ?_)
  · have hD := hD.1 q_30
    refine lv_aload_n X.1 X.2.1 d_X11_without_86 rfl (lv_at hl 0 rfl) ?_
    refine lv_bipush (v := 59) X.1 X.2.1 d_X11_without_87 (by decide) ?_
    refine gcV_v (rest := []) (As := [.int 59]) (o := 237) X hw (c_X11_adds l G 59 σ _  hD) (kd_lt (by decide +kernel : kd 237 = 11) (by decide)) (ce_11 G _ (by decide +kernel : kd 237 = 11)) rfl tb_1097 tb_1099 tv_37 tb_12 tb_1100 hd_X11_adds ⟨rfl, rfl⟩ ⟨Nat.le_of_ble_eq_true rfl, Nat.le_of_ble_eq_true rfl⟩ rfl hl.1 rfl (Nat.le_of_ble_eq_true rfl) d_X11_without_89 (fun σ_1 H locs hD hw => ?_)
    refine lv_iconst (v := 0) X.1 X.2.1 d_X11_without_92 (by decide) ?_
    refine lv_istore (lv' := [(4, .int 0), (0, .ref (G.2.1 237)), (1, .int x1), (2, .int x2), (3, .int x3), (5, .int x5)]) X.1 X.2.1 d_X11_without_93 hl (by decide) rfl (fun ls hl => ?_)
    refine lv_iconst (v := 0) X.1 X.2.1 d_X11_without_95 (by decide) ?_
    refine lv_istore (lv' := [(5, .int 0), (4, .int 0), (0, .ref (G.2.1 237)), (1, .int x1), (2, .int x2), (3, .int x3)]) X.1 X.2.1 d_X11_without_96 hl (by decide) rfl (fun ls hl => ?_)
    obtain ⟨n9, hD⟩ := hD
    exact sl_X11_without_98 X hr hlk  Q  n9 x1 x3 0 0 σ_1 _ _ _  hw (lv_sub hl [2, 3, 5, 1, 0] rfl) hD
  · have hD := hD.2 q_30
    refine lv_iload X.1 X.2.1 d_X11_without_33 (lv_at hl 5 rfl) ?_
    refine lv_iload_n X.1 X.2.1 d_X11_without_35 rfl (lv_at hl 2 rfl) ?_
    refine lv_icmp_ne (tgt := 42) X.1 X.2.1 d_X11_without_36 (by decide) (fun q_36 => ?_) (fun q_36 => ?_)
    · have hD := hD.1 q_36
      refine lv_iload X.1 X.2.1 d_X11_without_42 (lv_at hl 4 rfl) ?_
      refine lv_if_le (tgt := 53) X.1 X.2.1 d_X11_without_44 (by decide) (fun q_44 => ?_) (fun q_44 => ?_)
      · have hD := hD.1 q_44
        exact s_X11_without_53 X hr hlk K22 Q hK22 x1 x2 x3 x4 x5 σ hw (lv_sub hl [0, 1, 2, 3, 4, 5] rfl) hD
      · have hD := hD.2 q_44
        refine lv_aload_n X.1 X.2.1 d_X11_without_47 rfl (lv_at hl 0 rfl) ?_
        refine lv_bipush (v := 44) X.1 X.2.1 d_X11_without_48 (by decide) ?_
        refine gcV_v (rest := []) (As := [.int 44]) (o := 237) X hw (c_X11_adds l G 44 σ _  hD) (kd_lt (by decide +kernel : kd 237 = 11) (by decide)) (ce_11 G _ (by decide +kernel : kd 237 = 11)) rfl tb_1097 tb_1099 tv_37 tb_12 tb_1100 hd_X11_adds ⟨rfl, rfl⟩ ⟨Nat.le_of_ble_eq_true rfl, Nat.le_of_ble_eq_true rfl⟩ rfl hl.1 rfl (Nat.le_of_ble_eq_true rfl) d_X11_without_50 (fun σ_2 H locs hD hw => ?_)
        exact s_X11_without_53 X hr hlk K22 Q hK22 x1 x2 x3 x4 x5 σ_2 hw (lv_sub hl [0, 1, 2, 3, 4, 5] rfl) hD
    · have hD := hD.2 q_36
      refine lv_goto (tgt := 80) X.1 X.2.1 d_X11_without_39 (by decide) ?_
      exact s_X11_without_80 X hr hlk K22 Q hK22 x1 x2 x3 x4 x5 σ hw (lv_sub hl [0, 1, 2, 3, 4, 5] rfl) hD
set_option maxRecDepth 20000 in
set_option maxHeartbeats 4000000 in
theorem sl_X11_without_22 {p : Program} {l : Launch} {e : Env} {s : State} {m : MethodId} {args : Array Value} {below : List Frame} {meth : Method} {c : Code} {G : GC} (X : CallFix p m c cm_X11_without 6 s args lw_us "GameLoomModel") (hr : meth.sig.returnType = none) (hlk : meth.locks = false) (Q : GSt → Prop) : ∀ (nn : Nat), ∀ (x1 : Int32) (x2 : Int32) (x3 : Int32) (x4 : Int32) (x5 : Int32) (σ : GSt) (H : Heap) (locs : List Loc) (ls : Array Slot), Wo G s H locs σ → lv_has ls 6 [(0, .ref (G.2.1 237)), (1, .int x1), (2, .int x2), (3, .int x3), (4, .int x4), (5, .int x5)] → L_X11_without_22 Q nn x1 x2 x3 x4 x5 σ → W p l e rm_X11_without s m args below meth c H locs 0 0 (QMV G Q below args s) (F0 m 22 ls []) := by
  intro nn
  induction nn with
  | zero => intro x1 x2 x3 x4 x5 σ H locs ls  hw hl hD; exact hD.elim
  | succ nn ih =>
    intro x1 x2 x3 x4 x5 σ H locs ls  hw hl hD
    exact s_X11_without_22 X hr hlk (L_X11_without_22 Q nn) Q ih x1 x2 x3 x4 x5 σ hw hl hD
set_option maxRecDepth 20000 in
set_option maxHeartbeats 4000000 in
theorem s_X11_without_0 {p : Program} {l : Launch} {e : Env} {s : State} {m : MethodId} {args : Array Value} {below : List Frame} {meth : Method} {c : Code} {G : GC} (X : CallFix p m c cm_X11_without 6 s args lw_us "GameLoomModel") (hr : meth.sig.returnType = none) (hlk : meth.locks = false) (Q : GSt → Prop) (x1 : Int32) (x2 : Int32) (x3 : Int32) (σ : GSt) {H : Heap} {locs : List Loc} {ls : Array Slot} (hw : Wo G s H locs σ) (hl : lv_has ls 6 [(0, .ref (G.2.1 237)), (1, .int x1), (2, .int x2), (3, .int x3)]) (hD : D_X11_without_0 Q x1 x2 x3 σ) : W p l e rm_X11_without s m args below meth c H locs 0 0 (QMV G Q below args s) (F0 m 0 ls []) := by
  unfold D_X11_without_0 at hD
  refine lv_aload_n X.1 X.2.1 d_X11_without_0 rfl (lv_at hl 0 rfl) ?_
  refine gcV_v (rest := []) (As := []) (o := 237) X hw (c_X11_starts l G  σ _  hD) (kd_lt (by decide +kernel : kd 237 = 11) (by decide)) (ce_11 G _ (by decide +kernel : kd 237 = 11)) rfl tb_1093 tb_1095 tv_36 tb_12 tb_1096 hd_X11_starts ⟨rfl, rfl⟩ ⟨Nat.le_of_ble_eq_true rfl, Nat.le_of_ble_eq_true rfl⟩ rfl hl.1 rfl (Nat.le_of_ble_eq_true rfl) d_X11_without_1 (fun σ_1 H locs hD hw => ?_)
  refine lv_aload_n X.1 X.2.1 d_X11_without_4 rfl (lv_at hl 0 rfl) ?_
  refine lv_iload_n X.1 X.2.1 d_X11_without_5 rfl (lv_at hl 1 rfl) ?_
  refine lv_iconst (v := 0) X.1 X.2.1 d_X11_without_6 (by decide) ?_
  refine lv_aload_n X.1 X.2.1 d_X11_without_7 rfl (lv_at hl 0 rfl) ?_
  refine gf_11_16 X hw (by decide +kernel : kd 237 = 11) tb_922 d_X11_without_8 ?_
  refine lv_iload_n X.1 X.2.1 d_X11_without_11 rfl (lv_at hl 1 rfl) ?_
  obtain ⟨q_12, hD⟩ := hD
  refine g_iald X hw ly_11_16.1 ly_11_16.2 q_12 d_X11_without_12 ?_
  refine gcV_v (rest := []) (As := [.int x1, .int 0, .int (σ_1 254 (Int32.toNatClampNeg x1))]) (o := 237) X hw (c_X11_addsFrom l G x1 0 (σ_1 254 (Int32.toNatClampNeg x1)) σ_1 _  hD) (kd_lt (by decide +kernel : kd 237 = 11) (by decide)) (ce_11 G _ (by decide +kernel : kd 237 = 11)) rfl tb_1332 tb_1334 tv_77 tb_12 tb_1335 hd_X11_addsFrom ⟨rfl, rfl⟩ ⟨Nat.le_of_ble_eq_true rfl, Nat.le_of_ble_eq_true rfl⟩ rfl hl.1 rfl (Nat.le_of_ble_eq_true rfl) d_X11_without_13 (fun σ_2 H locs hD hw => ?_)
  refine lv_iconst (v := 0) X.1 X.2.1 d_X11_without_16 (by decide) ?_
  refine lv_istore (lv' := [(4, .int 0), (0, .ref (G.2.1 237)), (1, .int x1), (2, .int x2), (3, .int x3)]) X.1 X.2.1 d_X11_without_17 hl (by decide) rfl (fun ls hl => ?_)
  refine lv_iconst (v := 0) X.1 X.2.1 d_X11_without_19 (by decide) ?_
  refine lv_istore (lv' := [(5, .int 0), (4, .int 0), (0, .ref (G.2.1 237)), (1, .int x1), (2, .int x2), (3, .int x3)]) X.1 X.2.1 d_X11_without_20 hl (by decide) rfl (fun ls hl => ?_)
  obtain ⟨n9, hD⟩ := hD
  exact sl_X11_without_22 X hr hlk  Q  n9 x1 x2 x3 0 0 σ_2 _ _ _  hw (lv_sub hl [2, 3, 4, 5, 1, 0] rfl) hD
theorem c_X11_without (l : Launch) (G : GC) (x1 : Int32) (x2 : Int32) (x3 : Int32) (σ : GSt) (Q : GSt → Prop)  (hD : D_X11_without x1 x2 x3 σ Q) : MV l ym_X11_without cm_X11_without 6 rm_X11_without G σ [.ref (G.2.1 237), .int x1, .int x2, .int x3] Q := by
  refine met_v (by decide) (Nat.le_of_ble_eq_true rfl) ?_
  intro p e s m args below meth c X hr hlk hw ls hl
  exact s_X11_without_0 X hr hlk Q  x1 x2 x3 σ hw (lv_sub hl [0, 1, 2, 3] rfl) hD
theorem hd_X11_whatFor : ym_X11_whatFor.cls = "GameLoomModel" ∧ ym_X11_whatFor.cls ≠ "java/lang/invoke/MethodHandle" ∧ ym_X11_whatFor.cls ≠ "java/lang/invoke/VarHandle" ∧ (parseMethodDescriptor ym_X11_whatFor.desc).map (fun d => d.parameters.length) = some 3 := by decide +kernel
abbrev rm_X11_whatFor : Room := { frames := 12, cells := 0, slots := 0, locals := 306 }
theorem d_X11_whatFor_0 : decode cm_X11_whatFor 0 = .ok (.aload_n 0, 1) := by decide +kernel
theorem d_X11_whatFor_1 : decode cm_X11_whatFor 1 = .ok (.iload_n 1, 1) := by decide +kernel
theorem d_X11_whatFor_2 : decode cm_X11_whatFor 2 = .ok (.invokevirtual 204, 3) := by decide +kernel
theorem d_X11_whatFor_5 : decode cm_X11_whatFor 5 = .ok (.ifCond .eq 21, 3) := by decide +kernel
theorem d_X11_whatFor_8 : decode cm_X11_whatFor 8 = .ok (.iload_n 2, 1) := by decide +kernel
theorem d_X11_whatFor_9 : decode cm_X11_whatFor 9 = .ok (.i2l, 1) := by decide +kernel
theorem d_X11_whatFor_10 : decode cm_X11_whatFor 10 = .ok (.lconst 0, 1) := by decide +kernel
theorem d_X11_whatFor_11 : decode cm_X11_whatFor 11 = .ok (.aload_n 0, 1) := by decide +kernel
theorem d_X11_whatFor_12 : decode cm_X11_whatFor 12 = .ok (.getfield 40, 3) := by decide +kernel
theorem d_X11_whatFor_15 : decode cm_X11_whatFor 15 = .ok (.iload_n 1, 1) := by decide +kernel
theorem d_X11_whatFor_16 : decode cm_X11_whatFor 16 = .ok (.iaload, 1) := by decide +kernel
theorem d_X11_whatFor_17 : decode cm_X11_whatFor 17 = .ok (.iconst 1, 1) := by decide +kernel
theorem d_X11_whatFor_18 : decode cm_X11_whatFor 18 = .ok (.isub, 1) := by decide +kernel
theorem d_X11_whatFor_19 : decode cm_X11_whatFor 19 = .ok (.i2l, 1) := by decide +kernel
theorem d_X11_whatFor_20 : decode cm_X11_whatFor 20 = .ok (.invokestatic 163, 3) := by decide +kernel
theorem d_X11_whatFor_23 : decode cm_X11_whatFor 23 = .ok (.ifCond .ne 9, 3) := by decide +kernel
theorem d_X11_whatFor_26 : decode cm_X11_whatFor 26 = .ok (.aload_n 0, 1) := by decide +kernel
theorem d_X11_whatFor_27 : decode cm_X11_whatFor 27 = .ok (.iconst (-1), 1) := by decide +kernel
theorem d_X11_whatFor_28 : decode cm_X11_whatFor 28 = .ok (.invokevirtual 147, 3) := by decide +kernel
theorem d_X11_whatFor_31 : decode cm_X11_whatFor 31 = .ok (.ireturn, 1) := by decide +kernel
theorem d_X11_whatFor_32 : decode cm_X11_whatFor 32 = .ok (.aload_n 0, 1) := by decide +kernel
theorem d_X11_whatFor_33 : decode cm_X11_whatFor 33 = .ok (.getfield 40, 3) := by decide +kernel
theorem d_X11_whatFor_36 : decode cm_X11_whatFor 36 = .ok (.iload_n 1, 1) := by decide +kernel
theorem d_X11_whatFor_37 : decode cm_X11_whatFor 37 = .ok (.iaload, 1) := by decide +kernel
theorem d_X11_whatFor_38 : decode cm_X11_whatFor 38 = .ok (.iconst 1, 1) := by decide +kernel
theorem d_X11_whatFor_39 : decode cm_X11_whatFor 39 = .ok (.if_icmp .ne 6, 3) := by decide +kernel
theorem d_X11_whatFor_42 : decode cm_X11_whatFor 42 = .ok (.bipush (-9), 2) := by decide +kernel
theorem d_X11_whatFor_44 : decode cm_X11_whatFor 44 = .ok (.ireturn, 1) := by decide +kernel
theorem d_X11_whatFor_45 : decode cm_X11_whatFor 45 = .ok (.aload_n 0, 1) := by decide +kernel
theorem d_X11_whatFor_46 : decode cm_X11_whatFor 46 = .ok (.iload_n 1, 1) := by decide +kernel
theorem d_X11_whatFor_47 : decode cm_X11_whatFor 47 = .ok (.iload_n 2, 1) := by decide +kernel
theorem d_X11_whatFor_48 : decode cm_X11_whatFor 48 = .ok (.iconst (-1), 1) := by decide +kernel
theorem d_X11_whatFor_49 : decode cm_X11_whatFor 49 = .ok (.invokevirtual 349, 3) := by decide +kernel
theorem d_X11_whatFor_52 : decode cm_X11_whatFor 52 = .ok (.aload_n 0, 1) := by decide +kernel
theorem d_X11_whatFor_53 : decode cm_X11_whatFor 53 = .ok (.bipush 8, 2) := by decide +kernel
theorem d_X11_whatFor_55 : decode cm_X11_whatFor 55 = .ok (.invokevirtual 188, 3) := by decide +kernel
theorem d_X11_whatFor_58 : decode cm_X11_whatFor 58 = .ok (.ifCond .eq 14, 3) := by decide +kernel
theorem d_X11_whatFor_61 : decode cm_X11_whatFor 61 = .ok (.aload_n 0, 1) := by decide +kernel
theorem d_X11_whatFor_62 : decode cm_X11_whatFor 62 = .ok (.iload_n 1, 1) := by decide +kernel
theorem d_X11_whatFor_63 : decode cm_X11_whatFor 63 = .ok (.bipush 8, 2) := by decide +kernel
theorem d_X11_whatFor_65 : decode cm_X11_whatFor 65 = .ok (.iload_n 3, 1) := by decide +kernel
theorem d_X11_whatFor_66 : decode cm_X11_whatFor 66 = .ok (.invokevirtual 336, 3) := by decide +kernel
theorem d_X11_whatFor_69 : decode cm_X11_whatFor 69 = .ok (.goto 5, 3) := by decide +kernel
theorem d_X11_whatFor_72 : decode cm_X11_whatFor 72 = .ok (.bipush (-9), 2) := by decide +kernel
theorem d_X11_whatFor_74 : decode cm_X11_whatFor 74 = .ok (.ireturn, 1) := by decide +kernel
def D_X11_whatFor_26 (Q : Int32 → GSt → Prop) (σ : GSt) : Prop :=
  D_X11_no (-1) σ (fun r_1 σ_2 => Q r_1 σ_2)
def D_X11_whatFor_0 (Q : Int32 → GSt → Prop) (x1 : Int32) (x2 : Int32) (x3 : Int32) (σ : GSt) : Prop :=
  D_X11_isGame x1 σ (fun r_1 σ_2 => (r_1 = 0 → D_X11_whatFor_26 Q σ_2) ∧
  (¬ r_1 = 0 → vp_in x1 9 ∧ (D_X11_isIn (Int32.toInt64 x2) 0 (Int32.toInt64 ((σ_2 248 (Int32.toNatClampNeg x1)) - 1)) σ_2 (fun r_3 σ_4 => (¬ r_3 = 0 → vp_in x1 9 ∧ ((¬ (σ_4 248 (Int32.toNatClampNeg x1)) = 1 → D_X11_without x1 x2 (-1) σ_4 (fun σ_5 => D_X11_reads 8 σ_5 (fun r_6 σ_7 => (r_6 = 0 → Q (-9) σ_7) ∧
  (¬ r_6 = 0 → D_X11_far x1 8 x3 σ_7 (fun r_8 σ_9 => Q r_8 σ_9))))) ∧
  ((σ_4 248 (Int32.toNatClampNeg x1)) = 1 → Q (-9) σ_4))) ∧
  (r_3 = 0 → D_X11_whatFor_26 Q σ_4)))))
def D_X11_whatFor (x1 : Int32) (x2 : Int32) (x3 : Int32) (σ : GSt) (Q : Int32 → GSt → Prop) : Prop := D_X11_whatFor_0 Q x1 x2 x3 σ
set_option maxRecDepth 20000 in
set_option maxHeartbeats 4000000 in
theorem s_X11_whatFor_26 {p : Program} {l : Launch} {e : Env} {s : State} {m : MethodId} {args : Array Value} {below : List Frame} {meth : Method} {c : Code} {G : GC} (X : CallFix p m c cm_X11_whatFor 4 s args lw_us "GameLoomModel") (hr : meth.sig.returnType = some .int) (hlk : meth.locks = false) (Q : Int32 → GSt → Prop) (σ : GSt) {H : Heap} {locs : List Loc} {ls : Array Slot} (hw : Wo G s H locs σ) (hl : lv_has ls 4 [(0, .ref (G.2.1 237))]) (hD : D_X11_whatFor_26 Q σ) : W p l e rm_X11_whatFor s m args below meth c H locs 0 0 (QMI G Q below args s) (F0 m 26 ls []) := by
  unfold D_X11_whatFor_26 at hD
  refine lv_aload_n X.1 X.2.1 d_X11_whatFor_26 rfl (lv_at hl 0 rfl) ?_
  refine lv_iconst (v := (-1)) X.1 X.2.1 d_X11_whatFor_27 (by decide) ?_
  refine gcV_i (rest := []) (As := [.int (-1)]) (o := 237) X hw (c_X11_no l G (-1) σ _  hD) (kd_lt (by decide +kernel : kd 237 = 11) (by decide)) (ce_11 G _ (by decide +kernel : kd 237 = 11)) rfl tb_1084 tb_1086 tv_35 tb_12 tb_1087 hd_X11_no ⟨rfl, rfl⟩ ⟨Nat.le_of_ble_eq_true rfl, Nat.le_of_ble_eq_true rfl⟩ rfl hl.1 rfl (Nat.le_of_ble_eq_true rfl) d_X11_whatFor_28 (fun r_1 σ_2 H locs hD hw => ?_)
  exact g_iret X hr hlk hw hD d_X11_whatFor_31
set_option maxRecDepth 20000 in
set_option maxHeartbeats 4000000 in
theorem s_X11_whatFor_0 {p : Program} {l : Launch} {e : Env} {s : State} {m : MethodId} {args : Array Value} {below : List Frame} {meth : Method} {c : Code} {G : GC} (X : CallFix p m c cm_X11_whatFor 4 s args lw_us "GameLoomModel") (hr : meth.sig.returnType = some .int) (hlk : meth.locks = false) (Q : Int32 → GSt → Prop) (x1 : Int32) (x2 : Int32) (x3 : Int32) (σ : GSt) {H : Heap} {locs : List Loc} {ls : Array Slot} (hw : Wo G s H locs σ) (hl : lv_has ls 4 [(0, .ref (G.2.1 237)), (1, .int x1), (2, .int x2), (3, .int x3)]) (hD : D_X11_whatFor_0 Q x1 x2 x3 σ) : W p l e rm_X11_whatFor s m args below meth c H locs 0 0 (QMI G Q below args s) (F0 m 0 ls []) := by
  unfold D_X11_whatFor_0 at hD
  refine lv_aload_n X.1 X.2.1 d_X11_whatFor_0 rfl (lv_at hl 0 rfl) ?_
  refine lv_iload_n X.1 X.2.1 d_X11_whatFor_1 rfl (lv_at hl 1 rfl) ?_
  refine gcV_i (rest := []) (As := [.int x1]) (o := 237) X hw (c_X11_isGame l G x1 σ _  hD) (kd_lt (by decide +kernel : kd 237 = 11) (by decide)) (ce_11 G _ (by decide +kernel : kd 237 = 11)) rfl tb_1144 tb_1146 tv_47 tb_12 tb_1147 hd_X11_isGame ⟨rfl, rfl⟩ ⟨Nat.le_of_ble_eq_true rfl, Nat.le_of_ble_eq_true rfl⟩ rfl hl.1 rfl (Nat.le_of_ble_eq_true rfl) d_X11_whatFor_2 (fun r_1 σ_2 H locs hD hw => ?_)
  refine lv_if_eq (tgt := 26) X.1 X.2.1 d_X11_whatFor_5 (by decide) (fun q_5 => ?_) (fun q_5 => ?_)
  · have hD := hD.1 q_5
    exact s_X11_whatFor_26 X hr hlk  Q   σ_2 hw (lv_sub hl [0] rfl) hD
  · have hD := hD.2 q_5
    refine lv_iload_n X.1 X.2.1 d_X11_whatFor_8 rfl (lv_at hl 2 rfl) ?_
    refine lv_i2l (v := (Int32.toInt64 x2)) X.1 X.2.1 d_X11_whatFor_9 rfl ?_
    refine lv_lconst (v := 0) X.1 X.2.1 d_X11_whatFor_10 (by decide) ?_
    refine lv_aload_n X.1 X.2.1 d_X11_whatFor_11 rfl (lv_at hl 0 rfl) ?_
    refine gf_11_10 X hw (by decide +kernel : kd 237 = 11) tb_916 d_X11_whatFor_12 ?_
    refine lv_iload_n X.1 X.2.1 d_X11_whatFor_15 rfl (lv_at hl 1 rfl) ?_
    obtain ⟨q_16, hD⟩ := hD
    refine g_iald X hw ly_11_10.1 ly_11_10.2 q_16 d_X11_whatFor_16 ?_
    refine lv_iconst (v := 1) X.1 X.2.1 d_X11_whatFor_17 (by decide) ?_
    refine lv_isub X.1 X.2.1 d_X11_whatFor_18 ?_
    refine lv_i2l (v := (Int32.toInt64 ((σ_2 248 (Int32.toNatClampNeg x1)) - 1))) X.1 X.2.1 d_X11_whatFor_19 rfl ?_
    refine gcS_i (rest := []) (As := [.long (Int32.toInt64 x2), .long 0, .long (Int32.toInt64 ((σ_2 248 (Int32.toNatClampNeg x1)) - 1))]) X hw (c_X11_isIn l G (Int32.toInt64 x2) 0 (Int32.toInt64 ((σ_2 248 (Int32.toNatClampNeg x1)) - 1)) σ_2 _  hD) tb_1125 tb_1126 tb_12 tb_1127 hd_X11_isIn ⟨rfl, rfl⟩ ⟨Nat.le_of_ble_eq_true rfl, Nat.le_of_ble_eq_true rfl⟩ rfl hl.1 rfl (Nat.le_of_ble_eq_true rfl) d_X11_whatFor_20 (fun r_3 σ_4 H locs hD hw => ?_)
    refine lv_if_ne (tgt := 32) X.1 X.2.1 d_X11_whatFor_23 (by decide) (fun q_23 => ?_) (fun q_23 => ?_)
    · have hD := hD.1 q_23
      refine lv_aload_n X.1 X.2.1 d_X11_whatFor_32 rfl (lv_at hl 0 rfl) ?_
      refine gf_11_10 X hw (by decide +kernel : kd 237 = 11) tb_916 d_X11_whatFor_33 ?_
      refine lv_iload_n X.1 X.2.1 d_X11_whatFor_36 rfl (lv_at hl 1 rfl) ?_
      obtain ⟨q_37, hD⟩ := hD
      refine g_iald X hw ly_11_10.1 ly_11_10.2 q_37 d_X11_whatFor_37 ?_
      refine lv_iconst (v := 1) X.1 X.2.1 d_X11_whatFor_38 (by decide) ?_
      refine lv_icmp_ne (tgt := 45) X.1 X.2.1 d_X11_whatFor_39 (by decide) (fun q_39 => ?_) (fun q_39 => ?_)
      · have hD := hD.1 q_39
        refine lv_aload_n X.1 X.2.1 d_X11_whatFor_45 rfl (lv_at hl 0 rfl) ?_
        refine lv_iload_n X.1 X.2.1 d_X11_whatFor_46 rfl (lv_at hl 1 rfl) ?_
        refine lv_iload_n X.1 X.2.1 d_X11_whatFor_47 rfl (lv_at hl 2 rfl) ?_
        refine lv_iconst (v := (-1)) X.1 X.2.1 d_X11_whatFor_48 (by decide) ?_
        refine gcV_v (rest := []) (As := [.int x1, .int x2, .int (-1)]) (o := 237) X hw (c_X11_without l G x1 x2 (-1) σ_4 _  hD) (kd_lt (by decide +kernel : kd 237 = 11) (by decide)) (ce_11 G _ (by decide +kernel : kd 237 = 11)) rfl tb_1328 tb_1330 tv_76 tb_12 tb_1331 hd_X11_without ⟨rfl, rfl⟩ ⟨Nat.le_of_ble_eq_true rfl, Nat.le_of_ble_eq_true rfl⟩ rfl hl.1 rfl (Nat.le_of_ble_eq_true rfl) d_X11_whatFor_49 (fun σ_5 H locs hD hw => ?_)
        refine lv_aload_n X.1 X.2.1 d_X11_whatFor_52 rfl (lv_at hl 0 rfl) ?_
        refine lv_bipush (v := 8) X.1 X.2.1 d_X11_whatFor_53 (by decide) ?_
        refine gcV_i (rest := []) (As := [.int 8]) (o := 237) X hw (c_X11_reads l G 8 σ_5 _  hD) (kd_lt (by decide +kernel : kd 237 = 11) (by decide)) (ce_11 G _ (by decide +kernel : kd 237 = 11)) rfl tb_1105 tb_1107 tv_39 tb_12 tb_1108 hd_X11_reads ⟨rfl, rfl⟩ ⟨Nat.le_of_ble_eq_true rfl, Nat.le_of_ble_eq_true rfl⟩ rfl hl.1 rfl (Nat.le_of_ble_eq_true rfl) d_X11_whatFor_55 (fun r_6 σ_7 H locs hD hw => ?_)
        refine lv_if_eq (tgt := 72) X.1 X.2.1 d_X11_whatFor_58 (by decide) (fun q_58 => ?_) (fun q_58 => ?_)
        · have hD := hD.1 q_58
          refine lv_bipush (v := (-9)) X.1 X.2.1 d_X11_whatFor_72 (by decide) ?_
          exact g_iret X hr hlk hw hD d_X11_whatFor_74
        · have hD := hD.2 q_58
          refine lv_aload_n X.1 X.2.1 d_X11_whatFor_61 rfl (lv_at hl 0 rfl) ?_
          refine lv_iload_n X.1 X.2.1 d_X11_whatFor_62 rfl (lv_at hl 1 rfl) ?_
          refine lv_bipush (v := 8) X.1 X.2.1 d_X11_whatFor_63 (by decide) ?_
          refine lv_iload_n X.1 X.2.1 d_X11_whatFor_65 rfl (lv_at hl 3 rfl) ?_
          refine gcV_i (rest := []) (As := [.int x1, .int 8, .int x3]) (o := 237) X hw (c_X11_far l G x1 8 x3 σ_7 _  hD) (kd_lt (by decide +kernel : kd 237 = 11) (by decide)) (ce_11 G _ (by decide +kernel : kd 237 = 11)) rfl tb_1317 tb_1319 tv_75 tb_12 tb_1320 hd_X11_far ⟨rfl, rfl⟩ ⟨Nat.le_of_ble_eq_true rfl, Nat.le_of_ble_eq_true rfl⟩ rfl hl.1 rfl (Nat.le_of_ble_eq_true rfl) d_X11_whatFor_66 (fun r_8 σ_9 H locs hD hw => ?_)
          refine lv_goto (tgt := 74) X.1 X.2.1 d_X11_whatFor_69 (by decide) ?_
          exact g_iret X hr hlk hw hD d_X11_whatFor_74
      · have hD := hD.2 q_39
        refine lv_bipush (v := (-9)) X.1 X.2.1 d_X11_whatFor_42 (by decide) ?_
        exact g_iret X hr hlk hw hD d_X11_whatFor_44
    · have hD := hD.2 q_23
      exact s_X11_whatFor_26 X hr hlk  Q   σ_4 hw (lv_sub hl [0] rfl) hD
theorem c_X11_whatFor (l : Launch) (G : GC) (x1 : Int32) (x2 : Int32) (x3 : Int32) (σ : GSt) (Q : Int32 → GSt → Prop)  (hD : D_X11_whatFor x1 x2 x3 σ Q) : MI l ym_X11_whatFor cm_X11_whatFor 4 .int rm_X11_whatFor G σ [.ref (G.2.1 237), .int x1, .int x2, .int x3] Q := by
  refine met_i (by decide) (Nat.le_of_ble_eq_true rfl) ?_
  intro p e s m args below meth c X hr hlk hw ls hl
  exact s_X11_whatFor_0 X hr hlk Q  x1 x2 x3 σ hw (lv_sub hl [0, 1, 2, 3] rfl) hD
theorem hd_X11_graft : ym_X11_graft.cls = "GameLoomModel" ∧ ym_X11_graft.cls ≠ "java/lang/invoke/MethodHandle" ∧ ym_X11_graft.cls ≠ "java/lang/invoke/VarHandle" ∧ (parseMethodDescriptor ym_X11_graft.desc).map (fun d => d.parameters.length) = some 2 := by decide +kernel
abbrev rm_X11_graft : Room := { frames := 5, cells := 0, slots := 0, locals := 114 }
theorem d_X11_graft_0 : decode cm_X11_graft 0 = .ok (.aload_n 0, 1) := by decide +kernel
theorem d_X11_graft_1 : decode cm_X11_graft 1 = .ok (.iload_n 1, 1) := by decide +kernel
theorem d_X11_graft_2 : decode cm_X11_graft 2 = .ok (.invokevirtual 204, 3) := by decide +kernel
theorem d_X11_graft_5 : decode cm_X11_graft 5 = .ok (.ifCond .eq 11, 3) := by decide +kernel
theorem d_X11_graft_8 : decode cm_X11_graft 8 = .ok (.aload_n 0, 1) := by decide +kernel
theorem d_X11_graft_9 : decode cm_X11_graft 9 = .ok (.iload_n 2, 1) := by decide +kernel
theorem d_X11_graft_10 : decode cm_X11_graft 10 = .ok (.invokevirtual 204, 3) := by decide +kernel
theorem d_X11_graft_13 : decode cm_X11_graft 13 = .ok (.ifCond .ne 9, 3) := by decide +kernel
theorem d_X11_graft_16 : decode cm_X11_graft 16 = .ok (.aload_n 0, 1) := by decide +kernel
theorem d_X11_graft_17 : decode cm_X11_graft 17 = .ok (.iconst (-1), 1) := by decide +kernel
theorem d_X11_graft_18 : decode cm_X11_graft 18 = .ok (.invokevirtual 147, 3) := by decide +kernel
theorem d_X11_graft_21 : decode cm_X11_graft 21 = .ok (.ireturn, 1) := by decide +kernel
theorem d_X11_graft_22 : decode cm_X11_graft 22 = .ok (.aload_n 0, 1) := by decide +kernel
theorem d_X11_graft_23 : decode cm_X11_graft 23 = .ok (.getfield 191, 3) := by decide +kernel
theorem d_X11_graft_26 : decode cm_X11_graft 26 = .ok (.bipush 8, 2) := by decide +kernel
theorem d_X11_graft_28 : decode cm_X11_graft 28 = .ok (.if_icmp .ne 10, 3) := by decide +kernel
theorem d_X11_graft_31 : decode cm_X11_graft 31 = .ok (.aload_n 0, 1) := by decide +kernel
theorem d_X11_graft_32 : decode cm_X11_graft 32 = .ok (.bipush (-6), 2) := by decide +kernel
theorem d_X11_graft_34 : decode cm_X11_graft 34 = .ok (.invokevirtual 147, 3) := by decide +kernel
theorem d_X11_graft_37 : decode cm_X11_graft 37 = .ok (.ireturn, 1) := by decide +kernel
theorem d_X11_graft_38 : decode cm_X11_graft 38 = .ok (.aload_n 0, 1) := by decide +kernel
theorem d_X11_graft_39 : decode cm_X11_graft 39 = .ok (.invokevirtual 198, 3) := by decide +kernel
theorem d_X11_graft_42 : decode cm_X11_graft 42 = .ok (.aload_n 0, 1) := by decide +kernel
theorem d_X11_graft_43 : decode cm_X11_graft 43 = .ok (.iload_n 1, 1) := by decide +kernel
theorem d_X11_graft_44 : decode cm_X11_graft 44 = .ok (.iconst 0, 1) := by decide +kernel
theorem d_X11_graft_45 : decode cm_X11_graft 45 = .ok (.aload_n 0, 1) := by decide +kernel
theorem d_X11_graft_46 : decode cm_X11_graft 46 = .ok (.getfield 61, 3) := by decide +kernel
theorem d_X11_graft_49 : decode cm_X11_graft 49 = .ok (.iload_n 1, 1) := by decide +kernel
theorem d_X11_graft_50 : decode cm_X11_graft 50 = .ok (.iaload, 1) := by decide +kernel
theorem d_X11_graft_51 : decode cm_X11_graft 51 = .ok (.invokevirtual 339, 3) := by decide +kernel
theorem d_X11_graft_54 : decode cm_X11_graft 54 = .ok (.aload_n 0, 1) := by decide +kernel
theorem d_X11_graft_55 : decode cm_X11_graft 55 = .ok (.iload_n 2, 1) := by decide +kernel
theorem d_X11_graft_56 : decode cm_X11_graft 56 = .ok (.aload_n 0, 1) := by decide +kernel
theorem d_X11_graft_57 : decode cm_X11_graft 57 = .ok (.getfield 61, 3) := by decide +kernel
theorem d_X11_graft_60 : decode cm_X11_graft 60 = .ok (.iload_n 2, 1) := by decide +kernel
theorem d_X11_graft_61 : decode cm_X11_graft 61 = .ok (.iaload, 1) := by decide +kernel
theorem d_X11_graft_62 : decode cm_X11_graft 62 = .ok (.aload_n 0, 1) := by decide +kernel
theorem d_X11_graft_63 : decode cm_X11_graft 63 = .ok (.getfield 19, 3) := by decide +kernel
theorem d_X11_graft_66 : decode cm_X11_graft 66 = .ok (.iload_n 2, 1) := by decide +kernel
theorem d_X11_graft_67 : decode cm_X11_graft 67 = .ok (.iaload, 1) := by decide +kernel
theorem d_X11_graft_68 : decode cm_X11_graft 68 = .ok (.invokevirtual 339, 3) := by decide +kernel
theorem d_X11_graft_71 : decode cm_X11_graft 71 = .ok (.aload_n 0, 1) := by decide +kernel
theorem d_X11_graft_72 : decode cm_X11_graft 72 = .ok (.invokevirtual 201, 3) := by decide +kernel
theorem d_X11_graft_75 : decode cm_X11_graft 75 = .ok (.ireturn, 1) := by decide +kernel
def D_X11_graft_16 (Q : Int32 → GSt → Prop) (σ : GSt) : Prop :=
  D_X11_no (-1) σ (fun r_1 σ_2 => Q r_1 σ_2)
def D_X11_graft_0 (Q : Int32 → GSt → Prop) (x1 : Int32) (x2 : Int32) (σ : GSt) : Prop :=
  D_X11_isGame x1 σ (fun r_1 σ_2 => (r_1 = 0 → D_X11_graft_16 Q σ_2) ∧
  (¬ r_1 = 0 → D_X11_isGame x2 σ_2 (fun r_3 σ_4 => (¬ r_3 = 0 → (¬ (σ_4 237 20) = 8 → D_X11_starts  σ_4 (fun σ_5 => vp_in x1 9 ∧ (D_X11_addsFrom x1 0 (σ_5 255 (Int32.toNatClampNeg x1)) σ_5 (fun σ_6 => vp_in x2 9 ∧ (vp_in x2 9 ∧ (D_X11_addsFrom x2 (σ_6 255 (Int32.toNatClampNeg x2)) (σ_6 241 (Int32.toNatClampNeg x2)) σ_6 (fun σ_7 => D_X11_grown  σ_7 (fun r_8 σ_9 => Q r_8 σ_9)))))))) ∧
  ((σ_4 237 20) = 8 → D_X11_no (-6) σ_4 (fun r_10 σ_11 => Q r_10 σ_11))) ∧
  (r_3 = 0 → D_X11_graft_16 Q σ_4))))
def D_X11_graft (x1 : Int32) (x2 : Int32) (σ : GSt) (Q : Int32 → GSt → Prop) : Prop := D_X11_graft_0 Q x1 x2 σ
set_option maxRecDepth 20000 in
set_option maxHeartbeats 4000000 in
theorem s_X11_graft_16 {p : Program} {l : Launch} {e : Env} {s : State} {m : MethodId} {args : Array Value} {below : List Frame} {meth : Method} {c : Code} {G : GC} (X : CallFix p m c cm_X11_graft 3 s args lw_us "GameLoomModel") (hr : meth.sig.returnType = some .int) (hlk : meth.locks = false) (Q : Int32 → GSt → Prop) (σ : GSt) {H : Heap} {locs : List Loc} {ls : Array Slot} (hw : Wo G s H locs σ) (hl : lv_has ls 3 [(0, .ref (G.2.1 237))]) (hD : D_X11_graft_16 Q σ) : W p l e rm_X11_graft s m args below meth c H locs 0 0 (QMI G Q below args s) (F0 m 16 ls []) := by
  unfold D_X11_graft_16 at hD
  refine lv_aload_n X.1 X.2.1 d_X11_graft_16 rfl (lv_at hl 0 rfl) ?_
  refine lv_iconst (v := (-1)) X.1 X.2.1 d_X11_graft_17 (by decide) ?_
  refine gcV_i (rest := []) (As := [.int (-1)]) (o := 237) X hw (c_X11_no l G (-1) σ _  hD) (kd_lt (by decide +kernel : kd 237 = 11) (by decide)) (ce_11 G _ (by decide +kernel : kd 237 = 11)) rfl tb_1084 tb_1086 tv_35 tb_12 tb_1087 hd_X11_no ⟨rfl, rfl⟩ ⟨Nat.le_of_ble_eq_true rfl, Nat.le_of_ble_eq_true rfl⟩ rfl hl.1 rfl (Nat.le_of_ble_eq_true rfl) d_X11_graft_18 (fun r_1 σ_2 H locs hD hw => ?_)
  exact g_iret X hr hlk hw hD d_X11_graft_21
set_option maxRecDepth 20000 in
set_option maxHeartbeats 4000000 in
theorem s_X11_graft_0 {p : Program} {l : Launch} {e : Env} {s : State} {m : MethodId} {args : Array Value} {below : List Frame} {meth : Method} {c : Code} {G : GC} (X : CallFix p m c cm_X11_graft 3 s args lw_us "GameLoomModel") (hr : meth.sig.returnType = some .int) (hlk : meth.locks = false) (Q : Int32 → GSt → Prop) (x1 : Int32) (x2 : Int32) (σ : GSt) {H : Heap} {locs : List Loc} {ls : Array Slot} (hw : Wo G s H locs σ) (hl : lv_has ls 3 [(0, .ref (G.2.1 237)), (1, .int x1), (2, .int x2)]) (hD : D_X11_graft_0 Q x1 x2 σ) : W p l e rm_X11_graft s m args below meth c H locs 0 0 (QMI G Q below args s) (F0 m 0 ls []) := by
  unfold D_X11_graft_0 at hD
  refine lv_aload_n X.1 X.2.1 d_X11_graft_0 rfl (lv_at hl 0 rfl) ?_
  refine lv_iload_n X.1 X.2.1 d_X11_graft_1 rfl (lv_at hl 1 rfl) ?_
  refine gcV_i (rest := []) (As := [.int x1]) (o := 237) X hw (c_X11_isGame l G x1 σ _  hD) (kd_lt (by decide +kernel : kd 237 = 11) (by decide)) (ce_11 G _ (by decide +kernel : kd 237 = 11)) rfl tb_1144 tb_1146 tv_47 tb_12 tb_1147 hd_X11_isGame ⟨rfl, rfl⟩ ⟨Nat.le_of_ble_eq_true rfl, Nat.le_of_ble_eq_true rfl⟩ rfl hl.1 rfl (Nat.le_of_ble_eq_true rfl) d_X11_graft_2 (fun r_1 σ_2 H locs hD hw => ?_)
  refine lv_if_eq (tgt := 16) X.1 X.2.1 d_X11_graft_5 (by decide) (fun q_5 => ?_) (fun q_5 => ?_)
  · have hD := hD.1 q_5
    exact s_X11_graft_16 X hr hlk  Q   σ_2 hw (lv_sub hl [0] rfl) hD
  · have hD := hD.2 q_5
    refine lv_aload_n X.1 X.2.1 d_X11_graft_8 rfl (lv_at hl 0 rfl) ?_
    refine lv_iload_n X.1 X.2.1 d_X11_graft_9 rfl (lv_at hl 2 rfl) ?_
    refine gcV_i (rest := []) (As := [.int x2]) (o := 237) X hw (c_X11_isGame l G x2 σ_2 _  hD) (kd_lt (by decide +kernel : kd 237 = 11) (by decide)) (ce_11 G _ (by decide +kernel : kd 237 = 11)) rfl tb_1144 tb_1146 tv_47 tb_12 tb_1147 hd_X11_isGame ⟨rfl, rfl⟩ ⟨Nat.le_of_ble_eq_true rfl, Nat.le_of_ble_eq_true rfl⟩ rfl hl.1 rfl (Nat.le_of_ble_eq_true rfl) d_X11_graft_10 (fun r_3 σ_4 H locs hD hw => ?_)
    refine lv_if_ne (tgt := 22) X.1 X.2.1 d_X11_graft_13 (by decide) (fun q_13 => ?_) (fun q_13 => ?_)
    · have hD := hD.1 q_13
      refine lv_aload_n X.1 X.2.1 d_X11_graft_22 rfl (lv_at hl 0 rfl) ?_
      refine gf_11_20 X hw (by decide +kernel : kd 237 = 11) tb_926 d_X11_graft_23 ?_
      refine lv_bipush (v := 8) X.1 X.2.1 d_X11_graft_26 (by decide) ?_
      refine lv_icmp_ne (tgt := 38) X.1 X.2.1 d_X11_graft_28 (by decide) (fun q_28 => ?_) (fun q_28 => ?_)
      · have hD := hD.1 q_28
        refine lv_aload_n X.1 X.2.1 d_X11_graft_38 rfl (lv_at hl 0 rfl) ?_
        refine gcV_v (rest := []) (As := []) (o := 237) X hw (c_X11_starts l G  σ_4 _  hD) (kd_lt (by decide +kernel : kd 237 = 11) (by decide)) (ce_11 G _ (by decide +kernel : kd 237 = 11)) rfl tb_1093 tb_1095 tv_36 tb_12 tb_1096 hd_X11_starts ⟨rfl, rfl⟩ ⟨Nat.le_of_ble_eq_true rfl, Nat.le_of_ble_eq_true rfl⟩ rfl hl.1 rfl (Nat.le_of_ble_eq_true rfl) d_X11_graft_39 (fun σ_5 H locs hD hw => ?_)
        refine lv_aload_n X.1 X.2.1 d_X11_graft_42 rfl (lv_at hl 0 rfl) ?_
        refine lv_iload_n X.1 X.2.1 d_X11_graft_43 rfl (lv_at hl 1 rfl) ?_
        refine lv_iconst (v := 0) X.1 X.2.1 d_X11_graft_44 (by decide) ?_
        refine lv_aload_n X.1 X.2.1 d_X11_graft_45 rfl (lv_at hl 0 rfl) ?_
        refine gf_11_17 X hw (by decide +kernel : kd 237 = 11) tb_923 d_X11_graft_46 ?_
        refine lv_iload_n X.1 X.2.1 d_X11_graft_49 rfl (lv_at hl 1 rfl) ?_
        obtain ⟨q_50, hD⟩ := hD
        refine g_iald X hw ly_11_17.1 ly_11_17.2 q_50 d_X11_graft_50 ?_
        refine gcV_v (rest := []) (As := [.int x1, .int 0, .int (σ_5 255 (Int32.toNatClampNeg x1))]) (o := 237) X hw (c_X11_addsFrom l G x1 0 (σ_5 255 (Int32.toNatClampNeg x1)) σ_5 _  hD) (kd_lt (by decide +kernel : kd 237 = 11) (by decide)) (ce_11 G _ (by decide +kernel : kd 237 = 11)) rfl tb_1332 tb_1334 tv_77 tb_12 tb_1335 hd_X11_addsFrom ⟨rfl, rfl⟩ ⟨Nat.le_of_ble_eq_true rfl, Nat.le_of_ble_eq_true rfl⟩ rfl hl.1 rfl (Nat.le_of_ble_eq_true rfl) d_X11_graft_51 (fun σ_6 H locs hD hw => ?_)
        refine lv_aload_n X.1 X.2.1 d_X11_graft_54 rfl (lv_at hl 0 rfl) ?_
        refine lv_iload_n X.1 X.2.1 d_X11_graft_55 rfl (lv_at hl 2 rfl) ?_
        refine lv_aload_n X.1 X.2.1 d_X11_graft_56 rfl (lv_at hl 0 rfl) ?_
        refine gf_11_17 X hw (by decide +kernel : kd 237 = 11) tb_923 d_X11_graft_57 ?_
        refine lv_iload_n X.1 X.2.1 d_X11_graft_60 rfl (lv_at hl 2 rfl) ?_
        obtain ⟨q_61, hD⟩ := hD
        refine g_iald X hw ly_11_17.1 ly_11_17.2 q_61 d_X11_graft_61 ?_
        refine lv_aload_n X.1 X.2.1 d_X11_graft_62 rfl (lv_at hl 0 rfl) ?_
        refine gf_11_3 X hw (by decide +kernel : kd 237 = 11) tb_909 d_X11_graft_63 ?_
        refine lv_iload_n X.1 X.2.1 d_X11_graft_66 rfl (lv_at hl 2 rfl) ?_
        obtain ⟨q_67, hD⟩ := hD
        refine g_iald X hw ly_11_3.1 ly_11_3.2 q_67 d_X11_graft_67 ?_
        refine gcV_v (rest := []) (As := [.int x2, .int (σ_6 255 (Int32.toNatClampNeg x2)), .int (σ_6 241 (Int32.toNatClampNeg x2))]) (o := 237) X hw (c_X11_addsFrom l G x2 (σ_6 255 (Int32.toNatClampNeg x2)) (σ_6 241 (Int32.toNatClampNeg x2)) σ_6 _  hD) (kd_lt (by decide +kernel : kd 237 = 11) (by decide)) (ce_11 G _ (by decide +kernel : kd 237 = 11)) rfl tb_1332 tb_1334 tv_77 tb_12 tb_1335 hd_X11_addsFrom ⟨rfl, rfl⟩ ⟨Nat.le_of_ble_eq_true rfl, Nat.le_of_ble_eq_true rfl⟩ rfl hl.1 rfl (Nat.le_of_ble_eq_true rfl) d_X11_graft_68 (fun σ_7 H locs hD hw => ?_)
        refine lv_aload_n X.1 X.2.1 d_X11_graft_71 rfl (lv_at hl 0 rfl) ?_
        refine gcV_i (rest := []) (As := []) (o := 237) X hw (c_X11_grown l G  σ_7 _  hD) (kd_lt (by decide +kernel : kd 237 = 11) (by decide)) (ce_11 G _ (by decide +kernel : kd 237 = 11)) rfl tb_1101 tb_1103 tv_38 tb_12 tb_1104 hd_X11_grown ⟨rfl, rfl⟩ ⟨Nat.le_of_ble_eq_true rfl, Nat.le_of_ble_eq_true rfl⟩ rfl hl.1 rfl (Nat.le_of_ble_eq_true rfl) d_X11_graft_72 (fun r_8 σ_9 H locs hD hw => ?_)
        exact g_iret X hr hlk hw hD d_X11_graft_75
      · have hD := hD.2 q_28
        refine lv_aload_n X.1 X.2.1 d_X11_graft_31 rfl (lv_at hl 0 rfl) ?_
        refine lv_bipush (v := (-6)) X.1 X.2.1 d_X11_graft_32 (by decide) ?_
        refine gcV_i (rest := []) (As := [.int (-6)]) (o := 237) X hw (c_X11_no l G (-6) σ_4 _  hD) (kd_lt (by decide +kernel : kd 237 = 11) (by decide)) (ce_11 G _ (by decide +kernel : kd 237 = 11)) rfl tb_1084 tb_1086 tv_35 tb_12 tb_1087 hd_X11_no ⟨rfl, rfl⟩ ⟨Nat.le_of_ble_eq_true rfl, Nat.le_of_ble_eq_true rfl⟩ rfl hl.1 rfl (Nat.le_of_ble_eq_true rfl) d_X11_graft_34 (fun r_10 σ_11 H locs hD hw => ?_)
        exact g_iret X hr hlk hw hD d_X11_graft_37
    · have hD := hD.2 q_13
      exact s_X11_graft_16 X hr hlk  Q   σ_4 hw (lv_sub hl [0] rfl) hD
theorem c_X11_graft (l : Launch) (G : GC) (x1 : Int32) (x2 : Int32) (σ : GSt) (Q : Int32 → GSt → Prop)  (hD : D_X11_graft x1 x2 σ Q) : MI l ym_X11_graft cm_X11_graft 3 .int rm_X11_graft G σ [.ref (G.2.1 237), .int x1, .int x2] Q := by
  refine met_i (by decide) (Nat.le_of_ble_eq_true rfl) ?_
  intro p e s m args below meth c X hr hlk hw ls hl
  exact s_X11_graft_0 X hr hlk Q  x1 x2 σ hw (lv_sub hl [0, 1, 2] rfl) hD
theorem hd_X11_drop : ym_X11_drop.cls = "GameLoomModel" ∧ ym_X11_drop.cls ≠ "java/lang/invoke/MethodHandle" ∧ ym_X11_drop.cls ≠ "java/lang/invoke/VarHandle" ∧ (parseMethodDescriptor ym_X11_drop.desc).map (fun d => d.parameters.length) = some 3 := by decide +kernel
abbrev rm_X11_drop : Room := { frames := 5, cells := 0, slots := 0, locals := 114 }
theorem d_X11_drop_0 : decode cm_X11_drop 0 = .ok (.aload_n 0, 1) := by decide +kernel
theorem d_X11_drop_1 : decode cm_X11_drop 1 = .ok (.iload_n 1, 1) := by decide +kernel
theorem d_X11_drop_2 : decode cm_X11_drop 2 = .ok (.invokevirtual 204, 3) := by decide +kernel
theorem d_X11_drop_5 : decode cm_X11_drop 5 = .ok (.ifCond .eq 57, 3) := by decide +kernel
theorem d_X11_drop_8 : decode cm_X11_drop 8 = .ok (.iload_n 2, 1) := by decide +kernel
theorem d_X11_drop_9 : decode cm_X11_drop 9 = .ok (.i2l, 1) := by decide +kernel
theorem d_X11_drop_10 : decode cm_X11_drop 10 = .ok (.lconst 0, 1) := by decide +kernel
theorem d_X11_drop_11 : decode cm_X11_drop 11 = .ok (.iload_n 3, 1) := by decide +kernel
theorem d_X11_drop_12 : decode cm_X11_drop 12 = .ok (.ifCond .eq 12, 3) := by decide +kernel
theorem d_X11_drop_15 : decode cm_X11_drop 15 = .ok (.aload_n 0, 1) := by decide +kernel
theorem d_X11_drop_16 : decode cm_X11_drop 16 = .ok (.getfield 55, 3) := by decide +kernel
theorem d_X11_drop_19 : decode cm_X11_drop 19 = .ok (.iload_n 1, 1) := by decide +kernel
theorem d_X11_drop_20 : decode cm_X11_drop 20 = .ok (.iaload, 1) := by decide +kernel
theorem d_X11_drop_21 : decode cm_X11_drop 21 = .ok (.goto 9, 3) := by decide +kernel
theorem d_X11_drop_24 : decode cm_X11_drop 24 = .ok (.aload_n 0, 1) := by decide +kernel
theorem d_X11_drop_25 : decode cm_X11_drop 25 = .ok (.getfield 40, 3) := by decide +kernel
theorem d_X11_drop_28 : decode cm_X11_drop 28 = .ok (.iload_n 1, 1) := by decide +kernel
theorem d_X11_drop_29 : decode cm_X11_drop 29 = .ok (.iaload, 1) := by decide +kernel
theorem d_X11_drop_30 : decode cm_X11_drop 30 = .ok (.iconst 1, 1) := by decide +kernel
theorem d_X11_drop_31 : decode cm_X11_drop 31 = .ok (.isub, 1) := by decide +kernel
theorem d_X11_drop_32 : decode cm_X11_drop 32 = .ok (.i2l, 1) := by decide +kernel
theorem d_X11_drop_33 : decode cm_X11_drop 33 = .ok (.invokestatic 163, 3) := by decide +kernel
theorem d_X11_drop_36 : decode cm_X11_drop 36 = .ok (.ifCond .eq 26, 3) := by decide +kernel
theorem d_X11_drop_39 : decode cm_X11_drop 39 = .ok (.iload_n 3, 1) := by decide +kernel
theorem d_X11_drop_40 : decode cm_X11_drop 40 = .ok (.ifCond .eq 12, 3) := by decide +kernel
theorem d_X11_drop_43 : decode cm_X11_drop 43 = .ok (.aload_n 0, 1) := by decide +kernel
theorem d_X11_drop_44 : decode cm_X11_drop 44 = .ok (.getfield 55, 3) := by decide +kernel
theorem d_X11_drop_47 : decode cm_X11_drop 47 = .ok (.iload_n 1, 1) := by decide +kernel
theorem d_X11_drop_48 : decode cm_X11_drop 48 = .ok (.iaload, 1) := by decide +kernel
theorem d_X11_drop_49 : decode cm_X11_drop 49 = .ok (.goto 9, 3) := by decide +kernel
theorem d_X11_drop_52 : decode cm_X11_drop 52 = .ok (.aload_n 0, 1) := by decide +kernel
theorem d_X11_drop_53 : decode cm_X11_drop 53 = .ok (.getfield 40, 3) := by decide +kernel
theorem d_X11_drop_56 : decode cm_X11_drop 56 = .ok (.iload_n 1, 1) := by decide +kernel
theorem d_X11_drop_57 : decode cm_X11_drop 57 = .ok (.iaload, 1) := by decide +kernel
theorem d_X11_drop_58 : decode cm_X11_drop 58 = .ok (.iconst 1, 1) := by decide +kernel
theorem d_X11_drop_59 : decode cm_X11_drop 59 = .ok (.if_icmp .ne 9, 3) := by decide +kernel
theorem d_X11_drop_62 : decode cm_X11_drop 62 = .ok (.aload_n 0, 1) := by decide +kernel
theorem d_X11_drop_63 : decode cm_X11_drop 63 = .ok (.iconst (-1), 1) := by decide +kernel
theorem d_X11_drop_64 : decode cm_X11_drop 64 = .ok (.invokevirtual 147, 3) := by decide +kernel
theorem d_X11_drop_67 : decode cm_X11_drop 67 = .ok (.ireturn, 1) := by decide +kernel
theorem d_X11_drop_68 : decode cm_X11_drop 68 = .ok (.aload_n 0, 1) := by decide +kernel
theorem d_X11_drop_69 : decode cm_X11_drop 69 = .ok (.getfield 191, 3) := by decide +kernel
theorem d_X11_drop_72 : decode cm_X11_drop 72 = .ok (.bipush 8, 2) := by decide +kernel
theorem d_X11_drop_74 : decode cm_X11_drop 74 = .ok (.if_icmp .ne 10, 3) := by decide +kernel
theorem d_X11_drop_77 : decode cm_X11_drop 77 = .ok (.aload_n 0, 1) := by decide +kernel
theorem d_X11_drop_78 : decode cm_X11_drop 78 = .ok (.bipush (-6), 2) := by decide +kernel
theorem d_X11_drop_80 : decode cm_X11_drop 80 = .ok (.invokevirtual 147, 3) := by decide +kernel
theorem d_X11_drop_83 : decode cm_X11_drop 83 = .ok (.ireturn, 1) := by decide +kernel
theorem d_X11_drop_84 : decode cm_X11_drop 84 = .ok (.aload_n 0, 1) := by decide +kernel
theorem d_X11_drop_85 : decode cm_X11_drop 85 = .ok (.iload_n 1, 1) := by decide +kernel
theorem d_X11_drop_86 : decode cm_X11_drop 86 = .ok (.iload_n 3, 1) := by decide +kernel
theorem d_X11_drop_87 : decode cm_X11_drop 87 = .ok (.ifCond .eq 7, 3) := by decide +kernel
theorem d_X11_drop_90 : decode cm_X11_drop 90 = .ok (.iconst (-1), 1) := by decide +kernel
theorem d_X11_drop_91 : decode cm_X11_drop 91 = .ok (.goto 4, 3) := by decide +kernel
theorem d_X11_drop_94 : decode cm_X11_drop 94 = .ok (.iload_n 2, 1) := by decide +kernel
theorem d_X11_drop_95 : decode cm_X11_drop 95 = .ok (.iload_n 3, 1) := by decide +kernel
theorem d_X11_drop_96 : decode cm_X11_drop 96 = .ok (.ifCond .eq 7, 3) := by decide +kernel
theorem d_X11_drop_99 : decode cm_X11_drop 99 = .ok (.iload_n 2, 1) := by decide +kernel
theorem d_X11_drop_100 : decode cm_X11_drop 100 = .ok (.goto 4, 3) := by decide +kernel
theorem d_X11_drop_103 : decode cm_X11_drop 103 = .ok (.iconst (-1), 1) := by decide +kernel
theorem d_X11_drop_104 : decode cm_X11_drop 104 = .ok (.invokevirtual 349, 3) := by decide +kernel
theorem d_X11_drop_107 : decode cm_X11_drop 107 = .ok (.aload_n 0, 1) := by decide +kernel
theorem d_X11_drop_108 : decode cm_X11_drop 108 = .ok (.invokevirtual 201, 3) := by decide +kernel
theorem d_X11_drop_111 : decode cm_X11_drop 111 = .ok (.ireturn, 1) := by decide +kernel
def D_X11_drop_104 (Q : Int32 → GSt → Prop) (s1 : Int32) (s2 : Int32) (s3 : Int32) (σ : GSt) : Prop :=
  D_X11_without s1 s2 s3 σ (fun σ_1 => D_X11_grown  σ_1 (fun r_2 σ_3 => Q r_2 σ_3))
def D_X11_drop_95 (Q : Int32 → GSt → Prop) (x2 : Int32) (x3 : Int32) (s1 : Int32) (s2 : Int32) (σ : GSt) : Prop :=
  (x3 = 0 → D_X11_drop_104 Q s1 s2 (-1) σ) ∧
  (¬ x3 = 0 → D_X11_drop_104 Q s1 s2 x2 σ)
def D_X11_drop_62 (Q : Int32 → GSt → Prop) (σ : GSt) : Prop :=
  D_X11_no (-1) σ (fun r_1 σ_2 => Q r_1 σ_2)
def D_X11_drop_58 (Q : Int32 → GSt → Prop) (x1 : Int32) (x2 : Int32) (x3 : Int32) (s0 : Int32) (σ : GSt) : Prop :=
  (¬ s0 = 1 → (¬ (σ 237 20) = 8 → (x3 = 0 → D_X11_drop_95 Q x2 x3 x1 x2 σ) ∧
  (¬ x3 = 0 → D_X11_drop_95 Q x2 x3 x1 (-1) σ)) ∧
  ((σ 237 20) = 8 → D_X11_no (-6) σ (fun r_1 σ_2 => Q r_1 σ_2))) ∧
  (s0 = 1 → D_X11_drop_62 Q σ)
def D_X11_drop_30 (Q : Int32 → GSt → Prop) (x1 : Int32) (x2 : Int32) (x3 : Int32) (s0 : Int64) (s1 : Int64) (s2 : Int32) (σ : GSt) : Prop :=
  D_X11_isIn s0 s1 (Int32.toInt64 (s2 - 1)) σ (fun r_1 σ_2 => (r_1 = 0 → D_X11_drop_62 Q σ_2) ∧
  (¬ r_1 = 0 → (x3 = 0 → vp_in x1 9 ∧ (D_X11_drop_58 Q x1 x2 x3 (σ_2 248 (Int32.toNatClampNeg x1)) σ_2)) ∧
  (¬ x3 = 0 → vp_in x1 9 ∧ (D_X11_drop_58 Q x1 x2 x3 (σ_2 253 (Int32.toNatClampNeg x1)) σ_2))))
def D_X11_drop_0 (Q : Int32 → GSt → Prop) (x1 : Int32) (x2 : Int32) (x3 : Int32) (σ : GSt) : Prop :=
  D_X11_isGame x1 σ (fun r_1 σ_2 => (r_1 = 0 → D_X11_drop_62 Q σ_2) ∧
  (¬ r_1 = 0 → (x3 = 0 → vp_in x1 9 ∧ (D_X11_drop_30 Q x1 x2 x3 (Int32.toInt64 x2) 0 (σ_2 248 (Int32.toNatClampNeg x1)) σ_2)) ∧
  (¬ x3 = 0 → vp_in x1 9 ∧ (D_X11_drop_30 Q x1 x2 x3 (Int32.toInt64 x2) 0 (σ_2 253 (Int32.toNatClampNeg x1)) σ_2))))
def D_X11_drop (x1 : Int32) (x2 : Int32) (x3 : Int32) (σ : GSt) (Q : Int32 → GSt → Prop) : Prop := D_X11_drop_0 Q x1 x2 x3 σ
set_option maxRecDepth 20000 in
set_option maxHeartbeats 4000000 in
theorem s_X11_drop_104 {p : Program} {l : Launch} {e : Env} {s : State} {m : MethodId} {args : Array Value} {below : List Frame} {meth : Method} {c : Code} {G : GC} (X : CallFix p m c cm_X11_drop 4 s args lw_us "GameLoomModel") (hr : meth.sig.returnType = some .int) (hlk : meth.locks = false) (Q : Int32 → GSt → Prop) (s1 : Int32) (s2 : Int32) (s3 : Int32) (σ : GSt) {H : Heap} {locs : List Loc} {ls : Array Slot} (hw : Wo G s H locs σ) (hl : lv_has ls 4 [(0, .ref (G.2.1 237))]) (hD : D_X11_drop_104 Q s1 s2 s3 σ) : W p l e rm_X11_drop s m args below meth c H locs 0 0 (QMI G Q below args s) (F0 m 104 ls [.int s3, .int s2, .int s1, .ref (G.2.1 237)]) := by
  unfold D_X11_drop_104 at hD
  refine gcV_v (rest := []) (As := [.int s1, .int s2, .int s3]) (o := 237) X hw (c_X11_without l G s1 s2 s3 σ _  hD) (kd_lt (by decide +kernel : kd 237 = 11) (by decide)) (ce_11 G _ (by decide +kernel : kd 237 = 11)) rfl tb_1328 tb_1330 tv_76 tb_12 tb_1331 hd_X11_without ⟨rfl, rfl⟩ ⟨Nat.le_of_ble_eq_true rfl, Nat.le_of_ble_eq_true rfl⟩ rfl hl.1 rfl (Nat.le_of_ble_eq_true rfl) d_X11_drop_104 (fun σ_1 H locs hD hw => ?_)
  refine lv_aload_n X.1 X.2.1 d_X11_drop_107 rfl (lv_at hl 0 rfl) ?_
  refine gcV_i (rest := []) (As := []) (o := 237) X hw (c_X11_grown l G  σ_1 _  hD) (kd_lt (by decide +kernel : kd 237 = 11) (by decide)) (ce_11 G _ (by decide +kernel : kd 237 = 11)) rfl tb_1101 tb_1103 tv_38 tb_12 tb_1104 hd_X11_grown ⟨rfl, rfl⟩ ⟨Nat.le_of_ble_eq_true rfl, Nat.le_of_ble_eq_true rfl⟩ rfl hl.1 rfl (Nat.le_of_ble_eq_true rfl) d_X11_drop_108 (fun r_2 σ_3 H locs hD hw => ?_)
  exact g_iret X hr hlk hw hD d_X11_drop_111
set_option maxRecDepth 20000 in
set_option maxHeartbeats 4000000 in
theorem s_X11_drop_95 {p : Program} {l : Launch} {e : Env} {s : State} {m : MethodId} {args : Array Value} {below : List Frame} {meth : Method} {c : Code} {G : GC} (X : CallFix p m c cm_X11_drop 4 s args lw_us "GameLoomModel") (hr : meth.sig.returnType = some .int) (hlk : meth.locks = false) (Q : Int32 → GSt → Prop) (x2 : Int32) (x3 : Int32) (s1 : Int32) (s2 : Int32) (σ : GSt) {H : Heap} {locs : List Loc} {ls : Array Slot} (hw : Wo G s H locs σ) (hl : lv_has ls 4 [(0, .ref (G.2.1 237)), (2, .int x2), (3, .int x3)]) (hD : D_X11_drop_95 Q x2 x3 s1 s2 σ) : W p l e rm_X11_drop s m args below meth c H locs 0 0 (QMI G Q below args s) (F0 m 95 ls [.int s2, .int s1, .ref (G.2.1 237)]) := by
  unfold D_X11_drop_95 at hD
  refine lv_iload_n X.1 X.2.1 d_X11_drop_95 rfl (lv_at hl 2 rfl) ?_
  refine lv_if_eq (tgt := 103) X.1 X.2.1 d_X11_drop_96 (by decide) (fun q_96 => ?_) (fun q_96 => ?_)
  · have hD := hD.1 q_96
    refine lv_iconst (v := (-1)) X.1 X.2.1 d_X11_drop_103 (by decide) ?_
    exact s_X11_drop_104 X hr hlk  Q  s1 s2 (-1) σ hw (lv_sub hl [0] rfl) hD
  · have hD := hD.2 q_96
    refine lv_iload_n X.1 X.2.1 d_X11_drop_99 rfl (lv_at hl 1 rfl) ?_
    refine lv_goto (tgt := 104) X.1 X.2.1 d_X11_drop_100 (by decide) ?_
    exact s_X11_drop_104 X hr hlk  Q  s1 s2 x2 σ hw (lv_sub hl [0] rfl) hD
set_option maxRecDepth 20000 in
set_option maxHeartbeats 4000000 in
theorem s_X11_drop_62 {p : Program} {l : Launch} {e : Env} {s : State} {m : MethodId} {args : Array Value} {below : List Frame} {meth : Method} {c : Code} {G : GC} (X : CallFix p m c cm_X11_drop 4 s args lw_us "GameLoomModel") (hr : meth.sig.returnType = some .int) (hlk : meth.locks = false) (Q : Int32 → GSt → Prop) (σ : GSt) {H : Heap} {locs : List Loc} {ls : Array Slot} (hw : Wo G s H locs σ) (hl : lv_has ls 4 [(0, .ref (G.2.1 237))]) (hD : D_X11_drop_62 Q σ) : W p l e rm_X11_drop s m args below meth c H locs 0 0 (QMI G Q below args s) (F0 m 62 ls []) := by
  unfold D_X11_drop_62 at hD
  refine lv_aload_n X.1 X.2.1 d_X11_drop_62 rfl (lv_at hl 0 rfl) ?_
  refine lv_iconst (v := (-1)) X.1 X.2.1 d_X11_drop_63 (by decide) ?_
  refine gcV_i (rest := []) (As := [.int (-1)]) (o := 237) X hw (c_X11_no l G (-1) σ _  hD) (kd_lt (by decide +kernel : kd 237 = 11) (by decide)) (ce_11 G _ (by decide +kernel : kd 237 = 11)) rfl tb_1084 tb_1086 tv_35 tb_12 tb_1087 hd_X11_no ⟨rfl, rfl⟩ ⟨Nat.le_of_ble_eq_true rfl, Nat.le_of_ble_eq_true rfl⟩ rfl hl.1 rfl (Nat.le_of_ble_eq_true rfl) d_X11_drop_64 (fun r_1 σ_2 H locs hD hw => ?_)
  exact g_iret X hr hlk hw hD d_X11_drop_67
set_option maxRecDepth 20000 in
set_option maxHeartbeats 4000000 in
theorem s_X11_drop_58 {p : Program} {l : Launch} {e : Env} {s : State} {m : MethodId} {args : Array Value} {below : List Frame} {meth : Method} {c : Code} {G : GC} (X : CallFix p m c cm_X11_drop 4 s args lw_us "GameLoomModel") (hr : meth.sig.returnType = some .int) (hlk : meth.locks = false) (Q : Int32 → GSt → Prop) (x1 : Int32) (x2 : Int32) (x3 : Int32) (s0 : Int32) (σ : GSt) {H : Heap} {locs : List Loc} {ls : Array Slot} (hw : Wo G s H locs σ) (hl : lv_has ls 4 [(0, .ref (G.2.1 237)), (1, .int x1), (2, .int x2), (3, .int x3)]) (hD : D_X11_drop_58 Q x1 x2 x3 s0 σ) : W p l e rm_X11_drop s m args below meth c H locs 0 0 (QMI G Q below args s) (F0 m 58 ls [.int s0]) := by
  unfold D_X11_drop_58 at hD
  refine lv_iconst (v := 1) X.1 X.2.1 d_X11_drop_58 (by decide) ?_
  refine lv_icmp_ne (tgt := 68) X.1 X.2.1 d_X11_drop_59 (by decide) (fun q_59 => ?_) (fun q_59 => ?_)
  · have hD := hD.1 q_59
    refine lv_aload_n X.1 X.2.1 d_X11_drop_68 rfl (lv_at hl 0 rfl) ?_
    refine gf_11_20 X hw (by decide +kernel : kd 237 = 11) tb_926 d_X11_drop_69 ?_
    refine lv_bipush (v := 8) X.1 X.2.1 d_X11_drop_72 (by decide) ?_
    refine lv_icmp_ne (tgt := 84) X.1 X.2.1 d_X11_drop_74 (by decide) (fun q_74 => ?_) (fun q_74 => ?_)
    · have hD := hD.1 q_74
      refine lv_aload_n X.1 X.2.1 d_X11_drop_84 rfl (lv_at hl 0 rfl) ?_
      refine lv_iload_n X.1 X.2.1 d_X11_drop_85 rfl (lv_at hl 1 rfl) ?_
      refine lv_iload_n X.1 X.2.1 d_X11_drop_86 rfl (lv_at hl 3 rfl) ?_
      refine lv_if_eq (tgt := 94) X.1 X.2.1 d_X11_drop_87 (by decide) (fun q_87 => ?_) (fun q_87 => ?_)
      · have hD := hD.1 q_87
        refine lv_iload_n X.1 X.2.1 d_X11_drop_94 rfl (lv_at hl 2 rfl) ?_
        exact s_X11_drop_95 X hr hlk  Q  x2 x3 x1 x2 σ hw (lv_sub hl [0, 2, 3] rfl) hD
      · have hD := hD.2 q_87
        refine lv_iconst (v := (-1)) X.1 X.2.1 d_X11_drop_90 (by decide) ?_
        refine lv_goto (tgt := 95) X.1 X.2.1 d_X11_drop_91 (by decide) ?_
        exact s_X11_drop_95 X hr hlk  Q  x2 x3 x1 (-1) σ hw (lv_sub hl [0, 2, 3] rfl) hD
    · have hD := hD.2 q_74
      refine lv_aload_n X.1 X.2.1 d_X11_drop_77 rfl (lv_at hl 0 rfl) ?_
      refine lv_bipush (v := (-6)) X.1 X.2.1 d_X11_drop_78 (by decide) ?_
      refine gcV_i (rest := []) (As := [.int (-6)]) (o := 237) X hw (c_X11_no l G (-6) σ _  hD) (kd_lt (by decide +kernel : kd 237 = 11) (by decide)) (ce_11 G _ (by decide +kernel : kd 237 = 11)) rfl tb_1084 tb_1086 tv_35 tb_12 tb_1087 hd_X11_no ⟨rfl, rfl⟩ ⟨Nat.le_of_ble_eq_true rfl, Nat.le_of_ble_eq_true rfl⟩ rfl hl.1 rfl (Nat.le_of_ble_eq_true rfl) d_X11_drop_80 (fun r_1 σ_2 H locs hD hw => ?_)
      exact g_iret X hr hlk hw hD d_X11_drop_83
  · have hD := hD.2 q_59
    exact s_X11_drop_62 X hr hlk  Q   σ hw (lv_sub hl [0] rfl) hD
set_option maxRecDepth 20000 in
set_option maxHeartbeats 4000000 in
theorem s_X11_drop_30 {p : Program} {l : Launch} {e : Env} {s : State} {m : MethodId} {args : Array Value} {below : List Frame} {meth : Method} {c : Code} {G : GC} (X : CallFix p m c cm_X11_drop 4 s args lw_us "GameLoomModel") (hr : meth.sig.returnType = some .int) (hlk : meth.locks = false) (Q : Int32 → GSt → Prop) (x1 : Int32) (x2 : Int32) (x3 : Int32) (s0 : Int64) (s1 : Int64) (s2 : Int32) (σ : GSt) {H : Heap} {locs : List Loc} {ls : Array Slot} (hw : Wo G s H locs σ) (hl : lv_has ls 4 [(0, .ref (G.2.1 237)), (1, .int x1), (2, .int x2), (3, .int x3)]) (hD : D_X11_drop_30 Q x1 x2 x3 s0 s1 s2 σ) : W p l e rm_X11_drop s m args below meth c H locs 0 0 (QMI G Q below args s) (F0 m 30 ls [.int s2, .long s1, .long s0]) := by
  unfold D_X11_drop_30 at hD
  refine lv_iconst (v := 1) X.1 X.2.1 d_X11_drop_30 (by decide) ?_
  refine lv_isub X.1 X.2.1 d_X11_drop_31 ?_
  refine lv_i2l (v := (Int32.toInt64 (s2 - 1))) X.1 X.2.1 d_X11_drop_32 rfl ?_
  refine gcS_i (rest := []) (As := [.long s0, .long s1, .long (Int32.toInt64 (s2 - 1))]) X hw (c_X11_isIn l G s0 s1 (Int32.toInt64 (s2 - 1)) σ _  hD) tb_1125 tb_1126 tb_12 tb_1127 hd_X11_isIn ⟨rfl, rfl⟩ ⟨Nat.le_of_ble_eq_true rfl, Nat.le_of_ble_eq_true rfl⟩ rfl hl.1 rfl (Nat.le_of_ble_eq_true rfl) d_X11_drop_33 (fun r_1 σ_2 H locs hD hw => ?_)
  refine lv_if_eq (tgt := 62) X.1 X.2.1 d_X11_drop_36 (by decide) (fun q_36 => ?_) (fun q_36 => ?_)
  · have hD := hD.1 q_36
    exact s_X11_drop_62 X hr hlk  Q   σ_2 hw (lv_sub hl [0] rfl) hD
  · have hD := hD.2 q_36
    refine lv_iload_n X.1 X.2.1 d_X11_drop_39 rfl (lv_at hl 3 rfl) ?_
    refine lv_if_eq (tgt := 52) X.1 X.2.1 d_X11_drop_40 (by decide) (fun q_40 => ?_) (fun q_40 => ?_)
    · have hD := hD.1 q_40
      refine lv_aload_n X.1 X.2.1 d_X11_drop_52 rfl (lv_at hl 0 rfl) ?_
      refine gf_11_10 X hw (by decide +kernel : kd 237 = 11) tb_916 d_X11_drop_53 ?_
      refine lv_iload_n X.1 X.2.1 d_X11_drop_56 rfl (lv_at hl 1 rfl) ?_
      obtain ⟨q_57, hD⟩ := hD
      refine g_iald X hw ly_11_10.1 ly_11_10.2 q_57 d_X11_drop_57 ?_
      exact s_X11_drop_58 X hr hlk  Q  x1 x2 x3 (σ_2 248 (Int32.toNatClampNeg x1)) σ_2 hw (lv_sub hl [0, 1, 2, 3] rfl) hD
    · have hD := hD.2 q_40
      refine lv_aload_n X.1 X.2.1 d_X11_drop_43 rfl (lv_at hl 0 rfl) ?_
      refine gf_11_15 X hw (by decide +kernel : kd 237 = 11) tb_921 d_X11_drop_44 ?_
      refine lv_iload_n X.1 X.2.1 d_X11_drop_47 rfl (lv_at hl 1 rfl) ?_
      obtain ⟨q_48, hD⟩ := hD
      refine g_iald X hw ly_11_15.1 ly_11_15.2 q_48 d_X11_drop_48 ?_
      refine lv_goto (tgt := 58) X.1 X.2.1 d_X11_drop_49 (by decide) ?_
      exact s_X11_drop_58 X hr hlk  Q  x1 x2 x3 (σ_2 253 (Int32.toNatClampNeg x1)) σ_2 hw (lv_sub hl [0, 1, 2, 3] rfl) hD
set_option maxRecDepth 20000 in
set_option maxHeartbeats 4000000 in
theorem s_X11_drop_0 {p : Program} {l : Launch} {e : Env} {s : State} {m : MethodId} {args : Array Value} {below : List Frame} {meth : Method} {c : Code} {G : GC} (X : CallFix p m c cm_X11_drop 4 s args lw_us "GameLoomModel") (hr : meth.sig.returnType = some .int) (hlk : meth.locks = false) (Q : Int32 → GSt → Prop) (x1 : Int32) (x2 : Int32) (x3 : Int32) (σ : GSt) {H : Heap} {locs : List Loc} {ls : Array Slot} (hw : Wo G s H locs σ) (hl : lv_has ls 4 [(0, .ref (G.2.1 237)), (1, .int x1), (2, .int x2), (3, .int x3)]) (hD : D_X11_drop_0 Q x1 x2 x3 σ) : W p l e rm_X11_drop s m args below meth c H locs 0 0 (QMI G Q below args s) (F0 m 0 ls []) := by
  unfold D_X11_drop_0 at hD
  refine lv_aload_n X.1 X.2.1 d_X11_drop_0 rfl (lv_at hl 0 rfl) ?_
  refine lv_iload_n X.1 X.2.1 d_X11_drop_1 rfl (lv_at hl 1 rfl) ?_
  refine gcV_i (rest := []) (As := [.int x1]) (o := 237) X hw (c_X11_isGame l G x1 σ _  hD) (kd_lt (by decide +kernel : kd 237 = 11) (by decide)) (ce_11 G _ (by decide +kernel : kd 237 = 11)) rfl tb_1144 tb_1146 tv_47 tb_12 tb_1147 hd_X11_isGame ⟨rfl, rfl⟩ ⟨Nat.le_of_ble_eq_true rfl, Nat.le_of_ble_eq_true rfl⟩ rfl hl.1 rfl (Nat.le_of_ble_eq_true rfl) d_X11_drop_2 (fun r_1 σ_2 H locs hD hw => ?_)
  refine lv_if_eq (tgt := 62) X.1 X.2.1 d_X11_drop_5 (by decide) (fun q_5 => ?_) (fun q_5 => ?_)
  · have hD := hD.1 q_5
    exact s_X11_drop_62 X hr hlk  Q   σ_2 hw (lv_sub hl [0] rfl) hD
  · have hD := hD.2 q_5
    refine lv_iload_n X.1 X.2.1 d_X11_drop_8 rfl (lv_at hl 2 rfl) ?_
    refine lv_i2l (v := (Int32.toInt64 x2)) X.1 X.2.1 d_X11_drop_9 rfl ?_
    refine lv_lconst (v := 0) X.1 X.2.1 d_X11_drop_10 (by decide) ?_
    refine lv_iload_n X.1 X.2.1 d_X11_drop_11 rfl (lv_at hl 3 rfl) ?_
    refine lv_if_eq (tgt := 24) X.1 X.2.1 d_X11_drop_12 (by decide) (fun q_12 => ?_) (fun q_12 => ?_)
    · have hD := hD.1 q_12
      refine lv_aload_n X.1 X.2.1 d_X11_drop_24 rfl (lv_at hl 0 rfl) ?_
      refine gf_11_10 X hw (by decide +kernel : kd 237 = 11) tb_916 d_X11_drop_25 ?_
      refine lv_iload_n X.1 X.2.1 d_X11_drop_28 rfl (lv_at hl 1 rfl) ?_
      obtain ⟨q_29, hD⟩ := hD
      refine g_iald X hw ly_11_10.1 ly_11_10.2 q_29 d_X11_drop_29 ?_
      exact s_X11_drop_30 X hr hlk  Q  x1 x2 x3 (Int32.toInt64 x2) 0 (σ_2 248 (Int32.toNatClampNeg x1)) σ_2 hw (lv_sub hl [0, 1, 2, 3] rfl) hD
    · have hD := hD.2 q_12
      refine lv_aload_n X.1 X.2.1 d_X11_drop_15 rfl (lv_at hl 0 rfl) ?_
      refine gf_11_15 X hw (by decide +kernel : kd 237 = 11) tb_921 d_X11_drop_16 ?_
      refine lv_iload_n X.1 X.2.1 d_X11_drop_19 rfl (lv_at hl 1 rfl) ?_
      obtain ⟨q_20, hD⟩ := hD
      refine g_iald X hw ly_11_15.1 ly_11_15.2 q_20 d_X11_drop_20 ?_
      refine lv_goto (tgt := 30) X.1 X.2.1 d_X11_drop_21 (by decide) ?_
      exact s_X11_drop_30 X hr hlk  Q  x1 x2 x3 (Int32.toInt64 x2) 0 (σ_2 253 (Int32.toNatClampNeg x1)) σ_2 hw (lv_sub hl [0, 1, 2, 3] rfl) hD
theorem c_X11_drop (l : Launch) (G : GC) (x1 : Int32) (x2 : Int32) (x3 : Int32) (σ : GSt) (Q : Int32 → GSt → Prop)  (hD : D_X11_drop x1 x2 x3 σ Q) : MI l ym_X11_drop cm_X11_drop 4 .int rm_X11_drop G σ [.ref (G.2.1 237), .int x1, .int x2, .int x3] Q := by
  refine met_i (by decide) (Nat.le_of_ble_eq_true rfl) ?_
  intro p e s m args below meth c X hr hlk hw ls hl
  exact s_X11_drop_0 X hr hlk Q  x1 x2 x3 σ hw (lv_sub hl [0, 1, 2, 3] rfl) hD
theorem hd_X11_change : ym_X11_change.cls = "GameLoomModel" ∧ ym_X11_change.cls ≠ "java/lang/invoke/MethodHandle" ∧ ym_X11_change.cls ≠ "java/lang/invoke/VarHandle" ∧ (parseMethodDescriptor ym_X11_change.desc).map (fun d => d.parameters.length) = some 3 := by decide +kernel
abbrev rm_X11_change : Room := { frames := 5, cells := 0, slots := 0, locals := 114 }
theorem d_X11_change_0 : decode cm_X11_change 0 = .ok (.aload_n 0, 1) := by decide +kernel
theorem d_X11_change_1 : decode cm_X11_change 1 = .ok (.iload_n 1, 1) := by decide +kernel
theorem d_X11_change_2 : decode cm_X11_change 2 = .ok (.invokevirtual 204, 3) := by decide +kernel
theorem d_X11_change_5 : decode cm_X11_change 5 = .ok (.ifCond .eq 7, 3) := by decide +kernel
theorem d_X11_change_8 : decode cm_X11_change 8 = .ok (.iload_n 2, 1) := by decide +kernel
theorem d_X11_change_9 : decode cm_X11_change 9 = .ok (.ifCond .ge 9, 3) := by decide +kernel
theorem d_X11_change_12 : decode cm_X11_change 12 = .ok (.aload_n 0, 1) := by decide +kernel
theorem d_X11_change_13 : decode cm_X11_change 13 = .ok (.iconst (-1), 1) := by decide +kernel
theorem d_X11_change_14 : decode cm_X11_change 14 = .ok (.invokevirtual 147, 3) := by decide +kernel
theorem d_X11_change_17 : decode cm_X11_change 17 = .ok (.ireturn, 1) := by decide +kernel
theorem d_X11_change_18 : decode cm_X11_change 18 = .ok (.iconst (-1), 1) := by decide +kernel
theorem d_X11_change_19 : decode cm_X11_change 19 = .ok (.istore 4, 2) := by decide +kernel
theorem d_X11_change_21 : decode cm_X11_change 21 = .ok (.iconst 0, 1) := by decide +kernel
theorem d_X11_change_22 : decode cm_X11_change 22 = .ok (.istore 5, 2) := by decide +kernel
theorem d_X11_change_24 : decode cm_X11_change 24 = .ok (.iconst 0, 1) := by decide +kernel
theorem d_X11_change_25 : decode cm_X11_change 25 = .ok (.istore 6, 2) := by decide +kernel
theorem d_X11_change_27 : decode cm_X11_change 27 = .ok (.iload 6, 2) := by decide +kernel
theorem d_X11_change_29 : decode cm_X11_change 29 = .ok (.aload_n 0, 1) := by decide +kernel
theorem d_X11_change_30 : decode cm_X11_change 30 = .ok (.getfield 19, 3) := by decide +kernel
theorem d_X11_change_33 : decode cm_X11_change 33 = .ok (.iload_n 1, 1) := by decide +kernel
theorem d_X11_change_34 : decode cm_X11_change 34 = .ok (.iaload, 1) := by decide +kernel
theorem d_X11_change_35 : decode cm_X11_change 35 = .ok (.if_icmp .ge 50, 3) := by decide +kernel
theorem d_X11_change_38 : decode cm_X11_change 38 = .ok (.aload_n 0, 1) := by decide +kernel
theorem d_X11_change_39 : decode cm_X11_change 39 = .ok (.getfield 16, 3) := by decide +kernel
theorem d_X11_change_42 : decode cm_X11_change 42 = .ok (.bipush 90, 2) := by decide +kernel
theorem d_X11_change_44 : decode cm_X11_change 44 = .ok (.iload_n 1, 1) := by decide +kernel
theorem d_X11_change_45 : decode cm_X11_change 45 = .ok (.imul, 1) := by decide +kernel
theorem d_X11_change_46 : decode cm_X11_change 46 = .ok (.iload 6, 2) := by decide +kernel
theorem d_X11_change_48 : decode cm_X11_change 48 = .ok (.iadd, 1) := by decide +kernel
theorem d_X11_change_49 : decode cm_X11_change 49 = .ok (.iaload, 1) := by decide +kernel
theorem d_X11_change_50 : decode cm_X11_change 50 = .ok (.i2l, 1) := by decide +kernel
theorem d_X11_change_51 : decode cm_X11_change 51 = .ok (.ldc2_w 352, 3) := by decide +kernel
theorem d_X11_change_54 : decode cm_X11_change 54 = .ok (.ldc2_w 354, 3) := by decide +kernel
theorem d_X11_change_57 : decode cm_X11_change 57 = .ok (.invokestatic 163, 3) := by decide +kernel
theorem d_X11_change_60 : decode cm_X11_change 60 = .ok (.ifCond .ne 6, 3) := by decide +kernel
theorem d_X11_change_63 : decode cm_X11_change 63 = .ok (.goto 16, 3) := by decide +kernel
theorem d_X11_change_66 : decode cm_X11_change 66 = .ok (.iload 5, 2) := by decide +kernel
theorem d_X11_change_68 : decode cm_X11_change 68 = .ok (.iload_n 2, 1) := by decide +kernel
theorem d_X11_change_69 : decode cm_X11_change 69 = .ok (.if_icmp .ne 7, 3) := by decide +kernel
theorem d_X11_change_72 : decode cm_X11_change 72 = .ok (.iload 6, 2) := by decide +kernel
theorem d_X11_change_74 : decode cm_X11_change 74 = .ok (.istore 4, 2) := by decide +kernel
theorem d_X11_change_76 : decode cm_X11_change 76 = .ok (.iinc 5 1, 3) := by decide +kernel
theorem d_X11_change_79 : decode cm_X11_change 79 = .ok (.iinc 6 1, 3) := by decide +kernel
theorem d_X11_change_82 : decode cm_X11_change 82 = .ok (.goto (-55), 3) := by decide +kernel
theorem d_X11_change_85 : decode cm_X11_change 85 = .ok (.iload 4, 2) := by decide +kernel
theorem d_X11_change_87 : decode cm_X11_change 87 = .ok (.ifCond .ge 9, 3) := by decide +kernel
theorem d_X11_change_90 : decode cm_X11_change 90 = .ok (.aload_n 0, 1) := by decide +kernel
theorem d_X11_change_91 : decode cm_X11_change 91 = .ok (.iconst (-1), 1) := by decide +kernel
theorem d_X11_change_92 : decode cm_X11_change 92 = .ok (.invokevirtual 147, 3) := by decide +kernel
theorem d_X11_change_95 : decode cm_X11_change 95 = .ok (.ireturn, 1) := by decide +kernel
theorem d_X11_change_96 : decode cm_X11_change 96 = .ok (.iload_n 3, 1) := by decide +kernel
theorem d_X11_change_97 : decode cm_X11_change 97 = .ok (.i2l, 1) := by decide +kernel
theorem d_X11_change_98 : decode cm_X11_change 98 = .ok (.lconst 0, 1) := by decide +kernel
theorem d_X11_change_99 : decode cm_X11_change 99 = .ok (.ldc2_w 356, 3) := by decide +kernel
theorem d_X11_change_102 : decode cm_X11_change 102 = .ok (.invokestatic 140, 3) := by decide +kernel
theorem d_X11_change_105 : decode cm_X11_change 105 = .ok (.istore 6, 2) := by decide +kernel
theorem d_X11_change_107 : decode cm_X11_change 107 = .ok (.iload 6, 2) := by decide +kernel
theorem d_X11_change_109 : decode cm_X11_change 109 = .ok (.ifCond .ne 16, 3) := by decide +kernel
theorem d_X11_change_112 : decode cm_X11_change 112 = .ok (.aload_n 0, 1) := by decide +kernel
theorem d_X11_change_113 : decode cm_X11_change 113 = .ok (.getfield 191, 3) := by decide +kernel
theorem d_X11_change_116 : decode cm_X11_change 116 = .ok (.bipush 8, 2) := by decide +kernel
theorem d_X11_change_118 : decode cm_X11_change 118 = .ok (.if_icmp .ne 7, 3) := by decide +kernel
theorem d_X11_change_121 : decode cm_X11_change 121 = .ok (.bipush (-6), 2) := by decide +kernel
theorem d_X11_change_123 : decode cm_X11_change 123 = .ok (.istore 6, 2) := by decide +kernel
theorem d_X11_change_125 : decode cm_X11_change 125 = .ok (.iload 6, 2) := by decide +kernel
theorem d_X11_change_127 : decode cm_X11_change 127 = .ok (.ifCond .eq 10, 3) := by decide +kernel
theorem d_X11_change_130 : decode cm_X11_change 130 = .ok (.aload_n 0, 1) := by decide +kernel
theorem d_X11_change_131 : decode cm_X11_change 131 = .ok (.iload 6, 2) := by decide +kernel
theorem d_X11_change_133 : decode cm_X11_change 133 = .ok (.invokevirtual 147, 3) := by decide +kernel
theorem d_X11_change_136 : decode cm_X11_change 136 = .ok (.ireturn, 1) := by decide +kernel
theorem d_X11_change_137 : decode cm_X11_change 137 = .ok (.aload_n 0, 1) := by decide +kernel
theorem d_X11_change_138 : decode cm_X11_change 138 = .ok (.invokevirtual 198, 3) := by decide +kernel
theorem d_X11_change_141 : decode cm_X11_change 141 = .ok (.aload_n 0, 1) := by decide +kernel
theorem d_X11_change_142 : decode cm_X11_change 142 = .ok (.iload_n 1, 1) := by decide +kernel
theorem d_X11_change_143 : decode cm_X11_change 143 = .ok (.iconst 0, 1) := by decide +kernel
theorem d_X11_change_144 : decode cm_X11_change 144 = .ok (.aload_n 0, 1) := by decide +kernel
theorem d_X11_change_145 : decode cm_X11_change 145 = .ok (.getfield 19, 3) := by decide +kernel
theorem d_X11_change_148 : decode cm_X11_change 148 = .ok (.iload_n 1, 1) := by decide +kernel
theorem d_X11_change_149 : decode cm_X11_change 149 = .ok (.iaload, 1) := by decide +kernel
theorem d_X11_change_150 : decode cm_X11_change 150 = .ok (.invokevirtual 339, 3) := by decide +kernel
theorem d_X11_change_153 : decode cm_X11_change 153 = .ok (.aload_n 0, 1) := by decide +kernel
theorem d_X11_change_154 : decode cm_X11_change 154 = .ok (.getfield 16, 3) := by decide +kernel
theorem d_X11_change_157 : decode cm_X11_change 157 = .ok (.sipush 720, 3) := by decide +kernel
theorem d_X11_change_160 : decode cm_X11_change 160 = .ok (.iload 4, 2) := by decide +kernel
theorem d_X11_change_162 : decode cm_X11_change 162 = .ok (.iadd, 1) := by decide +kernel
theorem d_X11_change_163 : decode cm_X11_change 163 = .ok (.bipush 48, 2) := by decide +kernel
theorem d_X11_change_165 : decode cm_X11_change 165 = .ok (.iload_n 3, 1) := by decide +kernel
theorem d_X11_change_166 : decode cm_X11_change 166 = .ok (.iadd, 1) := by decide +kernel
theorem d_X11_change_167 : decode cm_X11_change 167 = .ok (.iastore, 1) := by decide +kernel
theorem d_X11_change_168 : decode cm_X11_change 168 = .ok (.aload_n 0, 1) := by decide +kernel
theorem d_X11_change_169 : decode cm_X11_change 169 = .ok (.invokevirtual 201, 3) := by decide +kernel
theorem d_X11_change_172 : decode cm_X11_change 172 = .ok (.ireturn, 1) := by decide +kernel
def D_X11_change_125 (Q : Int32 → GSt → Prop) (x1 : Int32) (x3 : Int32) (x4 : Int32) (x6 : Int32) (σ : GSt) : Prop :=
  (x6 = 0 → D_X11_starts  σ (fun σ_1 => vp_in x1 9 ∧ (D_X11_addsFrom x1 0 (σ_1 241 (Int32.toNatClampNeg x1)) σ_1 (fun σ_2 => vp_in (720 + x4) 810 ∧ (∀ σ_3 : GSt, σ_3 = up2 σ_2 240 (Int32.toNatClampNeg (720 + x4)) (48 + x3) → (D_X11_grown  σ_3 (fun r_4 σ_5 => Q r_4 σ_5))))))) ∧
  (¬ x6 = 0 → D_X11_no x6 σ (fun r_6 σ_7 => Q r_6 σ_7))
def D_X11_change_79 (K27 : Int32 → Int32 → Int32 → Int32 → Int32 → Int32 → GSt → Prop) (Q : Int32 → GSt → Prop) (x1 : Int32) (x2 : Int32) (x3 : Int32) (x4 : Int32) (x5 : Int32) (x6 : Int32) (σ : GSt) : Prop :=
  ∀ x6_1 : Int32, x6_1 = x6 + 1 → (K27 x1 x2 x3 x4 x5 x6_1 σ)
def D_X11_change_76 (K27 : Int32 → Int32 → Int32 → Int32 → Int32 → Int32 → GSt → Prop) (Q : Int32 → GSt → Prop) (x1 : Int32) (x2 : Int32) (x3 : Int32) (x4 : Int32) (x5 : Int32) (x6 : Int32) (σ : GSt) : Prop :=
  ∀ x5_1 : Int32, x5_1 = x5 + 1 → (D_X11_change_79 K27 Q x1 x2 x3 x4 x5_1 x6 σ)
def D_X11_change_27 (K27 : Int32 → Int32 → Int32 → Int32 → Int32 → Int32 → GSt → Prop) (Q : Int32 → GSt → Prop) (x1 : Int32) (x2 : Int32) (x3 : Int32) (x4 : Int32) (x5 : Int32) (x6 : Int32) (σ : GSt) : Prop :=
  vp_in x1 9 ∧ (((σ 241 (Int32.toNatClampNeg x1)) ≤ x6 → (0 ≤ x4 → D_X11_out (Int32.toInt64 x3) 0 9 σ (fun r_1 σ_2 => (¬ r_1 = 0 → D_X11_change_125 Q x1 x3 x4 r_1 σ_2) ∧
  (r_1 = 0 → (¬ (σ_2 237 20) = 8 → D_X11_change_125 Q x1 x3 x4 r_1 σ_2) ∧
  ((σ_2 237 20) = 8 → D_X11_change_125 Q x1 x3 x4 (-6) σ_2)))) ∧
  (¬ 0 ≤ x4 → D_X11_no (-1) σ (fun r_3 σ_4 => Q r_3 σ_4))) ∧
  (¬ (σ 241 (Int32.toNatClampNeg x1)) ≤ x6 → vp_in ((90 * x1) + x6) 810 ∧ (D_X11_isIn (Int32.toInt64 (σ 240 (Int32.toNatClampNeg ((90 * x1) + x6)))) 48 57 σ (fun r_5 σ_6 => (¬ r_5 = 0 → (¬ x5 = x2 → D_X11_change_76 K27 Q x1 x2 x3 x4 x5 x6 σ_6) ∧
  (x5 = x2 → D_X11_change_76 K27 Q x1 x2 x3 x6 x5 x6 σ_6)) ∧
  (r_5 = 0 → D_X11_change_79 K27 Q x1 x2 x3 x4 x5 x6 σ_6)))))
def L_X11_change_27 (Q : Int32 → GSt → Prop) : Nat → Int32 → Int32 → Int32 → Int32 → Int32 → Int32 → GSt → Prop
  | 0 => fun _ _ _ _ _ _ _ => False
  | n + 1 => fun x1 x2 x3 x4 x5 x6 σ => D_X11_change_27 (L_X11_change_27 Q n) Q x1 x2 x3 x4 x5 x6 σ
def D_X11_change_12 (Q : Int32 → GSt → Prop) (σ : GSt) : Prop :=
  D_X11_no (-1) σ (fun r_1 σ_2 => Q r_1 σ_2)
def D_X11_change_0 (Q : Int32 → GSt → Prop) (x1 : Int32) (x2 : Int32) (x3 : Int32) (σ : GSt) : Prop :=
  D_X11_isGame x1 σ (fun r_1 σ_2 => (r_1 = 0 → D_X11_change_12 Q σ_2) ∧
  (¬ r_1 = 0 → (0 ≤ x2 → ∃ n : Nat, L_X11_change_27 Q n x1 x2 x3 (-1) 0 0 σ_2) ∧
  (¬ 0 ≤ x2 → D_X11_change_12 Q σ_2)))
def D_X11_change (x1 : Int32) (x2 : Int32) (x3 : Int32) (σ : GSt) (Q : Int32 → GSt → Prop) : Prop := D_X11_change_0 Q x1 x2 x3 σ
set_option maxRecDepth 20000 in
set_option maxHeartbeats 4000000 in
theorem s_X11_change_125 {p : Program} {l : Launch} {e : Env} {s : State} {m : MethodId} {args : Array Value} {below : List Frame} {meth : Method} {c : Code} {G : GC} (X : CallFix p m c cm_X11_change 7 s args lw_us "GameLoomModel") (hr : meth.sig.returnType = some .int) (hlk : meth.locks = false) (Q : Int32 → GSt → Prop) (x1 : Int32) (x3 : Int32) (x4 : Int32) (x6 : Int32) (σ : GSt) {H : Heap} {locs : List Loc} {ls : Array Slot} (hw : Wo G s H locs σ) (hl : lv_has ls 7 [(0, .ref (G.2.1 237)), (1, .int x1), (3, .int x3), (4, .int x4), (6, .int x6)]) (hD : D_X11_change_125 Q x1 x3 x4 x6 σ) : W p l e rm_X11_change s m args below meth c H locs 0 0 (QMI G Q below args s) (F0 m 125 ls []) := by
  unfold D_X11_change_125 at hD
  refine lv_iload X.1 X.2.1 d_X11_change_125 (lv_at hl 4 rfl) ?_
  refine lv_if_eq (tgt := 137) X.1 X.2.1 d_X11_change_127 (by decide) (fun q_127 => ?_) (fun q_127 => ?_)
  · have hD := hD.1 q_127
    refine lv_aload_n X.1 X.2.1 d_X11_change_137 rfl (lv_at hl 0 rfl) ?_
    refine gcV_v (rest := []) (As := []) (o := 237) X hw (c_X11_starts l G  σ _  hD) (kd_lt (by decide +kernel : kd 237 = 11) (by decide)) (ce_11 G _ (by decide +kernel : kd 237 = 11)) rfl tb_1093 tb_1095 tv_36 tb_12 tb_1096 hd_X11_starts ⟨rfl, rfl⟩ ⟨Nat.le_of_ble_eq_true rfl, Nat.le_of_ble_eq_true rfl⟩ rfl hl.1 rfl (Nat.le_of_ble_eq_true rfl) d_X11_change_138 (fun σ_1 H locs hD hw => ?_)
    refine lv_aload_n X.1 X.2.1 d_X11_change_141 rfl (lv_at hl 0 rfl) ?_
    refine lv_iload_n X.1 X.2.1 d_X11_change_142 rfl (lv_at hl 1 rfl) ?_
    refine lv_iconst (v := 0) X.1 X.2.1 d_X11_change_143 (by decide) ?_
    refine lv_aload_n X.1 X.2.1 d_X11_change_144 rfl (lv_at hl 0 rfl) ?_
    refine gf_11_3 X hw (by decide +kernel : kd 237 = 11) tb_909 d_X11_change_145 ?_
    refine lv_iload_n X.1 X.2.1 d_X11_change_148 rfl (lv_at hl 1 rfl) ?_
    obtain ⟨q_149, hD⟩ := hD
    refine g_iald X hw ly_11_3.1 ly_11_3.2 q_149 d_X11_change_149 ?_
    refine gcV_v (rest := []) (As := [.int x1, .int 0, .int (σ_1 241 (Int32.toNatClampNeg x1))]) (o := 237) X hw (c_X11_addsFrom l G x1 0 (σ_1 241 (Int32.toNatClampNeg x1)) σ_1 _  hD) (kd_lt (by decide +kernel : kd 237 = 11) (by decide)) (ce_11 G _ (by decide +kernel : kd 237 = 11)) rfl tb_1332 tb_1334 tv_77 tb_12 tb_1335 hd_X11_addsFrom ⟨rfl, rfl⟩ ⟨Nat.le_of_ble_eq_true rfl, Nat.le_of_ble_eq_true rfl⟩ rfl hl.1 rfl (Nat.le_of_ble_eq_true rfl) d_X11_change_150 (fun σ_2 H locs hD hw => ?_)
    refine lv_aload_n X.1 X.2.1 d_X11_change_153 rfl (lv_at hl 0 rfl) ?_
    refine gf_11_2 X hw (by decide +kernel : kd 237 = 11) tb_908 d_X11_change_154 ?_
    refine lv_sipush (v := 720) X.1 X.2.1 d_X11_change_157 (by decide) ?_
    refine lv_iload X.1 X.2.1 d_X11_change_160 (lv_at hl 3 rfl) ?_
    refine lv_iadd X.1 X.2.1 d_X11_change_162 ?_
    refine lv_bipush (v := 48) X.1 X.2.1 d_X11_change_163 (by decide) ?_
    refine lv_iload_n X.1 X.2.1 d_X11_change_165 rfl (lv_at hl 2 rfl) ?_
    refine lv_iadd X.1 X.2.1 d_X11_change_166 ?_
    obtain ⟨q_167, hD⟩ := hD
    refine g_iast X hw ly_11_2.1 ly_11_2.2 q_167 d_X11_change_167 (fun H locs hw => ?_)
    obtain ⟨σ_3, e_σ_3⟩ : ∃ z : GSt, z = up2 σ_2 240 (Int32.toNatClampNeg (720 + x4)) (48 + x3) := ⟨_, rfl⟩
    rw [← e_σ_3] at hw
    have hD := hD σ_3 e_σ_3
    refine lv_aload_n X.1 X.2.1 d_X11_change_168 rfl (lv_at hl 0 rfl) ?_
    refine gcV_i (rest := []) (As := []) (o := 237) X hw (c_X11_grown l G  σ_3 _  hD) (kd_lt (by decide +kernel : kd 237 = 11) (by decide)) (ce_11 G _ (by decide +kernel : kd 237 = 11)) rfl tb_1101 tb_1103 tv_38 tb_12 tb_1104 hd_X11_grown ⟨rfl, rfl⟩ ⟨Nat.le_of_ble_eq_true rfl, Nat.le_of_ble_eq_true rfl⟩ rfl hl.1 rfl (Nat.le_of_ble_eq_true rfl) d_X11_change_169 (fun r_4 σ_5 H locs hD hw => ?_)
    exact g_iret X hr hlk hw hD d_X11_change_172
  · have hD := hD.2 q_127
    refine lv_aload_n X.1 X.2.1 d_X11_change_130 rfl (lv_at hl 0 rfl) ?_
    refine lv_iload X.1 X.2.1 d_X11_change_131 (lv_at hl 4 rfl) ?_
    refine gcV_i (rest := []) (As := [.int x6]) (o := 237) X hw (c_X11_no l G x6 σ _  hD) (kd_lt (by decide +kernel : kd 237 = 11) (by decide)) (ce_11 G _ (by decide +kernel : kd 237 = 11)) rfl tb_1084 tb_1086 tv_35 tb_12 tb_1087 hd_X11_no ⟨rfl, rfl⟩ ⟨Nat.le_of_ble_eq_true rfl, Nat.le_of_ble_eq_true rfl⟩ rfl hl.1 rfl (Nat.le_of_ble_eq_true rfl) d_X11_change_133 (fun r_6 σ_7 H locs hD hw => ?_)
    exact g_iret X hr hlk hw hD d_X11_change_136
set_option maxRecDepth 20000 in
set_option maxHeartbeats 4000000 in
theorem s_X11_change_79 {p : Program} {l : Launch} {e : Env} {s : State} {m : MethodId} {args : Array Value} {below : List Frame} {meth : Method} {c : Code} {G : GC} (X : CallFix p m c cm_X11_change 7 s args lw_us "GameLoomModel") (hr : meth.sig.returnType = some .int) (hlk : meth.locks = false) (K27 : Int32 → Int32 → Int32 → Int32 → Int32 → Int32 → GSt → Prop) (Q : Int32 → GSt → Prop) (hK27 : ∀ (x1 : Int32) (x2 : Int32) (x3 : Int32) (x4 : Int32) (x5 : Int32) (x6 : Int32) (σ : GSt) (H : Heap) (locs : List Loc) (ls : Array Slot), Wo G s H locs σ → lv_has ls 7 [(0, .ref (G.2.1 237)), (1, .int x1), (2, .int x2), (3, .int x3), (4, .int x4), (5, .int x5), (6, .int x6)] → K27 x1 x2 x3 x4 x5 x6 σ → W p l e rm_X11_change s m args below meth c H locs 0 0 (QMI G Q below args s) (F0 m 27 ls [])) (x1 : Int32) (x2 : Int32) (x3 : Int32) (x4 : Int32) (x5 : Int32) (x6 : Int32) (σ : GSt) {H : Heap} {locs : List Loc} {ls : Array Slot} (hw : Wo G s H locs σ) (hl : lv_has ls 7 [(0, .ref (G.2.1 237)), (1, .int x1), (2, .int x2), (3, .int x3), (4, .int x4), (5, .int x5), (6, .int x6)]) (hD : D_X11_change_79 K27 Q x1 x2 x3 x4 x5 x6 σ) : W p l e rm_X11_change s m args below meth c H locs 0 0 (QMI G Q below args s) (F0 m 79 ls []) := by
  unfold D_X11_change_79 at hD
  obtain ⟨x6_1, e_x6_1⟩ : ∃ y : Int32, y = x6 + 1 := ⟨_, rfl⟩
  have hD := hD x6_1 e_x6_1
  refine lv_iinc (v := x6_1) (lv' := [(6, .int x6_1), (0, .ref (G.2.1 237)), (1, .int x1), (2, .int x2), (3, .int x3), (4, .int x4), (5, .int x5)]) X.1 X.2.1 d_X11_change_79 hl (k := 6) rfl (by rw [e_x6_1]; rfl) (by decide) rfl (fun ls hl => ?_)
  refine lv_goto (tgt := 27) X.1 X.2.1 d_X11_change_82 (by decide) ?_
  exact hK27 x1 x2 x3 x4 x5 x6_1 σ _ _ _  hw (lv_sub hl [1, 2, 3, 4, 5, 6, 0] rfl) hD
set_option maxRecDepth 20000 in
set_option maxHeartbeats 4000000 in
theorem s_X11_change_76 {p : Program} {l : Launch} {e : Env} {s : State} {m : MethodId} {args : Array Value} {below : List Frame} {meth : Method} {c : Code} {G : GC} (X : CallFix p m c cm_X11_change 7 s args lw_us "GameLoomModel") (hr : meth.sig.returnType = some .int) (hlk : meth.locks = false) (K27 : Int32 → Int32 → Int32 → Int32 → Int32 → Int32 → GSt → Prop) (Q : Int32 → GSt → Prop) (hK27 : ∀ (x1 : Int32) (x2 : Int32) (x3 : Int32) (x4 : Int32) (x5 : Int32) (x6 : Int32) (σ : GSt) (H : Heap) (locs : List Loc) (ls : Array Slot), Wo G s H locs σ → lv_has ls 7 [(0, .ref (G.2.1 237)), (1, .int x1), (2, .int x2), (3, .int x3), (4, .int x4), (5, .int x5), (6, .int x6)] → K27 x1 x2 x3 x4 x5 x6 σ → W p l e rm_X11_change s m args below meth c H locs 0 0 (QMI G Q below args s) (F0 m 27 ls [])) (x1 : Int32) (x2 : Int32) (x3 : Int32) (x4 : Int32) (x5 : Int32) (x6 : Int32) (σ : GSt) {H : Heap} {locs : List Loc} {ls : Array Slot} (hw : Wo G s H locs σ) (hl : lv_has ls 7 [(0, .ref (G.2.1 237)), (1, .int x1), (2, .int x2), (3, .int x3), (4, .int x4), (5, .int x5), (6, .int x6)]) (hD : D_X11_change_76 K27 Q x1 x2 x3 x4 x5 x6 σ) : W p l e rm_X11_change s m args below meth c H locs 0 0 (QMI G Q below args s) (F0 m 76 ls []) := by
  unfold D_X11_change_76 at hD
  obtain ⟨x5_1, e_x5_1⟩ : ∃ y : Int32, y = x5 + 1 := ⟨_, rfl⟩
  have hD := hD x5_1 e_x5_1
  refine lv_iinc (v := x5_1) (lv' := [(5, .int x5_1), (0, .ref (G.2.1 237)), (1, .int x1), (2, .int x2), (3, .int x3), (4, .int x4), (6, .int x6)]) X.1 X.2.1 d_X11_change_76 hl (k := 5) rfl (by rw [e_x5_1]; rfl) (by decide) rfl (fun ls hl => ?_)
  exact s_X11_change_79 X hr hlk K27 Q hK27 x1 x2 x3 x4 x5_1 x6 σ hw (lv_sub hl [1, 2, 3, 4, 5, 0, 6] rfl) hD
set_option maxRecDepth 20000 in
set_option maxHeartbeats 4000000 in
theorem s_X11_change_27 {p : Program} {l : Launch} {e : Env} {s : State} {m : MethodId} {args : Array Value} {below : List Frame} {meth : Method} {c : Code} {G : GC} (X : CallFix p m c cm_X11_change 7 s args lw_us "GameLoomModel") (hr : meth.sig.returnType = some .int) (hlk : meth.locks = false) (K27 : Int32 → Int32 → Int32 → Int32 → Int32 → Int32 → GSt → Prop) (Q : Int32 → GSt → Prop) (hK27 : ∀ (x1 : Int32) (x2 : Int32) (x3 : Int32) (x4 : Int32) (x5 : Int32) (x6 : Int32) (σ : GSt) (H : Heap) (locs : List Loc) (ls : Array Slot), Wo G s H locs σ → lv_has ls 7 [(0, .ref (G.2.1 237)), (1, .int x1), (2, .int x2), (3, .int x3), (4, .int x4), (5, .int x5), (6, .int x6)] → K27 x1 x2 x3 x4 x5 x6 σ → W p l e rm_X11_change s m args below meth c H locs 0 0 (QMI G Q below args s) (F0 m 27 ls [])) (x1 : Int32) (x2 : Int32) (x3 : Int32) (x4 : Int32) (x5 : Int32) (x6 : Int32) (σ : GSt) {H : Heap} {locs : List Loc} {ls : Array Slot} (hw : Wo G s H locs σ) (hl : lv_has ls 7 [(0, .ref (G.2.1 237)), (1, .int x1), (2, .int x2), (3, .int x3), (4, .int x4), (5, .int x5), (6, .int x6)]) (hD : D_X11_change_27 K27 Q x1 x2 x3 x4 x5 x6 σ) : W p l e rm_X11_change s m args below meth c H locs 0 0 (QMI G Q below args s) (F0 m 27 ls []) := by
  unfold D_X11_change_27 at hD
  refine lv_iload X.1 X.2.1 d_X11_change_27 (lv_at hl 6 rfl) ?_
  refine lv_aload_n X.1 X.2.1 d_X11_change_29 rfl (lv_at hl 0 rfl) ?_
  refine gf_11_3 X hw (by decide +kernel : kd 237 = 11) tb_909 d_X11_change_30 ?_
  refine lv_iload_n X.1 X.2.1 d_X11_change_33 rfl (lv_at hl 1 rfl) ?_
  obtain ⟨q_34, hD⟩ := hD
  refine g_iald X hw ly_11_3.1 ly_11_3.2 q_34 d_X11_change_34 ?_
  refine lv_icmp_ge (tgt := 85) X.1 X.2.1 d_X11_change_35 (by decide) (fun q_35 => ?_) (fun q_35 => ?_)
  · have hD := hD.1 q_35
    refine lv_iload X.1 X.2.1 d_X11_change_85 (lv_at hl 4 rfl) ?_
    refine lv_if_ge (tgt := 96) X.1 X.2.1 d_X11_change_87 (by decide) (fun q_87 => ?_) (fun q_87 => ?_)
    · have hD := hD.1 q_87
      refine lv_iload_n X.1 X.2.1 d_X11_change_96 rfl (lv_at hl 3 rfl) ?_
      refine lv_i2l (v := (Int32.toInt64 x3)) X.1 X.2.1 d_X11_change_97 rfl ?_
      refine lv_lconst (v := 0) X.1 X.2.1 d_X11_change_98 (by decide) ?_
      refine lv_ldc2 (v := 9) X.1 X.2.1 X.2.2.2.1 (X.2.2.2.2 _ tb_1358) d_X11_change_99 ?_
      refine gcS_i (rest := []) (As := [.long (Int32.toInt64 x3), .long 0, .long 9]) X hw (c_X11_out l G (Int32.toInt64 x3) 0 9 σ _  hD) tb_1081 tb_1082 tb_12 tb_1083 hd_X11_out ⟨rfl, rfl⟩ ⟨Nat.le_of_ble_eq_true rfl, Nat.le_of_ble_eq_true rfl⟩ rfl hl.1 rfl (Nat.le_of_ble_eq_true rfl) d_X11_change_102 (fun r_1 σ_2 H locs hD hw => ?_)
      refine lv_istore (lv' := [(6, .int r_1), (0, .ref (G.2.1 237)), (1, .int x1), (2, .int x2), (3, .int x3), (4, .int x4), (5, .int x5)]) X.1 X.2.1 d_X11_change_105 hl (by decide) rfl (fun ls hl => ?_)
      refine lv_iload X.1 X.2.1 d_X11_change_107 (lv_at hl 0 rfl) ?_
      refine lv_if_ne (tgt := 125) X.1 X.2.1 d_X11_change_109 (by decide) (fun q_109 => ?_) (fun q_109 => ?_)
      · have hD := hD.1 q_109
        exact s_X11_change_125 X hr hlk  Q  x1 x3 x4 r_1 σ_2 hw (lv_sub hl [1, 2, 4, 5, 0] rfl) hD
      · have hD := hD.2 q_109
        refine lv_aload_n X.1 X.2.1 d_X11_change_112 rfl (lv_at hl 1 rfl) ?_
        refine gf_11_20 X hw (by decide +kernel : kd 237 = 11) tb_926 d_X11_change_113 ?_
        refine lv_bipush (v := 8) X.1 X.2.1 d_X11_change_116 (by decide) ?_
        refine lv_icmp_ne (tgt := 125) X.1 X.2.1 d_X11_change_118 (by decide) (fun q_118 => ?_) (fun q_118 => ?_)
        · have hD := hD.1 q_118
          exact s_X11_change_125 X hr hlk  Q  x1 x3 x4 r_1 σ_2 hw (lv_sub hl [1, 2, 4, 5, 0] rfl) hD
        · have hD := hD.2 q_118
          refine lv_bipush (v := (-6)) X.1 X.2.1 d_X11_change_121 (by decide) ?_
          refine lv_istore (lv' := [(6, .int (-6)), (0, .ref (G.2.1 237)), (1, .int x1), (2, .int x2), (3, .int x3), (4, .int x4), (5, .int x5)]) X.1 X.2.1 d_X11_change_123 hl (by decide) rfl (fun ls hl => ?_)
          exact s_X11_change_125 X hr hlk  Q  x1 x3 x4 (-6) σ_2 hw (lv_sub hl [1, 2, 4, 5, 0] rfl) hD
    · have hD := hD.2 q_87
      refine lv_aload_n X.1 X.2.1 d_X11_change_90 rfl (lv_at hl 0 rfl) ?_
      refine lv_iconst (v := (-1)) X.1 X.2.1 d_X11_change_91 (by decide) ?_
      refine gcV_i (rest := []) (As := [.int (-1)]) (o := 237) X hw (c_X11_no l G (-1) σ _  hD) (kd_lt (by decide +kernel : kd 237 = 11) (by decide)) (ce_11 G _ (by decide +kernel : kd 237 = 11)) rfl tb_1084 tb_1086 tv_35 tb_12 tb_1087 hd_X11_no ⟨rfl, rfl⟩ ⟨Nat.le_of_ble_eq_true rfl, Nat.le_of_ble_eq_true rfl⟩ rfl hl.1 rfl (Nat.le_of_ble_eq_true rfl) d_X11_change_92 (fun r_3 σ_4 H locs hD hw => ?_)
      exact g_iret X hr hlk hw hD d_X11_change_95
  · have hD := hD.2 q_35
    refine lv_aload_n X.1 X.2.1 d_X11_change_38 rfl (lv_at hl 0 rfl) ?_
    refine gf_11_2 X hw (by decide +kernel : kd 237 = 11) tb_908 d_X11_change_39 ?_
    refine lv_bipush (v := 90) X.1 X.2.1 d_X11_change_42 (by decide) ?_
    refine lv_iload_n X.1 X.2.1 d_X11_change_44 rfl (lv_at hl 1 rfl) ?_
    refine lv_imul X.1 X.2.1 d_X11_change_45 ?_
    refine lv_iload X.1 X.2.1 d_X11_change_46 (lv_at hl 6 rfl) ?_
    refine lv_iadd X.1 X.2.1 d_X11_change_48 ?_
    obtain ⟨q_49, hD⟩ := hD
    refine g_iald X hw ly_11_2.1 ly_11_2.2 q_49 d_X11_change_49 ?_
    refine lv_i2l (v := (Int32.toInt64 (σ 240 (Int32.toNatClampNeg ((90 * x1) + x6))))) X.1 X.2.1 d_X11_change_50 rfl ?_
    refine lv_ldc2 (v := 48) X.1 X.2.1 X.2.2.2.1 (X.2.2.2.2 _ tb_1356) d_X11_change_51 ?_
    refine lv_ldc2 (v := 57) X.1 X.2.1 X.2.2.2.1 (X.2.2.2.2 _ tb_1357) d_X11_change_54 ?_
    refine gcS_i (rest := []) (As := [.long (Int32.toInt64 (σ 240 (Int32.toNatClampNeg ((90 * x1) + x6)))), .long 48, .long 57]) X hw (c_X11_isIn l G (Int32.toInt64 (σ 240 (Int32.toNatClampNeg ((90 * x1) + x6)))) 48 57 σ _  hD) tb_1125 tb_1126 tb_12 tb_1127 hd_X11_isIn ⟨rfl, rfl⟩ ⟨Nat.le_of_ble_eq_true rfl, Nat.le_of_ble_eq_true rfl⟩ rfl hl.1 rfl (Nat.le_of_ble_eq_true rfl) d_X11_change_57 (fun r_5 σ_6 H locs hD hw => ?_)
    refine lv_if_ne (tgt := 66) X.1 X.2.1 d_X11_change_60 (by decide) (fun q_60 => ?_) (fun q_60 => ?_)
    · have hD := hD.1 q_60
      refine lv_iload X.1 X.2.1 d_X11_change_66 (lv_at hl 5 rfl) ?_
      refine lv_iload_n X.1 X.2.1 d_X11_change_68 rfl (lv_at hl 2 rfl) ?_
      refine lv_icmp_ne (tgt := 76) X.1 X.2.1 d_X11_change_69 (by decide) (fun q_69 => ?_) (fun q_69 => ?_)
      · have hD := hD.1 q_69
        exact s_X11_change_76 X hr hlk K27 Q hK27 x1 x2 x3 x4 x5 x6 σ_6 hw (lv_sub hl [0, 1, 2, 3, 4, 5, 6] rfl) hD
      · have hD := hD.2 q_69
        refine lv_iload X.1 X.2.1 d_X11_change_72 (lv_at hl 6 rfl) ?_
        refine lv_istore (lv' := [(4, .int x6), (0, .ref (G.2.1 237)), (1, .int x1), (2, .int x2), (3, .int x3), (5, .int x5), (6, .int x6)]) X.1 X.2.1 d_X11_change_74 hl (by decide) rfl (fun ls hl => ?_)
        exact s_X11_change_76 X hr hlk K27 Q hK27 x1 x2 x3 x6 x5 x6 σ_6 hw (lv_sub hl [1, 2, 3, 4, 0, 5, 6] rfl) hD
    · have hD := hD.2 q_60
      refine lv_goto (tgt := 79) X.1 X.2.1 d_X11_change_63 (by decide) ?_
      exact s_X11_change_79 X hr hlk K27 Q hK27 x1 x2 x3 x4 x5 x6 σ_6 hw (lv_sub hl [0, 1, 2, 3, 4, 5, 6] rfl) hD
set_option maxRecDepth 20000 in
set_option maxHeartbeats 4000000 in
theorem sl_X11_change_27 {p : Program} {l : Launch} {e : Env} {s : State} {m : MethodId} {args : Array Value} {below : List Frame} {meth : Method} {c : Code} {G : GC} (X : CallFix p m c cm_X11_change 7 s args lw_us "GameLoomModel") (hr : meth.sig.returnType = some .int) (hlk : meth.locks = false) (Q : Int32 → GSt → Prop) : ∀ (nn : Nat), ∀ (x1 : Int32) (x2 : Int32) (x3 : Int32) (x4 : Int32) (x5 : Int32) (x6 : Int32) (σ : GSt) (H : Heap) (locs : List Loc) (ls : Array Slot), Wo G s H locs σ → lv_has ls 7 [(0, .ref (G.2.1 237)), (1, .int x1), (2, .int x2), (3, .int x3), (4, .int x4), (5, .int x5), (6, .int x6)] → L_X11_change_27 Q nn x1 x2 x3 x4 x5 x6 σ → W p l e rm_X11_change s m args below meth c H locs 0 0 (QMI G Q below args s) (F0 m 27 ls []) := by
  intro nn
  induction nn with
  | zero => intro x1 x2 x3 x4 x5 x6 σ H locs ls  hw hl hD; exact hD.elim
  | succ nn ih =>
    intro x1 x2 x3 x4 x5 x6 σ H locs ls  hw hl hD
    exact s_X11_change_27 X hr hlk (L_X11_change_27 Q nn) Q ih x1 x2 x3 x4 x5 x6 σ hw hl hD
set_option maxRecDepth 20000 in
set_option maxHeartbeats 4000000 in
theorem s_X11_change_12 {p : Program} {l : Launch} {e : Env} {s : State} {m : MethodId} {args : Array Value} {below : List Frame} {meth : Method} {c : Code} {G : GC} (X : CallFix p m c cm_X11_change 7 s args lw_us "GameLoomModel") (hr : meth.sig.returnType = some .int) (hlk : meth.locks = false) (Q : Int32 → GSt → Prop) (σ : GSt) {H : Heap} {locs : List Loc} {ls : Array Slot} (hw : Wo G s H locs σ) (hl : lv_has ls 7 [(0, .ref (G.2.1 237))]) (hD : D_X11_change_12 Q σ) : W p l e rm_X11_change s m args below meth c H locs 0 0 (QMI G Q below args s) (F0 m 12 ls []) := by
  unfold D_X11_change_12 at hD
  refine lv_aload_n X.1 X.2.1 d_X11_change_12 rfl (lv_at hl 0 rfl) ?_
  refine lv_iconst (v := (-1)) X.1 X.2.1 d_X11_change_13 (by decide) ?_
  refine gcV_i (rest := []) (As := [.int (-1)]) (o := 237) X hw (c_X11_no l G (-1) σ _  hD) (kd_lt (by decide +kernel : kd 237 = 11) (by decide)) (ce_11 G _ (by decide +kernel : kd 237 = 11)) rfl tb_1084 tb_1086 tv_35 tb_12 tb_1087 hd_X11_no ⟨rfl, rfl⟩ ⟨Nat.le_of_ble_eq_true rfl, Nat.le_of_ble_eq_true rfl⟩ rfl hl.1 rfl (Nat.le_of_ble_eq_true rfl) d_X11_change_14 (fun r_1 σ_2 H locs hD hw => ?_)
  exact g_iret X hr hlk hw hD d_X11_change_17
set_option maxRecDepth 20000 in
set_option maxHeartbeats 4000000 in
theorem s_X11_change_0 {p : Program} {l : Launch} {e : Env} {s : State} {m : MethodId} {args : Array Value} {below : List Frame} {meth : Method} {c : Code} {G : GC} (X : CallFix p m c cm_X11_change 7 s args lw_us "GameLoomModel") (hr : meth.sig.returnType = some .int) (hlk : meth.locks = false) (Q : Int32 → GSt → Prop) (x1 : Int32) (x2 : Int32) (x3 : Int32) (σ : GSt) {H : Heap} {locs : List Loc} {ls : Array Slot} (hw : Wo G s H locs σ) (hl : lv_has ls 7 [(0, .ref (G.2.1 237)), (1, .int x1), (2, .int x2), (3, .int x3)]) (hD : D_X11_change_0 Q x1 x2 x3 σ) : W p l e rm_X11_change s m args below meth c H locs 0 0 (QMI G Q below args s) (F0 m 0 ls []) := by
  unfold D_X11_change_0 at hD
  refine lv_aload_n X.1 X.2.1 d_X11_change_0 rfl (lv_at hl 0 rfl) ?_
  refine lv_iload_n X.1 X.2.1 d_X11_change_1 rfl (lv_at hl 1 rfl) ?_
  refine gcV_i (rest := []) (As := [.int x1]) (o := 237) X hw (c_X11_isGame l G x1 σ _  hD) (kd_lt (by decide +kernel : kd 237 = 11) (by decide)) (ce_11 G _ (by decide +kernel : kd 237 = 11)) rfl tb_1144 tb_1146 tv_47 tb_12 tb_1147 hd_X11_isGame ⟨rfl, rfl⟩ ⟨Nat.le_of_ble_eq_true rfl, Nat.le_of_ble_eq_true rfl⟩ rfl hl.1 rfl (Nat.le_of_ble_eq_true rfl) d_X11_change_2 (fun r_1 σ_2 H locs hD hw => ?_)
  refine lv_if_eq (tgt := 12) X.1 X.2.1 d_X11_change_5 (by decide) (fun q_5 => ?_) (fun q_5 => ?_)
  · have hD := hD.1 q_5
    exact s_X11_change_12 X hr hlk  Q   σ_2 hw (lv_sub hl [0] rfl) hD
  · have hD := hD.2 q_5
    refine lv_iload_n X.1 X.2.1 d_X11_change_8 rfl (lv_at hl 2 rfl) ?_
    refine lv_if_ge (tgt := 18) X.1 X.2.1 d_X11_change_9 (by decide) (fun q_9 => ?_) (fun q_9 => ?_)
    · have hD := hD.1 q_9
      refine lv_iconst (v := (-1)) X.1 X.2.1 d_X11_change_18 (by decide) ?_
      refine lv_istore (lv' := [(4, .int (-1)), (0, .ref (G.2.1 237)), (1, .int x1), (2, .int x2), (3, .int x3)]) X.1 X.2.1 d_X11_change_19 hl (by decide) rfl (fun ls hl => ?_)
      refine lv_iconst (v := 0) X.1 X.2.1 d_X11_change_21 (by decide) ?_
      refine lv_istore (lv' := [(5, .int 0), (4, .int (-1)), (0, .ref (G.2.1 237)), (1, .int x1), (2, .int x2), (3, .int x3)]) X.1 X.2.1 d_X11_change_22 hl (by decide) rfl (fun ls hl => ?_)
      refine lv_iconst (v := 0) X.1 X.2.1 d_X11_change_24 (by decide) ?_
      refine lv_istore (lv' := [(6, .int 0), (5, .int 0), (4, .int (-1)), (0, .ref (G.2.1 237)), (1, .int x1), (2, .int x2), (3, .int x3)]) X.1 X.2.1 d_X11_change_25 hl (by decide) rfl (fun ls hl => ?_)
      obtain ⟨n9, hD⟩ := hD
      exact sl_X11_change_27 X hr hlk  Q  n9 x1 x2 x3 (-1) 0 0 σ_2 _ _ _  hw (lv_sub hl [3, 4, 5, 6, 2, 1, 0] rfl) hD
    · have hD := hD.2 q_9
      exact s_X11_change_12 X hr hlk  Q   σ_2 hw (lv_sub hl [0] rfl) hD
theorem c_X11_change (l : Launch) (G : GC) (x1 : Int32) (x2 : Int32) (x3 : Int32) (σ : GSt) (Q : Int32 → GSt → Prop)  (hD : D_X11_change x1 x2 x3 σ Q) : MI l ym_X11_change cm_X11_change 7 .int rm_X11_change G σ [.ref (G.2.1 237), .int x1, .int x2, .int x3] Q := by
  refine met_i (by decide) (Nat.le_of_ble_eq_true rfl) ?_
  intro p e s m args below meth c X hr hlk hw ls hl
  exact s_X11_change_0 X hr hlk Q  x1 x2 x3 σ hw (lv_sub hl [0, 1, 2, 3] rfl) hD
