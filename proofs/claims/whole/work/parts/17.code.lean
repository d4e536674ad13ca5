theorem hd_X10_isNoGame : ym_X10_isNoGame.cls = "GameLoom" ∧ ym_X10_isNoGame.cls ≠ "java/lang/invoke/MethodHandle" ∧ ym_X10_isNoGame.cls ≠ "java/lang/invoke/VarHandle" ∧ (parseMethodDescriptor ym_X10_isNoGame.desc).map (fun d => d.parameters.length) = some 1 := by decide +kernel
abbrev rm_X10_isNoGame : Room := { frames := 0, cells := 0, slots := 0, locals := 0 }
theorem d_X10_isNoGame_0 : decode cm_X10_isNoGame 0 = .ok (.iload_n 1, 1) := by decide +kernel
theorem d_X10_isNoGame_1 : decode cm_X10_isNoGame 1 = .ok (.ifCond .lt 11, 3) := by decide +kernel
theorem d_X10_isNoGame_4 : decode cm_X10_isNoGame 4 = .ok (.iload_n 1, 1) := by decide +kernel
theorem d_X10_isNoGame_5 : decode cm_X10_isNoGame 5 = .ok (.aload_n 0, 1) := by decide +kernel
theorem d_X10_isNoGame_6 : decode cm_X10_isNoGame 6 = .ok (.getfield 92, 3) := by decide +kernel
theorem d_X10_isNoGame_9 : decode cm_X10_isNoGame 9 = .ok (.if_icmp .lt 7, 3) := by decide +kernel
theorem d_X10_isNoGame_12 : decode cm_X10_isNoGame 12 = .ok (.iconst 1, 1) := by decide +kernel
theorem d_X10_isNoGame_13 : decode cm_X10_isNoGame 13 = .ok (.goto 4, 3) := by decide +kernel
theorem d_X10_isNoGame_16 : decode cm_X10_isNoGame 16 = .ok (.iconst 0, 1) := by decide +kernel
theorem d_X10_isNoGame_17 : decode cm_X10_isNoGame 17 = .ok (.ireturn, 1) := by decide +kernel
def D_X10_isNoGame_12 (Q : Int32 → GSt → Prop) (σ : GSt) : Prop :=
  Q 1 σ
def D_X10_isNoGame_0 (Q : Int32 → GSt → Prop) (x1 : Int32) (σ : GSt) : Prop :=
  (x1 < 0 → D_X10_isNoGame_12 Q σ) ∧
  (¬ x1 < 0 → (x1 < (σ 0 4) → Q 0 σ) ∧
  (¬ x1 < (σ 0 4) → D_X10_isNoGame_12 Q σ))
def D_X10_isNoGame (x1 : Int32) (σ : GSt) (Q : Int32 → GSt → Prop) : Prop := D_X10_isNoGame_0 Q x1 σ
set_option maxRecDepth 20000 in
set_option maxHeartbeats 4000000 in
theorem s_X10_isNoGame_12 {p : Program} {l : Launch} {e : Env} {s : State} {m : MethodId} {args : Array Value} {below : List Frame} {meth : Method} {c : Code} {G : GC} (X : CallFix p m c cm_X10_isNoGame 2 s args lw_us "GameLoom") (hr : meth.sig.returnType = some .boolean) (hlk : meth.locks = false) (Q : Int32 → GSt → Prop) (σ : GSt) {H : Heap} {locs : List Loc} {ls : Array Slot} (hw : Wo G s H locs σ) (hl : lv_has ls 2 [(0, .ref (G.2.1 0))]) (hD : D_X10_isNoGame_12 Q σ) : W p l e rm_X10_isNoGame s m args below meth c H locs 0 0 (QMI G Q below args s) (F0 m 12 ls []) := by
  unfold D_X10_isNoGame_12 at hD
  refine lv_iconst (v := 1) X.1 X.2.1 d_X10_isNoGame_12 (by decide) ?_
  refine lv_goto (tgt := 17) X.1 X.2.1 d_X10_isNoGame_13 (by decide) ?_
  exact g_zret X hr hlk hw (by decide) hD d_X10_isNoGame_17
set_option maxRecDepth 20000 in
set_option maxHeartbeats 4000000 in
theorem s_X10_isNoGame_0 {p : Program} {l : Launch} {e : Env} {s : State} {m : MethodId} {args : Array Value} {below : List Frame} {meth : Method} {c : Code} {G : GC} (X : CallFix p m c cm_X10_isNoGame 2 s args lw_us "GameLoom") (hr : meth.sig.returnType = some .boolean) (hlk : meth.locks = false) (Q : Int32 → GSt → Prop) (x1 : Int32) (σ : GSt) {H : Heap} {locs : List Loc} {ls : Array Slot} (hw : Wo G s H locs σ) (hl : lv_has ls 2 [(0, .ref (G.2.1 0)), (1, .int x1)]) (hD : D_X10_isNoGame_0 Q x1 σ) : W p l e rm_X10_isNoGame s m args below meth c H locs 0 0 (QMI G Q below args s) (F0 m 0 ls []) := by
  unfold D_X10_isNoGame_0 at hD
  refine lv_iload_n X.1 X.2.1 d_X10_isNoGame_0 rfl (lv_at hl 1 rfl) ?_
  refine lv_if_lt (tgt := 12) X.1 X.2.1 d_X10_isNoGame_1 (by decide) (fun q_1 => ?_) (fun q_1 => ?_)
  · have hD := hD.1 q_1
    exact s_X10_isNoGame_12 X hr hlk  Q   σ hw (lv_sub hl [0] rfl) hD
  · have hD := hD.2 q_1
    refine lv_iload_n X.1 X.2.1 d_X10_isNoGame_4 rfl (lv_at hl 1 rfl) ?_
    refine lv_aload_n X.1 X.2.1 d_X10_isNoGame_5 rfl (lv_at hl 0 rfl) ?_
    refine gf_10_4 X hw (by decide +kernel : kd 0 = 10) tb_377 d_X10_isNoGame_6 ?_
    refine lv_icmp_lt (tgt := 16) X.1 X.2.1 d_X10_isNoGame_9 (by decide) (fun q_9 => ?_) (fun q_9 => ?_)
    · have hD := hD.1 q_9
      refine lv_iconst (v := 0) X.1 X.2.1 d_X10_isNoGame_16 (by decide) ?_
      exact g_zret X hr hlk hw (by decide) hD d_X10_isNoGame_17
    · have hD := hD.2 q_9
      exact s_X10_isNoGame_12 X hr hlk  Q   σ hw (lv_sub hl [0] rfl) hD
theorem c_X10_isNoGame (l : Launch) (G : GC) (x1 : Int32) (σ : GSt) (Q : Int32 → GSt → Prop)  (hD : D_X10_isNoGame x1 σ Q) : MI l ym_X10_isNoGame cm_X10_isNoGame 2 .boolean rm_X10_isNoGame G σ [.ref (G.2.1 0), .int x1] Q := by
  refine met_i (by decide) (Nat.le_of_ble_eq_true rfl) ?_
  intro p e s m args below meth c X hr hlk hw ls hl
  exact s_X10_isNoGame_0 X hr hlk Q  x1 σ hw (lv_sub hl [0, 1] rfl) hD
theorem hd_X10_of : ym_X10_of.cls = "GameLoom" ∧ ym_X10_of.cls ≠ "java/lang/invoke/MethodHandle" ∧ ym_X10_of.cls ≠ "java/lang/invoke/VarHandle" ∧ (parseMethodDescriptor ym_X10_of.desc).map (fun d => d.parameters.length) = some 2 := by decide +kernel
abbrev rm_X10_of : Room := { frames := 1, cells := 0, slots := 0, locals := 24 }
theorem d_X10_of_0 : decode cm_X10_of 0 = .ok (.aload_n 0, 1) := by decide +kernel
theorem d_X10_of_1 : decode cm_X10_of 1 = .ok (.iload_n 1, 1) := by decide +kernel
theorem d_X10_of_2 : decode cm_X10_of 2 = .ok (.invokevirtual 99, 3) := by decide +kernel
theorem d_X10_of_5 : decode cm_X10_of 5 = .ok (.ifCond .eq 9, 3) := by decide +kernel
theorem d_X10_of_8 : decode cm_X10_of 8 = .ok (.aload_n 0, 1) := by decide +kernel
theorem d_X10_of_9 : decode cm_X10_of 9 = .ok (.iconst (-1), 1) := by decide +kernel
theorem d_X10_of_10 : decode cm_X10_of 10 = .ok (.invokevirtual 80, 3) := by decide +kernel
theorem d_X10_of_13 : decode cm_X10_of 13 = .ok (.ireturn, 1) := by decide +kernel
theorem d_X10_of_14 : decode cm_X10_of 14 = .ok (.aload_n 0, 1) := by decide +kernel
theorem d_X10_of_15 : decode cm_X10_of 15 = .ok (.getfield 28, 3) := by decide +kernel
theorem d_X10_of_18 : decode cm_X10_of 18 = .ok (.iload_n 1, 1) := by decide +kernel
theorem d_X10_of_19 : decode cm_X10_of 19 = .ok (.aaload, 1) := by decide +kernel
theorem d_X10_of_20 : decode cm_X10_of 20 = .ok (.astore_n 3, 1) := by decide +kernel
theorem d_X10_of_21 : decode cm_X10_of 21 = .ok (.iload_n 2, 1) := by decide +kernel
theorem d_X10_of_22 : decode cm_X10_of 22 = .ok (.tableswitch 77 0 5 #[38, 46, 54, 59, 64, 72], 38) := by decide +kernel
theorem d_X10_of_60 : decode cm_X10_of 60 = .ok (.aload_n 3, 1) := by decide +kernel
theorem d_X10_of_61 : decode cm_X10_of 61 = .ok (.getfield 103, 3) := by decide +kernel
theorem d_X10_of_64 : decode cm_X10_of 64 = .ok (.getfield 107, 3) := by decide +kernel
theorem d_X10_of_67 : decode cm_X10_of 67 = .ok (.ireturn, 1) := by decide +kernel
theorem d_X10_of_68 : decode cm_X10_of 68 = .ok (.aload_n 3, 1) := by decide +kernel
theorem d_X10_of_69 : decode cm_X10_of 69 = .ok (.getfield 103, 3) := by decide +kernel
theorem d_X10_of_72 : decode cm_X10_of 72 = .ok (.getfield 112, 3) := by decide +kernel
theorem d_X10_of_75 : decode cm_X10_of 75 = .ok (.ireturn, 1) := by decide +kernel
theorem d_X10_of_76 : decode cm_X10_of 76 = .ok (.aload_n 3, 1) := by decide +kernel
theorem d_X10_of_77 : decode cm_X10_of 77 = .ok (.getfield 115, 3) := by decide +kernel
theorem d_X10_of_80 : decode cm_X10_of 80 = .ok (.ireturn, 1) := by decide +kernel
theorem d_X10_of_81 : decode cm_X10_of 81 = .ok (.aload_n 3, 1) := by decide +kernel
theorem d_X10_of_82 : decode cm_X10_of 82 = .ok (.getfield 118, 3) := by decide +kernel
theorem d_X10_of_85 : decode cm_X10_of 85 = .ok (.ireturn, 1) := by decide +kernel
theorem d_X10_of_86 : decode cm_X10_of 86 = .ok (.aload_n 3, 1) := by decide +kernel
theorem d_X10_of_87 : decode cm_X10_of 87 = .ok (.getfield 121, 3) := by decide +kernel
theorem d_X10_of_90 : decode cm_X10_of 90 = .ok (.getfield 84, 3) := by decide +kernel
theorem d_X10_of_93 : decode cm_X10_of 93 = .ok (.ireturn, 1) := by decide +kernel
theorem d_X10_of_94 : decode cm_X10_of 94 = .ok (.aload_n 3, 1) := by decide +kernel
theorem d_X10_of_95 : decode cm_X10_of 95 = .ok (.invokevirtual 122, 3) := by decide +kernel
theorem d_X10_of_98 : decode cm_X10_of 98 = .ok (.ireturn, 1) := by decide +kernel
theorem d_X10_of_99 : decode cm_X10_of 99 = .ok (.aload_n 0, 1) := by decide +kernel
theorem d_X10_of_100 : decode cm_X10_of 100 = .ok (.bipush (-2), 2) := by decide +kernel
theorem d_X10_of_102 : decode cm_X10_of 102 = .ok (.invokevirtual 80, 3) := by decide +kernel
theorem d_X10_of_105 : decode cm_X10_of 105 = .ok (.ireturn, 1) := by decide +kernel
def D_X10_of_0 (Q : Int32 → GSt → Prop) (x1 : Int32) (x2 : Int32) (σ : GSt) : Prop :=
  D_X10_isNoGame x1 σ (fun r_1 σ_2 => (r_1 = 0 → vp_in x1 8 ∧ (((x2 < 0 ∨ 5 < x2) → D_X10_refuse (-2) σ_2 (fun r_3 σ_4 => Q r_3 σ_4)) ∧
  (x2 = 0 → Q (σ_2 ((61 + 22 * Int32.toNatClampNeg x1) + 3) 0) σ_2) ∧
  (x2 = 1 → Q (σ_2 ((61 + 22 * Int32.toNatClampNeg x1) + 3) 1) σ_2) ∧
  (x2 = 2 → Q (σ_2 (61 + 22 * Int32.toNatClampNeg x1) 5) σ_2) ∧
  (x2 = 3 → Q (σ_2 (61 + 22 * Int32.toNatClampNeg x1) 7) σ_2) ∧
  (x2 = 4 → Q (σ_2 ((61 + 22 * Int32.toNatClampNeg x1) + 1) 1) σ_2) ∧
  (x2 = 5 → D_X1_falls (61 + 22 * Int32.toNatClampNeg x1) σ_2 (fun r_5 σ_6 => Q r_5 σ_6)))) ∧
  (¬ r_1 = 0 → D_X10_refuse (-1) σ_2 (fun r_7 σ_8 => Q r_7 σ_8)))
def D_X10_of (x1 : Int32) (x2 : Int32) (σ : GSt) (Q : Int32 → GSt → Prop) : Prop := D_X10_of_0 Q x1 x2 σ
set_option maxRecDepth 20000 in
set_option maxHeartbeats 4000000 in
theorem s_X10_of_0 {p : Program} {l : Launch} {e : Env} {s : State} {m : MethodId} {args : Array Value} {below : List Frame} {meth : Method} {c : Code} {G : GC} (X : CallFix p m c cm_X10_of 4 s args lw_us "GameLoom") (hr : meth.sig.returnType = some .int) (hlk : meth.locks = false) (Q : Int32 → GSt → Prop) (x1 : Int32) (x2 : Int32) (σ : GSt) {H : Heap} {locs : List Loc} {ls : Array Slot} (hw : Wo G s H locs σ) (hl : lv_has ls 4 [(0, .ref (G.2.1 0)), (1, .int x1), (2, .int x2)]) (hD : D_X10_of_0 Q x1 x2 σ) : W p l e rm_X10_of s m args below meth c H locs 0 0 (QMI G Q below args s) (F0 m 0 ls []) := by
  unfold D_X10_of_0 at hD
  refine lv_aload_n X.1 X.2.1 d_X10_of_0 rfl (lv_at hl 0 rfl) ?_
  refine lv_iload_n X.1 X.2.1 d_X10_of_1 rfl (lv_at hl 1 rfl) ?_
  refine gcV_i (rest := []) (As := [.int x1]) (o := 0) X hw (c_X10_isNoGame l G x1 σ _  hD) (kd_lt (by decide +kernel : kd 0 = 10) (by decide)) (ce_10 G _ (by decide +kernel : kd 0 = 10)) rfl tb_526 tb_528 tv_17 tb_1 tb_529 hd_X10_isNoGame ⟨rfl, rfl⟩ ⟨Nat.le_of_ble_eq_true rfl, Nat.le_of_ble_eq_true rfl⟩ rfl hl.1 rfl (Nat.le_of_ble_eq_true rfl) d_X10_of_2 (fun r_1 σ_2 H locs hD hw => ?_)
  refine lv_if_eq (tgt := 14) X.1 X.2.1 d_X10_of_5 (by decide) (fun q_5 => ?_) (fun q_5 => ?_)
  · have hD := hD.1 q_5
    refine lv_aload_n X.1 X.2.1 d_X10_of_14 rfl (lv_at hl 0 rfl) ?_
    refine gf_10_3 X hw (by decide +kernel : kd 0 = 10) tb_376 d_X10_of_15 ?_
    refine lv_iload_n X.1 X.2.1 d_X10_of_18 rfl (lv_at hl 1 rfl) ?_
    obtain ⟨q_19, hD⟩ := hD
    refine g_aald14 X hw ly_10_3.1 q_19 d_X10_of_19 ?_
    refine lv_astore_n (lv' := [(3, .ref (G.2.1 (61 + 22 * Int32.toNatClampNeg x1))), (0, .ref (G.2.1 0)), (1, .int x1), (2, .int x2)]) X.1 X.2.1 d_X10_of_20 rfl hl (by decide) rfl (fun ls hl => ?_)
    refine lv_iload_n X.1 X.2.1 d_X10_of_21 rfl (lv_at hl 3 rfl) ?_
    by_cases q_22 : x2 < 0 ∨ 5 < x2
    · have hD := hD.1 q_22
      refine lv_tableOut (tgt := 99) X.1 X.2.1 d_X10_of_22 (sw_out (n := 5) (by decide) q_22) (by decide) ?_
      refine lv_aload_n X.1 X.2.1 d_X10_of_99 rfl (lv_at hl 1 rfl) ?_
      refine lv_bipush (v := (-2)) X.1 X.2.1 d_X10_of_100 (by decide) ?_
      refine gcV_i (rest := []) (As := [.int (-2)]) (o := 0) X hw (c_X10_refuse l G (-2) σ_2 _  hD) (kd_lt (by decide +kernel : kd 0 = 10) (by decide)) (ce_10 G _ (by decide +kernel : kd 0 = 10)) rfl tb_420 tb_422 tv_0 tb_1 tb_423 hd_X10_refuse ⟨rfl, rfl⟩ ⟨Nat.le_of_ble_eq_true rfl, Nat.le_of_ble_eq_true rfl⟩ rfl hl.1 rfl (Nat.le_of_ble_eq_true rfl) d_X10_of_102 (fun r_3 σ_4 H locs hD hw => ?_)
      exact g_iret X hr hlk hw hD d_X10_of_105
    · obtain ⟨j_22, hj, ej⟩ := sw_in (n := 5) (by decide) q_22
      have hD := hD.2
      rcases (show j_22 = 0 ∨ j_22 = 1 ∨ j_22 = 2 ∨ j_22 = 3 ∨ j_22 = 4 ∨ j_22 = 5 by omega) with rfl | rfl | rfl | rfl | rfl | rfl
      · have hD := hD.1 ej
        refine lv_tableIn (tgt := 60) X.1 X.2.1 d_X10_of_22 (by rw [ej]; decide) (by rw [ej]; decide) (by rw [ej]; rfl) (by decide) ?_
        refine lv_aload_n X.1 X.2.1 d_X10_of_60 rfl (lv_at hl 0 rfl) ?_
        refine gf_1_1 X hw (le_14 ly_10_3.1 q_19) tb_156 d_X10_of_61 ?_
        refine gf_0_0 X hw (ly_1_1 (le_14 ly_10_3.1 q_19)) tb_74 d_X10_of_64 ?_
        exact g_iret X hr hlk hw hD d_X10_of_67
      · have hD := hD.2.1 ej
        refine lv_tableIn (tgt := 68) X.1 X.2.1 d_X10_of_22 (by rw [ej]; decide) (by rw [ej]; decide) (by rw [ej]; rfl) (by decide) ?_
        refine lv_aload_n X.1 X.2.1 d_X10_of_68 rfl (lv_at hl 0 rfl) ?_
        refine gf_1_1 X hw (le_14 ly_10_3.1 q_19) tb_156 d_X10_of_69 ?_
        refine gf_0_1 X hw (ly_1_1 (le_14 ly_10_3.1 q_19)) tb_77 d_X10_of_72 ?_
        exact g_iret X hr hlk hw hD d_X10_of_75
      · have hD := hD.2.2.1 ej
        refine lv_tableIn (tgt := 76) X.1 X.2.1 d_X10_of_22 (by rw [ej]; decide) (by rw [ej]; decide) (by rw [ej]; rfl) (by decide) ?_
        refine lv_aload_n X.1 X.2.1 d_X10_of_76 rfl (lv_at hl 0 rfl) ?_
        refine gf_1_5 X hw (le_14 ly_10_3.1 q_19) tb_167 d_X10_of_77 ?_
        exact g_iret X hr hlk hw hD d_X10_of_80
      · have hD := hD.2.2.2.1 ej
        refine lv_tableIn (tgt := 81) X.1 X.2.1 d_X10_of_22 (by rw [ej]; decide) (by rw [ej]; decide) (by rw [ej]; rfl) (by decide) ?_
        refine lv_aload_n X.1 X.2.1 d_X10_of_81 rfl (lv_at hl 0 rfl) ?_
        refine gf_1_7 X hw (le_14 ly_10_3.1 q_19) tb_175 d_X10_of_82 ?_
        exact g_iret X hr hlk hw hD d_X10_of_85
      · have hD := hD.2.2.2.2.1 ej
        refine lv_tableIn (tgt := 86) X.1 X.2.1 d_X10_of_22 (by rw [ej]; decide) (by rw [ej]; decide) (by rw [ej]; rfl) (by decide) ?_
        refine lv_aload_n X.1 X.2.1 d_X10_of_86 rfl (lv_at hl 0 rfl) ?_
        refine gf_1_0 X hw (le_14 ly_10_3.1 q_19) tb_154 d_X10_of_87 ?_
        refine gf_9_1 X hw (ly_1_0 (le_14 ly_10_3.1 q_19)) tb_33 d_X10_of_90 ?_
        exact g_iret X hr hlk hw hD d_X10_of_93
      · have hD := hD.2.2.2.2.2 ej
        refine lv_tableIn (tgt := 94) X.1 X.2.1 d_X10_of_22 (by rw [ej]; decide) (by rw [ej]; decide) (by rw [ej]; rfl) (by decide) ?_
        refine lv_aload_n X.1 X.2.1 d_X10_of_94 rfl (lv_at hl 0 rfl) ?_
        refine gcV_i (rest := []) (As := []) (o := (61 + 22 * Int32.toNatClampNeg x1)) X hw (c_X1_falls l G (61 + 22 * Int32.toNatClampNeg x1) σ_2 _ (le_14 ly_10_3.1 q_19) hD) (kd_lt (le_14 ly_10_3.1 q_19) (by decide)) (ce_1 G _ (le_14 ly_10_3.1 q_19)) rfl tb_530 tb_531 tb_532 tb_4 tb_533 hd_X1_falls ⟨rfl, rfl⟩ ⟨Nat.le_of_ble_eq_true rfl, Nat.le_of_ble_eq_true rfl⟩ rfl hl.1 rfl (Nat.le_of_ble_eq_true rfl) d_X10_of_95 (fun r_5 σ_6 H locs hD hw => ?_)
        exact g_iret X hr hlk hw hD d_X10_of_98
  · have hD := hD.2 q_5
    refine lv_aload_n X.1 X.2.1 d_X10_of_8 rfl (lv_at hl 0 rfl) ?_
    refine lv_iconst (v := (-1)) X.1 X.2.1 d_X10_of_9 (by decide) ?_
    refine gcV_i (rest := []) (As := [.int (-1)]) (o := 0) X hw (c_X10_refuse l G (-1) σ_2 _  hD) (kd_lt (by decide +kernel : kd 0 = 10) (by decide)) (ce_10 G _ (by decide +kernel : kd 0 = 10)) rfl tb_420 tb_422 tv_0 tb_1 tb_423 hd_X10_refuse ⟨rfl, rfl⟩ ⟨Nat.le_of_ble_eq_true rfl, Nat.le_of_ble_eq_true rfl⟩ rfl hl.1 rfl (Nat.le_of_ble_eq_true rfl) d_X10_of_10 (fun r_7 σ_8 H locs hD hw => ?_)
    exact g_iret X hr hlk hw hD d_X10_of_13
theorem c_X10_of (l : Launch) (G : GC) (x1 : Int32) (x2 : Int32) (σ : GSt) (Q : Int32 → GSt → Prop)  (hD : D_X10_of x1 x2 σ Q) : MI l ym_X10_of cm_X10_of 4 .int rm_X10_of G σ [.ref (G.2.1 0), .int x1, .int x2] Q := by
  refine met_i (by decide) (Nat.le_of_ble_eq_true rfl) ?_
  intro p e s m args below meth c X hr hlk hw ls hl
  exact s_X10_of_0 X hr hlk Q  x1 x2 σ hw (lv_sub hl [0, 1, 2] rfl) hD
theorem hd_X10_letter : ym_X10_letter.cls = "GameLoom" ∧ ym_X10_letter.cls ≠ "java/lang/invoke/MethodHandle" ∧ ym_X10_letter.cls ≠ "java/lang/invoke/VarHandle" ∧ (parseMethodDescriptor ym_X10_letter.desc).map (fun d => d.parameters.length) = some 2 := by decide +kernel
abbrev rm_X10_letter : Room := { frames := 1, cells := 0, slots := 0, locals := 21 }
theorem d_X10_letter_0 : decode cm_X10_letter 0 = .ok (.aload_n 0, 1) := by decide +kernel
theorem d_X10_letter_1 : decode cm_X10_letter 1 = .ok (.iload_n 1, 1) := by decide +kernel
theorem d_X10_letter_2 : decode cm_X10_letter 2 = .ok (.invokevirtual 99, 3) := by decide +kernel
theorem d_X10_letter_5 : decode cm_X10_letter 5 = .ok (.ifCond .eq 9, 3) := by decide +kernel
theorem d_X10_letter_8 : decode cm_X10_letter 8 = .ok (.aload_n 0, 1) := by decide +kernel
theorem d_X10_letter_9 : decode cm_X10_letter 9 = .ok (.iconst (-1), 1) := by decide +kernel
theorem d_X10_letter_10 : decode cm_X10_letter 10 = .ok (.invokevirtual 80, 3) := by decide +kernel
theorem d_X10_letter_13 : decode cm_X10_letter 13 = .ok (.ireturn, 1) := by decide +kernel
theorem d_X10_letter_14 : decode cm_X10_letter 14 = .ok (.iload_n 2, 1) := by decide +kernel
theorem d_X10_letter_15 : decode cm_X10_letter 15 = .ok (.ifCond .ge 10, 3) := by decide +kernel
theorem d_X10_letter_18 : decode cm_X10_letter 18 = .ok (.aload_n 0, 1) := by decide +kernel
theorem d_X10_letter_19 : decode cm_X10_letter 19 = .ok (.bipush (-4), 2) := by decide +kernel
theorem d_X10_letter_21 : decode cm_X10_letter 21 = .ok (.invokevirtual 80, 3) := by decide +kernel
theorem d_X10_letter_24 : decode cm_X10_letter 24 = .ok (.ireturn, 1) := by decide +kernel
theorem d_X10_letter_25 : decode cm_X10_letter 25 = .ok (.aload_n 0, 1) := by decide +kernel
theorem d_X10_letter_26 : decode cm_X10_letter 26 = .ok (.getfield 28, 3) := by decide +kernel
theorem d_X10_letter_29 : decode cm_X10_letter 29 = .ok (.iload_n 1, 1) := by decide +kernel
theorem d_X10_letter_30 : decode cm_X10_letter 30 = .ok (.aaload, 1) := by decide +kernel
theorem d_X10_letter_31 : decode cm_X10_letter 31 = .ok (.getfield 121, 3) := by decide +kernel
theorem d_X10_letter_34 : decode cm_X10_letter 34 = .ok (.iload_n 2, 1) := by decide +kernel
theorem d_X10_letter_35 : decode cm_X10_letter 35 = .ok (.invokevirtual 126, 3) := by decide +kernel
theorem d_X10_letter_38 : decode cm_X10_letter 38 = .ok (.istore_n 3, 1) := by decide +kernel
theorem d_X10_letter_39 : decode cm_X10_letter 39 = .ok (.iload_n 3, 1) := by decide +kernel
theorem d_X10_letter_40 : decode cm_X10_letter 40 = .ok (.ifCond .ge 8, 3) := by decide +kernel
theorem d_X10_letter_43 : decode cm_X10_letter 43 = .ok (.bipush (-9), 2) := by decide +kernel
theorem d_X10_letter_45 : decode cm_X10_letter 45 = .ok (.goto 4, 3) := by decide +kernel
theorem d_X10_letter_48 : decode cm_X10_letter 48 = .ok (.iload_n 3, 1) := by decide +kernel
theorem d_X10_letter_49 : decode cm_X10_letter 49 = .ok (.ireturn, 1) := by decide +kernel
def D_X10_letter_0 (Q : Int32 → GSt → Prop) (x1 : Int32) (x2 : Int32) (σ : GSt) : Prop :=
  D_X10_isNoGame x1 σ (fun r_1 σ_2 => (r_1 = 0 → (0 ≤ x2 → vp_in x1 8 ∧ (D_X9_at ((61 + 22 * Int32.toNatClampNeg x1) + 1) x2 σ_2 (fun r_3 σ_4 => (0 ≤ r_3 → Q r_3 σ_4) ∧
  (¬ 0 ≤ r_3 → Q (-9) σ_4)))) ∧
  (¬ 0 ≤ x2 → D_X10_refuse (-4) σ_2 (fun r_5 σ_6 => Q r_5 σ_6))) ∧
  (¬ r_1 = 0 → D_X10_refuse (-1) σ_2 (fun r_7 σ_8 => Q r_7 σ_8)))
def D_X10_letter (x1 : Int32) (x2 : Int32) (σ : GSt) (Q : Int32 → GSt → Prop) : Prop := D_X10_letter_0 Q x1 x2 σ
set_option maxRecDepth 20000 in
set_option maxHeartbeats 4000000 in
theorem s_X10_letter_0 {p : Program} {l : Launch} {e : Env} {s : State} {m : MethodId} {args : Array Value} {below : List Frame} {meth : Method} {c : Code} {G : GC} (X : CallFix p m c cm_X10_letter 4 s args lw_us "GameLoom") (hr : meth.sig.returnType = some .int) (hlk : meth.locks = false) (Q : Int32 → GSt → Prop) (x1 : Int32) (x2 : Int32) (σ : GSt) {H : Heap} {locs : List Loc} {ls : Array Slot} (hw : Wo G s H locs σ) (hl : lv_has ls 4 [(0, .ref (G.2.1 0)), (1, .int x1), (2, .int x2)]) (hD : D_X10_letter_0 Q x1 x2 σ) : W p l e rm_X10_letter s m args below meth c H locs 0 0 (QMI G Q below args s) (F0 m 0 ls []) := by
  unfold D_X10_letter_0 at hD
  refine lv_aload_n X.1 X.2.1 d_X10_letter_0 rfl (lv_at hl 0 rfl) ?_
  refine lv_iload_n X.1 X.2.1 d_X10_letter_1 rfl (lv_at hl 1 rfl) ?_
  refine gcV_i (rest := []) (As := [.int x1]) (o := 0) X hw (c_X10_isNoGame l G x1 σ _  hD) (kd_lt (by decide +kernel : kd 0 = 10) (by decide)) (ce_10 G _ (by decide +kernel : kd 0 = 10)) rfl tb_526 tb_528 tv_17 tb_1 tb_529 hd_X10_isNoGame ⟨rfl, rfl⟩ ⟨Nat.le_of_ble_eq_true rfl, Nat.le_of_ble_eq_true rfl⟩ rfl hl.1 rfl (Nat.le_of_ble_eq_true rfl) d_X10_letter_2 (fun r_1 σ_2 H locs hD hw => ?_)
  refine lv_if_eq (tgt := 14) X.1 X.2.1 d_X10_letter_5 (by decide) (fun q_5 => ?_) (fun q_5 => ?_)
  · have hD := hD.1 q_5
    refine lv_iload_n X.1 X.2.1 d_X10_letter_14 rfl (lv_at hl 2 rfl) ?_
    refine lv_if_ge (tgt := 25) X.1 X.2.1 d_X10_letter_15 (by decide) (fun q_15 => ?_) (fun q_15 => ?_)
    · have hD := hD.1 q_15
      refine lv_aload_n X.1 X.2.1 d_X10_letter_25 rfl (lv_at hl 0 rfl) ?_
      refine gf_10_3 X hw (by decide +kernel : kd 0 = 10) tb_376 d_X10_letter_26 ?_
      refine lv_iload_n X.1 X.2.1 d_X10_letter_29 rfl (lv_at hl 1 rfl) ?_
      obtain ⟨q_30, hD⟩ := hD
      refine g_aald14 X hw ly_10_3.1 q_30 d_X10_letter_30 ?_
      refine gf_1_0 X hw (le_14 ly_10_3.1 q_30) tb_154 d_X10_letter_31 ?_
      refine lv_iload_n X.1 X.2.1 d_X10_letter_34 rfl (lv_at hl 2 rfl) ?_
      refine gcV_i (rest := []) (As := [.int x2]) (o := ((61 + 22 * Int32.toNatClampNeg x1) + 1)) X hw (c_X9_at l G ((61 + 22 * Int32.toNatClampNeg x1) + 1) x2 σ_2 _ (ly_1_0 (le_14 ly_10_3.1 q_30)) hD) (kd_lt (ly_1_0 (le_14 ly_10_3.1 q_30)) (by decide)) (ce_9 G _ (ly_1_0 (le_14 ly_10_3.1 q_30))) rfl tb_538 tb_449 tb_450 tb_2 tb_451 hd_X9_at ⟨rfl, rfl⟩ ⟨Nat.le_of_ble_eq_true rfl, Nat.le_of_ble_eq_true rfl⟩ rfl hl.1 rfl (Nat.le_of_ble_eq_true rfl) d_X10_letter_35 (fun r_3 σ_4 H locs hD hw => ?_)
      refine lv_istore_n (lv' := [(3, .int r_3), (0, .ref (G.2.1 0)), (1, .int x1), (2, .int x2)]) X.1 X.2.1 d_X10_letter_38 rfl hl (by decide) rfl (fun ls hl => ?_)
      refine lv_iload_n X.1 X.2.1 d_X10_letter_39 rfl (lv_at hl 0 rfl) ?_
      refine lv_if_ge (tgt := 48) X.1 X.2.1 d_X10_letter_40 (by decide) (fun q_40 => ?_) (fun q_40 => ?_)
      · have hD := hD.1 q_40
        refine lv_iload_n X.1 X.2.1 d_X10_letter_48 rfl (lv_at hl 0 rfl) ?_
        exact g_iret X hr hlk hw hD d_X10_letter_49
      · have hD := hD.2 q_40
        refine lv_bipush (v := (-9)) X.1 X.2.1 d_X10_letter_43 (by decide) ?_
        refine lv_goto (tgt := 49) X.1 X.2.1 d_X10_letter_45 (by decide) ?_
        exact g_iret X hr hlk hw hD d_X10_letter_49
    · have hD := hD.2 q_15
      refine lv_aload_n X.1 X.2.1 d_X10_letter_18 rfl (lv_at hl 0 rfl) ?_
      refine lv_bipush (v := (-4)) X.1 X.2.1 d_X10_letter_19 (by decide) ?_
      refine gcV_i (rest := []) (As := [.int (-4)]) (o := 0) X hw (c_X10_refuse l G (-4) σ_2 _  hD) (kd_lt (by decide +kernel : kd 0 = 10) (by decide)) (ce_10 G _ (by decide +kernel : kd 0 = 10)) rfl tb_420 tb_422 tv_0 tb_1 tb_423 hd_X10_refuse ⟨rfl, rfl⟩ ⟨Nat.le_of_ble_eq_true rfl, Nat.le_of_ble_eq_true rfl⟩ rfl hl.1 rfl (Nat.le_of_ble_eq_true rfl) d_X10_letter_21 (fun r_5 σ_6 H locs hD hw => ?_)
      exact g_iret X hr hlk hw hD d_X10_letter_24
  · have hD := hD.2 q_5
    refine lv_aload_n X.1 X.2.1 d_X10_letter_8 rfl (lv_at hl 0 rfl) ?_
    refine lv_iconst (v := (-1)) X.1 X.2.1 d_X10_letter_9 (by decide) ?_
    refine gcV_i (rest := []) (As := [.int (-1)]) (o := 0) X hw (c_X10_refuse l G (-1) σ_2 _  hD) (kd_lt (by decide +kernel : kd 0 = 10) (by decide)) (ce_10 G _ (by decide +kernel : kd 0 = 10)) rfl tb_420 tb_422 tv_0 tb_1 tb_423 hd_X10_refuse ⟨rfl, rfl⟩ ⟨Nat.le_of_ble_eq_true rfl, Nat.le_of_ble_eq_true rfl⟩ rfl hl.1 rfl (Nat.le_of_ble_eq_true rfl) d_X10_letter_10 (fun r_7 σ_8 H locs hD hw => ?_)
    exact g_iret X hr hlk hw hD d_X10_letter_13
theorem c_X10_letter (l : Launch) (G : GC) (x1 : Int32) (x2 : Int32) (σ : GSt) (Q : Int32 → GSt → Prop)  (hD : D_X10_letter x1 x2 σ Q) : MI l ym_X10_letter cm_X10_letter 4 .int rm_X10_letter G σ [.ref (G.2.1 0), .int x1, .int x2] Q := by
  refine met_i (by decide) (Nat.le_of_ble_eq_true rfl) ?_
  intro p e s m args below meth c X hr hlk hw ls hl
  exact s_X10_letter_0 X hr hlk Q  x1 x2 σ hw (lv_sub hl [0, 1, 2] rfl) hD
theorem hd_X10_start : ym_X10_start.cls = "GameLoom" ∧ ym_X10_start.cls ≠ "java/lang/invoke/MethodHandle" ∧ ym_X10_start.cls ≠ "java/lang/invoke/VarHandle" ∧ (parseMethodDescriptor ym_X10_start.desc).map (fun d => d.parameters.length) = some 1 := by decide +kernel
abbrev rm_X10_start : Room := { frames := 4, cells := 0, slots := 0, locals := 103 }
theorem d_X10_start_0 : decode cm_X10_start 0 = .ok (.aload_n 0, 1) := by decide +kernel
theorem d_X10_start_1 : decode cm_X10_start 1 = .ok (.iload_n 1, 1) := by decide +kernel
theorem d_X10_start_2 : decode cm_X10_start 2 = .ok (.invokevirtual 99, 3) := by decide +kernel
theorem d_X10_start_5 : decode cm_X10_start 5 = .ok (.ifCond .eq 9, 3) := by decide +kernel
theorem d_X10_start_8 : decode cm_X10_start 8 = .ok (.aload_n 0, 1) := by decide +kernel
theorem d_X10_start_9 : decode cm_X10_start 9 = .ok (.iconst (-1), 1) := by decide +kernel
theorem d_X10_start_10 : decode cm_X10_start 10 = .ok (.invokevirtual 80, 3) := by decide +kernel
theorem d_X10_start_13 : decode cm_X10_start 13 = .ok (.ireturn, 1) := by decide +kernel
theorem d_X10_start_14 : decode cm_X10_start 14 = .ok (.aload_n 0, 1) := by decide +kernel
theorem d_X10_start_15 : decode cm_X10_start 15 = .ok (.getfield 66, 3) := by decide +kernel
theorem d_X10_start_18 : decode cm_X10_start 18 = .ok (.aload_n 0, 1) := by decide +kernel
theorem d_X10_start_19 : decode cm_X10_start 19 = .ok (.getfield 28, 3) := by decide +kernel
theorem d_X10_start_22 : decode cm_X10_start 22 = .ok (.iload_n 1, 1) := by decide +kernel
theorem d_X10_start_23 : decode cm_X10_start 23 = .ok (.aaload, 1) := by decide +kernel
theorem d_X10_start_24 : decode cm_X10_start 24 = .ok (.invokevirtual 129, 3) := by decide +kernel
theorem d_X10_start_27 : decode cm_X10_start 27 = .ok (.aload_n 0, 1) := by decide +kernel
theorem d_X10_start_28 : decode cm_X10_start 28 = .ok (.getfield 66, 3) := by decide +kernel
theorem d_X10_start_31 : decode cm_X10_start 31 = .ok (.getfield 133, 3) := by decide +kernel
theorem d_X10_start_34 : decode cm_X10_start 34 = .ok (.ireturn, 1) := by decide +kernel
def D_X10_start_0 (Q : Int32 → GSt → Prop) (x1 : Int32) (σ : GSt) : Prop :=
  D_X10_isNoGame x1 σ (fun r_1 σ_2 => (r_1 = 0 → vp_in x1 8 ∧ (D_X4_begin (61 + 22 * Int32.toNatClampNeg x1) σ_2 (fun σ_3 => Q (σ_3 53 2) σ_3))) ∧
  (¬ r_1 = 0 → D_X10_refuse (-1) σ_2 (fun r_4 σ_5 => Q r_4 σ_5)))
def D_X10_start (x1 : Int32) (σ : GSt) (Q : Int32 → GSt → Prop) : Prop := D_X10_start_0 Q x1 σ
set_option maxRecDepth 20000 in
set_option maxHeartbeats 4000000 in
theorem s_X10_start_0 {p : Program} {l : Launch} {e : Env} {s : State} {m : MethodId} {args : Array Value} {below : List Frame} {meth : Method} {c : Code} {G : GC} (X : CallFix p m c cm_X10_start 2 s args lw_us "GameLoom") (hr : meth.sig.returnType = some .int) (hlk : meth.locks = false) (Q : Int32 → GSt → Prop) (x1 : Int32) (σ : GSt) {H : Heap} {locs : List Loc} {ls : Array Slot} (hw : Wo G s H locs σ) (hl : lv_has ls 2 [(0, .ref (G.2.1 0)), (1, .int x1)]) (hD : D_X10_start_0 Q x1 σ) : W p l e rm_X10_start s m args below meth c H locs 0 0 (QMI G Q below args s) (F0 m 0 ls []) := by
  unfold D_X10_start_0 at hD
  refine lv_aload_n X.1 X.2.1 d_X10_start_0 rfl (lv_at hl 0 rfl) ?_
  refine lv_iload_n X.1 X.2.1 d_X10_start_1 rfl (lv_at hl 1 rfl) ?_
  refine gcV_i (rest := []) (As := [.int x1]) (o := 0) X hw (c_X10_isNoGame l G x1 σ _  hD) (kd_lt (by decide +kernel : kd 0 = 10) (by decide)) (ce_10 G _ (by decide +kernel : kd 0 = 10)) rfl tb_526 tb_528 tv_17 tb_1 tb_529 hd_X10_isNoGame ⟨rfl, rfl⟩ ⟨Nat.le_of_ble_eq_true rfl, Nat.le_of_ble_eq_true rfl⟩ rfl hl.1 rfl (Nat.le_of_ble_eq_true rfl) d_X10_start_2 (fun r_1 σ_2 H locs hD hw => ?_)
  refine lv_if_eq (tgt := 14) X.1 X.2.1 d_X10_start_5 (by decide) (fun q_5 => ?_) (fun q_5 => ?_)
  · have hD := hD.1 q_5
    refine lv_aload_n X.1 X.2.1 d_X10_start_14 rfl (lv_at hl 0 rfl) ?_
    refine gf_10_10 X hw (by decide +kernel : kd 0 = 10) tb_383 d_X10_start_15 ?_
    refine lv_aload_n X.1 X.2.1 d_X10_start_18 rfl (lv_at hl 0 rfl) ?_
    refine gf_10_3 X hw (by decide +kernel : kd 0 = 10) tb_376 d_X10_start_19 ?_
    refine lv_iload_n X.1 X.2.1 d_X10_start_22 rfl (lv_at hl 1 rfl) ?_
    obtain ⟨q_23, hD⟩ := hD
    refine g_aald14 X hw ly_10_3.1 q_23 d_X10_start_23 ?_
    refine gcV_v (rest := []) (As := [.ref (G.2.1 (61 + 22 * Int32.toNatClampNeg x1))]) (o := 53) X hw (c_X4_begin l G (61 + 22 * Int32.toNatClampNeg x1) σ_2 _ (le_14 ly_10_3.1 q_23) hD) (kd_lt ly_10_10 (by decide)) (ce_4 G _ ly_10_10) rfl tb_543 tb_544 tb_545 tb_11 tb_546 hd_X4_begin ⟨rfl, rfl⟩ ⟨Nat.le_of_ble_eq_true rfl, Nat.le_of_ble_eq_true rfl⟩ rfl hl.1 rfl (Nat.le_of_ble_eq_true rfl) d_X10_start_24 (fun σ_3 H locs hD hw => ?_)
    refine lv_aload_n X.1 X.2.1 d_X10_start_27 rfl (lv_at hl 0 rfl) ?_
    refine gf_10_10 X hw (by decide +kernel : kd 0 = 10) tb_383 d_X10_start_28 ?_
    refine gf_4_2 X hw ly_10_10 tb_355 d_X10_start_31 ?_
    exact g_iret X hr hlk hw hD d_X10_start_34
  · have hD := hD.2 q_5
    refine lv_aload_n X.1 X.2.1 d_X10_start_8 rfl (lv_at hl 0 rfl) ?_
    refine lv_iconst (v := (-1)) X.1 X.2.1 d_X10_start_9 (by decide) ?_
    refine gcV_i (rest := []) (As := [.int (-1)]) (o := 0) X hw (c_X10_refuse l G (-1) σ_2 _  hD) (kd_lt (by decide +kernel : kd 0 = 10) (by decide)) (ce_10 G _ (by decide +kernel : kd 0 = 10)) rfl tb_420 tb_422 tv_0 tb_1 tb_423 hd_X10_refuse ⟨rfl, rfl⟩ ⟨Nat.le_of_ble_eq_true rfl, Nat.le_of_ble_eq_true rfl⟩ rfl hl.1 rfl (Nat.le_of_ble_eq_true rfl) d_X10_start_10 (fun r_4 σ_5 H locs hD hw => ?_)
    exact g_iret X hr hlk hw hD d_X10_start_13
theorem c_X10_start (l : Launch) (G : GC) (x1 : Int32) (σ : GSt) (Q : Int32 → GSt → Prop)  (hD : D_X10_start x1 σ Q) : MI l ym_X10_start cm_X10_start 2 .int rm_X10_start G σ [.ref (G.2.1 0), .int x1] Q := by
  refine met_i (by decide) (Nat.le_of_ble_eq_true rfl) ?_
  intro p e s m args below meth c X hr hlk hw ls hl
  exact s_X10_start_0 X hr hlk Q  x1 σ hw (lv_sub hl [0, 1] rfl) hD
theorem hd_X10_told : ym_X10_told.cls ≠ "java/lang/invoke/MethodHandle" ∧ ym_X10_told.cls ≠ "java/lang/invoke/VarHandle" ∧ (parseMethodDescriptor ym_X10_told.desc).map (fun d => d.parameters.length) = some 1 := by decide +kernel
abbrev rm_X10_told : Room := { frames := 0, cells := 0, slots := 0, locals := 0 }
theorem d_X10_told_0 : decode cm_X10_told 0 = .ok (.sipush 10000, 3) := by decide +kernel
theorem d_X10_told_3 : decode cm_X10_told 3 = .ok (.iload_n 0, 1) := by decide +kernel
theorem d_X10_told_4 : decode cm_X10_told 4 = .ok (.bipush 16, 2) := by decide +kernel
theorem d_X10_told_6 : decode cm_X10_told 6 = .ok (.iushr, 1) := by decide +kernel
theorem d_X10_told_7 : decode cm_X10_told 7 = .ok (.imul, 1) := by decide +kernel
theorem d_X10_told_8 : decode cm_X10_told 8 = .ok (.bipush 100, 2) := by decide +kernel
theorem d_X10_told_10 : decode cm_X10_told 10 = .ok (.iload_n 0, 1) := by decide +kernel
theorem d_X10_told_11 : decode cm_X10_told 11 = .ok (.bipush 8, 2) := by decide +kernel
theorem d_X10_told_13 : decode cm_X10_told 13 = .ok (.iushr, 1) := by decide +kernel
theorem d_X10_told_14 : decode cm_X10_told 14 = .ok (.sipush 255, 3) := by decide +kernel
theorem d_X10_told_17 : decode cm_X10_told 17 = .ok (.iand, 1) := by decide +kernel
theorem d_X10_told_18 : decode cm_X10_told 18 = .ok (.imul, 1) := by decide +kernel
theorem d_X10_told_19 : decode cm_X10_told 19 = .ok (.iadd, 1) := by decide +kernel
theorem d_X10_told_20 : decode cm_X10_told 20 = .ok (.iload_n 0, 1) := by decide +kernel
theorem d_X10_told_21 : decode cm_X10_told 21 = .ok (.sipush 255, 3) := by decide +kernel
theorem d_X10_told_24 : decode cm_X10_told 24 = .ok (.iand, 1) := by decide +kernel
theorem d_X10_told_25 : decode cm_X10_told 25 = .ok (.iadd, 1) := by decide +kernel
theorem d_X10_told_26 : decode cm_X10_told 26 = .ok (.ireturn, 1) := by decide +kernel
def D_X10_told_0 (Q : Int32 → GSt → Prop) (x0 : Int32) (σ : GSt) : Prop :=
  Q (((10000 * (jushr x0 16)) + (100 * ((jushr x0 8) &&& 255))) + (x0 &&& 255)) σ
def D_X10_told (x0 : Int32) (σ : GSt) (Q : Int32 → GSt → Prop) : Prop := D_X10_told_0 Q x0 σ
set_option maxRecDepth 20000 in
set_option maxHeartbeats 4000000 in
theorem s_X10_told_0 {p : Program} {l : Launch} {e : Env} {s : State} {m : MethodId} {args : Array Value} {below : List Frame} {meth : Method} {c : Code} {G : GC} (X : CallFix p m c cm_X10_told 1 s args lw_us "GameLoom") (hr : meth.sig.returnType = some .int) (hlk : meth.locks = false) (Q : Int32 → GSt → Prop) (x0 : Int32) (σ : GSt) {H : Heap} {locs : List Loc} {ls : Array Slot} (hw : Wo G s H locs σ) (hl : lv_has ls 1 [(0, .int x0)]) (hD : D_X10_told_0 Q x0 σ) : W p l e rm_X10_told s m args below meth c H locs 0 0 (QMI G Q below args s) (F0 m 0 ls []) := by
  unfold D_X10_told_0 at hD
  refine lv_sipush (v := 10000) X.1 X.2.1 d_X10_told_0 (by decide) ?_
  refine lv_iload_n X.1 X.2.1 d_X10_told_3 rfl (lv_at hl 0 rfl) ?_
  refine lv_bipush (v := 16) X.1 X.2.1 d_X10_told_4 (by decide) ?_
  refine lv_iushr (v := (jushr x0 16)) X.1 X.2.1 d_X10_told_6 rfl ?_
  refine lv_imul X.1 X.2.1 d_X10_told_7 ?_
  refine lv_bipush (v := 100) X.1 X.2.1 d_X10_told_8 (by decide) ?_
  refine lv_iload_n X.1 X.2.1 d_X10_told_10 rfl (lv_at hl 0 rfl) ?_
  refine lv_bipush (v := 8) X.1 X.2.1 d_X10_told_11 (by decide) ?_
  refine lv_iushr (v := (jushr x0 8)) X.1 X.2.1 d_X10_told_13 rfl ?_
  refine lv_sipush (v := 255) X.1 X.2.1 d_X10_told_14 (by decide) ?_
  refine lv_iand X.1 X.2.1 d_X10_told_17 ?_
  refine lv_imul X.1 X.2.1 d_X10_told_18 ?_
  refine lv_iadd X.1 X.2.1 d_X10_told_19 ?_
  refine lv_iload_n X.1 X.2.1 d_X10_told_20 rfl (lv_at hl 0 rfl) ?_
  refine lv_sipush (v := 255) X.1 X.2.1 d_X10_told_21 (by decide) ?_
  refine lv_iand X.1 X.2.1 d_X10_told_24 ?_
  refine lv_iadd X.1 X.2.1 d_X10_told_25 ?_
  exact g_iret X hr hlk hw hD d_X10_told_26
theorem c_X10_told (l : Launch) (G : GC) (x0 : Int32) (σ : GSt) (Q : Int32 → GSt → Prop)  (hD : D_X10_told x0 σ Q) : MI l ym_X10_told cm_X10_told 1 .int rm_X10_told G σ [.int x0] Q := by
  refine met_i (by decide) (Nat.le_of_ble_eq_true rfl) ?_
  intro p e s m args below meth c X hr hlk hw ls hl
  exact s_X10_told_0 X hr hlk Q  x0 σ hw (lv_sub hl [0] rfl) hD
theorem hd_X10_move : ym_X10_move.cls = "GameLoom" ∧ ym_X10_move.cls ≠ "java/lang/invoke/MethodHandle" ∧ ym_X10_move.cls ≠ "java/lang/invoke/VarHandle" ∧ (parseMethodDescriptor ym_X10_move.desc).map (fun d => d.parameters.length) = some 1 := by decide +kernel
abbrev rm_X10_move : Room := { frames := 1, cells := 0, slots := 0, locals := 21 }
theorem d_X10_move_0 : decode cm_X10_move 0 = .ok (.aload_n 0, 1) := by decide +kernel
theorem d_X10_move_1 : decode cm_X10_move 1 = .ok (.getfield 66, 3) := by decide +kernel
theorem d_X10_move_4 : decode cm_X10_move 4 = .ok (.getfield 134, 3) := by decide +kernel
theorem d_X10_move_7 : decode cm_X10_move 7 = .ok (.ifCond .ne 10, 3) := by decide +kernel
theorem d_X10_move_10 : decode cm_X10_move 10 = .ok (.aload_n 0, 1) := by decide +kernel
theorem d_X10_move_11 : decode cm_X10_move 11 = .ok (.bipush (-3), 2) := by decide +kernel
theorem d_X10_move_13 : decode cm_X10_move 13 = .ok (.invokevirtual 80, 3) := by decide +kernel
theorem d_X10_move_16 : decode cm_X10_move 16 = .ok (.ireturn, 1) := by decide +kernel
theorem d_X10_move_17 : decode cm_X10_move 17 = .ok (.iload_n 1, 1) := by decide +kernel
theorem d_X10_move_18 : decode cm_X10_move 18 = .ok (.iconst (-1), 1) := by decide +kernel
theorem d_X10_move_19 : decode cm_X10_move 19 = .ok (.if_icmp .ge 10, 3) := by decide +kernel
theorem d_X10_move_22 : decode cm_X10_move 22 = .ok (.aload_n 0, 1) := by decide +kernel
theorem d_X10_move_23 : decode cm_X10_move 23 = .ok (.bipush (-4), 2) := by decide +kernel
theorem d_X10_move_25 : decode cm_X10_move 25 = .ok (.invokevirtual 80, 3) := by decide +kernel
theorem d_X10_move_28 : decode cm_X10_move 28 = .ok (.ireturn, 1) := by decide +kernel
theorem d_X10_move_29 : decode cm_X10_move 29 = .ok (.iload_n 1, 1) := by decide +kernel
theorem d_X10_move_30 : decode cm_X10_move 30 = .ok (.iconst (-1), 1) := by decide +kernel
theorem d_X10_move_31 : decode cm_X10_move 31 = .ok (.if_icmp .ne 11, 3) := by decide +kernel
theorem d_X10_move_34 : decode cm_X10_move 34 = .ok (.aload_n 0, 1) := by decide +kernel
theorem d_X10_move_35 : decode cm_X10_move 35 = .ok (.getfield 66, 3) := by decide +kernel
theorem d_X10_move_38 : decode cm_X10_move 38 = .ok (.getfield 133, 3) := by decide +kernel
theorem d_X10_move_41 : decode cm_X10_move 41 = .ok (.ireturn, 1) := by decide +kernel
theorem d_X10_move_42 : decode cm_X10_move 42 = .ok (.iload_n 1, 1) := by decide +kernel
theorem d_X10_move_43 : decode cm_X10_move 43 = .ok (.aload_n 0, 1) := by decide +kernel
theorem d_X10_move_44 : decode cm_X10_move 44 = .ok (.getfield 66, 3) := by decide +kernel
theorem d_X10_move_47 : decode cm_X10_move 47 = .ok (.getfield 133, 3) := by decide +kernel
theorem d_X10_move_50 : decode cm_X10_move 50 = .ok (.if_icmp .ge 18, 3) := by decide +kernel
theorem d_X10_move_53 : decode cm_X10_move 53 = .ok (.aload_n 0, 1) := by decide +kernel
theorem d_X10_move_54 : decode cm_X10_move 54 = .ok (.getfield 66, 3) := by decide +kernel
theorem d_X10_move_57 : decode cm_X10_move 57 = .ok (.getfield 138, 3) := by decide +kernel
theorem d_X10_move_60 : decode cm_X10_move 60 = .ok (.iload_n 1, 1) := by decide +kernel
theorem d_X10_move_61 : decode cm_X10_move 61 = .ok (.iaload, 1) := by decide +kernel
theorem d_X10_move_62 : decode cm_X10_move 62 = .ok (.invokestatic 141, 3) := by decide +kernel
theorem d_X10_move_65 : decode cm_X10_move 65 = .ok (.goto 5, 3) := by decide +kernel
theorem d_X10_move_68 : decode cm_X10_move 68 = .ok (.bipush (-9), 2) := by decide +kernel
theorem d_X10_move_70 : decode cm_X10_move 70 = .ok (.ireturn, 1) := by decide +kernel
def D_X10_move_0 (Q : Int32 → GSt → Prop) (x1 : Int32) (σ : GSt) : Prop :=
  (¬ (σ 53 3) = 0 → ((-1) ≤ x1 → (¬ x1 = (-1) → ((σ 53 2) ≤ x1 → Q (-9) σ) ∧
  (¬ (σ 53 2) ≤ x1 → vp_in x1 256 ∧ (D_X10_told (σ 55 (Int32.toNatClampNeg x1)) σ (fun r_1 σ_2 => Q r_1 σ_2)))) ∧
  (x1 = (-1) → Q (σ 53 2) σ)) ∧
  (¬ (-1) ≤ x1 → D_X10_refuse (-4) σ (fun r_3 σ_4 => Q r_3 σ_4))) ∧
  ((σ 53 3) = 0 → D_X10_refuse (-3) σ (fun r_5 σ_6 => Q r_5 σ_6))
def D_X10_move (x1 : Int32) (σ : GSt) (Q : Int32 → GSt → Prop) : Prop := D_X10_move_0 Q x1 σ
set_option maxRecDepth 20000 in
set_option maxHeartbeats 4000000 in
theorem s_X10_move_0 {p : Program} {l : Launch} {e : Env} {s : State} {m : MethodId} {args : Array Value} {below : List Frame} {meth : Method} {c : Code} {G : GC} (X : CallFix p m c cm_X10_move 2 s args lw_us "GameLoom") (hr : meth.sig.returnType = some .int) (hlk : meth.locks = false) (Q : Int32 → GSt → Prop) (x1 : Int32) (σ : GSt) {H : Heap} {locs : List Loc} {ls : Array Slot} (hw : Wo G s H locs σ) (hl : lv_has ls 2 [(0, .ref (G.2.1 0)), (1, .int x1)]) (hD : D_X10_move_0 Q x1 σ) : W p l e rm_X10_move s m args below meth c H locs 0 0 (QMI G Q below args s) (F0 m 0 ls []) := by
  unfold D_X10_move_0 at hD
  refine lv_aload_n X.1 X.2.1 d_X10_move_0 rfl (lv_at hl 0 rfl) ?_
  refine gf_10_10 X hw (by decide +kernel : kd 0 = 10) tb_383 d_X10_move_1 ?_
  refine gf_4_3 X hw ly_10_10 tb_357 d_X10_move_4 ?_
  refine lv_if_ne (tgt := 17) X.1 X.2.1 d_X10_move_7 (by decide) (fun q_7 => ?_) (fun q_7 => ?_)
  · have hD := hD.1 q_7
    refine lv_iload_n X.1 X.2.1 d_X10_move_17 rfl (lv_at hl 1 rfl) ?_
    refine lv_iconst (v := (-1)) X.1 X.2.1 d_X10_move_18 (by decide) ?_
    refine lv_icmp_ge (tgt := 29) X.1 X.2.1 d_X10_move_19 (by decide) (fun q_19 => ?_) (fun q_19 => ?_)
    · have hD := hD.1 q_19
      refine lv_iload_n X.1 X.2.1 d_X10_move_29 rfl (lv_at hl 1 rfl) ?_
      refine lv_iconst (v := (-1)) X.1 X.2.1 d_X10_move_30 (by decide) ?_
      refine lv_icmp_ne (tgt := 42) X.1 X.2.1 d_X10_move_31 (by decide) (fun q_31 => ?_) (fun q_31 => ?_)
      · have hD := hD.1 q_31
        refine lv_iload_n X.1 X.2.1 d_X10_move_42 rfl (lv_at hl 1 rfl) ?_
        refine lv_aload_n X.1 X.2.1 d_X10_move_43 rfl (lv_at hl 0 rfl) ?_
        refine gf_10_10 X hw (by decide +kernel : kd 0 = 10) tb_383 d_X10_move_44 ?_
        refine gf_4_2 X hw ly_10_10 tb_355 d_X10_move_47 ?_
        refine lv_icmp_ge (tgt := 68) X.1 X.2.1 d_X10_move_50 (by decide) (fun q_50 => ?_) (fun q_50 => ?_)
        · have hD := hD.1 q_50
          refine lv_bipush (v := (-9)) X.1 X.2.1 d_X10_move_68 (by decide) ?_
          exact g_iret X hr hlk hw hD d_X10_move_70
        · have hD := hD.2 q_50
          refine lv_aload_n X.1 X.2.1 d_X10_move_53 rfl (lv_at hl 0 rfl) ?_
          refine gf_10_10 X hw (by decide +kernel : kd 0 = 10) tb_383 d_X10_move_54 ?_
          refine gf_4_1 X hw ly_10_10 tb_353 d_X10_move_57 ?_
          refine lv_iload_n X.1 X.2.1 d_X10_move_60 rfl (lv_at hl 1 rfl) ?_
          obtain ⟨q_61, hD⟩ := hD
          refine g_iald X hw ly_4_1.1 ly_4_1.2 q_61 d_X10_move_61 ?_
          refine gcS_i (rest := []) (As := [.int (σ 55 (Int32.toNatClampNeg x1))]) X hw (c_X10_told l G (σ 55 (Int32.toNatClampNeg x1)) σ _  hD) tb_588 tb_589 tb_1 tb_590 hd_X10_told ⟨rfl, rfl⟩ ⟨Nat.le_of_ble_eq_true rfl, Nat.le_of_ble_eq_true rfl⟩ rfl hl.1 rfl (Nat.le_of_ble_eq_true rfl) d_X10_move_62 (fun r_1 σ_2 H locs hD hw => ?_)
          refine lv_goto (tgt := 70) X.1 X.2.1 d_X10_move_65 (by decide) ?_
          exact g_iret X hr hlk hw hD d_X10_move_70
      · have hD := hD.2 q_31
        refine lv_aload_n X.1 X.2.1 d_X10_move_34 rfl (lv_at hl 0 rfl) ?_
        refine gf_10_10 X hw (by decide +kernel : kd 0 = 10) tb_383 d_X10_move_35 ?_
        refine gf_4_2 X hw ly_10_10 tb_355 d_X10_move_38 ?_
        exact g_iret X hr hlk hw hD d_X10_move_41
    · have hD := hD.2 q_19
      refine lv_aload_n X.1 X.2.1 d_X10_move_22 rfl (lv_at hl 0 rfl) ?_
      refine lv_bipush (v := (-4)) X.1 X.2.1 d_X10_move_23 (by decide) ?_
      refine gcV_i (rest := []) (As := [.int (-4)]) (o := 0) X hw (c_X10_refuse l G (-4) σ _  hD) (kd_lt (by decide +kernel : kd 0 = 10) (by decide)) (ce_10 G _ (by decide +kernel : kd 0 = 10)) rfl tb_420 tb_422 tv_0 tb_1 tb_423 hd_X10_refuse ⟨rfl, rfl⟩ ⟨Nat.le_of_ble_eq_true rfl, Nat.le_of_ble_eq_true rfl⟩ rfl hl.1 rfl (Nat.le_of_ble_eq_true rfl) d_X10_move_25 (fun r_3 σ_4 H locs hD hw => ?_)
      exact g_iret X hr hlk hw hD d_X10_move_28
  · have hD := hD.2 q_7
    refine lv_aload_n X.1 X.2.1 d_X10_move_10 rfl (lv_at hl 0 rfl) ?_
    refine lv_bipush (v := (-3)) X.1 X.2.1 d_X10_move_11 (by decide) ?_
    refine gcV_i (rest := []) (As := [.int (-3)]) (o := 0) X hw (c_X10_refuse l G (-3) σ _  hD) (kd_lt (by decide +kernel : kd 0 = 10) (by decide)) (ce_10 G _ (by decide +kernel : kd 0 = 10)) rfl tb_420 tb_422 tv_0 tb_1 tb_423 hd_X10_refuse ⟨rfl, rfl⟩ ⟨Nat.le_of_ble_eq_true rfl, Nat.le_of_ble_eq_true rfl⟩ rfl hl.1 rfl (Nat.le_of_ble_eq_true rfl) d_X10_move_13 (fun r_5 σ_6 H locs hD hw => ?_)
    exact g_iret X hr hlk hw hD d_X10_move_16
theorem c_X10_move (l : Launch) (G : GC) (x1 : Int32) (σ : GSt) (Q : Int32 → GSt → Prop)  (hD : D_X10_move x1 σ Q) : MI l ym_X10_move cm_X10_move 2 .int rm_X10_move G σ [.ref (G.2.1 0), .int x1] Q := by
  refine met_i (by decide) (Nat.le_of_ble_eq_true rfl) ?_
  intro p e s m args below meth c X hr hlk hw ls hl
  exact s_X10_move_0 X hr hlk Q  x1 σ hw (lv_sub hl [0, 1] rfl) hD
theorem hd_X10_play : ym_X10_play.cls = "GameLoom" ∧ ym_X10_play.cls ≠ "java/lang/invoke/MethodHandle" ∧ ym_X10_play.cls ≠ "java/lang/invoke/VarHandle" ∧ (parseMethodDescriptor ym_X10_play.desc).map (fun d => d.parameters.length) = some 1 := by decide +kernel
abbrev rm_X10_play : Room := { frames := 4, cells := 0, slots := 0, locals := 104 }
theorem d_X10_play_0 : decode cm_X10_play 0 = .ok (.aload_n 0, 1) := by decide +kernel
theorem d_X10_play_1 : decode cm_X10_play 1 = .ok (.getfield 66, 3) := by decide +kernel
theorem d_X10_play_4 : decode cm_X10_play 4 = .ok (.invokevirtual 144, 3) := by decide +kernel
theorem d_X10_play_7 : decode cm_X10_play 7 = .ok (.ifCond .ne 10, 3) := by decide +kernel
theorem d_X10_play_10 : decode cm_X10_play 10 = .ok (.aload_n 0, 1) := by decide +kernel
theorem d_X10_play_11 : decode cm_X10_play 11 = .ok (.bipush (-3), 2) := by decide +kernel
theorem d_X10_play_13 : decode cm_X10_play 13 = .ok (.invokevirtual 80, 3) := by decide +kernel
theorem d_X10_play_16 : decode cm_X10_play 16 = .ok (.ireturn, 1) := by decide +kernel
theorem d_X10_play_17 : decode cm_X10_play 17 = .ok (.iload_n 1, 1) := by decide +kernel
theorem d_X10_play_18 : decode cm_X10_play 18 = .ok (.ifCond .ge 10, 3) := by decide +kernel
theorem d_X10_play_21 : decode cm_X10_play 21 = .ok (.aload_n 0, 1) := by decide +kernel
theorem d_X10_play_22 : decode cm_X10_play 22 = .ok (.bipush (-4), 2) := by decide +kernel
theorem d_X10_play_24 : decode cm_X10_play 24 = .ok (.invokevirtual 80, 3) := by decide +kernel
theorem d_X10_play_27 : decode cm_X10_play 27 = .ok (.ireturn, 1) := by decide +kernel
theorem d_X10_play_28 : decode cm_X10_play 28 = .ok (.iload_n 1, 1) := by decide +kernel
theorem d_X10_play_29 : decode cm_X10_play 29 = .ok (.aload_n 0, 1) := by decide +kernel
theorem d_X10_play_30 : decode cm_X10_play 30 = .ok (.getfield 66, 3) := by decide +kernel
theorem d_X10_play_33 : decode cm_X10_play 33 = .ok (.getfield 133, 3) := by decide +kernel
theorem d_X10_play_36 : decode cm_X10_play 36 = .ok (.if_icmp .lt 10, 3) := by decide +kernel
theorem d_X10_play_39 : decode cm_X10_play 39 = .ok (.aload_n 0, 1) := by decide +kernel
theorem d_X10_play_40 : decode cm_X10_play 40 = .ok (.bipush (-6), 2) := by decide +kernel
theorem d_X10_play_42 : decode cm_X10_play 42 = .ok (.invokevirtual 80, 3) := by decide +kernel
theorem d_X10_play_45 : decode cm_X10_play 45 = .ok (.ireturn, 1) := by decide +kernel
theorem d_X10_play_46 : decode cm_X10_play 46 = .ok (.aload_n 0, 1) := by decide +kernel
theorem d_X10_play_47 : decode cm_X10_play 47 = .ok (.getfield 66, 3) := by decide +kernel
theorem d_X10_play_50 : decode cm_X10_play 50 = .ok (.iload_n 1, 1) := by decide +kernel
theorem d_X10_play_51 : decode cm_X10_play 51 = .ok (.invokevirtual 148, 3) := by decide +kernel
theorem d_X10_play_54 : decode cm_X10_play 54 = .ok (.aload_n 0, 1) := by decide +kernel
theorem d_X10_play_55 : decode cm_X10_play 55 = .ok (.getfield 66, 3) := by decide +kernel
theorem d_X10_play_58 : decode cm_X10_play 58 = .ok (.getfield 151, 3) := by decide +kernel
theorem d_X10_play_61 : decode cm_X10_play 61 = .ok (.getfield 155, 3) := by decide +kernel
theorem d_X10_play_64 : decode cm_X10_play 64 = .ok (.ireturn, 1) := by decide +kernel
def D_X10_play_0 (Q : Int32 → GSt → Prop) (x1 : Int32) (σ : GSt) : Prop :=
  D_X4_goesOn  σ (fun r_1 σ_2 => (¬ r_1 = 0 → (0 ≤ x1 → (x1 < (σ_2 53 2) → D_X4_go x1 σ_2 (fun σ_3 => Q (σ_3 54 3) σ_3)) ∧
  (¬ x1 < (σ_2 53 2) → D_X10_refuse (-6) σ_2 (fun r_4 σ_5 => Q r_4 σ_5))) ∧
  (¬ 0 ≤ x1 → D_X10_refuse (-4) σ_2 (fun r_6 σ_7 => Q r_6 σ_7))) ∧
  (r_1 = 0 → D_X10_refuse (-3) σ_2 (fun r_8 σ_9 => Q r_8 σ_9)))
def D_X10_play (x1 : Int32) (σ : GSt) (Q : Int32 → GSt → Prop) : Prop := D_X10_play_0 Q x1 σ
set_option maxRecDepth 20000 in
set_option maxHeartbeats 4000000 in
theorem s_X10_play_0 {p : Program} {l : Launch} {e : Env} {s : State} {m : MethodId} {args : Array Value} {below : List Frame} {meth : Method} {c : Code} {G : GC} (X : CallFix p m c cm_X10_play 2 s args lw_us "GameLoom") (hr : meth.sig.returnType = some .int) (hlk : meth.locks = false) (Q : Int32 → GSt → Prop) (x1 : Int32) (σ : GSt) {H : Heap} {locs : List Loc} {ls : Array Slot} (hw : Wo G s H locs σ) (hl : lv_has ls 2 [(0, .ref (G.2.1 0)), (1, .int x1)]) (hD : D_X10_play_0 Q x1 σ) : W p l e rm_X10_play s m args below meth c H locs 0 0 (QMI G Q below args s) (F0 m 0 ls []) := by
  unfold D_X10_play_0 at hD
  refine lv_aload_n X.1 X.2.1 d_X10_play_0 rfl (lv_at hl 0 rfl) ?_
  refine gf_10_10 X hw (by decide +kernel : kd 0 = 10) tb_383 d_X10_play_1 ?_
  refine gcV_i (rest := []) (As := []) (o := 53) X hw (c_X4_goesOn l G  σ _  hD) (kd_lt ly_10_10 (by decide)) (ce_4 G _ ly_10_10) rfl tb_595 tb_596 tb_597 tb_11 tb_598 hd_X4_goesOn ⟨rfl, rfl⟩ ⟨Nat.le_of_ble_eq_true rfl, Nat.le_of_ble_eq_true rfl⟩ rfl hl.1 rfl (Nat.le_of_ble_eq_true rfl) d_X10_play_4 (fun r_1 σ_2 H locs hD hw => ?_)
  refine lv_if_ne (tgt := 17) X.1 X.2.1 d_X10_play_7 (by decide) (fun q_7 => ?_) (fun q_7 => ?_)
  · have hD := hD.1 q_7
    refine lv_iload_n X.1 X.2.1 d_X10_play_17 rfl (lv_at hl 1 rfl) ?_
    refine lv_if_ge (tgt := 28) X.1 X.2.1 d_X10_play_18 (by decide) (fun q_18 => ?_) (fun q_18 => ?_)
    · have hD := hD.1 q_18
      refine lv_iload_n X.1 X.2.1 d_X10_play_28 rfl (lv_at hl 1 rfl) ?_
      refine lv_aload_n X.1 X.2.1 d_X10_play_29 rfl (lv_at hl 0 rfl) ?_
      refine gf_10_10 X hw (by decide +kernel : kd 0 = 10) tb_383 d_X10_play_30 ?_
      refine gf_4_2 X hw ly_10_10 tb_355 d_X10_play_33 ?_
      refine lv_icmp_lt (tgt := 46) X.1 X.2.1 d_X10_play_36 (by decide) (fun q_36 => ?_) (fun q_36 => ?_)
      · have hD := hD.1 q_36
        refine lv_aload_n X.1 X.2.1 d_X10_play_46 rfl (lv_at hl 0 rfl) ?_
        refine gf_10_10 X hw (by decide +kernel : kd 0 = 10) tb_383 d_X10_play_47 ?_
        refine lv_iload_n X.1 X.2.1 d_X10_play_50 rfl (lv_at hl 1 rfl) ?_
        refine gcV_v (rest := []) (As := [.int x1]) (o := 53) X hw (c_X4_go l G x1 σ_2 _  hD) (kd_lt ly_10_10 (by decide)) (ce_4 G _ ly_10_10) rfl tb_599 tb_600 tb_601 tb_11 tb_602 hd_X4_go ⟨rfl, rfl⟩ ⟨Nat.le_of_ble_eq_true rfl, Nat.le_of_ble_eq_true rfl⟩ rfl hl.1 rfl (Nat.le_of_ble_eq_true rfl) d_X10_play_51 (fun σ_3 H locs hD hw => ?_)
        refine lv_aload_n X.1 X.2.1 d_X10_play_54 rfl (lv_at hl 0 rfl) ?_
        refine gf_10_10 X hw (by decide +kernel : kd 0 = 10) tb_383 d_X10_play_55 ?_
        refine gf_4_0 X hw ly_10_10 tb_351 d_X10_play_58 ?_
        refine gf_5_3 X hw ly_4_0 tb_253 d_X10_play_61 ?_
        exact g_iret X hr hlk hw hD d_X10_play_64
      · have hD := hD.2 q_36
        refine lv_aload_n X.1 X.2.1 d_X10_play_39 rfl (lv_at hl 0 rfl) ?_
        refine lv_bipush (v := (-6)) X.1 X.2.1 d_X10_play_40 (by decide) ?_
        refine gcV_i (rest := []) (As := [.int (-6)]) (o := 0) X hw (c_X10_refuse l G (-6) σ_2 _  hD) (kd_lt (by decide +kernel : kd 0 = 10) (by decide)) (ce_10 G _ (by decide +kernel : kd 0 = 10)) rfl tb_420 tb_422 tv_0 tb_1 tb_423 hd_X10_refuse ⟨rfl, rfl⟩ ⟨Nat.le_of_ble_eq_true rfl, Nat.le_of_ble_eq_true rfl⟩ rfl hl.1 rfl (Nat.le_of_ble_eq_true rfl) d_X10_play_42 (fun r_4 σ_5 H locs hD hw => ?_)
        exact g_iret X hr hlk hw hD d_X10_play_45
    · have hD := hD.2 q_18
      refine lv_aload_n X.1 X.2.1 d_X10_play_21 rfl (lv_at hl 0 rfl) ?_
      refine lv_bipush (v := (-4)) X.1 X.2.1 d_X10_play_22 (by decide) ?_
      refine gcV_i (rest := []) (As := [.int (-4)]) (o := 0) X hw (c_X10_refuse l G (-4) σ_2 _  hD) (kd_lt (by decide +kernel : kd 0 = 10) (by decide)) (ce_10 G _ (by decide +kernel : kd 0 = 10)) rfl tb_420 tb_422 tv_0 tb_1 tb_423 hd_X10_refuse ⟨rfl, rfl⟩ ⟨Nat.le_of_ble_eq_true rfl, Nat.le_of_ble_eq_true rfl⟩ rfl hl.1 rfl (Nat.le_of_ble_eq_true rfl) d_X10_play_24 (fun r_6 σ_7 H locs hD hw => ?_)
      exact g_iret X hr hlk hw hD d_X10_play_27
  · have hD := hD.2 q_7
    refine lv_aload_n X.1 X.2.1 d_X10_play_10 rfl (lv_at hl 0 rfl) ?_
    refine lv_bipush (v := (-3)) X.1 X.2.1 d_X10_play_11 (by decide) ?_
    refine gcV_i (rest := []) (As := [.int (-3)]) (o := 0) X hw (c_X10_refuse l G (-3) σ_2 _  hD) (kd_lt (by decide +kernel : kd 0 = 10) (by decide)) (ce_10 G _ (by decide +kernel : kd 0 = 10)) rfl tb_420 tb_422 tv_0 tb_1 tb_423 hd_X10_refuse ⟨rfl, rfl⟩ ⟨Nat.le_of_ble_eq_true rfl, Nat.le_of_ble_eq_true rfl⟩ rfl hl.1 rfl (Nat.le_of_ble_eq_true rfl) d_X10_play_13 (fun r_8 σ_9 H locs hD hw => ?_)
    exact g_iret X hr hlk hw hD d_X10_play_16
theorem c_X10_play (l : Launch) (G : GC) (x1 : Int32) (σ : GSt) (Q : Int32 → GSt → Prop)  (hD : D_X10_play x1 σ Q) : MI l ym_X10_play cm_X10_play 2 .int rm_X10_play G σ [.ref (G.2.1 0), .int x1] Q := by
  refine met_i (by decide) (Nat.le_of_ble_eq_true rfl) ?_
  intro p e s m args below meth c X hr hlk hw ls hl
  exact s_X10_play_0 X hr hlk Q  x1 σ hw (lv_sub hl [0, 1] rfl) hD
theorem hd_X10_back : ym_X10_back.cls = "GameLoom" ∧ ym_X10_back.cls ≠ "java/lang/invoke/MethodHandle" ∧ ym_X10_back.cls ≠ "java/lang/invoke/VarHandle" ∧ (parseMethodDescriptor ym_X10_back.desc).map (fun d => d.parameters.length) = some 0 := by decide +kernel
abbrev rm_X10_back : Room := { frames := 4, cells := 0, slots := 0, locals := 103 }
theorem d_X10_back_0 : decode cm_X10_back 0 = .ok (.aload_n 0, 1) := by decide +kernel
theorem d_X10_back_1 : decode cm_X10_back 1 = .ok (.getfield 66, 3) := by decide +kernel
theorem d_X10_back_4 : decode cm_X10_back 4 = .ok (.getfield 134, 3) := by decide +kernel
theorem d_X10_back_7 : decode cm_X10_back 7 = .ok (.ifCond .eq 17, 3) := by decide +kernel
theorem d_X10_back_10 : decode cm_X10_back 10 = .ok (.aload_n 0, 1) := by decide +kernel
theorem d_X10_back_11 : decode cm_X10_back 11 = .ok (.getfield 66, 3) := by decide +kernel
theorem d_X10_back_14 : decode cm_X10_back 14 = .ok (.getfield 151, 3) := by decide +kernel
theorem d_X10_back_17 : decode cm_X10_back 17 = .ok (.getfield 155, 3) := by decide +kernel
theorem d_X10_back_20 : decode cm_X10_back 20 = .ok (.iconst 1, 1) := by decide +kernel
theorem d_X10_back_21 : decode cm_X10_back 21 = .ok (.if_icmp .ge 10, 3) := by decide +kernel
theorem d_X10_back_24 : decode cm_X10_back 24 = .ok (.aload_n 0, 1) := by decide +kernel
theorem d_X10_back_25 : decode cm_X10_back 25 = .ok (.bipush (-3), 2) := by decide +kernel
theorem d_X10_back_27 : decode cm_X10_back 27 = .ok (.invokevirtual 80, 3) := by decide +kernel
theorem d_X10_back_30 : decode cm_X10_back 30 = .ok (.ireturn, 1) := by decide +kernel
theorem d_X10_back_31 : decode cm_X10_back 31 = .ok (.aload_n 0, 1) := by decide +kernel
theorem d_X10_back_32 : decode cm_X10_back 32 = .ok (.getfield 66, 3) := by decide +kernel
theorem d_X10_back_35 : decode cm_X10_back 35 = .ok (.invokevirtual 160, 3) := by decide +kernel
theorem d_X10_back_38 : decode cm_X10_back 38 = .ok (.aload_n 0, 1) := by decide +kernel
theorem d_X10_back_39 : decode cm_X10_back 39 = .ok (.getfield 66, 3) := by decide +kernel
theorem d_X10_back_42 : decode cm_X10_back 42 = .ok (.getfield 151, 3) := by decide +kernel
theorem d_X10_back_45 : decode cm_X10_back 45 = .ok (.getfield 155, 3) := by decide +kernel
theorem d_X10_back_48 : decode cm_X10_back 48 = .ok (.ireturn, 1) := by decide +kernel
def D_X10_back_24 (Q : Int32 → GSt → Prop) (σ : GSt) : Prop :=
  D_X10_refuse (-3) σ (fun r_1 σ_2 => Q r_1 σ_2)
def D_X10_back_0 (Q : Int32 → GSt → Prop) (σ : GSt) : Prop :=
  ((σ 53 3) = 0 → D_X10_back_24 Q σ) ∧
  (¬ (σ 53 3) = 0 → (1 ≤ (σ 54 3) → D_X4_undo  σ (fun σ_1 => Q (σ_1 54 3) σ_1)) ∧
  (¬ 1 ≤ (σ 54 3) → D_X10_back_24 Q σ))
def D_X10_back (σ : GSt) (Q : Int32 → GSt → Prop) : Prop := D_X10_back_0 Q σ
set_option maxRecDepth 20000 in
set_option maxHeartbeats 4000000 in
theorem s_X10_back_24 {p : Program} {l : Launch} {e : Env} {s : State} {m : MethodId} {args : Array Value} {below : List Frame} {meth : Method} {c : Code} {G : GC} (X : CallFix p m c cm_X10_back 1 s args lw_us "GameLoom") (hr : meth.sig.returnType = some .int) (hlk : meth.locks = false) (Q : Int32 → GSt → Prop) (σ : GSt) {H : Heap} {locs : List Loc} {ls : Array Slot} (hw : Wo G s H locs σ) (hl : lv_has ls 1 [(0, .ref (G.2.1 0))]) (hD : D_X10_back_24 Q σ) : W p l e rm_X10_back s m args below meth c H locs 0 0 (QMI G Q below args s) (F0 m 24 ls []) := by
  unfold D_X10_back_24 at hD
  refine lv_aload_n X.1 X.2.1 d_X10_back_24 rfl (lv_at hl 0 rfl) ?_
  refine lv_bipush (v := (-3)) X.1 X.2.1 d_X10_back_25 (by decide) ?_
  refine gcV_i (rest := []) (As := [.int (-3)]) (o := 0) X hw (c_X10_refuse l G (-3) σ _  hD) (kd_lt (by decide +kernel : kd 0 = 10) (by decide)) (ce_10 G _ (by decide +kernel : kd 0 = 10)) rfl tb_420 tb_422 tv_0 tb_1 tb_423 hd_X10_refuse ⟨rfl, rfl⟩ ⟨Nat.le_of_ble_eq_true rfl, Nat.le_of_ble_eq_true rfl⟩ rfl hl.1 rfl (Nat.le_of_ble_eq_true rfl) d_X10_back_27 (fun r_1 σ_2 H locs hD hw => ?_)
  exact g_iret X hr hlk hw hD d_X10_back_30
set_option maxRecDepth 20000 in
set_option maxHeartbeats 4000000 in
theorem s_X10_back_0 {p : Program} {l : Launch} {e : Env} {s : State} {m : MethodId} {args : Array Value} {below : List Frame} {meth : Method} {c : Code} {G : GC} (X : CallFix p m c cm_X10_back 1 s args lw_us "GameLoom") (hr : meth.sig.returnType = some .int) (hlk : meth.locks = false) (Q : Int32 → GSt → Prop) (σ : GSt) {H : Heap} {locs : List Loc} {ls : Array Slot} (hw : Wo G s H locs σ) (hl : lv_has ls 1 [(0, .ref (G.2.1 0))]) (hD : D_X10_back_0 Q σ) : W p l e rm_X10_back s m args below meth c H locs 0 0 (QMI G Q below args s) (F0 m 0 ls []) := by
  unfold D_X10_back_0 at hD
  refine lv_aload_n X.1 X.2.1 d_X10_back_0 rfl (lv_at hl 0 rfl) ?_
  refine gf_10_10 X hw (by decide +kernel : kd 0 = 10) tb_383 d_X10_back_1 ?_
  refine gf_4_3 X hw ly_10_10 tb_357 d_X10_back_4 ?_
  refine lv_if_eq (tgt := 24) X.1 X.2.1 d_X10_back_7 (by decide) (fun q_7 => ?_) (fun q_7 => ?_)
  · have hD := hD.1 q_7
    exact s_X10_back_24 X hr hlk  Q   σ hw (lv_sub hl [0] rfl) hD
  · have hD := hD.2 q_7
    refine lv_aload_n X.1 X.2.1 d_X10_back_10 rfl (lv_at hl 0 rfl) ?_
    refine gf_10_10 X hw (by decide +kernel : kd 0 = 10) tb_383 d_X10_back_11 ?_
    refine gf_4_0 X hw ly_10_10 tb_351 d_X10_back_14 ?_
    refine gf_5_3 X hw ly_4_0 tb_253 d_X10_back_17 ?_
    refine lv_iconst (v := 1) X.1 X.2.1 d_X10_back_20 (by decide) ?_
    refine lv_icmp_ge (tgt := 31) X.1 X.2.1 d_X10_back_21 (by decide) (fun q_21 => ?_) (fun q_21 => ?_)
    · have hD := hD.1 q_21
      refine lv_aload_n X.1 X.2.1 d_X10_back_31 rfl (lv_at hl 0 rfl) ?_
      refine gf_10_10 X hw (by decide +kernel : kd 0 = 10) tb_383 d_X10_back_32 ?_
      refine gcV_v (rest := []) (As := []) (o := 53) X hw (c_X4_undo l G  σ _  hD) (kd_lt ly_10_10 (by decide)) (ce_4 G _ ly_10_10) rfl tb_635 tb_636 tb_637 tb_11 tb_638 hd_X4_undo ⟨rfl, rfl⟩ ⟨Nat.le_of_ble_eq_true rfl, Nat.le_of_ble_eq_true rfl⟩ rfl hl.1 rfl (Nat.le_of_ble_eq_true rfl) d_X10_back_35 (fun σ_1 H locs hD hw => ?_)
      refine lv_aload_n X.1 X.2.1 d_X10_back_38 rfl (lv_at hl 0 rfl) ?_
      refine gf_10_10 X hw (by decide +kernel : kd 0 = 10) tb_383 d_X10_back_39 ?_
      refine gf_4_0 X hw ly_10_10 tb_351 d_X10_back_42 ?_
      refine gf_5_3 X hw ly_4_0 tb_253 d_X10_back_45 ?_
      exact g_iret X hr hlk hw hD d_X10_back_48
    · have hD := hD.2 q_21
      exact s_X10_back_24 X hr hlk  Q   σ hw (lv_sub hl [0] rfl) hD
theorem c_X10_back (l : Launch) (G : GC) (σ : GSt) (Q : Int32 → GSt → Prop)  (hD : D_X10_back  σ Q) : MI l ym_X10_back cm_X10_back 1 .int rm_X10_back G σ [.ref (G.2.1 0)] Q := by
  refine met_i (by decide) (Nat.le_of_ble_eq_true rfl) ?_
  intro p e s m args below meth c X hr hlk hw ls hl
  exact s_X10_back_0 X hr hlk Q   σ hw (lv_sub hl [0] rfl) hD
theorem hd_X10_state : ym_X10_state.cls = "GameLoom" ∧ ym_X10_state.cls ≠ "java/lang/invoke/MethodHandle" ∧ ym_X10_state.cls ≠ "java/lang/invoke/VarHandle" ∧ (parseMethodDescriptor ym_X10_state.desc).map (fun d => d.parameters.length) = some 1 := by decide +kernel
abbrev rm_X10_state : Room := { frames := 3, cells := 0, slots := 0, locals := 72 }
theorem d_X10_state_0 : decode cm_X10_state 0 = .ok (.aload_n 0, 1) := by decide +kernel
theorem d_X10_state_1 : decode cm_X10_state 1 = .ok (.getfield 66, 3) := by decide +kernel
theorem d_X10_state_4 : decode cm_X10_state 4 = .ok (.getfield 134, 3) := by decide +kernel
theorem d_X10_state_7 : decode cm_X10_state 7 = .ok (.ifCond .ne 10, 3) := by decide +kernel
theorem d_X10_state_10 : decode cm_X10_state 10 = .ok (.aload_n 0, 1) := by decide +kernel
theorem d_X10_state_11 : decode cm_X10_state 11 = .ok (.bipush (-3), 2) := by decide +kernel
theorem d_X10_state_13 : decode cm_X10_state 13 = .ok (.invokevirtual 80, 3) := by decide +kernel
theorem d_X10_state_16 : decode cm_X10_state 16 = .ok (.ireturn, 1) := by decide +kernel
theorem d_X10_state_17 : decode cm_X10_state 17 = .ok (.aload_n 0, 1) := by decide +kernel
theorem d_X10_state_18 : decode cm_X10_state 18 = .ok (.getfield 66, 3) := by decide +kernel
theorem d_X10_state_21 : decode cm_X10_state 21 = .ok (.getfield 151, 3) := by decide +kernel
theorem d_X10_state_24 : decode cm_X10_state 24 = .ok (.astore_n 2, 1) := by decide +kernel
theorem d_X10_state_25 : decode cm_X10_state 25 = .ok (.iload_n 1, 1) := by decide +kernel
theorem d_X10_state_26 : decode cm_X10_state 26 = .ok (.tableswitch 102 0 8 #[50, 55, 60, 65, 70, 75, 81, 86, 94], 50) := by decide +kernel
theorem d_X10_state_76 : decode cm_X10_state 76 = .ok (.aload_n 2, 1) := by decide +kernel
theorem d_X10_state_77 : decode cm_X10_state 77 = .ok (.getfield 155, 3) := by decide +kernel
theorem d_X10_state_80 : decode cm_X10_state 80 = .ok (.ireturn, 1) := by decide +kernel
theorem d_X10_state_81 : decode cm_X10_state 81 = .ok (.aload_n 2, 1) := by decide +kernel
theorem d_X10_state_82 : decode cm_X10_state 82 = .ok (.invokevirtual 163, 3) := by decide +kernel
theorem d_X10_state_85 : decode cm_X10_state 85 = .ok (.ireturn, 1) := by decide +kernel
theorem d_X10_state_86 : decode cm_X10_state 86 = .ok (.aload_n 2, 1) := by decide +kernel
theorem d_X10_state_87 : decode cm_X10_state 87 = .ok (.getfield 166, 3) := by decide +kernel
theorem d_X10_state_90 : decode cm_X10_state 90 = .ok (.ireturn, 1) := by decide +kernel
theorem d_X10_state_91 : decode cm_X10_state 91 = .ok (.aload_n 2, 1) := by decide +kernel
theorem d_X10_state_92 : decode cm_X10_state 92 = .ok (.getfield 169, 3) := by decide +kernel
theorem d_X10_state_95 : decode cm_X10_state 95 = .ok (.ireturn, 1) := by decide +kernel
theorem d_X10_state_96 : decode cm_X10_state 96 = .ok (.aload_n 2, 1) := by decide +kernel
theorem d_X10_state_97 : decode cm_X10_state 97 = .ok (.getfield 172, 3) := by decide +kernel
theorem d_X10_state_100 : decode cm_X10_state 100 = .ok (.ireturn, 1) := by decide +kernel
theorem d_X10_state_101 : decode cm_X10_state 101 = .ok (.aload_n 2, 1) := by decide +kernel
theorem d_X10_state_102 : decode cm_X10_state 102 = .ok (.iconst 0, 1) := by decide +kernel
theorem d_X10_state_103 : decode cm_X10_state 103 = .ok (.invokevirtual 175, 3) := by decide +kernel
theorem d_X10_state_106 : decode cm_X10_state 106 = .ok (.ireturn, 1) := by decide +kernel
theorem d_X10_state_107 : decode cm_X10_state 107 = .ok (.aload_n 2, 1) := by decide +kernel
theorem d_X10_state_108 : decode cm_X10_state 108 = .ok (.invokevirtual 178, 3) := by decide +kernel
theorem d_X10_state_111 : decode cm_X10_state 111 = .ok (.ireturn, 1) := by decide +kernel
theorem d_X10_state_112 : decode cm_X10_state 112 = .ok (.aload_n 2, 1) := by decide +kernel
theorem d_X10_state_113 : decode cm_X10_state 113 = .ok (.getfield 181, 3) := by decide +kernel
theorem d_X10_state_116 : decode cm_X10_state 116 = .ok (.invokestatic 184, 3) := by decide +kernel
theorem d_X10_state_119 : decode cm_X10_state 119 = .ok (.ireturn, 1) := by decide +kernel
theorem d_X10_state_120 : decode cm_X10_state 120 = .ok (.aload_n 2, 1) := by decide +kernel
theorem d_X10_state_121 : decode cm_X10_state 121 = .ok (.getfield 189, 3) := by decide +kernel
theorem d_X10_state_124 : decode cm_X10_state 124 = .ok (.invokestatic 184, 3) := by decide +kernel
theorem d_X10_state_127 : decode cm_X10_state 127 = .ok (.ireturn, 1) := by decide +kernel
theorem d_X10_state_128 : decode cm_X10_state 128 = .ok (.aload_n 0, 1) := by decide +kernel
theorem d_X10_state_129 : decode cm_X10_state 129 = .ok (.bipush (-2), 2) := by decide +kernel
theorem d_X10_state_131 : decode cm_X10_state 131 = .ok (.invokevirtual 80, 3) := by decide +kernel
theorem d_X10_state_134 : decode cm_X10_state 134 = .ok (.ireturn, 1) := by decide +kernel
def D_X10_state_0 (Q : Int32 → GSt → Prop) (x1 : Int32) (σ : GSt) : Prop :=
  (¬ (σ 53 3) = 0 → ((x1 < 0 ∨ 8 < x1) → D_X10_refuse (-2) σ (fun r_1 σ_2 => Q r_1 σ_2)) ∧
  (x1 = 0 → Q (σ 54 3) σ) ∧
  (x1 = 1 → D_X5_side 54 σ (fun r_3 σ_4 => Q r_3 σ_4)) ∧
  (x1 = 2 → Q (σ 54 4) σ) ∧
  (x1 = 3 → Q (σ 54 5) σ) ∧
  (x1 = 4 → Q (σ 54 6) σ) ∧
  (x1 = 5 → D_X5_codeTurned 54 0 σ (fun r_5 σ_6 => Q r_5 σ_6)) ∧
  (x1 = 6 → D_X5_name 54 σ (fun r_7 σ_8 => Q r_7 σ_8)) ∧
  (x1 = 7 → D_J6_bitCount_0f7a4 (σ 54 1) σ (fun r_9 σ_10 => Q r_9 σ_10)) ∧
  (x1 = 8 → D_J6_bitCount_0f7a4 (σ 54 2) σ (fun r_11 σ_12 => Q r_11 σ_12))) ∧
  ((σ 53 3) = 0 → D_X10_refuse (-3) σ (fun r_13 σ_14 => Q r_13 σ_14))
def D_X10_state (x1 : Int32) (σ : GSt) (Q : Int32 → GSt → Prop) : Prop := D_X10_state_0 Q x1 σ
set_option maxRecDepth 20000 in
set_option maxHeartbeats 4000000 in
theorem s_X10_state_0 {p : Program} {l : Launch} {e : Env} {s : State} {m : MethodId} {args : Array Value} {below : List Frame} {meth : Method} {c : Code} {G : GC} (X : CallFix p m c cm_X10_state 3 s args lw_us "GameLoom") (hr : meth.sig.returnType = some .int) (hlk : meth.locks = false) (Q : Int32 → GSt → Prop) (x1 : Int32) (σ : GSt) {H : Heap} {locs : List Loc} {ls : Array Slot} (hw : Wo G s H locs σ) (hl : lv_has ls 3 [(0, .ref (G.2.1 0)), (1, .int x1)]) (hD : D_X10_state_0 Q x1 σ) : W p l e rm_X10_state s m args below meth c H locs 0 0 (QMI G Q below args s) (F0 m 0 ls []) := by
  unfold D_X10_state_0 at hD
  refine lv_aload_n X.1 X.2.1 d_X10_state_0 rfl (lv_at hl 0 rfl) ?_
  refine gf_10_10 X hw (by decide +kernel : kd 0 = 10) tb_383 d_X10_state_1 ?_
  refine gf_4_3 X hw ly_10_10 tb_357 d_X10_state_4 ?_
  refine lv_if_ne (tgt := 17) X.1 X.2.1 d_X10_state_7 (by decide) (fun q_7 => ?_) (fun q_7 => ?_)
  · have hD := hD.1 q_7
    refine lv_aload_n X.1 X.2.1 d_X10_state_17 rfl (lv_at hl 0 rfl) ?_
    refine gf_10_10 X hw (by decide +kernel : kd 0 = 10) tb_383 d_X10_state_18 ?_
    refine gf_4_0 X hw ly_10_10 tb_351 d_X10_state_21 ?_
    refine lv_astore_n (lv' := [(2, .ref (G.2.1 54)), (0, .ref (G.2.1 0)), (1, .int x1)]) X.1 X.2.1 d_X10_state_24 rfl hl (by decide) rfl (fun ls hl => ?_)
    refine lv_iload_n X.1 X.2.1 d_X10_state_25 rfl (lv_at hl 2 rfl) ?_
    by_cases q_26 : x1 < 0 ∨ 8 < x1
    · have hD := hD.1 q_26
      refine lv_tableOut (tgt := 128) X.1 X.2.1 d_X10_state_26 (sw_out (n := 8) (by decide) q_26) (by decide) ?_
      refine lv_aload_n X.1 X.2.1 d_X10_state_128 rfl (lv_at hl 1 rfl) ?_
      refine lv_bipush (v := (-2)) X.1 X.2.1 d_X10_state_129 (by decide) ?_
      refine gcV_i (rest := []) (As := [.int (-2)]) (o := 0) X hw (c_X10_refuse l G (-2) σ _  hD) (kd_lt (by decide +kernel : kd 0 = 10) (by decide)) (ce_10 G _ (by decide +kernel : kd 0 = 10)) rfl tb_420 tb_422 tv_0 tb_1 tb_423 hd_X10_refuse ⟨rfl, rfl⟩ ⟨Nat.le_of_ble_eq_true rfl, Nat.le_of_ble_eq_true rfl⟩ rfl hl.1 rfl (Nat.le_of_ble_eq_true rfl) d_X10_state_131 (fun r_1 σ_2 H locs hD hw => ?_)
      exact g_iret X hr hlk hw hD d_X10_state_134
    · obtain ⟨j_26, hj, ej⟩ := sw_in (n := 8) (by decide) q_26
      have hD := hD.2
      rcases (show j_26 = 0 ∨ j_26 = 1 ∨ j_26 = 2 ∨ j_26 = 3 ∨ j_26 = 4 ∨ j_26 = 5 ∨ j_26 = 6 ∨ j_26 = 7 ∨ j_26 = 8 by omega) with rfl | rfl | rfl | rfl | rfl | rfl | rfl | rfl | rfl
      · have hD := hD.1 ej
        refine lv_tableIn (tgt := 76) X.1 X.2.1 d_X10_state_26 (by rw [ej]; decide) (by rw [ej]; decide) (by rw [ej]; rfl) (by decide) ?_
        refine lv_aload_n X.1 X.2.1 d_X10_state_76 rfl (lv_at hl 0 rfl) ?_
        refine gf_5_3 X hw ly_4_0 tb_253 d_X10_state_77 ?_
        exact g_iret X hr hlk hw hD d_X10_state_80
      · have hD := hD.2.1 ej
        refine lv_tableIn (tgt := 81) X.1 X.2.1 d_X10_state_26 (by rw [ej]; decide) (by rw [ej]; decide) (by rw [ej]; rfl) (by decide) ?_
        refine lv_aload_n X.1 X.2.1 d_X10_state_81 rfl (lv_at hl 0 rfl) ?_
        refine gcV_i (rest := []) (As := []) (o := 54) X hw (c_X5_side l G 54 σ _ ly_4_0 hD) (kd_lt ly_4_0 (by decide)) (ce_5 G _ ly_4_0) rfl tb_647 tb_608 tb_609 tb_9 tb_610 hd_X5_side ⟨rfl, rfl⟩ ⟨Nat.le_of_ble_eq_true rfl, Nat.le_of_ble_eq_true rfl⟩ rfl hl.1 rfl (Nat.le_of_ble_eq_true rfl) d_X10_state_82 (fun r_3 σ_4 H locs hD hw => ?_)
        exact g_iret X hr hlk hw hD d_X10_state_85
      · have hD := hD.2.2.1 ej
        refine lv_tableIn (tgt := 86) X.1 X.2.1 d_X10_state_26 (by rw [ej]; decide) (by rw [ej]; decide) (by rw [ej]; rfl) (by decide) ?_
        refine lv_aload_n X.1 X.2.1 d_X10_state_86 rfl (lv_at hl 0 rfl) ?_
        refine gf_5_4 X hw ly_4_0 tb_259 d_X10_state_87 ?_
        exact g_iret X hr hlk hw hD d_X10_state_90
      · have hD := hD.2.2.2.1 ej
        refine lv_tableIn (tgt := 91) X.1 X.2.1 d_X10_state_26 (by rw [ej]; decide) (by rw [ej]; decide) (by rw [ej]; rfl) (by decide) ?_
        refine lv_aload_n X.1 X.2.1 d_X10_state_91 rfl (lv_at hl 0 rfl) ?_
        refine gf_5_5 X hw ly_4_0 tb_263 d_X10_state_92 ?_
        exact g_iret X hr hlk hw hD d_X10_state_95
      · have hD := hD.2.2.2.2.1 ej
        refine lv_tableIn (tgt := 96) X.1 X.2.1 d_X10_state_26 (by rw [ej]; decide) (by rw [ej]; decide) (by rw [ej]; rfl) (by decide) ?_
        refine lv_aload_n X.1 X.2.1 d_X10_state_96 rfl (lv_at hl 0 rfl) ?_
        refine gf_5_6 X hw ly_4_0 tb_266 d_X10_state_97 ?_
        exact g_iret X hr hlk hw hD d_X10_state_100
      · have hD := hD.2.2.2.2.2.1 ej
        refine lv_tableIn (tgt := 101) X.1 X.2.1 d_X10_state_26 (by rw [ej]; decide) (by rw [ej]; decide) (by rw [ej]; rfl) (by decide) ?_
        refine lv_aload_n X.1 X.2.1 d_X10_state_101 rfl (lv_at hl 0 rfl) ?_
        refine lv_iconst (v := 0) X.1 X.2.1 d_X10_state_102 (by decide) ?_
        refine gcV_i (rest := []) (As := [.int 0]) (o := 54) X hw (c_X5_codeTurned l G 54 0 σ _ ly_4_0 hD) (kd_lt ly_4_0 (by decide)) (ce_5 G _ ly_4_0) rfl tb_648 tb_649 tb_650 tb_9 tb_651 hd_X5_codeTurned ⟨rfl, rfl⟩ ⟨Nat.le_of_ble_eq_true rfl, Nat.le_of_ble_eq_true rfl⟩ rfl hl.1 rfl (Nat.le_of_ble_eq_true rfl) d_X10_state_103 (fun r_5 σ_6 H locs hD hw => ?_)
        exact g_iret X hr hlk hw hD d_X10_state_106
      · have hD := hD.2.2.2.2.2.2.1 ej
        refine lv_tableIn (tgt := 107) X.1 X.2.1 d_X10_state_26 (by rw [ej]; decide) (by rw [ej]; decide) (by rw [ej]; rfl) (by decide) ?_
        refine lv_aload_n X.1 X.2.1 d_X10_state_107 rfl (lv_at hl 0 rfl) ?_
        refine gcV_i (rest := []) (As := []) (o := 54) X hw (c_X5_name l G 54 σ _ ly_4_0 hD) (kd_lt ly_4_0 (by decide)) (ce_5 G _ ly_4_0) rfl tb_656 tb_657 tb_658 tb_9 tb_659 hd_X5_name ⟨rfl, rfl⟩ ⟨Nat.le_of_ble_eq_true rfl, Nat.le_of_ble_eq_true rfl⟩ rfl hl.1 rfl (Nat.le_of_ble_eq_true rfl) d_X10_state_108 (fun r_7 σ_8 H locs hD hw => ?_)
        exact g_iret X hr hlk hw hD d_X10_state_111
      · have hD := hD.2.2.2.2.2.2.2.1 ej
        refine lv_tableIn (tgt := 112) X.1 X.2.1 d_X10_state_26 (by rw [ej]; decide) (by rw [ej]; decide) (by rw [ej]; rfl) (by decide) ?_
        refine lv_aload_n X.1 X.2.1 d_X10_state_112 rfl (lv_at hl 0 rfl) ?_
        refine gf_5_1 X hw ly_4_0 tb_244 d_X10_state_113 ?_
        refine gcS_i (rest := []) (As := [.int (σ 54 1)]) X hw (c_J6_bitCount_0f7a4 l G (σ 54 1) σ _  hD) tb_664 tb_560 tb_13 tb_561 hd_J6_bitCount_0f7a4 ⟨rfl, rfl⟩ ⟨Nat.le_of_ble_eq_true rfl, Nat.le_of_ble_eq_true rfl⟩ rfl hl.1 rfl (Nat.le_of_ble_eq_true rfl) d_X10_state_116 (fun r_9 σ_10 H locs hD hw => ?_)
        exact g_iret X hr hlk hw hD d_X10_state_119
      · have hD := hD.2.2.2.2.2.2.2.2 ej
        refine lv_tableIn (tgt := 120) X.1 X.2.1 d_X10_state_26 (by rw [ej]; decide) (by rw [ej]; decide) (by rw [ej]; rfl) (by decide) ?_
        refine lv_aload_n X.1 X.2.1 d_X10_state_120 rfl (lv_at hl 0 rfl) ?_
        refine gf_5_2 X hw ly_4_0 tb_249 d_X10_state_121 ?_
        refine gcS_i (rest := []) (As := [.int (σ 54 2)]) X hw (c_J6_bitCount_0f7a4 l G (σ 54 2) σ _  hD) tb_664 tb_560 tb_13 tb_561 hd_J6_bitCount_0f7a4 ⟨rfl, rfl⟩ ⟨Nat.le_of_ble_eq_true rfl, Nat.le_of_ble_eq_true rfl⟩ rfl hl.1 rfl (Nat.le_of_ble_eq_true rfl) d_X10_state_124 (fun r_11 σ_12 H locs hD hw => ?_)
        exact g_iret X hr hlk hw hD d_X10_state_127
  · have hD := hD.2 q_7
    refine lv_aload_n X.1 X.2.1 d_X10_state_10 rfl (lv_at hl 0 rfl) ?_
    refine lv_bipush (v := (-3)) X.1 X.2.1 d_X10_state_11 (by decide) ?_
    refine gcV_i (rest := []) (As := [.int (-3)]) (o := 0) X hw (c_X10_refuse l G (-3) σ _  hD) (kd_lt (by decide +kernel : kd 0 = 10) (by decide)) (ce_10 G _ (by decide +kernel : kd 0 = 10)) rfl tb_420 tb_422 tv_0 tb_1 tb_423 hd_X10_refuse ⟨rfl, rfl⟩ ⟨Nat.le_of_ble_eq_true rfl, Nat.le_of_ble_eq_true rfl⟩ rfl hl.1 rfl (Nat.le_of_ble_eq_true rfl) d_X10_state_13 (fun r_13 σ_14 H locs hD hw => ?_)
    exact g_iret X hr hlk hw hD d_X10_state_16
theorem c_X10_state (l : Launch) (G : GC) (x1 : Int32) (σ : GSt) (Q : Int32 → GSt → Prop)  (hD : D_X10_state x1 σ Q) : MI l ym_X10_state cm_X10_state 3 .int rm_X10_state G σ [.ref (G.2.1 0), .int x1] Q := by
  refine met_i (by decide) (Nat.le_of_ble_eq_true rfl) ?_
  intro p e s m args below meth c X hr hlk hw ls hl
  exact s_X10_state_0 X hr hlk Q  x1 σ hw (lv_sub hl [0, 1] rfl) hD
theorem hd_X10_cell : ym_X10_cell.cls = "GameLoom" ∧ ym_X10_cell.cls ≠ "java/lang/invoke/MethodHandle" ∧ ym_X10_cell.cls ≠ "java/lang/invoke/VarHandle" ∧ (parseMethodDescriptor ym_X10_cell.desc).map (fun d => d.parameters.length) = some 1 := by decide +kernel
abbrev rm_X10_cell : Room := { frames := 1, cells := 0, slots := 0, locals := 21 }
theorem d_X10_cell_0 : decode cm_X10_cell 0 = .ok (.aload_n 0, 1) := by decide +kernel
theorem d_X10_cell_1 : decode cm_X10_cell 1 = .ok (.getfield 66, 3) := by decide +kernel
theorem d_X10_cell_4 : decode cm_X10_cell 4 = .ok (.getfield 134, 3) := by decide +kernel
theorem d_X10_cell_7 : decode cm_X10_cell 7 = .ok (.ifCond .ne 10, 3) := by decide +kernel
theorem d_X10_cell_10 : decode cm_X10_cell 10 = .ok (.aload_n 0, 1) := by decide +kernel
theorem d_X10_cell_11 : decode cm_X10_cell 11 = .ok (.bipush (-3), 2) := by decide +kernel
theorem d_X10_cell_13 : decode cm_X10_cell 13 = .ok (.invokevirtual 80, 3) := by decide +kernel
theorem d_X10_cell_16 : decode cm_X10_cell 16 = .ok (.ireturn, 1) := by decide +kernel
theorem d_X10_cell_17 : decode cm_X10_cell 17 = .ok (.iload_n 1, 1) := by decide +kernel
theorem d_X10_cell_18 : decode cm_X10_cell 18 = .ok (.ifCond .lt 23, 3) := by decide +kernel
theorem d_X10_cell_21 : decode cm_X10_cell 21 = .ok (.iload_n 1, 1) := by decide +kernel
theorem d_X10_cell_22 : decode cm_X10_cell 22 = .ok (.aload_n 0, 1) := by decide +kernel
theorem d_X10_cell_23 : decode cm_X10_cell 23 = .ok (.getfield 66, 3) := by decide +kernel
theorem d_X10_cell_26 : decode cm_X10_cell 26 = .ok (.getfield 151, 3) := by decide +kernel
theorem d_X10_cell_29 : decode cm_X10_cell 29 = .ok (.getfield 192, 3) := by decide +kernel
theorem d_X10_cell_32 : decode cm_X10_cell 32 = .ok (.getfield 103, 3) := by decide +kernel
theorem d_X10_cell_35 : decode cm_X10_cell 35 = .ok (.getfield 195, 3) := by decide +kernel
theorem d_X10_cell_38 : decode cm_X10_cell 38 = .ok (.if_icmp .lt 9, 3) := by decide +kernel
theorem d_X10_cell_41 : decode cm_X10_cell 41 = .ok (.aload_n 0, 1) := by decide +kernel
theorem d_X10_cell_42 : decode cm_X10_cell 42 = .ok (.iconst (-1), 1) := by decide +kernel
theorem d_X10_cell_43 : decode cm_X10_cell 43 = .ok (.invokevirtual 80, 3) := by decide +kernel
theorem d_X10_cell_46 : decode cm_X10_cell 46 = .ok (.ireturn, 1) := by decide +kernel
theorem d_X10_cell_47 : decode cm_X10_cell 47 = .ok (.aload_n 0, 1) := by decide +kernel
theorem d_X10_cell_48 : decode cm_X10_cell 48 = .ok (.getfield 66, 3) := by decide +kernel
theorem d_X10_cell_51 : decode cm_X10_cell 51 = .ok (.getfield 151, 3) := by decide +kernel
theorem d_X10_cell_54 : decode cm_X10_cell 54 = .ok (.iload_n 1, 1) := by decide +kernel
theorem d_X10_cell_55 : decode cm_X10_cell 55 = .ok (.invokevirtual 198, 3) := by decide +kernel
theorem d_X10_cell_58 : decode cm_X10_cell 58 = .ok (.ireturn, 1) := by decide +kernel
def D_X10_cell_41 (Q : Int32 → GSt → Prop) (σ : GSt) : Prop :=
  D_X10_refuse (-1) σ (fun r_1 σ_2 => Q r_1 σ_2)
def D_X10_cell_0 (Q : Int32 → GSt → Prop) (x1 : Int32) (σ : GSt) : Prop :=
  (¬ (σ 53 3) = 0 → (x1 < 0 → D_X10_cell_41 Q σ) ∧
  (¬ x1 < 0 → (¬ σ 54 0 < 0 ∧ kd (σ 54 0).toNatClampNeg = 1) ∧ ((x1 < (σ (((σ 54 0).toNatClampNeg) + 3) 2) → D_X5_pieceOn 54 x1 σ (fun r_1 σ_2 => Q r_1 σ_2)) ∧
  (¬ x1 < (σ (((σ 54 0).toNatClampNeg) + 3) 2) → D_X10_cell_41 Q σ)))) ∧
  ((σ 53 3) = 0 → D_X10_refuse (-3) σ (fun r_3 σ_4 => Q r_3 σ_4))
def D_X10_cell (x1 : Int32) (σ : GSt) (Q : Int32 → GSt → Prop) : Prop := D_X10_cell_0 Q x1 σ
set_option maxRecDepth 20000 in
set_option maxHeartbeats 4000000 in
theorem s_X10_cell_41 {p : Program} {l : Launch} {e : Env} {s : State} {m : MethodId} {args : Array Value} {below : List Frame} {meth : Method} {c : Code} {G : GC} (X : CallFix p m c cm_X10_cell 2 s args lw_us "GameLoom") (hr : meth.sig.returnType = some .int) (hlk : meth.locks = false) (Q : Int32 → GSt → Prop) (σ : GSt) {H : Heap} {locs : List Loc} {ls : Array Slot} (hw : Wo G s H locs σ) (hl : lv_has ls 2 [(0, .ref (G.2.1 0))]) (hD : D_X10_cell_41 Q σ) : W p l e rm_X10_cell s m args below meth c H locs 0 0 (QMI G Q below args s) (F0 m 41 ls []) := by
  unfold D_X10_cell_41 at hD
  refine lv_aload_n X.1 X.2.1 d_X10_cell_41 rfl (lv_at hl 0 rfl) ?_
  refine lv_iconst (v := (-1)) X.1 X.2.1 d_X10_cell_42 (by decide) ?_
  refine gcV_i (rest := []) (As := [.int (-1)]) (o := 0) X hw (c_X10_refuse l G (-1) σ _  hD) (kd_lt (by decide +kernel : kd 0 = 10) (by decide)) (ce_10 G _ (by decide +kernel : kd 0 = 10)) rfl tb_420 tb_422 tv_0 tb_1 tb_423 hd_X10_refuse ⟨rfl, rfl⟩ ⟨Nat.le_of_ble_eq_true rfl, Nat.le_of_ble_eq_true rfl⟩ rfl hl.1 rfl (Nat.le_of_ble_eq_true rfl) d_X10_cell_43 (fun r_1 σ_2 H locs hD hw => ?_)
  exact g_iret X hr hlk hw hD d_X10_cell_46
set_option maxRecDepth 20000 in
set_option maxHeartbeats 4000000 in
theorem s_X10_cell_0 {p : Program} {l : Launch} {e : Env} {s : State} {m : MethodId} {args : Array Value} {below : List Frame} {meth : Method} {c : Code} {G : GC} (X : CallFix p m c cm_X10_cell 2 s args lw_us "GameLoom") (hr : meth.sig.returnType = some .int) (hlk : meth.locks = false) (Q : Int32 → GSt → Prop) (x1 : Int32) (σ : GSt) {H : Heap} {locs : List Loc} {ls : Array Slot} (hw : Wo G s H locs σ) (hl : lv_has ls 2 [(0, .ref (G.2.1 0)), (1, .int x1)]) (hD : D_X10_cell_0 Q x1 σ) : W p l e rm_X10_cell s m args below meth c H locs 0 0 (QMI G Q below args s) (F0 m 0 ls []) := by
  unfold D_X10_cell_0 at hD
  refine lv_aload_n X.1 X.2.1 d_X10_cell_0 rfl (lv_at hl 0 rfl) ?_
  refine gf_10_10 X hw (by decide +kernel : kd 0 = 10) tb_383 d_X10_cell_1 ?_
  refine gf_4_3 X hw ly_10_10 tb_357 d_X10_cell_4 ?_
  refine lv_if_ne (tgt := 17) X.1 X.2.1 d_X10_cell_7 (by decide) (fun q_7 => ?_) (fun q_7 => ?_)
  · have hD := hD.1 q_7
    refine lv_iload_n X.1 X.2.1 d_X10_cell_17 rfl (lv_at hl 1 rfl) ?_
    refine lv_if_lt (tgt := 41) X.1 X.2.1 d_X10_cell_18 (by decide) (fun q_18 => ?_) (fun q_18 => ?_)
    · have hD := hD.1 q_18
      exact s_X10_cell_41 X hr hlk  Q   σ hw (lv_sub hl [0] rfl) hD
    · have hD := hD.2 q_18
      refine lv_iload_n X.1 X.2.1 d_X10_cell_21 rfl (lv_at hl 1 rfl) ?_
      refine lv_aload_n X.1 X.2.1 d_X10_cell_22 rfl (lv_at hl 0 rfl) ?_
      refine gf_10_10 X hw (by decide +kernel : kd 0 = 10) tb_383 d_X10_cell_23 ?_
      refine gf_4_0 X hw ly_10_10 tb_351 d_X10_cell_26 ?_
      obtain ⟨q_29, hD⟩ := hD
      refine gf_5_0 X hw ly_4_0 tb_239 q_29.1 d_X10_cell_29 ?_
      refine gf_1_1 X hw q_29.2 tb_156 d_X10_cell_32 ?_
      refine gf_0_2 X hw (ly_1_1 q_29.2) tb_81 d_X10_cell_35 ?_
      refine lv_icmp_lt (tgt := 47) X.1 X.2.1 d_X10_cell_38 (by decide) (fun q_38 => ?_) (fun q_38 => ?_)
      · have hD := hD.1 q_38
        refine lv_aload_n X.1 X.2.1 d_X10_cell_47 rfl (lv_at hl 0 rfl) ?_
        refine gf_10_10 X hw (by decide +kernel : kd 0 = 10) tb_383 d_X10_cell_48 ?_
        refine gf_4_0 X hw ly_10_10 tb_351 d_X10_cell_51 ?_
        refine lv_iload_n X.1 X.2.1 d_X10_cell_54 rfl (lv_at hl 1 rfl) ?_
        refine gcV_i (rest := []) (As := [.int x1]) (o := 54) X hw (c_X5_pieceOn l G 54 x1 σ _ ly_4_0 hD) (kd_lt ly_4_0 (by decide)) (ce_5 G _ ly_4_0) rfl tb_669 tb_653 tb_654 tb_9 tb_655 hd_X5_pieceOn ⟨rfl, rfl⟩ ⟨Nat.le_of_ble_eq_true rfl, Nat.le_of_ble_eq_true rfl⟩ rfl hl.1 rfl (Nat.le_of_ble_eq_true rfl) d_X10_cell_55 (fun r_1 σ_2 H locs hD hw => ?_)
        exact g_iret X hr hlk hw hD d_X10_cell_58
      · have hD := hD.2 q_38
        exact s_X10_cell_41 X hr hlk  Q   σ hw (lv_sub hl [0] rfl) hD
  · have hD := hD.2 q_7
    refine lv_aload_n X.1 X.2.1 d_X10_cell_10 rfl (lv_at hl 0 rfl) ?_
    refine lv_bipush (v := (-3)) X.1 X.2.1 d_X10_cell_11 (by decide) ?_
    refine gcV_i (rest := []) (As := [.int (-3)]) (o := 0) X hw (c_X10_refuse l G (-3) σ _  hD) (kd_lt (by decide +kernel : kd 0 = 10) (by decide)) (ce_10 G _ (by decide +kernel : kd 0 = 10)) rfl tb_420 tb_422 tv_0 tb_1 tb_423 hd_X10_refuse ⟨rfl, rfl⟩ ⟨Nat.le_of_ble_eq_true rfl, Nat.le_of_ble_eq_true rfl⟩ rfl hl.1 rfl (Nat.le_of_ble_eq_true rfl) d_X10_cell_13 (fun r_3 σ_4 H locs hD hw => ?_)
    exact g_iret X hr hlk hw hD d_X10_cell_16
theorem c_X10_cell (l : Launch) (G : GC) (x1 : Int32) (σ : GSt) (Q : Int32 → GSt → Prop)  (hD : D_X10_cell x1 σ Q) : MI l ym_X10_cell cm_X10_cell 2 .int rm_X10_cell G σ [.ref (G.2.1 0), .int x1] Q := by
  refine met_i (by decide) (Nat.le_of_ble_eq_true rfl) ?_
  intro p e s m args below meth c X hr hlk hw ls hl
  exact s_X10_cell_0 X hr hlk Q  x1 σ hw (lv_sub hl [0, 1] rfl) hD
theorem hd_X10_refusalOfLook : ym_X10_refusalOfLook.cls = "GameLoom" ∧ ym_X10_refusalOfLook.cls ≠ "java/lang/invoke/MethodHandle" ∧ ym_X10_refusalOfLook.cls ≠ "java/lang/invoke/VarHandle" ∧ (parseMethodDescriptor ym_X10_refusalOfLook.desc).map (fun d => d.parameters.length) = some 2 := by decide +kernel
abbrev rm_X10_refusalOfLook : Room := { frames := 14, cells := 0, slots := 0, locals := 358 }
theorem d_X10_refusalOfLook_0 : decode cm_X10_refusalOfLook 0 = .ok (.aload_n 0, 1) := by decide +kernel
theorem d_X10_refusalOfLook_1 : decode cm_X10_refusalOfLook 1 = .ok (.getfield 66, 3) := by decide +kernel
theorem d_X10_refusalOfLook_4 : decode cm_X10_refusalOfLook 4 = .ok (.invokevirtual 144, 3) := by decide +kernel
theorem d_X10_refusalOfLook_7 : decode cm_X10_refusalOfLook 7 = .ok (.ifCond .ne 6, 3) := by decide +kernel
theorem d_X10_refusalOfLook_10 : decode cm_X10_refusalOfLook 10 = .ok (.bipush (-3), 2) := by decide +kernel
theorem d_X10_refusalOfLook_12 : decode cm_X10_refusalOfLook 12 = .ok (.ireturn, 1) := by decide +kernel
theorem d_X10_refusalOfLook_13 : decode cm_X10_refusalOfLook 13 = .ok (.iload_n 1, 1) := by decide +kernel
theorem d_X10_refusalOfLook_14 : decode cm_X10_refusalOfLook 14 = .ok (.iload_n 2, 1) := by decide +kernel
theorem d_X10_refusalOfLook_15 : decode cm_X10_refusalOfLook 15 = .ok (.if_icmp .ge 6, 3) := by decide +kernel
theorem d_X10_refusalOfLook_18 : decode cm_X10_refusalOfLook 18 = .ok (.bipush (-4), 2) := by decide +kernel
theorem d_X10_refusalOfLook_20 : decode cm_X10_refusalOfLook 20 = .ok (.ireturn, 1) := by decide +kernel
theorem d_X10_refusalOfLook_21 : decode cm_X10_refusalOfLook 21 = .ok (.iload_n 1, 1) := by decide +kernel
theorem d_X10_refusalOfLook_22 : decode cm_X10_refusalOfLook 22 = .ok (.bipush 6, 2) := by decide +kernel
theorem d_X10_refusalOfLook_24 : decode cm_X10_refusalOfLook 24 = .ok (.if_icmp .le 6, 3) := by decide +kernel
theorem d_X10_refusalOfLook_27 : decode cm_X10_refusalOfLook 27 = .ok (.bipush (-6), 2) := by decide +kernel
theorem d_X10_refusalOfLook_29 : decode cm_X10_refusalOfLook 29 = .ok (.ireturn, 1) := by decide +kernel
theorem d_X10_refusalOfLook_30 : decode cm_X10_refusalOfLook 30 = .ok (.aload_n 0, 1) := by decide +kernel
theorem d_X10_refusalOfLook_31 : decode cm_X10_refusalOfLook 31 = .ok (.getfield 40, 3) := by decide +kernel
theorem d_X10_refusalOfLook_34 : decode cm_X10_refusalOfLook 34 = .ok (.aload_n 0, 1) := by decide +kernel
theorem d_X10_refusalOfLook_35 : decode cm_X10_refusalOfLook 35 = .ok (.getfield 66, 3) := by decide +kernel
theorem d_X10_refusalOfLook_38 : decode cm_X10_refusalOfLook 38 = .ok (.getfield 151, 3) := by decide +kernel
theorem d_X10_refusalOfLook_41 : decode cm_X10_refusalOfLook 41 = .ok (.iload_n 1, 1) := by decide +kernel
theorem d_X10_refusalOfLook_42 : decode cm_X10_refusalOfLook 42 = .ok (.invokevirtual 212, 3) := by decide +kernel
theorem d_X10_refusalOfLook_45 : decode cm_X10_refusalOfLook 45 = .ok (.ifCond .eq 8, 3) := by decide +kernel
theorem d_X10_refusalOfLook_48 : decode cm_X10_refusalOfLook 48 = .ok (.bipush (-5), 2) := by decide +kernel
theorem d_X10_refusalOfLook_50 : decode cm_X10_refusalOfLook 50 = .ok (.goto 4, 3) := by decide +kernel
theorem d_X10_refusalOfLook_53 : decode cm_X10_refusalOfLook 53 = .ok (.iconst 0, 1) := by decide +kernel
theorem d_X10_refusalOfLook_54 : decode cm_X10_refusalOfLook 54 = .ok (.ireturn, 1) := by decide +kernel
def D_X10_refusalOfLook_0 (Q : Int32 → GSt → Prop) (x1 : Int32) (x2 : Int32) (σ : GSt) : Prop :=
  D_X4_goesOn  σ (fun r_1 σ_2 => (¬ r_1 = 0 → (x2 ≤ x1 → (x1 ≤ 6 → D_X3_isSpent 54 x1 σ_2 (fun r_3 σ_4 => (r_3 = 0 → Q 0 σ_4) ∧
  (¬ r_3 = 0 → Q (-5) σ_4))) ∧
  (¬ x1 ≤ 6 → Q (-6) σ_2)) ∧
  (¬ x2 ≤ x1 → Q (-4) σ_2)) ∧
  (r_1 = 0 → Q (-3) σ_2))
def D_X10_refusalOfLook (x1 : Int32) (x2 : Int32) (σ : GSt) (Q : Int32 → GSt → Prop) : Prop := D_X10_refusalOfLook_0 Q x1 x2 σ
set_option maxRecDepth 20000 in
set_option maxHeartbeats 4000000 in
theorem s_X10_refusalOfLook_0 {p : Program} {l : Launch} {e : Env} {s : State} {m : MethodId} {args : Array Value} {below : List Frame} {meth : Method} {c : Code} {G : GC} (X : CallFix p m c cm_X10_refusalOfLook 3 s args lw_us "GameLoom") (hr : meth.sig.returnType = some .int) (hlk : meth.locks = false) (Q : Int32 → GSt → Prop) (x1 : Int32) (x2 : Int32) (σ : GSt) {H : Heap} {locs : List Loc} {ls : Array Slot} (hw : Wo G s H locs σ) (hl : lv_has ls 3 [(0, .ref (G.2.1 0)), (1, .int x1), (2, .int x2)]) (hD : D_X10_refusalOfLook_0 Q x1 x2 σ) : W p l e rm_X10_refusalOfLook s m args below meth c H locs 0 0 (QMI G Q below args s) (F0 m 0 ls []) := by
  unfold D_X10_refusalOfLook_0 at hD
  refine lv_aload_n X.1 X.2.1 d_X10_refusalOfLook_0 rfl (lv_at hl 0 rfl) ?_
  refine gf_10_10 X hw (by decide +kernel : kd 0 = 10) tb_383 d_X10_refusalOfLook_1 ?_
  refine gcV_i (rest := []) (As := []) (o := 53) X hw (c_X4_goesOn l G  σ _  hD) (kd_lt ly_10_10 (by decide)) (ce_4 G _ ly_10_10) rfl tb_595 tb_596 tb_597 tb_11 tb_598 hd_X4_goesOn ⟨rfl, rfl⟩ ⟨Nat.le_of_ble_eq_true rfl, Nat.le_of_ble_eq_true rfl⟩ rfl hl.1 rfl (Nat.le_of_ble_eq_true rfl) d_X10_refusalOfLook_4 (fun r_1 σ_2 H locs hD hw => ?_)
  refine lv_if_ne (tgt := 13) X.1 X.2.1 d_X10_refusalOfLook_7 (by decide) (fun q_7 => ?_) (fun q_7 => ?_)
  · have hD := hD.1 q_7
    refine lv_iload_n X.1 X.2.1 d_X10_refusalOfLook_13 rfl (lv_at hl 1 rfl) ?_
    refine lv_iload_n X.1 X.2.1 d_X10_refusalOfLook_14 rfl (lv_at hl 2 rfl) ?_
    refine lv_icmp_ge (tgt := 21) X.1 X.2.1 d_X10_refusalOfLook_15 (by decide) (fun q_15 => ?_) (fun q_15 => ?_)
    · have hD := hD.1 q_15
      refine lv_iload_n X.1 X.2.1 d_X10_refusalOfLook_21 rfl (lv_at hl 1 rfl) ?_
      refine lv_bipush (v := 6) X.1 X.2.1 d_X10_refusalOfLook_22 (by decide) ?_
      refine lv_icmp_le (tgt := 30) X.1 X.2.1 d_X10_refusalOfLook_24 (by decide) (fun q_24 => ?_) (fun q_24 => ?_)
      · have hD := hD.1 q_24
        refine lv_aload_n X.1 X.2.1 d_X10_refusalOfLook_30 rfl (lv_at hl 0 rfl) ?_
        refine gf_10_6 X hw (by decide +kernel : kd 0 = 10) tb_379 d_X10_refusalOfLook_31 ?_
        refine lv_aload_n X.1 X.2.1 d_X10_refusalOfLook_34 rfl (lv_at hl 0 rfl) ?_
        refine gf_10_10 X hw (by decide +kernel : kd 0 = 10) tb_383 d_X10_refusalOfLook_35 ?_
        refine gf_4_0 X hw ly_10_10 tb_351 d_X10_refusalOfLook_38 ?_
        refine lv_iload_n X.1 X.2.1 d_X10_refusalOfLook_41 rfl (lv_at hl 1 rfl) ?_
        refine gcV_i (rest := []) (As := [.ref (G.2.1 54), .int x1]) (o := 29) X hw (c_X3_isSpent l G 54 x1 σ_2 _ ly_4_0 hD) (kd_lt ly_10_6 (by decide)) (ce_3 G _ ly_10_6) rfl tb_678 tb_679 tb_680 tb_7 tb_681 hd_X3_isSpent ⟨rfl, rfl⟩ ⟨Nat.le_of_ble_eq_true rfl, Nat.le_of_ble_eq_true rfl⟩ rfl hl.1 rfl (Nat.le_of_ble_eq_true rfl) d_X10_refusalOfLook_42 (fun r_3 σ_4 H locs hD hw => ?_)
        refine lv_if_eq (tgt := 53) X.1 X.2.1 d_X10_refusalOfLook_45 (by decide) (fun q_45 => ?_) (fun q_45 => ?_)
        · have hD := hD.1 q_45
          refine lv_iconst (v := 0) X.1 X.2.1 d_X10_refusalOfLook_53 (by decide) ?_
          exact g_iret X hr hlk hw hD d_X10_refusalOfLook_54
        · have hD := hD.2 q_45
          refine lv_bipush (v := (-5)) X.1 X.2.1 d_X10_refusalOfLook_48 (by decide) ?_
          refine lv_goto (tgt := 54) X.1 X.2.1 d_X10_refusalOfLook_50 (by decide) ?_
          exact g_iret X hr hlk hw hD d_X10_refusalOfLook_54
      · have hD := hD.2 q_24
        refine lv_bipush (v := (-6)) X.1 X.2.1 d_X10_refusalOfLook_27 (by decide) ?_
        exact g_iret X hr hlk hw hD d_X10_refusalOfLook_29
    · have hD := hD.2 q_15
      refine lv_bipush (v := (-4)) X.1 X.2.1 d_X10_refusalOfLook_18 (by decide) ?_
      exact g_iret X hr hlk hw hD d_X10_refusalOfLook_20
  · have hD := hD.2 q_7
    refine lv_bipush (v := (-3)) X.1 X.2.1 d_X10_refusalOfLook_10 (by decide) ?_
    exact g_iret X hr hlk hw hD d_X10_refusalOfLook_12
theorem c_X10_refusalOfLook (l : Launch) (G : GC) (x1 : Int32) (x2 : Int32) (σ : GSt) (Q : Int32 → GSt → Prop)  (hD : D_X10_refusalOfLook x1 x2 σ Q) : MI l ym_X10_refusalOfLook cm_X10_refusalOfLook 3 .int rm_X10_refusalOfLook G σ [.ref (G.2.1 0), .int x1, .int x2] Q := by
  refine met_i (by decide) (Nat.le_of_ble_eq_true rfl) ?_
  intro p e s m args below meth c X hr hlk hw ls hl
  exact s_X10_refusalOfLook_0 X hr hlk Q  x1 x2 σ hw (lv_sub hl [0, 1, 2] rfl) hD
theorem hd_X10_look : ym_X10_look.cls = "GameLoom" ∧ ym_X10_look.cls ≠ "java/lang/invoke/MethodHandle" ∧ ym_X10_look.cls ≠ "java/lang/invoke/VarHandle" ∧ (parseMethodDescriptor ym_X10_look.desc).map (fun d => d.parameters.length) = some 1 := by decide +kernel
abbrev rm_X10_look : Room := { frames := 15, cells := 0, slots := 0, locals := 380 }
theorem d_X10_look_0 : decode cm_X10_look 0 = .ok (.aload_n 0, 1) := by decide +kernel
theorem d_X10_look_1 : decode cm_X10_look 1 = .ok (.iload_n 1, 1) := by decide +kernel
theorem d_X10_look_2 : decode cm_X10_look 2 = .ok (.iconst 0, 1) := by decide +kernel
theorem d_X10_look_3 : decode cm_X10_look 3 = .ok (.invokevirtual 201, 3) := by decide +kernel
theorem d_X10_look_6 : decode cm_X10_look 6 = .ok (.istore_n 2, 1) := by decide +kernel
theorem d_X10_look_7 : decode cm_X10_look 7 = .ok (.iload_n 2, 1) := by decide +kernel
theorem d_X10_look_8 : decode cm_X10_look 8 = .ok (.ifCond .eq 9, 3) := by decide +kernel
theorem d_X10_look_11 : decode cm_X10_look 11 = .ok (.aload_n 0, 1) := by decide +kernel
theorem d_X10_look_12 : decode cm_X10_look 12 = .ok (.iload_n 2, 1) := by decide +kernel
theorem d_X10_look_13 : decode cm_X10_look 13 = .ok (.invokevirtual 80, 3) := by decide +kernel
theorem d_X10_look_16 : decode cm_X10_look 16 = .ok (.ireturn, 1) := by decide +kernel
theorem d_X10_look_17 : decode cm_X10_look 17 = .ok (.aload_n 0, 1) := by decide +kernel
theorem d_X10_look_18 : decode cm_X10_look 18 = .ok (.getfield 40, 3) := by decide +kernel
theorem d_X10_look_21 : decode cm_X10_look 21 = .ok (.aload_n 0, 1) := by decide +kernel
theorem d_X10_look_22 : decode cm_X10_look 22 = .ok (.getfield 66, 3) := by decide +kernel
theorem d_X10_look_25 : decode cm_X10_look 25 = .ok (.getfield 151, 3) := by decide +kernel
theorem d_X10_look_28 : decode cm_X10_look 28 = .ok (.iload_n 1, 1) := by decide +kernel
theorem d_X10_look_29 : decode cm_X10_look 29 = .ok (.invokevirtual 205, 3) := by decide +kernel
theorem d_X10_look_32 : decode cm_X10_look 32 = .ok (.ireturn, 1) := by decide +kernel
def D_X10_look_0 (Q : Int32 → GSt → Prop) (x1 : Int32) (σ : GSt) : Prop :=
  D_X10_refusalOfLook x1 0 σ (fun r_1 σ_2 => (r_1 = 0 → D_X3_valueOf 54 x1 σ_2 (fun r_3 σ_4 => Q r_3 σ_4)) ∧
  (¬ r_1 = 0 → D_X10_refuse r_1 σ_2 (fun r_5 σ_6 => Q r_5 σ_6)))
def D_X10_look (x1 : Int32) (σ : GSt) (Q : Int32 → GSt → Prop) : Prop := D_X10_look_0 Q x1 σ
set_option maxRecDepth 20000 in
set_option maxHeartbeats 4000000 in
theorem s_X10_look_0 {p : Program} {l : Launch} {e : Env} {s : State} {m : MethodId} {args : Array Value} {below : List Frame} {meth : Method} {c : Code} {G : GC} (X : CallFix p m c cm_X10_look 3 s args lw_us "GameLoom") (hr : meth.sig.returnType = some .int) (hlk : meth.locks = false) (Q : Int32 → GSt → Prop) (x1 : Int32) (σ : GSt) {H : Heap} {locs : List Loc} {ls : Array Slot} (hw : Wo G s H locs σ) (hl : lv_has ls 3 [(0, .ref (G.2.1 0)), (1, .int x1)]) (hD : D_X10_look_0 Q x1 σ) : W p l e rm_X10_look s m args below meth c H locs 0 0 (QMI G Q below args s) (F0 m 0 ls []) := by
  unfold D_X10_look_0 at hD
  refine lv_aload_n X.1 X.2.1 d_X10_look_0 rfl (lv_at hl 0 rfl) ?_
  refine lv_iload_n X.1 X.2.1 d_X10_look_1 rfl (lv_at hl 1 rfl) ?_
  refine lv_iconst (v := 0) X.1 X.2.1 d_X10_look_2 (by decide) ?_
  refine gcV_i (rest := []) (As := [.int x1, .int 0]) (o := 0) X hw (c_X10_refusalOfLook l G x1 0 σ _  hD) (kd_lt (by decide +kernel : kd 0 = 10) (by decide)) (ce_10 G _ (by decide +kernel : kd 0 = 10)) rfl tb_674 tb_676 tv_25 tb_1 tb_677 hd_X10_refusalOfLook ⟨rfl, rfl⟩ ⟨Nat.le_of_ble_eq_true rfl, Nat.le_of_ble_eq_true rfl⟩ rfl hl.1 rfl (Nat.le_of_ble_eq_true rfl) d_X10_look_3 (fun r_1 σ_2 H locs hD hw => ?_)
  refine lv_istore_n (lv' := [(2, .int r_1), (0, .ref (G.2.1 0)), (1, .int x1)]) X.1 X.2.1 d_X10_look_6 rfl hl (by decide) rfl (fun ls hl => ?_)
  refine lv_iload_n X.1 X.2.1 d_X10_look_7 rfl (lv_at hl 0 rfl) ?_
  refine lv_if_eq (tgt := 17) X.1 X.2.1 d_X10_look_8 (by decide) (fun q_8 => ?_) (fun q_8 => ?_)
  · have hD := hD.1 q_8
    refine lv_aload_n X.1 X.2.1 d_X10_look_17 rfl (lv_at hl 1 rfl) ?_
    refine gf_10_6 X hw (by decide +kernel : kd 0 = 10) tb_379 d_X10_look_18 ?_
    refine lv_aload_n X.1 X.2.1 d_X10_look_21 rfl (lv_at hl 1 rfl) ?_
    refine gf_10_10 X hw (by decide +kernel : kd 0 = 10) tb_383 d_X10_look_22 ?_
    refine gf_4_0 X hw ly_10_10 tb_351 d_X10_look_25 ?_
    refine lv_iload_n X.1 X.2.1 d_X10_look_28 rfl (lv_at hl 2 rfl) ?_
    refine gcV_i (rest := []) (As := [.ref (G.2.1 54), .int x1]) (o := 29) X hw (c_X3_valueOf l G 54 x1 σ_2 _ ly_4_0 hD) (kd_lt ly_10_6 (by decide)) (ce_3 G _ ly_10_6) rfl tb_689 tb_690 tb_691 tb_7 tb_692 hd_X3_valueOf ⟨rfl, rfl⟩ ⟨Nat.le_of_ble_eq_true rfl, Nat.le_of_ble_eq_true rfl⟩ rfl hl.1 rfl (Nat.le_of_ble_eq_true rfl) d_X10_look_29 (fun r_3 σ_4 H locs hD hw => ?_)
    exact g_iret X hr hlk hw hD d_X10_look_32
  · have hD := hD.2 q_8
    refine lv_aload_n X.1 X.2.1 d_X10_look_11 rfl (lv_at hl 1 rfl) ?_
    refine lv_iload_n X.1 X.2.1 d_X10_look_12 rfl (lv_at hl 0 rfl) ?_
    refine gcV_i (rest := []) (As := [.int r_1]) (o := 0) X hw (c_X10_refuse l G r_1 σ_2 _  hD) (kd_lt (by decide +kernel : kd 0 = 10) (by decide)) (ce_10 G _ (by decide +kernel : kd 0 = 10)) rfl tb_420 tb_422 tv_0 tb_1 tb_423 hd_X10_refuse ⟨rfl, rfl⟩ ⟨Nat.le_of_ble_eq_true rfl, Nat.le_of_ble_eq_true rfl⟩ rfl hl.1 rfl (Nat.le_of_ble_eq_true rfl) d_X10_look_13 (fun r_5 σ_6 H locs hD hw => ?_)
    exact g_iret X hr hlk hw hD d_X10_look_16
theorem c_X10_look (l : Launch) (G : GC) (x1 : Int32) (σ : GSt) (Q : Int32 → GSt → Prop)  (hD : D_X10_look x1 σ Q) : MI l ym_X10_look cm_X10_look 3 .int rm_X10_look G σ [.ref (G.2.1 0), .int x1] Q := by
  refine met_i (by decide) (Nat.le_of_ble_eq_true rfl) ?_
  intro p e s m args below meth c X hr hlk hw ls hl
  exact s_X10_look_0 X hr hlk Q  x1 σ hw (lv_sub hl [0, 1] rfl) hD
theorem hd_X10_best : ym_X10_best.cls = "GameLoom" ∧ ym_X10_best.cls ≠ "java/lang/invoke/MethodHandle" ∧ ym_X10_best.cls ≠ "java/lang/invoke/VarHandle" ∧ (parseMethodDescriptor ym_X10_best.desc).map (fun d => d.parameters.length) = some 1 := by decide +kernel
abbrev rm_X10_best : Room := { frames := 15, cells := 0, slots := 0, locals := 380 }
theorem d_X10_best_0 : decode cm_X10_best 0 = .ok (.aload_n 0, 1) := by decide +kernel
theorem d_X10_best_1 : decode cm_X10_best 1 = .ok (.iload_n 1, 1) := by decide +kernel
theorem d_X10_best_2 : decode cm_X10_best 2 = .ok (.iconst 1, 1) := by decide +kernel
theorem d_X10_best_3 : decode cm_X10_best 3 = .ok (.invokevirtual 201, 3) := by decide +kernel
theorem d_X10_best_6 : decode cm_X10_best 6 = .ok (.istore_n 2, 1) := by decide +kernel
theorem d_X10_best_7 : decode cm_X10_best 7 = .ok (.iload_n 2, 1) := by decide +kernel
theorem d_X10_best_8 : decode cm_X10_best 8 = .ok (.ifCond .eq 9, 3) := by decide +kernel
theorem d_X10_best_11 : decode cm_X10_best 11 = .ok (.aload_n 0, 1) := by decide +kernel
theorem d_X10_best_12 : decode cm_X10_best 12 = .ok (.iload_n 2, 1) := by decide +kernel
theorem d_X10_best_13 : decode cm_X10_best 13 = .ok (.invokevirtual 80, 3) := by decide +kernel
theorem d_X10_best_16 : decode cm_X10_best 16 = .ok (.ireturn, 1) := by decide +kernel
theorem d_X10_best_17 : decode cm_X10_best 17 = .ok (.aload_n 0, 1) := by decide +kernel
theorem d_X10_best_18 : decode cm_X10_best 18 = .ok (.getfield 40, 3) := by decide +kernel
theorem d_X10_best_21 : decode cm_X10_best 21 = .ok (.aload_n 0, 1) := by decide +kernel
theorem d_X10_best_22 : decode cm_X10_best 22 = .ok (.getfield 66, 3) := by decide +kernel
theorem d_X10_best_25 : decode cm_X10_best 25 = .ok (.getfield 151, 3) := by decide +kernel
theorem d_X10_best_28 : decode cm_X10_best 28 = .ok (.iload_n 1, 1) := by decide +kernel
theorem d_X10_best_29 : decode cm_X10_best 29 = .ok (.invokevirtual 209, 3) := by decide +kernel
theorem d_X10_best_32 : decode cm_X10_best 32 = .ok (.ireturn, 1) := by decide +kernel
def D_X10_best_0 (Q : Int32 → GSt → Prop) (x1 : Int32) (σ : GSt) : Prop :=
  D_X10_refusalOfLook x1 1 σ (fun r_1 σ_2 => (r_1 = 0 → D_X3_bestOf 54 x1 σ_2 (fun r_3 σ_4 => Q r_3 σ_4)) ∧
  (¬ r_1 = 0 → D_X10_refuse r_1 σ_2 (fun r_5 σ_6 => Q r_5 σ_6)))
def D_X10_best (x1 : Int32) (σ : GSt) (Q : Int32 → GSt → Prop) : Prop := D_X10_best_0 Q x1 σ
set_option maxRecDepth 20000 in
set_option maxHeartbeats 4000000 in
theorem s_X10_best_0 {p : Program} {l : Launch} {e : Env} {s : State} {m : MethodId} {args : Array Value} {below : List Frame} {meth : Method} {c : Code} {G : GC} (X : CallFix p m c cm_X10_best 3 s args lw_us "GameLoom") (hr : meth.sig.returnType = some .int) (hlk : meth.locks = false) (Q : Int32 → GSt → Prop) (x1 : Int32) (σ : GSt) {H : Heap} {locs : List Loc} {ls : Array Slot} (hw : Wo G s H locs σ) (hl : lv_has ls 3 [(0, .ref (G.2.1 0)), (1, .int x1)]) (hD : D_X10_best_0 Q x1 σ) : W p l e rm_X10_best s m args below meth c H locs 0 0 (QMI G Q below args s) (F0 m 0 ls []) := by
  unfold D_X10_best_0 at hD
  refine lv_aload_n X.1 X.2.1 d_X10_best_0 rfl (lv_at hl 0 rfl) ?_
  refine lv_iload_n X.1 X.2.1 d_X10_best_1 rfl (lv_at hl 1 rfl) ?_
  refine lv_iconst (v := 1) X.1 X.2.1 d_X10_best_2 (by decide) ?_
  refine gcV_i (rest := []) (As := [.int x1, .int 1]) (o := 0) X hw (c_X10_refusalOfLook l G x1 1 σ _  hD) (kd_lt (by decide +kernel : kd 0 = 10) (by decide)) (ce_10 G _ (by decide +kernel : kd 0 = 10)) rfl tb_674 tb_676 tv_25 tb_1 tb_677 hd_X10_refusalOfLook ⟨rfl, rfl⟩ ⟨Nat.le_of_ble_eq_true rfl, Nat.le_of_ble_eq_true rfl⟩ rfl hl.1 rfl (Nat.le_of_ble_eq_true rfl) d_X10_best_3 (fun r_1 σ_2 H locs hD hw => ?_)
  refine lv_istore_n (lv' := [(2, .int r_1), (0, .ref (G.2.1 0)), (1, .int x1)]) X.1 X.2.1 d_X10_best_6 rfl hl (by decide) rfl (fun ls hl => ?_)
  refine lv_iload_n X.1 X.2.1 d_X10_best_7 rfl (lv_at hl 0 rfl) ?_
  refine lv_if_eq (tgt := 17) X.1 X.2.1 d_X10_best_8 (by decide) (fun q_8 => ?_) (fun q_8 => ?_)
  · have hD := hD.1 q_8
    refine lv_aload_n X.1 X.2.1 d_X10_best_17 rfl (lv_at hl 1 rfl) ?_
    refine gf_10_6 X hw (by decide +kernel : kd 0 = 10) tb_379 d_X10_best_18 ?_
    refine lv_aload_n X.1 X.2.1 d_X10_best_21 rfl (lv_at hl 1 rfl) ?_
    refine gf_10_10 X hw (by decide +kernel : kd 0 = 10) tb_383 d_X10_best_22 ?_
    refine gf_4_0 X hw ly_10_10 tb_351 d_X10_best_25 ?_
    refine lv_iload_n X.1 X.2.1 d_X10_best_28 rfl (lv_at hl 2 rfl) ?_
    refine gcV_i (rest := []) (As := [.ref (G.2.1 54), .int x1]) (o := 29) X hw (c_X3_bestOf l G 54 x1 σ_2 _ ly_4_0 hD) (kd_lt ly_10_6 (by decide)) (ce_3 G _ ly_10_6) rfl tb_705 tb_706 tb_707 tb_7 tb_708 hd_X3_bestOf ⟨rfl, rfl⟩ ⟨Nat.le_of_ble_eq_true rfl, Nat.le_of_ble_eq_true rfl⟩ rfl hl.1 rfl (Nat.le_of_ble_eq_true rfl) d_X10_best_29 (fun r_3 σ_4 H locs hD hw => ?_)
    exact g_iret X hr hlk hw hD d_X10_best_32
  · have hD := hD.2 q_8
    refine lv_aload_n X.1 X.2.1 d_X10_best_11 rfl (lv_at hl 1 rfl) ?_
    refine lv_iload_n X.1 X.2.1 d_X10_best_12 rfl (lv_at hl 0 rfl) ?_
    refine gcV_i (rest := []) (As := [.int r_1]) (o := 0) X hw (c_X10_refuse l G r_1 σ_2 _  hD) (kd_lt (by decide +kernel : kd 0 = 10) (by decide)) (ce_10 G _ (by decide +kernel : kd 0 = 10)) rfl tb_420 tb_422 tv_0 tb_1 tb_423 hd_X10_refuse ⟨rfl, rfl⟩ ⟨Nat.le_of_ble_eq_true rfl, Nat.le_of_ble_eq_true rfl⟩ rfl hl.1 rfl (Nat.le_of_ble_eq_true rfl) d_X10_best_13 (fun r_5 σ_6 H locs hD hw => ?_)
    exact g_iret X hr hlk hw hD d_X10_best_16
theorem c_X10_best (l : Launch) (G : GC) (x1 : Int32) (σ : GSt) (Q : Int32 → GSt → Prop)  (hD : D_X10_best x1 σ Q) : MI l ym_X10_best cm_X10_best 3 .int rm_X10_best G σ [.ref (G.2.1 0), .int x1] Q := by
  refine met_i (by decide) (Nat.le_of_ble_eq_true rfl) ?_
  intro p e s m args below meth c X hr hlk hw ls hl
  exact s_X10_best_0 X hr hlk Q  x1 σ hw (lv_sub hl [0, 1] rfl) hD
theorem hd_X10_ways : ym_X10_ways.cls = "GameLoom" ∧ ym_X10_ways.cls ≠ "java/lang/invoke/MethodHandle" ∧ ym_X10_ways.cls ≠ "java/lang/invoke/VarHandle" ∧ (parseMethodDescriptor ym_X10_ways.desc).map (fun d => d.parameters.length) = some 1 := by decide +kernel
abbrev rm_X10_ways : Room := { frames := 14, cells := 0, slots := 0, locals := 358 }
theorem d_X10_ways_0 : decode cm_X10_ways 0 = .ok (.aload_n 0, 1) := by decide +kernel
theorem d_X10_ways_1 : decode cm_X10_ways 1 = .ok (.getfield 66, 3) := by decide +kernel
theorem d_X10_ways_4 : decode cm_X10_ways 4 = .ok (.getfield 134, 3) := by decide +kernel
theorem d_X10_ways_7 : decode cm_X10_ways 7 = .ok (.ifCond .ne 10, 3) := by decide +kernel
theorem d_X10_ways_10 : decode cm_X10_ways 10 = .ok (.aload_n 0, 1) := by decide +kernel
theorem d_X10_ways_11 : decode cm_X10_ways 11 = .ok (.bipush (-3), 2) := by decide +kernel
theorem d_X10_ways_13 : decode cm_X10_ways 13 = .ok (.invokevirtual 80, 3) := by decide +kernel
theorem d_X10_ways_16 : decode cm_X10_ways 16 = .ok (.ireturn, 1) := by decide +kernel
theorem d_X10_ways_17 : decode cm_X10_ways 17 = .ok (.iload_n 1, 1) := by decide +kernel
theorem d_X10_ways_18 : decode cm_X10_ways 18 = .ok (.iconst 1, 1) := by decide +kernel
theorem d_X10_ways_19 : decode cm_X10_ways 19 = .ok (.if_icmp .ge 10, 3) := by decide +kernel
theorem d_X10_ways_22 : decode cm_X10_ways 22 = .ok (.aload_n 0, 1) := by decide +kernel
theorem d_X10_ways_23 : decode cm_X10_ways 23 = .ok (.bipush (-4), 2) := by decide +kernel
theorem d_X10_ways_25 : decode cm_X10_ways 25 = .ok (.invokevirtual 80, 3) := by decide +kernel
theorem d_X10_ways_28 : decode cm_X10_ways 28 = .ok (.ireturn, 1) := by decide +kernel
theorem d_X10_ways_29 : decode cm_X10_ways 29 = .ok (.iload_n 1, 1) := by decide +kernel
theorem d_X10_ways_30 : decode cm_X10_ways 30 = .ok (.bipush 6, 2) := by decide +kernel
theorem d_X10_ways_32 : decode cm_X10_ways 32 = .ok (.if_icmp .le 10, 3) := by decide +kernel
theorem d_X10_ways_35 : decode cm_X10_ways 35 = .ok (.aload_n 0, 1) := by decide +kernel
theorem d_X10_ways_36 : decode cm_X10_ways 36 = .ok (.bipush (-6), 2) := by decide +kernel
theorem d_X10_ways_38 : decode cm_X10_ways 38 = .ok (.invokevirtual 80, 3) := by decide +kernel
theorem d_X10_ways_41 : decode cm_X10_ways 41 = .ok (.ireturn, 1) := by decide +kernel
theorem d_X10_ways_42 : decode cm_X10_ways 42 = .ok (.aload_n 0, 1) := by decide +kernel
theorem d_X10_ways_43 : decode cm_X10_ways 43 = .ok (.getfield 40, 3) := by decide +kernel
theorem d_X10_ways_46 : decode cm_X10_ways 46 = .ok (.aload_n 0, 1) := by decide +kernel
theorem d_X10_ways_47 : decode cm_X10_ways 47 = .ok (.getfield 66, 3) := by decide +kernel
theorem d_X10_ways_50 : decode cm_X10_ways 50 = .ok (.getfield 151, 3) := by decide +kernel
theorem d_X10_ways_53 : decode cm_X10_ways 53 = .ok (.iload_n 1, 1) := by decide +kernel
theorem d_X10_ways_54 : decode cm_X10_ways 54 = .ok (.invokevirtual 212, 3) := by decide +kernel
theorem d_X10_ways_57 : decode cm_X10_ways 57 = .ok (.ifCond .eq 10, 3) := by decide +kernel
theorem d_X10_ways_60 : decode cm_X10_ways 60 = .ok (.aload_n 0, 1) := by decide +kernel
theorem d_X10_ways_61 : decode cm_X10_ways 61 = .ok (.bipush (-5), 2) := by decide +kernel
theorem d_X10_ways_63 : decode cm_X10_ways 63 = .ok (.invokevirtual 80, 3) := by decide +kernel
theorem d_X10_ways_66 : decode cm_X10_ways 66 = .ok (.ireturn, 1) := by decide +kernel
theorem d_X10_ways_67 : decode cm_X10_ways 67 = .ok (.aload_n 0, 1) := by decide +kernel
theorem d_X10_ways_68 : decode cm_X10_ways 68 = .ok (.getfield 40, 3) := by decide +kernel
theorem d_X10_ways_71 : decode cm_X10_ways 71 = .ok (.getfield 216, 3) := by decide +kernel
theorem d_X10_ways_74 : decode cm_X10_ways 74 = .ok (.iload_n 1, 1) := by decide +kernel
theorem d_X10_ways_75 : decode cm_X10_ways 75 = .ok (.iaload, 1) := by decide +kernel
theorem d_X10_ways_76 : decode cm_X10_ways 76 = .ok (.ireturn, 1) := by decide +kernel
def D_X10_ways_0 (Q : Int32 → GSt → Prop) (x1 : Int32) (σ : GSt) : Prop :=
  (¬ (σ 53 3) = 0 → (1 ≤ x1 → (x1 ≤ 6 → D_X3_isSpent 54 x1 σ (fun r_1 σ_2 => (r_1 = 0 → vp_in x1 7 ∧ (Q (σ_2 30 (Int32.toNatClampNeg x1)) σ_2)) ∧
  (¬ r_1 = 0 → D_X10_refuse (-5) σ_2 (fun r_3 σ_4 => Q r_3 σ_4)))) ∧
  (¬ x1 ≤ 6 → D_X10_refuse (-6) σ (fun r_5 σ_6 => Q r_5 σ_6))) ∧
  (¬ 1 ≤ x1 → D_X10_refuse (-4) σ (fun r_7 σ_8 => Q r_7 σ_8))) ∧
  ((σ 53 3) = 0 → D_X10_refuse (-3) σ (fun r_9 σ_10 => Q r_9 σ_10))
def D_X10_ways (x1 : Int32) (σ : GSt) (Q : Int32 → GSt → Prop) : Prop := D_X10_ways_0 Q x1 σ
set_option maxRecDepth 20000 in
set_option maxHeartbeats 4000000 in
theorem s_X10_ways_0 {p : Program} {l : Launch} {e : Env} {s : State} {m : MethodId} {args : Array Value} {below : List Frame} {meth : Method} {c : Code} {G : GC} (X : CallFix p m c cm_X10_ways 2 s args lw_us "GameLoom") (hr : meth.sig.returnType = some .int) (hlk : meth.locks = false) (Q : Int32 → GSt → Prop) (x1 : Int32) (σ : GSt) {H : Heap} {locs : List Loc} {ls : Array Slot} (hw : Wo G s H locs σ) (hl : lv_has ls 2 [(0, .ref (G.2.1 0)), (1, .int x1)]) (hD : D_X10_ways_0 Q x1 σ) : W p l e rm_X10_ways s m args below meth c H locs 0 0 (QMI G Q below args s) (F0 m 0 ls []) := by
  unfold D_X10_ways_0 at hD
  refine lv_aload_n X.1 X.2.1 d_X10_ways_0 rfl (lv_at hl 0 rfl) ?_
  refine gf_10_10 X hw (by decide +kernel : kd 0 = 10) tb_383 d_X10_ways_1 ?_
  refine gf_4_3 X hw ly_10_10 tb_357 d_X10_ways_4 ?_
  refine lv_if_ne (tgt := 17) X.1 X.2.1 d_X10_ways_7 (by decide) (fun q_7 => ?_) (fun q_7 => ?_)
  · have hD := hD.1 q_7
    refine lv_iload_n X.1 X.2.1 d_X10_ways_17 rfl (lv_at hl 1 rfl) ?_
    refine lv_iconst (v := 1) X.1 X.2.1 d_X10_ways_18 (by decide) ?_
    refine lv_icmp_ge (tgt := 29) X.1 X.2.1 d_X10_ways_19 (by decide) (fun q_19 => ?_) (fun q_19 => ?_)
    · have hD := hD.1 q_19
      refine lv_iload_n X.1 X.2.1 d_X10_ways_29 rfl (lv_at hl 1 rfl) ?_
      refine lv_bipush (v := 6) X.1 X.2.1 d_X10_ways_30 (by decide) ?_
      refine lv_icmp_le (tgt := 42) X.1 X.2.1 d_X10_ways_32 (by decide) (fun q_32 => ?_) (fun q_32 => ?_)
      · have hD := hD.1 q_32
        refine lv_aload_n X.1 X.2.1 d_X10_ways_42 rfl (lv_at hl 0 rfl) ?_
        refine gf_10_6 X hw (by decide +kernel : kd 0 = 10) tb_379 d_X10_ways_43 ?_
        refine lv_aload_n X.1 X.2.1 d_X10_ways_46 rfl (lv_at hl 0 rfl) ?_
        refine gf_10_10 X hw (by decide +kernel : kd 0 = 10) tb_383 d_X10_ways_47 ?_
        refine gf_4_0 X hw ly_10_10 tb_351 d_X10_ways_50 ?_
        refine lv_iload_n X.1 X.2.1 d_X10_ways_53 rfl (lv_at hl 1 rfl) ?_
        refine gcV_i (rest := []) (As := [.ref (G.2.1 54), .int x1]) (o := 29) X hw (c_X3_isSpent l G 54 x1 σ _ ly_4_0 hD) (kd_lt ly_10_6 (by decide)) (ce_3 G _ ly_10_6) rfl tb_678 tb_679 tb_680 tb_7 tb_681 hd_X3_isSpent ⟨rfl, rfl⟩ ⟨Nat.le_of_ble_eq_true rfl, Nat.le_of_ble_eq_true rfl⟩ rfl hl.1 rfl (Nat.le_of_ble_eq_true rfl) d_X10_ways_54 (fun r_1 σ_2 H locs hD hw => ?_)
        refine lv_if_eq (tgt := 67) X.1 X.2.1 d_X10_ways_57 (by decide) (fun q_57 => ?_) (fun q_57 => ?_)
        · have hD := hD.1 q_57
          refine lv_aload_n X.1 X.2.1 d_X10_ways_67 rfl (lv_at hl 0 rfl) ?_
          refine gf_10_6 X hw (by decide +kernel : kd 0 = 10) tb_379 d_X10_ways_68 ?_
          refine gf_3_0 X hw ly_10_6 tb_215 d_X10_ways_71 ?_
          refine lv_iload_n X.1 X.2.1 d_X10_ways_74 rfl (lv_at hl 1 rfl) ?_
          obtain ⟨q_75, hD⟩ := hD
          refine g_iald X hw ly_3_0.1 ly_3_0.2 q_75 d_X10_ways_75 ?_
          exact g_iret X hr hlk hw hD d_X10_ways_76
        · have hD := hD.2 q_57
          refine lv_aload_n X.1 X.2.1 d_X10_ways_60 rfl (lv_at hl 0 rfl) ?_
          refine lv_bipush (v := (-5)) X.1 X.2.1 d_X10_ways_61 (by decide) ?_
          refine gcV_i (rest := []) (As := [.int (-5)]) (o := 0) X hw (c_X10_refuse l G (-5) σ_2 _  hD) (kd_lt (by decide +kernel : kd 0 = 10) (by decide)) (ce_10 G _ (by decide +kernel : kd 0 = 10)) rfl tb_420 tb_422 tv_0 tb_1 tb_423 hd_X10_refuse ⟨rfl, rfl⟩ ⟨Nat.le_of_ble_eq_true rfl, Nat.le_of_ble_eq_true rfl⟩ rfl hl.1 rfl (Nat.le_of_ble_eq_true rfl) d_X10_ways_63 (fun r_3 σ_4 H locs hD hw => ?_)
          exact g_iret X hr hlk hw hD d_X10_ways_66
      · have hD := hD.2 q_32
        refine lv_aload_n X.1 X.2.1 d_X10_ways_35 rfl (lv_at hl 0 rfl) ?_
        refine lv_bipush (v := (-6)) X.1 X.2.1 d_X10_ways_36 (by decide) ?_
        refine gcV_i (rest := []) (As := [.int (-6)]) (o := 0) X hw (c_X10_refuse l G (-6) σ _  hD) (kd_lt (by decide +kernel : kd 0 = 10) (by decide)) (ce_10 G _ (by decide +kernel : kd 0 = 10)) rfl tb_420 tb_422 tv_0 tb_1 tb_423 hd_X10_refuse ⟨rfl, rfl⟩ ⟨Nat.le_of_ble_eq_true rfl, Nat.le_of_ble_eq_true rfl⟩ rfl hl.1 rfl (Nat.le_of_ble_eq_true rfl) d_X10_ways_38 (fun r_5 σ_6 H locs hD hw => ?_)
        exact g_iret X hr hlk hw hD d_X10_ways_41
    · have hD := hD.2 q_19
      refine lv_aload_n X.1 X.2.1 d_X10_ways_22 rfl (lv_at hl 0 rfl) ?_
      refine lv_bipush (v := (-4)) X.1 X.2.1 d_X10_ways_23 (by decide) ?_
      refine gcV_i (rest := []) (As := [.int (-4)]) (o := 0) X hw (c_X10_refuse l G (-4) σ _  hD) (kd_lt (by decide +kernel : kd 0 = 10) (by decide)) (ce_10 G _ (by decide +kernel : kd 0 = 10)) rfl tb_420 tb_422 tv_0 tb_1 tb_423 hd_X10_refuse ⟨rfl, rfl⟩ ⟨Nat.le_of_ble_eq_true rfl, Nat.le_of_ble_eq_true rfl⟩ rfl hl.1 rfl (Nat.le_of_ble_eq_true rfl) d_X10_ways_25 (fun r_7 σ_8 H locs hD hw => ?_)
      exact g_iret X hr hlk hw hD d_X10_ways_28
  · have hD := hD.2 q_7
    refine lv_aload_n X.1 X.2.1 d_X10_ways_10 rfl (lv_at hl 0 rfl) ?_
    refine lv_bipush (v := (-3)) X.1 X.2.1 d_X10_ways_11 (by decide) ?_
    refine gcV_i (rest := []) (As := [.int (-3)]) (o := 0) X hw (c_X10_refuse l G (-3) σ _  hD) (kd_lt (by decide +kernel : kd 0 = 10) (by decide)) (ce_10 G _ (by decide +kernel : kd 0 = 10)) rfl tb_420 tb_422 tv_0 tb_1 tb_423 hd_X10_refuse ⟨rfl, rfl⟩ ⟨Nat.le_of_ble_eq_true rfl, Nat.le_of_ble_eq_true rfl⟩ rfl hl.1 rfl (Nat.le_of_ble_eq_true rfl) d_X10_ways_13 (fun r_9 σ_10 H locs hD hw => ?_)
    exact g_iret X hr hlk hw hD d_X10_ways_16
theorem c_X10_ways (l : Launch) (G : GC) (x1 : Int32) (σ : GSt) (Q : Int32 → GSt → Prop)  (hD : D_X10_ways x1 σ Q) : MI l ym_X10_ways cm_X10_ways 2 .int rm_X10_ways G σ [.ref (G.2.1 0), .int x1] Q := by
  refine met_i (by decide) (Nat.le_of_ble_eq_true rfl) ?_
  intro p e s m args below meth c X hr hlk hw ls hl
  exact s_X10_ways_0 X hr hlk Q  x1 σ hw (lv_sub hl [0, 1] rfl) hD
theorem hd_X10_isNoPlayer : ym_X10_isNoPlayer.cls ≠ "java/lang/invoke/MethodHandle" ∧ ym_X10_isNoPlayer.cls ≠ "java/lang/invoke/VarHandle" ∧ (parseMethodDescriptor ym_X10_isNoPlayer.desc).map (fun d => d.parameters.length) = some 1 := by decide +kernel
abbrev rm_X10_isNoPlayer : Room := { frames := 0, cells := 0, slots := 0, locals := 0 }
theorem d_X10_isNoPlayer_0 : decode cm_X10_isNoPlayer 0 = .ok (.iload_n 0, 1) := by decide +kernel
theorem d_X10_isNoPlayer_1 : decode cm_X10_isNoPlayer 1 = .ok (.ifCond .lt 8, 3) := by decide +kernel
theorem d_X10_isNoPlayer_4 : decode cm_X10_isNoPlayer 4 = .ok (.iload_n 0, 1) := by decide +kernel
theorem d_X10_isNoPlayer_5 : decode cm_X10_isNoPlayer 5 = .ok (.iconst 3, 1) := by decide +kernel
theorem d_X10_isNoPlayer_6 : decode cm_X10_isNoPlayer 6 = .ok (.if_icmp .le 7, 3) := by decide +kernel
theorem d_X10_isNoPlayer_9 : decode cm_X10_isNoPlayer 9 = .ok (.iconst 1, 1) := by decide +kernel
theorem d_X10_isNoPlayer_10 : decode cm_X10_isNoPlayer 10 = .ok (.goto 4, 3) := by decide +kernel
theorem d_X10_isNoPlayer_13 : decode cm_X10_isNoPlayer 13 = .ok (.iconst 0, 1) := by decide +kernel
theorem d_X10_isNoPlayer_14 : decode cm_X10_isNoPlayer 14 = .ok (.ireturn, 1) := by decide +kernel
def D_X10_isNoPlayer_9 (Q : Int32 → GSt → Prop) (σ : GSt) : Prop :=
  Q 1 σ
def D_X10_isNoPlayer_0 (Q : Int32 → GSt → Prop) (x0 : Int32) (σ : GSt) : Prop :=
  (x0 < 0 → D_X10_isNoPlayer_9 Q σ) ∧
  (¬ x0 < 0 → (x0 ≤ 3 → Q 0 σ) ∧
  (¬ x0 ≤ 3 → D_X10_isNoPlayer_9 Q σ))
def D_X10_isNoPlayer (x0 : Int32) (σ : GSt) (Q : Int32 → GSt → Prop) : Prop := D_X10_isNoPlayer_0 Q x0 σ
set_option maxRecDepth 20000 in
set_option maxHeartbeats 4000000 in
theorem s_X10_isNoPlayer_9 {p : Program} {l : Launch} {e : Env} {s : State} {m : MethodId} {args : Array Value} {below : List Frame} {meth : Method} {c : Code} {G : GC} (X : CallFix p m c cm_X10_isNoPlayer 1 s args lw_us "GameLoom") (hr : meth.sig.returnType = some .boolean) (hlk : meth.locks = false) (Q : Int32 → GSt → Prop) (σ : GSt) {H : Heap} {locs : List Loc} {ls : Array Slot} (hw : Wo G s H locs σ) (hl : lv_has ls 1 []) (hD : D_X10_isNoPlayer_9 Q σ) : W p l e rm_X10_isNoPlayer s m args below meth c H locs 0 0 (QMI G Q below args s) (F0 m 9 ls []) := by
  unfold D_X10_isNoPlayer_9 at hD
  refine lv_iconst (v := 1) X.1 X.2.1 d_X10_isNoPlayer_9 (by decide) ?_
  refine lv_goto (tgt := 14) X.1 X.2.1 d_X10_isNoPlayer_10 (by decide) ?_
  exact g_zret X hr hlk hw (by decide) hD d_X10_isNoPlayer_14
set_option maxRecDepth 20000 in
set_option maxHeartbeats 4000000 in
theorem s_X10_isNoPlayer_0 {p : Program} {l : Launch} {e : Env} {s : State} {m : MethodId} {args : Array Value} {below : List Frame} {meth : Method} {c : Code} {G : GC} (X : CallFix p m c cm_X10_isNoPlayer 1 s args lw_us "GameLoom") (hr : meth.sig.returnType = some .boolean) (hlk : meth.locks = false) (Q : Int32 → GSt → Prop) (x0 : Int32) (σ : GSt) {H : Heap} {locs : List Loc} {ls : Array Slot} (hw : Wo G s H locs σ) (hl : lv_has ls 1 [(0, .int x0)]) (hD : D_X10_isNoPlayer_0 Q x0 σ) : W p l e rm_X10_isNoPlayer s m args below meth c H locs 0 0 (QMI G Q below args s) (F0 m 0 ls []) := by
  unfold D_X10_isNoPlayer_0 at hD
  refine lv_iload_n X.1 X.2.1 d_X10_isNoPlayer_0 rfl (lv_at hl 0 rfl) ?_
  refine lv_if_lt (tgt := 9) X.1 X.2.1 d_X10_isNoPlayer_1 (by decide) (fun q_1 => ?_) (fun q_1 => ?_)
  · have hD := hD.1 q_1
    exact s_X10_isNoPlayer_9 X hr hlk  Q   σ hw (lv_sub hl [] rfl) hD
  · have hD := hD.2 q_1
    refine lv_iload_n X.1 X.2.1 d_X10_isNoPlayer_4 rfl (lv_at hl 0 rfl) ?_
    refine lv_iconst (v := 3) X.1 X.2.1 d_X10_isNoPlayer_5 (by decide) ?_
    refine lv_icmp_le (tgt := 13) X.1 X.2.1 d_X10_isNoPlayer_6 (by decide) (fun q_6 => ?_) (fun q_6 => ?_)
    · have hD := hD.1 q_6
      refine lv_iconst (v := 0) X.1 X.2.1 d_X10_isNoPlayer_13 (by decide) ?_
      exact g_zret X hr hlk hw (by decide) hD d_X10_isNoPlayer_14
    · have hD := hD.2 q_6
      exact s_X10_isNoPlayer_9 X hr hlk  Q   σ hw (lv_sub hl [] rfl) hD
theorem c_X10_isNoPlayer (l : Launch) (G : GC) (x0 : Int32) (σ : GSt) (Q : Int32 → GSt → Prop)  (hD : D_X10_isNoPlayer x0 σ Q) : MI l ym_X10_isNoPlayer cm_X10_isNoPlayer 1 .boolean rm_X10_isNoPlayer G σ [.int x0] Q := by
  refine met_i (by decide) (Nat.le_of_ble_eq_true rfl) ?_
  intro p e s m args below meth c X hr hlk hw ls hl
  exact s_X10_isNoPlayer_0 X hr hlk Q  x0 σ hw (lv_sub hl [0] rfl) hD
theorem hd_X10_match : ym_X10_match.cls = "GameLoom" ∧ ym_X10_match.cls ≠ "java/lang/invoke/MethodHandle" ∧ ym_X10_match.cls ≠ "java/lang/invoke/VarHandle" ∧ (parseMethodDescriptor ym_X10_match.desc).map (fun d => d.parameters.length) = some 4 := by decide +kernel
abbrev rm_X10_match : Room := { frames := 16, cells := 0, slots := 0, locals := 420 }
theorem d_X10_match_0 : decode cm_X10_match 0 = .ok (.aload_n 0, 1) := by decide +kernel
theorem d_X10_match_1 : decode cm_X10_match 1 = .ok (.iload_n 1, 1) := by decide +kernel
theorem d_X10_match_2 : decode cm_X10_match 2 = .ok (.invokevirtual 99, 3) := by decide +kernel
theorem d_X10_match_5 : decode cm_X10_match 5 = .ok (.ifCond .eq 9, 3) := by decide +kernel
theorem d_X10_match_8 : decode cm_X10_match 8 = .ok (.aload_n 0, 1) := by decide +kernel
theorem d_X10_match_9 : decode cm_X10_match 9 = .ok (.iconst (-1), 1) := by decide +kernel
theorem d_X10_match_10 : decode cm_X10_match 10 = .ok (.invokevirtual 80, 3) := by decide +kernel
theorem d_X10_match_13 : decode cm_X10_match 13 = .ok (.ireturn, 1) := by decide +kernel
theorem d_X10_match_14 : decode cm_X10_match 14 = .ok (.iload_n 2, 1) := by decide +kernel
theorem d_X10_match_15 : decode cm_X10_match 15 = .ok (.invokestatic 219, 3) := by decide +kernel
theorem d_X10_match_18 : decode cm_X10_match 18 = .ok (.ifCond .ne 10, 3) := by decide +kernel
theorem d_X10_match_21 : decode cm_X10_match 21 = .ok (.iload_n 3, 1) := by decide +kernel
theorem d_X10_match_22 : decode cm_X10_match 22 = .ok (.invokestatic 219, 3) := by decide +kernel
theorem d_X10_match_25 : decode cm_X10_match 25 = .ok (.ifCond .eq 10, 3) := by decide +kernel
theorem d_X10_match_28 : decode cm_X10_match 28 = .ok (.aload_n 0, 1) := by decide +kernel
theorem d_X10_match_29 : decode cm_X10_match 29 = .ok (.bipush (-2), 2) := by decide +kernel
theorem d_X10_match_31 : decode cm_X10_match 31 = .ok (.invokevirtual 80, 3) := by decide +kernel
theorem d_X10_match_34 : decode cm_X10_match 34 = .ok (.ireturn, 1) := by decide +kernel
theorem d_X10_match_35 : decode cm_X10_match 35 = .ok (.aload_n 0, 1) := by decide +kernel
theorem d_X10_match_36 : decode cm_X10_match 36 = .ok (.getfield 49, 3) := by decide +kernel
theorem d_X10_match_39 : decode cm_X10_match 39 = .ok (.aload_n 0, 1) := by decide +kernel
theorem d_X10_match_40 : decode cm_X10_match 40 = .ok (.getfield 28, 3) := by decide +kernel
theorem d_X10_match_43 : decode cm_X10_match 43 = .ok (.iload_n 1, 1) := by decide +kernel
theorem d_X10_match_44 : decode cm_X10_match 44 = .ok (.aaload, 1) := by decide +kernel
theorem d_X10_match_45 : decode cm_X10_match 45 = .ok (.iconst 1, 1) := by decide +kernel
theorem d_X10_match_46 : decode cm_X10_match 46 = .ok (.iload 4, 2) := by decide +kernel
theorem d_X10_match_48 : decode cm_X10_match 48 = .ok (.iload_n 2, 1) := by decide +kernel
theorem d_X10_match_49 : decode cm_X10_match 49 = .ok (.iload_n 3, 1) := by decide +kernel
theorem d_X10_match_50 : decode cm_X10_match 50 = .ok (.invokevirtual 222, 3) := by decide +kernel
theorem d_X10_match_53 : decode cm_X10_match 53 = .ok (.bipush 10, 2) := by decide +kernel
theorem d_X10_match_55 : decode cm_X10_match 55 = .ok (.aload_n 0, 1) := by decide +kernel
theorem d_X10_match_56 : decode cm_X10_match 56 = .ok (.getfield 49, 3) := by decide +kernel
theorem d_X10_match_59 : decode cm_X10_match 59 = .ok (.getfield 226, 3) := by decide +kernel
theorem d_X10_match_62 : decode cm_X10_match 62 = .ok (.imul, 1) := by decide +kernel
theorem d_X10_match_63 : decode cm_X10_match 63 = .ok (.aload_n 0, 1) := by decide +kernel
theorem d_X10_match_64 : decode cm_X10_match 64 = .ok (.getfield 49, 3) := by decide +kernel
theorem d_X10_match_67 : decode cm_X10_match 67 = .ok (.getfield 228, 3) := by decide +kernel
theorem d_X10_match_70 : decode cm_X10_match 70 = .ok (.getfield 169, 3) := by decide +kernel
theorem d_X10_match_73 : decode cm_X10_match 73 = .ok (.iadd, 1) := by decide +kernel
theorem d_X10_match_74 : decode cm_X10_match 74 = .ok (.ireturn, 1) := by decide +kernel
def D_X10_match_28 (Q : Int32 → GSt → Prop) (σ : GSt) : Prop :=
  D_X10_refuse (-2) σ (fun r_1 σ_2 => Q r_1 σ_2)
def D_X10_match_0 (Q : Int32 → GSt → Prop) (x1 : Int32) (x2 : Int32) (x3 : Int32) (x4 : Int32) (σ : GSt) : Prop :=
  D_X10_isNoGame x1 σ (fun r_1 σ_2 => (r_1 = 0 → D_X10_isNoPlayer x2 σ_2 (fun r_3 σ_4 => (¬ r_3 = 0 → D_X10_match_28 Q σ_4) ∧
  (r_3 = 0 → D_X10_isNoPlayer x3 σ_4 (fun r_5 σ_6 => (r_5 = 0 → vp_in x1 8 ∧ (D_X8_run 39 (61 + 22 * Int32.toNatClampNeg x1) 1 x4 x2 x3 σ_6 (fun σ_7 => Q ((10 * (σ_7 39 1)) + (σ_7 (39 + 1) 5)) σ_7))) ∧
  (¬ r_5 = 0 → D_X10_match_28 Q σ_6))))) ∧
  (¬ r_1 = 0 → D_X10_refuse (-1) σ_2 (fun r_8 σ_9 => Q r_8 σ_9)))
def D_X10_match (x1 : Int32) (x2 : Int32) (x3 : Int32) (x4 : Int32) (σ : GSt) (Q : Int32 → GSt → Prop) : Prop := D_X10_match_0 Q x1 x2 x3 x4 σ
set_option maxRecDepth 20000 in
set_option maxHeartbeats 4000000 in
theorem s_X10_match_28 {p : Program} {l : Launch} {e : Env} {s : State} {m : MethodId} {args : Array Value} {below : List Frame} {meth : Method} {c : Code} {G : GC} (X : CallFix p m c cm_X10_match 5 s args lw_us "GameLoom") (hr : meth.sig.returnType = some .int) (hlk : meth.locks = false) (Q : Int32 → GSt → Prop) (σ : GSt) {H : Heap} {locs : List Loc} {ls : Array Slot} (hw : Wo G s H locs σ) (hl : lv_has ls 5 [(0, .ref (G.2.1 0))]) (hD : D_X10_match_28 Q σ) : W p l e rm_X10_match s m args below meth c H locs 0 0 (QMI G Q below args s) (F0 m 28 ls []) := by
  unfold D_X10_match_28 at hD
  refine lv_aload_n X.1 X.2.1 d_X10_match_28 rfl (lv_at hl 0 rfl) ?_
  refine lv_bipush (v := (-2)) X.1 X.2.1 d_X10_match_29 (by decide) ?_
  refine gcV_i (rest := []) (As := [.int (-2)]) (o := 0) X hw (c_X10_refuse l G (-2) σ _  hD) (kd_lt (by decide +kernel : kd 0 = 10) (by decide)) (ce_10 G _ (by decide +kernel : kd 0 = 10)) rfl tb_420 tb_422 tv_0 tb_1 tb_423 hd_X10_refuse ⟨rfl, rfl⟩ ⟨Nat.le_of_ble_eq_true rfl, Nat.le_of_ble_eq_true rfl⟩ rfl hl.1 rfl (Nat.le_of_ble_eq_true rfl) d_X10_match_31 (fun r_1 σ_2 H locs hD hw => ?_)
  exact g_iret X hr hlk hw hD d_X10_match_34
set_option maxRecDepth 20000 in
set_option maxHeartbeats 4000000 in
theorem s_X10_match_0 {p : Program} {l : Launch} {e : Env} {s : State} {m : MethodId} {args : Array Value} {below : List Frame} {meth : Method} {c : Code} {G : GC} (X : CallFix p m c cm_X10_match 5 s args lw_us "GameLoom") (hr : meth.sig.returnType = some .int) (hlk : meth.locks = false) (Q : Int32 → GSt → Prop) (x1 : Int32) (x2 : Int32) (x3 : Int32) (x4 : Int32) (σ : GSt) {H : Heap} {locs : List Loc} {ls : Array Slot} (hw : Wo G s H locs σ) (hl : lv_has ls 5 [(0, .ref (G.2.1 0)), (1, .int x1), (2, .int x2), (3, .int x3), (4, .int x4)]) (hD : D_X10_match_0 Q x1 x2 x3 x4 σ) : W p l e rm_X10_match s m args below meth c H locs 0 0 (QMI G Q below args s) (F0 m 0 ls []) := by
  unfold D_X10_match_0 at hD
  refine lv_aload_n X.1 X.2.1 d_X10_match_0 rfl (lv_at hl 0 rfl) ?_
  refine lv_iload_n X.1 X.2.1 d_X10_match_1 rfl (lv_at hl 1 rfl) ?_
  refine gcV_i (rest := []) (As := [.int x1]) (o := 0) X hw (c_X10_isNoGame l G x1 σ _  hD) (kd_lt (by decide +kernel : kd 0 = 10) (by decide)) (ce_10 G _ (by decide +kernel : kd 0 = 10)) rfl tb_526 tb_528 tv_17 tb_1 tb_529 hd_X10_isNoGame ⟨rfl, rfl⟩ ⟨Nat.le_of_ble_eq_true rfl, Nat.le_of_ble_eq_true rfl⟩ rfl hl.1 rfl (Nat.le_of_ble_eq_true rfl) d_X10_match_2 (fun r_1 σ_2 H locs hD hw => ?_)
  refine lv_if_eq (tgt := 14) X.1 X.2.1 d_X10_match_5 (by decide) (fun q_5 => ?_) (fun q_5 => ?_)
  · have hD := hD.1 q_5
    refine lv_iload_n X.1 X.2.1 d_X10_match_14 rfl (lv_at hl 2 rfl) ?_
    refine gcS_i (rest := []) (As := [.int x2]) X hw (c_X10_isNoPlayer l G x2 σ_2 _  hD) tb_717 tb_718 tb_1 tb_719 hd_X10_isNoPlayer ⟨rfl, rfl⟩ ⟨Nat.le_of_ble_eq_true rfl, Nat.le_of_ble_eq_true rfl⟩ rfl hl.1 rfl (Nat.le_of_ble_eq_true rfl) d_X10_match_15 (fun r_3 σ_4 H locs hD hw => ?_)
    refine lv_if_ne (tgt := 28) X.1 X.2.1 d_X10_match_18 (by decide) (fun q_18 => ?_) (fun q_18 => ?_)
    · have hD := hD.1 q_18
      exact s_X10_match_28 X hr hlk  Q   σ_4 hw (lv_sub hl [0] rfl) hD
    · have hD := hD.2 q_18
      refine lv_iload_n X.1 X.2.1 d_X10_match_21 rfl (lv_at hl 3 rfl) ?_
      refine gcS_i (rest := []) (As := [.int x3]) X hw (c_X10_isNoPlayer l G x3 σ_4 _  hD) tb_717 tb_718 tb_1 tb_719 hd_X10_isNoPlayer ⟨rfl, rfl⟩ ⟨Nat.le_of_ble_eq_true rfl, Nat.le_of_ble_eq_true rfl⟩ rfl hl.1 rfl (Nat.le_of_ble_eq_true rfl) d_X10_match_22 (fun r_5 σ_6 H locs hD hw => ?_)
      refine lv_if_eq (tgt := 35) X.1 X.2.1 d_X10_match_25 (by decide) (fun q_25 => ?_) (fun q_25 => ?_)
      · have hD := hD.1 q_25
        refine lv_aload_n X.1 X.2.1 d_X10_match_35 rfl (lv_at hl 0 rfl) ?_
        refine gf_10_7 X hw (by decide +kernel : kd 0 = 10) tb_380 d_X10_match_36 ?_
        refine lv_aload_n X.1 X.2.1 d_X10_match_39 rfl (lv_at hl 0 rfl) ?_
        refine gf_10_3 X hw (by decide +kernel : kd 0 = 10) tb_376 d_X10_match_40 ?_
        refine lv_iload_n X.1 X.2.1 d_X10_match_43 rfl (lv_at hl 1 rfl) ?_
        obtain ⟨q_44, hD⟩ := hD
        refine g_aald14 X hw ly_10_3.1 q_44 d_X10_match_44 ?_
        refine lv_iconst (v := 1) X.1 X.2.1 d_X10_match_45 (by decide) ?_
        refine lv_iload X.1 X.2.1 d_X10_match_46 (lv_at hl 4 rfl) ?_
        refine lv_iload_n X.1 X.2.1 d_X10_match_48 rfl (lv_at hl 2 rfl) ?_
        refine lv_iload_n X.1 X.2.1 d_X10_match_49 rfl (lv_at hl 3 rfl) ?_
        refine gcV_v (rest := []) (As := [.ref (G.2.1 (61 + 22 * Int32.toNatClampNeg x1)), .int 1, .int x4, .int x2, .int x3]) (o := 39) X hw (c_X8_run l G 39 (61 + 22 * Int32.toNatClampNeg x1) 1 x4 x2 x3 σ_6 _ ly_10_7 (le_14 ly_10_3.1 q_44) hD) (kd_lt ly_10_7 (by decide)) (ce_8 G _ ly_10_7) rfl tb_720 tb_721 tb_722 tb_8 tb_723 hd_X8_run ⟨rfl, rfl⟩ ⟨Nat.le_of_ble_eq_true rfl, Nat.le_of_ble_eq_true rfl⟩ rfl hl.1 rfl (Nat.le_of_ble_eq_true rfl) d_X10_match_50 (fun σ_7 H locs hD hw => ?_)
        refine lv_bipush (v := 10) X.1 X.2.1 d_X10_match_53 (by decide) ?_
        refine lv_aload_n X.1 X.2.1 d_X10_match_55 rfl (lv_at hl 0 rfl) ?_
        refine gf_10_7 X hw (by decide +kernel : kd 0 = 10) tb_380 d_X10_match_56 ?_
        refine gf_8_1 X hw ly_10_7 tb_285 d_X10_match_59 ?_
        refine lv_imul X.1 X.2.1 d_X10_match_62 ?_
        refine lv_aload_n X.1 X.2.1 d_X10_match_63 rfl (lv_at hl 0 rfl) ?_
        refine gf_10_7 X hw (by decide +kernel : kd 0 = 10) tb_380 d_X10_match_64 ?_
        refine gf_8_0 X hw ly_10_7 tb_283 d_X10_match_67 ?_
        refine gf_5_5 X hw (ly_8_0 ly_10_7) tb_263 d_X10_match_70 ?_
        refine lv_iadd X.1 X.2.1 d_X10_match_73 ?_
        exact g_iret X hr hlk hw hD d_X10_match_74
      · have hD := hD.2 q_25
        exact s_X10_match_28 X hr hlk  Q   σ_6 hw (lv_sub hl [0] rfl) hD
  · have hD := hD.2 q_5
    refine lv_aload_n X.1 X.2.1 d_X10_match_8 rfl (lv_at hl 0 rfl) ?_
    refine lv_iconst (v := (-1)) X.1 X.2.1 d_X10_match_9 (by decide) ?_
    refine gcV_i (rest := []) (As := [.int (-1)]) (o := 0) X hw (c_X10_refuse l G (-1) σ_2 _  hD) (kd_lt (by decide +kernel : kd 0 = 10) (by decide)) (ce_10 G _ (by decide +kernel : kd 0 = 10)) rfl tb_420 tb_422 tv_0 tb_1 tb_423 hd_X10_refuse ⟨rfl, rfl⟩ ⟨Nat.le_of_ble_eq_true rfl, Nat.le_of_ble_eq_true rfl⟩ rfl hl.1 rfl (Nat.le_of_ble_eq_true rfl) d_X10_match_10 (fun r_8 σ_9 H locs hD hw => ?_)
    exact g_iret X hr hlk hw hD d_X10_match_13
theorem c_X10_match (l : Launch) (G : GC) (x1 : Int32) (x2 : Int32) (x3 : Int32) (x4 : Int32) (σ : GSt) (Q : Int32 → GSt → Prop)  (hD : D_X10_match x1 x2 x3 x4 σ Q) : MI l ym_X10_match cm_X10_match 5 .int rm_X10_match G σ [.ref (G.2.1 0), .int x1, .int x2, .int x3, .int x4] Q := by
  refine met_i (by decide) (Nat.le_of_ble_eq_true rfl) ?_
  intro p e s m args below meth c X hr hlk hw ls hl
  exact s_X10_match_0 X hr hlk Q  x1 x2 x3 x4 σ hw (lv_sub hl [0, 1, 2, 3, 4] rfl) hD
theorem hd_X10_measure : ym_X10_measure.cls = "GameLoom" ∧ ym_X10_measure.cls ≠ "java/lang/invoke/MethodHandle" ∧ ym_X10_measure.cls ≠ "java/lang/invoke/VarHandle" ∧ (parseMethodDescriptor ym_X10_measure.desc).map (fun d => d.parameters.length) = some 5 := by decide +kernel
abbrev rm_X10_measure : Room := { frames := 16, cells := 0, slots := 0, locals := 420 }
theorem d_X10_measure_0 : decode cm_X10_measure 0 = .ok (.aload_n 0, 1) := by decide +kernel
theorem d_X10_measure_1 : decode cm_X10_measure 1 = .ok (.iload_n 1, 1) := by decide +kernel
theorem d_X10_measure_2 : decode cm_X10_measure 2 = .ok (.invokevirtual 99, 3) := by decide +kernel
theorem d_X10_measure_5 : decode cm_X10_measure 5 = .ok (.ifCond .eq 9, 3) := by decide +kernel
theorem d_X10_measure_8 : decode cm_X10_measure 8 = .ok (.aload_n 0, 1) := by decide +kernel
theorem d_X10_measure_9 : decode cm_X10_measure 9 = .ok (.iconst (-1), 1) := by decide +kernel
theorem d_X10_measure_10 : decode cm_X10_measure 10 = .ok (.invokevirtual 80, 3) := by decide +kernel
theorem d_X10_measure_13 : decode cm_X10_measure 13 = .ok (.ireturn, 1) := by decide +kernel
theorem d_X10_measure_14 : decode cm_X10_measure 14 = .ok (.aload_n 0, 1) := by decide +kernel
theorem d_X10_measure_15 : decode cm_X10_measure 15 = .ok (.getfield 28, 3) := by decide +kernel
theorem d_X10_measure_18 : decode cm_X10_measure 18 = .ok (.iload_n 1, 1) := by decide +kernel
theorem d_X10_measure_19 : decode cm_X10_measure 19 = .ok (.aaload, 1) := by decide +kernel
theorem d_X10_measure_20 : decode cm_X10_measure 20 = .ok (.astore 6, 2) := by decide +kernel
theorem d_X10_measure_22 : decode cm_X10_measure 22 = .ok (.iload 4, 2) := by decide +kernel
theorem d_X10_measure_24 : decode cm_X10_measure 24 = .ok (.bipush 10, 2) := by decide +kernel
theorem d_X10_measure_26 : decode cm_X10_measure 26 = .ok (.idiv, 1) := by decide +kernel
theorem d_X10_measure_27 : decode cm_X10_measure 27 = .ok (.istore 7, 2) := by decide +kernel
theorem d_X10_measure_29 : decode cm_X10_measure 29 = .ok (.iload 4, 2) := by decide +kernel
theorem d_X10_measure_31 : decode cm_X10_measure 31 = .ok (.bipush 10, 2) := by decide +kernel
theorem d_X10_measure_33 : decode cm_X10_measure 33 = .ok (.irem, 1) := by decide +kernel
theorem d_X10_measure_34 : decode cm_X10_measure 34 = .ok (.istore 8, 2) := by decide +kernel
theorem d_X10_measure_36 : decode cm_X10_measure 36 = .ok (.iload 7, 2) := by decide +kernel
theorem d_X10_measure_38 : decode cm_X10_measure 38 = .ok (.invokestatic 219, 3) := by decide +kernel
theorem d_X10_measure_41 : decode cm_X10_measure 41 = .ok (.ifCond .ne 21, 3) := by decide +kernel
theorem d_X10_measure_44 : decode cm_X10_measure 44 = .ok (.iload 8, 2) := by decide +kernel
theorem d_X10_measure_46 : decode cm_X10_measure 46 = .ok (.invokestatic 219, 3) := by decide +kernel
theorem d_X10_measure_49 : decode cm_X10_measure 49 = .ok (.ifCond .ne 13, 3) := by decide +kernel
theorem d_X10_measure_52 : decode cm_X10_measure 52 = .ok (.aload 6, 2) := by decide +kernel
theorem d_X10_measure_54 : decode cm_X10_measure 54 = .ok (.iload 5, 2) := by decide +kernel
theorem d_X10_measure_56 : decode cm_X10_measure 56 = .ok (.invokevirtual 229, 3) := by decide +kernel
theorem d_X10_measure_59 : decode cm_X10_measure 59 = .ok (.ifCond .ne 10, 3) := by decide +kernel
theorem d_X10_measure_62 : decode cm_X10_measure 62 = .ok (.aload_n 0, 1) := by decide +kernel
theorem d_X10_measure_63 : decode cm_X10_measure 63 = .ok (.bipush (-2), 2) := by decide +kernel
theorem d_X10_measure_65 : decode cm_X10_measure 65 = .ok (.invokevirtual 80, 3) := by decide +kernel
theorem d_X10_measure_68 : decode cm_X10_measure 68 = .ok (.ireturn, 1) := by decide +kernel
theorem d_X10_measure_69 : decode cm_X10_measure 69 = .ok (.iload_n 2, 1) := by decide +kernel
theorem d_X10_measure_70 : decode cm_X10_measure 70 = .ok (.iconst 1, 1) := by decide +kernel
theorem d_X10_measure_71 : decode cm_X10_measure 71 = .ok (.if_icmp .ge 10, 3) := by decide +kernel
theorem d_X10_measure_74 : decode cm_X10_measure 74 = .ok (.aload_n 0, 1) := by decide +kernel
theorem d_X10_measure_75 : decode cm_X10_measure 75 = .ok (.bipush (-4), 2) := by decide +kernel
theorem d_X10_measure_77 : decode cm_X10_measure 77 = .ok (.invokevirtual 80, 3) := by decide +kernel
theorem d_X10_measure_80 : decode cm_X10_measure 80 = .ok (.ireturn, 1) := by decide +kernel
theorem d_X10_measure_81 : decode cm_X10_measure 81 = .ok (.iload_n 2, 1) := by decide +kernel
theorem d_X10_measure_82 : decode cm_X10_measure 82 = .ok (.bipush 20, 2) := by decide +kernel
theorem d_X10_measure_84 : decode cm_X10_measure 84 = .ok (.if_icmp .le 10, 3) := by decide +kernel
theorem d_X10_measure_87 : decode cm_X10_measure 87 = .ok (.aload_n 0, 1) := by decide +kernel
theorem d_X10_measure_88 : decode cm_X10_measure 88 = .ok (.bipush (-6), 2) := by decide +kernel
theorem d_X10_measure_90 : decode cm_X10_measure 90 = .ok (.invokevirtual 80, 3) := by decide +kernel
theorem d_X10_measure_93 : decode cm_X10_measure 93 = .ok (.ireturn, 1) := by decide +kernel
theorem d_X10_measure_94 : decode cm_X10_measure 94 = .ok (.aload_n 0, 1) := by decide +kernel
theorem d_X10_measure_95 : decode cm_X10_measure 95 = .ok (.getfield 49, 3) := by decide +kernel
theorem d_X10_measure_98 : decode cm_X10_measure 98 = .ok (.aload 6, 2) := by decide +kernel
theorem d_X10_measure_100 : decode cm_X10_measure 100 = .ok (.iload_n 2, 1) := by decide +kernel
theorem d_X10_measure_101 : decode cm_X10_measure 101 = .ok (.iload_n 3, 1) := by decide +kernel
theorem d_X10_measure_102 : decode cm_X10_measure 102 = .ok (.iload 7, 2) := by decide +kernel
theorem d_X10_measure_104 : decode cm_X10_measure 104 = .ok (.iload 8, 2) := by decide +kernel
theorem d_X10_measure_106 : decode cm_X10_measure 106 = .ok (.invokevirtual 222, 3) := by decide +kernel
theorem d_X10_measure_109 : decode cm_X10_measure 109 = .ok (.aload_n 0, 1) := by decide +kernel
theorem d_X10_measure_110 : decode cm_X10_measure 110 = .ok (.getfield 49, 3) := by decide +kernel
theorem d_X10_measure_113 : decode cm_X10_measure 113 = .ok (.iload 5, 2) := by decide +kernel
theorem d_X10_measure_115 : decode cm_X10_measure 115 = .ok (.invokevirtual 232, 3) := by decide +kernel
theorem d_X10_measure_118 : decode cm_X10_measure 118 = .ok (.ireturn, 1) := by decide +kernel
def D_X10_measure_62 (Q : Int32 → GSt → Prop) (σ : GSt) : Prop :=
  D_X10_refuse (-2) σ (fun r_1 σ_2 => Q r_1 σ_2)
def D_X10_measure_0 (Q : Int32 → GSt → Prop) (x1 : Int32) (x2 : Int32) (x3 : Int32) (x4 : Int32) (x5 : Int32) (σ : GSt) : Prop :=
  D_X10_isNoGame x1 σ (fun r_1 σ_2 => (r_1 = 0 → vp_in x1 8 ∧ (∀ x7_3 : Int32, x7_3 = (x4 / 10) → (∀ x8_4 : Int32, x8_4 = (jrem x4 10) → (D_X10_isNoPlayer x7_3 σ_2 (fun r_5 σ_6 => (¬ r_5 = 0 → D_X10_measure_62 Q σ_6) ∧
  (r_5 = 0 → D_X10_isNoPlayer x8_4 σ_6 (fun r_7 σ_8 => (¬ r_7 = 0 → D_X10_measure_62 Q σ_8) ∧
  (r_7 = 0 → D_X1_isMeasured (61 + 22 * Int32.toNatClampNeg x1) x5 σ_8 (fun r_9 σ_10 => (¬ r_9 = 0 → (1 ≤ x2 → (x2 ≤ 20 → D_X8_run 39 (61 + 22 * Int32.toNatClampNeg x1) x2 x3 x7_3 x8_4 σ_10 (fun σ_11 => D_X8_told 39 x5 σ_11 (fun r_12 σ_13 => Q r_12 σ_13))) ∧
  (¬ x2 ≤ 20 → D_X10_refuse (-6) σ_10 (fun r_14 σ_15 => Q r_14 σ_15))) ∧
  (¬ 1 ≤ x2 → D_X10_refuse (-4) σ_10 (fun r_16 σ_17 => Q r_16 σ_17))) ∧
  (r_9 = 0 → D_X10_measure_62 Q σ_10)))))))))) ∧
  (¬ r_1 = 0 → D_X10_refuse (-1) σ_2 (fun r_18 σ_19 => Q r_18 σ_19)))
def D_X10_measure (x1 : Int32) (x2 : Int32) (x3 : Int32) (x4 : Int32) (x5 : Int32) (σ : GSt) (Q : Int32 → GSt → Prop) : Prop := D_X10_measure_0 Q x1 x2 x3 x4 x5 σ
set_option maxRecDepth 20000 in
set_option maxHeartbeats 4000000 in
theorem s_X10_measure_62 {p : Program} {l : Launch} {e : Env} {s : State} {m : MethodId} {args : Array Value} {below : List Frame} {meth : Method} {c : Code} {G : GC} (X : CallFix p m c cm_X10_measure 9 s args lw_us "GameLoom") (hr : meth.sig.returnType = some .int) (hlk : meth.locks = false) (Q : Int32 → GSt → Prop) (σ : GSt) {H : Heap} {locs : List Loc} {ls : Array Slot} (hw : Wo G s H locs σ) (hl : lv_has ls 9 [(0, .ref (G.2.1 0))]) (hD : D_X10_measure_62 Q σ) : W p l e rm_X10_measure s m args below meth c H locs 0 0 (QMI G Q below args s) (F0 m 62 ls []) := by
  unfold D_X10_measure_62 at hD
  refine lv_aload_n X.1 X.2.1 d_X10_measure_62 rfl (lv_at hl 0 rfl) ?_
  refine lv_bipush (v := (-2)) X.1 X.2.1 d_X10_measure_63 (by decide) ?_
  refine gcV_i (rest := []) (As := [.int (-2)]) (o := 0) X hw (c_X10_refuse l G (-2) σ _  hD) (kd_lt (by decide +kernel : kd 0 = 10) (by decide)) (ce_10 G _ (by decide +kernel : kd 0 = 10)) rfl tb_420 tb_422 tv_0 tb_1 tb_423 hd_X10_refuse ⟨rfl, rfl⟩ ⟨Nat.le_of_ble_eq_true rfl, Nat.le_of_ble_eq_true rfl⟩ rfl hl.1 rfl (Nat.le_of_ble_eq_true rfl) d_X10_measure_65 (fun r_1 σ_2 H locs hD hw => ?_)
  exact g_iret X hr hlk hw hD d_X10_measure_68
set_option maxRecDepth 20000 in
set_option maxHeartbeats 4000000 in
theorem s_X10_measure_0 {p : Program} {l : Launch} {e : Env} {s : State} {m : MethodId} {args : Array Value} {below : List Frame} {meth : Method} {c : Code} {G : GC} (X : CallFix p m c cm_X10_measure 9 s args lw_us "GameLoom") (hr : meth.sig.returnType = some .int) (hlk : meth.locks = false) (Q : Int32 → GSt → Prop) (x1 : Int32) (x2 : Int32) (x3 : Int32) (x4 : Int32) (x5 : Int32) (σ : GSt) {H : Heap} {locs : List Loc} {ls : Array Slot} (hw : Wo G s H locs σ) (hl : lv_has ls 9 [(0, .ref (G.2.1 0)), (1, .int x1), (2, .int x2), (3, .int x3), (4, .int x4), (5, .int x5)]) (hD : D_X10_measure_0 Q x1 x2 x3 x4 x5 σ) : W p l e rm_X10_measure s m args below meth c H locs 0 0 (QMI G Q below args s) (F0 m 0 ls []) := by
  unfold D_X10_measure_0 at hD
  refine lv_aload_n X.1 X.2.1 d_X10_measure_0 rfl (lv_at hl 0 rfl) ?_
  refine lv_iload_n X.1 X.2.1 d_X10_measure_1 rfl (lv_at hl 1 rfl) ?_
  refine gcV_i (rest := []) (As := [.int x1]) (o := 0) X hw (c_X10_isNoGame l G x1 σ _  hD) (kd_lt (by decide +kernel : kd 0 = 10) (by decide)) (ce_10 G _ (by decide +kernel : kd 0 = 10)) rfl tb_526 tb_528 tv_17 tb_1 tb_529 hd_X10_isNoGame ⟨rfl, rfl⟩ ⟨Nat.le_of_ble_eq_true rfl, Nat.le_of_ble_eq_true rfl⟩ rfl hl.1 rfl (Nat.le_of_ble_eq_true rfl) d_X10_measure_2 (fun r_1 σ_2 H locs hD hw => ?_)
  refine lv_if_eq (tgt := 14) X.1 X.2.1 d_X10_measure_5 (by decide) (fun q_5 => ?_) (fun q_5 => ?_)
  · have hD := hD.1 q_5
    refine lv_aload_n X.1 X.2.1 d_X10_measure_14 rfl (lv_at hl 0 rfl) ?_
    refine gf_10_3 X hw (by decide +kernel : kd 0 = 10) tb_376 d_X10_measure_15 ?_
    refine lv_iload_n X.1 X.2.1 d_X10_measure_18 rfl (lv_at hl 1 rfl) ?_
    obtain ⟨q_19, hD⟩ := hD
    refine g_aald14 X hw ly_10_3.1 q_19 d_X10_measure_19 ?_
    refine lv_astore (lv' := [(6, .ref (G.2.1 (61 + 22 * Int32.toNatClampNeg x1))), (0, .ref (G.2.1 0)), (1, .int x1), (2, .int x2), (3, .int x3), (4, .int x4), (5, .int x5)]) X.1 X.2.1 d_X10_measure_20 hl (by decide) rfl (fun ls hl => ?_)
    refine lv_iload X.1 X.2.1 d_X10_measure_22 (lv_at hl 5 rfl) ?_
    refine lv_bipush (v := 10) X.1 X.2.1 d_X10_measure_24 (by decide) ?_
    refine lv_idiv X.1 X.2.1 d_X10_measure_26 (by decide) ?_
    refine lv_topi (fun x7_3 e_x7_3 => ?_)
    have hD := hD x7_3 e_x7_3
    refine lv_istore (lv' := [(7, .int x7_3), (6, .ref (G.2.1 (61 + 22 * Int32.toNatClampNeg x1))), (0, .ref (G.2.1 0)), (1, .int x1), (2, .int x2), (3, .int x3), (4, .int x4), (5, .int x5)]) X.1 X.2.1 d_X10_measure_27 hl (by decide) rfl (fun ls hl => ?_)
    refine lv_iload X.1 X.2.1 d_X10_measure_29 (lv_at hl 6 rfl) ?_
    refine lv_bipush (v := 10) X.1 X.2.1 d_X10_measure_31 (by decide) ?_
    refine g_irem X d_X10_measure_33 (by decide) ?_
    refine lv_topi (fun x8_4 e_x8_4 => ?_)
    have hD := hD x8_4 e_x8_4
    refine lv_istore (lv' := [(8, .int x8_4), (7, .int x7_3), (6, .ref (G.2.1 (61 + 22 * Int32.toNatClampNeg x1))), (0, .ref (G.2.1 0)), (1, .int x1), (2, .int x2), (3, .int x3), (4, .int x4), (5, .int x5)]) X.1 X.2.1 d_X10_measure_34 hl (by decide) rfl (fun ls hl => ?_)
    refine lv_iload X.1 X.2.1 d_X10_measure_36 (lv_at hl 1 rfl) ?_
    refine gcS_i (rest := []) (As := [.int x7_3]) X hw (c_X10_isNoPlayer l G x7_3 σ_2 _  hD) tb_717 tb_718 tb_1 tb_719 hd_X10_isNoPlayer ⟨rfl, rfl⟩ ⟨Nat.le_of_ble_eq_true rfl, Nat.le_of_ble_eq_true rfl⟩ rfl hl.1 rfl (Nat.le_of_ble_eq_true rfl) d_X10_measure_38 (fun r_5 σ_6 H locs hD hw => ?_)
    refine lv_if_ne (tgt := 62) X.1 X.2.1 d_X10_measure_41 (by decide) (fun q_41 => ?_) (fun q_41 => ?_)
    · have hD := hD.1 q_41
      exact s_X10_measure_62 X hr hlk  Q   σ_6 hw (lv_sub hl [3] rfl) hD
    · have hD := hD.2 q_41
      refine lv_iload X.1 X.2.1 d_X10_measure_44 (lv_at hl 0 rfl) ?_
      refine gcS_i (rest := []) (As := [.int x8_4]) X hw (c_X10_isNoPlayer l G x8_4 σ_6 _  hD) tb_717 tb_718 tb_1 tb_719 hd_X10_isNoPlayer ⟨rfl, rfl⟩ ⟨Nat.le_of_ble_eq_true rfl, Nat.le_of_ble_eq_true rfl⟩ rfl hl.1 rfl (Nat.le_of_ble_eq_true rfl) d_X10_measure_46 (fun r_7 σ_8 H locs hD hw => ?_)
      refine lv_if_ne (tgt := 62) X.1 X.2.1 d_X10_measure_49 (by decide) (fun q_49 => ?_) (fun q_49 => ?_)
      · have hD := hD.1 q_49
        exact s_X10_measure_62 X hr hlk  Q   σ_8 hw (lv_sub hl [3] rfl) hD
      · have hD := hD.2 q_49
        refine lv_aload X.1 X.2.1 d_X10_measure_52 (lv_at hl 2 rfl) ?_
        refine lv_iload X.1 X.2.1 d_X10_measure_54 (lv_at hl 8 rfl) ?_
        refine gcV_i (rest := []) (As := [.int x5]) (o := (61 + 22 * Int32.toNatClampNeg x1)) X hw (c_X1_isMeasured l G (61 + 22 * Int32.toNatClampNeg x1) x5 σ_8 _ (le_14 ly_10_3.1 q_19) hD) (kd_lt (le_14 ly_10_3.1 q_19) (by decide)) (ce_1 G _ (le_14 ly_10_3.1 q_19)) rfl tb_754 tb_755 tb_756 tb_4 tb_757 hd_X1_isMeasured ⟨rfl, rfl⟩ ⟨Nat.le_of_ble_eq_true rfl, Nat.le_of_ble_eq_true rfl⟩ rfl hl.1 rfl (Nat.le_of_ble_eq_true rfl) d_X10_measure_56 (fun r_9 σ_10 H locs hD hw => ?_)
        refine lv_if_ne (tgt := 69) X.1 X.2.1 d_X10_measure_59 (by decide) (fun q_59 => ?_) (fun q_59 => ?_)
        · have hD := hD.1 q_59
          refine lv_iload_n X.1 X.2.1 d_X10_measure_69 rfl (lv_at hl 5 rfl) ?_
          refine lv_iconst (v := 1) X.1 X.2.1 d_X10_measure_70 (by decide) ?_
          refine lv_icmp_ge (tgt := 81) X.1 X.2.1 d_X10_measure_71 (by decide) (fun q_71 => ?_) (fun q_71 => ?_)
          · have hD := hD.1 q_71
            refine lv_iload_n X.1 X.2.1 d_X10_measure_81 rfl (lv_at hl 5 rfl) ?_
            refine lv_bipush (v := 20) X.1 X.2.1 d_X10_measure_82 (by decide) ?_
            refine lv_icmp_le (tgt := 94) X.1 X.2.1 d_X10_measure_84 (by decide) (fun q_84 => ?_) (fun q_84 => ?_)
            · have hD := hD.1 q_84
              refine lv_aload_n X.1 X.2.1 d_X10_measure_94 rfl (lv_at hl 3 rfl) ?_
              refine gf_10_7 X hw (by decide +kernel : kd 0 = 10) tb_380 d_X10_measure_95 ?_
              refine lv_aload X.1 X.2.1 d_X10_measure_98 (lv_at hl 2 rfl) ?_
              refine lv_iload_n X.1 X.2.1 d_X10_measure_100 rfl (lv_at hl 5 rfl) ?_
              refine lv_iload_n X.1 X.2.1 d_X10_measure_101 rfl (lv_at hl 6 rfl) ?_
              refine lv_iload X.1 X.2.1 d_X10_measure_102 (lv_at hl 1 rfl) ?_
              refine lv_iload X.1 X.2.1 d_X10_measure_104 (lv_at hl 0 rfl) ?_
              refine gcV_v (rest := []) (As := [.ref (G.2.1 (61 + 22 * Int32.toNatClampNeg x1)), .int x2, .int x3, .int x7_3, .int x8_4]) (o := 39) X hw (c_X8_run l G 39 (61 + 22 * Int32.toNatClampNeg x1) x2 x3 x7_3 x8_4 σ_10 _ ly_10_7 (le_14 ly_10_3.1 q_19) hD) (kd_lt ly_10_7 (by decide)) (ce_8 G _ ly_10_7) rfl tb_720 tb_721 tb_722 tb_8 tb_723 hd_X8_run ⟨rfl, rfl⟩ ⟨Nat.le_of_ble_eq_true rfl, Nat.le_of_ble_eq_true rfl⟩ rfl hl.1 rfl (Nat.le_of_ble_eq_true rfl) d_X10_measure_106 (fun σ_11 H locs hD hw => ?_)
              refine lv_aload_n X.1 X.2.1 d_X10_measure_109 rfl (lv_at hl 3 rfl) ?_
              refine gf_10_7 X hw (by decide +kernel : kd 0 = 10) tb_380 d_X10_measure_110 ?_
              refine lv_iload X.1 X.2.1 d_X10_measure_113 (lv_at hl 8 rfl) ?_
              refine gcV_i (rest := []) (As := [.int x5]) (o := 39) X hw (c_X8_told l G 39 x5 σ_11 _ ly_10_7 hD) (kd_lt ly_10_7 (by decide)) (ce_8 G _ ly_10_7) rfl tb_758 tb_759 tb_760 tb_8 tb_761 hd_X8_told ⟨rfl, rfl⟩ ⟨Nat.le_of_ble_eq_true rfl, Nat.le_of_ble_eq_true rfl⟩ rfl hl.1 rfl (Nat.le_of_ble_eq_true rfl) d_X10_measure_115 (fun r_12 σ_13 H locs hD hw => ?_)
              exact g_iret X hr hlk hw hD d_X10_measure_118
            · have hD := hD.2 q_84
              refine lv_aload_n X.1 X.2.1 d_X10_measure_87 rfl (lv_at hl 3 rfl) ?_
              refine lv_bipush (v := (-6)) X.1 X.2.1 d_X10_measure_88 (by decide) ?_
              refine gcV_i (rest := []) (As := [.int (-6)]) (o := 0) X hw (c_X10_refuse l G (-6) σ_10 _  hD) (kd_lt (by decide +kernel : kd 0 = 10) (by decide)) (ce_10 G _ (by decide +kernel : kd 0 = 10)) rfl tb_420 tb_422 tv_0 tb_1 tb_423 hd_X10_refuse ⟨rfl, rfl⟩ ⟨Nat.le_of_ble_eq_true rfl, Nat.le_of_ble_eq_true rfl⟩ rfl hl.1 rfl (Nat.le_of_ble_eq_true rfl) d_X10_measure_90 (fun r_14 σ_15 H locs hD hw => ?_)
              exact g_iret X hr hlk hw hD d_X10_measure_93
          · have hD := hD.2 q_71
            refine lv_aload_n X.1 X.2.1 d_X10_measure_74 rfl (lv_at hl 3 rfl) ?_
            refine lv_bipush (v := (-4)) X.1 X.2.1 d_X10_measure_75 (by decide) ?_
            refine gcV_i (rest := []) (As := [.int (-4)]) (o := 0) X hw (c_X10_refuse l G (-4) σ_10 _  hD) (kd_lt (by decide +kernel : kd 0 = 10) (by decide)) (ce_10 G _ (by decide +kernel : kd 0 = 10)) rfl tb_420 tb_422 tv_0 tb_1 tb_423 hd_X10_refuse ⟨rfl, rfl⟩ ⟨Nat.le_of_ble_eq_true rfl, Nat.le_of_ble_eq_true rfl⟩ rfl hl.1 rfl (Nat.le_of_ble_eq_true rfl) d_X10_measure_77 (fun r_16 σ_17 H locs hD hw => ?_)
            exact g_iret X hr hlk hw hD d_X10_measure_80
        · have hD := hD.2 q_59
          exact s_X10_measure_62 X hr hlk  Q   σ_10 hw (lv_sub hl [3] rfl) hD
  · have hD := hD.2 q_5
    refine lv_aload_n X.1 X.2.1 d_X10_measure_8 rfl (lv_at hl 0 rfl) ?_
    refine lv_iconst (v := (-1)) X.1 X.2.1 d_X10_measure_9 (by decide) ?_
    refine gcV_i (rest := []) (As := [.int (-1)]) (o := 0) X hw (c_X10_refuse l G (-1) σ_2 _  hD) (kd_lt (by decide +kernel : kd 0 = 10) (by decide)) (ce_10 G _ (by decide +kernel : kd 0 = 10)) rfl tb_420 tb_422 tv_0 tb_1 tb_423 hd_X10_refuse ⟨rfl, rfl⟩ ⟨Nat.le_of_ble_eq_true rfl, Nat.le_of_ble_eq_true rfl⟩ rfl hl.1 rfl (Nat.le_of_ble_eq_true rfl) d_X10_measure_10 (fun r_18 σ_19 H locs hD hw => ?_)
    exact g_iret X hr hlk hw hD d_X10_measure_13
theorem c_X10_measure (l : Launch) (G : GC) (x1 : Int32) (x2 : Int32) (x3 : Int32) (x4 : Int32) (x5 : Int32) (σ : GSt) (Q : Int32 → GSt → Prop)  (hD : D_X10_measure x1 x2 x3 x4 x5 σ Q) : MI l ym_X10_measure cm_X10_measure 9 .int rm_X10_measure G σ [.ref (G.2.1 0), .int x1, .int x2, .int x3, .int x4, .int x5] Q := by
  refine met_i (by decide) (Nat.le_of_ble_eq_true rfl) ?_
  intro p e s m args below meth c X hr hlk hw ls hl
  exact s_X10_measure_0 X hr hlk Q  x1 x2 x3 x4 x5 σ hw (lv_sub hl [0, 1, 2, 3, 4, 5] rfl) hD
