theorem hd_X11_count : ym_X11_count.cls = "GameLoomModel" ∧ ym_X11_count.cls ≠ "java/lang/invoke/MethodHandle" ∧ ym_X11_count.cls ≠ "java/lang/invoke/VarHandle" ∧ (parseMethodDescriptor ym_X11_count.desc).map (fun d => d.parameters.length) = some 1 := by decide +kernel
abbrev rm_X11_count : Room := { frames := 1, cells := 0, slots := 0, locals := 25 }
theorem d_X11_count_0 : decode cm_X11_count 0 = .ok (.iload_n 1, 1) := by decide +kernel
theorem d_X11_count_1 : decode cm_X11_count 1 = .ok (.i2l, 1) := by decide +kernel
theorem d_X11_count_2 : decode cm_X11_count 2 = .ok (.ldc2_w 370, 3) := by decide +kernel
theorem d_X11_count_5 : decode cm_X11_count 5 = .ok (.ldc2_w 368, 3) := by decide +kernel
theorem d_X11_count_8 : decode cm_X11_count 8 = .ok (.invokestatic 163, 3) := by decide +kernel
theorem d_X11_count_11 : decode cm_X11_count 11 = .ok (.ifCond .eq 13, 3) := by decide +kernel
theorem d_X11_count_14 : decode cm_X11_count 14 = .ok (.aload_n 0, 1) := by decide +kernel
theorem d_X11_count_15 : decode cm_X11_count 15 = .ok (.getfield 7, 3) := by decide +kernel
theorem d_X11_count_18 : decode cm_X11_count 18 = .ok (.iload_n 1, 1) := by decide +kernel
theorem d_X11_count_19 : decode cm_X11_count 19 = .ok (.bipush 10, 2) := by decide +kernel
theorem d_X11_count_21 : decode cm_X11_count 21 = .ok (.isub, 1) := by decide +kernel
theorem d_X11_count_22 : decode cm_X11_count 22 = .ok (.iaload, 1) := by decide +kernel
theorem d_X11_count_23 : decode cm_X11_count 23 = .ok (.ireturn, 1) := by decide +kernel
theorem d_X11_count_24 : decode cm_X11_count 24 = .ok (.iconst 0, 1) := by decide +kernel
theorem d_X11_count_25 : decode cm_X11_count 25 = .ok (.istore_n 2, 1) := by decide +kernel
theorem d_X11_count_26 : decode cm_X11_count 26 = .ok (.iload_n 1, 1) := by decide +kernel
theorem d_X11_count_27 : decode cm_X11_count 27 = .ok (.tableswitch 91 0 3 #[29, 34, 39, 56], 29) := by decide +kernel
theorem d_X11_count_56 : decode cm_X11_count 56 = .ok (.aload_n 0, 1) := by decide +kernel
theorem d_X11_count_57 : decode cm_X11_count 57 = .ok (.getfield 191, 3) := by decide +kernel
theorem d_X11_count_60 : decode cm_X11_count 60 = .ok (.ireturn, 1) := by decide +kernel
theorem d_X11_count_61 : decode cm_X11_count 61 = .ok (.aload_n 0, 1) := by decide +kernel
theorem d_X11_count_62 : decode cm_X11_count 62 = .ok (.getfield 144, 3) := by decide +kernel
theorem d_X11_count_65 : decode cm_X11_count 65 = .ok (.ireturn, 1) := by decide +kernel
theorem d_X11_count_66 : decode cm_X11_count 66 = .ok (.aload_n 0, 1) := by decide +kernel
theorem d_X11_count_67 : decode cm_X11_count 67 = .ok (.getfield 119, 3) := by decide +kernel
theorem d_X11_count_70 : decode cm_X11_count 70 = .ok (.ifCond .ge 8, 3) := by decide +kernel
theorem d_X11_count_73 : decode cm_X11_count 73 = .ok (.bipush (-9), 2) := by decide +kernel
theorem d_X11_count_75 : decode cm_X11_count 75 = .ok (.goto 7, 3) := by decide +kernel
theorem d_X11_count_78 : decode cm_X11_count 78 = .ok (.aload_n 0, 1) := by decide +kernel
theorem d_X11_count_79 : decode cm_X11_count 79 = .ok (.getfield 266, 3) := by decide +kernel
theorem d_X11_count_82 : decode cm_X11_count 82 = .ok (.ireturn, 1) := by decide +kernel
theorem d_X11_count_83 : decode cm_X11_count 83 = .ok (.iconst 4, 1) := by decide +kernel
theorem d_X11_count_84 : decode cm_X11_count 84 = .ok (.istore_n 3, 1) := by decide +kernel
theorem d_X11_count_85 : decode cm_X11_count 85 = .ok (.iload_n 3, 1) := by decide +kernel
theorem d_X11_count_86 : decode cm_X11_count 86 = .ok (.bipush 17, 2) := by decide +kernel
theorem d_X11_count_88 : decode cm_X11_count 88 = .ok (.if_icmp .ge 28, 3) := by decide +kernel
theorem d_X11_count_91 : decode cm_X11_count 91 = .ok (.iload_n 2, 1) := by decide +kernel
theorem d_X11_count_92 : decode cm_X11_count 92 = .ok (.aload_n 0, 1) := by decide +kernel
theorem d_X11_count_93 : decode cm_X11_count 93 = .ok (.getfield 132, 3) := by decide +kernel
theorem d_X11_count_96 : decode cm_X11_count 96 = .ok (.iload_n 3, 1) := by decide +kernel
theorem d_X11_count_97 : decode cm_X11_count 97 = .ok (.iaload, 1) := by decide +kernel
theorem d_X11_count_98 : decode cm_X11_count 98 = .ok (.bipush (-9), 2) := by decide +kernel
theorem d_X11_count_100 : decode cm_X11_count 100 = .ok (.if_icmp .ne 7, 3) := by decide +kernel
theorem d_X11_count_103 : decode cm_X11_count 103 = .ok (.iconst 0, 1) := by decide +kernel
theorem d_X11_count_104 : decode cm_X11_count 104 = .ok (.goto 4, 3) := by decide +kernel
theorem d_X11_count_107 : decode cm_X11_count 107 = .ok (.iconst 1, 1) := by decide +kernel
theorem d_X11_count_108 : decode cm_X11_count 108 = .ok (.iadd, 1) := by decide +kernel
theorem d_X11_count_109 : decode cm_X11_count 109 = .ok (.istore_n 2, 1) := by decide +kernel
theorem d_X11_count_110 : decode cm_X11_count 110 = .ok (.iinc 3 1, 3) := by decide +kernel
theorem d_X11_count_113 : decode cm_X11_count 113 = .ok (.goto (-28), 3) := by decide +kernel
theorem d_X11_count_116 : decode cm_X11_count 116 = .ok (.iload_n 2, 1) := by decide +kernel
theorem d_X11_count_117 : decode cm_X11_count 117 = .ok (.ireturn, 1) := by decide +kernel
theorem d_X11_count_118 : decode cm_X11_count 118 = .ok (.bipush (-9), 2) := by decide +kernel
theorem d_X11_count_120 : decode cm_X11_count 120 = .ok (.ireturn, 1) := by decide +kernel
def D_X11_count_108 (K85 : Int32 → Int32 → GSt → Prop) (Q : Int32 → GSt → Prop) (x3 : Int32) (s0 : Int32) (s1 : Int32) (σ : GSt) : Prop :=
  ∀ x2_1 : Int32, x2_1 = (s0 + s1) → (∀ x3_2 : Int32, x3_2 = x3 + 1 → (K85 x2_1 x3_2 σ))
def D_X11_count_85 (K85 : Int32 → Int32 → GSt → Prop) (Q : Int32 → GSt → Prop) (x2 : Int32) (x3 : Int32) (σ : GSt) : Prop :=
  (17 ≤ x3 → Q x2 σ) ∧
  (¬ 17 ≤ x3 → vp_in x3 17 ∧ ((¬ (σ 277 (Int32.toNatClampNeg x3)) = (-9) → D_X11_count_108 K85 Q x3 x2 1 σ) ∧
  ((σ 277 (Int32.toNatClampNeg x3)) = (-9) → D_X11_count_108 K85 Q x3 x2 0 σ)))
def L_X11_count_85 (Q : Int32 → GSt → Prop) : Nat → Int32 → Int32 → GSt → Prop
  | 0 => fun _ _ _ => False
  | n + 1 => fun x2 x3 σ => D_X11_count_85 (L_X11_count_85 Q n) Q x2 x3 σ
def D_X11_count_0 (Q : Int32 → GSt → Prop) (x1 : Int32) (σ : GSt) : Prop :=
  D_X11_isIn (Int32.toInt64 x1) 11 16 σ (fun r_1 σ_2 => (r_1 = 0 → ((x1 < 0 ∨ 3 < x1) → Q (-9) σ_2) ∧
  (x1 = 0 → Q (σ_2 237 20) σ_2) ∧
  (x1 = 1 → Q (σ_2 237 19) σ_2) ∧
  (x1 = 2 → (0 ≤ (σ_2 237 41) → Q (σ_2 237 42) σ_2) ∧
  (¬ 0 ≤ (σ_2 237 41) → Q (-9) σ_2)) ∧
  (x1 = 3 → ∃ n : Nat, L_X11_count_85 Q n 0 4 σ_2)) ∧
  (¬ r_1 = 0 → vp_in (x1 - 10) 7 ∧ (Q (σ_2 238 (Int32.toNatClampNeg (x1 - 10))) σ_2)))
def D_X11_count (x1 : Int32) (σ : GSt) (Q : Int32 → GSt → Prop) : Prop := D_X11_count_0 Q x1 σ
set_option maxRecDepth 20000 in
set_option maxHeartbeats 4000000 in
theorem s_X11_count_108 {p : Program} {l : Launch} {e : Env} {s : State} {m : MethodId} {args : Array Value} {below : List Frame} {meth : Method} {c : Code} {G : GC} (X : CallFix p m c cm_X11_count 4 s args lw_us "GameLoomModel") (hr : meth.sig.returnType = some .int) (hlk : meth.locks = false) (K85 : Int32 → Int32 → GSt → Prop) (Q : Int32 → GSt → Prop) (hK85 : ∀ (x2 : Int32) (x3 : Int32) (σ : GSt) (H : Heap) (locs : List Loc) (ls : Array Slot), Wo G s H locs σ → lv_has ls 4 [(0, .ref (G.2.1 237)), (2, .int x2), (3, .int x3)] → K85 x2 x3 σ → W p l e rm_X11_count s m args below meth c H locs 0 0 (QMI G Q below args s) (F0 m 85 ls [])) (x3 : Int32) (s0 : Int32) (s1 : Int32) (σ : GSt) {H : Heap} {locs : List Loc} {ls : Array Slot} (hw : Wo G s H locs σ) (hl : lv_has ls 4 [(0, .ref (G.2.1 237)), (3, .int x3)]) (hD : D_X11_count_108 K85 Q x3 s0 s1 σ) : W p l e rm_X11_count s m args below meth c H locs 0 0 (QMI G Q below args s) (F0 m 108 ls [.int s1, .int s0]) := by
  unfold D_X11_count_108 at hD
  refine lv_iadd X.1 X.2.1 d_X11_count_108 ?_
  refine lv_topi (fun x2_1 e_x2_1 => ?_)
  have hD := hD x2_1 e_x2_1
  refine lv_istore_n (lv' := [(2, .int x2_1), (0, .ref (G.2.1 237)), (3, .int x3)]) X.1 X.2.1 d_X11_count_109 rfl hl (by decide) rfl (fun ls hl => ?_)
  obtain ⟨x3_2, e_x3_2⟩ : ∃ y : Int32, y = x3 + 1 := ⟨_, rfl⟩
  have hD := hD x3_2 e_x3_2
  refine lv_iinc (v := x3_2) (lv' := [(3, .int x3_2), (2, .int x2_1), (0, .ref (G.2.1 237))]) X.1 X.2.1 d_X11_count_110 hl (k := 2) rfl (by rw [e_x3_2]; rfl) (by decide) rfl (fun ls hl => ?_)
  refine lv_goto (tgt := 85) X.1 X.2.1 d_X11_count_113 (by decide) ?_
  exact hK85 x2_1 x3_2 σ _ _ _  hw (lv_sub hl [2, 1, 0] rfl) hD
set_option maxRecDepth 20000 in
set_option maxHeartbeats 4000000 in
theorem s_X11_count_85 {p : Program} {l : Launch} {e : Env} {s : State} {m : MethodId} {args : Array Value} {below : List Frame} {meth : Method} {c : Code} {G : GC} (X : CallFix p m c cm_X11_count 4 s args lw_us "GameLoomModel") (hr : meth.sig.returnType = some .int) (hlk : meth.locks = false) (K85 : Int32 → Int32 → GSt → Prop) (Q : Int32 → GSt → Prop) (hK85 : ∀ (x2 : Int32) (x3 : Int32) (σ : GSt) (H : Heap) (locs : List Loc) (ls : Array Slot), Wo G s H locs σ → lv_has ls 4 [(0, .ref (G.2.1 237)), (2, .int x2), (3, .int x3)] → K85 x2 x3 σ → W p l e rm_X11_count s m args below meth c H locs 0 0 (QMI G Q below args s) (F0 m 85 ls [])) (x2 : Int32) (x3 : Int32) (σ : GSt) {H : Heap} {locs : List Loc} {ls : Array Slot} (hw : Wo G s H locs σ) (hl : lv_has ls 4 [(0, .ref (G.2.1 237)), (2, .int x2), (3, .int x3)]) (hD : D_X11_count_85 K85 Q x2 x3 σ) : W p l e rm_X11_count s m args below meth c H locs 0 0 (QMI G Q below args s) (F0 m 85 ls []) := by
  unfold D_X11_count_85 at hD
  refine lv_iload_n X.1 X.2.1 d_X11_count_85 rfl (lv_at hl 2 rfl) ?_
  refine lv_bipush (v := 17) X.1 X.2.1 d_X11_count_86 (by decide) ?_
  refine lv_icmp_ge (tgt := 116) X.1 X.2.1 d_X11_count_88 (by decide) (fun q_88 => ?_) (fun q_88 => ?_)
  · have hD := hD.1 q_88
    refine lv_iload_n X.1 X.2.1 d_X11_count_116 rfl (lv_at hl 1 rfl) ?_
    exact g_iret X hr hlk hw hD d_X11_count_117
  · have hD := hD.2 q_88
    refine lv_iload_n X.1 X.2.1 d_X11_count_91 rfl (lv_at hl 1 rfl) ?_
    refine lv_aload_n X.1 X.2.1 d_X11_count_92 rfl (lv_at hl 0 rfl) ?_
    refine gf_11_54 X hw (by decide +kernel : kd 237 = 11) tb_960 d_X11_count_93 ?_
    refine lv_iload_n X.1 X.2.1 d_X11_count_96 rfl (lv_at hl 2 rfl) ?_
    obtain ⟨q_97, hD⟩ := hD
    refine g_iald X hw ly_11_54.1 ly_11_54.2 q_97 d_X11_count_97 ?_
    refine lv_bipush (v := (-9)) X.1 X.2.1 d_X11_count_98 (by decide) ?_
    refine lv_icmp_ne (tgt := 107) X.1 X.2.1 d_X11_count_100 (by decide) (fun q_100 => ?_) (fun q_100 => ?_)
    · have hD := hD.1 q_100
      refine lv_iconst (v := 1) X.1 X.2.1 d_X11_count_107 (by decide) ?_
      exact s_X11_count_108 X hr hlk K85 Q hK85 x3 x2 1 σ hw (lv_sub hl [0, 2] rfl) hD
    · have hD := hD.2 q_100
      refine lv_iconst (v := 0) X.1 X.2.1 d_X11_count_103 (by decide) ?_
      refine lv_goto (tgt := 108) X.1 X.2.1 d_X11_count_104 (by decide) ?_
      exact s_X11_count_108 X hr hlk K85 Q hK85 x3 x2 0 σ hw (lv_sub hl [0, 2] rfl) hD
set_option maxRecDepth 20000 in
set_option maxHeartbeats 4000000 in
theorem sl_X11_count_85 {p : Program} {l : Launch} {e : Env} {s : State} {m : MethodId} {args : Array Value} {below : List Frame} {meth : Method} {c : Code} {G : GC} (X : CallFix p m c cm_X11_count 4 s args lw_us "GameLoomModel") (hr : meth.sig.returnType = some .int) (hlk : meth.locks = false) (Q : Int32 → GSt → Prop) : ∀ (nn : Nat), ∀ (x2 : Int32) (x3 : Int32) (σ : GSt) (H : Heap) (locs : List Loc) (ls : Array Slot), Wo G s H locs σ → lv_has ls 4 [(0, .ref (G.2.1 237)), (2, .int x2), (3, .int x3)] → L_X11_count_85 Q nn x2 x3 σ → W p l e rm_X11_count s m args below meth c H locs 0 0 (QMI G Q below args s) (F0 m 85 ls []) := by
  intro nn
  induction nn with
  | zero => intro x2 x3 σ H locs ls  hw hl hD; exact hD.elim
  | succ nn ih =>
    intro x2 x3 σ H locs ls  hw hl hD
    exact s_X11_count_85 X hr hlk (L_X11_count_85 Q nn) Q ih x2 x3 σ hw hl hD
set_option maxRecDepth 20000 in
set_option maxHeartbeats 4000000 in
theorem s_X11_count_0 {p : Program} {l : Launch} {e : Env} {s : State} {m : MethodId} {args : Array Value} {below : List Frame} {meth : Method} {c : Code} {G : GC} (X : CallFix p m c cm_X11_count 4 s args lw_us "GameLoomModel") (hr : meth.sig.returnType = some .int) (hlk : meth.locks = false) (Q : Int32 → GSt → Prop) (x1 : Int32) (σ : GSt) {H : Heap} {locs : List Loc} {ls : Array Slot} (hw : Wo G s H locs σ) (hl : lv_has ls 4 [(0, .ref (G.2.1 237)), (1, .int x1)]) (hD : D_X11_count_0 Q x1 σ) : W p l e rm_X11_count s m args below meth c H locs 0 0 (QMI G Q below args s) (F0 m 0 ls []) := by
  unfold D_X11_count_0 at hD
  refine lv_iload_n X.1 X.2.1 d_X11_count_0 rfl (lv_at hl 1 rfl) ?_
  refine lv_i2l (v := (Int32.toInt64 x1)) X.1 X.2.1 d_X11_count_1 rfl ?_
  refine lv_ldc2 (v := 11) X.1 X.2.1 X.2.2.2.1 (X.2.2.2.2 _ tb_1402) d_X11_count_2 ?_
  refine lv_ldc2 (v := 16) X.1 X.2.1 X.2.2.2.1 (X.2.2.2.2 _ tb_1397) d_X11_count_5 ?_
  refine gcS_i (rest := []) (As := [.long (Int32.toInt64 x1), .long 11, .long 16]) X hw (c_X11_isIn l G (Int32.toInt64 x1) 11 16 σ _  hD) tb_1125 tb_1126 tb_12 tb_1127 hd_X11_isIn ⟨rfl, rfl⟩ ⟨Nat.le_of_ble_eq_true rfl, Nat.le_of_ble_eq_true rfl⟩ rfl hl.1 rfl (Nat.le_of_ble_eq_true rfl) d_X11_count_8 (fun r_1 σ_2 H locs hD hw => ?_)
  refine lv_if_eq (tgt := 24) X.1 X.2.1 d_X11_count_11 (by decide) (fun q_11 => ?_) (fun q_11 => ?_)
  · have hD := hD.1 q_11
    refine lv_iconst (v := 0) X.1 X.2.1 d_X11_count_24 (by decide) ?_
    refine lv_istore_n (lv' := [(2, .int 0), (0, .ref (G.2.1 237)), (1, .int x1)]) X.1 X.2.1 d_X11_count_25 rfl hl (by decide) rfl (fun ls hl => ?_)
    refine lv_iload_n X.1 X.2.1 d_X11_count_26 rfl (lv_at hl 2 rfl) ?_
    by_cases q_27 : x1 < 0 ∨ 3 < x1
    · have hD := hD.1 q_27
      refine lv_tableOut (tgt := 118) X.1 X.2.1 d_X11_count_27 (sw_out (n := 3) (by decide) q_27) (by decide) ?_
      refine lv_bipush (v := (-9)) X.1 X.2.1 d_X11_count_118 (by decide) ?_
      exact g_iret X hr hlk hw hD d_X11_count_120
    · obtain ⟨j_27, hj, ej⟩ := sw_in (n := 3) (by decide) q_27
      have hD := hD.2
      rcases (show j_27 = 0 ∨ j_27 = 1 ∨ j_27 = 2 ∨ j_27 = 3 by omega) with rfl | rfl | rfl | rfl
      · have hD := hD.1 ej
        refine lv_tableIn (tgt := 56) X.1 X.2.1 d_X11_count_27 (by rw [ej]; decide) (by rw [ej]; decide) (by rw [ej]; rfl) (by decide) ?_
        refine lv_aload_n X.1 X.2.1 d_X11_count_56 rfl (lv_at hl 1 rfl) ?_
        refine gf_11_20 X hw (by decide +kernel : kd 237 = 11) tb_926 d_X11_count_57 ?_
        exact g_iret X hr hlk hw hD d_X11_count_60
      · have hD := hD.2.1 ej
        refine lv_tableIn (tgt := 61) X.1 X.2.1 d_X11_count_27 (by rw [ej]; decide) (by rw [ej]; decide) (by rw [ej]; rfl) (by decide) ?_
        refine lv_aload_n X.1 X.2.1 d_X11_count_61 rfl (lv_at hl 1 rfl) ?_
        refine gf_11_19 X hw (by decide +kernel : kd 237 = 11) tb_925 d_X11_count_62 ?_
        exact g_iret X hr hlk hw hD d_X11_count_65
      · have hD := hD.2.2.1 ej
        refine lv_tableIn (tgt := 66) X.1 X.2.1 d_X11_count_27 (by rw [ej]; decide) (by rw [ej]; decide) (by rw [ej]; rfl) (by decide) ?_
        refine lv_aload_n X.1 X.2.1 d_X11_count_66 rfl (lv_at hl 1 rfl) ?_
        refine gf_11_41 X hw (by decide +kernel : kd 237 = 11) tb_947 d_X11_count_67 ?_
        refine lv_if_ge (tgt := 78) X.1 X.2.1 d_X11_count_70 (by decide) (fun q_70 => ?_) (fun q_70 => ?_)
        · have hD := hD.1 q_70
          refine lv_aload_n X.1 X.2.1 d_X11_count_78 rfl (lv_at hl 1 rfl) ?_
          refine gf_11_42 X hw (by decide +kernel : kd 237 = 11) tb_948 d_X11_count_79 ?_
          exact g_iret X hr hlk hw hD d_X11_count_82
        · have hD := hD.2 q_70
          refine lv_bipush (v := (-9)) X.1 X.2.1 d_X11_count_73 (by decide) ?_
          refine lv_goto (tgt := 82) X.1 X.2.1 d_X11_count_75 (by decide) ?_
          exact g_iret X hr hlk hw hD d_X11_count_82
      · have hD := hD.2.2.2 ej
        refine lv_tableIn (tgt := 83) X.1 X.2.1 d_X11_count_27 (by rw [ej]; decide) (by rw [ej]; decide) (by rw [ej]; rfl) (by decide) ?_
        refine lv_iconst (v := 4) X.1 X.2.1 d_X11_count_83 (by decide) ?_
        refine lv_istore_n (lv' := [(3, .int 4), (2, .int 0), (0, .ref (G.2.1 237)), (1, .int x1)]) X.1 X.2.1 d_X11_count_84 rfl hl (by decide) rfl (fun ls hl => ?_)
        obtain ⟨n9, hD⟩ := hD
        exact sl_X11_count_85 X hr hlk  Q  n9 0 4 σ_2 _ _ _  hw (lv_sub hl [2, 1, 0] rfl) hD
  · have hD := hD.2 q_11
    refine lv_aload_n X.1 X.2.1 d_X11_count_14 rfl (lv_at hl 0 rfl) ?_
    refine gf_11_0 X hw (by decide +kernel : kd 237 = 11) tb_906 d_X11_count_15 ?_
    refine lv_iload_n X.1 X.2.1 d_X11_count_18 rfl (lv_at hl 1 rfl) ?_
    refine lv_bipush (v := 10) X.1 X.2.1 d_X11_count_19 (by decide) ?_
    refine lv_isub X.1 X.2.1 d_X11_count_21 ?_
    obtain ⟨q_22, hD⟩ := hD
    refine g_iald X hw ly_11_0.1 ly_11_0.2 q_22 d_X11_count_22 ?_
    exact g_iret X hr hlk hw hD d_X11_count_23
theorem c_X11_count (l : Launch) (G : GC) (x1 : Int32) (σ : GSt) (Q : Int32 → GSt → Prop)  (hD : D_X11_count x1 σ Q) : MI l ym_X11_count cm_X11_count 4 .int rm_X11_count G σ [.ref (G.2.1 237), .int x1] Q := by
  refine met_i (by decide) (Nat.le_of_ble_eq_true rfl) ?_
  intro p e s m args below meth c X hr hlk hw ls hl
  exact s_X11_count_0 X hr hlk Q  x1 σ hw (lv_sub hl [0, 1] rfl) hD
