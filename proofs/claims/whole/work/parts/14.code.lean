theorem hd_X2_firstMovesWith : ym_X2_firstMovesWith.cls = "GameLoom$Judge" ∧ ym_X2_firstMovesWith.cls ≠ "java/lang/invoke/MethodHandle" ∧ ym_X2_firstMovesWith.cls ≠ "java/lang/invoke/VarHandle" ∧ (parseMethodDescriptor ym_X2_firstMovesWith.desc).map (fun d => d.parameters.length) = some 3 := by decide +kernel
abbrev rm_X2_firstMovesWith : Room := { frames := 14, cells := 0, slots := 0, locals := 358 }
theorem d_X2_firstMovesWith_0 : decode cm_X2_firstMovesWith 0 = .ok (.aload_n 0, 1) := by decide +kernel
theorem d_X2_firstMovesWith_1 : decode cm_X2_firstMovesWith 1 = .ok (.getfield 12, 3) := by decide +kernel
theorem d_X2_firstMovesWith_4 : decode cm_X2_firstMovesWith 4 = .ok (.aload_n 1, 1) := by decide +kernel
theorem d_X2_firstMovesWith_5 : decode cm_X2_firstMovesWith 5 = .ok (.invokevirtual 29, 3) := by decide +kernel
theorem d_X2_firstMovesWith_8 : decode cm_X2_firstMovesWith 8 = .ok (.aload_n 0, 1) := by decide +kernel
theorem d_X2_firstMovesWith_9 : decode cm_X2_firstMovesWith 9 = .ok (.getfield 12, 3) := by decide +kernel
theorem d_X2_firstMovesWith_12 : decode cm_X2_firstMovesWith 12 = .ok (.aload_n 0, 1) := by decide +kernel
theorem d_X2_firstMovesWith_13 : decode cm_X2_firstMovesWith 13 = .ok (.getfield 18, 3) := by decide +kernel
theorem d_X2_firstMovesWith_16 : decode cm_X2_firstMovesWith 16 = .ok (.invokevirtual 52, 3) := by decide +kernel
theorem d_X2_firstMovesWith_19 : decode cm_X2_firstMovesWith 19 = .ok (.istore 4, 2) := by decide +kernel
theorem d_X2_firstMovesWith_21 : decode cm_X2_firstMovesWith 21 = .ok (.aload_n 0, 1) := by decide +kernel
theorem d_X2_firstMovesWith_22 : decode cm_X2_firstMovesWith 22 = .ok (.getfield 12, 3) := by decide +kernel
theorem d_X2_firstMovesWith_25 : decode cm_X2_firstMovesWith 25 = .ok (.getfield 71, 3) := by decide +kernel
theorem d_X2_firstMovesWith_28 : decode cm_X2_firstMovesWith 28 = .ok (.istore 5, 2) := by decide +kernel
theorem d_X2_firstMovesWith_30 : decode cm_X2_firstMovesWith 30 = .ok (.aload_n 0, 1) := by decide +kernel
theorem d_X2_firstMovesWith_31 : decode cm_X2_firstMovesWith 31 = .ok (.getfield 12, 3) := by decide +kernel
theorem d_X2_firstMovesWith_34 : decode cm_X2_firstMovesWith 34 = .ok (.getfield 74, 3) := by decide +kernel
theorem d_X2_firstMovesWith_37 : decode cm_X2_firstMovesWith 37 = .ok (.istore 6, 2) := by decide +kernel
theorem d_X2_firstMovesWith_39 : decode cm_X2_firstMovesWith 39 = .ok (.iconst 0, 1) := by decide +kernel
theorem d_X2_firstMovesWith_40 : decode cm_X2_firstMovesWith 40 = .ok (.istore 7, 2) := by decide +kernel
theorem d_X2_firstMovesWith_42 : decode cm_X2_firstMovesWith 42 = .ok (.iconst 0, 1) := by decide +kernel
theorem d_X2_firstMovesWith_43 : decode cm_X2_firstMovesWith 43 = .ok (.istore 8, 2) := by decide +kernel
theorem d_X2_firstMovesWith_45 : decode cm_X2_firstMovesWith 45 = .ok (.iload 8, 2) := by decide +kernel
theorem d_X2_firstMovesWith_47 : decode cm_X2_firstMovesWith 47 = .ok (.iload 4, 2) := by decide +kernel
theorem d_X2_firstMovesWith_49 : decode cm_X2_firstMovesWith 49 = .ok (.if_icmp .ge 71, 3) := by decide +kernel
theorem d_X2_firstMovesWith_52 : decode cm_X2_firstMovesWith 52 = .ok (.aload_n 0, 1) := by decide +kernel
theorem d_X2_firstMovesWith_53 : decode cm_X2_firstMovesWith 53 = .ok (.getfield 12, 3) := by decide +kernel
theorem d_X2_firstMovesWith_56 : decode cm_X2_firstMovesWith 56 = .ok (.aload_n 0, 1) := by decide +kernel
theorem d_X2_firstMovesWith_57 : decode cm_X2_firstMovesWith 57 = .ok (.getfield 18, 3) := by decide +kernel
theorem d_X2_firstMovesWith_60 : decode cm_X2_firstMovesWith 60 = .ok (.iload 8, 2) := by decide +kernel
theorem d_X2_firstMovesWith_62 : decode cm_X2_firstMovesWith 62 = .ok (.iaload, 1) := by decide +kernel
theorem d_X2_firstMovesWith_63 : decode cm_X2_firstMovesWith 63 = .ok (.invokevirtual 67, 3) := by decide +kernel
theorem d_X2_firstMovesWith_66 : decode cm_X2_firstMovesWith 66 = .ok (.aload_n 0, 1) := by decide +kernel
theorem d_X2_firstMovesWith_67 : decode cm_X2_firstMovesWith 67 = .ok (.getfield 25, 3) := by decide +kernel
theorem d_X2_firstMovesWith_70 : decode cm_X2_firstMovesWith 70 = .ok (.aload_n 0, 1) := by decide +kernel
theorem d_X2_firstMovesWith_71 : decode cm_X2_firstMovesWith 71 = .ok (.getfield 12, 3) := by decide +kernel
theorem d_X2_firstMovesWith_74 : decode cm_X2_firstMovesWith 74 = .ok (.iload_n 2, 1) := by decide +kernel
theorem d_X2_firstMovesWith_75 : decode cm_X2_firstMovesWith 75 = .ok (.invokevirtual 33, 3) := by decide +kernel
theorem d_X2_firstMovesWith_78 : decode cm_X2_firstMovesWith 78 = .ok (.ifCond .eq 6, 3) := by decide +kernel
theorem d_X2_firstMovesWith_81 : decode cm_X2_firstMovesWith 81 = .ok (.bipush (-5), 2) := by decide +kernel
theorem d_X2_firstMovesWith_83 : decode cm_X2_firstMovesWith 83 = .ok (.ireturn, 1) := by decide +kernel
theorem d_X2_firstMovesWith_84 : decode cm_X2_firstMovesWith 84 = .ok (.aload_n 0, 1) := by decide +kernel
theorem d_X2_firstMovesWith_85 : decode cm_X2_firstMovesWith 85 = .ok (.getfield 25, 3) := by decide +kernel
theorem d_X2_firstMovesWith_88 : decode cm_X2_firstMovesWith 88 = .ok (.aload_n 0, 1) := by decide +kernel
theorem d_X2_firstMovesWith_89 : decode cm_X2_firstMovesWith 89 = .ok (.getfield 12, 3) := by decide +kernel
theorem d_X2_firstMovesWith_92 : decode cm_X2_firstMovesWith 92 = .ok (.iload_n 2, 1) := by decide +kernel
theorem d_X2_firstMovesWith_93 : decode cm_X2_firstMovesWith 93 = .ok (.invokevirtual 77, 3) := by decide +kernel
theorem d_X2_firstMovesWith_96 : decode cm_X2_firstMovesWith 96 = .ok (.iload_n 3, 1) := by decide +kernel
theorem d_X2_firstMovesWith_97 : decode cm_X2_firstMovesWith 97 = .ok (.if_icmp .ne 6, 3) := by decide +kernel
theorem d_X2_firstMovesWith_100 : decode cm_X2_firstMovesWith 100 = .ok (.iinc 7 1, 3) := by decide +kernel
theorem d_X2_firstMovesWith_103 : decode cm_X2_firstMovesWith 103 = .ok (.aload_n 0, 1) := by decide +kernel
theorem d_X2_firstMovesWith_104 : decode cm_X2_firstMovesWith 104 = .ok (.getfield 12, 3) := by decide +kernel
theorem d_X2_firstMovesWith_107 : decode cm_X2_firstMovesWith 107 = .ok (.iload 5, 2) := by decide +kernel
theorem d_X2_firstMovesWith_109 : decode cm_X2_firstMovesWith 109 = .ok (.iload 6, 2) := by decide +kernel
theorem d_X2_firstMovesWith_111 : decode cm_X2_firstMovesWith 111 = .ok (.invokevirtual 81, 3) := by decide +kernel
theorem d_X2_firstMovesWith_114 : decode cm_X2_firstMovesWith 114 = .ok (.iinc 8 1, 3) := by decide +kernel
theorem d_X2_firstMovesWith_117 : decode cm_X2_firstMovesWith 117 = .ok (.goto (-72), 3) := by decide +kernel
theorem d_X2_firstMovesWith_120 : decode cm_X2_firstMovesWith 120 = .ok (.iload 7, 2) := by decide +kernel
theorem d_X2_firstMovesWith_122 : decode cm_X2_firstMovesWith 122 = .ok (.ireturn, 1) := by decide +kernel
def D_X2_firstMovesWith_103 (K45 : Int32 → Int32 → Int32 → Int32 → Int32 → Int32 → Int32 → GSt → Prop) (Q : Int32 → GSt → Prop) (x2 : Int32) (x3 : Int32) (x4 : Int32) (x5 : Int32) (x6 : Int32) (x7 : Int32) (x8 : Int32) (σ : GSt) : Prop :=
  D_X5_unmake 50 x5 x6 σ (fun σ_1 => ∀ x8_2 : Int32, x8_2 = x8 + 1 → (K45 x2 x3 x4 x5 x6 x7 x8_2 σ_1))
def D_X2_firstMovesWith_45 (K45 : Int32 → Int32 → Int32 → Int32 → Int32 → Int32 → Int32 → GSt → Prop) (Q : Int32 → GSt → Prop) (x2 : Int32) (x3 : Int32) (x4 : Int32) (x5 : Int32) (x6 : Int32) (x7 : Int32) (x8 : Int32) (σ : GSt) : Prop :=
  (x4 ≤ x8 → Q x7 σ) ∧
  (¬ x4 ≤ x8 → vp_in x8 256 ∧ (D_X5_make 50 (σ 51 (Int32.toNatClampNeg x8)) σ (fun σ_1 => D_X3_isSpent 50 x2 σ_1 (fun r_2 σ_3 => (r_2 = 0 → D_X3_valueOf 50 x2 σ_3 (fun r_4 σ_5 => (¬ r_4 = x3 → D_X2_firstMovesWith_103 K45 Q x2 x3 x4 x5 x6 x7 x8 σ_5) ∧
  (r_4 = x3 → ∀ x7_6 : Int32, x7_6 = x7 + 1 → (D_X2_firstMovesWith_103 K45 Q x2 x3 x4 x5 x6 x7_6 x8 σ_5)))) ∧
  (¬ r_2 = 0 → Q (-5) σ_3)))))
def L_X2_firstMovesWith_45 (Q : Int32 → GSt → Prop) : Nat → Int32 → Int32 → Int32 → Int32 → Int32 → Int32 → Int32 → GSt → Prop
  | 0 => fun _ _ _ _ _ _ _ _ => False
  | n + 1 => fun x2 x3 x4 x5 x6 x7 x8 σ => D_X2_firstMovesWith_45 (L_X2_firstMovesWith_45 Q n) Q x2 x3 x4 x5 x6 x7 x8 σ
def D_X2_firstMovesWith_0 (Q : Int32 → GSt → Prop) (r1 : Nat) (x2 : Int32) (x3 : Int32) (σ : GSt) : Prop :=
  D_X5_begin 50 r1 σ (fun σ_1 => D_X5_listMoves 50 51 σ_1 (fun r_2 σ_3 => ∀ x5_4 : Int32, x5_4 = (σ_3 50 1) → (∀ x6_5 : Int32, x6_5 = (σ_3 50 2) → (∃ n : Nat, L_X2_firstMovesWith_45 Q n x2 x3 r_2 x5_4 x6_5 0 0 σ_3))))
def D_X2_firstMovesWith (r1 : Nat) (x2 : Int32) (x3 : Int32) (σ : GSt) (Q : Int32 → GSt → Prop) : Prop := D_X2_firstMovesWith_0 Q r1 x2 x3 σ
set_option maxRecDepth 20000 in
set_option maxHeartbeats 4000000 in
theorem s_X2_firstMovesWith_103 {p : Program} {l : Launch} {e : Env} {s : State} {m : MethodId} {args : Array Value} {below : List Frame} {meth : Method} {c : Code} {G : GC} (X : CallFix p m c cm_X2_firstMovesWith 9 s args lw_us "GameLoom$Judge") (hr : meth.sig.returnType = some .int) (hlk : meth.locks = false) (K45 : Int32 → Int32 → Int32 → Int32 → Int32 → Int32 → Int32 → GSt → Prop) (Q : Int32 → GSt → Prop) (hK45 : ∀ (x2 : Int32) (x3 : Int32) (x4 : Int32) (x5 : Int32) (x6 : Int32) (x7 : Int32) (x8 : Int32) (σ : GSt) (H : Heap) (locs : List Loc) (ls : Array Slot), Wo G s H locs σ → lv_has ls 9 [(0, .ref (G.2.1 49)), (2, .int x2), (3, .int x3), (4, .int x4), (5, .int x5), (6, .int x6), (7, .int x7), (8, .int x8)] → K45 x2 x3 x4 x5 x6 x7 x8 σ → W p l e rm_X2_firstMovesWith s m args below meth c H locs 0 0 (QMI G Q below args s) (F0 m 45 ls [])) (x2 : Int32) (x3 : Int32) (x4 : Int32) (x5 : Int32) (x6 : Int32) (x7 : Int32) (x8 : Int32) (σ : GSt) {H : Heap} {locs : List Loc} {ls : Array Slot} (hw : Wo G s H locs σ) (hl : lv_has ls 9 [(0, .ref (G.2.1 49)), (2, .int x2), (3, .int x3), (4, .int x4), (5, .int x5), (6, .int x6), (7, .int x7), (8, .int x8)]) (hD : D_X2_firstMovesWith_103 K45 Q x2 x3 x4 x5 x6 x7 x8 σ) : W p l e rm_X2_firstMovesWith s m args below meth c H locs 0 0 (QMI G Q below args s) (F0 m 103 ls []) := by
  unfold D_X2_firstMovesWith_103 at hD
  refine lv_aload_n X.1 X.2.1 d_X2_firstMovesWith_103 rfl (lv_at hl 0 rfl) ?_
  refine gf_2_0 X hw (by decide +kernel : kd 49 = 2) tb_329 d_X2_firstMovesWith_104 ?_
  refine lv_iload X.1 X.2.1 d_X2_firstMovesWith_107 (lv_at hl 4 rfl) ?_
  refine lv_iload X.1 X.2.1 d_X2_firstMovesWith_109 (lv_at hl 5 rfl) ?_
  refine gcV_v (rest := []) (As := [.int x5, .int x6]) (o := 50) X hw (c_X5_unmake l G 50 x5 x6 σ _ ly_2_0 hD) (kd_lt ly_2_0 (by decide)) (ce_5 G _ ly_2_0) rfl tb_860 tb_640 tb_641 tb_9 tb_642 hd_X5_unmake ⟨rfl, rfl⟩ ⟨Nat.le_of_ble_eq_true rfl, Nat.le_of_ble_eq_true rfl⟩ rfl hl.1 rfl (Nat.le_of_ble_eq_true rfl) d_X2_firstMovesWith_111 (fun σ_1 H locs hD hw => ?_)
  obtain ⟨x8_2, e_x8_2⟩ : ∃ y : Int32, y = x8 + 1 := ⟨_, rfl⟩
  have hD := hD x8_2 e_x8_2
  refine lv_iinc (v := x8_2) (lv' := [(8, .int x8_2), (0, .ref (G.2.1 49)), (2, .int x2), (3, .int x3), (4, .int x4), (5, .int x5), (6, .int x6), (7, .int x7)]) X.1 X.2.1 d_X2_firstMovesWith_114 hl (k := 7) rfl (by rw [e_x8_2]; rfl) (by decide) rfl (fun ls hl => ?_)
  refine lv_goto (tgt := 45) X.1 X.2.1 d_X2_firstMovesWith_117 (by decide) ?_
  exact hK45 x2 x3 x4 x5 x6 x7 x8_2 σ_1 _ _ _  hw (lv_sub hl [1, 2, 3, 4, 5, 6, 7, 0] rfl) hD
set_option maxRecDepth 20000 in
set_option maxHeartbeats 4000000 in
theorem s_X2_firstMovesWith_45 {p : Program} {l : Launch} {e : Env} {s : State} {m : MethodId} {args : Array Value} {below : List Frame} {meth : Method} {c : Code} {G : GC} (X : CallFix p m c cm_X2_firstMovesWith 9 s args lw_us "GameLoom$Judge") (hr : meth.sig.returnType = some .int) (hlk : meth.locks = false) (K45 : Int32 → Int32 → Int32 → Int32 → Int32 → Int32 → Int32 → GSt → Prop) (Q : Int32 → GSt → Prop) (hK45 : ∀ (x2 : Int32) (x3 : Int32) (x4 : Int32) (x5 : Int32) (x6 : Int32) (x7 : Int32) (x8 : Int32) (σ : GSt) (H : Heap) (locs : List Loc) (ls : Array Slot), Wo G s H locs σ → lv_has ls 9 [(0, .ref (G.2.1 49)), (2, .int x2), (3, .int x3), (4, .int x4), (5, .int x5), (6, .int x6), (7, .int x7), (8, .int x8)] → K45 x2 x3 x4 x5 x6 x7 x8 σ → W p l e rm_X2_firstMovesWith s m args below meth c H locs 0 0 (QMI G Q below args s) (F0 m 45 ls [])) (x2 : Int32) (x3 : Int32) (x4 : Int32) (x5 : Int32) (x6 : Int32) (x7 : Int32) (x8 : Int32) (σ : GSt) {H : Heap} {locs : List Loc} {ls : Array Slot} (hw : Wo G s H locs σ) (hl : lv_has ls 9 [(0, .ref (G.2.1 49)), (2, .int x2), (3, .int x3), (4, .int x4), (5, .int x5), (6, .int x6), (7, .int x7), (8, .int x8)]) (hD : D_X2_firstMovesWith_45 K45 Q x2 x3 x4 x5 x6 x7 x8 σ) : W p l e rm_X2_firstMovesWith s m args below meth c H locs 0 0 (QMI G Q below args s) (F0 m 45 ls []) := by
  unfold D_X2_firstMovesWith_45 at hD
  refine lv_iload X.1 X.2.1 d_X2_firstMovesWith_45 (lv_at hl 7 rfl) ?_
  refine lv_iload X.1 X.2.1 d_X2_firstMovesWith_47 (lv_at hl 3 rfl) ?_
  refine lv_icmp_ge (tgt := 120) X.1 X.2.1 d_X2_firstMovesWith_49 (by decide) (fun q_49 => ?_) (fun q_49 => ?_)
  · have hD := hD.1 q_49
    refine lv_iload X.1 X.2.1 d_X2_firstMovesWith_120 (lv_at hl 6 rfl) ?_
    exact g_iret X hr hlk hw hD d_X2_firstMovesWith_122
  · have hD := hD.2 q_49
    refine lv_aload_n X.1 X.2.1 d_X2_firstMovesWith_52 rfl (lv_at hl 0 rfl) ?_
    refine gf_2_0 X hw (by decide +kernel : kd 49 = 2) tb_329 d_X2_firstMovesWith_53 ?_
    refine lv_aload_n X.1 X.2.1 d_X2_firstMovesWith_56 rfl (lv_at hl 0 rfl) ?_
    refine gf_2_2 X hw (by decide +kernel : kd 49 = 2) tb_331 d_X2_firstMovesWith_57 ?_
    refine lv_iload X.1 X.2.1 d_X2_firstMovesWith_60 (lv_at hl 7 rfl) ?_
    obtain ⟨q_62, hD⟩ := hD
    refine g_iald X hw ly_2_2.1 ly_2_2.2 q_62 d_X2_firstMovesWith_62 ?_
    refine gcV_v (rest := []) (As := [.int (σ 51 (Int32.toNatClampNeg x8))]) (o := 50) X hw (c_X5_make l G 50 (σ 51 (Int32.toNatClampNeg x8)) σ _ ly_2_0 hD) (kd_lt ly_2_0 (by decide)) (ce_5 G _ ly_2_0) rfl tb_858 tb_604 tb_605 tb_9 tb_606 hd_X5_make ⟨rfl, rfl⟩ ⟨Nat.le_of_ble_eq_true rfl, Nat.le_of_ble_eq_true rfl⟩ rfl hl.1 rfl (Nat.le_of_ble_eq_true rfl) d_X2_firstMovesWith_63 (fun σ_1 H locs hD hw => ?_)
    refine lv_aload_n X.1 X.2.1 d_X2_firstMovesWith_66 rfl (lv_at hl 0 rfl) ?_
    refine gf_2_1 X hw (by decide +kernel : kd 49 = 2) tb_330 d_X2_firstMovesWith_67 ?_
    refine lv_aload_n X.1 X.2.1 d_X2_firstMovesWith_70 rfl (lv_at hl 0 rfl) ?_
    refine gf_2_0 X hw (by decide +kernel : kd 49 = 2) tb_329 d_X2_firstMovesWith_71 ?_
    refine lv_iload_n X.1 X.2.1 d_X2_firstMovesWith_74 rfl (lv_at hl 1 rfl) ?_
    refine gcV_i (rest := []) (As := [.ref (G.2.1 50), .int x2]) (o := 29) X hw (c_X3_isSpent l G 50 x2 σ_1 _ ly_2_0 hD) (kd_lt ly_2_1 (by decide)) (ce_3 G _ ly_2_1) rfl tb_837 tb_679 tb_680 tb_7 tb_681 hd_X3_isSpent ⟨rfl, rfl⟩ ⟨Nat.le_of_ble_eq_true rfl, Nat.le_of_ble_eq_true rfl⟩ rfl hl.1 rfl (Nat.le_of_ble_eq_true rfl) d_X2_firstMovesWith_75 (fun r_2 σ_3 H locs hD hw => ?_)
    refine lv_if_eq (tgt := 84) X.1 X.2.1 d_X2_firstMovesWith_78 (by decide) (fun q_78 => ?_) (fun q_78 => ?_)
    · have hD := hD.1 q_78
      refine lv_aload_n X.1 X.2.1 d_X2_firstMovesWith_84 rfl (lv_at hl 0 rfl) ?_
      refine gf_2_1 X hw (by decide +kernel : kd 49 = 2) tb_330 d_X2_firstMovesWith_85 ?_
      refine lv_aload_n X.1 X.2.1 d_X2_firstMovesWith_88 rfl (lv_at hl 0 rfl) ?_
      refine gf_2_0 X hw (by decide +kernel : kd 49 = 2) tb_329 d_X2_firstMovesWith_89 ?_
      refine lv_iload_n X.1 X.2.1 d_X2_firstMovesWith_92 rfl (lv_at hl 1 rfl) ?_
      refine gcV_i (rest := []) (As := [.ref (G.2.1 50), .int x2]) (o := 29) X hw (c_X3_valueOf l G 50 x2 σ_3 _ ly_2_0 hD) (kd_lt ly_2_1 (by decide)) (ce_3 G _ ly_2_1) rfl tb_859 tb_690 tb_691 tb_7 tb_692 hd_X3_valueOf ⟨rfl, rfl⟩ ⟨Nat.le_of_ble_eq_true rfl, Nat.le_of_ble_eq_true rfl⟩ rfl hl.1 rfl (Nat.le_of_ble_eq_true rfl) d_X2_firstMovesWith_93 (fun r_4 σ_5 H locs hD hw => ?_)
      refine lv_iload_n X.1 X.2.1 d_X2_firstMovesWith_96 rfl (lv_at hl 2 rfl) ?_
      refine lv_icmp_ne (tgt := 103) X.1 X.2.1 d_X2_firstMovesWith_97 (by decide) (fun q_97 => ?_) (fun q_97 => ?_)
      · have hD := hD.1 q_97
        exact s_X2_firstMovesWith_103 X hr hlk K45 Q hK45 x2 x3 x4 x5 x6 x7 x8 σ_5 hw (lv_sub hl [0, 1, 2, 3, 4, 5, 6, 7] rfl) hD
      · have hD := hD.2 q_97
        obtain ⟨x7_6, e_x7_6⟩ : ∃ y : Int32, y = x7 + 1 := ⟨_, rfl⟩
        have hD := hD x7_6 e_x7_6
        refine lv_iinc (v := x7_6) (lv' := [(7, .int x7_6), (0, .ref (G.2.1 49)), (2, .int x2), (3, .int x3), (4, .int x4), (5, .int x5), (6, .int x6), (8, .int x8)]) X.1 X.2.1 d_X2_firstMovesWith_100 hl (k := 6) rfl (by rw [e_x7_6]; rfl) (by decide) rfl (fun ls hl => ?_)
        exact s_X2_firstMovesWith_103 X hr hlk K45 Q hK45 x2 x3 x4 x5 x6 x7_6 x8 σ_5 hw (lv_sub hl [1, 2, 3, 4, 5, 6, 0, 7] rfl) hD
    · have hD := hD.2 q_78
      refine lv_bipush (v := (-5)) X.1 X.2.1 d_X2_firstMovesWith_81 (by decide) ?_
      exact g_iret X hr hlk hw hD d_X2_firstMovesWith_83
set_option maxRecDepth 20000 in
set_option maxHeartbeats 4000000 in
theorem sl_X2_firstMovesWith_45 {p : Program} {l : Launch} {e : Env} {s : State} {m : MethodId} {args : Array Value} {below : List Frame} {meth : Method} {c : Code} {G : GC} (X : CallFix p m c cm_X2_firstMovesWith 9 s args lw_us "GameLoom$Judge") (hr : meth.sig.returnType = some .int) (hlk : meth.locks = false) (Q : Int32 → GSt → Prop) : ∀ (nn : Nat), ∀ (x2 : Int32) (x3 : Int32) (x4 : Int32) (x5 : Int32) (x6 : Int32) (x7 : Int32) (x8 : Int32) (σ : GSt) (H : Heap) (locs : List Loc) (ls : Array Slot), Wo G s H locs σ → lv_has ls 9 [(0, .ref (G.2.1 49)), (2, .int x2), (3, .int x3), (4, .int x4), (5, .int x5), (6, .int x6), (7, .int x7), (8, .int x8)] → L_X2_firstMovesWith_45 Q nn x2 x3 x4 x5 x6 x7 x8 σ → W p l e rm_X2_firstMovesWith s m args below meth c H locs 0 0 (QMI G Q below args s) (F0 m 45 ls []) := by
  intro nn
  induction nn with
  | zero => intro x2 x3 x4 x5 x6 x7 x8 σ H locs ls  hw hl hD; exact hD.elim
  | succ nn ih =>
    intro x2 x3 x4 x5 x6 x7 x8 σ H locs ls  hw hl hD
    exact s_X2_firstMovesWith_45 X hr hlk (L_X2_firstMovesWith_45 Q nn) Q ih x2 x3 x4 x5 x6 x7 x8 σ hw hl hD
set_option maxRecDepth 20000 in
set_option maxHeartbeats 4000000 in
theorem s_X2_firstMovesWith_0 {p : Program} {l : Launch} {e : Env} {s : State} {m : MethodId} {args : Array Value} {below : List Frame} {meth : Method} {c : Code} {G : GC} (X : CallFix p m c cm_X2_firstMovesWith 9 s args lw_us "GameLoom$Judge") (hr : meth.sig.returnType = some .int) (hlk : meth.locks = false) (Q : Int32 → GSt → Prop) (r1 : Nat) (hk1 : kd r1 = 1) (x2 : Int32) (x3 : Int32) (σ : GSt) {H : Heap} {locs : List Loc} {ls : Array Slot} (hw : Wo G s H locs σ) (hl : lv_has ls 9 [(0, .ref (G.2.1 49)), (1, .ref (G.2.1 r1)), (2, .int x2), (3, .int x3)]) (hD : D_X2_firstMovesWith_0 Q r1 x2 x3 σ) : W p l e rm_X2_firstMovesWith s m args below meth c H locs 0 0 (QMI G Q below args s) (F0 m 0 ls []) := by
  unfold D_X2_firstMovesWith_0 at hD
  refine lv_aload_n X.1 X.2.1 d_X2_firstMovesWith_0 rfl (lv_at hl 0 rfl) ?_
  refine gf_2_0 X hw (by decide +kernel : kd 49 = 2) tb_329 d_X2_firstMovesWith_1 ?_
  refine lv_aload_n X.1 X.2.1 d_X2_firstMovesWith_4 rfl (lv_at hl 1 rfl) ?_
  refine gcV_v (rest := []) (As := [.ref (G.2.1 r1)]) (o := 50) X hw (c_X5_begin l G 50 r1 σ _ ly_2_0 hk1 hD) (kd_lt ly_2_0 (by decide)) (ce_5 G _ ly_2_0) rfl tb_836 tb_548 tb_549 tb_9 tb_550 hd_X5_begin ⟨rfl, rfl⟩ ⟨Nat.le_of_ble_eq_true rfl, Nat.le_of_ble_eq_true rfl⟩ rfl hl.1 rfl (Nat.le_of_ble_eq_true rfl) d_X2_firstMovesWith_5 (fun σ_1 H locs hD hw => ?_)
  refine lv_aload_n X.1 X.2.1 d_X2_firstMovesWith_8 rfl (lv_at hl 0 rfl) ?_
  refine gf_2_0 X hw (by decide +kernel : kd 49 = 2) tb_329 d_X2_firstMovesWith_9 ?_
  refine lv_aload_n X.1 X.2.1 d_X2_firstMovesWith_12 rfl (lv_at hl 0 rfl) ?_
  refine gf_2_2 X hw (by decide +kernel : kd 49 = 2) tb_331 d_X2_firstMovesWith_13 ?_
  refine gcV_i (rest := []) (As := [.ref (G.2.1 51)]) (o := 50) X hw (c_X5_listMoves l G 50 51 σ_1 _ ly_2_0 ly_2_2.1 hD) (kd_lt ly_2_0 (by decide)) (ce_5 G _ ly_2_0) rfl tb_853 tb_574 tb_575 tb_9 tb_576 hd_X5_listMoves ⟨rfl, rfl⟩ ⟨Nat.le_of_ble_eq_true rfl, Nat.le_of_ble_eq_true rfl⟩ rfl hl.1 rfl (Nat.le_of_ble_eq_true rfl) d_X2_firstMovesWith_16 (fun r_2 σ_3 H locs hD hw => ?_)
  refine lv_istore (lv' := [(4, .int r_2), (0, .ref (G.2.1 49)), (1, .ref (G.2.1 r1)), (2, .int x2), (3, .int x3)]) X.1 X.2.1 d_X2_firstMovesWith_19 hl (by decide) rfl (fun ls hl => ?_)
  refine lv_aload_n X.1 X.2.1 d_X2_firstMovesWith_21 rfl (lv_at hl 1 rfl) ?_
  refine gf_2_0 X hw (by decide +kernel : kd 49 = 2) tb_329 d_X2_firstMovesWith_22 ?_
  refine gf_5_1 X hw ly_2_0 tb_242 d_X2_firstMovesWith_25 ?_
  refine lv_topi (fun x5_4 e_x5_4 => ?_)
  have hD := hD x5_4 e_x5_4
  refine lv_istore (lv' := [(5, .int x5_4), (4, .int r_2), (0, .ref (G.2.1 49)), (1, .ref (G.2.1 r1)), (2, .int x2), (3, .int x3)]) X.1 X.2.1 d_X2_firstMovesWith_28 hl (by decide) rfl (fun ls hl => ?_)
  refine lv_aload_n X.1 X.2.1 d_X2_firstMovesWith_30 rfl (lv_at hl 2 rfl) ?_
  refine gf_2_0 X hw (by decide +kernel : kd 49 = 2) tb_329 d_X2_firstMovesWith_31 ?_
  refine gf_5_2 X hw ly_2_0 tb_247 d_X2_firstMovesWith_34 ?_
  refine lv_topi (fun x6_5 e_x6_5 => ?_)
  have hD := hD x6_5 e_x6_5
  refine lv_istore (lv' := [(6, .int x6_5), (5, .int x5_4), (4, .int r_2), (0, .ref (G.2.1 49)), (1, .ref (G.2.1 r1)), (2, .int x2), (3, .int x3)]) X.1 X.2.1 d_X2_firstMovesWith_37 hl (by decide) rfl (fun ls hl => ?_)
  refine lv_iconst (v := 0) X.1 X.2.1 d_X2_firstMovesWith_39 (by decide) ?_
  refine lv_istore (lv' := [(7, .int 0), (6, .int x6_5), (5, .int x5_4), (4, .int r_2), (0, .ref (G.2.1 49)), (1, .ref (G.2.1 r1)), (2, .int x2), (3, .int x3)]) X.1 X.2.1 d_X2_firstMovesWith_40 hl (by decide) rfl (fun ls hl => ?_)
  refine lv_iconst (v := 0) X.1 X.2.1 d_X2_firstMovesWith_42 (by decide) ?_
  refine lv_istore (lv' := [(8, .int 0), (7, .int 0), (6, .int x6_5), (5, .int x5_4), (4, .int r_2), (0, .ref (G.2.1 49)), (1, .ref (G.2.1 r1)), (2, .int x2), (3, .int x3)]) X.1 X.2.1 d_X2_firstMovesWith_43 hl (by decide) rfl (fun ls hl => ?_)
  obtain ⟨n9, hD⟩ := hD
  exact sl_X2_firstMovesWith_45 X hr hlk  Q  n9 x2 x3 r_2 x5_4 x6_5 0 0 σ_3 _ _ _  hw (lv_sub hl [5, 7, 8, 4, 3, 2, 1, 0] rfl) hD
theorem c_X2_firstMovesWith (l : Launch) (G : GC) (r1 : Nat) (x2 : Int32) (x3 : Int32) (σ : GSt) (Q : Int32 → GSt → Prop) (hr1 : kd r1 = 1) (hD : D_X2_firstMovesWith r1 x2 x3 σ Q) : MI l ym_X2_firstMovesWith cm_X2_firstMovesWith 9 .int rm_X2_firstMovesWith G σ [.ref (G.2.1 49), .ref (G.2.1 r1), .int x2, .int x3] Q := by
  refine met_i (by decide) (Nat.le_of_ble_eq_true rfl) ?_
  intro p e s m args below meth c X hr hlk hw ls hl
  exact s_X2_firstMovesWith_0 X hr hlk Q  r1 hr1 x2 x3 σ hw (lv_sub hl [0, 1, 2, 3] rfl) hD
theorem hd_X3_bestOf : ym_X3_bestOf.cls = "GameLoom$Looker" ∧ ym_X3_bestOf.cls ≠ "java/lang/invoke/MethodHandle" ∧ ym_X3_bestOf.cls ≠ "java/lang/invoke/VarHandle" ∧ (parseMethodDescriptor ym_X3_bestOf.desc).map (fun d => d.parameters.length) = some 2 := by decide +kernel
abbrev rm_X3_bestOf : Room := { frames := 13, cells := 0, slots := 0, locals := 335 }
theorem d_X3_bestOf_0 : decode cm_X3_bestOf 0 = .ok (.iload_n 2, 1) := by decide +kernel
theorem d_X3_bestOf_1 : decode cm_X3_bestOf 1 = .ok (.iconst 1, 1) := by decide +kernel
theorem d_X3_bestOf_2 : decode cm_X3_bestOf 2 = .ok (.if_icmp .lt 9, 3) := by decide +kernel
theorem d_X3_bestOf_5 : decode cm_X3_bestOf 5 = .ok (.iload_n 2, 1) := by decide +kernel
theorem d_X3_bestOf_6 : decode cm_X3_bestOf 6 = .ok (.bipush 6, 2) := by decide +kernel
theorem d_X3_bestOf_8 : decode cm_X3_bestOf 8 = .ok (.if_icmp .le 5, 3) := by decide +kernel
theorem d_X3_bestOf_11 : decode cm_X3_bestOf 11 = .ok (.iconst 0, 1) := by decide +kernel
theorem d_X3_bestOf_12 : decode cm_X3_bestOf 12 = .ok (.ireturn, 1) := by decide +kernel
theorem d_X3_bestOf_13 : decode cm_X3_bestOf 13 = .ok (.aload_n 0, 1) := by decide +kernel
theorem d_X3_bestOf_14 : decode cm_X3_bestOf 14 = .ok (.getfield 17, 3) := by decide +kernel
theorem d_X3_bestOf_17 : decode cm_X3_bestOf 17 = .ok (.iload_n 2, 1) := by decide +kernel
theorem d_X3_bestOf_18 : decode cm_X3_bestOf 18 = .ok (.aaload, 1) := by decide +kernel
theorem d_X3_bestOf_19 : decode cm_X3_bestOf 19 = .ok (.astore_n 3, 1) := by decide +kernel
theorem d_X3_bestOf_20 : decode cm_X3_bestOf 20 = .ok (.aload_n 1, 1) := by decide +kernel
theorem d_X3_bestOf_21 : decode cm_X3_bestOf 21 = .ok (.aload_n 3, 1) := by decide +kernel
theorem d_X3_bestOf_22 : decode cm_X3_bestOf 22 = .ok (.invokevirtual 28, 3) := by decide +kernel
theorem d_X3_bestOf_25 : decode cm_X3_bestOf 25 = .ok (.istore 4, 2) := by decide +kernel
theorem d_X3_bestOf_27 : decode cm_X3_bestOf 27 = .ok (.aload_n 1, 1) := by decide +kernel
theorem d_X3_bestOf_28 : decode cm_X3_bestOf 28 = .ok (.getfield 34, 3) := by decide +kernel
theorem d_X3_bestOf_31 : decode cm_X3_bestOf 31 = .ok (.istore 5, 2) := by decide +kernel
theorem d_X3_bestOf_33 : decode cm_X3_bestOf 33 = .ok (.aload_n 1, 1) := by decide +kernel
theorem d_X3_bestOf_34 : decode cm_X3_bestOf 34 = .ok (.getfield 37, 3) := by decide +kernel
theorem d_X3_bestOf_37 : decode cm_X3_bestOf 37 = .ok (.istore 6, 2) := by decide +kernel
theorem d_X3_bestOf_39 : decode cm_X3_bestOf 39 = .ok (.iconst 0, 1) := by decide +kernel
theorem d_X3_bestOf_40 : decode cm_X3_bestOf 40 = .ok (.istore 7, 2) := by decide +kernel
theorem d_X3_bestOf_42 : decode cm_X3_bestOf 42 = .ok (.iconst 3, 1) := by decide +kernel
theorem d_X3_bestOf_43 : decode cm_X3_bestOf 43 = .ok (.istore 8, 2) := by decide +kernel
theorem d_X3_bestOf_45 : decode cm_X3_bestOf 45 = .ok (.iconst 0, 1) := by decide +kernel
theorem d_X3_bestOf_46 : decode cm_X3_bestOf 46 = .ok (.istore 9, 2) := by decide +kernel
theorem d_X3_bestOf_48 : decode cm_X3_bestOf 48 = .ok (.iload 9, 2) := by decide +kernel
theorem d_X3_bestOf_50 : decode cm_X3_bestOf 50 = .ok (.iload 4, 2) := by decide +kernel
theorem d_X3_bestOf_52 : decode cm_X3_bestOf 52 = .ok (.if_icmp .ge 55, 3) := by decide +kernel
theorem d_X3_bestOf_55 : decode cm_X3_bestOf 55 = .ok (.iload 8, 2) := by decide +kernel
theorem d_X3_bestOf_57 : decode cm_X3_bestOf 57 = .ok (.ifCond .le 50, 3) := by decide +kernel
theorem d_X3_bestOf_60 : decode cm_X3_bestOf 60 = .ok (.aload_n 1, 1) := by decide +kernel
theorem d_X3_bestOf_61 : decode cm_X3_bestOf 61 = .ok (.aload_n 3, 1) := by decide +kernel
theorem d_X3_bestOf_62 : decode cm_X3_bestOf 62 = .ok (.iload 9, 2) := by decide +kernel
theorem d_X3_bestOf_64 : decode cm_X3_bestOf 64 = .ok (.iaload, 1) := by decide +kernel
theorem d_X3_bestOf_65 : decode cm_X3_bestOf 65 = .ok (.invokevirtual 40, 3) := by decide +kernel
theorem d_X3_bestOf_68 : decode cm_X3_bestOf 68 = .ok (.aload_n 0, 1) := by decide +kernel
theorem d_X3_bestOf_69 : decode cm_X3_bestOf 69 = .ok (.aload_n 1, 1) := by decide +kernel
theorem d_X3_bestOf_70 : decode cm_X3_bestOf 70 = .ok (.iload_n 2, 1) := by decide +kernel
theorem d_X3_bestOf_71 : decode cm_X3_bestOf 71 = .ok (.iconst 1, 1) := by decide +kernel
theorem d_X3_bestOf_72 : decode cm_X3_bestOf 72 = .ok (.isub, 1) := by decide +kernel
theorem d_X3_bestOf_73 : decode cm_X3_bestOf 73 = .ok (.invokevirtual 48, 3) := by decide +kernel
theorem d_X3_bestOf_76 : decode cm_X3_bestOf 76 = .ok (.istore 10, 2) := by decide +kernel
theorem d_X3_bestOf_78 : decode cm_X3_bestOf 78 = .ok (.aload_n 1, 1) := by decide +kernel
theorem d_X3_bestOf_79 : decode cm_X3_bestOf 79 = .ok (.iload 5, 2) := by decide +kernel
theorem d_X3_bestOf_81 : decode cm_X3_bestOf 81 = .ok (.iload 6, 2) := by decide +kernel
theorem d_X3_bestOf_83 : decode cm_X3_bestOf 83 = .ok (.invokevirtual 44, 3) := by decide +kernel
theorem d_X3_bestOf_86 : decode cm_X3_bestOf 86 = .ok (.iload 10, 2) := by decide +kernel
theorem d_X3_bestOf_88 : decode cm_X3_bestOf 88 = .ok (.iload 8, 2) := by decide +kernel
theorem d_X3_bestOf_90 : decode cm_X3_bestOf 90 = .ok (.if_icmp .ge 11, 3) := by decide +kernel
theorem d_X3_bestOf_93 : decode cm_X3_bestOf 93 = .ok (.iload 10, 2) := by decide +kernel
theorem d_X3_bestOf_95 : decode cm_X3_bestOf 95 = .ok (.istore 8, 2) := by decide +kernel
theorem d_X3_bestOf_97 : decode cm_X3_bestOf 97 = .ok (.iload 9, 2) := by decide +kernel
theorem d_X3_bestOf_99 : decode cm_X3_bestOf 99 = .ok (.istore 7, 2) := by decide +kernel
theorem d_X3_bestOf_101 : decode cm_X3_bestOf 101 = .ok (.iinc 9 1, 3) := by decide +kernel
theorem d_X3_bestOf_104 : decode cm_X3_bestOf 104 = .ok (.goto (-56), 3) := by decide +kernel
theorem d_X3_bestOf_107 : decode cm_X3_bestOf 107 = .ok (.iload 7, 2) := by decide +kernel
theorem d_X3_bestOf_109 : decode cm_X3_bestOf 109 = .ok (.ireturn, 1) := by decide +kernel
def D_X3_bestOf_101 (K48 : Nat → Int32 → Nat → Int32 → Int32 → Int32 → Int32 → Int32 → Int32 → GSt → Prop) (Q : Int32 → GSt → Prop) (r1 : Nat) (x2 : Int32) (r3 : Nat) (x4 : Int32) (x5 : Int32) (x6 : Int32) (x7 : Int32) (x8 : Int32) (x9 : Int32) (σ : GSt) : Prop :=
  ∀ x9_1 : Int32, x9_1 = x9 + 1 → (K48 r1 x2 r3 x4 x5 x6 x7 x8 x9_1 σ)
def D_X3_bestOf_48 (K48 : Nat → Int32 → Nat → Int32 → Int32 → Int32 → Int32 → Int32 → Int32 → GSt → Prop) (Q : Int32 → GSt → Prop) (r1 : Nat) (x2 : Int32) (r3 : Nat) (x4 : Int32) (x5 : Int32) (x6 : Int32) (x7 : Int32) (x8 : Int32) (x9 : Int32) (σ : GSt) : Prop :=
  (x4 ≤ x9 → Q x7 σ) ∧
  (¬ x4 ≤ x9 → (x8 ≤ 0 → Q x7 σ) ∧
  (¬ x8 ≤ 0 → vp_in x9 (ln r3) ∧ (D_X5_make r1 (σ r3 (Int32.toNatClampNeg x9)) σ (fun σ_1 => D_X3_deepen 8 r1 (x2 - 1) σ_1 (fun r_2 σ_3 => D_X5_unmake r1 x5 x6 σ_3 (fun σ_4 => (x8 ≤ r_2 → D_X3_bestOf_101 K48 Q r1 x2 r3 x4 x5 x6 x7 x8 x9 σ_4) ∧
  (¬ x8 ≤ r_2 → D_X3_bestOf_101 K48 Q r1 x2 r3 x4 x5 x6 x9 r_2 x9 σ_4)))))))
def L_X3_bestOf_48 (Q : Int32 → GSt → Prop) : Nat → Nat → Int32 → Nat → Int32 → Int32 → Int32 → Int32 → Int32 → Int32 → GSt → Prop
  | 0 => fun _ _ _ _ _ _ _ _ _ _ => False
  | n + 1 => fun r1 x2 r3 x4 x5 x6 x7 x8 x9 σ => D_X3_bestOf_48 (L_X3_bestOf_48 Q n) Q r1 x2 r3 x4 x5 x6 x7 x8 x9 σ
def D_X3_bestOf_0 (Q : Int32 → GSt → Prop) (r1 : Nat) (x2 : Int32) (σ : GSt) : Prop :=
  (x2 < 1 → Q 0 σ) ∧
  (¬ x2 < 1 → (x2 ≤ 6 → vp_in x2 7 ∧ (D_X5_listMoves r1 (31 + 1 + Int32.toNatClampNeg x2) σ (fun r_1 σ_2 => ∀ x5_3 : Int32, x5_3 = (σ_2 r1 1) → (∀ x6_4 : Int32, x6_4 = (σ_2 r1 2) → (∃ n : Nat, L_X3_bestOf_48 Q n r1 x2 (31 + 1 + Int32.toNatClampNeg x2) r_1 x5_3 x6_4 0 3 0 σ_2))))) ∧
  (¬ x2 ≤ 6 → Q 0 σ))
def D_X3_bestOf (r1 : Nat) (x2 : Int32) (σ : GSt) (Q : Int32 → GSt → Prop) : Prop := D_X3_bestOf_0 Q r1 x2 σ
set_option maxRecDepth 20000 in
set_option maxHeartbeats 4000000 in
theorem s_X3_bestOf_101 {p : Program} {l : Launch} {e : Env} {s : State} {m : MethodId} {args : Array Value} {below : List Frame} {meth : Method} {c : Code} {G : GC} (X : CallFix p m c cm_X3_bestOf 11 s args lw_us "GameLoom$Looker") (hr : meth.sig.returnType = some .int) (hlk : meth.locks = false) (K48 : Nat → Int32 → Nat → Int32 → Int32 → Int32 → Int32 → Int32 → Int32 → GSt → Prop) (Q : Int32 → GSt → Prop) (hK48 : ∀ (r1 : Nat) (x2 : Int32) (r3 : Nat) (x4 : Int32) (x5 : Int32) (x6 : Int32) (x7 : Int32) (x8 : Int32) (x9 : Int32) (σ : GSt) (H : Heap) (locs : List Loc) (ls : Array Slot), kd r1 = 5 → kd r3 = 12 → Wo G s H locs σ → lv_has ls 11 [(0, .ref (G.2.1 29)), (1, .ref (G.2.1 r1)), (2, .int x2), (3, .ref (G.2.1 r3)), (4, .int x4), (5, .int x5), (6, .int x6), (7, .int x7), (8, .int x8), (9, .int x9)] → K48 r1 x2 r3 x4 x5 x6 x7 x8 x9 σ → W p l e rm_X3_bestOf s m args below meth c H locs 0 0 (QMI G Q below args s) (F0 m 48 ls [])) (r1 : Nat) (hk1 : kd r1 = 5) (x2 : Int32) (r3 : Nat) (hk3 : kd r3 = 12) (x4 : Int32) (x5 : Int32) (x6 : Int32) (x7 : Int32) (x8 : Int32) (x9 : Int32) (σ : GSt) {H : Heap} {locs : List Loc} {ls : Array Slot} (hw : Wo G s H locs σ) (hl : lv_has ls 11 [(0, .ref (G.2.1 29)), (1, .ref (G.2.1 r1)), (2, .int x2), (3, .ref (G.2.1 r3)), (4, .int x4), (5, .int x5), (6, .int x6), (7, .int x7), (8, .int x8), (9, .int x9)]) (hD : D_X3_bestOf_101 K48 Q r1 x2 r3 x4 x5 x6 x7 x8 x9 σ) : W p l e rm_X3_bestOf s m args below meth c H locs 0 0 (QMI G Q below args s) (F0 m 101 ls []) := by
  unfold D_X3_bestOf_101 at hD
  obtain ⟨x9_1, e_x9_1⟩ : ∃ y : Int32, y = x9 + 1 := ⟨_, rfl⟩
  have hD := hD x9_1 e_x9_1
  refine lv_iinc (v := x9_1) (lv' := [(9, .int x9_1), (0, .ref (G.2.1 29)), (1, .ref (G.2.1 r1)), (2, .int x2), (3, .ref (G.2.1 r3)), (4, .int x4), (5, .int x5), (6, .int x6), (7, .int x7), (8, .int x8)]) X.1 X.2.1 d_X3_bestOf_101 hl (k := 9) rfl (by rw [e_x9_1]; rfl) (by decide) rfl (fun ls hl => ?_)
  refine lv_goto (tgt := 48) X.1 X.2.1 d_X3_bestOf_104 (by decide) ?_
  exact hK48 r1 x2 r3 x4 x5 x6 x7 x8 x9_1 σ _ _ _ hk1 hk3 hw (lv_sub hl [1, 2, 3, 4, 5, 6, 7, 8, 9, 0] rfl) hD
set_option maxRecDepth 20000 in
set_option maxHeartbeats 4000000 in
theorem s_X3_bestOf_48 {p : Program} {l : Launch} {e : Env} {s : State} {m : MethodId} {args : Array Value} {below : List Frame} {meth : Method} {c : Code} {G : GC} (X : CallFix p m c cm_X3_bestOf 11 s args lw_us "GameLoom$Looker") (hr : meth.sig.returnType = some .int) (hlk : meth.locks = false) (K48 : Nat → Int32 → Nat → Int32 → Int32 → Int32 → Int32 → Int32 → Int32 → GSt → Prop) (Q : Int32 → GSt → Prop) (hK48 : ∀ (r1 : Nat) (x2 : Int32) (r3 : Nat) (x4 : Int32) (x5 : Int32) (x6 : Int32) (x7 : Int32) (x8 : Int32) (x9 : Int32) (σ : GSt) (H : Heap) (locs : List Loc) (ls : Array Slot), kd r1 = 5 → kd r3 = 12 → Wo G s H locs σ → lv_has ls 11 [(0, .ref (G.2.1 29)), (1, .ref (G.2.1 r1)), (2, .int x2), (3, .ref (G.2.1 r3)), (4, .int x4), (5, .int x5), (6, .int x6), (7, .int x7), (8, .int x8), (9, .int x9)] → K48 r1 x2 r3 x4 x5 x6 x7 x8 x9 σ → W p l e rm_X3_bestOf s m args below meth c H locs 0 0 (QMI G Q below args s) (F0 m 48 ls [])) (r1 : Nat) (hk1 : kd r1 = 5) (x2 : Int32) (r3 : Nat) (hk3 : kd r3 = 12) (x4 : Int32) (x5 : Int32) (x6 : Int32) (x7 : Int32) (x8 : Int32) (x9 : Int32) (σ : GSt) {H : Heap} {locs : List Loc} {ls : Array Slot} (hw : Wo G s H locs σ) (hl : lv_has ls 11 [(0, .ref (G.2.1 29)), (1, .ref (G.2.1 r1)), (2, .int x2), (3, .ref (G.2.1 r3)), (4, .int x4), (5, .int x5), (6, .int x6), (7, .int x7), (8, .int x8), (9, .int x9)]) (hD : D_X3_bestOf_48 K48 Q r1 x2 r3 x4 x5 x6 x7 x8 x9 σ) : W p l e rm_X3_bestOf s m args below meth c H locs 0 0 (QMI G Q below args s) (F0 m 48 ls []) := by
  unfold D_X3_bestOf_48 at hD
  refine lv_iload X.1 X.2.1 d_X3_bestOf_48 (lv_at hl 9 rfl) ?_
  refine lv_iload X.1 X.2.1 d_X3_bestOf_50 (lv_at hl 4 rfl) ?_
  refine lv_icmp_ge (tgt := 107) X.1 X.2.1 d_X3_bestOf_52 (by decide) (fun q_52 => ?_) (fun q_52 => ?_)
  · have hD := hD.1 q_52
    refine lv_iload X.1 X.2.1 d_X3_bestOf_107 (lv_at hl 7 rfl) ?_
    exact g_iret X hr hlk hw hD d_X3_bestOf_109
  · have hD := hD.2 q_52
    refine lv_iload X.1 X.2.1 d_X3_bestOf_55 (lv_at hl 8 rfl) ?_
    refine lv_if_le (tgt := 107) X.1 X.2.1 d_X3_bestOf_57 (by decide) (fun q_57 => ?_) (fun q_57 => ?_)
    · have hD := hD.1 q_57
      refine lv_iload X.1 X.2.1 d_X3_bestOf_107 (lv_at hl 7 rfl) ?_
      exact g_iret X hr hlk hw hD d_X3_bestOf_109
    · have hD := hD.2 q_57
      refine lv_aload_n X.1 X.2.1 d_X3_bestOf_60 rfl (lv_at hl 1 rfl) ?_
      refine lv_aload_n X.1 X.2.1 d_X3_bestOf_61 rfl (lv_at hl 3 rfl) ?_
      refine lv_iload X.1 X.2.1 d_X3_bestOf_62 (lv_at hl 9 rfl) ?_
      obtain ⟨q_64, hD⟩ := hD
      refine g_iald X hw hk3 rfl q_64 d_X3_bestOf_64 ?_
      refine gcV_v (rest := []) (As := [.int (σ r3 (Int32.toNatClampNeg x9))]) (o := r1) X hw (c_X5_make l G r1 (σ r3 (Int32.toNatClampNeg x9)) σ _ hk1 hD) (kd_lt hk1 (by decide)) (ce_5 G _ hk1) rfl tb_687 tb_604 tb_605 tb_9 tb_606 hd_X5_make ⟨rfl, rfl⟩ ⟨Nat.le_of_ble_eq_true rfl, Nat.le_of_ble_eq_true rfl⟩ rfl hl.1 rfl (Nat.le_of_ble_eq_true rfl) d_X3_bestOf_65 (fun σ_1 H locs hD hw => ?_)
      refine lv_aload_n X.1 X.2.1 d_X3_bestOf_68 rfl (lv_at hl 0 rfl) ?_
      refine lv_aload_n X.1 X.2.1 d_X3_bestOf_69 rfl (lv_at hl 1 rfl) ?_
      refine lv_iload_n X.1 X.2.1 d_X3_bestOf_70 rfl (lv_at hl 2 rfl) ?_
      refine lv_iconst (v := 1) X.1 X.2.1 d_X3_bestOf_71 (by decide) ?_
      refine lv_isub X.1 X.2.1 d_X3_bestOf_72 ?_
      refine gcV_i (rest := []) (As := [.ref (G.2.1 r1), .int (x2 - 1)]) (o := 29) X hw (c_X3_deepen 8 l G r1 (x2 - 1) σ_1 _ hk1 hD) (kd_lt (by decide +kernel : kd 29 = 3) (by decide)) (ce_3 G _ (by decide +kernel : kd 29 = 3)) rfl tb_693 tb_695 tv_27 tb_7 tb_696 hd_X3_deepen ⟨rfl, rfl⟩ ⟨Nat.le_of_ble_eq_true rfl, Nat.le_of_ble_eq_true rfl⟩ rfl hl.1 rfl (Nat.le_of_ble_eq_true rfl) d_X3_bestOf_73 (fun r_2 σ_3 H locs hD hw => ?_)
      refine lv_istore (lv' := [(10, .int r_2), (0, .ref (G.2.1 29)), (1, .ref (G.2.1 r1)), (2, .int x2), (3, .ref (G.2.1 r3)), (4, .int x4), (5, .int x5), (6, .int x6), (7, .int x7), (8, .int x8), (9, .int x9)]) X.1 X.2.1 d_X3_bestOf_76 hl (by decide) rfl (fun ls hl => ?_)
      refine lv_aload_n X.1 X.2.1 d_X3_bestOf_78 rfl (lv_at hl 2 rfl) ?_
      refine lv_iload X.1 X.2.1 d_X3_bestOf_79 (lv_at hl 6 rfl) ?_
      refine lv_iload X.1 X.2.1 d_X3_bestOf_81 (lv_at hl 7 rfl) ?_
      refine gcV_v (rest := []) (As := [.int x5, .int x6]) (o := r1) X hw (c_X5_unmake l G r1 x5 x6 σ_3 _ hk1 hD) (kd_lt hk1 (by decide)) (ce_5 G _ hk1) rfl tb_688 tb_640 tb_641 tb_9 tb_642 hd_X5_unmake ⟨rfl, rfl⟩ ⟨Nat.le_of_ble_eq_true rfl, Nat.le_of_ble_eq_true rfl⟩ rfl hl.1 rfl (Nat.le_of_ble_eq_true rfl) d_X3_bestOf_83 (fun σ_4 H locs hD hw => ?_)
      refine lv_iload X.1 X.2.1 d_X3_bestOf_86 (lv_at hl 0 rfl) ?_
      refine lv_iload X.1 X.2.1 d_X3_bestOf_88 (lv_at hl 9 rfl) ?_
      refine lv_icmp_ge (tgt := 101) X.1 X.2.1 d_X3_bestOf_90 (by decide) (fun q_90 => ?_) (fun q_90 => ?_)
      · have hD := hD.1 q_90
        exact s_X3_bestOf_101 X hr hlk K48 Q hK48 r1 hk1 x2 r3 hk3 x4 x5 x6 x7 x8 x9 σ_4 hw (lv_sub hl [1, 2, 3, 4, 5, 6, 7, 8, 9, 10] rfl) hD
      · have hD := hD.2 q_90
        refine lv_iload X.1 X.2.1 d_X3_bestOf_93 (lv_at hl 0 rfl) ?_
        refine lv_istore (lv' := [(8, .int r_2), (10, .int r_2), (0, .ref (G.2.1 29)), (1, .ref (G.2.1 r1)), (2, .int x2), (3, .ref (G.2.1 r3)), (4, .int x4), (5, .int x5), (6, .int x6), (7, .int x7), (9, .int x9)]) X.1 X.2.1 d_X3_bestOf_95 hl (by decide) rfl (fun ls hl => ?_)
        refine lv_iload X.1 X.2.1 d_X3_bestOf_97 (lv_at hl 10 rfl) ?_
        refine lv_istore (lv' := [(7, .int x9), (8, .int r_2), (10, .int r_2), (0, .ref (G.2.1 29)), (1, .ref (G.2.1 r1)), (2, .int x2), (3, .ref (G.2.1 r3)), (4, .int x4), (5, .int x5), (6, .int x6), (9, .int x9)]) X.1 X.2.1 d_X3_bestOf_99 hl (by decide) rfl (fun ls hl => ?_)
        exact s_X3_bestOf_101 X hr hlk K48 Q hK48 r1 hk1 x2 r3 hk3 x4 x5 x6 x9 r_2 x9 σ_4 hw (lv_sub hl [3, 4, 5, 6, 7, 8, 9, 0, 1, 10] rfl) hD
set_option maxRecDepth 20000 in
set_option maxHeartbeats 4000000 in
theorem sl_X3_bestOf_48 {p : Program} {l : Launch} {e : Env} {s : State} {m : MethodId} {args : Array Value} {below : List Frame} {meth : Method} {c : Code} {G : GC} (X : CallFix p m c cm_X3_bestOf 11 s args lw_us "GameLoom$Looker") (hr : meth.sig.returnType = some .int) (hlk : meth.locks = false) (Q : Int32 → GSt → Prop) : ∀ (nn : Nat), ∀ (r1 : Nat) (x2 : Int32) (r3 : Nat) (x4 : Int32) (x5 : Int32) (x6 : Int32) (x7 : Int32) (x8 : Int32) (x9 : Int32) (σ : GSt) (H : Heap) (locs : List Loc) (ls : Array Slot), kd r1 = 5 → kd r3 = 12 → Wo G s H locs σ → lv_has ls 11 [(0, .ref (G.2.1 29)), (1, .ref (G.2.1 r1)), (2, .int x2), (3, .ref (G.2.1 r3)), (4, .int x4), (5, .int x5), (6, .int x6), (7, .int x7), (8, .int x8), (9, .int x9)] → L_X3_bestOf_48 Q nn r1 x2 r3 x4 x5 x6 x7 x8 x9 σ → W p l e rm_X3_bestOf s m args below meth c H locs 0 0 (QMI G Q below args s) (F0 m 48 ls []) := by
  intro nn
  induction nn with
  | zero => intro r1 x2 r3 x4 x5 x6 x7 x8 x9 σ H locs ls hk1 hk3 hw hl hD; exact hD.elim
  | succ nn ih =>
    intro r1 x2 r3 x4 x5 x6 x7 x8 x9 σ H locs ls hk1 hk3 hw hl hD
    exact s_X3_bestOf_48 X hr hlk (L_X3_bestOf_48 Q nn) Q ih r1 hk1 x2 r3 hk3 x4 x5 x6 x7 x8 x9 σ hw hl hD
set_option maxRecDepth 20000 in
set_option maxHeartbeats 4000000 in
theorem s_X3_bestOf_0 {p : Program} {l : Launch} {e : Env} {s : State} {m : MethodId} {args : Array Value} {below : List Frame} {meth : Method} {c : Code} {G : GC} (X : CallFix p m c cm_X3_bestOf 11 s args lw_us "GameLoom$Looker") (hr : meth.sig.returnType = some .int) (hlk : meth.locks = false) (Q : Int32 → GSt → Prop) (r1 : Nat) (hk1 : kd r1 = 5) (x2 : Int32) (σ : GSt) {H : Heap} {locs : List Loc} {ls : Array Slot} (hw : Wo G s H locs σ) (hl : lv_has ls 11 [(0, .ref (G.2.1 29)), (1, .ref (G.2.1 r1)), (2, .int x2)]) (hD : D_X3_bestOf_0 Q r1 x2 σ) : W p l e rm_X3_bestOf s m args below meth c H locs 0 0 (QMI G Q below args s) (F0 m 0 ls []) := by
  unfold D_X3_bestOf_0 at hD
  refine lv_iload_n X.1 X.2.1 d_X3_bestOf_0 rfl (lv_at hl 2 rfl) ?_
  refine lv_iconst (v := 1) X.1 X.2.1 d_X3_bestOf_1 (by decide) ?_
  refine lv_icmp_lt (tgt := 11) X.1 X.2.1 d_X3_bestOf_2 (by decide) (fun q_2 => ?_) (fun q_2 => ?_)
  · have hD := hD.1 q_2
    refine lv_iconst (v := 0) X.1 X.2.1 d_X3_bestOf_11 (by decide) ?_
    exact g_iret X hr hlk hw hD d_X3_bestOf_12
  · have hD := hD.2 q_2
    refine lv_iload_n X.1 X.2.1 d_X3_bestOf_5 rfl (lv_at hl 2 rfl) ?_
    refine lv_bipush (v := 6) X.1 X.2.1 d_X3_bestOf_6 (by decide) ?_
    refine lv_icmp_le (tgt := 13) X.1 X.2.1 d_X3_bestOf_8 (by decide) (fun q_8 => ?_) (fun q_8 => ?_)
    · have hD := hD.1 q_8
      refine lv_aload_n X.1 X.2.1 d_X3_bestOf_13 rfl (lv_at hl 0 rfl) ?_
      refine gf_3_2 X hw (by decide +kernel : kd 29 = 3) tb_217 d_X3_bestOf_14 ?_
      refine lv_iload_n X.1 X.2.1 d_X3_bestOf_17 rfl (lv_at hl 2 rfl) ?_
      obtain ⟨q_18, hD⟩ := hD
      refine g_aald16 X hw ly_3_2.1 q_18 d_X3_bestOf_18 ?_
      refine lv_astore_n (lv' := [(3, .ref (G.2.1 (31 + 1 + Int32.toNatClampNeg x2))), (0, .ref (G.2.1 29)), (1, .ref (G.2.1 r1)), (2, .int x2)]) X.1 X.2.1 d_X3_bestOf_19 rfl hl (by decide) rfl (fun ls hl => ?_)
      refine lv_aload_n X.1 X.2.1 d_X3_bestOf_20 rfl (lv_at hl 2 rfl) ?_
      refine lv_aload_n X.1 X.2.1 d_X3_bestOf_21 rfl (lv_at hl 0 rfl) ?_
      refine gcV_i (rest := []) (As := [.ref (G.2.1 (31 + 1 + Int32.toNatClampNeg x2))]) (o := r1) X hw (c_X5_listMoves l G r1 (31 + 1 + Int32.toNatClampNeg x2) σ _ hk1 (le_16 ly_3_2.1 q_18) hD) (kd_lt hk1 (by decide)) (ce_5 G _ hk1) rfl tb_686 tb_574 tb_575 tb_9 tb_576 hd_X5_listMoves ⟨rfl, rfl⟩ ⟨Nat.le_of_ble_eq_true rfl, Nat.le_of_ble_eq_true rfl⟩ rfl hl.1 rfl (Nat.le_of_ble_eq_true rfl) d_X3_bestOf_22 (fun r_1 σ_2 H locs hD hw => ?_)
      refine lv_istore (lv' := [(4, .int r_1), (3, .ref (G.2.1 (31 + 1 + Int32.toNatClampNeg x2))), (0, .ref (G.2.1 29)), (1, .ref (G.2.1 r1)), (2, .int x2)]) X.1 X.2.1 d_X3_bestOf_25 hl (by decide) rfl (fun ls hl => ?_)
      refine lv_aload_n X.1 X.2.1 d_X3_bestOf_27 rfl (lv_at hl 3 rfl) ?_
      refine gf_5_1 X hw hk1 tb_241 d_X3_bestOf_28 ?_
      refine lv_topi (fun x5_3 e_x5_3 => ?_)
      have hD := hD x5_3 e_x5_3
      refine lv_istore (lv' := [(5, .int x5_3), (4, .int r_1), (3, .ref (G.2.1 (31 + 1 + Int32.toNatClampNeg x2))), (0, .ref (G.2.1 29)), (1, .ref (G.2.1 r1)), (2, .int x2)]) X.1 X.2.1 d_X3_bestOf_31 hl (by decide) rfl (fun ls hl => ?_)
      refine lv_aload_n X.1 X.2.1 d_X3_bestOf_33 rfl (lv_at hl 4 rfl) ?_
      refine gf_5_2 X hw hk1 tb_246 d_X3_bestOf_34 ?_
      refine lv_topi (fun x6_4 e_x6_4 => ?_)
      have hD := hD x6_4 e_x6_4
      refine lv_istore (lv' := [(6, .int x6_4), (5, .int x5_3), (4, .int r_1), (3, .ref (G.2.1 (31 + 1 + Int32.toNatClampNeg x2))), (0, .ref (G.2.1 29)), (1, .ref (G.2.1 r1)), (2, .int x2)]) X.1 X.2.1 d_X3_bestOf_37 hl (by decide) rfl (fun ls hl => ?_)
      refine lv_iconst (v := 0) X.1 X.2.1 d_X3_bestOf_39 (by decide) ?_
      refine lv_istore (lv' := [(7, .int 0), (6, .int x6_4), (5, .int x5_3), (4, .int r_1), (3, .ref (G.2.1 (31 + 1 + Int32.toNatClampNeg x2))), (0, .ref (G.2.1 29)), (1, .ref (G.2.1 r1)), (2, .int x2)]) X.1 X.2.1 d_X3_bestOf_40 hl (by decide) rfl (fun ls hl => ?_)
      refine lv_iconst (v := 3) X.1 X.2.1 d_X3_bestOf_42 (by decide) ?_
      refine lv_istore (lv' := [(8, .int 3), (7, .int 0), (6, .int x6_4), (5, .int x5_3), (4, .int r_1), (3, .ref (G.2.1 (31 + 1 + Int32.toNatClampNeg x2))), (0, .ref (G.2.1 29)), (1, .ref (G.2.1 r1)), (2, .int x2)]) X.1 X.2.1 d_X3_bestOf_43 hl (by decide) rfl (fun ls hl => ?_)
      refine lv_iconst (v := 0) X.1 X.2.1 d_X3_bestOf_45 (by decide) ?_
      refine lv_istore (lv' := [(9, .int 0), (8, .int 3), (7, .int 0), (6, .int x6_4), (5, .int x5_3), (4, .int r_1), (3, .ref (G.2.1 (31 + 1 + Int32.toNatClampNeg x2))), (0, .ref (G.2.1 29)), (1, .ref (G.2.1 r1)), (2, .int x2)]) X.1 X.2.1 d_X3_bestOf_46 hl (by decide) rfl (fun ls hl => ?_)
      obtain ⟨n9, hD⟩ := hD
      exact sl_X3_bestOf_48 X hr hlk  Q  n9 r1 x2 (31 + 1 + Int32.toNatClampNeg x2) r_1 x5_3 x6_4 0 3 0 σ_2 _ _ _ hk1 (le_16 ly_3_2.1 q_18) hw (lv_sub hl [7, 8, 9, 6, 5, 4, 3, 2, 1, 0] rfl) hD
    · have hD := hD.2 q_8
      refine lv_iconst (v := 0) X.1 X.2.1 d_X3_bestOf_11 (by decide) ?_
      exact g_iret X hr hlk hw hD d_X3_bestOf_12
theorem c_X3_bestOf (l : Launch) (G : GC) (r1 : Nat) (x2 : Int32) (σ : GSt) (Q : Int32 → GSt → Prop) (hr1 : kd r1 = 5) (hD : D_X3_bestOf r1 x2 σ Q) : MI l ym_X3_bestOf cm_X3_bestOf 11 .int rm_X3_bestOf G σ [.ref (G.2.1 29), .ref (G.2.1 r1), .int x2] Q := by
  refine met_i (by decide) (Nat.le_of_ble_eq_true rfl) ?_
  intro p e s m args below meth c X hr hlk hw ls hl
  exact s_X3_bestOf_0 X hr hlk Q  r1 hr1 x2 σ hw (lv_sub hl [0, 1, 2] rfl) hD
theorem hd_X4_begin : ym_X4_begin.cls = "GameLoom$Play" ∧ ym_X4_begin.cls ≠ "java/lang/invoke/MethodHandle" ∧ ym_X4_begin.cls ≠ "java/lang/invoke/VarHandle" ∧ (parseMethodDescriptor ym_X4_begin.desc).map (fun d => d.parameters.length) = some 1 := by decide +kernel
abbrev rm_X4_begin : Room := { frames := 3, cells := 0, slots := 0, locals := 82 }
theorem d_X4_begin_0 : decode cm_X4_begin 0 = .ok (.aload_n 0, 1) := by decide +kernel
theorem d_X4_begin_1 : decode cm_X4_begin 1 = .ok (.iconst 1, 1) := by decide +kernel
theorem d_X4_begin_2 : decode cm_X4_begin 2 = .ok (.putfield 28, 3) := by decide +kernel
theorem d_X4_begin_5 : decode cm_X4_begin 5 = .ok (.aload_n 0, 1) := by decide +kernel
theorem d_X4_begin_6 : decode cm_X4_begin 6 = .ok (.getfield 12, 3) := by decide +kernel
theorem d_X4_begin_9 : decode cm_X4_begin 9 = .ok (.aload_n 1, 1) := by decide +kernel
theorem d_X4_begin_10 : decode cm_X4_begin 10 = .ok (.invokevirtual 32, 3) := by decide +kernel
theorem d_X4_begin_13 : decode cm_X4_begin 13 = .ok (.aload_n 0, 1) := by decide +kernel
theorem d_X4_begin_14 : decode cm_X4_begin 14 = .ok (.aload_n 0, 1) := by decide +kernel
theorem d_X4_begin_15 : decode cm_X4_begin 15 = .ok (.getfield 12, 3) := by decide +kernel
theorem d_X4_begin_18 : decode cm_X4_begin 18 = .ok (.aload_n 0, 1) := by decide +kernel
theorem d_X4_begin_19 : decode cm_X4_begin 19 = .ok (.getfield 18, 3) := by decide +kernel
theorem d_X4_begin_22 : decode cm_X4_begin 22 = .ok (.invokevirtual 36, 3) := by decide +kernel
theorem d_X4_begin_25 : decode cm_X4_begin 25 = .ok (.putfield 40, 3) := by decide +kernel
theorem d_X4_begin_28 : decode cm_X4_begin 28 = .ok (.return_, 1) := by decide +kernel
def D_X4_begin_0 (Q : GSt → Prop) (r1 : Nat) (σ : GSt) : Prop :=
  ∀ σ_1 : GSt, σ_1 = up2 σ 53 3 1 → (D_X5_begin 54 r1 σ_1 (fun σ_2 => D_X5_listMoves 54 55 σ_2 (fun r_3 σ_4 => ∀ σ_5 : GSt, σ_5 = up2 σ_4 53 2 r_3 → (Q σ_5))))
def D_X4_begin (r1 : Nat) (σ : GSt) (Q : GSt → Prop) : Prop := D_X4_begin_0 Q r1 σ
set_option maxRecDepth 20000 in
set_option maxHeartbeats 4000000 in
theorem s_X4_begin_0 {p : Program} {l : Launch} {e : Env} {s : State} {m : MethodId} {args : Array Value} {below : List Frame} {meth : Method} {c : Code} {G : GC} (X : CallFix p m c cm_X4_begin 2 s args lw_us "GameLoom$Play") (hr : meth.sig.returnType = none) (hlk : meth.locks = false) (Q : GSt → Prop) (r1 : Nat) (hk1 : kd r1 = 1) (σ : GSt) {H : Heap} {locs : List Loc} {ls : Array Slot} (hw : Wo G s H locs σ) (hl : lv_has ls 2 [(0, .ref (G.2.1 53)), (1, .ref (G.2.1 r1))]) (hD : D_X4_begin_0 Q r1 σ) : W p l e rm_X4_begin s m args below meth c H locs 0 0 (QMV G Q below args s) (F0 m 0 ls []) := by
  unfold D_X4_begin_0 at hD
  refine lv_aload_n X.1 X.2.1 d_X4_begin_0 rfl (lv_at hl 0 rfl) ?_
  refine lv_iconst (v := 1) X.1 X.2.1 d_X4_begin_1 (by decide) ?_
  refine pf_4_3 X hw (by decide +kernel : kd 53 = 4) tb_356 (by decide) d_X4_begin_2 (fun H locs hw => ?_)
  obtain ⟨σ_1, e_σ_1⟩ : ∃ z : GSt, z = up2 σ 53 3 1 := ⟨_, rfl⟩
  rw [← e_σ_1] at hw
  have hD := hD σ_1 e_σ_1
  refine lv_aload_n X.1 X.2.1 d_X4_begin_5 rfl (lv_at hl 0 rfl) ?_
  refine gf_4_0 X hw (by decide +kernel : kd 53 = 4) tb_350 d_X4_begin_6 ?_
  refine lv_aload_n X.1 X.2.1 d_X4_begin_9 rfl (lv_at hl 1 rfl) ?_
  refine gcV_v (rest := []) (As := [.ref (G.2.1 r1)]) (o := 54) X hw (c_X5_begin l G 54 r1 σ_1 _ ly_4_0 hk1 hD) (kd_lt ly_4_0 (by decide)) (ce_5 G _ ly_4_0) rfl tb_547 tb_548 tb_549 tb_9 tb_550 hd_X5_begin ⟨rfl, rfl⟩ ⟨Nat.le_of_ble_eq_true rfl, Nat.le_of_ble_eq_true rfl⟩ rfl hl.1 rfl (Nat.le_of_ble_eq_true rfl) d_X4_begin_10 (fun σ_2 H locs hD hw => ?_)
  refine lv_aload_n X.1 X.2.1 d_X4_begin_13 rfl (lv_at hl 0 rfl) ?_
  refine lv_aload_n X.1 X.2.1 d_X4_begin_14 rfl (lv_at hl 0 rfl) ?_
  refine gf_4_0 X hw (by decide +kernel : kd 53 = 4) tb_350 d_X4_begin_15 ?_
  refine lv_aload_n X.1 X.2.1 d_X4_begin_18 rfl (lv_at hl 0 rfl) ?_
  refine gf_4_1 X hw (by decide +kernel : kd 53 = 4) tb_352 d_X4_begin_19 ?_
  refine gcV_i (rest := [.ref (G.2.1 53)]) (As := [.ref (G.2.1 55)]) (o := 54) X hw (c_X5_listMoves l G 54 55 σ_2 _ ly_4_0 ly_4_1.1 hD) (kd_lt ly_4_0 (by decide)) (ce_5 G _ ly_4_0) rfl tb_573 tb_574 tb_575 tb_9 tb_576 hd_X5_listMoves ⟨rfl, rfl⟩ ⟨Nat.le_of_ble_eq_true rfl, Nat.le_of_ble_eq_true rfl⟩ rfl hl.1 rfl (Nat.le_of_ble_eq_true rfl) d_X4_begin_22 (fun r_3 σ_4 H locs hD hw => ?_)
  refine pf_4_2 X hw (by decide +kernel : kd 53 = 4) tb_354 d_X4_begin_25 (fun H locs hw => ?_)
  obtain ⟨σ_5, e_σ_5⟩ : ∃ z : GSt, z = up2 σ_4 53 2 r_3 := ⟨_, rfl⟩
  rw [← e_σ_5] at hw
  have hD := hD σ_5 e_σ_5
  exact g_vret X hr hlk hw hD d_X4_begin_28
theorem c_X4_begin (l : Launch) (G : GC) (r1 : Nat) (σ : GSt) (Q : GSt → Prop) (hr1 : kd r1 = 1) (hD : D_X4_begin r1 σ Q) : MV l ym_X4_begin cm_X4_begin 2 rm_X4_begin G σ [.ref (G.2.1 53), .ref (G.2.1 r1)] Q := by
  refine met_v (by decide) (Nat.le_of_ble_eq_true rfl) ?_
  intro p e s m args below meth c X hr hlk hw ls hl
  exact s_X4_begin_0 X hr hlk Q  r1 hr1 σ hw (lv_sub hl [0, 1] rfl) hD
theorem hd_X4_goesOn : ym_X4_goesOn.cls = "GameLoom$Play" ∧ ym_X4_goesOn.cls ≠ "java/lang/invoke/MethodHandle" ∧ ym_X4_goesOn.cls ≠ "java/lang/invoke/VarHandle" ∧ (parseMethodDescriptor ym_X4_goesOn.desc).map (fun d => d.parameters.length) = some 0 := by decide +kernel
abbrev rm_X4_goesOn : Room := { frames := 0, cells := 0, slots := 0, locals := 0 }
theorem d_X4_goesOn_0 : decode cm_X4_goesOn 0 = .ok (.aload_n 0, 1) := by decide +kernel
theorem d_X4_goesOn_1 : decode cm_X4_goesOn 1 = .ok (.getfield 28, 3) := by decide +kernel
theorem d_X4_goesOn_4 : decode cm_X4_goesOn 4 = .ok (.ifCond .eq 17, 3) := by decide +kernel
theorem d_X4_goesOn_7 : decode cm_X4_goesOn 7 = .ok (.aload_n 0, 1) := by decide +kernel
theorem d_X4_goesOn_8 : decode cm_X4_goesOn 8 = .ok (.getfield 12, 3) := by decide +kernel
theorem d_X4_goesOn_11 : decode cm_X4_goesOn 11 = .ok (.getfield 44, 3) := by decide +kernel
theorem d_X4_goesOn_14 : decode cm_X4_goesOn 14 = .ok (.ifCond .ne 7, 3) := by decide +kernel
theorem d_X4_goesOn_17 : decode cm_X4_goesOn 17 = .ok (.iconst 1, 1) := by decide +kernel
theorem d_X4_goesOn_18 : decode cm_X4_goesOn 18 = .ok (.goto 4, 3) := by decide +kernel
theorem d_X4_goesOn_21 : decode cm_X4_goesOn 21 = .ok (.iconst 0, 1) := by decide +kernel
theorem d_X4_goesOn_22 : decode cm_X4_goesOn 22 = .ok (.ireturn, 1) := by decide +kernel
def D_X4_goesOn_0 (Q : Int32 → GSt → Prop) (σ : GSt) : Prop :=
  ((σ 53 3) = 0 → Q 0 σ) ∧
  (¬ (σ 53 3) = 0 → (¬ (σ 54 4) = 0 → Q 0 σ) ∧
  ((σ 54 4) = 0 → Q 1 σ))
def D_X4_goesOn (σ : GSt) (Q : Int32 → GSt → Prop) : Prop := D_X4_goesOn_0 Q σ
set_option maxRecDepth 20000 in
set_option maxHeartbeats 4000000 in
theorem s_X4_goesOn_0 {p : Program} {l : Launch} {e : Env} {s : State} {m : MethodId} {args : Array Value} {below : List Frame} {meth : Method} {c : Code} {G : GC} (X : CallFix p m c cm_X4_goesOn 1 s args lw_us "GameLoom$Play") (hr : meth.sig.returnType = some .boolean) (hlk : meth.locks = false) (Q : Int32 → GSt → Prop) (σ : GSt) {H : Heap} {locs : List Loc} {ls : Array Slot} (hw : Wo G s H locs σ) (hl : lv_has ls 1 [(0, .ref (G.2.1 53))]) (hD : D_X4_goesOn_0 Q σ) : W p l e rm_X4_goesOn s m args below meth c H locs 0 0 (QMI G Q below args s) (F0 m 0 ls []) := by
  unfold D_X4_goesOn_0 at hD
  refine lv_aload_n X.1 X.2.1 d_X4_goesOn_0 rfl (lv_at hl 0 rfl) ?_
  refine gf_4_3 X hw (by decide +kernel : kd 53 = 4) tb_356 d_X4_goesOn_1 ?_
  refine lv_if_eq (tgt := 21) X.1 X.2.1 d_X4_goesOn_4 (by decide) (fun q_4 => ?_) (fun q_4 => ?_)
  · have hD := hD.1 q_4
    refine lv_iconst (v := 0) X.1 X.2.1 d_X4_goesOn_21 (by decide) ?_
    exact g_zret X hr hlk hw (by decide) hD d_X4_goesOn_22
  · have hD := hD.2 q_4
    refine lv_aload_n X.1 X.2.1 d_X4_goesOn_7 rfl (lv_at hl 0 rfl) ?_
    refine gf_4_0 X hw (by decide +kernel : kd 53 = 4) tb_350 d_X4_goesOn_8 ?_
    refine gf_5_4 X hw ly_4_0 tb_254 d_X4_goesOn_11 ?_
    refine lv_if_ne (tgt := 21) X.1 X.2.1 d_X4_goesOn_14 (by decide) (fun q_14 => ?_) (fun q_14 => ?_)
    · have hD := hD.1 q_14
      refine lv_iconst (v := 0) X.1 X.2.1 d_X4_goesOn_21 (by decide) ?_
      exact g_zret X hr hlk hw (by decide) hD d_X4_goesOn_22
    · have hD := hD.2 q_14
      refine lv_iconst (v := 1) X.1 X.2.1 d_X4_goesOn_17 (by decide) ?_
      refine lv_goto (tgt := 22) X.1 X.2.1 d_X4_goesOn_18 (by decide) ?_
      exact g_zret X hr hlk hw (by decide) hD d_X4_goesOn_22
theorem c_X4_goesOn (l : Launch) (G : GC) (σ : GSt) (Q : Int32 → GSt → Prop)  (hD : D_X4_goesOn  σ Q) : MI l ym_X4_goesOn cm_X4_goesOn 1 .boolean rm_X4_goesOn G σ [.ref (G.2.1 53)] Q := by
  refine met_i (by decide) (Nat.le_of_ble_eq_true rfl) ?_
  intro p e s m args below meth c X hr hlk hw ls hl
  exact s_X4_goesOn_0 X hr hlk Q   σ hw (lv_sub hl [0] rfl) hD
theorem hd_X4_go : ym_X4_go.cls = "GameLoom$Play" ∧ ym_X4_go.cls ≠ "java/lang/invoke/MethodHandle" ∧ ym_X4_go.cls ≠ "java/lang/invoke/VarHandle" ∧ (parseMethodDescriptor ym_X4_go.desc).map (fun d => d.parameters.length) = some 1 := by decide +kernel
abbrev rm_X4_go : Room := { frames := 3, cells := 0, slots := 0, locals := 82 }
theorem d_X4_go_0 : decode cm_X4_go 0 = .ok (.aload_n 0, 1) := by decide +kernel
theorem d_X4_go_1 : decode cm_X4_go 1 = .ok (.getfield 12, 3) := by decide +kernel
theorem d_X4_go_4 : decode cm_X4_go 4 = .ok (.getfield 47, 3) := by decide +kernel
theorem d_X4_go_7 : decode cm_X4_go 7 = .ok (.istore_n 2, 1) := by decide +kernel
theorem d_X4_go_8 : decode cm_X4_go 8 = .ok (.iload_n 1, 1) := by decide +kernel
theorem d_X4_go_9 : decode cm_X4_go 9 = .ok (.ifCond .lt 17, 3) := by decide +kernel
theorem d_X4_go_12 : decode cm_X4_go 12 = .ok (.iload_n 1, 1) := by decide +kernel
theorem d_X4_go_13 : decode cm_X4_go 13 = .ok (.aload_n 0, 1) := by decide +kernel
theorem d_X4_go_14 : decode cm_X4_go 14 = .ok (.getfield 40, 3) := by decide +kernel
theorem d_X4_go_17 : decode cm_X4_go 17 = .ok (.if_icmp .ge 9, 3) := by decide +kernel
theorem d_X4_go_20 : decode cm_X4_go 20 = .ok (.iload_n 2, 1) := by decide +kernel
theorem d_X4_go_21 : decode cm_X4_go 21 = .ok (.bipush 60, 2) := by decide +kernel
theorem d_X4_go_23 : decode cm_X4_go 23 = .ok (.if_icmp .lt 4, 3) := by decide +kernel
theorem d_X4_go_26 : decode cm_X4_go 26 = .ok (.return_, 1) := by decide +kernel
theorem d_X4_go_27 : decode cm_X4_go 27 = .ok (.aload_n 0, 1) := by decide +kernel
theorem d_X4_go_28 : decode cm_X4_go 28 = .ok (.getfield 22, 3) := by decide +kernel
theorem d_X4_go_31 : decode cm_X4_go 31 = .ok (.iload_n 2, 1) := by decide +kernel
theorem d_X4_go_32 : decode cm_X4_go 32 = .ok (.aload_n 0, 1) := by decide +kernel
theorem d_X4_go_33 : decode cm_X4_go 33 = .ok (.getfield 12, 3) := by decide +kernel
theorem d_X4_go_36 : decode cm_X4_go 36 = .ok (.getfield 50, 3) := by decide +kernel
theorem d_X4_go_39 : decode cm_X4_go 39 = .ok (.iastore, 1) := by decide +kernel
theorem d_X4_go_40 : decode cm_X4_go 40 = .ok (.aload_n 0, 1) := by decide +kernel
theorem d_X4_go_41 : decode cm_X4_go 41 = .ok (.getfield 25, 3) := by decide +kernel
theorem d_X4_go_44 : decode cm_X4_go 44 = .ok (.iload_n 2, 1) := by decide +kernel
theorem d_X4_go_45 : decode cm_X4_go 45 = .ok (.aload_n 0, 1) := by decide +kernel
theorem d_X4_go_46 : decode cm_X4_go 46 = .ok (.getfield 12, 3) := by decide +kernel
theorem d_X4_go_49 : decode cm_X4_go 49 = .ok (.getfield 53, 3) := by decide +kernel
theorem d_X4_go_52 : decode cm_X4_go 52 = .ok (.iastore, 1) := by decide +kernel
theorem d_X4_go_53 : decode cm_X4_go 53 = .ok (.aload_n 0, 1) := by decide +kernel
theorem d_X4_go_54 : decode cm_X4_go 54 = .ok (.getfield 12, 3) := by decide +kernel
theorem d_X4_go_57 : decode cm_X4_go 57 = .ok (.aload_n 0, 1) := by decide +kernel
theorem d_X4_go_58 : decode cm_X4_go 58 = .ok (.getfield 18, 3) := by decide +kernel
theorem d_X4_go_61 : decode cm_X4_go 61 = .ok (.iload_n 1, 1) := by decide +kernel
theorem d_X4_go_62 : decode cm_X4_go 62 = .ok (.iaload, 1) := by decide +kernel
theorem d_X4_go_63 : decode cm_X4_go 63 = .ok (.invokevirtual 56, 3) := by decide +kernel
theorem d_X4_go_66 : decode cm_X4_go 66 = .ok (.aload_n 0, 1) := by decide +kernel
theorem d_X4_go_67 : decode cm_X4_go 67 = .ok (.aload_n 0, 1) := by decide +kernel
theorem d_X4_go_68 : decode cm_X4_go 68 = .ok (.getfield 12, 3) := by decide +kernel
theorem d_X4_go_71 : decode cm_X4_go 71 = .ok (.aload_n 0, 1) := by decide +kernel
theorem d_X4_go_72 : decode cm_X4_go 72 = .ok (.getfield 18, 3) := by decide +kernel
theorem d_X4_go_75 : decode cm_X4_go 75 = .ok (.invokevirtual 36, 3) := by decide +kernel
theorem d_X4_go_78 : decode cm_X4_go 78 = .ok (.putfield 40, 3) := by decide +kernel
theorem d_X4_go_81 : decode cm_X4_go 81 = .ok (.return_, 1) := by decide +kernel
def D_X4_go_0 (Q : GSt → Prop) (x1 : Int32) (σ : GSt) : Prop :=
  ∀ x2_1 : Int32, x2_1 = (σ 54 3) → ((x1 < 0 → Q σ) ∧
  (¬ x1 < 0 → ((σ 53 2) ≤ x1 → Q σ) ∧
  (¬ (σ 53 2) ≤ x1 → (x2_1 < 60 → vp_in x2_1 60 ∧ (∀ σ_2 : GSt, σ_2 = up2 σ 56 (Int32.toNatClampNeg x2_1) (σ 54 1) → (vp_in x2_1 60 ∧ (∀ σ_3 : GSt, σ_3 = up2 σ_2 57 (Int32.toNatClampNeg x2_1) (σ_2 54 2) → (vp_in x1 256 ∧ (D_X5_make 54 (σ_3 55 (Int32.toNatClampNeg x1)) σ_3 (fun σ_4 => D_X5_listMoves 54 55 σ_4 (fun r_5 σ_6 => ∀ σ_7 : GSt, σ_7 = up2 σ_6 53 2 r_5 → (Q σ_7))))))))) ∧
  (¬ x2_1 < 60 → Q σ))))
def D_X4_go (x1 : Int32) (σ : GSt) (Q : GSt → Prop) : Prop := D_X4_go_0 Q x1 σ
set_option maxRecDepth 20000 in
set_option maxHeartbeats 4000000 in
theorem s_X4_go_0 {p : Program} {l : Launch} {e : Env} {s : State} {m : MethodId} {args : Array Value} {below : List Frame} {meth : Method} {c : Code} {G : GC} (X : CallFix p m c cm_X4_go 3 s args lw_us "GameLoom$Play") (hr : meth.sig.returnType = none) (hlk : meth.locks = false) (Q : GSt → Prop) (x1 : Int32) (σ : GSt) {H : Heap} {locs : List Loc} {ls : Array Slot} (hw : Wo G s H locs σ) (hl : lv_has ls 3 [(0, .ref (G.2.1 53)), (1, .int x1)]) (hD : D_X4_go_0 Q x1 σ) : W p l e rm_X4_go s m args below meth c H locs 0 0 (QMV G Q below args s) (F0 m 0 ls []) := by
  unfold D_X4_go_0 at hD
  refine lv_aload_n X.1 X.2.1 d_X4_go_0 rfl (lv_at hl 0 rfl) ?_
  refine gf_4_0 X hw (by decide +kernel : kd 53 = 4) tb_350 d_X4_go_1 ?_
  refine gf_5_3 X hw ly_4_0 tb_251 d_X4_go_4 ?_
  refine lv_topi (fun x2_1 e_x2_1 => ?_)
  have hD := hD x2_1 e_x2_1
  refine lv_istore_n (lv' := [(2, .int x2_1), (0, .ref (G.2.1 53)), (1, .int x1)]) X.1 X.2.1 d_X4_go_7 rfl hl (by decide) rfl (fun ls hl => ?_)
  refine lv_iload_n X.1 X.2.1 d_X4_go_8 rfl (lv_at hl 2 rfl) ?_
  refine lv_if_lt (tgt := 26) X.1 X.2.1 d_X4_go_9 (by decide) (fun q_9 => ?_) (fun q_9 => ?_)
  · have hD := hD.1 q_9
    exact g_vret X hr hlk hw hD d_X4_go_26
  · have hD := hD.2 q_9
    refine lv_iload_n X.1 X.2.1 d_X4_go_12 rfl (lv_at hl 2 rfl) ?_
    refine lv_aload_n X.1 X.2.1 d_X4_go_13 rfl (lv_at hl 1 rfl) ?_
    refine gf_4_2 X hw (by decide +kernel : kd 53 = 4) tb_354 d_X4_go_14 ?_
    refine lv_icmp_ge (tgt := 26) X.1 X.2.1 d_X4_go_17 (by decide) (fun q_17 => ?_) (fun q_17 => ?_)
    · have hD := hD.1 q_17
      exact g_vret X hr hlk hw hD d_X4_go_26
    · have hD := hD.2 q_17
      refine lv_iload_n X.1 X.2.1 d_X4_go_20 rfl (lv_at hl 0 rfl) ?_
      refine lv_bipush (v := 60) X.1 X.2.1 d_X4_go_21 (by decide) ?_
      refine lv_icmp_lt (tgt := 27) X.1 X.2.1 d_X4_go_23 (by decide) (fun q_23 => ?_) (fun q_23 => ?_)
      · have hD := hD.1 q_23
        refine lv_aload_n X.1 X.2.1 d_X4_go_27 rfl (lv_at hl 1 rfl) ?_
        refine gf_4_4 X hw (by decide +kernel : kd 53 = 4) tb_358 d_X4_go_28 ?_
        refine lv_iload_n X.1 X.2.1 d_X4_go_31 rfl (lv_at hl 0 rfl) ?_
        refine lv_aload_n X.1 X.2.1 d_X4_go_32 rfl (lv_at hl 1 rfl) ?_
        refine gf_4_0 X hw (by decide +kernel : kd 53 = 4) tb_350 d_X4_go_33 ?_
        refine gf_5_1 X hw ly_4_0 tb_243 d_X4_go_36 ?_
        obtain ⟨q_39, hD⟩ := hD
        refine g_iast X hw ly_4_4.1 ly_4_4.2 q_39 d_X4_go_39 (fun H locs hw => ?_)
        obtain ⟨σ_2, e_σ_2⟩ : ∃ z : GSt, z = up2 σ 56 (Int32.toNatClampNeg x2_1) (σ 54 1) := ⟨_, rfl⟩
        rw [← e_σ_2] at hw
        have hD := hD σ_2 e_σ_2
        refine lv_aload_n X.1 X.2.1 d_X4_go_40 rfl (lv_at hl 1 rfl) ?_
        refine gf_4_5 X hw (by decide +kernel : kd 53 = 4) tb_359 d_X4_go_41 ?_
        refine lv_iload_n X.1 X.2.1 d_X4_go_44 rfl (lv_at hl 0 rfl) ?_
        refine lv_aload_n X.1 X.2.1 d_X4_go_45 rfl (lv_at hl 1 rfl) ?_
        refine gf_4_0 X hw (by decide +kernel : kd 53 = 4) tb_350 d_X4_go_46 ?_
        refine gf_5_2 X hw ly_4_0 tb_248 d_X4_go_49 ?_
        obtain ⟨q_52, hD⟩ := hD
        refine g_iast X hw ly_4_5.1 ly_4_5.2 q_52 d_X4_go_52 (fun H locs hw => ?_)
        obtain ⟨σ_3, e_σ_3⟩ : ∃ z : GSt, z = up2 σ_2 57 (Int32.toNatClampNeg x2_1) (σ_2 54 2) := ⟨_, rfl⟩
        rw [← e_σ_3] at hw
        have hD := hD σ_3 e_σ_3
        refine lv_aload_n X.1 X.2.1 d_X4_go_53 rfl (lv_at hl 1 rfl) ?_
        refine gf_4_0 X hw (by decide +kernel : kd 53 = 4) tb_350 d_X4_go_54 ?_
        refine lv_aload_n X.1 X.2.1 d_X4_go_57 rfl (lv_at hl 1 rfl) ?_
        refine gf_4_1 X hw (by decide +kernel : kd 53 = 4) tb_352 d_X4_go_58 ?_
        refine lv_iload_n X.1 X.2.1 d_X4_go_61 rfl (lv_at hl 2 rfl) ?_
        obtain ⟨q_62, hD⟩ := hD
        refine g_iald X hw ly_4_1.1 ly_4_1.2 q_62 d_X4_go_62 ?_
        refine gcV_v (rest := []) (As := [.int (σ_3 55 (Int32.toNatClampNeg x1))]) (o := 54) X hw (c_X5_make l G 54 (σ_3 55 (Int32.toNatClampNeg x1)) σ_3 _ ly_4_0 hD) (kd_lt ly_4_0 (by decide)) (ce_5 G _ ly_4_0) rfl tb_603 tb_604 tb_605 tb_9 tb_606 hd_X5_make ⟨rfl, rfl⟩ ⟨Nat.le_of_ble_eq_true rfl, Nat.le_of_ble_eq_true rfl⟩ rfl hl.1 rfl (Nat.le_of_ble_eq_true rfl) d_X4_go_63 (fun σ_4 H locs hD hw => ?_)
        refine lv_aload_n X.1 X.2.1 d_X4_go_66 rfl (lv_at hl 1 rfl) ?_
        refine lv_aload_n X.1 X.2.1 d_X4_go_67 rfl (lv_at hl 1 rfl) ?_
        refine gf_4_0 X hw (by decide +kernel : kd 53 = 4) tb_350 d_X4_go_68 ?_
        refine lv_aload_n X.1 X.2.1 d_X4_go_71 rfl (lv_at hl 1 rfl) ?_
        refine gf_4_1 X hw (by decide +kernel : kd 53 = 4) tb_352 d_X4_go_72 ?_
        refine gcV_i (rest := [.ref (G.2.1 53)]) (As := [.ref (G.2.1 55)]) (o := 54) X hw (c_X5_listMoves l G 54 55 σ_4 _ ly_4_0 ly_4_1.1 hD) (kd_lt ly_4_0 (by decide)) (ce_5 G _ ly_4_0) rfl tb_573 tb_574 tb_575 tb_9 tb_576 hd_X5_listMoves ⟨rfl, rfl⟩ ⟨Nat.le_of_ble_eq_true rfl, Nat.le_of_ble_eq_true rfl⟩ rfl hl.1 rfl (Nat.le_of_ble_eq_true rfl) d_X4_go_75 (fun r_5 σ_6 H locs hD hw => ?_)
        refine pf_4_2 X hw (by decide +kernel : kd 53 = 4) tb_354 d_X4_go_78 (fun H locs hw => ?_)
        obtain ⟨σ_7, e_σ_7⟩ : ∃ z : GSt, z = up2 σ_6 53 2 r_5 := ⟨_, rfl⟩
        rw [← e_σ_7] at hw
        have hD := hD σ_7 e_σ_7
        exact g_vret X hr hlk hw hD d_X4_go_81
      · have hD := hD.2 q_23
        exact g_vret X hr hlk hw hD d_X4_go_26
theorem c_X4_go (l : Launch) (G : GC) (x1 : Int32) (σ : GSt) (Q : GSt → Prop)  (hD : D_X4_go x1 σ Q) : MV l ym_X4_go cm_X4_go 3 rm_X4_go G σ [.ref (G.2.1 53), .int x1] Q := by
  refine met_v (by decide) (Nat.le_of_ble_eq_true rfl) ?_
  intro p e s m args below meth c X hr hlk hw ls hl
  exact s_X4_go_0 X hr hlk Q  x1 σ hw (lv_sub hl [0, 1] rfl) hD
theorem hd_X4_undo : ym_X4_undo.cls = "GameLoom$Play" ∧ ym_X4_undo.cls ≠ "java/lang/invoke/MethodHandle" ∧ ym_X4_undo.cls ≠ "java/lang/invoke/VarHandle" ∧ (parseMethodDescriptor ym_X4_undo.desc).map (fun d => d.parameters.length) = some 0 := by decide +kernel
abbrev rm_X4_undo : Room := { frames := 3, cells := 0, slots := 0, locals := 82 }
theorem d_X4_undo_0 : decode cm_X4_undo 0 = .ok (.aload_n 0, 1) := by decide +kernel
theorem d_X4_undo_1 : decode cm_X4_undo 1 = .ok (.getfield 12, 3) := by decide +kernel
theorem d_X4_undo_4 : decode cm_X4_undo 4 = .ok (.getfield 47, 3) := by decide +kernel
theorem d_X4_undo_7 : decode cm_X4_undo 7 = .ok (.iconst 1, 1) := by decide +kernel
theorem d_X4_undo_8 : decode cm_X4_undo 8 = .ok (.isub, 1) := by decide +kernel
theorem d_X4_undo_9 : decode cm_X4_undo 9 = .ok (.istore_n 1, 1) := by decide +kernel
theorem d_X4_undo_10 : decode cm_X4_undo 10 = .ok (.iload_n 1, 1) := by decide +kernel
theorem d_X4_undo_11 : decode cm_X4_undo 11 = .ok (.ifCond .ge 4, 3) := by decide +kernel
theorem d_X4_undo_14 : decode cm_X4_undo 14 = .ok (.return_, 1) := by decide +kernel
theorem d_X4_undo_15 : decode cm_X4_undo 15 = .ok (.aload_n 0, 1) := by decide +kernel
theorem d_X4_undo_16 : decode cm_X4_undo 16 = .ok (.getfield 12, 3) := by decide +kernel
theorem d_X4_undo_19 : decode cm_X4_undo 19 = .ok (.aload_n 0, 1) := by decide +kernel
theorem d_X4_undo_20 : decode cm_X4_undo 20 = .ok (.getfield 22, 3) := by decide +kernel
theorem d_X4_undo_23 : decode cm_X4_undo 23 = .ok (.iload_n 1, 1) := by decide +kernel
theorem d_X4_undo_24 : decode cm_X4_undo 24 = .ok (.iaload, 1) := by decide +kernel
theorem d_X4_undo_25 : decode cm_X4_undo 25 = .ok (.aload_n 0, 1) := by decide +kernel
theorem d_X4_undo_26 : decode cm_X4_undo 26 = .ok (.getfield 25, 3) := by decide +kernel
theorem d_X4_undo_29 : decode cm_X4_undo 29 = .ok (.iload_n 1, 1) := by decide +kernel
theorem d_X4_undo_30 : decode cm_X4_undo 30 = .ok (.iaload, 1) := by decide +kernel
theorem d_X4_undo_31 : decode cm_X4_undo 31 = .ok (.invokevirtual 60, 3) := by decide +kernel
theorem d_X4_undo_34 : decode cm_X4_undo 34 = .ok (.aload_n 0, 1) := by decide +kernel
theorem d_X4_undo_35 : decode cm_X4_undo 35 = .ok (.aload_n 0, 1) := by decide +kernel
theorem d_X4_undo_36 : decode cm_X4_undo 36 = .ok (.getfield 12, 3) := by decide +kernel
theorem d_X4_undo_39 : decode cm_X4_undo 39 = .ok (.aload_n 0, 1) := by decide +kernel
theorem d_X4_undo_40 : decode cm_X4_undo 40 = .ok (.getfield 18, 3) := by decide +kernel
theorem d_X4_undo_43 : decode cm_X4_undo 43 = .ok (.invokevirtual 36, 3) := by decide +kernel
theorem d_X4_undo_46 : decode cm_X4_undo 46 = .ok (.putfield 40, 3) := by decide +kernel
theorem d_X4_undo_49 : decode cm_X4_undo 49 = .ok (.return_, 1) := by decide +kernel
def D_X4_undo_0 (Q : GSt → Prop) (σ : GSt) : Prop :=
  ∀ x1_1 : Int32, x1_1 = ((σ 54 3) - 1) → ((0 ≤ x1_1 → vp_in x1_1 60 ∧ (vp_in x1_1 60 ∧ (D_X5_unmake 54 (σ 56 (Int32.toNatClampNeg x1_1)) (σ 57 (Int32.toNatClampNeg x1_1)) σ (fun σ_2 => D_X5_listMoves 54 55 σ_2 (fun r_3 σ_4 => ∀ σ_5 : GSt, σ_5 = up2 σ_4 53 2 r_3 → (Q σ_5)))))) ∧
  (¬ 0 ≤ x1_1 → Q σ))
def D_X4_undo (σ : GSt) (Q : GSt → Prop) : Prop := D_X4_undo_0 Q σ
set_option maxRecDepth 20000 in
set_option maxHeartbeats 4000000 in
theorem s_X4_undo_0 {p : Program} {l : Launch} {e : Env} {s : State} {m : MethodId} {args : Array Value} {below : List Frame} {meth : Method} {c : Code} {G : GC} (X : CallFix p m c cm_X4_undo 2 s args lw_us "GameLoom$Play") (hr : meth.sig.returnType = none) (hlk : meth.locks = false) (Q : GSt → Prop) (σ : GSt) {H : Heap} {locs : List Loc} {ls : Array Slot} (hw : Wo G s H locs σ) (hl : lv_has ls 2 [(0, .ref (G.2.1 53))]) (hD : D_X4_undo_0 Q σ) : W p l e rm_X4_undo s m args below meth c H locs 0 0 (QMV G Q below args s) (F0 m 0 ls []) := by
  unfold D_X4_undo_0 at hD
  refine lv_aload_n X.1 X.2.1 d_X4_undo_0 rfl (lv_at hl 0 rfl) ?_
  refine gf_4_0 X hw (by decide +kernel : kd 53 = 4) tb_350 d_X4_undo_1 ?_
  refine gf_5_3 X hw ly_4_0 tb_251 d_X4_undo_4 ?_
  refine lv_iconst (v := 1) X.1 X.2.1 d_X4_undo_7 (by decide) ?_
  refine lv_isub X.1 X.2.1 d_X4_undo_8 ?_
  refine lv_topi (fun x1_1 e_x1_1 => ?_)
  have hD := hD x1_1 e_x1_1
  refine lv_istore_n (lv' := [(1, .int x1_1), (0, .ref (G.2.1 53))]) X.1 X.2.1 d_X4_undo_9 rfl hl (by decide) rfl (fun ls hl => ?_)
  refine lv_iload_n X.1 X.2.1 d_X4_undo_10 rfl (lv_at hl 0 rfl) ?_
  refine lv_if_ge (tgt := 15) X.1 X.2.1 d_X4_undo_11 (by decide) (fun q_11 => ?_) (fun q_11 => ?_)
  · have hD := hD.1 q_11
    refine lv_aload_n X.1 X.2.1 d_X4_undo_15 rfl (lv_at hl 1 rfl) ?_
    refine gf_4_0 X hw (by decide +kernel : kd 53 = 4) tb_350 d_X4_undo_16 ?_
    refine lv_aload_n X.1 X.2.1 d_X4_undo_19 rfl (lv_at hl 1 rfl) ?_
    refine gf_4_4 X hw (by decide +kernel : kd 53 = 4) tb_358 d_X4_undo_20 ?_
    refine lv_iload_n X.1 X.2.1 d_X4_undo_23 rfl (lv_at hl 0 rfl) ?_
    obtain ⟨q_24, hD⟩ := hD
    refine g_iald X hw ly_4_4.1 ly_4_4.2 q_24 d_X4_undo_24 ?_
    refine lv_aload_n X.1 X.2.1 d_X4_undo_25 rfl (lv_at hl 1 rfl) ?_
    refine gf_4_5 X hw (by decide +kernel : kd 53 = 4) tb_359 d_X4_undo_26 ?_
    refine lv_iload_n X.1 X.2.1 d_X4_undo_29 rfl (lv_at hl 0 rfl) ?_
    obtain ⟨q_30, hD⟩ := hD
    refine g_iald X hw ly_4_5.1 ly_4_5.2 q_30 d_X4_undo_30 ?_
    refine gcV_v (rest := []) (As := [.int (σ 56 (Int32.toNatClampNeg x1_1)), .int (σ 57 (Int32.toNatClampNeg x1_1))]) (o := 54) X hw (c_X5_unmake l G 54 (σ 56 (Int32.toNatClampNeg x1_1)) (σ 57 (Int32.toNatClampNeg x1_1)) σ _ ly_4_0 hD) (kd_lt ly_4_0 (by decide)) (ce_5 G _ ly_4_0) rfl tb_639 tb_640 tb_641 tb_9 tb_642 hd_X5_unmake ⟨rfl, rfl⟩ ⟨Nat.le_of_ble_eq_true rfl, Nat.le_of_ble_eq_true rfl⟩ rfl hl.1 rfl (Nat.le_of_ble_eq_true rfl) d_X4_undo_31 (fun σ_2 H locs hD hw => ?_)
    refine lv_aload_n X.1 X.2.1 d_X4_undo_34 rfl (lv_at hl 1 rfl) ?_
    refine lv_aload_n X.1 X.2.1 d_X4_undo_35 rfl (lv_at hl 1 rfl) ?_
    refine gf_4_0 X hw (by decide +kernel : kd 53 = 4) tb_350 d_X4_undo_36 ?_
    refine lv_aload_n X.1 X.2.1 d_X4_undo_39 rfl (lv_at hl 1 rfl) ?_
    refine gf_4_1 X hw (by decide +kernel : kd 53 = 4) tb_352 d_X4_undo_40 ?_
    refine gcV_i (rest := [.ref (G.2.1 53)]) (As := [.ref (G.2.1 55)]) (o := 54) X hw (c_X5_listMoves l G 54 55 σ_2 _ ly_4_0 ly_4_1.1 hD) (kd_lt ly_4_0 (by decide)) (ce_5 G _ ly_4_0) rfl tb_573 tb_574 tb_575 tb_9 tb_576 hd_X5_listMoves ⟨rfl, rfl⟩ ⟨Nat.le_of_ble_eq_true rfl, Nat.le_of_ble_eq_true rfl⟩ rfl hl.1 rfl (Nat.le_of_ble_eq_true rfl) d_X4_undo_43 (fun r_3 σ_4 H locs hD hw => ?_)
    refine pf_4_2 X hw (by decide +kernel : kd 53 = 4) tb_354 d_X4_undo_46 (fun H locs hw => ?_)
    obtain ⟨σ_5, e_σ_5⟩ : ∃ z : GSt, z = up2 σ_4 53 2 r_3 := ⟨_, rfl⟩
    rw [← e_σ_5] at hw
    have hD := hD σ_5 e_σ_5
    exact g_vret X hr hlk hw hD d_X4_undo_49
  · have hD := hD.2 q_11
    exact g_vret X hr hlk hw hD d_X4_undo_14
theorem c_X4_undo (l : Launch) (G : GC) (σ : GSt) (Q : GSt → Prop)  (hD : D_X4_undo  σ Q) : MV l ym_X4_undo cm_X4_undo 2 rm_X4_undo G σ [.ref (G.2.1 53)] Q := by
  refine met_v (by decide) (Nat.le_of_ble_eq_true rfl) ?_
  intro p e s m args below meth c X hr hlk hw ls hl
  exact s_X4_undo_0 X hr hlk Q   σ hw (lv_sub hl [0] rfl) hD
theorem hd_X5_pieceOn : ym_X5_pieceOn.cls = "GameLoom$Position" ∧ ym_X5_pieceOn.cls ≠ "java/lang/invoke/MethodHandle" ∧ ym_X5_pieceOn.cls ≠ "java/lang/invoke/VarHandle" ∧ (parseMethodDescriptor ym_X5_pieceOn.desc).map (fun d => d.parameters.length) = some 1 := by decide +kernel
abbrev rm_X5_pieceOn : Room := { frames := 0, cells := 0, slots := 0, locals := 0 }
theorem d_X5_pieceOn_0 : decode cm_X5_pieceOn 0 = .ok (.aload_n 0, 1) := by decide +kernel
theorem d_X5_pieceOn_1 : decode cm_X5_pieceOn 1 = .ok (.getfield 39, 3) := by decide +kernel
theorem d_X5_pieceOn_4 : decode cm_X5_pieceOn 4 = .ok (.iload_n 1, 1) := by decide +kernel
theorem d_X5_pieceOn_5 : decode cm_X5_pieceOn 5 = .ok (.iushr, 1) := by decide +kernel
theorem d_X5_pieceOn_6 : decode cm_X5_pieceOn 6 = .ok (.iconst 1, 1) := by decide +kernel
theorem d_X5_pieceOn_7 : decode cm_X5_pieceOn 7 = .ok (.iand, 1) := by decide +kernel
theorem d_X5_pieceOn_8 : decode cm_X5_pieceOn 8 = .ok (.iconst 2, 1) := by decide +kernel
theorem d_X5_pieceOn_9 : decode cm_X5_pieceOn 9 = .ok (.aload_n 0, 1) := by decide +kernel
theorem d_X5_pieceOn_10 : decode cm_X5_pieceOn 10 = .ok (.getfield 42, 3) := by decide +kernel
theorem d_X5_pieceOn_13 : decode cm_X5_pieceOn 13 = .ok (.iload_n 1, 1) := by decide +kernel
theorem d_X5_pieceOn_14 : decode cm_X5_pieceOn 14 = .ok (.iushr, 1) := by decide +kernel
theorem d_X5_pieceOn_15 : decode cm_X5_pieceOn 15 = .ok (.iconst 1, 1) := by decide +kernel
theorem d_X5_pieceOn_16 : decode cm_X5_pieceOn 16 = .ok (.iand, 1) := by decide +kernel
theorem d_X5_pieceOn_17 : decode cm_X5_pieceOn 17 = .ok (.imul, 1) := by decide +kernel
theorem d_X5_pieceOn_18 : decode cm_X5_pieceOn 18 = .ok (.iadd, 1) := by decide +kernel
theorem d_X5_pieceOn_19 : decode cm_X5_pieceOn 19 = .ok (.ireturn, 1) := by decide +kernel
def D_X5_pieceOn_0 (Q : Int32 → GSt → Prop) (o : Nat) (x1 : Int32) (σ : GSt) : Prop :=
  Q (((jushr (σ o 1) x1) &&& 1) + (2 * ((jushr (σ o 2) x1) &&& 1))) σ
def D_X5_pieceOn (o : Nat) (x1 : Int32) (σ : GSt) (Q : Int32 → GSt → Prop) : Prop := D_X5_pieceOn_0 Q o x1 σ
set_option maxRecDepth 20000 in
set_option maxHeartbeats 4000000 in
theorem s_X5_pieceOn_0 {p : Program} {l : Launch} {e : Env} {s : State} {m : MethodId} {args : Array Value} {below : List Frame} {meth : Method} {c : Code} {G : GC} (X : CallFix p m c cm_X5_pieceOn 2 s args lw_us "GameLoom$Position") (hr : meth.sig.returnType = some .int) (hlk : meth.locks = false) (Q : Int32 → GSt → Prop) (o : Nat) (ho : kd o = 5) (x1 : Int32) (σ : GSt) {H : Heap} {locs : List Loc} {ls : Array Slot} (hw : Wo G s H locs σ) (hl : lv_has ls 2 [(0, .ref (G.2.1 o)), (1, .int x1)]) (hD : D_X5_pieceOn_0 Q o x1 σ) : W p l e rm_X5_pieceOn s m args below meth c H locs 0 0 (QMI G Q below args s) (F0 m 0 ls []) := by
  unfold D_X5_pieceOn_0 at hD
  refine lv_aload_n X.1 X.2.1 d_X5_pieceOn_0 rfl (lv_at hl 0 rfl) ?_
  refine gf_5_1 X hw ho tb_240 d_X5_pieceOn_1 ?_
  refine lv_iload_n X.1 X.2.1 d_X5_pieceOn_4 rfl (lv_at hl 1 rfl) ?_
  refine lv_iushr (v := (jushr (σ o 1) x1)) X.1 X.2.1 d_X5_pieceOn_5 rfl ?_
  refine lv_iconst (v := 1) X.1 X.2.1 d_X5_pieceOn_6 (by decide) ?_
  refine lv_iand X.1 X.2.1 d_X5_pieceOn_7 ?_
  refine lv_iconst (v := 2) X.1 X.2.1 d_X5_pieceOn_8 (by decide) ?_
  refine lv_aload_n X.1 X.2.1 d_X5_pieceOn_9 rfl (lv_at hl 0 rfl) ?_
  refine gf_5_2 X hw ho tb_245 d_X5_pieceOn_10 ?_
  refine lv_iload_n X.1 X.2.1 d_X5_pieceOn_13 rfl (lv_at hl 1 rfl) ?_
  refine lv_iushr (v := (jushr (σ o 2) x1)) X.1 X.2.1 d_X5_pieceOn_14 rfl ?_
  refine lv_iconst (v := 1) X.1 X.2.1 d_X5_pieceOn_15 (by decide) ?_
  refine lv_iand X.1 X.2.1 d_X5_pieceOn_16 ?_
  refine lv_imul X.1 X.2.1 d_X5_pieceOn_17 ?_
  refine lv_iadd X.1 X.2.1 d_X5_pieceOn_18 ?_
  exact g_iret X hr hlk hw hD d_X5_pieceOn_19
theorem c_X5_pieceOn (l : Launch) (G : GC) (o : Nat) (x1 : Int32) (σ : GSt) (Q : Int32 → GSt → Prop) (ho : kd o = 5) (hD : D_X5_pieceOn o x1 σ Q) : MI l ym_X5_pieceOn cm_X5_pieceOn 2 .int rm_X5_pieceOn G σ [.ref (G.2.1 o), .int x1] Q := by
  refine met_i (by decide) (Nat.le_of_ble_eq_true rfl) ?_
  intro p e s m args below meth c X hr hlk hw ls hl
  exact s_X5_pieceOn_0 X hr hlk Q o ho x1 σ hw (lv_sub hl [0, 1] rfl) hD
theorem hd_X5_codeTurned : ym_X5_codeTurned.cls = "GameLoom$Position" ∧ ym_X5_codeTurned.cls ≠ "java/lang/invoke/MethodHandle" ∧ ym_X5_codeTurned.cls ≠ "java/lang/invoke/VarHandle" ∧ (parseMethodDescriptor ym_X5_codeTurned.desc).map (fun d => d.parameters.length) = some 1 := by decide +kernel
abbrev rm_X5_codeTurned : Room := { frames := 1, cells := 0, slots := 0, locals := 21 }
theorem d_X5_codeTurned_0 : decode cm_X5_codeTurned 0 = .ok (.aload_n 0, 1) := by decide +kernel
theorem d_X5_codeTurned_1 : decode cm_X5_codeTurned 1 = .ok (.getfield 9, 3) := by decide +kernel
theorem d_X5_codeTurned_4 : decode cm_X5_codeTurned 4 = .ok (.getfield 83, 3) := by decide +kernel
theorem d_X5_codeTurned_7 : decode cm_X5_codeTurned 7 = .ok (.getfield 142, 3) := by decide +kernel
theorem d_X5_codeTurned_10 : decode cm_X5_codeTurned 10 = .ok (.istore_n 2, 1) := by decide +kernel
theorem d_X5_codeTurned_11 : decode cm_X5_codeTurned 11 = .ok (.aload_n 0, 1) := by decide +kernel
theorem d_X5_codeTurned_12 : decode cm_X5_codeTurned 12 = .ok (.getfield 9, 3) := by decide +kernel
theorem d_X5_codeTurned_15 : decode cm_X5_codeTurned 15 = .ok (.getfield 83, 3) := by decide +kernel
theorem d_X5_codeTurned_18 : decode cm_X5_codeTurned 18 = .ok (.getfield 145, 3) := by decide +kernel
theorem d_X5_codeTurned_21 : decode cm_X5_codeTurned 21 = .ok (.istore_n 3, 1) := by decide +kernel
theorem d_X5_codeTurned_22 : decode cm_X5_codeTurned 22 = .ok (.iconst 0, 1) := by decide +kernel
theorem d_X5_codeTurned_23 : decode cm_X5_codeTurned 23 = .ok (.istore 4, 2) := by decide +kernel
theorem d_X5_codeTurned_25 : decode cm_X5_codeTurned 25 = .ok (.iload_n 3, 1) := by decide +kernel
theorem d_X5_codeTurned_26 : decode cm_X5_codeTurned 26 = .ok (.iconst 1, 1) := by decide +kernel
theorem d_X5_codeTurned_27 : decode cm_X5_codeTurned 27 = .ok (.isub, 1) := by decide +kernel
theorem d_X5_codeTurned_28 : decode cm_X5_codeTurned 28 = .ok (.istore 5, 2) := by decide +kernel
theorem d_X5_codeTurned_30 : decode cm_X5_codeTurned 30 = .ok (.iload 5, 2) := by decide +kernel
theorem d_X5_codeTurned_32 : decode cm_X5_codeTurned 32 = .ok (.ifCond .lt 97, 3) := by decide +kernel
theorem d_X5_codeTurned_35 : decode cm_X5_codeTurned 35 = .ok (.iload_n 2, 1) := by decide +kernel
theorem d_X5_codeTurned_36 : decode cm_X5_codeTurned 36 = .ok (.iconst 1, 1) := by decide +kernel
theorem d_X5_codeTurned_37 : decode cm_X5_codeTurned 37 = .ok (.isub, 1) := by decide +kernel
theorem d_X5_codeTurned_38 : decode cm_X5_codeTurned 38 = .ok (.istore 6, 2) := by decide +kernel
theorem d_X5_codeTurned_40 : decode cm_X5_codeTurned 40 = .ok (.iload 6, 2) := by decide +kernel
theorem d_X5_codeTurned_42 : decode cm_X5_codeTurned 42 = .ok (.ifCond .lt 81, 3) := by decide +kernel
theorem d_X5_codeTurned_45 : decode cm_X5_codeTurned 45 = .ok (.iload_n 1, 1) := by decide +kernel
theorem d_X5_codeTurned_46 : decode cm_X5_codeTurned 46 = .ok (.iconst 1, 1) := by decide +kernel
theorem d_X5_codeTurned_47 : decode cm_X5_codeTurned 47 = .ok (.iand, 1) := by decide +kernel
theorem d_X5_codeTurned_48 : decode cm_X5_codeTurned 48 = .ok (.ifCond .eq 12, 3) := by decide +kernel
theorem d_X5_codeTurned_51 : decode cm_X5_codeTurned 51 = .ok (.iload_n 3, 1) := by decide +kernel
theorem d_X5_codeTurned_52 : decode cm_X5_codeTurned 52 = .ok (.iconst 1, 1) := by decide +kernel
theorem d_X5_codeTurned_53 : decode cm_X5_codeTurned 53 = .ok (.isub, 1) := by decide +kernel
theorem d_X5_codeTurned_54 : decode cm_X5_codeTurned 54 = .ok (.iload 5, 2) := by decide +kernel
theorem d_X5_codeTurned_56 : decode cm_X5_codeTurned 56 = .ok (.isub, 1) := by decide +kernel
theorem d_X5_codeTurned_57 : decode cm_X5_codeTurned 57 = .ok (.goto 5, 3) := by decide +kernel
theorem d_X5_codeTurned_60 : decode cm_X5_codeTurned 60 = .ok (.iload 5, 2) := by decide +kernel
theorem d_X5_codeTurned_62 : decode cm_X5_codeTurned 62 = .ok (.istore 7, 2) := by decide +kernel
theorem d_X5_codeTurned_64 : decode cm_X5_codeTurned 64 = .ok (.iload_n 1, 1) := by decide +kernel
theorem d_X5_codeTurned_65 : decode cm_X5_codeTurned 65 = .ok (.iconst 2, 1) := by decide +kernel
theorem d_X5_codeTurned_66 : decode cm_X5_codeTurned 66 = .ok (.iand, 1) := by decide +kernel
theorem d_X5_codeTurned_67 : decode cm_X5_codeTurned 67 = .ok (.ifCond .eq 12, 3) := by decide +kernel
theorem d_X5_codeTurned_70 : decode cm_X5_codeTurned 70 = .ok (.iload_n 2, 1) := by decide +kernel
theorem d_X5_codeTurned_71 : decode cm_X5_codeTurned 71 = .ok (.iconst 1, 1) := by decide +kernel
theorem d_X5_codeTurned_72 : decode cm_X5_codeTurned 72 = .ok (.isub, 1) := by decide +kernel
theorem d_X5_codeTurned_73 : decode cm_X5_codeTurned 73 = .ok (.iload 6, 2) := by decide +kernel
theorem d_X5_codeTurned_75 : decode cm_X5_codeTurned 75 = .ok (.isub, 1) := by decide +kernel
theorem d_X5_codeTurned_76 : decode cm_X5_codeTurned 76 = .ok (.goto 5, 3) := by decide +kernel
theorem d_X5_codeTurned_79 : decode cm_X5_codeTurned 79 = .ok (.iload 6, 2) := by decide +kernel
theorem d_X5_codeTurned_81 : decode cm_X5_codeTurned 81 = .ok (.istore 8, 2) := by decide +kernel
theorem d_X5_codeTurned_83 : decode cm_X5_codeTurned 83 = .ok (.iconst 3, 1) := by decide +kernel
theorem d_X5_codeTurned_84 : decode cm_X5_codeTurned 84 = .ok (.iload 4, 2) := by decide +kernel
theorem d_X5_codeTurned_86 : decode cm_X5_codeTurned 86 = .ok (.imul, 1) := by decide +kernel
theorem d_X5_codeTurned_87 : decode cm_X5_codeTurned 87 = .ok (.aload_n 0, 1) := by decide +kernel
theorem d_X5_codeTurned_88 : decode cm_X5_codeTurned 88 = .ok (.iload_n 1, 1) := by decide +kernel
theorem d_X5_codeTurned_89 : decode cm_X5_codeTurned 89 = .ok (.iconst 4, 1) := by decide +kernel
theorem d_X5_codeTurned_90 : decode cm_X5_codeTurned 90 = .ok (.iand, 1) := by decide +kernel
theorem d_X5_codeTurned_91 : decode cm_X5_codeTurned 91 = .ok (.ifCond .eq 13, 3) := by decide +kernel
theorem d_X5_codeTurned_94 : decode cm_X5_codeTurned 94 = .ok (.iload 8, 2) := by decide +kernel
theorem d_X5_codeTurned_96 : decode cm_X5_codeTurned 96 = .ok (.iload_n 2, 1) := by decide +kernel
theorem d_X5_codeTurned_97 : decode cm_X5_codeTurned 97 = .ok (.imul, 1) := by decide +kernel
theorem d_X5_codeTurned_98 : decode cm_X5_codeTurned 98 = .ok (.iload 7, 2) := by decide +kernel
theorem d_X5_codeTurned_100 : decode cm_X5_codeTurned 100 = .ok (.iadd, 1) := by decide +kernel
theorem d_X5_codeTurned_101 : decode cm_X5_codeTurned 101 = .ok (.goto 10, 3) := by decide +kernel
theorem d_X5_codeTurned_104 : decode cm_X5_codeTurned 104 = .ok (.iload 7, 2) := by decide +kernel
theorem d_X5_codeTurned_106 : decode cm_X5_codeTurned 106 = .ok (.iload_n 2, 1) := by decide +kernel
theorem d_X5_codeTurned_107 : decode cm_X5_codeTurned 107 = .ok (.imul, 1) := by decide +kernel
theorem d_X5_codeTurned_108 : decode cm_X5_codeTurned 108 = .ok (.iload 8, 2) := by decide +kernel
theorem d_X5_codeTurned_110 : decode cm_X5_codeTurned 110 = .ok (.iadd, 1) := by decide +kernel
theorem d_X5_codeTurned_111 : decode cm_X5_codeTurned 111 = .ok (.invokevirtual 153, 3) := by decide +kernel
theorem d_X5_codeTurned_114 : decode cm_X5_codeTurned 114 = .ok (.iadd, 1) := by decide +kernel
theorem d_X5_codeTurned_115 : decode cm_X5_codeTurned 115 = .ok (.istore 4, 2) := by decide +kernel
theorem d_X5_codeTurned_117 : decode cm_X5_codeTurned 117 = .ok (.iinc 6 (-1), 3) := by decide +kernel
theorem d_X5_codeTurned_120 : decode cm_X5_codeTurned 120 = .ok (.goto (-80), 3) := by decide +kernel
theorem d_X5_codeTurned_123 : decode cm_X5_codeTurned 123 = .ok (.iinc 5 (-1), 3) := by decide +kernel
theorem d_X5_codeTurned_126 : decode cm_X5_codeTurned 126 = .ok (.goto (-96), 3) := by decide +kernel
theorem d_X5_codeTurned_129 : decode cm_X5_codeTurned 129 = .ok (.iload 4, 2) := by decide +kernel
theorem d_X5_codeTurned_131 : decode cm_X5_codeTurned 131 = .ok (.ireturn, 1) := by decide +kernel
def D_X5_codeTurned_111 (K30 : Int32 → Int32 → Int32 → Int32 → Int32 → GSt → Prop) (K40 : Int32 → Int32 → Int32 → Int32 → Int32 → Int32 → GSt → Prop) (Q : Int32 → GSt → Prop) (o : Nat) (x1 : Int32) (x2 : Int32) (x3 : Int32) (x5 : Int32) (x6 : Int32) (s0 : Int32) (sr1 : Nat) (s2 : Int32) (σ : GSt) : Prop :=
  D_X5_pieceOn sr1 s2 σ (fun r_1 σ_2 => ∀ x4_3 : Int32, x4_3 = (s0 + r_1) → (∀ x6_4 : Int32, x6_4 = x6 + (-1) → (K40 x1 x2 x3 x4_3 x5 x6_4 σ_2)))
def D_X5_codeTurned_81 (K30 : Int32 → Int32 → Int32 → Int32 → Int32 → GSt → Prop) (K40 : Int32 → Int32 → Int32 → Int32 → Int32 → Int32 → GSt → Prop) (Q : Int32 → GSt → Prop) (o : Nat) (x1 : Int32) (x2 : Int32) (x3 : Int32) (x4 : Int32) (x5 : Int32) (x6 : Int32) (x7 : Int32) (s0 : Int32) (σ : GSt) : Prop :=
  ((x1 &&& 4) = 0 → D_X5_codeTurned_111 K30 K40 Q o x1 x2 x3 x5 x6 (3 * x4) o ((x7 * x2) + s0) σ) ∧
  (¬ (x1 &&& 4) = 0 → D_X5_codeTurned_111 K30 K40 Q o x1 x2 x3 x5 x6 (3 * x4) o ((s0 * x2) + x7) σ)
def D_X5_codeTurned_62 (K30 : Int32 → Int32 → Int32 → Int32 → Int32 → GSt → Prop) (K40 : Int32 → Int32 → Int32 → Int32 → Int32 → Int32 → GSt → Prop) (Q : Int32 → GSt → Prop) (o : Nat) (x1 : Int32) (x2 : Int32) (x3 : Int32) (x4 : Int32) (x5 : Int32) (x6 : Int32) (s0 : Int32) (σ : GSt) : Prop :=
  ((x1 &&& 2) = 0 → D_X5_codeTurned_81 K30 K40 Q o x1 x2 x3 x4 x5 x6 s0 x6 σ) ∧
  (¬ (x1 &&& 2) = 0 → D_X5_codeTurned_81 K30 K40 Q o x1 x2 x3 x4 x5 x6 s0 ((x2 - 1) - x6) σ)
def D_X5_codeTurned_40 (K30 : Int32 → Int32 → Int32 → Int32 → Int32 → GSt → Prop) (K40 : Int32 → Int32 → Int32 → Int32 → Int32 → Int32 → GSt → Prop) (Q : Int32 → GSt → Prop) (o : Nat) (x1 : Int32) (x2 : Int32) (x3 : Int32) (x4 : Int32) (x5 : Int32) (x6 : Int32) (σ : GSt) : Prop :=
  (x6 < 0 → ∀ x5_1 : Int32, x5_1 = x5 + (-1) → (K30 x1 x2 x3 x4 x5_1 σ)) ∧
  (¬ x6 < 0 → ((x1 &&& 1) = 0 → D_X5_codeTurned_62 K30 K40 Q o x1 x2 x3 x4 x5 x6 x5 σ) ∧
  (¬ (x1 &&& 1) = 0 → D_X5_codeTurned_62 K30 K40 Q o x1 x2 x3 x4 x5 x6 ((x3 - 1) - x5) σ))
def L_X5_codeTurned_40 (K30 : Int32 → Int32 → Int32 → Int32 → Int32 → GSt → Prop) (Q : Int32 → GSt → Prop) (o : Nat) : Nat → Int32 → Int32 → Int32 → Int32 → Int32 → Int32 → GSt → Prop
  | 0 => fun _ _ _ _ _ _ _ => False
  | n + 1 => fun x1 x2 x3 x4 x5 x6 σ => D_X5_codeTurned_40 K30 (L_X5_codeTurned_40 K30 Q o n) Q o x1 x2 x3 x4 x5 x6 σ
def D_X5_codeTurned_30 (K30 : Int32 → Int32 → Int32 → Int32 → Int32 → GSt → Prop) (Q : Int32 → GSt → Prop) (o : Nat) (x1 : Int32) (x2 : Int32) (x3 : Int32) (x4 : Int32) (x5 : Int32) (σ : GSt) : Prop :=
  (x5 < 0 → Q x4 σ) ∧
  (¬ x5 < 0 → ∀ x6_1 : Int32, x6_1 = (x2 - 1) → (∃ n : Nat, L_X5_codeTurned_40 K30 Q o n x1 x2 x3 x4 x5 x6_1 σ))
def L_X5_codeTurned_30 (Q : Int32 → GSt → Prop) (o : Nat) : Nat → Int32 → Int32 → Int32 → Int32 → Int32 → GSt → Prop
  | 0 => fun _ _ _ _ _ _ => False
  | n + 1 => fun x1 x2 x3 x4 x5 σ => D_X5_codeTurned_30 (L_X5_codeTurned_30 Q o n) Q o x1 x2 x3 x4 x5 σ
def D_X5_codeTurned_0 (Q : Int32 → GSt → Prop) (o : Nat) (x1 : Int32) (σ : GSt) : Prop :=
  (¬ σ o 0 < 0 ∧ kd (σ o 0).toNatClampNeg = 1) ∧ (∀ x2_1 : Int32, x2_1 = (σ (((σ o 0).toNatClampNeg) + 3) 0) → ((¬ σ o 0 < 0 ∧ kd (σ o 0).toNatClampNeg = 1) ∧ (∀ x3_2 : Int32, x3_2 = (σ (((σ o 0).toNatClampNeg) + 3) 1) → (∀ x5_3 : Int32, x5_3 = (x3_2 - 1) → (∃ n : Nat, L_X5_codeTurned_30 Q o n x1 x2_1 x3_2 0 x5_3 σ)))))
def D_X5_codeTurned (o : Nat) (x1 : Int32) (σ : GSt) (Q : Int32 → GSt → Prop) : Prop := D_X5_codeTurned_0 Q o x1 σ
set_option maxRecDepth 20000 in
set_option maxHeartbeats 4000000 in
theorem s_X5_codeTurned_111 {p : Program} {l : Launch} {e : Env} {s : State} {m : MethodId} {args : Array Value} {below : List Frame} {meth : Method} {c : Code} {G : GC} (X : CallFix p m c cm_X5_codeTurned 9 s args lw_us "GameLoom$Position") (hr : meth.sig.returnType = some .int) (hlk : meth.locks = false) (K30 : Int32 → Int32 → Int32 → Int32 → Int32 → GSt → Prop) (K40 : Int32 → Int32 → Int32 → Int32 → Int32 → Int32 → GSt → Prop) (Q : Int32 → GSt → Prop) (o : Nat) (ho : kd o = 5) (hK30 : ∀ (x1 : Int32) (x2 : Int32) (x3 : Int32) (x4 : Int32) (x5 : Int32) (σ : GSt) (H : Heap) (locs : List Loc) (ls : Array Slot), Wo G s H locs σ → lv_has ls 9 [(0, .ref (G.2.1 o)), (1, .int x1), (2, .int x2), (3, .int x3), (4, .int x4), (5, .int x5)] → K30 x1 x2 x3 x4 x5 σ → W p l e rm_X5_codeTurned s m args below meth c H locs 0 0 (QMI G Q below args s) (F0 m 30 ls [])) (hK40 : ∀ (x1 : Int32) (x2 : Int32) (x3 : Int32) (x4 : Int32) (x5 : Int32) (x6 : Int32) (σ : GSt) (H : Heap) (locs : List Loc) (ls : Array Slot), Wo G s H locs σ → lv_has ls 9 [(0, .ref (G.2.1 o)), (1, .int x1), (2, .int x2), (3, .int x3), (4, .int x4), (5, .int x5), (6, .int x6)] → K40 x1 x2 x3 x4 x5 x6 σ → W p l e rm_X5_codeTurned s m args below meth c H locs 0 0 (QMI G Q below args s) (F0 m 40 ls [])) (x1 : Int32) (x2 : Int32) (x3 : Int32) (x5 : Int32) (x6 : Int32) (s0 : Int32) (sr1 : Nat) (hs1 : kd sr1 = 5) (s2 : Int32) (σ : GSt) {H : Heap} {locs : List Loc} {ls : Array Slot} (hw : Wo G s H locs σ) (hl : lv_has ls 9 [(0, .ref (G.2.1 o)), (1, .int x1), (2, .int x2), (3, .int x3), (5, .int x5), (6, .int x6)]) (hD : D_X5_codeTurned_111 K30 K40 Q o x1 x2 x3 x5 x6 s0 sr1 s2 σ) : W p l e rm_X5_codeTurned s m args below meth c H locs 0 0 (QMI G Q below args s) (F0 m 111 ls [.int s2, .ref (G.2.1 sr1), .int s0]) := by
  unfold D_X5_codeTurned_111 at hD
  refine gcV_i (rest := [.int s0]) (As := [.int s2]) (o := sr1) X hw (c_X5_pieceOn l G sr1 s2 σ _ hs1 hD) (kd_lt hs1 (by decide)) (ce_5 G _ hs1) rfl tb_652 tb_653 tb_654 tb_9 tb_655 hd_X5_pieceOn ⟨rfl, rfl⟩ ⟨Nat.le_of_ble_eq_true rfl, Nat.le_of_ble_eq_true rfl⟩ rfl hl.1 rfl (Nat.le_of_ble_eq_true rfl) d_X5_codeTurned_111 (fun r_1 σ_2 H locs hD hw => ?_)
  refine lv_iadd X.1 X.2.1 d_X5_codeTurned_114 ?_
  refine lv_topi (fun x4_3 e_x4_3 => ?_)
  have hD := hD x4_3 e_x4_3
  refine lv_istore (lv' := [(4, .int x4_3), (0, .ref (G.2.1 o)), (1, .int x1), (2, .int x2), (3, .int x3), (5, .int x5), (6, .int x6)]) X.1 X.2.1 d_X5_codeTurned_115 hl (by decide) rfl (fun ls hl => ?_)
  obtain ⟨x6_4, e_x6_4⟩ : ∃ y : Int32, y = x6 + (-1) := ⟨_, rfl⟩
  have hD := hD x6_4 e_x6_4
  refine lv_iinc (v := x6_4) (lv' := [(6, .int x6_4), (4, .int x4_3), (0, .ref (G.2.1 o)), (1, .int x1), (2, .int x2), (3, .int x3), (5, .int x5)]) X.1 X.2.1 d_X5_codeTurned_117 hl (k := 6) rfl (by rw [e_x6_4]; rfl) (by decide) rfl (fun ls hl => ?_)
  refine lv_goto (tgt := 40) X.1 X.2.1 d_X5_codeTurned_120 (by decide) ?_
  exact hK40 x1 x2 x3 x4_3 x5 x6_4 σ_2 _ _ _  hw (lv_sub hl [2, 3, 4, 5, 1, 6, 0] rfl) hD
set_option maxRecDepth 20000 in
set_option maxHeartbeats 4000000 in
theorem s_X5_codeTurned_81 {p : Program} {l : Launch} {e : Env} {s : State} {m : MethodId} {args : Array Value} {below : List Frame} {meth : Method} {c : Code} {G : GC} (X : CallFix p m c cm_X5_codeTurned 9 s args lw_us "GameLoom$Position") (hr : meth.sig.returnType = some .int) (hlk : meth.locks = false) (K30 : Int32 → Int32 → Int32 → Int32 → Int32 → GSt → Prop) (K40 : Int32 → Int32 → Int32 → Int32 → Int32 → Int32 → GSt → Prop) (Q : Int32 → GSt → Prop) (o : Nat) (ho : kd o = 5) (hK30 : ∀ (x1 : Int32) (x2 : Int32) (x3 : Int32) (x4 : Int32) (x5 : Int32) (σ : GSt) (H : Heap) (locs : List Loc) (ls : Array Slot), Wo G s H locs σ → lv_has ls 9 [(0, .ref (G.2.1 o)), (1, .int x1), (2, .int x2), (3, .int x3), (4, .int x4), (5, .int x5)] → K30 x1 x2 x3 x4 x5 σ → W p l e rm_X5_codeTurned s m args below meth c H locs 0 0 (QMI G Q below args s) (F0 m 30 ls [])) (hK40 : ∀ (x1 : Int32) (x2 : Int32) (x3 : Int32) (x4 : Int32) (x5 : Int32) (x6 : Int32) (σ : GSt) (H : Heap) (locs : List Loc) (ls : Array Slot), Wo G s H locs σ → lv_has ls 9 [(0, .ref (G.2.1 o)), (1, .int x1), (2, .int x2), (3, .int x3), (4, .int x4), (5, .int x5), (6, .int x6)] → K40 x1 x2 x3 x4 x5 x6 σ → W p l e rm_X5_codeTurned s m args below meth c H locs 0 0 (QMI G Q below args s) (F0 m 40 ls [])) (x1 : Int32) (x2 : Int32) (x3 : Int32) (x4 : Int32) (x5 : Int32) (x6 : Int32) (x7 : Int32) (s0 : Int32) (σ : GSt) {H : Heap} {locs : List Loc} {ls : Array Slot} (hw : Wo G s H locs σ) (hl : lv_has ls 9 [(0, .ref (G.2.1 o)), (1, .int x1), (2, .int x2), (3, .int x3), (4, .int x4), (5, .int x5), (6, .int x6), (7, .int x7)]) (hD : D_X5_codeTurned_81 K30 K40 Q o x1 x2 x3 x4 x5 x6 x7 s0 σ) : W p l e rm_X5_codeTurned s m args below meth c H locs 0 0 (QMI G Q below args s) (F0 m 81 ls [.int s0]) := by
  unfold D_X5_codeTurned_81 at hD
  refine lv_istore (lv' := [(8, .int s0), (0, .ref (G.2.1 o)), (1, .int x1), (2, .int x2), (3, .int x3), (4, .int x4), (5, .int x5), (6, .int x6), (7, .int x7)]) X.1 X.2.1 d_X5_codeTurned_81 hl (by decide) rfl (fun ls hl => ?_)
  refine lv_iconst (v := 3) X.1 X.2.1 d_X5_codeTurned_83 (by decide) ?_
  refine lv_iload X.1 X.2.1 d_X5_codeTurned_84 (lv_at hl 5 rfl) ?_
  refine lv_imul X.1 X.2.1 d_X5_codeTurned_86 ?_
  refine lv_aload_n X.1 X.2.1 d_X5_codeTurned_87 rfl (lv_at hl 1 rfl) ?_
  refine lv_iload_n X.1 X.2.1 d_X5_codeTurned_88 rfl (lv_at hl 2 rfl) ?_
  refine lv_iconst (v := 4) X.1 X.2.1 d_X5_codeTurned_89 (by decide) ?_
  refine lv_iand X.1 X.2.1 d_X5_codeTurned_90 ?_
  refine lv_if_eq (tgt := 104) X.1 X.2.1 d_X5_codeTurned_91 (by decide) (fun q_91 => ?_) (fun q_91 => ?_)
  · have hD := hD.1 q_91
    refine lv_iload X.1 X.2.1 d_X5_codeTurned_104 (lv_at hl 8 rfl) ?_
    refine lv_iload_n X.1 X.2.1 d_X5_codeTurned_106 rfl (lv_at hl 3 rfl) ?_
    refine lv_imul X.1 X.2.1 d_X5_codeTurned_107 ?_
    refine lv_iload X.1 X.2.1 d_X5_codeTurned_108 (lv_at hl 0 rfl) ?_
    refine lv_iadd X.1 X.2.1 d_X5_codeTurned_110 ?_
    exact s_X5_codeTurned_111 X hr hlk K30 K40 Q o ho hK30 hK40 x1 x2 x3 x5 x6 (3 * x4) o ho ((x7 * x2) + s0) σ hw (lv_sub hl [1, 2, 3, 4, 6, 7] rfl) hD
  · have hD := hD.2 q_91
    refine lv_iload X.1 X.2.1 d_X5_codeTurned_94 (lv_at hl 0 rfl) ?_
    refine lv_iload_n X.1 X.2.1 d_X5_codeTurned_96 rfl (lv_at hl 3 rfl) ?_
    refine lv_imul X.1 X.2.1 d_X5_codeTurned_97 ?_
    refine lv_iload X.1 X.2.1 d_X5_codeTurned_98 (lv_at hl 8 rfl) ?_
    refine lv_iadd X.1 X.2.1 d_X5_codeTurned_100 ?_
    refine lv_goto (tgt := 111) X.1 X.2.1 d_X5_codeTurned_101 (by decide) ?_
    exact s_X5_codeTurned_111 X hr hlk K30 K40 Q o ho hK30 hK40 x1 x2 x3 x5 x6 (3 * x4) o ho ((s0 * x2) + x7) σ hw (lv_sub hl [1, 2, 3, 4, 6, 7] rfl) hD
set_option maxRecDepth 20000 in
set_option maxHeartbeats 4000000 in
theorem s_X5_codeTurned_62 {p : Program} {l : Launch} {e : Env} {s : State} {m : MethodId} {args : Array Value} {below : List Frame} {meth : Method} {c : Code} {G : GC} (X : CallFix p m c cm_X5_codeTurned 9 s args lw_us "GameLoom$Position") (hr : meth.sig.returnType = some .int) (hlk : meth.locks = false) (K30 : Int32 → Int32 → Int32 → Int32 → Int32 → GSt → Prop) (K40 : Int32 → Int32 → Int32 → Int32 → Int32 → Int32 → GSt → Prop) (Q : Int32 → GSt → Prop) (o : Nat) (ho : kd o = 5) (hK30 : ∀ (x1 : Int32) (x2 : Int32) (x3 : Int32) (x4 : Int32) (x5 : Int32) (σ : GSt) (H : Heap) (locs : List Loc) (ls : Array Slot), Wo G s H locs σ → lv_has ls 9 [(0, .ref (G.2.1 o)), (1, .int x1), (2, .int x2), (3, .int x3), (4, .int x4), (5, .int x5)] → K30 x1 x2 x3 x4 x5 σ → W p l e rm_X5_codeTurned s m args below meth c H locs 0 0 (QMI G Q below args s) (F0 m 30 ls [])) (hK40 : ∀ (x1 : Int32) (x2 : Int32) (x3 : Int32) (x4 : Int32) (x5 : Int32) (x6 : Int32) (σ : GSt) (H : Heap) (locs : List Loc) (ls : Array Slot), Wo G s H locs σ → lv_has ls 9 [(0, .ref (G.2.1 o)), (1, .int x1), (2, .int x2), (3, .int x3), (4, .int x4), (5, .int x5), (6, .int x6)] → K40 x1 x2 x3 x4 x5 x6 σ → W p l e rm_X5_codeTurned s m args below meth c H locs 0 0 (QMI G Q below args s) (F0 m 40 ls [])) (x1 : Int32) (x2 : Int32) (x3 : Int32) (x4 : Int32) (x5 : Int32) (x6 : Int32) (s0 : Int32) (σ : GSt) {H : Heap} {locs : List Loc} {ls : Array Slot} (hw : Wo G s H locs σ) (hl : lv_has ls 9 [(0, .ref (G.2.1 o)), (1, .int x1), (2, .int x2), (3, .int x3), (4, .int x4), (5, .int x5), (6, .int x6)]) (hD : D_X5_codeTurned_62 K30 K40 Q o x1 x2 x3 x4 x5 x6 s0 σ) : W p l e rm_X5_codeTurned s m args below meth c H locs 0 0 (QMI G Q below args s) (F0 m 62 ls [.int s0]) := by
  unfold D_X5_codeTurned_62 at hD
  refine lv_istore (lv' := [(7, .int s0), (0, .ref (G.2.1 o)), (1, .int x1), (2, .int x2), (3, .int x3), (4, .int x4), (5, .int x5), (6, .int x6)]) X.1 X.2.1 d_X5_codeTurned_62 hl (by decide) rfl (fun ls hl => ?_)
  refine lv_iload_n X.1 X.2.1 d_X5_codeTurned_64 rfl (lv_at hl 2 rfl) ?_
  refine lv_iconst (v := 2) X.1 X.2.1 d_X5_codeTurned_65 (by decide) ?_
  refine lv_iand X.1 X.2.1 d_X5_codeTurned_66 ?_
  refine lv_if_eq (tgt := 79) X.1 X.2.1 d_X5_codeTurned_67 (by decide) (fun q_67 => ?_) (fun q_67 => ?_)
  · have hD := hD.1 q_67
    refine lv_iload X.1 X.2.1 d_X5_codeTurned_79 (lv_at hl 7 rfl) ?_
    exact s_X5_codeTurned_81 X hr hlk K30 K40 Q o ho hK30 hK40 x1 x2 x3 x4 x5 x6 s0 x6 σ hw (lv_sub hl [1, 2, 3, 4, 5, 6, 7, 0] rfl) hD
  · have hD := hD.2 q_67
    refine lv_iload_n X.1 X.2.1 d_X5_codeTurned_70 rfl (lv_at hl 3 rfl) ?_
    refine lv_iconst (v := 1) X.1 X.2.1 d_X5_codeTurned_71 (by decide) ?_
    refine lv_isub X.1 X.2.1 d_X5_codeTurned_72 ?_
    refine lv_iload X.1 X.2.1 d_X5_codeTurned_73 (lv_at hl 7 rfl) ?_
    refine lv_isub X.1 X.2.1 d_X5_codeTurned_75 ?_
    refine lv_goto (tgt := 81) X.1 X.2.1 d_X5_codeTurned_76 (by decide) ?_
    exact s_X5_codeTurned_81 X hr hlk K30 K40 Q o ho hK30 hK40 x1 x2 x3 x4 x5 x6 s0 ((x2 - 1) - x6) σ hw (lv_sub hl [1, 2, 3, 4, 5, 6, 7, 0] rfl) hD
set_option maxRecDepth 20000 in
set_option maxHeartbeats 4000000 in
theorem s_X5_codeTurned_40 {p : Program} {l : Launch} {e : Env} {s : State} {m : MethodId} {args : Array Value} {below : List Frame} {meth : Method} {c : Code} {G : GC} (X : CallFix p m c cm_X5_codeTurned 9 s args lw_us "GameLoom$Position") (hr : meth.sig.returnType = some .int) (hlk : meth.locks = false) (K30 : Int32 → Int32 → Int32 → Int32 → Int32 → GSt → Prop) (K40 : Int32 → Int32 → Int32 → Int32 → Int32 → Int32 → GSt → Prop) (Q : Int32 → GSt → Prop) (o : Nat) (ho : kd o = 5) (hK30 : ∀ (x1 : Int32) (x2 : Int32) (x3 : Int32) (x4 : Int32) (x5 : Int32) (σ : GSt) (H : Heap) (locs : List Loc) (ls : Array Slot), Wo G s H locs σ → lv_has ls 9 [(0, .ref (G.2.1 o)), (1, .int x1), (2, .int x2), (3, .int x3), (4, .int x4), (5, .int x5)] → K30 x1 x2 x3 x4 x5 σ → W p l e rm_X5_codeTurned s m args below meth c H locs 0 0 (QMI G Q below args s) (F0 m 30 ls [])) (hK40 : ∀ (x1 : Int32) (x2 : Int32) (x3 : Int32) (x4 : Int32) (x5 : Int32) (x6 : Int32) (σ : GSt) (H : Heap) (locs : List Loc) (ls : Array Slot), Wo G s H locs σ → lv_has ls 9 [(0, .ref (G.2.1 o)), (1, .int x1), (2, .int x2), (3, .int x3), (4, .int x4), (5, .int x5), (6, .int x6)] → K40 x1 x2 x3 x4 x5 x6 σ → W p l e rm_X5_codeTurned s m args below meth c H locs 0 0 (QMI G Q below args s) (F0 m 40 ls [])) (x1 : Int32) (x2 : Int32) (x3 : Int32) (x4 : Int32) (x5 : Int32) (x6 : Int32) (σ : GSt) {H : Heap} {locs : List Loc} {ls : Array Slot} (hw : Wo G s H locs σ) (hl : lv_has ls 9 [(0, .ref (G.2.1 o)), (1, .int x1), (2, .int x2), (3, .int x3), (4, .int x4), (5, .int x5), (6, .int x6)]) (hD : D_X5_codeTurned_40 K30 K40 Q o x1 x2 x3 x4 x5 x6 σ) : W p l e rm_X5_codeTurned s m args below meth c H locs 0 0 (QMI G Q below args s) (F0 m 40 ls []) := by
  unfold D_X5_codeTurned_40 at hD
  refine lv_iload X.1 X.2.1 d_X5_codeTurned_40 (lv_at hl 6 rfl) ?_
  refine lv_if_lt (tgt := 123) X.1 X.2.1 d_X5_codeTurned_42 (by decide) (fun q_42 => ?_) (fun q_42 => ?_)
  · have hD := hD.1 q_42
    obtain ⟨x5_1, e_x5_1⟩ : ∃ y : Int32, y = x5 + (-1) := ⟨_, rfl⟩
    have hD := hD x5_1 e_x5_1
    refine lv_iinc (v := x5_1) (lv' := [(5, .int x5_1), (0, .ref (G.2.1 o)), (1, .int x1), (2, .int x2), (3, .int x3), (4, .int x4), (6, .int x6)]) X.1 X.2.1 d_X5_codeTurned_123 hl (k := 5) rfl (by rw [e_x5_1]; rfl) (by decide) rfl (fun ls hl => ?_)
    refine lv_goto (tgt := 30) X.1 X.2.1 d_X5_codeTurned_126 (by decide) ?_
    exact hK30 x1 x2 x3 x4 x5_1 σ _ _ _  hw (lv_sub hl [1, 2, 3, 4, 5, 0] rfl) hD
  · have hD := hD.2 q_42
    refine lv_iload_n X.1 X.2.1 d_X5_codeTurned_45 rfl (lv_at hl 1 rfl) ?_
    refine lv_iconst (v := 1) X.1 X.2.1 d_X5_codeTurned_46 (by decide) ?_
    refine lv_iand X.1 X.2.1 d_X5_codeTurned_47 ?_
    refine lv_if_eq (tgt := 60) X.1 X.2.1 d_X5_codeTurned_48 (by decide) (fun q_48 => ?_) (fun q_48 => ?_)
    · have hD := hD.1 q_48
      refine lv_iload X.1 X.2.1 d_X5_codeTurned_60 (lv_at hl 5 rfl) ?_
      exact s_X5_codeTurned_62 X hr hlk K30 K40 Q o ho hK30 hK40 x1 x2 x3 x4 x5 x6 x5 σ hw (lv_sub hl [0, 1, 2, 3, 4, 5, 6] rfl) hD
    · have hD := hD.2 q_48
      refine lv_iload_n X.1 X.2.1 d_X5_codeTurned_51 rfl (lv_at hl 3 rfl) ?_
      refine lv_iconst (v := 1) X.1 X.2.1 d_X5_codeTurned_52 (by decide) ?_
      refine lv_isub X.1 X.2.1 d_X5_codeTurned_53 ?_
      refine lv_iload X.1 X.2.1 d_X5_codeTurned_54 (lv_at hl 5 rfl) ?_
      refine lv_isub X.1 X.2.1 d_X5_codeTurned_56 ?_
      refine lv_goto (tgt := 62) X.1 X.2.1 d_X5_codeTurned_57 (by decide) ?_
      exact s_X5_codeTurned_62 X hr hlk K30 K40 Q o ho hK30 hK40 x1 x2 x3 x4 x5 x6 ((x3 - 1) - x5) σ hw (lv_sub hl [0, 1, 2, 3, 4, 5, 6] rfl) hD
set_option maxRecDepth 20000 in
set_option maxHeartbeats 4000000 in
theorem sl_X5_codeTurned_40 {p : Program} {l : Launch} {e : Env} {s : State} {m : MethodId} {args : Array Value} {below : List Frame} {meth : Method} {c : Code} {G : GC} (X : CallFix p m c cm_X5_codeTurned 9 s args lw_us "GameLoom$Position") (hr : meth.sig.returnType = some .int) (hlk : meth.locks = false) (K30 : Int32 → Int32 → Int32 → Int32 → Int32 → GSt → Prop) (Q : Int32 → GSt → Prop) (o : Nat) (ho : kd o = 5) (hK30 : ∀ (x1 : Int32) (x2 : Int32) (x3 : Int32) (x4 : Int32) (x5 : Int32) (σ : GSt) (H : Heap) (locs : List Loc) (ls : Array Slot), Wo G s H locs σ → lv_has ls 9 [(0, .ref (G.2.1 o)), (1, .int x1), (2, .int x2), (3, .int x3), (4, .int x4), (5, .int x5)] → K30 x1 x2 x3 x4 x5 σ → W p l e rm_X5_codeTurned s m args below meth c H locs 0 0 (QMI G Q below args s) (F0 m 30 ls [])) : ∀ (nn : Nat), ∀ (x1 : Int32) (x2 : Int32) (x3 : Int32) (x4 : Int32) (x5 : Int32) (x6 : Int32) (σ : GSt) (H : Heap) (locs : List Loc) (ls : Array Slot), Wo G s H locs σ → lv_has ls 9 [(0, .ref (G.2.1 o)), (1, .int x1), (2, .int x2), (3, .int x3), (4, .int x4), (5, .int x5), (6, .int x6)] → L_X5_codeTurned_40 K30 Q o nn x1 x2 x3 x4 x5 x6 σ → W p l e rm_X5_codeTurned s m args below meth c H locs 0 0 (QMI G Q below args s) (F0 m 40 ls []) := by
  intro nn
  induction nn with
  | zero => intro x1 x2 x3 x4 x5 x6 σ H locs ls  hw hl hD; exact hD.elim
  | succ nn ih =>
    intro x1 x2 x3 x4 x5 x6 σ H locs ls  hw hl hD
    exact s_X5_codeTurned_40 X hr hlk K30 (L_X5_codeTurned_40 K30 Q o nn) Q o ho hK30 ih x1 x2 x3 x4 x5 x6 σ hw hl hD
set_option maxRecDepth 20000 in
set_option maxHeartbeats 4000000 in
theorem s_X5_codeTurned_30 {p : Program} {l : Launch} {e : Env} {s : State} {m : MethodId} {args : Array Value} {below : List Frame} {meth : Method} {c : Code} {G : GC} (X : CallFix p m c cm_X5_codeTurned 9 s args lw_us "GameLoom$Position") (hr : meth.sig.returnType = some .int) (hlk : meth.locks = false) (K30 : Int32 → Int32 → Int32 → Int32 → Int32 → GSt → Prop) (Q : Int32 → GSt → Prop) (o : Nat) (ho : kd o = 5) (hK30 : ∀ (x1 : Int32) (x2 : Int32) (x3 : Int32) (x4 : Int32) (x5 : Int32) (σ : GSt) (H : Heap) (locs : List Loc) (ls : Array Slot), Wo G s H locs σ → lv_has ls 9 [(0, .ref (G.2.1 o)), (1, .int x1), (2, .int x2), (3, .int x3), (4, .int x4), (5, .int x5)] → K30 x1 x2 x3 x4 x5 σ → W p l e rm_X5_codeTurned s m args below meth c H locs 0 0 (QMI G Q below args s) (F0 m 30 ls [])) (x1 : Int32) (x2 : Int32) (x3 : Int32) (x4 : Int32) (x5 : Int32) (σ : GSt) {H : Heap} {locs : List Loc} {ls : Array Slot} (hw : Wo G s H locs σ) (hl : lv_has ls 9 [(0, .ref (G.2.1 o)), (1, .int x1), (2, .int x2), (3, .int x3), (4, .int x4), (5, .int x5)]) (hD : D_X5_codeTurned_30 K30 Q o x1 x2 x3 x4 x5 σ) : W p l e rm_X5_codeTurned s m args below meth c H locs 0 0 (QMI G Q below args s) (F0 m 30 ls []) := by
  unfold D_X5_codeTurned_30 at hD
  refine lv_iload X.1 X.2.1 d_X5_codeTurned_30 (lv_at hl 5 rfl) ?_
  refine lv_if_lt (tgt := 129) X.1 X.2.1 d_X5_codeTurned_32 (by decide) (fun q_32 => ?_) (fun q_32 => ?_)
  · have hD := hD.1 q_32
    refine lv_iload X.1 X.2.1 d_X5_codeTurned_129 (lv_at hl 4 rfl) ?_
    exact g_iret X hr hlk hw hD d_X5_codeTurned_131
  · have hD := hD.2 q_32
    refine lv_iload_n X.1 X.2.1 d_X5_codeTurned_35 rfl (lv_at hl 2 rfl) ?_
    refine lv_iconst (v := 1) X.1 X.2.1 d_X5_codeTurned_36 (by decide) ?_
    refine lv_isub X.1 X.2.1 d_X5_codeTurned_37 ?_
    refine lv_topi (fun x6_1 e_x6_1 => ?_)
    have hD := hD x6_1 e_x6_1
    refine lv_istore (lv' := [(6, .int x6_1), (0, .ref (G.2.1 o)), (1, .int x1), (2, .int x2), (3, .int x3), (4, .int x4), (5, .int x5)]) X.1 X.2.1 d_X5_codeTurned_38 hl (by decide) rfl (fun ls hl => ?_)
    obtain ⟨n9, hD⟩ := hD
    exact sl_X5_codeTurned_40 X hr hlk K30 Q o ho hK30 n9 x1 x2 x3 x4 x5 x6_1 σ _ _ _  hw (lv_sub hl [1, 2, 3, 4, 5, 6, 0] rfl) hD
set_option maxRecDepth 20000 in
set_option maxHeartbeats 4000000 in
theorem sl_X5_codeTurned_30 {p : Program} {l : Launch} {e : Env} {s : State} {m : MethodId} {args : Array Value} {below : List Frame} {meth : Method} {c : Code} {G : GC} (X : CallFix p m c cm_X5_codeTurned 9 s args lw_us "GameLoom$Position") (hr : meth.sig.returnType = some .int) (hlk : meth.locks = false) (Q : Int32 → GSt → Prop) (o : Nat) (ho : kd o = 5) : ∀ (nn : Nat), ∀ (x1 : Int32) (x2 : Int32) (x3 : Int32) (x4 : Int32) (x5 : Int32) (σ : GSt) (H : Heap) (locs : List Loc) (ls : Array Slot), Wo G s H locs σ → lv_has ls 9 [(0, .ref (G.2.1 o)), (1, .int x1), (2, .int x2), (3, .int x3), (4, .int x4), (5, .int x5)] → L_X5_codeTurned_30 Q o nn x1 x2 x3 x4 x5 σ → W p l e rm_X5_codeTurned s m args below meth c H locs 0 0 (QMI G Q below args s) (F0 m 30 ls []) := by
  intro nn
  induction nn with
  | zero => intro x1 x2 x3 x4 x5 σ H locs ls  hw hl hD; exact hD.elim
  | succ nn ih =>
    intro x1 x2 x3 x4 x5 σ H locs ls  hw hl hD
    exact s_X5_codeTurned_30 X hr hlk (L_X5_codeTurned_30 Q o nn) Q o ho ih x1 x2 x3 x4 x5 σ hw hl hD
set_option maxRecDepth 20000 in
set_option maxHeartbeats 4000000 in
theorem s_X5_codeTurned_0 {p : Program} {l : Launch} {e : Env} {s : State} {m : MethodId} {args : Array Value} {below : List Frame} {meth : Method} {c : Code} {G : GC} (X : CallFix p m c cm_X5_codeTurned 9 s args lw_us "GameLoom$Position") (hr : meth.sig.returnType = some .int) (hlk : meth.locks = false) (Q : Int32 → GSt → Prop) (o : Nat) (ho : kd o = 5) (x1 : Int32) (σ : GSt) {H : Heap} {locs : List Loc} {ls : Array Slot} (hw : Wo G s H locs σ) (hl : lv_has ls 9 [(0, .ref (G.2.1 o)), (1, .int x1)]) (hD : D_X5_codeTurned_0 Q o x1 σ) : W p l e rm_X5_codeTurned s m args below meth c H locs 0 0 (QMI G Q below args s) (F0 m 0 ls []) := by
  unfold D_X5_codeTurned_0 at hD
  refine lv_aload_n X.1 X.2.1 d_X5_codeTurned_0 rfl (lv_at hl 0 rfl) ?_
  obtain ⟨q_1, hD⟩ := hD
  refine gf_5_0 X hw ho tb_237 q_1.1 d_X5_codeTurned_1 ?_
  refine gf_1_1 X hw q_1.2 tb_158 d_X5_codeTurned_4 ?_
  refine gf_0_0 X hw (ly_1_1 q_1.2) tb_75 d_X5_codeTurned_7 ?_
  refine lv_topi (fun x2_1 e_x2_1 => ?_)
  have hD := hD x2_1 e_x2_1
  refine lv_istore_n (lv' := [(2, .int x2_1), (0, .ref (G.2.1 o)), (1, .int x1)]) X.1 X.2.1 d_X5_codeTurned_10 rfl hl (by decide) rfl (fun ls hl => ?_)
  refine lv_aload_n X.1 X.2.1 d_X5_codeTurned_11 rfl (lv_at hl 1 rfl) ?_
  obtain ⟨q_12, hD⟩ := hD
  refine gf_5_0 X hw ho tb_237 q_12.1 d_X5_codeTurned_12 ?_
  refine gf_1_1 X hw q_12.2 tb_158 d_X5_codeTurned_15 ?_
  refine gf_0_1 X hw (ly_1_1 q_12.2) tb_78 d_X5_codeTurned_18 ?_
  refine lv_topi (fun x3_2 e_x3_2 => ?_)
  have hD := hD x3_2 e_x3_2
  refine lv_istore_n (lv' := [(3, .int x3_2), (2, .int x2_1), (0, .ref (G.2.1 o)), (1, .int x1)]) X.1 X.2.1 d_X5_codeTurned_21 rfl hl (by decide) rfl (fun ls hl => ?_)
  refine lv_iconst (v := 0) X.1 X.2.1 d_X5_codeTurned_22 (by decide) ?_
  refine lv_istore (lv' := [(4, .int 0), (3, .int x3_2), (2, .int x2_1), (0, .ref (G.2.1 o)), (1, .int x1)]) X.1 X.2.1 d_X5_codeTurned_23 hl (by decide) rfl (fun ls hl => ?_)
  refine lv_iload_n X.1 X.2.1 d_X5_codeTurned_25 rfl (lv_at hl 1 rfl) ?_
  refine lv_iconst (v := 1) X.1 X.2.1 d_X5_codeTurned_26 (by decide) ?_
  refine lv_isub X.1 X.2.1 d_X5_codeTurned_27 ?_
  refine lv_topi (fun x5_3 e_x5_3 => ?_)
  have hD := hD x5_3 e_x5_3
  refine lv_istore (lv' := [(5, .int x5_3), (4, .int 0), (3, .int x3_2), (2, .int x2_1), (0, .ref (G.2.1 o)), (1, .int x1)]) X.1 X.2.1 d_X5_codeTurned_28 hl (by decide) rfl (fun ls hl => ?_)
  obtain ⟨n9, hD⟩ := hD
  exact sl_X5_codeTurned_30 X hr hlk  Q o ho  n9 x1 x2_1 x3_2 0 x5_3 σ _ _ _  hw (lv_sub hl [4, 5, 3, 2, 1, 0] rfl) hD
theorem c_X5_codeTurned (l : Launch) (G : GC) (o : Nat) (x1 : Int32) (σ : GSt) (Q : Int32 → GSt → Prop) (ho : kd o = 5) (hD : D_X5_codeTurned o x1 σ Q) : MI l ym_X5_codeTurned cm_X5_codeTurned 9 .int rm_X5_codeTurned G σ [.ref (G.2.1 o), .int x1] Q := by
  refine met_i (by decide) (Nat.le_of_ble_eq_true rfl) ?_
  intro p e s m args below meth c X hr hlk hw ls hl
  exact s_X5_codeTurned_0 X hr hlk Q o ho x1 σ hw (lv_sub hl [0, 1] rfl) hD
theorem hd_X5_name : ym_X5_name.cls = "GameLoom$Position" ∧ ym_X5_name.cls ≠ "java/lang/invoke/MethodHandle" ∧ ym_X5_name.cls ≠ "java/lang/invoke/VarHandle" ∧ (parseMethodDescriptor ym_X5_name.desc).map (fun d => d.parameters.length) = some 0 := by decide +kernel
abbrev rm_X5_name : Room := { frames := 2, cells := 0, slots := 0, locals := 49 }
theorem d_X5_name_0 : decode cm_X5_name 0 = .ok (.aload_n 0, 1) := by decide +kernel
theorem d_X5_name_1 : decode cm_X5_name 1 = .ok (.iconst 0, 1) := by decide +kernel
theorem d_X5_name_2 : decode cm_X5_name 2 = .ok (.invokevirtual 139, 3) := by decide +kernel
theorem d_X5_name_5 : decode cm_X5_name 5 = .ok (.istore_n 1, 1) := by decide +kernel
theorem d_X5_name_6 : decode cm_X5_name 6 = .ok (.aload_n 0, 1) := by decide +kernel
theorem d_X5_name_7 : decode cm_X5_name 7 = .ok (.getfield 9, 3) := by decide +kernel
theorem d_X5_name_10 : decode cm_X5_name 10 = .ok (.getfield 83, 3) := by decide +kernel
theorem d_X5_name_13 : decode cm_X5_name 13 = .ok (.getfield 142, 3) := by decide +kernel
theorem d_X5_name_16 : decode cm_X5_name 16 = .ok (.aload_n 0, 1) := by decide +kernel
theorem d_X5_name_17 : decode cm_X5_name 17 = .ok (.getfield 9, 3) := by decide +kernel
theorem d_X5_name_20 : decode cm_X5_name 20 = .ok (.getfield 83, 3) := by decide +kernel
theorem d_X5_name_23 : decode cm_X5_name 23 = .ok (.getfield 145, 3) := by decide +kernel
theorem d_X5_name_26 : decode cm_X5_name 26 = .ok (.if_icmp .ne 8, 3) := by decide +kernel
theorem d_X5_name_29 : decode cm_X5_name 29 = .ok (.bipush 8, 2) := by decide +kernel
theorem d_X5_name_31 : decode cm_X5_name 31 = .ok (.goto 4, 3) := by decide +kernel
theorem d_X5_name_34 : decode cm_X5_name 34 = .ok (.iconst 4, 1) := by decide +kernel
theorem d_X5_name_35 : decode cm_X5_name 35 = .ok (.istore_n 2, 1) := by decide +kernel
theorem d_X5_name_36 : decode cm_X5_name 36 = .ok (.iconst 1, 1) := by decide +kernel
theorem d_X5_name_37 : decode cm_X5_name 37 = .ok (.istore_n 3, 1) := by decide +kernel
theorem d_X5_name_38 : decode cm_X5_name 38 = .ok (.iload_n 3, 1) := by decide +kernel
theorem d_X5_name_39 : decode cm_X5_name 39 = .ok (.iload_n 2, 1) := by decide +kernel
theorem d_X5_name_40 : decode cm_X5_name 40 = .ok (.if_icmp .ge 19, 3) := by decide +kernel
theorem d_X5_name_43 : decode cm_X5_name 43 = .ok (.iload_n 1, 1) := by decide +kernel
theorem d_X5_name_44 : decode cm_X5_name 44 = .ok (.aload_n 0, 1) := by decide +kernel
theorem d_X5_name_45 : decode cm_X5_name 45 = .ok (.iload_n 3, 1) := by decide +kernel
theorem d_X5_name_46 : decode cm_X5_name 46 = .ok (.invokevirtual 139, 3) := by decide +kernel
theorem d_X5_name_49 : decode cm_X5_name 49 = .ok (.invokestatic 148, 3) := by decide +kernel
theorem d_X5_name_52 : decode cm_X5_name 52 = .ok (.istore_n 1, 1) := by decide +kernel
theorem d_X5_name_53 : decode cm_X5_name 53 = .ok (.iinc 3 1, 3) := by decide +kernel
theorem d_X5_name_56 : decode cm_X5_name 56 = .ok (.goto (-18), 3) := by decide +kernel
theorem d_X5_name_59 : decode cm_X5_name 59 = .ok (.iload_n 1, 1) := by decide +kernel
theorem d_X5_name_60 : decode cm_X5_name 60 = .ok (.ireturn, 1) := by decide +kernel
def D_X5_name_38 (K38 : Int32 → Int32 → Int32 → GSt → Prop) (Q : Int32 → GSt → Prop) (o : Nat) (x1 : Int32) (x2 : Int32) (x3 : Int32) (σ : GSt) : Prop :=
  (x2 ≤ x3 → Q x1 σ) ∧
  (¬ x2 ≤ x3 → D_X5_codeTurned o x3 σ (fun r_1 σ_2 => ∀ x1_3 : Int32, x1_3 = (jmin x1 r_1) → (∀ x3_4 : Int32, x3_4 = x3 + 1 → (K38 x1_3 x2 x3_4 σ_2))))
def L_X5_name_38 (Q : Int32 → GSt → Prop) (o : Nat) : Nat → Int32 → Int32 → Int32 → GSt → Prop
  | 0 => fun _ _ _ _ => False
  | n + 1 => fun x1 x2 x3 σ => D_X5_name_38 (L_X5_name_38 Q o n) Q o x1 x2 x3 σ
def D_X5_name_35 (Q : Int32 → GSt → Prop) (o : Nat) (x1 : Int32) (s0 : Int32) (σ : GSt) : Prop :=
  ∃ n : Nat, L_X5_name_38 Q o n x1 s0 1 σ
def D_X5_name_0 (Q : Int32 → GSt → Prop) (o : Nat) (σ : GSt) : Prop :=
  D_X5_codeTurned o 0 σ (fun r_1 σ_2 => (¬ σ_2 o 0 < 0 ∧ kd (σ_2 o 0).toNatClampNeg = 1) ∧ ((¬ σ_2 o 0 < 0 ∧ kd (σ_2 o 0).toNatClampNeg = 1) ∧ ((¬ (σ_2 (((σ_2 o 0).toNatClampNeg) + 3) 0) = (σ_2 (((σ_2 o 0).toNatClampNeg) + 3) 1) → D_X5_name_35 Q o r_1 4 σ_2) ∧
  ((σ_2 (((σ_2 o 0).toNatClampNeg) + 3) 0) = (σ_2 (((σ_2 o 0).toNatClampNeg) + 3) 1) → D_X5_name_35 Q o r_1 8 σ_2))))
def D_X5_name (o : Nat) (σ : GSt) (Q : Int32 → GSt → Prop) : Prop := D_X5_name_0 Q o σ
set_option maxRecDepth 20000 in
set_option maxHeartbeats 4000000 in
theorem s_X5_name_38 {p : Program} {l : Launch} {e : Env} {s : State} {m : MethodId} {args : Array Value} {below : List Frame} {meth : Method} {c : Code} {G : GC} (X : CallFix p m c cm_X5_name 4 s args lw_us "GameLoom$Position") (hr : meth.sig.returnType = some .int) (hlk : meth.locks = false) (K38 : Int32 → Int32 → Int32 → GSt → Prop) (Q : Int32 → GSt → Prop) (o : Nat) (ho : kd o = 5) (hK38 : ∀ (x1 : Int32) (x2 : Int32) (x3 : Int32) (σ : GSt) (H : Heap) (locs : List Loc) (ls : Array Slot), Wo G s H locs σ → lv_has ls 4 [(0, .ref (G.2.1 o)), (1, .int x1), (2, .int x2), (3, .int x3)] → K38 x1 x2 x3 σ → W p l e rm_X5_name s m args below meth c H locs 0 0 (QMI G Q below args s) (F0 m 38 ls [])) (x1 : Int32) (x2 : Int32) (x3 : Int32) (σ : GSt) {H : Heap} {locs : List Loc} {ls : Array Slot} (hw : Wo G s H locs σ) (hl : lv_has ls 4 [(0, .ref (G.2.1 o)), (1, .int x1), (2, .int x2), (3, .int x3)]) (hD : D_X5_name_38 K38 Q o x1 x2 x3 σ) : W p l e rm_X5_name s m args below meth c H locs 0 0 (QMI G Q below args s) (F0 m 38 ls []) := by
  unfold D_X5_name_38 at hD
  refine lv_iload_n X.1 X.2.1 d_X5_name_38 rfl (lv_at hl 3 rfl) ?_
  refine lv_iload_n X.1 X.2.1 d_X5_name_39 rfl (lv_at hl 2 rfl) ?_
  refine lv_icmp_ge (tgt := 59) X.1 X.2.1 d_X5_name_40 (by decide) (fun q_40 => ?_) (fun q_40 => ?_)
  · have hD := hD.1 q_40
    refine lv_iload_n X.1 X.2.1 d_X5_name_59 rfl (lv_at hl 1 rfl) ?_
    exact g_iret X hr hlk hw hD d_X5_name_60
  · have hD := hD.2 q_40
    refine lv_iload_n X.1 X.2.1 d_X5_name_43 rfl (lv_at hl 1 rfl) ?_
    refine lv_aload_n X.1 X.2.1 d_X5_name_44 rfl (lv_at hl 0 rfl) ?_
    refine lv_iload_n X.1 X.2.1 d_X5_name_45 rfl (lv_at hl 3 rfl) ?_
    refine gcV_i (rest := [.int x1]) (As := [.int x3]) (o := o) X hw (c_X5_codeTurned l G o x3 σ _ ho hD) (kd_lt ho (by decide)) (ce_5 G _ ho) rfl tb_660 tb_649 tb_650 tb_9 tb_651 hd_X5_codeTurned ⟨rfl, rfl⟩ ⟨Nat.le_of_ble_eq_true rfl, Nat.le_of_ble_eq_true rfl⟩ rfl hl.1 rfl (Nat.le_of_ble_eq_true rfl) d_X5_name_46 (fun r_1 σ_2 H locs hD hw => ?_)
    refine g_mmin (rest := []) X hl.1 tb_661 (Nat.le_of_ble_eq_true rfl) (Nat.le_of_ble_eq_true rfl) d_X5_name_49 ?_
    refine lv_topi (fun x1_3 e_x1_3 => ?_)
    have hD := hD x1_3 e_x1_3
    refine lv_istore_n (lv' := [(1, .int x1_3), (0, .ref (G.2.1 o)), (2, .int x2), (3, .int x3)]) X.1 X.2.1 d_X5_name_52 rfl hl (by decide) rfl (fun ls hl => ?_)
    obtain ⟨x3_4, e_x3_4⟩ : ∃ y : Int32, y = x3 + 1 := ⟨_, rfl⟩
    have hD := hD x3_4 e_x3_4
    refine lv_iinc (v := x3_4) (lv' := [(3, .int x3_4), (1, .int x1_3), (0, .ref (G.2.1 o)), (2, .int x2)]) X.1 X.2.1 d_X5_name_53 hl (k := 3) rfl (by rw [e_x3_4]; rfl) (by decide) rfl (fun ls hl => ?_)
    refine lv_goto (tgt := 38) X.1 X.2.1 d_X5_name_56 (by decide) ?_
    exact hK38 x1_3 x2 x3_4 σ_2 _ _ _  hw (lv_sub hl [2, 1, 3, 0] rfl) hD
set_option maxRecDepth 20000 in
set_option maxHeartbeats 4000000 in
theorem sl_X5_name_38 {p : Program} {l : Launch} {e : Env} {s : State} {m : MethodId} {args : Array Value} {below : List Frame} {meth : Method} {c : Code} {G : GC} (X : CallFix p m c cm_X5_name 4 s args lw_us "GameLoom$Position") (hr : meth.sig.returnType = some .int) (hlk : meth.locks = false) (Q : Int32 → GSt → Prop) (o : Nat) (ho : kd o = 5) : ∀ (nn : Nat), ∀ (x1 : Int32) (x2 : Int32) (x3 : Int32) (σ : GSt) (H : Heap) (locs : List Loc) (ls : Array Slot), Wo G s H locs σ → lv_has ls 4 [(0, .ref (G.2.1 o)), (1, .int x1), (2, .int x2), (3, .int x3)] → L_X5_name_38 Q o nn x1 x2 x3 σ → W p l e rm_X5_name s m args below meth c H locs 0 0 (QMI G Q below args s) (F0 m 38 ls []) := by
  intro nn
  induction nn with
  | zero => intro x1 x2 x3 σ H locs ls  hw hl hD; exact hD.elim
  | succ nn ih =>
    intro x1 x2 x3 σ H locs ls  hw hl hD
    exact s_X5_name_38 X hr hlk (L_X5_name_38 Q o nn) Q o ho ih x1 x2 x3 σ hw hl hD
set_option maxRecDepth 20000 in
set_option maxHeartbeats 4000000 in
theorem s_X5_name_35 {p : Program} {l : Launch} {e : Env} {s : State} {m : MethodId} {args : Array Value} {below : List Frame} {meth : Method} {c : Code} {G : GC} (X : CallFix p m c cm_X5_name 4 s args lw_us "GameLoom$Position") (hr : meth.sig.returnType = some .int) (hlk : meth.locks = false) (Q : Int32 → GSt → Prop) (o : Nat) (ho : kd o = 5) (x1 : Int32) (s0 : Int32) (σ : GSt) {H : Heap} {locs : List Loc} {ls : Array Slot} (hw : Wo G s H locs σ) (hl : lv_has ls 4 [(0, .ref (G.2.1 o)), (1, .int x1)]) (hD : D_X5_name_35 Q o x1 s0 σ) : W p l e rm_X5_name s m args below meth c H locs 0 0 (QMI G Q below args s) (F0 m 35 ls [.int s0]) := by
  unfold D_X5_name_35 at hD
  refine lv_istore_n (lv' := [(2, .int s0), (0, .ref (G.2.1 o)), (1, .int x1)]) X.1 X.2.1 d_X5_name_35 rfl hl (by decide) rfl (fun ls hl => ?_)
  refine lv_iconst (v := 1) X.1 X.2.1 d_X5_name_36 (by decide) ?_
  refine lv_istore_n (lv' := [(3, .int 1), (2, .int s0), (0, .ref (G.2.1 o)), (1, .int x1)]) X.1 X.2.1 d_X5_name_37 rfl hl (by decide) rfl (fun ls hl => ?_)
  obtain ⟨n9, hD⟩ := hD
  exact sl_X5_name_38 X hr hlk  Q o ho  n9 x1 s0 1 σ _ _ _  hw (lv_sub hl [2, 3, 1, 0] rfl) hD
set_option maxRecDepth 20000 in
set_option maxHeartbeats 4000000 in
theorem s_X5_name_0 {p : Program} {l : Launch} {e : Env} {s : State} {m : MethodId} {args : Array Value} {below : List Frame} {meth : Method} {c : Code} {G : GC} (X : CallFix p m c cm_X5_name 4 s args lw_us "GameLoom$Position") (hr : meth.sig.returnType = some .int) (hlk : meth.locks = false) (Q : Int32 → GSt → Prop) (o : Nat) (ho : kd o = 5) (σ : GSt) {H : Heap} {locs : List Loc} {ls : Array Slot} (hw : Wo G s H locs σ) (hl : lv_has ls 4 [(0, .ref (G.2.1 o))]) (hD : D_X5_name_0 Q o σ) : W p l e rm_X5_name s m args below meth c H locs 0 0 (QMI G Q below args s) (F0 m 0 ls []) := by
  unfold D_X5_name_0 at hD
  refine lv_aload_n X.1 X.2.1 d_X5_name_0 rfl (lv_at hl 0 rfl) ?_
  refine lv_iconst (v := 0) X.1 X.2.1 d_X5_name_1 (by decide) ?_
  refine gcV_i (rest := []) (As := [.int 0]) (o := o) X hw (c_X5_codeTurned l G o 0 σ _ ho hD) (kd_lt ho (by decide)) (ce_5 G _ ho) rfl tb_660 tb_649 tb_650 tb_9 tb_651 hd_X5_codeTurned ⟨rfl, rfl⟩ ⟨Nat.le_of_ble_eq_true rfl, Nat.le_of_ble_eq_true rfl⟩ rfl hl.1 rfl (Nat.le_of_ble_eq_true rfl) d_X5_name_2 (fun r_1 σ_2 H locs hD hw => ?_)
  refine lv_istore_n (lv' := [(1, .int r_1), (0, .ref (G.2.1 o))]) X.1 X.2.1 d_X5_name_5 rfl hl (by decide) rfl (fun ls hl => ?_)
  refine lv_aload_n X.1 X.2.1 d_X5_name_6 rfl (lv_at hl 1 rfl) ?_
  obtain ⟨q_7, hD⟩ := hD
  refine gf_5_0 X hw ho tb_237 q_7.1 d_X5_name_7 ?_
  refine gf_1_1 X hw q_7.2 tb_158 d_X5_name_10 ?_
  refine gf_0_0 X hw (ly_1_1 q_7.2) tb_75 d_X5_name_13 ?_
  refine lv_aload_n X.1 X.2.1 d_X5_name_16 rfl (lv_at hl 1 rfl) ?_
  obtain ⟨q_17, hD⟩ := hD
  refine gf_5_0 X hw ho tb_237 q_17.1 d_X5_name_17 ?_
  refine gf_1_1 X hw q_17.2 tb_158 d_X5_name_20 ?_
  refine gf_0_1 X hw (ly_1_1 q_17.2) tb_78 d_X5_name_23 ?_
  refine lv_icmp_ne (tgt := 34) X.1 X.2.1 d_X5_name_26 (by decide) (fun q_26 => ?_) (fun q_26 => ?_)
  · have hD := hD.1 q_26
    refine lv_iconst (v := 4) X.1 X.2.1 d_X5_name_34 (by decide) ?_
    exact s_X5_name_35 X hr hlk  Q o ho  r_1 4 σ_2 hw (lv_sub hl [1, 0] rfl) hD
  · have hD := hD.2 q_26
    refine lv_bipush (v := 8) X.1 X.2.1 d_X5_name_29 (by decide) ?_
    refine lv_goto (tgt := 35) X.1 X.2.1 d_X5_name_31 (by decide) ?_
    exact s_X5_name_35 X hr hlk  Q o ho  r_1 8 σ_2 hw (lv_sub hl [1, 0] rfl) hD
theorem c_X5_name (l : Launch) (G : GC) (o : Nat) (σ : GSt) (Q : Int32 → GSt → Prop) (ho : kd o = 5) (hD : D_X5_name o σ Q) : MI l ym_X5_name cm_X5_name 4 .int rm_X5_name G σ [.ref (G.2.1 o)] Q := by
  refine met_i (by decide) (Nat.le_of_ble_eq_true rfl) ?_
  intro p e s m args below meth c X hr hlk hw ls hl
  exact s_X5_name_0 X hr hlk Q o ho  σ hw (lv_sub hl [0] rfl) hD
theorem hd_X6_takes : ym_X6_takes.cls = "GameLoom$Reader" ∧ ym_X6_takes.cls ≠ "java/lang/invoke/MethodHandle" ∧ ym_X6_takes.cls ≠ "java/lang/invoke/VarHandle" ∧ (parseMethodDescriptor ym_X6_takes.desc).map (fun d => d.parameters.length) = some 1 := by decide +kernel
abbrev rm_X6_takes : Room := { frames := 1, cells := 0, slots := 0, locals := 21 }
theorem d_X6_takes_0 : decode cm_X6_takes 0 = .ok (.aload_n 0, 1) := by decide +kernel
theorem d_X6_takes_1 : decode cm_X6_takes 1 = .ok (.getfield 9, 3) := by decide +kernel
theorem d_X6_takes_4 : decode cm_X6_takes 4 = .ok (.aload_n 0, 1) := by decide +kernel
theorem d_X6_takes_5 : decode cm_X6_takes 5 = .ok (.getfield 19, 3) := by decide +kernel
theorem d_X6_takes_8 : decode cm_X6_takes 8 = .ok (.invokevirtual 48, 3) := by decide +kernel
theorem d_X6_takes_11 : decode cm_X6_takes 11 = .ok (.iload_n 1, 1) := by decide +kernel
theorem d_X6_takes_12 : decode cm_X6_takes 12 = .ok (.if_icmp .ne 7, 3) := by decide +kernel
theorem d_X6_takes_15 : decode cm_X6_takes 15 = .ok (.iconst 1, 1) := by decide +kernel
theorem d_X6_takes_16 : decode cm_X6_takes 16 = .ok (.goto 4, 3) := by decide +kernel
theorem d_X6_takes_19 : decode cm_X6_takes 19 = .ok (.iconst 0, 1) := by decide +kernel
theorem d_X6_takes_20 : decode cm_X6_takes 20 = .ok (.istore_n 2, 1) := by decide +kernel
theorem d_X6_takes_21 : decode cm_X6_takes 21 = .ok (.iload_n 2, 1) := by decide +kernel
theorem d_X6_takes_22 : decode cm_X6_takes 22 = .ok (.ifCond .eq 13, 3) := by decide +kernel
theorem d_X6_takes_25 : decode cm_X6_takes 25 = .ok (.aload_n 0, 1) := by decide +kernel
theorem d_X6_takes_26 : decode cm_X6_takes 26 = .ok (.dup, 1) := by decide +kernel
theorem d_X6_takes_27 : decode cm_X6_takes 27 = .ok (.getfield 19, 3) := by decide +kernel
theorem d_X6_takes_30 : decode cm_X6_takes 30 = .ok (.iconst 1, 1) := by decide +kernel
theorem d_X6_takes_31 : decode cm_X6_takes 31 = .ok (.iadd, 1) := by decide +kernel
theorem d_X6_takes_32 : decode cm_X6_takes 32 = .ok (.putfield 19, 3) := by decide +kernel
theorem d_X6_takes_35 : decode cm_X6_takes 35 = .ok (.iload_n 2, 1) := by decide +kernel
theorem d_X6_takes_36 : decode cm_X6_takes 36 = .ok (.ireturn, 1) := by decide +kernel
def D_X6_takes_20 (Q : Int32 → GSt → Prop) (s0 : Int32) (σ : GSt) : Prop :=
  (s0 = 0 → (s0 = 0 ∨ s0 = 1) ∧ Q s0 σ) ∧
  (¬ s0 = 0 → ∀ σ_1 : GSt, σ_1 = up2 σ 5 2 ((σ 5 2) + 1) → ((s0 = 0 ∨ s0 = 1) ∧ Q s0 σ_1))
def D_X6_takes_0 (Q : Int32 → GSt → Prop) (x1 : Int32) (σ : GSt) : Prop :=
  (¬ σ 5 0 < 0 ∧ kd (σ 5 0).toNatClampNeg = 9) ∧ (D_X9_at ((σ 5 0).toNatClampNeg) (σ 5 2) σ (fun r_1 σ_2 => (¬ r_1 = x1 → D_X6_takes_20 Q 0 σ_2) ∧
  (r_1 = x1 → D_X6_takes_20 Q 1 σ_2)))
def D_X6_takes (x1 : Int32) (σ : GSt) (Q : Int32 → GSt → Prop) : Prop := D_X6_takes_0 Q x1 σ
set_option maxRecDepth 20000 in
set_option maxHeartbeats 4000000 in
theorem s_X6_takes_20 {p : Program} {l : Launch} {e : Env} {s : State} {m : MethodId} {args : Array Value} {below : List Frame} {meth : Method} {c : Code} {G : GC} (X : CallFix p m c cm_X6_takes 3 s args lw_us "GameLoom$Reader") (hr : meth.sig.returnType = some .boolean) (hlk : meth.locks = false) (Q : Int32 → GSt → Prop) (s0 : Int32) (σ : GSt) {H : Heap} {locs : List Loc} {ls : Array Slot} (hw : Wo G s H locs σ) (hl : lv_has ls 3 [(0, .ref (G.2.1 5))]) (hD : D_X6_takes_20 Q s0 σ) : W p l e rm_X6_takes s m args below meth c H locs 0 0 (QMI G Q below args s) (F0 m 20 ls [.int s0]) := by
  unfold D_X6_takes_20 at hD
  refine lv_istore_n (lv' := [(2, .int s0), (0, .ref (G.2.1 5))]) X.1 X.2.1 d_X6_takes_20 rfl hl (by decide) rfl (fun ls hl => ?_)
  refine lv_iload_n X.1 X.2.1 d_X6_takes_21 rfl (lv_at hl 0 rfl) ?_
  refine lv_if_eq (tgt := 35) X.1 X.2.1 d_X6_takes_22 (by decide) (fun q_22 => ?_) (fun q_22 => ?_)
  · have hD := hD.1 q_22
    refine lv_iload_n X.1 X.2.1 d_X6_takes_35 rfl (lv_at hl 0 rfl) ?_
    exact g_zret X hr hlk hw hD.1 hD.2 d_X6_takes_36
  · have hD := hD.2 q_22
    refine lv_aload_n X.1 X.2.1 d_X6_takes_25 rfl (lv_at hl 1 rfl) ?_
    refine lv_dup X.1 X.2.1 d_X6_takes_26 rfl ?_
    refine gf_6_2 X hw (by decide +kernel : kd 5 = 6) tb_50 d_X6_takes_27 ?_
    refine lv_iconst (v := 1) X.1 X.2.1 d_X6_takes_30 (by decide) ?_
    refine lv_iadd X.1 X.2.1 d_X6_takes_31 ?_
    refine pf_6_2 X hw (by decide +kernel : kd 5 = 6) tb_50 d_X6_takes_32 (fun H locs hw => ?_)
    obtain ⟨σ_1, e_σ_1⟩ : ∃ z : GSt, z = up2 σ 5 2 ((σ 5 2) + 1) := ⟨_, rfl⟩
    rw [← e_σ_1] at hw
    have hD := hD σ_1 e_σ_1
    refine lv_iload_n X.1 X.2.1 d_X6_takes_35 rfl (lv_at hl 0 rfl) ?_
    exact g_zret X hr hlk hw hD.1 hD.2 d_X6_takes_36
set_option maxRecDepth 20000 in
set_option maxHeartbeats 4000000 in
theorem s_X6_takes_0 {p : Program} {l : Launch} {e : Env} {s : State} {m : MethodId} {args : Array Value} {below : List Frame} {meth : Method} {c : Code} {G : GC} (X : CallFix p m c cm_X6_takes 3 s args lw_us "GameLoom$Reader") (hr : meth.sig.returnType = some .boolean) (hlk : meth.locks = false) (Q : Int32 → GSt → Prop) (x1 : Int32) (σ : GSt) {H : Heap} {locs : List Loc} {ls : Array Slot} (hw : Wo G s H locs σ) (hl : lv_has ls 3 [(0, .ref (G.2.1 5)), (1, .int x1)]) (hD : D_X6_takes_0 Q x1 σ) : W p l e rm_X6_takes s m args below meth c H locs 0 0 (QMI G Q below args s) (F0 m 0 ls []) := by
  unfold D_X6_takes_0 at hD
  refine lv_aload_n X.1 X.2.1 d_X6_takes_0 rfl (lv_at hl 0 rfl) ?_
  obtain ⟨q_1, hD⟩ := hD
  refine gf_6_0 X hw (by decide +kernel : kd 5 = 6) tb_48 q_1.1 d_X6_takes_1 ?_
  refine lv_aload_n X.1 X.2.1 d_X6_takes_4 rfl (lv_at hl 0 rfl) ?_
  refine gf_6_2 X hw (by decide +kernel : kd 5 = 6) tb_50 d_X6_takes_5 ?_
  refine gcV_i (rest := []) (As := [.int (σ 5 2)]) (o := ((σ 5 0).toNatClampNeg)) X hw (c_X9_at l G ((σ 5 0).toNatClampNeg) (σ 5 2) σ _ q_1.2 hD) (kd_lt q_1.2 (by decide)) (ce_9 G _ q_1.2) rfl tb_448 tb_449 tb_450 tb_2 tb_451 hd_X9_at ⟨rfl, rfl⟩ ⟨Nat.le_of_ble_eq_true rfl, Nat.le_of_ble_eq_true rfl⟩ rfl hl.1 rfl (Nat.le_of_ble_eq_true rfl) d_X6_takes_8 (fun r_1 σ_2 H locs hD hw => ?_)
  refine lv_iload_n X.1 X.2.1 d_X6_takes_11 rfl (lv_at hl 1 rfl) ?_
  refine lv_icmp_ne (tgt := 19) X.1 X.2.1 d_X6_takes_12 (by decide) (fun q_12 => ?_) (fun q_12 => ?_)
  · have hD := hD.1 q_12
    refine lv_iconst (v := 0) X.1 X.2.1 d_X6_takes_19 (by decide) ?_
    exact s_X6_takes_20 X hr hlk  Q  0 σ_2 hw (lv_sub hl [0] rfl) hD
  · have hD := hD.2 q_12
    refine lv_iconst (v := 1) X.1 X.2.1 d_X6_takes_15 (by decide) ?_
    refine lv_goto (tgt := 20) X.1 X.2.1 d_X6_takes_16 (by decide) ?_
    exact s_X6_takes_20 X hr hlk  Q  1 σ_2 hw (lv_sub hl [0] rfl) hD
theorem c_X6_takes (l : Launch) (G : GC) (x1 : Int32) (σ : GSt) (Q : Int32 → GSt → Prop)  (hD : D_X6_takes x1 σ Q) : MI l ym_X6_takes cm_X6_takes 3 .boolean rm_X6_takes G σ [.ref (G.2.1 5), .int x1] Q := by
  refine met_i (by decide) (Nat.le_of_ble_eq_true rfl) ?_
  intro p e s m args below meth c X hr hlk hw ls hl
  exact s_X6_takes_0 X hr hlk Q  x1 σ hw (lv_sub hl [0, 1] rfl) hD
theorem hd_X6_readBegin : ym_X6_readBegin.cls = "GameLoom$Reader" ∧ ym_X6_readBegin.cls ≠ "java/lang/invoke/MethodHandle" ∧ ym_X6_readBegin.cls ≠ "java/lang/invoke/VarHandle" ∧ (parseMethodDescriptor ym_X6_readBegin.desc).map (fun d => d.parameters.length) = some 0 := by decide +kernel
abbrev rm_X6_readBegin : Room := { frames := 2, cells := 0, slots := 0, locals := 43 }
theorem d_X6_readBegin_0 : decode cm_X6_readBegin 0 = .ok (.aload_n 0, 1) := by decide +kernel
theorem d_X6_readBegin_1 : decode cm_X6_readBegin 1 = .ok (.getfield 15, 3) := by decide +kernel
theorem d_X6_readBegin_4 : decode cm_X6_readBegin 4 = .ok (.iconst 0, 1) := by decide +kernel
theorem d_X6_readBegin_5 : decode cm_X6_readBegin 5 = .ok (.putfield 70, 3) := by decide +kernel
theorem d_X6_readBegin_8 : decode cm_X6_readBegin 8 = .ok (.aload_n 0, 1) := by decide +kernel
theorem d_X6_readBegin_9 : decode cm_X6_readBegin 9 = .ok (.getfield 15, 3) := by decide +kernel
theorem d_X6_readBegin_12 : decode cm_X6_readBegin 12 = .ok (.iconst 0, 1) := by decide +kernel
theorem d_X6_readBegin_13 : decode cm_X6_readBegin 13 = .ok (.putfield 73, 3) := by decide +kernel
theorem d_X6_readBegin_16 : decode cm_X6_readBegin 16 = .ok (.aload_n 0, 1) := by decide +kernel
theorem d_X6_readBegin_17 : decode cm_X6_readBegin 17 = .ok (.bipush 105, 2) := by decide +kernel
theorem d_X6_readBegin_19 : decode cm_X6_readBegin 19 = .ok (.invokevirtual 52, 3) := by decide +kernel
theorem d_X6_readBegin_22 : decode cm_X6_readBegin 22 = .ok (.ifCond .ne 5, 3) := by decide +kernel
theorem d_X6_readBegin_25 : decode cm_X6_readBegin 25 = .ok (.iconst 1, 1) := by decide +kernel
theorem d_X6_readBegin_26 : decode cm_X6_readBegin 26 = .ok (.ireturn, 1) := by decide +kernel
theorem d_X6_readBegin_27 : decode cm_X6_readBegin 27 = .ok (.iconst 0, 1) := by decide +kernel
theorem d_X6_readBegin_28 : decode cm_X6_readBegin 28 = .ok (.istore_n 1, 1) := by decide +kernel
theorem d_X6_readBegin_29 : decode cm_X6_readBegin 29 = .ok (.iload_n 1, 1) := by decide +kernel
theorem d_X6_readBegin_30 : decode cm_X6_readBegin 30 = .ok (.aload_n 0, 1) := by decide +kernel
theorem d_X6_readBegin_31 : decode cm_X6_readBegin 31 = .ok (.getfield 15, 3) := by decide +kernel
theorem d_X6_readBegin_34 : decode cm_X6_readBegin 34 = .ok (.getfield 60, 3) := by decide +kernel
theorem d_X6_readBegin_37 : decode cm_X6_readBegin 37 = .ok (.getfield 76, 3) := by decide +kernel
theorem d_X6_readBegin_40 : decode cm_X6_readBegin 40 = .ok (.if_icmp .ge 74, 3) := by decide +kernel
theorem d_X6_readBegin_43 : decode cm_X6_readBegin 43 = .ok (.aload_n 0, 1) := by decide +kernel
theorem d_X6_readBegin_44 : decode cm_X6_readBegin 44 = .ok (.bipush 97, 2) := by decide +kernel
theorem d_X6_readBegin_46 : decode cm_X6_readBegin 46 = .ok (.invokevirtual 52, 3) := by decide +kernel
theorem d_X6_readBegin_49 : decode cm_X6_readBegin 49 = .ok (.ifCond .eq 21, 3) := by decide +kernel
theorem d_X6_readBegin_52 : decode cm_X6_readBegin 52 = .ok (.aload_n 0, 1) := by decide +kernel
theorem d_X6_readBegin_53 : decode cm_X6_readBegin 53 = .ok (.getfield 15, 3) := by decide +kernel
theorem d_X6_readBegin_56 : decode cm_X6_readBegin 56 = .ok (.dup, 1) := by decide +kernel
theorem d_X6_readBegin_57 : decode cm_X6_readBegin 57 = .ok (.getfield 70, 3) := by decide +kernel
theorem d_X6_readBegin_60 : decode cm_X6_readBegin 60 = .ok (.iconst 1, 1) := by decide +kernel
theorem d_X6_readBegin_61 : decode cm_X6_readBegin 61 = .ok (.iload_n 1, 1) := by decide +kernel
theorem d_X6_readBegin_62 : decode cm_X6_readBegin 62 = .ok (.ishl, 1) := by decide +kernel
theorem d_X6_readBegin_63 : decode cm_X6_readBegin 63 = .ok (.ior, 1) := by decide +kernel
theorem d_X6_readBegin_64 : decode cm_X6_readBegin 64 = .ok (.putfield 70, 3) := by decide +kernel
theorem d_X6_readBegin_67 : decode cm_X6_readBegin 67 = .ok (.goto 41, 3) := by decide +kernel
theorem d_X6_readBegin_70 : decode cm_X6_readBegin 70 = .ok (.aload_n 0, 1) := by decide +kernel
theorem d_X6_readBegin_71 : decode cm_X6_readBegin 71 = .ok (.bipush 98, 2) := by decide +kernel
theorem d_X6_readBegin_73 : decode cm_X6_readBegin 73 = .ok (.invokevirtual 52, 3) := by decide +kernel
theorem d_X6_readBegin_76 : decode cm_X6_readBegin 76 = .ok (.ifCond .eq 21, 3) := by decide +kernel
theorem d_X6_readBegin_79 : decode cm_X6_readBegin 79 = .ok (.aload_n 0, 1) := by decide +kernel
theorem d_X6_readBegin_80 : decode cm_X6_readBegin 80 = .ok (.getfield 15, 3) := by decide +kernel
theorem d_X6_readBegin_83 : decode cm_X6_readBegin 83 = .ok (.dup, 1) := by decide +kernel
theorem d_X6_readBegin_84 : decode cm_X6_readBegin 84 = .ok (.getfield 73, 3) := by decide +kernel
theorem d_X6_readBegin_87 : decode cm_X6_readBegin 87 = .ok (.iconst 1, 1) := by decide +kernel
theorem d_X6_readBegin_88 : decode cm_X6_readBegin 88 = .ok (.iload_n 1, 1) := by decide +kernel
theorem d_X6_readBegin_89 : decode cm_X6_readBegin 89 = .ok (.ishl, 1) := by decide +kernel
theorem d_X6_readBegin_90 : decode cm_X6_readBegin 90 = .ok (.ior, 1) := by decide +kernel
theorem d_X6_readBegin_91 : decode cm_X6_readBegin 91 = .ok (.putfield 73, 3) := by decide +kernel
theorem d_X6_readBegin_94 : decode cm_X6_readBegin 94 = .ok (.goto 14, 3) := by decide +kernel
theorem d_X6_readBegin_97 : decode cm_X6_readBegin 97 = .ok (.aload_n 0, 1) := by decide +kernel
theorem d_X6_readBegin_98 : decode cm_X6_readBegin 98 = .ok (.bipush 120, 2) := by decide +kernel
theorem d_X6_readBegin_100 : decode cm_X6_readBegin 100 = .ok (.invokevirtual 52, 3) := by decide +kernel
theorem d_X6_readBegin_103 : decode cm_X6_readBegin 103 = .ok (.ifCond .ne 5, 3) := by decide +kernel
theorem d_X6_readBegin_106 : decode cm_X6_readBegin 106 = .ok (.iconst 0, 1) := by decide +kernel
theorem d_X6_readBegin_107 : decode cm_X6_readBegin 107 = .ok (.ireturn, 1) := by decide +kernel
theorem d_X6_readBegin_108 : decode cm_X6_readBegin 108 = .ok (.iinc 1 1, 3) := by decide +kernel
theorem d_X6_readBegin_111 : decode cm_X6_readBegin 111 = .ok (.goto (-82), 3) := by decide +kernel
theorem d_X6_readBegin_114 : decode cm_X6_readBegin 114 = .ok (.aload_n 0, 1) := by decide +kernel
theorem d_X6_readBegin_115 : decode cm_X6_readBegin 115 = .ok (.bipush 59, 2) := by decide +kernel
theorem d_X6_readBegin_117 : decode cm_X6_readBegin 117 = .ok (.invokevirtual 52, 3) := by decide +kernel
theorem d_X6_readBegin_120 : decode cm_X6_readBegin 120 = .ok (.ireturn, 1) := by decide +kernel
def D_X6_readBegin_108 (K29 : Int32 → GSt → Prop) (Q : Int32 → GSt → Prop) (x1 : Int32) (σ : GSt) : Prop :=
  ∀ x1_1 : Int32, x1_1 = x1 + 1 → (K29 x1_1 σ)
def D_X6_readBegin_29 (K29 : Int32 → GSt → Prop) (Q : Int32 → GSt → Prop) (x1 : Int32) (σ : GSt) : Prop :=
  (¬ σ 5 1 < 0 ∧ kd (σ 5 1).toNatClampNeg = 1) ∧ (((σ (((σ 5 1).toNatClampNeg) + 3) 2) ≤ x1 → D_X6_takes 59 σ (fun r_1 σ_2 => (r_1 = 0 ∨ r_1 = 1) ∧ Q r_1 σ_2)) ∧
  (¬ (σ (((σ 5 1).toNatClampNeg) + 3) 2) ≤ x1 → D_X6_takes 97 σ (fun r_3 σ_4 => (r_3 = 0 → D_X6_takes 98 σ_4 (fun r_5 σ_6 => (r_5 = 0 → D_X6_takes 120 σ_6 (fun r_7 σ_8 => (¬ r_7 = 0 → D_X6_readBegin_108 K29 Q x1 σ_8) ∧
  (r_7 = 0 → Q 0 σ_8))) ∧
  (¬ r_5 = 0 → (¬ σ_6 5 1 < 0 ∧ kd (σ_6 5 1).toNatClampNeg = 1) ∧ (∀ σ_9 : GSt, σ_9 = up2 σ_6 ((σ_6 5 1).toNatClampNeg) 3 ((σ_6 ((σ_6 5 1).toNatClampNeg) 3) ||| (jshl 1 x1)) → (D_X6_readBegin_108 K29 Q x1 σ_9))))) ∧
  (¬ r_3 = 0 → (¬ σ_4 5 1 < 0 ∧ kd (σ_4 5 1).toNatClampNeg = 1) ∧ (∀ σ_10 : GSt, σ_10 = up2 σ_4 ((σ_4 5 1).toNatClampNeg) 2 ((σ_4 ((σ_4 5 1).toNatClampNeg) 2) ||| (jshl 1 x1)) → (D_X6_readBegin_108 K29 Q x1 σ_10))))))
def L_X6_readBegin_29 (Q : Int32 → GSt → Prop) : Nat → Int32 → GSt → Prop
  | 0 => fun _ _ => False
  | n + 1 => fun x1 σ => D_X6_readBegin_29 (L_X6_readBegin_29 Q n) Q x1 σ
def D_X6_readBegin_0 (Q : Int32 → GSt → Prop) (σ : GSt) : Prop :=
  (¬ σ 5 1 < 0 ∧ kd (σ 5 1).toNatClampNeg = 1) ∧ (∀ σ_1 : GSt, σ_1 = up2 σ ((σ 5 1).toNatClampNeg) 2 0 → ((¬ σ_1 5 1 < 0 ∧ kd (σ_1 5 1).toNatClampNeg = 1) ∧ (∀ σ_2 : GSt, σ_2 = up2 σ_1 ((σ_1 5 1).toNatClampNeg) 3 0 → (D_X6_takes 105 σ_2 (fun r_3 σ_4 => (¬ r_3 = 0 → ∃ n : Nat, L_X6_readBegin_29 Q n 0 σ_4) ∧
  (r_3 = 0 → Q 1 σ_4))))))
def D_X6_readBegin (σ : GSt) (Q : Int32 → GSt → Prop) : Prop := D_X6_readBegin_0 Q σ
set_option maxRecDepth 20000 in
set_option maxHeartbeats 4000000 in
theorem s_X6_readBegin_108 {p : Program} {l : Launch} {e : Env} {s : State} {m : MethodId} {args : Array Value} {below : List Frame} {meth : Method} {c : Code} {G : GC} (X : CallFix p m c cm_X6_readBegin 2 s args lw_us "GameLoom$Reader") (hr : meth.sig.returnType = some .boolean) (hlk : meth.locks = false) (K29 : Int32 → GSt → Prop) (Q : Int32 → GSt → Prop) (hK29 : ∀ (x1 : Int32) (σ : GSt) (H : Heap) (locs : List Loc) (ls : Array Slot), Wo G s H locs σ → lv_has ls 2 [(0, .ref (G.2.1 5)), (1, .int x1)] → K29 x1 σ → W p l e rm_X6_readBegin s m args below meth c H locs 0 0 (QMI G Q below args s) (F0 m 29 ls [])) (x1 : Int32) (σ : GSt) {H : Heap} {locs : List Loc} {ls : Array Slot} (hw : Wo G s H locs σ) (hl : lv_has ls 2 [(0, .ref (G.2.1 5)), (1, .int x1)]) (hD : D_X6_readBegin_108 K29 Q x1 σ) : W p l e rm_X6_readBegin s m args below meth c H locs 0 0 (QMI G Q below args s) (F0 m 108 ls []) := by
  unfold D_X6_readBegin_108 at hD
  obtain ⟨x1_1, e_x1_1⟩ : ∃ y : Int32, y = x1 + 1 := ⟨_, rfl⟩
  have hD := hD x1_1 e_x1_1
  refine lv_iinc (v := x1_1) (lv' := [(1, .int x1_1), (0, .ref (G.2.1 5))]) X.1 X.2.1 d_X6_readBegin_108 hl (k := 1) rfl (by rw [e_x1_1]; rfl) (by decide) rfl (fun ls hl => ?_)
  refine lv_goto (tgt := 29) X.1 X.2.1 d_X6_readBegin_111 (by decide) ?_
  exact hK29 x1_1 σ _ _ _  hw (lv_sub hl [1, 0] rfl) hD
set_option maxRecDepth 20000 in
set_option maxHeartbeats 4000000 in
theorem s_X6_readBegin_29 {p : Program} {l : Launch} {e : Env} {s : State} {m : MethodId} {args : Array Value} {below : List Frame} {meth : Method} {c : Code} {G : GC} (X : CallFix p m c cm_X6_readBegin 2 s args lw_us "GameLoom$Reader") (hr : meth.sig.returnType = some .boolean) (hlk : meth.locks = false) (K29 : Int32 → GSt → Prop) (Q : Int32 → GSt → Prop) (hK29 : ∀ (x1 : Int32) (σ : GSt) (H : Heap) (locs : List Loc) (ls : Array Slot), Wo G s H locs σ → lv_has ls 2 [(0, .ref (G.2.1 5)), (1, .int x1)] → K29 x1 σ → W p l e rm_X6_readBegin s m args below meth c H locs 0 0 (QMI G Q below args s) (F0 m 29 ls [])) (x1 : Int32) (σ : GSt) {H : Heap} {locs : List Loc} {ls : Array Slot} (hw : Wo G s H locs σ) (hl : lv_has ls 2 [(0, .ref (G.2.1 5)), (1, .int x1)]) (hD : D_X6_readBegin_29 K29 Q x1 σ) : W p l e rm_X6_readBegin s m args below meth c H locs 0 0 (QMI G Q below args s) (F0 m 29 ls []) := by
  unfold D_X6_readBegin_29 at hD
  refine lv_iload_n X.1 X.2.1 d_X6_readBegin_29 rfl (lv_at hl 1 rfl) ?_
  refine lv_aload_n X.1 X.2.1 d_X6_readBegin_30 rfl (lv_at hl 0 rfl) ?_
  obtain ⟨q_31, hD⟩ := hD
  refine gf_6_1 X hw (by decide +kernel : kd 5 = 6) tb_49 q_31.1 d_X6_readBegin_31 ?_
  refine gf_1_1 X hw q_31.2 tb_157 d_X6_readBegin_34 ?_
  refine gf_0_2 X hw (ly_1_1 q_31.2) tb_80 d_X6_readBegin_37 ?_
  refine lv_icmp_ge (tgt := 114) X.1 X.2.1 d_X6_readBegin_40 (by decide) (fun q_40 => ?_) (fun q_40 => ?_)
  · have hD := hD.1 q_40
    refine lv_aload_n X.1 X.2.1 d_X6_readBegin_114 rfl (lv_at hl 0 rfl) ?_
    refine lv_bipush (v := 59) X.1 X.2.1 d_X6_readBegin_115 (by decide) ?_
    refine gcV_i (rest := []) (As := [.int 59]) (o := 5) X hw (c_X6_takes l G 59 σ _  hD) (kd_lt (by decide +kernel : kd 5 = 6) (by decide)) (ce_6 G _ (by decide +kernel : kd 5 = 6)) rfl tb_444 tb_446 tv_3 tb_3 tb_447 hd_X6_takes ⟨rfl, rfl⟩ ⟨Nat.le_of_ble_eq_true rfl, Nat.le_of_ble_eq_true rfl⟩ rfl hl.1 rfl (Nat.le_of_ble_eq_true rfl) d_X6_readBegin_117 (fun r_1 σ_2 H locs hD hw => ?_)
    exact g_zret X hr hlk hw hD.1 hD.2 d_X6_readBegin_120
  · have hD := hD.2 q_40
    refine lv_aload_n X.1 X.2.1 d_X6_readBegin_43 rfl (lv_at hl 0 rfl) ?_
    refine lv_bipush (v := 97) X.1 X.2.1 d_X6_readBegin_44 (by decide) ?_
    refine gcV_i (rest := []) (As := [.int 97]) (o := 5) X hw (c_X6_takes l G 97 σ _  hD) (kd_lt (by decide +kernel : kd 5 = 6) (by decide)) (ce_6 G _ (by decide +kernel : kd 5 = 6)) rfl tb_444 tb_446 tv_3 tb_3 tb_447 hd_X6_takes ⟨rfl, rfl⟩ ⟨Nat.le_of_ble_eq_true rfl, Nat.le_of_ble_eq_true rfl⟩ rfl hl.1 rfl (Nat.le_of_ble_eq_true rfl) d_X6_readBegin_46 (fun r_3 σ_4 H locs hD hw => ?_)
    refine lv_if_eq (tgt := 70) X.1 X.2.1 d_X6_readBegin_49 (by decide) (fun q_49 => ?_) (fun q_49 => ?_)
    · have hD := hD.1 q_49
      refine lv_aload_n X.1 X.2.1 d_X6_readBegin_70 rfl (lv_at hl 0 rfl) ?_
      refine lv_bipush (v := 98) X.1 X.2.1 d_X6_readBegin_71 (by decide) ?_
      refine gcV_i (rest := []) (As := [.int 98]) (o := 5) X hw (c_X6_takes l G 98 σ_4 _  hD) (kd_lt (by decide +kernel : kd 5 = 6) (by decide)) (ce_6 G _ (by decide +kernel : kd 5 = 6)) rfl tb_444 tb_446 tv_3 tb_3 tb_447 hd_X6_takes ⟨rfl, rfl⟩ ⟨Nat.le_of_ble_eq_true rfl, Nat.le_of_ble_eq_true rfl⟩ rfl hl.1 rfl (Nat.le_of_ble_eq_true rfl) d_X6_readBegin_73 (fun r_5 σ_6 H locs hD hw => ?_)
      refine lv_if_eq (tgt := 97) X.1 X.2.1 d_X6_readBegin_76 (by decide) (fun q_76 => ?_) (fun q_76 => ?_)
      · have hD := hD.1 q_76
        refine lv_aload_n X.1 X.2.1 d_X6_readBegin_97 rfl (lv_at hl 0 rfl) ?_
        refine lv_bipush (v := 120) X.1 X.2.1 d_X6_readBegin_98 (by decide) ?_
        refine gcV_i (rest := []) (As := [.int 120]) (o := 5) X hw (c_X6_takes l G 120 σ_6 _  hD) (kd_lt (by decide +kernel : kd 5 = 6) (by decide)) (ce_6 G _ (by decide +kernel : kd 5 = 6)) rfl tb_444 tb_446 tv_3 tb_3 tb_447 hd_X6_takes ⟨rfl, rfl⟩ ⟨Nat.le_of_ble_eq_true rfl, Nat.le_of_ble_eq_true rfl⟩ rfl hl.1 rfl (Nat.le_of_ble_eq_true rfl) d_X6_readBegin_100 (fun r_7 σ_8 H locs hD hw => ?_)
        refine lv_if_ne (tgt := 108) X.1 X.2.1 d_X6_readBegin_103 (by decide) (fun q_103 => ?_) (fun q_103 => ?_)
        · have hD := hD.1 q_103
          exact s_X6_readBegin_108 X hr hlk K29 Q hK29 x1 σ_8 hw (lv_sub hl [0, 1] rfl) hD
        · have hD := hD.2 q_103
          refine lv_iconst (v := 0) X.1 X.2.1 d_X6_readBegin_106 (by decide) ?_
          exact g_zret X hr hlk hw (by decide) hD d_X6_readBegin_107
      · have hD := hD.2 q_76
        refine lv_aload_n X.1 X.2.1 d_X6_readBegin_79 rfl (lv_at hl 0 rfl) ?_
        obtain ⟨q_80, hD⟩ := hD
        refine gf_6_1 X hw (by decide +kernel : kd 5 = 6) tb_49 q_80.1 d_X6_readBegin_80 ?_
        refine lv_dup X.1 X.2.1 d_X6_readBegin_83 rfl ?_
        refine gf_1_3 X hw q_80.2 tb_162 d_X6_readBegin_84 ?_
        refine lv_iconst (v := 1) X.1 X.2.1 d_X6_readBegin_87 (by decide) ?_
        refine lv_iload_n X.1 X.2.1 d_X6_readBegin_88 rfl (lv_at hl 1 rfl) ?_
        refine g_ishl X d_X6_readBegin_89 ?_
        refine lv_ior X.1 X.2.1 d_X6_readBegin_90 ?_
        refine pf_1_3 X hw q_80.2 tb_162 d_X6_readBegin_91 (fun H locs hw => ?_)
        obtain ⟨σ_9, e_σ_9⟩ : ∃ z : GSt, z = up2 σ_6 ((σ_6 5 1).toNatClampNeg) 3 ((σ_6 ((σ_6 5 1).toNatClampNeg) 3) ||| (jshl 1 x1)) := ⟨_, rfl⟩
        rw [← e_σ_9] at hw
        have hD := hD σ_9 e_σ_9
        refine lv_goto (tgt := 108) X.1 X.2.1 d_X6_readBegin_94 (by decide) ?_
        exact s_X6_readBegin_108 X hr hlk K29 Q hK29 x1 σ_9 hw (lv_sub hl [0, 1] rfl) hD
    · have hD := hD.2 q_49
      refine lv_aload_n X.1 X.2.1 d_X6_readBegin_52 rfl (lv_at hl 0 rfl) ?_
      obtain ⟨q_53, hD⟩ := hD
      refine gf_6_1 X hw (by decide +kernel : kd 5 = 6) tb_49 q_53.1 d_X6_readBegin_53 ?_
      refine lv_dup X.1 X.2.1 d_X6_readBegin_56 rfl ?_
      refine gf_1_2 X hw q_53.2 tb_160 d_X6_readBegin_57 ?_
      refine lv_iconst (v := 1) X.1 X.2.1 d_X6_readBegin_60 (by decide) ?_
      refine lv_iload_n X.1 X.2.1 d_X6_readBegin_61 rfl (lv_at hl 1 rfl) ?_
      refine g_ishl X d_X6_readBegin_62 ?_
      refine lv_ior X.1 X.2.1 d_X6_readBegin_63 ?_
      refine pf_1_2 X hw q_53.2 tb_160 d_X6_readBegin_64 (fun H locs hw => ?_)
      obtain ⟨σ_10, e_σ_10⟩ : ∃ z : GSt, z = up2 σ_4 ((σ_4 5 1).toNatClampNeg) 2 ((σ_4 ((σ_4 5 1).toNatClampNeg) 2) ||| (jshl 1 x1)) := ⟨_, rfl⟩
      rw [← e_σ_10] at hw
      have hD := hD σ_10 e_σ_10
      refine lv_goto (tgt := 108) X.1 X.2.1 d_X6_readBegin_67 (by decide) ?_
      exact s_X6_readBegin_108 X hr hlk K29 Q hK29 x1 σ_10 hw (lv_sub hl [0, 1] rfl) hD
set_option maxRecDepth 20000 in
set_option maxHeartbeats 4000000 in
theorem sl_X6_readBegin_29 {p : Program} {l : Launch} {e : Env} {s : State} {m : MethodId} {args : Array Value} {below : List Frame} {meth : Method} {c : Code} {G : GC} (X : CallFix p m c cm_X6_readBegin 2 s args lw_us "GameLoom$Reader") (hr : meth.sig.returnType = some .boolean) (hlk : meth.locks = false) (Q : Int32 → GSt → Prop) : ∀ (nn : Nat), ∀ (x1 : Int32) (σ : GSt) (H : Heap) (locs : List Loc) (ls : Array Slot), Wo G s H locs σ → lv_has ls 2 [(0, .ref (G.2.1 5)), (1, .int x1)] → L_X6_readBegin_29 Q nn x1 σ → W p l e rm_X6_readBegin s m args below meth c H locs 0 0 (QMI G Q below args s) (F0 m 29 ls []) := by
  intro nn
  induction nn with
  | zero => intro x1 σ H locs ls  hw hl hD; exact hD.elim
  | succ nn ih =>
    intro x1 σ H locs ls  hw hl hD
    exact s_X6_readBegin_29 X hr hlk (L_X6_readBegin_29 Q nn) Q ih x1 σ hw hl hD
set_option maxRecDepth 20000 in
set_option maxHeartbeats 4000000 in
theorem s_X6_readBegin_0 {p : Program} {l : Launch} {e : Env} {s : State} {m : MethodId} {args : Array Value} {below : List Frame} {meth : Method} {c : Code} {G : GC} (X : CallFix p m c cm_X6_readBegin 2 s args lw_us "GameLoom$Reader") (hr : meth.sig.returnType = some .boolean) (hlk : meth.locks = false) (Q : Int32 → GSt → Prop) (σ : GSt) {H : Heap} {locs : List Loc} {ls : Array Slot} (hw : Wo G s H locs σ) (hl : lv_has ls 2 [(0, .ref (G.2.1 5))]) (hD : D_X6_readBegin_0 Q σ) : W p l e rm_X6_readBegin s m args below meth c H locs 0 0 (QMI G Q below args s) (F0 m 0 ls []) := by
  unfold D_X6_readBegin_0 at hD
  refine lv_aload_n X.1 X.2.1 d_X6_readBegin_0 rfl (lv_at hl 0 rfl) ?_
  obtain ⟨q_1, hD⟩ := hD
  refine gf_6_1 X hw (by decide +kernel : kd 5 = 6) tb_49 q_1.1 d_X6_readBegin_1 ?_
  refine lv_iconst (v := 0) X.1 X.2.1 d_X6_readBegin_4 (by decide) ?_
  refine pf_1_2 X hw q_1.2 tb_160 d_X6_readBegin_5 (fun H locs hw => ?_)
  obtain ⟨σ_1, e_σ_1⟩ : ∃ z : GSt, z = up2 σ ((σ 5 1).toNatClampNeg) 2 0 := ⟨_, rfl⟩
  rw [← e_σ_1] at hw
  have hD := hD σ_1 e_σ_1
  refine lv_aload_n X.1 X.2.1 d_X6_readBegin_8 rfl (lv_at hl 0 rfl) ?_
  obtain ⟨q_9, hD⟩ := hD
  refine gf_6_1 X hw (by decide +kernel : kd 5 = 6) tb_49 q_9.1 d_X6_readBegin_9 ?_
  refine lv_iconst (v := 0) X.1 X.2.1 d_X6_readBegin_12 (by decide) ?_
  refine pf_1_3 X hw q_9.2 tb_162 d_X6_readBegin_13 (fun H locs hw => ?_)
  obtain ⟨σ_2, e_σ_2⟩ : ∃ z : GSt, z = up2 σ_1 ((σ_1 5 1).toNatClampNeg) 3 0 := ⟨_, rfl⟩
  rw [← e_σ_2] at hw
  have hD := hD σ_2 e_σ_2
  refine lv_aload_n X.1 X.2.1 d_X6_readBegin_16 rfl (lv_at hl 0 rfl) ?_
  refine lv_bipush (v := 105) X.1 X.2.1 d_X6_readBegin_17 (by decide) ?_
  refine gcV_i (rest := []) (As := [.int 105]) (o := 5) X hw (c_X6_takes l G 105 σ_2 _  hD) (kd_lt (by decide +kernel : kd 5 = 6) (by decide)) (ce_6 G _ (by decide +kernel : kd 5 = 6)) rfl tb_444 tb_446 tv_3 tb_3 tb_447 hd_X6_takes ⟨rfl, rfl⟩ ⟨Nat.le_of_ble_eq_true rfl, Nat.le_of_ble_eq_true rfl⟩ rfl hl.1 rfl (Nat.le_of_ble_eq_true rfl) d_X6_readBegin_19 (fun r_3 σ_4 H locs hD hw => ?_)
  refine lv_if_ne (tgt := 27) X.1 X.2.1 d_X6_readBegin_22 (by decide) (fun q_22 => ?_) (fun q_22 => ?_)
  · have hD := hD.1 q_22
    refine lv_iconst (v := 0) X.1 X.2.1 d_X6_readBegin_27 (by decide) ?_
    refine lv_istore_n (lv' := [(1, .int 0), (0, .ref (G.2.1 5))]) X.1 X.2.1 d_X6_readBegin_28 rfl hl (by decide) rfl (fun ls hl => ?_)
    obtain ⟨n9, hD⟩ := hD
    exact sl_X6_readBegin_29 X hr hlk  Q  n9 0 σ_4 _ _ _  hw (lv_sub hl [1, 0] rfl) hD
  · have hD := hD.2 q_22
    refine lv_iconst (v := 1) X.1 X.2.1 d_X6_readBegin_25 (by decide) ?_
    exact g_zret X hr hlk hw (by decide) hD d_X6_readBegin_26
theorem c_X6_readBegin (l : Launch) (G : GC) (σ : GSt) (Q : Int32 → GSt → Prop)  (hD : D_X6_readBegin  σ Q) : MI l ym_X6_readBegin cm_X6_readBegin 2 .boolean rm_X6_readBegin G σ [.ref (G.2.1 5)] Q := by
  refine met_i (by decide) (Nat.le_of_ble_eq_true rfl) ?_
  intro p e s m args below meth c X hr hlk hw ls hl
  exact s_X6_readBegin_0 X hr hlk Q   σ hw (lv_sub hl [0] rfl) hD
theorem hd_X6_digit : ym_X6_digit.cls = "GameLoom$Reader" ∧ ym_X6_digit.cls ≠ "java/lang/invoke/MethodHandle" ∧ ym_X6_digit.cls ≠ "java/lang/invoke/VarHandle" ∧ (parseMethodDescriptor ym_X6_digit.desc).map (fun d => d.parameters.length) = some 2 := by decide +kernel
abbrev rm_X6_digit : Room := { frames := 1, cells := 0, slots := 0, locals := 21 }
theorem d_X6_digit_0 : decode cm_X6_digit 0 = .ok (.aload_n 0, 1) := by decide +kernel
theorem d_X6_digit_1 : decode cm_X6_digit 1 = .ok (.getfield 9, 3) := by decide +kernel
theorem d_X6_digit_4 : decode cm_X6_digit 4 = .ok (.aload_n 0, 1) := by decide +kernel
theorem d_X6_digit_5 : decode cm_X6_digit 5 = .ok (.getfield 19, 3) := by decide +kernel
theorem d_X6_digit_8 : decode cm_X6_digit 8 = .ok (.invokevirtual 48, 3) := by decide +kernel
theorem d_X6_digit_11 : decode cm_X6_digit 11 = .ok (.bipush 48, 2) := by decide +kernel
theorem d_X6_digit_13 : decode cm_X6_digit 13 = .ok (.isub, 1) := by decide +kernel
theorem d_X6_digit_14 : decode cm_X6_digit 14 = .ok (.istore_n 3, 1) := by decide +kernel
theorem d_X6_digit_15 : decode cm_X6_digit 15 = .ok (.iload_n 3, 1) := by decide +kernel
theorem d_X6_digit_16 : decode cm_X6_digit 16 = .ok (.iload_n 1, 1) := by decide +kernel
theorem d_X6_digit_17 : decode cm_X6_digit 17 = .ok (.if_icmp .lt 8, 3) := by decide +kernel
theorem d_X6_digit_20 : decode cm_X6_digit 20 = .ok (.iload_n 3, 1) := by decide +kernel
theorem d_X6_digit_21 : decode cm_X6_digit 21 = .ok (.iload_n 2, 1) := by decide +kernel
theorem d_X6_digit_22 : decode cm_X6_digit 22 = .ok (.if_icmp .le 5, 3) := by decide +kernel
theorem d_X6_digit_25 : decode cm_X6_digit 25 = .ok (.iconst (-1), 1) := by decide +kernel
theorem d_X6_digit_26 : decode cm_X6_digit 26 = .ok (.ireturn, 1) := by decide +kernel
theorem d_X6_digit_27 : decode cm_X6_digit 27 = .ok (.aload_n 0, 1) := by decide +kernel
theorem d_X6_digit_28 : decode cm_X6_digit 28 = .ok (.dup, 1) := by decide +kernel
theorem d_X6_digit_29 : decode cm_X6_digit 29 = .ok (.getfield 19, 3) := by decide +kernel
theorem d_X6_digit_32 : decode cm_X6_digit 32 = .ok (.iconst 1, 1) := by decide +kernel
theorem d_X6_digit_33 : decode cm_X6_digit 33 = .ok (.iadd, 1) := by decide +kernel
theorem d_X6_digit_34 : decode cm_X6_digit 34 = .ok (.putfield 19, 3) := by decide +kernel
theorem d_X6_digit_37 : decode cm_X6_digit 37 = .ok (.iload_n 3, 1) := by decide +kernel
theorem d_X6_digit_38 : decode cm_X6_digit 38 = .ok (.ireturn, 1) := by decide +kernel
def D_X6_digit_0 (Q : Int32 → GSt → Prop) (x1 : Int32) (x2 : Int32) (σ : GSt) : Prop :=
  (¬ σ 5 0 < 0 ∧ kd (σ 5 0).toNatClampNeg = 9) ∧ (D_X9_at ((σ 5 0).toNatClampNeg) (σ 5 2) σ (fun r_1 σ_2 => ∀ x3_3 : Int32, x3_3 = (r_1 - 48) → ((x3_3 < x1 → Q (-1) σ_2) ∧
  (¬ x3_3 < x1 → (x3_3 ≤ x2 → ∀ σ_4 : GSt, σ_4 = up2 σ_2 5 2 ((σ_2 5 2) + 1) → (Q x3_3 σ_4)) ∧
  (¬ x3_3 ≤ x2 → Q (-1) σ_2)))))
def D_X6_digit (x1 : Int32) (x2 : Int32) (σ : GSt) (Q : Int32 → GSt → Prop) : Prop := D_X6_digit_0 Q x1 x2 σ
set_option maxRecDepth 20000 in
set_option maxHeartbeats 4000000 in
theorem s_X6_digit_0 {p : Program} {l : Launch} {e : Env} {s : State} {m : MethodId} {args : Array Value} {below : List Frame} {meth : Method} {c : Code} {G : GC} (X : CallFix p m c cm_X6_digit 4 s args lw_us "GameLoom$Reader") (hr : meth.sig.returnType = some .int) (hlk : meth.locks = false) (Q : Int32 → GSt → Prop) (x1 : Int32) (x2 : Int32) (σ : GSt) {H : Heap} {locs : List Loc} {ls : Array Slot} (hw : Wo G s H locs σ) (hl : lv_has ls 4 [(0, .ref (G.2.1 5)), (1, .int x1), (2, .int x2)]) (hD : D_X6_digit_0 Q x1 x2 σ) : W p l e rm_X6_digit s m args below meth c H locs 0 0 (QMI G Q below args s) (F0 m 0 ls []) := by
  unfold D_X6_digit_0 at hD
  refine lv_aload_n X.1 X.2.1 d_X6_digit_0 rfl (lv_at hl 0 rfl) ?_
  obtain ⟨q_1, hD⟩ := hD
  refine gf_6_0 X hw (by decide +kernel : kd 5 = 6) tb_48 q_1.1 d_X6_digit_1 ?_
  refine lv_aload_n X.1 X.2.1 d_X6_digit_4 rfl (lv_at hl 0 rfl) ?_
  refine gf_6_2 X hw (by decide +kernel : kd 5 = 6) tb_50 d_X6_digit_5 ?_
  refine gcV_i (rest := []) (As := [.int (σ 5 2)]) (o := ((σ 5 0).toNatClampNeg)) X hw (c_X9_at l G ((σ 5 0).toNatClampNeg) (σ 5 2) σ _ q_1.2 hD) (kd_lt q_1.2 (by decide)) (ce_9 G _ q_1.2) rfl tb_448 tb_449 tb_450 tb_2 tb_451 hd_X9_at ⟨rfl, rfl⟩ ⟨Nat.le_of_ble_eq_true rfl, Nat.le_of_ble_eq_true rfl⟩ rfl hl.1 rfl (Nat.le_of_ble_eq_true rfl) d_X6_digit_8 (fun r_1 σ_2 H locs hD hw => ?_)
  refine lv_bipush (v := 48) X.1 X.2.1 d_X6_digit_11 (by decide) ?_
  refine lv_isub X.1 X.2.1 d_X6_digit_13 ?_
  refine lv_topi (fun x3_3 e_x3_3 => ?_)
  have hD := hD x3_3 e_x3_3
  refine lv_istore_n (lv' := [(3, .int x3_3), (0, .ref (G.2.1 5)), (1, .int x1), (2, .int x2)]) X.1 X.2.1 d_X6_digit_14 rfl hl (by decide) rfl (fun ls hl => ?_)
  refine lv_iload_n X.1 X.2.1 d_X6_digit_15 rfl (lv_at hl 0 rfl) ?_
  refine lv_iload_n X.1 X.2.1 d_X6_digit_16 rfl (lv_at hl 2 rfl) ?_
  refine lv_icmp_lt (tgt := 25) X.1 X.2.1 d_X6_digit_17 (by decide) (fun q_17 => ?_) (fun q_17 => ?_)
  · have hD := hD.1 q_17
    refine lv_iconst (v := (-1)) X.1 X.2.1 d_X6_digit_25 (by decide) ?_
    exact g_iret X hr hlk hw hD d_X6_digit_26
  · have hD := hD.2 q_17
    refine lv_iload_n X.1 X.2.1 d_X6_digit_20 rfl (lv_at hl 0 rfl) ?_
    refine lv_iload_n X.1 X.2.1 d_X6_digit_21 rfl (lv_at hl 3 rfl) ?_
    refine lv_icmp_le (tgt := 27) X.1 X.2.1 d_X6_digit_22 (by decide) (fun q_22 => ?_) (fun q_22 => ?_)
    · have hD := hD.1 q_22
      refine lv_aload_n X.1 X.2.1 d_X6_digit_27 rfl (lv_at hl 1 rfl) ?_
      refine lv_dup X.1 X.2.1 d_X6_digit_28 rfl ?_
      refine gf_6_2 X hw (by decide +kernel : kd 5 = 6) tb_50 d_X6_digit_29 ?_
      refine lv_iconst (v := 1) X.1 X.2.1 d_X6_digit_32 (by decide) ?_
      refine lv_iadd X.1 X.2.1 d_X6_digit_33 ?_
      refine pf_6_2 X hw (by decide +kernel : kd 5 = 6) tb_50 d_X6_digit_34 (fun H locs hw => ?_)
      obtain ⟨σ_4, e_σ_4⟩ : ∃ z : GSt, z = up2 σ_2 5 2 ((σ_2 5 2) + 1) := ⟨_, rfl⟩
      rw [← e_σ_4] at hw
      have hD := hD σ_4 e_σ_4
      refine lv_iload_n X.1 X.2.1 d_X6_digit_37 rfl (lv_at hl 0 rfl) ?_
      exact g_iret X hr hlk hw hD d_X6_digit_38
    · have hD := hD.2 q_22
      refine lv_iconst (v := (-1)) X.1 X.2.1 d_X6_digit_25 (by decide) ?_
      exact g_iret X hr hlk hw hD d_X6_digit_26
theorem c_X6_digit (l : Launch) (G : GC) (x1 : Int32) (x2 : Int32) (σ : GSt) (Q : Int32 → GSt → Prop)  (hD : D_X6_digit x1 x2 σ Q) : MI l ym_X6_digit cm_X6_digit 4 .int rm_X6_digit G σ [.ref (G.2.1 5), .int x1, .int x2] Q := by
  refine met_i (by decide) (Nat.le_of_ble_eq_true rfl) ?_
  intro p e s m args below meth c X hr hlk hw ls hl
  exact s_X6_digit_0 X hr hlk Q  x1 x2 σ hw (lv_sub hl [0, 1, 2] rfl) hD
theorem hd_X6_readBoard : ym_X6_readBoard.cls = "GameLoom$Reader" ∧ ym_X6_readBoard.cls ≠ "java/lang/invoke/MethodHandle" ∧ ym_X6_readBoard.cls ≠ "java/lang/invoke/VarHandle" ∧ (parseMethodDescriptor ym_X6_readBoard.desc).map (fun d => d.parameters.length) = some 0 := by decide +kernel
abbrev rm_X6_readBoard : Room := { frames := 3, cells := 0, slots := 0, locals := 76 }
theorem d_X6_readBoard_0 : decode cm_X6_readBoard 0 = .ok (.aload_n 0, 1) := by decide +kernel
theorem d_X6_readBoard_1 : decode cm_X6_readBoard 1 = .ok (.bipush 98, 2) := by decide +kernel
theorem d_X6_readBoard_3 : decode cm_X6_readBoard 3 = .ok (.invokevirtual 52, 3) := by decide +kernel
theorem d_X6_readBoard_6 : decode cm_X6_readBoard 6 = .ok (.ifCond .ne 5, 3) := by decide +kernel
theorem d_X6_readBoard_9 : decode cm_X6_readBoard 9 = .ok (.iconst 0, 1) := by decide +kernel
theorem d_X6_readBoard_10 : decode cm_X6_readBoard 10 = .ok (.ireturn, 1) := by decide +kernel
theorem d_X6_readBoard_11 : decode cm_X6_readBoard 11 = .ok (.aload_n 0, 1) := by decide +kernel
theorem d_X6_readBoard_12 : decode cm_X6_readBoard 12 = .ok (.iconst 2, 1) := by decide +kernel
theorem d_X6_readBoard_13 : decode cm_X6_readBoard 13 = .ok (.iconst 4, 1) := by decide +kernel
theorem d_X6_readBoard_14 : decode cm_X6_readBoard 14 = .ok (.invokevirtual 56, 3) := by decide +kernel
theorem d_X6_readBoard_17 : decode cm_X6_readBoard 17 = .ok (.istore_n 1, 1) := by decide +kernel
theorem d_X6_readBoard_18 : decode cm_X6_readBoard 18 = .ok (.iload_n 1, 1) := by decide +kernel
theorem d_X6_readBoard_19 : decode cm_X6_readBoard 19 = .ok (.ifCond .ge 5, 3) := by decide +kernel
theorem d_X6_readBoard_22 : decode cm_X6_readBoard 22 = .ok (.iconst 0, 1) := by decide +kernel
theorem d_X6_readBoard_23 : decode cm_X6_readBoard 23 = .ok (.ireturn, 1) := by decide +kernel
theorem d_X6_readBoard_24 : decode cm_X6_readBoard 24 = .ok (.aload_n 0, 1) := by decide +kernel
theorem d_X6_readBoard_25 : decode cm_X6_readBoard 25 = .ok (.iconst 2, 1) := by decide +kernel
theorem d_X6_readBoard_26 : decode cm_X6_readBoard 26 = .ok (.iconst 4, 1) := by decide +kernel
theorem d_X6_readBoard_27 : decode cm_X6_readBoard 27 = .ok (.invokevirtual 56, 3) := by decide +kernel
theorem d_X6_readBoard_30 : decode cm_X6_readBoard 30 = .ok (.istore_n 2, 1) := by decide +kernel
theorem d_X6_readBoard_31 : decode cm_X6_readBoard 31 = .ok (.iload_n 2, 1) := by decide +kernel
theorem d_X6_readBoard_32 : decode cm_X6_readBoard 32 = .ok (.ifCond .ge 5, 3) := by decide +kernel
theorem d_X6_readBoard_35 : decode cm_X6_readBoard 35 = .ok (.iconst 0, 1) := by decide +kernel
theorem d_X6_readBoard_36 : decode cm_X6_readBoard 36 = .ok (.ireturn, 1) := by decide +kernel
theorem d_X6_readBoard_37 : decode cm_X6_readBoard 37 = .ok (.aload_n 0, 1) := by decide +kernel
theorem d_X6_readBoard_38 : decode cm_X6_readBoard 38 = .ok (.getfield 15, 3) := by decide +kernel
theorem d_X6_readBoard_41 : decode cm_X6_readBoard 41 = .ok (.getfield 60, 3) := by decide +kernel
theorem d_X6_readBoard_44 : decode cm_X6_readBoard 44 = .ok (.iload_n 1, 1) := by decide +kernel
theorem d_X6_readBoard_45 : decode cm_X6_readBoard 45 = .ok (.iload_n 2, 1) := by decide +kernel
theorem d_X6_readBoard_46 : decode cm_X6_readBoard 46 = .ok (.invokevirtual 64, 3) := by decide +kernel
theorem d_X6_readBoard_49 : decode cm_X6_readBoard 49 = .ok (.aload_n 0, 1) := by decide +kernel
theorem d_X6_readBoard_50 : decode cm_X6_readBoard 50 = .ok (.bipush 59, 2) := by decide +kernel
theorem d_X6_readBoard_52 : decode cm_X6_readBoard 52 = .ok (.invokevirtual 52, 3) := by decide +kernel
theorem d_X6_readBoard_55 : decode cm_X6_readBoard 55 = .ok (.ireturn, 1) := by decide +kernel
def D_X6_readBoard_0 (Q : Int32 → GSt → Prop) (σ : GSt) : Prop :=
  D_X6_takes 98 σ (fun r_1 σ_2 => (¬ r_1 = 0 → D_X6_digit 2 4 σ_2 (fun r_3 σ_4 => (0 ≤ r_3 → D_X6_digit 2 4 σ_4 (fun r_5 σ_6 => (0 ≤ r_5 → (¬ σ_6 5 1 < 0 ∧ kd (σ_6 5 1).toNatClampNeg = 1) ∧ (D_X0_lay (((σ_6 5 1).toNatClampNeg) + 3) r_3 r_5 σ_6 (fun σ_7 => D_X6_takes 59 σ_7 (fun r_8 σ_9 => (r_8 = 0 ∨ r_8 = 1) ∧ Q r_8 σ_9)))) ∧
  (¬ 0 ≤ r_5 → Q 0 σ_6))) ∧
  (¬ 0 ≤ r_3 → Q 0 σ_4))) ∧
  (r_1 = 0 → Q 0 σ_2))
def D_X6_readBoard (σ : GSt) (Q : Int32 → GSt → Prop) : Prop := D_X6_readBoard_0 Q σ
set_option maxRecDepth 20000 in
set_option maxHeartbeats 4000000 in
theorem s_X6_readBoard_0 {p : Program} {l : Launch} {e : Env} {s : State} {m : MethodId} {args : Array Value} {below : List Frame} {meth : Method} {c : Code} {G : GC} (X : CallFix p m c cm_X6_readBoard 3 s args lw_us "GameLoom$Reader") (hr : meth.sig.returnType = some .boolean) (hlk : meth.locks = false) (Q : Int32 → GSt → Prop) (σ : GSt) {H : Heap} {locs : List Loc} {ls : Array Slot} (hw : Wo G s H locs σ) (hl : lv_has ls 3 [(0, .ref (G.2.1 5))]) (hD : D_X6_readBoard_0 Q σ) : W p l e rm_X6_readBoard s m args below meth c H locs 0 0 (QMI G Q below args s) (F0 m 0 ls []) := by
  unfold D_X6_readBoard_0 at hD
  refine lv_aload_n X.1 X.2.1 d_X6_readBoard_0 rfl (lv_at hl 0 rfl) ?_
  refine lv_bipush (v := 98) X.1 X.2.1 d_X6_readBoard_1 (by decide) ?_
  refine gcV_i (rest := []) (As := [.int 98]) (o := 5) X hw (c_X6_takes l G 98 σ _  hD) (kd_lt (by decide +kernel : kd 5 = 6) (by decide)) (ce_6 G _ (by decide +kernel : kd 5 = 6)) rfl tb_444 tb_446 tv_3 tb_3 tb_447 hd_X6_takes ⟨rfl, rfl⟩ ⟨Nat.le_of_ble_eq_true rfl, Nat.le_of_ble_eq_true rfl⟩ rfl hl.1 rfl (Nat.le_of_ble_eq_true rfl) d_X6_readBoard_3 (fun r_1 σ_2 H locs hD hw => ?_)
  refine lv_if_ne (tgt := 11) X.1 X.2.1 d_X6_readBoard_6 (by decide) (fun q_6 => ?_) (fun q_6 => ?_)
  · have hD := hD.1 q_6
    refine lv_aload_n X.1 X.2.1 d_X6_readBoard_11 rfl (lv_at hl 0 rfl) ?_
    refine lv_iconst (v := 2) X.1 X.2.1 d_X6_readBoard_12 (by decide) ?_
    refine lv_iconst (v := 4) X.1 X.2.1 d_X6_readBoard_13 (by decide) ?_
    refine gcV_i (rest := []) (As := [.int 2, .int 4]) (o := 5) X hw (c_X6_digit l G 2 4 σ_2 _  hD) (kd_lt (by decide +kernel : kd 5 = 6) (by decide)) (ce_6 G _ (by decide +kernel : kd 5 = 6)) rfl tb_452 tb_454 tv_4 tb_3 tb_455 hd_X6_digit ⟨rfl, rfl⟩ ⟨Nat.le_of_ble_eq_true rfl, Nat.le_of_ble_eq_true rfl⟩ rfl hl.1 rfl (Nat.le_of_ble_eq_true rfl) d_X6_readBoard_14 (fun r_3 σ_4 H locs hD hw => ?_)
    refine lv_istore_n (lv' := [(1, .int r_3), (0, .ref (G.2.1 5))]) X.1 X.2.1 d_X6_readBoard_17 rfl hl (by decide) rfl (fun ls hl => ?_)
    refine lv_iload_n X.1 X.2.1 d_X6_readBoard_18 rfl (lv_at hl 0 rfl) ?_
    refine lv_if_ge (tgt := 24) X.1 X.2.1 d_X6_readBoard_19 (by decide) (fun q_19 => ?_) (fun q_19 => ?_)
    · have hD := hD.1 q_19
      refine lv_aload_n X.1 X.2.1 d_X6_readBoard_24 rfl (lv_at hl 1 rfl) ?_
      refine lv_iconst (v := 2) X.1 X.2.1 d_X6_readBoard_25 (by decide) ?_
      refine lv_iconst (v := 4) X.1 X.2.1 d_X6_readBoard_26 (by decide) ?_
      refine gcV_i (rest := []) (As := [.int 2, .int 4]) (o := 5) X hw (c_X6_digit l G 2 4 σ_4 _  hD) (kd_lt (by decide +kernel : kd 5 = 6) (by decide)) (ce_6 G _ (by decide +kernel : kd 5 = 6)) rfl tb_452 tb_454 tv_4 tb_3 tb_455 hd_X6_digit ⟨rfl, rfl⟩ ⟨Nat.le_of_ble_eq_true rfl, Nat.le_of_ble_eq_true rfl⟩ rfl hl.1 rfl (Nat.le_of_ble_eq_true rfl) d_X6_readBoard_27 (fun r_5 σ_6 H locs hD hw => ?_)
      refine lv_istore_n (lv' := [(2, .int r_5), (1, .int r_3), (0, .ref (G.2.1 5))]) X.1 X.2.1 d_X6_readBoard_30 rfl hl (by decide) rfl (fun ls hl => ?_)
      refine lv_iload_n X.1 X.2.1 d_X6_readBoard_31 rfl (lv_at hl 0 rfl) ?_
      refine lv_if_ge (tgt := 37) X.1 X.2.1 d_X6_readBoard_32 (by decide) (fun q_32 => ?_) (fun q_32 => ?_)
      · have hD := hD.1 q_32
        refine lv_aload_n X.1 X.2.1 d_X6_readBoard_37 rfl (lv_at hl 2 rfl) ?_
        obtain ⟨q_38, hD⟩ := hD
        refine gf_6_1 X hw (by decide +kernel : kd 5 = 6) tb_49 q_38.1 d_X6_readBoard_38 ?_
        refine gf_1_1 X hw q_38.2 tb_157 d_X6_readBoard_41 ?_
        refine lv_iload_n X.1 X.2.1 d_X6_readBoard_44 rfl (lv_at hl 1 rfl) ?_
        refine lv_iload_n X.1 X.2.1 d_X6_readBoard_45 rfl (lv_at hl 0 rfl) ?_
        refine gcV_v (rest := []) (As := [.int r_3, .int r_5]) (o := (((σ_6 5 1).toNatClampNeg) + 3)) X hw (c_X0_lay l G (((σ_6 5 1).toNatClampNeg) + 3) r_3 r_5 σ_6 _ (ly_1_1 q_38.2) hD) (kd_lt (ly_1_1 q_38.2) (by decide)) (ce_0 G _ (ly_1_1 q_38.2)) rfl tb_456 tb_457 tb_458 tb_5 tb_459 hd_X0_lay ⟨rfl, rfl⟩ ⟨Nat.le_of_ble_eq_true rfl, Nat.le_of_ble_eq_true rfl⟩ rfl hl.1 rfl (Nat.le_of_ble_eq_true rfl) d_X6_readBoard_46 (fun σ_7 H locs hD hw => ?_)
        refine lv_aload_n X.1 X.2.1 d_X6_readBoard_49 rfl (lv_at hl 2 rfl) ?_
        refine lv_bipush (v := 59) X.1 X.2.1 d_X6_readBoard_50 (by decide) ?_
        refine gcV_i (rest := []) (As := [.int 59]) (o := 5) X hw (c_X6_takes l G 59 σ_7 _  hD) (kd_lt (by decide +kernel : kd 5 = 6) (by decide)) (ce_6 G _ (by decide +kernel : kd 5 = 6)) rfl tb_444 tb_446 tv_3 tb_3 tb_447 hd_X6_takes ⟨rfl, rfl⟩ ⟨Nat.le_of_ble_eq_true rfl, Nat.le_of_ble_eq_true rfl⟩ rfl hl.1 rfl (Nat.le_of_ble_eq_true rfl) d_X6_readBoard_52 (fun r_8 σ_9 H locs hD hw => ?_)
        exact g_zret X hr hlk hw hD.1 hD.2 d_X6_readBoard_55
      · have hD := hD.2 q_32
        refine lv_iconst (v := 0) X.1 X.2.1 d_X6_readBoard_35 (by decide) ?_
        exact g_zret X hr hlk hw (by decide) hD d_X6_readBoard_36
    · have hD := hD.2 q_19
      refine lv_iconst (v := 0) X.1 X.2.1 d_X6_readBoard_22 (by decide) ?_
      exact g_zret X hr hlk hw (by decide) hD d_X6_readBoard_23
  · have hD := hD.2 q_6
    refine lv_iconst (v := 0) X.1 X.2.1 d_X6_readBoard_9 (by decide) ?_
    exact g_zret X hr hlk hw (by decide) hD d_X6_readBoard_10
theorem c_X6_readBoard (l : Launch) (G : GC) (σ : GSt) (Q : Int32 → GSt → Prop)  (hD : D_X6_readBoard  σ Q) : MI l ym_X6_readBoard cm_X6_readBoard 3 .boolean rm_X6_readBoard G σ [.ref (G.2.1 5)] Q := by
  refine met_i (by decide) (Nat.le_of_ble_eq_true rfl) ?_
  intro p e s m args below meth c X hr hlk hw ls hl
  exact s_X6_readBoard_0 X hr hlk Q   σ hw (lv_sub hl [0] rfl) hD
