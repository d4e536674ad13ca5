theorem hd_X11_mirror : ym_X11_mirror.cls = "GameLoomModel" ∧ ym_X11_mirror.cls ≠ "java/lang/invoke/MethodHandle" ∧ ym_X11_mirror.cls ≠ "java/lang/invoke/VarHandle" ∧ (parseMethodDescriptor ym_X11_mirror.desc).map (fun d => d.parameters.length) = some 1 := by decide +kernel
abbrev rm_X11_mirror : Room := { frames := 5, cells := 0, slots := 0, locals := 114 }
theorem d_X11_mirror_0 : decode cm_X11_mirror 0 = .ok (.aload_n 0, 1) := by decide +kernel
theorem d_X11_mirror_1 : decode cm_X11_mirror 1 = .ok (.iload_n 1, 1) := by decide +kernel
theorem d_X11_mirror_2 : decode cm_X11_mirror 2 = .ok (.invokevirtual 204, 3) := by decide +kernel
theorem d_X11_mirror_5 : decode cm_X11_mirror 5 = .ok (.ifCond .ne 9, 3) := by decide +kernel
theorem d_X11_mirror_8 : decode cm_X11_mirror 8 = .ok (.aload_n 0, 1) := by decide +kernel
theorem d_X11_mirror_9 : decode cm_X11_mirror 9 = .ok (.iconst (-1), 1) := by decide +kernel
theorem d_X11_mirror_10 : decode cm_X11_mirror 10 = .ok (.invokevirtual 147, 3) := by decide +kernel
theorem d_X11_mirror_13 : decode cm_X11_mirror 13 = .ok (.ireturn, 1) := by decide +kernel
theorem d_X11_mirror_14 : decode cm_X11_mirror 14 = .ok (.aload_n 0, 1) := by decide +kernel
theorem d_X11_mirror_15 : decode cm_X11_mirror 15 = .ok (.getfield 191, 3) := by decide +kernel
theorem d_X11_mirror_18 : decode cm_X11_mirror 18 = .ok (.bipush 8, 2) := by decide +kernel
theorem d_X11_mirror_20 : decode cm_X11_mirror 20 = .ok (.if_icmp .ne 10, 3) := by decide +kernel
theorem d_X11_mirror_23 : decode cm_X11_mirror 23 = .ok (.aload_n 0, 1) := by decide +kernel
theorem d_X11_mirror_24 : decode cm_X11_mirror 24 = .ok (.bipush (-6), 2) := by decide +kernel
theorem d_X11_mirror_26 : decode cm_X11_mirror 26 = .ok (.invokevirtual 147, 3) := by decide +kernel
theorem d_X11_mirror_29 : decode cm_X11_mirror 29 = .ok (.ireturn, 1) := by decide +kernel
theorem d_X11_mirror_30 : decode cm_X11_mirror 30 = .ok (.aload_n 0, 1) := by decide +kernel
theorem d_X11_mirror_31 : decode cm_X11_mirror 31 = .ok (.invokevirtual 198, 3) := by decide +kernel
theorem d_X11_mirror_34 : decode cm_X11_mirror 34 = .ok (.aload_n 0, 1) := by decide +kernel
theorem d_X11_mirror_35 : decode cm_X11_mirror 35 = .ok (.iload_n 1, 1) := by decide +kernel
theorem d_X11_mirror_36 : decode cm_X11_mirror 36 = .ok (.iconst 0, 1) := by decide +kernel
theorem d_X11_mirror_37 : decode cm_X11_mirror 37 = .ok (.aload_n 0, 1) := by decide +kernel
theorem d_X11_mirror_38 : decode cm_X11_mirror 38 = .ok (.getfield 58, 3) := by decide +kernel
theorem d_X11_mirror_41 : decode cm_X11_mirror 41 = .ok (.iload_n 1, 1) := by decide +kernel
theorem d_X11_mirror_42 : decode cm_X11_mirror 42 = .ok (.iaload, 1) := by decide +kernel
theorem d_X11_mirror_43 : decode cm_X11_mirror 43 = .ok (.invokevirtual 339, 3) := by decide +kernel
theorem d_X11_mirror_46 : decode cm_X11_mirror 46 = .ok (.aload_n 0, 1) := by decide +kernel
theorem d_X11_mirror_47 : decode cm_X11_mirror 47 = .ok (.getfield 40, 3) := by decide +kernel
theorem d_X11_mirror_50 : decode cm_X11_mirror 50 = .ok (.iload_n 1, 1) := by decide +kernel
theorem d_X11_mirror_51 : decode cm_X11_mirror 51 = .ok (.iaload, 1) := by decide +kernel
theorem d_X11_mirror_52 : decode cm_X11_mirror 52 = .ok (.iconst 1, 1) := by decide +kernel
theorem d_X11_mirror_53 : decode cm_X11_mirror 53 = .ok (.isub, 1) := by decide +kernel
theorem d_X11_mirror_54 : decode cm_X11_mirror 54 = .ok (.istore_n 2, 1) := by decide +kernel
theorem d_X11_mirror_55 : decode cm_X11_mirror 55 = .ok (.iload_n 2, 1) := by decide +kernel
theorem d_X11_mirror_56 : decode cm_X11_mirror 56 = .ok (.ifCond .lt 41, 3) := by decide +kernel
theorem d_X11_mirror_59 : decode cm_X11_mirror 59 = .ok (.aload_n 0, 1) := by decide +kernel
theorem d_X11_mirror_60 : decode cm_X11_mirror 60 = .ok (.iload_n 1, 1) := by decide +kernel
theorem d_X11_mirror_61 : decode cm_X11_mirror 61 = .ok (.aload_n 0, 1) := by decide +kernel
theorem d_X11_mirror_62 : decode cm_X11_mirror 62 = .ok (.getfield 37, 3) := by decide +kernel
theorem d_X11_mirror_65 : decode cm_X11_mirror 65 = .ok (.bipush 6, 2) := by decide +kernel
theorem d_X11_mirror_67 : decode cm_X11_mirror 67 = .ok (.iload_n 1, 1) := by decide +kernel
theorem d_X11_mirror_68 : decode cm_X11_mirror 68 = .ok (.imul, 1) := by decide +kernel
theorem d_X11_mirror_69 : decode cm_X11_mirror 69 = .ok (.iload_n 2, 1) := by decide +kernel
theorem d_X11_mirror_70 : decode cm_X11_mirror 70 = .ok (.iadd, 1) := by decide +kernel
theorem d_X11_mirror_71 : decode cm_X11_mirror 71 = .ok (.iaload, 1) := by decide +kernel
theorem d_X11_mirror_72 : decode cm_X11_mirror 72 = .ok (.aload_n 0, 1) := by decide +kernel
theorem d_X11_mirror_73 : decode cm_X11_mirror 73 = .ok (.iload_n 1, 1) := by decide +kernel
theorem d_X11_mirror_74 : decode cm_X11_mirror 74 = .ok (.iload_n 2, 1) := by decide +kernel
theorem d_X11_mirror_75 : decode cm_X11_mirror 75 = .ok (.invokevirtual 343, 3) := by decide +kernel
theorem d_X11_mirror_78 : decode cm_X11_mirror 78 = .ok (.invokevirtual 339, 3) := by decide +kernel
theorem d_X11_mirror_81 : decode cm_X11_mirror 81 = .ok (.iload_n 2, 1) := by decide +kernel
theorem d_X11_mirror_82 : decode cm_X11_mirror 82 = .ok (.ifCond .le 9, 3) := by decide +kernel
theorem d_X11_mirror_85 : decode cm_X11_mirror 85 = .ok (.aload_n 0, 1) := by decide +kernel
theorem d_X11_mirror_86 : decode cm_X11_mirror 86 = .ok (.bipush 44, 2) := by decide +kernel
theorem d_X11_mirror_88 : decode cm_X11_mirror 88 = .ok (.invokevirtual 194, 3) := by decide +kernel
theorem d_X11_mirror_91 : decode cm_X11_mirror 91 = .ok (.iinc 2 (-1), 3) := by decide +kernel
theorem d_X11_mirror_94 : decode cm_X11_mirror 94 = .ok (.goto (-39), 3) := by decide +kernel
theorem d_X11_mirror_97 : decode cm_X11_mirror 97 = .ok (.aload_n 0, 1) := by decide +kernel
theorem d_X11_mirror_98 : decode cm_X11_mirror 98 = .ok (.bipush 59, 2) := by decide +kernel
theorem d_X11_mirror_100 : decode cm_X11_mirror 100 = .ok (.invokevirtual 194, 3) := by decide +kernel
theorem d_X11_mirror_103 : decode cm_X11_mirror 103 = .ok (.aload_n 0, 1) := by decide +kernel
theorem d_X11_mirror_104 : decode cm_X11_mirror 104 = .ok (.iload_n 1, 1) := by decide +kernel
theorem d_X11_mirror_105 : decode cm_X11_mirror 105 = .ok (.aload_n 0, 1) := by decide +kernel
theorem d_X11_mirror_106 : decode cm_X11_mirror 106 = .ok (.getfield 61, 3) := by decide +kernel
theorem d_X11_mirror_109 : decode cm_X11_mirror 109 = .ok (.iload_n 1, 1) := by decide +kernel
theorem d_X11_mirror_110 : decode cm_X11_mirror 110 = .ok (.iaload, 1) := by decide +kernel
theorem d_X11_mirror_111 : decode cm_X11_mirror 111 = .ok (.aload_n 0, 1) := by decide +kernel
theorem d_X11_mirror_112 : decode cm_X11_mirror 112 = .ok (.getfield 19, 3) := by decide +kernel
theorem d_X11_mirror_115 : decode cm_X11_mirror 115 = .ok (.iload_n 1, 1) := by decide +kernel
theorem d_X11_mirror_116 : decode cm_X11_mirror 116 = .ok (.iaload, 1) := by decide +kernel
theorem d_X11_mirror_117 : decode cm_X11_mirror 117 = .ok (.invokevirtual 339, 3) := by decide +kernel
theorem d_X11_mirror_120 : decode cm_X11_mirror 120 = .ok (.aload_n 0, 1) := by decide +kernel
theorem d_X11_mirror_121 : decode cm_X11_mirror 121 = .ok (.invokevirtual 201, 3) := by decide +kernel
theorem d_X11_mirror_124 : decode cm_X11_mirror 124 = .ok (.ireturn, 1) := by decide +kernel
def D_X11_mirror_91 (K55 : Int32 → Int32 → GSt → Prop) (Q : Int32 → GSt → Prop) (x1 : Int32) (x2 : Int32) (σ : GSt) : Prop :=
  ∀ x2_1 : Int32, x2_1 = x2 + (-1) → (K55 x1 x2_1 σ)
def D_X11_mirror_55 (K55 : Int32 → Int32 → GSt → Prop) (Q : Int32 → GSt → Prop) (x1 : Int32) (x2 : Int32) (σ : GSt) : Prop :=
  (x2 < 0 → D_X11_adds 59 σ (fun σ_1 => vp_in x1 9 ∧ (vp_in x1 9 ∧ (D_X11_addsFrom x1 (σ_1 255 (Int32.toNatClampNeg x1)) (σ_1 241 (Int32.toNatClampNeg x1)) σ_1 (fun σ_2 => D_X11_grown  σ_2 (fun r_3 σ_4 => Q r_3 σ_4)))))) ∧
  (¬ x2 < 0 → vp_in ((6 * x1) + x2) 54 ∧ (D_X11_moveEnd x1 x2 σ (fun r_5 σ_6 => D_X11_addsFrom x1 (σ 247 (Int32.toNatClampNeg ((6 * x1) + x2))) r_5 σ_6 (fun σ_7 => (x2 ≤ 0 → D_X11_mirror_91 K55 Q x1 x2 σ_7) ∧
  (¬ x2 ≤ 0 → D_X11_adds 44 σ_7 (fun σ_8 => D_X11_mirror_91 K55 Q x1 x2 σ_8))))))
def L_X11_mirror_55 (Q : Int32 → GSt → Prop) : Nat → Int32 → Int32 → GSt → Prop
  | 0 => fun _ _ _ => False
  | n + 1 => fun x1 x2 σ => D_X11_mirror_55 (L_X11_mirror_55 Q n) Q x1 x2 σ
def D_X11_mirror_0 (Q : Int32 → GSt → Prop) (x1 : Int32) (σ : GSt) : Prop :=
  D_X11_isGame x1 σ (fun r_1 σ_2 => (¬ r_1 = 0 → (¬ (σ_2 237 20) = 8 → D_X11_starts  σ_2 (fun σ_3 => vp_in x1 9 ∧ (D_X11_addsFrom x1 0 (σ_3 254 (Int32.toNatClampNeg x1)) σ_3 (fun σ_4 => vp_in x1 9 ∧ (∀ x2_5 : Int32, x2_5 = ((σ_4 248 (Int32.toNatClampNeg x1)) - 1) → (∃ n : Nat, L_X11_mirror_55 Q n x1 x2_5 σ_4)))))) ∧
  ((σ_2 237 20) = 8 → D_X11_no (-6) σ_2 (fun r_6 σ_7 => Q r_6 σ_7))) ∧
  (r_1 = 0 → D_X11_no (-1) σ_2 (fun r_8 σ_9 => Q r_8 σ_9)))
def D_X11_mirror (x1 : Int32) (σ : GSt) (Q : Int32 → GSt → Prop) : Prop := D_X11_mirror_0 Q x1 σ
set_option maxRecDepth 20000 in
set_option maxHeartbeats 4000000 in
theorem s_X11_mirror_91 {p : Program} {l : Launch} {e : Env} {s : State} {m : MethodId} {args : Array Value} {below : List Frame} {meth : Method} {c : Code} {G : GC} (X : CallFix p m c cm_X11_mirror 3 s args lw_us "GameLoomModel") (hr : meth.sig.returnType = some .int) (hlk : meth.locks = false) (K55 : Int32 → Int32 → GSt → Prop) (Q : Int32 → GSt → Prop) (hK55 : ∀ (x1 : Int32) (x2 : Int32) (σ : GSt) (H : Heap) (locs : List Loc) (ls : Array Slot), Wo G s H locs σ → lv_has ls 3 [(0, .ref (G.2.1 237)), (1, .int x1), (2, .int x2)] → K55 x1 x2 σ → W p l e rm_X11_mirror s m args below meth c H locs 0 0 (QMI G Q below args s) (F0 m 55 ls [])) (x1 : Int32) (x2 : Int32) (σ : GSt) {H : Heap} {locs : List Loc} {ls : Array Slot} (hw : Wo G s H locs σ) (hl : lv_has ls 3 [(0, .ref (G.2.1 237)), (1, .int x1), (2, .int x2)]) (hD : D_X11_mirror_91 K55 Q x1 x2 σ) : W p l e rm_X11_mirror s m args below meth c H locs 0 0 (QMI G Q below args s) (F0 m 91 ls []) := by
  unfold D_X11_mirror_91 at hD
  obtain ⟨x2_1, e_x2_1⟩ : ∃ y : Int32, y = x2 + (-1) := ⟨_, rfl⟩
  have hD := hD x2_1 e_x2_1
  refine lv_iinc (v := x2_1) (lv' := [(2, .int x2_1), (0, .ref (G.2.1 237)), (1, .int x1)]) X.1 X.2.1 d_X11_mirror_91 hl (k := 2) rfl (by rw [e_x2_1]; rfl) (by decide) rfl (fun ls hl => ?_)
  refine lv_goto (tgt := 55) X.1 X.2.1 d_X11_mirror_94 (by decide) ?_
  exact hK55 x1 x2_1 σ _ _ _  hw (lv_sub hl [1, 2, 0] rfl) hD
set_option maxRecDepth 20000 in
set_option maxHeartbeats 4000000 in
theorem s_X11_mirror_55 {p : Program} {l : Launch} {e : Env} {s : State} {m : MethodId} {args : Array Value} {below : List Frame} {meth : Method} {c : Code} {G : GC} (X : CallFix p m c cm_X11_mirror 3 s args lw_us "GameLoomModel") (hr : meth.sig.returnType = some .int) (hlk : meth.locks = false) (K55 : Int32 → Int32 → GSt → Prop) (Q : Int32 → GSt → Prop) (hK55 : ∀ (x1 : Int32) (x2 : Int32) (σ : GSt) (H : Heap) (locs : List Loc) (ls : Array Slot), Wo G s H locs σ → lv_has ls 3 [(0, .ref (G.2.1 237)), (1, .int x1), (2, .int x2)] → K55 x1 x2 σ → W p l e rm_X11_mirror s m args below meth c H locs 0 0 (QMI G Q below args s) (F0 m 55 ls [])) (x1 : Int32) (x2 : Int32) (σ : GSt) {H : Heap} {locs : List Loc} {ls : Array Slot} (hw : Wo G s H locs σ) (hl : lv_has ls 3 [(0, .ref (G.2.1 237)), (1, .int x1), (2, .int x2)]) (hD : D_X11_mirror_55 K55 Q x1 x2 σ) : W p l e rm_X11_mirror s m args below meth c H locs 0 0 (QMI G Q below args s) (F0 m 55 ls []) := by
  unfold D_X11_mirror_55 at hD
  refine lv_iload_n X.1 X.2.1 d_X11_mirror_55 rfl (lv_at hl 2 rfl) ?_
  refine lv_if_lt (tgt := 97) X.1 X.2.1 d_X11_mirror_56 (by decide) (fun q_56 => ?_) (fun q_56 => ?_)
  · have hD := hD.1 q_56
    refine lv_aload_n X.1 X.2.1 d_X11_mirror_97 rfl (lv_at hl 0 rfl) ?_
    refine lv_bipush (v := 59) X.1 X.2.1 d_X11_mirror_98 (by decide) ?_
    refine gcV_v (rest := []) (As := [.int 59]) (o := 237) X hw (c_X11_adds l G 59 σ _  hD) (kd_lt (by decide +kernel : kd 237 = 11) (by decide)) (ce_11 G _ (by decide +kernel : kd 237 = 11)) rfl tb_1097 tb_1099 tv_37 tb_12 tb_1100 hd_X11_adds ⟨rfl, rfl⟩ ⟨Nat.le_of_ble_eq_true rfl, Nat.le_of_ble_eq_true rfl⟩ rfl hl.1 rfl (Nat.le_of_ble_eq_true rfl) d_X11_mirror_100 (fun σ_1 H locs hD hw => ?_)
    refine lv_aload_n X.1 X.2.1 d_X11_mirror_103 rfl (lv_at hl 0 rfl) ?_
    refine lv_iload_n X.1 X.2.1 d_X11_mirror_104 rfl (lv_at hl 1 rfl) ?_
    refine lv_aload_n X.1 X.2.1 d_X11_mirror_105 rfl (lv_at hl 0 rfl) ?_
    refine gf_11_17 X hw (by decide +kernel : kd 237 = 11) tb_923 d_X11_mirror_106 ?_
    refine lv_iload_n X.1 X.2.1 d_X11_mirror_109 rfl (lv_at hl 1 rfl) ?_
    obtain ⟨q_110, hD⟩ := hD
    refine g_iald X hw ly_11_17.1 ly_11_17.2 q_110 d_X11_mirror_110 ?_
    refine lv_aload_n X.1 X.2.1 d_X11_mirror_111 rfl (lv_at hl 0 rfl) ?_
    refine gf_11_3 X hw (by decide +kernel : kd 237 = 11) tb_909 d_X11_mirror_112 ?_
    refine lv_iload_n X.1 X.2.1 d_X11_mirror_115 rfl (lv_at hl 1 rfl) ?_
    obtain ⟨q_116, hD⟩ := hD
    refine g_iald X hw ly_11_3.1 ly_11_3.2 q_116 d_X11_mirror_116 ?_
    refine gcV_v (rest := []) (As := [.int x1, .int (σ_1 255 (Int32.toNatClampNeg x1)), .int (σ_1 241 (Int32.toNatClampNeg x1))]) (o := 237) X hw (c_X11_addsFrom l G x1 (σ_1 255 (Int32.toNatClampNeg x1)) (σ_1 241 (Int32.toNatClampNeg x1)) σ_1 _  hD) (kd_lt (by decide +kernel : kd 237 = 11) (by decide)) (ce_11 G _ (by decide +kernel : kd 237 = 11)) rfl tb_1332 tb_1334 tv_77 tb_12 tb_1335 hd_X11_addsFrom ⟨rfl, rfl⟩ ⟨Nat.le_of_ble_eq_true rfl, Nat.le_of_ble_eq_true rfl⟩ rfl hl.1 rfl (Nat.le_of_ble_eq_true rfl) d_X11_mirror_117 (fun σ_2 H locs hD hw => ?_)
    refine lv_aload_n X.1 X.2.1 d_X11_mirror_120 rfl (lv_at hl 0 rfl) ?_
    refine gcV_i (rest := []) (As := []) (o := 237) X hw (c_X11_grown l G  σ_2 _  hD) (kd_lt (by decide +kernel : kd 237 = 11) (by decide)) (ce_11 G _ (by decide +kernel : kd 237 = 11)) rfl tb_1101 tb_1103 tv_38 tb_12 tb_1104 hd_X11_grown ⟨rfl, rfl⟩ ⟨Nat.le_of_ble_eq_true rfl, Nat.le_of_ble_eq_true rfl⟩ rfl hl.1 rfl (Nat.le_of_ble_eq_true rfl) d_X11_mirror_121 (fun r_3 σ_4 H locs hD hw => ?_)
    exact g_iret X hr hlk hw hD d_X11_mirror_124
  · have hD := hD.2 q_56
    refine lv_aload_n X.1 X.2.1 d_X11_mirror_59 rfl (lv_at hl 0 rfl) ?_
    refine lv_iload_n X.1 X.2.1 d_X11_mirror_60 rfl (lv_at hl 1 rfl) ?_
    refine lv_aload_n X.1 X.2.1 d_X11_mirror_61 rfl (lv_at hl 0 rfl) ?_
    refine gf_11_9 X hw (by decide +kernel : kd 237 = 11) tb_915 d_X11_mirror_62 ?_
    refine lv_bipush (v := 6) X.1 X.2.1 d_X11_mirror_65 (by decide) ?_
    refine lv_iload_n X.1 X.2.1 d_X11_mirror_67 rfl (lv_at hl 1 rfl) ?_
    refine lv_imul X.1 X.2.1 d_X11_mirror_68 ?_
    refine lv_iload_n X.1 X.2.1 d_X11_mirror_69 rfl (lv_at hl 2 rfl) ?_
    refine lv_iadd X.1 X.2.1 d_X11_mirror_70 ?_
    obtain ⟨q_71, hD⟩ := hD
    refine g_iald X hw ly_11_9.1 ly_11_9.2 q_71 d_X11_mirror_71 ?_
    refine lv_aload_n X.1 X.2.1 d_X11_mirror_72 rfl (lv_at hl 0 rfl) ?_
    refine lv_iload_n X.1 X.2.1 d_X11_mirror_73 rfl (lv_at hl 1 rfl) ?_
    refine lv_iload_n X.1 X.2.1 d_X11_mirror_74 rfl (lv_at hl 2 rfl) ?_
    refine gcV_i (rest := [.int (σ 247 (Int32.toNatClampNeg ((6 * x1) + x2))), .int x1, .ref (G.2.1 237)]) (As := [.int x1, .int x2]) (o := 237) X hw (c_X11_moveEnd l G x1 x2 σ _  hD) (kd_lt (by decide +kernel : kd 237 = 11) (by decide)) (ce_11 G _ (by decide +kernel : kd 237 = 11)) rfl tb_1336 tb_1338 tv_78 tb_12 tb_1339 hd_X11_moveEnd ⟨rfl, rfl⟩ ⟨Nat.le_of_ble_eq_true rfl, Nat.le_of_ble_eq_true rfl⟩ rfl hl.1 rfl (Nat.le_of_ble_eq_true rfl) d_X11_mirror_75 (fun r_5 σ_6 H locs hD hw => ?_)
    refine gcV_v (rest := []) (As := [.int x1, .int (σ 247 (Int32.toNatClampNeg ((6 * x1) + x2))), .int r_5]) (o := 237) X hw (c_X11_addsFrom l G x1 (σ 247 (Int32.toNatClampNeg ((6 * x1) + x2))) r_5 σ_6 _  hD) (kd_lt (by decide +kernel : kd 237 = 11) (by decide)) (ce_11 G _ (by decide +kernel : kd 237 = 11)) rfl tb_1332 tb_1334 tv_77 tb_12 tb_1335 hd_X11_addsFrom ⟨rfl, rfl⟩ ⟨Nat.le_of_ble_eq_true rfl, Nat.le_of_ble_eq_true rfl⟩ rfl hl.1 rfl (Nat.le_of_ble_eq_true rfl) d_X11_mirror_78 (fun σ_7 H locs hD hw => ?_)
    refine lv_iload_n X.1 X.2.1 d_X11_mirror_81 rfl (lv_at hl 2 rfl) ?_
    refine lv_if_le (tgt := 91) X.1 X.2.1 d_X11_mirror_82 (by decide) (fun q_82 => ?_) (fun q_82 => ?_)
    · have hD := hD.1 q_82
      exact s_X11_mirror_91 X hr hlk K55 Q hK55 x1 x2 σ_7 hw (lv_sub hl [0, 1, 2] rfl) hD
    · have hD := hD.2 q_82
      refine lv_aload_n X.1 X.2.1 d_X11_mirror_85 rfl (lv_at hl 0 rfl) ?_
      refine lv_bipush (v := 44) X.1 X.2.1 d_X11_mirror_86 (by decide) ?_
      refine gcV_v (rest := []) (As := [.int 44]) (o := 237) X hw (c_X11_adds l G 44 σ_7 _  hD) (kd_lt (by decide +kernel : kd 237 = 11) (by decide)) (ce_11 G _ (by decide +kernel : kd 237 = 11)) rfl tb_1097 tb_1099 tv_37 tb_12 tb_1100 hd_X11_adds ⟨rfl, rfl⟩ ⟨Nat.le_of_ble_eq_true rfl, Nat.le_of_ble_eq_true rfl⟩ rfl hl.1 rfl (Nat.le_of_ble_eq_true rfl) d_X11_mirror_88 (fun σ_8 H locs hD hw => ?_)
      exact s_X11_mirror_91 X hr hlk K55 Q hK55 x1 x2 σ_8 hw (lv_sub hl [0, 1, 2] rfl) hD
set_option maxRecDepth 20000 in
set_option maxHeartbeats 4000000 in
theorem sl_X11_mirror_55 {p : Program} {l : Launch} {e : Env} {s : State} {m : MethodId} {args : Array Value} {below : List Frame} {meth : Method} {c : Code} {G : GC} (X : CallFix p m c cm_X11_mirror 3 s args lw_us "GameLoomModel") (hr : meth.sig.returnType = some .int) (hlk : meth.locks = false) (Q : Int32 → GSt → Prop) : ∀ (nn : Nat), ∀ (x1 : Int32) (x2 : Int32) (σ : GSt) (H : Heap) (locs : List Loc) (ls : Array Slot), Wo G s H locs σ → lv_has ls 3 [(0, .ref (G.2.1 237)), (1, .int x1), (2, .int x2)] → L_X11_mirror_55 Q nn x1 x2 σ → W p l e rm_X11_mirror s m args below meth c H locs 0 0 (QMI G Q below args s) (F0 m 55 ls []) := by
  intro nn
  induction nn with
  | zero => intro x1 x2 σ H locs ls  hw hl hD; exact hD.elim
  | succ nn ih =>
    intro x1 x2 σ H locs ls  hw hl hD
    exact s_X11_mirror_55 X hr hlk (L_X11_mirror_55 Q nn) Q ih x1 x2 σ hw hl hD
set_option maxRecDepth 20000 in
set_option maxHeartbeats 4000000 in
theorem s_X11_mirror_0 {p : Program} {l : Launch} {e : Env} {s : State} {m : MethodId} {args : Array Value} {below : List Frame} {meth : Method} {c : Code} {G : GC} (X : CallFix p m c cm_X11_mirror 3 s args lw_us "GameLoomModel") (hr : meth.sig.returnType = some .int) (hlk : meth.locks = false) (Q : Int32 → GSt → Prop) (x1 : Int32) (σ : GSt) {H : Heap} {locs : List Loc} {ls : Array Slot} (hw : Wo G s H locs σ) (hl : lv_has ls 3 [(0, .ref (G.2.1 237)), (1, .int x1)]) (hD : D_X11_mirror_0 Q x1 σ) : W p l e rm_X11_mirror s m args below meth c H locs 0 0 (QMI G Q below args s) (F0 m 0 ls []) := by
  unfold D_X11_mirror_0 at hD
  refine lv_aload_n X.1 X.2.1 d_X11_mirror_0 rfl (lv_at hl 0 rfl) ?_
  refine lv_iload_n X.1 X.2.1 d_X11_mirror_1 rfl (lv_at hl 1 rfl) ?_
  refine gcV_i (rest := []) (As := [.int x1]) (o := 237) X hw (c_X11_isGame l G x1 σ _  hD) (kd_lt (by decide +kernel : kd 237 = 11) (by decide)) (ce_11 G _ (by decide +kernel : kd 237 = 11)) rfl tb_1144 tb_1146 tv_47 tb_12 tb_1147 hd_X11_isGame ⟨rfl, rfl⟩ ⟨Nat.le_of_ble_eq_true rfl, Nat.le_of_ble_eq_true rfl⟩ rfl hl.1 rfl (Nat.le_of_ble_eq_true rfl) d_X11_mirror_2 (fun r_1 σ_2 H locs hD hw => ?_)
  refine lv_if_ne (tgt := 14) X.1 X.2.1 d_X11_mirror_5 (by decide) (fun q_5 => ?_) (fun q_5 => ?_)
  · have hD := hD.1 q_5
    refine lv_aload_n X.1 X.2.1 d_X11_mirror_14 rfl (lv_at hl 0 rfl) ?_
    refine gf_11_20 X hw (by decide +kernel : kd 237 = 11) tb_926 d_X11_mirror_15 ?_
    refine lv_bipush (v := 8) X.1 X.2.1 d_X11_mirror_18 (by decide) ?_
    refine lv_icmp_ne (tgt := 30) X.1 X.2.1 d_X11_mirror_20 (by decide) (fun q_20 => ?_) (fun q_20 => ?_)
    · have hD := hD.1 q_20
      refine lv_aload_n X.1 X.2.1 d_X11_mirror_30 rfl (lv_at hl 0 rfl) ?_
      refine gcV_v (rest := []) (As := []) (o := 237) X hw (c_X11_starts l G  σ_2 _  hD) (kd_lt (by decide +kernel : kd 237 = 11) (by decide)) (ce_11 G _ (by decide +kernel : kd 237 = 11)) rfl tb_1093 tb_1095 tv_36 tb_12 tb_1096 hd_X11_starts ⟨rfl, rfl⟩ ⟨Nat.le_of_ble_eq_true rfl, Nat.le_of_ble_eq_true rfl⟩ rfl hl.1 rfl (Nat.le_of_ble_eq_true rfl) d_X11_mirror_31 (fun σ_3 H locs hD hw => ?_)
      refine lv_aload_n X.1 X.2.1 d_X11_mirror_34 rfl (lv_at hl 0 rfl) ?_
      refine lv_iload_n X.1 X.2.1 d_X11_mirror_35 rfl (lv_at hl 1 rfl) ?_
      refine lv_iconst (v := 0) X.1 X.2.1 d_X11_mirror_36 (by decide) ?_
      refine lv_aload_n X.1 X.2.1 d_X11_mirror_37 rfl (lv_at hl 0 rfl) ?_
      refine gf_11_16 X hw (by decide +kernel : kd 237 = 11) tb_922 d_X11_mirror_38 ?_
      refine lv_iload_n X.1 X.2.1 d_X11_mirror_41 rfl (lv_at hl 1 rfl) ?_
      obtain ⟨q_42, hD⟩ := hD
      refine g_iald X hw ly_11_16.1 ly_11_16.2 q_42 d_X11_mirror_42 ?_
      refine gcV_v (rest := []) (As := [.int x1, .int 0, .int (σ_3 254 (Int32.toNatClampNeg x1))]) (o := 237) X hw (c_X11_addsFrom l G x1 0 (σ_3 254 (Int32.toNatClampNeg x1)) σ_3 _  hD) (kd_lt (by decide +kernel : kd 237 = 11) (by decide)) (ce_11 G _ (by decide +kernel : kd 237 = 11)) rfl tb_1332 tb_1334 tv_77 tb_12 tb_1335 hd_X11_addsFrom ⟨rfl, rfl⟩ ⟨Nat.le_of_ble_eq_true rfl, Nat.le_of_ble_eq_true rfl⟩ rfl hl.1 rfl (Nat.le_of_ble_eq_true rfl) d_X11_mirror_43 (fun σ_4 H locs hD hw => ?_)
      refine lv_aload_n X.1 X.2.1 d_X11_mirror_46 rfl (lv_at hl 0 rfl) ?_
      refine gf_11_10 X hw (by decide +kernel : kd 237 = 11) tb_916 d_X11_mirror_47 ?_
      refine lv_iload_n X.1 X.2.1 d_X11_mirror_50 rfl (lv_at hl 1 rfl) ?_
      obtain ⟨q_51, hD⟩ := hD
      refine g_iald X hw ly_11_10.1 ly_11_10.2 q_51 d_X11_mirror_51 ?_
      refine lv_iconst (v := 1) X.1 X.2.1 d_X11_mirror_52 (by decide) ?_
      refine lv_isub X.1 X.2.1 d_X11_mirror_53 ?_
      refine lv_topi (fun x2_5 e_x2_5 => ?_)
      have hD := hD x2_5 e_x2_5
      refine lv_istore_n (lv' := [(2, .int x2_5), (0, .ref (G.2.1 237)), (1, .int x1)]) X.1 X.2.1 d_X11_mirror_54 rfl hl (by decide) rfl (fun ls hl => ?_)
      obtain ⟨n9, hD⟩ := hD
      exact sl_X11_mirror_55 X hr hlk  Q  n9 x1 x2_5 σ_4 _ _ _  hw (lv_sub hl [1, 2, 0] rfl) hD
    · have hD := hD.2 q_20
      refine lv_aload_n X.1 X.2.1 d_X11_mirror_23 rfl (lv_at hl 0 rfl) ?_
      refine lv_bipush (v := (-6)) X.1 X.2.1 d_X11_mirror_24 (by decide) ?_
      refine gcV_i (rest := []) (As := [.int (-6)]) (o := 237) X hw (c_X11_no l G (-6) σ_2 _  hD) (kd_lt (by decide +kernel : kd 237 = 11) (by decide)) (ce_11 G _ (by decide +kernel : kd 237 = 11)) rfl tb_1084 tb_1086 tv_35 tb_12 tb_1087 hd_X11_no ⟨rfl, rfl⟩ ⟨Nat.le_of_ble_eq_true rfl, Nat.le_of_ble_eq_true rfl⟩ rfl hl.1 rfl (Nat.le_of_ble_eq_true rfl) d_X11_mirror_26 (fun r_6 σ_7 H locs hD hw => ?_)
      exact g_iret X hr hlk hw hD d_X11_mirror_29
  · have hD := hD.2 q_5
    refine lv_aload_n X.1 X.2.1 d_X11_mirror_8 rfl (lv_at hl 0 rfl) ?_
    refine lv_iconst (v := (-1)) X.1 X.2.1 d_X11_mirror_9 (by decide) ?_
    refine gcV_i (rest := []) (As := [.int (-1)]) (o := 237) X hw (c_X11_no l G (-1) σ_2 _  hD) (kd_lt (by decide +kernel : kd 237 = 11) (by decide)) (ce_11 G _ (by decide +kernel : kd 237 = 11)) rfl tb_1084 tb_1086 tv_35 tb_12 tb_1087 hd_X11_no ⟨rfl, rfl⟩ ⟨Nat.le_of_ble_eq_true rfl, Nat.le_of_ble_eq_true rfl⟩ rfl hl.1 rfl (Nat.le_of_ble_eq_true rfl) d_X11_mirror_10 (fun r_8 σ_9 H locs hD hw => ?_)
    exact g_iret X hr hlk hw hD d_X11_mirror_13
theorem c_X11_mirror (l : Launch) (G : GC) (x1 : Int32) (σ : GSt) (Q : Int32 → GSt → Prop)  (hD : D_X11_mirror x1 σ Q) : MI l ym_X11_mirror cm_X11_mirror 3 .int rm_X11_mirror G σ [.ref (G.2.1 237), .int x1] Q := by
  refine met_i (by decide) (Nat.le_of_ble_eq_true rfl) ?_
  intro p e s m args below meth c X hr hlk hw ls hl
  exact s_X11_mirror_0 X hr hlk Q  x1 σ hw (lv_sub hl [0, 1] rfl) hD
theorem hd_X11_kin : ym_X11_kin.cls = "GameLoomModel" ∧ ym_X11_kin.cls ≠ "java/lang/invoke/MethodHandle" ∧ ym_X11_kin.cls ≠ "java/lang/invoke/VarHandle" ∧ (parseMethodDescriptor ym_X11_kin.desc).map (fun d => d.parameters.length) = some 3 := by decide +kernel
abbrev rm_X11_kin : Room := { frames := 7, cells := 0, slots := 0, locals := 183 }
theorem d_X11_kin_0 : decode cm_X11_kin 0 = .ok (.aload_n 0, 1) := by decide +kernel
theorem d_X11_kin_1 : decode cm_X11_kin 1 = .ok (.iload_n 1, 1) := by decide +kernel
theorem d_X11_kin_2 : decode cm_X11_kin 2 = .ok (.invokevirtual 204, 3) := by decide +kernel
theorem d_X11_kin_5 : decode cm_X11_kin 5 = .ok (.ifCond .eq 11, 3) := by decide +kernel
theorem d_X11_kin_8 : decode cm_X11_kin 8 = .ok (.aload_n 0, 1) := by decide +kernel
theorem d_X11_kin_9 : decode cm_X11_kin 9 = .ok (.iload_n 2, 1) := by decide +kernel
theorem d_X11_kin_10 : decode cm_X11_kin 10 = .ok (.invokevirtual 204, 3) := by decide +kernel
theorem d_X11_kin_13 : decode cm_X11_kin 13 = .ok (.ifCond .ne 9, 3) := by decide +kernel
theorem d_X11_kin_16 : decode cm_X11_kin 16 = .ok (.aload_n 0, 1) := by decide +kernel
theorem d_X11_kin_17 : decode cm_X11_kin 17 = .ok (.iconst (-1), 1) := by decide +kernel
theorem d_X11_kin_18 : decode cm_X11_kin 18 = .ok (.invokevirtual 147, 3) := by decide +kernel
theorem d_X11_kin_21 : decode cm_X11_kin 21 = .ok (.ireturn, 1) := by decide +kernel
theorem d_X11_kin_22 : decode cm_X11_kin 22 = .ok (.iload_n 3, 1) := by decide +kernel
theorem d_X11_kin_23 : decode cm_X11_kin 23 = .ok (.i2l, 1) := by decide +kernel
theorem d_X11_kin_24 : decode cm_X11_kin 24 = .ok (.lconst 1, 1) := by decide +kernel
theorem d_X11_kin_25 : decode cm_X11_kin 25 = .ok (.ldc2_w 284, 3) := by decide +kernel
theorem d_X11_kin_28 : decode cm_X11_kin 28 = .ok (.invokestatic 140, 3) := by decide +kernel
theorem d_X11_kin_31 : decode cm_X11_kin 31 = .ok (.istore 4, 2) := by decide +kernel
theorem d_X11_kin_33 : decode cm_X11_kin 33 = .ok (.iload 4, 2) := by decide +kernel
theorem d_X11_kin_35 : decode cm_X11_kin 35 = .ok (.ifCond .eq 10, 3) := by decide +kernel
theorem d_X11_kin_38 : decode cm_X11_kin 38 = .ok (.aload_n 0, 1) := by decide +kernel
theorem d_X11_kin_39 : decode cm_X11_kin 39 = .ok (.iload 4, 2) := by decide +kernel
theorem d_X11_kin_41 : decode cm_X11_kin 41 = .ok (.invokevirtual 147, 3) := by decide +kernel
theorem d_X11_kin_44 : decode cm_X11_kin 44 = .ok (.ireturn, 1) := by decide +kernel
theorem d_X11_kin_45 : decode cm_X11_kin 45 = .ok (.aload_n 0, 1) := by decide +kernel
theorem d_X11_kin_46 : decode cm_X11_kin 46 = .ok (.iload_n 1, 1) := by decide +kernel
theorem d_X11_kin_47 : decode cm_X11_kin 47 = .ok (.invokevirtual 263, 3) := by decide +kernel
theorem d_X11_kin_50 : decode cm_X11_kin 50 = .ok (.aload_n 0, 1) := by decide +kernel
theorem d_X11_kin_51 : decode cm_X11_kin 51 = .ok (.iconst 0, 1) := by decide +kernel
theorem d_X11_kin_52 : decode cm_X11_kin 52 = .ok (.iload_n 3, 1) := by decide +kernel
theorem d_X11_kin_53 : decode cm_X11_kin 53 = .ok (.invokevirtual 286, 3) := by decide +kernel
theorem d_X11_kin_56 : decode cm_X11_kin 56 = .ok (.ifCond .eq 10, 3) := by decide +kernel
theorem d_X11_kin_59 : decode cm_X11_kin 59 = .ok (.aload_n 0, 1) := by decide +kernel
theorem d_X11_kin_60 : decode cm_X11_kin 60 = .ok (.bipush (-5), 2) := by decide +kernel
theorem d_X11_kin_62 : decode cm_X11_kin 62 = .ok (.invokevirtual 147, 3) := by decide +kernel
theorem d_X11_kin_65 : decode cm_X11_kin 65 = .ok (.ireturn, 1) := by decide +kernel
theorem d_X11_kin_66 : decode cm_X11_kin 66 = .ok (.iconst 0, 1) := by decide +kernel
theorem d_X11_kin_67 : decode cm_X11_kin 67 = .ok (.istore 5, 2) := by decide +kernel
theorem d_X11_kin_69 : decode cm_X11_kin 69 = .ok (.iload 5, 2) := by decide +kernel
theorem d_X11_kin_71 : decode cm_X11_kin 71 = .ok (.bipush 8, 2) := by decide +kernel
theorem d_X11_kin_73 : decode cm_X11_kin 73 = .ok (.if_icmp .ge 23, 3) := by decide +kernel
theorem d_X11_kin_76 : decode cm_X11_kin 76 = .ok (.aload_n 0, 1) := by decide +kernel
theorem d_X11_kin_77 : decode cm_X11_kin 77 = .ok (.getfield 129, 3) := by decide +kernel
theorem d_X11_kin_80 : decode cm_X11_kin 80 = .ok (.iload 5, 2) := by decide +kernel
theorem d_X11_kin_82 : decode cm_X11_kin 82 = .ok (.aload_n 0, 1) := by decide +kernel
theorem d_X11_kin_83 : decode cm_X11_kin 83 = .ok (.getfield 113, 3) := by decide +kernel
theorem d_X11_kin_86 : decode cm_X11_kin 86 = .ok (.iload 5, 2) := by decide +kernel
theorem d_X11_kin_88 : decode cm_X11_kin 88 = .ok (.iaload, 1) := by decide +kernel
theorem d_X11_kin_89 : decode cm_X11_kin 89 = .ok (.iastore, 1) := by decide +kernel
theorem d_X11_kin_90 : decode cm_X11_kin 90 = .ok (.iinc 5 1, 3) := by decide +kernel
theorem d_X11_kin_93 : decode cm_X11_kin 93 = .ok (.goto (-24), 3) := by decide +kernel
theorem d_X11_kin_96 : decode cm_X11_kin 96 = .ok (.aload_n 0, 1) := by decide +kernel
theorem d_X11_kin_97 : decode cm_X11_kin 97 = .ok (.iload_n 2, 1) := by decide +kernel
theorem d_X11_kin_98 : decode cm_X11_kin 98 = .ok (.invokevirtual 263, 3) := by decide +kernel
theorem d_X11_kin_101 : decode cm_X11_kin 101 = .ok (.aload_n 0, 1) := by decide +kernel
theorem d_X11_kin_102 : decode cm_X11_kin 102 = .ok (.iconst 0, 1) := by decide +kernel
theorem d_X11_kin_103 : decode cm_X11_kin 103 = .ok (.iload_n 3, 1) := by decide +kernel
theorem d_X11_kin_104 : decode cm_X11_kin 104 = .ok (.invokevirtual 286, 3) := by decide +kernel
theorem d_X11_kin_107 : decode cm_X11_kin 107 = .ok (.ifCond .eq 10, 3) := by decide +kernel
theorem d_X11_kin_110 : decode cm_X11_kin 110 = .ok (.aload_n 0, 1) := by decide +kernel
theorem d_X11_kin_111 : decode cm_X11_kin 111 = .ok (.bipush (-5), 2) := by decide +kernel
theorem d_X11_kin_113 : decode cm_X11_kin 113 = .ok (.invokevirtual 147, 3) := by decide +kernel
theorem d_X11_kin_116 : decode cm_X11_kin 116 = .ok (.ireturn, 1) := by decide +kernel
theorem d_X11_kin_117 : decode cm_X11_kin 117 = .ok (.iconst 1, 1) := by decide +kernel
theorem d_X11_kin_118 : decode cm_X11_kin 118 = .ok (.istore 5, 2) := by decide +kernel
theorem d_X11_kin_120 : decode cm_X11_kin 120 = .ok (.iconst 1, 1) := by decide +kernel
theorem d_X11_kin_121 : decode cm_X11_kin 121 = .ok (.istore 6, 2) := by decide +kernel
theorem d_X11_kin_123 : decode cm_X11_kin 123 = .ok (.iload 6, 2) := by decide +kernel
theorem d_X11_kin_125 : decode cm_X11_kin 125 = .ok (.iload_n 3, 1) := by decide +kernel
theorem d_X11_kin_126 : decode cm_X11_kin 126 = .ok (.if_icmp .gt 34, 3) := by decide +kernel
theorem d_X11_kin_129 : decode cm_X11_kin 129 = .ok (.aload_n 0, 1) := by decide +kernel
theorem d_X11_kin_130 : decode cm_X11_kin 130 = .ok (.getfield 129, 3) := by decide +kernel
theorem d_X11_kin_133 : decode cm_X11_kin 133 = .ok (.iload 6, 2) := by decide +kernel
theorem d_X11_kin_135 : decode cm_X11_kin 135 = .ok (.iaload, 1) := by decide +kernel
theorem d_X11_kin_136 : decode cm_X11_kin 136 = .ok (.aload_n 0, 1) := by decide +kernel
theorem d_X11_kin_137 : decode cm_X11_kin 137 = .ok (.getfield 113, 3) := by decide +kernel
theorem d_X11_kin_140 : decode cm_X11_kin 140 = .ok (.iload 6, 2) := by decide +kernel
theorem d_X11_kin_142 : decode cm_X11_kin 142 = .ok (.iaload, 1) := by decide +kernel
theorem d_X11_kin_143 : decode cm_X11_kin 143 = .ok (.if_icmp .ne 8, 3) := by decide +kernel
theorem d_X11_kin_146 : decode cm_X11_kin 146 = .ok (.iload 5, 2) := by decide +kernel
theorem d_X11_kin_148 : decode cm_X11_kin 148 = .ok (.goto 4, 3) := by decide +kernel
theorem d_X11_kin_151 : decode cm_X11_kin 151 = .ok (.iconst 0, 1) := by decide +kernel
theorem d_X11_kin_152 : decode cm_X11_kin 152 = .ok (.istore 5, 2) := by decide +kernel
theorem d_X11_kin_154 : decode cm_X11_kin 154 = .ok (.iinc 6 1, 3) := by decide +kernel
theorem d_X11_kin_157 : decode cm_X11_kin 157 = .ok (.goto (-34), 3) := by decide +kernel
theorem d_X11_kin_160 : decode cm_X11_kin 160 = .ok (.iload 5, 2) := by decide +kernel
theorem d_X11_kin_162 : decode cm_X11_kin 162 = .ok (.ireturn, 1) := by decide +kernel
def D_X11_kin_152 (K123 : Int32 → Int32 → Int32 → GSt → Prop) (Q : Int32 → GSt → Prop) (x3 : Int32) (x6 : Int32) (s0 : Int32) (σ : GSt) : Prop :=
  ∀ x6_1 : Int32, x6_1 = x6 + 1 → (K123 x3 s0 x6_1 σ)
def D_X11_kin_123 (K123 : Int32 → Int32 → Int32 → GSt → Prop) (Q : Int32 → GSt → Prop) (x3 : Int32) (x5 : Int32) (x6 : Int32) (σ : GSt) : Prop :=
  (x3 < x6 → Q x5 σ) ∧
  (¬ x3 < x6 → vp_in x6 8 ∧ (vp_in x6 8 ∧ ((¬ (σ 276 (Int32.toNatClampNeg x6)) = (σ 272 (Int32.toNatClampNeg x6)) → D_X11_kin_152 K123 Q x3 x6 0 σ) ∧
  ((σ 276 (Int32.toNatClampNeg x6)) = (σ 272 (Int32.toNatClampNeg x6)) → D_X11_kin_152 K123 Q x3 x6 x5 σ))))
def L_X11_kin_123 (Q : Int32 → GSt → Prop) : Nat → Int32 → Int32 → Int32 → GSt → Prop
  | 0 => fun _ _ _ _ => False
  | n + 1 => fun x3 x5 x6 σ => D_X11_kin_123 (L_X11_kin_123 Q n) Q x3 x5 x6 σ
def D_X11_kin_69 (K69 : Int32 → Int32 → Int32 → GSt → Prop) (Q : Int32 → GSt → Prop) (x2 : Int32) (x3 : Int32) (x5 : Int32) (σ : GSt) : Prop :=
  (8 ≤ x5 → D_X11_opens x2 σ (fun σ_1 => D_X11_isSpent 0 x3 σ_1 (fun r_2 σ_3 => (r_2 = 0 → ∃ n : Nat, L_X11_kin_123 Q n x3 1 1 σ_3) ∧
  (¬ r_2 = 0 → D_X11_no (-5) σ_3 (fun r_4 σ_5 => Q r_4 σ_5))))) ∧
  (¬ 8 ≤ x5 → vp_in x5 8 ∧ (vp_in x5 8 ∧ (∀ σ_6 : GSt, σ_6 = up2 σ 276 (Int32.toNatClampNeg x5) (σ 272 (Int32.toNatClampNeg x5)) → (∀ x5_7 : Int32, x5_7 = x5 + 1 → (K69 x2 x3 x5_7 σ_6)))))
def L_X11_kin_69 (Q : Int32 → GSt → Prop) : Nat → Int32 → Int32 → Int32 → GSt → Prop
  | 0 => fun _ _ _ _ => False
  | n + 1 => fun x2 x3 x5 σ => D_X11_kin_69 (L_X11_kin_69 Q n) Q x2 x3 x5 σ
def D_X11_kin_16 (Q : Int32 → GSt → Prop) (σ : GSt) : Prop :=
  D_X11_no (-1) σ (fun r_1 σ_2 => Q r_1 σ_2)
def D_X11_kin_0 (Q : Int32 → GSt → Prop) (x1 : Int32) (x2 : Int32) (x3 : Int32) (σ : GSt) : Prop :=
  D_X11_isGame x1 σ (fun r_1 σ_2 => (r_1 = 0 → D_X11_kin_16 Q σ_2) ∧
  (¬ r_1 = 0 → D_X11_isGame x2 σ_2 (fun r_3 σ_4 => (¬ r_3 = 0 → D_X11_out (Int32.toInt64 x3) 1 6 σ_4 (fun r_5 σ_6 => (r_5 = 0 → D_X11_opens x1 σ_6 (fun σ_7 => D_X11_isSpent 0 x3 σ_7 (fun r_8 σ_9 => (r_8 = 0 → ∃ n : Nat, L_X11_kin_69 Q n x2 x3 0 σ_9) ∧
  (¬ r_8 = 0 → D_X11_no (-5) σ_9 (fun r_10 σ_11 => Q r_10 σ_11))))) ∧
  (¬ r_5 = 0 → D_X11_no r_5 σ_6 (fun r_12 σ_13 => Q r_12 σ_13)))) ∧
  (r_3 = 0 → D_X11_kin_16 Q σ_4))))
def D_X11_kin (x1 : Int32) (x2 : Int32) (x3 : Int32) (σ : GSt) (Q : Int32 → GSt → Prop) : Prop := D_X11_kin_0 Q x1 x2 x3 σ
set_option maxRecDepth 20000 in
set_option maxHeartbeats 4000000 in
theorem s_X11_kin_152 {p : Program} {l : Launch} {e : Env} {s : State} {m : MethodId} {args : Array Value} {below : List Frame} {meth : Method} {c : Code} {G : GC} (X : CallFix p m c cm_X11_kin 7 s args lw_us "GameLoomModel") (hr : meth.sig.returnType = some .int) (hlk : meth.locks = false) (K123 : Int32 → Int32 → Int32 → GSt → Prop) (Q : Int32 → GSt → Prop) (hK123 : ∀ (x3 : Int32) (x5 : Int32) (x6 : Int32) (σ : GSt) (H : Heap) (locs : List Loc) (ls : Array Slot), Wo G s H locs σ → lv_has ls 7 [(0, .ref (G.2.1 237)), (3, .int x3), (5, .int x5), (6, .int x6)] → K123 x3 x5 x6 σ → W p l e rm_X11_kin s m args below meth c H locs 0 0 (QMI G Q below args s) (F0 m 123 ls [])) (x3 : Int32) (x6 : Int32) (s0 : Int32) (σ : GSt) {H : Heap} {locs : List Loc} {ls : Array Slot} (hw : Wo G s H locs σ) (hl : lv_has ls 7 [(0, .ref (G.2.1 237)), (3, .int x3), (6, .int x6)]) (hD : D_X11_kin_152 K123 Q x3 x6 s0 σ) : W p l e rm_X11_kin s m args below meth c H locs 0 0 (QMI G Q below args s) (F0 m 152 ls [.int s0]) := by
  unfold D_X11_kin_152 at hD
  refine lv_istore (lv' := [(5, .int s0), (0, .ref (G.2.1 237)), (3, .int x3), (6, .int x6)]) X.1 X.2.1 d_X11_kin_152 hl (by decide) rfl (fun ls hl => ?_)
  obtain ⟨x6_1, e_x6_1⟩ : ∃ y : Int32, y = x6 + 1 := ⟨_, rfl⟩
  have hD := hD x6_1 e_x6_1
  refine lv_iinc (v := x6_1) (lv' := [(6, .int x6_1), (5, .int s0), (0, .ref (G.2.1 237)), (3, .int x3)]) X.1 X.2.1 d_X11_kin_154 hl (k := 3) rfl (by rw [e_x6_1]; rfl) (by decide) rfl (fun ls hl => ?_)
  refine lv_goto (tgt := 123) X.1 X.2.1 d_X11_kin_157 (by decide) ?_
  exact hK123 x3 s0 x6_1 σ _ _ _  hw (lv_sub hl [2, 3, 1, 0] rfl) hD
set_option maxRecDepth 20000 in
set_option maxHeartbeats 4000000 in
theorem s_X11_kin_123 {p : Program} {l : Launch} {e : Env} {s : State} {m : MethodId} {args : Array Value} {below : List Frame} {meth : Method} {c : Code} {G : GC} (X : CallFix p m c cm_X11_kin 7 s args lw_us "GameLoomModel") (hr : meth.sig.returnType = some .int) (hlk : meth.locks = false) (K123 : Int32 → Int32 → Int32 → GSt → Prop) (Q : Int32 → GSt → Prop) (hK123 : ∀ (x3 : Int32) (x5 : Int32) (x6 : Int32) (σ : GSt) (H : Heap) (locs : List Loc) (ls : Array Slot), Wo G s H locs σ → lv_has ls 7 [(0, .ref (G.2.1 237)), (3, .int x3), (5, .int x5), (6, .int x6)] → K123 x3 x5 x6 σ → W p l e rm_X11_kin s m args below meth c H locs 0 0 (QMI G Q below args s) (F0 m 123 ls [])) (x3 : Int32) (x5 : Int32) (x6 : Int32) (σ : GSt) {H : Heap} {locs : List Loc} {ls : Array Slot} (hw : Wo G s H locs σ) (hl : lv_has ls 7 [(0, .ref (G.2.1 237)), (3, .int x3), (5, .int x5), (6, .int x6)]) (hD : D_X11_kin_123 K123 Q x3 x5 x6 σ) : W p l e rm_X11_kin s m args below meth c H locs 0 0 (QMI G Q below args s) (F0 m 123 ls []) := by
  unfold D_X11_kin_123 at hD
  refine lv_iload X.1 X.2.1 d_X11_kin_123 (lv_at hl 3 rfl) ?_
  refine lv_iload_n X.1 X.2.1 d_X11_kin_125 rfl (lv_at hl 1 rfl) ?_
  refine lv_icmp_gt (tgt := 160) X.1 X.2.1 d_X11_kin_126 (by decide) (fun q_126 => ?_) (fun q_126 => ?_)
  · have hD := hD.1 q_126
    refine lv_iload X.1 X.2.1 d_X11_kin_160 (lv_at hl 2 rfl) ?_
    exact g_iret X hr hlk hw hD d_X11_kin_162
  · have hD := hD.2 q_126
    refine lv_aload_n X.1 X.2.1 d_X11_kin_129 rfl (lv_at hl 0 rfl) ?_
    refine gf_11_53 X hw (by decide +kernel : kd 237 = 11) tb_959 d_X11_kin_130 ?_
    refine lv_iload X.1 X.2.1 d_X11_kin_133 (lv_at hl 3 rfl) ?_
    obtain ⟨q_135, hD⟩ := hD
    refine g_iald X hw ly_11_53.1 ly_11_53.2 q_135 d_X11_kin_135 ?_
    refine lv_aload_n X.1 X.2.1 d_X11_kin_136 rfl (lv_at hl 0 rfl) ?_
    refine gf_11_38 X hw (by decide +kernel : kd 237 = 11) tb_944 d_X11_kin_137 ?_
    refine lv_iload X.1 X.2.1 d_X11_kin_140 (lv_at hl 3 rfl) ?_
    obtain ⟨q_142, hD⟩ := hD
    refine g_iald X hw ly_11_38.1 ly_11_38.2 q_142 d_X11_kin_142 ?_
    refine lv_icmp_ne (tgt := 151) X.1 X.2.1 d_X11_kin_143 (by decide) (fun q_143 => ?_) (fun q_143 => ?_)
    · have hD := hD.1 q_143
      refine lv_iconst (v := 0) X.1 X.2.1 d_X11_kin_151 (by decide) ?_
      exact s_X11_kin_152 X hr hlk K123 Q hK123 x3 x6 0 σ hw (lv_sub hl [0, 1, 3] rfl) hD
    · have hD := hD.2 q_143
      refine lv_iload X.1 X.2.1 d_X11_kin_146 (lv_at hl 2 rfl) ?_
      refine lv_goto (tgt := 152) X.1 X.2.1 d_X11_kin_148 (by decide) ?_
      exact s_X11_kin_152 X hr hlk K123 Q hK123 x3 x6 x5 σ hw (lv_sub hl [0, 1, 3] rfl) hD
set_option maxRecDepth 20000 in
set_option maxHeartbeats 4000000 in
theorem sl_X11_kin_123 {p : Program} {l : Launch} {e : Env} {s : State} {m : MethodId} {args : Array Value} {below : List Frame} {meth : Method} {c : Code} {G : GC} (X : CallFix p m c cm_X11_kin 7 s args lw_us "GameLoomModel") (hr : meth.sig.returnType = some .int) (hlk : meth.locks = false) (Q : Int32 → GSt → Prop) : ∀ (nn : Nat), ∀ (x3 : Int32) (x5 : Int32) (x6 : Int32) (σ : GSt) (H : Heap) (locs : List Loc) (ls : Array Slot), Wo G s H locs σ → lv_has ls 7 [(0, .ref (G.2.1 237)), (3, .int x3), (5, .int x5), (6, .int x6)] → L_X11_kin_123 Q nn x3 x5 x6 σ → W p l e rm_X11_kin s m args below meth c H locs 0 0 (QMI G Q below args s) (F0 m 123 ls []) := by
  intro nn
  induction nn with
  | zero => intro x3 x5 x6 σ H locs ls  hw hl hD; exact hD.elim
  | succ nn ih =>
    intro x3 x5 x6 σ H locs ls  hw hl hD
    exact s_X11_kin_123 X hr hlk (L_X11_kin_123 Q nn) Q ih x3 x5 x6 σ hw hl hD
set_option maxRecDepth 20000 in
set_option maxHeartbeats 4000000 in
theorem s_X11_kin_69 {p : Program} {l : Launch} {e : Env} {s : State} {m : MethodId} {args : Array Value} {below : List Frame} {meth : Method} {c : Code} {G : GC} (X : CallFix p m c cm_X11_kin 7 s args lw_us "GameLoomModel") (hr : meth.sig.returnType = some .int) (hlk : meth.locks = false) (K69 : Int32 → Int32 → Int32 → GSt → Prop) (Q : Int32 → GSt → Prop) (hK69 : ∀ (x2 : Int32) (x3 : Int32) (x5 : Int32) (σ : GSt) (H : Heap) (locs : List Loc) (ls : Array Slot), Wo G s H locs σ → lv_has ls 7 [(0, .ref (G.2.1 237)), (2, .int x2), (3, .int x3), (5, .int x5)] → K69 x2 x3 x5 σ → W p l e rm_X11_kin s m args below meth c H locs 0 0 (QMI G Q below args s) (F0 m 69 ls [])) (x2 : Int32) (x3 : Int32) (x5 : Int32) (σ : GSt) {H : Heap} {locs : List Loc} {ls : Array Slot} (hw : Wo G s H locs σ) (hl : lv_has ls 7 [(0, .ref (G.2.1 237)), (2, .int x2), (3, .int x3), (5, .int x5)]) (hD : D_X11_kin_69 K69 Q x2 x3 x5 σ) : W p l e rm_X11_kin s m args below meth c H locs 0 0 (QMI G Q below args s) (F0 m 69 ls []) := by
  unfold D_X11_kin_69 at hD
  refine lv_iload X.1 X.2.1 d_X11_kin_69 (lv_at hl 3 rfl) ?_
  refine lv_bipush (v := 8) X.1 X.2.1 d_X11_kin_71 (by decide) ?_
  refine lv_icmp_ge (tgt := 96) X.1 X.2.1 d_X11_kin_73 (by decide) (fun q_73 => ?_) (fun q_73 => ?_)
  · have hD := hD.1 q_73
    refine lv_aload_n X.1 X.2.1 d_X11_kin_96 rfl (lv_at hl 0 rfl) ?_
    refine lv_iload_n X.1 X.2.1 d_X11_kin_97 rfl (lv_at hl 1 rfl) ?_
    refine gcV_v (rest := []) (As := [.int x2]) (o := 237) X hw (c_X11_opens l G x2 σ _  hD) (kd_lt (by decide +kernel : kd 237 = 11) (by decide)) (ce_11 G _ (by decide +kernel : kd 237 = 11)) rfl tb_1160 tb_1162 tv_49 tb_12 tb_1163 hd_X11_opens ⟨rfl, rfl⟩ ⟨Nat.le_of_ble_eq_true rfl, Nat.le_of_ble_eq_true rfl⟩ rfl hl.1 rfl (Nat.le_of_ble_eq_true rfl) d_X11_kin_98 (fun σ_1 H locs hD hw => ?_)
    refine lv_aload_n X.1 X.2.1 d_X11_kin_101 rfl (lv_at hl 0 rfl) ?_
    refine lv_iconst (v := 0) X.1 X.2.1 d_X11_kin_102 (by decide) ?_
    refine lv_iload_n X.1 X.2.1 d_X11_kin_103 rfl (lv_at hl 2 rfl) ?_
    refine gcV_i (rest := []) (As := [.int 0, .int x3]) (o := 237) X hw (c_X11_isSpent l G 0 x3 σ_1 _  hD) (kd_lt (by decide +kernel : kd 237 = 11) (by decide)) (ce_11 G _ (by decide +kernel : kd 237 = 11)) rfl tb_1261 tb_1263 tv_68 tb_12 tb_1264 hd_X11_isSpent ⟨rfl, rfl⟩ ⟨Nat.le_of_ble_eq_true rfl, Nat.le_of_ble_eq_true rfl⟩ rfl hl.1 rfl (Nat.le_of_ble_eq_true rfl) d_X11_kin_104 (fun r_2 σ_3 H locs hD hw => ?_)
    refine lv_if_eq (tgt := 117) X.1 X.2.1 d_X11_kin_107 (by decide) (fun q_107 => ?_) (fun q_107 => ?_)
    · have hD := hD.1 q_107
      refine lv_iconst (v := 1) X.1 X.2.1 d_X11_kin_117 (by decide) ?_
      refine lv_istore (lv' := [(5, .int 1), (0, .ref (G.2.1 237)), (2, .int x2), (3, .int x3)]) X.1 X.2.1 d_X11_kin_118 hl (by decide) rfl (fun ls hl => ?_)
      refine lv_iconst (v := 1) X.1 X.2.1 d_X11_kin_120 (by decide) ?_
      refine lv_istore (lv' := [(6, .int 1), (5, .int 1), (0, .ref (G.2.1 237)), (2, .int x2), (3, .int x3)]) X.1 X.2.1 d_X11_kin_121 hl (by decide) rfl (fun ls hl => ?_)
      obtain ⟨n9, hD⟩ := hD
      exact sl_X11_kin_123 X hr hlk  Q  n9 x3 1 1 σ_3 _ _ _  hw (lv_sub hl [2, 4, 1, 0] rfl) hD
    · have hD := hD.2 q_107
      refine lv_aload_n X.1 X.2.1 d_X11_kin_110 rfl (lv_at hl 0 rfl) ?_
      refine lv_bipush (v := (-5)) X.1 X.2.1 d_X11_kin_111 (by decide) ?_
      refine gcV_i (rest := []) (As := [.int (-5)]) (o := 237) X hw (c_X11_no l G (-5) σ_3 _  hD) (kd_lt (by decide +kernel : kd 237 = 11) (by decide)) (ce_11 G _ (by decide +kernel : kd 237 = 11)) rfl tb_1084 tb_1086 tv_35 tb_12 tb_1087 hd_X11_no ⟨rfl, rfl⟩ ⟨Nat.le_of_ble_eq_true rfl, Nat.le_of_ble_eq_true rfl⟩ rfl hl.1 rfl (Nat.le_of_ble_eq_true rfl) d_X11_kin_113 (fun r_4 σ_5 H locs hD hw => ?_)
      exact g_iret X hr hlk hw hD d_X11_kin_116
  · have hD := hD.2 q_73
    refine lv_aload_n X.1 X.2.1 d_X11_kin_76 rfl (lv_at hl 0 rfl) ?_
    refine gf_11_53 X hw (by decide +kernel : kd 237 = 11) tb_959 d_X11_kin_77 ?_
    refine lv_iload X.1 X.2.1 d_X11_kin_80 (lv_at hl 3 rfl) ?_
    refine lv_aload_n X.1 X.2.1 d_X11_kin_82 rfl (lv_at hl 0 rfl) ?_
    refine gf_11_38 X hw (by decide +kernel : kd 237 = 11) tb_944 d_X11_kin_83 ?_
    refine lv_iload X.1 X.2.1 d_X11_kin_86 (lv_at hl 3 rfl) ?_
    obtain ⟨q_88, hD⟩ := hD
    refine g_iald X hw ly_11_38.1 ly_11_38.2 q_88 d_X11_kin_88 ?_
    obtain ⟨q_89, hD⟩ := hD
    refine g_iast X hw ly_11_53.1 ly_11_53.2 q_89 d_X11_kin_89 (fun H locs hw => ?_)
    obtain ⟨σ_6, e_σ_6⟩ : ∃ z : GSt, z = up2 σ 276 (Int32.toNatClampNeg x5) (σ 272 (Int32.toNatClampNeg x5)) := ⟨_, rfl⟩
    rw [← e_σ_6] at hw
    have hD := hD σ_6 e_σ_6
    obtain ⟨x5_7, e_x5_7⟩ : ∃ y : Int32, y = x5 + 1 := ⟨_, rfl⟩
    have hD := hD x5_7 e_x5_7
    refine lv_iinc (v := x5_7) (lv' := [(5, .int x5_7), (0, .ref (G.2.1 237)), (2, .int x2), (3, .int x3)]) X.1 X.2.1 d_X11_kin_90 hl (k := 3) rfl (by rw [e_x5_7]; rfl) (by decide) rfl (fun ls hl => ?_)
    refine lv_goto (tgt := 69) X.1 X.2.1 d_X11_kin_93 (by decide) ?_
    exact hK69 x2 x3 x5_7 σ_6 _ _ _  hw (lv_sub hl [1, 2, 3, 0] rfl) hD
set_option maxRecDepth 20000 in
set_option maxHeartbeats 4000000 in
theorem sl_X11_kin_69 {p : Program} {l : Launch} {e : Env} {s : State} {m : MethodId} {args : Array Value} {below : List Frame} {meth : Method} {c : Code} {G : GC} (X : CallFix p m c cm_X11_kin 7 s args lw_us "GameLoomModel") (hr : meth.sig.returnType = some .int) (hlk : meth.locks = false) (Q : Int32 → GSt → Prop) : ∀ (nn : Nat), ∀ (x2 : Int32) (x3 : Int32) (x5 : Int32) (σ : GSt) (H : Heap) (locs : List Loc) (ls : Array Slot), Wo G s H locs σ → lv_has ls 7 [(0, .ref (G.2.1 237)), (2, .int x2), (3, .int x3), (5, .int x5)] → L_X11_kin_69 Q nn x2 x3 x5 σ → W p l e rm_X11_kin s m args below meth c H locs 0 0 (QMI G Q below args s) (F0 m 69 ls []) := by
  intro nn
  induction nn with
  | zero => intro x2 x3 x5 σ H locs ls  hw hl hD; exact hD.elim
  | succ nn ih =>
    intro x2 x3 x5 σ H locs ls  hw hl hD
    exact s_X11_kin_69 X hr hlk (L_X11_kin_69 Q nn) Q ih x2 x3 x5 σ hw hl hD
set_option maxRecDepth 20000 in
set_option maxHeartbeats 4000000 in
theorem s_X11_kin_16 {p : Program} {l : Launch} {e : Env} {s : State} {m : MethodId} {args : Array Value} {below : List Frame} {meth : Method} {c : Code} {G : GC} (X : CallFix p m c cm_X11_kin 7 s args lw_us "GameLoomModel") (hr : meth.sig.returnType = some .int) (hlk : meth.locks = false) (Q : Int32 → GSt → Prop) (σ : GSt) {H : Heap} {locs : List Loc} {ls : Array Slot} (hw : Wo G s H locs σ) (hl : lv_has ls 7 [(0, .ref (G.2.1 237))]) (hD : D_X11_kin_16 Q σ) : W p l e rm_X11_kin s m args below meth c H locs 0 0 (QMI G Q below args s) (F0 m 16 ls []) := by
  unfold D_X11_kin_16 at hD
  refine lv_aload_n X.1 X.2.1 d_X11_kin_16 rfl (lv_at hl 0 rfl) ?_
  refine lv_iconst (v := (-1)) X.1 X.2.1 d_X11_kin_17 (by decide) ?_
  refine gcV_i (rest := []) (As := [.int (-1)]) (o := 237) X hw (c_X11_no l G (-1) σ _  hD) (kd_lt (by decide +kernel : kd 237 = 11) (by decide)) (ce_11 G _ (by decide +kernel : kd 237 = 11)) rfl tb_1084 tb_1086 tv_35 tb_12 tb_1087 hd_X11_no ⟨rfl, rfl⟩ ⟨Nat.le_of_ble_eq_true rfl, Nat.le_of_ble_eq_true rfl⟩ rfl hl.1 rfl (Nat.le_of_ble_eq_true rfl) d_X11_kin_18 (fun r_1 σ_2 H locs hD hw => ?_)
  exact g_iret X hr hlk hw hD d_X11_kin_21
set_option maxRecDepth 20000 in
set_option maxHeartbeats 4000000 in
theorem s_X11_kin_0 {p : Program} {l : Launch} {e : Env} {s : State} {m : MethodId} {args : Array Value} {below : List Frame} {meth : Method} {c : Code} {G : GC} (X : CallFix p m c cm_X11_kin 7 s args lw_us "GameLoomModel") (hr : meth.sig.returnType = some .int) (hlk : meth.locks = false) (Q : Int32 → GSt → Prop) (x1 : Int32) (x2 : Int32) (x3 : Int32) (σ : GSt) {H : Heap} {locs : List Loc} {ls : Array Slot} (hw : Wo G s H locs σ) (hl : lv_has ls 7 [(0, .ref (G.2.1 237)), (1, .int x1), (2, .int x2), (3, .int x3)]) (hD : D_X11_kin_0 Q x1 x2 x3 σ) : W p l e rm_X11_kin s m args below meth c H locs 0 0 (QMI G Q below args s) (F0 m 0 ls []) := by
  unfold D_X11_kin_0 at hD
  refine lv_aload_n X.1 X.2.1 d_X11_kin_0 rfl (lv_at hl 0 rfl) ?_
  refine lv_iload_n X.1 X.2.1 d_X11_kin_1 rfl (lv_at hl 1 rfl) ?_
  refine gcV_i (rest := []) (As := [.int x1]) (o := 237) X hw (c_X11_isGame l G x1 σ _  hD) (kd_lt (by decide +kernel : kd 237 = 11) (by decide)) (ce_11 G _ (by decide +kernel : kd 237 = 11)) rfl tb_1144 tb_1146 tv_47 tb_12 tb_1147 hd_X11_isGame ⟨rfl, rfl⟩ ⟨Nat.le_of_ble_eq_true rfl, Nat.le_of_ble_eq_true rfl⟩ rfl hl.1 rfl (Nat.le_of_ble_eq_true rfl) d_X11_kin_2 (fun r_1 σ_2 H locs hD hw => ?_)
  refine lv_if_eq (tgt := 16) X.1 X.2.1 d_X11_kin_5 (by decide) (fun q_5 => ?_) (fun q_5 => ?_)
  · have hD := hD.1 q_5
    exact s_X11_kin_16 X hr hlk  Q   σ_2 hw (lv_sub hl [0] rfl) hD
  · have hD := hD.2 q_5
    refine lv_aload_n X.1 X.2.1 d_X11_kin_8 rfl (lv_at hl 0 rfl) ?_
    refine lv_iload_n X.1 X.2.1 d_X11_kin_9 rfl (lv_at hl 2 rfl) ?_
    refine gcV_i (rest := []) (As := [.int x2]) (o := 237) X hw (c_X11_isGame l G x2 σ_2 _  hD) (kd_lt (by decide +kernel : kd 237 = 11) (by decide)) (ce_11 G _ (by decide +kernel : kd 237 = 11)) rfl tb_1144 tb_1146 tv_47 tb_12 tb_1147 hd_X11_isGame ⟨rfl, rfl⟩ ⟨Nat.le_of_ble_eq_true rfl, Nat.le_of_ble_eq_true rfl⟩ rfl hl.1 rfl (Nat.le_of_ble_eq_true rfl) d_X11_kin_10 (fun r_3 σ_4 H locs hD hw => ?_)
    refine lv_if_ne (tgt := 22) X.1 X.2.1 d_X11_kin_13 (by decide) (fun q_13 => ?_) (fun q_13 => ?_)
    · have hD := hD.1 q_13
      refine lv_iload_n X.1 X.2.1 d_X11_kin_22 rfl (lv_at hl 3 rfl) ?_
      refine lv_i2l (v := (Int32.toInt64 x3)) X.1 X.2.1 d_X11_kin_23 rfl ?_
      refine lv_lconst (v := 1) X.1 X.2.1 d_X11_kin_24 (by decide) ?_
      refine lv_ldc2 (v := 6) X.1 X.2.1 X.2.2.2.1 (X.2.2.2.2 _ tb_1260) d_X11_kin_25 ?_
      refine gcS_i (rest := []) (As := [.long (Int32.toInt64 x3), .long 1, .long 6]) X hw (c_X11_out l G (Int32.toInt64 x3) 1 6 σ_4 _  hD) tb_1081 tb_1082 tb_12 tb_1083 hd_X11_out ⟨rfl, rfl⟩ ⟨Nat.le_of_ble_eq_true rfl, Nat.le_of_ble_eq_true rfl⟩ rfl hl.1 rfl (Nat.le_of_ble_eq_true rfl) d_X11_kin_28 (fun r_5 σ_6 H locs hD hw => ?_)
      refine lv_istore (lv' := [(4, .int r_5), (0, .ref (G.2.1 237)), (1, .int x1), (2, .int x2), (3, .int x3)]) X.1 X.2.1 d_X11_kin_31 hl (by decide) rfl (fun ls hl => ?_)
      refine lv_iload X.1 X.2.1 d_X11_kin_33 (lv_at hl 0 rfl) ?_
      refine lv_if_eq (tgt := 45) X.1 X.2.1 d_X11_kin_35 (by decide) (fun q_35 => ?_) (fun q_35 => ?_)
      · have hD := hD.1 q_35
        refine lv_aload_n X.1 X.2.1 d_X11_kin_45 rfl (lv_at hl 1 rfl) ?_
        refine lv_iload_n X.1 X.2.1 d_X11_kin_46 rfl (lv_at hl 2 rfl) ?_
        refine gcV_v (rest := []) (As := [.int x1]) (o := 237) X hw (c_X11_opens l G x1 σ_6 _  hD) (kd_lt (by decide +kernel : kd 237 = 11) (by decide)) (ce_11 G _ (by decide +kernel : kd 237 = 11)) rfl tb_1160 tb_1162 tv_49 tb_12 tb_1163 hd_X11_opens ⟨rfl, rfl⟩ ⟨Nat.le_of_ble_eq_true rfl, Nat.le_of_ble_eq_true rfl⟩ rfl hl.1 rfl (Nat.le_of_ble_eq_true rfl) d_X11_kin_47 (fun σ_7 H locs hD hw => ?_)
        refine lv_aload_n X.1 X.2.1 d_X11_kin_50 rfl (lv_at hl 1 rfl) ?_
        refine lv_iconst (v := 0) X.1 X.2.1 d_X11_kin_51 (by decide) ?_
        refine lv_iload_n X.1 X.2.1 d_X11_kin_52 rfl (lv_at hl 4 rfl) ?_
        refine gcV_i (rest := []) (As := [.int 0, .int x3]) (o := 237) X hw (c_X11_isSpent l G 0 x3 σ_7 _  hD) (kd_lt (by decide +kernel : kd 237 = 11) (by decide)) (ce_11 G _ (by decide +kernel : kd 237 = 11)) rfl tb_1261 tb_1263 tv_68 tb_12 tb_1264 hd_X11_isSpent ⟨rfl, rfl⟩ ⟨Nat.le_of_ble_eq_true rfl, Nat.le_of_ble_eq_true rfl⟩ rfl hl.1 rfl (Nat.le_of_ble_eq_true rfl) d_X11_kin_53 (fun r_8 σ_9 H locs hD hw => ?_)
        refine lv_if_eq (tgt := 66) X.1 X.2.1 d_X11_kin_56 (by decide) (fun q_56 => ?_) (fun q_56 => ?_)
        · have hD := hD.1 q_56
          refine lv_iconst (v := 0) X.1 X.2.1 d_X11_kin_66 (by decide) ?_
          refine lv_istore (lv' := [(5, .int 0), (4, .int r_5), (0, .ref (G.2.1 237)), (1, .int x1), (2, .int x2), (3, .int x3)]) X.1 X.2.1 d_X11_kin_67 hl (by decide) rfl (fun ls hl => ?_)
          obtain ⟨n9, hD⟩ := hD
          exact sl_X11_kin_69 X hr hlk  Q  n9 x2 x3 0 σ_9 _ _ _  hw (lv_sub hl [2, 4, 5, 0] rfl) hD
        · have hD := hD.2 q_56
          refine lv_aload_n X.1 X.2.1 d_X11_kin_59 rfl (lv_at hl 1 rfl) ?_
          refine lv_bipush (v := (-5)) X.1 X.2.1 d_X11_kin_60 (by decide) ?_
          refine gcV_i (rest := []) (As := [.int (-5)]) (o := 237) X hw (c_X11_no l G (-5) σ_9 _  hD) (kd_lt (by decide +kernel : kd 237 = 11) (by decide)) (ce_11 G _ (by decide +kernel : kd 237 = 11)) rfl tb_1084 tb_1086 tv_35 tb_12 tb_1087 hd_X11_no ⟨rfl, rfl⟩ ⟨Nat.le_of_ble_eq_true rfl, Nat.le_of_ble_eq_true rfl⟩ rfl hl.1 rfl (Nat.le_of_ble_eq_true rfl) d_X11_kin_62 (fun r_10 σ_11 H locs hD hw => ?_)
          exact g_iret X hr hlk hw hD d_X11_kin_65
      · have hD := hD.2 q_35
        refine lv_aload_n X.1 X.2.1 d_X11_kin_38 rfl (lv_at hl 1 rfl) ?_
        refine lv_iload X.1 X.2.1 d_X11_kin_39 (lv_at hl 0 rfl) ?_
        refine gcV_i (rest := []) (As := [.int r_5]) (o := 237) X hw (c_X11_no l G r_5 σ_6 _  hD) (kd_lt (by decide +kernel : kd 237 = 11) (by decide)) (ce_11 G _ (by decide +kernel : kd 237 = 11)) rfl tb_1084 tb_1086 tv_35 tb_12 tb_1087 hd_X11_no ⟨rfl, rfl⟩ ⟨Nat.le_of_ble_eq_true rfl, Nat.le_of_ble_eq_true rfl⟩ rfl hl.1 rfl (Nat.le_of_ble_eq_true rfl) d_X11_kin_41 (fun r_12 σ_13 H locs hD hw => ?_)
        exact g_iret X hr hlk hw hD d_X11_kin_44
    · have hD := hD.2 q_13
      exact s_X11_kin_16 X hr hlk  Q   σ_4 hw (lv_sub hl [0] rfl) hD
theorem c_X11_kin (l : Launch) (G : GC) (x1 : Int32) (x2 : Int32) (x3 : Int32) (σ : GSt) (Q : Int32 → GSt → Prop)  (hD : D_X11_kin x1 x2 x3 σ Q) : MI l ym_X11_kin cm_X11_kin 7 .int rm_X11_kin G σ [.ref (G.2.1 237), .int x1, .int x2, .int x3] Q := by
  refine met_i (by decide) (Nat.le_of_ble_eq_true rfl) ?_
  intro p e s m args below meth c X hr hlk hw ls hl
  exact s_X11_kin_0 X hr hlk Q  x1 x2 x3 σ hw (lv_sub hl [0, 1, 2, 3] rfl) hD
theorem hd_X11_winning : ym_X11_winning.cls = "GameLoomModel" ∧ ym_X11_winning.cls ≠ "java/lang/invoke/MethodHandle" ∧ ym_X11_winning.cls ≠ "java/lang/invoke/VarHandle" ∧ (parseMethodDescriptor ym_X11_winning.desc).map (fun d => d.parameters.length) = some 1 := by decide +kernel
abbrev rm_X11_winning : Room := { frames := 7, cells := 0, slots := 0, locals := 184 }
theorem d_X11_winning_0 : decode cm_X11_winning 0 = .ok (.iconst 0, 1) := by decide +kernel
theorem d_X11_winning_1 : decode cm_X11_winning 1 = .ok (.istore_n 2, 1) := by decide +kernel
theorem d_X11_winning_2 : decode cm_X11_winning 2 = .ok (.iconst 0, 1) := by decide +kernel
theorem d_X11_winning_3 : decode cm_X11_winning 3 = .ok (.istore_n 3, 1) := by decide +kernel
theorem d_X11_winning_4 : decode cm_X11_winning 4 = .ok (.iload_n 3, 1) := by decide +kernel
theorem d_X11_winning_5 : decode cm_X11_winning 5 = .ok (.aload_n 0, 1) := by decide +kernel
theorem d_X11_winning_6 : decode cm_X11_winning 6 = .ok (.getfield 95, 3) := by decide +kernel
theorem d_X11_winning_9 : decode cm_X11_winning 9 = .ok (.iconst 0, 1) := by decide +kernel
theorem d_X11_winning_10 : decode cm_X11_winning 10 = .ok (.iaload, 1) := by decide +kernel
theorem d_X11_winning_11 : decode cm_X11_winning 11 = .ok (.if_icmp .ge 34, 3) := by decide +kernel
theorem d_X11_winning_14 : decode cm_X11_winning 14 = .ok (.aload_n 0, 1) := by decide +kernel
theorem d_X11_winning_15 : decode cm_X11_winning 15 = .ok (.iconst 0, 1) := by decide +kernel
theorem d_X11_winning_16 : decode cm_X11_winning 16 = .ok (.iload_n 3, 1) := by decide +kernel
theorem d_X11_winning_17 : decode cm_X11_winning 17 = .ok (.invokevirtual 251, 3) := by decide +kernel
theorem d_X11_winning_20 : decode cm_X11_winning 20 = .ok (.iload_n 2, 1) := by decide +kernel
theorem d_X11_winning_21 : decode cm_X11_winning 21 = .ok (.aload_n 0, 1) := by decide +kernel
theorem d_X11_winning_22 : decode cm_X11_winning 22 = .ok (.iconst 1, 1) := by decide +kernel
theorem d_X11_winning_23 : decode cm_X11_winning 23 = .ok (.iload_n 1, 1) := by decide +kernel
theorem d_X11_winning_24 : decode cm_X11_winning 24 = .ok (.iconst 1, 1) := by decide +kernel
theorem d_X11_winning_25 : decode cm_X11_winning 25 = .ok (.isub, 1) := by decide +kernel
theorem d_X11_winning_26 : decode cm_X11_winning 26 = .ok (.invokevirtual 260, 3) := by decide +kernel
theorem d_X11_winning_29 : decode cm_X11_winning 29 = .ok (.ifCond .ne 7, 3) := by decide +kernel
theorem d_X11_winning_32 : decode cm_X11_winning 32 = .ok (.iconst 1, 1) := by decide +kernel
theorem d_X11_winning_33 : decode cm_X11_winning 33 = .ok (.goto 4, 3) := by decide +kernel
theorem d_X11_winning_36 : decode cm_X11_winning 36 = .ok (.iconst 0, 1) := by decide +kernel
theorem d_X11_winning_37 : decode cm_X11_winning 37 = .ok (.iadd, 1) := by decide +kernel
theorem d_X11_winning_38 : decode cm_X11_winning 38 = .ok (.istore_n 2, 1) := by decide +kernel
theorem d_X11_winning_39 : decode cm_X11_winning 39 = .ok (.iinc 3 1, 3) := by decide +kernel
theorem d_X11_winning_42 : decode cm_X11_winning 42 = .ok (.goto (-38), 3) := by decide +kernel
theorem d_X11_winning_45 : decode cm_X11_winning 45 = .ok (.iload_n 2, 1) := by decide +kernel
theorem d_X11_winning_46 : decode cm_X11_winning 46 = .ok (.ireturn, 1) := by decide +kernel
def D_X11_winning_37 (K4 : Int32 → Int32 → Int32 → GSt → Prop) (Q : Int32 → GSt → Prop) (x1 : Int32) (x3 : Int32) (s0 : Int32) (s1 : Int32) (σ : GSt) : Prop :=
  ∀ x2_1 : Int32, x2_1 = (s0 + s1) → (∀ x3_2 : Int32, x3_2 = x3 + 1 → (K4 x1 x2_1 x3_2 σ))
def D_X11_winning_4 (K4 : Int32 → Int32 → Int32 → GSt → Prop) (Q : Int32 → GSt → Prop) (x1 : Int32) (x2 : Int32) (x3 : Int32) (σ : GSt) : Prop :=
  ((σ 266 (Int32.toNatClampNeg 0)) ≤ x3 → Q x2 σ) ∧
  (¬ (σ 266 (Int32.toNatClampNeg 0)) ≤ x3 → D_X11_does 0 x3 σ (fun σ_1 => D_X11_lookAt 1 (x1 - 1) σ_1 (fun r_2 σ_3 => (¬ r_2 = 0 → D_X11_winning_37 K4 Q x1 x3 x2 0 σ_3) ∧
  (r_2 = 0 → D_X11_winning_37 K4 Q x1 x3 x2 1 σ_3))))
def L_X11_winning_4 (Q : Int32 → GSt → Prop) : Nat → Int32 → Int32 → Int32 → GSt → Prop
  | 0 => fun _ _ _ _ => False
  | n + 1 => fun x1 x2 x3 σ => D_X11_winning_4 (L_X11_winning_4 Q n) Q x1 x2 x3 σ
def D_X11_winning_0 (Q : Int32 → GSt → Prop) (x1 : Int32) (σ : GSt) : Prop :=
  ∃ n : Nat, L_X11_winning_4 Q n x1 0 0 σ
def D_X11_winning (x1 : Int32) (σ : GSt) (Q : Int32 → GSt → Prop) : Prop := D_X11_winning_0 Q x1 σ
set_option maxRecDepth 20000 in
set_option maxHeartbeats 4000000 in
theorem s_X11_winning_37 {p : Program} {l : Launch} {e : Env} {s : State} {m : MethodId} {args : Array Value} {below : List Frame} {meth : Method} {c : Code} {G : GC} (X : CallFix p m c cm_X11_winning 4 s args lw_us "GameLoomModel") (hr : meth.sig.returnType = some .int) (hlk : meth.locks = false) (K4 : Int32 → Int32 → Int32 → GSt → Prop) (Q : Int32 → GSt → Prop) (hK4 : ∀ (x1 : Int32) (x2 : Int32) (x3 : Int32) (σ : GSt) (H : Heap) (locs : List Loc) (ls : Array Slot), Wo G s H locs σ → lv_has ls 4 [(0, .ref (G.2.1 237)), (1, .int x1), (2, .int x2), (3, .int x3)] → K4 x1 x2 x3 σ → W p l e rm_X11_winning s m args below meth c H locs 0 0 (QMI G Q below args s) (F0 m 4 ls [])) (x1 : Int32) (x3 : Int32) (s0 : Int32) (s1 : Int32) (σ : GSt) {H : Heap} {locs : List Loc} {ls : Array Slot} (hw : Wo G s H locs σ) (hl : lv_has ls 4 [(0, .ref (G.2.1 237)), (1, .int x1), (3, .int x3)]) (hD : D_X11_winning_37 K4 Q x1 x3 s0 s1 σ) : W p l e rm_X11_winning s m args below meth c H locs 0 0 (QMI G Q below args s) (F0 m 37 ls [.int s1, .int s0]) := by
  unfold D_X11_winning_37 at hD
  refine lv_iadd X.1 X.2.1 d_X11_winning_37 ?_
  refine lv_topi (fun x2_1 e_x2_1 => ?_)
  have hD := hD x2_1 e_x2_1
  refine lv_istore_n (lv' := [(2, .int x2_1), (0, .ref (G.2.1 237)), (1, .int x1), (3, .int x3)]) X.1 X.2.1 d_X11_winning_38 rfl hl (by decide) rfl (fun ls hl => ?_)
  obtain ⟨x3_2, e_x3_2⟩ : ∃ y : Int32, y = x3 + 1 := ⟨_, rfl⟩
  have hD := hD x3_2 e_x3_2
  refine lv_iinc (v := x3_2) (lv' := [(3, .int x3_2), (2, .int x2_1), (0, .ref (G.2.1 237)), (1, .int x1)]) X.1 X.2.1 d_X11_winning_39 hl (k := 3) rfl (by rw [e_x3_2]; rfl) (by decide) rfl (fun ls hl => ?_)
  refine lv_goto (tgt := 4) X.1 X.2.1 d_X11_winning_42 (by decide) ?_
  exact hK4 x1 x2_1 x3_2 σ _ _ _  hw (lv_sub hl [2, 3, 1, 0] rfl) hD
set_option maxRecDepth 20000 in
set_option maxHeartbeats 4000000 in
theorem s_X11_winning_4 {p : Program} {l : Launch} {e : Env} {s : State} {m : MethodId} {args : Array Value} {below : List Frame} {meth : Method} {c : Code} {G : GC} (X : CallFix p m c cm_X11_winning 4 s args lw_us "GameLoomModel") (hr : meth.sig.returnType = some .int) (hlk : meth.locks = false) (K4 : Int32 → Int32 → Int32 → GSt → Prop) (Q : Int32 → GSt → Prop) (hK4 : ∀ (x1 : Int32) (x2 : Int32) (x3 : Int32) (σ : GSt) (H : Heap) (locs : List Loc) (ls : Array Slot), Wo G s H locs σ → lv_has ls 4 [(0, .ref (G.2.1 237)), (1, .int x1), (2, .int x2), (3, .int x3)] → K4 x1 x2 x3 σ → W p l e rm_X11_winning s m args below meth c H locs 0 0 (QMI G Q below args s) (F0 m 4 ls [])) (x1 : Int32) (x2 : Int32) (x3 : Int32) (σ : GSt) {H : Heap} {locs : List Loc} {ls : Array Slot} (hw : Wo G s H locs σ) (hl : lv_has ls 4 [(0, .ref (G.2.1 237)), (1, .int x1), (2, .int x2), (3, .int x3)]) (hD : D_X11_winning_4 K4 Q x1 x2 x3 σ) : W p l e rm_X11_winning s m args below meth c H locs 0 0 (QMI G Q below args s) (F0 m 4 ls []) := by
  unfold D_X11_winning_4 at hD
  refine lv_iload_n X.1 X.2.1 d_X11_winning_4 rfl (lv_at hl 3 rfl) ?_
  refine lv_aload_n X.1 X.2.1 d_X11_winning_5 rfl (lv_at hl 0 rfl) ?_
  refine gf_11_32 X hw (by decide +kernel : kd 237 = 11) tb_938 d_X11_winning_6 ?_
  refine lv_iconst (v := 0) X.1 X.2.1 d_X11_winning_9 (by decide) ?_
  have q_10 : vp_in 0 9 := by unfold vp_in; decide
  refine g_iald X hw ly_11_32.1 ly_11_32.2 q_10 d_X11_winning_10 ?_
  refine lv_icmp_ge (tgt := 45) X.1 X.2.1 d_X11_winning_11 (by decide) (fun q_11 => ?_) (fun q_11 => ?_)
  · have hD := hD.1 q_11
    refine lv_iload_n X.1 X.2.1 d_X11_winning_45 rfl (lv_at hl 2 rfl) ?_
    exact g_iret X hr hlk hw hD d_X11_winning_46
  · have hD := hD.2 q_11
    refine lv_aload_n X.1 X.2.1 d_X11_winning_14 rfl (lv_at hl 0 rfl) ?_
    refine lv_iconst (v := 0) X.1 X.2.1 d_X11_winning_15 (by decide) ?_
    refine lv_iload_n X.1 X.2.1 d_X11_winning_16 rfl (lv_at hl 3 rfl) ?_
    refine gcV_v (rest := []) (As := [.int 0, .int x3]) (o := 237) X hw (c_X11_does l G 0 x3 σ _  hD) (kd_lt (by decide +kernel : kd 237 = 11) (by decide)) (ce_11 G _ (by decide +kernel : kd 237 = 11)) rfl tb_1208 tb_1210 tv_60 tb_12 tb_1211 hd_X11_does ⟨rfl, rfl⟩ ⟨Nat.le_of_ble_eq_true rfl, Nat.le_of_ble_eq_true rfl⟩ rfl hl.1 rfl (Nat.le_of_ble_eq_true rfl) d_X11_winning_17 (fun σ_1 H locs hD hw => ?_)
    refine lv_iload_n X.1 X.2.1 d_X11_winning_20 rfl (lv_at hl 2 rfl) ?_
    refine lv_aload_n X.1 X.2.1 d_X11_winning_21 rfl (lv_at hl 0 rfl) ?_
    refine lv_iconst (v := 1) X.1 X.2.1 d_X11_winning_22 (by decide) ?_
    refine lv_iload_n X.1 X.2.1 d_X11_winning_23 rfl (lv_at hl 1 rfl) ?_
    refine lv_iconst (v := 1) X.1 X.2.1 d_X11_winning_24 (by decide) ?_
    refine lv_isub X.1 X.2.1 d_X11_winning_25 ?_
    refine gcV_i (rest := [.int x2]) (As := [.int 1, .int (x1 - 1)]) (o := 237) X hw (c_X11_lookAt l G 1 (x1 - 1) σ_1 _  hD) (kd_lt (by decide +kernel : kd 237 = 11) (by decide)) (ce_11 G _ (by decide +kernel : kd 237 = 11)) rfl tb_1265 tb_1267 tv_69 tb_12 tb_1268 hd_X11_lookAt ⟨rfl, rfl⟩ ⟨Nat.le_of_ble_eq_true rfl, Nat.le_of_ble_eq_true rfl⟩ rfl hl.1 rfl (Nat.le_of_ble_eq_true rfl) d_X11_winning_26 (fun r_2 σ_3 H locs hD hw => ?_)
    refine lv_if_ne (tgt := 36) X.1 X.2.1 d_X11_winning_29 (by decide) (fun q_29 => ?_) (fun q_29 => ?_)
    · have hD := hD.1 q_29
      refine lv_iconst (v := 0) X.1 X.2.1 d_X11_winning_36 (by decide) ?_
      exact s_X11_winning_37 X hr hlk K4 Q hK4 x1 x3 x2 0 σ_3 hw (lv_sub hl [0, 1, 3] rfl) hD
    · have hD := hD.2 q_29
      refine lv_iconst (v := 1) X.1 X.2.1 d_X11_winning_32 (by decide) ?_
      refine lv_goto (tgt := 37) X.1 X.2.1 d_X11_winning_33 (by decide) ?_
      exact s_X11_winning_37 X hr hlk K4 Q hK4 x1 x3 x2 1 σ_3 hw (lv_sub hl [0, 1, 3] rfl) hD
set_option maxRecDepth 20000 in
set_option maxHeartbeats 4000000 in
theorem sl_X11_winning_4 {p : Program} {l : Launch} {e : Env} {s : State} {m : MethodId} {args : Array Value} {below : List Frame} {meth : Method} {c : Code} {G : GC} (X : CallFix p m c cm_X11_winning 4 s args lw_us "GameLoomModel") (hr : meth.sig.returnType = some .int) (hlk : meth.locks = false) (Q : Int32 → GSt → Prop) : ∀ (nn : Nat), ∀ (x1 : Int32) (x2 : Int32) (x3 : Int32) (σ : GSt) (H : Heap) (locs : List Loc) (ls : Array Slot), Wo G s H locs σ → lv_has ls 4 [(0, .ref (G.2.1 237)), (1, .int x1), (2, .int x2), (3, .int x3)] → L_X11_winning_4 Q nn x1 x2 x3 σ → W p l e rm_X11_winning s m args below meth c H locs 0 0 (QMI G Q below args s) (F0 m 4 ls []) := by
  intro nn
  induction nn with
  | zero => intro x1 x2 x3 σ H locs ls  hw hl hD; exact hD.elim
  | succ nn ih =>
    intro x1 x2 x3 σ H locs ls  hw hl hD
    exact s_X11_winning_4 X hr hlk (L_X11_winning_4 Q nn) Q ih x1 x2 x3 σ hw hl hD
set_option maxRecDepth 20000 in
set_option maxHeartbeats 4000000 in
theorem s_X11_winning_0 {p : Program} {l : Launch} {e : Env} {s : State} {m : MethodId} {args : Array Value} {below : List Frame} {meth : Method} {c : Code} {G : GC} (X : CallFix p m c cm_X11_winning 4 s args lw_us "GameLoomModel") (hr : meth.sig.returnType = some .int) (hlk : meth.locks = false) (Q : Int32 → GSt → Prop) (x1 : Int32) (σ : GSt) {H : Heap} {locs : List Loc} {ls : Array Slot} (hw : Wo G s H locs σ) (hl : lv_has ls 4 [(0, .ref (G.2.1 237)), (1, .int x1)]) (hD : D_X11_winning_0 Q x1 σ) : W p l e rm_X11_winning s m args below meth c H locs 0 0 (QMI G Q below args s) (F0 m 0 ls []) := by
  unfold D_X11_winning_0 at hD
  refine lv_iconst (v := 0) X.1 X.2.1 d_X11_winning_0 (by decide) ?_
  refine lv_istore_n (lv' := [(2, .int 0), (0, .ref (G.2.1 237)), (1, .int x1)]) X.1 X.2.1 d_X11_winning_1 rfl hl (by decide) rfl (fun ls hl => ?_)
  refine lv_iconst (v := 0) X.1 X.2.1 d_X11_winning_2 (by decide) ?_
  refine lv_istore_n (lv' := [(3, .int 0), (2, .int 0), (0, .ref (G.2.1 237)), (1, .int x1)]) X.1 X.2.1 d_X11_winning_3 rfl hl (by decide) rfl (fun ls hl => ?_)
  obtain ⟨n9, hD⟩ := hD
  exact sl_X11_winning_4 X hr hlk  Q  n9 x1 0 0 σ _ _ _  hw (lv_sub hl [2, 3, 1, 0] rfl) hD
theorem c_X11_winning (l : Launch) (G : GC) (x1 : Int32) (σ : GSt) (Q : Int32 → GSt → Prop)  (hD : D_X11_winning x1 σ Q) : MI l ym_X11_winning cm_X11_winning 4 .int rm_X11_winning G σ [.ref (G.2.1 237), .int x1] Q := by
  refine met_i (by decide) (Nat.le_of_ble_eq_true rfl) ?_
  intro p e s m args below meth c X hr hlk hw ls hl
  exact s_X11_winning_0 X hr hlk Q  x1 σ hw (lv_sub hl [0, 1] rfl) hD
theorem hd_X11_lot : ym_X11_lot.cls = "GameLoomModel" ∧ ym_X11_lot.cls ≠ "java/lang/invoke/MethodHandle" ∧ ym_X11_lot.cls ≠ "java/lang/invoke/VarHandle" ∧ (parseMethodDescriptor ym_X11_lot.desc).map (fun d => d.parameters.length) = some 0 := by decide +kernel
abbrev rm_X11_lot : Room := { frames := 0, cells := 0, slots := 0, locals := 0 }
theorem d_X11_lot_0 : decode cm_X11_lot 0 = .ok (.aload_n 0, 1) := by decide +kernel
theorem d_X11_lot_1 : decode cm_X11_lot 1 = .ok (.aload_n 0, 1) := by decide +kernel
theorem d_X11_lot_2 : decode cm_X11_lot 2 = .ok (.getfield 292, 3) := by decide +kernel
theorem d_X11_lot_5 : decode cm_X11_lot 5 = .ok (.ldc_w 295, 3) := by decide +kernel
theorem d_X11_lot_8 : decode cm_X11_lot 8 = .ok (.imul, 1) := by decide +kernel
theorem d_X11_lot_9 : decode cm_X11_lot 9 = .ok (.sipush 12345, 3) := by decide +kernel
theorem d_X11_lot_12 : decode cm_X11_lot 12 = .ok (.iadd, 1) := by decide +kernel
theorem d_X11_lot_13 : decode cm_X11_lot 13 = .ok (.putfield 292, 3) := by decide +kernel
theorem d_X11_lot_16 : decode cm_X11_lot 16 = .ok (.aload_n 0, 1) := by decide +kernel
theorem d_X11_lot_17 : decode cm_X11_lot 17 = .ok (.getfield 292, 3) := by decide +kernel
theorem d_X11_lot_20 : decode cm_X11_lot 20 = .ok (.bipush 8, 2) := by decide +kernel
theorem d_X11_lot_22 : decode cm_X11_lot 22 = .ok (.iushr, 1) := by decide +kernel
theorem d_X11_lot_23 : decode cm_X11_lot 23 = .ok (.aload_n 0, 1) := by decide +kernel
theorem d_X11_lot_24 : decode cm_X11_lot 24 = .ok (.getfield 95, 3) := by decide +kernel
theorem d_X11_lot_27 : decode cm_X11_lot 27 = .ok (.iconst 0, 1) := by decide +kernel
theorem d_X11_lot_28 : decode cm_X11_lot 28 = .ok (.iaload, 1) := by decide +kernel
theorem d_X11_lot_29 : decode cm_X11_lot 29 = .ok (.irem, 1) := by decide +kernel
theorem d_X11_lot_30 : decode cm_X11_lot 30 = .ok (.ireturn, 1) := by decide +kernel
def D_X11_lot_0 (Q : Int32 → GSt → Prop) (σ : GSt) : Prop :=
  ∀ σ_1 : GSt, σ_1 = up2 σ 237 45 (((σ 237 45) * 1103515245) + 12345) → (¬ (σ_1 266 (Int32.toNatClampNeg 0)) = 0 ∧ (Q (jrem (jushr (σ_1 237 45) 8) (σ_1 266 (Int32.toNatClampNeg 0))) σ_1))
def D_X11_lot (σ : GSt) (Q : Int32 → GSt → Prop) : Prop := D_X11_lot_0 Q σ
set_option maxRecDepth 20000 in
set_option maxHeartbeats 4000000 in
theorem s_X11_lot_0 {p : Program} {l : Launch} {e : Env} {s : State} {m : MethodId} {args : Array Value} {below : List Frame} {meth : Method} {c : Code} {G : GC} (X : CallFix p m c cm_X11_lot 1 s args lw_us "GameLoomModel") (hr : meth.sig.returnType = some .int) (hlk : meth.locks = false) (Q : Int32 → GSt → Prop) (σ : GSt) {H : Heap} {locs : List Loc} {ls : Array Slot} (hw : Wo G s H locs σ) (hl : lv_has ls 1 [(0, .ref (G.2.1 237))]) (hD : D_X11_lot_0 Q σ) : W p l e rm_X11_lot s m args below meth c H locs 0 0 (QMI G Q below args s) (F0 m 0 ls []) := by
  unfold D_X11_lot_0 at hD
  refine lv_aload_n X.1 X.2.1 d_X11_lot_0 rfl (lv_at hl 0 rfl) ?_
  refine lv_aload_n X.1 X.2.1 d_X11_lot_1 rfl (lv_at hl 0 rfl) ?_
  refine gf_11_45 X hw (by decide +kernel : kd 237 = 11) tb_951 d_X11_lot_2 ?_
  refine lv_ldcw (v := 1103515245) X.1 X.2.1 X.2.2.2.1 (X.2.2.2.2 _ tb_1302) d_X11_lot_5 ?_
  refine lv_imul X.1 X.2.1 d_X11_lot_8 ?_
  refine lv_sipush (v := 12345) X.1 X.2.1 d_X11_lot_9 (by decide) ?_
  refine lv_iadd X.1 X.2.1 d_X11_lot_12 ?_
  refine pf_11_45 X hw (by decide +kernel : kd 237 = 11) tb_951 d_X11_lot_13 (fun H locs hw => ?_)
  obtain ⟨σ_1, e_σ_1⟩ : ∃ z : GSt, z = up2 σ 237 45 (((σ 237 45) * 1103515245) + 12345) := ⟨_, rfl⟩
  rw [← e_σ_1] at hw
  have hD := hD σ_1 e_σ_1
  refine lv_aload_n X.1 X.2.1 d_X11_lot_16 rfl (lv_at hl 0 rfl) ?_
  refine gf_11_45 X hw (by decide +kernel : kd 237 = 11) tb_951 d_X11_lot_17 ?_
  refine lv_bipush (v := 8) X.1 X.2.1 d_X11_lot_20 (by decide) ?_
  refine lv_iushr (v := (jushr (σ_1 237 45) 8)) X.1 X.2.1 d_X11_lot_22 rfl ?_
  refine lv_aload_n X.1 X.2.1 d_X11_lot_23 rfl (lv_at hl 0 rfl) ?_
  refine gf_11_32 X hw (by decide +kernel : kd 237 = 11) tb_938 d_X11_lot_24 ?_
  refine lv_iconst (v := 0) X.1 X.2.1 d_X11_lot_27 (by decide) ?_
  have q_28 : vp_in 0 9 := by unfold vp_in; decide
  refine g_iald X hw ly_11_32.1 ly_11_32.2 q_28 d_X11_lot_28 ?_
  obtain ⟨q_29, hD⟩ := hD
  refine g_irem X d_X11_lot_29 q_29 ?_
  exact g_iret X hr hlk hw hD d_X11_lot_30
theorem c_X11_lot (l : Launch) (G : GC) (σ : GSt) (Q : Int32 → GSt → Prop)  (hD : D_X11_lot  σ Q) : MI l ym_X11_lot cm_X11_lot 1 .int rm_X11_lot G σ [.ref (G.2.1 237)] Q := by
  refine met_i (by decide) (Nat.le_of_ble_eq_true rfl) ?_
  intro p e s m args below meth c X hr hlk hw ls hl
  exact s_X11_lot_0 X hr hlk Q   σ hw (lv_sub hl [0] rfl) hD
theorem hd_X11_puzzle : ym_X11_puzzle.cls = "GameLoomModel" ∧ ym_X11_puzzle.cls ≠ "java/lang/invoke/MethodHandle" ∧ ym_X11_puzzle.cls ≠ "java/lang/invoke/VarHandle" ∧ (parseMethodDescriptor ym_X11_puzzle.desc).map (fun d => d.parameters.length) = some 3 := by decide +kernel
abbrev rm_X11_puzzle : Room := { frames := 8, cells := 0, slots := 0, locals := 207 }
theorem d_X11_puzzle_0 : decode cm_X11_puzzle 0 = .ok (.aload_n 0, 1) := by decide +kernel
theorem d_X11_puzzle_1 : decode cm_X11_puzzle 1 = .ok (.iload_n 1, 1) := by decide +kernel
theorem d_X11_puzzle_2 : decode cm_X11_puzzle 2 = .ok (.invokevirtual 204, 3) := by decide +kernel
theorem d_X11_puzzle_5 : decode cm_X11_puzzle 5 = .ok (.ifCond .ne 9, 3) := by decide +kernel
theorem d_X11_puzzle_8 : decode cm_X11_puzzle 8 = .ok (.aload_n 0, 1) := by decide +kernel
theorem d_X11_puzzle_9 : decode cm_X11_puzzle 9 = .ok (.iconst (-1), 1) := by decide +kernel
theorem d_X11_puzzle_10 : decode cm_X11_puzzle 10 = .ok (.invokevirtual 147, 3) := by decide +kernel
theorem d_X11_puzzle_13 : decode cm_X11_puzzle 13 = .ok (.ireturn, 1) := by decide +kernel
theorem d_X11_puzzle_14 : decode cm_X11_puzzle 14 = .ok (.iload_n 3, 1) := by decide +kernel
theorem d_X11_puzzle_15 : decode cm_X11_puzzle 15 = .ok (.i2l, 1) := by decide +kernel
theorem d_X11_puzzle_16 : decode cm_X11_puzzle 16 = .ok (.lconst 1, 1) := by decide +kernel
theorem d_X11_puzzle_17 : decode cm_X11_puzzle 17 = .ok (.ldc2_w 358, 3) := by decide +kernel
theorem d_X11_puzzle_20 : decode cm_X11_puzzle 20 = .ok (.invokestatic 140, 3) := by decide +kernel
theorem d_X11_puzzle_23 : decode cm_X11_puzzle 23 = .ok (.istore 4, 2) := by decide +kernel
theorem d_X11_puzzle_25 : decode cm_X11_puzzle 25 = .ok (.iload 4, 2) := by decide +kernel
theorem d_X11_puzzle_27 : decode cm_X11_puzzle 27 = .ok (.ifCond .eq 10, 3) := by decide +kernel
theorem d_X11_puzzle_30 : decode cm_X11_puzzle 30 = .ok (.aload_n 0, 1) := by decide +kernel
theorem d_X11_puzzle_31 : decode cm_X11_puzzle 31 = .ok (.iload 4, 2) := by decide +kernel
theorem d_X11_puzzle_33 : decode cm_X11_puzzle 33 = .ok (.invokevirtual 147, 3) := by decide +kernel
theorem d_X11_puzzle_36 : decode cm_X11_puzzle 36 = .ok (.ireturn, 1) := by decide +kernel
theorem d_X11_puzzle_37 : decode cm_X11_puzzle 37 = .ok (.aload_n 0, 1) := by decide +kernel
theorem d_X11_puzzle_38 : decode cm_X11_puzzle 38 = .ok (.iload_n 1, 1) := by decide +kernel
theorem d_X11_puzzle_39 : decode cm_X11_puzzle 39 = .ok (.invokevirtual 263, 3) := by decide +kernel
theorem d_X11_puzzle_42 : decode cm_X11_puzzle 42 = .ok (.aload_n 0, 1) := by decide +kernel
theorem d_X11_puzzle_43 : decode cm_X11_puzzle 43 = .ok (.iload_n 2, 1) := by decide +kernel
theorem d_X11_puzzle_44 : decode cm_X11_puzzle 44 = .ok (.putfield 292, 3) := by decide +kernel
theorem d_X11_puzzle_47 : decode cm_X11_puzzle 47 = .ok (.aload_n 0, 1) := by decide +kernel
theorem d_X11_puzzle_48 : decode cm_X11_puzzle 48 = .ok (.getfield 77, 3) := by decide +kernel
theorem d_X11_puzzle_51 : decode cm_X11_puzzle 51 = .ok (.iconst 0, 1) := by decide +kernel
theorem d_X11_puzzle_52 : decode cm_X11_puzzle 52 = .ok (.iaload, 1) := by decide +kernel
theorem d_X11_puzzle_53 : decode cm_X11_puzzle 53 = .ok (.ifCond .ne 49, 3) := by decide +kernel
theorem d_X11_puzzle_56 : decode cm_X11_puzzle 56 = .ok (.aload_n 0, 1) := by decide +kernel
theorem d_X11_puzzle_57 : decode cm_X11_puzzle 57 = .ok (.getfield 95, 3) := by decide +kernel
theorem d_X11_puzzle_60 : decode cm_X11_puzzle 60 = .ok (.iconst 0, 1) := by decide +kernel
theorem d_X11_puzzle_61 : decode cm_X11_puzzle 61 = .ok (.iaload, 1) := by decide +kernel
theorem d_X11_puzzle_62 : decode cm_X11_puzzle 62 = .ok (.iconst 1, 1) := by decide +kernel
theorem d_X11_puzzle_63 : decode cm_X11_puzzle 63 = .ok (.if_icmp .le 28, 3) := by decide +kernel
theorem d_X11_puzzle_66 : decode cm_X11_puzzle 66 = .ok (.aload_n 0, 1) := by decide +kernel
theorem d_X11_puzzle_67 : decode cm_X11_puzzle 67 = .ok (.iconst 0, 1) := by decide +kernel
theorem d_X11_puzzle_68 : decode cm_X11_puzzle 68 = .ok (.iload_n 3, 1) := by decide +kernel
theorem d_X11_puzzle_69 : decode cm_X11_puzzle 69 = .ok (.invokevirtual 286, 3) := by decide +kernel
theorem d_X11_puzzle_72 : decode cm_X11_puzzle 72 = .ok (.ifCond .ne 19, 3) := by decide +kernel
theorem d_X11_puzzle_75 : decode cm_X11_puzzle 75 = .ok (.aload_n 0, 1) := by decide +kernel
theorem d_X11_puzzle_76 : decode cm_X11_puzzle 76 = .ok (.iload_n 3, 1) := by decide +kernel
theorem d_X11_puzzle_77 : decode cm_X11_puzzle 77 = .ok (.invokevirtual 360, 3) := by decide +kernel
theorem d_X11_puzzle_80 : decode cm_X11_puzzle 80 = .ok (.iconst 1, 1) := by decide +kernel
theorem d_X11_puzzle_81 : decode cm_X11_puzzle 81 = .ok (.if_icmp .ne 10, 3) := by decide +kernel
theorem d_X11_puzzle_84 : decode cm_X11_puzzle 84 = .ok (.aload_n 0, 1) := by decide +kernel
theorem d_X11_puzzle_85 : decode cm_X11_puzzle 85 = .ok (.getfield 74, 3) := by decide +kernel
theorem d_X11_puzzle_88 : decode cm_X11_puzzle 88 = .ok (.iconst 0, 1) := by decide +kernel
theorem d_X11_puzzle_89 : decode cm_X11_puzzle 89 = .ok (.iaload, 1) := by decide +kernel
theorem d_X11_puzzle_90 : decode cm_X11_puzzle 90 = .ok (.ireturn, 1) := by decide +kernel
theorem d_X11_puzzle_91 : decode cm_X11_puzzle 91 = .ok (.aload_n 0, 1) := by decide +kernel
theorem d_X11_puzzle_92 : decode cm_X11_puzzle 92 = .ok (.aload_n 0, 1) := by decide +kernel
theorem d_X11_puzzle_93 : decode cm_X11_puzzle 93 = .ok (.invokevirtual 363, 3) := by decide +kernel
theorem d_X11_puzzle_96 : decode cm_X11_puzzle 96 = .ok (.invokevirtual 269, 3) := by decide +kernel
theorem d_X11_puzzle_99 : decode cm_X11_puzzle 99 = .ok (.goto (-52), 3) := by decide +kernel
theorem d_X11_puzzle_102 : decode cm_X11_puzzle 102 = .ok (.bipush (-9), 2) := by decide +kernel
theorem d_X11_puzzle_104 : decode cm_X11_puzzle 104 = .ok (.ireturn, 1) := by decide +kernel
def D_X11_puzzle_91 (K47 : Int32 → GSt → Prop) (Q : Int32 → GSt → Prop) (x3 : Int32) (σ : GSt) : Prop :=
  D_X11_lot  σ (fun r_1 σ_2 => D_X11_goesOn r_1 σ_2 (fun σ_3 => K47 x3 σ_3))
def D_X11_puzzle_47 (K47 : Int32 → GSt → Prop) (Q : Int32 → GSt → Prop) (x3 : Int32) (σ : GSt) : Prop :=
  (¬ (σ 260 (Int32.toNatClampNeg 0)) = 0 → Q (-9) σ) ∧
  ((σ 260 (Int32.toNatClampNeg 0)) = 0 → ((σ 266 (Int32.toNatClampNeg 0)) ≤ 1 → D_X11_puzzle_91 K47 Q x3 σ) ∧
  (¬ (σ 266 (Int32.toNatClampNeg 0)) ≤ 1 → D_X11_isSpent 0 x3 σ (fun r_1 σ_2 => (¬ r_1 = 0 → D_X11_puzzle_91 K47 Q x3 σ_2) ∧
  (r_1 = 0 → D_X11_winning x3 σ_2 (fun r_3 σ_4 => (¬ r_3 = 1 → D_X11_puzzle_91 K47 Q x3 σ_4) ∧
  (r_3 = 1 → Q (σ_4 259 (Int32.toNatClampNeg 0)) σ_4))))))
def L_X11_puzzle_47 (Q : Int32 → GSt → Prop) : Nat → Int32 → GSt → Prop
  | 0 => fun _ _ => False
  | n + 1 => fun x3 σ => D_X11_puzzle_47 (L_X11_puzzle_47 Q n) Q x3 σ
def D_X11_puzzle_0 (Q : Int32 → GSt → Prop) (x1 : Int32) (x2 : Int32) (x3 : Int32) (σ : GSt) : Prop :=
  D_X11_isGame x1 σ (fun r_1 σ_2 => (¬ r_1 = 0 → D_X11_out (Int32.toInt64 x3) 1 4 σ_2 (fun r_3 σ_4 => (r_3 = 0 → D_X11_opens x1 σ_4 (fun σ_5 => ∀ σ_6 : GSt, σ_6 = up2 σ_5 237 45 x2 → (∃ n : Nat, L_X11_puzzle_47 Q n x3 σ_6))) ∧
  (¬ r_3 = 0 → D_X11_no r_3 σ_4 (fun r_7 σ_8 => Q r_7 σ_8)))) ∧
  (r_1 = 0 → D_X11_no (-1) σ_2 (fun r_9 σ_10 => Q r_9 σ_10)))
def D_X11_puzzle (x1 : Int32) (x2 : Int32) (x3 : Int32) (σ : GSt) (Q : Int32 → GSt → Prop) : Prop := D_X11_puzzle_0 Q x1 x2 x3 σ
set_option maxRecDepth 20000 in
set_option maxHeartbeats 4000000 in
theorem s_X11_puzzle_91 {p : Program} {l : Launch} {e : Env} {s : State} {m : MethodId} {args : Array Value} {below : List Frame} {meth : Method} {c : Code} {G : GC} (X : CallFix p m c cm_X11_puzzle 5 s args lw_us "GameLoomModel") (hr : meth.sig.returnType = some .int) (hlk : meth.locks = false) (K47 : Int32 → GSt → Prop) (Q : Int32 → GSt → Prop) (hK47 : ∀ (x3 : Int32) (σ : GSt) (H : Heap) (locs : List Loc) (ls : Array Slot), Wo G s H locs σ → lv_has ls 5 [(0, .ref (G.2.1 237)), (3, .int x3)] → K47 x3 σ → W p l e rm_X11_puzzle s m args below meth c H locs 0 0 (QMI G Q below args s) (F0 m 47 ls [])) (x3 : Int32) (σ : GSt) {H : Heap} {locs : List Loc} {ls : Array Slot} (hw : Wo G s H locs σ) (hl : lv_has ls 5 [(0, .ref (G.2.1 237)), (3, .int x3)]) (hD : D_X11_puzzle_91 K47 Q x3 σ) : W p l e rm_X11_puzzle s m args below meth c H locs 0 0 (QMI G Q below args s) (F0 m 91 ls []) := by
  unfold D_X11_puzzle_91 at hD
  refine lv_aload_n X.1 X.2.1 d_X11_puzzle_91 rfl (lv_at hl 0 rfl) ?_
  refine lv_aload_n X.1 X.2.1 d_X11_puzzle_92 rfl (lv_at hl 0 rfl) ?_
  refine gcV_i (rest := [.ref (G.2.1 237)]) (As := []) (o := 237) X hw (c_X11_lot l G  σ _  hD) (kd_lt (by decide +kernel : kd 237 = 11) (by decide)) (ce_11 G _ (by decide +kernel : kd 237 = 11)) rfl tb_1376 tb_1378 tv_81 tb_12 tb_1379 hd_X11_lot ⟨rfl, rfl⟩ ⟨Nat.le_of_ble_eq_true rfl, Nat.le_of_ble_eq_true rfl⟩ rfl hl.1 rfl (Nat.le_of_ble_eq_true rfl) d_X11_puzzle_93 (fun r_1 σ_2 H locs hD hw => ?_)
  refine gcV_v (rest := []) (As := [.int r_1]) (o := 237) X hw (c_X11_goesOn l G r_1 σ_2 _  hD) (kd_lt (by decide +kernel : kd 237 = 11) (by decide)) (ce_11 G _ (by decide +kernel : kd 237 = 11)) rfl tb_1204 tb_1206 tv_59 tb_12 tb_1207 hd_X11_goesOn ⟨rfl, rfl⟩ ⟨Nat.le_of_ble_eq_true rfl, Nat.le_of_ble_eq_true rfl⟩ rfl hl.1 rfl (Nat.le_of_ble_eq_true rfl) d_X11_puzzle_96 (fun σ_3 H locs hD hw => ?_)
  refine lv_goto (tgt := 47) X.1 X.2.1 d_X11_puzzle_99 (by decide) ?_
  exact hK47 x3 σ_3 _ _ _  hw (lv_sub hl [0, 1] rfl) hD
set_option maxRecDepth 20000 in
set_option maxHeartbeats 4000000 in
theorem s_X11_puzzle_47 {p : Program} {l : Launch} {e : Env} {s : State} {m : MethodId} {args : Array Value} {below : List Frame} {meth : Method} {c : Code} {G : GC} (X : CallFix p m c cm_X11_puzzle 5 s args lw_us "GameLoomModel") (hr : meth.sig.returnType = some .int) (hlk : meth.locks = false) (K47 : Int32 → GSt → Prop) (Q : Int32 → GSt → Prop) (hK47 : ∀ (x3 : Int32) (σ : GSt) (H : Heap) (locs : List Loc) (ls : Array Slot), Wo G s H locs σ → lv_has ls 5 [(0, .ref (G.2.1 237)), (3, .int x3)] → K47 x3 σ → W p l e rm_X11_puzzle s m args below meth c H locs 0 0 (QMI G Q below args s) (F0 m 47 ls [])) (x3 : Int32) (σ : GSt) {H : Heap} {locs : List Loc} {ls : Array Slot} (hw : Wo G s H locs σ) (hl : lv_has ls 5 [(0, .ref (G.2.1 237)), (3, .int x3)]) (hD : D_X11_puzzle_47 K47 Q x3 σ) : W p l e rm_X11_puzzle s m args below meth c H locs 0 0 (QMI G Q below args s) (F0 m 47 ls []) := by
  unfold D_X11_puzzle_47 at hD
  refine lv_aload_n X.1 X.2.1 d_X11_puzzle_47 rfl (lv_at hl 0 rfl) ?_
  refine gf_11_26 X hw (by decide +kernel : kd 237 = 11) tb_932 d_X11_puzzle_48 ?_
  refine lv_iconst (v := 0) X.1 X.2.1 d_X11_puzzle_51 (by decide) ?_
  have q_52 : vp_in 0 9 := by unfold vp_in; decide
  refine g_iald X hw ly_11_26.1 ly_11_26.2 q_52 d_X11_puzzle_52 ?_
  refine lv_if_ne (tgt := 102) X.1 X.2.1 d_X11_puzzle_53 (by decide) (fun q_53 => ?_) (fun q_53 => ?_)
  · have hD := hD.1 q_53
    refine lv_bipush (v := (-9)) X.1 X.2.1 d_X11_puzzle_102 (by decide) ?_
    exact g_iret X hr hlk hw hD d_X11_puzzle_104
  · have hD := hD.2 q_53
    refine lv_aload_n X.1 X.2.1 d_X11_puzzle_56 rfl (lv_at hl 0 rfl) ?_
    refine gf_11_32 X hw (by decide +kernel : kd 237 = 11) tb_938 d_X11_puzzle_57 ?_
    refine lv_iconst (v := 0) X.1 X.2.1 d_X11_puzzle_60 (by decide) ?_
    have q_61 : vp_in 0 9 := by unfold vp_in; decide
    refine g_iald X hw ly_11_32.1 ly_11_32.2 q_61 d_X11_puzzle_61 ?_
    refine lv_iconst (v := 1) X.1 X.2.1 d_X11_puzzle_62 (by decide) ?_
    refine lv_icmp_le (tgt := 91) X.1 X.2.1 d_X11_puzzle_63 (by decide) (fun q_63 => ?_) (fun q_63 => ?_)
    · have hD := hD.1 q_63
      exact s_X11_puzzle_91 X hr hlk K47 Q hK47 x3 σ hw (lv_sub hl [0, 1] rfl) hD
    · have hD := hD.2 q_63
      refine lv_aload_n X.1 X.2.1 d_X11_puzzle_66 rfl (lv_at hl 0 rfl) ?_
      refine lv_iconst (v := 0) X.1 X.2.1 d_X11_puzzle_67 (by decide) ?_
      refine lv_iload_n X.1 X.2.1 d_X11_puzzle_68 rfl (lv_at hl 1 rfl) ?_
      refine gcV_i (rest := []) (As := [.int 0, .int x3]) (o := 237) X hw (c_X11_isSpent l G 0 x3 σ _  hD) (kd_lt (by decide +kernel : kd 237 = 11) (by decide)) (ce_11 G _ (by decide +kernel : kd 237 = 11)) rfl tb_1261 tb_1263 tv_68 tb_12 tb_1264 hd_X11_isSpent ⟨rfl, rfl⟩ ⟨Nat.le_of_ble_eq_true rfl, Nat.le_of_ble_eq_true rfl⟩ rfl hl.1 rfl (Nat.le_of_ble_eq_true rfl) d_X11_puzzle_69 (fun r_1 σ_2 H locs hD hw => ?_)
      refine lv_if_ne (tgt := 91) X.1 X.2.1 d_X11_puzzle_72 (by decide) (fun q_72 => ?_) (fun q_72 => ?_)
      · have hD := hD.1 q_72
        exact s_X11_puzzle_91 X hr hlk K47 Q hK47 x3 σ_2 hw (lv_sub hl [0, 1] rfl) hD
      · have hD := hD.2 q_72
        refine lv_aload_n X.1 X.2.1 d_X11_puzzle_75 rfl (lv_at hl 0 rfl) ?_
        refine lv_iload_n X.1 X.2.1 d_X11_puzzle_76 rfl (lv_at hl 1 rfl) ?_
        refine gcV_i (rest := []) (As := [.int x3]) (o := 237) X hw (c_X11_winning l G x3 σ_2 _  hD) (kd_lt (by decide +kernel : kd 237 = 11) (by decide)) (ce_11 G _ (by decide +kernel : kd 237 = 11)) rfl tb_1372 tb_1374 tv_80 tb_12 tb_1375 hd_X11_winning ⟨rfl, rfl⟩ ⟨Nat.le_of_ble_eq_true rfl, Nat.le_of_ble_eq_true rfl⟩ rfl hl.1 rfl (Nat.le_of_ble_eq_true rfl) d_X11_puzzle_77 (fun r_3 σ_4 H locs hD hw => ?_)
        refine lv_iconst (v := 1) X.1 X.2.1 d_X11_puzzle_80 (by decide) ?_
        refine lv_icmp_ne (tgt := 91) X.1 X.2.1 d_X11_puzzle_81 (by decide) (fun q_81 => ?_) (fun q_81 => ?_)
        · have hD := hD.1 q_81
          exact s_X11_puzzle_91 X hr hlk K47 Q hK47 x3 σ_4 hw (lv_sub hl [0, 1] rfl) hD
        · have hD := hD.2 q_81
          refine lv_aload_n X.1 X.2.1 d_X11_puzzle_84 rfl (lv_at hl 0 rfl) ?_
          refine gf_11_25 X hw (by decide +kernel : kd 237 = 11) tb_931 d_X11_puzzle_85 ?_
          refine lv_iconst (v := 0) X.1 X.2.1 d_X11_puzzle_88 (by decide) ?_
          have q_89 : vp_in 0 9 := by unfold vp_in; decide
          refine g_iald X hw ly_11_25.1 ly_11_25.2 q_89 d_X11_puzzle_89 ?_
          exact g_iret X hr hlk hw hD d_X11_puzzle_90
set_option maxRecDepth 20000 in
set_option maxHeartbeats 4000000 in
theorem sl_X11_puzzle_47 {p : Program} {l : Launch} {e : Env} {s : State} {m : MethodId} {args : Array Value} {below : List Frame} {meth : Method} {c : Code} {G : GC} (X : CallFix p m c cm_X11_puzzle 5 s args lw_us "GameLoomModel") (hr : meth.sig.returnType = some .int) (hlk : meth.locks = false) (Q : Int32 → GSt → Prop) : ∀ (nn : Nat), ∀ (x3 : Int32) (σ : GSt) (H : Heap) (locs : List Loc) (ls : Array Slot), Wo G s H locs σ → lv_has ls 5 [(0, .ref (G.2.1 237)), (3, .int x3)] → L_X11_puzzle_47 Q nn x3 σ → W p l e rm_X11_puzzle s m args below meth c H locs 0 0 (QMI G Q below args s) (F0 m 47 ls []) := by
  intro nn
  induction nn with
  | zero => intro x3 σ H locs ls  hw hl hD; exact hD.elim
  | succ nn ih =>
    intro x3 σ H locs ls  hw hl hD
    exact s_X11_puzzle_47 X hr hlk (L_X11_puzzle_47 Q nn) Q ih x3 σ hw hl hD
set_option maxRecDepth 20000 in
set_option maxHeartbeats 4000000 in
theorem s_X11_puzzle_0 {p : Program} {l : Launch} {e : Env} {s : State} {m : MethodId} {args : Array Value} {below : List Frame} {meth : Method} {c : Code} {G : GC} (X : CallFix p m c cm_X11_puzzle 5 s args lw_us "GameLoomModel") (hr : meth.sig.returnType = some .int) (hlk : meth.locks = false) (Q : Int32 → GSt → Prop) (x1 : Int32) (x2 : Int32) (x3 : Int32) (σ : GSt) {H : Heap} {locs : List Loc} {ls : Array Slot} (hw : Wo G s H locs σ) (hl : lv_has ls 5 [(0, .ref (G.2.1 237)), (1, .int x1), (2, .int x2), (3, .int x3)]) (hD : D_X11_puzzle_0 Q x1 x2 x3 σ) : W p l e rm_X11_puzzle s m args below meth c H locs 0 0 (QMI G Q below args s) (F0 m 0 ls []) := by
  unfold D_X11_puzzle_0 at hD
  refine lv_aload_n X.1 X.2.1 d_X11_puzzle_0 rfl (lv_at hl 0 rfl) ?_
  refine lv_iload_n X.1 X.2.1 d_X11_puzzle_1 rfl (lv_at hl 1 rfl) ?_
  refine gcV_i (rest := []) (As := [.int x1]) (o := 237) X hw (c_X11_isGame l G x1 σ _  hD) (kd_lt (by decide +kernel : kd 237 = 11) (by decide)) (ce_11 G _ (by decide +kernel : kd 237 = 11)) rfl tb_1144 tb_1146 tv_47 tb_12 tb_1147 hd_X11_isGame ⟨rfl, rfl⟩ ⟨Nat.le_of_ble_eq_true rfl, Nat.le_of_ble_eq_true rfl⟩ rfl hl.1 rfl (Nat.le_of_ble_eq_true rfl) d_X11_puzzle_2 (fun r_1 σ_2 H locs hD hw => ?_)
  refine lv_if_ne (tgt := 14) X.1 X.2.1 d_X11_puzzle_5 (by decide) (fun q_5 => ?_) (fun q_5 => ?_)
  · have hD := hD.1 q_5
    refine lv_iload_n X.1 X.2.1 d_X11_puzzle_14 rfl (lv_at hl 3 rfl) ?_
    refine lv_i2l (v := (Int32.toInt64 x3)) X.1 X.2.1 d_X11_puzzle_15 rfl ?_
    refine lv_lconst (v := 1) X.1 X.2.1 d_X11_puzzle_16 (by decide) ?_
    refine lv_ldc2 (v := 4) X.1 X.2.1 X.2.2.2.1 (X.2.2.2.2 _ tb_1371) d_X11_puzzle_17 ?_
    refine gcS_i (rest := []) (As := [.long (Int32.toInt64 x3), .long 1, .long 4]) X hw (c_X11_out l G (Int32.toInt64 x3) 1 4 σ_2 _  hD) tb_1081 tb_1082 tb_12 tb_1083 hd_X11_out ⟨rfl, rfl⟩ ⟨Nat.le_of_ble_eq_true rfl, Nat.le_of_ble_eq_true rfl⟩ rfl hl.1 rfl (Nat.le_of_ble_eq_true rfl) d_X11_puzzle_20 (fun r_3 σ_4 H locs hD hw => ?_)
    refine lv_istore (lv' := [(4, .int r_3), (0, .ref (G.2.1 237)), (1, .int x1), (2, .int x2), (3, .int x3)]) X.1 X.2.1 d_X11_puzzle_23 hl (by decide) rfl (fun ls hl => ?_)
    refine lv_iload X.1 X.2.1 d_X11_puzzle_25 (lv_at hl 0 rfl) ?_
    refine lv_if_eq (tgt := 37) X.1 X.2.1 d_X11_puzzle_27 (by decide) (fun q_27 => ?_) (fun q_27 => ?_)
    · have hD := hD.1 q_27
      refine lv_aload_n X.1 X.2.1 d_X11_puzzle_37 rfl (lv_at hl 1 rfl) ?_
      refine lv_iload_n X.1 X.2.1 d_X11_puzzle_38 rfl (lv_at hl 2 rfl) ?_
      refine gcV_v (rest := []) (As := [.int x1]) (o := 237) X hw (c_X11_opens l G x1 σ_4 _  hD) (kd_lt (by decide +kernel : kd 237 = 11) (by decide)) (ce_11 G _ (by decide +kernel : kd 237 = 11)) rfl tb_1160 tb_1162 tv_49 tb_12 tb_1163 hd_X11_opens ⟨rfl, rfl⟩ ⟨Nat.le_of_ble_eq_true rfl, Nat.le_of_ble_eq_true rfl⟩ rfl hl.1 rfl (Nat.le_of_ble_eq_true rfl) d_X11_puzzle_39 (fun σ_5 H locs hD hw => ?_)
      refine lv_aload_n X.1 X.2.1 d_X11_puzzle_42 rfl (lv_at hl 1 rfl) ?_
      refine lv_iload_n X.1 X.2.1 d_X11_puzzle_43 rfl (lv_at hl 3 rfl) ?_
      refine pf_11_45 X hw (by decide +kernel : kd 237 = 11) tb_951 d_X11_puzzle_44 (fun H locs hw => ?_)
      obtain ⟨σ_6, e_σ_6⟩ : ∃ z : GSt, z = up2 σ_5 237 45 x2 := ⟨_, rfl⟩
      rw [← e_σ_6] at hw
      have hD := hD σ_6 e_σ_6
      obtain ⟨n9, hD⟩ := hD
      exact sl_X11_puzzle_47 X hr hlk  Q  n9 x3 σ_6 _ _ _  hw (lv_sub hl [1, 4] rfl) hD
    · have hD := hD.2 q_27
      refine lv_aload_n X.1 X.2.1 d_X11_puzzle_30 rfl (lv_at hl 1 rfl) ?_
      refine lv_iload X.1 X.2.1 d_X11_puzzle_31 (lv_at hl 0 rfl) ?_
      refine gcV_i (rest := []) (As := [.int r_3]) (o := 237) X hw (c_X11_no l G r_3 σ_4 _  hD) (kd_lt (by decide +kernel : kd 237 = 11) (by decide)) (ce_11 G _ (by decide +kernel : kd 237 = 11)) rfl tb_1084 tb_1086 tv_35 tb_12 tb_1087 hd_X11_no ⟨rfl, rfl⟩ ⟨Nat.le_of_ble_eq_true rfl, Nat.le_of_ble_eq_true rfl⟩ rfl hl.1 rfl (Nat.le_of_ble_eq_true rfl) d_X11_puzzle_33 (fun r_7 σ_8 H locs hD hw => ?_)
      exact g_iret X hr hlk hw hD d_X11_puzzle_36
  · have hD := hD.2 q_5
    refine lv_aload_n X.1 X.2.1 d_X11_puzzle_8 rfl (lv_at hl 0 rfl) ?_
    refine lv_iconst (v := (-1)) X.1 X.2.1 d_X11_puzzle_9 (by decide) ?_
    refine gcV_i (rest := []) (As := [.int (-1)]) (o := 237) X hw (c_X11_no l G (-1) σ_2 _  hD) (kd_lt (by decide +kernel : kd 237 = 11) (by decide)) (ce_11 G _ (by decide +kernel : kd 237 = 11)) rfl tb_1084 tb_1086 tv_35 tb_12 tb_1087 hd_X11_no ⟨rfl, rfl⟩ ⟨Nat.le_of_ble_eq_true rfl, Nat.le_of_ble_eq_true rfl⟩ rfl hl.1 rfl (Nat.le_of_ble_eq_true rfl) d_X11_puzzle_10 (fun r_9 σ_10 H locs hD hw => ?_)
    exact g_iret X hr hlk hw hD d_X11_puzzle_13
theorem c_X11_puzzle (l : Launch) (G : GC) (x1 : Int32) (x2 : Int32) (x3 : Int32) (σ : GSt) (Q : Int32 → GSt → Prop)  (hD : D_X11_puzzle x1 x2 x3 σ Q) : MI l ym_X11_puzzle cm_X11_puzzle 5 .int rm_X11_puzzle G σ [.ref (G.2.1 237), .int x1, .int x2, .int x3] Q := by
  refine met_i (by decide) (Nat.le_of_ble_eq_true rfl) ?_
  intro p e s m args below meth c X hr hlk hw ls hl
  exact s_X11_puzzle_0 X hr hlk Q  x1 x2 x3 σ hw (lv_sub hl [0, 1, 2, 3] rfl) hD
theorem hd_X11_blunder : ym_X11_blunder.cls = "GameLoomModel" ∧ ym_X11_blunder.cls ≠ "java/lang/invoke/MethodHandle" ∧ ym_X11_blunder.cls ≠ "java/lang/invoke/VarHandle" ∧ (parseMethodDescriptor ym_X11_blunder.desc).map (fun d => d.parameters.length) = some 3 := by decide +kernel
abbrev rm_X11_blunder : Room := { frames := 7, cells := 0, slots := 0, locals := 184 }
theorem d_X11_blunder_0 : decode cm_X11_blunder 0 = .ok (.aload_n 0, 1) := by decide +kernel
theorem d_X11_blunder_1 : decode cm_X11_blunder 1 = .ok (.iload_n 1, 1) := by decide +kernel
theorem d_X11_blunder_2 : decode cm_X11_blunder 2 = .ok (.invokevirtual 204, 3) := by decide +kernel
theorem d_X11_blunder_5 : decode cm_X11_blunder 5 = .ok (.ifCond .ne 9, 3) := by decide +kernel
theorem d_X11_blunder_8 : decode cm_X11_blunder 8 = .ok (.aload_n 0, 1) := by decide +kernel
theorem d_X11_blunder_9 : decode cm_X11_blunder 9 = .ok (.iconst (-1), 1) := by decide +kernel
theorem d_X11_blunder_10 : decode cm_X11_blunder 10 = .ok (.invokevirtual 147, 3) := by decide +kernel
theorem d_X11_blunder_13 : decode cm_X11_blunder 13 = .ok (.ireturn, 1) := by decide +kernel
theorem d_X11_blunder_14 : decode cm_X11_blunder 14 = .ok (.iload_n 3, 1) := by decide +kernel
theorem d_X11_blunder_15 : decode cm_X11_blunder 15 = .ok (.i2l, 1) := by decide +kernel
theorem d_X11_blunder_16 : decode cm_X11_blunder 16 = .ok (.lconst 1, 1) := by decide +kernel
theorem d_X11_blunder_17 : decode cm_X11_blunder 17 = .ok (.ldc2_w 358, 3) := by decide +kernel
theorem d_X11_blunder_20 : decode cm_X11_blunder 20 = .ok (.invokestatic 140, 3) := by decide +kernel
theorem d_X11_blunder_23 : decode cm_X11_blunder 23 = .ok (.istore 4, 2) := by decide +kernel
theorem d_X11_blunder_25 : decode cm_X11_blunder 25 = .ok (.iload 4, 2) := by decide +kernel
theorem d_X11_blunder_27 : decode cm_X11_blunder 27 = .ok (.ifCond .eq 10, 3) := by decide +kernel
theorem d_X11_blunder_30 : decode cm_X11_blunder 30 = .ok (.aload_n 0, 1) := by decide +kernel
theorem d_X11_blunder_31 : decode cm_X11_blunder 31 = .ok (.iload 4, 2) := by decide +kernel
theorem d_X11_blunder_33 : decode cm_X11_blunder 33 = .ok (.invokevirtual 147, 3) := by decide +kernel
theorem d_X11_blunder_36 : decode cm_X11_blunder 36 = .ok (.ireturn, 1) := by decide +kernel
theorem d_X11_blunder_37 : decode cm_X11_blunder 37 = .ok (.aload_n 0, 1) := by decide +kernel
theorem d_X11_blunder_38 : decode cm_X11_blunder 38 = .ok (.iload_n 1, 1) := by decide +kernel
theorem d_X11_blunder_39 : decode cm_X11_blunder 39 = .ok (.invokevirtual 263, 3) := by decide +kernel
theorem d_X11_blunder_42 : decode cm_X11_blunder 42 = .ok (.aload_n 0, 1) := by decide +kernel
theorem d_X11_blunder_43 : decode cm_X11_blunder 43 = .ok (.iload_n 2, 1) := by decide +kernel
theorem d_X11_blunder_44 : decode cm_X11_blunder 44 = .ok (.putfield 292, 3) := by decide +kernel
theorem d_X11_blunder_47 : decode cm_X11_blunder 47 = .ok (.aload_n 0, 1) := by decide +kernel
theorem d_X11_blunder_48 : decode cm_X11_blunder 48 = .ok (.getfield 77, 3) := by decide +kernel
theorem d_X11_blunder_51 : decode cm_X11_blunder 51 = .ok (.iconst 0, 1) := by decide +kernel
theorem d_X11_blunder_52 : decode cm_X11_blunder 52 = .ok (.iaload, 1) := by decide +kernel
theorem d_X11_blunder_53 : decode cm_X11_blunder 53 = .ok (.ifCond .ne 62, 3) := by decide +kernel
theorem d_X11_blunder_56 : decode cm_X11_blunder 56 = .ok (.aload_n 0, 1) := by decide +kernel
theorem d_X11_blunder_57 : decode cm_X11_blunder 57 = .ok (.invokevirtual 363, 3) := by decide +kernel
theorem d_X11_blunder_60 : decode cm_X11_blunder 60 = .ok (.istore 5, 2) := by decide +kernel
theorem d_X11_blunder_62 : decode cm_X11_blunder 62 = .ok (.aload_n 0, 1) := by decide +kernel
theorem d_X11_blunder_63 : decode cm_X11_blunder 63 = .ok (.iconst 0, 1) := by decide +kernel
theorem d_X11_blunder_64 : decode cm_X11_blunder 64 = .ok (.iload_n 3, 1) := by decide +kernel
theorem d_X11_blunder_65 : decode cm_X11_blunder 65 = .ok (.invokevirtual 286, 3) := by decide +kernel
theorem d_X11_blunder_68 : decode cm_X11_blunder 68 = .ok (.ifCond .ne 38, 3) := by decide +kernel
theorem d_X11_blunder_71 : decode cm_X11_blunder 71 = .ok (.aload_n 0, 1) := by decide +kernel
theorem d_X11_blunder_72 : decode cm_X11_blunder 72 = .ok (.iconst 0, 1) := by decide +kernel
theorem d_X11_blunder_73 : decode cm_X11_blunder 73 = .ok (.iload_n 3, 1) := by decide +kernel
theorem d_X11_blunder_74 : decode cm_X11_blunder 74 = .ok (.invokevirtual 260, 3) := by decide +kernel
theorem d_X11_blunder_77 : decode cm_X11_blunder 77 = .ok (.iconst 2, 1) := by decide +kernel
theorem d_X11_blunder_78 : decode cm_X11_blunder 78 = .ok (.if_icmp .ne 28, 3) := by decide +kernel
theorem d_X11_blunder_81 : decode cm_X11_blunder 81 = .ok (.aload_n 0, 1) := by decide +kernel
theorem d_X11_blunder_82 : decode cm_X11_blunder 82 = .ok (.iconst 0, 1) := by decide +kernel
theorem d_X11_blunder_83 : decode cm_X11_blunder 83 = .ok (.iload 5, 2) := by decide +kernel
theorem d_X11_blunder_85 : decode cm_X11_blunder 85 = .ok (.invokevirtual 251, 3) := by decide +kernel
theorem d_X11_blunder_88 : decode cm_X11_blunder 88 = .ok (.aload_n 0, 1) := by decide +kernel
theorem d_X11_blunder_89 : decode cm_X11_blunder 89 = .ok (.iconst 1, 1) := by decide +kernel
theorem d_X11_blunder_90 : decode cm_X11_blunder 90 = .ok (.iload_n 3, 1) := by decide +kernel
theorem d_X11_blunder_91 : decode cm_X11_blunder 91 = .ok (.iconst 1, 1) := by decide +kernel
theorem d_X11_blunder_92 : decode cm_X11_blunder 92 = .ok (.isub, 1) := by decide +kernel
theorem d_X11_blunder_93 : decode cm_X11_blunder 93 = .ok (.invokevirtual 260, 3) := by decide +kernel
theorem d_X11_blunder_96 : decode cm_X11_blunder 96 = .ok (.ifCond .le 10, 3) := by decide +kernel
theorem d_X11_blunder_99 : decode cm_X11_blunder 99 = .ok (.aload_n 0, 1) := by decide +kernel
theorem d_X11_blunder_100 : decode cm_X11_blunder 100 = .ok (.getfield 74, 3) := by decide +kernel
theorem d_X11_blunder_103 : decode cm_X11_blunder 103 = .ok (.iconst 0, 1) := by decide +kernel
theorem d_X11_blunder_104 : decode cm_X11_blunder 104 = .ok (.iaload, 1) := by decide +kernel
theorem d_X11_blunder_105 : decode cm_X11_blunder 105 = .ok (.ireturn, 1) := by decide +kernel
theorem d_X11_blunder_106 : decode cm_X11_blunder 106 = .ok (.aload_n 0, 1) := by decide +kernel
theorem d_X11_blunder_107 : decode cm_X11_blunder 107 = .ok (.iload 5, 2) := by decide +kernel
theorem d_X11_blunder_109 : decode cm_X11_blunder 109 = .ok (.invokevirtual 269, 3) := by decide +kernel
theorem d_X11_blunder_112 : decode cm_X11_blunder 112 = .ok (.goto (-65), 3) := by decide +kernel
theorem d_X11_blunder_115 : decode cm_X11_blunder 115 = .ok (.bipush (-9), 2) := by decide +kernel
theorem d_X11_blunder_117 : decode cm_X11_blunder 117 = .ok (.ireturn, 1) := by decide +kernel
def D_X11_blunder_106 (K47 : Int32 → GSt → Prop) (Q : Int32 → GSt → Prop) (x3 : Int32) (x5 : Int32) (σ : GSt) : Prop :=
  D_X11_goesOn x5 σ (fun σ_1 => K47 x3 σ_1)
def D_X11_blunder_47 (K47 : Int32 → GSt → Prop) (Q : Int32 → GSt → Prop) (x3 : Int32) (σ : GSt) : Prop :=
  (¬ (σ 260 (Int32.toNatClampNeg 0)) = 0 → Q (-9) σ) ∧
  ((σ 260 (Int32.toNatClampNeg 0)) = 0 → D_X11_lot  σ (fun r_1 σ_2 => D_X11_isSpent 0 x3 σ_2 (fun r_3 σ_4 => (¬ r_3 = 0 → D_X11_blunder_106 K47 Q x3 r_1 σ_4) ∧
  (r_3 = 0 → D_X11_lookAt 0 x3 σ_4 (fun r_5 σ_6 => (¬ r_5 = 2 → D_X11_blunder_106 K47 Q x3 r_1 σ_6) ∧
  (r_5 = 2 → D_X11_does 0 r_1 σ_6 (fun σ_7 => D_X11_lookAt 1 (x3 - 1) σ_7 (fun r_8 σ_9 => (r_8 ≤ 0 → D_X11_blunder_106 K47 Q x3 r_1 σ_9) ∧
  (¬ r_8 ≤ 0 → Q (σ_9 259 (Int32.toNatClampNeg 0)) σ_9)))))))))
def L_X11_blunder_47 (Q : Int32 → GSt → Prop) : Nat → Int32 → GSt → Prop
  | 0 => fun _ _ => False
  | n + 1 => fun x3 σ => D_X11_blunder_47 (L_X11_blunder_47 Q n) Q x3 σ
def D_X11_blunder_0 (Q : Int32 → GSt → Prop) (x1 : Int32) (x2 : Int32) (x3 : Int32) (σ : GSt) : Prop :=
  D_X11_isGame x1 σ (fun r_1 σ_2 => (¬ r_1 = 0 → D_X11_out (Int32.toInt64 x3) 1 4 σ_2 (fun r_3 σ_4 => (r_3 = 0 → D_X11_opens x1 σ_4 (fun σ_5 => ∀ σ_6 : GSt, σ_6 = up2 σ_5 237 45 x2 → (∃ n : Nat, L_X11_blunder_47 Q n x3 σ_6))) ∧
  (¬ r_3 = 0 → D_X11_no r_3 σ_4 (fun r_7 σ_8 => Q r_7 σ_8)))) ∧
  (r_1 = 0 → D_X11_no (-1) σ_2 (fun r_9 σ_10 => Q r_9 σ_10)))
def D_X11_blunder (x1 : Int32) (x2 : Int32) (x3 : Int32) (σ : GSt) (Q : Int32 → GSt → Prop) : Prop := D_X11_blunder_0 Q x1 x2 x3 σ
set_option maxRecDepth 20000 in
set_option maxHeartbeats 4000000 in
theorem s_X11_blunder_106 {p : Program} {l : Launch} {e : Env} {s : State} {m : MethodId} {args : Array Value} {below : List Frame} {meth : Method} {c : Code} {G : GC} (X : CallFix p m c cm_X11_blunder 6 s args lw_us "GameLoomModel") (hr : meth.sig.returnType = some .int) (hlk : meth.locks = false) (K47 : Int32 → GSt → Prop) (Q : Int32 → GSt → Prop) (hK47 : ∀ (x3 : Int32) (σ : GSt) (H : Heap) (locs : List Loc) (ls : Array Slot), Wo G s H locs σ → lv_has ls 6 [(0, .ref (G.2.1 237)), (3, .int x3)] → K47 x3 σ → W p l e rm_X11_blunder s m args below meth c H locs 0 0 (QMI G Q below args s) (F0 m 47 ls [])) (x3 : Int32) (x5 : Int32) (σ : GSt) {H : Heap} {locs : List Loc} {ls : Array Slot} (hw : Wo G s H locs σ) (hl : lv_has ls 6 [(0, .ref (G.2.1 237)), (3, .int x3), (5, .int x5)]) (hD : D_X11_blunder_106 K47 Q x3 x5 σ) : W p l e rm_X11_blunder s m args below meth c H locs 0 0 (QMI G Q below args s) (F0 m 106 ls []) := by
  unfold D_X11_blunder_106 at hD
  refine lv_aload_n X.1 X.2.1 d_X11_blunder_106 rfl (lv_at hl 0 rfl) ?_
  refine lv_iload X.1 X.2.1 d_X11_blunder_107 (lv_at hl 2 rfl) ?_
  refine gcV_v (rest := []) (As := [.int x5]) (o := 237) X hw (c_X11_goesOn l G x5 σ _  hD) (kd_lt (by decide +kernel : kd 237 = 11) (by decide)) (ce_11 G _ (by decide +kernel : kd 237 = 11)) rfl tb_1204 tb_1206 tv_59 tb_12 tb_1207 hd_X11_goesOn ⟨rfl, rfl⟩ ⟨Nat.le_of_ble_eq_true rfl, Nat.le_of_ble_eq_true rfl⟩ rfl hl.1 rfl (Nat.le_of_ble_eq_true rfl) d_X11_blunder_109 (fun σ_1 H locs hD hw => ?_)
  refine lv_goto (tgt := 47) X.1 X.2.1 d_X11_blunder_112 (by decide) ?_
  exact hK47 x3 σ_1 _ _ _  hw (lv_sub hl [0, 1] rfl) hD
set_option maxRecDepth 20000 in
set_option maxHeartbeats 4000000 in
theorem s_X11_blunder_47 {p : Program} {l : Launch} {e : Env} {s : State} {m : MethodId} {args : Array Value} {below : List Frame} {meth : Method} {c : Code} {G : GC} (X : CallFix p m c cm_X11_blunder 6 s args lw_us "GameLoomModel") (hr : meth.sig.returnType = some .int) (hlk : meth.locks = false) (K47 : Int32 → GSt → Prop) (Q : Int32 → GSt → Prop) (hK47 : ∀ (x3 : Int32) (σ : GSt) (H : Heap) (locs : List Loc) (ls : Array Slot), Wo G s H locs σ → lv_has ls 6 [(0, .ref (G.2.1 237)), (3, .int x3)] → K47 x3 σ → W p l e rm_X11_blunder s m args below meth c H locs 0 0 (QMI G Q below args s) (F0 m 47 ls [])) (x3 : Int32) (σ : GSt) {H : Heap} {locs : List Loc} {ls : Array Slot} (hw : Wo G s H locs σ) (hl : lv_has ls 6 [(0, .ref (G.2.1 237)), (3, .int x3)]) (hD : D_X11_blunder_47 K47 Q x3 σ) : W p l e rm_X11_blunder s m args below meth c H locs 0 0 (QMI G Q below args s) (F0 m 47 ls []) := by
  unfold D_X11_blunder_47 at hD
  refine lv_aload_n X.1 X.2.1 d_X11_blunder_47 rfl (lv_at hl 0 rfl) ?_
  refine gf_11_26 X hw (by decide +kernel : kd 237 = 11) tb_932 d_X11_blunder_48 ?_
  refine lv_iconst (v := 0) X.1 X.2.1 d_X11_blunder_51 (by decide) ?_
  have q_52 : vp_in 0 9 := by unfold vp_in; decide
  refine g_iald X hw ly_11_26.1 ly_11_26.2 q_52 d_X11_blunder_52 ?_
  refine lv_if_ne (tgt := 115) X.1 X.2.1 d_X11_blunder_53 (by decide) (fun q_53 => ?_) (fun q_53 => ?_)
  · have hD := hD.1 q_53
    refine lv_bipush (v := (-9)) X.1 X.2.1 d_X11_blunder_115 (by decide) ?_
    exact g_iret X hr hlk hw hD d_X11_blunder_117
  · have hD := hD.2 q_53
    refine lv_aload_n X.1 X.2.1 d_X11_blunder_56 rfl (lv_at hl 0 rfl) ?_
    refine gcV_i (rest := []) (As := []) (o := 237) X hw (c_X11_lot l G  σ _  hD) (kd_lt (by decide +kernel : kd 237 = 11) (by decide)) (ce_11 G _ (by decide +kernel : kd 237 = 11)) rfl tb_1376 tb_1378 tv_81 tb_12 tb_1379 hd_X11_lot ⟨rfl, rfl⟩ ⟨Nat.le_of_ble_eq_true rfl, Nat.le_of_ble_eq_true rfl⟩ rfl hl.1 rfl (Nat.le_of_ble_eq_true rfl) d_X11_blunder_57 (fun r_1 σ_2 H locs hD hw => ?_)
    refine lv_istore (lv' := [(5, .int r_1), (0, .ref (G.2.1 237)), (3, .int x3)]) X.1 X.2.1 d_X11_blunder_60 hl (by decide) rfl (fun ls hl => ?_)
    refine lv_aload_n X.1 X.2.1 d_X11_blunder_62 rfl (lv_at hl 1 rfl) ?_
    refine lv_iconst (v := 0) X.1 X.2.1 d_X11_blunder_63 (by decide) ?_
    refine lv_iload_n X.1 X.2.1 d_X11_blunder_64 rfl (lv_at hl 2 rfl) ?_
    refine gcV_i (rest := []) (As := [.int 0, .int x3]) (o := 237) X hw (c_X11_isSpent l G 0 x3 σ_2 _  hD) (kd_lt (by decide +kernel : kd 237 = 11) (by decide)) (ce_11 G _ (by decide +kernel : kd 237 = 11)) rfl tb_1261 tb_1263 tv_68 tb_12 tb_1264 hd_X11_isSpent ⟨rfl, rfl⟩ ⟨Nat.le_of_ble_eq_true rfl, Nat.le_of_ble_eq_true rfl⟩ rfl hl.1 rfl (Nat.le_of_ble_eq_true rfl) d_X11_blunder_65 (fun r_3 σ_4 H locs hD hw => ?_)
    refine lv_if_ne (tgt := 106) X.1 X.2.1 d_X11_blunder_68 (by decide) (fun q_68 => ?_) (fun q_68 => ?_)
    · have hD := hD.1 q_68
      exact s_X11_blunder_106 X hr hlk K47 Q hK47 x3 r_1 σ_4 hw (lv_sub hl [1, 2, 0] rfl) hD
    · have hD := hD.2 q_68
      refine lv_aload_n X.1 X.2.1 d_X11_blunder_71 rfl (lv_at hl 1 rfl) ?_
      refine lv_iconst (v := 0) X.1 X.2.1 d_X11_blunder_72 (by decide) ?_
      refine lv_iload_n X.1 X.2.1 d_X11_blunder_73 rfl (lv_at hl 2 rfl) ?_
      refine gcV_i (rest := []) (As := [.int 0, .int x3]) (o := 237) X hw (c_X11_lookAt l G 0 x3 σ_4 _  hD) (kd_lt (by decide +kernel : kd 237 = 11) (by decide)) (ce_11 G _ (by decide +kernel : kd 237 = 11)) rfl tb_1265 tb_1267 tv_69 tb_12 tb_1268 hd_X11_lookAt ⟨rfl, rfl⟩ ⟨Nat.le_of_ble_eq_true rfl, Nat.le_of_ble_eq_true rfl⟩ rfl hl.1 rfl (Nat.le_of_ble_eq_true rfl) d_X11_blunder_74 (fun r_5 σ_6 H locs hD hw => ?_)
      refine lv_iconst (v := 2) X.1 X.2.1 d_X11_blunder_77 (by decide) ?_
      refine lv_icmp_ne (tgt := 106) X.1 X.2.1 d_X11_blunder_78 (by decide) (fun q_78 => ?_) (fun q_78 => ?_)
      · have hD := hD.1 q_78
        exact s_X11_blunder_106 X hr hlk K47 Q hK47 x3 r_1 σ_6 hw (lv_sub hl [1, 2, 0] rfl) hD
      · have hD := hD.2 q_78
        refine lv_aload_n X.1 X.2.1 d_X11_blunder_81 rfl (lv_at hl 1 rfl) ?_
        refine lv_iconst (v := 0) X.1 X.2.1 d_X11_blunder_82 (by decide) ?_
        refine lv_iload X.1 X.2.1 d_X11_blunder_83 (lv_at hl 0 rfl) ?_
        refine gcV_v (rest := []) (As := [.int 0, .int r_1]) (o := 237) X hw (c_X11_does l G 0 r_1 σ_6 _  hD) (kd_lt (by decide +kernel : kd 237 = 11) (by decide)) (ce_11 G _ (by decide +kernel : kd 237 = 11)) rfl tb_1208 tb_1210 tv_60 tb_12 tb_1211 hd_X11_does ⟨rfl, rfl⟩ ⟨Nat.le_of_ble_eq_true rfl, Nat.le_of_ble_eq_true rfl⟩ rfl hl.1 rfl (Nat.le_of_ble_eq_true rfl) d_X11_blunder_85 (fun σ_7 H locs hD hw => ?_)
        refine lv_aload_n X.1 X.2.1 d_X11_blunder_88 rfl (lv_at hl 1 rfl) ?_
        refine lv_iconst (v := 1) X.1 X.2.1 d_X11_blunder_89 (by decide) ?_
        refine lv_iload_n X.1 X.2.1 d_X11_blunder_90 rfl (lv_at hl 2 rfl) ?_
        refine lv_iconst (v := 1) X.1 X.2.1 d_X11_blunder_91 (by decide) ?_
        refine lv_isub X.1 X.2.1 d_X11_blunder_92 ?_
        refine gcV_i (rest := []) (As := [.int 1, .int (x3 - 1)]) (o := 237) X hw (c_X11_lookAt l G 1 (x3 - 1) σ_7 _  hD) (kd_lt (by decide +kernel : kd 237 = 11) (by decide)) (ce_11 G _ (by decide +kernel : kd 237 = 11)) rfl tb_1265 tb_1267 tv_69 tb_12 tb_1268 hd_X11_lookAt ⟨rfl, rfl⟩ ⟨Nat.le_of_ble_eq_true rfl, Nat.le_of_ble_eq_true rfl⟩ rfl hl.1 rfl (Nat.le_of_ble_eq_true rfl) d_X11_blunder_93 (fun r_8 σ_9 H locs hD hw => ?_)
        refine lv_if_le (tgt := 106) X.1 X.2.1 d_X11_blunder_96 (by decide) (fun q_96 => ?_) (fun q_96 => ?_)
        · have hD := hD.1 q_96
          exact s_X11_blunder_106 X hr hlk K47 Q hK47 x3 r_1 σ_9 hw (lv_sub hl [1, 2, 0] rfl) hD
        · have hD := hD.2 q_96
          refine lv_aload_n X.1 X.2.1 d_X11_blunder_99 rfl (lv_at hl 1 rfl) ?_
          refine gf_11_25 X hw (by decide +kernel : kd 237 = 11) tb_931 d_X11_blunder_100 ?_
          refine lv_iconst (v := 0) X.1 X.2.1 d_X11_blunder_103 (by decide) ?_
          have q_104 : vp_in 0 9 := by unfold vp_in; decide
          refine g_iald X hw ly_11_25.1 ly_11_25.2 q_104 d_X11_blunder_104 ?_
          exact g_iret X hr hlk hw hD d_X11_blunder_105
set_option maxRecDepth 20000 in
set_option maxHeartbeats 4000000 in
theorem sl_X11_blunder_47 {p : Program} {l : Launch} {e : Env} {s : State} {m : MethodId} {args : Array Value} {below : List Frame} {meth : Method} {c : Code} {G : GC} (X : CallFix p m c cm_X11_blunder 6 s args lw_us "GameLoomModel") (hr : meth.sig.returnType = some .int) (hlk : meth.locks = false) (Q : Int32 → GSt → Prop) : ∀ (nn : Nat), ∀ (x3 : Int32) (σ : GSt) (H : Heap) (locs : List Loc) (ls : Array Slot), Wo G s H locs σ → lv_has ls 6 [(0, .ref (G.2.1 237)), (3, .int x3)] → L_X11_blunder_47 Q nn x3 σ → W p l e rm_X11_blunder s m args below meth c H locs 0 0 (QMI G Q below args s) (F0 m 47 ls []) := by
  intro nn
  induction nn with
  | zero => intro x3 σ H locs ls  hw hl hD; exact hD.elim
  | succ nn ih =>
    intro x3 σ H locs ls  hw hl hD
    exact s_X11_blunder_47 X hr hlk (L_X11_blunder_47 Q nn) Q ih x3 σ hw hl hD
set_option maxRecDepth 20000 in
set_option maxHeartbeats 4000000 in
theorem s_X11_blunder_0 {p : Program} {l : Launch} {e : Env} {s : State} {m : MethodId} {args : Array Value} {below : List Frame} {meth : Method} {c : Code} {G : GC} (X : CallFix p m c cm_X11_blunder 6 s args lw_us "GameLoomModel") (hr : meth.sig.returnType = some .int) (hlk : meth.locks = false) (Q : Int32 → GSt → Prop) (x1 : Int32) (x2 : Int32) (x3 : Int32) (σ : GSt) {H : Heap} {locs : List Loc} {ls : Array Slot} (hw : Wo G s H locs σ) (hl : lv_has ls 6 [(0, .ref (G.2.1 237)), (1, .int x1), (2, .int x2), (3, .int x3)]) (hD : D_X11_blunder_0 Q x1 x2 x3 σ) : W p l e rm_X11_blunder s m args below meth c H locs 0 0 (QMI G Q below args s) (F0 m 0 ls []) := by
  unfold D_X11_blunder_0 at hD
  refine lv_aload_n X.1 X.2.1 d_X11_blunder_0 rfl (lv_at hl 0 rfl) ?_
  refine lv_iload_n X.1 X.2.1 d_X11_blunder_1 rfl (lv_at hl 1 rfl) ?_
  refine gcV_i (rest := []) (As := [.int x1]) (o := 237) X hw (c_X11_isGame l G x1 σ _  hD) (kd_lt (by decide +kernel : kd 237 = 11) (by decide)) (ce_11 G _ (by decide +kernel : kd 237 = 11)) rfl tb_1144 tb_1146 tv_47 tb_12 tb_1147 hd_X11_isGame ⟨rfl, rfl⟩ ⟨Nat.le_of_ble_eq_true rfl, Nat.le_of_ble_eq_true rfl⟩ rfl hl.1 rfl (Nat.le_of_ble_eq_true rfl) d_X11_blunder_2 (fun r_1 σ_2 H locs hD hw => ?_)
  refine lv_if_ne (tgt := 14) X.1 X.2.1 d_X11_blunder_5 (by decide) (fun q_5 => ?_) (fun q_5 => ?_)
  · have hD := hD.1 q_5
    refine lv_iload_n X.1 X.2.1 d_X11_blunder_14 rfl (lv_at hl 3 rfl) ?_
    refine lv_i2l (v := (Int32.toInt64 x3)) X.1 X.2.1 d_X11_blunder_15 rfl ?_
    refine lv_lconst (v := 1) X.1 X.2.1 d_X11_blunder_16 (by decide) ?_
    refine lv_ldc2 (v := 4) X.1 X.2.1 X.2.2.2.1 (X.2.2.2.2 _ tb_1371) d_X11_blunder_17 ?_
    refine gcS_i (rest := []) (As := [.long (Int32.toInt64 x3), .long 1, .long 4]) X hw (c_X11_out l G (Int32.toInt64 x3) 1 4 σ_2 _  hD) tb_1081 tb_1082 tb_12 tb_1083 hd_X11_out ⟨rfl, rfl⟩ ⟨Nat.le_of_ble_eq_true rfl, Nat.le_of_ble_eq_true rfl⟩ rfl hl.1 rfl (Nat.le_of_ble_eq_true rfl) d_X11_blunder_20 (fun r_3 σ_4 H locs hD hw => ?_)
    refine lv_istore (lv' := [(4, .int r_3), (0, .ref (G.2.1 237)), (1, .int x1), (2, .int x2), (3, .int x3)]) X.1 X.2.1 d_X11_blunder_23 hl (by decide) rfl (fun ls hl => ?_)
    refine lv_iload X.1 X.2.1 d_X11_blunder_25 (lv_at hl 0 rfl) ?_
    refine lv_if_eq (tgt := 37) X.1 X.2.1 d_X11_blunder_27 (by decide) (fun q_27 => ?_) (fun q_27 => ?_)
    · have hD := hD.1 q_27
      refine lv_aload_n X.1 X.2.1 d_X11_blunder_37 rfl (lv_at hl 1 rfl) ?_
      refine lv_iload_n X.1 X.2.1 d_X11_blunder_38 rfl (lv_at hl 2 rfl) ?_
      refine gcV_v (rest := []) (As := [.int x1]) (o := 237) X hw (c_X11_opens l G x1 σ_4 _  hD) (kd_lt (by decide +kernel : kd 237 = 11) (by decide)) (ce_11 G _ (by decide +kernel : kd 237 = 11)) rfl tb_1160 tb_1162 tv_49 tb_12 tb_1163 hd_X11_opens ⟨rfl, rfl⟩ ⟨Nat.le_of_ble_eq_true rfl, Nat.le_of_ble_eq_true rfl⟩ rfl hl.1 rfl (Nat.le_of_ble_eq_true rfl) d_X11_blunder_39 (fun σ_5 H locs hD hw => ?_)
      refine lv_aload_n X.1 X.2.1 d_X11_blunder_42 rfl (lv_at hl 1 rfl) ?_
      refine lv_iload_n X.1 X.2.1 d_X11_blunder_43 rfl (lv_at hl 3 rfl) ?_
      refine pf_11_45 X hw (by decide +kernel : kd 237 = 11) tb_951 d_X11_blunder_44 (fun H locs hw => ?_)
      obtain ⟨σ_6, e_σ_6⟩ : ∃ z : GSt, z = up2 σ_5 237 45 x2 := ⟨_, rfl⟩
      rw [← e_σ_6] at hw
      have hD := hD σ_6 e_σ_6
      obtain ⟨n9, hD⟩ := hD
      exact sl_X11_blunder_47 X hr hlk  Q  n9 x3 σ_6 _ _ _  hw (lv_sub hl [1, 4] rfl) hD
    · have hD := hD.2 q_27
      refine lv_aload_n X.1 X.2.1 d_X11_blunder_30 rfl (lv_at hl 1 rfl) ?_
      refine lv_iload X.1 X.2.1 d_X11_blunder_31 (lv_at hl 0 rfl) ?_
      refine gcV_i (rest := []) (As := [.int r_3]) (o := 237) X hw (c_X11_no l G r_3 σ_4 _  hD) (kd_lt (by decide +kernel : kd 237 = 11) (by decide)) (ce_11 G _ (by decide +kernel : kd 237 = 11)) rfl tb_1084 tb_1086 tv_35 tb_12 tb_1087 hd_X11_no ⟨rfl, rfl⟩ ⟨Nat.le_of_ble_eq_true rfl, Nat.le_of_ble_eq_true rfl⟩ rfl hl.1 rfl (Nat.le_of_ble_eq_true rfl) d_X11_blunder_33 (fun r_7 σ_8 H locs hD hw => ?_)
      exact g_iret X hr hlk hw hD d_X11_blunder_36
  · have hD := hD.2 q_5
    refine lv_aload_n X.1 X.2.1 d_X11_blunder_8 rfl (lv_at hl 0 rfl) ?_
    refine lv_iconst (v := (-1)) X.1 X.2.1 d_X11_blunder_9 (by decide) ?_
    refine gcV_i (rest := []) (As := [.int (-1)]) (o := 237) X hw (c_X11_no l G (-1) σ_2 _  hD) (kd_lt (by decide +kernel : kd 237 = 11) (by decide)) (ce_11 G _ (by decide +kernel : kd 237 = 11)) rfl tb_1084 tb_1086 tv_35 tb_12 tb_1087 hd_X11_no ⟨rfl, rfl⟩ ⟨Nat.le_of_ble_eq_true rfl, Nat.le_of_ble_eq_true rfl⟩ rfl hl.1 rfl (Nat.le_of_ble_eq_true rfl) d_X11_blunder_10 (fun r_9 σ_10 H locs hD hw => ?_)
    exact g_iret X hr hlk hw hD d_X11_blunder_13
theorem c_X11_blunder (l : Launch) (G : GC) (x1 : Int32) (x2 : Int32) (x3 : Int32) (σ : GSt) (Q : Int32 → GSt → Prop)  (hD : D_X11_blunder x1 x2 x3 σ Q) : MI l ym_X11_blunder cm_X11_blunder 6 .int rm_X11_blunder G σ [.ref (G.2.1 237), .int x1, .int x2, .int x3] Q := by
  refine met_i (by decide) (Nat.le_of_ble_eq_true rfl) ?_
  intro p e s m args below meth c X hr hlk hw ls hl
  exact s_X11_blunder_0 X hr hlk Q  x1 x2 x3 σ hw (lv_sub hl [0, 1, 2, 3] rfl) hD
theorem hd_X11_pie : ym_X11_pie.cls = "GameLoomModel" ∧ ym_X11_pie.cls ≠ "java/lang/invoke/MethodHandle" ∧ ym_X11_pie.cls ≠ "java/lang/invoke/VarHandle" ∧ (parseMethodDescriptor ym_X11_pie.desc).map (fun d => d.parameters.length) = some 3 := by decide +kernel
abbrev rm_X11_pie : Room := { frames := 7, cells := 0, slots := 0, locals := 184 }
theorem d_X11_pie_0 : decode cm_X11_pie 0 = .ok (.aload_n 0, 1) := by decide +kernel
theorem d_X11_pie_1 : decode cm_X11_pie 1 = .ok (.iload_n 1, 1) := by decide +kernel
theorem d_X11_pie_2 : decode cm_X11_pie 2 = .ok (.invokevirtual 204, 3) := by decide +kernel
theorem d_X11_pie_5 : decode cm_X11_pie 5 = .ok (.ifCond .ne 9, 3) := by decide +kernel
theorem d_X11_pie_8 : decode cm_X11_pie 8 = .ok (.aload_n 0, 1) := by decide +kernel
theorem d_X11_pie_9 : decode cm_X11_pie 9 = .ok (.iconst (-1), 1) := by decide +kernel
theorem d_X11_pie_10 : decode cm_X11_pie 10 = .ok (.invokevirtual 147, 3) := by decide +kernel
theorem d_X11_pie_13 : decode cm_X11_pie 13 = .ok (.ireturn, 1) := by decide +kernel
theorem d_X11_pie_14 : decode cm_X11_pie 14 = .ok (.iload_n 3, 1) := by decide +kernel
theorem d_X11_pie_15 : decode cm_X11_pie 15 = .ok (.i2l, 1) := by decide +kernel
theorem d_X11_pie_16 : decode cm_X11_pie 16 = .ok (.lconst 0, 1) := by decide +kernel
theorem d_X11_pie_17 : decode cm_X11_pie 17 = .ok (.ldc2_w 366, 3) := by decide +kernel
theorem d_X11_pie_20 : decode cm_X11_pie 20 = .ok (.invokestatic 163, 3) := by decide +kernel
theorem d_X11_pie_23 : decode cm_X11_pie 23 = .ok (.ifCond .ne 10, 3) := by decide +kernel
theorem d_X11_pie_26 : decode cm_X11_pie 26 = .ok (.aload_n 0, 1) := by decide +kernel
theorem d_X11_pie_27 : decode cm_X11_pie 27 = .ok (.bipush (-2), 2) := by decide +kernel
theorem d_X11_pie_29 : decode cm_X11_pie 29 = .ok (.invokevirtual 147, 3) := by decide +kernel
theorem d_X11_pie_32 : decode cm_X11_pie 32 = .ok (.ireturn, 1) := by decide +kernel
theorem d_X11_pie_33 : decode cm_X11_pie 33 = .ok (.iload_n 2, 1) := by decide +kernel
theorem d_X11_pie_34 : decode cm_X11_pie 34 = .ok (.i2l, 1) := by decide +kernel
theorem d_X11_pie_35 : decode cm_X11_pie 35 = .ok (.lconst 0, 1) := by decide +kernel
theorem d_X11_pie_36 : decode cm_X11_pie 36 = .ok (.ldc2_w 358, 3) := by decide +kernel
theorem d_X11_pie_39 : decode cm_X11_pie 39 = .ok (.invokestatic 140, 3) := by decide +kernel
theorem d_X11_pie_42 : decode cm_X11_pie 42 = .ok (.istore 4, 2) := by decide +kernel
theorem d_X11_pie_44 : decode cm_X11_pie 44 = .ok (.iload 4, 2) := by decide +kernel
theorem d_X11_pie_46 : decode cm_X11_pie 46 = .ok (.ifCond .eq 10, 3) := by decide +kernel
theorem d_X11_pie_49 : decode cm_X11_pie 49 = .ok (.aload_n 0, 1) := by decide +kernel
theorem d_X11_pie_50 : decode cm_X11_pie 50 = .ok (.iload 4, 2) := by decide +kernel
theorem d_X11_pie_52 : decode cm_X11_pie 52 = .ok (.invokevirtual 147, 3) := by decide +kernel
theorem d_X11_pie_55 : decode cm_X11_pie 55 = .ok (.ireturn, 1) := by decide +kernel
theorem d_X11_pie_56 : decode cm_X11_pie 56 = .ok (.aload_n 0, 1) := by decide +kernel
theorem d_X11_pie_57 : decode cm_X11_pie 57 = .ok (.iload_n 1, 1) := by decide +kernel
theorem d_X11_pie_58 : decode cm_X11_pie 58 = .ok (.invokevirtual 263, 3) := by decide +kernel
theorem d_X11_pie_61 : decode cm_X11_pie 61 = .ok (.iconst 0, 1) := by decide +kernel
theorem d_X11_pie_62 : decode cm_X11_pie 62 = .ok (.istore 5, 2) := by decide +kernel
theorem d_X11_pie_64 : decode cm_X11_pie 64 = .ok (.iconst 0, 1) := by decide +kernel
theorem d_X11_pie_65 : decode cm_X11_pie 65 = .ok (.istore 6, 2) := by decide +kernel
theorem d_X11_pie_67 : decode cm_X11_pie 67 = .ok (.iload 6, 2) := by decide +kernel
theorem d_X11_pie_69 : decode cm_X11_pie 69 = .ok (.aload_n 0, 1) := by decide +kernel
theorem d_X11_pie_70 : decode cm_X11_pie 70 = .ok (.getfield 95, 3) := by decide +kernel
theorem d_X11_pie_73 : decode cm_X11_pie 73 = .ok (.iconst 0, 1) := by decide +kernel
theorem d_X11_pie_74 : decode cm_X11_pie 74 = .ok (.iaload, 1) := by decide +kernel
theorem d_X11_pie_75 : decode cm_X11_pie 75 = .ok (.if_icmp .ge 59, 3) := by decide +kernel
theorem d_X11_pie_78 : decode cm_X11_pie 78 = .ok (.aload_n 0, 1) := by decide +kernel
theorem d_X11_pie_79 : decode cm_X11_pie 79 = .ok (.iconst 0, 1) := by decide +kernel
theorem d_X11_pie_80 : decode cm_X11_pie 80 = .ok (.iload 6, 2) := by decide +kernel
theorem d_X11_pie_82 : decode cm_X11_pie 82 = .ok (.invokevirtual 251, 3) := by decide +kernel
theorem d_X11_pie_85 : decode cm_X11_pie 85 = .ok (.aload_n 0, 1) := by decide +kernel
theorem d_X11_pie_86 : decode cm_X11_pie 86 = .ok (.iconst 1, 1) := by decide +kernel
theorem d_X11_pie_87 : decode cm_X11_pie 87 = .ok (.iload_n 2, 1) := by decide +kernel
theorem d_X11_pie_88 : decode cm_X11_pie 88 = .ok (.invokevirtual 286, 3) := by decide +kernel
theorem d_X11_pie_91 : decode cm_X11_pie 91 = .ok (.ifCond .eq 10, 3) := by decide +kernel
theorem d_X11_pie_94 : decode cm_X11_pie 94 = .ok (.aload_n 0, 1) := by decide +kernel
theorem d_X11_pie_95 : decode cm_X11_pie 95 = .ok (.bipush (-5), 2) := by decide +kernel
theorem d_X11_pie_97 : decode cm_X11_pie 97 = .ok (.invokevirtual 147, 3) := by decide +kernel
theorem d_X11_pie_100 : decode cm_X11_pie 100 = .ok (.ireturn, 1) := by decide +kernel
theorem d_X11_pie_101 : decode cm_X11_pie 101 = .ok (.aload_n 0, 1) := by decide +kernel
theorem d_X11_pie_102 : decode cm_X11_pie 102 = .ok (.iconst 0, 1) := by decide +kernel
theorem d_X11_pie_103 : decode cm_X11_pie 103 = .ok (.iload 6, 2) := by decide +kernel
theorem d_X11_pie_105 : decode cm_X11_pie 105 = .ok (.invokevirtual 251, 3) := by decide +kernel
theorem d_X11_pie_108 : decode cm_X11_pie 108 = .ok (.iload 5, 2) := by decide +kernel
theorem d_X11_pie_110 : decode cm_X11_pie 110 = .ok (.aload_n 0, 1) := by decide +kernel
theorem d_X11_pie_111 : decode cm_X11_pie 111 = .ok (.iconst 1, 1) := by decide +kernel
theorem d_X11_pie_112 : decode cm_X11_pie 112 = .ok (.iload_n 2, 1) := by decide +kernel
theorem d_X11_pie_113 : decode cm_X11_pie 113 = .ok (.invokevirtual 260, 3) := by decide +kernel
theorem d_X11_pie_116 : decode cm_X11_pie 116 = .ok (.iload_n 3, 1) := by decide +kernel
theorem d_X11_pie_117 : decode cm_X11_pie 117 = .ok (.if_icmp .ne 7, 3) := by decide +kernel
theorem d_X11_pie_120 : decode cm_X11_pie 120 = .ok (.iconst 1, 1) := by decide +kernel
theorem d_X11_pie_121 : decode cm_X11_pie 121 = .ok (.goto 4, 3) := by decide +kernel
theorem d_X11_pie_124 : decode cm_X11_pie 124 = .ok (.iconst 0, 1) := by decide +kernel
theorem d_X11_pie_125 : decode cm_X11_pie 125 = .ok (.iadd, 1) := by decide +kernel
theorem d_X11_pie_126 : decode cm_X11_pie 126 = .ok (.istore 5, 2) := by decide +kernel
theorem d_X11_pie_128 : decode cm_X11_pie 128 = .ok (.iinc 6 1, 3) := by decide +kernel
theorem d_X11_pie_131 : decode cm_X11_pie 131 = .ok (.goto (-64), 3) := by decide +kernel
theorem d_X11_pie_134 : decode cm_X11_pie 134 = .ok (.iload 5, 2) := by decide +kernel
theorem d_X11_pie_136 : decode cm_X11_pie 136 = .ok (.ireturn, 1) := by decide +kernel
def D_X11_pie_125 (K67 : Int32 → Int32 → Int32 → Int32 → GSt → Prop) (Q : Int32 → GSt → Prop) (x2 : Int32) (x3 : Int32) (x6 : Int32) (s0 : Int32) (s1 : Int32) (σ : GSt) : Prop :=
  ∀ x5_1 : Int32, x5_1 = (s0 + s1) → (∀ x6_2 : Int32, x6_2 = x6 + 1 → (K67 x2 x3 x5_1 x6_2 σ))
def D_X11_pie_67 (K67 : Int32 → Int32 → Int32 → Int32 → GSt → Prop) (Q : Int32 → GSt → Prop) (x2 : Int32) (x3 : Int32) (x5 : Int32) (x6 : Int32) (σ : GSt) : Prop :=
  ((σ 266 (Int32.toNatClampNeg 0)) ≤ x6 → Q x5 σ) ∧
  (¬ (σ 266 (Int32.toNatClampNeg 0)) ≤ x6 → D_X11_does 0 x6 σ (fun σ_1 => D_X11_isSpent 1 x2 σ_1 (fun r_2 σ_3 => (r_2 = 0 → D_X11_does 0 x6 σ_3 (fun σ_4 => D_X11_lookAt 1 x2 σ_4 (fun r_5 σ_6 => (¬ r_5 = x3 → D_X11_pie_125 K67 Q x2 x3 x6 x5 0 σ_6) ∧
  (r_5 = x3 → D_X11_pie_125 K67 Q x2 x3 x6 x5 1 σ_6)))) ∧
  (¬ r_2 = 0 → D_X11_no (-5) σ_3 (fun r_7 σ_8 => Q r_7 σ_8)))))
def L_X11_pie_67 (Q : Int32 → GSt → Prop) : Nat → Int32 → Int32 → Int32 → Int32 → GSt → Prop
  | 0 => fun _ _ _ _ _ => False
  | n + 1 => fun x2 x3 x5 x6 σ => D_X11_pie_67 (L_X11_pie_67 Q n) Q x2 x3 x5 x6 σ
def D_X11_pie_0 (Q : Int32 → GSt → Prop) (x1 : Int32) (x2 : Int32) (x3 : Int32) (σ : GSt) : Prop :=
  D_X11_isGame x1 σ (fun r_1 σ_2 => (¬ r_1 = 0 → D_X11_isIn (Int32.toInt64 x3) 0 2 σ_2 (fun r_3 σ_4 => (¬ r_3 = 0 → D_X11_out (Int32.toInt64 x2) 0 4 σ_4 (fun r_5 σ_6 => (r_5 = 0 → D_X11_opens x1 σ_6 (fun σ_7 => ∃ n : Nat, L_X11_pie_67 Q n x2 x3 0 0 σ_7)) ∧
  (¬ r_5 = 0 → D_X11_no r_5 σ_6 (fun r_8 σ_9 => Q r_8 σ_9)))) ∧
  (r_3 = 0 → D_X11_no (-2) σ_4 (fun r_10 σ_11 => Q r_10 σ_11)))) ∧
  (r_1 = 0 → D_X11_no (-1) σ_2 (fun r_12 σ_13 => Q r_12 σ_13)))
def D_X11_pie (x1 : Int32) (x2 : Int32) (x3 : Int32) (σ : GSt) (Q : Int32 → GSt → Prop) : Prop := D_X11_pie_0 Q x1 x2 x3 σ
set_option maxRecDepth 20000 in
set_option maxHeartbeats 4000000 in
theorem s_X11_pie_125 {p : Program} {l : Launch} {e : Env} {s : State} {m : MethodId} {args : Array Value} {below : List Frame} {meth : Method} {c : Code} {G : GC} (X : CallFix p m c cm_X11_pie 7 s args lw_us "GameLoomModel") (hr : meth.sig.returnType = some .int) (hlk : meth.locks = false) (K67 : Int32 → Int32 → Int32 → Int32 → GSt → Prop) (Q : Int32 → GSt → Prop) (hK67 : ∀ (x2 : Int32) (x3 : Int32) (x5 : Int32) (x6 : Int32) (σ : GSt) (H : Heap) (locs : List Loc) (ls : Array Slot), Wo G s H locs σ → lv_has ls 7 [(0, .ref (G.2.1 237)), (2, .int x2), (3, .int x3), (5, .int x5), (6, .int x6)] → K67 x2 x3 x5 x6 σ → W p l e rm_X11_pie s m args below meth c H locs 0 0 (QMI G Q below args s) (F0 m 67 ls [])) (x2 : Int32) (x3 : Int32) (x6 : Int32) (s0 : Int32) (s1 : Int32) (σ : GSt) {H : Heap} {locs : List Loc} {ls : Array Slot} (hw : Wo G s H locs σ) (hl : lv_has ls 7 [(0, .ref (G.2.1 237)), (2, .int x2), (3, .int x3), (6, .int x6)]) (hD : D_X11_pie_125 K67 Q x2 x3 x6 s0 s1 σ) : W p l e rm_X11_pie s m args below meth c H locs 0 0 (QMI G Q below args s) (F0 m 125 ls [.int s1, .int s0]) := by
  unfold D_X11_pie_125 at hD
  refine lv_iadd X.1 X.2.1 d_X11_pie_125 ?_
  refine lv_topi (fun x5_1 e_x5_1 => ?_)
  have hD := hD x5_1 e_x5_1
  refine lv_istore (lv' := [(5, .int x5_1), (0, .ref (G.2.1 237)), (2, .int x2), (3, .int x3), (6, .int x6)]) X.1 X.2.1 d_X11_pie_126 hl (by decide) rfl (fun ls hl => ?_)
  obtain ⟨x6_2, e_x6_2⟩ : ∃ y : Int32, y = x6 + 1 := ⟨_, rfl⟩
  have hD := hD x6_2 e_x6_2
  refine lv_iinc (v := x6_2) (lv' := [(6, .int x6_2), (5, .int x5_1), (0, .ref (G.2.1 237)), (2, .int x2), (3, .int x3)]) X.1 X.2.1 d_X11_pie_128 hl (k := 4) rfl (by rw [e_x6_2]; rfl) (by decide) rfl (fun ls hl => ?_)
  refine lv_goto (tgt := 67) X.1 X.2.1 d_X11_pie_131 (by decide) ?_
  exact hK67 x2 x3 x5_1 x6_2 σ _ _ _  hw (lv_sub hl [2, 3, 4, 1, 0] rfl) hD
set_option maxRecDepth 20000 in
set_option maxHeartbeats 4000000 in
theorem s_X11_pie_67 {p : Program} {l : Launch} {e : Env} {s : State} {m : MethodId} {args : Array Value} {below : List Frame} {meth : Method} {c : Code} {G : GC} (X : CallFix p m c cm_X11_pie 7 s args lw_us "GameLoomModel") (hr : meth.sig.returnType = some .int) (hlk : meth.locks = false) (K67 : Int32 → Int32 → Int32 → Int32 → GSt → Prop) (Q : Int32 → GSt → Prop) (hK67 : ∀ (x2 : Int32) (x3 : Int32) (x5 : Int32) (x6 : Int32) (σ : GSt) (H : Heap) (locs : List Loc) (ls : Array Slot), Wo G s H locs σ → lv_has ls 7 [(0, .ref (G.2.1 237)), (2, .int x2), (3, .int x3), (5, .int x5), (6, .int x6)] → K67 x2 x3 x5 x6 σ → W p l e rm_X11_pie s m args below meth c H locs 0 0 (QMI G Q below args s) (F0 m 67 ls [])) (x2 : Int32) (x3 : Int32) (x5 : Int32) (x6 : Int32) (σ : GSt) {H : Heap} {locs : List Loc} {ls : Array Slot} (hw : Wo G s H locs σ) (hl : lv_has ls 7 [(0, .ref (G.2.1 237)), (2, .int x2), (3, .int x3), (5, .int x5), (6, .int x6)]) (hD : D_X11_pie_67 K67 Q x2 x3 x5 x6 σ) : W p l e rm_X11_pie s m args below meth c H locs 0 0 (QMI G Q below args s) (F0 m 67 ls []) := by
  unfold D_X11_pie_67 at hD
  refine lv_iload X.1 X.2.1 d_X11_pie_67 (lv_at hl 4 rfl) ?_
  refine lv_aload_n X.1 X.2.1 d_X11_pie_69 rfl (lv_at hl 0 rfl) ?_
  refine gf_11_32 X hw (by decide +kernel : kd 237 = 11) tb_938 d_X11_pie_70 ?_
  refine lv_iconst (v := 0) X.1 X.2.1 d_X11_pie_73 (by decide) ?_
  have q_74 : vp_in 0 9 := by unfold vp_in; decide
  refine g_iald X hw ly_11_32.1 ly_11_32.2 q_74 d_X11_pie_74 ?_
  refine lv_icmp_ge (tgt := 134) X.1 X.2.1 d_X11_pie_75 (by decide) (fun q_75 => ?_) (fun q_75 => ?_)
  · have hD := hD.1 q_75
    refine lv_iload X.1 X.2.1 d_X11_pie_134 (lv_at hl 3 rfl) ?_
    exact g_iret X hr hlk hw hD d_X11_pie_136
  · have hD := hD.2 q_75
    refine lv_aload_n X.1 X.2.1 d_X11_pie_78 rfl (lv_at hl 0 rfl) ?_
    refine lv_iconst (v := 0) X.1 X.2.1 d_X11_pie_79 (by decide) ?_
    refine lv_iload X.1 X.2.1 d_X11_pie_80 (lv_at hl 4 rfl) ?_
    refine gcV_v (rest := []) (As := [.int 0, .int x6]) (o := 237) X hw (c_X11_does l G 0 x6 σ _  hD) (kd_lt (by decide +kernel : kd 237 = 11) (by decide)) (ce_11 G _ (by decide +kernel : kd 237 = 11)) rfl tb_1208 tb_1210 tv_60 tb_12 tb_1211 hd_X11_does ⟨rfl, rfl⟩ ⟨Nat.le_of_ble_eq_true rfl, Nat.le_of_ble_eq_true rfl⟩ rfl hl.1 rfl (Nat.le_of_ble_eq_true rfl) d_X11_pie_82 (fun σ_1 H locs hD hw => ?_)
    refine lv_aload_n X.1 X.2.1 d_X11_pie_85 rfl (lv_at hl 0 rfl) ?_
    refine lv_iconst (v := 1) X.1 X.2.1 d_X11_pie_86 (by decide) ?_
    refine lv_iload_n X.1 X.2.1 d_X11_pie_87 rfl (lv_at hl 1 rfl) ?_
    refine gcV_i (rest := []) (As := [.int 1, .int x2]) (o := 237) X hw (c_X11_isSpent l G 1 x2 σ_1 _  hD) (kd_lt (by decide +kernel : kd 237 = 11) (by decide)) (ce_11 G _ (by decide +kernel : kd 237 = 11)) rfl tb_1261 tb_1263 tv_68 tb_12 tb_1264 hd_X11_isSpent ⟨rfl, rfl⟩ ⟨Nat.le_of_ble_eq_true rfl, Nat.le_of_ble_eq_true rfl⟩ rfl hl.1 rfl (Nat.le_of_ble_eq_true rfl) d_X11_pie_88 (fun r_2 σ_3 H locs hD hw => ?_)
    refine lv_if_eq (tgt := 101) X.1 X.2.1 d_X11_pie_91 (by decide) (fun q_91 => ?_) (fun q_91 => ?_)
    · have hD := hD.1 q_91
      refine lv_aload_n X.1 X.2.1 d_X11_pie_101 rfl (lv_at hl 0 rfl) ?_
      refine lv_iconst (v := 0) X.1 X.2.1 d_X11_pie_102 (by decide) ?_
      refine lv_iload X.1 X.2.1 d_X11_pie_103 (lv_at hl 4 rfl) ?_
      refine gcV_v (rest := []) (As := [.int 0, .int x6]) (o := 237) X hw (c_X11_does l G 0 x6 σ_3 _  hD) (kd_lt (by decide +kernel : kd 237 = 11) (by decide)) (ce_11 G _ (by decide +kernel : kd 237 = 11)) rfl tb_1208 tb_1210 tv_60 tb_12 tb_1211 hd_X11_does ⟨rfl, rfl⟩ ⟨Nat.le_of_ble_eq_true rfl, Nat.le_of_ble_eq_true rfl⟩ rfl hl.1 rfl (Nat.le_of_ble_eq_true rfl) d_X11_pie_105 (fun σ_4 H locs hD hw => ?_)
      refine lv_iload X.1 X.2.1 d_X11_pie_108 (lv_at hl 3 rfl) ?_
      refine lv_aload_n X.1 X.2.1 d_X11_pie_110 rfl (lv_at hl 0 rfl) ?_
      refine lv_iconst (v := 1) X.1 X.2.1 d_X11_pie_111 (by decide) ?_
      refine lv_iload_n X.1 X.2.1 d_X11_pie_112 rfl (lv_at hl 1 rfl) ?_
      refine gcV_i (rest := [.int x5]) (As := [.int 1, .int x2]) (o := 237) X hw (c_X11_lookAt l G 1 x2 σ_4 _  hD) (kd_lt (by decide +kernel : kd 237 = 11) (by decide)) (ce_11 G _ (by decide +kernel : kd 237 = 11)) rfl tb_1265 tb_1267 tv_69 tb_12 tb_1268 hd_X11_lookAt ⟨rfl, rfl⟩ ⟨Nat.le_of_ble_eq_true rfl, Nat.le_of_ble_eq_true rfl⟩ rfl hl.1 rfl (Nat.le_of_ble_eq_true rfl) d_X11_pie_113 (fun r_5 σ_6 H locs hD hw => ?_)
      refine lv_iload_n X.1 X.2.1 d_X11_pie_116 rfl (lv_at hl 2 rfl) ?_
      refine lv_icmp_ne (tgt := 124) X.1 X.2.1 d_X11_pie_117 (by decide) (fun q_117 => ?_) (fun q_117 => ?_)
      · have hD := hD.1 q_117
        refine lv_iconst (v := 0) X.1 X.2.1 d_X11_pie_124 (by decide) ?_
        exact s_X11_pie_125 X hr hlk K67 Q hK67 x2 x3 x6 x5 0 σ_6 hw (lv_sub hl [0, 1, 2, 4] rfl) hD
      · have hD := hD.2 q_117
        refine lv_iconst (v := 1) X.1 X.2.1 d_X11_pie_120 (by decide) ?_
        refine lv_goto (tgt := 125) X.1 X.2.1 d_X11_pie_121 (by decide) ?_
        exact s_X11_pie_125 X hr hlk K67 Q hK67 x2 x3 x6 x5 1 σ_6 hw (lv_sub hl [0, 1, 2, 4] rfl) hD
    · have hD := hD.2 q_91
      refine lv_aload_n X.1 X.2.1 d_X11_pie_94 rfl (lv_at hl 0 rfl) ?_
      refine lv_bipush (v := (-5)) X.1 X.2.1 d_X11_pie_95 (by decide) ?_
      refine gcV_i (rest := []) (As := [.int (-5)]) (o := 237) X hw (c_X11_no l G (-5) σ_3 _  hD) (kd_lt (by decide +kernel : kd 237 = 11) (by decide)) (ce_11 G _ (by decide +kernel : kd 237 = 11)) rfl tb_1084 tb_1086 tv_35 tb_12 tb_1087 hd_X11_no ⟨rfl, rfl⟩ ⟨Nat.le_of_ble_eq_true rfl, Nat.le_of_ble_eq_true rfl⟩ rfl hl.1 rfl (Nat.le_of_ble_eq_true rfl) d_X11_pie_97 (fun r_7 σ_8 H locs hD hw => ?_)
      exact g_iret X hr hlk hw hD d_X11_pie_100
set_option maxRecDepth 20000 in
set_option maxHeartbeats 4000000 in
theorem sl_X11_pie_67 {p : Program} {l : Launch} {e : Env} {s : State} {m : MethodId} {args : Array Value} {below : List Frame} {meth : Method} {c : Code} {G : GC} (X : CallFix p m c cm_X11_pie 7 s args lw_us "GameLoomModel") (hr : meth.sig.returnType = some .int) (hlk : meth.locks = false) (Q : Int32 → GSt → Prop) : ∀ (nn : Nat), ∀ (x2 : Int32) (x3 : Int32) (x5 : Int32) (x6 : Int32) (σ : GSt) (H : Heap) (locs : List Loc) (ls : Array Slot), Wo G s H locs σ → lv_has ls 7 [(0, .ref (G.2.1 237)), (2, .int x2), (3, .int x3), (5, .int x5), (6, .int x6)] → L_X11_pie_67 Q nn x2 x3 x5 x6 σ → W p l e rm_X11_pie s m args below meth c H locs 0 0 (QMI G Q below args s) (F0 m 67 ls []) := by
  intro nn
  induction nn with
  | zero => intro x2 x3 x5 x6 σ H locs ls  hw hl hD; exact hD.elim
  | succ nn ih =>
    intro x2 x3 x5 x6 σ H locs ls  hw hl hD
    exact s_X11_pie_67 X hr hlk (L_X11_pie_67 Q nn) Q ih x2 x3 x5 x6 σ hw hl hD
set_option maxRecDepth 20000 in
set_option maxHeartbeats 4000000 in
theorem s_X11_pie_0 {p : Program} {l : Launch} {e : Env} {s : State} {m : MethodId} {args : Array Value} {below : List Frame} {meth : Method} {c : Code} {G : GC} (X : CallFix p m c cm_X11_pie 7 s args lw_us "GameLoomModel") (hr : meth.sig.returnType = some .int) (hlk : meth.locks = false) (Q : Int32 → GSt → Prop) (x1 : Int32) (x2 : Int32) (x3 : Int32) (σ : GSt) {H : Heap} {locs : List Loc} {ls : Array Slot} (hw : Wo G s H locs σ) (hl : lv_has ls 7 [(0, .ref (G.2.1 237)), (1, .int x1), (2, .int x2), (3, .int x3)]) (hD : D_X11_pie_0 Q x1 x2 x3 σ) : W p l e rm_X11_pie s m args below meth c H locs 0 0 (QMI G Q below args s) (F0 m 0 ls []) := by
  unfold D_X11_pie_0 at hD
  refine lv_aload_n X.1 X.2.1 d_X11_pie_0 rfl (lv_at hl 0 rfl) ?_
  refine lv_iload_n X.1 X.2.1 d_X11_pie_1 rfl (lv_at hl 1 rfl) ?_
  refine gcV_i (rest := []) (As := [.int x1]) (o := 237) X hw (c_X11_isGame l G x1 σ _  hD) (kd_lt (by decide +kernel : kd 237 = 11) (by decide)) (ce_11 G _ (by decide +kernel : kd 237 = 11)) rfl tb_1144 tb_1146 tv_47 tb_12 tb_1147 hd_X11_isGame ⟨rfl, rfl⟩ ⟨Nat.le_of_ble_eq_true rfl, Nat.le_of_ble_eq_true rfl⟩ rfl hl.1 rfl (Nat.le_of_ble_eq_true rfl) d_X11_pie_2 (fun r_1 σ_2 H locs hD hw => ?_)
  refine lv_if_ne (tgt := 14) X.1 X.2.1 d_X11_pie_5 (by decide) (fun q_5 => ?_) (fun q_5 => ?_)
  · have hD := hD.1 q_5
    refine lv_iload_n X.1 X.2.1 d_X11_pie_14 rfl (lv_at hl 3 rfl) ?_
    refine lv_i2l (v := (Int32.toInt64 x3)) X.1 X.2.1 d_X11_pie_15 rfl ?_
    refine lv_lconst (v := 0) X.1 X.2.1 d_X11_pie_16 (by decide) ?_
    refine lv_ldc2 (v := 2) X.1 X.2.1 X.2.2.2.1 (X.2.2.2.2 _ tb_1388) d_X11_pie_17 ?_
    refine gcS_i (rest := []) (As := [.long (Int32.toInt64 x3), .long 0, .long 2]) X hw (c_X11_isIn l G (Int32.toInt64 x3) 0 2 σ_2 _  hD) tb_1125 tb_1126 tb_12 tb_1127 hd_X11_isIn ⟨rfl, rfl⟩ ⟨Nat.le_of_ble_eq_true rfl, Nat.le_of_ble_eq_true rfl⟩ rfl hl.1 rfl (Nat.le_of_ble_eq_true rfl) d_X11_pie_20 (fun r_3 σ_4 H locs hD hw => ?_)
    refine lv_if_ne (tgt := 33) X.1 X.2.1 d_X11_pie_23 (by decide) (fun q_23 => ?_) (fun q_23 => ?_)
    · have hD := hD.1 q_23
      refine lv_iload_n X.1 X.2.1 d_X11_pie_33 rfl (lv_at hl 2 rfl) ?_
      refine lv_i2l (v := (Int32.toInt64 x2)) X.1 X.2.1 d_X11_pie_34 rfl ?_
      refine lv_lconst (v := 0) X.1 X.2.1 d_X11_pie_35 (by decide) ?_
      refine lv_ldc2 (v := 4) X.1 X.2.1 X.2.2.2.1 (X.2.2.2.2 _ tb_1371) d_X11_pie_36 ?_
      refine gcS_i (rest := []) (As := [.long (Int32.toInt64 x2), .long 0, .long 4]) X hw (c_X11_out l G (Int32.toInt64 x2) 0 4 σ_4 _  hD) tb_1081 tb_1082 tb_12 tb_1083 hd_X11_out ⟨rfl, rfl⟩ ⟨Nat.le_of_ble_eq_true rfl, Nat.le_of_ble_eq_true rfl⟩ rfl hl.1 rfl (Nat.le_of_ble_eq_true rfl) d_X11_pie_39 (fun r_5 σ_6 H locs hD hw => ?_)
      refine lv_istore (lv' := [(4, .int r_5), (0, .ref (G.2.1 237)), (1, .int x1), (2, .int x2), (3, .int x3)]) X.1 X.2.1 d_X11_pie_42 hl (by decide) rfl (fun ls hl => ?_)
      refine lv_iload X.1 X.2.1 d_X11_pie_44 (lv_at hl 0 rfl) ?_
      refine lv_if_eq (tgt := 56) X.1 X.2.1 d_X11_pie_46 (by decide) (fun q_46 => ?_) (fun q_46 => ?_)
      · have hD := hD.1 q_46
        refine lv_aload_n X.1 X.2.1 d_X11_pie_56 rfl (lv_at hl 1 rfl) ?_
        refine lv_iload_n X.1 X.2.1 d_X11_pie_57 rfl (lv_at hl 2 rfl) ?_
        refine gcV_v (rest := []) (As := [.int x1]) (o := 237) X hw (c_X11_opens l G x1 σ_6 _  hD) (kd_lt (by decide +kernel : kd 237 = 11) (by decide)) (ce_11 G _ (by decide +kernel : kd 237 = 11)) rfl tb_1160 tb_1162 tv_49 tb_12 tb_1163 hd_X11_opens ⟨rfl, rfl⟩ ⟨Nat.le_of_ble_eq_true rfl, Nat.le_of_ble_eq_true rfl⟩ rfl hl.1 rfl (Nat.le_of_ble_eq_true rfl) d_X11_pie_58 (fun σ_7 H locs hD hw => ?_)
        refine lv_iconst (v := 0) X.1 X.2.1 d_X11_pie_61 (by decide) ?_
        refine lv_istore (lv' := [(5, .int 0), (4, .int r_5), (0, .ref (G.2.1 237)), (1, .int x1), (2, .int x2), (3, .int x3)]) X.1 X.2.1 d_X11_pie_62 hl (by decide) rfl (fun ls hl => ?_)
        refine lv_iconst (v := 0) X.1 X.2.1 d_X11_pie_64 (by decide) ?_
        refine lv_istore (lv' := [(6, .int 0), (5, .int 0), (4, .int r_5), (0, .ref (G.2.1 237)), (1, .int x1), (2, .int x2), (3, .int x3)]) X.1 X.2.1 d_X11_pie_65 hl (by decide) rfl (fun ls hl => ?_)
        obtain ⟨n9, hD⟩ := hD
        exact sl_X11_pie_67 X hr hlk  Q  n9 x2 x3 0 0 σ_7 _ _ _  hw (lv_sub hl [3, 5, 6, 1, 0] rfl) hD
      · have hD := hD.2 q_46
        refine lv_aload_n X.1 X.2.1 d_X11_pie_49 rfl (lv_at hl 1 rfl) ?_
        refine lv_iload X.1 X.2.1 d_X11_pie_50 (lv_at hl 0 rfl) ?_
        refine gcV_i (rest := []) (As := [.int r_5]) (o := 237) X hw (c_X11_no l G r_5 σ_6 _  hD) (kd_lt (by decide +kernel : kd 237 = 11) (by decide)) (ce_11 G _ (by decide +kernel : kd 237 = 11)) rfl tb_1084 tb_1086 tv_35 tb_12 tb_1087 hd_X11_no ⟨rfl, rfl⟩ ⟨Nat.le_of_ble_eq_true rfl, Nat.le_of_ble_eq_true rfl⟩ rfl hl.1 rfl (Nat.le_of_ble_eq_true rfl) d_X11_pie_52 (fun r_8 σ_9 H locs hD hw => ?_)
        exact g_iret X hr hlk hw hD d_X11_pie_55
    · have hD := hD.2 q_23
      refine lv_aload_n X.1 X.2.1 d_X11_pie_26 rfl (lv_at hl 0 rfl) ?_
      refine lv_bipush (v := (-2)) X.1 X.2.1 d_X11_pie_27 (by decide) ?_
      refine gcV_i (rest := []) (As := [.int (-2)]) (o := 237) X hw (c_X11_no l G (-2) σ_4 _  hD) (kd_lt (by decide +kernel : kd 237 = 11) (by decide)) (ce_11 G _ (by decide +kernel : kd 237 = 11)) rfl tb_1084 tb_1086 tv_35 tb_12 tb_1087 hd_X11_no ⟨rfl, rfl⟩ ⟨Nat.le_of_ble_eq_true rfl, Nat.le_of_ble_eq_true rfl⟩ rfl hl.1 rfl (Nat.le_of_ble_eq_true rfl) d_X11_pie_29 (fun r_10 σ_11 H locs hD hw => ?_)
      exact g_iret X hr hlk hw hD d_X11_pie_32
  · have hD := hD.2 q_5
    refine lv_aload_n X.1 X.2.1 d_X11_pie_8 rfl (lv_at hl 0 rfl) ?_
    refine lv_iconst (v := (-1)) X.1 X.2.1 d_X11_pie_9 (by decide) ?_
    refine gcV_i (rest := []) (As := [.int (-1)]) (o := 237) X hw (c_X11_no l G (-1) σ_2 _  hD) (kd_lt (by decide +kernel : kd 237 = 11) (by decide)) (ce_11 G _ (by decide +kernel : kd 237 = 11)) rfl tb_1084 tb_1086 tv_35 tb_12 tb_1087 hd_X11_no ⟨rfl, rfl⟩ ⟨Nat.le_of_ble_eq_true rfl, Nat.le_of_ble_eq_true rfl⟩ rfl hl.1 rfl (Nat.le_of_ble_eq_true rfl) d_X11_pie_10 (fun r_12 σ_13 H locs hD hw => ?_)
    exact g_iret X hr hlk hw hD d_X11_pie_13
theorem c_X11_pie (l : Launch) (G : GC) (x1 : Int32) (x2 : Int32) (x3 : Int32) (σ : GSt) (Q : Int32 → GSt → Prop)  (hD : D_X11_pie x1 x2 x3 σ Q) : MI l ym_X11_pie cm_X11_pie 7 .int rm_X11_pie G σ [.ref (G.2.1 237), .int x1, .int x2, .int x3] Q := by
  refine met_i (by decide) (Nat.le_of_ble_eq_true rfl) ?_
  intro p e s m args below meth c X hr hlk hw ls hl
  exact s_X11_pie_0 X hr hlk Q  x1 x2 x3 σ hw (lv_sub hl [0, 1, 2, 3] rfl) hD
theorem hd_X11_keep : ym_X11_keep.cls = "GameLoomModel" ∧ ym_X11_keep.cls ≠ "java/lang/invoke/MethodHandle" ∧ ym_X11_keep.cls ≠ "java/lang/invoke/VarHandle" ∧ (parseMethodDescriptor ym_X11_keep.desc).map (fun d => d.parameters.length) = some 2 := by decide +kernel
abbrev rm_X11_keep : Room := { frames := 11, cells := 0, slots := 0, locals := 280 }
theorem d_X11_keep_0 : decode cm_X11_keep 0 = .ok (.aload_n 0, 1) := by decide +kernel
theorem d_X11_keep_1 : decode cm_X11_keep 1 = .ok (.iload_n 1, 1) := by decide +kernel
theorem d_X11_keep_2 : decode cm_X11_keep 2 = .ok (.invokevirtual 204, 3) := by decide +kernel
theorem d_X11_keep_5 : decode cm_X11_keep 5 = .ok (.ifCond .ne 9, 3) := by decide +kernel
theorem d_X11_keep_8 : decode cm_X11_keep 8 = .ok (.aload_n 0, 1) := by decide +kernel
theorem d_X11_keep_9 : decode cm_X11_keep 9 = .ok (.iconst (-1), 1) := by decide +kernel
theorem d_X11_keep_10 : decode cm_X11_keep 10 = .ok (.invokevirtual 147, 3) := by decide +kernel
theorem d_X11_keep_13 : decode cm_X11_keep 13 = .ok (.ireturn, 1) := by decide +kernel
theorem d_X11_keep_14 : decode cm_X11_keep 14 = .ok (.aload_n 0, 1) := by decide +kernel
theorem d_X11_keep_15 : decode cm_X11_keep 15 = .ok (.iload_n 1, 1) := by decide +kernel
theorem d_X11_keep_16 : decode cm_X11_keep 16 = .ok (.bipush 10, 2) := by decide +kernel
theorem d_X11_keep_18 : decode cm_X11_keep 18 = .ok (.iload_n 2, 1) := by decide +kernel
theorem d_X11_keep_19 : decode cm_X11_keep 19 = .ok (.iconst 0, 1) := by decide +kernel
theorem d_X11_keep_20 : decode cm_X11_keep 20 = .ok (.iconst 0, 1) := by decide +kernel
theorem d_X11_keep_21 : decode cm_X11_keep 21 = .ok (.invokevirtual 325, 3) := by decide +kernel
theorem d_X11_keep_24 : decode cm_X11_keep 24 = .ok (.bipush 10, 2) := by decide +kernel
theorem d_X11_keep_26 : decode cm_X11_keep 26 = .ok (.aload_n 0, 1) := by decide +kernel
theorem d_X11_keep_27 : decode cm_X11_keep 27 = .ok (.getfield 299, 3) := by decide +kernel
theorem d_X11_keep_30 : decode cm_X11_keep 30 = .ok (.aload_n 0, 1) := by decide +kernel
theorem d_X11_keep_31 : decode cm_X11_keep 31 = .ok (.getfield 302, 3) := by decide +kernel
theorem d_X11_keep_34 : decode cm_X11_keep 34 = .ok (.if_icmp .ge 10, 3) := by decide +kernel
theorem d_X11_keep_37 : decode cm_X11_keep 37 = .ok (.aload_n 0, 1) := by decide +kernel
theorem d_X11_keep_38 : decode cm_X11_keep 38 = .ok (.getfield 299, 3) := by decide +kernel
theorem d_X11_keep_41 : decode cm_X11_keep 41 = .ok (.goto 7, 3) := by decide +kernel
theorem d_X11_keep_44 : decode cm_X11_keep 44 = .ok (.aload_n 0, 1) := by decide +kernel
theorem d_X11_keep_45 : decode cm_X11_keep 45 = .ok (.getfield 302, 3) := by decide +kernel
theorem d_X11_keep_48 : decode cm_X11_keep 48 = .ok (.imul, 1) := by decide +kernel
theorem d_X11_keep_49 : decode cm_X11_keep 49 = .ok (.aload_n 0, 1) := by decide +kernel
theorem d_X11_keep_50 : decode cm_X11_keep 50 = .ok (.getfield 308, 3) := by decide +kernel
theorem d_X11_keep_53 : decode cm_X11_keep 53 = .ok (.bipush 10, 2) := by decide +kernel
theorem d_X11_keep_55 : decode cm_X11_keep 55 = .ok (.idiv, 1) := by decide +kernel
theorem d_X11_keep_56 : decode cm_X11_keep 56 = .ok (.iadd, 1) := by decide +kernel
theorem d_X11_keep_57 : decode cm_X11_keep 57 = .ok (.istore_n 3, 1) := by decide +kernel
theorem d_X11_keep_58 : decode cm_X11_keep 58 = .ok (.aload_n 0, 1) := by decide +kernel
theorem d_X11_keep_59 : decode cm_X11_keep 59 = .ok (.getfield 22, 3) := by decide +kernel
theorem d_X11_keep_62 : decode cm_X11_keep 62 = .ok (.iload_n 1, 1) := by decide +kernel
theorem d_X11_keep_63 : decode cm_X11_keep 63 = .ok (.iaload, 1) := by decide +kernel
theorem d_X11_keep_64 : decode cm_X11_keep 64 = .ok (.aload_n 0, 1) := by decide +kernel
theorem d_X11_keep_65 : decode cm_X11_keep 65 = .ok (.getfield 25, 3) := by decide +kernel
theorem d_X11_keep_68 : decode cm_X11_keep 68 = .ok (.iload_n 1, 1) := by decide +kernel
theorem d_X11_keep_69 : decode cm_X11_keep 69 = .ok (.iaload, 1) := by decide +kernel
theorem d_X11_keep_70 : decode cm_X11_keep 70 = .ok (.imul, 1) := by decide +kernel
theorem d_X11_keep_71 : decode cm_X11_keep 71 = .ok (.istore 4, 2) := by decide +kernel
theorem d_X11_keep_73 : decode cm_X11_keep 73 = .ok (.aload_n 0, 1) := by decide +kernel
theorem d_X11_keep_74 : decode cm_X11_keep 74 = .ok (.getfield 132, 3) := by decide +kernel
theorem d_X11_keep_77 : decode cm_X11_keep 77 = .ok (.iload 4, 2) := by decide +kernel
theorem d_X11_keep_79 : decode cm_X11_keep 79 = .ok (.iaload, 1) := by decide +kernel
theorem d_X11_keep_80 : decode cm_X11_keep 80 = .ok (.bipush (-9), 2) := by decide +kernel
theorem d_X11_keep_82 : decode cm_X11_keep 82 = .ok (.if_icmp .eq 14, 3) := by decide +kernel
theorem d_X11_keep_85 : decode cm_X11_keep 85 = .ok (.iload_n 3, 1) := by decide +kernel
theorem d_X11_keep_86 : decode cm_X11_keep 86 = .ok (.aload_n 0, 1) := by decide +kernel
theorem d_X11_keep_87 : decode cm_X11_keep 87 = .ok (.getfield 135, 3) := by decide +kernel
theorem d_X11_keep_90 : decode cm_X11_keep 90 = .ok (.iload 4, 2) := by decide +kernel
theorem d_X11_keep_92 : decode cm_X11_keep 92 = .ok (.iaload, 1) := by decide +kernel
theorem d_X11_keep_93 : decode cm_X11_keep 93 = .ok (.if_icmp .le 19, 3) := by decide +kernel
theorem d_X11_keep_96 : decode cm_X11_keep 96 = .ok (.aload_n 0, 1) := by decide +kernel
theorem d_X11_keep_97 : decode cm_X11_keep 97 = .ok (.getfield 132, 3) := by decide +kernel
theorem d_X11_keep_100 : decode cm_X11_keep 100 = .ok (.iload 4, 2) := by decide +kernel
theorem d_X11_keep_102 : decode cm_X11_keep 102 = .ok (.iload_n 1, 1) := by decide +kernel
theorem d_X11_keep_103 : decode cm_X11_keep 103 = .ok (.iastore, 1) := by decide +kernel
theorem d_X11_keep_104 : decode cm_X11_keep 104 = .ok (.aload_n 0, 1) := by decide +kernel
theorem d_X11_keep_105 : decode cm_X11_keep 105 = .ok (.getfield 135, 3) := by decide +kernel
theorem d_X11_keep_108 : decode cm_X11_keep 108 = .ok (.iload 4, 2) := by decide +kernel
theorem d_X11_keep_110 : decode cm_X11_keep 110 = .ok (.iload_n 3, 1) := by decide +kernel
theorem d_X11_keep_111 : decode cm_X11_keep 111 = .ok (.iastore, 1) := by decide +kernel
theorem d_X11_keep_112 : decode cm_X11_keep 112 = .ok (.aload_n 0, 1) := by decide +kernel
theorem d_X11_keep_113 : decode cm_X11_keep 113 = .ok (.getfield 132, 3) := by decide +kernel
theorem d_X11_keep_116 : decode cm_X11_keep 116 = .ok (.iload 4, 2) := by decide +kernel
theorem d_X11_keep_118 : decode cm_X11_keep 118 = .ok (.iaload, 1) := by decide +kernel
theorem d_X11_keep_119 : decode cm_X11_keep 119 = .ok (.ireturn, 1) := by decide +kernel
def D_X11_keep_112 (Q : Int32 → GSt → Prop) (x4 : Int32) (σ : GSt) : Prop :=
  vp_in x4 17 ∧ (Q (σ 277 (Int32.toNatClampNeg x4)) σ)
def D_X11_keep_96 (Q : Int32 → GSt → Prop) (x1 : Int32) (x3 : Int32) (x4 : Int32) (σ : GSt) : Prop :=
  vp_in x4 17 ∧ (∀ σ_1 : GSt, σ_1 = up2 σ 277 (Int32.toNatClampNeg x4) x1 → (vp_in x4 17 ∧ (∀ σ_2 : GSt, σ_2 = up2 σ_1 278 (Int32.toNatClampNeg x4) x3 → (D_X11_keep_112 Q x4 σ_2))))
def D_X11_keep_48 (Q : Int32 → GSt → Prop) (x1 : Int32) (s0 : Int32) (s1 : Int32) (σ : GSt) : Prop :=
  ∀ x3_1 : Int32, x3_1 = ((s0 * s1) + ((σ 237 49) / 10)) → (vp_in x1 9 ∧ (vp_in x1 9 ∧ (∀ x4_2 : Int32, x4_2 = ((σ 242 (Int32.toNatClampNeg x1)) * (σ 243 (Int32.toNatClampNeg x1))) → (vp_in x4_2 17 ∧ (((σ 277 (Int32.toNatClampNeg x4_2)) = (-9) → D_X11_keep_96 Q x1 x3_1 x4_2 σ) ∧
  (¬ (σ 277 (Int32.toNatClampNeg x4_2)) = (-9) → vp_in x4_2 17 ∧ ((x3_1 ≤ (σ 278 (Int32.toNatClampNeg x4_2)) → D_X11_keep_112 Q x4_2 σ) ∧
  (¬ x3_1 ≤ (σ 278 (Int32.toNatClampNeg x4_2)) → D_X11_keep_96 Q x1 x3_1 x4_2 σ))))))))
def D_X11_keep_0 (Q : Int32 → GSt → Prop) (x1 : Int32) (x2 : Int32) (σ : GSt) : Prop :=
  D_X11_isGame x1 σ (fun r_1 σ_2 => (¬ r_1 = 0 → D_X11_measures x1 10 x2 0 0 σ_2 (fun σ_3 => ((σ_3 237 47) ≤ (σ_3 237 46) → D_X11_keep_48 Q x1 10 (σ_3 237 47) σ_3) ∧
  (¬ (σ_3 237 47) ≤ (σ_3 237 46) → D_X11_keep_48 Q x1 10 (σ_3 237 46) σ_3))) ∧
  (r_1 = 0 → D_X11_no (-1) σ_2 (fun r_4 σ_5 => Q r_4 σ_5)))
def D_X11_keep (x1 : Int32) (x2 : Int32) (σ : GSt) (Q : Int32 → GSt → Prop) : Prop := D_X11_keep_0 Q x1 x2 σ
set_option maxRecDepth 20000 in
set_option maxHeartbeats 4000000 in
theorem s_X11_keep_112 {p : Program} {l : Launch} {e : Env} {s : State} {m : MethodId} {args : Array Value} {below : List Frame} {meth : Method} {c : Code} {G : GC} (X : CallFix p m c cm_X11_keep 5 s args lw_us "GameLoomModel") (hr : meth.sig.returnType = some .int) (hlk : meth.locks = false) (Q : Int32 → GSt → Prop) (x4 : Int32) (σ : GSt) {H : Heap} {locs : List Loc} {ls : Array Slot} (hw : Wo G s H locs σ) (hl : lv_has ls 5 [(0, .ref (G.2.1 237)), (4, .int x4)]) (hD : D_X11_keep_112 Q x4 σ) : W p l e rm_X11_keep s m args below meth c H locs 0 0 (QMI G Q below args s) (F0 m 112 ls []) := by
  unfold D_X11_keep_112 at hD
  refine lv_aload_n X.1 X.2.1 d_X11_keep_112 rfl (lv_at hl 0 rfl) ?_
  refine gf_11_54 X hw (by decide +kernel : kd 237 = 11) tb_960 d_X11_keep_113 ?_
  refine lv_iload X.1 X.2.1 d_X11_keep_116 (lv_at hl 1 rfl) ?_
  obtain ⟨q_118, hD⟩ := hD
  refine g_iald X hw ly_11_54.1 ly_11_54.2 q_118 d_X11_keep_118 ?_
  exact g_iret X hr hlk hw hD d_X11_keep_119
set_option maxRecDepth 20000 in
set_option maxHeartbeats 4000000 in
theorem s_X11_keep_96 {p : Program} {l : Launch} {e : Env} {s : State} {m : MethodId} {args : Array Value} {below : List Frame} {meth : Method} {c : Code} {G : GC} (X : CallFix p m c cm_X11_keep 5 s args lw_us "GameLoomModel") (hr : meth.sig.returnType = some .int) (hlk : meth.locks = false) (Q : Int32 → GSt → Prop) (x1 : Int32) (x3 : Int32) (x4 : Int32) (σ : GSt) {H : Heap} {locs : List Loc} {ls : Array Slot} (hw : Wo G s H locs σ) (hl : lv_has ls 5 [(0, .ref (G.2.1 237)), (1, .int x1), (3, .int x3), (4, .int x4)]) (hD : D_X11_keep_96 Q x1 x3 x4 σ) : W p l e rm_X11_keep s m args below meth c H locs 0 0 (QMI G Q below args s) (F0 m 96 ls []) := by
  unfold D_X11_keep_96 at hD
  refine lv_aload_n X.1 X.2.1 d_X11_keep_96 rfl (lv_at hl 0 rfl) ?_
  refine gf_11_54 X hw (by decide +kernel : kd 237 = 11) tb_960 d_X11_keep_97 ?_
  refine lv_iload X.1 X.2.1 d_X11_keep_100 (lv_at hl 3 rfl) ?_
  refine lv_iload_n X.1 X.2.1 d_X11_keep_102 rfl (lv_at hl 1 rfl) ?_
  obtain ⟨q_103, hD⟩ := hD
  refine g_iast X hw ly_11_54.1 ly_11_54.2 q_103 d_X11_keep_103 (fun H locs hw => ?_)
  obtain ⟨σ_1, e_σ_1⟩ : ∃ z : GSt, z = up2 σ 277 (Int32.toNatClampNeg x4) x1 := ⟨_, rfl⟩
  rw [← e_σ_1] at hw
  have hD := hD σ_1 e_σ_1
  refine lv_aload_n X.1 X.2.1 d_X11_keep_104 rfl (lv_at hl 0 rfl) ?_
  refine gf_11_55 X hw (by decide +kernel : kd 237 = 11) tb_961 d_X11_keep_105 ?_
  refine lv_iload X.1 X.2.1 d_X11_keep_108 (lv_at hl 3 rfl) ?_
  refine lv_iload_n X.1 X.2.1 d_X11_keep_110 rfl (lv_at hl 2 rfl) ?_
  obtain ⟨q_111, hD⟩ := hD
  refine g_iast X hw ly_11_55.1 ly_11_55.2 q_111 d_X11_keep_111 (fun H locs hw => ?_)
  obtain ⟨σ_2, e_σ_2⟩ : ∃ z : GSt, z = up2 σ_1 278 (Int32.toNatClampNeg x4) x3 := ⟨_, rfl⟩
  rw [← e_σ_2] at hw
  have hD := hD σ_2 e_σ_2
  exact s_X11_keep_112 X hr hlk  Q  x4 σ_2 hw (lv_sub hl [0, 3] rfl) hD
set_option maxRecDepth 20000 in
set_option maxHeartbeats 4000000 in
theorem s_X11_keep_48 {p : Program} {l : Launch} {e : Env} {s : State} {m : MethodId} {args : Array Value} {below : List Frame} {meth : Method} {c : Code} {G : GC} (X : CallFix p m c cm_X11_keep 5 s args lw_us "GameLoomModel") (hr : meth.sig.returnType = some .int) (hlk : meth.locks = false) (Q : Int32 → GSt → Prop) (x1 : Int32) (s0 : Int32) (s1 : Int32) (σ : GSt) {H : Heap} {locs : List Loc} {ls : Array Slot} (hw : Wo G s H locs σ) (hl : lv_has ls 5 [(0, .ref (G.2.1 237)), (1, .int x1)]) (hD : D_X11_keep_48 Q x1 s0 s1 σ) : W p l e rm_X11_keep s m args below meth c H locs 0 0 (QMI G Q below args s) (F0 m 48 ls [.int s1, .int s0]) := by
  unfold D_X11_keep_48 at hD
  refine lv_imul X.1 X.2.1 d_X11_keep_48 ?_
  refine lv_aload_n X.1 X.2.1 d_X11_keep_49 rfl (lv_at hl 0 rfl) ?_
  refine gf_11_49 X hw (by decide +kernel : kd 237 = 11) tb_955 d_X11_keep_50 ?_
  refine lv_bipush (v := 10) X.1 X.2.1 d_X11_keep_53 (by decide) ?_
  refine lv_idiv X.1 X.2.1 d_X11_keep_55 (by decide) ?_
  refine lv_iadd X.1 X.2.1 d_X11_keep_56 ?_
  refine lv_topi (fun x3_1 e_x3_1 => ?_)
  have hD := hD x3_1 e_x3_1
  refine lv_istore_n (lv' := [(3, .int x3_1), (0, .ref (G.2.1 237)), (1, .int x1)]) X.1 X.2.1 d_X11_keep_57 rfl hl (by decide) rfl (fun ls hl => ?_)
  refine lv_aload_n X.1 X.2.1 d_X11_keep_58 rfl (lv_at hl 1 rfl) ?_
  refine gf_11_4 X hw (by decide +kernel : kd 237 = 11) tb_910 d_X11_keep_59 ?_
  refine lv_iload_n X.1 X.2.1 d_X11_keep_62 rfl (lv_at hl 2 rfl) ?_
  obtain ⟨q_63, hD⟩ := hD
  refine g_iald X hw ly_11_4.1 ly_11_4.2 q_63 d_X11_keep_63 ?_
  refine lv_aload_n X.1 X.2.1 d_X11_keep_64 rfl (lv_at hl 1 rfl) ?_
  refine gf_11_5 X hw (by decide +kernel : kd 237 = 11) tb_911 d_X11_keep_65 ?_
  refine lv_iload_n X.1 X.2.1 d_X11_keep_68 rfl (lv_at hl 2 rfl) ?_
  obtain ⟨q_69, hD⟩ := hD
  refine g_iald X hw ly_11_5.1 ly_11_5.2 q_69 d_X11_keep_69 ?_
  refine lv_imul X.1 X.2.1 d_X11_keep_70 ?_
  refine lv_topi (fun x4_2 e_x4_2 => ?_)
  have hD := hD x4_2 e_x4_2
  refine lv_istore (lv' := [(4, .int x4_2), (3, .int x3_1), (0, .ref (G.2.1 237)), (1, .int x1)]) X.1 X.2.1 d_X11_keep_71 hl (by decide) rfl (fun ls hl => ?_)
  refine lv_aload_n X.1 X.2.1 d_X11_keep_73 rfl (lv_at hl 2 rfl) ?_
  refine gf_11_54 X hw (by decide +kernel : kd 237 = 11) tb_960 d_X11_keep_74 ?_
  refine lv_iload X.1 X.2.1 d_X11_keep_77 (lv_at hl 0 rfl) ?_
  obtain ⟨q_79, hD⟩ := hD
  refine g_iald X hw ly_11_54.1 ly_11_54.2 q_79 d_X11_keep_79 ?_
  refine lv_bipush (v := (-9)) X.1 X.2.1 d_X11_keep_80 (by decide) ?_
  refine lv_icmp_eq (tgt := 96) X.1 X.2.1 d_X11_keep_82 (by decide) (fun q_82 => ?_) (fun q_82 => ?_)
  · have hD := hD.1 q_82
    exact s_X11_keep_96 X hr hlk  Q  x1 x3_1 x4_2 σ hw (lv_sub hl [2, 3, 1, 0] rfl) hD
  · have hD := hD.2 q_82
    refine lv_iload_n X.1 X.2.1 d_X11_keep_85 rfl (lv_at hl 1 rfl) ?_
    refine lv_aload_n X.1 X.2.1 d_X11_keep_86 rfl (lv_at hl 2 rfl) ?_
    refine gf_11_55 X hw (by decide +kernel : kd 237 = 11) tb_961 d_X11_keep_87 ?_
    refine lv_iload X.1 X.2.1 d_X11_keep_90 (lv_at hl 0 rfl) ?_
    obtain ⟨q_92, hD⟩ := hD
    refine g_iald X hw ly_11_55.1 ly_11_55.2 q_92 d_X11_keep_92 ?_
    refine lv_icmp_le (tgt := 112) X.1 X.2.1 d_X11_keep_93 (by decide) (fun q_93 => ?_) (fun q_93 => ?_)
    · have hD := hD.1 q_93
      exact s_X11_keep_112 X hr hlk  Q  x4_2 σ hw (lv_sub hl [2, 0] rfl) hD
    · have hD := hD.2 q_93
      exact s_X11_keep_96 X hr hlk  Q  x1 x3_1 x4_2 σ hw (lv_sub hl [2, 3, 1, 0] rfl) hD
set_option maxRecDepth 20000 in
set_option maxHeartbeats 4000000 in
theorem s_X11_keep_0 {p : Program} {l : Launch} {e : Env} {s : State} {m : MethodId} {args : Array Value} {below : List Frame} {meth : Method} {c : Code} {G : GC} (X : CallFix p m c cm_X11_keep 5 s args lw_us "GameLoomModel") (hr : meth.sig.returnType = some .int) (hlk : meth.locks = false) (Q : Int32 → GSt → Prop) (x1 : Int32) (x2 : Int32) (σ : GSt) {H : Heap} {locs : List Loc} {ls : Array Slot} (hw : Wo G s H locs σ) (hl : lv_has ls 5 [(0, .ref (G.2.1 237)), (1, .int x1), (2, .int x2)]) (hD : D_X11_keep_0 Q x1 x2 σ) : W p l e rm_X11_keep s m args below meth c H locs 0 0 (QMI G Q below args s) (F0 m 0 ls []) := by
  unfold D_X11_keep_0 at hD
  refine lv_aload_n X.1 X.2.1 d_X11_keep_0 rfl (lv_at hl 0 rfl) ?_
  refine lv_iload_n X.1 X.2.1 d_X11_keep_1 rfl (lv_at hl 1 rfl) ?_
  refine gcV_i (rest := []) (As := [.int x1]) (o := 237) X hw (c_X11_isGame l G x1 σ _  hD) (kd_lt (by decide +kernel : kd 237 = 11) (by decide)) (ce_11 G _ (by decide +kernel : kd 237 = 11)) rfl tb_1144 tb_1146 tv_47 tb_12 tb_1147 hd_X11_isGame ⟨rfl, rfl⟩ ⟨Nat.le_of_ble_eq_true rfl, Nat.le_of_ble_eq_true rfl⟩ rfl hl.1 rfl (Nat.le_of_ble_eq_true rfl) d_X11_keep_2 (fun r_1 σ_2 H locs hD hw => ?_)
  refine lv_if_ne (tgt := 14) X.1 X.2.1 d_X11_keep_5 (by decide) (fun q_5 => ?_) (fun q_5 => ?_)
  · have hD := hD.1 q_5
    refine lv_aload_n X.1 X.2.1 d_X11_keep_14 rfl (lv_at hl 0 rfl) ?_
    refine lv_iload_n X.1 X.2.1 d_X11_keep_15 rfl (lv_at hl 1 rfl) ?_
    refine lv_bipush (v := 10) X.1 X.2.1 d_X11_keep_16 (by decide) ?_
    refine lv_iload_n X.1 X.2.1 d_X11_keep_18 rfl (lv_at hl 2 rfl) ?_
    refine lv_iconst (v := 0) X.1 X.2.1 d_X11_keep_19 (by decide) ?_
    refine lv_iconst (v := 0) X.1 X.2.1 d_X11_keep_20 (by decide) ?_
    refine gcV_v (rest := []) (As := [.int x1, .int 10, .int x2, .int 0, .int 0]) (o := 237) X hw (c_X11_measures l G x1 10 x2 0 0 σ_2 _  hD) (kd_lt (by decide +kernel : kd 237 = 11) (by decide)) (ce_11 G _ (by decide +kernel : kd 237 = 11)) rfl tb_1290 tb_1292 tv_72 tb_12 tb_1293 hd_X11_measures ⟨rfl, rfl⟩ ⟨Nat.le_of_ble_eq_true rfl, Nat.le_of_ble_eq_true rfl⟩ rfl hl.1 rfl (Nat.le_of_ble_eq_true rfl) d_X11_keep_21 (fun σ_3 H locs hD hw => ?_)
    refine lv_bipush (v := 10) X.1 X.2.1 d_X11_keep_24 (by decide) ?_
    refine lv_aload_n X.1 X.2.1 d_X11_keep_26 rfl (lv_at hl 0 rfl) ?_
    refine gf_11_46 X hw (by decide +kernel : kd 237 = 11) tb_952 d_X11_keep_27 ?_
    refine lv_aload_n X.1 X.2.1 d_X11_keep_30 rfl (lv_at hl 0 rfl) ?_
    refine gf_11_47 X hw (by decide +kernel : kd 237 = 11) tb_953 d_X11_keep_31 ?_
    refine lv_icmp_ge (tgt := 44) X.1 X.2.1 d_X11_keep_34 (by decide) (fun q_34 => ?_) (fun q_34 => ?_)
    · have hD := hD.1 q_34
      refine lv_aload_n X.1 X.2.1 d_X11_keep_44 rfl (lv_at hl 0 rfl) ?_
      refine gf_11_47 X hw (by decide +kernel : kd 237 = 11) tb_953 d_X11_keep_45 ?_
      exact s_X11_keep_48 X hr hlk  Q  x1 10 (σ_3 237 47) σ_3 hw (lv_sub hl [0, 1] rfl) hD
    · have hD := hD.2 q_34
      refine lv_aload_n X.1 X.2.1 d_X11_keep_37 rfl (lv_at hl 0 rfl) ?_
      refine gf_11_46 X hw (by decide +kernel : kd 237 = 11) tb_952 d_X11_keep_38 ?_
      refine lv_goto (tgt := 48) X.1 X.2.1 d_X11_keep_41 (by decide) ?_
      exact s_X11_keep_48 X hr hlk  Q  x1 10 (σ_3 237 46) σ_3 hw (lv_sub hl [0, 1] rfl) hD
  · have hD := hD.2 q_5
    refine lv_aload_n X.1 X.2.1 d_X11_keep_8 rfl (lv_at hl 0 rfl) ?_
    refine lv_iconst (v := (-1)) X.1 X.2.1 d_X11_keep_9 (by decide) ?_
    refine gcV_i (rest := []) (As := [.int (-1)]) (o := 237) X hw (c_X11_no l G (-1) σ_2 _  hD) (kd_lt (by decide +kernel : kd 237 = 11) (by decide)) (ce_11 G _ (by decide +kernel : kd 237 = 11)) rfl tb_1084 tb_1086 tv_35 tb_12 tb_1087 hd_X11_no ⟨rfl, rfl⟩ ⟨Nat.le_of_ble_eq_true rfl, Nat.le_of_ble_eq_true rfl⟩ rfl hl.1 rfl (Nat.le_of_ble_eq_true rfl) d_X11_keep_10 (fun r_4 σ_5 H locs hD hw => ?_)
    exact g_iret X hr hlk hw hD d_X11_keep_13
theorem c_X11_keep (l : Launch) (G : GC) (x1 : Int32) (x2 : Int32) (σ : GSt) (Q : Int32 → GSt → Prop)  (hD : D_X11_keep x1 x2 σ Q) : MI l ym_X11_keep cm_X11_keep 5 .int rm_X11_keep G σ [.ref (G.2.1 237), .int x1, .int x2] Q := by
  refine met_i (by decide) (Nat.le_of_ble_eq_true rfl) ?_
  intro p e s m args below meth c X hr hlk hw ls hl
  exact s_X11_keep_0 X hr hlk Q  x1 x2 σ hw (lv_sub hl [0, 1, 2] rfl) hD
theorem hd_X11_niche : ym_X11_niche.cls = "GameLoomModel" ∧ ym_X11_niche.cls ≠ "java/lang/invoke/MethodHandle" ∧ ym_X11_niche.cls ≠ "java/lang/invoke/VarHandle" ∧ (parseMethodDescriptor ym_X11_niche.desc).map (fun d => d.parameters.length) = some 1 := by decide +kernel
abbrev rm_X11_niche : Room := { frames := 1, cells := 0, slots := 0, locals := 25 }
theorem d_X11_niche_0 : decode cm_X11_niche 0 = .ok (.iload_n 1, 1) := by decide +kernel
theorem d_X11_niche_1 : decode cm_X11_niche 1 = .ok (.i2l, 1) := by decide +kernel
theorem d_X11_niche_2 : decode cm_X11_niche 2 = .ok (.ldc2_w 358, 3) := by decide +kernel
theorem d_X11_niche_5 : decode cm_X11_niche 5 = .ok (.ldc2_w 368, 3) := by decide +kernel
theorem d_X11_niche_8 : decode cm_X11_niche 8 = .ok (.invokestatic 140, 3) := by decide +kernel
theorem d_X11_niche_11 : decode cm_X11_niche 11 = .ok (.istore_n 2, 1) := by decide +kernel
theorem d_X11_niche_12 : decode cm_X11_niche 12 = .ok (.iload_n 2, 1) := by decide +kernel
theorem d_X11_niche_13 : decode cm_X11_niche 13 = .ok (.ifCond .eq 11, 3) := by decide +kernel
theorem d_X11_niche_16 : decode cm_X11_niche 16 = .ok (.aload_n 0, 1) := by decide +kernel
theorem d_X11_niche_17 : decode cm_X11_niche 17 = .ok (.iload_n 2, 1) := by decide +kernel
theorem d_X11_niche_18 : decode cm_X11_niche 18 = .ok (.invokevirtual 147, 3) := by decide +kernel
theorem d_X11_niche_21 : decode cm_X11_niche 21 = .ok (.goto 9, 3) := by decide +kernel
theorem d_X11_niche_24 : decode cm_X11_niche 24 = .ok (.aload_n 0, 1) := by decide +kernel
theorem d_X11_niche_25 : decode cm_X11_niche 25 = .ok (.getfield 132, 3) := by decide +kernel
theorem d_X11_niche_28 : decode cm_X11_niche 28 = .ok (.iload_n 1, 1) := by decide +kernel
theorem d_X11_niche_29 : decode cm_X11_niche 29 = .ok (.iaload, 1) := by decide +kernel
theorem d_X11_niche_30 : decode cm_X11_niche 30 = .ok (.ireturn, 1) := by decide +kernel
def D_X11_niche_0 (Q : Int32 → GSt → Prop) (x1 : Int32) (σ : GSt) : Prop :=
  D_X11_out (Int32.toInt64 x1) 4 16 σ (fun r_1 σ_2 => (r_1 = 0 → vp_in x1 17 ∧ (Q (σ_2 277 (Int32.toNatClampNeg x1)) σ_2)) ∧
  (¬ r_1 = 0 → D_X11_no r_1 σ_2 (fun r_3 σ_4 => Q r_3 σ_4)))
def D_X11_niche (x1 : Int32) (σ : GSt) (Q : Int32 → GSt → Prop) : Prop := D_X11_niche_0 Q x1 σ
set_option maxRecDepth 20000 in
set_option maxHeartbeats 4000000 in
theorem s_X11_niche_0 {p : Program} {l : Launch} {e : Env} {s : State} {m : MethodId} {args : Array Value} {below : List Frame} {meth : Method} {c : Code} {G : GC} (X : CallFix p m c cm_X11_niche 3 s args lw_us "GameLoomModel") (hr : meth.sig.returnType = some .int) (hlk : meth.locks = false) (Q : Int32 → GSt → Prop) (x1 : Int32) (σ : GSt) {H : Heap} {locs : List Loc} {ls : Array Slot} (hw : Wo G s H locs σ) (hl : lv_has ls 3 [(0, .ref (G.2.1 237)), (1, .int x1)]) (hD : D_X11_niche_0 Q x1 σ) : W p l e rm_X11_niche s m args below meth c H locs 0 0 (QMI G Q below args s) (F0 m 0 ls []) := by
  unfold D_X11_niche_0 at hD
  refine lv_iload_n X.1 X.2.1 d_X11_niche_0 rfl (lv_at hl 1 rfl) ?_
  refine lv_i2l (v := (Int32.toInt64 x1)) X.1 X.2.1 d_X11_niche_1 rfl ?_
  refine lv_ldc2 (v := 4) X.1 X.2.1 X.2.2.2.1 (X.2.2.2.2 _ tb_1371) d_X11_niche_2 ?_
  refine lv_ldc2 (v := 16) X.1 X.2.1 X.2.2.2.1 (X.2.2.2.2 _ tb_1397) d_X11_niche_5 ?_
  refine gcS_i (rest := []) (As := [.long (Int32.toInt64 x1), .long 4, .long 16]) X hw (c_X11_out l G (Int32.toInt64 x1) 4 16 σ _  hD) tb_1081 tb_1082 tb_12 tb_1083 hd_X11_out ⟨rfl, rfl⟩ ⟨Nat.le_of_ble_eq_true rfl, Nat.le_of_ble_eq_true rfl⟩ rfl hl.1 rfl (Nat.le_of_ble_eq_true rfl) d_X11_niche_8 (fun r_1 σ_2 H locs hD hw => ?_)
  refine lv_istore_n (lv' := [(2, .int r_1), (0, .ref (G.2.1 237)), (1, .int x1)]) X.1 X.2.1 d_X11_niche_11 rfl hl (by decide) rfl (fun ls hl => ?_)
  refine lv_iload_n X.1 X.2.1 d_X11_niche_12 rfl (lv_at hl 0 rfl) ?_
  refine lv_if_eq (tgt := 24) X.1 X.2.1 d_X11_niche_13 (by decide) (fun q_13 => ?_) (fun q_13 => ?_)
  · have hD := hD.1 q_13
    refine lv_aload_n X.1 X.2.1 d_X11_niche_24 rfl (lv_at hl 1 rfl) ?_
    refine gf_11_54 X hw (by decide +kernel : kd 237 = 11) tb_960 d_X11_niche_25 ?_
    refine lv_iload_n X.1 X.2.1 d_X11_niche_28 rfl (lv_at hl 2 rfl) ?_
    obtain ⟨q_29, hD⟩ := hD
    refine g_iald X hw ly_11_54.1 ly_11_54.2 q_29 d_X11_niche_29 ?_
    exact g_iret X hr hlk hw hD d_X11_niche_30
  · have hD := hD.2 q_13
    refine lv_aload_n X.1 X.2.1 d_X11_niche_16 rfl (lv_at hl 1 rfl) ?_
    refine lv_iload_n X.1 X.2.1 d_X11_niche_17 rfl (lv_at hl 0 rfl) ?_
    refine gcV_i (rest := []) (As := [.int r_1]) (o := 237) X hw (c_X11_no l G r_1 σ_2 _  hD) (kd_lt (by decide +kernel : kd 237 = 11) (by decide)) (ce_11 G _ (by decide +kernel : kd 237 = 11)) rfl tb_1084 tb_1086 tv_35 tb_12 tb_1087 hd_X11_no ⟨rfl, rfl⟩ ⟨Nat.le_of_ble_eq_true rfl, Nat.le_of_ble_eq_true rfl⟩ rfl hl.1 rfl (Nat.le_of_ble_eq_true rfl) d_X11_niche_18 (fun r_3 σ_4 H locs hD hw => ?_)
    refine lv_goto (tgt := 30) X.1 X.2.1 d_X11_niche_21 (by decide) ?_
    exact g_iret X hr hlk hw hD d_X11_niche_30
theorem c_X11_niche (l : Launch) (G : GC) (x1 : Int32) (σ : GSt) (Q : Int32 → GSt → Prop)  (hD : D_X11_niche x1 σ Q) : MI l ym_X11_niche cm_X11_niche 3 .int rm_X11_niche G σ [.ref (G.2.1 237), .int x1] Q := by
  refine met_i (by decide) (Nat.le_of_ble_eq_true rfl) ?_
  intro p e s m args below meth c X hr hlk hw ls hl
  exact s_X11_niche_0 X hr hlk Q  x1 σ hw (lv_sub hl [0, 1] rfl) hD
