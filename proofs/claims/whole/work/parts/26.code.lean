theorem hd_X11_plays : ym_X11_plays.cls = "GameLoomModel" ∧ ym_X11_plays.cls ≠ "java/lang/invoke/MethodHandle" ∧ ym_X11_plays.cls ≠ "java/lang/invoke/VarHandle" ∧ (parseMethodDescriptor ym_X11_plays.desc).map (fun d => d.parameters.length) = some 4 := by decide +kernel
abbrev rm_X11_plays : Room := { frames := 9, cells := 0, slots := 0, locals := 229 }
theorem d_X11_plays_0 : decode cm_X11_plays 0 = .ok (.aload_n 0, 1) := by decide +kernel
theorem d_X11_plays_1 : decode cm_X11_plays 1 = .ok (.iload_n 1, 1) := by decide +kernel
theorem d_X11_plays_2 : decode cm_X11_plays 2 = .ok (.invokevirtual 263, 3) := by decide +kernel
theorem d_X11_plays_5 : decode cm_X11_plays 5 = .ok (.aload_n 0, 1) := by decide +kernel
theorem d_X11_plays_6 : decode cm_X11_plays 6 = .ok (.iload 4, 2) := by decide +kernel
theorem d_X11_plays_8 : decode cm_X11_plays 8 = .ok (.putfield 292, 3) := by decide +kernel
theorem d_X11_plays_11 : decode cm_X11_plays 11 = .ok (.aload_n 0, 1) := by decide +kernel
theorem d_X11_plays_12 : decode cm_X11_plays 12 = .ok (.getfield 77, 3) := by decide +kernel
theorem d_X11_plays_15 : decode cm_X11_plays 15 = .ok (.iconst 0, 1) := by decide +kernel
theorem d_X11_plays_16 : decode cm_X11_plays 16 = .ok (.iaload, 1) := by decide +kernel
theorem d_X11_plays_17 : decode cm_X11_plays 17 = .ok (.ifCond .ne 49, 3) := by decide +kernel
theorem d_X11_plays_20 : decode cm_X11_plays 20 = .ok (.aload_n 0, 1) := by decide +kernel
theorem d_X11_plays_21 : decode cm_X11_plays 21 = .ok (.aload_n 0, 1) := by decide +kernel
theorem d_X11_plays_22 : decode cm_X11_plays 22 = .ok (.getfield 71, 3) := by decide +kernel
theorem d_X11_plays_25 : decode cm_X11_plays 25 = .ok (.iconst 0, 1) := by decide +kernel
theorem d_X11_plays_26 : decode cm_X11_plays 26 = .ok (.iaload, 1) := by decide +kernel
theorem d_X11_plays_27 : decode cm_X11_plays 27 = .ok (.iconst 1, 1) := by decide +kernel
theorem d_X11_plays_28 : decode cm_X11_plays 28 = .ok (.if_icmp .ne 7, 3) := by decide +kernel
theorem d_X11_plays_31 : decode cm_X11_plays 31 = .ok (.iload_n 2, 1) := by decide +kernel
theorem d_X11_plays_32 : decode cm_X11_plays 32 = .ok (.goto 4, 3) := by decide +kernel
theorem d_X11_plays_35 : decode cm_X11_plays 35 = .ok (.iload_n 3, 1) := by decide +kernel
theorem d_X11_plays_36 : decode cm_X11_plays 36 = .ok (.invokevirtual 296, 3) := by decide +kernel
theorem d_X11_plays_39 : decode cm_X11_plays 39 = .ok (.istore 5, 2) := by decide +kernel
theorem d_X11_plays_41 : decode cm_X11_plays 41 = .ok (.aload_n 0, 1) := by decide +kernel
theorem d_X11_plays_42 : decode cm_X11_plays 42 = .ok (.getfield 123, 3) := by decide +kernel
theorem d_X11_plays_45 : decode cm_X11_plays 45 = .ok (.aload_n 0, 1) := by decide +kernel
theorem d_X11_plays_46 : decode cm_X11_plays 46 = .ok (.getfield 86, 3) := by decide +kernel
theorem d_X11_plays_49 : decode cm_X11_plays 49 = .ok (.iload 5, 2) := by decide +kernel
theorem d_X11_plays_51 : decode cm_X11_plays 51 = .ok (.iaload, 1) := by decide +kernel
theorem d_X11_plays_52 : decode cm_X11_plays 52 = .ok (.dup2, 1) := by decide +kernel
theorem d_X11_plays_53 : decode cm_X11_plays 53 = .ok (.iaload, 1) := by decide +kernel
theorem d_X11_plays_54 : decode cm_X11_plays 54 = .ok (.iconst 1, 1) := by decide +kernel
theorem d_X11_plays_55 : decode cm_X11_plays 55 = .ok (.iadd, 1) := by decide +kernel
theorem d_X11_plays_56 : decode cm_X11_plays 56 = .ok (.iastore, 1) := by decide +kernel
theorem d_X11_plays_57 : decode cm_X11_plays 57 = .ok (.aload_n 0, 1) := by decide +kernel
theorem d_X11_plays_58 : decode cm_X11_plays 58 = .ok (.iload 5, 2) := by decide +kernel
theorem d_X11_plays_60 : decode cm_X11_plays 60 = .ok (.invokevirtual 269, 3) := by decide +kernel
theorem d_X11_plays_63 : decode cm_X11_plays 63 = .ok (.goto (-52), 3) := by decide +kernel
theorem d_X11_plays_66 : decode cm_X11_plays 66 = .ok (.aload_n 0, 1) := by decide +kernel
theorem d_X11_plays_67 : decode cm_X11_plays 67 = .ok (.getfield 77, 3) := by decide +kernel
theorem d_X11_plays_70 : decode cm_X11_plays 70 = .ok (.iconst 0, 1) := by decide +kernel
theorem d_X11_plays_71 : decode cm_X11_plays 71 = .ok (.iaload, 1) := by decide +kernel
theorem d_X11_plays_72 : decode cm_X11_plays 72 = .ok (.iconst 1, 1) := by decide +kernel
theorem d_X11_plays_73 : decode cm_X11_plays 73 = .ok (.if_icmp .ne 18, 3) := by decide +kernel
theorem d_X11_plays_76 : decode cm_X11_plays 76 = .ok (.aload_n 0, 1) := by decide +kernel
theorem d_X11_plays_77 : decode cm_X11_plays 77 = .ok (.getfield 126, 3) := by decide +kernel
theorem d_X11_plays_80 : decode cm_X11_plays 80 = .ok (.aload_n 0, 1) := by decide +kernel
theorem d_X11_plays_81 : decode cm_X11_plays 81 = .ok (.getfield 83, 3) := by decide +kernel
theorem d_X11_plays_84 : decode cm_X11_plays 84 = .ok (.iconst 0, 1) := by decide +kernel
theorem d_X11_plays_85 : decode cm_X11_plays 85 = .ok (.iaload, 1) := by decide +kernel
theorem d_X11_plays_86 : decode cm_X11_plays 86 = .ok (.dup2, 1) := by decide +kernel
theorem d_X11_plays_87 : decode cm_X11_plays 87 = .ok (.iaload, 1) := by decide +kernel
theorem d_X11_plays_88 : decode cm_X11_plays 88 = .ok (.iconst 1, 1) := by decide +kernel
theorem d_X11_plays_89 : decode cm_X11_plays 89 = .ok (.iadd, 1) := by decide +kernel
theorem d_X11_plays_90 : decode cm_X11_plays 90 = .ok (.iastore, 1) := by decide +kernel
theorem d_X11_plays_91 : decode cm_X11_plays 91 = .ok (.return_, 1) := by decide +kernel
def D_X11_plays_36 (K11 : Int32 → Int32 → GSt → Prop) (Q : GSt → Prop) (x2 : Int32) (x3 : Int32) (s1 : Int32) (σ : GSt) : Prop :=
  D_X11_chosen s1 σ (fun r_1 σ_2 => vp_in r_1 7200 ∧ (vp_in (σ_2 263 (Int32.toNatClampNeg r_1)) 6 ∧ (vp_in (σ_2 263 (Int32.toNatClampNeg r_1)) 6 ∧ (∀ σ_3 : GSt, σ_3 = up2 σ_2 274 (Int32.toNatClampNeg (σ_2 263 (Int32.toNatClampNeg r_1))) ((σ_2 274 (Int32.toNatClampNeg (σ_2 263 (Int32.toNatClampNeg r_1)))) + 1) → (D_X11_goesOn r_1 σ_3 (fun σ_4 => K11 x2 x3 σ_4))))))
def D_X11_plays_11 (K11 : Int32 → Int32 → GSt → Prop) (Q : GSt → Prop) (x2 : Int32) (x3 : Int32) (σ : GSt) : Prop :=
  (¬ (σ 260 (Int32.toNatClampNeg 0)) = 0 → (¬ (σ 260 (Int32.toNatClampNeg 0)) = 1 → Q σ) ∧
  ((σ 260 (Int32.toNatClampNeg 0)) = 1 → vp_in (σ 262 (Int32.toNatClampNeg 0)) 6 ∧ (vp_in (σ 262 (Int32.toNatClampNeg 0)) 6 ∧ (∀ σ_1 : GSt, σ_1 = up2 σ 275 (Int32.toNatClampNeg (σ 262 (Int32.toNatClampNeg 0))) ((σ 275 (Int32.toNatClampNeg (σ 262 (Int32.toNatClampNeg 0)))) + 1) → (Q σ_1))))) ∧
  ((σ 260 (Int32.toNatClampNeg 0)) = 0 → (¬ (σ 258 (Int32.toNatClampNeg 0)) = 1 → D_X11_plays_36 K11 Q x2 x3 x3 σ) ∧
  ((σ 258 (Int32.toNatClampNeg 0)) = 1 → D_X11_plays_36 K11 Q x2 x3 x2 σ))
def L_X11_plays_11 (Q : GSt → Prop) : Nat → Int32 → Int32 → GSt → Prop
  | 0 => fun _ _ _ => False
  | n + 1 => fun x2 x3 σ => D_X11_plays_11 (L_X11_plays_11 Q n) Q x2 x3 σ
def D_X11_plays_0 (Q : GSt → Prop) (x1 : Int32) (x2 : Int32) (x3 : Int32) (x4 : Int32) (σ : GSt) : Prop :=
  D_X11_opens x1 σ (fun σ_1 => ∀ σ_2 : GSt, σ_2 = up2 σ_1 237 45 x4 → (∃ n : Nat, L_X11_plays_11 Q n x2 x3 σ_2))
def D_X11_plays (x1 : Int32) (x2 : Int32) (x3 : Int32) (x4 : Int32) (σ : GSt) (Q : GSt → Prop) : Prop := D_X11_plays_0 Q x1 x2 x3 x4 σ
set_option maxRecDepth 20000 in
set_option maxHeartbeats 4000000 in
theorem s_X11_plays_36 {p : Program} {l : Launch} {e : Env} {s : State} {m : MethodId} {args : Array Value} {below : List Frame} {meth : Method} {c : Code} {G : GC} (X : CallFix p m c cm_X11_plays 6 s args lw_us "GameLoomModel") (hr : meth.sig.returnType = none) (hlk : meth.locks = false) (K11 : Int32 → Int32 → GSt → Prop) (Q : GSt → Prop) (hK11 : ∀ (x2 : Int32) (x3 : Int32) (σ : GSt) (H : Heap) (locs : List Loc) (ls : Array Slot), Wo G s H locs σ → lv_has ls 6 [(0, .ref (G.2.1 237)), (2, .int x2), (3, .int x3)] → K11 x2 x3 σ → W p l e rm_X11_plays s m args below meth c H locs 0 0 (QMV G Q below args s) (F0 m 11 ls [])) (x2 : Int32) (x3 : Int32) (s1 : Int32) (σ : GSt) {H : Heap} {locs : List Loc} {ls : Array Slot} (hw : Wo G s H locs σ) (hl : lv_has ls 6 [(0, .ref (G.2.1 237)), (2, .int x2), (3, .int x3)]) (hD : D_X11_plays_36 K11 Q x2 x3 s1 σ) : W p l e rm_X11_plays s m args below meth c H locs 0 0 (QMV G Q below args s) (F0 m 36 ls [.int s1, .ref (G.2.1 237)]) := by
  unfold D_X11_plays_36 at hD
  refine gcV_i (rest := []) (As := [.int s1]) (o := 237) X hw (c_X11_chosen l G s1 σ _  hD) (kd_lt (by decide +kernel : kd 237 = 11) (by decide)) (ce_11 G _ (by decide +kernel : kd 237 = 11)) rfl tb_1298 tb_1300 tv_74 tb_12 tb_1301 hd_X11_chosen ⟨rfl, rfl⟩ ⟨Nat.le_of_ble_eq_true rfl, Nat.le_of_ble_eq_true rfl⟩ rfl hl.1 rfl (Nat.le_of_ble_eq_true rfl) d_X11_plays_36 (fun r_1 σ_2 H locs hD hw => ?_)
  refine lv_istore (lv' := [(5, .int r_1), (0, .ref (G.2.1 237)), (2, .int x2), (3, .int x3)]) X.1 X.2.1 d_X11_plays_39 hl (by decide) rfl (fun ls hl => ?_)
  refine lv_aload_n X.1 X.2.1 d_X11_plays_41 rfl (lv_at hl 1 rfl) ?_
  refine gf_11_43 X hw (by decide +kernel : kd 237 = 11) tb_949 d_X11_plays_42 ?_
  refine lv_aload_n X.1 X.2.1 d_X11_plays_45 rfl (lv_at hl 1 rfl) ?_
  refine gf_11_29 X hw (by decide +kernel : kd 237 = 11) tb_935 d_X11_plays_46 ?_
  refine lv_iload X.1 X.2.1 d_X11_plays_49 (lv_at hl 0 rfl) ?_
  obtain ⟨q_51, hD⟩ := hD
  refine g_iald X hw ly_11_29.1 ly_11_29.2 q_51 d_X11_plays_51 ?_
  refine lv_dup2_11 X.1 X.2.1 d_X11_plays_52 rfl rfl ?_
  obtain ⟨q_53, hD⟩ := hD
  refine g_iald X hw ly_11_43.1 ly_11_43.2 q_53 d_X11_plays_53 ?_
  refine lv_iconst (v := 1) X.1 X.2.1 d_X11_plays_54 (by decide) ?_
  refine lv_iadd X.1 X.2.1 d_X11_plays_55 ?_
  obtain ⟨q_56, hD⟩ := hD
  refine g_iast X hw ly_11_43.1 ly_11_43.2 q_56 d_X11_plays_56 (fun H locs hw => ?_)
  obtain ⟨σ_3, e_σ_3⟩ : ∃ z : GSt, z = up2 σ_2 274 (Int32.toNatClampNeg (σ_2 263 (Int32.toNatClampNeg r_1))) ((σ_2 274 (Int32.toNatClampNeg (σ_2 263 (Int32.toNatClampNeg r_1)))) + 1) := ⟨_, rfl⟩
  rw [← e_σ_3] at hw
  have hD := hD σ_3 e_σ_3
  refine lv_aload_n X.1 X.2.1 d_X11_plays_57 rfl (lv_at hl 1 rfl) ?_
  refine lv_iload X.1 X.2.1 d_X11_plays_58 (lv_at hl 0 rfl) ?_
  refine gcV_v (rest := []) (As := [.int r_1]) (o := 237) X hw (c_X11_goesOn l G r_1 σ_3 _  hD) (kd_lt (by decide +kernel : kd 237 = 11) (by decide)) (ce_11 G _ (by decide +kernel : kd 237 = 11)) rfl tb_1204 tb_1206 tv_59 tb_12 tb_1207 hd_X11_goesOn ⟨rfl, rfl⟩ ⟨Nat.le_of_ble_eq_true rfl, Nat.le_of_ble_eq_true rfl⟩ rfl hl.1 rfl (Nat.le_of_ble_eq_true rfl) d_X11_plays_60 (fun σ_4 H locs hD hw => ?_)
  refine lv_goto (tgt := 11) X.1 X.2.1 d_X11_plays_63 (by decide) ?_
  exact hK11 x2 x3 σ_4 _ _ _  hw (lv_sub hl [1, 2, 3] rfl) hD
set_option maxRecDepth 20000 in
set_option maxHeartbeats 4000000 in
theorem s_X11_plays_11 {p : Program} {l : Launch} {e : Env} {s : State} {m : MethodId} {args : Array Value} {below : List Frame} {meth : Method} {c : Code} {G : GC} (X : CallFix p m c cm_X11_plays 6 s args lw_us "GameLoomModel") (hr : meth.sig.returnType = none) (hlk : meth.locks = false) (K11 : Int32 → Int32 → GSt → Prop) (Q : GSt → Prop) (hK11 : ∀ (x2 : Int32) (x3 : Int32) (σ : GSt) (H : Heap) (locs : List Loc) (ls : Array Slot), Wo G s H locs σ → lv_has ls 6 [(0, .ref (G.2.1 237)), (2, .int x2), (3, .int x3)] → K11 x2 x3 σ → W p l e rm_X11_plays s m args below meth c H locs 0 0 (QMV G Q below args s) (F0 m 11 ls [])) (x2 : Int32) (x3 : Int32) (σ : GSt) {H : Heap} {locs : List Loc} {ls : Array Slot} (hw : Wo G s H locs σ) (hl : lv_has ls 6 [(0, .ref (G.2.1 237)), (2, .int x2), (3, .int x3)]) (hD : D_X11_plays_11 K11 Q x2 x3 σ) : W p l e rm_X11_plays s m args below meth c H locs 0 0 (QMV G Q below args s) (F0 m 11 ls []) := by
  unfold D_X11_plays_11 at hD
  refine lv_aload_n X.1 X.2.1 d_X11_plays_11 rfl (lv_at hl 0 rfl) ?_
  refine gf_11_26 X hw (by decide +kernel : kd 237 = 11) tb_932 d_X11_plays_12 ?_
  refine lv_iconst (v := 0) X.1 X.2.1 d_X11_plays_15 (by decide) ?_
  have q_16 : vp_in 0 9 := by unfold vp_in; decide
  refine g_iald X hw ly_11_26.1 ly_11_26.2 q_16 d_X11_plays_16 ?_
  refine lv_if_ne (tgt := 66) X.1 X.2.1 d_X11_plays_17 (by decide) (fun q_17 => ?_) (fun q_17 => ?_)
  · have hD := hD.1 q_17
    refine lv_aload_n X.1 X.2.1 d_X11_plays_66 rfl (lv_at hl 0 rfl) ?_
    refine gf_11_26 X hw (by decide +kernel : kd 237 = 11) tb_932 d_X11_plays_67 ?_
    refine lv_iconst (v := 0) X.1 X.2.1 d_X11_plays_70 (by decide) ?_
    have q_71 : vp_in 0 9 := by unfold vp_in; decide
    refine g_iald X hw ly_11_26.1 ly_11_26.2 q_71 d_X11_plays_71 ?_
    refine lv_iconst (v := 1) X.1 X.2.1 d_X11_plays_72 (by decide) ?_
    refine lv_icmp_ne (tgt := 91) X.1 X.2.1 d_X11_plays_73 (by decide) (fun q_73 => ?_) (fun q_73 => ?_)
    · have hD := hD.1 q_73
      exact g_vret X hr hlk hw hD d_X11_plays_91
    · have hD := hD.2 q_73
      refine lv_aload_n X.1 X.2.1 d_X11_plays_76 rfl (lv_at hl 0 rfl) ?_
      refine gf_11_44 X hw (by decide +kernel : kd 237 = 11) tb_950 d_X11_plays_77 ?_
      refine lv_aload_n X.1 X.2.1 d_X11_plays_80 rfl (lv_at hl 0 rfl) ?_
      refine gf_11_28 X hw (by decide +kernel : kd 237 = 11) tb_934 d_X11_plays_81 ?_
      refine lv_iconst (v := 0) X.1 X.2.1 d_X11_plays_84 (by decide) ?_
      have q_85 : vp_in 0 9 := by unfold vp_in; decide
      refine g_iald X hw ly_11_28.1 ly_11_28.2 q_85 d_X11_plays_85 ?_
      refine lv_dup2_11 X.1 X.2.1 d_X11_plays_86 rfl rfl ?_
      obtain ⟨q_87, hD⟩ := hD
      refine g_iald X hw ly_11_44.1 ly_11_44.2 q_87 d_X11_plays_87 ?_
      refine lv_iconst (v := 1) X.1 X.2.1 d_X11_plays_88 (by decide) ?_
      refine lv_iadd X.1 X.2.1 d_X11_plays_89 ?_
      obtain ⟨q_90, hD⟩ := hD
      refine g_iast X hw ly_11_44.1 ly_11_44.2 q_90 d_X11_plays_90 (fun H locs hw => ?_)
      obtain ⟨σ_1, e_σ_1⟩ : ∃ z : GSt, z = up2 σ 275 (Int32.toNatClampNeg (σ 262 (Int32.toNatClampNeg 0))) ((σ 275 (Int32.toNatClampNeg (σ 262 (Int32.toNatClampNeg 0)))) + 1) := ⟨_, rfl⟩
      rw [← e_σ_1] at hw
      have hD := hD σ_1 e_σ_1
      exact g_vret X hr hlk hw hD d_X11_plays_91
  · have hD := hD.2 q_17
    refine lv_aload_n X.1 X.2.1 d_X11_plays_20 rfl (lv_at hl 0 rfl) ?_
    refine lv_aload_n X.1 X.2.1 d_X11_plays_21 rfl (lv_at hl 0 rfl) ?_
    refine gf_11_24 X hw (by decide +kernel : kd 237 = 11) tb_930 d_X11_plays_22 ?_
    refine lv_iconst (v := 0) X.1 X.2.1 d_X11_plays_25 (by decide) ?_
    have q_26 : vp_in 0 9 := by unfold vp_in; decide
    refine g_iald X hw ly_11_24.1 ly_11_24.2 q_26 d_X11_plays_26 ?_
    refine lv_iconst (v := 1) X.1 X.2.1 d_X11_plays_27 (by decide) ?_
    refine lv_icmp_ne (tgt := 35) X.1 X.2.1 d_X11_plays_28 (by decide) (fun q_28 => ?_) (fun q_28 => ?_)
    · have hD := hD.1 q_28
      refine lv_iload_n X.1 X.2.1 d_X11_plays_35 rfl (lv_at hl 2 rfl) ?_
      exact s_X11_plays_36 X hr hlk K11 Q hK11 x2 x3 x3 σ hw (lv_sub hl [0, 1, 2] rfl) hD
    · have hD := hD.2 q_28
      refine lv_iload_n X.1 X.2.1 d_X11_plays_31 rfl (lv_at hl 1 rfl) ?_
      refine lv_goto (tgt := 36) X.1 X.2.1 d_X11_plays_32 (by decide) ?_
      exact s_X11_plays_36 X hr hlk K11 Q hK11 x2 x3 x2 σ hw (lv_sub hl [0, 1, 2] rfl) hD
set_option maxRecDepth 20000 in
set_option maxHeartbeats 4000000 in
theorem sl_X11_plays_11 {p : Program} {l : Launch} {e : Env} {s : State} {m : MethodId} {args : Array Value} {below : List Frame} {meth : Method} {c : Code} {G : GC} (X : CallFix p m c cm_X11_plays 6 s args lw_us "GameLoomModel") (hr : meth.sig.returnType = none) (hlk : meth.locks = false) (Q : GSt → Prop) : ∀ (nn : Nat), ∀ (x2 : Int32) (x3 : Int32) (σ : GSt) (H : Heap) (locs : List Loc) (ls : Array Slot), Wo G s H locs σ → lv_has ls 6 [(0, .ref (G.2.1 237)), (2, .int x2), (3, .int x3)] → L_X11_plays_11 Q nn x2 x3 σ → W p l e rm_X11_plays s m args below meth c H locs 0 0 (QMV G Q below args s) (F0 m 11 ls []) := by
  intro nn
  induction nn with
  | zero => intro x2 x3 σ H locs ls  hw hl hD; exact hD.elim
  | succ nn ih =>
    intro x2 x3 σ H locs ls  hw hl hD
    exact s_X11_plays_11 X hr hlk (L_X11_plays_11 Q nn) Q ih x2 x3 σ hw hl hD
set_option maxRecDepth 20000 in
set_option maxHeartbeats 4000000 in
theorem s_X11_plays_0 {p : Program} {l : Launch} {e : Env} {s : State} {m : MethodId} {args : Array Value} {below : List Frame} {meth : Method} {c : Code} {G : GC} (X : CallFix p m c cm_X11_plays 6 s args lw_us "GameLoomModel") (hr : meth.sig.returnType = none) (hlk : meth.locks = false) (Q : GSt → Prop) (x1 : Int32) (x2 : Int32) (x3 : Int32) (x4 : Int32) (σ : GSt) {H : Heap} {locs : List Loc} {ls : Array Slot} (hw : Wo G s H locs σ) (hl : lv_has ls 6 [(0, .ref (G.2.1 237)), (1, .int x1), (2, .int x2), (3, .int x3), (4, .int x4)]) (hD : D_X11_plays_0 Q x1 x2 x3 x4 σ) : W p l e rm_X11_plays s m args below meth c H locs 0 0 (QMV G Q below args s) (F0 m 0 ls []) := by
  unfold D_X11_plays_0 at hD
  refine lv_aload_n X.1 X.2.1 d_X11_plays_0 rfl (lv_at hl 0 rfl) ?_
  refine lv_iload_n X.1 X.2.1 d_X11_plays_1 rfl (lv_at hl 1 rfl) ?_
  refine gcV_v (rest := []) (As := [.int x1]) (o := 237) X hw (c_X11_opens l G x1 σ _  hD) (kd_lt (by decide +kernel : kd 237 = 11) (by decide)) (ce_11 G _ (by decide +kernel : kd 237 = 11)) rfl tb_1160 tb_1162 tv_49 tb_12 tb_1163 hd_X11_opens ⟨rfl, rfl⟩ ⟨Nat.le_of_ble_eq_true rfl, Nat.le_of_ble_eq_true rfl⟩ rfl hl.1 rfl (Nat.le_of_ble_eq_true rfl) d_X11_plays_2 (fun σ_1 H locs hD hw => ?_)
  refine lv_aload_n X.1 X.2.1 d_X11_plays_5 rfl (lv_at hl 0 rfl) ?_
  refine lv_iload X.1 X.2.1 d_X11_plays_6 (lv_at hl 4 rfl) ?_
  refine pf_11_45 X hw (by decide +kernel : kd 237 = 11) tb_951 d_X11_plays_8 (fun H locs hw => ?_)
  obtain ⟨σ_2, e_σ_2⟩ : ∃ z : GSt, z = up2 σ_1 237 45 x4 := ⟨_, rfl⟩
  rw [← e_σ_2] at hw
  have hD := hD σ_2 e_σ_2
  obtain ⟨n9, hD⟩ := hD
  exact sl_X11_plays_11 X hr hlk  Q  n9 x2 x3 σ_2 _ _ _  hw (lv_sub hl [0, 2, 3] rfl) hD
theorem c_X11_plays (l : Launch) (G : GC) (x1 : Int32) (x2 : Int32) (x3 : Int32) (x4 : Int32) (σ : GSt) (Q : GSt → Prop)  (hD : D_X11_plays x1 x2 x3 x4 σ Q) : MV l ym_X11_plays cm_X11_plays 6 rm_X11_plays G σ [.ref (G.2.1 237), .int x1, .int x2, .int x3, .int x4] Q := by
  refine met_v (by decide) (Nat.le_of_ble_eq_true rfl) ?_
  intro p e s m args below meth c X hr hlk hw ls hl
  exact s_X11_plays_0 X hr hlk Q  x1 x2 x3 x4 σ hw (lv_sub hl [0, 1, 2, 3, 4] rfl) hD
theorem hd_X11_measures : ym_X11_measures.cls = "GameLoomModel" ∧ ym_X11_measures.cls ≠ "java/lang/invoke/MethodHandle" ∧ ym_X11_measures.cls ≠ "java/lang/invoke/VarHandle" ∧ (parseMethodDescriptor ym_X11_measures.desc).map (fun d => d.parameters.length) = some 5 := by decide +kernel
abbrev rm_X11_measures : Room := { frames := 10, cells := 0, slots := 0, locals := 254 }
theorem d_X11_measures_0 : decode cm_X11_measures 0 = .ok (.aload_n 0, 1) := by decide +kernel
theorem d_X11_measures_1 : decode cm_X11_measures 1 = .ok (.iconst 0, 1) := by decide +kernel
theorem d_X11_measures_2 : decode cm_X11_measures 2 = .ok (.putfield 299, 3) := by decide +kernel
theorem d_X11_measures_5 : decode cm_X11_measures 5 = .ok (.aload_n 0, 1) := by decide +kernel
theorem d_X11_measures_6 : decode cm_X11_measures 6 = .ok (.iconst 0, 1) := by decide +kernel
theorem d_X11_measures_7 : decode cm_X11_measures 7 = .ok (.putfield 302, 3) := by decide +kernel
theorem d_X11_measures_10 : decode cm_X11_measures 10 = .ok (.aload_n 0, 1) := by decide +kernel
theorem d_X11_measures_11 : decode cm_X11_measures 11 = .ok (.iconst 0, 1) := by decide +kernel
theorem d_X11_measures_12 : decode cm_X11_measures 12 = .ok (.putfield 305, 3) := by decide +kernel
theorem d_X11_measures_15 : decode cm_X11_measures 15 = .ok (.aload_n 0, 1) := by decide +kernel
theorem d_X11_measures_16 : decode cm_X11_measures 16 = .ok (.iconst 0, 1) := by decide +kernel
theorem d_X11_measures_17 : decode cm_X11_measures 17 = .ok (.putfield 308, 3) := by decide +kernel
theorem d_X11_measures_20 : decode cm_X11_measures 20 = .ok (.aload_n 0, 1) := by decide +kernel
theorem d_X11_measures_21 : decode cm_X11_measures 21 = .ok (.iconst 0, 1) := by decide +kernel
theorem d_X11_measures_22 : decode cm_X11_measures 22 = .ok (.putfield 311, 3) := by decide +kernel
theorem d_X11_measures_25 : decode cm_X11_measures 25 = .ok (.aload_n 0, 1) := by decide +kernel
theorem d_X11_measures_26 : decode cm_X11_measures 26 = .ok (.iconst 0, 1) := by decide +kernel
theorem d_X11_measures_27 : decode cm_X11_measures 27 = .ok (.putfield 314, 3) := by decide +kernel
theorem d_X11_measures_30 : decode cm_X11_measures 30 = .ok (.aload_n 0, 1) := by decide +kernel
theorem d_X11_measures_31 : decode cm_X11_measures 31 = .ok (.iconst 0, 1) := by decide +kernel
theorem d_X11_measures_32 : decode cm_X11_measures 32 = .ok (.putfield 317, 3) := by decide +kernel
theorem d_X11_measures_35 : decode cm_X11_measures 35 = .ok (.iconst 0, 1) := by decide +kernel
theorem d_X11_measures_36 : decode cm_X11_measures 36 = .ok (.istore 6, 2) := by decide +kernel
theorem d_X11_measures_38 : decode cm_X11_measures 38 = .ok (.iload 6, 2) := by decide +kernel
theorem d_X11_measures_40 : decode cm_X11_measures 40 = .ok (.bipush 6, 2) := by decide +kernel
theorem d_X11_measures_42 : decode cm_X11_measures 42 = .ok (.if_icmp .ge 25, 3) := by decide +kernel
theorem d_X11_measures_45 : decode cm_X11_measures 45 = .ok (.aload_n 0, 1) := by decide +kernel
theorem d_X11_measures_46 : decode cm_X11_measures 46 = .ok (.getfield 123, 3) := by decide +kernel
theorem d_X11_measures_49 : decode cm_X11_measures 49 = .ok (.iload 6, 2) := by decide +kernel
theorem d_X11_measures_51 : decode cm_X11_measures 51 = .ok (.iconst 0, 1) := by decide +kernel
theorem d_X11_measures_52 : decode cm_X11_measures 52 = .ok (.iastore, 1) := by decide +kernel
theorem d_X11_measures_53 : decode cm_X11_measures 53 = .ok (.aload_n 0, 1) := by decide +kernel
theorem d_X11_measures_54 : decode cm_X11_measures 54 = .ok (.getfield 126, 3) := by decide +kernel
theorem d_X11_measures_57 : decode cm_X11_measures 57 = .ok (.iload 6, 2) := by decide +kernel
theorem d_X11_measures_59 : decode cm_X11_measures 59 = .ok (.iconst 0, 1) := by decide +kernel
theorem d_X11_measures_60 : decode cm_X11_measures 60 = .ok (.iastore, 1) := by decide +kernel
theorem d_X11_measures_61 : decode cm_X11_measures 61 = .ok (.iinc 6 1, 3) := by decide +kernel
theorem d_X11_measures_64 : decode cm_X11_measures 64 = .ok (.goto (-26), 3) := by decide +kernel
theorem d_X11_measures_67 : decode cm_X11_measures 67 = .ok (.iconst 0, 1) := by decide +kernel
theorem d_X11_measures_68 : decode cm_X11_measures 68 = .ok (.istore 6, 2) := by decide +kernel
theorem d_X11_measures_70 : decode cm_X11_measures 70 = .ok (.iload 6, 2) := by decide +kernel
theorem d_X11_measures_72 : decode cm_X11_measures 72 = .ok (.iload_n 2, 1) := by decide +kernel
theorem d_X11_measures_73 : decode cm_X11_measures 73 = .ok (.if_icmp .ge 186, 3) := by decide +kernel
theorem d_X11_measures_76 : decode cm_X11_measures 76 = .ok (.aload_n 0, 1) := by decide +kernel
theorem d_X11_measures_77 : decode cm_X11_measures 77 = .ok (.iload_n 1, 1) := by decide +kernel
theorem d_X11_measures_78 : decode cm_X11_measures 78 = .ok (.iload 4, 2) := by decide +kernel
theorem d_X11_measures_80 : decode cm_X11_measures 80 = .ok (.iload 5, 2) := by decide +kernel
theorem d_X11_measures_82 : decode cm_X11_measures 82 = .ok (.iload_n 3, 1) := by decide +kernel
theorem d_X11_measures_83 : decode cm_X11_measures 83 = .ok (.iload 6, 2) := by decide +kernel
theorem d_X11_measures_85 : decode cm_X11_measures 85 = .ok (.iadd, 1) := by decide +kernel
theorem d_X11_measures_86 : decode cm_X11_measures 86 = .ok (.invokevirtual 320, 3) := by decide +kernel
theorem d_X11_measures_89 : decode cm_X11_measures 89 = .ok (.aload_n 0, 1) := by decide +kernel
theorem d_X11_measures_90 : decode cm_X11_measures 90 = .ok (.dup, 1) := by decide +kernel
theorem d_X11_measures_91 : decode cm_X11_measures 91 = .ok (.getfield 299, 3) := by decide +kernel
theorem d_X11_measures_94 : decode cm_X11_measures 94 = .ok (.aload_n 0, 1) := by decide +kernel
theorem d_X11_measures_95 : decode cm_X11_measures 95 = .ok (.getfield 80, 3) := by decide +kernel
theorem d_X11_measures_98 : decode cm_X11_measures 98 = .ok (.iconst 0, 1) := by decide +kernel
theorem d_X11_measures_99 : decode cm_X11_measures 99 = .ok (.iaload, 1) := by decide +kernel
theorem d_X11_measures_100 : decode cm_X11_measures 100 = .ok (.iconst 1, 1) := by decide +kernel
theorem d_X11_measures_101 : decode cm_X11_measures 101 = .ok (.if_icmp .ne 7, 3) := by decide +kernel
theorem d_X11_measures_104 : decode cm_X11_measures 104 = .ok (.iconst 1, 1) := by decide +kernel
theorem d_X11_measures_105 : decode cm_X11_measures 105 = .ok (.goto 4, 3) := by decide +kernel
theorem d_X11_measures_108 : decode cm_X11_measures 108 = .ok (.iconst 0, 1) := by decide +kernel
theorem d_X11_measures_109 : decode cm_X11_measures 109 = .ok (.iadd, 1) := by decide +kernel
theorem d_X11_measures_110 : decode cm_X11_measures 110 = .ok (.putfield 299, 3) := by decide +kernel
theorem d_X11_measures_113 : decode cm_X11_measures 113 = .ok (.aload_n 0, 1) := by decide +kernel
theorem d_X11_measures_114 : decode cm_X11_measures 114 = .ok (.dup, 1) := by decide +kernel
theorem d_X11_measures_115 : decode cm_X11_measures 115 = .ok (.getfield 302, 3) := by decide +kernel
theorem d_X11_measures_118 : decode cm_X11_measures 118 = .ok (.aload_n 0, 1) := by decide +kernel
theorem d_X11_measures_119 : decode cm_X11_measures 119 = .ok (.getfield 80, 3) := by decide +kernel
theorem d_X11_measures_122 : decode cm_X11_measures 122 = .ok (.iconst 0, 1) := by decide +kernel
theorem d_X11_measures_123 : decode cm_X11_measures 123 = .ok (.iaload, 1) := by decide +kernel
theorem d_X11_measures_124 : decode cm_X11_measures 124 = .ok (.iconst 2, 1) := by decide +kernel
theorem d_X11_measures_125 : decode cm_X11_measures 125 = .ok (.if_icmp .ne 7, 3) := by decide +kernel
theorem d_X11_measures_128 : decode cm_X11_measures 128 = .ok (.iconst 1, 1) := by decide +kernel
theorem d_X11_measures_129 : decode cm_X11_measures 129 = .ok (.goto 4, 3) := by decide +kernel
theorem d_X11_measures_132 : decode cm_X11_measures 132 = .ok (.iconst 0, 1) := by decide +kernel
theorem d_X11_measures_133 : decode cm_X11_measures 133 = .ok (.iadd, 1) := by decide +kernel
theorem d_X11_measures_134 : decode cm_X11_measures 134 = .ok (.putfield 302, 3) := by decide +kernel
theorem d_X11_measures_137 : decode cm_X11_measures 137 = .ok (.aload_n 0, 1) := by decide +kernel
theorem d_X11_measures_138 : decode cm_X11_measures 138 = .ok (.dup, 1) := by decide +kernel
theorem d_X11_measures_139 : decode cm_X11_measures 139 = .ok (.getfield 305, 3) := by decide +kernel
theorem d_X11_measures_142 : decode cm_X11_measures 142 = .ok (.aload_n 0, 1) := by decide +kernel
theorem d_X11_measures_143 : decode cm_X11_measures 143 = .ok (.getfield 80, 3) := by decide +kernel
theorem d_X11_measures_146 : decode cm_X11_measures 146 = .ok (.iconst 0, 1) := by decide +kernel
theorem d_X11_measures_147 : decode cm_X11_measures 147 = .ok (.iaload, 1) := by decide +kernel
theorem d_X11_measures_148 : decode cm_X11_measures 148 = .ok (.ifCond .ne 7, 3) := by decide +kernel
theorem d_X11_measures_151 : decode cm_X11_measures 151 = .ok (.iconst 1, 1) := by decide +kernel
theorem d_X11_measures_152 : decode cm_X11_measures 152 = .ok (.goto 4, 3) := by decide +kernel
theorem d_X11_measures_155 : decode cm_X11_measures 155 = .ok (.iconst 0, 1) := by decide +kernel
theorem d_X11_measures_156 : decode cm_X11_measures 156 = .ok (.iadd, 1) := by decide +kernel
theorem d_X11_measures_157 : decode cm_X11_measures 157 = .ok (.putfield 305, 3) := by decide +kernel
theorem d_X11_measures_160 : decode cm_X11_measures 160 = .ok (.aload_n 0, 1) := by decide +kernel
theorem d_X11_measures_161 : decode cm_X11_measures 161 = .ok (.dup, 1) := by decide +kernel
theorem d_X11_measures_162 : decode cm_X11_measures 162 = .ok (.getfield 308, 3) := by decide +kernel
theorem d_X11_measures_165 : decode cm_X11_measures 165 = .ok (.aload_n 0, 1) := by decide +kernel
theorem d_X11_measures_166 : decode cm_X11_measures 166 = .ok (.getfield 74, 3) := by decide +kernel
theorem d_X11_measures_169 : decode cm_X11_measures 169 = .ok (.iconst 0, 1) := by decide +kernel
theorem d_X11_measures_170 : decode cm_X11_measures 170 = .ok (.iaload, 1) := by decide +kernel
theorem d_X11_measures_171 : decode cm_X11_measures 171 = .ok (.iadd, 1) := by decide +kernel
theorem d_X11_measures_172 : decode cm_X11_measures 172 = .ok (.putfield 308, 3) := by decide +kernel
theorem d_X11_measures_175 : decode cm_X11_measures 175 = .ok (.aload_n 0, 1) := by decide +kernel
theorem d_X11_measures_176 : decode cm_X11_measures 176 = .ok (.dup, 1) := by decide +kernel
theorem d_X11_measures_177 : decode cm_X11_measures 177 = .ok (.getfield 311, 3) := by decide +kernel
theorem d_X11_measures_180 : decode cm_X11_measures 180 = .ok (.aload_n 0, 1) := by decide +kernel
theorem d_X11_measures_181 : decode cm_X11_measures 181 = .ok (.getfield 77, 3) := by decide +kernel
theorem d_X11_measures_184 : decode cm_X11_measures 184 = .ok (.iconst 0, 1) := by decide +kernel
theorem d_X11_measures_185 : decode cm_X11_measures 185 = .ok (.iaload, 1) := by decide +kernel
theorem d_X11_measures_186 : decode cm_X11_measures 186 = .ok (.iconst 3, 1) := by decide +kernel
theorem d_X11_measures_187 : decode cm_X11_measures 187 = .ok (.if_icmp .ne 7, 3) := by decide +kernel
theorem d_X11_measures_190 : decode cm_X11_measures 190 = .ok (.iconst 1, 1) := by decide +kernel
theorem d_X11_measures_191 : decode cm_X11_measures 191 = .ok (.goto 4, 3) := by decide +kernel
theorem d_X11_measures_194 : decode cm_X11_measures 194 = .ok (.iconst 0, 1) := by decide +kernel
theorem d_X11_measures_195 : decode cm_X11_measures 195 = .ok (.iadd, 1) := by decide +kernel
theorem d_X11_measures_196 : decode cm_X11_measures 196 = .ok (.putfield 311, 3) := by decide +kernel
theorem d_X11_measures_199 : decode cm_X11_measures 199 = .ok (.aload_n 0, 1) := by decide +kernel
theorem d_X11_measures_200 : decode cm_X11_measures 200 = .ok (.dup, 1) := by decide +kernel
theorem d_X11_measures_201 : decode cm_X11_measures 201 = .ok (.getfield 314, 3) := by decide +kernel
theorem d_X11_measures_204 : decode cm_X11_measures 204 = .ok (.aload_n 0, 1) := by decide +kernel
theorem d_X11_measures_205 : decode cm_X11_measures 205 = .ok (.getfield 77, 3) := by decide +kernel
theorem d_X11_measures_208 : decode cm_X11_measures 208 = .ok (.iconst 0, 1) := by decide +kernel
theorem d_X11_measures_209 : decode cm_X11_measures 209 = .ok (.iaload, 1) := by decide +kernel
theorem d_X11_measures_210 : decode cm_X11_measures 210 = .ok (.iconst 2, 1) := by decide +kernel
theorem d_X11_measures_211 : decode cm_X11_measures 211 = .ok (.if_icmp .ne 7, 3) := by decide +kernel
theorem d_X11_measures_214 : decode cm_X11_measures 214 = .ok (.iconst 1, 1) := by decide +kernel
theorem d_X11_measures_215 : decode cm_X11_measures 215 = .ok (.goto 4, 3) := by decide +kernel
theorem d_X11_measures_218 : decode cm_X11_measures 218 = .ok (.iconst 0, 1) := by decide +kernel
theorem d_X11_measures_219 : decode cm_X11_measures 219 = .ok (.iadd, 1) := by decide +kernel
theorem d_X11_measures_220 : decode cm_X11_measures 220 = .ok (.putfield 314, 3) := by decide +kernel
theorem d_X11_measures_223 : decode cm_X11_measures 223 = .ok (.aload_n 0, 1) := by decide +kernel
theorem d_X11_measures_224 : decode cm_X11_measures 224 = .ok (.aload_n 0, 1) := by decide +kernel
theorem d_X11_measures_225 : decode cm_X11_measures 225 = .ok (.getfield 74, 3) := by decide +kernel
theorem d_X11_measures_228 : decode cm_X11_measures 228 = .ok (.iconst 0, 1) := by decide +kernel
theorem d_X11_measures_229 : decode cm_X11_measures 229 = .ok (.iaload, 1) := by decide +kernel
theorem d_X11_measures_230 : decode cm_X11_measures 230 = .ok (.aload_n 0, 1) := by decide +kernel
theorem d_X11_measures_231 : decode cm_X11_measures 231 = .ok (.getfield 317, 3) := by decide +kernel
theorem d_X11_measures_234 : decode cm_X11_measures 234 = .ok (.if_icmp .le 12, 3) := by decide +kernel
theorem d_X11_measures_237 : decode cm_X11_measures 237 = .ok (.aload_n 0, 1) := by decide +kernel
theorem d_X11_measures_238 : decode cm_X11_measures 238 = .ok (.getfield 74, 3) := by decide +kernel
theorem d_X11_measures_241 : decode cm_X11_measures 241 = .ok (.iconst 0, 1) := by decide +kernel
theorem d_X11_measures_242 : decode cm_X11_measures 242 = .ok (.iaload, 1) := by decide +kernel
theorem d_X11_measures_243 : decode cm_X11_measures 243 = .ok (.goto 7, 3) := by decide +kernel
theorem d_X11_measures_246 : decode cm_X11_measures 246 = .ok (.aload_n 0, 1) := by decide +kernel
theorem d_X11_measures_247 : decode cm_X11_measures 247 = .ok (.getfield 317, 3) := by decide +kernel
theorem d_X11_measures_250 : decode cm_X11_measures 250 = .ok (.putfield 317, 3) := by decide +kernel
theorem d_X11_measures_253 : decode cm_X11_measures 253 = .ok (.iinc 6 1, 3) := by decide +kernel
theorem d_X11_measures_256 : decode cm_X11_measures 256 = .ok (.goto (-186), 3) := by decide +kernel
theorem d_X11_measures_259 : decode cm_X11_measures 259 = .ok (.return_, 1) := by decide +kernel
def D_X11_measures_250 (K70 : Int32 → Int32 → Int32 → Int32 → Int32 → Int32 → GSt → Prop) (Q : GSt → Prop) (x1 : Int32) (x2 : Int32) (x3 : Int32) (x4 : Int32) (x5 : Int32) (x6 : Int32) (s1 : Int32) (σ : GSt) : Prop :=
  ∀ σ_1 : GSt, σ_1 = up2 σ 237 52 s1 → (∀ x6_2 : Int32, x6_2 = x6 + 1 → (K70 x1 x2 x3 x4 x5 x6_2 σ_1))
def D_X11_measures_219 (K70 : Int32 → Int32 → Int32 → Int32 → Int32 → Int32 → GSt → Prop) (Q : GSt → Prop) (x1 : Int32) (x2 : Int32) (x3 : Int32) (x4 : Int32) (x5 : Int32) (x6 : Int32) (s1 : Int32) (s2 : Int32) (σ : GSt) : Prop :=
  ∀ σ_1 : GSt, σ_1 = up2 σ 237 51 (s1 + s2) → (((σ_1 259 (Int32.toNatClampNeg 0)) ≤ (σ_1 237 52) → D_X11_measures_250 K70 Q x1 x2 x3 x4 x5 x6 (σ_1 237 52) σ_1) ∧
  (¬ (σ_1 259 (Int32.toNatClampNeg 0)) ≤ (σ_1 237 52) → D_X11_measures_250 K70 Q x1 x2 x3 x4 x5 x6 (σ_1 259 (Int32.toNatClampNeg 0)) σ_1))
def D_X11_measures_195 (K70 : Int32 → Int32 → Int32 → Int32 → Int32 → Int32 → GSt → Prop) (Q : GSt → Prop) (x1 : Int32) (x2 : Int32) (x3 : Int32) (x4 : Int32) (x5 : Int32) (x6 : Int32) (s1 : Int32) (s2 : Int32) (σ : GSt) : Prop :=
  ∀ σ_1 : GSt, σ_1 = up2 σ 237 50 (s1 + s2) → ((¬ (σ_1 260 (Int32.toNatClampNeg 0)) = 2 → D_X11_measures_219 K70 Q x1 x2 x3 x4 x5 x6 (σ_1 237 51) 0 σ_1) ∧
  ((σ_1 260 (Int32.toNatClampNeg 0)) = 2 → D_X11_measures_219 K70 Q x1 x2 x3 x4 x5 x6 (σ_1 237 51) 1 σ_1))
def D_X11_measures_156 (K70 : Int32 → Int32 → Int32 → Int32 → Int32 → Int32 → GSt → Prop) (Q : GSt → Prop) (x1 : Int32) (x2 : Int32) (x3 : Int32) (x4 : Int32) (x5 : Int32) (x6 : Int32) (s1 : Int32) (s2 : Int32) (σ : GSt) : Prop :=
  ∀ σ_1 : GSt, σ_1 = up2 σ 237 48 (s1 + s2) → (∀ σ_2 : GSt, σ_2 = up2 σ_1 237 49 ((σ_1 237 49) + (σ_1 259 (Int32.toNatClampNeg 0))) → ((¬ (σ_2 260 (Int32.toNatClampNeg 0)) = 3 → D_X11_measures_195 K70 Q x1 x2 x3 x4 x5 x6 (σ_2 237 50) 0 σ_2) ∧
  ((σ_2 260 (Int32.toNatClampNeg 0)) = 3 → D_X11_measures_195 K70 Q x1 x2 x3 x4 x5 x6 (σ_2 237 50) 1 σ_2)))
def D_X11_measures_133 (K70 : Int32 → Int32 → Int32 → Int32 → Int32 → Int32 → GSt → Prop) (Q : GSt → Prop) (x1 : Int32) (x2 : Int32) (x3 : Int32) (x4 : Int32) (x5 : Int32) (x6 : Int32) (s1 : Int32) (s2 : Int32) (σ : GSt) : Prop :=
  ∀ σ_1 : GSt, σ_1 = up2 σ 237 47 (s1 + s2) → ((¬ (σ_1 261 (Int32.toNatClampNeg 0)) = 0 → D_X11_measures_156 K70 Q x1 x2 x3 x4 x5 x6 (σ_1 237 48) 0 σ_1) ∧
  ((σ_1 261 (Int32.toNatClampNeg 0)) = 0 → D_X11_measures_156 K70 Q x1 x2 x3 x4 x5 x6 (σ_1 237 48) 1 σ_1))
def D_X11_measures_109 (K70 : Int32 → Int32 → Int32 → Int32 → Int32 → Int32 → GSt → Prop) (Q : GSt → Prop) (x1 : Int32) (x2 : Int32) (x3 : Int32) (x4 : Int32) (x5 : Int32) (x6 : Int32) (s1 : Int32) (s2 : Int32) (σ : GSt) : Prop :=
  ∀ σ_1 : GSt, σ_1 = up2 σ 237 46 (s1 + s2) → ((¬ (σ_1 261 (Int32.toNatClampNeg 0)) = 2 → D_X11_measures_133 K70 Q x1 x2 x3 x4 x5 x6 (σ_1 237 47) 0 σ_1) ∧
  ((σ_1 261 (Int32.toNatClampNeg 0)) = 2 → D_X11_measures_133 K70 Q x1 x2 x3 x4 x5 x6 (σ_1 237 47) 1 σ_1))
def D_X11_measures_70 (K70 : Int32 → Int32 → Int32 → Int32 → Int32 → Int32 → GSt → Prop) (Q : GSt → Prop) (x1 : Int32) (x2 : Int32) (x3 : Int32) (x4 : Int32) (x5 : Int32) (x6 : Int32) (σ : GSt) : Prop :=
  (x2 ≤ x6 → Q σ) ∧
  (¬ x2 ≤ x6 → D_X11_plays x1 x4 x5 (x3 + x6) σ (fun σ_1 => (¬ (σ_1 261 (Int32.toNatClampNeg 0)) = 1 → D_X11_measures_109 K70 Q x1 x2 x3 x4 x5 x6 (σ_1 237 46) 0 σ_1) ∧
  ((σ_1 261 (Int32.toNatClampNeg 0)) = 1 → D_X11_measures_109 K70 Q x1 x2 x3 x4 x5 x6 (σ_1 237 46) 1 σ_1)))
def L_X11_measures_70 (Q : GSt → Prop) : Nat → Int32 → Int32 → Int32 → Int32 → Int32 → Int32 → GSt → Prop
  | 0 => fun _ _ _ _ _ _ _ => False
  | n + 1 => fun x1 x2 x3 x4 x5 x6 σ => D_X11_measures_70 (L_X11_measures_70 Q n) Q x1 x2 x3 x4 x5 x6 σ
def D_X11_measures_38 (K38 : Int32 → Int32 → Int32 → Int32 → Int32 → Int32 → GSt → Prop) (Q : GSt → Prop) (x1 : Int32) (x2 : Int32) (x3 : Int32) (x4 : Int32) (x5 : Int32) (x6 : Int32) (σ : GSt) : Prop :=
  (6 ≤ x6 → ∃ n : Nat, L_X11_measures_70 Q n x1 x2 x3 x4 x5 0 σ) ∧
  (¬ 6 ≤ x6 → vp_in x6 6 ∧ (∀ σ_1 : GSt, σ_1 = up2 σ 274 (Int32.toNatClampNeg x6) 0 → (vp_in x6 6 ∧ (∀ σ_2 : GSt, σ_2 = up2 σ_1 275 (Int32.toNatClampNeg x6) 0 → (∀ x6_3 : Int32, x6_3 = x6 + 1 → (K38 x1 x2 x3 x4 x5 x6_3 σ_2))))))
def L_X11_measures_38 (Q : GSt → Prop) : Nat → Int32 → Int32 → Int32 → Int32 → Int32 → Int32 → GSt → Prop
  | 0 => fun _ _ _ _ _ _ _ => False
  | n + 1 => fun x1 x2 x3 x4 x5 x6 σ => D_X11_measures_38 (L_X11_measures_38 Q n) Q x1 x2 x3 x4 x5 x6 σ
def D_X11_measures_0 (Q : GSt → Prop) (x1 : Int32) (x2 : Int32) (x3 : Int32) (x4 : Int32) (x5 : Int32) (σ : GSt) : Prop :=
  ∀ σ_1 : GSt, σ_1 = up2 σ 237 46 0 → (∀ σ_2 : GSt, σ_2 = up2 σ_1 237 47 0 → (∀ σ_3 : GSt, σ_3 = up2 σ_2 237 48 0 → (∀ σ_4 : GSt, σ_4 = up2 σ_3 237 49 0 → (∀ σ_5 : GSt, σ_5 = up2 σ_4 237 50 0 → (∀ σ_6 : GSt, σ_6 = up2 σ_5 237 51 0 → (∀ σ_7 : GSt, σ_7 = up2 σ_6 237 52 0 → (∃ n : Nat, L_X11_measures_38 Q n x1 x2 x3 x4 x5 0 σ_7)))))))
def D_X11_measures (x1 : Int32) (x2 : Int32) (x3 : Int32) (x4 : Int32) (x5 : Int32) (σ : GSt) (Q : GSt → Prop) : Prop := D_X11_measures_0 Q x1 x2 x3 x4 x5 σ
set_option maxRecDepth 20000 in
set_option maxHeartbeats 4000000 in
theorem s_X11_measures_250 {p : Program} {l : Launch} {e : Env} {s : State} {m : MethodId} {args : Array Value} {below : List Frame} {meth : Method} {c : Code} {G : GC} (X : CallFix p m c cm_X11_measures 7 s args lw_us "GameLoomModel") (hr : meth.sig.returnType = none) (hlk : meth.locks = false) (K70 : Int32 → Int32 → Int32 → Int32 → Int32 → Int32 → GSt → Prop) (Q : GSt → Prop) (hK70 : ∀ (x1 : Int32) (x2 : Int32) (x3 : Int32) (x4 : Int32) (x5 : Int32) (x6 : Int32) (σ : GSt) (H : Heap) (locs : List Loc) (ls : Array Slot), Wo G s H locs σ → lv_has ls 7 [(0, .ref (G.2.1 237)), (1, .int x1), (2, .int x2), (3, .int x3), (4, .int x4), (5, .int x5), (6, .int x6)] → K70 x1 x2 x3 x4 x5 x6 σ → W p l e rm_X11_measures s m args below meth c H locs 0 0 (QMV G Q below args s) (F0 m 70 ls [])) (x1 : Int32) (x2 : Int32) (x3 : Int32) (x4 : Int32) (x5 : Int32) (x6 : Int32) (s1 : Int32) (σ : GSt) {H : Heap} {locs : List Loc} {ls : Array Slot} (hw : Wo G s H locs σ) (hl : lv_has ls 7 [(0, .ref (G.2.1 237)), (1, .int x1), (2, .int x2), (3, .int x3), (4, .int x4), (5, .int x5), (6, .int x6)]) (hD : D_X11_measures_250 K70 Q x1 x2 x3 x4 x5 x6 s1 σ) : W p l e rm_X11_measures s m args below meth c H locs 0 0 (QMV G Q below args s) (F0 m 250 ls [.int s1, .ref (G.2.1 237)]) := by
  unfold D_X11_measures_250 at hD
  refine pf_11_52 X hw (by decide +kernel : kd 237 = 11) tb_958 d_X11_measures_250 (fun H locs hw => ?_)
  obtain ⟨σ_1, e_σ_1⟩ : ∃ z : GSt, z = up2 σ 237 52 s1 := ⟨_, rfl⟩
  rw [← e_σ_1] at hw
  have hD := hD σ_1 e_σ_1
  obtain ⟨x6_2, e_x6_2⟩ : ∃ y : Int32, y = x6 + 1 := ⟨_, rfl⟩
  have hD := hD x6_2 e_x6_2
  refine lv_iinc (v := x6_2) (lv' := [(6, .int x6_2), (0, .ref (G.2.1 237)), (1, .int x1), (2, .int x2), (3, .int x3), (4, .int x4), (5, .int x5)]) X.1 X.2.1 d_X11_measures_253 hl (k := 6) rfl (by rw [e_x6_2]; rfl) (by decide) rfl (fun ls hl => ?_)
  refine lv_goto (tgt := 70) X.1 X.2.1 d_X11_measures_256 (by decide) ?_
  exact hK70 x1 x2 x3 x4 x5 x6_2 σ_1 _ _ _  hw (lv_sub hl [1, 2, 3, 4, 5, 6, 0] rfl) hD
set_option maxRecDepth 20000 in
set_option maxHeartbeats 4000000 in
theorem s_X11_measures_219 {p : Program} {l : Launch} {e : Env} {s : State} {m : MethodId} {args : Array Value} {below : List Frame} {meth : Method} {c : Code} {G : GC} (X : CallFix p m c cm_X11_measures 7 s args lw_us "GameLoomModel") (hr : meth.sig.returnType = none) (hlk : meth.locks = false) (K70 : Int32 → Int32 → Int32 → Int32 → Int32 → Int32 → GSt → Prop) (Q : GSt → Prop) (hK70 : ∀ (x1 : Int32) (x2 : Int32) (x3 : Int32) (x4 : Int32) (x5 : Int32) (x6 : Int32) (σ : GSt) (H : Heap) (locs : List Loc) (ls : Array Slot), Wo G s H locs σ → lv_has ls 7 [(0, .ref (G.2.1 237)), (1, .int x1), (2, .int x2), (3, .int x3), (4, .int x4), (5, .int x5), (6, .int x6)] → K70 x1 x2 x3 x4 x5 x6 σ → W p l e rm_X11_measures s m args below meth c H locs 0 0 (QMV G Q below args s) (F0 m 70 ls [])) (x1 : Int32) (x2 : Int32) (x3 : Int32) (x4 : Int32) (x5 : Int32) (x6 : Int32) (s1 : Int32) (s2 : Int32) (σ : GSt) {H : Heap} {locs : List Loc} {ls : Array Slot} (hw : Wo G s H locs σ) (hl : lv_has ls 7 [(0, .ref (G.2.1 237)), (1, .int x1), (2, .int x2), (3, .int x3), (4, .int x4), (5, .int x5), (6, .int x6)]) (hD : D_X11_measures_219 K70 Q x1 x2 x3 x4 x5 x6 s1 s2 σ) : W p l e rm_X11_measures s m args below meth c H locs 0 0 (QMV G Q below args s) (F0 m 219 ls [.int s2, .int s1, .ref (G.2.1 237)]) := by
  unfold D_X11_measures_219 at hD
  refine lv_iadd X.1 X.2.1 d_X11_measures_219 ?_
  refine pf_11_51 X hw (by decide +kernel : kd 237 = 11) tb_957 d_X11_measures_220 (fun H locs hw => ?_)
  obtain ⟨σ_1, e_σ_1⟩ : ∃ z : GSt, z = up2 σ 237 51 (s1 + s2) := ⟨_, rfl⟩
  rw [← e_σ_1] at hw
  have hD := hD σ_1 e_σ_1
  refine lv_aload_n X.1 X.2.1 d_X11_measures_223 rfl (lv_at hl 0 rfl) ?_
  refine lv_aload_n X.1 X.2.1 d_X11_measures_224 rfl (lv_at hl 0 rfl) ?_
  refine gf_11_25 X hw (by decide +kernel : kd 237 = 11) tb_931 d_X11_measures_225 ?_
  refine lv_iconst (v := 0) X.1 X.2.1 d_X11_measures_228 (by decide) ?_
  have q_229 : vp_in 0 9 := by unfold vp_in; decide
  refine g_iald X hw ly_11_25.1 ly_11_25.2 q_229 d_X11_measures_229 ?_
  refine lv_aload_n X.1 X.2.1 d_X11_measures_230 rfl (lv_at hl 0 rfl) ?_
  refine gf_11_52 X hw (by decide +kernel : kd 237 = 11) tb_958 d_X11_measures_231 ?_
  refine lv_icmp_le (tgt := 246) X.1 X.2.1 d_X11_measures_234 (by decide) (fun q_234 => ?_) (fun q_234 => ?_)
  · have hD := hD.1 q_234
    refine lv_aload_n X.1 X.2.1 d_X11_measures_246 rfl (lv_at hl 0 rfl) ?_
    refine gf_11_52 X hw (by decide +kernel : kd 237 = 11) tb_958 d_X11_measures_247 ?_
    exact s_X11_measures_250 X hr hlk K70 Q hK70 x1 x2 x3 x4 x5 x6 (σ_1 237 52) σ_1 hw (lv_sub hl [0, 1, 2, 3, 4, 5, 6] rfl) hD
  · have hD := hD.2 q_234
    refine lv_aload_n X.1 X.2.1 d_X11_measures_237 rfl (lv_at hl 0 rfl) ?_
    refine gf_11_25 X hw (by decide +kernel : kd 237 = 11) tb_931 d_X11_measures_238 ?_
    refine lv_iconst (v := 0) X.1 X.2.1 d_X11_measures_241 (by decide) ?_
    have q_242 : vp_in 0 9 := by unfold vp_in; decide
    refine g_iald X hw ly_11_25.1 ly_11_25.2 q_242 d_X11_measures_242 ?_
    refine lv_goto (tgt := 250) X.1 X.2.1 d_X11_measures_243 (by decide) ?_
    exact s_X11_measures_250 X hr hlk K70 Q hK70 x1 x2 x3 x4 x5 x6 (σ_1 259 (Int32.toNatClampNeg 0)) σ_1 hw (lv_sub hl [0, 1, 2, 3, 4, 5, 6] rfl) hD
set_option maxRecDepth 20000 in
set_option maxHeartbeats 4000000 in
theorem s_X11_measures_195 {p : Program} {l : Launch} {e : Env} {s : State} {m : MethodId} {args : Array Value} {below : List Frame} {meth : Method} {c : Code} {G : GC} (X : CallFix p m c cm_X11_measures 7 s args lw_us "GameLoomModel") (hr : meth.sig.returnType = none) (hlk : meth.locks = false) (K70 : Int32 → Int32 → Int32 → Int32 → Int32 → Int32 → GSt → Prop) (Q : GSt → Prop) (hK70 : ∀ (x1 : Int32) (x2 : Int32) (x3 : Int32) (x4 : Int32) (x5 : Int32) (x6 : Int32) (σ : GSt) (H : Heap) (locs : List Loc) (ls : Array Slot), Wo G s H locs σ → lv_has ls 7 [(0, .ref (G.2.1 237)), (1, .int x1), (2, .int x2), (3, .int x3), (4, .int x4), (5, .int x5), (6, .int x6)] → K70 x1 x2 x3 x4 x5 x6 σ → W p l e rm_X11_measures s m args below meth c H locs 0 0 (QMV G Q below args s) (F0 m 70 ls [])) (x1 : Int32) (x2 : Int32) (x3 : Int32) (x4 : Int32) (x5 : Int32) (x6 : Int32) (s1 : Int32) (s2 : Int32) (σ : GSt) {H : Heap} {locs : List Loc} {ls : Array Slot} (hw : Wo G s H locs σ) (hl : lv_has ls 7 [(0, .ref (G.2.1 237)), (1, .int x1), (2, .int x2), (3, .int x3), (4, .int x4), (5, .int x5), (6, .int x6)]) (hD : D_X11_measures_195 K70 Q x1 x2 x3 x4 x5 x6 s1 s2 σ) : W p l e rm_X11_measures s m args below meth c H locs 0 0 (QMV G Q below args s) (F0 m 195 ls [.int s2, .int s1, .ref (G.2.1 237)]) := by
  unfold D_X11_measures_195 at hD
  refine lv_iadd X.1 X.2.1 d_X11_measures_195 ?_
  refine pf_11_50 X hw (by decide +kernel : kd 237 = 11) tb_956 d_X11_measures_196 (fun H locs hw => ?_)
  obtain ⟨σ_1, e_σ_1⟩ : ∃ z : GSt, z = up2 σ 237 50 (s1 + s2) := ⟨_, rfl⟩
  rw [← e_σ_1] at hw
  have hD := hD σ_1 e_σ_1
  refine lv_aload_n X.1 X.2.1 d_X11_measures_199 rfl (lv_at hl 0 rfl) ?_
  refine lv_dup X.1 X.2.1 d_X11_measures_200 rfl ?_
  refine gf_11_51 X hw (by decide +kernel : kd 237 = 11) tb_957 d_X11_measures_201 ?_
  refine lv_aload_n X.1 X.2.1 d_X11_measures_204 rfl (lv_at hl 0 rfl) ?_
  refine gf_11_26 X hw (by decide +kernel : kd 237 = 11) tb_932 d_X11_measures_205 ?_
  refine lv_iconst (v := 0) X.1 X.2.1 d_X11_measures_208 (by decide) ?_
  have q_209 : vp_in 0 9 := by unfold vp_in; decide
  refine g_iald X hw ly_11_26.1 ly_11_26.2 q_209 d_X11_measures_209 ?_
  refine lv_iconst (v := 2) X.1 X.2.1 d_X11_measures_210 (by decide) ?_
  refine lv_icmp_ne (tgt := 218) X.1 X.2.1 d_X11_measures_211 (by decide) (fun q_211 => ?_) (fun q_211 => ?_)
  · have hD := hD.1 q_211
    refine lv_iconst (v := 0) X.1 X.2.1 d_X11_measures_218 (by decide) ?_
    exact s_X11_measures_219 X hr hlk K70 Q hK70 x1 x2 x3 x4 x5 x6 (σ_1 237 51) 0 σ_1 hw (lv_sub hl [0, 1, 2, 3, 4, 5, 6] rfl) hD
  · have hD := hD.2 q_211
    refine lv_iconst (v := 1) X.1 X.2.1 d_X11_measures_214 (by decide) ?_
    refine lv_goto (tgt := 219) X.1 X.2.1 d_X11_measures_215 (by decide) ?_
    exact s_X11_measures_219 X hr hlk K70 Q hK70 x1 x2 x3 x4 x5 x6 (σ_1 237 51) 1 σ_1 hw (lv_sub hl [0, 1, 2, 3, 4, 5, 6] rfl) hD
set_option maxRecDepth 20000 in
set_option maxHeartbeats 4000000 in
theorem s_X11_measures_156 {p : Program} {l : Launch} {e : Env} {s : State} {m : MethodId} {args : Array Value} {below : List Frame} {meth : Method} {c : Code} {G : GC} (X : CallFix p m c cm_X11_measures 7 s args lw_us "GameLoomModel") (hr : meth.sig.returnType = none) (hlk : meth.locks = false) (K70 : Int32 → Int32 → Int32 → Int32 → Int32 → Int32 → GSt → Prop) (Q : GSt → Prop) (hK70 : ∀ (x1 : Int32) (x2 : Int32) (x3 : Int32) (x4 : Int32) (x5 : Int32) (x6 : Int32) (σ : GSt) (H : Heap) (locs : List Loc) (ls : Array Slot), Wo G s H locs σ → lv_has ls 7 [(0, .ref (G.2.1 237)), (1, .int x1), (2, .int x2), (3, .int x3), (4, .int x4), (5, .int x5), (6, .int x6)] → K70 x1 x2 x3 x4 x5 x6 σ → W p l e rm_X11_measures s m args below meth c H locs 0 0 (QMV G Q below args s) (F0 m 70 ls [])) (x1 : Int32) (x2 : Int32) (x3 : Int32) (x4 : Int32) (x5 : Int32) (x6 : Int32) (s1 : Int32) (s2 : Int32) (σ : GSt) {H : Heap} {locs : List Loc} {ls : Array Slot} (hw : Wo G s H locs σ) (hl : lv_has ls 7 [(0, .ref (G.2.1 237)), (1, .int x1), (2, .int x2), (3, .int x3), (4, .int x4), (5, .int x5), (6, .int x6)]) (hD : D_X11_measures_156 K70 Q x1 x2 x3 x4 x5 x6 s1 s2 σ) : W p l e rm_X11_measures s m args below meth c H locs 0 0 (QMV G Q below args s) (F0 m 156 ls [.int s2, .int s1, .ref (G.2.1 237)]) := by
  unfold D_X11_measures_156 at hD
  refine lv_iadd X.1 X.2.1 d_X11_measures_156 ?_
  refine pf_11_48 X hw (by decide +kernel : kd 237 = 11) tb_954 d_X11_measures_157 (fun H locs hw => ?_)
  obtain ⟨σ_1, e_σ_1⟩ : ∃ z : GSt, z = up2 σ 237 48 (s1 + s2) := ⟨_, rfl⟩
  rw [← e_σ_1] at hw
  have hD := hD σ_1 e_σ_1
  refine lv_aload_n X.1 X.2.1 d_X11_measures_160 rfl (lv_at hl 0 rfl) ?_
  refine lv_dup X.1 X.2.1 d_X11_measures_161 rfl ?_
  refine gf_11_49 X hw (by decide +kernel : kd 237 = 11) tb_955 d_X11_measures_162 ?_
  refine lv_aload_n X.1 X.2.1 d_X11_measures_165 rfl (lv_at hl 0 rfl) ?_
  refine gf_11_25 X hw (by decide +kernel : kd 237 = 11) tb_931 d_X11_measures_166 ?_
  refine lv_iconst (v := 0) X.1 X.2.1 d_X11_measures_169 (by decide) ?_
  have q_170 : vp_in 0 9 := by unfold vp_in; decide
  refine g_iald X hw ly_11_25.1 ly_11_25.2 q_170 d_X11_measures_170 ?_
  refine lv_iadd X.1 X.2.1 d_X11_measures_171 ?_
  refine pf_11_49 X hw (by decide +kernel : kd 237 = 11) tb_955 d_X11_measures_172 (fun H locs hw => ?_)
  obtain ⟨σ_2, e_σ_2⟩ : ∃ z : GSt, z = up2 σ_1 237 49 ((σ_1 237 49) + (σ_1 259 (Int32.toNatClampNeg 0))) := ⟨_, rfl⟩
  rw [← e_σ_2] at hw
  have hD := hD σ_2 e_σ_2
  refine lv_aload_n X.1 X.2.1 d_X11_measures_175 rfl (lv_at hl 0 rfl) ?_
  refine lv_dup X.1 X.2.1 d_X11_measures_176 rfl ?_
  refine gf_11_50 X hw (by decide +kernel : kd 237 = 11) tb_956 d_X11_measures_177 ?_
  refine lv_aload_n X.1 X.2.1 d_X11_measures_180 rfl (lv_at hl 0 rfl) ?_
  refine gf_11_26 X hw (by decide +kernel : kd 237 = 11) tb_932 d_X11_measures_181 ?_
  refine lv_iconst (v := 0) X.1 X.2.1 d_X11_measures_184 (by decide) ?_
  have q_185 : vp_in 0 9 := by unfold vp_in; decide
  refine g_iald X hw ly_11_26.1 ly_11_26.2 q_185 d_X11_measures_185 ?_
  refine lv_iconst (v := 3) X.1 X.2.1 d_X11_measures_186 (by decide) ?_
  refine lv_icmp_ne (tgt := 194) X.1 X.2.1 d_X11_measures_187 (by decide) (fun q_187 => ?_) (fun q_187 => ?_)
  · have hD := hD.1 q_187
    refine lv_iconst (v := 0) X.1 X.2.1 d_X11_measures_194 (by decide) ?_
    exact s_X11_measures_195 X hr hlk K70 Q hK70 x1 x2 x3 x4 x5 x6 (σ_2 237 50) 0 σ_2 hw (lv_sub hl [0, 1, 2, 3, 4, 5, 6] rfl) hD
  · have hD := hD.2 q_187
    refine lv_iconst (v := 1) X.1 X.2.1 d_X11_measures_190 (by decide) ?_
    refine lv_goto (tgt := 195) X.1 X.2.1 d_X11_measures_191 (by decide) ?_
    exact s_X11_measures_195 X hr hlk K70 Q hK70 x1 x2 x3 x4 x5 x6 (σ_2 237 50) 1 σ_2 hw (lv_sub hl [0, 1, 2, 3, 4, 5, 6] rfl) hD
set_option maxRecDepth 20000 in
set_option maxHeartbeats 4000000 in
theorem s_X11_measures_133 {p : Program} {l : Launch} {e : Env} {s : State} {m : MethodId} {args : Array Value} {below : List Frame} {meth : Method} {c : Code} {G : GC} (X : CallFix p m c cm_X11_measures 7 s args lw_us "GameLoomModel") (hr : meth.sig.returnType = none) (hlk : meth.locks = false) (K70 : Int32 → Int32 → Int32 → Int32 → Int32 → Int32 → GSt → Prop) (Q : GSt → Prop) (hK70 : ∀ (x1 : Int32) (x2 : Int32) (x3 : Int32) (x4 : Int32) (x5 : Int32) (x6 : Int32) (σ : GSt) (H : Heap) (locs : List Loc) (ls : Array Slot), Wo G s H locs σ → lv_has ls 7 [(0, .ref (G.2.1 237)), (1, .int x1), (2, .int x2), (3, .int x3), (4, .int x4), (5, .int x5), (6, .int x6)] → K70 x1 x2 x3 x4 x5 x6 σ → W p l e rm_X11_measures s m args below meth c H locs 0 0 (QMV G Q below args s) (F0 m 70 ls [])) (x1 : Int32) (x2 : Int32) (x3 : Int32) (x4 : Int32) (x5 : Int32) (x6 : Int32) (s1 : Int32) (s2 : Int32) (σ : GSt) {H : Heap} {locs : List Loc} {ls : Array Slot} (hw : Wo G s H locs σ) (hl : lv_has ls 7 [(0, .ref (G.2.1 237)), (1, .int x1), (2, .int x2), (3, .int x3), (4, .int x4), (5, .int x5), (6, .int x6)]) (hD : D_X11_measures_133 K70 Q x1 x2 x3 x4 x5 x6 s1 s2 σ) : W p l e rm_X11_measures s m args below meth c H locs 0 0 (QMV G Q below args s) (F0 m 133 ls [.int s2, .int s1, .ref (G.2.1 237)]) := by
  unfold D_X11_measures_133 at hD
  refine lv_iadd X.1 X.2.1 d_X11_measures_133 ?_
  refine pf_11_47 X hw (by decide +kernel : kd 237 = 11) tb_953 d_X11_measures_134 (fun H locs hw => ?_)
  obtain ⟨σ_1, e_σ_1⟩ : ∃ z : GSt, z = up2 σ 237 47 (s1 + s2) := ⟨_, rfl⟩
  rw [← e_σ_1] at hw
  have hD := hD σ_1 e_σ_1
  refine lv_aload_n X.1 X.2.1 d_X11_measures_137 rfl (lv_at hl 0 rfl) ?_
  refine lv_dup X.1 X.2.1 d_X11_measures_138 rfl ?_
  refine gf_11_48 X hw (by decide +kernel : kd 237 = 11) tb_954 d_X11_measures_139 ?_
  refine lv_aload_n X.1 X.2.1 d_X11_measures_142 rfl (lv_at hl 0 rfl) ?_
  refine gf_11_27 X hw (by decide +kernel : kd 237 = 11) tb_933 d_X11_measures_143 ?_
  refine lv_iconst (v := 0) X.1 X.2.1 d_X11_measures_146 (by decide) ?_
  have q_147 : vp_in 0 9 := by unfold vp_in; decide
  refine g_iald X hw ly_11_27.1 ly_11_27.2 q_147 d_X11_measures_147 ?_
  refine lv_if_ne (tgt := 155) X.1 X.2.1 d_X11_measures_148 (by decide) (fun q_148 => ?_) (fun q_148 => ?_)
  · have hD := hD.1 q_148
    refine lv_iconst (v := 0) X.1 X.2.1 d_X11_measures_155 (by decide) ?_
    exact s_X11_measures_156 X hr hlk K70 Q hK70 x1 x2 x3 x4 x5 x6 (σ_1 237 48) 0 σ_1 hw (lv_sub hl [0, 1, 2, 3, 4, 5, 6] rfl) hD
  · have hD := hD.2 q_148
    refine lv_iconst (v := 1) X.1 X.2.1 d_X11_measures_151 (by decide) ?_
    refine lv_goto (tgt := 156) X.1 X.2.1 d_X11_measures_152 (by decide) ?_
    exact s_X11_measures_156 X hr hlk K70 Q hK70 x1 x2 x3 x4 x5 x6 (σ_1 237 48) 1 σ_1 hw (lv_sub hl [0, 1, 2, 3, 4, 5, 6] rfl) hD
set_option maxRecDepth 20000 in
set_option maxHeartbeats 4000000 in
theorem s_X11_measures_109 {p : Program} {l : Launch} {e : Env} {s : State} {m : MethodId} {args : Array Value} {below : List Frame} {meth : Method} {c : Code} {G : GC} (X : CallFix p m c cm_X11_measures 7 s args lw_us "GameLoomModel") (hr : meth.sig.returnType = none) (hlk : meth.locks = false) (K70 : Int32 → Int32 → Int32 → Int32 → Int32 → Int32 → GSt → Prop) (Q : GSt → Prop) (hK70 : ∀ (x1 : Int32) (x2 : Int32) (x3 : Int32) (x4 : Int32) (x5 : Int32) (x6 : Int32) (σ : GSt) (H : Heap) (locs : List Loc) (ls : Array Slot), Wo G s H locs σ → lv_has ls 7 [(0, .ref (G.2.1 237)), (1, .int x1), (2, .int x2), (3, .int x3), (4, .int x4), (5, .int x5), (6, .int x6)] → K70 x1 x2 x3 x4 x5 x6 σ → W p l e rm_X11_measures s m args below meth c H locs 0 0 (QMV G Q below args s) (F0 m 70 ls [])) (x1 : Int32) (x2 : Int32) (x3 : Int32) (x4 : Int32) (x5 : Int32) (x6 : Int32) (s1 : Int32) (s2 : Int32) (σ : GSt) {H : Heap} {locs : List Loc} {ls : Array Slot} (hw : Wo G s H locs σ) (hl : lv_has ls 7 [(0, .ref (G.2.1 237)), (1, .int x1), (2, .int x2), (3, .int x3), (4, .int x4), (5, .int x5), (6, .int x6)]) (hD : D_X11_measures_109 K70 Q x1 x2 x3 x4 x5 x6 s1 s2 σ) : W p l e rm_X11_measures s m args below meth c H locs 0 0 (QMV G Q below args s) (F0 m 109 ls [.int s2, .int s1, .ref (G.2.1 237)]) := by
  unfold D_X11_measures_109 at hD
  refine lv_iadd X.1 X.2.1 d_X11_measures_109 ?_
  refine pf_11_46 X hw (by decide +kernel : kd 237 = 11) tb_952 d_X11_measures_110 (fun H locs hw => ?_)
  obtain ⟨σ_1, e_σ_1⟩ : ∃ z : GSt, z = up2 σ 237 46 (s1 + s2) := ⟨_, rfl⟩
  rw [← e_σ_1] at hw
  have hD := hD σ_1 e_σ_1
  refine lv_aload_n X.1 X.2.1 d_X11_measures_113 rfl (lv_at hl 0 rfl) ?_
  refine lv_dup X.1 X.2.1 d_X11_measures_114 rfl ?_
  refine gf_11_47 X hw (by decide +kernel : kd 237 = 11) tb_953 d_X11_measures_115 ?_
  refine lv_aload_n X.1 X.2.1 d_X11_measures_118 rfl (lv_at hl 0 rfl) ?_
  refine gf_11_27 X hw (by decide +kernel : kd 237 = 11) tb_933 d_X11_measures_119 ?_
  refine lv_iconst (v := 0) X.1 X.2.1 d_X11_measures_122 (by decide) ?_
  have q_123 : vp_in 0 9 := by unfold vp_in; decide
  refine g_iald X hw ly_11_27.1 ly_11_27.2 q_123 d_X11_measures_123 ?_
  refine lv_iconst (v := 2) X.1 X.2.1 d_X11_measures_124 (by decide) ?_
  refine lv_icmp_ne (tgt := 132) X.1 X.2.1 d_X11_measures_125 (by decide) (fun q_125 => ?_) (fun q_125 => ?_)
  · have hD := hD.1 q_125
    refine lv_iconst (v := 0) X.1 X.2.1 d_X11_measures_132 (by decide) ?_
    exact s_X11_measures_133 X hr hlk K70 Q hK70 x1 x2 x3 x4 x5 x6 (σ_1 237 47) 0 σ_1 hw (lv_sub hl [0, 1, 2, 3, 4, 5, 6] rfl) hD
  · have hD := hD.2 q_125
    refine lv_iconst (v := 1) X.1 X.2.1 d_X11_measures_128 (by decide) ?_
    refine lv_goto (tgt := 133) X.1 X.2.1 d_X11_measures_129 (by decide) ?_
    exact s_X11_measures_133 X hr hlk K70 Q hK70 x1 x2 x3 x4 x5 x6 (σ_1 237 47) 1 σ_1 hw (lv_sub hl [0, 1, 2, 3, 4, 5, 6] rfl) hD
set_option maxRecDepth 20000 in
set_option maxHeartbeats 4000000 in
theorem s_X11_measures_70 {p : Program} {l : Launch} {e : Env} {s : State} {m : MethodId} {args : Array Value} {below : List Frame} {meth : Method} {c : Code} {G : GC} (X : CallFix p m c cm_X11_measures 7 s args lw_us "GameLoomModel") (hr : meth.sig.returnType = none) (hlk : meth.locks = false) (K70 : Int32 → Int32 → Int32 → Int32 → Int32 → Int32 → GSt → Prop) (Q : GSt → Prop) (hK70 : ∀ (x1 : Int32) (x2 : Int32) (x3 : Int32) (x4 : Int32) (x5 : Int32) (x6 : Int32) (σ : GSt) (H : Heap) (locs : List Loc) (ls : Array Slot), Wo G s H locs σ → lv_has ls 7 [(0, .ref (G.2.1 237)), (1, .int x1), (2, .int x2), (3, .int x3), (4, .int x4), (5, .int x5), (6, .int x6)] → K70 x1 x2 x3 x4 x5 x6 σ → W p l e rm_X11_measures s m args below meth c H locs 0 0 (QMV G Q below args s) (F0 m 70 ls [])) (x1 : Int32) (x2 : Int32) (x3 : Int32) (x4 : Int32) (x5 : Int32) (x6 : Int32) (σ : GSt) {H : Heap} {locs : List Loc} {ls : Array Slot} (hw : Wo G s H locs σ) (hl : lv_has ls 7 [(0, .ref (G.2.1 237)), (1, .int x1), (2, .int x2), (3, .int x3), (4, .int x4), (5, .int x5), (6, .int x6)]) (hD : D_X11_measures_70 K70 Q x1 x2 x3 x4 x5 x6 σ) : W p l e rm_X11_measures s m args below meth c H locs 0 0 (QMV G Q below args s) (F0 m 70 ls []) := by
  unfold D_X11_measures_70 at hD
  refine lv_iload X.1 X.2.1 d_X11_measures_70 (lv_at hl 6 rfl) ?_
  refine lv_iload_n X.1 X.2.1 d_X11_measures_72 rfl (lv_at hl 2 rfl) ?_
  refine lv_icmp_ge (tgt := 259) X.1 X.2.1 d_X11_measures_73 (by decide) (fun q_73 => ?_) (fun q_73 => ?_)
  · have hD := hD.1 q_73
    exact g_vret X hr hlk hw hD d_X11_measures_259
  · have hD := hD.2 q_73
    refine lv_aload_n X.1 X.2.1 d_X11_measures_76 rfl (lv_at hl 0 rfl) ?_
    refine lv_iload_n X.1 X.2.1 d_X11_measures_77 rfl (lv_at hl 1 rfl) ?_
    refine lv_iload X.1 X.2.1 d_X11_measures_78 (lv_at hl 4 rfl) ?_
    refine lv_iload X.1 X.2.1 d_X11_measures_80 (lv_at hl 5 rfl) ?_
    refine lv_iload_n X.1 X.2.1 d_X11_measures_82 rfl (lv_at hl 3 rfl) ?_
    refine lv_iload X.1 X.2.1 d_X11_measures_83 (lv_at hl 6 rfl) ?_
    refine lv_iadd X.1 X.2.1 d_X11_measures_85 ?_
    refine gcV_v (rest := []) (As := [.int x1, .int x4, .int x5, .int (x3 + x6)]) (o := 237) X hw (c_X11_plays l G x1 x4 x5 (x3 + x6) σ _  hD) (kd_lt (by decide +kernel : kd 237 = 11) (by decide)) (ce_11 G _ (by decide +kernel : kd 237 = 11)) rfl tb_1294 tb_1296 tv_73 tb_12 tb_1297 hd_X11_plays ⟨rfl, rfl⟩ ⟨Nat.le_of_ble_eq_true rfl, Nat.le_of_ble_eq_true rfl⟩ rfl hl.1 rfl (Nat.le_of_ble_eq_true rfl) d_X11_measures_86 (fun σ_1 H locs hD hw => ?_)
    refine lv_aload_n X.1 X.2.1 d_X11_measures_89 rfl (lv_at hl 0 rfl) ?_
    refine lv_dup X.1 X.2.1 d_X11_measures_90 rfl ?_
    refine gf_11_46 X hw (by decide +kernel : kd 237 = 11) tb_952 d_X11_measures_91 ?_
    refine lv_aload_n X.1 X.2.1 d_X11_measures_94 rfl (lv_at hl 0 rfl) ?_
    refine gf_11_27 X hw (by decide +kernel : kd 237 = 11) tb_933 d_X11_measures_95 ?_
    refine lv_iconst (v := 0) X.1 X.2.1 d_X11_measures_98 (by decide) ?_
    have q_99 : vp_in 0 9 := by unfold vp_in; decide
    refine g_iald X hw ly_11_27.1 ly_11_27.2 q_99 d_X11_measures_99 ?_
    refine lv_iconst (v := 1) X.1 X.2.1 d_X11_measures_100 (by decide) ?_
    refine lv_icmp_ne (tgt := 108) X.1 X.2.1 d_X11_measures_101 (by decide) (fun q_101 => ?_) (fun q_101 => ?_)
    · have hD := hD.1 q_101
      refine lv_iconst (v := 0) X.1 X.2.1 d_X11_measures_108 (by decide) ?_
      exact s_X11_measures_109 X hr hlk K70 Q hK70 x1 x2 x3 x4 x5 x6 (σ_1 237 46) 0 σ_1 hw (lv_sub hl [0, 1, 2, 3, 4, 5, 6] rfl) hD
    · have hD := hD.2 q_101
      refine lv_iconst (v := 1) X.1 X.2.1 d_X11_measures_104 (by decide) ?_
      refine lv_goto (tgt := 109) X.1 X.2.1 d_X11_measures_105 (by decide) ?_
      exact s_X11_measures_109 X hr hlk K70 Q hK70 x1 x2 x3 x4 x5 x6 (σ_1 237 46) 1 σ_1 hw (lv_sub hl [0, 1, 2, 3, 4, 5, 6] rfl) hD
set_option maxRecDepth 20000 in
set_option maxHeartbeats 4000000 in
theorem sl_X11_measures_70 {p : Program} {l : Launch} {e : Env} {s : State} {m : MethodId} {args : Array Value} {below : List Frame} {meth : Method} {c : Code} {G : GC} (X : CallFix p m c cm_X11_measures 7 s args lw_us "GameLoomModel") (hr : meth.sig.returnType = none) (hlk : meth.locks = false) (Q : GSt → Prop) : ∀ (nn : Nat), ∀ (x1 : Int32) (x2 : Int32) (x3 : Int32) (x4 : Int32) (x5 : Int32) (x6 : Int32) (σ : GSt) (H : Heap) (locs : List Loc) (ls : Array Slot), Wo G s H locs σ → lv_has ls 7 [(0, .ref (G.2.1 237)), (1, .int x1), (2, .int x2), (3, .int x3), (4, .int x4), (5, .int x5), (6, .int x6)] → L_X11_measures_70 Q nn x1 x2 x3 x4 x5 x6 σ → W p l e rm_X11_measures s m args below meth c H locs 0 0 (QMV G Q below args s) (F0 m 70 ls []) := by
  intro nn
  induction nn with
  | zero => intro x1 x2 x3 x4 x5 x6 σ H locs ls  hw hl hD; exact hD.elim
  | succ nn ih =>
    intro x1 x2 x3 x4 x5 x6 σ H locs ls  hw hl hD
    exact s_X11_measures_70 X hr hlk (L_X11_measures_70 Q nn) Q ih x1 x2 x3 x4 x5 x6 σ hw hl hD
set_option maxRecDepth 20000 in
set_option maxHeartbeats 4000000 in
theorem s_X11_measures_38 {p : Program} {l : Launch} {e : Env} {s : State} {m : MethodId} {args : Array Value} {below : List Frame} {meth : Method} {c : Code} {G : GC} (X : CallFix p m c cm_X11_measures 7 s args lw_us "GameLoomModel") (hr : meth.sig.returnType = none) (hlk : meth.locks = false) (K38 : Int32 → Int32 → Int32 → Int32 → Int32 → Int32 → GSt → Prop) (Q : GSt → Prop) (hK38 : ∀ (x1 : Int32) (x2 : Int32) (x3 : Int32) (x4 : Int32) (x5 : Int32) (x6 : Int32) (σ : GSt) (H : Heap) (locs : List Loc) (ls : Array Slot), Wo G s H locs σ → lv_has ls 7 [(0, .ref (G.2.1 237)), (1, .int x1), (2, .int x2), (3, .int x3), (4, .int x4), (5, .int x5), (6, .int x6)] → K38 x1 x2 x3 x4 x5 x6 σ → W p l e rm_X11_measures s m args below meth c H locs 0 0 (QMV G Q below args s) (F0 m 38 ls [])) (x1 : Int32) (x2 : Int32) (x3 : Int32) (x4 : Int32) (x5 : Int32) (x6 : Int32) (σ : GSt) {H : Heap} {locs : List Loc} {ls : Array Slot} (hw : Wo G s H locs σ) (hl : lv_has ls 7 [(0, .ref (G.2.1 237)), (1, .int x1), (2, .int x2), (3, .int x3), (4, .int x4), (5, .int x5), (6, .int x6)]) (hD : D_X11_measures_38 K38 Q x1 x2 x3 x4 x5 x6 σ) : W p l e rm_X11_measures s m args below meth c H locs 0 0 (QMV G Q below args s) (F0 m 38 ls []) := by
  unfold D_X11_measures_38 at hD
  refine lv_iload X.1 X.2.1 d_X11_measures_38 (lv_at hl 6 rfl) ?_
  refine lv_bipush (v := 6) X.1 X.2.1 d_X11_measures_40 (by decide) ?_
  refine lv_icmp_ge (tgt := 67) X.1 X.2.1 d_X11_measures_42 (by decide) (fun q_42 => ?_) (fun q_42 => ?_)
  · have hD := hD.1 q_42
    refine lv_iconst (v := 0) X.1 X.2.1 d_X11_measures_67 (by decide) ?_
    refine lv_istore (lv' := [(6, .int 0), (0, .ref (G.2.1 237)), (1, .int x1), (2, .int x2), (3, .int x3), (4, .int x4), (5, .int x5)]) X.1 X.2.1 d_X11_measures_68 hl (by decide) rfl (fun ls hl => ?_)
    obtain ⟨n9, hD⟩ := hD
    exact sl_X11_measures_70 X hr hlk  Q  n9 x1 x2 x3 x4 x5 0 σ _ _ _  hw (lv_sub hl [1, 2, 3, 4, 5, 6, 0] rfl) hD
  · have hD := hD.2 q_42
    refine lv_aload_n X.1 X.2.1 d_X11_measures_45 rfl (lv_at hl 0 rfl) ?_
    refine gf_11_43 X hw (by decide +kernel : kd 237 = 11) tb_949 d_X11_measures_46 ?_
    refine lv_iload X.1 X.2.1 d_X11_measures_49 (lv_at hl 6 rfl) ?_
    refine lv_iconst (v := 0) X.1 X.2.1 d_X11_measures_51 (by decide) ?_
    obtain ⟨q_52, hD⟩ := hD
    refine g_iast X hw ly_11_43.1 ly_11_43.2 q_52 d_X11_measures_52 (fun H locs hw => ?_)
    obtain ⟨σ_1, e_σ_1⟩ : ∃ z : GSt, z = up2 σ 274 (Int32.toNatClampNeg x6) 0 := ⟨_, rfl⟩
    rw [← e_σ_1] at hw
    have hD := hD σ_1 e_σ_1
    refine lv_aload_n X.1 X.2.1 d_X11_measures_53 rfl (lv_at hl 0 rfl) ?_
    refine gf_11_44 X hw (by decide +kernel : kd 237 = 11) tb_950 d_X11_measures_54 ?_
    refine lv_iload X.1 X.2.1 d_X11_measures_57 (lv_at hl 6 rfl) ?_
    refine lv_iconst (v := 0) X.1 X.2.1 d_X11_measures_59 (by decide) ?_
    obtain ⟨q_60, hD⟩ := hD
    refine g_iast X hw ly_11_44.1 ly_11_44.2 q_60 d_X11_measures_60 (fun H locs hw => ?_)
    obtain ⟨σ_2, e_σ_2⟩ : ∃ z : GSt, z = up2 σ_1 275 (Int32.toNatClampNeg x6) 0 := ⟨_, rfl⟩
    rw [← e_σ_2] at hw
    have hD := hD σ_2 e_σ_2
    obtain ⟨x6_3, e_x6_3⟩ : ∃ y : Int32, y = x6 + 1 := ⟨_, rfl⟩
    have hD := hD x6_3 e_x6_3
    refine lv_iinc (v := x6_3) (lv' := [(6, .int x6_3), (0, .ref (G.2.1 237)), (1, .int x1), (2, .int x2), (3, .int x3), (4, .int x4), (5, .int x5)]) X.1 X.2.1 d_X11_measures_61 hl (k := 6) rfl (by rw [e_x6_3]; rfl) (by decide) rfl (fun ls hl => ?_)
    refine lv_goto (tgt := 38) X.1 X.2.1 d_X11_measures_64 (by decide) ?_
    exact hK38 x1 x2 x3 x4 x5 x6_3 σ_2 _ _ _  hw (lv_sub hl [1, 2, 3, 4, 5, 6, 0] rfl) hD
set_option maxRecDepth 20000 in
set_option maxHeartbeats 4000000 in
theorem sl_X11_measures_38 {p : Program} {l : Launch} {e : Env} {s : State} {m : MethodId} {args : Array Value} {below : List Frame} {meth : Method} {c : Code} {G : GC} (X : CallFix p m c cm_X11_measures 7 s args lw_us "GameLoomModel") (hr : meth.sig.returnType = none) (hlk : meth.locks = false) (Q : GSt → Prop) : ∀ (nn : Nat), ∀ (x1 : Int32) (x2 : Int32) (x3 : Int32) (x4 : Int32) (x5 : Int32) (x6 : Int32) (σ : GSt) (H : Heap) (locs : List Loc) (ls : Array Slot), Wo G s H locs σ → lv_has ls 7 [(0, .ref (G.2.1 237)), (1, .int x1), (2, .int x2), (3, .int x3), (4, .int x4), (5, .int x5), (6, .int x6)] → L_X11_measures_38 Q nn x1 x2 x3 x4 x5 x6 σ → W p l e rm_X11_measures s m args below meth c H locs 0 0 (QMV G Q below args s) (F0 m 38 ls []) := by
  intro nn
  induction nn with
  | zero => intro x1 x2 x3 x4 x5 x6 σ H locs ls  hw hl hD; exact hD.elim
  | succ nn ih =>
    intro x1 x2 x3 x4 x5 x6 σ H locs ls  hw hl hD
    exact s_X11_measures_38 X hr hlk (L_X11_measures_38 Q nn) Q ih x1 x2 x3 x4 x5 x6 σ hw hl hD
set_option maxRecDepth 20000 in
set_option maxHeartbeats 4000000 in
theorem s_X11_measures_0 {p : Program} {l : Launch} {e : Env} {s : State} {m : MethodId} {args : Array Value} {below : List Frame} {meth : Method} {c : Code} {G : GC} (X : CallFix p m c cm_X11_measures 7 s args lw_us "GameLoomModel") (hr : meth.sig.returnType = none) (hlk : meth.locks = false) (Q : GSt → Prop) (x1 : Int32) (x2 : Int32) (x3 : Int32) (x4 : Int32) (x5 : Int32) (σ : GSt) {H : Heap} {locs : List Loc} {ls : Array Slot} (hw : Wo G s H locs σ) (hl : lv_has ls 7 [(0, .ref (G.2.1 237)), (1, .int x1), (2, .int x2), (3, .int x3), (4, .int x4), (5, .int x5)]) (hD : D_X11_measures_0 Q x1 x2 x3 x4 x5 σ) : W p l e rm_X11_measures s m args below meth c H locs 0 0 (QMV G Q below args s) (F0 m 0 ls []) := by
  unfold D_X11_measures_0 at hD
  refine lv_aload_n X.1 X.2.1 d_X11_measures_0 rfl (lv_at hl 0 rfl) ?_
  refine lv_iconst (v := 0) X.1 X.2.1 d_X11_measures_1 (by decide) ?_
  refine pf_11_46 X hw (by decide +kernel : kd 237 = 11) tb_952 d_X11_measures_2 (fun H locs hw => ?_)
  obtain ⟨σ_1, e_σ_1⟩ : ∃ z : GSt, z = up2 σ 237 46 0 := ⟨_, rfl⟩
  rw [← e_σ_1] at hw
  have hD := hD σ_1 e_σ_1
  refine lv_aload_n X.1 X.2.1 d_X11_measures_5 rfl (lv_at hl 0 rfl) ?_
  refine lv_iconst (v := 0) X.1 X.2.1 d_X11_measures_6 (by decide) ?_
  refine pf_11_47 X hw (by decide +kernel : kd 237 = 11) tb_953 d_X11_measures_7 (fun H locs hw => ?_)
  obtain ⟨σ_2, e_σ_2⟩ : ∃ z : GSt, z = up2 σ_1 237 47 0 := ⟨_, rfl⟩
  rw [← e_σ_2] at hw
  have hD := hD σ_2 e_σ_2
  refine lv_aload_n X.1 X.2.1 d_X11_measures_10 rfl (lv_at hl 0 rfl) ?_
  refine lv_iconst (v := 0) X.1 X.2.1 d_X11_measures_11 (by decide) ?_
  refine pf_11_48 X hw (by decide +kernel : kd 237 = 11) tb_954 d_X11_measures_12 (fun H locs hw => ?_)
  obtain ⟨σ_3, e_σ_3⟩ : ∃ z : GSt, z = up2 σ_2 237 48 0 := ⟨_, rfl⟩
  rw [← e_σ_3] at hw
  have hD := hD σ_3 e_σ_3
  refine lv_aload_n X.1 X.2.1 d_X11_measures_15 rfl (lv_at hl 0 rfl) ?_
  refine lv_iconst (v := 0) X.1 X.2.1 d_X11_measures_16 (by decide) ?_
  refine pf_11_49 X hw (by decide +kernel : kd 237 = 11) tb_955 d_X11_measures_17 (fun H locs hw => ?_)
  obtain ⟨σ_4, e_σ_4⟩ : ∃ z : GSt, z = up2 σ_3 237 49 0 := ⟨_, rfl⟩
  rw [← e_σ_4] at hw
  have hD := hD σ_4 e_σ_4
  refine lv_aload_n X.1 X.2.1 d_X11_measures_20 rfl (lv_at hl 0 rfl) ?_
  refine lv_iconst (v := 0) X.1 X.2.1 d_X11_measures_21 (by decide) ?_
  refine pf_11_50 X hw (by decide +kernel : kd 237 = 11) tb_956 d_X11_measures_22 (fun H locs hw => ?_)
  obtain ⟨σ_5, e_σ_5⟩ : ∃ z : GSt, z = up2 σ_4 237 50 0 := ⟨_, rfl⟩
  rw [← e_σ_5] at hw
  have hD := hD σ_5 e_σ_5
  refine lv_aload_n X.1 X.2.1 d_X11_measures_25 rfl (lv_at hl 0 rfl) ?_
  refine lv_iconst (v := 0) X.1 X.2.1 d_X11_measures_26 (by decide) ?_
  refine pf_11_51 X hw (by decide +kernel : kd 237 = 11) tb_957 d_X11_measures_27 (fun H locs hw => ?_)
  obtain ⟨σ_6, e_σ_6⟩ : ∃ z : GSt, z = up2 σ_5 237 51 0 := ⟨_, rfl⟩
  rw [← e_σ_6] at hw
  have hD := hD σ_6 e_σ_6
  refine lv_aload_n X.1 X.2.1 d_X11_measures_30 rfl (lv_at hl 0 rfl) ?_
  refine lv_iconst (v := 0) X.1 X.2.1 d_X11_measures_31 (by decide) ?_
  refine pf_11_52 X hw (by decide +kernel : kd 237 = 11) tb_958 d_X11_measures_32 (fun H locs hw => ?_)
  obtain ⟨σ_7, e_σ_7⟩ : ∃ z : GSt, z = up2 σ_6 237 52 0 := ⟨_, rfl⟩
  rw [← e_σ_7] at hw
  have hD := hD σ_7 e_σ_7
  refine lv_iconst (v := 0) X.1 X.2.1 d_X11_measures_35 (by decide) ?_
  refine lv_istore (lv' := [(6, .int 0), (0, .ref (G.2.1 237)), (1, .int x1), (2, .int x2), (3, .int x3), (4, .int x4), (5, .int x5)]) X.1 X.2.1 d_X11_measures_36 hl (by decide) rfl (fun ls hl => ?_)
  obtain ⟨n9, hD⟩ := hD
  exact sl_X11_measures_38 X hr hlk  Q  n9 x1 x2 x3 x4 x5 0 σ_7 _ _ _  hw (lv_sub hl [1, 2, 3, 4, 5, 6, 0] rfl) hD
theorem c_X11_measures (l : Launch) (G : GC) (x1 : Int32) (x2 : Int32) (x3 : Int32) (x4 : Int32) (x5 : Int32) (σ : GSt) (Q : GSt → Prop)  (hD : D_X11_measures x1 x2 x3 x4 x5 σ Q) : MV l ym_X11_measures cm_X11_measures 7 rm_X11_measures G σ [.ref (G.2.1 237), .int x1, .int x2, .int x3, .int x4, .int x5] Q := by
  refine met_v (by decide) (Nat.le_of_ble_eq_true rfl) ?_
  intro p e s m args below meth c X hr hlk hw ls hl
  exact s_X11_measures_0 X hr hlk Q  x1 x2 x3 x4 x5 σ hw (lv_sub hl [0, 1, 2, 3, 4, 5] rfl) hD
theorem hd_X11_match : ym_X11_match.cls = "GameLoomModel" ∧ ym_X11_match.cls ≠ "java/lang/invoke/MethodHandle" ∧ ym_X11_match.cls ≠ "java/lang/invoke/VarHandle" ∧ (parseMethodDescriptor ym_X11_match.desc).map (fun d => d.parameters.length) = some 4 := by decide +kernel
abbrev rm_X11_match : Room := { frames := 11, cells := 0, slots := 0, locals := 280 }
theorem d_X11_match_0 : decode cm_X11_match 0 = .ok (.aload_n 0, 1) := by decide +kernel
theorem d_X11_match_1 : decode cm_X11_match 1 = .ok (.iload_n 1, 1) := by decide +kernel
theorem d_X11_match_2 : decode cm_X11_match 2 = .ok (.invokevirtual 204, 3) := by decide +kernel
theorem d_X11_match_5 : decode cm_X11_match 5 = .ok (.ifCond .ne 9, 3) := by decide +kernel
theorem d_X11_match_8 : decode cm_X11_match 8 = .ok (.aload_n 0, 1) := by decide +kernel
theorem d_X11_match_9 : decode cm_X11_match 9 = .ok (.iconst (-1), 1) := by decide +kernel
theorem d_X11_match_10 : decode cm_X11_match 10 = .ok (.invokevirtual 147, 3) := by decide +kernel
theorem d_X11_match_13 : decode cm_X11_match 13 = .ok (.ireturn, 1) := by decide +kernel
theorem d_X11_match_14 : decode cm_X11_match 14 = .ok (.iload_n 2, 1) := by decide +kernel
theorem d_X11_match_15 : decode cm_X11_match 15 = .ok (.i2l, 1) := by decide +kernel
theorem d_X11_match_16 : decode cm_X11_match 16 = .ok (.lconst 0, 1) := by decide +kernel
theorem d_X11_match_17 : decode cm_X11_match 17 = .ok (.ldc2_w 323, 3) := by decide +kernel
theorem d_X11_match_20 : decode cm_X11_match 20 = .ok (.invokestatic 163, 3) := by decide +kernel
theorem d_X11_match_23 : decode cm_X11_match 23 = .ok (.ifCond .eq 15, 3) := by decide +kernel
theorem d_X11_match_26 : decode cm_X11_match 26 = .ok (.iload_n 3, 1) := by decide +kernel
theorem d_X11_match_27 : decode cm_X11_match 27 = .ok (.i2l, 1) := by decide +kernel
theorem d_X11_match_28 : decode cm_X11_match 28 = .ok (.lconst 0, 1) := by decide +kernel
theorem d_X11_match_29 : decode cm_X11_match 29 = .ok (.ldc2_w 323, 3) := by decide +kernel
theorem d_X11_match_32 : decode cm_X11_match 32 = .ok (.invokestatic 163, 3) := by decide +kernel
theorem d_X11_match_35 : decode cm_X11_match 35 = .ok (.ifCond .ne 10, 3) := by decide +kernel
theorem d_X11_match_38 : decode cm_X11_match 38 = .ok (.aload_n 0, 1) := by decide +kernel
theorem d_X11_match_39 : decode cm_X11_match 39 = .ok (.bipush (-2), 2) := by decide +kernel
theorem d_X11_match_41 : decode cm_X11_match 41 = .ok (.invokevirtual 147, 3) := by decide +kernel
theorem d_X11_match_44 : decode cm_X11_match 44 = .ok (.ireturn, 1) := by decide +kernel
theorem d_X11_match_45 : decode cm_X11_match 45 = .ok (.aload_n 0, 1) := by decide +kernel
theorem d_X11_match_46 : decode cm_X11_match 46 = .ok (.iload_n 1, 1) := by decide +kernel
theorem d_X11_match_47 : decode cm_X11_match 47 = .ok (.iconst 1, 1) := by decide +kernel
theorem d_X11_match_48 : decode cm_X11_match 48 = .ok (.iload 4, 2) := by decide +kernel
theorem d_X11_match_50 : decode cm_X11_match 50 = .ok (.iload_n 2, 1) := by decide +kernel
theorem d_X11_match_51 : decode cm_X11_match 51 = .ok (.iload_n 3, 1) := by decide +kernel
theorem d_X11_match_52 : decode cm_X11_match 52 = .ok (.invokevirtual 325, 3) := by decide +kernel
theorem d_X11_match_55 : decode cm_X11_match 55 = .ok (.bipush 10, 2) := by decide +kernel
theorem d_X11_match_57 : decode cm_X11_match 57 = .ok (.aload_n 0, 1) := by decide +kernel
theorem d_X11_match_58 : decode cm_X11_match 58 = .ok (.getfield 74, 3) := by decide +kernel
theorem d_X11_match_61 : decode cm_X11_match 61 = .ok (.iconst 0, 1) := by decide +kernel
theorem d_X11_match_62 : decode cm_X11_match 62 = .ok (.iaload, 1) := by decide +kernel
theorem d_X11_match_63 : decode cm_X11_match 63 = .ok (.imul, 1) := by decide +kernel
theorem d_X11_match_64 : decode cm_X11_match 64 = .ok (.aload_n 0, 1) := by decide +kernel
theorem d_X11_match_65 : decode cm_X11_match 65 = .ok (.getfield 80, 3) := by decide +kernel
theorem d_X11_match_68 : decode cm_X11_match 68 = .ok (.iconst 0, 1) := by decide +kernel
theorem d_X11_match_69 : decode cm_X11_match 69 = .ok (.iaload, 1) := by decide +kernel
theorem d_X11_match_70 : decode cm_X11_match 70 = .ok (.ifCond .ne 7, 3) := by decide +kernel
theorem d_X11_match_73 : decode cm_X11_match 73 = .ok (.iconst 2, 1) := by decide +kernel
theorem d_X11_match_74 : decode cm_X11_match 74 = .ok (.goto 11, 3) := by decide +kernel
theorem d_X11_match_77 : decode cm_X11_match 77 = .ok (.aload_n 0, 1) := by decide +kernel
theorem d_X11_match_78 : decode cm_X11_match 78 = .ok (.getfield 80, 3) := by decide +kernel
theorem d_X11_match_81 : decode cm_X11_match 81 = .ok (.iconst 0, 1) := by decide +kernel
theorem d_X11_match_82 : decode cm_X11_match 82 = .ok (.iaload, 1) := by decide +kernel
theorem d_X11_match_83 : decode cm_X11_match 83 = .ok (.iconst 1, 1) := by decide +kernel
theorem d_X11_match_84 : decode cm_X11_match 84 = .ok (.isub, 1) := by decide +kernel
theorem d_X11_match_85 : decode cm_X11_match 85 = .ok (.iadd, 1) := by decide +kernel
theorem d_X11_match_86 : decode cm_X11_match 86 = .ok (.ireturn, 1) := by decide +kernel
def D_X11_match_38 (Q : Int32 → GSt → Prop) (σ : GSt) : Prop :=
  D_X11_no (-2) σ (fun r_1 σ_2 => Q r_1 σ_2)
def D_X11_match_0 (Q : Int32 → GSt → Prop) (x1 : Int32) (x2 : Int32) (x3 : Int32) (x4 : Int32) (σ : GSt) : Prop :=
  D_X11_isGame x1 σ (fun r_1 σ_2 => (¬ r_1 = 0 → D_X11_isIn (Int32.toInt64 x2) 0 3 σ_2 (fun r_3 σ_4 => (r_3 = 0 → D_X11_match_38 Q σ_4) ∧
  (¬ r_3 = 0 → D_X11_isIn (Int32.toInt64 x3) 0 3 σ_4 (fun r_5 σ_6 => (¬ r_5 = 0 → D_X11_measures x1 1 x4 x2 x3 σ_6 (fun σ_7 => (¬ (σ_7 261 (Int32.toNatClampNeg 0)) = 0 → Q ((10 * (σ_7 259 (Int32.toNatClampNeg 0))) + ((σ_7 261 (Int32.toNatClampNeg 0)) - 1)) σ_7) ∧
  ((σ_7 261 (Int32.toNatClampNeg 0)) = 0 → Q ((10 * (σ_7 259 (Int32.toNatClampNeg 0))) + 2) σ_7))) ∧
  (r_5 = 0 → D_X11_match_38 Q σ_6))))) ∧
  (r_1 = 0 → D_X11_no (-1) σ_2 (fun r_8 σ_9 => Q r_8 σ_9)))
def D_X11_match (x1 : Int32) (x2 : Int32) (x3 : Int32) (x4 : Int32) (σ : GSt) (Q : Int32 → GSt → Prop) : Prop := D_X11_match_0 Q x1 x2 x3 x4 σ
set_option maxRecDepth 20000 in
set_option maxHeartbeats 4000000 in
theorem s_X11_match_38 {p : Program} {l : Launch} {e : Env} {s : State} {m : MethodId} {args : Array Value} {below : List Frame} {meth : Method} {c : Code} {G : GC} (X : CallFix p m c cm_X11_match 5 s args lw_us "GameLoomModel") (hr : meth.sig.returnType = some .int) (hlk : meth.locks = false) (Q : Int32 → GSt → Prop) (σ : GSt) {H : Heap} {locs : List Loc} {ls : Array Slot} (hw : Wo G s H locs σ) (hl : lv_has ls 5 [(0, .ref (G.2.1 237))]) (hD : D_X11_match_38 Q σ) : W p l e rm_X11_match s m args below meth c H locs 0 0 (QMI G Q below args s) (F0 m 38 ls []) := by
  unfold D_X11_match_38 at hD
  refine lv_aload_n X.1 X.2.1 d_X11_match_38 rfl (lv_at hl 0 rfl) ?_
  refine lv_bipush (v := (-2)) X.1 X.2.1 d_X11_match_39 (by decide) ?_
  refine gcV_i (rest := []) (As := [.int (-2)]) (o := 237) X hw (c_X11_no l G (-2) σ _  hD) (kd_lt (by decide +kernel : kd 237 = 11) (by decide)) (ce_11 G _ (by decide +kernel : kd 237 = 11)) rfl tb_1084 tb_1086 tv_35 tb_12 tb_1087 hd_X11_no ⟨rfl, rfl⟩ ⟨Nat.le_of_ble_eq_true rfl, Nat.le_of_ble_eq_true rfl⟩ rfl hl.1 rfl (Nat.le_of_ble_eq_true rfl) d_X11_match_41 (fun r_1 σ_2 H locs hD hw => ?_)
  exact g_iret X hr hlk hw hD d_X11_match_44
set_option maxRecDepth 20000 in
set_option maxHeartbeats 4000000 in
theorem s_X11_match_0 {p : Program} {l : Launch} {e : Env} {s : State} {m : MethodId} {args : Array Value} {below : List Frame} {meth : Method} {c : Code} {G : GC} (X : CallFix p m c cm_X11_match 5 s args lw_us "GameLoomModel") (hr : meth.sig.returnType = some .int) (hlk : meth.locks = false) (Q : Int32 → GSt → Prop) (x1 : Int32) (x2 : Int32) (x3 : Int32) (x4 : Int32) (σ : GSt) {H : Heap} {locs : List Loc} {ls : Array Slot} (hw : Wo G s H locs σ) (hl : lv_has ls 5 [(0, .ref (G.2.1 237)), (1, .int x1), (2, .int x2), (3, .int x3), (4, .int x4)]) (hD : D_X11_match_0 Q x1 x2 x3 x4 σ) : W p l e rm_X11_match s m args below meth c H locs 0 0 (QMI G Q below args s) (F0 m 0 ls []) := by
  unfold D_X11_match_0 at hD
  refine lv_aload_n X.1 X.2.1 d_X11_match_0 rfl (lv_at hl 0 rfl) ?_
  refine lv_iload_n X.1 X.2.1 d_X11_match_1 rfl (lv_at hl 1 rfl) ?_
  refine gcV_i (rest := []) (As := [.int x1]) (o := 237) X hw (c_X11_isGame l G x1 σ _  hD) (kd_lt (by decide +kernel : kd 237 = 11) (by decide)) (ce_11 G _ (by decide +kernel : kd 237 = 11)) rfl tb_1144 tb_1146 tv_47 tb_12 tb_1147 hd_X11_isGame ⟨rfl, rfl⟩ ⟨Nat.le_of_ble_eq_true rfl, Nat.le_of_ble_eq_true rfl⟩ rfl hl.1 rfl (Nat.le_of_ble_eq_true rfl) d_X11_match_2 (fun r_1 σ_2 H locs hD hw => ?_)
  refine lv_if_ne (tgt := 14) X.1 X.2.1 d_X11_match_5 (by decide) (fun q_5 => ?_) (fun q_5 => ?_)
  · have hD := hD.1 q_5
    refine lv_iload_n X.1 X.2.1 d_X11_match_14 rfl (lv_at hl 2 rfl) ?_
    refine lv_i2l (v := (Int32.toInt64 x2)) X.1 X.2.1 d_X11_match_15 rfl ?_
    refine lv_lconst (v := 0) X.1 X.2.1 d_X11_match_16 (by decide) ?_
    refine lv_ldc2 (v := 3) X.1 X.2.1 X.2.2.2.1 (X.2.2.2.2 _ tb_1289) d_X11_match_17 ?_
    refine gcS_i (rest := []) (As := [.long (Int32.toInt64 x2), .long 0, .long 3]) X hw (c_X11_isIn l G (Int32.toInt64 x2) 0 3 σ_2 _  hD) tb_1125 tb_1126 tb_12 tb_1127 hd_X11_isIn ⟨rfl, rfl⟩ ⟨Nat.le_of_ble_eq_true rfl, Nat.le_of_ble_eq_true rfl⟩ rfl hl.1 rfl (Nat.le_of_ble_eq_true rfl) d_X11_match_20 (fun r_3 σ_4 H locs hD hw => ?_)
    refine lv_if_eq (tgt := 38) X.1 X.2.1 d_X11_match_23 (by decide) (fun q_23 => ?_) (fun q_23 => ?_)
    · have hD := hD.1 q_23
      exact s_X11_match_38 X hr hlk  Q   σ_4 hw (lv_sub hl [0] rfl) hD
    · have hD := hD.2 q_23
      refine lv_iload_n X.1 X.2.1 d_X11_match_26 rfl (lv_at hl 3 rfl) ?_
      refine lv_i2l (v := (Int32.toInt64 x3)) X.1 X.2.1 d_X11_match_27 rfl ?_
      refine lv_lconst (v := 0) X.1 X.2.1 d_X11_match_28 (by decide) ?_
      refine lv_ldc2 (v := 3) X.1 X.2.1 X.2.2.2.1 (X.2.2.2.2 _ tb_1289) d_X11_match_29 ?_
      refine gcS_i (rest := []) (As := [.long (Int32.toInt64 x3), .long 0, .long 3]) X hw (c_X11_isIn l G (Int32.toInt64 x3) 0 3 σ_4 _  hD) tb_1125 tb_1126 tb_12 tb_1127 hd_X11_isIn ⟨rfl, rfl⟩ ⟨Nat.le_of_ble_eq_true rfl, Nat.le_of_ble_eq_true rfl⟩ rfl hl.1 rfl (Nat.le_of_ble_eq_true rfl) d_X11_match_32 (fun r_5 σ_6 H locs hD hw => ?_)
      refine lv_if_ne (tgt := 45) X.1 X.2.1 d_X11_match_35 (by decide) (fun q_35 => ?_) (fun q_35 => ?_)
      · have hD := hD.1 q_35
        refine lv_aload_n X.1 X.2.1 d_X11_match_45 rfl (lv_at hl 0 rfl) ?_
        refine lv_iload_n X.1 X.2.1 d_X11_match_46 rfl (lv_at hl 1 rfl) ?_
        refine lv_iconst (v := 1) X.1 X.2.1 d_X11_match_47 (by decide) ?_
        refine lv_iload X.1 X.2.1 d_X11_match_48 (lv_at hl 4 rfl) ?_
        refine lv_iload_n X.1 X.2.1 d_X11_match_50 rfl (lv_at hl 2 rfl) ?_
        refine lv_iload_n X.1 X.2.1 d_X11_match_51 rfl (lv_at hl 3 rfl) ?_
        refine gcV_v (rest := []) (As := [.int x1, .int 1, .int x4, .int x2, .int x3]) (o := 237) X hw (c_X11_measures l G x1 1 x4 x2 x3 σ_6 _  hD) (kd_lt (by decide +kernel : kd 237 = 11) (by decide)) (ce_11 G _ (by decide +kernel : kd 237 = 11)) rfl tb_1290 tb_1292 tv_72 tb_12 tb_1293 hd_X11_measures ⟨rfl, rfl⟩ ⟨Nat.le_of_ble_eq_true rfl, Nat.le_of_ble_eq_true rfl⟩ rfl hl.1 rfl (Nat.le_of_ble_eq_true rfl) d_X11_match_52 (fun σ_7 H locs hD hw => ?_)
        refine lv_bipush (v := 10) X.1 X.2.1 d_X11_match_55 (by decide) ?_
        refine lv_aload_n X.1 X.2.1 d_X11_match_57 rfl (lv_at hl 0 rfl) ?_
        refine gf_11_25 X hw (by decide +kernel : kd 237 = 11) tb_931 d_X11_match_58 ?_
        refine lv_iconst (v := 0) X.1 X.2.1 d_X11_match_61 (by decide) ?_
        have q_62 : vp_in 0 9 := by unfold vp_in; decide
        refine g_iald X hw ly_11_25.1 ly_11_25.2 q_62 d_X11_match_62 ?_
        refine lv_imul X.1 X.2.1 d_X11_match_63 ?_
        refine lv_aload_n X.1 X.2.1 d_X11_match_64 rfl (lv_at hl 0 rfl) ?_
        refine gf_11_27 X hw (by decide +kernel : kd 237 = 11) tb_933 d_X11_match_65 ?_
        refine lv_iconst (v := 0) X.1 X.2.1 d_X11_match_68 (by decide) ?_
        have q_69 : vp_in 0 9 := by unfold vp_in; decide
        refine g_iald X hw ly_11_27.1 ly_11_27.2 q_69 d_X11_match_69 ?_
        refine lv_if_ne (tgt := 77) X.1 X.2.1 d_X11_match_70 (by decide) (fun q_70 => ?_) (fun q_70 => ?_)
        · have hD := hD.1 q_70
          refine lv_aload_n X.1 X.2.1 d_X11_match_77 rfl (lv_at hl 0 rfl) ?_
          refine gf_11_27 X hw (by decide +kernel : kd 237 = 11) tb_933 d_X11_match_78 ?_
          refine lv_iconst (v := 0) X.1 X.2.1 d_X11_match_81 (by decide) ?_
          have q_82 : vp_in 0 9 := by unfold vp_in; decide
          refine g_iald X hw ly_11_27.1 ly_11_27.2 q_82 d_X11_match_82 ?_
          refine lv_iconst (v := 1) X.1 X.2.1 d_X11_match_83 (by decide) ?_
          refine lv_isub X.1 X.2.1 d_X11_match_84 ?_
          refine lv_iadd X.1 X.2.1 d_X11_match_85 ?_
          exact g_iret X hr hlk hw hD d_X11_match_86
        · have hD := hD.2 q_70
          refine lv_iconst (v := 2) X.1 X.2.1 d_X11_match_73 (by decide) ?_
          refine lv_goto (tgt := 85) X.1 X.2.1 d_X11_match_74 (by decide) ?_
          refine lv_iadd X.1 X.2.1 d_X11_match_85 ?_
          exact g_iret X hr hlk hw hD d_X11_match_86
      · have hD := hD.2 q_35
        exact s_X11_match_38 X hr hlk  Q   σ_6 hw (lv_sub hl [0] rfl) hD
  · have hD := hD.2 q_5
    refine lv_aload_n X.1 X.2.1 d_X11_match_8 rfl (lv_at hl 0 rfl) ?_
    refine lv_iconst (v := (-1)) X.1 X.2.1 d_X11_match_9 (by decide) ?_
    refine gcV_i (rest := []) (As := [.int (-1)]) (o := 237) X hw (c_X11_no l G (-1) σ_2 _  hD) (kd_lt (by decide +kernel : kd 237 = 11) (by decide)) (ce_11 G _ (by decide +kernel : kd 237 = 11)) rfl tb_1084 tb_1086 tv_35 tb_12 tb_1087 hd_X11_no ⟨rfl, rfl⟩ ⟨Nat.le_of_ble_eq_true rfl, Nat.le_of_ble_eq_true rfl⟩ rfl hl.1 rfl (Nat.le_of_ble_eq_true rfl) d_X11_match_10 (fun r_8 σ_9 H locs hD hw => ?_)
    exact g_iret X hr hlk hw hD d_X11_match_13
theorem c_X11_match (l : Launch) (G : GC) (x1 : Int32) (x2 : Int32) (x3 : Int32) (x4 : Int32) (σ : GSt) (Q : Int32 → GSt → Prop)  (hD : D_X11_match x1 x2 x3 x4 σ Q) : MI l ym_X11_match cm_X11_match 5 .int rm_X11_match G σ [.ref (G.2.1 237), .int x1, .int x2, .int x3, .int x4] Q := by
  refine met_i (by decide) (Nat.le_of_ble_eq_true rfl) ?_
  intro p e s m args below meth c X hr hlk hw ls hl
  exact s_X11_match_0 X hr hlk Q  x1 x2 x3 x4 σ hw (lv_sub hl [0, 1, 2, 3, 4] rfl) hD
theorem hd_X11_measure : ym_X11_measure.cls = "GameLoomModel" ∧ ym_X11_measure.cls ≠ "java/lang/invoke/MethodHandle" ∧ ym_X11_measure.cls ≠ "java/lang/invoke/VarHandle" ∧ (parseMethodDescriptor ym_X11_measure.desc).map (fun d => d.parameters.length) = some 5 := by decide +kernel
abbrev rm_X11_measure : Room := { frames := 11, cells := 0, slots := 0, locals := 280 }
theorem d_X11_measure_0 : decode cm_X11_measure 0 = .ok (.aload_n 0, 1) := by decide +kernel
theorem d_X11_measure_1 : decode cm_X11_measure 1 = .ok (.iload_n 1, 1) := by decide +kernel
theorem d_X11_measure_2 : decode cm_X11_measure 2 = .ok (.invokevirtual 204, 3) := by decide +kernel
theorem d_X11_measure_5 : decode cm_X11_measure 5 = .ok (.ifCond .ne 9, 3) := by decide +kernel
theorem d_X11_measure_8 : decode cm_X11_measure 8 = .ok (.aload_n 0, 1) := by decide +kernel
theorem d_X11_measure_9 : decode cm_X11_measure 9 = .ok (.iconst (-1), 1) := by decide +kernel
theorem d_X11_measure_10 : decode cm_X11_measure 10 = .ok (.invokevirtual 147, 3) := by decide +kernel
theorem d_X11_measure_13 : decode cm_X11_measure 13 = .ok (.ireturn, 1) := by decide +kernel
theorem d_X11_measure_14 : decode cm_X11_measure 14 = .ok (.iload 5, 2) := by decide +kernel
theorem d_X11_measure_16 : decode cm_X11_measure 16 = .ok (.i2l, 1) := by decide +kernel
theorem d_X11_measure_17 : decode cm_X11_measure 17 = .ok (.lconst 0, 1) := by decide +kernel
theorem d_X11_measure_18 : decode cm_X11_measure 18 = .ok (.ldc2_w 284, 3) := by decide +kernel
theorem d_X11_measure_21 : decode cm_X11_measure 21 = .ok (.invokestatic 163, 3) := by decide +kernel
theorem d_X11_measure_24 : decode cm_X11_measure 24 = .ok (.ifCond .ne 47, 3) := by decide +kernel
theorem d_X11_measure_27 : decode cm_X11_measure 27 = .ok (.iload 5, 2) := by decide +kernel
theorem d_X11_measure_29 : decode cm_X11_measure 29 = .ok (.i2l, 1) := by decide +kernel
theorem d_X11_measure_30 : decode cm_X11_measure 30 = .ok (.ldc2_w 329, 3) := by decide +kernel
theorem d_X11_measure_33 : decode cm_X11_measure 33 = .ok (.bipush 9, 2) := by decide +kernel
theorem d_X11_measure_35 : decode cm_X11_measure 35 = .ok (.aload_n 0, 1) := by decide +kernel
theorem d_X11_measure_36 : decode cm_X11_measure 36 = .ok (.getfield 40, 3) := by decide +kernel
theorem d_X11_measure_39 : decode cm_X11_measure 39 = .ok (.iload_n 1, 1) := by decide +kernel
theorem d_X11_measure_40 : decode cm_X11_measure 40 = .ok (.iaload, 1) := by decide +kernel
theorem d_X11_measure_41 : decode cm_X11_measure 41 = .ok (.iadd, 1) := by decide +kernel
theorem d_X11_measure_42 : decode cm_X11_measure 42 = .ok (.i2l, 1) := by decide +kernel
theorem d_X11_measure_43 : decode cm_X11_measure 43 = .ok (.invokestatic 163, 3) := by decide +kernel
theorem d_X11_measure_46 : decode cm_X11_measure 46 = .ok (.ifCond .ne 25, 3) := by decide +kernel
theorem d_X11_measure_49 : decode cm_X11_measure 49 = .ok (.iload 5, 2) := by decide +kernel
theorem d_X11_measure_51 : decode cm_X11_measure 51 = .ok (.i2l, 1) := by decide +kernel
theorem d_X11_measure_52 : decode cm_X11_measure 52 = .ok (.ldc2_w 331, 3) := by decide +kernel
theorem d_X11_measure_55 : decode cm_X11_measure 55 = .ok (.bipush 19, 2) := by decide +kernel
theorem d_X11_measure_57 : decode cm_X11_measure 57 = .ok (.aload_n 0, 1) := by decide +kernel
theorem d_X11_measure_58 : decode cm_X11_measure 58 = .ok (.getfield 55, 3) := by decide +kernel
theorem d_X11_measure_61 : decode cm_X11_measure 61 = .ok (.iload_n 1, 1) := by decide +kernel
theorem d_X11_measure_62 : decode cm_X11_measure 62 = .ok (.iaload, 1) := by decide +kernel
theorem d_X11_measure_63 : decode cm_X11_measure 63 = .ok (.iadd, 1) := by decide +kernel
theorem d_X11_measure_64 : decode cm_X11_measure 64 = .ok (.i2l, 1) := by decide +kernel
theorem d_X11_measure_65 : decode cm_X11_measure 65 = .ok (.invokestatic 163, 3) := by decide +kernel
theorem d_X11_measure_68 : decode cm_X11_measure 68 = .ok (.ifCond .eq 7, 3) := by decide +kernel
theorem d_X11_measure_71 : decode cm_X11_measure 71 = .ok (.iconst 1, 1) := by decide +kernel
theorem d_X11_measure_72 : decode cm_X11_measure 72 = .ok (.goto 4, 3) := by decide +kernel
theorem d_X11_measure_75 : decode cm_X11_measure 75 = .ok (.iconst 0, 1) := by decide +kernel
theorem d_X11_measure_76 : decode cm_X11_measure 76 = .ok (.istore 6, 2) := by decide +kernel
theorem d_X11_measure_78 : decode cm_X11_measure 78 = .ok (.iload 4, 2) := by decide +kernel
theorem d_X11_measure_80 : decode cm_X11_measure 80 = .ok (.ifCond .lt 26, 3) := by decide +kernel
theorem d_X11_measure_83 : decode cm_X11_measure 83 = .ok (.iload 4, 2) := by decide +kernel
theorem d_X11_measure_85 : decode cm_X11_measure 85 = .ok (.bipush 10, 2) := by decide +kernel
theorem d_X11_measure_87 : decode cm_X11_measure 87 = .ok (.idiv, 1) := by decide +kernel
theorem d_X11_measure_88 : decode cm_X11_measure 88 = .ok (.iconst 3, 1) := by decide +kernel
theorem d_X11_measure_89 : decode cm_X11_measure 89 = .ok (.if_icmp .gt 17, 3) := by decide +kernel
theorem d_X11_measure_92 : decode cm_X11_measure 92 = .ok (.iload 4, 2) := by decide +kernel
theorem d_X11_measure_94 : decode cm_X11_measure 94 = .ok (.bipush 10, 2) := by decide +kernel
theorem d_X11_measure_96 : decode cm_X11_measure 96 = .ok (.irem, 1) := by decide +kernel
theorem d_X11_measure_97 : decode cm_X11_measure 97 = .ok (.iconst 3, 1) := by decide +kernel
theorem d_X11_measure_98 : decode cm_X11_measure 98 = .ok (.if_icmp .gt 8, 3) := by decide +kernel
theorem d_X11_measure_101 : decode cm_X11_measure 101 = .ok (.iload 6, 2) := by decide +kernel
theorem d_X11_measure_103 : decode cm_X11_measure 103 = .ok (.ifCond .ne 10, 3) := by decide +kernel
theorem d_X11_measure_106 : decode cm_X11_measure 106 = .ok (.aload_n 0, 1) := by decide +kernel
theorem d_X11_measure_107 : decode cm_X11_measure 107 = .ok (.bipush (-2), 2) := by decide +kernel
theorem d_X11_measure_109 : decode cm_X11_measure 109 = .ok (.invokevirtual 147, 3) := by decide +kernel
theorem d_X11_measure_112 : decode cm_X11_measure 112 = .ok (.ireturn, 1) := by decide +kernel
theorem d_X11_measure_113 : decode cm_X11_measure 113 = .ok (.iload_n 2, 1) := by decide +kernel
theorem d_X11_measure_114 : decode cm_X11_measure 114 = .ok (.i2l, 1) := by decide +kernel
theorem d_X11_measure_115 : decode cm_X11_measure 115 = .ok (.lconst 1, 1) := by decide +kernel
theorem d_X11_measure_116 : decode cm_X11_measure 116 = .ok (.ldc2_w 331, 3) := by decide +kernel
theorem d_X11_measure_119 : decode cm_X11_measure 119 = .ok (.invokestatic 140, 3) := by decide +kernel
theorem d_X11_measure_122 : decode cm_X11_measure 122 = .ok (.istore 7, 2) := by decide +kernel
theorem d_X11_measure_124 : decode cm_X11_measure 124 = .ok (.iload 7, 2) := by decide +kernel
theorem d_X11_measure_126 : decode cm_X11_measure 126 = .ok (.ifCond .eq 10, 3) := by decide +kernel
theorem d_X11_measure_129 : decode cm_X11_measure 129 = .ok (.aload_n 0, 1) := by decide +kernel
theorem d_X11_measure_130 : decode cm_X11_measure 130 = .ok (.iload 7, 2) := by decide +kernel
theorem d_X11_measure_132 : decode cm_X11_measure 132 = .ok (.invokevirtual 147, 3) := by decide +kernel
theorem d_X11_measure_135 : decode cm_X11_measure 135 = .ok (.ireturn, 1) := by decide +kernel
theorem d_X11_measure_136 : decode cm_X11_measure 136 = .ok (.aload_n 0, 1) := by decide +kernel
theorem d_X11_measure_137 : decode cm_X11_measure 137 = .ok (.iload_n 1, 1) := by decide +kernel
theorem d_X11_measure_138 : decode cm_X11_measure 138 = .ok (.iload_n 2, 1) := by decide +kernel
theorem d_X11_measure_139 : decode cm_X11_measure 139 = .ok (.iload_n 3, 1) := by decide +kernel
theorem d_X11_measure_140 : decode cm_X11_measure 140 = .ok (.iload 4, 2) := by decide +kernel
theorem d_X11_measure_142 : decode cm_X11_measure 142 = .ok (.bipush 10, 2) := by decide +kernel
theorem d_X11_measure_144 : decode cm_X11_measure 144 = .ok (.idiv, 1) := by decide +kernel
theorem d_X11_measure_145 : decode cm_X11_measure 145 = .ok (.iload 4, 2) := by decide +kernel
theorem d_X11_measure_147 : decode cm_X11_measure 147 = .ok (.bipush 10, 2) := by decide +kernel
theorem d_X11_measure_149 : decode cm_X11_measure 149 = .ok (.irem, 1) := by decide +kernel
theorem d_X11_measure_150 : decode cm_X11_measure 150 = .ok (.invokevirtual 325, 3) := by decide +kernel
theorem d_X11_measure_153 : decode cm_X11_measure 153 = .ok (.iload 5, 2) := by decide +kernel
theorem d_X11_measure_155 : decode cm_X11_measure 155 = .ok (.bipush 9, 2) := by decide +kernel
theorem d_X11_measure_157 : decode cm_X11_measure 157 = .ok (.if_icmp .le 34, 3) := by decide +kernel
theorem d_X11_measure_160 : decode cm_X11_measure 160 = .ok (.iload 5, 2) := by decide +kernel
theorem d_X11_measure_162 : decode cm_X11_measure 162 = .ok (.bipush 20, 2) := by decide +kernel
theorem d_X11_measure_164 : decode cm_X11_measure 164 = .ok (.if_icmp .ge 16, 3) := by decide +kernel
theorem d_X11_measure_167 : decode cm_X11_measure 167 = .ok (.aload_n 0, 1) := by decide +kernel
theorem d_X11_measure_168 : decode cm_X11_measure 168 = .ok (.getfield 123, 3) := by decide +kernel
theorem d_X11_measure_171 : decode cm_X11_measure 171 = .ok (.iload 5, 2) := by decide +kernel
theorem d_X11_measure_173 : decode cm_X11_measure 173 = .ok (.bipush 10, 2) := by decide +kernel
theorem d_X11_measure_175 : decode cm_X11_measure 175 = .ok (.isub, 1) := by decide +kernel
theorem d_X11_measure_176 : decode cm_X11_measure 176 = .ok (.iaload, 1) := by decide +kernel
theorem d_X11_measure_177 : decode cm_X11_measure 177 = .ok (.goto 13, 3) := by decide +kernel
theorem d_X11_measure_180 : decode cm_X11_measure 180 = .ok (.aload_n 0, 1) := by decide +kernel
theorem d_X11_measure_181 : decode cm_X11_measure 181 = .ok (.getfield 126, 3) := by decide +kernel
theorem d_X11_measure_184 : decode cm_X11_measure 184 = .ok (.iload 5, 2) := by decide +kernel
theorem d_X11_measure_186 : decode cm_X11_measure 186 = .ok (.bipush 20, 2) := by decide +kernel
theorem d_X11_measure_188 : decode cm_X11_measure 188 = .ok (.isub, 1) := by decide +kernel
theorem d_X11_measure_189 : decode cm_X11_measure 189 = .ok (.iaload, 1) := by decide +kernel
theorem d_X11_measure_190 : decode cm_X11_measure 190 = .ok (.ireturn, 1) := by decide +kernel
theorem d_X11_measure_191 : decode cm_X11_measure 191 = .ok (.iload 5, 2) := by decide +kernel
theorem d_X11_measure_193 : decode cm_X11_measure 193 = .ok (.tableswitch 69 0 5 #[39, 44, 49, 54, 59, 64], 39) := by decide +kernel
theorem d_X11_measure_232 : decode cm_X11_measure 232 = .ok (.aload_n 0, 1) := by decide +kernel
theorem d_X11_measure_233 : decode cm_X11_measure 233 = .ok (.getfield 299, 3) := by decide +kernel
theorem d_X11_measure_236 : decode cm_X11_measure 236 = .ok (.ireturn, 1) := by decide +kernel
theorem d_X11_measure_237 : decode cm_X11_measure 237 = .ok (.aload_n 0, 1) := by decide +kernel
theorem d_X11_measure_238 : decode cm_X11_measure 238 = .ok (.getfield 302, 3) := by decide +kernel
theorem d_X11_measure_241 : decode cm_X11_measure 241 = .ok (.ireturn, 1) := by decide +kernel
theorem d_X11_measure_242 : decode cm_X11_measure 242 = .ok (.aload_n 0, 1) := by decide +kernel
theorem d_X11_measure_243 : decode cm_X11_measure 243 = .ok (.getfield 305, 3) := by decide +kernel
theorem d_X11_measure_246 : decode cm_X11_measure 246 = .ok (.ireturn, 1) := by decide +kernel
theorem d_X11_measure_247 : decode cm_X11_measure 247 = .ok (.aload_n 0, 1) := by decide +kernel
theorem d_X11_measure_248 : decode cm_X11_measure 248 = .ok (.getfield 308, 3) := by decide +kernel
theorem d_X11_measure_251 : decode cm_X11_measure 251 = .ok (.ireturn, 1) := by decide +kernel
theorem d_X11_measure_252 : decode cm_X11_measure 252 = .ok (.aload_n 0, 1) := by decide +kernel
theorem d_X11_measure_253 : decode cm_X11_measure 253 = .ok (.getfield 311, 3) := by decide +kernel
theorem d_X11_measure_256 : decode cm_X11_measure 256 = .ok (.ireturn, 1) := by decide +kernel
theorem d_X11_measure_257 : decode cm_X11_measure 257 = .ok (.aload_n 0, 1) := by decide +kernel
theorem d_X11_measure_258 : decode cm_X11_measure 258 = .ok (.getfield 314, 3) := by decide +kernel
theorem d_X11_measure_261 : decode cm_X11_measure 261 = .ok (.ireturn, 1) := by decide +kernel
theorem d_X11_measure_262 : decode cm_X11_measure 262 = .ok (.aload_n 0, 1) := by decide +kernel
theorem d_X11_measure_263 : decode cm_X11_measure 263 = .ok (.getfield 317, 3) := by decide +kernel
theorem d_X11_measure_266 : decode cm_X11_measure 266 = .ok (.ireturn, 1) := by decide +kernel
def D_X11_measure_106 (Q : Int32 → GSt → Prop) (σ : GSt) : Prop :=
  D_X11_no (-2) σ (fun r_1 σ_2 => Q r_1 σ_2)
def D_X11_measure_76 (Q : Int32 → GSt → Prop) (x1 : Int32) (x2 : Int32) (x3 : Int32) (x4 : Int32) (x5 : Int32) (s0 : Int32) (σ : GSt) : Prop :=
  (x4 < 0 → D_X11_measure_106 Q σ) ∧
  (¬ x4 < 0 → (3 < (x4 / 10) → D_X11_measure_106 Q σ) ∧
  (¬ 3 < (x4 / 10) → (3 < (jrem x4 10) → D_X11_measure_106 Q σ) ∧
  (¬ 3 < (jrem x4 10) → (¬ s0 = 0 → D_X11_out (Int32.toInt64 x2) 1 20 σ (fun r_1 σ_2 => (r_1 = 0 → D_X11_measures x1 x2 x3 (x4 / 10) (jrem x4 10) σ_2 (fun σ_3 => (x5 ≤ 9 → ((x5 < 0 ∨ 5 < x5) → Q (σ_3 237 52) σ_3) ∧
  (x5 = 0 → Q (σ_3 237 46) σ_3) ∧
  (x5 = 1 → Q (σ_3 237 47) σ_3) ∧
  (x5 = 2 → Q (σ_3 237 48) σ_3) ∧
  (x5 = 3 → Q (σ_3 237 49) σ_3) ∧
  (x5 = 4 → Q (σ_3 237 50) σ_3) ∧
  (x5 = 5 → Q (σ_3 237 51) σ_3)) ∧
  (¬ x5 ≤ 9 → (20 ≤ x5 → vp_in (x5 - 20) 6 ∧ (Q (σ_3 275 (Int32.toNatClampNeg (x5 - 20))) σ_3)) ∧
  (¬ 20 ≤ x5 → vp_in (x5 - 10) 6 ∧ (Q (σ_3 274 (Int32.toNatClampNeg (x5 - 10))) σ_3))))) ∧
  (¬ r_1 = 0 → D_X11_no r_1 σ_2 (fun r_4 σ_5 => Q r_4 σ_5)))) ∧
  (s0 = 0 → D_X11_measure_106 Q σ))))
def D_X11_measure_71 (Q : Int32 → GSt → Prop) (x1 : Int32) (x2 : Int32) (x3 : Int32) (x4 : Int32) (x5 : Int32) (σ : GSt) : Prop :=
  D_X11_measure_76 Q x1 x2 x3 x4 x5 1 σ
def D_X11_measure_0 (Q : Int32 → GSt → Prop) (x1 : Int32) (x2 : Int32) (x3 : Int32) (x4 : Int32) (x5 : Int32) (σ : GSt) : Prop :=
  D_X11_isGame x1 σ (fun r_1 σ_2 => (¬ r_1 = 0 → D_X11_isIn (Int32.toInt64 x5) 0 6 σ_2 (fun r_3 σ_4 => (¬ r_3 = 0 → D_X11_measure_71 Q x1 x2 x3 x4 x5 σ_4) ∧
  (r_3 = 0 → vp_in x1 9 ∧ (D_X11_isIn (Int32.toInt64 x5) 10 (Int32.toInt64 (9 + (σ_4 248 (Int32.toNatClampNeg x1)))) σ_4 (fun r_5 σ_6 => (¬ r_5 = 0 → D_X11_measure_71 Q x1 x2 x3 x4 x5 σ_6) ∧
  (r_5 = 0 → vp_in x1 9 ∧ (D_X11_isIn (Int32.toInt64 x5) 20 (Int32.toInt64 (19 + (σ_6 253 (Int32.toNatClampNeg x1)))) σ_6 (fun r_7 σ_8 => (r_7 = 0 → D_X11_measure_76 Q x1 x2 x3 x4 x5 0 σ_8) ∧
  (¬ r_7 = 0 → D_X11_measure_71 Q x1 x2 x3 x4 x5 σ_8))))))))) ∧
  (r_1 = 0 → D_X11_no (-1) σ_2 (fun r_9 σ_10 => Q r_9 σ_10)))
def D_X11_measure (x1 : Int32) (x2 : Int32) (x3 : Int32) (x4 : Int32) (x5 : Int32) (σ : GSt) (Q : Int32 → GSt → Prop) : Prop := D_X11_measure_0 Q x1 x2 x3 x4 x5 σ
set_option maxRecDepth 20000 in
set_option maxHeartbeats 4000000 in
theorem s_X11_measure_106 {p : Program} {l : Launch} {e : Env} {s : State} {m : MethodId} {args : Array Value} {below : List Frame} {meth : Method} {c : Code} {G : GC} (X : CallFix p m c cm_X11_measure 8 s args lw_us "GameLoomModel") (hr : meth.sig.returnType = some .int) (hlk : meth.locks = false) (Q : Int32 → GSt → Prop) (σ : GSt) {H : Heap} {locs : List Loc} {ls : Array Slot} (hw : Wo G s H locs σ) (hl : lv_has ls 8 [(0, .ref (G.2.1 237))]) (hD : D_X11_measure_106 Q σ) : W p l e rm_X11_measure s m args below meth c H locs 0 0 (QMI G Q below args s) (F0 m 106 ls []) := by
  unfold D_X11_measure_106 at hD
  refine lv_aload_n X.1 X.2.1 d_X11_measure_106 rfl (lv_at hl 0 rfl) ?_
  refine lv_bipush (v := (-2)) X.1 X.2.1 d_X11_measure_107 (by decide) ?_
  refine gcV_i (rest := []) (As := [.int (-2)]) (o := 237) X hw (c_X11_no l G (-2) σ _  hD) (kd_lt (by decide +kernel : kd 237 = 11) (by decide)) (ce_11 G _ (by decide +kernel : kd 237 = 11)) rfl tb_1084 tb_1086 tv_35 tb_12 tb_1087 hd_X11_no ⟨rfl, rfl⟩ ⟨Nat.le_of_ble_eq_true rfl, Nat.le_of_ble_eq_true rfl⟩ rfl hl.1 rfl (Nat.le_of_ble_eq_true rfl) d_X11_measure_109 (fun r_1 σ_2 H locs hD hw => ?_)
  exact g_iret X hr hlk hw hD d_X11_measure_112
set_option maxRecDepth 20000 in
set_option maxHeartbeats 4000000 in
theorem s_X11_measure_76 {p : Program} {l : Launch} {e : Env} {s : State} {m : MethodId} {args : Array Value} {below : List Frame} {meth : Method} {c : Code} {G : GC} (X : CallFix p m c cm_X11_measure 8 s args lw_us "GameLoomModel") (hr : meth.sig.returnType = some .int) (hlk : meth.locks = false) (Q : Int32 → GSt → Prop) (x1 : Int32) (x2 : Int32) (x3 : Int32) (x4 : Int32) (x5 : Int32) (s0 : Int32) (σ : GSt) {H : Heap} {locs : List Loc} {ls : Array Slot} (hw : Wo G s H locs σ) (hl : lv_has ls 8 [(0, .ref (G.2.1 237)), (1, .int x1), (2, .int x2), (3, .int x3), (4, .int x4), (5, .int x5)]) (hD : D_X11_measure_76 Q x1 x2 x3 x4 x5 s0 σ) : W p l e rm_X11_measure s m args below meth c H locs 0 0 (QMI G Q below args s) (F0 m 76 ls [.int s0]) := by
  unfold D_X11_measure_76 at hD
  refine lv_istore (lv' := [(6, .int s0), (0, .ref (G.2.1 237)), (1, .int x1), (2, .int x2), (3, .int x3), (4, .int x4), (5, .int x5)]) X.1 X.2.1 d_X11_measure_76 hl (by decide) rfl (fun ls hl => ?_)
  refine lv_iload X.1 X.2.1 d_X11_measure_78 (lv_at hl 5 rfl) ?_
  refine lv_if_lt (tgt := 106) X.1 X.2.1 d_X11_measure_80 (by decide) (fun q_80 => ?_) (fun q_80 => ?_)
  · have hD := hD.1 q_80
    exact s_X11_measure_106 X hr hlk  Q   σ hw (lv_sub hl [1] rfl) hD
  · have hD := hD.2 q_80
    refine lv_iload X.1 X.2.1 d_X11_measure_83 (lv_at hl 5 rfl) ?_
    refine lv_bipush (v := 10) X.1 X.2.1 d_X11_measure_85 (by decide) ?_
    refine lv_idiv X.1 X.2.1 d_X11_measure_87 (by decide) ?_
    refine lv_iconst (v := 3) X.1 X.2.1 d_X11_measure_88 (by decide) ?_
    refine lv_icmp_gt (tgt := 106) X.1 X.2.1 d_X11_measure_89 (by decide) (fun q_89 => ?_) (fun q_89 => ?_)
    · have hD := hD.1 q_89
      exact s_X11_measure_106 X hr hlk  Q   σ hw (lv_sub hl [1] rfl) hD
    · have hD := hD.2 q_89
      refine lv_iload X.1 X.2.1 d_X11_measure_92 (lv_at hl 5 rfl) ?_
      refine lv_bipush (v := 10) X.1 X.2.1 d_X11_measure_94 (by decide) ?_
      refine g_irem X d_X11_measure_96 (by decide) ?_
      refine lv_iconst (v := 3) X.1 X.2.1 d_X11_measure_97 (by decide) ?_
      refine lv_icmp_gt (tgt := 106) X.1 X.2.1 d_X11_measure_98 (by decide) (fun q_98 => ?_) (fun q_98 => ?_)
      · have hD := hD.1 q_98
        exact s_X11_measure_106 X hr hlk  Q   σ hw (lv_sub hl [1] rfl) hD
      · have hD := hD.2 q_98
        refine lv_iload X.1 X.2.1 d_X11_measure_101 (lv_at hl 0 rfl) ?_
        refine lv_if_ne (tgt := 113) X.1 X.2.1 d_X11_measure_103 (by decide) (fun q_103 => ?_) (fun q_103 => ?_)
        · have hD := hD.1 q_103
          refine lv_iload_n X.1 X.2.1 d_X11_measure_113 rfl (lv_at hl 3 rfl) ?_
          refine lv_i2l (v := (Int32.toInt64 x2)) X.1 X.2.1 d_X11_measure_114 rfl ?_
          refine lv_lconst (v := 1) X.1 X.2.1 d_X11_measure_115 (by decide) ?_
          refine lv_ldc2 (v := 20) X.1 X.2.1 X.2.2.2.1 (X.2.2.2.2 _ tb_1308) d_X11_measure_116 ?_
          refine gcS_i (rest := []) (As := [.long (Int32.toInt64 x2), .long 1, .long 20]) X hw (c_X11_out l G (Int32.toInt64 x2) 1 20 σ _  hD) tb_1081 tb_1082 tb_12 tb_1083 hd_X11_out ⟨rfl, rfl⟩ ⟨Nat.le_of_ble_eq_true rfl, Nat.le_of_ble_eq_true rfl⟩ rfl hl.1 rfl (Nat.le_of_ble_eq_true rfl) d_X11_measure_119 (fun r_1 σ_2 H locs hD hw => ?_)
          refine lv_istore (lv' := [(7, .int r_1), (6, .int s0), (0, .ref (G.2.1 237)), (1, .int x1), (2, .int x2), (3, .int x3), (4, .int x4), (5, .int x5)]) X.1 X.2.1 d_X11_measure_122 hl (by decide) rfl (fun ls hl => ?_)
          refine lv_iload X.1 X.2.1 d_X11_measure_124 (lv_at hl 0 rfl) ?_
          refine lv_if_eq (tgt := 136) X.1 X.2.1 d_X11_measure_126 (by decide) (fun q_126 => ?_) (fun q_126 => ?_)
          · have hD := hD.1 q_126
            refine lv_aload_n X.1 X.2.1 d_X11_measure_136 rfl (lv_at hl 2 rfl) ?_
            refine lv_iload_n X.1 X.2.1 d_X11_measure_137 rfl (lv_at hl 3 rfl) ?_
            refine lv_iload_n X.1 X.2.1 d_X11_measure_138 rfl (lv_at hl 4 rfl) ?_
            refine lv_iload_n X.1 X.2.1 d_X11_measure_139 rfl (lv_at hl 5 rfl) ?_
            refine lv_iload X.1 X.2.1 d_X11_measure_140 (lv_at hl 6 rfl) ?_
            refine lv_bipush (v := 10) X.1 X.2.1 d_X11_measure_142 (by decide) ?_
            refine lv_idiv X.1 X.2.1 d_X11_measure_144 (by decide) ?_
            refine lv_iload X.1 X.2.1 d_X11_measure_145 (lv_at hl 6 rfl) ?_
            refine lv_bipush (v := 10) X.1 X.2.1 d_X11_measure_147 (by decide) ?_
            refine g_irem X d_X11_measure_149 (by decide) ?_
            refine gcV_v (rest := []) (As := [.int x1, .int x2, .int x3, .int (x4 / 10), .int (jrem x4 10)]) (o := 237) X hw (c_X11_measures l G x1 x2 x3 (x4 / 10) (jrem x4 10) σ_2 _  hD) (kd_lt (by decide +kernel : kd 237 = 11) (by decide)) (ce_11 G _ (by decide +kernel : kd 237 = 11)) rfl tb_1290 tb_1292 tv_72 tb_12 tb_1293 hd_X11_measures ⟨rfl, rfl⟩ ⟨Nat.le_of_ble_eq_true rfl, Nat.le_of_ble_eq_true rfl⟩ rfl hl.1 rfl (Nat.le_of_ble_eq_true rfl) d_X11_measure_150 (fun σ_3 H locs hD hw => ?_)
            refine lv_iload X.1 X.2.1 d_X11_measure_153 (lv_at hl 7 rfl) ?_
            refine lv_bipush (v := 9) X.1 X.2.1 d_X11_measure_155 (by decide) ?_
            refine lv_icmp_le (tgt := 191) X.1 X.2.1 d_X11_measure_157 (by decide) (fun q_157 => ?_) (fun q_157 => ?_)
            · have hD := hD.1 q_157
              refine lv_iload X.1 X.2.1 d_X11_measure_191 (lv_at hl 7 rfl) ?_
              by_cases q_193 : x5 < 0 ∨ 5 < x5
              · have hD := hD.1 q_193
                refine lv_tableOut (tgt := 262) X.1 X.2.1 d_X11_measure_193 (sw_out (n := 5) (by decide) q_193) (by decide) ?_
                refine lv_aload_n X.1 X.2.1 d_X11_measure_262 rfl (lv_at hl 2 rfl) ?_
                refine gf_11_52 X hw (by decide +kernel : kd 237 = 11) tb_958 d_X11_measure_263 ?_
                exact g_iret X hr hlk hw hD d_X11_measure_266
              · obtain ⟨j_193, hj, ej⟩ := sw_in (n := 5) (by decide) q_193
                have hD := hD.2
                rcases (show j_193 = 0 ∨ j_193 = 1 ∨ j_193 = 2 ∨ j_193 = 3 ∨ j_193 = 4 ∨ j_193 = 5 by omega) with rfl | rfl | rfl | rfl | rfl | rfl
                · have hD := hD.1 ej
                  refine lv_tableIn (tgt := 232) X.1 X.2.1 d_X11_measure_193 (by rw [ej]; decide) (by rw [ej]; decide) (by rw [ej]; rfl) (by decide) ?_
                  refine lv_aload_n X.1 X.2.1 d_X11_measure_232 rfl (lv_at hl 2 rfl) ?_
                  refine gf_11_46 X hw (by decide +kernel : kd 237 = 11) tb_952 d_X11_measure_233 ?_
                  exact g_iret X hr hlk hw hD d_X11_measure_236
                · have hD := hD.2.1 ej
                  refine lv_tableIn (tgt := 237) X.1 X.2.1 d_X11_measure_193 (by rw [ej]; decide) (by rw [ej]; decide) (by rw [ej]; rfl) (by decide) ?_
                  refine lv_aload_n X.1 X.2.1 d_X11_measure_237 rfl (lv_at hl 2 rfl) ?_
                  refine gf_11_47 X hw (by decide +kernel : kd 237 = 11) tb_953 d_X11_measure_238 ?_
                  exact g_iret X hr hlk hw hD d_X11_measure_241
                · have hD := hD.2.2.1 ej
                  refine lv_tableIn (tgt := 242) X.1 X.2.1 d_X11_measure_193 (by rw [ej]; decide) (by rw [ej]; decide) (by rw [ej]; rfl) (by decide) ?_
                  refine lv_aload_n X.1 X.2.1 d_X11_measure_242 rfl (lv_at hl 2 rfl) ?_
                  refine gf_11_48 X hw (by decide +kernel : kd 237 = 11) tb_954 d_X11_measure_243 ?_
                  exact g_iret X hr hlk hw hD d_X11_measure_246
                · have hD := hD.2.2.2.1 ej
                  refine lv_tableIn (tgt := 247) X.1 X.2.1 d_X11_measure_193 (by rw [ej]; decide) (by rw [ej]; decide) (by rw [ej]; rfl) (by decide) ?_
                  refine lv_aload_n X.1 X.2.1 d_X11_measure_247 rfl (lv_at hl 2 rfl) ?_
                  refine gf_11_49 X hw (by decide +kernel : kd 237 = 11) tb_955 d_X11_measure_248 ?_
                  exact g_iret X hr hlk hw hD d_X11_measure_251
                · have hD := hD.2.2.2.2.1 ej
                  refine lv_tableIn (tgt := 252) X.1 X.2.1 d_X11_measure_193 (by rw [ej]; decide) (by rw [ej]; decide) (by rw [ej]; rfl) (by decide) ?_
                  refine lv_aload_n X.1 X.2.1 d_X11_measure_252 rfl (lv_at hl 2 rfl) ?_
                  refine gf_11_50 X hw (by decide +kernel : kd 237 = 11) tb_956 d_X11_measure_253 ?_
                  exact g_iret X hr hlk hw hD d_X11_measure_256
                · have hD := hD.2.2.2.2.2 ej
                  refine lv_tableIn (tgt := 257) X.1 X.2.1 d_X11_measure_193 (by rw [ej]; decide) (by rw [ej]; decide) (by rw [ej]; rfl) (by decide) ?_
                  refine lv_aload_n X.1 X.2.1 d_X11_measure_257 rfl (lv_at hl 2 rfl) ?_
                  refine gf_11_51 X hw (by decide +kernel : kd 237 = 11) tb_957 d_X11_measure_258 ?_
                  exact g_iret X hr hlk hw hD d_X11_measure_261
            · have hD := hD.2 q_157
              refine lv_iload X.1 X.2.1 d_X11_measure_160 (lv_at hl 7 rfl) ?_
              refine lv_bipush (v := 20) X.1 X.2.1 d_X11_measure_162 (by decide) ?_
              refine lv_icmp_ge (tgt := 180) X.1 X.2.1 d_X11_measure_164 (by decide) (fun q_164 => ?_) (fun q_164 => ?_)
              · have hD := hD.1 q_164
                refine lv_aload_n X.1 X.2.1 d_X11_measure_180 rfl (lv_at hl 2 rfl) ?_
                refine gf_11_44 X hw (by decide +kernel : kd 237 = 11) tb_950 d_X11_measure_181 ?_
                refine lv_iload X.1 X.2.1 d_X11_measure_184 (lv_at hl 7 rfl) ?_
                refine lv_bipush (v := 20) X.1 X.2.1 d_X11_measure_186 (by decide) ?_
                refine lv_isub X.1 X.2.1 d_X11_measure_188 ?_
                obtain ⟨q_189, hD⟩ := hD
                refine g_iald X hw ly_11_44.1 ly_11_44.2 q_189 d_X11_measure_189 ?_
                exact g_iret X hr hlk hw hD d_X11_measure_190
              · have hD := hD.2 q_164
                refine lv_aload_n X.1 X.2.1 d_X11_measure_167 rfl (lv_at hl 2 rfl) ?_
                refine gf_11_43 X hw (by decide +kernel : kd 237 = 11) tb_949 d_X11_measure_168 ?_
                refine lv_iload X.1 X.2.1 d_X11_measure_171 (lv_at hl 7 rfl) ?_
                refine lv_bipush (v := 10) X.1 X.2.1 d_X11_measure_173 (by decide) ?_
                refine lv_isub X.1 X.2.1 d_X11_measure_175 ?_
                obtain ⟨q_176, hD⟩ := hD
                refine g_iald X hw ly_11_43.1 ly_11_43.2 q_176 d_X11_measure_176 ?_
                refine lv_goto (tgt := 190) X.1 X.2.1 d_X11_measure_177 (by decide) ?_
                exact g_iret X hr hlk hw hD d_X11_measure_190
          · have hD := hD.2 q_126
            refine lv_aload_n X.1 X.2.1 d_X11_measure_129 rfl (lv_at hl 2 rfl) ?_
            refine lv_iload X.1 X.2.1 d_X11_measure_130 (lv_at hl 0 rfl) ?_
            refine gcV_i (rest := []) (As := [.int r_1]) (o := 237) X hw (c_X11_no l G r_1 σ_2 _  hD) (kd_lt (by decide +kernel : kd 237 = 11) (by decide)) (ce_11 G _ (by decide +kernel : kd 237 = 11)) rfl tb_1084 tb_1086 tv_35 tb_12 tb_1087 hd_X11_no ⟨rfl, rfl⟩ ⟨Nat.le_of_ble_eq_true rfl, Nat.le_of_ble_eq_true rfl⟩ rfl hl.1 rfl (Nat.le_of_ble_eq_true rfl) d_X11_measure_132 (fun r_4 σ_5 H locs hD hw => ?_)
            exact g_iret X hr hlk hw hD d_X11_measure_135
        · have hD := hD.2 q_103
          exact s_X11_measure_106 X hr hlk  Q   σ hw (lv_sub hl [1] rfl) hD
set_option maxRecDepth 20000 in
set_option maxHeartbeats 4000000 in
theorem s_X11_measure_71 {p : Program} {l : Launch} {e : Env} {s : State} {m : MethodId} {args : Array Value} {below : List Frame} {meth : Method} {c : Code} {G : GC} (X : CallFix p m c cm_X11_measure 8 s args lw_us "GameLoomModel") (hr : meth.sig.returnType = some .int) (hlk : meth.locks = false) (Q : Int32 → GSt → Prop) (x1 : Int32) (x2 : Int32) (x3 : Int32) (x4 : Int32) (x5 : Int32) (σ : GSt) {H : Heap} {locs : List Loc} {ls : Array Slot} (hw : Wo G s H locs σ) (hl : lv_has ls 8 [(0, .ref (G.2.1 237)), (1, .int x1), (2, .int x2), (3, .int x3), (4, .int x4), (5, .int x5)]) (hD : D_X11_measure_71 Q x1 x2 x3 x4 x5 σ) : W p l e rm_X11_measure s m args below meth c H locs 0 0 (QMI G Q below args s) (F0 m 71 ls []) := by
  unfold D_X11_measure_71 at hD
  refine lv_iconst (v := 1) X.1 X.2.1 d_X11_measure_71 (by decide) ?_
  refine lv_goto (tgt := 76) X.1 X.2.1 d_X11_measure_72 (by decide) ?_
  exact s_X11_measure_76 X hr hlk  Q  x1 x2 x3 x4 x5 1 σ hw (lv_sub hl [0, 1, 2, 3, 4, 5] rfl) hD
set_option maxRecDepth 20000 in
set_option maxHeartbeats 4000000 in
theorem s_X11_measure_0 {p : Program} {l : Launch} {e : Env} {s : State} {m : MethodId} {args : Array Value} {below : List Frame} {meth : Method} {c : Code} {G : GC} (X : CallFix p m c cm_X11_measure 8 s args lw_us "GameLoomModel") (hr : meth.sig.returnType = some .int) (hlk : meth.locks = false) (Q : Int32 → GSt → Prop) (x1 : Int32) (x2 : Int32) (x3 : Int32) (x4 : Int32) (x5 : Int32) (σ : GSt) {H : Heap} {locs : List Loc} {ls : Array Slot} (hw : Wo G s H locs σ) (hl : lv_has ls 8 [(0, .ref (G.2.1 237)), (1, .int x1), (2, .int x2), (3, .int x3), (4, .int x4), (5, .int x5)]) (hD : D_X11_measure_0 Q x1 x2 x3 x4 x5 σ) : W p l e rm_X11_measure s m args below meth c H locs 0 0 (QMI G Q below args s) (F0 m 0 ls []) := by
  unfold D_X11_measure_0 at hD
  refine lv_aload_n X.1 X.2.1 d_X11_measure_0 rfl (lv_at hl 0 rfl) ?_
  refine lv_iload_n X.1 X.2.1 d_X11_measure_1 rfl (lv_at hl 1 rfl) ?_
  refine gcV_i (rest := []) (As := [.int x1]) (o := 237) X hw (c_X11_isGame l G x1 σ _  hD) (kd_lt (by decide +kernel : kd 237 = 11) (by decide)) (ce_11 G _ (by decide +kernel : kd 237 = 11)) rfl tb_1144 tb_1146 tv_47 tb_12 tb_1147 hd_X11_isGame ⟨rfl, rfl⟩ ⟨Nat.le_of_ble_eq_true rfl, Nat.le_of_ble_eq_true rfl⟩ rfl hl.1 rfl (Nat.le_of_ble_eq_true rfl) d_X11_measure_2 (fun r_1 σ_2 H locs hD hw => ?_)
  refine lv_if_ne (tgt := 14) X.1 X.2.1 d_X11_measure_5 (by decide) (fun q_5 => ?_) (fun q_5 => ?_)
  · have hD := hD.1 q_5
    refine lv_iload X.1 X.2.1 d_X11_measure_14 (lv_at hl 5 rfl) ?_
    refine lv_i2l (v := (Int32.toInt64 x5)) X.1 X.2.1 d_X11_measure_16 rfl ?_
    refine lv_lconst (v := 0) X.1 X.2.1 d_X11_measure_17 (by decide) ?_
    refine lv_ldc2 (v := 6) X.1 X.2.1 X.2.2.2.1 (X.2.2.2.2 _ tb_1260) d_X11_measure_18 ?_
    refine gcS_i (rest := []) (As := [.long (Int32.toInt64 x5), .long 0, .long 6]) X hw (c_X11_isIn l G (Int32.toInt64 x5) 0 6 σ_2 _  hD) tb_1125 tb_1126 tb_12 tb_1127 hd_X11_isIn ⟨rfl, rfl⟩ ⟨Nat.le_of_ble_eq_true rfl, Nat.le_of_ble_eq_true rfl⟩ rfl hl.1 rfl (Nat.le_of_ble_eq_true rfl) d_X11_measure_21 (fun r_3 σ_4 H locs hD hw => ?_)
    refine lv_if_ne (tgt := 71) X.1 X.2.1 d_X11_measure_24 (by decide) (fun q_24 => ?_) (fun q_24 => ?_)
    · have hD := hD.1 q_24
      exact s_X11_measure_71 X hr hlk  Q  x1 x2 x3 x4 x5 σ_4 hw (lv_sub hl [0, 1, 2, 3, 4, 5] rfl) hD
    · have hD := hD.2 q_24
      refine lv_iload X.1 X.2.1 d_X11_measure_27 (lv_at hl 5 rfl) ?_
      refine lv_i2l (v := (Int32.toInt64 x5)) X.1 X.2.1 d_X11_measure_29 rfl ?_
      refine lv_ldc2 (v := 10) X.1 X.2.1 X.2.2.2.1 (X.2.2.2.2 _ tb_1307) d_X11_measure_30 ?_
      refine lv_bipush (v := 9) X.1 X.2.1 d_X11_measure_33 (by decide) ?_
      refine lv_aload_n X.1 X.2.1 d_X11_measure_35 rfl (lv_at hl 0 rfl) ?_
      refine gf_11_10 X hw (by decide +kernel : kd 237 = 11) tb_916 d_X11_measure_36 ?_
      refine lv_iload_n X.1 X.2.1 d_X11_measure_39 rfl (lv_at hl 1 rfl) ?_
      obtain ⟨q_40, hD⟩ := hD
      refine g_iald X hw ly_11_10.1 ly_11_10.2 q_40 d_X11_measure_40 ?_
      refine lv_iadd X.1 X.2.1 d_X11_measure_41 ?_
      refine lv_i2l (v := (Int32.toInt64 (9 + (σ_4 248 (Int32.toNatClampNeg x1))))) X.1 X.2.1 d_X11_measure_42 rfl ?_
      refine gcS_i (rest := []) (As := [.long (Int32.toInt64 x5), .long 10, .long (Int32.toInt64 (9 + (σ_4 248 (Int32.toNatClampNeg x1))))]) X hw (c_X11_isIn l G (Int32.toInt64 x5) 10 (Int32.toInt64 (9 + (σ_4 248 (Int32.toNatClampNeg x1)))) σ_4 _  hD) tb_1125 tb_1126 tb_12 tb_1127 hd_X11_isIn ⟨rfl, rfl⟩ ⟨Nat.le_of_ble_eq_true rfl, Nat.le_of_ble_eq_true rfl⟩ rfl hl.1 rfl (Nat.le_of_ble_eq_true rfl) d_X11_measure_43 (fun r_5 σ_6 H locs hD hw => ?_)
      refine lv_if_ne (tgt := 71) X.1 X.2.1 d_X11_measure_46 (by decide) (fun q_46 => ?_) (fun q_46 => ?_)
      · have hD := hD.1 q_46
        exact s_X11_measure_71 X hr hlk  Q  x1 x2 x3 x4 x5 σ_6 hw (lv_sub hl [0, 1, 2, 3, 4, 5] rfl) hD
      · have hD := hD.2 q_46
        refine lv_iload X.1 X.2.1 d_X11_measure_49 (lv_at hl 5 rfl) ?_
        refine lv_i2l (v := (Int32.toInt64 x5)) X.1 X.2.1 d_X11_measure_51 rfl ?_
        refine lv_ldc2 (v := 20) X.1 X.2.1 X.2.2.2.1 (X.2.2.2.2 _ tb_1308) d_X11_measure_52 ?_
        refine lv_bipush (v := 19) X.1 X.2.1 d_X11_measure_55 (by decide) ?_
        refine lv_aload_n X.1 X.2.1 d_X11_measure_57 rfl (lv_at hl 0 rfl) ?_
        refine gf_11_15 X hw (by decide +kernel : kd 237 = 11) tb_921 d_X11_measure_58 ?_
        refine lv_iload_n X.1 X.2.1 d_X11_measure_61 rfl (lv_at hl 1 rfl) ?_
        obtain ⟨q_62, hD⟩ := hD
        refine g_iald X hw ly_11_15.1 ly_11_15.2 q_62 d_X11_measure_62 ?_
        refine lv_iadd X.1 X.2.1 d_X11_measure_63 ?_
        refine lv_i2l (v := (Int32.toInt64 (19 + (σ_6 253 (Int32.toNatClampNeg x1))))) X.1 X.2.1 d_X11_measure_64 rfl ?_
        refine gcS_i (rest := []) (As := [.long (Int32.toInt64 x5), .long 20, .long (Int32.toInt64 (19 + (σ_6 253 (Int32.toNatClampNeg x1))))]) X hw (c_X11_isIn l G (Int32.toInt64 x5) 20 (Int32.toInt64 (19 + (σ_6 253 (Int32.toNatClampNeg x1)))) σ_6 _  hD) tb_1125 tb_1126 tb_12 tb_1127 hd_X11_isIn ⟨rfl, rfl⟩ ⟨Nat.le_of_ble_eq_true rfl, Nat.le_of_ble_eq_true rfl⟩ rfl hl.1 rfl (Nat.le_of_ble_eq_true rfl) d_X11_measure_65 (fun r_7 σ_8 H locs hD hw => ?_)
        refine lv_if_eq (tgt := 75) X.1 X.2.1 d_X11_measure_68 (by decide) (fun q_68 => ?_) (fun q_68 => ?_)
        · have hD := hD.1 q_68
          refine lv_iconst (v := 0) X.1 X.2.1 d_X11_measure_75 (by decide) ?_
          exact s_X11_measure_76 X hr hlk  Q  x1 x2 x3 x4 x5 0 σ_8 hw (lv_sub hl [0, 1, 2, 3, 4, 5] rfl) hD
        · have hD := hD.2 q_68
          exact s_X11_measure_71 X hr hlk  Q  x1 x2 x3 x4 x5 σ_8 hw (lv_sub hl [0, 1, 2, 3, 4, 5] rfl) hD
  · have hD := hD.2 q_5
    refine lv_aload_n X.1 X.2.1 d_X11_measure_8 rfl (lv_at hl 0 rfl) ?_
    refine lv_iconst (v := (-1)) X.1 X.2.1 d_X11_measure_9 (by decide) ?_
    refine gcV_i (rest := []) (As := [.int (-1)]) (o := 237) X hw (c_X11_no l G (-1) σ_2 _  hD) (kd_lt (by decide +kernel : kd 237 = 11) (by decide)) (ce_11 G _ (by decide +kernel : kd 237 = 11)) rfl tb_1084 tb_1086 tv_35 tb_12 tb_1087 hd_X11_no ⟨rfl, rfl⟩ ⟨Nat.le_of_ble_eq_true rfl, Nat.le_of_ble_eq_true rfl⟩ rfl hl.1 rfl (Nat.le_of_ble_eq_true rfl) d_X11_measure_10 (fun r_9 σ_10 H locs hD hw => ?_)
    exact g_iret X hr hlk hw hD d_X11_measure_13
theorem c_X11_measure (l : Launch) (G : GC) (x1 : Int32) (x2 : Int32) (x3 : Int32) (x4 : Int32) (x5 : Int32) (σ : GSt) (Q : Int32 → GSt → Prop)  (hD : D_X11_measure x1 x2 x3 x4 x5 σ Q) : MI l ym_X11_measure cm_X11_measure 8 .int rm_X11_measure G σ [.ref (G.2.1 237), .int x1, .int x2, .int x3, .int x4, .int x5] Q := by
  refine met_i (by decide) (Nat.le_of_ble_eq_true rfl) ?_
  intro p e s m args below meth c X hr hlk hw ls hl
  exact s_X11_measure_0 X hr hlk Q  x1 x2 x3 x4 x5 σ hw (lv_sub hl [0, 1, 2, 3, 4, 5] rfl) hD
theorem hd_X11_verdicts : ym_X11_verdicts.cls = "GameLoomModel" ∧ ym_X11_verdicts.cls ≠ "java/lang/invoke/MethodHandle" ∧ ym_X11_verdicts.cls ≠ "java/lang/invoke/VarHandle" ∧ (parseMethodDescriptor ym_X11_verdicts.desc).map (fun d => d.parameters.length) = some 2 := by decide +kernel
abbrev rm_X11_verdicts : Room := { frames := 11, cells := 0, slots := 0, locals := 280 }
theorem d_X11_verdicts_0 : decode cm_X11_verdicts 0 = .ok (.aload_n 0, 1) := by decide +kernel
theorem d_X11_verdicts_1 : decode cm_X11_verdicts 1 = .ok (.iload_n 1, 1) := by decide +kernel
theorem d_X11_verdicts_2 : decode cm_X11_verdicts 2 = .ok (.invokevirtual 204, 3) := by decide +kernel
theorem d_X11_verdicts_5 : decode cm_X11_verdicts 5 = .ok (.ifCond .ne 9, 3) := by decide +kernel
theorem d_X11_verdicts_8 : decode cm_X11_verdicts 8 = .ok (.aload_n 0, 1) := by decide +kernel
theorem d_X11_verdicts_9 : decode cm_X11_verdicts 9 = .ok (.iconst (-1), 1) := by decide +kernel
theorem d_X11_verdicts_10 : decode cm_X11_verdicts 10 = .ok (.invokevirtual 147, 3) := by decide +kernel
theorem d_X11_verdicts_13 : decode cm_X11_verdicts 13 = .ok (.ireturn, 1) := by decide +kernel
theorem d_X11_verdicts_14 : decode cm_X11_verdicts 14 = .ok (.aload_n 0, 1) := by decide +kernel
theorem d_X11_verdicts_15 : decode cm_X11_verdicts 15 = .ok (.iload_n 1, 1) := by decide +kernel
theorem d_X11_verdicts_16 : decode cm_X11_verdicts 16 = .ok (.bipush 12, 2) := by decide +kernel
theorem d_X11_verdicts_18 : decode cm_X11_verdicts 18 = .ok (.iload_n 2, 1) := by decide +kernel
theorem d_X11_verdicts_19 : decode cm_X11_verdicts 19 = .ok (.iconst 0, 1) := by decide +kernel
theorem d_X11_verdicts_20 : decode cm_X11_verdicts 20 = .ok (.iconst 0, 1) := by decide +kernel
theorem d_X11_verdicts_21 : decode cm_X11_verdicts 21 = .ok (.invokevirtual 325, 3) := by decide +kernel
theorem d_X11_verdicts_24 : decode cm_X11_verdicts 24 = .ok (.aload_n 0, 1) := by decide +kernel
theorem d_X11_verdicts_25 : decode cm_X11_verdicts 25 = .ok (.getfield 299, 3) := by decide +kernel
theorem d_X11_verdicts_28 : decode cm_X11_verdicts 28 = .ok (.aload_n 0, 1) := by decide +kernel
theorem d_X11_verdicts_29 : decode cm_X11_verdicts 29 = .ok (.getfield 302, 3) := by decide +kernel
theorem d_X11_verdicts_32 : decode cm_X11_verdicts 32 = .ok (.iadd, 1) := by decide +kernel
theorem d_X11_verdicts_33 : decode cm_X11_verdicts 33 = .ok (.istore_n 3, 1) := by decide +kernel
theorem d_X11_verdicts_34 : decode cm_X11_verdicts 34 = .ok (.iload_n 3, 1) := by decide +kernel
theorem d_X11_verdicts_35 : decode cm_X11_verdicts 35 = .ok (.ifCond .le 29, 3) := by decide +kernel
theorem d_X11_verdicts_38 : decode cm_X11_verdicts 38 = .ok (.iconst 4, 1) := by decide +kernel
theorem d_X11_verdicts_39 : decode cm_X11_verdicts 39 = .ok (.aload_n 0, 1) := by decide +kernel
theorem d_X11_verdicts_40 : decode cm_X11_verdicts 40 = .ok (.getfield 299, 3) := by decide +kernel
theorem d_X11_verdicts_43 : decode cm_X11_verdicts 43 = .ok (.imul, 1) := by decide +kernel
theorem d_X11_verdicts_44 : decode cm_X11_verdicts 44 = .ok (.iload_n 3, 1) := by decide +kernel
theorem d_X11_verdicts_45 : decode cm_X11_verdicts 45 = .ok (.if_icmp .lt 15, 3) := by decide +kernel
theorem d_X11_verdicts_48 : decode cm_X11_verdicts 48 = .ok (.iconst 4, 1) := by decide +kernel
theorem d_X11_verdicts_49 : decode cm_X11_verdicts 49 = .ok (.aload_n 0, 1) := by decide +kernel
theorem d_X11_verdicts_50 : decode cm_X11_verdicts 50 = .ok (.getfield 299, 3) := by decide +kernel
theorem d_X11_verdicts_53 : decode cm_X11_verdicts 53 = .ok (.imul, 1) := by decide +kernel
theorem d_X11_verdicts_54 : decode cm_X11_verdicts 54 = .ok (.iconst 3, 1) := by decide +kernel
theorem d_X11_verdicts_55 : decode cm_X11_verdicts 55 = .ok (.iload_n 3, 1) := by decide +kernel
theorem d_X11_verdicts_56 : decode cm_X11_verdicts 56 = .ok (.imul, 1) := by decide +kernel
theorem d_X11_verdicts_57 : decode cm_X11_verdicts 57 = .ok (.if_icmp .le 7, 3) := by decide +kernel
theorem d_X11_verdicts_60 : decode cm_X11_verdicts 60 = .ok (.iconst 1, 1) := by decide +kernel
theorem d_X11_verdicts_61 : decode cm_X11_verdicts 61 = .ok (.goto 4, 3) := by decide +kernel
theorem d_X11_verdicts_64 : decode cm_X11_verdicts 64 = .ok (.iconst 0, 1) := by decide +kernel
theorem d_X11_verdicts_65 : decode cm_X11_verdicts 65 = .ok (.istore 4, 2) := by decide +kernel
theorem d_X11_verdicts_67 : decode cm_X11_verdicts 67 = .ok (.iload 4, 2) := by decide +kernel
theorem d_X11_verdicts_69 : decode cm_X11_verdicts 69 = .ok (.aload_n 0, 1) := by decide +kernel
theorem d_X11_verdicts_70 : decode cm_X11_verdicts 70 = .ok (.getfield 311, 3) := by decide +kernel
theorem d_X11_verdicts_73 : decode cm_X11_verdicts 73 = .ok (.ifCond .le 7, 3) := by decide +kernel
theorem d_X11_verdicts_76 : decode cm_X11_verdicts 76 = .ok (.iconst 2, 1) := by decide +kernel
theorem d_X11_verdicts_77 : decode cm_X11_verdicts 77 = .ok (.goto 4, 3) := by decide +kernel
theorem d_X11_verdicts_80 : decode cm_X11_verdicts 80 = .ok (.iconst 0, 1) := by decide +kernel
theorem d_X11_verdicts_81 : decode cm_X11_verdicts 81 = .ok (.ior, 1) := by decide +kernel
theorem d_X11_verdicts_82 : decode cm_X11_verdicts 82 = .ok (.istore 4, 2) := by decide +kernel
theorem d_X11_verdicts_84 : decode cm_X11_verdicts 84 = .ok (.iconst 0, 1) := by decide +kernel
theorem d_X11_verdicts_85 : decode cm_X11_verdicts 85 = .ok (.istore 5, 2) := by decide +kernel
theorem d_X11_verdicts_87 : decode cm_X11_verdicts 87 = .ok (.iload 5, 2) := by decide +kernel
theorem d_X11_verdicts_89 : decode cm_X11_verdicts 89 = .ok (.aload_n 0, 1) := by decide +kernel
theorem d_X11_verdicts_90 : decode cm_X11_verdicts 90 = .ok (.getfield 40, 3) := by decide +kernel
theorem d_X11_verdicts_93 : decode cm_X11_verdicts 93 = .ok (.iload_n 1, 1) := by decide +kernel
theorem d_X11_verdicts_94 : decode cm_X11_verdicts 94 = .ok (.iaload, 1) := by decide +kernel
theorem d_X11_verdicts_95 : decode cm_X11_verdicts 95 = .ok (.if_icmp .ge 29, 3) := by decide +kernel
theorem d_X11_verdicts_98 : decode cm_X11_verdicts 98 = .ok (.iload 4, 2) := by decide +kernel
theorem d_X11_verdicts_100 : decode cm_X11_verdicts 100 = .ok (.aload_n 0, 1) := by decide +kernel
theorem d_X11_verdicts_101 : decode cm_X11_verdicts 101 = .ok (.getfield 123, 3) := by decide +kernel
theorem d_X11_verdicts_104 : decode cm_X11_verdicts 104 = .ok (.iload 5, 2) := by decide +kernel
theorem d_X11_verdicts_106 : decode cm_X11_verdicts 106 = .ok (.iaload, 1) := by decide +kernel
theorem d_X11_verdicts_107 : decode cm_X11_verdicts 107 = .ok (.ifCond .ne 7, 3) := by decide +kernel
theorem d_X11_verdicts_110 : decode cm_X11_verdicts 110 = .ok (.iconst 4, 1) := by decide +kernel
theorem d_X11_verdicts_111 : decode cm_X11_verdicts 111 = .ok (.goto 4, 3) := by decide +kernel
theorem d_X11_verdicts_114 : decode cm_X11_verdicts 114 = .ok (.iconst 0, 1) := by decide +kernel
theorem d_X11_verdicts_115 : decode cm_X11_verdicts 115 = .ok (.ior, 1) := by decide +kernel
theorem d_X11_verdicts_116 : decode cm_X11_verdicts 116 = .ok (.istore 4, 2) := by decide +kernel
theorem d_X11_verdicts_118 : decode cm_X11_verdicts 118 = .ok (.iinc 5 1, 3) := by decide +kernel
theorem d_X11_verdicts_121 : decode cm_X11_verdicts 121 = .ok (.goto (-34), 3) := by decide +kernel
theorem d_X11_verdicts_124 : decode cm_X11_verdicts 124 = .ok (.iload 4, 2) := by decide +kernel
theorem d_X11_verdicts_126 : decode cm_X11_verdicts 126 = .ok (.aload_n 0, 1) := by decide +kernel
theorem d_X11_verdicts_127 : decode cm_X11_verdicts 127 = .ok (.getfield 308, 3) := by decide +kernel
theorem d_X11_verdicts_130 : decode cm_X11_verdicts 130 = .ok (.bipush 48, 2) := by decide +kernel
theorem d_X11_verdicts_132 : decode cm_X11_verdicts 132 = .ok (.if_icmp .ge 8, 3) := by decide +kernel
theorem d_X11_verdicts_135 : decode cm_X11_verdicts 135 = .ok (.bipush 8, 2) := by decide +kernel
theorem d_X11_verdicts_137 : decode cm_X11_verdicts 137 = .ok (.goto 4, 3) := by decide +kernel
theorem d_X11_verdicts_140 : decode cm_X11_verdicts 140 = .ok (.iconst 0, 1) := by decide +kernel
theorem d_X11_verdicts_141 : decode cm_X11_verdicts 141 = .ok (.ior, 1) := by decide +kernel
theorem d_X11_verdicts_142 : decode cm_X11_verdicts 142 = .ok (.istore 4, 2) := by decide +kernel
theorem d_X11_verdicts_144 : decode cm_X11_verdicts 144 = .ok (.iconst 0, 1) := by decide +kernel
theorem d_X11_verdicts_145 : decode cm_X11_verdicts 145 = .ok (.istore 5, 2) := by decide +kernel
theorem d_X11_verdicts_147 : decode cm_X11_verdicts 147 = .ok (.iload 5, 2) := by decide +kernel
theorem d_X11_verdicts_149 : decode cm_X11_verdicts 149 = .ok (.aload_n 0, 1) := by decide +kernel
theorem d_X11_verdicts_150 : decode cm_X11_verdicts 150 = .ok (.getfield 55, 3) := by decide +kernel
theorem d_X11_verdicts_153 : decode cm_X11_verdicts 153 = .ok (.iload_n 1, 1) := by decide +kernel
theorem d_X11_verdicts_154 : decode cm_X11_verdicts 154 = .ok (.iaload, 1) := by decide +kernel
theorem d_X11_verdicts_155 : decode cm_X11_verdicts 155 = .ok (.if_icmp .ge 30, 3) := by decide +kernel
theorem d_X11_verdicts_158 : decode cm_X11_verdicts 158 = .ok (.iload 4, 2) := by decide +kernel
theorem d_X11_verdicts_160 : decode cm_X11_verdicts 160 = .ok (.aload_n 0, 1) := by decide +kernel
theorem d_X11_verdicts_161 : decode cm_X11_verdicts 161 = .ok (.getfield 126, 3) := by decide +kernel
theorem d_X11_verdicts_164 : decode cm_X11_verdicts 164 = .ok (.iload 5, 2) := by decide +kernel
theorem d_X11_verdicts_166 : decode cm_X11_verdicts 166 = .ok (.iaload, 1) := by decide +kernel
theorem d_X11_verdicts_167 : decode cm_X11_verdicts 167 = .ok (.ifCond .ne 8, 3) := by decide +kernel
theorem d_X11_verdicts_170 : decode cm_X11_verdicts 170 = .ok (.bipush 16, 2) := by decide +kernel
theorem d_X11_verdicts_172 : decode cm_X11_verdicts 172 = .ok (.goto 4, 3) := by decide +kernel
theorem d_X11_verdicts_175 : decode cm_X11_verdicts 175 = .ok (.iconst 0, 1) := by decide +kernel
theorem d_X11_verdicts_176 : decode cm_X11_verdicts 176 = .ok (.ior, 1) := by decide +kernel
theorem d_X11_verdicts_177 : decode cm_X11_verdicts 177 = .ok (.istore 4, 2) := by decide +kernel
theorem d_X11_verdicts_179 : decode cm_X11_verdicts 179 = .ok (.iinc 5 1, 3) := by decide +kernel
theorem d_X11_verdicts_182 : decode cm_X11_verdicts 182 = .ok (.goto (-35), 3) := by decide +kernel
theorem d_X11_verdicts_185 : decode cm_X11_verdicts 185 = .ok (.iload 4, 2) := by decide +kernel
theorem d_X11_verdicts_187 : decode cm_X11_verdicts 187 = .ok (.ireturn, 1) := by decide +kernel
def D_X11_verdicts_176 (K147 : Int32 → Int32 → Int32 → GSt → Prop) (Q : Int32 → GSt → Prop) (x1 : Int32) (x5 : Int32) (s0 : Int32) (s1 : Int32) (σ : GSt) : Prop :=
  ∀ x4_1 : Int32, x4_1 = (s0 ||| s1) → (∀ x5_2 : Int32, x5_2 = x5 + 1 → (K147 x1 x4_1 x5_2 σ))
def D_X11_verdicts_147 (K147 : Int32 → Int32 → Int32 → GSt → Prop) (Q : Int32 → GSt → Prop) (x1 : Int32) (x4 : Int32) (x5 : Int32) (σ : GSt) : Prop :=
  vp_in x1 9 ∧ (((σ 253 (Int32.toNatClampNeg x1)) ≤ x5 → Q x4 σ) ∧
  (¬ (σ 253 (Int32.toNatClampNeg x1)) ≤ x5 → vp_in x5 6 ∧ ((¬ (σ 275 (Int32.toNatClampNeg x5)) = 0 → D_X11_verdicts_176 K147 Q x1 x5 x4 0 σ) ∧
  ((σ 275 (Int32.toNatClampNeg x5)) = 0 → D_X11_verdicts_176 K147 Q x1 x5 x4 16 σ))))
def L_X11_verdicts_147 (Q : Int32 → GSt → Prop) : Nat → Int32 → Int32 → Int32 → GSt → Prop
  | 0 => fun _ _ _ _ => False
  | n + 1 => fun x1 x4 x5 σ => D_X11_verdicts_147 (L_X11_verdicts_147 Q n) Q x1 x4 x5 σ
def D_X11_verdicts_141 (Q : Int32 → GSt → Prop) (x1 : Int32) (s0 : Int32) (s1 : Int32) (σ : GSt) : Prop :=
  ∀ x4_1 : Int32, x4_1 = (s0 ||| s1) → (∃ n : Nat, L_X11_verdicts_147 Q n x1 x4_1 0 σ)
def D_X11_verdicts_115 (K87 : Int32 → Int32 → Int32 → GSt → Prop) (Q : Int32 → GSt → Prop) (x1 : Int32) (x5 : Int32) (s0 : Int32) (s1 : Int32) (σ : GSt) : Prop :=
  ∀ x4_1 : Int32, x4_1 = (s0 ||| s1) → (∀ x5_2 : Int32, x5_2 = x5 + 1 → (K87 x1 x4_1 x5_2 σ))
def D_X11_verdicts_87 (K87 : Int32 → Int32 → Int32 → GSt → Prop) (Q : Int32 → GSt → Prop) (x1 : Int32) (x4 : Int32) (x5 : Int32) (σ : GSt) : Prop :=
  vp_in x1 9 ∧ (((σ 248 (Int32.toNatClampNeg x1)) ≤ x5 → (48 ≤ (σ 237 49) → D_X11_verdicts_141 Q x1 x4 0 σ) ∧
  (¬ 48 ≤ (σ 237 49) → D_X11_verdicts_141 Q x1 x4 8 σ)) ∧
  (¬ (σ 248 (Int32.toNatClampNeg x1)) ≤ x5 → vp_in x5 6 ∧ ((¬ (σ 274 (Int32.toNatClampNeg x5)) = 0 → D_X11_verdicts_115 K87 Q x1 x5 x4 0 σ) ∧
  ((σ 274 (Int32.toNatClampNeg x5)) = 0 → D_X11_verdicts_115 K87 Q x1 x5 x4 4 σ))))
def L_X11_verdicts_87 (Q : Int32 → GSt → Prop) : Nat → Int32 → Int32 → Int32 → GSt → Prop
  | 0 => fun _ _ _ _ => False
  | n + 1 => fun x1 x4 x5 σ => D_X11_verdicts_87 (L_X11_verdicts_87 Q n) Q x1 x4 x5 σ
def D_X11_verdicts_81 (Q : Int32 → GSt → Prop) (x1 : Int32) (s0 : Int32) (s1 : Int32) (σ : GSt) : Prop :=
  ∀ x4_1 : Int32, x4_1 = (s0 ||| s1) → (∃ n : Nat, L_X11_verdicts_87 Q n x1 x4_1 0 σ)
def D_X11_verdicts_65 (Q : Int32 → GSt → Prop) (x1 : Int32) (s0 : Int32) (σ : GSt) : Prop :=
  ((σ 237 50) ≤ 0 → D_X11_verdicts_81 Q x1 s0 0 σ) ∧
  (¬ (σ 237 50) ≤ 0 → D_X11_verdicts_81 Q x1 s0 2 σ)
def D_X11_verdicts_64 (Q : Int32 → GSt → Prop) (x1 : Int32) (σ : GSt) : Prop :=
  D_X11_verdicts_65 Q x1 0 σ
def D_X11_verdicts_60 (Q : Int32 → GSt → Prop) (x1 : Int32) (σ : GSt) : Prop :=
  D_X11_verdicts_65 Q x1 1 σ
def D_X11_verdicts_0 (Q : Int32 → GSt → Prop) (x1 : Int32) (x2 : Int32) (σ : GSt) : Prop :=
  D_X11_isGame x1 σ (fun r_1 σ_2 => (¬ r_1 = 0 → D_X11_measures x1 12 x2 0 0 σ_2 (fun σ_3 => ∀ x3_4 : Int32, x3_4 = ((σ_3 237 46) + (σ_3 237 47)) → ((x3_4 ≤ 0 → D_X11_verdicts_64 Q x1 σ_3) ∧
  (¬ x3_4 ≤ 0 → ((4 * (σ_3 237 46)) < x3_4 → D_X11_verdicts_60 Q x1 σ_3) ∧
  (¬ (4 * (σ_3 237 46)) < x3_4 → ((4 * (σ_3 237 46)) ≤ (3 * x3_4) → D_X11_verdicts_64 Q x1 σ_3) ∧
  (¬ (4 * (σ_3 237 46)) ≤ (3 * x3_4) → D_X11_verdicts_60 Q x1 σ_3)))))) ∧
  (r_1 = 0 → D_X11_no (-1) σ_2 (fun r_5 σ_6 => Q r_5 σ_6)))
def D_X11_verdicts (x1 : Int32) (x2 : Int32) (σ : GSt) (Q : Int32 → GSt → Prop) : Prop := D_X11_verdicts_0 Q x1 x2 σ
set_option maxRecDepth 20000 in
set_option maxHeartbeats 4000000 in
theorem s_X11_verdicts_176 {p : Program} {l : Launch} {e : Env} {s : State} {m : MethodId} {args : Array Value} {below : List Frame} {meth : Method} {c : Code} {G : GC} (X : CallFix p m c cm_X11_verdicts 6 s args lw_us "GameLoomModel") (hr : meth.sig.returnType = some .int) (hlk : meth.locks = false) (K147 : Int32 → Int32 → Int32 → GSt → Prop) (Q : Int32 → GSt → Prop) (hK147 : ∀ (x1 : Int32) (x4 : Int32) (x5 : Int32) (σ : GSt) (H : Heap) (locs : List Loc) (ls : Array Slot), Wo G s H locs σ → lv_has ls 6 [(0, .ref (G.2.1 237)), (1, .int x1), (4, .int x4), (5, .int x5)] → K147 x1 x4 x5 σ → W p l e rm_X11_verdicts s m args below meth c H locs 0 0 (QMI G Q below args s) (F0 m 147 ls [])) (x1 : Int32) (x5 : Int32) (s0 : Int32) (s1 : Int32) (σ : GSt) {H : Heap} {locs : List Loc} {ls : Array Slot} (hw : Wo G s H locs σ) (hl : lv_has ls 6 [(0, .ref (G.2.1 237)), (1, .int x1), (5, .int x5)]) (hD : D_X11_verdicts_176 K147 Q x1 x5 s0 s1 σ) : W p l e rm_X11_verdicts s m args below meth c H locs 0 0 (QMI G Q below args s) (F0 m 176 ls [.int s1, .int s0]) := by
  unfold D_X11_verdicts_176 at hD
  refine lv_ior X.1 X.2.1 d_X11_verdicts_176 ?_
  refine lv_topi (fun x4_1 e_x4_1 => ?_)
  have hD := hD x4_1 e_x4_1
  refine lv_istore (lv' := [(4, .int x4_1), (0, .ref (G.2.1 237)), (1, .int x1), (5, .int x5)]) X.1 X.2.1 d_X11_verdicts_177 hl (by decide) rfl (fun ls hl => ?_)
  obtain ⟨x5_2, e_x5_2⟩ : ∃ y : Int32, y = x5 + 1 := ⟨_, rfl⟩
  have hD := hD x5_2 e_x5_2
  refine lv_iinc (v := x5_2) (lv' := [(5, .int x5_2), (4, .int x4_1), (0, .ref (G.2.1 237)), (1, .int x1)]) X.1 X.2.1 d_X11_verdicts_179 hl (k := 3) rfl (by rw [e_x5_2]; rfl) (by decide) rfl (fun ls hl => ?_)
  refine lv_goto (tgt := 147) X.1 X.2.1 d_X11_verdicts_182 (by decide) ?_
  exact hK147 x1 x4_1 x5_2 σ _ _ _  hw (lv_sub hl [2, 3, 1, 0] rfl) hD
set_option maxRecDepth 20000 in
set_option maxHeartbeats 4000000 in
theorem s_X11_verdicts_147 {p : Program} {l : Launch} {e : Env} {s : State} {m : MethodId} {args : Array Value} {below : List Frame} {meth : Method} {c : Code} {G : GC} (X : CallFix p m c cm_X11_verdicts 6 s args lw_us "GameLoomModel") (hr : meth.sig.returnType = some .int) (hlk : meth.locks = false) (K147 : Int32 → Int32 → Int32 → GSt → Prop) (Q : Int32 → GSt → Prop) (hK147 : ∀ (x1 : Int32) (x4 : Int32) (x5 : Int32) (σ : GSt) (H : Heap) (locs : List Loc) (ls : Array Slot), Wo G s H locs σ → lv_has ls 6 [(0, .ref (G.2.1 237)), (1, .int x1), (4, .int x4), (5, .int x5)] → K147 x1 x4 x5 σ → W p l e rm_X11_verdicts s m args below meth c H locs 0 0 (QMI G Q below args s) (F0 m 147 ls [])) (x1 : Int32) (x4 : Int32) (x5 : Int32) (σ : GSt) {H : Heap} {locs : List Loc} {ls : Array Slot} (hw : Wo G s H locs σ) (hl : lv_has ls 6 [(0, .ref (G.2.1 237)), (1, .int x1), (4, .int x4), (5, .int x5)]) (hD : D_X11_verdicts_147 K147 Q x1 x4 x5 σ) : W p l e rm_X11_verdicts s m args below meth c H locs 0 0 (QMI G Q below args s) (F0 m 147 ls []) := by
  unfold D_X11_verdicts_147 at hD
  refine lv_iload X.1 X.2.1 d_X11_verdicts_147 (lv_at hl 3 rfl) ?_
  refine lv_aload_n X.1 X.2.1 d_X11_verdicts_149 rfl (lv_at hl 0 rfl) ?_
  refine gf_11_15 X hw (by decide +kernel : kd 237 = 11) tb_921 d_X11_verdicts_150 ?_
  refine lv_iload_n X.1 X.2.1 d_X11_verdicts_153 rfl (lv_at hl 1 rfl) ?_
  obtain ⟨q_154, hD⟩ := hD
  refine g_iald X hw ly_11_15.1 ly_11_15.2 q_154 d_X11_verdicts_154 ?_
  refine lv_icmp_ge (tgt := 185) X.1 X.2.1 d_X11_verdicts_155 (by decide) (fun q_155 => ?_) (fun q_155 => ?_)
  · have hD := hD.1 q_155
    refine lv_iload X.1 X.2.1 d_X11_verdicts_185 (lv_at hl 2 rfl) ?_
    exact g_iret X hr hlk hw hD d_X11_verdicts_187
  · have hD := hD.2 q_155
    refine lv_iload X.1 X.2.1 d_X11_verdicts_158 (lv_at hl 2 rfl) ?_
    refine lv_aload_n X.1 X.2.1 d_X11_verdicts_160 rfl (lv_at hl 0 rfl) ?_
    refine gf_11_44 X hw (by decide +kernel : kd 237 = 11) tb_950 d_X11_verdicts_161 ?_
    refine lv_iload X.1 X.2.1 d_X11_verdicts_164 (lv_at hl 3 rfl) ?_
    obtain ⟨q_166, hD⟩ := hD
    refine g_iald X hw ly_11_44.1 ly_11_44.2 q_166 d_X11_verdicts_166 ?_
    refine lv_if_ne (tgt := 175) X.1 X.2.1 d_X11_verdicts_167 (by decide) (fun q_167 => ?_) (fun q_167 => ?_)
    · have hD := hD.1 q_167
      refine lv_iconst (v := 0) X.1 X.2.1 d_X11_verdicts_175 (by decide) ?_
      exact s_X11_verdicts_176 X hr hlk K147 Q hK147 x1 x5 x4 0 σ hw (lv_sub hl [0, 1, 3] rfl) hD
    · have hD := hD.2 q_167
      refine lv_bipush (v := 16) X.1 X.2.1 d_X11_verdicts_170 (by decide) ?_
      refine lv_goto (tgt := 176) X.1 X.2.1 d_X11_verdicts_172 (by decide) ?_
      exact s_X11_verdicts_176 X hr hlk K147 Q hK147 x1 x5 x4 16 σ hw (lv_sub hl [0, 1, 3] rfl) hD
set_option maxRecDepth 20000 in
set_option maxHeartbeats 4000000 in
theorem sl_X11_verdicts_147 {p : Program} {l : Launch} {e : Env} {s : State} {m : MethodId} {args : Array Value} {below : List Frame} {meth : Method} {c : Code} {G : GC} (X : CallFix p m c cm_X11_verdicts 6 s args lw_us "GameLoomModel") (hr : meth.sig.returnType = some .int) (hlk : meth.locks = false) (Q : Int32 → GSt → Prop) : ∀ (nn : Nat), ∀ (x1 : Int32) (x4 : Int32) (x5 : Int32) (σ : GSt) (H : Heap) (locs : List Loc) (ls : Array Slot), Wo G s H locs σ → lv_has ls 6 [(0, .ref (G.2.1 237)), (1, .int x1), (4, .int x4), (5, .int x5)] → L_X11_verdicts_147 Q nn x1 x4 x5 σ → W p l e rm_X11_verdicts s m args below meth c H locs 0 0 (QMI G Q below args s) (F0 m 147 ls []) := by
  intro nn
  induction nn with
  | zero => intro x1 x4 x5 σ H locs ls  hw hl hD; exact hD.elim
  | succ nn ih =>
    intro x1 x4 x5 σ H locs ls  hw hl hD
    exact s_X11_verdicts_147 X hr hlk (L_X11_verdicts_147 Q nn) Q ih x1 x4 x5 σ hw hl hD
set_option maxRecDepth 20000 in
set_option maxHeartbeats 4000000 in
theorem s_X11_verdicts_141 {p : Program} {l : Launch} {e : Env} {s : State} {m : MethodId} {args : Array Value} {below : List Frame} {meth : Method} {c : Code} {G : GC} (X : CallFix p m c cm_X11_verdicts 6 s args lw_us "GameLoomModel") (hr : meth.sig.returnType = some .int) (hlk : meth.locks = false) (Q : Int32 → GSt → Prop) (x1 : Int32) (s0 : Int32) (s1 : Int32) (σ : GSt) {H : Heap} {locs : List Loc} {ls : Array Slot} (hw : Wo G s H locs σ) (hl : lv_has ls 6 [(0, .ref (G.2.1 237)), (1, .int x1)]) (hD : D_X11_verdicts_141 Q x1 s0 s1 σ) : W p l e rm_X11_verdicts s m args below meth c H locs 0 0 (QMI G Q below args s) (F0 m 141 ls [.int s1, .int s0]) := by
  unfold D_X11_verdicts_141 at hD
  refine lv_ior X.1 X.2.1 d_X11_verdicts_141 ?_
  refine lv_topi (fun x4_1 e_x4_1 => ?_)
  have hD := hD x4_1 e_x4_1
  refine lv_istore (lv' := [(4, .int x4_1), (0, .ref (G.2.1 237)), (1, .int x1)]) X.1 X.2.1 d_X11_verdicts_142 hl (by decide) rfl (fun ls hl => ?_)
  refine lv_iconst (v := 0) X.1 X.2.1 d_X11_verdicts_144 (by decide) ?_
  refine lv_istore (lv' := [(5, .int 0), (4, .int x4_1), (0, .ref (G.2.1 237)), (1, .int x1)]) X.1 X.2.1 d_X11_verdicts_145 hl (by decide) rfl (fun ls hl => ?_)
  obtain ⟨n9, hD⟩ := hD
  exact sl_X11_verdicts_147 X hr hlk  Q  n9 x1 x4_1 0 σ _ _ _  hw (lv_sub hl [2, 3, 1, 0] rfl) hD
set_option maxRecDepth 20000 in
set_option maxHeartbeats 4000000 in
theorem s_X11_verdicts_115 {p : Program} {l : Launch} {e : Env} {s : State} {m : MethodId} {args : Array Value} {below : List Frame} {meth : Method} {c : Code} {G : GC} (X : CallFix p m c cm_X11_verdicts 6 s args lw_us "GameLoomModel") (hr : meth.sig.returnType = some .int) (hlk : meth.locks = false) (K87 : Int32 → Int32 → Int32 → GSt → Prop) (Q : Int32 → GSt → Prop) (hK87 : ∀ (x1 : Int32) (x4 : Int32) (x5 : Int32) (σ : GSt) (H : Heap) (locs : List Loc) (ls : Array Slot), Wo G s H locs σ → lv_has ls 6 [(0, .ref (G.2.1 237)), (1, .int x1), (4, .int x4), (5, .int x5)] → K87 x1 x4 x5 σ → W p l e rm_X11_verdicts s m args below meth c H locs 0 0 (QMI G Q below args s) (F0 m 87 ls [])) (x1 : Int32) (x5 : Int32) (s0 : Int32) (s1 : Int32) (σ : GSt) {H : Heap} {locs : List Loc} {ls : Array Slot} (hw : Wo G s H locs σ) (hl : lv_has ls 6 [(0, .ref (G.2.1 237)), (1, .int x1), (5, .int x5)]) (hD : D_X11_verdicts_115 K87 Q x1 x5 s0 s1 σ) : W p l e rm_X11_verdicts s m args below meth c H locs 0 0 (QMI G Q below args s) (F0 m 115 ls [.int s1, .int s0]) := by
  unfold D_X11_verdicts_115 at hD
  refine lv_ior X.1 X.2.1 d_X11_verdicts_115 ?_
  refine lv_topi (fun x4_1 e_x4_1 => ?_)
  have hD := hD x4_1 e_x4_1
  refine lv_istore (lv' := [(4, .int x4_1), (0, .ref (G.2.1 237)), (1, .int x1), (5, .int x5)]) X.1 X.2.1 d_X11_verdicts_116 hl (by decide) rfl (fun ls hl => ?_)
  obtain ⟨x5_2, e_x5_2⟩ : ∃ y : Int32, y = x5 + 1 := ⟨_, rfl⟩
  have hD := hD x5_2 e_x5_2
  refine lv_iinc (v := x5_2) (lv' := [(5, .int x5_2), (4, .int x4_1), (0, .ref (G.2.1 237)), (1, .int x1)]) X.1 X.2.1 d_X11_verdicts_118 hl (k := 3) rfl (by rw [e_x5_2]; rfl) (by decide) rfl (fun ls hl => ?_)
  refine lv_goto (tgt := 87) X.1 X.2.1 d_X11_verdicts_121 (by decide) ?_
  exact hK87 x1 x4_1 x5_2 σ _ _ _  hw (lv_sub hl [2, 3, 1, 0] rfl) hD
set_option maxRecDepth 20000 in
set_option maxHeartbeats 4000000 in
theorem s_X11_verdicts_87 {p : Program} {l : Launch} {e : Env} {s : State} {m : MethodId} {args : Array Value} {below : List Frame} {meth : Method} {c : Code} {G : GC} (X : CallFix p m c cm_X11_verdicts 6 s args lw_us "GameLoomModel") (hr : meth.sig.returnType = some .int) (hlk : meth.locks = false) (K87 : Int32 → Int32 → Int32 → GSt → Prop) (Q : Int32 → GSt → Prop) (hK87 : ∀ (x1 : Int32) (x4 : Int32) (x5 : Int32) (σ : GSt) (H : Heap) (locs : List Loc) (ls : Array Slot), Wo G s H locs σ → lv_has ls 6 [(0, .ref (G.2.1 237)), (1, .int x1), (4, .int x4), (5, .int x5)] → K87 x1 x4 x5 σ → W p l e rm_X11_verdicts s m args below meth c H locs 0 0 (QMI G Q below args s) (F0 m 87 ls [])) (x1 : Int32) (x4 : Int32) (x5 : Int32) (σ : GSt) {H : Heap} {locs : List Loc} {ls : Array Slot} (hw : Wo G s H locs σ) (hl : lv_has ls 6 [(0, .ref (G.2.1 237)), (1, .int x1), (4, .int x4), (5, .int x5)]) (hD : D_X11_verdicts_87 K87 Q x1 x4 x5 σ) : W p l e rm_X11_verdicts s m args below meth c H locs 0 0 (QMI G Q below args s) (F0 m 87 ls []) := by
  unfold D_X11_verdicts_87 at hD
  refine lv_iload X.1 X.2.1 d_X11_verdicts_87 (lv_at hl 3 rfl) ?_
  refine lv_aload_n X.1 X.2.1 d_X11_verdicts_89 rfl (lv_at hl 0 rfl) ?_
  refine gf_11_10 X hw (by decide +kernel : kd 237 = 11) tb_916 d_X11_verdicts_90 ?_
  refine lv_iload_n X.1 X.2.1 d_X11_verdicts_93 rfl (lv_at hl 1 rfl) ?_
  obtain ⟨q_94, hD⟩ := hD
  refine g_iald X hw ly_11_10.1 ly_11_10.2 q_94 d_X11_verdicts_94 ?_
  refine lv_icmp_ge (tgt := 124) X.1 X.2.1 d_X11_verdicts_95 (by decide) (fun q_95 => ?_) (fun q_95 => ?_)
  · have hD := hD.1 q_95
    refine lv_iload X.1 X.2.1 d_X11_verdicts_124 (lv_at hl 2 rfl) ?_
    refine lv_aload_n X.1 X.2.1 d_X11_verdicts_126 rfl (lv_at hl 0 rfl) ?_
    refine gf_11_49 X hw (by decide +kernel : kd 237 = 11) tb_955 d_X11_verdicts_127 ?_
    refine lv_bipush (v := 48) X.1 X.2.1 d_X11_verdicts_130 (by decide) ?_
    refine lv_icmp_ge (tgt := 140) X.1 X.2.1 d_X11_verdicts_132 (by decide) (fun q_132 => ?_) (fun q_132 => ?_)
    · have hD := hD.1 q_132
      refine lv_iconst (v := 0) X.1 X.2.1 d_X11_verdicts_140 (by decide) ?_
      exact s_X11_verdicts_141 X hr hlk  Q  x1 x4 0 σ hw (lv_sub hl [0, 1] rfl) hD
    · have hD := hD.2 q_132
      refine lv_bipush (v := 8) X.1 X.2.1 d_X11_verdicts_135 (by decide) ?_
      refine lv_goto (tgt := 141) X.1 X.2.1 d_X11_verdicts_137 (by decide) ?_
      exact s_X11_verdicts_141 X hr hlk  Q  x1 x4 8 σ hw (lv_sub hl [0, 1] rfl) hD
  · have hD := hD.2 q_95
    refine lv_iload X.1 X.2.1 d_X11_verdicts_98 (lv_at hl 2 rfl) ?_
    refine lv_aload_n X.1 X.2.1 d_X11_verdicts_100 rfl (lv_at hl 0 rfl) ?_
    refine gf_11_43 X hw (by decide +kernel : kd 237 = 11) tb_949 d_X11_verdicts_101 ?_
    refine lv_iload X.1 X.2.1 d_X11_verdicts_104 (lv_at hl 3 rfl) ?_
    obtain ⟨q_106, hD⟩ := hD
    refine g_iald X hw ly_11_43.1 ly_11_43.2 q_106 d_X11_verdicts_106 ?_
    refine lv_if_ne (tgt := 114) X.1 X.2.1 d_X11_verdicts_107 (by decide) (fun q_107 => ?_) (fun q_107 => ?_)
    · have hD := hD.1 q_107
      refine lv_iconst (v := 0) X.1 X.2.1 d_X11_verdicts_114 (by decide) ?_
      exact s_X11_verdicts_115 X hr hlk K87 Q hK87 x1 x5 x4 0 σ hw (lv_sub hl [0, 1, 3] rfl) hD
    · have hD := hD.2 q_107
      refine lv_iconst (v := 4) X.1 X.2.1 d_X11_verdicts_110 (by decide) ?_
      refine lv_goto (tgt := 115) X.1 X.2.1 d_X11_verdicts_111 (by decide) ?_
      exact s_X11_verdicts_115 X hr hlk K87 Q hK87 x1 x5 x4 4 σ hw (lv_sub hl [0, 1, 3] rfl) hD
set_option maxRecDepth 20000 in
set_option maxHeartbeats 4000000 in
theorem sl_X11_verdicts_87 {p : Program} {l : Launch} {e : Env} {s : State} {m : MethodId} {args : Array Value} {below : List Frame} {meth : Method} {c : Code} {G : GC} (X : CallFix p m c cm_X11_verdicts 6 s args lw_us "GameLoomModel") (hr : meth.sig.returnType = some .int) (hlk : meth.locks = false) (Q : Int32 → GSt → Prop) : ∀ (nn : Nat), ∀ (x1 : Int32) (x4 : Int32) (x5 : Int32) (σ : GSt) (H : Heap) (locs : List Loc) (ls : Array Slot), Wo G s H locs σ → lv_has ls 6 [(0, .ref (G.2.1 237)), (1, .int x1), (4, .int x4), (5, .int x5)] → L_X11_verdicts_87 Q nn x1 x4 x5 σ → W p l e rm_X11_verdicts s m args below meth c H locs 0 0 (QMI G Q below args s) (F0 m 87 ls []) := by
  intro nn
  induction nn with
  | zero => intro x1 x4 x5 σ H locs ls  hw hl hD; exact hD.elim
  | succ nn ih =>
    intro x1 x4 x5 σ H locs ls  hw hl hD
    exact s_X11_verdicts_87 X hr hlk (L_X11_verdicts_87 Q nn) Q ih x1 x4 x5 σ hw hl hD
set_option maxRecDepth 20000 in
set_option maxHeartbeats 4000000 in
theorem s_X11_verdicts_81 {p : Program} {l : Launch} {e : Env} {s : State} {m : MethodId} {args : Array Value} {below : List Frame} {meth : Method} {c : Code} {G : GC} (X : CallFix p m c cm_X11_verdicts 6 s args lw_us "GameLoomModel") (hr : meth.sig.returnType = some .int) (hlk : meth.locks = false) (Q : Int32 → GSt → Prop) (x1 : Int32) (s0 : Int32) (s1 : Int32) (σ : GSt) {H : Heap} {locs : List Loc} {ls : Array Slot} (hw : Wo G s H locs σ) (hl : lv_has ls 6 [(0, .ref (G.2.1 237)), (1, .int x1)]) (hD : D_X11_verdicts_81 Q x1 s0 s1 σ) : W p l e rm_X11_verdicts s m args below meth c H locs 0 0 (QMI G Q below args s) (F0 m 81 ls [.int s1, .int s0]) := by
  unfold D_X11_verdicts_81 at hD
  refine lv_ior X.1 X.2.1 d_X11_verdicts_81 ?_
  refine lv_topi (fun x4_1 e_x4_1 => ?_)
  have hD := hD x4_1 e_x4_1
  refine lv_istore (lv' := [(4, .int x4_1), (0, .ref (G.2.1 237)), (1, .int x1)]) X.1 X.2.1 d_X11_verdicts_82 hl (by decide) rfl (fun ls hl => ?_)
  refine lv_iconst (v := 0) X.1 X.2.1 d_X11_verdicts_84 (by decide) ?_
  refine lv_istore (lv' := [(5, .int 0), (4, .int x4_1), (0, .ref (G.2.1 237)), (1, .int x1)]) X.1 X.2.1 d_X11_verdicts_85 hl (by decide) rfl (fun ls hl => ?_)
  obtain ⟨n9, hD⟩ := hD
  exact sl_X11_verdicts_87 X hr hlk  Q  n9 x1 x4_1 0 σ _ _ _  hw (lv_sub hl [2, 3, 1, 0] rfl) hD
set_option maxRecDepth 20000 in
set_option maxHeartbeats 4000000 in
theorem s_X11_verdicts_65 {p : Program} {l : Launch} {e : Env} {s : State} {m : MethodId} {args : Array Value} {below : List Frame} {meth : Method} {c : Code} {G : GC} (X : CallFix p m c cm_X11_verdicts 6 s args lw_us "GameLoomModel") (hr : meth.sig.returnType = some .int) (hlk : meth.locks = false) (Q : Int32 → GSt → Prop) (x1 : Int32) (s0 : Int32) (σ : GSt) {H : Heap} {locs : List Loc} {ls : Array Slot} (hw : Wo G s H locs σ) (hl : lv_has ls 6 [(0, .ref (G.2.1 237)), (1, .int x1)]) (hD : D_X11_verdicts_65 Q x1 s0 σ) : W p l e rm_X11_verdicts s m args below meth c H locs 0 0 (QMI G Q below args s) (F0 m 65 ls [.int s0]) := by
  unfold D_X11_verdicts_65 at hD
  refine lv_istore (lv' := [(4, .int s0), (0, .ref (G.2.1 237)), (1, .int x1)]) X.1 X.2.1 d_X11_verdicts_65 hl (by decide) rfl (fun ls hl => ?_)
  refine lv_iload X.1 X.2.1 d_X11_verdicts_67 (lv_at hl 0 rfl) ?_
  refine lv_aload_n X.1 X.2.1 d_X11_verdicts_69 rfl (lv_at hl 1 rfl) ?_
  refine gf_11_50 X hw (by decide +kernel : kd 237 = 11) tb_956 d_X11_verdicts_70 ?_
  refine lv_if_le (tgt := 80) X.1 X.2.1 d_X11_verdicts_73 (by decide) (fun q_73 => ?_) (fun q_73 => ?_)
  · have hD := hD.1 q_73
    refine lv_iconst (v := 0) X.1 X.2.1 d_X11_verdicts_80 (by decide) ?_
    exact s_X11_verdicts_81 X hr hlk  Q  x1 s0 0 σ hw (lv_sub hl [1, 2] rfl) hD
  · have hD := hD.2 q_73
    refine lv_iconst (v := 2) X.1 X.2.1 d_X11_verdicts_76 (by decide) ?_
    refine lv_goto (tgt := 81) X.1 X.2.1 d_X11_verdicts_77 (by decide) ?_
    exact s_X11_verdicts_81 X hr hlk  Q  x1 s0 2 σ hw (lv_sub hl [1, 2] rfl) hD
set_option maxRecDepth 20000 in
set_option maxHeartbeats 4000000 in
theorem s_X11_verdicts_64 {p : Program} {l : Launch} {e : Env} {s : State} {m : MethodId} {args : Array Value} {below : List Frame} {meth : Method} {c : Code} {G : GC} (X : CallFix p m c cm_X11_verdicts 6 s args lw_us "GameLoomModel") (hr : meth.sig.returnType = some .int) (hlk : meth.locks = false) (Q : Int32 → GSt → Prop) (x1 : Int32) (σ : GSt) {H : Heap} {locs : List Loc} {ls : Array Slot} (hw : Wo G s H locs σ) (hl : lv_has ls 6 [(0, .ref (G.2.1 237)), (1, .int x1)]) (hD : D_X11_verdicts_64 Q x1 σ) : W p l e rm_X11_verdicts s m args below meth c H locs 0 0 (QMI G Q below args s) (F0 m 64 ls []) := by
  unfold D_X11_verdicts_64 at hD
  refine lv_iconst (v := 0) X.1 X.2.1 d_X11_verdicts_64 (by decide) ?_
  exact s_X11_verdicts_65 X hr hlk  Q  x1 0 σ hw (lv_sub hl [0, 1] rfl) hD
set_option maxRecDepth 20000 in
set_option maxHeartbeats 4000000 in
theorem s_X11_verdicts_60 {p : Program} {l : Launch} {e : Env} {s : State} {m : MethodId} {args : Array Value} {below : List Frame} {meth : Method} {c : Code} {G : GC} (X : CallFix p m c cm_X11_verdicts 6 s args lw_us "GameLoomModel") (hr : meth.sig.returnType = some .int) (hlk : meth.locks = false) (Q : Int32 → GSt → Prop) (x1 : Int32) (σ : GSt) {H : Heap} {locs : List Loc} {ls : Array Slot} (hw : Wo G s H locs σ) (hl : lv_has ls 6 [(0, .ref (G.2.1 237)), (1, .int x1)]) (hD : D_X11_verdicts_60 Q x1 σ) : W p l e rm_X11_verdicts s m args below meth c H locs 0 0 (QMI G Q below args s) (F0 m 60 ls []) := by
  unfold D_X11_verdicts_60 at hD
  refine lv_iconst (v := 1) X.1 X.2.1 d_X11_verdicts_60 (by decide) ?_
  refine lv_goto (tgt := 65) X.1 X.2.1 d_X11_verdicts_61 (by decide) ?_
  exact s_X11_verdicts_65 X hr hlk  Q  x1 1 σ hw (lv_sub hl [0, 1] rfl) hD
set_option maxRecDepth 20000 in
set_option maxHeartbeats 4000000 in
theorem s_X11_verdicts_0 {p : Program} {l : Launch} {e : Env} {s : State} {m : MethodId} {args : Array Value} {below : List Frame} {meth : Method} {c : Code} {G : GC} (X : CallFix p m c cm_X11_verdicts 6 s args lw_us "GameLoomModel") (hr : meth.sig.returnType = some .int) (hlk : meth.locks = false) (Q : Int32 → GSt → Prop) (x1 : Int32) (x2 : Int32) (σ : GSt) {H : Heap} {locs : List Loc} {ls : Array Slot} (hw : Wo G s H locs σ) (hl : lv_has ls 6 [(0, .ref (G.2.1 237)), (1, .int x1), (2, .int x2)]) (hD : D_X11_verdicts_0 Q x1 x2 σ) : W p l e rm_X11_verdicts s m args below meth c H locs 0 0 (QMI G Q below args s) (F0 m 0 ls []) := by
  unfold D_X11_verdicts_0 at hD
  refine lv_aload_n X.1 X.2.1 d_X11_verdicts_0 rfl (lv_at hl 0 rfl) ?_
  refine lv_iload_n X.1 X.2.1 d_X11_verdicts_1 rfl (lv_at hl 1 rfl) ?_
  refine gcV_i (rest := []) (As := [.int x1]) (o := 237) X hw (c_X11_isGame l G x1 σ _  hD) (kd_lt (by decide +kernel : kd 237 = 11) (by decide)) (ce_11 G _ (by decide +kernel : kd 237 = 11)) rfl tb_1144 tb_1146 tv_47 tb_12 tb_1147 hd_X11_isGame ⟨rfl, rfl⟩ ⟨Nat.le_of_ble_eq_true rfl, Nat.le_of_ble_eq_true rfl⟩ rfl hl.1 rfl (Nat.le_of_ble_eq_true rfl) d_X11_verdicts_2 (fun r_1 σ_2 H locs hD hw => ?_)
  refine lv_if_ne (tgt := 14) X.1 X.2.1 d_X11_verdicts_5 (by decide) (fun q_5 => ?_) (fun q_5 => ?_)
  · have hD := hD.1 q_5
    refine lv_aload_n X.1 X.2.1 d_X11_verdicts_14 rfl (lv_at hl 0 rfl) ?_
    refine lv_iload_n X.1 X.2.1 d_X11_verdicts_15 rfl (lv_at hl 1 rfl) ?_
    refine lv_bipush (v := 12) X.1 X.2.1 d_X11_verdicts_16 (by decide) ?_
    refine lv_iload_n X.1 X.2.1 d_X11_verdicts_18 rfl (lv_at hl 2 rfl) ?_
    refine lv_iconst (v := 0) X.1 X.2.1 d_X11_verdicts_19 (by decide) ?_
    refine lv_iconst (v := 0) X.1 X.2.1 d_X11_verdicts_20 (by decide) ?_
    refine gcV_v (rest := []) (As := [.int x1, .int 12, .int x2, .int 0, .int 0]) (o := 237) X hw (c_X11_measures l G x1 12 x2 0 0 σ_2 _  hD) (kd_lt (by decide +kernel : kd 237 = 11) (by decide)) (ce_11 G _ (by decide +kernel : kd 237 = 11)) rfl tb_1290 tb_1292 tv_72 tb_12 tb_1293 hd_X11_measures ⟨rfl, rfl⟩ ⟨Nat.le_of_ble_eq_true rfl, Nat.le_of_ble_eq_true rfl⟩ rfl hl.1 rfl (Nat.le_of_ble_eq_true rfl) d_X11_verdicts_21 (fun σ_3 H locs hD hw => ?_)
    refine lv_aload_n X.1 X.2.1 d_X11_verdicts_24 rfl (lv_at hl 0 rfl) ?_
    refine gf_11_46 X hw (by decide +kernel : kd 237 = 11) tb_952 d_X11_verdicts_25 ?_
    refine lv_aload_n X.1 X.2.1 d_X11_verdicts_28 rfl (lv_at hl 0 rfl) ?_
    refine gf_11_47 X hw (by decide +kernel : kd 237 = 11) tb_953 d_X11_verdicts_29 ?_
    refine lv_iadd X.1 X.2.1 d_X11_verdicts_32 ?_
    refine lv_topi (fun x3_4 e_x3_4 => ?_)
    have hD := hD x3_4 e_x3_4
    refine lv_istore_n (lv' := [(3, .int x3_4), (0, .ref (G.2.1 237)), (1, .int x1), (2, .int x2)]) X.1 X.2.1 d_X11_verdicts_33 rfl hl (by decide) rfl (fun ls hl => ?_)
    refine lv_iload_n X.1 X.2.1 d_X11_verdicts_34 rfl (lv_at hl 0 rfl) ?_
    refine lv_if_le (tgt := 64) X.1 X.2.1 d_X11_verdicts_35 (by decide) (fun q_35 => ?_) (fun q_35 => ?_)
    · have hD := hD.1 q_35
      exact s_X11_verdicts_64 X hr hlk  Q  x1 σ_3 hw (lv_sub hl [1, 2] rfl) hD
    · have hD := hD.2 q_35
      refine lv_iconst (v := 4) X.1 X.2.1 d_X11_verdicts_38 (by decide) ?_
      refine lv_aload_n X.1 X.2.1 d_X11_verdicts_39 rfl (lv_at hl 1 rfl) ?_
      refine gf_11_46 X hw (by decide +kernel : kd 237 = 11) tb_952 d_X11_verdicts_40 ?_
      refine lv_imul X.1 X.2.1 d_X11_verdicts_43 ?_
      refine lv_iload_n X.1 X.2.1 d_X11_verdicts_44 rfl (lv_at hl 0 rfl) ?_
      refine lv_icmp_lt (tgt := 60) X.1 X.2.1 d_X11_verdicts_45 (by decide) (fun q_45 => ?_) (fun q_45 => ?_)
      · have hD := hD.1 q_45
        exact s_X11_verdicts_60 X hr hlk  Q  x1 σ_3 hw (lv_sub hl [1, 2] rfl) hD
      · have hD := hD.2 q_45
        refine lv_iconst (v := 4) X.1 X.2.1 d_X11_verdicts_48 (by decide) ?_
        refine lv_aload_n X.1 X.2.1 d_X11_verdicts_49 rfl (lv_at hl 1 rfl) ?_
        refine gf_11_46 X hw (by decide +kernel : kd 237 = 11) tb_952 d_X11_verdicts_50 ?_
        refine lv_imul X.1 X.2.1 d_X11_verdicts_53 ?_
        refine lv_iconst (v := 3) X.1 X.2.1 d_X11_verdicts_54 (by decide) ?_
        refine lv_iload_n X.1 X.2.1 d_X11_verdicts_55 rfl (lv_at hl 0 rfl) ?_
        refine lv_imul X.1 X.2.1 d_X11_verdicts_56 ?_
        refine lv_icmp_le (tgt := 64) X.1 X.2.1 d_X11_verdicts_57 (by decide) (fun q_57 => ?_) (fun q_57 => ?_)
        · have hD := hD.1 q_57
          exact s_X11_verdicts_64 X hr hlk  Q  x1 σ_3 hw (lv_sub hl [1, 2] rfl) hD
        · have hD := hD.2 q_57
          exact s_X11_verdicts_60 X hr hlk  Q  x1 σ_3 hw (lv_sub hl [1, 2] rfl) hD
  · have hD := hD.2 q_5
    refine lv_aload_n X.1 X.2.1 d_X11_verdicts_8 rfl (lv_at hl 0 rfl) ?_
    refine lv_iconst (v := (-1)) X.1 X.2.1 d_X11_verdicts_9 (by decide) ?_
    refine gcV_i (rest := []) (As := [.int (-1)]) (o := 237) X hw (c_X11_no l G (-1) σ_2 _  hD) (kd_lt (by decide +kernel : kd 237 = 11) (by decide)) (ce_11 G _ (by decide +kernel : kd 237 = 11)) rfl tb_1084 tb_1086 tv_35 tb_12 tb_1087 hd_X11_no ⟨rfl, rfl⟩ ⟨Nat.le_of_ble_eq_true rfl, Nat.le_of_ble_eq_true rfl⟩ rfl hl.1 rfl (Nat.le_of_ble_eq_true rfl) d_X11_verdicts_10 (fun r_5 σ_6 H locs hD hw => ?_)
    exact g_iret X hr hlk hw hD d_X11_verdicts_13
theorem c_X11_verdicts (l : Launch) (G : GC) (x1 : Int32) (x2 : Int32) (σ : GSt) (Q : Int32 → GSt → Prop)  (hD : D_X11_verdicts x1 x2 σ Q) : MI l ym_X11_verdicts cm_X11_verdicts 6 .int rm_X11_verdicts G σ [.ref (G.2.1 237), .int x1, .int x2] Q := by
  refine met_i (by decide) (Nat.le_of_ble_eq_true rfl) ?_
  intro p e s m args below meth c X hr hlk hw ls hl
  exact s_X11_verdicts_0 X hr hlk Q  x1 x2 σ hw (lv_sub hl [0, 1, 2] rfl) hD
theorem hd_X11_away : ym_X11_away.cls ≠ "java/lang/invoke/MethodHandle" ∧ ym_X11_away.cls ≠ "java/lang/invoke/VarHandle" ∧ (parseMethodDescriptor ym_X11_away.desc).map (fun d => d.parameters.length) = some 1 := by decide +kernel
abbrev rm_X11_away : Room := { frames := 0, cells := 0, slots := 0, locals := 0 }
theorem d_X11_away_0 : decode cm_X11_away 0 = .ok (.iload_n 0, 1) := by decide +kernel
theorem d_X11_away_1 : decode cm_X11_away 1 = .ok (.ifCond .ge 8, 3) := by decide +kernel
theorem d_X11_away_4 : decode cm_X11_away 4 = .ok (.iload_n 0, 1) := by decide +kernel
theorem d_X11_away_5 : decode cm_X11_away 5 = .ok (.ineg, 1) := by decide +kernel
theorem d_X11_away_6 : decode cm_X11_away 6 = .ok (.goto 4, 3) := by decide +kernel
theorem d_X11_away_9 : decode cm_X11_away 9 = .ok (.iload_n 0, 1) := by decide +kernel
theorem d_X11_away_10 : decode cm_X11_away 10 = .ok (.ireturn, 1) := by decide +kernel
def D_X11_away_0 (Q : Int32 → GSt → Prop) (x0 : Int32) (σ : GSt) : Prop :=
  (0 ≤ x0 → Q x0 σ) ∧
  (¬ 0 ≤ x0 → Q (-x0) σ)
def D_X11_away (x0 : Int32) (σ : GSt) (Q : Int32 → GSt → Prop) : Prop := D_X11_away_0 Q x0 σ
set_option maxRecDepth 20000 in
set_option maxHeartbeats 4000000 in
theorem s_X11_away_0 {p : Program} {l : Launch} {e : Env} {s : State} {m : MethodId} {args : Array Value} {below : List Frame} {meth : Method} {c : Code} {G : GC} (X : CallFix p m c cm_X11_away 1 s args lw_us "GameLoomModel") (hr : meth.sig.returnType = some .int) (hlk : meth.locks = false) (Q : Int32 → GSt → Prop) (x0 : Int32) (σ : GSt) {H : Heap} {locs : List Loc} {ls : Array Slot} (hw : Wo G s H locs σ) (hl : lv_has ls 1 [(0, .int x0)]) (hD : D_X11_away_0 Q x0 σ) : W p l e rm_X11_away s m args below meth c H locs 0 0 (QMI G Q below args s) (F0 m 0 ls []) := by
  unfold D_X11_away_0 at hD
  refine lv_iload_n X.1 X.2.1 d_X11_away_0 rfl (lv_at hl 0 rfl) ?_
  refine lv_if_ge (tgt := 9) X.1 X.2.1 d_X11_away_1 (by decide) (fun q_1 => ?_) (fun q_1 => ?_)
  · have hD := hD.1 q_1
    refine lv_iload_n X.1 X.2.1 d_X11_away_9 rfl (lv_at hl 0 rfl) ?_
    exact g_iret X hr hlk hw hD d_X11_away_10
  · have hD := hD.2 q_1
    refine lv_iload_n X.1 X.2.1 d_X11_away_4 rfl (lv_at hl 0 rfl) ?_
    refine lv_ineg X.1 X.2.1 d_X11_away_5 ?_
    refine lv_goto (tgt := 10) X.1 X.2.1 d_X11_away_6 (by decide) ?_
    exact g_iret X hr hlk hw hD d_X11_away_10
theorem c_X11_away (l : Launch) (G : GC) (x0 : Int32) (σ : GSt) (Q : Int32 → GSt → Prop)  (hD : D_X11_away x0 σ Q) : MI l ym_X11_away cm_X11_away 1 .int rm_X11_away G σ [.int x0] Q := by
  refine met_i (by decide) (Nat.le_of_ble_eq_true rfl) ?_
  intro p e s m args below meth c X hr hlk hw ls hl
  exact s_X11_away_0 X hr hlk Q  x0 σ hw (lv_sub hl [0] rfl) hD
