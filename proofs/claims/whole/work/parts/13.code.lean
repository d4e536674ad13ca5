theorem hd_X5_stand : ym_X5_stand.cls = "GameLoom$Position" ∧ ym_X5_stand.cls ≠ "java/lang/invoke/MethodHandle" ∧ ym_X5_stand.cls ≠ "java/lang/invoke/VarHandle" ∧ (parseMethodDescriptor ym_X5_stand.desc).map (fun d => d.parameters.length) = some 2 := by decide +kernel
abbrev rm_X5_stand : Room := { frames := 0, cells := 0, slots := 0, locals := 0 }
theorem d_X5_stand_0 : decode cm_X5_stand 0 = .ok (.aload_n 0, 1) := by decide +kernel
theorem d_X5_stand_1 : decode cm_X5_stand 1 = .ok (.iload_n 1, 1) := by decide +kernel
theorem d_X5_stand_2 : decode cm_X5_stand 2 = .ok (.putfield 39, 3) := by decide +kernel
theorem d_X5_stand_5 : decode cm_X5_stand 5 = .ok (.aload_n 0, 1) := by decide +kernel
theorem d_X5_stand_6 : decode cm_X5_stand 6 = .ok (.iload_n 2, 1) := by decide +kernel
theorem d_X5_stand_7 : decode cm_X5_stand 7 = .ok (.putfield 42, 3) := by decide +kernel
theorem d_X5_stand_10 : decode cm_X5_stand 10 = .ok (.aload_n 0, 1) := by decide +kernel
theorem d_X5_stand_11 : decode cm_X5_stand 11 = .ok (.iconst 0, 1) := by decide +kernel
theorem d_X5_stand_12 : decode cm_X5_stand 12 = .ok (.putfield 45, 3) := by decide +kernel
theorem d_X5_stand_15 : decode cm_X5_stand 15 = .ok (.aload_n 0, 1) := by decide +kernel
theorem d_X5_stand_16 : decode cm_X5_stand 16 = .ok (.bipush (-9), 2) := by decide +kernel
theorem d_X5_stand_18 : decode cm_X5_stand 18 = .ok (.putfield 48, 3) := by decide +kernel
theorem d_X5_stand_21 : decode cm_X5_stand 21 = .ok (.aload_n 0, 1) := by decide +kernel
theorem d_X5_stand_22 : decode cm_X5_stand 22 = .ok (.bipush (-9), 2) := by decide +kernel
theorem d_X5_stand_24 : decode cm_X5_stand 24 = .ok (.putfield 51, 3) := by decide +kernel
theorem d_X5_stand_27 : decode cm_X5_stand 27 = .ok (.return_, 1) := by decide +kernel
def D_X5_stand_0 (Q : GSt → Prop) (o : Nat) (x1 : Int32) (x2 : Int32) (σ : GSt) : Prop :=
  ∀ σ_1 : GSt, σ_1 = up2 σ o 1 x1 → (∀ σ_2 : GSt, σ_2 = up2 σ_1 o 2 x2 → (∀ σ_3 : GSt, σ_3 = up2 σ_2 o 4 0 → (∀ σ_4 : GSt, σ_4 = up2 σ_3 o 5 (-9) → (∀ σ_5 : GSt, σ_5 = up2 σ_4 o 6 (-9) → (Q σ_5)))))
def D_X5_stand (o : Nat) (x1 : Int32) (x2 : Int32) (σ : GSt) (Q : GSt → Prop) : Prop := D_X5_stand_0 Q o x1 x2 σ
set_option maxRecDepth 20000 in
set_option maxHeartbeats 4000000 in
theorem s_X5_stand_0 {p : Program} {l : Launch} {e : Env} {s : State} {m : MethodId} {args : Array Value} {below : List Frame} {meth : Method} {c : Code} {G : GC} (X : CallFix p m c cm_X5_stand 3 s args lw_us "GameLoom$Position") (hr : meth.sig.returnType = none) (hlk : meth.locks = false) (Q : GSt → Prop) (o : Nat) (ho : kd o = 5) (x1 : Int32) (x2 : Int32) (σ : GSt) {H : Heap} {locs : List Loc} {ls : Array Slot} (hw : Wo G s H locs σ) (hl : lv_has ls 3 [(0, .ref (G.2.1 o)), (1, .int x1), (2, .int x2)]) (hD : D_X5_stand_0 Q o x1 x2 σ) : W p l e rm_X5_stand s m args below meth c H locs 0 0 (QMV G Q below args s) (F0 m 0 ls []) := by
  unfold D_X5_stand_0 at hD
  refine lv_aload_n X.1 X.2.1 d_X5_stand_0 rfl (lv_at hl 0 rfl) ?_
  refine lv_iload_n X.1 X.2.1 d_X5_stand_1 rfl (lv_at hl 1 rfl) ?_
  refine pf_5_1 X hw ho tb_240 d_X5_stand_2 (fun H locs hw => ?_)
  obtain ⟨σ_1, e_σ_1⟩ : ∃ z : GSt, z = up2 σ o 1 x1 := ⟨_, rfl⟩
  rw [← e_σ_1] at hw
  have hD := hD σ_1 e_σ_1
  refine lv_aload_n X.1 X.2.1 d_X5_stand_5 rfl (lv_at hl 0 rfl) ?_
  refine lv_iload_n X.1 X.2.1 d_X5_stand_6 rfl (lv_at hl 2 rfl) ?_
  refine pf_5_2 X hw ho tb_245 d_X5_stand_7 (fun H locs hw => ?_)
  obtain ⟨σ_2, e_σ_2⟩ : ∃ z : GSt, z = up2 σ_1 o 2 x2 := ⟨_, rfl⟩
  rw [← e_σ_2] at hw
  have hD := hD σ_2 e_σ_2
  refine lv_aload_n X.1 X.2.1 d_X5_stand_10 rfl (lv_at hl 0 rfl) ?_
  refine lv_iconst (v := 0) X.1 X.2.1 d_X5_stand_11 (by decide) ?_
  refine pf_5_4 X hw ho tb_255 d_X5_stand_12 (fun H locs hw => ?_)
  obtain ⟨σ_3, e_σ_3⟩ : ∃ z : GSt, z = up2 σ_2 o 4 0 := ⟨_, rfl⟩
  rw [← e_σ_3] at hw
  have hD := hD σ_3 e_σ_3
  refine lv_aload_n X.1 X.2.1 d_X5_stand_15 rfl (lv_at hl 0 rfl) ?_
  refine lv_bipush (v := (-9)) X.1 X.2.1 d_X5_stand_16 (by decide) ?_
  refine pf_5_5 X hw ho tb_260 d_X5_stand_18 (fun H locs hw => ?_)
  obtain ⟨σ_4, e_σ_4⟩ : ∃ z : GSt, z = up2 σ_3 o 5 (-9) := ⟨_, rfl⟩
  rw [← e_σ_4] at hw
  have hD := hD σ_4 e_σ_4
  refine lv_aload_n X.1 X.2.1 d_X5_stand_21 rfl (lv_at hl 0 rfl) ?_
  refine lv_bipush (v := (-9)) X.1 X.2.1 d_X5_stand_22 (by decide) ?_
  refine pf_5_6 X hw ho tb_264 d_X5_stand_24 (fun H locs hw => ?_)
  obtain ⟨σ_5, e_σ_5⟩ : ∃ z : GSt, z = up2 σ_4 o 6 (-9) := ⟨_, rfl⟩
  rw [← e_σ_5] at hw
  have hD := hD σ_5 e_σ_5
  exact g_vret X hr hlk hw hD d_X5_stand_27
theorem c_X5_stand (l : Launch) (G : GC) (o : Nat) (x1 : Int32) (x2 : Int32) (σ : GSt) (Q : GSt → Prop) (ho : kd o = 5) (hD : D_X5_stand o x1 x2 σ Q) : MV l ym_X5_stand cm_X5_stand 3 rm_X5_stand G σ [.ref (G.2.1 o), .int x1, .int x2] Q := by
  refine met_v (by decide) (Nat.le_of_ble_eq_true rfl) ?_
  intro p e s m args below meth c X hr hlk hw ls hl
  exact s_X5_stand_0 X hr hlk Q o ho x1 x2 σ hw (lv_sub hl [0, 1, 2] rfl) hD
theorem hd_X5_unmake : ym_X5_unmake.cls = "GameLoom$Position" ∧ ym_X5_unmake.cls ≠ "java/lang/invoke/MethodHandle" ∧ ym_X5_unmake.cls ≠ "java/lang/invoke/VarHandle" ∧ (parseMethodDescriptor ym_X5_unmake.desc).map (fun d => d.parameters.length) = some 2 := by decide +kernel
abbrev rm_X5_unmake : Room := { frames := 1, cells := 0, slots := 0, locals := 22 }
theorem d_X5_unmake_0 : decode cm_X5_unmake 0 = .ok (.aload_n 0, 1) := by decide +kernel
theorem d_X5_unmake_1 : decode cm_X5_unmake 1 = .ok (.dup, 1) := by decide +kernel
theorem d_X5_unmake_2 : decode cm_X5_unmake 2 = .ok (.getfield 15, 3) := by decide +kernel
theorem d_X5_unmake_5 : decode cm_X5_unmake 5 = .ok (.iconst 1, 1) := by decide +kernel
theorem d_X5_unmake_6 : decode cm_X5_unmake 6 = .ok (.isub, 1) := by decide +kernel
theorem d_X5_unmake_7 : decode cm_X5_unmake 7 = .ok (.putfield 15, 3) := by decide +kernel
theorem d_X5_unmake_10 : decode cm_X5_unmake 10 = .ok (.aload_n 0, 1) := by decide +kernel
theorem d_X5_unmake_11 : decode cm_X5_unmake 11 = .ok (.iload_n 1, 1) := by decide +kernel
theorem d_X5_unmake_12 : decode cm_X5_unmake 12 = .ok (.iload_n 2, 1) := by decide +kernel
theorem d_X5_unmake_13 : decode cm_X5_unmake 13 = .ok (.invokevirtual 27, 3) := by decide +kernel
theorem d_X5_unmake_16 : decode cm_X5_unmake 16 = .ok (.return_, 1) := by decide +kernel
def D_X5_unmake_0 (Q : GSt → Prop) (o : Nat) (x1 : Int32) (x2 : Int32) (σ : GSt) : Prop :=
  ∀ σ_1 : GSt, σ_1 = up2 σ o 3 ((σ o 3) - 1) → (D_X5_stand o x1 x2 σ_1 (fun σ_2 => Q σ_2))
def D_X5_unmake (o : Nat) (x1 : Int32) (x2 : Int32) (σ : GSt) (Q : GSt → Prop) : Prop := D_X5_unmake_0 Q o x1 x2 σ
set_option maxRecDepth 20000 in
set_option maxHeartbeats 4000000 in
theorem s_X5_unmake_0 {p : Program} {l : Launch} {e : Env} {s : State} {m : MethodId} {args : Array Value} {below : List Frame} {meth : Method} {c : Code} {G : GC} (X : CallFix p m c cm_X5_unmake 3 s args lw_us "GameLoom$Position") (hr : meth.sig.returnType = none) (hlk : meth.locks = false) (Q : GSt → Prop) (o : Nat) (ho : kd o = 5) (x1 : Int32) (x2 : Int32) (σ : GSt) {H : Heap} {locs : List Loc} {ls : Array Slot} (hw : Wo G s H locs σ) (hl : lv_has ls 3 [(0, .ref (G.2.1 o)), (1, .int x1), (2, .int x2)]) (hD : D_X5_unmake_0 Q o x1 x2 σ) : W p l e rm_X5_unmake s m args below meth c H locs 0 0 (QMV G Q below args s) (F0 m 0 ls []) := by
  unfold D_X5_unmake_0 at hD
  refine lv_aload_n X.1 X.2.1 d_X5_unmake_0 rfl (lv_at hl 0 rfl) ?_
  refine lv_dup X.1 X.2.1 d_X5_unmake_1 rfl ?_
  refine gf_5_3 X hw ho tb_250 d_X5_unmake_2 ?_
  refine lv_iconst (v := 1) X.1 X.2.1 d_X5_unmake_5 (by decide) ?_
  refine lv_isub X.1 X.2.1 d_X5_unmake_6 ?_
  refine pf_5_3 X hw ho tb_250 d_X5_unmake_7 (fun H locs hw => ?_)
  obtain ⟨σ_1, e_σ_1⟩ : ∃ z : GSt, z = up2 σ o 3 ((σ o 3) - 1) := ⟨_, rfl⟩
  rw [← e_σ_1] at hw
  have hD := hD σ_1 e_σ_1
  refine lv_aload_n X.1 X.2.1 d_X5_unmake_10 rfl (lv_at hl 0 rfl) ?_
  refine lv_iload_n X.1 X.2.1 d_X5_unmake_11 rfl (lv_at hl 1 rfl) ?_
  refine lv_iload_n X.1 X.2.1 d_X5_unmake_12 rfl (lv_at hl 2 rfl) ?_
  refine gcV_v (rest := []) (As := [.int x1, .int x2]) (o := o) X hw (c_X5_stand l G o x1 x2 σ_1 _ ho hD) (kd_lt ho (by decide)) (ce_5 G _ ho) rfl tb_551 tb_553 tv_18 tb_9 tb_554 hd_X5_stand ⟨rfl, rfl⟩ ⟨Nat.le_of_ble_eq_true rfl, Nat.le_of_ble_eq_true rfl⟩ rfl hl.1 rfl (Nat.le_of_ble_eq_true rfl) d_X5_unmake_13 (fun σ_2 H locs hD hw => ?_)
  exact g_vret X hr hlk hw hD d_X5_unmake_16
theorem c_X5_unmake (l : Launch) (G : GC) (o : Nat) (x1 : Int32) (x2 : Int32) (σ : GSt) (Q : GSt → Prop) (ho : kd o = 5) (hD : D_X5_unmake o x1 x2 σ Q) : MV l ym_X5_unmake cm_X5_unmake 3 rm_X5_unmake G σ [.ref (G.2.1 o), .int x1, .int x2] Q := by
  refine met_v (by decide) (Nat.le_of_ble_eq_true rfl) ?_
  intro p e s m args below meth c X hr hlk hw ls hl
  exact s_X5_unmake_0 X hr hlk Q o ho x1 x2 σ hw (lv_sub hl [0, 1, 2] rfl) hD
theorem hd_X3_countWays : ym_X3_countWays.cls = "GameLoom$Looker" ∧ ym_X3_countWays.cls ≠ "java/lang/invoke/MethodHandle" ∧ ym_X3_countWays.cls ≠ "java/lang/invoke/VarHandle" ∧ (parseMethodDescriptor ym_X3_countWays.desc).map (fun d => d.parameters.length) = some 3 := by decide +kernel
abbrev rmr_X3_countWays (n : Nat) : Room := { frames := 4 + n, cells := 0, slots := 0, locals := 83 + n * 28 }
theorem d_X3_countWays_0 : decode cm_X3_countWays 0 = .ok (.iload_n 2, 1) := by decide +kernel
theorem d_X3_countWays_1 : decode cm_X3_countWays 1 = .ok (.iload_n 3, 1) := by decide +kernel
theorem d_X3_countWays_2 : decode cm_X3_countWays 2 = .ok (.if_icmp .gt 9, 3) := by decide +kernel
theorem d_X3_countWays_5 : decode cm_X3_countWays 5 = .ok (.iload_n 2, 1) := by decide +kernel
theorem d_X3_countWays_6 : decode cm_X3_countWays 6 = .ok (.bipush 6, 2) := by decide +kernel
theorem d_X3_countWays_8 : decode cm_X3_countWays 8 = .ok (.if_icmp .le 4, 3) := by decide +kernel
theorem d_X3_countWays_11 : decode cm_X3_countWays 11 = .ok (.return_, 1) := by decide +kernel
theorem d_X3_countWays_12 : decode cm_X3_countWays 12 = .ok (.aload_n 0, 1) := by decide +kernel
theorem d_X3_countWays_13 : decode cm_X3_countWays 13 = .ok (.getfield 17, 3) := by decide +kernel
theorem d_X3_countWays_16 : decode cm_X3_countWays 16 = .ok (.iload_n 2, 1) := by decide +kernel
theorem d_X3_countWays_17 : decode cm_X3_countWays 17 = .ok (.aaload, 1) := by decide +kernel
theorem d_X3_countWays_18 : decode cm_X3_countWays 18 = .ok (.astore 4, 2) := by decide +kernel
theorem d_X3_countWays_20 : decode cm_X3_countWays 20 = .ok (.aload_n 1, 1) := by decide +kernel
theorem d_X3_countWays_21 : decode cm_X3_countWays 21 = .ok (.aload 4, 2) := by decide +kernel
theorem d_X3_countWays_23 : decode cm_X3_countWays 23 = .ok (.invokevirtual 28, 3) := by decide +kernel
theorem d_X3_countWays_26 : decode cm_X3_countWays 26 = .ok (.istore 5, 2) := by decide +kernel
theorem d_X3_countWays_28 : decode cm_X3_countWays 28 = .ok (.aload_n 0, 1) := by decide +kernel
theorem d_X3_countWays_29 : decode cm_X3_countWays 29 = .ok (.getfield 9, 3) := by decide +kernel
theorem d_X3_countWays_32 : decode cm_X3_countWays 32 = .ok (.iload_n 2, 1) := by decide +kernel
theorem d_X3_countWays_33 : decode cm_X3_countWays 33 = .ok (.dup2, 1) := by decide +kernel
theorem d_X3_countWays_34 : decode cm_X3_countWays 34 = .ok (.iaload, 1) := by decide +kernel
theorem d_X3_countWays_35 : decode cm_X3_countWays 35 = .ok (.iload 5, 2) := by decide +kernel
theorem d_X3_countWays_37 : decode cm_X3_countWays 37 = .ok (.iadd, 1) := by decide +kernel
theorem d_X3_countWays_38 : decode cm_X3_countWays 38 = .ok (.iastore, 1) := by decide +kernel
theorem d_X3_countWays_39 : decode cm_X3_countWays 39 = .ok (.aload_n 0, 1) := by decide +kernel
theorem d_X3_countWays_40 : decode cm_X3_countWays 40 = .ok (.dup, 1) := by decide +kernel
theorem d_X3_countWays_41 : decode cm_X3_countWays 41 = .ok (.getfield 20, 3) := by decide +kernel
theorem d_X3_countWays_44 : decode cm_X3_countWays 44 = .ok (.iload 5, 2) := by decide +kernel
theorem d_X3_countWays_46 : decode cm_X3_countWays 46 = .ok (.iadd, 1) := by decide +kernel
theorem d_X3_countWays_47 : decode cm_X3_countWays 47 = .ok (.putfield 20, 3) := by decide +kernel
theorem d_X3_countWays_50 : decode cm_X3_countWays 50 = .ok (.iload_n 2, 1) := by decide +kernel
theorem d_X3_countWays_51 : decode cm_X3_countWays 51 = .ok (.iload_n 3, 1) := by decide +kernel
theorem d_X3_countWays_52 : decode cm_X3_countWays 52 = .ok (.if_icmp .ne 4, 3) := by decide +kernel
theorem d_X3_countWays_55 : decode cm_X3_countWays 55 = .ok (.return_, 1) := by decide +kernel
theorem d_X3_countWays_56 : decode cm_X3_countWays 56 = .ok (.aload_n 1, 1) := by decide +kernel
theorem d_X3_countWays_57 : decode cm_X3_countWays 57 = .ok (.getfield 34, 3) := by decide +kernel
theorem d_X3_countWays_60 : decode cm_X3_countWays 60 = .ok (.istore 6, 2) := by decide +kernel
theorem d_X3_countWays_62 : decode cm_X3_countWays 62 = .ok (.aload_n 1, 1) := by decide +kernel
theorem d_X3_countWays_63 : decode cm_X3_countWays 63 = .ok (.getfield 37, 3) := by decide +kernel
theorem d_X3_countWays_66 : decode cm_X3_countWays 66 = .ok (.istore 7, 2) := by decide +kernel
theorem d_X3_countWays_68 : decode cm_X3_countWays 68 = .ok (.iconst 0, 1) := by decide +kernel
theorem d_X3_countWays_69 : decode cm_X3_countWays 69 = .ok (.istore 8, 2) := by decide +kernel
theorem d_X3_countWays_71 : decode cm_X3_countWays 71 = .ok (.iload 8, 2) := by decide +kernel
theorem d_X3_countWays_73 : decode cm_X3_countWays 73 = .ok (.iload 5, 2) := by decide +kernel
theorem d_X3_countWays_75 : decode cm_X3_countWays 75 = .ok (.if_icmp .ge 45, 3) := by decide +kernel
theorem d_X3_countWays_78 : decode cm_X3_countWays 78 = .ok (.aload_n 0, 1) := by decide +kernel
theorem d_X3_countWays_79 : decode cm_X3_countWays 79 = .ok (.getfield 20, 3) := by decide +kernel
theorem d_X3_countWays_82 : decode cm_X3_countWays 82 = .ok (.sipush 3000, 3) := by decide +kernel
theorem d_X3_countWays_85 : decode cm_X3_countWays 85 = .ok (.if_icmp .gt 35, 3) := by decide +kernel
theorem d_X3_countWays_88 : decode cm_X3_countWays 88 = .ok (.aload_n 1, 1) := by decide +kernel
theorem d_X3_countWays_89 : decode cm_X3_countWays 89 = .ok (.aload 4, 2) := by decide +kernel
theorem d_X3_countWays_91 : decode cm_X3_countWays 91 = .ok (.iload 8, 2) := by decide +kernel
theorem d_X3_countWays_93 : decode cm_X3_countWays 93 = .ok (.iaload, 1) := by decide +kernel
theorem d_X3_countWays_94 : decode cm_X3_countWays 94 = .ok (.invokevirtual 40, 3) := by decide +kernel
theorem d_X3_countWays_97 : decode cm_X3_countWays 97 = .ok (.aload_n 0, 1) := by decide +kernel
theorem d_X3_countWays_98 : decode cm_X3_countWays 98 = .ok (.aload_n 1, 1) := by decide +kernel
theorem d_X3_countWays_99 : decode cm_X3_countWays 99 = .ok (.iload_n 2, 1) := by decide +kernel
theorem d_X3_countWays_100 : decode cm_X3_countWays 100 = .ok (.iconst 1, 1) := by decide +kernel
theorem d_X3_countWays_101 : decode cm_X3_countWays 101 = .ok (.iadd, 1) := by decide +kernel
theorem d_X3_countWays_102 : decode cm_X3_countWays 102 = .ok (.iload_n 3, 1) := by decide +kernel
theorem d_X3_countWays_103 : decode cm_X3_countWays 103 = .ok (.invokevirtual 24, 3) := by decide +kernel
theorem d_X3_countWays_106 : decode cm_X3_countWays 106 = .ok (.aload_n 1, 1) := by decide +kernel
theorem d_X3_countWays_107 : decode cm_X3_countWays 107 = .ok (.iload 6, 2) := by decide +kernel
theorem d_X3_countWays_109 : decode cm_X3_countWays 109 = .ok (.iload 7, 2) := by decide +kernel
theorem d_X3_countWays_111 : decode cm_X3_countWays 111 = .ok (.invokevirtual 44, 3) := by decide +kernel
theorem d_X3_countWays_114 : decode cm_X3_countWays 114 = .ok (.iinc 8 1, 3) := by decide +kernel
theorem d_X3_countWays_117 : decode cm_X3_countWays 117 = .ok (.goto (-46), 3) := by decide +kernel
theorem d_X3_countWays_120 : decode cm_X3_countWays 120 = .ok (.return_, 1) := by decide +kernel
def D_X3_countWays_71 (SF : Nat → Int32 → Int32 → GSt → (GSt → Prop) → Prop) (K71 : Nat → Int32 → Int32 → Nat → Int32 → Int32 → Int32 → Int32 → GSt → Prop) (Q : GSt → Prop) (r1 : Nat) (x2 : Int32) (x3 : Int32) (r4 : Nat) (x5 : Int32) (x6 : Int32) (x7 : Int32) (x8 : Int32) (σ : GSt) : Prop :=
  (x5 ≤ x8 → Q σ) ∧
  (¬ x5 ≤ x8 → (3000 < (σ 29 1) → Q σ) ∧
  (¬ 3000 < (σ 29 1) → vp_in x8 (ln r4) ∧ (D_X5_make r1 (σ r4 (Int32.toNatClampNeg x8)) σ (fun σ_1 => SF r1 (x2 + 1) x3 σ_1 (fun σ_2 => D_X5_unmake r1 x6 x7 σ_2 (fun σ_3 => ∀ x8_4 : Int32, x8_4 = x8 + 1 → (K71 r1 x2 x3 r4 x5 x6 x7 x8_4 σ_3)))))))
def L_X3_countWays_71 (SF : Nat → Int32 → Int32 → GSt → (GSt → Prop) → Prop) (Q : GSt → Prop) : Nat → Nat → Int32 → Int32 → Nat → Int32 → Int32 → Int32 → Int32 → GSt → Prop
  | 0 => fun _ _ _ _ _ _ _ _ _ => False
  | n + 1 => fun r1 x2 x3 r4 x5 x6 x7 x8 σ => D_X3_countWays_71 SF (L_X3_countWays_71 SF Q n) Q r1 x2 x3 r4 x5 x6 x7 x8 σ
def D_X3_countWays_0 (SF : Nat → Int32 → Int32 → GSt → (GSt → Prop) → Prop) (Q : GSt → Prop) (r1 : Nat) (x2 : Int32) (x3 : Int32) (σ : GSt) : Prop :=
  (x3 < x2 → Q σ) ∧
  (¬ x3 < x2 → (x2 ≤ 6 → vp_in x2 7 ∧ (D_X5_listMoves r1 (31 + 1 + Int32.toNatClampNeg x2) σ (fun r_1 σ_2 => vp_in x2 7 ∧ (vp_in x2 7 ∧ (∀ σ_3 : GSt, σ_3 = up2 σ_2 30 (Int32.toNatClampNeg x2) ((σ_2 30 (Int32.toNatClampNeg x2)) + r_1) → (∀ σ_4 : GSt, σ_4 = up2 σ_3 29 1 ((σ_3 29 1) + r_1) → ((¬ x2 = x3 → ∀ x6_5 : Int32, x6_5 = (σ_4 r1 1) → (∀ x7_6 : Int32, x7_6 = (σ_4 r1 2) → (∃ n : Nat, L_X3_countWays_71 SF Q n r1 x2 x3 (31 + 1 + Int32.toNatClampNeg x2) r_1 x6_5 x7_6 0 σ_4))) ∧
  (x2 = x3 → Q σ_4)))))))) ∧
  (¬ x2 ≤ 6 → Q σ))
def D_X3_countWays : Nat → Nat → Int32 → Int32 → GSt → (GSt → Prop) → Prop
  | 0 => fun _ _ _ _ _ => False
  | n + 1 => fun r1 x2 x3 σ Q => D_X3_countWays_0 (D_X3_countWays n) Q r1 x2 x3 σ
set_option maxRecDepth 20000 in
set_option maxHeartbeats 4000000 in
theorem s_X3_countWays_71 {p : Program} {l : Launch} {e : Env} {n : Nat} {s : State} {m : MethodId} {args : Array Value} {below : List Frame} {meth : Method} {c : Code} {G : GC} (X : CallFix p m c cm_X3_countWays 9 s args lw_us "GameLoom$Looker") (hr : meth.sig.returnType = none) (hlk : meth.locks = false) (SF : Nat → Int32 → Int32 → GSt → (GSt → Prop) → Prop) (hSF : ∀ (l : Launch) (G : GC) (y1 : Nat) (y2 : Int32) (y3 : Int32) (σ : GSt) (Q : GSt → Prop), kd y1 = 5 → SF y1 y2 y3 σ Q → MV l ym_X3_countWays cm_X3_countWays 9 (rmr_X3_countWays n) G σ [.ref (G.2.1 29), .ref (G.2.1 y1), .int y2, .int y3] Q) (K71 : Nat → Int32 → Int32 → Nat → Int32 → Int32 → Int32 → Int32 → GSt → Prop) (Q : GSt → Prop) (hK71 : ∀ (r1 : Nat) (x2 : Int32) (x3 : Int32) (r4 : Nat) (x5 : Int32) (x6 : Int32) (x7 : Int32) (x8 : Int32) (σ : GSt) (H : Heap) (locs : List Loc) (ls : Array Slot), kd r1 = 5 → kd r4 = 12 → Wo G s H locs σ → lv_has ls 9 [(0, .ref (G.2.1 29)), (1, .ref (G.2.1 r1)), (2, .int x2), (3, .int x3), (4, .ref (G.2.1 r4)), (5, .int x5), (6, .int x6), (7, .int x7), (8, .int x8)] → K71 r1 x2 x3 r4 x5 x6 x7 x8 σ → W p l e (rmr_X3_countWays (n + 1)) s m args below meth c H locs 0 0 (QMV G Q below args s) (F0 m 71 ls [])) (r1 : Nat) (hk1 : kd r1 = 5) (x2 : Int32) (x3 : Int32) (r4 : Nat) (hk4 : kd r4 = 12) (x5 : Int32) (x6 : Int32) (x7 : Int32) (x8 : Int32) (σ : GSt) {H : Heap} {locs : List Loc} {ls : Array Slot} (hw : Wo G s H locs σ) (hl : lv_has ls 9 [(0, .ref (G.2.1 29)), (1, .ref (G.2.1 r1)), (2, .int x2), (3, .int x3), (4, .ref (G.2.1 r4)), (5, .int x5), (6, .int x6), (7, .int x7), (8, .int x8)]) (hD : D_X3_countWays_71 SF K71 Q r1 x2 x3 r4 x5 x6 x7 x8 σ) : W p l e (rmr_X3_countWays (n + 1)) s m args below meth c H locs 0 0 (QMV G Q below args s) (F0 m 71 ls []) := by
  unfold D_X3_countWays_71 at hD
  refine lv_iload X.1 X.2.1 d_X3_countWays_71 (lv_at hl 8 rfl) ?_
  refine lv_iload X.1 X.2.1 d_X3_countWays_73 (lv_at hl 5 rfl) ?_
  refine lv_icmp_ge (tgt := 120) X.1 X.2.1 d_X3_countWays_75 (by decide) (fun q_75 => ?_) (fun q_75 => ?_)
  · have hD := hD.1 q_75
    exact g_vret X hr hlk hw hD d_X3_countWays_120
  · have hD := hD.2 q_75
    refine lv_aload_n X.1 X.2.1 d_X3_countWays_78 rfl (lv_at hl 0 rfl) ?_
    refine gf_3_1 X hw (by decide +kernel : kd 29 = 3) tb_216 d_X3_countWays_79 ?_
    refine lv_sipush (v := 3000) X.1 X.2.1 d_X3_countWays_82 (by decide) ?_
    refine lv_icmp_gt (tgt := 120) X.1 X.2.1 d_X3_countWays_85 (by decide) (fun q_85 => ?_) (fun q_85 => ?_)
    · have hD := hD.1 q_85
      exact g_vret X hr hlk hw hD d_X3_countWays_120
    · have hD := hD.2 q_85
      refine lv_aload_n X.1 X.2.1 d_X3_countWays_88 rfl (lv_at hl 1 rfl) ?_
      refine lv_aload X.1 X.2.1 d_X3_countWays_89 (lv_at hl 4 rfl) ?_
      refine lv_iload X.1 X.2.1 d_X3_countWays_91 (lv_at hl 8 rfl) ?_
      obtain ⟨q_93, hD⟩ := hD
      refine g_iald X hw hk4 rfl q_93 d_X3_countWays_93 ?_
      refine gcV_v (rest := []) (As := [.int (σ r4 (Int32.toNatClampNeg x8))]) (o := r1) X hw (c_X5_make l G r1 (σ r4 (Int32.toNatClampNeg x8)) σ _ hk1 hD) (kd_lt hk1 (by decide)) (ce_5 G _ hk1) rfl tb_687 tb_604 tb_605 tb_9 tb_606 hd_X5_make ⟨rfl, rfl⟩ ⟨by simp only [rmr_X3_countWays]; omega, by simp only [rmr_X3_countWays]; omega⟩ rfl hl.1 rfl (Nat.le_of_ble_eq_true rfl) d_X3_countWays_94 (fun σ_1 H locs hD hw => ?_)
      refine lv_aload_n X.1 X.2.1 d_X3_countWays_97 rfl (lv_at hl 0 rfl) ?_
      refine lv_aload_n X.1 X.2.1 d_X3_countWays_98 rfl (lv_at hl 1 rfl) ?_
      refine lv_iload_n X.1 X.2.1 d_X3_countWays_99 rfl (lv_at hl 2 rfl) ?_
      refine lv_iconst (v := 1) X.1 X.2.1 d_X3_countWays_100 (by decide) ?_
      refine lv_iadd X.1 X.2.1 d_X3_countWays_101 ?_
      refine lv_iload_n X.1 X.2.1 d_X3_countWays_102 rfl (lv_at hl 3 rfl) ?_
      refine gcV_v (rest := []) (As := [.ref (G.2.1 r1), .int (x2 + 1), .int x3]) (o := 29) X hw (hSF l G r1 (x2 + 1) x3 σ_1 _ hk1 hD) (kd_lt (by decide +kernel : kd 29 = 3) (by decide)) (ce_3 G _ (by decide +kernel : kd 29 = 3)) rfl tb_682 tb_684 tv_26 tb_7 tb_685 hd_X3_countWays ⟨rfl, rfl⟩ ⟨by simp only [rmr_X3_countWays]; omega, by simp only [rmr_X3_countWays]; omega⟩ rfl hl.1 rfl (Nat.le_of_ble_eq_true rfl) d_X3_countWays_103 (fun σ_2 H locs hD hw => ?_)
      refine lv_aload_n X.1 X.2.1 d_X3_countWays_106 rfl (lv_at hl 1 rfl) ?_
      refine lv_iload X.1 X.2.1 d_X3_countWays_107 (lv_at hl 6 rfl) ?_
      refine lv_iload X.1 X.2.1 d_X3_countWays_109 (lv_at hl 7 rfl) ?_
      refine gcV_v (rest := []) (As := [.int x6, .int x7]) (o := r1) X hw (c_X5_unmake l G r1 x6 x7 σ_2 _ hk1 hD) (kd_lt hk1 (by decide)) (ce_5 G _ hk1) rfl tb_688 tb_640 tb_641 tb_9 tb_642 hd_X5_unmake ⟨rfl, rfl⟩ ⟨by simp only [rmr_X3_countWays]; omega, by simp only [rmr_X3_countWays]; omega⟩ rfl hl.1 rfl (Nat.le_of_ble_eq_true rfl) d_X3_countWays_111 (fun σ_3 H locs hD hw => ?_)
      obtain ⟨x8_4, e_x8_4⟩ : ∃ y : Int32, y = x8 + 1 := ⟨_, rfl⟩
      have hD := hD x8_4 e_x8_4
      refine lv_iinc (v := x8_4) (lv' := [(8, .int x8_4), (0, .ref (G.2.1 29)), (1, .ref (G.2.1 r1)), (2, .int x2), (3, .int x3), (4, .ref (G.2.1 r4)), (5, .int x5), (6, .int x6), (7, .int x7)]) X.1 X.2.1 d_X3_countWays_114 hl (k := 8) rfl (by rw [e_x8_4]; rfl) (by decide) rfl (fun ls hl => ?_)
      refine lv_goto (tgt := 71) X.1 X.2.1 d_X3_countWays_117 (by decide) ?_
      exact hK71 r1 x2 x3 r4 x5 x6 x7 x8_4 σ_3 _ _ _ hk1 hk4 hw (lv_sub hl [1, 2, 3, 4, 5, 6, 7, 8, 0] rfl) hD
set_option maxRecDepth 20000 in
set_option maxHeartbeats 4000000 in
theorem sl_X3_countWays_71 {p : Program} {l : Launch} {e : Env} {n : Nat} {s : State} {m : MethodId} {args : Array Value} {below : List Frame} {meth : Method} {c : Code} {G : GC} (X : CallFix p m c cm_X3_countWays 9 s args lw_us "GameLoom$Looker") (hr : meth.sig.returnType = none) (hlk : meth.locks = false) (SF : Nat → Int32 → Int32 → GSt → (GSt → Prop) → Prop) (hSF : ∀ (l : Launch) (G : GC) (y1 : Nat) (y2 : Int32) (y3 : Int32) (σ : GSt) (Q : GSt → Prop), kd y1 = 5 → SF y1 y2 y3 σ Q → MV l ym_X3_countWays cm_X3_countWays 9 (rmr_X3_countWays n) G σ [.ref (G.2.1 29), .ref (G.2.1 y1), .int y2, .int y3] Q) (Q : GSt → Prop) : ∀ (nn : Nat), ∀ (r1 : Nat) (x2 : Int32) (x3 : Int32) (r4 : Nat) (x5 : Int32) (x6 : Int32) (x7 : Int32) (x8 : Int32) (σ : GSt) (H : Heap) (locs : List Loc) (ls : Array Slot), kd r1 = 5 → kd r4 = 12 → Wo G s H locs σ → lv_has ls 9 [(0, .ref (G.2.1 29)), (1, .ref (G.2.1 r1)), (2, .int x2), (3, .int x3), (4, .ref (G.2.1 r4)), (5, .int x5), (6, .int x6), (7, .int x7), (8, .int x8)] → L_X3_countWays_71 SF Q nn r1 x2 x3 r4 x5 x6 x7 x8 σ → W p l e (rmr_X3_countWays (n + 1)) s m args below meth c H locs 0 0 (QMV G Q below args s) (F0 m 71 ls []) := by
  intro nn
  induction nn with
  | zero => intro r1 x2 x3 r4 x5 x6 x7 x8 σ H locs ls hk1 hk4 hw hl hD; exact hD.elim
  | succ nn ih =>
    intro r1 x2 x3 r4 x5 x6 x7 x8 σ H locs ls hk1 hk4 hw hl hD
    exact s_X3_countWays_71 X hr hlk SF hSF (L_X3_countWays_71 SF Q nn) Q ih r1 hk1 x2 x3 r4 hk4 x5 x6 x7 x8 σ hw hl hD
set_option maxRecDepth 20000 in
set_option maxHeartbeats 4000000 in
theorem s_X3_countWays_0 {p : Program} {l : Launch} {e : Env} {n : Nat} {s : State} {m : MethodId} {args : Array Value} {below : List Frame} {meth : Method} {c : Code} {G : GC} (X : CallFix p m c cm_X3_countWays 9 s args lw_us "GameLoom$Looker") (hr : meth.sig.returnType = none) (hlk : meth.locks = false) (SF : Nat → Int32 → Int32 → GSt → (GSt → Prop) → Prop) (hSF : ∀ (l : Launch) (G : GC) (y1 : Nat) (y2 : Int32) (y3 : Int32) (σ : GSt) (Q : GSt → Prop), kd y1 = 5 → SF y1 y2 y3 σ Q → MV l ym_X3_countWays cm_X3_countWays 9 (rmr_X3_countWays n) G σ [.ref (G.2.1 29), .ref (G.2.1 y1), .int y2, .int y3] Q) (Q : GSt → Prop) (r1 : Nat) (hk1 : kd r1 = 5) (x2 : Int32) (x3 : Int32) (σ : GSt) {H : Heap} {locs : List Loc} {ls : Array Slot} (hw : Wo G s H locs σ) (hl : lv_has ls 9 [(0, .ref (G.2.1 29)), (1, .ref (G.2.1 r1)), (2, .int x2), (3, .int x3)]) (hD : D_X3_countWays_0 SF Q r1 x2 x3 σ) : W p l e (rmr_X3_countWays (n + 1)) s m args below meth c H locs 0 0 (QMV G Q below args s) (F0 m 0 ls []) := by
  unfold D_X3_countWays_0 at hD
  refine lv_iload_n X.1 X.2.1 d_X3_countWays_0 rfl (lv_at hl 2 rfl) ?_
  refine lv_iload_n X.1 X.2.1 d_X3_countWays_1 rfl (lv_at hl 3 rfl) ?_
  refine lv_icmp_gt (tgt := 11) X.1 X.2.1 d_X3_countWays_2 (by decide) (fun q_2 => ?_) (fun q_2 => ?_)
  · have hD := hD.1 q_2
    exact g_vret X hr hlk hw hD d_X3_countWays_11
  · have hD := hD.2 q_2
    refine lv_iload_n X.1 X.2.1 d_X3_countWays_5 rfl (lv_at hl 2 rfl) ?_
    refine lv_bipush (v := 6) X.1 X.2.1 d_X3_countWays_6 (by decide) ?_
    refine lv_icmp_le (tgt := 12) X.1 X.2.1 d_X3_countWays_8 (by decide) (fun q_8 => ?_) (fun q_8 => ?_)
    · have hD := hD.1 q_8
      refine lv_aload_n X.1 X.2.1 d_X3_countWays_12 rfl (lv_at hl 0 rfl) ?_
      refine gf_3_2 X hw (by decide +kernel : kd 29 = 3) tb_217 d_X3_countWays_13 ?_
      refine lv_iload_n X.1 X.2.1 d_X3_countWays_16 rfl (lv_at hl 2 rfl) ?_
      obtain ⟨q_17, hD⟩ := hD
      refine g_aald16 X hw ly_3_2.1 q_17 d_X3_countWays_17 ?_
      refine lv_astore (lv' := [(4, .ref (G.2.1 (31 + 1 + Int32.toNatClampNeg x2))), (0, .ref (G.2.1 29)), (1, .ref (G.2.1 r1)), (2, .int x2), (3, .int x3)]) X.1 X.2.1 d_X3_countWays_18 hl (by decide) rfl (fun ls hl => ?_)
      refine lv_aload_n X.1 X.2.1 d_X3_countWays_20 rfl (lv_at hl 2 rfl) ?_
      refine lv_aload X.1 X.2.1 d_X3_countWays_21 (lv_at hl 0 rfl) ?_
      refine gcV_i (rest := []) (As := [.ref (G.2.1 (31 + 1 + Int32.toNatClampNeg x2))]) (o := r1) X hw (c_X5_listMoves l G r1 (31 + 1 + Int32.toNatClampNeg x2) σ _ hk1 (le_16 ly_3_2.1 q_17) hD) (kd_lt hk1 (by decide)) (ce_5 G _ hk1) rfl tb_686 tb_574 tb_575 tb_9 tb_576 hd_X5_listMoves ⟨rfl, rfl⟩ ⟨by simp only [rmr_X3_countWays]; omega, by simp only [rmr_X3_countWays]; omega⟩ rfl hl.1 rfl (Nat.le_of_ble_eq_true rfl) d_X3_countWays_23 (fun r_1 σ_2 H locs hD hw => ?_)
      refine lv_istore (lv' := [(5, .int r_1), (4, .ref (G.2.1 (31 + 1 + Int32.toNatClampNeg x2))), (0, .ref (G.2.1 29)), (1, .ref (G.2.1 r1)), (2, .int x2), (3, .int x3)]) X.1 X.2.1 d_X3_countWays_26 hl (by decide) rfl (fun ls hl => ?_)
      refine lv_aload_n X.1 X.2.1 d_X3_countWays_28 rfl (lv_at hl 2 rfl) ?_
      refine gf_3_0 X hw (by decide +kernel : kd 29 = 3) tb_213 d_X3_countWays_29 ?_
      refine lv_iload_n X.1 X.2.1 d_X3_countWays_32 rfl (lv_at hl 4 rfl) ?_
      refine lv_dup2_11 X.1 X.2.1 d_X3_countWays_33 rfl rfl ?_
      obtain ⟨q_34, hD⟩ := hD
      refine g_iald X hw ly_3_0.1 ly_3_0.2 q_34 d_X3_countWays_34 ?_
      refine lv_iload X.1 X.2.1 d_X3_countWays_35 (lv_at hl 0 rfl) ?_
      refine lv_iadd X.1 X.2.1 d_X3_countWays_37 ?_
      obtain ⟨q_38, hD⟩ := hD
      refine g_iast X hw ly_3_0.1 ly_3_0.2 q_38 d_X3_countWays_38 (fun H locs hw => ?_)
      obtain ⟨σ_3, e_σ_3⟩ : ∃ z : GSt, z = up2 σ_2 30 (Int32.toNatClampNeg x2) ((σ_2 30 (Int32.toNatClampNeg x2)) + r_1) := ⟨_, rfl⟩
      rw [← e_σ_3] at hw
      have hD := hD σ_3 e_σ_3
      refine lv_aload_n X.1 X.2.1 d_X3_countWays_39 rfl (lv_at hl 2 rfl) ?_
      refine lv_dup X.1 X.2.1 d_X3_countWays_40 rfl ?_
      refine gf_3_1 X hw (by decide +kernel : kd 29 = 3) tb_216 d_X3_countWays_41 ?_
      refine lv_iload X.1 X.2.1 d_X3_countWays_44 (lv_at hl 0 rfl) ?_
      refine lv_iadd X.1 X.2.1 d_X3_countWays_46 ?_
      refine pf_3_1 X hw (by decide +kernel : kd 29 = 3) tb_216 d_X3_countWays_47 (fun H locs hw => ?_)
      obtain ⟨σ_4, e_σ_4⟩ : ∃ z : GSt, z = up2 σ_3 29 1 ((σ_3 29 1) + r_1) := ⟨_, rfl⟩
      rw [← e_σ_4] at hw
      have hD := hD σ_4 e_σ_4
      refine lv_iload_n X.1 X.2.1 d_X3_countWays_50 rfl (lv_at hl 4 rfl) ?_
      refine lv_iload_n X.1 X.2.1 d_X3_countWays_51 rfl (lv_at hl 5 rfl) ?_
      refine lv_icmp_ne (tgt := 56) X.1 X.2.1 d_X3_countWays_52 (by decide) (fun q_52 => ?_) (fun q_52 => ?_)
      · have hD := hD.1 q_52
        refine lv_aload_n X.1 X.2.1 d_X3_countWays_56 rfl (lv_at hl 3 rfl) ?_
        refine gf_5_1 X hw hk1 tb_241 d_X3_countWays_57 ?_
        refine lv_topi (fun x6_5 e_x6_5 => ?_)
        have hD := hD x6_5 e_x6_5
        refine lv_istore (lv' := [(6, .int x6_5), (5, .int r_1), (4, .ref (G.2.1 (31 + 1 + Int32.toNatClampNeg x2))), (0, .ref (G.2.1 29)), (1, .ref (G.2.1 r1)), (2, .int x2), (3, .int x3)]) X.1 X.2.1 d_X3_countWays_60 hl (by decide) rfl (fun ls hl => ?_)
        refine lv_aload_n X.1 X.2.1 d_X3_countWays_62 rfl (lv_at hl 4 rfl) ?_
        refine gf_5_2 X hw hk1 tb_246 d_X3_countWays_63 ?_
        refine lv_topi (fun x7_6 e_x7_6 => ?_)
        have hD := hD x7_6 e_x7_6
        refine lv_istore (lv' := [(7, .int x7_6), (6, .int x6_5), (5, .int r_1), (4, .ref (G.2.1 (31 + 1 + Int32.toNatClampNeg x2))), (0, .ref (G.2.1 29)), (1, .ref (G.2.1 r1)), (2, .int x2), (3, .int x3)]) X.1 X.2.1 d_X3_countWays_66 hl (by decide) rfl (fun ls hl => ?_)
        refine lv_iconst (v := 0) X.1 X.2.1 d_X3_countWays_68 (by decide) ?_
        refine lv_istore (lv' := [(8, .int 0), (7, .int x7_6), (6, .int x6_5), (5, .int r_1), (4, .ref (G.2.1 (31 + 1 + Int32.toNatClampNeg x2))), (0, .ref (G.2.1 29)), (1, .ref (G.2.1 r1)), (2, .int x2), (3, .int x3)]) X.1 X.2.1 d_X3_countWays_69 hl (by decide) rfl (fun ls hl => ?_)
        obtain ⟨n9, hD⟩ := hD
        exact sl_X3_countWays_71 X hr hlk SF hSF  Q  n9 r1 x2 x3 (31 + 1 + Int32.toNatClampNeg x2) r_1 x6_5 x7_6 0 σ_4 _ _ _ hk1 (le_16 ly_3_2.1 q_17) hw (lv_sub hl [5, 6, 7, 8, 4, 3, 2, 1, 0] rfl) hD
      · have hD := hD.2 q_52
        exact g_vret X hr hlk hw hD d_X3_countWays_55
    · have hD := hD.2 q_8
      exact g_vret X hr hlk hw hD d_X3_countWays_11
theorem c_X3_countWays : ∀ (n : Nat) (l : Launch) (G : GC) (r1 : Nat) (x2 : Int32) (x3 : Int32) (σ : GSt) (Q : GSt → Prop), kd r1 = 5 →  D_X3_countWays n r1 x2 x3 σ Q → MV l ym_X3_countWays cm_X3_countWays 9 (rmr_X3_countWays n) G σ [.ref (G.2.1 29), .ref (G.2.1 r1), .int x2, .int x3] Q := by
  intro n
  induction n with
  | zero => intro l G; intros; exact (by assumption : False).elim
  | succ n ih =>
    intro l G r1 x2 x3 σ Q hr1 hD
    refine met_v (by decide) (Nat.le_of_ble_eq_true rfl) ?_
    intro p e s m args below meth c X hr hlk hw ls hl
    exact s_X3_countWays_0 X hr hlk (D_X3_countWays n) ih Q  r1 hr1 x2 x3 σ hw (lv_sub hl [0, 1, 2, 3] rfl) hD
theorem hd_X3_isSpent : ym_X3_isSpent.cls = "GameLoom$Looker" ∧ ym_X3_isSpent.cls ≠ "java/lang/invoke/MethodHandle" ∧ ym_X3_isSpent.cls ≠ "java/lang/invoke/VarHandle" ∧ (parseMethodDescriptor ym_X3_isSpent.desc).map (fun d => d.parameters.length) = some 2 := by decide +kernel
abbrev rm_X3_isSpent : Room := { frames := 13, cells := 0, slots := 0, locals := 335 }
theorem d_X3_isSpent_0 : decode cm_X3_isSpent 0 = .ok (.iconst 0, 1) := by decide +kernel
theorem d_X3_isSpent_1 : decode cm_X3_isSpent 1 = .ok (.istore_n 3, 1) := by decide +kernel
theorem d_X3_isSpent_2 : decode cm_X3_isSpent 2 = .ok (.iload_n 3, 1) := by decide +kernel
theorem d_X3_isSpent_3 : decode cm_X3_isSpent 3 = .ok (.bipush 6, 2) := by decide +kernel
theorem d_X3_isSpent_5 : decode cm_X3_isSpent 5 = .ok (.if_icmp .gt 16, 3) := by decide +kernel
theorem d_X3_isSpent_8 : decode cm_X3_isSpent 8 = .ok (.aload_n 0, 1) := by decide +kernel
theorem d_X3_isSpent_9 : decode cm_X3_isSpent 9 = .ok (.getfield 9, 3) := by decide +kernel
theorem d_X3_isSpent_12 : decode cm_X3_isSpent 12 = .ok (.iload_n 3, 1) := by decide +kernel
theorem d_X3_isSpent_13 : decode cm_X3_isSpent 13 = .ok (.iconst 0, 1) := by decide +kernel
theorem d_X3_isSpent_14 : decode cm_X3_isSpent 14 = .ok (.iastore, 1) := by decide +kernel
theorem d_X3_isSpent_15 : decode cm_X3_isSpent 15 = .ok (.iinc 3 1, 3) := by decide +kernel
theorem d_X3_isSpent_18 : decode cm_X3_isSpent 18 = .ok (.goto (-16), 3) := by decide +kernel
theorem d_X3_isSpent_21 : decode cm_X3_isSpent 21 = .ok (.aload_n 0, 1) := by decide +kernel
theorem d_X3_isSpent_22 : decode cm_X3_isSpent 22 = .ok (.iconst 0, 1) := by decide +kernel
theorem d_X3_isSpent_23 : decode cm_X3_isSpent 23 = .ok (.putfield 20, 3) := by decide +kernel
theorem d_X3_isSpent_26 : decode cm_X3_isSpent 26 = .ok (.aload_n 0, 1) := by decide +kernel
theorem d_X3_isSpent_27 : decode cm_X3_isSpent 27 = .ok (.aload_n 1, 1) := by decide +kernel
theorem d_X3_isSpent_28 : decode cm_X3_isSpent 28 = .ok (.iconst 1, 1) := by decide +kernel
theorem d_X3_isSpent_29 : decode cm_X3_isSpent 29 = .ok (.iload_n 2, 1) := by decide +kernel
theorem d_X3_isSpent_30 : decode cm_X3_isSpent 30 = .ok (.invokevirtual 24, 3) := by decide +kernel
theorem d_X3_isSpent_33 : decode cm_X3_isSpent 33 = .ok (.aload_n 0, 1) := by decide +kernel
theorem d_X3_isSpent_34 : decode cm_X3_isSpent 34 = .ok (.getfield 20, 3) := by decide +kernel
theorem d_X3_isSpent_37 : decode cm_X3_isSpent 37 = .ok (.sipush 3000, 3) := by decide +kernel
theorem d_X3_isSpent_40 : decode cm_X3_isSpent 40 = .ok (.if_icmp .le 7, 3) := by decide +kernel
theorem d_X3_isSpent_43 : decode cm_X3_isSpent 43 = .ok (.iconst 1, 1) := by decide +kernel
theorem d_X3_isSpent_44 : decode cm_X3_isSpent 44 = .ok (.goto 4, 3) := by decide +kernel
theorem d_X3_isSpent_47 : decode cm_X3_isSpent 47 = .ok (.iconst 0, 1) := by decide +kernel
theorem d_X3_isSpent_48 : decode cm_X3_isSpent 48 = .ok (.ireturn, 1) := by decide +kernel
def D_X3_isSpent_2 (K2 : Nat → Int32 → Int32 → GSt → Prop) (Q : Int32 → GSt → Prop) (r1 : Nat) (x2 : Int32) (x3 : Int32) (σ : GSt) : Prop :=
  (6 < x3 → ∀ σ_1 : GSt, σ_1 = up2 σ 29 1 0 → (D_X3_countWays 8 r1 1 x2 σ_1 (fun σ_2 => ((σ_2 29 1) ≤ 3000 → Q 0 σ_2) ∧
  (¬ (σ_2 29 1) ≤ 3000 → Q 1 σ_2)))) ∧
  (¬ 6 < x3 → vp_in x3 7 ∧ (∀ σ_3 : GSt, σ_3 = up2 σ 30 (Int32.toNatClampNeg x3) 0 → (∀ x3_4 : Int32, x3_4 = x3 + 1 → (K2 r1 x2 x3_4 σ_3))))
def L_X3_isSpent_2 (Q : Int32 → GSt → Prop) : Nat → Nat → Int32 → Int32 → GSt → Prop
  | 0 => fun _ _ _ _ => False
  | n + 1 => fun r1 x2 x3 σ => D_X3_isSpent_2 (L_X3_isSpent_2 Q n) Q r1 x2 x3 σ
def D_X3_isSpent_0 (Q : Int32 → GSt → Prop) (r1 : Nat) (x2 : Int32) (σ : GSt) : Prop :=
  ∃ n : Nat, L_X3_isSpent_2 Q n r1 x2 0 σ
def D_X3_isSpent (r1 : Nat) (x2 : Int32) (σ : GSt) (Q : Int32 → GSt → Prop) : Prop := D_X3_isSpent_0 Q r1 x2 σ
set_option maxRecDepth 20000 in
set_option maxHeartbeats 4000000 in
theorem s_X3_isSpent_2 {p : Program} {l : Launch} {e : Env} {s : State} {m : MethodId} {args : Array Value} {below : List Frame} {meth : Method} {c : Code} {G : GC} (X : CallFix p m c cm_X3_isSpent 4 s args lw_us "GameLoom$Looker") (hr : meth.sig.returnType = some .boolean) (hlk : meth.locks = false) (K2 : Nat → Int32 → Int32 → GSt → Prop) (Q : Int32 → GSt → Prop) (hK2 : ∀ (r1 : Nat) (x2 : Int32) (x3 : Int32) (σ : GSt) (H : Heap) (locs : List Loc) (ls : Array Slot), kd r1 = 5 → Wo G s H locs σ → lv_has ls 4 [(0, .ref (G.2.1 29)), (1, .ref (G.2.1 r1)), (2, .int x2), (3, .int x3)] → K2 r1 x2 x3 σ → W p l e rm_X3_isSpent s m args below meth c H locs 0 0 (QMI G Q below args s) (F0 m 2 ls [])) (r1 : Nat) (hk1 : kd r1 = 5) (x2 : Int32) (x3 : Int32) (σ : GSt) {H : Heap} {locs : List Loc} {ls : Array Slot} (hw : Wo G s H locs σ) (hl : lv_has ls 4 [(0, .ref (G.2.1 29)), (1, .ref (G.2.1 r1)), (2, .int x2), (3, .int x3)]) (hD : D_X3_isSpent_2 K2 Q r1 x2 x3 σ) : W p l e rm_X3_isSpent s m args below meth c H locs 0 0 (QMI G Q below args s) (F0 m 2 ls []) := by
  unfold D_X3_isSpent_2 at hD
  refine lv_iload_n X.1 X.2.1 d_X3_isSpent_2 rfl (lv_at hl 3 rfl) ?_
  refine lv_bipush (v := 6) X.1 X.2.1 d_X3_isSpent_3 (by decide) ?_
  refine lv_icmp_gt (tgt := 21) X.1 X.2.1 d_X3_isSpent_5 (by decide) (fun q_5 => ?_) (fun q_5 => ?_)
  · have hD := hD.1 q_5
    refine lv_aload_n X.1 X.2.1 d_X3_isSpent_21 rfl (lv_at hl 0 rfl) ?_
    refine lv_iconst (v := 0) X.1 X.2.1 d_X3_isSpent_22 (by decide) ?_
    refine pf_3_1 X hw (by decide +kernel : kd 29 = 3) tb_216 d_X3_isSpent_23 (fun H locs hw => ?_)
    obtain ⟨σ_1, e_σ_1⟩ : ∃ z : GSt, z = up2 σ 29 1 0 := ⟨_, rfl⟩
    rw [← e_σ_1] at hw
    have hD := hD σ_1 e_σ_1
    refine lv_aload_n X.1 X.2.1 d_X3_isSpent_26 rfl (lv_at hl 0 rfl) ?_
    refine lv_aload_n X.1 X.2.1 d_X3_isSpent_27 rfl (lv_at hl 1 rfl) ?_
    refine lv_iconst (v := 1) X.1 X.2.1 d_X3_isSpent_28 (by decide) ?_
    refine lv_iload_n X.1 X.2.1 d_X3_isSpent_29 rfl (lv_at hl 2 rfl) ?_
    refine gcV_v (rest := []) (As := [.ref (G.2.1 r1), .int 1, .int x2]) (o := 29) X hw (c_X3_countWays 8 l G r1 1 x2 σ_1 _ hk1 hD) (kd_lt (by decide +kernel : kd 29 = 3) (by decide)) (ce_3 G _ (by decide +kernel : kd 29 = 3)) rfl tb_682 tb_684 tv_26 tb_7 tb_685 hd_X3_countWays ⟨rfl, rfl⟩ ⟨Nat.le_of_ble_eq_true rfl, Nat.le_of_ble_eq_true rfl⟩ rfl hl.1 rfl (Nat.le_of_ble_eq_true rfl) d_X3_isSpent_30 (fun σ_2 H locs hD hw => ?_)
    refine lv_aload_n X.1 X.2.1 d_X3_isSpent_33 rfl (lv_at hl 0 rfl) ?_
    refine gf_3_1 X hw (by decide +kernel : kd 29 = 3) tb_216 d_X3_isSpent_34 ?_
    refine lv_sipush (v := 3000) X.1 X.2.1 d_X3_isSpent_37 (by decide) ?_
    refine lv_icmp_le (tgt := 47) X.1 X.2.1 d_X3_isSpent_40 (by decide) (fun q_40 => ?_) (fun q_40 => ?_)
    · have hD := hD.1 q_40
      refine lv_iconst (v := 0) X.1 X.2.1 d_X3_isSpent_47 (by decide) ?_
      exact g_zret X hr hlk hw (by decide) hD d_X3_isSpent_48
    · have hD := hD.2 q_40
      refine lv_iconst (v := 1) X.1 X.2.1 d_X3_isSpent_43 (by decide) ?_
      refine lv_goto (tgt := 48) X.1 X.2.1 d_X3_isSpent_44 (by decide) ?_
      exact g_zret X hr hlk hw (by decide) hD d_X3_isSpent_48
  · have hD := hD.2 q_5
    refine lv_aload_n X.1 X.2.1 d_X3_isSpent_8 rfl (lv_at hl 0 rfl) ?_
    refine gf_3_0 X hw (by decide +kernel : kd 29 = 3) tb_213 d_X3_isSpent_9 ?_
    refine lv_iload_n X.1 X.2.1 d_X3_isSpent_12 rfl (lv_at hl 3 rfl) ?_
    refine lv_iconst (v := 0) X.1 X.2.1 d_X3_isSpent_13 (by decide) ?_
    obtain ⟨q_14, hD⟩ := hD
    refine g_iast X hw ly_3_0.1 ly_3_0.2 q_14 d_X3_isSpent_14 (fun H locs hw => ?_)
    obtain ⟨σ_3, e_σ_3⟩ : ∃ z : GSt, z = up2 σ 30 (Int32.toNatClampNeg x3) 0 := ⟨_, rfl⟩
    rw [← e_σ_3] at hw
    have hD := hD σ_3 e_σ_3
    obtain ⟨x3_4, e_x3_4⟩ : ∃ y : Int32, y = x3 + 1 := ⟨_, rfl⟩
    have hD := hD x3_4 e_x3_4
    refine lv_iinc (v := x3_4) (lv' := [(3, .int x3_4), (0, .ref (G.2.1 29)), (1, .ref (G.2.1 r1)), (2, .int x2)]) X.1 X.2.1 d_X3_isSpent_15 hl (k := 3) rfl (by rw [e_x3_4]; rfl) (by decide) rfl (fun ls hl => ?_)
    refine lv_goto (tgt := 2) X.1 X.2.1 d_X3_isSpent_18 (by decide) ?_
    exact hK2 r1 x2 x3_4 σ_3 _ _ _ hk1 hw (lv_sub hl [1, 2, 3, 0] rfl) hD
set_option maxRecDepth 20000 in
set_option maxHeartbeats 4000000 in
theorem sl_X3_isSpent_2 {p : Program} {l : Launch} {e : Env} {s : State} {m : MethodId} {args : Array Value} {below : List Frame} {meth : Method} {c : Code} {G : GC} (X : CallFix p m c cm_X3_isSpent 4 s args lw_us "GameLoom$Looker") (hr : meth.sig.returnType = some .boolean) (hlk : meth.locks = false) (Q : Int32 → GSt → Prop) : ∀ (nn : Nat), ∀ (r1 : Nat) (x2 : Int32) (x3 : Int32) (σ : GSt) (H : Heap) (locs : List Loc) (ls : Array Slot), kd r1 = 5 → Wo G s H locs σ → lv_has ls 4 [(0, .ref (G.2.1 29)), (1, .ref (G.2.1 r1)), (2, .int x2), (3, .int x3)] → L_X3_isSpent_2 Q nn r1 x2 x3 σ → W p l e rm_X3_isSpent s m args below meth c H locs 0 0 (QMI G Q below args s) (F0 m 2 ls []) := by
  intro nn
  induction nn with
  | zero => intro r1 x2 x3 σ H locs ls hk1 hw hl hD; exact hD.elim
  | succ nn ih =>
    intro r1 x2 x3 σ H locs ls hk1 hw hl hD
    exact s_X3_isSpent_2 X hr hlk (L_X3_isSpent_2 Q nn) Q ih r1 hk1 x2 x3 σ hw hl hD
set_option maxRecDepth 20000 in
set_option maxHeartbeats 4000000 in
theorem s_X3_isSpent_0 {p : Program} {l : Launch} {e : Env} {s : State} {m : MethodId} {args : Array Value} {below : List Frame} {meth : Method} {c : Code} {G : GC} (X : CallFix p m c cm_X3_isSpent 4 s args lw_us "GameLoom$Looker") (hr : meth.sig.returnType = some .boolean) (hlk : meth.locks = false) (Q : Int32 → GSt → Prop) (r1 : Nat) (hk1 : kd r1 = 5) (x2 : Int32) (σ : GSt) {H : Heap} {locs : List Loc} {ls : Array Slot} (hw : Wo G s H locs σ) (hl : lv_has ls 4 [(0, .ref (G.2.1 29)), (1, .ref (G.2.1 r1)), (2, .int x2)]) (hD : D_X3_isSpent_0 Q r1 x2 σ) : W p l e rm_X3_isSpent s m args below meth c H locs 0 0 (QMI G Q below args s) (F0 m 0 ls []) := by
  unfold D_X3_isSpent_0 at hD
  refine lv_iconst (v := 0) X.1 X.2.1 d_X3_isSpent_0 (by decide) ?_
  refine lv_istore_n (lv' := [(3, .int 0), (0, .ref (G.2.1 29)), (1, .ref (G.2.1 r1)), (2, .int x2)]) X.1 X.2.1 d_X3_isSpent_1 rfl hl (by decide) rfl (fun ls hl => ?_)
  obtain ⟨n9, hD⟩ := hD
  exact sl_X3_isSpent_2 X hr hlk  Q  n9 r1 x2 0 σ _ _ _ hk1 hw (lv_sub hl [1, 2, 3, 0] rfl) hD
theorem c_X3_isSpent (l : Launch) (G : GC) (r1 : Nat) (x2 : Int32) (σ : GSt) (Q : Int32 → GSt → Prop) (hr1 : kd r1 = 5) (hD : D_X3_isSpent r1 x2 σ Q) : MI l ym_X3_isSpent cm_X3_isSpent 4 .boolean rm_X3_isSpent G σ [.ref (G.2.1 29), .ref (G.2.1 r1), .int x2] Q := by
  refine met_i (by decide) (Nat.le_of_ble_eq_true rfl) ?_
  intro p e s m args below meth c X hr hlk hw ls hl
  exact s_X3_isSpent_0 X hr hlk Q  r1 hr1 x2 σ hw (lv_sub hl [0, 1, 2] rfl) hD
theorem hd_X5_begin : ym_X5_begin.cls = "GameLoom$Position" ∧ ym_X5_begin.cls ≠ "java/lang/invoke/MethodHandle" ∧ ym_X5_begin.cls ≠ "java/lang/invoke/VarHandle" ∧ (parseMethodDescriptor ym_X5_begin.desc).map (fun d => d.parameters.length) = some 1 := by decide +kernel
abbrev rm_X5_begin : Room := { frames := 2, cells := 0, slots := 0, locals := 54 }
theorem d_X5_begin_0 : decode cm_X5_begin 0 = .ok (.aload_n 0, 1) := by decide +kernel
theorem d_X5_begin_1 : decode cm_X5_begin 1 = .ok (.aload_n 1, 1) := by decide +kernel
theorem d_X5_begin_2 : decode cm_X5_begin 2 = .ok (.putfield 9, 3) := by decide +kernel
theorem d_X5_begin_5 : decode cm_X5_begin 5 = .ok (.aload_n 0, 1) := by decide +kernel
theorem d_X5_begin_6 : decode cm_X5_begin 6 = .ok (.iconst 0, 1) := by decide +kernel
theorem d_X5_begin_7 : decode cm_X5_begin 7 = .ok (.putfield 15, 3) := by decide +kernel
theorem d_X5_begin_10 : decode cm_X5_begin 10 = .ok (.aload_n 0, 1) := by decide +kernel
theorem d_X5_begin_11 : decode cm_X5_begin 11 = .ok (.aload_n 1, 1) := by decide +kernel
theorem d_X5_begin_12 : decode cm_X5_begin 12 = .ok (.getfield 19, 3) := by decide +kernel
theorem d_X5_begin_15 : decode cm_X5_begin 15 = .ok (.aload_n 1, 1) := by decide +kernel
theorem d_X5_begin_16 : decode cm_X5_begin 16 = .ok (.getfield 24, 3) := by decide +kernel
theorem d_X5_begin_19 : decode cm_X5_begin 19 = .ok (.invokevirtual 27, 3) := by decide +kernel
theorem d_X5_begin_22 : decode cm_X5_begin 22 = .ok (.aload_n 0, 1) := by decide +kernel
theorem d_X5_begin_23 : decode cm_X5_begin 23 = .ok (.invokevirtual 31, 3) := by decide +kernel
theorem d_X5_begin_26 : decode cm_X5_begin 26 = .ok (.ifCond .ne 11, 3) := by decide +kernel
theorem d_X5_begin_29 : decode cm_X5_begin 29 = .ok (.aload_n 0, 1) := by decide +kernel
theorem d_X5_begin_30 : decode cm_X5_begin 30 = .ok (.iconst 2, 1) := by decide +kernel
theorem d_X5_begin_31 : decode cm_X5_begin 31 = .ok (.iconst 2, 1) := by decide +kernel
theorem d_X5_begin_32 : decode cm_X5_begin 32 = .ok (.bipush (-9), 2) := by decide +kernel
theorem d_X5_begin_34 : decode cm_X5_begin 34 = .ok (.invokevirtual 35, 3) := by decide +kernel
theorem d_X5_begin_37 : decode cm_X5_begin 37 = .ok (.return_, 1) := by decide +kernel
def D_X5_begin_0 (Q : GSt → Prop) (o : Nat) (r1 : Nat) (σ : GSt) : Prop :=
  ∀ σ_1 : GSt, σ_1 = up2 σ o 0 (nI r1) → (∀ σ_2 : GSt, σ_2 = up2 σ_1 o 3 0 → (D_X5_stand o (σ_2 r1 2) (σ_2 r1 3) σ_2 (fun σ_3 => D_X5_hasMove o σ_3 (fun r_4 σ_5 => (¬ r_4 = 0 → Q σ_5) ∧
  (r_4 = 0 → D_X5_close o 2 2 (-9) σ_5 (fun σ_6 => Q σ_6))))))
def D_X5_begin (o : Nat) (r1 : Nat) (σ : GSt) (Q : GSt → Prop) : Prop := D_X5_begin_0 Q o r1 σ
set_option maxRecDepth 20000 in
set_option maxHeartbeats 4000000 in
theorem s_X5_begin_0 {p : Program} {l : Launch} {e : Env} {s : State} {m : MethodId} {args : Array Value} {below : List Frame} {meth : Method} {c : Code} {G : GC} (X : CallFix p m c cm_X5_begin 2 s args lw_us "GameLoom$Position") (hr : meth.sig.returnType = none) (hlk : meth.locks = false) (Q : GSt → Prop) (o : Nat) (ho : kd o = 5) (r1 : Nat) (hk1 : kd r1 = 1) (σ : GSt) {H : Heap} {locs : List Loc} {ls : Array Slot} (hw : Wo G s H locs σ) (hl : lv_has ls 2 [(0, .ref (G.2.1 o)), (1, .ref (G.2.1 r1))]) (hD : D_X5_begin_0 Q o r1 σ) : W p l e rm_X5_begin s m args below meth c H locs 0 0 (QMV G Q below args s) (F0 m 0 ls []) := by
  unfold D_X5_begin_0 at hD
  refine lv_aload_n X.1 X.2.1 d_X5_begin_0 rfl (lv_at hl 0 rfl) ?_
  refine lv_aload_n X.1 X.2.1 d_X5_begin_1 rfl (lv_at hl 1 rfl) ?_
  refine pf_5_0 X hw ho tb_237 hk1 d_X5_begin_2 (fun H locs hw => ?_)
  obtain ⟨σ_1, e_σ_1⟩ : ∃ z : GSt, z = up2 σ o 0 (nI r1) := ⟨_, rfl⟩
  rw [← e_σ_1] at hw
  have hD := hD σ_1 e_σ_1
  refine lv_aload_n X.1 X.2.1 d_X5_begin_5 rfl (lv_at hl 0 rfl) ?_
  refine lv_iconst (v := 0) X.1 X.2.1 d_X5_begin_6 (by decide) ?_
  refine pf_5_3 X hw ho tb_250 d_X5_begin_7 (fun H locs hw => ?_)
  obtain ⟨σ_2, e_σ_2⟩ : ∃ z : GSt, z = up2 σ_1 o 3 0 := ⟨_, rfl⟩
  rw [← e_σ_2] at hw
  have hD := hD σ_2 e_σ_2
  refine lv_aload_n X.1 X.2.1 d_X5_begin_10 rfl (lv_at hl 0 rfl) ?_
  refine lv_aload_n X.1 X.2.1 d_X5_begin_11 rfl (lv_at hl 1 rfl) ?_
  refine gf_1_2 X hw hk1 tb_159 d_X5_begin_12 ?_
  refine lv_aload_n X.1 X.2.1 d_X5_begin_15 rfl (lv_at hl 1 rfl) ?_
  refine gf_1_3 X hw hk1 tb_161 d_X5_begin_16 ?_
  refine gcV_v (rest := []) (As := [.int (σ_2 r1 2), .int (σ_2 r1 3)]) (o := o) X hw (c_X5_stand l G o (σ_2 r1 2) (σ_2 r1 3) σ_2 _ ho hD) (kd_lt ho (by decide)) (ce_5 G _ ho) rfl tb_551 tb_553 tv_18 tb_9 tb_554 hd_X5_stand ⟨rfl, rfl⟩ ⟨Nat.le_of_ble_eq_true rfl, Nat.le_of_ble_eq_true rfl⟩ rfl hl.1 rfl (Nat.le_of_ble_eq_true rfl) d_X5_begin_19 (fun σ_3 H locs hD hw => ?_)
  refine lv_aload_n X.1 X.2.1 d_X5_begin_22 rfl (lv_at hl 0 rfl) ?_
  refine gcV_i (rest := []) (As := []) (o := o) X hw (c_X5_hasMove l G o σ_3 _ ho hD) (kd_lt ho (by decide)) (ce_5 G _ ho) rfl tb_555 tb_557 tv_19 tb_9 tb_558 hd_X5_hasMove ⟨rfl, rfl⟩ ⟨Nat.le_of_ble_eq_true rfl, Nat.le_of_ble_eq_true rfl⟩ rfl hl.1 rfl (Nat.le_of_ble_eq_true rfl) d_X5_begin_23 (fun r_4 σ_5 H locs hD hw => ?_)
  refine lv_if_ne (tgt := 37) X.1 X.2.1 d_X5_begin_26 (by decide) (fun q_26 => ?_) (fun q_26 => ?_)
  · have hD := hD.1 q_26
    exact g_vret X hr hlk hw hD d_X5_begin_37
  · have hD := hD.2 q_26
    refine lv_aload_n X.1 X.2.1 d_X5_begin_29 rfl (lv_at hl 0 rfl) ?_
    refine lv_iconst (v := 2) X.1 X.2.1 d_X5_begin_30 (by decide) ?_
    refine lv_iconst (v := 2) X.1 X.2.1 d_X5_begin_31 (by decide) ?_
    refine lv_bipush (v := (-9)) X.1 X.2.1 d_X5_begin_32 (by decide) ?_
    refine gcV_v (rest := []) (As := [.int 2, .int 2, .int (-9)]) (o := o) X hw (c_X5_close l G o 2 2 (-9) σ_5 _ ho hD) (kd_lt ho (by decide)) (ce_5 G _ ho) rfl tb_569 tb_571 tv_21 tb_9 tb_572 hd_X5_close ⟨rfl, rfl⟩ ⟨Nat.le_of_ble_eq_true rfl, Nat.le_of_ble_eq_true rfl⟩ rfl hl.1 rfl (Nat.le_of_ble_eq_true rfl) d_X5_begin_34 (fun σ_6 H locs hD hw => ?_)
    exact g_vret X hr hlk hw hD d_X5_begin_37
theorem c_X5_begin (l : Launch) (G : GC) (o : Nat) (r1 : Nat) (σ : GSt) (Q : GSt → Prop) (ho : kd o = 5) (hr1 : kd r1 = 1) (hD : D_X5_begin o r1 σ Q) : MV l ym_X5_begin cm_X5_begin 2 rm_X5_begin G σ [.ref (G.2.1 o), .ref (G.2.1 r1)] Q := by
  refine met_v (by decide) (Nat.le_of_ble_eq_true rfl) ?_
  intro p e s m args below meth c X hr hlk hw ls hl
  exact s_X5_begin_0 X hr hlk Q o ho r1 hr1 σ hw (lv_sub hl [0, 1] rfl) hD
theorem hd_X2_sameWays : ym_X2_sameWays.cls = "GameLoom$Judge" ∧ ym_X2_sameWays.cls ≠ "java/lang/invoke/MethodHandle" ∧ ym_X2_sameWays.cls ≠ "java/lang/invoke/VarHandle" ∧ (parseMethodDescriptor ym_X2_sameWays.desc).map (fun d => d.parameters.length) = some 3 := by decide +kernel
abbrev rm_X2_sameWays : Room := { frames := 14, cells := 0, slots := 0, locals := 358 }
theorem d_X2_sameWays_0 : decode cm_X2_sameWays 0 = .ok (.aload_n 0, 1) := by decide +kernel
theorem d_X2_sameWays_1 : decode cm_X2_sameWays 1 = .ok (.getfield 12, 3) := by decide +kernel
theorem d_X2_sameWays_4 : decode cm_X2_sameWays 4 = .ok (.aload_n 1, 1) := by decide +kernel
theorem d_X2_sameWays_5 : decode cm_X2_sameWays 5 = .ok (.invokevirtual 29, 3) := by decide +kernel
theorem d_X2_sameWays_8 : decode cm_X2_sameWays 8 = .ok (.aload_n 0, 1) := by decide +kernel
theorem d_X2_sameWays_9 : decode cm_X2_sameWays 9 = .ok (.getfield 25, 3) := by decide +kernel
theorem d_X2_sameWays_12 : decode cm_X2_sameWays 12 = .ok (.aload_n 0, 1) := by decide +kernel
theorem d_X2_sameWays_13 : decode cm_X2_sameWays 13 = .ok (.getfield 12, 3) := by decide +kernel
theorem d_X2_sameWays_16 : decode cm_X2_sameWays 16 = .ok (.iload_n 3, 1) := by decide +kernel
theorem d_X2_sameWays_17 : decode cm_X2_sameWays 17 = .ok (.invokevirtual 33, 3) := by decide +kernel
theorem d_X2_sameWays_20 : decode cm_X2_sameWays 20 = .ok (.ifCond .eq 6, 3) := by decide +kernel
theorem d_X2_sameWays_23 : decode cm_X2_sameWays 23 = .ok (.bipush (-5), 2) := by decide +kernel
theorem d_X2_sameWays_25 : decode cm_X2_sameWays 25 = .ok (.ireturn, 1) := by decide +kernel
theorem d_X2_sameWays_26 : decode cm_X2_sameWays 26 = .ok (.aload_n 0, 1) := by decide +kernel
theorem d_X2_sameWays_27 : decode cm_X2_sameWays 27 = .ok (.getfield 25, 3) := by decide +kernel
theorem d_X2_sameWays_30 : decode cm_X2_sameWays 30 = .ok (.getfield 39, 3) := by decide +kernel
theorem d_X2_sameWays_33 : decode cm_X2_sameWays 33 = .ok (.iconst 0, 1) := by decide +kernel
theorem d_X2_sameWays_34 : decode cm_X2_sameWays 34 = .ok (.aload_n 0, 1) := by decide +kernel
theorem d_X2_sameWays_35 : decode cm_X2_sameWays 35 = .ok (.getfield 22, 3) := by decide +kernel
theorem d_X2_sameWays_38 : decode cm_X2_sameWays 38 = .ok (.iconst 0, 1) := by decide +kernel
theorem d_X2_sameWays_39 : decode cm_X2_sameWays 39 = .ok (.bipush 7, 2) := by decide +kernel
theorem d_X2_sameWays_41 : decode cm_X2_sameWays 41 = .ok (.invokestatic 42, 3) := by decide +kernel
theorem d_X2_sameWays_44 : decode cm_X2_sameWays 44 = .ok (.aload_n 0, 1) := by decide +kernel
theorem d_X2_sameWays_45 : decode cm_X2_sameWays 45 = .ok (.getfield 12, 3) := by decide +kernel
theorem d_X2_sameWays_48 : decode cm_X2_sameWays 48 = .ok (.aload_n 2, 1) := by decide +kernel
theorem d_X2_sameWays_49 : decode cm_X2_sameWays 49 = .ok (.invokevirtual 29, 3) := by decide +kernel
theorem d_X2_sameWays_52 : decode cm_X2_sameWays 52 = .ok (.aload_n 0, 1) := by decide +kernel
theorem d_X2_sameWays_53 : decode cm_X2_sameWays 53 = .ok (.getfield 25, 3) := by decide +kernel
theorem d_X2_sameWays_56 : decode cm_X2_sameWays 56 = .ok (.aload_n 0, 1) := by decide +kernel
theorem d_X2_sameWays_57 : decode cm_X2_sameWays 57 = .ok (.getfield 12, 3) := by decide +kernel
theorem d_X2_sameWays_60 : decode cm_X2_sameWays 60 = .ok (.iload_n 3, 1) := by decide +kernel
theorem d_X2_sameWays_61 : decode cm_X2_sameWays 61 = .ok (.invokevirtual 33, 3) := by decide +kernel
theorem d_X2_sameWays_64 : decode cm_X2_sameWays 64 = .ok (.ifCond .eq 6, 3) := by decide +kernel
theorem d_X2_sameWays_67 : decode cm_X2_sameWays 67 = .ok (.bipush (-5), 2) := by decide +kernel
theorem d_X2_sameWays_69 : decode cm_X2_sameWays 69 = .ok (.ireturn, 1) := by decide +kernel
theorem d_X2_sameWays_70 : decode cm_X2_sameWays 70 = .ok (.iconst 1, 1) := by decide +kernel
theorem d_X2_sameWays_71 : decode cm_X2_sameWays 71 = .ok (.istore 4, 2) := by decide +kernel
theorem d_X2_sameWays_73 : decode cm_X2_sameWays 73 = .ok (.iload 4, 2) := by decide +kernel
theorem d_X2_sameWays_75 : decode cm_X2_sameWays 75 = .ok (.iload_n 3, 1) := by decide +kernel
theorem d_X2_sameWays_76 : decode cm_X2_sameWays 76 = .ok (.if_icmp .gt 38, 3) := by decide +kernel
theorem d_X2_sameWays_79 : decode cm_X2_sameWays 79 = .ok (.iload 4, 2) := by decide +kernel
theorem d_X2_sameWays_81 : decode cm_X2_sameWays 81 = .ok (.bipush 6, 2) := by decide +kernel
theorem d_X2_sameWays_83 : decode cm_X2_sameWays 83 = .ok (.if_icmp .gt 31, 3) := by decide +kernel
theorem d_X2_sameWays_86 : decode cm_X2_sameWays 86 = .ok (.aload_n 0, 1) := by decide +kernel
theorem d_X2_sameWays_87 : decode cm_X2_sameWays 87 = .ok (.getfield 25, 3) := by decide +kernel
theorem d_X2_sameWays_90 : decode cm_X2_sameWays 90 = .ok (.getfield 39, 3) := by decide +kernel
theorem d_X2_sameWays_93 : decode cm_X2_sameWays 93 = .ok (.iload 4, 2) := by decide +kernel
theorem d_X2_sameWays_95 : decode cm_X2_sameWays 95 = .ok (.iaload, 1) := by decide +kernel
theorem d_X2_sameWays_96 : decode cm_X2_sameWays 96 = .ok (.aload_n 0, 1) := by decide +kernel
theorem d_X2_sameWays_97 : decode cm_X2_sameWays 97 = .ok (.getfield 22, 3) := by decide +kernel
theorem d_X2_sameWays_100 : decode cm_X2_sameWays 100 = .ok (.iload 4, 2) := by decide +kernel
theorem d_X2_sameWays_102 : decode cm_X2_sameWays 102 = .ok (.iaload, 1) := by decide +kernel
theorem d_X2_sameWays_103 : decode cm_X2_sameWays 103 = .ok (.if_icmp .eq 5, 3) := by decide +kernel
theorem d_X2_sameWays_106 : decode cm_X2_sameWays 106 = .ok (.iconst 0, 1) := by decide +kernel
theorem d_X2_sameWays_107 : decode cm_X2_sameWays 107 = .ok (.ireturn, 1) := by decide +kernel
theorem d_X2_sameWays_108 : decode cm_X2_sameWays 108 = .ok (.iinc 4 1, 3) := by decide +kernel
theorem d_X2_sameWays_111 : decode cm_X2_sameWays 111 = .ok (.goto (-38), 3) := by decide +kernel
theorem d_X2_sameWays_114 : decode cm_X2_sameWays 114 = .ok (.iconst 1, 1) := by decide +kernel
theorem d_X2_sameWays_115 : decode cm_X2_sameWays 115 = .ok (.ireturn, 1) := by decide +kernel
def D_X2_sameWays_73 (K73 : Int32 → Int32 → GSt → Prop) (Q : Int32 → GSt → Prop) (x3 : Int32) (x4 : Int32) (σ : GSt) : Prop :=
  (x3 < x4 → Q 1 σ) ∧
  (¬ x3 < x4 → (6 < x4 → Q 1 σ) ∧
  (¬ 6 < x4 → vp_in x4 7 ∧ (vp_in x4 7 ∧ (((σ 30 (Int32.toNatClampNeg x4)) = (σ 52 (Int32.toNatClampNeg x4)) → ∀ x4_1 : Int32, x4_1 = x4 + 1 → (K73 x3 x4_1 σ)) ∧
  (¬ (σ 30 (Int32.toNatClampNeg x4)) = (σ 52 (Int32.toNatClampNeg x4)) → Q 0 σ)))))
def L_X2_sameWays_73 (Q : Int32 → GSt → Prop) : Nat → Int32 → Int32 → GSt → Prop
  | 0 => fun _ _ _ => False
  | n + 1 => fun x3 x4 σ => D_X2_sameWays_73 (L_X2_sameWays_73 Q n) Q x3 x4 σ
def D_X2_sameWays_0 (Q : Int32 → GSt → Prop) (r1 : Nat) (r2 : Nat) (x3 : Int32) (σ : GSt) : Prop :=
  D_X5_begin 50 r1 σ (fun σ_1 => D_X3_isSpent 50 x3 σ_1 (fun r_2 σ_3 => (r_2 = 0 → ∀ σ_4 : GSt, σ_4 = cp2 σ_3 30 52 0 0 7 → (D_X5_begin 50 r2 σ_4 (fun σ_5 => D_X3_isSpent 50 x3 σ_5 (fun r_6 σ_7 => (r_6 = 0 → ∃ n : Nat, L_X2_sameWays_73 Q n x3 1 σ_7) ∧
  (¬ r_6 = 0 → Q (-5) σ_7))))) ∧
  (¬ r_2 = 0 → Q (-5) σ_3)))
def D_X2_sameWays (r1 : Nat) (r2 : Nat) (x3 : Int32) (σ : GSt) (Q : Int32 → GSt → Prop) : Prop := D_X2_sameWays_0 Q r1 r2 x3 σ
set_option maxRecDepth 20000 in
set_option maxHeartbeats 4000000 in
theorem s_X2_sameWays_73 {p : Program} {l : Launch} {e : Env} {s : State} {m : MethodId} {args : Array Value} {below : List Frame} {meth : Method} {c : Code} {G : GC} (X : CallFix p m c cm_X2_sameWays 5 s args lw_us "GameLoom$Judge") (hr : meth.sig.returnType = some .int) (hlk : meth.locks = false) (K73 : Int32 → Int32 → GSt → Prop) (Q : Int32 → GSt → Prop) (hK73 : ∀ (x3 : Int32) (x4 : Int32) (σ : GSt) (H : Heap) (locs : List Loc) (ls : Array Slot), Wo G s H locs σ → lv_has ls 5 [(0, .ref (G.2.1 49)), (3, .int x3), (4, .int x4)] → K73 x3 x4 σ → W p l e rm_X2_sameWays s m args below meth c H locs 0 0 (QMI G Q below args s) (F0 m 73 ls [])) (x3 : Int32) (x4 : Int32) (σ : GSt) {H : Heap} {locs : List Loc} {ls : Array Slot} (hw : Wo G s H locs σ) (hl : lv_has ls 5 [(0, .ref (G.2.1 49)), (3, .int x3), (4, .int x4)]) (hD : D_X2_sameWays_73 K73 Q x3 x4 σ) : W p l e rm_X2_sameWays s m args below meth c H locs 0 0 (QMI G Q below args s) (F0 m 73 ls []) := by
  unfold D_X2_sameWays_73 at hD
  refine lv_iload X.1 X.2.1 d_X2_sameWays_73 (lv_at hl 2 rfl) ?_
  refine lv_iload_n X.1 X.2.1 d_X2_sameWays_75 rfl (lv_at hl 1 rfl) ?_
  refine lv_icmp_gt (tgt := 114) X.1 X.2.1 d_X2_sameWays_76 (by decide) (fun q_76 => ?_) (fun q_76 => ?_)
  · have hD := hD.1 q_76
    refine lv_iconst (v := 1) X.1 X.2.1 d_X2_sameWays_114 (by decide) ?_
    exact g_iret X hr hlk hw hD d_X2_sameWays_115
  · have hD := hD.2 q_76
    refine lv_iload X.1 X.2.1 d_X2_sameWays_79 (lv_at hl 2 rfl) ?_
    refine lv_bipush (v := 6) X.1 X.2.1 d_X2_sameWays_81 (by decide) ?_
    refine lv_icmp_gt (tgt := 114) X.1 X.2.1 d_X2_sameWays_83 (by decide) (fun q_83 => ?_) (fun q_83 => ?_)
    · have hD := hD.1 q_83
      refine lv_iconst (v := 1) X.1 X.2.1 d_X2_sameWays_114 (by decide) ?_
      exact g_iret X hr hlk hw hD d_X2_sameWays_115
    · have hD := hD.2 q_83
      refine lv_aload_n X.1 X.2.1 d_X2_sameWays_86 rfl (lv_at hl 0 rfl) ?_
      refine gf_2_1 X hw (by decide +kernel : kd 49 = 2) tb_330 d_X2_sameWays_87 ?_
      refine gf_3_0 X hw ly_2_1 tb_214 d_X2_sameWays_90 ?_
      refine lv_iload X.1 X.2.1 d_X2_sameWays_93 (lv_at hl 2 rfl) ?_
      obtain ⟨q_95, hD⟩ := hD
      refine g_iald X hw ly_3_0.1 ly_3_0.2 q_95 d_X2_sameWays_95 ?_
      refine lv_aload_n X.1 X.2.1 d_X2_sameWays_96 rfl (lv_at hl 0 rfl) ?_
      refine gf_2_3 X hw (by decide +kernel : kd 49 = 2) tb_332 d_X2_sameWays_97 ?_
      refine lv_iload X.1 X.2.1 d_X2_sameWays_100 (lv_at hl 2 rfl) ?_
      obtain ⟨q_102, hD⟩ := hD
      refine g_iald X hw ly_2_3.1 ly_2_3.2 q_102 d_X2_sameWays_102 ?_
      refine lv_icmp_eq (tgt := 108) X.1 X.2.1 d_X2_sameWays_103 (by decide) (fun q_103 => ?_) (fun q_103 => ?_)
      · have hD := hD.1 q_103
        obtain ⟨x4_1, e_x4_1⟩ : ∃ y : Int32, y = x4 + 1 := ⟨_, rfl⟩
        have hD := hD x4_1 e_x4_1
        refine lv_iinc (v := x4_1) (lv' := [(4, .int x4_1), (0, .ref (G.2.1 49)), (3, .int x3)]) X.1 X.2.1 d_X2_sameWays_108 hl (k := 2) rfl (by rw [e_x4_1]; rfl) (by decide) rfl (fun ls hl => ?_)
        refine lv_goto (tgt := 73) X.1 X.2.1 d_X2_sameWays_111 (by decide) ?_
        exact hK73 x3 x4_1 σ _ _ _  hw (lv_sub hl [1, 2, 0] rfl) hD
      · have hD := hD.2 q_103
        refine lv_iconst (v := 0) X.1 X.2.1 d_X2_sameWays_106 (by decide) ?_
        exact g_iret X hr hlk hw hD d_X2_sameWays_107
set_option maxRecDepth 20000 in
set_option maxHeartbeats 4000000 in
theorem sl_X2_sameWays_73 {p : Program} {l : Launch} {e : Env} {s : State} {m : MethodId} {args : Array Value} {below : List Frame} {meth : Method} {c : Code} {G : GC} (X : CallFix p m c cm_X2_sameWays 5 s args lw_us "GameLoom$Judge") (hr : meth.sig.returnType = some .int) (hlk : meth.locks = false) (Q : Int32 → GSt → Prop) : ∀ (nn : Nat), ∀ (x3 : Int32) (x4 : Int32) (σ : GSt) (H : Heap) (locs : List Loc) (ls : Array Slot), Wo G s H locs σ → lv_has ls 5 [(0, .ref (G.2.1 49)), (3, .int x3), (4, .int x4)] → L_X2_sameWays_73 Q nn x3 x4 σ → W p l e rm_X2_sameWays s m args below meth c H locs 0 0 (QMI G Q below args s) (F0 m 73 ls []) := by
  intro nn
  induction nn with
  | zero => intro x3 x4 σ H locs ls  hw hl hD; exact hD.elim
  | succ nn ih =>
    intro x3 x4 σ H locs ls  hw hl hD
    exact s_X2_sameWays_73 X hr hlk (L_X2_sameWays_73 Q nn) Q ih x3 x4 σ hw hl hD
set_option maxRecDepth 20000 in
set_option maxHeartbeats 4000000 in
theorem s_X2_sameWays_0 {p : Program} {l : Launch} {e : Env} {s : State} {m : MethodId} {args : Array Value} {below : List Frame} {meth : Method} {c : Code} {G : GC} (X : CallFix p m c cm_X2_sameWays 5 s args lw_us "GameLoom$Judge") (hr : meth.sig.returnType = some .int) (hlk : meth.locks = false) (Q : Int32 → GSt → Prop) (r1 : Nat) (hk1 : kd r1 = 1) (r2 : Nat) (hk2 : kd r2 = 1) (x3 : Int32) (σ : GSt) {H : Heap} {locs : List Loc} {ls : Array Slot} (hw : Wo G s H locs σ) (hl : lv_has ls 5 [(0, .ref (G.2.1 49)), (1, .ref (G.2.1 r1)), (2, .ref (G.2.1 r2)), (3, .int x3)]) (hD : D_X2_sameWays_0 Q r1 r2 x3 σ) : W p l e rm_X2_sameWays s m args below meth c H locs 0 0 (QMI G Q below args s) (F0 m 0 ls []) := by
  unfold D_X2_sameWays_0 at hD
  refine lv_aload_n X.1 X.2.1 d_X2_sameWays_0 rfl (lv_at hl 0 rfl) ?_
  refine gf_2_0 X hw (by decide +kernel : kd 49 = 2) tb_329 d_X2_sameWays_1 ?_
  refine lv_aload_n X.1 X.2.1 d_X2_sameWays_4 rfl (lv_at hl 1 rfl) ?_
  refine gcV_v (rest := []) (As := [.ref (G.2.1 r1)]) (o := 50) X hw (c_X5_begin l G 50 r1 σ _ ly_2_0 hk1 hD) (kd_lt ly_2_0 (by decide)) (ce_5 G _ ly_2_0) rfl tb_836 tb_548 tb_549 tb_9 tb_550 hd_X5_begin ⟨rfl, rfl⟩ ⟨Nat.le_of_ble_eq_true rfl, Nat.le_of_ble_eq_true rfl⟩ rfl hl.1 rfl (Nat.le_of_ble_eq_true rfl) d_X2_sameWays_5 (fun σ_1 H locs hD hw => ?_)
  refine lv_aload_n X.1 X.2.1 d_X2_sameWays_8 rfl (lv_at hl 0 rfl) ?_
  refine gf_2_1 X hw (by decide +kernel : kd 49 = 2) tb_330 d_X2_sameWays_9 ?_
  refine lv_aload_n X.1 X.2.1 d_X2_sameWays_12 rfl (lv_at hl 0 rfl) ?_
  refine gf_2_0 X hw (by decide +kernel : kd 49 = 2) tb_329 d_X2_sameWays_13 ?_
  refine lv_iload_n X.1 X.2.1 d_X2_sameWays_16 rfl (lv_at hl 3 rfl) ?_
  refine gcV_i (rest := []) (As := [.ref (G.2.1 50), .int x3]) (o := 29) X hw (c_X3_isSpent l G 50 x3 σ_1 _ ly_2_0 hD) (kd_lt ly_2_1 (by decide)) (ce_3 G _ ly_2_1) rfl tb_837 tb_679 tb_680 tb_7 tb_681 hd_X3_isSpent ⟨rfl, rfl⟩ ⟨Nat.le_of_ble_eq_true rfl, Nat.le_of_ble_eq_true rfl⟩ rfl hl.1 rfl (Nat.le_of_ble_eq_true rfl) d_X2_sameWays_17 (fun r_2 σ_3 H locs hD hw => ?_)
  refine lv_if_eq (tgt := 26) X.1 X.2.1 d_X2_sameWays_20 (by decide) (fun q_20 => ?_) (fun q_20 => ?_)
  · have hD := hD.1 q_20
    refine lv_aload_n X.1 X.2.1 d_X2_sameWays_26 rfl (lv_at hl 0 rfl) ?_
    refine gf_2_1 X hw (by decide +kernel : kd 49 = 2) tb_330 d_X2_sameWays_27 ?_
    refine gf_3_0 X hw ly_2_1 tb_214 d_X2_sameWays_30 ?_
    refine lv_iconst (v := 0) X.1 X.2.1 d_X2_sameWays_33 (by decide) ?_
    refine lv_aload_n X.1 X.2.1 d_X2_sameWays_34 rfl (lv_at hl 0 rfl) ?_
    refine gf_2_3 X hw (by decide +kernel : kd 49 = 2) tb_332 d_X2_sameWays_35 ?_
    refine lv_iconst (v := 0) X.1 X.2.1 d_X2_sameWays_38 (by decide) ?_
    refine lv_bipush (v := 7) X.1 X.2.1 d_X2_sameWays_39 (by decide) ?_
    refine g_copy7 X hw hl.1 tb_838 ly_3_0.1 ly_3_0.2 ly_2_3.1 ly_2_3.2 (by decide) (Nat.le_of_ble_eq_true rfl) (Nat.le_of_ble_eq_true rfl) d_X2_sameWays_41 (fun H locs hw => ?_)
    obtain ⟨σ_4, e_σ_4⟩ : ∃ z : GSt, z = cp2 σ_3 30 52 0 0 7 := ⟨_, rfl⟩
    rw [← e_σ_4] at hw
    have hD := hD σ_4 e_σ_4
    refine lv_aload_n X.1 X.2.1 d_X2_sameWays_44 rfl (lv_at hl 0 rfl) ?_
    refine gf_2_0 X hw (by decide +kernel : kd 49 = 2) tb_329 d_X2_sameWays_45 ?_
    refine lv_aload_n X.1 X.2.1 d_X2_sameWays_48 rfl (lv_at hl 2 rfl) ?_
    refine gcV_v (rest := []) (As := [.ref (G.2.1 r2)]) (o := 50) X hw (c_X5_begin l G 50 r2 σ_4 _ ly_2_0 hk2 hD) (kd_lt ly_2_0 (by decide)) (ce_5 G _ ly_2_0) rfl tb_836 tb_548 tb_549 tb_9 tb_550 hd_X5_begin ⟨rfl, rfl⟩ ⟨Nat.le_of_ble_eq_true rfl, Nat.le_of_ble_eq_true rfl⟩ rfl hl.1 rfl (Nat.le_of_ble_eq_true rfl) d_X2_sameWays_49 (fun σ_5 H locs hD hw => ?_)
    refine lv_aload_n X.1 X.2.1 d_X2_sameWays_52 rfl (lv_at hl 0 rfl) ?_
    refine gf_2_1 X hw (by decide +kernel : kd 49 = 2) tb_330 d_X2_sameWays_53 ?_
    refine lv_aload_n X.1 X.2.1 d_X2_sameWays_56 rfl (lv_at hl 0 rfl) ?_
    refine gf_2_0 X hw (by decide +kernel : kd 49 = 2) tb_329 d_X2_sameWays_57 ?_
    refine lv_iload_n X.1 X.2.1 d_X2_sameWays_60 rfl (lv_at hl 3 rfl) ?_
    refine gcV_i (rest := []) (As := [.ref (G.2.1 50), .int x3]) (o := 29) X hw (c_X3_isSpent l G 50 x3 σ_5 _ ly_2_0 hD) (kd_lt ly_2_1 (by decide)) (ce_3 G _ ly_2_1) rfl tb_837 tb_679 tb_680 tb_7 tb_681 hd_X3_isSpent ⟨rfl, rfl⟩ ⟨Nat.le_of_ble_eq_true rfl, Nat.le_of_ble_eq_true rfl⟩ rfl hl.1 rfl (Nat.le_of_ble_eq_true rfl) d_X2_sameWays_61 (fun r_6 σ_7 H locs hD hw => ?_)
    refine lv_if_eq (tgt := 70) X.1 X.2.1 d_X2_sameWays_64 (by decide) (fun q_64 => ?_) (fun q_64 => ?_)
    · have hD := hD.1 q_64
      refine lv_iconst (v := 1) X.1 X.2.1 d_X2_sameWays_70 (by decide) ?_
      refine lv_istore (lv' := [(4, .int 1), (0, .ref (G.2.1 49)), (1, .ref (G.2.1 r1)), (2, .ref (G.2.1 r2)), (3, .int x3)]) X.1 X.2.1 d_X2_sameWays_71 hl (by decide) rfl (fun ls hl => ?_)
      obtain ⟨n9, hD⟩ := hD
      exact sl_X2_sameWays_73 X hr hlk  Q  n9 x3 1 σ_7 _ _ _  hw (lv_sub hl [1, 4, 0] rfl) hD
    · have hD := hD.2 q_64
      refine lv_bipush (v := (-5)) X.1 X.2.1 d_X2_sameWays_67 (by decide) ?_
      exact g_iret X hr hlk hw hD d_X2_sameWays_69
  · have hD := hD.2 q_20
    refine lv_bipush (v := (-5)) X.1 X.2.1 d_X2_sameWays_23 (by decide) ?_
    exact g_iret X hr hlk hw hD d_X2_sameWays_25
theorem c_X2_sameWays (l : Launch) (G : GC) (r1 : Nat) (r2 : Nat) (x3 : Int32) (σ : GSt) (Q : Int32 → GSt → Prop) (hr1 : kd r1 = 1) (hr2 : kd r2 = 1) (hD : D_X2_sameWays r1 r2 x3 σ Q) : MI l ym_X2_sameWays cm_X2_sameWays 5 .int rm_X2_sameWays G σ [.ref (G.2.1 49), .ref (G.2.1 r1), .ref (G.2.1 r2), .int x3] Q := by
  refine met_i (by decide) (Nat.le_of_ble_eq_true rfl) ?_
  intro p e s m args below meth c X hr hlk hw ls hl
  exact s_X2_sameWays_0 X hr hlk Q  r1 hr1 r2 hr2 x3 σ hw (lv_sub hl [0, 1, 2, 3] rfl) hD
theorem hd_X10_drawnFrom : ym_X10_drawnFrom.cls ≠ "java/lang/invoke/MethodHandle" ∧ ym_X10_drawnFrom.cls ≠ "java/lang/invoke/VarHandle" ∧ (parseMethodDescriptor ym_X10_drawnFrom.desc).map (fun d => d.parameters.length) = some 2 := by decide +kernel
abbrev rm_X10_drawnFrom : Room := { frames := 0, cells := 0, slots := 0, locals := 0 }
theorem d_X10_drawnFrom_0 : decode cm_X10_drawnFrom 0 = .ok (.iload_n 1, 1) := by decide +kernel
theorem d_X10_drawnFrom_1 : decode cm_X10_drawnFrom 1 = .ok (.iconst 1, 1) := by decide +kernel
theorem d_X10_drawnFrom_2 : decode cm_X10_drawnFrom 2 = .ok (.if_icmp .ge 7, 3) := by decide +kernel
theorem d_X10_drawnFrom_5 : decode cm_X10_drawnFrom 5 = .ok (.iconst 0, 1) := by decide +kernel
theorem d_X10_drawnFrom_6 : decode cm_X10_drawnFrom 6 = .ok (.goto 9, 3) := by decide +kernel
theorem d_X10_drawnFrom_9 : decode cm_X10_drawnFrom 9 = .ok (.iload_n 0, 1) := by decide +kernel
theorem d_X10_drawnFrom_10 : decode cm_X10_drawnFrom 10 = .ok (.bipush 8, 2) := by decide +kernel
theorem d_X10_drawnFrom_12 : decode cm_X10_drawnFrom 12 = .ok (.iushr, 1) := by decide +kernel
theorem d_X10_drawnFrom_13 : decode cm_X10_drawnFrom 13 = .ok (.iload_n 1, 1) := by decide +kernel
theorem d_X10_drawnFrom_14 : decode cm_X10_drawnFrom 14 = .ok (.irem, 1) := by decide +kernel
theorem d_X10_drawnFrom_15 : decode cm_X10_drawnFrom 15 = .ok (.ireturn, 1) := by decide +kernel
def D_X10_drawnFrom_0 (Q : Int32 → GSt → Prop) (x0 : Int32) (x1 : Int32) (σ : GSt) : Prop :=
  (1 ≤ x1 → ¬ x1 = 0 ∧ (Q (jrem (jushr x0 8) x1) σ)) ∧
  (¬ 1 ≤ x1 → Q 0 σ)
def D_X10_drawnFrom (x0 : Int32) (x1 : Int32) (σ : GSt) (Q : Int32 → GSt → Prop) : Prop := D_X10_drawnFrom_0 Q x0 x1 σ
set_option maxRecDepth 20000 in
set_option maxHeartbeats 4000000 in
theorem s_X10_drawnFrom_0 {p : Program} {l : Launch} {e : Env} {s : State} {m : MethodId} {args : Array Value} {below : List Frame} {meth : Method} {c : Code} {G : GC} (X : CallFix p m c cm_X10_drawnFrom 2 s args lw_us "GameLoom") (hr : meth.sig.returnType = some .int) (hlk : meth.locks = false) (Q : Int32 → GSt → Prop) (x0 : Int32) (x1 : Int32) (σ : GSt) {H : Heap} {locs : List Loc} {ls : Array Slot} (hw : Wo G s H locs σ) (hl : lv_has ls 2 [(0, .int x0), (1, .int x1)]) (hD : D_X10_drawnFrom_0 Q x0 x1 σ) : W p l e rm_X10_drawnFrom s m args below meth c H locs 0 0 (QMI G Q below args s) (F0 m 0 ls []) := by
  unfold D_X10_drawnFrom_0 at hD
  refine lv_iload_n X.1 X.2.1 d_X10_drawnFrom_0 rfl (lv_at hl 1 rfl) ?_
  refine lv_iconst (v := 1) X.1 X.2.1 d_X10_drawnFrom_1 (by decide) ?_
  refine lv_icmp_ge (tgt := 9) X.1 X.2.1 d_X10_drawnFrom_2 (by decide) (fun q_2 => ?_) (fun q_2 => ?_)
  · have hD := hD.1 q_2
    refine lv_iload_n X.1 X.2.1 d_X10_drawnFrom_9 rfl (lv_at hl 0 rfl) ?_
    refine lv_bipush (v := 8) X.1 X.2.1 d_X10_drawnFrom_10 (by decide) ?_
    refine lv_iushr (v := (jushr x0 8)) X.1 X.2.1 d_X10_drawnFrom_12 rfl ?_
    refine lv_iload_n X.1 X.2.1 d_X10_drawnFrom_13 rfl (lv_at hl 1 rfl) ?_
    obtain ⟨q_14, hD⟩ := hD
    refine g_irem X d_X10_drawnFrom_14 q_14 ?_
    exact g_iret X hr hlk hw hD d_X10_drawnFrom_15
  · have hD := hD.2 q_2
    refine lv_iconst (v := 0) X.1 X.2.1 d_X10_drawnFrom_5 (by decide) ?_
    refine lv_goto (tgt := 15) X.1 X.2.1 d_X10_drawnFrom_6 (by decide) ?_
    exact g_iret X hr hlk hw hD d_X10_drawnFrom_15
theorem c_X10_drawnFrom (l : Launch) (G : GC) (x0 : Int32) (x1 : Int32) (σ : GSt) (Q : Int32 → GSt → Prop)  (hD : D_X10_drawnFrom x0 x1 σ Q) : MI l ym_X10_drawnFrom cm_X10_drawnFrom 2 .int rm_X10_drawnFrom G σ [.int x0, .int x1] Q := by
  refine met_i (by decide) (Nat.le_of_ble_eq_true rfl) ?_
  intro p e s m args below meth c X hr hlk hw ls hl
  exact s_X10_drawnFrom_0 X hr hlk Q  x0 x1 σ hw (lv_sub hl [0, 1] rfl) hD
theorem hd_X10_nextLot : ym_X10_nextLot.cls ≠ "java/lang/invoke/MethodHandle" ∧ ym_X10_nextLot.cls ≠ "java/lang/invoke/VarHandle" ∧ (parseMethodDescriptor ym_X10_nextLot.desc).map (fun d => d.parameters.length) = some 1 := by decide +kernel
abbrev rm_X10_nextLot : Room := { frames := 0, cells := 0, slots := 0, locals := 0 }
theorem d_X10_nextLot_0 : decode cm_X10_nextLot 0 = .ok (.iload_n 0, 1) := by decide +kernel
theorem d_X10_nextLot_1 : decode cm_X10_nextLot 1 = .ok (.ldc_w 294, 3) := by decide +kernel
theorem d_X10_nextLot_4 : decode cm_X10_nextLot 4 = .ok (.imul, 1) := by decide +kernel
theorem d_X10_nextLot_5 : decode cm_X10_nextLot 5 = .ok (.sipush 12345, 3) := by decide +kernel
theorem d_X10_nextLot_8 : decode cm_X10_nextLot 8 = .ok (.iadd, 1) := by decide +kernel
theorem d_X10_nextLot_9 : decode cm_X10_nextLot 9 = .ok (.ireturn, 1) := by decide +kernel
def D_X10_nextLot_0 (Q : Int32 → GSt → Prop) (x0 : Int32) (σ : GSt) : Prop :=
  Q ((x0 * 1103515245) + 12345) σ
def D_X10_nextLot (x0 : Int32) (σ : GSt) (Q : Int32 → GSt → Prop) : Prop := D_X10_nextLot_0 Q x0 σ
set_option maxRecDepth 20000 in
set_option maxHeartbeats 4000000 in
theorem s_X10_nextLot_0 {p : Program} {l : Launch} {e : Env} {s : State} {m : MethodId} {args : Array Value} {below : List Frame} {meth : Method} {c : Code} {G : GC} (X : CallFix p m c cm_X10_nextLot 1 s args lw_us "GameLoom") (hr : meth.sig.returnType = some .int) (hlk : meth.locks = false) (Q : Int32 → GSt → Prop) (x0 : Int32) (σ : GSt) {H : Heap} {locs : List Loc} {ls : Array Slot} (hw : Wo G s H locs σ) (hl : lv_has ls 1 [(0, .int x0)]) (hD : D_X10_nextLot_0 Q x0 σ) : W p l e rm_X10_nextLot s m args below meth c H locs 0 0 (QMI G Q below args s) (F0 m 0 ls []) := by
  unfold D_X10_nextLot_0 at hD
  refine lv_iload_n X.1 X.2.1 d_X10_nextLot_0 rfl (lv_at hl 0 rfl) ?_
  refine lv_ldcw (v := 1103515245) X.1 X.2.1 X.2.2.2.1 (X.2.2.2.2 _ tb_738) d_X10_nextLot_1 ?_
  refine lv_imul X.1 X.2.1 d_X10_nextLot_4 ?_
  refine lv_sipush (v := 12345) X.1 X.2.1 d_X10_nextLot_5 (by decide) ?_
  refine lv_iadd X.1 X.2.1 d_X10_nextLot_8 ?_
  exact g_iret X hr hlk hw hD d_X10_nextLot_9
theorem c_X10_nextLot (l : Launch) (G : GC) (x0 : Int32) (σ : GSt) (Q : Int32 → GSt → Prop)  (hD : D_X10_nextLot x0 σ Q) : MI l ym_X10_nextLot cm_X10_nextLot 1 .int rm_X10_nextLot G σ [.int x0] Q := by
  refine met_i (by decide) (Nat.le_of_ble_eq_true rfl) ?_
  intro p e s m args below meth c X hr hlk hw ls hl
  exact s_X10_nextLot_0 X hr hlk Q  x0 σ hw (lv_sub hl [0] rfl) hD
theorem hd_X3_deepen : ym_X3_deepen.cls = "GameLoom$Looker" ∧ ym_X3_deepen.cls ≠ "java/lang/invoke/MethodHandle" ∧ ym_X3_deepen.cls ≠ "java/lang/invoke/VarHandle" ∧ (parseMethodDescriptor ym_X3_deepen.desc).map (fun d => d.parameters.length) = some 2 := by decide +kernel
abbrev rmr_X3_deepen (n : Nat) : Room := { frames := 4 + n, cells := 0, slots := 0, locals := 83 + n * 28 }
theorem d_X3_deepen_0 : decode cm_X3_deepen 0 = .ok (.aload_n 1, 1) := by decide +kernel
theorem d_X3_deepen_1 : decode cm_X3_deepen 1 = .ok (.getfield 52, 3) := by decide +kernel
theorem d_X3_deepen_4 : decode cm_X3_deepen 4 = .ok (.ifCond .eq 32, 3) := by decide +kernel
theorem d_X3_deepen_7 : decode cm_X3_deepen 7 = .ok (.aload_n 1, 1) := by decide +kernel
theorem d_X3_deepen_8 : decode cm_X3_deepen 8 = .ok (.getfield 55, 3) := by decide +kernel
theorem d_X3_deepen_11 : decode cm_X3_deepen 11 = .ok (.iconst 2, 1) := by decide +kernel
theorem d_X3_deepen_12 : decode cm_X3_deepen 12 = .ok (.if_icmp .ne 7, 3) := by decide +kernel
theorem d_X3_deepen_15 : decode cm_X3_deepen 15 = .ok (.iconst 1, 1) := by decide +kernel
theorem d_X3_deepen_16 : decode cm_X3_deepen 16 = .ok (.goto 19, 3) := by decide +kernel
theorem d_X3_deepen_19 : decode cm_X3_deepen 19 = .ok (.aload_n 1, 1) := by decide +kernel
theorem d_X3_deepen_20 : decode cm_X3_deepen 20 = .ok (.getfield 55, 3) := by decide +kernel
theorem d_X3_deepen_23 : decode cm_X3_deepen 23 = .ok (.aload_n 1, 1) := by decide +kernel
theorem d_X3_deepen_24 : decode cm_X3_deepen 24 = .ok (.invokevirtual 58, 3) := by decide +kernel
theorem d_X3_deepen_27 : decode cm_X3_deepen 27 = .ok (.if_icmp .ne 7, 3) := by decide +kernel
theorem d_X3_deepen_30 : decode cm_X3_deepen 30 = .ok (.iconst 2, 1) := by decide +kernel
theorem d_X3_deepen_31 : decode cm_X3_deepen 31 = .ok (.goto 4, 3) := by decide +kernel
theorem d_X3_deepen_34 : decode cm_X3_deepen 34 = .ok (.iconst 0, 1) := by decide +kernel
theorem d_X3_deepen_35 : decode cm_X3_deepen 35 = .ok (.ireturn, 1) := by decide +kernel
theorem d_X3_deepen_36 : decode cm_X3_deepen 36 = .ok (.iload_n 2, 1) := by decide +kernel
theorem d_X3_deepen_37 : decode cm_X3_deepen 37 = .ok (.iconst 1, 1) := by decide +kernel
theorem d_X3_deepen_38 : decode cm_X3_deepen 38 = .ok (.if_icmp .lt 9, 3) := by decide +kernel
theorem d_X3_deepen_41 : decode cm_X3_deepen 41 = .ok (.iload_n 2, 1) := by decide +kernel
theorem d_X3_deepen_42 : decode cm_X3_deepen 42 = .ok (.bipush 6, 2) := by decide +kernel
theorem d_X3_deepen_44 : decode cm_X3_deepen 44 = .ok (.if_icmp .le 5, 3) := by decide +kernel
theorem d_X3_deepen_47 : decode cm_X3_deepen 47 = .ok (.iconst 1, 1) := by decide +kernel
theorem d_X3_deepen_48 : decode cm_X3_deepen 48 = .ok (.ireturn, 1) := by decide +kernel
theorem d_X3_deepen_49 : decode cm_X3_deepen 49 = .ok (.aload_n 0, 1) := by decide +kernel
theorem d_X3_deepen_50 : decode cm_X3_deepen 50 = .ok (.getfield 17, 3) := by decide +kernel
theorem d_X3_deepen_53 : decode cm_X3_deepen 53 = .ok (.iload_n 2, 1) := by decide +kernel
theorem d_X3_deepen_54 : decode cm_X3_deepen 54 = .ok (.aaload, 1) := by decide +kernel
theorem d_X3_deepen_55 : decode cm_X3_deepen 55 = .ok (.astore_n 3, 1) := by decide +kernel
theorem d_X3_deepen_56 : decode cm_X3_deepen 56 = .ok (.aload_n 1, 1) := by decide +kernel
theorem d_X3_deepen_57 : decode cm_X3_deepen 57 = .ok (.aload_n 3, 1) := by decide +kernel
theorem d_X3_deepen_58 : decode cm_X3_deepen 58 = .ok (.invokevirtual 28, 3) := by decide +kernel
theorem d_X3_deepen_61 : decode cm_X3_deepen 61 = .ok (.istore 4, 2) := by decide +kernel
theorem d_X3_deepen_63 : decode cm_X3_deepen 63 = .ok (.aload_n 1, 1) := by decide +kernel
theorem d_X3_deepen_64 : decode cm_X3_deepen 64 = .ok (.getfield 34, 3) := by decide +kernel
theorem d_X3_deepen_67 : decode cm_X3_deepen 67 = .ok (.istore 5, 2) := by decide +kernel
theorem d_X3_deepen_69 : decode cm_X3_deepen 69 = .ok (.aload_n 1, 1) := by decide +kernel
theorem d_X3_deepen_70 : decode cm_X3_deepen 70 = .ok (.getfield 37, 3) := by decide +kernel
theorem d_X3_deepen_73 : decode cm_X3_deepen 73 = .ok (.istore 6, 2) := by decide +kernel
theorem d_X3_deepen_75 : decode cm_X3_deepen 75 = .ok (.iconst 0, 1) := by decide +kernel
theorem d_X3_deepen_76 : decode cm_X3_deepen 76 = .ok (.istore 7, 2) := by decide +kernel
theorem d_X3_deepen_78 : decode cm_X3_deepen 78 = .ok (.iconst 0, 1) := by decide +kernel
theorem d_X3_deepen_79 : decode cm_X3_deepen 79 = .ok (.istore 8, 2) := by decide +kernel
theorem d_X3_deepen_81 : decode cm_X3_deepen 81 = .ok (.iload 8, 2) := by decide +kernel
theorem d_X3_deepen_83 : decode cm_X3_deepen 83 = .ok (.iload 4, 2) := by decide +kernel
theorem d_X3_deepen_85 : decode cm_X3_deepen 85 = .ok (.if_icmp .ge 48, 3) := by decide +kernel
theorem d_X3_deepen_88 : decode cm_X3_deepen 88 = .ok (.iload 7, 2) := by decide +kernel
theorem d_X3_deepen_90 : decode cm_X3_deepen 90 = .ok (.iconst 2, 1) := by decide +kernel
theorem d_X3_deepen_91 : decode cm_X3_deepen 91 = .ok (.if_icmp .ge 42, 3) := by decide +kernel
theorem d_X3_deepen_94 : decode cm_X3_deepen 94 = .ok (.aload_n 1, 1) := by decide +kernel
theorem d_X3_deepen_95 : decode cm_X3_deepen 95 = .ok (.aload_n 3, 1) := by decide +kernel
theorem d_X3_deepen_96 : decode cm_X3_deepen 96 = .ok (.iload 8, 2) := by decide +kernel
theorem d_X3_deepen_98 : decode cm_X3_deepen 98 = .ok (.iaload, 1) := by decide +kernel
theorem d_X3_deepen_99 : decode cm_X3_deepen 99 = .ok (.invokevirtual 40, 3) := by decide +kernel
theorem d_X3_deepen_102 : decode cm_X3_deepen 102 = .ok (.iload 7, 2) := by decide +kernel
theorem d_X3_deepen_104 : decode cm_X3_deepen 104 = .ok (.iconst 2, 1) := by decide +kernel
theorem d_X3_deepen_105 : decode cm_X3_deepen 105 = .ok (.aload_n 0, 1) := by decide +kernel
theorem d_X3_deepen_106 : decode cm_X3_deepen 106 = .ok (.aload_n 1, 1) := by decide +kernel
theorem d_X3_deepen_107 : decode cm_X3_deepen 107 = .ok (.iload_n 2, 1) := by decide +kernel
theorem d_X3_deepen_108 : decode cm_X3_deepen 108 = .ok (.iconst 1, 1) := by decide +kernel
theorem d_X3_deepen_109 : decode cm_X3_deepen 109 = .ok (.isub, 1) := by decide +kernel
theorem d_X3_deepen_110 : decode cm_X3_deepen 110 = .ok (.invokevirtual 48, 3) := by decide +kernel
theorem d_X3_deepen_113 : decode cm_X3_deepen 113 = .ok (.isub, 1) := by decide +kernel
theorem d_X3_deepen_114 : decode cm_X3_deepen 114 = .ok (.invokestatic 62, 3) := by decide +kernel
theorem d_X3_deepen_117 : decode cm_X3_deepen 117 = .ok (.istore 7, 2) := by decide +kernel
theorem d_X3_deepen_119 : decode cm_X3_deepen 119 = .ok (.aload_n 1, 1) := by decide +kernel
theorem d_X3_deepen_120 : decode cm_X3_deepen 120 = .ok (.iload 5, 2) := by decide +kernel
theorem d_X3_deepen_122 : decode cm_X3_deepen 122 = .ok (.iload 6, 2) := by decide +kernel
theorem d_X3_deepen_124 : decode cm_X3_deepen 124 = .ok (.invokevirtual 44, 3) := by decide +kernel
theorem d_X3_deepen_127 : decode cm_X3_deepen 127 = .ok (.iinc 8 1, 3) := by decide +kernel
theorem d_X3_deepen_130 : decode cm_X3_deepen 130 = .ok (.goto (-49), 3) := by decide +kernel
theorem d_X3_deepen_133 : decode cm_X3_deepen 133 = .ok (.iload 7, 2) := by decide +kernel
theorem d_X3_deepen_135 : decode cm_X3_deepen 135 = .ok (.ireturn, 1) := by decide +kernel
def D_X3_deepen_81 (SF : Nat → Int32 → GSt → (Int32 → GSt → Prop) → Prop) (K81 : Nat → Int32 → Nat → Int32 → Int32 → Int32 → Int32 → Int32 → GSt → Prop) (Q : Int32 → GSt → Prop) (r1 : Nat) (x2 : Int32) (r3 : Nat) (x4 : Int32) (x5 : Int32) (x6 : Int32) (x7 : Int32) (x8 : Int32) (σ : GSt) : Prop :=
  (x4 ≤ x8 → Q x7 σ) ∧
  (¬ x4 ≤ x8 → (2 ≤ x7 → Q x7 σ) ∧
  (¬ 2 ≤ x7 → vp_in x8 (ln r3) ∧ (D_X5_make r1 (σ r3 (Int32.toNatClampNeg x8)) σ (fun σ_1 => SF r1 (x2 - 1) σ_1 (fun r_2 σ_3 => ∀ x7_4 : Int32, x7_4 = (jmax x7 (2 - r_2)) → (D_X5_unmake r1 x5 x6 σ_3 (fun σ_5 => ∀ x8_6 : Int32, x8_6 = x8 + 1 → (K81 r1 x2 r3 x4 x5 x6 x7_4 x8_6 σ_5))))))))
def L_X3_deepen_81 (SF : Nat → Int32 → GSt → (Int32 → GSt → Prop) → Prop) (Q : Int32 → GSt → Prop) : Nat → Nat → Int32 → Nat → Int32 → Int32 → Int32 → Int32 → Int32 → GSt → Prop
  | 0 => fun _ _ _ _ _ _ _ _ _ => False
  | n + 1 => fun r1 x2 r3 x4 x5 x6 x7 x8 σ => D_X3_deepen_81 SF (L_X3_deepen_81 SF Q n) Q r1 x2 r3 x4 x5 x6 x7 x8 σ
def D_X3_deepen_0 (SF : Nat → Int32 → GSt → (Int32 → GSt → Prop) → Prop) (Q : Int32 → GSt → Prop) (r1 : Nat) (x2 : Int32) (σ : GSt) : Prop :=
  ((σ r1 4) = 0 → (x2 < 1 → Q 1 σ) ∧
  (¬ x2 < 1 → (x2 ≤ 6 → vp_in x2 7 ∧ (D_X5_listMoves r1 (31 + 1 + Int32.toNatClampNeg x2) σ (fun r_1 σ_2 => ∀ x5_3 : Int32, x5_3 = (σ_2 r1 1) → (∀ x6_4 : Int32, x6_4 = (σ_2 r1 2) → (∃ n : Nat, L_X3_deepen_81 SF Q n r1 x2 (31 + 1 + Int32.toNatClampNeg x2) r_1 x5_3 x6_4 0 0 σ_2))))) ∧
  (¬ x2 ≤ 6 → Q 1 σ))) ∧
  (¬ (σ r1 4) = 0 → (¬ (σ r1 5) = 2 → D_X5_side r1 σ (fun r_5 σ_6 => (¬ (σ r1 5) = r_5 → Q 0 σ_6) ∧
  ((σ r1 5) = r_5 → Q 2 σ_6))) ∧
  ((σ r1 5) = 2 → Q 1 σ))
def D_X3_deepen : Nat → Nat → Int32 → GSt → (Int32 → GSt → Prop) → Prop
  | 0 => fun _ _ _ _ => False
  | n + 1 => fun r1 x2 σ Q => D_X3_deepen_0 (D_X3_deepen n) Q r1 x2 σ
set_option maxRecDepth 20000 in
set_option maxHeartbeats 4000000 in
theorem s_X3_deepen_81 {p : Program} {l : Launch} {e : Env} {n : Nat} {s : State} {m : MethodId} {args : Array Value} {below : List Frame} {meth : Method} {c : Code} {G : GC} (X : CallFix p m c cm_X3_deepen 9 s args lw_us "GameLoom$Looker") (hr : meth.sig.returnType = some .int) (hlk : meth.locks = false) (SF : Nat → Int32 → GSt → (Int32 → GSt → Prop) → Prop) (hSF : ∀ (l : Launch) (G : GC) (y1 : Nat) (y2 : Int32) (σ : GSt) (Q : Int32 → GSt → Prop), kd y1 = 5 → SF y1 y2 σ Q → MI l ym_X3_deepen cm_X3_deepen 9 .int (rmr_X3_deepen n) G σ [.ref (G.2.1 29), .ref (G.2.1 y1), .int y2] Q) (K81 : Nat → Int32 → Nat → Int32 → Int32 → Int32 → Int32 → Int32 → GSt → Prop) (Q : Int32 → GSt → Prop) (hK81 : ∀ (r1 : Nat) (x2 : Int32) (r3 : Nat) (x4 : Int32) (x5 : Int32) (x6 : Int32) (x7 : Int32) (x8 : Int32) (σ : GSt) (H : Heap) (locs : List Loc) (ls : Array Slot), kd r1 = 5 → kd r3 = 12 → Wo G s H locs σ → lv_has ls 9 [(0, .ref (G.2.1 29)), (1, .ref (G.2.1 r1)), (2, .int x2), (3, .ref (G.2.1 r3)), (4, .int x4), (5, .int x5), (6, .int x6), (7, .int x7), (8, .int x8)] → K81 r1 x2 r3 x4 x5 x6 x7 x8 σ → W p l e (rmr_X3_deepen (n + 1)) s m args below meth c H locs 0 0 (QMI G Q below args s) (F0 m 81 ls [])) (r1 : Nat) (hk1 : kd r1 = 5) (x2 : Int32) (r3 : Nat) (hk3 : kd r3 = 12) (x4 : Int32) (x5 : Int32) (x6 : Int32) (x7 : Int32) (x8 : Int32) (σ : GSt) {H : Heap} {locs : List Loc} {ls : Array Slot} (hw : Wo G s H locs σ) (hl : lv_has ls 9 [(0, .ref (G.2.1 29)), (1, .ref (G.2.1 r1)), (2, .int x2), (3, .ref (G.2.1 r3)), (4, .int x4), (5, .int x5), (6, .int x6), (7, .int x7), (8, .int x8)]) (hD : D_X3_deepen_81 SF K81 Q r1 x2 r3 x4 x5 x6 x7 x8 σ) : W p l e (rmr_X3_deepen (n + 1)) s m args below meth c H locs 0 0 (QMI G Q below args s) (F0 m 81 ls []) := by
  unfold D_X3_deepen_81 at hD
  refine lv_iload X.1 X.2.1 d_X3_deepen_81 (lv_at hl 8 rfl) ?_
  refine lv_iload X.1 X.2.1 d_X3_deepen_83 (lv_at hl 4 rfl) ?_
  refine lv_icmp_ge (tgt := 133) X.1 X.2.1 d_X3_deepen_85 (by decide) (fun q_85 => ?_) (fun q_85 => ?_)
  · have hD := hD.1 q_85
    refine lv_iload X.1 X.2.1 d_X3_deepen_133 (lv_at hl 7 rfl) ?_
    exact g_iret X hr hlk hw hD d_X3_deepen_135
  · have hD := hD.2 q_85
    refine lv_iload X.1 X.2.1 d_X3_deepen_88 (lv_at hl 7 rfl) ?_
    refine lv_iconst (v := 2) X.1 X.2.1 d_X3_deepen_90 (by decide) ?_
    refine lv_icmp_ge (tgt := 133) X.1 X.2.1 d_X3_deepen_91 (by decide) (fun q_91 => ?_) (fun q_91 => ?_)
    · have hD := hD.1 q_91
      refine lv_iload X.1 X.2.1 d_X3_deepen_133 (lv_at hl 7 rfl) ?_
      exact g_iret X hr hlk hw hD d_X3_deepen_135
    · have hD := hD.2 q_91
      refine lv_aload_n X.1 X.2.1 d_X3_deepen_94 rfl (lv_at hl 1 rfl) ?_
      refine lv_aload_n X.1 X.2.1 d_X3_deepen_95 rfl (lv_at hl 3 rfl) ?_
      refine lv_iload X.1 X.2.1 d_X3_deepen_96 (lv_at hl 8 rfl) ?_
      obtain ⟨q_98, hD⟩ := hD
      refine g_iald X hw hk3 rfl q_98 d_X3_deepen_98 ?_
      refine gcV_v (rest := []) (As := [.int (σ r3 (Int32.toNatClampNeg x8))]) (o := r1) X hw (c_X5_make l G r1 (σ r3 (Int32.toNatClampNeg x8)) σ _ hk1 hD) (kd_lt hk1 (by decide)) (ce_5 G _ hk1) rfl tb_687 tb_604 tb_605 tb_9 tb_606 hd_X5_make ⟨rfl, rfl⟩ ⟨by simp only [rmr_X3_deepen]; omega, by simp only [rmr_X3_deepen]; omega⟩ rfl hl.1 rfl (Nat.le_of_ble_eq_true rfl) d_X3_deepen_99 (fun σ_1 H locs hD hw => ?_)
      refine lv_iload X.1 X.2.1 d_X3_deepen_102 (lv_at hl 7 rfl) ?_
      refine lv_iconst (v := 2) X.1 X.2.1 d_X3_deepen_104 (by decide) ?_
      refine lv_aload_n X.1 X.2.1 d_X3_deepen_105 rfl (lv_at hl 0 rfl) ?_
      refine lv_aload_n X.1 X.2.1 d_X3_deepen_106 rfl (lv_at hl 1 rfl) ?_
      refine lv_iload_n X.1 X.2.1 d_X3_deepen_107 rfl (lv_at hl 2 rfl) ?_
      refine lv_iconst (v := 1) X.1 X.2.1 d_X3_deepen_108 (by decide) ?_
      refine lv_isub X.1 X.2.1 d_X3_deepen_109 ?_
      refine gcV_i (rest := [.int 2, .int x7]) (As := [.ref (G.2.1 r1), .int (x2 - 1)]) (o := 29) X hw (hSF l G r1 (x2 - 1) σ_1 _ hk1 hD) (kd_lt (by decide +kernel : kd 29 = 3) (by decide)) (ce_3 G _ (by decide +kernel : kd 29 = 3)) rfl tb_693 tb_695 tv_27 tb_7 tb_696 hd_X3_deepen ⟨rfl, rfl⟩ ⟨by simp only [rmr_X3_deepen]; omega, by simp only [rmr_X3_deepen]; omega⟩ rfl hl.1 rfl (Nat.le_of_ble_eq_true rfl) d_X3_deepen_110 (fun r_2 σ_3 H locs hD hw => ?_)
      refine lv_isub X.1 X.2.1 d_X3_deepen_113 ?_
      refine g_mmax (rest := []) X hl.1 tb_698 (by simp only [rmr_X3_deepen]; omega) (by simp only [rmr_X3_deepen]; show _ + 13 ≤ _; simp; omega) d_X3_deepen_114 ?_
      refine lv_topi (fun x7_4 e_x7_4 => ?_)
      have hD := hD x7_4 e_x7_4
      refine lv_istore (lv' := [(7, .int x7_4), (0, .ref (G.2.1 29)), (1, .ref (G.2.1 r1)), (2, .int x2), (3, .ref (G.2.1 r3)), (4, .int x4), (5, .int x5), (6, .int x6), (8, .int x8)]) X.1 X.2.1 d_X3_deepen_117 hl (by decide) rfl (fun ls hl => ?_)
      refine lv_aload_n X.1 X.2.1 d_X3_deepen_119 rfl (lv_at hl 2 rfl) ?_
      refine lv_iload X.1 X.2.1 d_X3_deepen_120 (lv_at hl 6 rfl) ?_
      refine lv_iload X.1 X.2.1 d_X3_deepen_122 (lv_at hl 7 rfl) ?_
      refine gcV_v (rest := []) (As := [.int x5, .int x6]) (o := r1) X hw (c_X5_unmake l G r1 x5 x6 σ_3 _ hk1 hD) (kd_lt hk1 (by decide)) (ce_5 G _ hk1) rfl tb_688 tb_640 tb_641 tb_9 tb_642 hd_X5_unmake ⟨rfl, rfl⟩ ⟨by simp only [rmr_X3_deepen]; omega, by simp only [rmr_X3_deepen]; omega⟩ rfl hl.1 rfl (Nat.le_of_ble_eq_true rfl) d_X3_deepen_124 (fun σ_5 H locs hD hw => ?_)
      obtain ⟨x8_6, e_x8_6⟩ : ∃ y : Int32, y = x8 + 1 := ⟨_, rfl⟩
      have hD := hD x8_6 e_x8_6
      refine lv_iinc (v := x8_6) (lv' := [(8, .int x8_6), (7, .int x7_4), (0, .ref (G.2.1 29)), (1, .ref (G.2.1 r1)), (2, .int x2), (3, .ref (G.2.1 r3)), (4, .int x4), (5, .int x5), (6, .int x6)]) X.1 X.2.1 d_X3_deepen_127 hl (k := 8) rfl (by rw [e_x8_6]; rfl) (by decide) rfl (fun ls hl => ?_)
      refine lv_goto (tgt := 81) X.1 X.2.1 d_X3_deepen_130 (by decide) ?_
      exact hK81 r1 x2 r3 x4 x5 x6 x7_4 x8_6 σ_5 _ _ _ hk1 hk3 hw (lv_sub hl [2, 3, 4, 5, 6, 7, 8, 1, 0] rfl) hD
set_option maxRecDepth 20000 in
set_option maxHeartbeats 4000000 in
theorem sl_X3_deepen_81 {p : Program} {l : Launch} {e : Env} {n : Nat} {s : State} {m : MethodId} {args : Array Value} {below : List Frame} {meth : Method} {c : Code} {G : GC} (X : CallFix p m c cm_X3_deepen 9 s args lw_us "GameLoom$Looker") (hr : meth.sig.returnType = some .int) (hlk : meth.locks = false) (SF : Nat → Int32 → GSt → (Int32 → GSt → Prop) → Prop) (hSF : ∀ (l : Launch) (G : GC) (y1 : Nat) (y2 : Int32) (σ : GSt) (Q : Int32 → GSt → Prop), kd y1 = 5 → SF y1 y2 σ Q → MI l ym_X3_deepen cm_X3_deepen 9 .int (rmr_X3_deepen n) G σ [.ref (G.2.1 29), .ref (G.2.1 y1), .int y2] Q) (Q : Int32 → GSt → Prop) : ∀ (nn : Nat), ∀ (r1 : Nat) (x2 : Int32) (r3 : Nat) (x4 : Int32) (x5 : Int32) (x6 : Int32) (x7 : Int32) (x8 : Int32) (σ : GSt) (H : Heap) (locs : List Loc) (ls : Array Slot), kd r1 = 5 → kd r3 = 12 → Wo G s H locs σ → lv_has ls 9 [(0, .ref (G.2.1 29)), (1, .ref (G.2.1 r1)), (2, .int x2), (3, .ref (G.2.1 r3)), (4, .int x4), (5, .int x5), (6, .int x6), (7, .int x7), (8, .int x8)] → L_X3_deepen_81 SF Q nn r1 x2 r3 x4 x5 x6 x7 x8 σ → W p l e (rmr_X3_deepen (n + 1)) s m args below meth c H locs 0 0 (QMI G Q below args s) (F0 m 81 ls []) := by
  intro nn
  induction nn with
  | zero => intro r1 x2 r3 x4 x5 x6 x7 x8 σ H locs ls hk1 hk3 hw hl hD; exact hD.elim
  | succ nn ih =>
    intro r1 x2 r3 x4 x5 x6 x7 x8 σ H locs ls hk1 hk3 hw hl hD
    exact s_X3_deepen_81 X hr hlk SF hSF (L_X3_deepen_81 SF Q nn) Q ih r1 hk1 x2 r3 hk3 x4 x5 x6 x7 x8 σ hw hl hD
set_option maxRecDepth 20000 in
set_option maxHeartbeats 4000000 in
theorem s_X3_deepen_0 {p : Program} {l : Launch} {e : Env} {n : Nat} {s : State} {m : MethodId} {args : Array Value} {below : List Frame} {meth : Method} {c : Code} {G : GC} (X : CallFix p m c cm_X3_deepen 9 s args lw_us "GameLoom$Looker") (hr : meth.sig.returnType = some .int) (hlk : meth.locks = false) (SF : Nat → Int32 → GSt → (Int32 → GSt → Prop) → Prop) (hSF : ∀ (l : Launch) (G : GC) (y1 : Nat) (y2 : Int32) (σ : GSt) (Q : Int32 → GSt → Prop), kd y1 = 5 → SF y1 y2 σ Q → MI l ym_X3_deepen cm_X3_deepen 9 .int (rmr_X3_deepen n) G σ [.ref (G.2.1 29), .ref (G.2.1 y1), .int y2] Q) (Q : Int32 → GSt → Prop) (r1 : Nat) (hk1 : kd r1 = 5) (x2 : Int32) (σ : GSt) {H : Heap} {locs : List Loc} {ls : Array Slot} (hw : Wo G s H locs σ) (hl : lv_has ls 9 [(0, .ref (G.2.1 29)), (1, .ref (G.2.1 r1)), (2, .int x2)]) (hD : D_X3_deepen_0 SF Q r1 x2 σ) : W p l e (rmr_X3_deepen (n + 1)) s m args below meth c H locs 0 0 (QMI G Q below args s) (F0 m 0 ls []) := by
  unfold D_X3_deepen_0 at hD
  refine lv_aload_n X.1 X.2.1 d_X3_deepen_0 rfl (lv_at hl 1 rfl) ?_
  refine gf_5_4 X hw hk1 tb_258 d_X3_deepen_1 ?_
  refine lv_if_eq (tgt := 36) X.1 X.2.1 d_X3_deepen_4 (by decide) (fun q_4 => ?_) (fun q_4 => ?_)
  · have hD := hD.1 q_4
    refine lv_iload_n X.1 X.2.1 d_X3_deepen_36 rfl (lv_at hl 2 rfl) ?_
    refine lv_iconst (v := 1) X.1 X.2.1 d_X3_deepen_37 (by decide) ?_
    refine lv_icmp_lt (tgt := 47) X.1 X.2.1 d_X3_deepen_38 (by decide) (fun q_38 => ?_) (fun q_38 => ?_)
    · have hD := hD.1 q_38
      refine lv_iconst (v := 1) X.1 X.2.1 d_X3_deepen_47 (by decide) ?_
      exact g_iret X hr hlk hw hD d_X3_deepen_48
    · have hD := hD.2 q_38
      refine lv_iload_n X.1 X.2.1 d_X3_deepen_41 rfl (lv_at hl 2 rfl) ?_
      refine lv_bipush (v := 6) X.1 X.2.1 d_X3_deepen_42 (by decide) ?_
      refine lv_icmp_le (tgt := 49) X.1 X.2.1 d_X3_deepen_44 (by decide) (fun q_44 => ?_) (fun q_44 => ?_)
      · have hD := hD.1 q_44
        refine lv_aload_n X.1 X.2.1 d_X3_deepen_49 rfl (lv_at hl 0 rfl) ?_
        refine gf_3_2 X hw (by decide +kernel : kd 29 = 3) tb_217 d_X3_deepen_50 ?_
        refine lv_iload_n X.1 X.2.1 d_X3_deepen_53 rfl (lv_at hl 2 rfl) ?_
        obtain ⟨q_54, hD⟩ := hD
        refine g_aald16 X hw ly_3_2.1 q_54 d_X3_deepen_54 ?_
        refine lv_astore_n (lv' := [(3, .ref (G.2.1 (31 + 1 + Int32.toNatClampNeg x2))), (0, .ref (G.2.1 29)), (1, .ref (G.2.1 r1)), (2, .int x2)]) X.1 X.2.1 d_X3_deepen_55 rfl hl (by decide) rfl (fun ls hl => ?_)
        refine lv_aload_n X.1 X.2.1 d_X3_deepen_56 rfl (lv_at hl 2 rfl) ?_
        refine lv_aload_n X.1 X.2.1 d_X3_deepen_57 rfl (lv_at hl 0 rfl) ?_
        refine gcV_i (rest := []) (As := [.ref (G.2.1 (31 + 1 + Int32.toNatClampNeg x2))]) (o := r1) X hw (c_X5_listMoves l G r1 (31 + 1 + Int32.toNatClampNeg x2) σ _ hk1 (le_16 ly_3_2.1 q_54) hD) (kd_lt hk1 (by decide)) (ce_5 G _ hk1) rfl tb_686 tb_574 tb_575 tb_9 tb_576 hd_X5_listMoves ⟨rfl, rfl⟩ ⟨by simp only [rmr_X3_deepen]; omega, by simp only [rmr_X3_deepen]; omega⟩ rfl hl.1 rfl (Nat.le_of_ble_eq_true rfl) d_X3_deepen_58 (fun r_1 σ_2 H locs hD hw => ?_)
        refine lv_istore (lv' := [(4, .int r_1), (3, .ref (G.2.1 (31 + 1 + Int32.toNatClampNeg x2))), (0, .ref (G.2.1 29)), (1, .ref (G.2.1 r1)), (2, .int x2)]) X.1 X.2.1 d_X3_deepen_61 hl (by decide) rfl (fun ls hl => ?_)
        refine lv_aload_n X.1 X.2.1 d_X3_deepen_63 rfl (lv_at hl 3 rfl) ?_
        refine gf_5_1 X hw hk1 tb_241 d_X3_deepen_64 ?_
        refine lv_topi (fun x5_3 e_x5_3 => ?_)
        have hD := hD x5_3 e_x5_3
        refine lv_istore (lv' := [(5, .int x5_3), (4, .int r_1), (3, .ref (G.2.1 (31 + 1 + Int32.toNatClampNeg x2))), (0, .ref (G.2.1 29)), (1, .ref (G.2.1 r1)), (2, .int x2)]) X.1 X.2.1 d_X3_deepen_67 hl (by decide) rfl (fun ls hl => ?_)
        refine lv_aload_n X.1 X.2.1 d_X3_deepen_69 rfl (lv_at hl 4 rfl) ?_
        refine gf_5_2 X hw hk1 tb_246 d_X3_deepen_70 ?_
        refine lv_topi (fun x6_4 e_x6_4 => ?_)
        have hD := hD x6_4 e_x6_4
        refine lv_istore (lv' := [(6, .int x6_4), (5, .int x5_3), (4, .int r_1), (3, .ref (G.2.1 (31 + 1 + Int32.toNatClampNeg x2))), (0, .ref (G.2.1 29)), (1, .ref (G.2.1 r1)), (2, .int x2)]) X.1 X.2.1 d_X3_deepen_73 hl (by decide) rfl (fun ls hl => ?_)
        refine lv_iconst (v := 0) X.1 X.2.1 d_X3_deepen_75 (by decide) ?_
        refine lv_istore (lv' := [(7, .int 0), (6, .int x6_4), (5, .int x5_3), (4, .int r_1), (3, .ref (G.2.1 (31 + 1 + Int32.toNatClampNeg x2))), (0, .ref (G.2.1 29)), (1, .ref (G.2.1 r1)), (2, .int x2)]) X.1 X.2.1 d_X3_deepen_76 hl (by decide) rfl (fun ls hl => ?_)
        refine lv_iconst (v := 0) X.1 X.2.1 d_X3_deepen_78 (by decide) ?_
        refine lv_istore (lv' := [(8, .int 0), (7, .int 0), (6, .int x6_4), (5, .int x5_3), (4, .int r_1), (3, .ref (G.2.1 (31 + 1 + Int32.toNatClampNeg x2))), (0, .ref (G.2.1 29)), (1, .ref (G.2.1 r1)), (2, .int x2)]) X.1 X.2.1 d_X3_deepen_79 hl (by decide) rfl (fun ls hl => ?_)
        obtain ⟨n9, hD⟩ := hD
        exact sl_X3_deepen_81 X hr hlk SF hSF  Q  n9 r1 x2 (31 + 1 + Int32.toNatClampNeg x2) r_1 x5_3 x6_4 0 0 σ_2 _ _ _ hk1 (le_16 ly_3_2.1 q_54) hw (lv_sub hl [6, 7, 8, 5, 4, 3, 2, 1, 0] rfl) hD
      · have hD := hD.2 q_44
        refine lv_iconst (v := 1) X.1 X.2.1 d_X3_deepen_47 (by decide) ?_
        exact g_iret X hr hlk hw hD d_X3_deepen_48
  · have hD := hD.2 q_4
    refine lv_aload_n X.1 X.2.1 d_X3_deepen_7 rfl (lv_at hl 1 rfl) ?_
    refine gf_5_5 X hw hk1 tb_261 d_X3_deepen_8 ?_
    refine lv_iconst (v := 2) X.1 X.2.1 d_X3_deepen_11 (by decide) ?_
    refine lv_icmp_ne (tgt := 19) X.1 X.2.1 d_X3_deepen_12 (by decide) (fun q_12 => ?_) (fun q_12 => ?_)
    · have hD := hD.1 q_12
      refine lv_aload_n X.1 X.2.1 d_X3_deepen_19 rfl (lv_at hl 1 rfl) ?_
      refine gf_5_5 X hw hk1 tb_261 d_X3_deepen_20 ?_
      refine lv_aload_n X.1 X.2.1 d_X3_deepen_23 rfl (lv_at hl 1 rfl) ?_
      refine gcV_i (rest := [.int (σ r1 5)]) (As := []) (o := r1) X hw (c_X5_side l G r1 σ _ hk1 hD) (kd_lt hk1 (by decide)) (ce_5 G _ hk1) rfl tb_697 tb_608 tb_609 tb_9 tb_610 hd_X5_side ⟨rfl, rfl⟩ ⟨by simp only [rmr_X3_deepen]; omega, by simp only [rmr_X3_deepen]; omega⟩ rfl hl.1 rfl (Nat.le_of_ble_eq_true rfl) d_X3_deepen_24 (fun r_5 σ_6 H locs hD hw => ?_)
      refine lv_icmp_ne (tgt := 34) X.1 X.2.1 d_X3_deepen_27 (by decide) (fun q_27 => ?_) (fun q_27 => ?_)
      · have hD := hD.1 q_27
        refine lv_iconst (v := 0) X.1 X.2.1 d_X3_deepen_34 (by decide) ?_
        exact g_iret X hr hlk hw hD d_X3_deepen_35
      · have hD := hD.2 q_27
        refine lv_iconst (v := 2) X.1 X.2.1 d_X3_deepen_30 (by decide) ?_
        refine lv_goto (tgt := 35) X.1 X.2.1 d_X3_deepen_31 (by decide) ?_
        exact g_iret X hr hlk hw hD d_X3_deepen_35
    · have hD := hD.2 q_12
      refine lv_iconst (v := 1) X.1 X.2.1 d_X3_deepen_15 (by decide) ?_
      refine lv_goto (tgt := 35) X.1 X.2.1 d_X3_deepen_16 (by decide) ?_
      exact g_iret X hr hlk hw hD d_X3_deepen_35
theorem c_X3_deepen : ∀ (n : Nat) (l : Launch) (G : GC) (r1 : Nat) (x2 : Int32) (σ : GSt) (Q : Int32 → GSt → Prop), kd r1 = 5 →  D_X3_deepen n r1 x2 σ Q → MI l ym_X3_deepen cm_X3_deepen 9 .int (rmr_X3_deepen n) G σ [.ref (G.2.1 29), .ref (G.2.1 r1), .int x2] Q := by
  intro n
  induction n with
  | zero => intro l G; intros; exact (by assumption : False).elim
  | succ n ih =>
    intro l G r1 x2 σ Q hr1 hD
    refine met_i (by decide) (Nat.le_of_ble_eq_true rfl) ?_
    intro p e s m args below meth c X hr hlk hw ls hl
    exact s_X3_deepen_0 X hr hlk (D_X3_deepen n) ih Q  r1 hr1 x2 σ hw (lv_sub hl [0, 1, 2] rfl) hD
theorem hd_X3_valueOf : ym_X3_valueOf.cls = "GameLoom$Looker" ∧ ym_X3_valueOf.cls ≠ "java/lang/invoke/MethodHandle" ∧ ym_X3_valueOf.cls ≠ "java/lang/invoke/VarHandle" ∧ (parseMethodDescriptor ym_X3_valueOf.desc).map (fun d => d.parameters.length) = some 2 := by decide +kernel
abbrev rm_X3_valueOf : Room := { frames := 13, cells := 0, slots := 0, locals := 335 }
theorem d_X3_valueOf_0 : decode cm_X3_valueOf 0 = .ok (.aload_n 0, 1) := by decide +kernel
theorem d_X3_valueOf_1 : decode cm_X3_valueOf 1 = .ok (.aload_n 1, 1) := by decide +kernel
theorem d_X3_valueOf_2 : decode cm_X3_valueOf 2 = .ok (.iload_n 2, 1) := by decide +kernel
theorem d_X3_valueOf_3 : decode cm_X3_valueOf 3 = .ok (.invokevirtual 48, 3) := by decide +kernel
theorem d_X3_valueOf_6 : decode cm_X3_valueOf 6 = .ok (.ireturn, 1) := by decide +kernel
def D_X3_valueOf_0 (Q : Int32 → GSt → Prop) (r1 : Nat) (x2 : Int32) (σ : GSt) : Prop :=
  D_X3_deepen 8 r1 x2 σ (fun r_1 σ_2 => Q r_1 σ_2)
def D_X3_valueOf (r1 : Nat) (x2 : Int32) (σ : GSt) (Q : Int32 → GSt → Prop) : Prop := D_X3_valueOf_0 Q r1 x2 σ
set_option maxRecDepth 20000 in
set_option maxHeartbeats 4000000 in
theorem s_X3_valueOf_0 {p : Program} {l : Launch} {e : Env} {s : State} {m : MethodId} {args : Array Value} {below : List Frame} {meth : Method} {c : Code} {G : GC} (X : CallFix p m c cm_X3_valueOf 3 s args lw_us "GameLoom$Looker") (hr : meth.sig.returnType = some .int) (hlk : meth.locks = false) (Q : Int32 → GSt → Prop) (r1 : Nat) (hk1 : kd r1 = 5) (x2 : Int32) (σ : GSt) {H : Heap} {locs : List Loc} {ls : Array Slot} (hw : Wo G s H locs σ) (hl : lv_has ls 3 [(0, .ref (G.2.1 29)), (1, .ref (G.2.1 r1)), (2, .int x2)]) (hD : D_X3_valueOf_0 Q r1 x2 σ) : W p l e rm_X3_valueOf s m args below meth c H locs 0 0 (QMI G Q below args s) (F0 m 0 ls []) := by
  unfold D_X3_valueOf_0 at hD
  refine lv_aload_n X.1 X.2.1 d_X3_valueOf_0 rfl (lv_at hl 0 rfl) ?_
  refine lv_aload_n X.1 X.2.1 d_X3_valueOf_1 rfl (lv_at hl 1 rfl) ?_
  refine lv_iload_n X.1 X.2.1 d_X3_valueOf_2 rfl (lv_at hl 2 rfl) ?_
  refine gcV_i (rest := []) (As := [.ref (G.2.1 r1), .int x2]) (o := 29) X hw (c_X3_deepen 8 l G r1 x2 σ _ hk1 hD) (kd_lt (by decide +kernel : kd 29 = 3) (by decide)) (ce_3 G _ (by decide +kernel : kd 29 = 3)) rfl tb_693 tb_695 tv_27 tb_7 tb_696 hd_X3_deepen ⟨rfl, rfl⟩ ⟨Nat.le_of_ble_eq_true rfl, Nat.le_of_ble_eq_true rfl⟩ rfl hl.1 rfl (Nat.le_of_ble_eq_true rfl) d_X3_valueOf_3 (fun r_1 σ_2 H locs hD hw => ?_)
  exact g_iret X hr hlk hw hD d_X3_valueOf_6
theorem c_X3_valueOf (l : Launch) (G : GC) (r1 : Nat) (x2 : Int32) (σ : GSt) (Q : Int32 → GSt → Prop) (hr1 : kd r1 = 5) (hD : D_X3_valueOf r1 x2 σ Q) : MI l ym_X3_valueOf cm_X3_valueOf 3 .int rm_X3_valueOf G σ [.ref (G.2.1 29), .ref (G.2.1 r1), .int x2] Q := by
  refine met_i (by decide) (Nat.le_of_ble_eq_true rfl) ?_
  intro p e s m args below meth c X hr hlk hw ls hl
  exact s_X3_valueOf_0 X hr hlk Q  r1 hr1 x2 σ hw (lv_sub hl [0, 1, 2] rfl) hD
theorem hd_X2_winners : ym_X2_winners.cls = "GameLoom$Judge" ∧ ym_X2_winners.cls ≠ "java/lang/invoke/MethodHandle" ∧ ym_X2_winners.cls ≠ "java/lang/invoke/VarHandle" ∧ (parseMethodDescriptor ym_X2_winners.desc).map (fun d => d.parameters.length) = some 2 := by decide +kernel
abbrev rm_X2_winners : Room := { frames := 14, cells := 0, slots := 0, locals := 357 }
theorem d_X2_winners_0 : decode cm_X2_winners 0 = .ok (.aload_n 0, 1) := by decide +kernel
theorem d_X2_winners_1 : decode cm_X2_winners 1 = .ok (.getfield 12, 3) := by decide +kernel
theorem d_X2_winners_4 : decode cm_X2_winners 4 = .ok (.getfield 71, 3) := by decide +kernel
theorem d_X2_winners_7 : decode cm_X2_winners 7 = .ok (.istore_n 3, 1) := by decide +kernel
theorem d_X2_winners_8 : decode cm_X2_winners 8 = .ok (.aload_n 0, 1) := by decide +kernel
theorem d_X2_winners_9 : decode cm_X2_winners 9 = .ok (.getfield 12, 3) := by decide +kernel
theorem d_X2_winners_12 : decode cm_X2_winners 12 = .ok (.getfield 74, 3) := by decide +kernel
theorem d_X2_winners_15 : decode cm_X2_winners 15 = .ok (.istore 4, 2) := by decide +kernel
theorem d_X2_winners_17 : decode cm_X2_winners 17 = .ok (.iconst 0, 1) := by decide +kernel
theorem d_X2_winners_18 : decode cm_X2_winners 18 = .ok (.istore 5, 2) := by decide +kernel
theorem d_X2_winners_20 : decode cm_X2_winners 20 = .ok (.iconst 0, 1) := by decide +kernel
theorem d_X2_winners_21 : decode cm_X2_winners 21 = .ok (.istore 6, 2) := by decide +kernel
theorem d_X2_winners_23 : decode cm_X2_winners 23 = .ok (.iload 6, 2) := by decide +kernel
theorem d_X2_winners_25 : decode cm_X2_winners 25 = .ok (.iload_n 1, 1) := by decide +kernel
theorem d_X2_winners_26 : decode cm_X2_winners 26 = .ok (.if_icmp .ge 59, 3) := by decide +kernel
theorem d_X2_winners_29 : decode cm_X2_winners 29 = .ok (.iload 5, 2) := by decide +kernel
theorem d_X2_winners_31 : decode cm_X2_winners 31 = .ok (.iconst 2, 1) := by decide +kernel
theorem d_X2_winners_32 : decode cm_X2_winners 32 = .ok (.if_icmp .ge 53, 3) := by decide +kernel
theorem d_X2_winners_35 : decode cm_X2_winners 35 = .ok (.aload_n 0, 1) := by decide +kernel
theorem d_X2_winners_36 : decode cm_X2_winners 36 = .ok (.getfield 12, 3) := by decide +kernel
theorem d_X2_winners_39 : decode cm_X2_winners 39 = .ok (.aload_n 0, 1) := by decide +kernel
theorem d_X2_winners_40 : decode cm_X2_winners 40 = .ok (.getfield 18, 3) := by decide +kernel
theorem d_X2_winners_43 : decode cm_X2_winners 43 = .ok (.iload 6, 2) := by decide +kernel
theorem d_X2_winners_45 : decode cm_X2_winners 45 = .ok (.iaload, 1) := by decide +kernel
theorem d_X2_winners_46 : decode cm_X2_winners 46 = .ok (.invokevirtual 67, 3) := by decide +kernel
theorem d_X2_winners_49 : decode cm_X2_winners 49 = .ok (.aload_n 0, 1) := by decide +kernel
theorem d_X2_winners_50 : decode cm_X2_winners 50 = .ok (.getfield 25, 3) := by decide +kernel
theorem d_X2_winners_53 : decode cm_X2_winners 53 = .ok (.aload_n 0, 1) := by decide +kernel
theorem d_X2_winners_54 : decode cm_X2_winners 54 = .ok (.getfield 12, 3) := by decide +kernel
theorem d_X2_winners_57 : decode cm_X2_winners 57 = .ok (.iload_n 2, 1) := by decide +kernel
theorem d_X2_winners_58 : decode cm_X2_winners 58 = .ok (.iconst 1, 1) := by decide +kernel
theorem d_X2_winners_59 : decode cm_X2_winners 59 = .ok (.isub, 1) := by decide +kernel
theorem d_X2_winners_60 : decode cm_X2_winners 60 = .ok (.invokevirtual 77, 3) := by decide +kernel
theorem d_X2_winners_63 : decode cm_X2_winners 63 = .ok (.ifCond .ne 6, 3) := by decide +kernel
theorem d_X2_winners_66 : decode cm_X2_winners 66 = .ok (.iinc 5 1, 3) := by decide +kernel
theorem d_X2_winners_69 : decode cm_X2_winners 69 = .ok (.aload_n 0, 1) := by decide +kernel
theorem d_X2_winners_70 : decode cm_X2_winners 70 = .ok (.getfield 12, 3) := by decide +kernel
theorem d_X2_winners_73 : decode cm_X2_winners 73 = .ok (.iload_n 3, 1) := by decide +kernel
theorem d_X2_winners_74 : decode cm_X2_winners 74 = .ok (.iload 4, 2) := by decide +kernel
theorem d_X2_winners_76 : decode cm_X2_winners 76 = .ok (.invokevirtual 81, 3) := by decide +kernel
theorem d_X2_winners_79 : decode cm_X2_winners 79 = .ok (.iinc 6 1, 3) := by decide +kernel
theorem d_X2_winners_82 : decode cm_X2_winners 82 = .ok (.goto (-59), 3) := by decide +kernel
theorem d_X2_winners_85 : decode cm_X2_winners 85 = .ok (.iload 5, 2) := by decide +kernel
theorem d_X2_winners_87 : decode cm_X2_winners 87 = .ok (.ireturn, 1) := by decide +kernel
def D_X2_winners_69 (K23 : Int32 → Int32 → Int32 → Int32 → Int32 → Int32 → GSt → Prop) (Q : Int32 → GSt → Prop) (x1 : Int32) (x2 : Int32) (x3 : Int32) (x4 : Int32) (x5 : Int32) (x6 : Int32) (σ : GSt) : Prop :=
  D_X5_unmake 50 x3 x4 σ (fun σ_1 => ∀ x6_2 : Int32, x6_2 = x6 + 1 → (K23 x1 x2 x3 x4 x5 x6_2 σ_1))
def D_X2_winners_23 (K23 : Int32 → Int32 → Int32 → Int32 → Int32 → Int32 → GSt → Prop) (Q : Int32 → GSt → Prop) (x1 : Int32) (x2 : Int32) (x3 : Int32) (x4 : Int32) (x5 : Int32) (x6 : Int32) (σ : GSt) : Prop :=
  (x1 ≤ x6 → Q x5 σ) ∧
  (¬ x1 ≤ x6 → (2 ≤ x5 → Q x5 σ) ∧
  (¬ 2 ≤ x5 → vp_in x6 256 ∧ (D_X5_make 50 (σ 51 (Int32.toNatClampNeg x6)) σ (fun σ_1 => D_X3_valueOf 50 (x2 - 1) σ_1 (fun r_2 σ_3 => (¬ r_2 = 0 → D_X2_winners_69 K23 Q x1 x2 x3 x4 x5 x6 σ_3) ∧
  (r_2 = 0 → ∀ x5_4 : Int32, x5_4 = x5 + 1 → (D_X2_winners_69 K23 Q x1 x2 x3 x4 x5_4 x6 σ_3)))))))
def L_X2_winners_23 (Q : Int32 → GSt → Prop) : Nat → Int32 → Int32 → Int32 → Int32 → Int32 → Int32 → GSt → Prop
  | 0 => fun _ _ _ _ _ _ _ => False
  | n + 1 => fun x1 x2 x3 x4 x5 x6 σ => D_X2_winners_23 (L_X2_winners_23 Q n) Q x1 x2 x3 x4 x5 x6 σ
def D_X2_winners_0 (Q : Int32 → GSt → Prop) (x1 : Int32) (x2 : Int32) (σ : GSt) : Prop :=
  ∀ x3_1 : Int32, x3_1 = (σ 50 1) → (∀ x4_2 : Int32, x4_2 = (σ 50 2) → (∃ n : Nat, L_X2_winners_23 Q n x1 x2 x3_1 x4_2 0 0 σ))
def D_X2_winners (x1 : Int32) (x2 : Int32) (σ : GSt) (Q : Int32 → GSt → Prop) : Prop := D_X2_winners_0 Q x1 x2 σ
set_option maxRecDepth 20000 in
set_option maxHeartbeats 4000000 in
theorem s_X2_winners_69 {p : Program} {l : Launch} {e : Env} {s : State} {m : MethodId} {args : Array Value} {below : List Frame} {meth : Method} {c : Code} {G : GC} (X : CallFix p m c cm_X2_winners 7 s args lw_us "GameLoom$Judge") (hr : meth.sig.returnType = some .int) (hlk : meth.locks = false) (K23 : Int32 → Int32 → Int32 → Int32 → Int32 → Int32 → GSt → Prop) (Q : Int32 → GSt → Prop) (hK23 : ∀ (x1 : Int32) (x2 : Int32) (x3 : Int32) (x4 : Int32) (x5 : Int32) (x6 : Int32) (σ : GSt) (H : Heap) (locs : List Loc) (ls : Array Slot), Wo G s H locs σ → lv_has ls 7 [(0, .ref (G.2.1 49)), (1, .int x1), (2, .int x2), (3, .int x3), (4, .int x4), (5, .int x5), (6, .int x6)] → K23 x1 x2 x3 x4 x5 x6 σ → W p l e rm_X2_winners s m args below meth c H locs 0 0 (QMI G Q below args s) (F0 m 23 ls [])) (x1 : Int32) (x2 : Int32) (x3 : Int32) (x4 : Int32) (x5 : Int32) (x6 : Int32) (σ : GSt) {H : Heap} {locs : List Loc} {ls : Array Slot} (hw : Wo G s H locs σ) (hl : lv_has ls 7 [(0, .ref (G.2.1 49)), (1, .int x1), (2, .int x2), (3, .int x3), (4, .int x4), (5, .int x5), (6, .int x6)]) (hD : D_X2_winners_69 K23 Q x1 x2 x3 x4 x5 x6 σ) : W p l e rm_X2_winners s m args below meth c H locs 0 0 (QMI G Q below args s) (F0 m 69 ls []) := by
  unfold D_X2_winners_69 at hD
  refine lv_aload_n X.1 X.2.1 d_X2_winners_69 rfl (lv_at hl 0 rfl) ?_
  refine gf_2_0 X hw (by decide +kernel : kd 49 = 2) tb_329 d_X2_winners_70 ?_
  refine lv_iload_n X.1 X.2.1 d_X2_winners_73 rfl (lv_at hl 3 rfl) ?_
  refine lv_iload X.1 X.2.1 d_X2_winners_74 (lv_at hl 4 rfl) ?_
  refine gcV_v (rest := []) (As := [.int x3, .int x4]) (o := 50) X hw (c_X5_unmake l G 50 x3 x4 σ _ ly_2_0 hD) (kd_lt ly_2_0 (by decide)) (ce_5 G _ ly_2_0) rfl tb_860 tb_640 tb_641 tb_9 tb_642 hd_X5_unmake ⟨rfl, rfl⟩ ⟨Nat.le_of_ble_eq_true rfl, Nat.le_of_ble_eq_true rfl⟩ rfl hl.1 rfl (Nat.le_of_ble_eq_true rfl) d_X2_winners_76 (fun σ_1 H locs hD hw => ?_)
  obtain ⟨x6_2, e_x6_2⟩ : ∃ y : Int32, y = x6 + 1 := ⟨_, rfl⟩
  have hD := hD x6_2 e_x6_2
  refine lv_iinc (v := x6_2) (lv' := [(6, .int x6_2), (0, .ref (G.2.1 49)), (1, .int x1), (2, .int x2), (3, .int x3), (4, .int x4), (5, .int x5)]) X.1 X.2.1 d_X2_winners_79 hl (k := 6) rfl (by rw [e_x6_2]; rfl) (by decide) rfl (fun ls hl => ?_)
  refine lv_goto (tgt := 23) X.1 X.2.1 d_X2_winners_82 (by decide) ?_
  exact hK23 x1 x2 x3 x4 x5 x6_2 σ_1 _ _ _  hw (lv_sub hl [1, 2, 3, 4, 5, 6, 0] rfl) hD
set_option maxRecDepth 20000 in
set_option maxHeartbeats 4000000 in
theorem s_X2_winners_23 {p : Program} {l : Launch} {e : Env} {s : State} {m : MethodId} {args : Array Value} {below : List Frame} {meth : Method} {c : Code} {G : GC} (X : CallFix p m c cm_X2_winners 7 s args lw_us "GameLoom$Judge") (hr : meth.sig.returnType = some .int) (hlk : meth.locks = false) (K23 : Int32 → Int32 → Int32 → Int32 → Int32 → Int32 → GSt → Prop) (Q : Int32 → GSt → Prop) (hK23 : ∀ (x1 : Int32) (x2 : Int32) (x3 : Int32) (x4 : Int32) (x5 : Int32) (x6 : Int32) (σ : GSt) (H : Heap) (locs : List Loc) (ls : Array Slot), Wo G s H locs σ → lv_has ls 7 [(0, .ref (G.2.1 49)), (1, .int x1), (2, .int x2), (3, .int x3), (4, .int x4), (5, .int x5), (6, .int x6)] → K23 x1 x2 x3 x4 x5 x6 σ → W p l e rm_X2_winners s m args below meth c H locs 0 0 (QMI G Q below args s) (F0 m 23 ls [])) (x1 : Int32) (x2 : Int32) (x3 : Int32) (x4 : Int32) (x5 : Int32) (x6 : Int32) (σ : GSt) {H : Heap} {locs : List Loc} {ls : Array Slot} (hw : Wo G s H locs σ) (hl : lv_has ls 7 [(0, .ref (G.2.1 49)), (1, .int x1), (2, .int x2), (3, .int x3), (4, .int x4), (5, .int x5), (6, .int x6)]) (hD : D_X2_winners_23 K23 Q x1 x2 x3 x4 x5 x6 σ) : W p l e rm_X2_winners s m args below meth c H locs 0 0 (QMI G Q below args s) (F0 m 23 ls []) := by
  unfold D_X2_winners_23 at hD
  refine lv_iload X.1 X.2.1 d_X2_winners_23 (lv_at hl 6 rfl) ?_
  refine lv_iload_n X.1 X.2.1 d_X2_winners_25 rfl (lv_at hl 1 rfl) ?_
  refine lv_icmp_ge (tgt := 85) X.1 X.2.1 d_X2_winners_26 (by decide) (fun q_26 => ?_) (fun q_26 => ?_)
  · have hD := hD.1 q_26
    refine lv_iload X.1 X.2.1 d_X2_winners_85 (lv_at hl 5 rfl) ?_
    exact g_iret X hr hlk hw hD d_X2_winners_87
  · have hD := hD.2 q_26
    refine lv_iload X.1 X.2.1 d_X2_winners_29 (lv_at hl 5 rfl) ?_
    refine lv_iconst (v := 2) X.1 X.2.1 d_X2_winners_31 (by decide) ?_
    refine lv_icmp_ge (tgt := 85) X.1 X.2.1 d_X2_winners_32 (by decide) (fun q_32 => ?_) (fun q_32 => ?_)
    · have hD := hD.1 q_32
      refine lv_iload X.1 X.2.1 d_X2_winners_85 (lv_at hl 5 rfl) ?_
      exact g_iret X hr hlk hw hD d_X2_winners_87
    · have hD := hD.2 q_32
      refine lv_aload_n X.1 X.2.1 d_X2_winners_35 rfl (lv_at hl 0 rfl) ?_
      refine gf_2_0 X hw (by decide +kernel : kd 49 = 2) tb_329 d_X2_winners_36 ?_
      refine lv_aload_n X.1 X.2.1 d_X2_winners_39 rfl (lv_at hl 0 rfl) ?_
      refine gf_2_2 X hw (by decide +kernel : kd 49 = 2) tb_331 d_X2_winners_40 ?_
      refine lv_iload X.1 X.2.1 d_X2_winners_43 (lv_at hl 6 rfl) ?_
      obtain ⟨q_45, hD⟩ := hD
      refine g_iald X hw ly_2_2.1 ly_2_2.2 q_45 d_X2_winners_45 ?_
      refine gcV_v (rest := []) (As := [.int (σ 51 (Int32.toNatClampNeg x6))]) (o := 50) X hw (c_X5_make l G 50 (σ 51 (Int32.toNatClampNeg x6)) σ _ ly_2_0 hD) (kd_lt ly_2_0 (by decide)) (ce_5 G _ ly_2_0) rfl tb_858 tb_604 tb_605 tb_9 tb_606 hd_X5_make ⟨rfl, rfl⟩ ⟨Nat.le_of_ble_eq_true rfl, Nat.le_of_ble_eq_true rfl⟩ rfl hl.1 rfl (Nat.le_of_ble_eq_true rfl) d_X2_winners_46 (fun σ_1 H locs hD hw => ?_)
      refine lv_aload_n X.1 X.2.1 d_X2_winners_49 rfl (lv_at hl 0 rfl) ?_
      refine gf_2_1 X hw (by decide +kernel : kd 49 = 2) tb_330 d_X2_winners_50 ?_
      refine lv_aload_n X.1 X.2.1 d_X2_winners_53 rfl (lv_at hl 0 rfl) ?_
      refine gf_2_0 X hw (by decide +kernel : kd 49 = 2) tb_329 d_X2_winners_54 ?_
      refine lv_iload_n X.1 X.2.1 d_X2_winners_57 rfl (lv_at hl 2 rfl) ?_
      refine lv_iconst (v := 1) X.1 X.2.1 d_X2_winners_58 (by decide) ?_
      refine lv_isub X.1 X.2.1 d_X2_winners_59 ?_
      refine gcV_i (rest := []) (As := [.ref (G.2.1 50), .int (x2 - 1)]) (o := 29) X hw (c_X3_valueOf l G 50 (x2 - 1) σ_1 _ ly_2_0 hD) (kd_lt ly_2_1 (by decide)) (ce_3 G _ ly_2_1) rfl tb_859 tb_690 tb_691 tb_7 tb_692 hd_X3_valueOf ⟨rfl, rfl⟩ ⟨Nat.le_of_ble_eq_true rfl, Nat.le_of_ble_eq_true rfl⟩ rfl hl.1 rfl (Nat.le_of_ble_eq_true rfl) d_X2_winners_60 (fun r_2 σ_3 H locs hD hw => ?_)
      refine lv_if_ne (tgt := 69) X.1 X.2.1 d_X2_winners_63 (by decide) (fun q_63 => ?_) (fun q_63 => ?_)
      · have hD := hD.1 q_63
        exact s_X2_winners_69 X hr hlk K23 Q hK23 x1 x2 x3 x4 x5 x6 σ_3 hw (lv_sub hl [0, 1, 2, 3, 4, 5, 6] rfl) hD
      · have hD := hD.2 q_63
        obtain ⟨x5_4, e_x5_4⟩ : ∃ y : Int32, y = x5 + 1 := ⟨_, rfl⟩
        have hD := hD x5_4 e_x5_4
        refine lv_iinc (v := x5_4) (lv' := [(5, .int x5_4), (0, .ref (G.2.1 49)), (1, .int x1), (2, .int x2), (3, .int x3), (4, .int x4), (6, .int x6)]) X.1 X.2.1 d_X2_winners_66 hl (k := 5) rfl (by rw [e_x5_4]; rfl) (by decide) rfl (fun ls hl => ?_)
        exact s_X2_winners_69 X hr hlk K23 Q hK23 x1 x2 x3 x4 x5_4 x6 σ_3 hw (lv_sub hl [1, 2, 3, 4, 5, 0, 6] rfl) hD
set_option maxRecDepth 20000 in
set_option maxHeartbeats 4000000 in
theorem sl_X2_winners_23 {p : Program} {l : Launch} {e : Env} {s : State} {m : MethodId} {args : Array Value} {below : List Frame} {meth : Method} {c : Code} {G : GC} (X : CallFix p m c cm_X2_winners 7 s args lw_us "GameLoom$Judge") (hr : meth.sig.returnType = some .int) (hlk : meth.locks = false) (Q : Int32 → GSt → Prop) : ∀ (nn : Nat), ∀ (x1 : Int32) (x2 : Int32) (x3 : Int32) (x4 : Int32) (x5 : Int32) (x6 : Int32) (σ : GSt) (H : Heap) (locs : List Loc) (ls : Array Slot), Wo G s H locs σ → lv_has ls 7 [(0, .ref (G.2.1 49)), (1, .int x1), (2, .int x2), (3, .int x3), (4, .int x4), (5, .int x5), (6, .int x6)] → L_X2_winners_23 Q nn x1 x2 x3 x4 x5 x6 σ → W p l e rm_X2_winners s m args below meth c H locs 0 0 (QMI G Q below args s) (F0 m 23 ls []) := by
  intro nn
  induction nn with
  | zero => intro x1 x2 x3 x4 x5 x6 σ H locs ls  hw hl hD; exact hD.elim
  | succ nn ih =>
    intro x1 x2 x3 x4 x5 x6 σ H locs ls  hw hl hD
    exact s_X2_winners_23 X hr hlk (L_X2_winners_23 Q nn) Q ih x1 x2 x3 x4 x5 x6 σ hw hl hD
set_option maxRecDepth 20000 in
set_option maxHeartbeats 4000000 in
theorem s_X2_winners_0 {p : Program} {l : Launch} {e : Env} {s : State} {m : MethodId} {args : Array Value} {below : List Frame} {meth : Method} {c : Code} {G : GC} (X : CallFix p m c cm_X2_winners 7 s args lw_us "GameLoom$Judge") (hr : meth.sig.returnType = some .int) (hlk : meth.locks = false) (Q : Int32 → GSt → Prop) (x1 : Int32) (x2 : Int32) (σ : GSt) {H : Heap} {locs : List Loc} {ls : Array Slot} (hw : Wo G s H locs σ) (hl : lv_has ls 7 [(0, .ref (G.2.1 49)), (1, .int x1), (2, .int x2)]) (hD : D_X2_winners_0 Q x1 x2 σ) : W p l e rm_X2_winners s m args below meth c H locs 0 0 (QMI G Q below args s) (F0 m 0 ls []) := by
  unfold D_X2_winners_0 at hD
  refine lv_aload_n X.1 X.2.1 d_X2_winners_0 rfl (lv_at hl 0 rfl) ?_
  refine gf_2_0 X hw (by decide +kernel : kd 49 = 2) tb_329 d_X2_winners_1 ?_
  refine gf_5_1 X hw ly_2_0 tb_242 d_X2_winners_4 ?_
  refine lv_topi (fun x3_1 e_x3_1 => ?_)
  have hD := hD x3_1 e_x3_1
  refine lv_istore_n (lv' := [(3, .int x3_1), (0, .ref (G.2.1 49)), (1, .int x1), (2, .int x2)]) X.1 X.2.1 d_X2_winners_7 rfl hl (by decide) rfl (fun ls hl => ?_)
  refine lv_aload_n X.1 X.2.1 d_X2_winners_8 rfl (lv_at hl 1 rfl) ?_
  refine gf_2_0 X hw (by decide +kernel : kd 49 = 2) tb_329 d_X2_winners_9 ?_
  refine gf_5_2 X hw ly_2_0 tb_247 d_X2_winners_12 ?_
  refine lv_topi (fun x4_2 e_x4_2 => ?_)
  have hD := hD x4_2 e_x4_2
  refine lv_istore (lv' := [(4, .int x4_2), (3, .int x3_1), (0, .ref (G.2.1 49)), (1, .int x1), (2, .int x2)]) X.1 X.2.1 d_X2_winners_15 hl (by decide) rfl (fun ls hl => ?_)
  refine lv_iconst (v := 0) X.1 X.2.1 d_X2_winners_17 (by decide) ?_
  refine lv_istore (lv' := [(5, .int 0), (4, .int x4_2), (3, .int x3_1), (0, .ref (G.2.1 49)), (1, .int x1), (2, .int x2)]) X.1 X.2.1 d_X2_winners_18 hl (by decide) rfl (fun ls hl => ?_)
  refine lv_iconst (v := 0) X.1 X.2.1 d_X2_winners_20 (by decide) ?_
  refine lv_istore (lv' := [(6, .int 0), (5, .int 0), (4, .int x4_2), (3, .int x3_1), (0, .ref (G.2.1 49)), (1, .int x1), (2, .int x2)]) X.1 X.2.1 d_X2_winners_21 hl (by decide) rfl (fun ls hl => ?_)
  obtain ⟨n9, hD⟩ := hD
  exact sl_X2_winners_23 X hr hlk  Q  n9 x1 x2 x3_1 x4_2 0 0 σ _ _ _  hw (lv_sub hl [4, 5, 6, 3, 2, 1, 0] rfl) hD
theorem c_X2_winners (l : Launch) (G : GC) (x1 : Int32) (x2 : Int32) (σ : GSt) (Q : Int32 → GSt → Prop)  (hD : D_X2_winners x1 x2 σ Q) : MI l ym_X2_winners cm_X2_winners 7 .int rm_X2_winners G σ [.ref (G.2.1 49), .int x1, .int x2] Q := by
  refine met_i (by decide) (Nat.le_of_ble_eq_true rfl) ?_
  intro p e s m args below meth c X hr hlk hw ls hl
  exact s_X2_winners_0 X hr hlk Q  x1 x2 σ hw (lv_sub hl [0, 1, 2] rfl) hD
theorem hd_X2_firstPuzzle : ym_X2_firstPuzzle.cls = "GameLoom$Judge" ∧ ym_X2_firstPuzzle.cls ≠ "java/lang/invoke/MethodHandle" ∧ ym_X2_firstPuzzle.cls ≠ "java/lang/invoke/VarHandle" ∧ (parseMethodDescriptor ym_X2_firstPuzzle.desc).map (fun d => d.parameters.length) = some 3 := by decide +kernel
abbrev rm_X2_firstPuzzle : Room := { frames := 15, cells := 0, slots := 0, locals := 383 }
theorem d_X2_firstPuzzle_0 : decode cm_X2_firstPuzzle 0 = .ok (.iload_n 2, 1) := by decide +kernel
theorem d_X2_firstPuzzle_1 : decode cm_X2_firstPuzzle 1 = .ok (.istore 4, 2) := by decide +kernel
theorem d_X2_firstPuzzle_3 : decode cm_X2_firstPuzzle 3 = .ok (.aload_n 0, 1) := by decide +kernel
theorem d_X2_firstPuzzle_4 : decode cm_X2_firstPuzzle 4 = .ok (.getfield 12, 3) := by decide +kernel
theorem d_X2_firstPuzzle_7 : decode cm_X2_firstPuzzle 7 = .ok (.aload_n 1, 1) := by decide +kernel
theorem d_X2_firstPuzzle_8 : decode cm_X2_firstPuzzle 8 = .ok (.invokevirtual 29, 3) := by decide +kernel
theorem d_X2_firstPuzzle_11 : decode cm_X2_firstPuzzle 11 = .ok (.iconst 0, 1) := by decide +kernel
theorem d_X2_firstPuzzle_12 : decode cm_X2_firstPuzzle 12 = .ok (.istore 5, 2) := by decide +kernel
theorem d_X2_firstPuzzle_14 : decode cm_X2_firstPuzzle 14 = .ok (.iload 5, 2) := by decide +kernel
theorem d_X2_firstPuzzle_16 : decode cm_X2_firstPuzzle 16 = .ok (.bipush 60, 2) := by decide +kernel
theorem d_X2_firstPuzzle_18 : decode cm_X2_firstPuzzle 18 = .ok (.if_icmp .ge 93, 3) := by decide +kernel
theorem d_X2_firstPuzzle_21 : decode cm_X2_firstPuzzle 21 = .ok (.aload_n 0, 1) := by decide +kernel
theorem d_X2_firstPuzzle_22 : decode cm_X2_firstPuzzle 22 = .ok (.getfield 12, 3) := by decide +kernel
theorem d_X2_firstPuzzle_25 : decode cm_X2_firstPuzzle 25 = .ok (.getfield 48, 3) := by decide +kernel
theorem d_X2_firstPuzzle_28 : decode cm_X2_firstPuzzle 28 = .ok (.ifCond .ne 83, 3) := by decide +kernel
theorem d_X2_firstPuzzle_31 : decode cm_X2_firstPuzzle 31 = .ok (.aload_n 0, 1) := by decide +kernel
theorem d_X2_firstPuzzle_32 : decode cm_X2_firstPuzzle 32 = .ok (.getfield 12, 3) := by decide +kernel
theorem d_X2_firstPuzzle_35 : decode cm_X2_firstPuzzle 35 = .ok (.aload_n 0, 1) := by decide +kernel
theorem d_X2_firstPuzzle_36 : decode cm_X2_firstPuzzle 36 = .ok (.getfield 18, 3) := by decide +kernel
theorem d_X2_firstPuzzle_39 : decode cm_X2_firstPuzzle 39 = .ok (.invokevirtual 52, 3) := by decide +kernel
theorem d_X2_firstPuzzle_42 : decode cm_X2_firstPuzzle 42 = .ok (.istore 6, 2) := by decide +kernel
theorem d_X2_firstPuzzle_44 : decode cm_X2_firstPuzzle 44 = .ok (.iload 6, 2) := by decide +kernel
theorem d_X2_firstPuzzle_46 : decode cm_X2_firstPuzzle 46 = .ok (.iconst 1, 1) := by decide +kernel
theorem d_X2_firstPuzzle_47 : decode cm_X2_firstPuzzle 47 = .ok (.if_icmp .le 32, 3) := by decide +kernel
theorem d_X2_firstPuzzle_50 : decode cm_X2_firstPuzzle 50 = .ok (.aload_n 0, 1) := by decide +kernel
theorem d_X2_firstPuzzle_51 : decode cm_X2_firstPuzzle 51 = .ok (.getfield 25, 3) := by decide +kernel
theorem d_X2_firstPuzzle_54 : decode cm_X2_firstPuzzle 54 = .ok (.aload_n 0, 1) := by decide +kernel
theorem d_X2_firstPuzzle_55 : decode cm_X2_firstPuzzle 55 = .ok (.getfield 12, 3) := by decide +kernel
theorem d_X2_firstPuzzle_58 : decode cm_X2_firstPuzzle 58 = .ok (.iload_n 3, 1) := by decide +kernel
theorem d_X2_firstPuzzle_59 : decode cm_X2_firstPuzzle 59 = .ok (.invokevirtual 33, 3) := by decide +kernel
theorem d_X2_firstPuzzle_62 : decode cm_X2_firstPuzzle 62 = .ok (.ifCond .ne 17, 3) := by decide +kernel
theorem d_X2_firstPuzzle_65 : decode cm_X2_firstPuzzle 65 = .ok (.aload_n 0, 1) := by decide +kernel
theorem d_X2_firstPuzzle_66 : decode cm_X2_firstPuzzle 66 = .ok (.iload 6, 2) := by decide +kernel
theorem d_X2_firstPuzzle_68 : decode cm_X2_firstPuzzle 68 = .ok (.iload_n 3, 1) := by decide +kernel
theorem d_X2_firstPuzzle_69 : decode cm_X2_firstPuzzle 69 = .ok (.invokevirtual 56, 3) := by decide +kernel
theorem d_X2_firstPuzzle_72 : decode cm_X2_firstPuzzle 72 = .ok (.iconst 1, 1) := by decide +kernel
theorem d_X2_firstPuzzle_73 : decode cm_X2_firstPuzzle 73 = .ok (.if_icmp .ne 6, 3) := by decide +kernel
theorem d_X2_firstPuzzle_76 : decode cm_X2_firstPuzzle 76 = .ok (.iload 5, 2) := by decide +kernel
theorem d_X2_firstPuzzle_78 : decode cm_X2_firstPuzzle 78 = .ok (.ireturn, 1) := by decide +kernel
theorem d_X2_firstPuzzle_79 : decode cm_X2_firstPuzzle 79 = .ok (.iload 4, 2) := by decide +kernel
theorem d_X2_firstPuzzle_81 : decode cm_X2_firstPuzzle 81 = .ok (.invokestatic 60, 3) := by decide +kernel
theorem d_X2_firstPuzzle_84 : decode cm_X2_firstPuzzle 84 = .ok (.istore 4, 2) := by decide +kernel
theorem d_X2_firstPuzzle_86 : decode cm_X2_firstPuzzle 86 = .ok (.aload_n 0, 1) := by decide +kernel
theorem d_X2_firstPuzzle_87 : decode cm_X2_firstPuzzle 87 = .ok (.getfield 12, 3) := by decide +kernel
theorem d_X2_firstPuzzle_90 : decode cm_X2_firstPuzzle 90 = .ok (.aload_n 0, 1) := by decide +kernel
theorem d_X2_firstPuzzle_91 : decode cm_X2_firstPuzzle 91 = .ok (.getfield 18, 3) := by decide +kernel
theorem d_X2_firstPuzzle_94 : decode cm_X2_firstPuzzle 94 = .ok (.iload 4, 2) := by decide +kernel
theorem d_X2_firstPuzzle_96 : decode cm_X2_firstPuzzle 96 = .ok (.iload 6, 2) := by decide +kernel
theorem d_X2_firstPuzzle_98 : decode cm_X2_firstPuzzle 98 = .ok (.invokestatic 64, 3) := by decide +kernel
theorem d_X2_firstPuzzle_101 : decode cm_X2_firstPuzzle 101 = .ok (.iaload, 1) := by decide +kernel
theorem d_X2_firstPuzzle_102 : decode cm_X2_firstPuzzle 102 = .ok (.invokevirtual 67, 3) := by decide +kernel
theorem d_X2_firstPuzzle_105 : decode cm_X2_firstPuzzle 105 = .ok (.iinc 5 1, 3) := by decide +kernel
theorem d_X2_firstPuzzle_108 : decode cm_X2_firstPuzzle 108 = .ok (.goto (-94), 3) := by decide +kernel
theorem d_X2_firstPuzzle_111 : decode cm_X2_firstPuzzle 111 = .ok (.bipush (-9), 2) := by decide +kernel
theorem d_X2_firstPuzzle_113 : decode cm_X2_firstPuzzle 113 = .ok (.ireturn, 1) := by decide +kernel
def D_X2_firstPuzzle_79 (K14 : Int32 → Int32 → Int32 → GSt → Prop) (Q : Int32 → GSt → Prop) (x3 : Int32) (x4 : Int32) (x5 : Int32) (x6 : Int32) (σ : GSt) : Prop :=
  D_X10_nextLot x4 σ (fun r_1 σ_2 => D_X10_drawnFrom r_1 x6 σ_2 (fun r_3 σ_4 => vp_in r_3 256 ∧ (D_X5_make 50 (σ_4 51 (Int32.toNatClampNeg r_3)) σ_4 (fun σ_5 => ∀ x5_6 : Int32, x5_6 = x5 + 1 → (K14 x3 r_1 x5_6 σ_5)))))
def D_X2_firstPuzzle_14 (K14 : Int32 → Int32 → Int32 → GSt → Prop) (Q : Int32 → GSt → Prop) (x3 : Int32) (x4 : Int32) (x5 : Int32) (σ : GSt) : Prop :=
  (60 ≤ x5 → Q (-9) σ) ∧
  (¬ 60 ≤ x5 → (¬ (σ 50 4) = 0 → Q (-9) σ) ∧
  ((σ 50 4) = 0 → D_X5_listMoves 50 51 σ (fun r_1 σ_2 => (r_1 ≤ 1 → D_X2_firstPuzzle_79 K14 Q x3 x4 x5 r_1 σ_2) ∧
  (¬ r_1 ≤ 1 → D_X3_isSpent 50 x3 σ_2 (fun r_3 σ_4 => (¬ r_3 = 0 → D_X2_firstPuzzle_79 K14 Q x3 x4 x5 r_1 σ_4) ∧
  (r_3 = 0 → D_X2_winners r_1 x3 σ_4 (fun r_5 σ_6 => (¬ r_5 = 1 → D_X2_firstPuzzle_79 K14 Q x3 x4 x5 r_1 σ_6) ∧
  (r_5 = 1 → Q x5 σ_6))))))))
def L_X2_firstPuzzle_14 (Q : Int32 → GSt → Prop) : Nat → Int32 → Int32 → Int32 → GSt → Prop
  | 0 => fun _ _ _ _ => False
  | n + 1 => fun x3 x4 x5 σ => D_X2_firstPuzzle_14 (L_X2_firstPuzzle_14 Q n) Q x3 x4 x5 σ
def D_X2_firstPuzzle_0 (Q : Int32 → GSt → Prop) (r1 : Nat) (x2 : Int32) (x3 : Int32) (σ : GSt) : Prop :=
  D_X5_begin 50 r1 σ (fun σ_1 => ∃ n : Nat, L_X2_firstPuzzle_14 Q n x3 x2 0 σ_1)
def D_X2_firstPuzzle (r1 : Nat) (x2 : Int32) (x3 : Int32) (σ : GSt) (Q : Int32 → GSt → Prop) : Prop := D_X2_firstPuzzle_0 Q r1 x2 x3 σ
set_option maxRecDepth 20000 in
set_option maxHeartbeats 4000000 in
theorem s_X2_firstPuzzle_79 {p : Program} {l : Launch} {e : Env} {s : State} {m : MethodId} {args : Array Value} {below : List Frame} {meth : Method} {c : Code} {G : GC} (X : CallFix p m c cm_X2_firstPuzzle 7 s args lw_us "GameLoom$Judge") (hr : meth.sig.returnType = some .int) (hlk : meth.locks = false) (K14 : Int32 → Int32 → Int32 → GSt → Prop) (Q : Int32 → GSt → Prop) (hK14 : ∀ (x3 : Int32) (x4 : Int32) (x5 : Int32) (σ : GSt) (H : Heap) (locs : List Loc) (ls : Array Slot), Wo G s H locs σ → lv_has ls 7 [(0, .ref (G.2.1 49)), (3, .int x3), (4, .int x4), (5, .int x5)] → K14 x3 x4 x5 σ → W p l e rm_X2_firstPuzzle s m args below meth c H locs 0 0 (QMI G Q below args s) (F0 m 14 ls [])) (x3 : Int32) (x4 : Int32) (x5 : Int32) (x6 : Int32) (σ : GSt) {H : Heap} {locs : List Loc} {ls : Array Slot} (hw : Wo G s H locs σ) (hl : lv_has ls 7 [(0, .ref (G.2.1 49)), (3, .int x3), (4, .int x4), (5, .int x5), (6, .int x6)]) (hD : D_X2_firstPuzzle_79 K14 Q x3 x4 x5 x6 σ) : W p l e rm_X2_firstPuzzle s m args below meth c H locs 0 0 (QMI G Q below args s) (F0 m 79 ls []) := by
  unfold D_X2_firstPuzzle_79 at hD
  refine lv_iload X.1 X.2.1 d_X2_firstPuzzle_79 (lv_at hl 2 rfl) ?_
  refine gcSN_i (rest := []) (As := [.int x4]) X hw (c_X10_nextLot l G x4 σ _  hD) hw.2.2.2.2.2.2.2.2.2.1 tb_736 tb_1 tb_737 hd_X10_nextLot ⟨rfl, rfl⟩ ⟨Nat.le_of_ble_eq_true rfl, Nat.le_of_ble_eq_true rfl⟩ rfl hl.1 rfl (Nat.le_of_ble_eq_true rfl) d_X2_firstPuzzle_81 (fun r_1 σ_2 H locs hD hw => ?_)
  refine lv_istore (lv' := [(4, .int r_1), (0, .ref (G.2.1 49)), (3, .int x3), (5, .int x5), (6, .int x6)]) X.1 X.2.1 d_X2_firstPuzzle_84 hl (by decide) rfl (fun ls hl => ?_)
  refine lv_aload_n X.1 X.2.1 d_X2_firstPuzzle_86 rfl (lv_at hl 1 rfl) ?_
  refine gf_2_0 X hw (by decide +kernel : kd 49 = 2) tb_329 d_X2_firstPuzzle_87 ?_
  refine lv_aload_n X.1 X.2.1 d_X2_firstPuzzle_90 rfl (lv_at hl 1 rfl) ?_
  refine gf_2_2 X hw (by decide +kernel : kd 49 = 2) tb_331 d_X2_firstPuzzle_91 ?_
  refine lv_iload X.1 X.2.1 d_X2_firstPuzzle_94 (lv_at hl 0 rfl) ?_
  refine lv_iload X.1 X.2.1 d_X2_firstPuzzle_96 (lv_at hl 4 rfl) ?_
  refine gcSN_i (rest := [.ref (G.2.1 51), .ref (G.2.1 50)]) (As := [.int r_1, .int x6]) X hw (c_X10_drawnFrom l G r_1 x6 σ_2 _  hD) hw.2.2.2.2.2.2.2.2.2.2 tb_740 tb_1 tb_741 hd_X10_drawnFrom ⟨rfl, rfl⟩ ⟨Nat.le_of_ble_eq_true rfl, Nat.le_of_ble_eq_true rfl⟩ rfl hl.1 rfl (Nat.le_of_ble_eq_true rfl) d_X2_firstPuzzle_98 (fun r_3 σ_4 H locs hD hw => ?_)
  obtain ⟨q_101, hD⟩ := hD
  refine g_iald X hw ly_2_2.1 ly_2_2.2 q_101 d_X2_firstPuzzle_101 ?_
  refine gcV_v (rest := []) (As := [.int (σ_4 51 (Int32.toNatClampNeg r_3))]) (o := 50) X hw (c_X5_make l G 50 (σ_4 51 (Int32.toNatClampNeg r_3)) σ_4 _ ly_2_0 hD) (kd_lt ly_2_0 (by decide)) (ce_5 G _ ly_2_0) rfl tb_858 tb_604 tb_605 tb_9 tb_606 hd_X5_make ⟨rfl, rfl⟩ ⟨Nat.le_of_ble_eq_true rfl, Nat.le_of_ble_eq_true rfl⟩ rfl hl.1 rfl (Nat.le_of_ble_eq_true rfl) d_X2_firstPuzzle_102 (fun σ_5 H locs hD hw => ?_)
  obtain ⟨x5_6, e_x5_6⟩ : ∃ y : Int32, y = x5 + 1 := ⟨_, rfl⟩
  have hD := hD x5_6 e_x5_6
  refine lv_iinc (v := x5_6) (lv' := [(5, .int x5_6), (4, .int r_1), (0, .ref (G.2.1 49)), (3, .int x3), (6, .int x6)]) X.1 X.2.1 d_X2_firstPuzzle_105 hl (k := 3) rfl (by rw [e_x5_6]; rfl) (by decide) rfl (fun ls hl => ?_)
  refine lv_goto (tgt := 14) X.1 X.2.1 d_X2_firstPuzzle_108 (by decide) ?_
  exact hK14 x3 r_1 x5_6 σ_5 _ _ _  hw (lv_sub hl [2, 3, 1, 0] rfl) hD
set_option maxRecDepth 20000 in
set_option maxHeartbeats 4000000 in
theorem s_X2_firstPuzzle_14 {p : Program} {l : Launch} {e : Env} {s : State} {m : MethodId} {args : Array Value} {below : List Frame} {meth : Method} {c : Code} {G : GC} (X : CallFix p m c cm_X2_firstPuzzle 7 s args lw_us "GameLoom$Judge") (hr : meth.sig.returnType = some .int) (hlk : meth.locks = false) (K14 : Int32 → Int32 → Int32 → GSt → Prop) (Q : Int32 → GSt → Prop) (hK14 : ∀ (x3 : Int32) (x4 : Int32) (x5 : Int32) (σ : GSt) (H : Heap) (locs : List Loc) (ls : Array Slot), Wo G s H locs σ → lv_has ls 7 [(0, .ref (G.2.1 49)), (3, .int x3), (4, .int x4), (5, .int x5)] → K14 x3 x4 x5 σ → W p l e rm_X2_firstPuzzle s m args below meth c H locs 0 0 (QMI G Q below args s) (F0 m 14 ls [])) (x3 : Int32) (x4 : Int32) (x5 : Int32) (σ : GSt) {H : Heap} {locs : List Loc} {ls : Array Slot} (hw : Wo G s H locs σ) (hl : lv_has ls 7 [(0, .ref (G.2.1 49)), (3, .int x3), (4, .int x4), (5, .int x5)]) (hD : D_X2_firstPuzzle_14 K14 Q x3 x4 x5 σ) : W p l e rm_X2_firstPuzzle s m args below meth c H locs 0 0 (QMI G Q below args s) (F0 m 14 ls []) := by
  unfold D_X2_firstPuzzle_14 at hD
  refine lv_iload X.1 X.2.1 d_X2_firstPuzzle_14 (lv_at hl 3 rfl) ?_
  refine lv_bipush (v := 60) X.1 X.2.1 d_X2_firstPuzzle_16 (by decide) ?_
  refine lv_icmp_ge (tgt := 111) X.1 X.2.1 d_X2_firstPuzzle_18 (by decide) (fun q_18 => ?_) (fun q_18 => ?_)
  · have hD := hD.1 q_18
    refine lv_bipush (v := (-9)) X.1 X.2.1 d_X2_firstPuzzle_111 (by decide) ?_
    exact g_iret X hr hlk hw hD d_X2_firstPuzzle_113
  · have hD := hD.2 q_18
    refine lv_aload_n X.1 X.2.1 d_X2_firstPuzzle_21 rfl (lv_at hl 0 rfl) ?_
    refine gf_2_0 X hw (by decide +kernel : kd 49 = 2) tb_329 d_X2_firstPuzzle_22 ?_
    refine gf_5_4 X hw ly_2_0 tb_256 d_X2_firstPuzzle_25 ?_
    refine lv_if_ne (tgt := 111) X.1 X.2.1 d_X2_firstPuzzle_28 (by decide) (fun q_28 => ?_) (fun q_28 => ?_)
    · have hD := hD.1 q_28
      refine lv_bipush (v := (-9)) X.1 X.2.1 d_X2_firstPuzzle_111 (by decide) ?_
      exact g_iret X hr hlk hw hD d_X2_firstPuzzle_113
    · have hD := hD.2 q_28
      refine lv_aload_n X.1 X.2.1 d_X2_firstPuzzle_31 rfl (lv_at hl 0 rfl) ?_
      refine gf_2_0 X hw (by decide +kernel : kd 49 = 2) tb_329 d_X2_firstPuzzle_32 ?_
      refine lv_aload_n X.1 X.2.1 d_X2_firstPuzzle_35 rfl (lv_at hl 0 rfl) ?_
      refine gf_2_2 X hw (by decide +kernel : kd 49 = 2) tb_331 d_X2_firstPuzzle_36 ?_
      refine gcV_i (rest := []) (As := [.ref (G.2.1 51)]) (o := 50) X hw (c_X5_listMoves l G 50 51 σ _ ly_2_0 ly_2_2.1 hD) (kd_lt ly_2_0 (by decide)) (ce_5 G _ ly_2_0) rfl tb_853 tb_574 tb_575 tb_9 tb_576 hd_X5_listMoves ⟨rfl, rfl⟩ ⟨Nat.le_of_ble_eq_true rfl, Nat.le_of_ble_eq_true rfl⟩ rfl hl.1 rfl (Nat.le_of_ble_eq_true rfl) d_X2_firstPuzzle_39 (fun r_1 σ_2 H locs hD hw => ?_)
      refine lv_istore (lv' := [(6, .int r_1), (0, .ref (G.2.1 49)), (3, .int x3), (4, .int x4), (5, .int x5)]) X.1 X.2.1 d_X2_firstPuzzle_42 hl (by decide) rfl (fun ls hl => ?_)
      refine lv_iload X.1 X.2.1 d_X2_firstPuzzle_44 (lv_at hl 0 rfl) ?_
      refine lv_iconst (v := 1) X.1 X.2.1 d_X2_firstPuzzle_46 (by decide) ?_
      refine lv_icmp_le (tgt := 79) X.1 X.2.1 d_X2_firstPuzzle_47 (by decide) (fun q_47 => ?_) (fun q_47 => ?_)
      · have hD := hD.1 q_47
        exact s_X2_firstPuzzle_79 X hr hlk K14 Q hK14 x3 x4 x5 r_1 σ_2 hw (lv_sub hl [1, 2, 3, 4, 0] rfl) hD
      · have hD := hD.2 q_47
        refine lv_aload_n X.1 X.2.1 d_X2_firstPuzzle_50 rfl (lv_at hl 1 rfl) ?_
        refine gf_2_1 X hw (by decide +kernel : kd 49 = 2) tb_330 d_X2_firstPuzzle_51 ?_
        refine lv_aload_n X.1 X.2.1 d_X2_firstPuzzle_54 rfl (lv_at hl 1 rfl) ?_
        refine gf_2_0 X hw (by decide +kernel : kd 49 = 2) tb_329 d_X2_firstPuzzle_55 ?_
        refine lv_iload_n X.1 X.2.1 d_X2_firstPuzzle_58 rfl (lv_at hl 2 rfl) ?_
        refine gcV_i (rest := []) (As := [.ref (G.2.1 50), .int x3]) (o := 29) X hw (c_X3_isSpent l G 50 x3 σ_2 _ ly_2_0 hD) (kd_lt ly_2_1 (by decide)) (ce_3 G _ ly_2_1) rfl tb_837 tb_679 tb_680 tb_7 tb_681 hd_X3_isSpent ⟨rfl, rfl⟩ ⟨Nat.le_of_ble_eq_true rfl, Nat.le_of_ble_eq_true rfl⟩ rfl hl.1 rfl (Nat.le_of_ble_eq_true rfl) d_X2_firstPuzzle_59 (fun r_3 σ_4 H locs hD hw => ?_)
        refine lv_if_ne (tgt := 79) X.1 X.2.1 d_X2_firstPuzzle_62 (by decide) (fun q_62 => ?_) (fun q_62 => ?_)
        · have hD := hD.1 q_62
          exact s_X2_firstPuzzle_79 X hr hlk K14 Q hK14 x3 x4 x5 r_1 σ_4 hw (lv_sub hl [1, 2, 3, 4, 0] rfl) hD
        · have hD := hD.2 q_62
          refine lv_aload_n X.1 X.2.1 d_X2_firstPuzzle_65 rfl (lv_at hl 1 rfl) ?_
          refine lv_iload X.1 X.2.1 d_X2_firstPuzzle_66 (lv_at hl 0 rfl) ?_
          refine lv_iload_n X.1 X.2.1 d_X2_firstPuzzle_68 rfl (lv_at hl 2 rfl) ?_
          refine gcV_i (rest := []) (As := [.int r_1, .int x3]) (o := 49) X hw (c_X2_winners l G r_1 x3 σ_4 _  hD) (kd_lt (by decide +kernel : kd 49 = 2) (by decide)) (ce_2 G _ (by decide +kernel : kd 49 = 2)) rfl tb_854 tb_856 tv_33 tb_10 tb_857 hd_X2_winners ⟨rfl, rfl⟩ ⟨Nat.le_of_ble_eq_true rfl, Nat.le_of_ble_eq_true rfl⟩ rfl hl.1 rfl (Nat.le_of_ble_eq_true rfl) d_X2_firstPuzzle_69 (fun r_5 σ_6 H locs hD hw => ?_)
          refine lv_iconst (v := 1) X.1 X.2.1 d_X2_firstPuzzle_72 (by decide) ?_
          refine lv_icmp_ne (tgt := 79) X.1 X.2.1 d_X2_firstPuzzle_73 (by decide) (fun q_73 => ?_) (fun q_73 => ?_)
          · have hD := hD.1 q_73
            exact s_X2_firstPuzzle_79 X hr hlk K14 Q hK14 x3 x4 x5 r_1 σ_6 hw (lv_sub hl [1, 2, 3, 4, 0] rfl) hD
          · have hD := hD.2 q_73
            refine lv_iload X.1 X.2.1 d_X2_firstPuzzle_76 (lv_at hl 4 rfl) ?_
            exact g_iret X hr hlk hw hD d_X2_firstPuzzle_78
set_option maxRecDepth 20000 in
set_option maxHeartbeats 4000000 in
theorem sl_X2_firstPuzzle_14 {p : Program} {l : Launch} {e : Env} {s : State} {m : MethodId} {args : Array Value} {below : List Frame} {meth : Method} {c : Code} {G : GC} (X : CallFix p m c cm_X2_firstPuzzle 7 s args lw_us "GameLoom$Judge") (hr : meth.sig.returnType = some .int) (hlk : meth.locks = false) (Q : Int32 → GSt → Prop) : ∀ (nn : Nat), ∀ (x3 : Int32) (x4 : Int32) (x5 : Int32) (σ : GSt) (H : Heap) (locs : List Loc) (ls : Array Slot), Wo G s H locs σ → lv_has ls 7 [(0, .ref (G.2.1 49)), (3, .int x3), (4, .int x4), (5, .int x5)] → L_X2_firstPuzzle_14 Q nn x3 x4 x5 σ → W p l e rm_X2_firstPuzzle s m args below meth c H locs 0 0 (QMI G Q below args s) (F0 m 14 ls []) := by
  intro nn
  induction nn with
  | zero => intro x3 x4 x5 σ H locs ls  hw hl hD; exact hD.elim
  | succ nn ih =>
    intro x3 x4 x5 σ H locs ls  hw hl hD
    exact s_X2_firstPuzzle_14 X hr hlk (L_X2_firstPuzzle_14 Q nn) Q ih x3 x4 x5 σ hw hl hD
set_option maxRecDepth 20000 in
set_option maxHeartbeats 4000000 in
theorem s_X2_firstPuzzle_0 {p : Program} {l : Launch} {e : Env} {s : State} {m : MethodId} {args : Array Value} {below : List Frame} {meth : Method} {c : Code} {G : GC} (X : CallFix p m c cm_X2_firstPuzzle 7 s args lw_us "GameLoom$Judge") (hr : meth.sig.returnType = some .int) (hlk : meth.locks = false) (Q : Int32 → GSt → Prop) (r1 : Nat) (hk1 : kd r1 = 1) (x2 : Int32) (x3 : Int32) (σ : GSt) {H : Heap} {locs : List Loc} {ls : Array Slot} (hw : Wo G s H locs σ) (hl : lv_has ls 7 [(0, .ref (G.2.1 49)), (1, .ref (G.2.1 r1)), (2, .int x2), (3, .int x3)]) (hD : D_X2_firstPuzzle_0 Q r1 x2 x3 σ) : W p l e rm_X2_firstPuzzle s m args below meth c H locs 0 0 (QMI G Q below args s) (F0 m 0 ls []) := by
  unfold D_X2_firstPuzzle_0 at hD
  refine lv_iload_n X.1 X.2.1 d_X2_firstPuzzle_0 rfl (lv_at hl 2 rfl) ?_
  refine lv_istore (lv' := [(4, .int x2), (0, .ref (G.2.1 49)), (1, .ref (G.2.1 r1)), (2, .int x2), (3, .int x3)]) X.1 X.2.1 d_X2_firstPuzzle_1 hl (by decide) rfl (fun ls hl => ?_)
  refine lv_aload_n X.1 X.2.1 d_X2_firstPuzzle_3 rfl (lv_at hl 1 rfl) ?_
  refine gf_2_0 X hw (by decide +kernel : kd 49 = 2) tb_329 d_X2_firstPuzzle_4 ?_
  refine lv_aload_n X.1 X.2.1 d_X2_firstPuzzle_7 rfl (lv_at hl 2 rfl) ?_
  refine gcV_v (rest := []) (As := [.ref (G.2.1 r1)]) (o := 50) X hw (c_X5_begin l G 50 r1 σ _ ly_2_0 hk1 hD) (kd_lt ly_2_0 (by decide)) (ce_5 G _ ly_2_0) rfl tb_836 tb_548 tb_549 tb_9 tb_550 hd_X5_begin ⟨rfl, rfl⟩ ⟨Nat.le_of_ble_eq_true rfl, Nat.le_of_ble_eq_true rfl⟩ rfl hl.1 rfl (Nat.le_of_ble_eq_true rfl) d_X2_firstPuzzle_8 (fun σ_1 H locs hD hw => ?_)
  refine lv_iconst (v := 0) X.1 X.2.1 d_X2_firstPuzzle_11 (by decide) ?_
  refine lv_istore (lv' := [(5, .int 0), (4, .int x2), (0, .ref (G.2.1 49)), (1, .ref (G.2.1 r1)), (2, .int x2), (3, .int x3)]) X.1 X.2.1 d_X2_firstPuzzle_12 hl (by decide) rfl (fun ls hl => ?_)
  obtain ⟨n9, hD⟩ := hD
  exact sl_X2_firstPuzzle_14 X hr hlk  Q  n9 x3 x2 0 σ_1 _ _ _  hw (lv_sub hl [2, 5, 1, 0] rfl) hD
theorem c_X2_firstPuzzle (l : Launch) (G : GC) (r1 : Nat) (x2 : Int32) (x3 : Int32) (σ : GSt) (Q : Int32 → GSt → Prop) (hr1 : kd r1 = 1) (hD : D_X2_firstPuzzle r1 x2 x3 σ Q) : MI l ym_X2_firstPuzzle cm_X2_firstPuzzle 7 .int rm_X2_firstPuzzle G σ [.ref (G.2.1 49), .ref (G.2.1 r1), .int x2, .int x3] Q := by
  refine met_i (by decide) (Nat.le_of_ble_eq_true rfl) ?_
  intro p e s m args below meth c X hr hlk hw ls hl
  exact s_X2_firstPuzzle_0 X hr hlk Q  r1 hr1 x2 x3 σ hw (lv_sub hl [0, 1, 2, 3] rfl) hD
theorem hd_X2_firstBlunder : ym_X2_firstBlunder.cls = "GameLoom$Judge" ∧ ym_X2_firstBlunder.cls ≠ "java/lang/invoke/MethodHandle" ∧ ym_X2_firstBlunder.cls ≠ "java/lang/invoke/VarHandle" ∧ (parseMethodDescriptor ym_X2_firstBlunder.desc).map (fun d => d.parameters.length) = some 3 := by decide +kernel
abbrev rm_X2_firstBlunder : Room := { frames := 14, cells := 0, slots := 0, locals := 358 }
theorem d_X2_firstBlunder_0 : decode cm_X2_firstBlunder 0 = .ok (.iload_n 2, 1) := by decide +kernel
theorem d_X2_firstBlunder_1 : decode cm_X2_firstBlunder 1 = .ok (.istore 4, 2) := by decide +kernel
theorem d_X2_firstBlunder_3 : decode cm_X2_firstBlunder 3 = .ok (.aload_n 0, 1) := by decide +kernel
theorem d_X2_firstBlunder_4 : decode cm_X2_firstBlunder 4 = .ok (.getfield 12, 3) := by decide +kernel
theorem d_X2_firstBlunder_7 : decode cm_X2_firstBlunder 7 = .ok (.aload_n 1, 1) := by decide +kernel
theorem d_X2_firstBlunder_8 : decode cm_X2_firstBlunder 8 = .ok (.invokevirtual 29, 3) := by decide +kernel
theorem d_X2_firstBlunder_11 : decode cm_X2_firstBlunder 11 = .ok (.iconst 0, 1) := by decide +kernel
theorem d_X2_firstBlunder_12 : decode cm_X2_firstBlunder 12 = .ok (.istore 5, 2) := by decide +kernel
theorem d_X2_firstBlunder_14 : decode cm_X2_firstBlunder 14 = .ok (.iload 5, 2) := by decide +kernel
theorem d_X2_firstBlunder_16 : decode cm_X2_firstBlunder 16 = .ok (.bipush 60, 2) := by decide +kernel
theorem d_X2_firstBlunder_18 : decode cm_X2_firstBlunder 18 = .ok (.if_icmp .ge 121, 3) := by decide +kernel
theorem d_X2_firstBlunder_21 : decode cm_X2_firstBlunder 21 = .ok (.aload_n 0, 1) := by decide +kernel
theorem d_X2_firstBlunder_22 : decode cm_X2_firstBlunder 22 = .ok (.getfield 12, 3) := by decide +kernel
theorem d_X2_firstBlunder_25 : decode cm_X2_firstBlunder 25 = .ok (.getfield 48, 3) := by decide +kernel
theorem d_X2_firstBlunder_28 : decode cm_X2_firstBlunder 28 = .ok (.ifCond .ne 111, 3) := by decide +kernel
theorem d_X2_firstBlunder_31 : decode cm_X2_firstBlunder 31 = .ok (.aload_n 0, 1) := by decide +kernel
theorem d_X2_firstBlunder_32 : decode cm_X2_firstBlunder 32 = .ok (.getfield 25, 3) := by decide +kernel
theorem d_X2_firstBlunder_35 : decode cm_X2_firstBlunder 35 = .ok (.aload_n 0, 1) := by decide +kernel
theorem d_X2_firstBlunder_36 : decode cm_X2_firstBlunder 36 = .ok (.getfield 12, 3) := by decide +kernel
theorem d_X2_firstBlunder_39 : decode cm_X2_firstBlunder 39 = .ok (.iload_n 3, 1) := by decide +kernel
theorem d_X2_firstBlunder_40 : decode cm_X2_firstBlunder 40 = .ok (.invokevirtual 33, 3) := by decide +kernel
theorem d_X2_firstBlunder_43 : decode cm_X2_firstBlunder 43 = .ok (.ifCond .ne 23, 3) := by decide +kernel
theorem d_X2_firstBlunder_46 : decode cm_X2_firstBlunder 46 = .ok (.aload_n 0, 1) := by decide +kernel
theorem d_X2_firstBlunder_47 : decode cm_X2_firstBlunder 47 = .ok (.getfield 25, 3) := by decide +kernel
theorem d_X2_firstBlunder_50 : decode cm_X2_firstBlunder 50 = .ok (.aload_n 0, 1) := by decide +kernel
theorem d_X2_firstBlunder_51 : decode cm_X2_firstBlunder 51 = .ok (.getfield 12, 3) := by decide +kernel
theorem d_X2_firstBlunder_54 : decode cm_X2_firstBlunder 54 = .ok (.iload_n 3, 1) := by decide +kernel
theorem d_X2_firstBlunder_55 : decode cm_X2_firstBlunder 55 = .ok (.invokevirtual 77, 3) := by decide +kernel
theorem d_X2_firstBlunder_58 : decode cm_X2_firstBlunder 58 = .ok (.iconst 2, 1) := by decide +kernel
theorem d_X2_firstBlunder_59 : decode cm_X2_firstBlunder 59 = .ok (.if_icmp .ne 7, 3) := by decide +kernel
theorem d_X2_firstBlunder_62 : decode cm_X2_firstBlunder 62 = .ok (.iconst 1, 1) := by decide +kernel
theorem d_X2_firstBlunder_63 : decode cm_X2_firstBlunder 63 = .ok (.goto 4, 3) := by decide +kernel
theorem d_X2_firstBlunder_66 : decode cm_X2_firstBlunder 66 = .ok (.iconst 0, 1) := by decide +kernel
theorem d_X2_firstBlunder_67 : decode cm_X2_firstBlunder 67 = .ok (.istore 6, 2) := by decide +kernel
theorem d_X2_firstBlunder_69 : decode cm_X2_firstBlunder 69 = .ok (.aload_n 0, 1) := by decide +kernel
theorem d_X2_firstBlunder_70 : decode cm_X2_firstBlunder 70 = .ok (.getfield 12, 3) := by decide +kernel
theorem d_X2_firstBlunder_73 : decode cm_X2_firstBlunder 73 = .ok (.aload_n 0, 1) := by decide +kernel
theorem d_X2_firstBlunder_74 : decode cm_X2_firstBlunder 74 = .ok (.getfield 18, 3) := by decide +kernel
theorem d_X2_firstBlunder_77 : decode cm_X2_firstBlunder 77 = .ok (.invokevirtual 52, 3) := by decide +kernel
theorem d_X2_firstBlunder_80 : decode cm_X2_firstBlunder 80 = .ok (.istore 7, 2) := by decide +kernel
theorem d_X2_firstBlunder_82 : decode cm_X2_firstBlunder 82 = .ok (.iload 4, 2) := by decide +kernel
theorem d_X2_firstBlunder_84 : decode cm_X2_firstBlunder 84 = .ok (.invokestatic 60, 3) := by decide +kernel
theorem d_X2_firstBlunder_87 : decode cm_X2_firstBlunder 87 = .ok (.istore 4, 2) := by decide +kernel
theorem d_X2_firstBlunder_89 : decode cm_X2_firstBlunder 89 = .ok (.aload_n 0, 1) := by decide +kernel
theorem d_X2_firstBlunder_90 : decode cm_X2_firstBlunder 90 = .ok (.getfield 12, 3) := by decide +kernel
theorem d_X2_firstBlunder_93 : decode cm_X2_firstBlunder 93 = .ok (.aload_n 0, 1) := by decide +kernel
theorem d_X2_firstBlunder_94 : decode cm_X2_firstBlunder 94 = .ok (.getfield 18, 3) := by decide +kernel
theorem d_X2_firstBlunder_97 : decode cm_X2_firstBlunder 97 = .ok (.iload 4, 2) := by decide +kernel
theorem d_X2_firstBlunder_99 : decode cm_X2_firstBlunder 99 = .ok (.iload 7, 2) := by decide +kernel
theorem d_X2_firstBlunder_101 : decode cm_X2_firstBlunder 101 = .ok (.invokestatic 64, 3) := by decide +kernel
theorem d_X2_firstBlunder_104 : decode cm_X2_firstBlunder 104 = .ok (.iaload, 1) := by decide +kernel
theorem d_X2_firstBlunder_105 : decode cm_X2_firstBlunder 105 = .ok (.invokevirtual 67, 3) := by decide +kernel
theorem d_X2_firstBlunder_108 : decode cm_X2_firstBlunder 108 = .ok (.iload 6, 2) := by decide +kernel
theorem d_X2_firstBlunder_110 : decode cm_X2_firstBlunder 110 = .ok (.ifCond .eq 23, 3) := by decide +kernel
theorem d_X2_firstBlunder_113 : decode cm_X2_firstBlunder 113 = .ok (.aload_n 0, 1) := by decide +kernel
theorem d_X2_firstBlunder_114 : decode cm_X2_firstBlunder 114 = .ok (.getfield 25, 3) := by decide +kernel
theorem d_X2_firstBlunder_117 : decode cm_X2_firstBlunder 117 = .ok (.aload_n 0, 1) := by decide +kernel
theorem d_X2_firstBlunder_118 : decode cm_X2_firstBlunder 118 = .ok (.getfield 12, 3) := by decide +kernel
theorem d_X2_firstBlunder_121 : decode cm_X2_firstBlunder 121 = .ok (.iload_n 3, 1) := by decide +kernel
theorem d_X2_firstBlunder_122 : decode cm_X2_firstBlunder 122 = .ok (.iconst 1, 1) := by decide +kernel
theorem d_X2_firstBlunder_123 : decode cm_X2_firstBlunder 123 = .ok (.isub, 1) := by decide +kernel
theorem d_X2_firstBlunder_124 : decode cm_X2_firstBlunder 124 = .ok (.invokevirtual 77, 3) := by decide +kernel
theorem d_X2_firstBlunder_127 : decode cm_X2_firstBlunder 127 = .ok (.ifCond .le 6, 3) := by decide +kernel
theorem d_X2_firstBlunder_130 : decode cm_X2_firstBlunder 130 = .ok (.iload 5, 2) := by decide +kernel
theorem d_X2_firstBlunder_132 : decode cm_X2_firstBlunder 132 = .ok (.ireturn, 1) := by decide +kernel
theorem d_X2_firstBlunder_133 : decode cm_X2_firstBlunder 133 = .ok (.iinc 5 1, 3) := by decide +kernel
theorem d_X2_firstBlunder_136 : decode cm_X2_firstBlunder 136 = .ok (.goto (-122), 3) := by decide +kernel
theorem d_X2_firstBlunder_139 : decode cm_X2_firstBlunder 139 = .ok (.bipush (-9), 2) := by decide +kernel
theorem d_X2_firstBlunder_141 : decode cm_X2_firstBlunder 141 = .ok (.ireturn, 1) := by decide +kernel
def D_X2_firstBlunder_133 (K14 : Int32 → Int32 → Int32 → GSt → Prop) (Q : Int32 → GSt → Prop) (x3 : Int32) (x4 : Int32) (x5 : Int32) (σ : GSt) : Prop :=
  ∀ x5_1 : Int32, x5_1 = x5 + 1 → (K14 x3 x4 x5_1 σ)
def D_X2_firstBlunder_67 (K14 : Int32 → Int32 → Int32 → GSt → Prop) (Q : Int32 → GSt → Prop) (x3 : Int32) (x4 : Int32) (x5 : Int32) (s0 : Int32) (σ : GSt) : Prop :=
  D_X5_listMoves 50 51 σ (fun r_1 σ_2 => D_X10_nextLot x4 σ_2 (fun r_3 σ_4 => D_X10_drawnFrom r_3 r_1 σ_4 (fun r_5 σ_6 => vp_in r_5 256 ∧ (D_X5_make 50 (σ_6 51 (Int32.toNatClampNeg r_5)) σ_6 (fun σ_7 => (s0 = 0 → D_X2_firstBlunder_133 K14 Q x3 r_3 x5 σ_7) ∧
  (¬ s0 = 0 → D_X3_valueOf 50 (x3 - 1) σ_7 (fun r_8 σ_9 => (r_8 ≤ 0 → D_X2_firstBlunder_133 K14 Q x3 r_3 x5 σ_9) ∧
  (¬ r_8 ≤ 0 → Q x5 σ_9))))))))
def D_X2_firstBlunder_66 (K14 : Int32 → Int32 → Int32 → GSt → Prop) (Q : Int32 → GSt → Prop) (x3 : Int32) (x4 : Int32) (x5 : Int32) (σ : GSt) : Prop :=
  D_X2_firstBlunder_67 K14 Q x3 x4 x5 0 σ
def D_X2_firstBlunder_14 (K14 : Int32 → Int32 → Int32 → GSt → Prop) (Q : Int32 → GSt → Prop) (x3 : Int32) (x4 : Int32) (x5 : Int32) (σ : GSt) : Prop :=
  (60 ≤ x5 → Q (-9) σ) ∧
  (¬ 60 ≤ x5 → (¬ (σ 50 4) = 0 → Q (-9) σ) ∧
  ((σ 50 4) = 0 → D_X3_isSpent 50 x3 σ (fun r_1 σ_2 => (¬ r_1 = 0 → D_X2_firstBlunder_66 K14 Q x3 x4 x5 σ_2) ∧
  (r_1 = 0 → D_X3_valueOf 50 x3 σ_2 (fun r_3 σ_4 => (¬ r_3 = 2 → D_X2_firstBlunder_66 K14 Q x3 x4 x5 σ_4) ∧
  (r_3 = 2 → D_X2_firstBlunder_67 K14 Q x3 x4 x5 1 σ_4))))))
def L_X2_firstBlunder_14 (Q : Int32 → GSt → Prop) : Nat → Int32 → Int32 → Int32 → GSt → Prop
  | 0 => fun _ _ _ _ => False
  | n + 1 => fun x3 x4 x5 σ => D_X2_firstBlunder_14 (L_X2_firstBlunder_14 Q n) Q x3 x4 x5 σ
def D_X2_firstBlunder_0 (Q : Int32 → GSt → Prop) (r1 : Nat) (x2 : Int32) (x3 : Int32) (σ : GSt) : Prop :=
  D_X5_begin 50 r1 σ (fun σ_1 => ∃ n : Nat, L_X2_firstBlunder_14 Q n x3 x2 0 σ_1)
def D_X2_firstBlunder (r1 : Nat) (x2 : Int32) (x3 : Int32) (σ : GSt) (Q : Int32 → GSt → Prop) : Prop := D_X2_firstBlunder_0 Q r1 x2 x3 σ
set_option maxRecDepth 20000 in
set_option maxHeartbeats 4000000 in
theorem s_X2_firstBlunder_133 {p : Program} {l : Launch} {e : Env} {s : State} {m : MethodId} {args : Array Value} {below : List Frame} {meth : Method} {c : Code} {G : GC} (X : CallFix p m c cm_X2_firstBlunder 8 s args lw_us "GameLoom$Judge") (hr : meth.sig.returnType = some .int) (hlk : meth.locks = false) (K14 : Int32 → Int32 → Int32 → GSt → Prop) (Q : Int32 → GSt → Prop) (hK14 : ∀ (x3 : Int32) (x4 : Int32) (x5 : Int32) (σ : GSt) (H : Heap) (locs : List Loc) (ls : Array Slot), Wo G s H locs σ → lv_has ls 8 [(0, .ref (G.2.1 49)), (3, .int x3), (4, .int x4), (5, .int x5)] → K14 x3 x4 x5 σ → W p l e rm_X2_firstBlunder s m args below meth c H locs 0 0 (QMI G Q below args s) (F0 m 14 ls [])) (x3 : Int32) (x4 : Int32) (x5 : Int32) (σ : GSt) {H : Heap} {locs : List Loc} {ls : Array Slot} (hw : Wo G s H locs σ) (hl : lv_has ls 8 [(0, .ref (G.2.1 49)), (3, .int x3), (4, .int x4), (5, .int x5)]) (hD : D_X2_firstBlunder_133 K14 Q x3 x4 x5 σ) : W p l e rm_X2_firstBlunder s m args below meth c H locs 0 0 (QMI G Q below args s) (F0 m 133 ls []) := by
  unfold D_X2_firstBlunder_133 at hD
  obtain ⟨x5_1, e_x5_1⟩ : ∃ y : Int32, y = x5 + 1 := ⟨_, rfl⟩
  have hD := hD x5_1 e_x5_1
  refine lv_iinc (v := x5_1) (lv' := [(5, .int x5_1), (0, .ref (G.2.1 49)), (3, .int x3), (4, .int x4)]) X.1 X.2.1 d_X2_firstBlunder_133 hl (k := 3) rfl (by rw [e_x5_1]; rfl) (by decide) rfl (fun ls hl => ?_)
  refine lv_goto (tgt := 14) X.1 X.2.1 d_X2_firstBlunder_136 (by decide) ?_
  exact hK14 x3 x4 x5_1 σ _ _ _  hw (lv_sub hl [1, 2, 3, 0] rfl) hD
set_option maxRecDepth 20000 in
set_option maxHeartbeats 4000000 in
theorem s_X2_firstBlunder_67 {p : Program} {l : Launch} {e : Env} {s : State} {m : MethodId} {args : Array Value} {below : List Frame} {meth : Method} {c : Code} {G : GC} (X : CallFix p m c cm_X2_firstBlunder 8 s args lw_us "GameLoom$Judge") (hr : meth.sig.returnType = some .int) (hlk : meth.locks = false) (K14 : Int32 → Int32 → Int32 → GSt → Prop) (Q : Int32 → GSt → Prop) (hK14 : ∀ (x3 : Int32) (x4 : Int32) (x5 : Int32) (σ : GSt) (H : Heap) (locs : List Loc) (ls : Array Slot), Wo G s H locs σ → lv_has ls 8 [(0, .ref (G.2.1 49)), (3, .int x3), (4, .int x4), (5, .int x5)] → K14 x3 x4 x5 σ → W p l e rm_X2_firstBlunder s m args below meth c H locs 0 0 (QMI G Q below args s) (F0 m 14 ls [])) (x3 : Int32) (x4 : Int32) (x5 : Int32) (s0 : Int32) (σ : GSt) {H : Heap} {locs : List Loc} {ls : Array Slot} (hw : Wo G s H locs σ) (hl : lv_has ls 8 [(0, .ref (G.2.1 49)), (3, .int x3), (4, .int x4), (5, .int x5)]) (hD : D_X2_firstBlunder_67 K14 Q x3 x4 x5 s0 σ) : W p l e rm_X2_firstBlunder s m args below meth c H locs 0 0 (QMI G Q below args s) (F0 m 67 ls [.int s0]) := by
  unfold D_X2_firstBlunder_67 at hD
  refine lv_istore (lv' := [(6, .int s0), (0, .ref (G.2.1 49)), (3, .int x3), (4, .int x4), (5, .int x5)]) X.1 X.2.1 d_X2_firstBlunder_67 hl (by decide) rfl (fun ls hl => ?_)
  refine lv_aload_n X.1 X.2.1 d_X2_firstBlunder_69 rfl (lv_at hl 1 rfl) ?_
  refine gf_2_0 X hw (by decide +kernel : kd 49 = 2) tb_329 d_X2_firstBlunder_70 ?_
  refine lv_aload_n X.1 X.2.1 d_X2_firstBlunder_73 rfl (lv_at hl 1 rfl) ?_
  refine gf_2_2 X hw (by decide +kernel : kd 49 = 2) tb_331 d_X2_firstBlunder_74 ?_
  refine gcV_i (rest := []) (As := [.ref (G.2.1 51)]) (o := 50) X hw (c_X5_listMoves l G 50 51 σ _ ly_2_0 ly_2_2.1 hD) (kd_lt ly_2_0 (by decide)) (ce_5 G _ ly_2_0) rfl tb_853 tb_574 tb_575 tb_9 tb_576 hd_X5_listMoves ⟨rfl, rfl⟩ ⟨Nat.le_of_ble_eq_true rfl, Nat.le_of_ble_eq_true rfl⟩ rfl hl.1 rfl (Nat.le_of_ble_eq_true rfl) d_X2_firstBlunder_77 (fun r_1 σ_2 H locs hD hw => ?_)
  refine lv_istore (lv' := [(7, .int r_1), (6, .int s0), (0, .ref (G.2.1 49)), (3, .int x3), (4, .int x4), (5, .int x5)]) X.1 X.2.1 d_X2_firstBlunder_80 hl (by decide) rfl (fun ls hl => ?_)
  refine lv_iload X.1 X.2.1 d_X2_firstBlunder_82 (lv_at hl 4 rfl) ?_
  refine gcSN_i (rest := []) (As := [.int x4]) X hw (c_X10_nextLot l G x4 σ_2 _  hD) hw.2.2.2.2.2.2.2.2.2.1 tb_736 tb_1 tb_737 hd_X10_nextLot ⟨rfl, rfl⟩ ⟨Nat.le_of_ble_eq_true rfl, Nat.le_of_ble_eq_true rfl⟩ rfl hl.1 rfl (Nat.le_of_ble_eq_true rfl) d_X2_firstBlunder_84 (fun r_3 σ_4 H locs hD hw => ?_)
  refine lv_istore (lv' := [(4, .int r_3), (7, .int r_1), (6, .int s0), (0, .ref (G.2.1 49)), (3, .int x3), (5, .int x5)]) X.1 X.2.1 d_X2_firstBlunder_87 hl (by decide) rfl (fun ls hl => ?_)
  refine lv_aload_n X.1 X.2.1 d_X2_firstBlunder_89 rfl (lv_at hl 3 rfl) ?_
  refine gf_2_0 X hw (by decide +kernel : kd 49 = 2) tb_329 d_X2_firstBlunder_90 ?_
  refine lv_aload_n X.1 X.2.1 d_X2_firstBlunder_93 rfl (lv_at hl 3 rfl) ?_
  refine gf_2_2 X hw (by decide +kernel : kd 49 = 2) tb_331 d_X2_firstBlunder_94 ?_
  refine lv_iload X.1 X.2.1 d_X2_firstBlunder_97 (lv_at hl 0 rfl) ?_
  refine lv_iload X.1 X.2.1 d_X2_firstBlunder_99 (lv_at hl 1 rfl) ?_
  refine gcSN_i (rest := [.ref (G.2.1 51), .ref (G.2.1 50)]) (As := [.int r_3, .int r_1]) X hw (c_X10_drawnFrom l G r_3 r_1 σ_4 _  hD) hw.2.2.2.2.2.2.2.2.2.2 tb_740 tb_1 tb_741 hd_X10_drawnFrom ⟨rfl, rfl⟩ ⟨Nat.le_of_ble_eq_true rfl, Nat.le_of_ble_eq_true rfl⟩ rfl hl.1 rfl (Nat.le_of_ble_eq_true rfl) d_X2_firstBlunder_101 (fun r_5 σ_6 H locs hD hw => ?_)
  obtain ⟨q_104, hD⟩ := hD
  refine g_iald X hw ly_2_2.1 ly_2_2.2 q_104 d_X2_firstBlunder_104 ?_
  refine gcV_v (rest := []) (As := [.int (σ_6 51 (Int32.toNatClampNeg r_5))]) (o := 50) X hw (c_X5_make l G 50 (σ_6 51 (Int32.toNatClampNeg r_5)) σ_6 _ ly_2_0 hD) (kd_lt ly_2_0 (by decide)) (ce_5 G _ ly_2_0) rfl tb_858 tb_604 tb_605 tb_9 tb_606 hd_X5_make ⟨rfl, rfl⟩ ⟨Nat.le_of_ble_eq_true rfl, Nat.le_of_ble_eq_true rfl⟩ rfl hl.1 rfl (Nat.le_of_ble_eq_true rfl) d_X2_firstBlunder_105 (fun σ_7 H locs hD hw => ?_)
  refine lv_iload X.1 X.2.1 d_X2_firstBlunder_108 (lv_at hl 2 rfl) ?_
  refine lv_if_eq (tgt := 133) X.1 X.2.1 d_X2_firstBlunder_110 (by decide) (fun q_110 => ?_) (fun q_110 => ?_)
  · have hD := hD.1 q_110
    exact s_X2_firstBlunder_133 X hr hlk K14 Q hK14 x3 r_3 x5 σ_7 hw (lv_sub hl [3, 4, 0, 5] rfl) hD
  · have hD := hD.2 q_110
    refine lv_aload_n X.1 X.2.1 d_X2_firstBlunder_113 rfl (lv_at hl 3 rfl) ?_
    refine gf_2_1 X hw (by decide +kernel : kd 49 = 2) tb_330 d_X2_firstBlunder_114 ?_
    refine lv_aload_n X.1 X.2.1 d_X2_firstBlunder_117 rfl (lv_at hl 3 rfl) ?_
    refine gf_2_0 X hw (by decide +kernel : kd 49 = 2) tb_329 d_X2_firstBlunder_118 ?_
    refine lv_iload_n X.1 X.2.1 d_X2_firstBlunder_121 rfl (lv_at hl 4 rfl) ?_
    refine lv_iconst (v := 1) X.1 X.2.1 d_X2_firstBlunder_122 (by decide) ?_
    refine lv_isub X.1 X.2.1 d_X2_firstBlunder_123 ?_
    refine gcV_i (rest := []) (As := [.ref (G.2.1 50), .int (x3 - 1)]) (o := 29) X hw (c_X3_valueOf l G 50 (x3 - 1) σ_7 _ ly_2_0 hD) (kd_lt ly_2_1 (by decide)) (ce_3 G _ ly_2_1) rfl tb_859 tb_690 tb_691 tb_7 tb_692 hd_X3_valueOf ⟨rfl, rfl⟩ ⟨Nat.le_of_ble_eq_true rfl, Nat.le_of_ble_eq_true rfl⟩ rfl hl.1 rfl (Nat.le_of_ble_eq_true rfl) d_X2_firstBlunder_124 (fun r_8 σ_9 H locs hD hw => ?_)
    refine lv_if_le (tgt := 133) X.1 X.2.1 d_X2_firstBlunder_127 (by decide) (fun q_127 => ?_) (fun q_127 => ?_)
    · have hD := hD.1 q_127
      exact s_X2_firstBlunder_133 X hr hlk K14 Q hK14 x3 r_3 x5 σ_9 hw (lv_sub hl [3, 4, 0, 5] rfl) hD
    · have hD := hD.2 q_127
      refine lv_iload X.1 X.2.1 d_X2_firstBlunder_130 (lv_at hl 5 rfl) ?_
      exact g_iret X hr hlk hw hD d_X2_firstBlunder_132
set_option maxRecDepth 20000 in
set_option maxHeartbeats 4000000 in
theorem s_X2_firstBlunder_66 {p : Program} {l : Launch} {e : Env} {s : State} {m : MethodId} {args : Array Value} {below : List Frame} {meth : Method} {c : Code} {G : GC} (X : CallFix p m c cm_X2_firstBlunder 8 s args lw_us "GameLoom$Judge") (hr : meth.sig.returnType = some .int) (hlk : meth.locks = false) (K14 : Int32 → Int32 → Int32 → GSt → Prop) (Q : Int32 → GSt → Prop) (hK14 : ∀ (x3 : Int32) (x4 : Int32) (x5 : Int32) (σ : GSt) (H : Heap) (locs : List Loc) (ls : Array Slot), Wo G s H locs σ → lv_has ls 8 [(0, .ref (G.2.1 49)), (3, .int x3), (4, .int x4), (5, .int x5)] → K14 x3 x4 x5 σ → W p l e rm_X2_firstBlunder s m args below meth c H locs 0 0 (QMI G Q below args s) (F0 m 14 ls [])) (x3 : Int32) (x4 : Int32) (x5 : Int32) (σ : GSt) {H : Heap} {locs : List Loc} {ls : Array Slot} (hw : Wo G s H locs σ) (hl : lv_has ls 8 [(0, .ref (G.2.1 49)), (3, .int x3), (4, .int x4), (5, .int x5)]) (hD : D_X2_firstBlunder_66 K14 Q x3 x4 x5 σ) : W p l e rm_X2_firstBlunder s m args below meth c H locs 0 0 (QMI G Q below args s) (F0 m 66 ls []) := by
  unfold D_X2_firstBlunder_66 at hD
  refine lv_iconst (v := 0) X.1 X.2.1 d_X2_firstBlunder_66 (by decide) ?_
  exact s_X2_firstBlunder_67 X hr hlk K14 Q hK14 x3 x4 x5 0 σ hw (lv_sub hl [0, 1, 2, 3] rfl) hD
set_option maxRecDepth 20000 in
set_option maxHeartbeats 4000000 in
theorem s_X2_firstBlunder_14 {p : Program} {l : Launch} {e : Env} {s : State} {m : MethodId} {args : Array Value} {below : List Frame} {meth : Method} {c : Code} {G : GC} (X : CallFix p m c cm_X2_firstBlunder 8 s args lw_us "GameLoom$Judge") (hr : meth.sig.returnType = some .int) (hlk : meth.locks = false) (K14 : Int32 → Int32 → Int32 → GSt → Prop) (Q : Int32 → GSt → Prop) (hK14 : ∀ (x3 : Int32) (x4 : Int32) (x5 : Int32) (σ : GSt) (H : Heap) (locs : List Loc) (ls : Array Slot), Wo G s H locs σ → lv_has ls 8 [(0, .ref (G.2.1 49)), (3, .int x3), (4, .int x4), (5, .int x5)] → K14 x3 x4 x5 σ → W p l e rm_X2_firstBlunder s m args below meth c H locs 0 0 (QMI G Q below args s) (F0 m 14 ls [])) (x3 : Int32) (x4 : Int32) (x5 : Int32) (σ : GSt) {H : Heap} {locs : List Loc} {ls : Array Slot} (hw : Wo G s H locs σ) (hl : lv_has ls 8 [(0, .ref (G.2.1 49)), (3, .int x3), (4, .int x4), (5, .int x5)]) (hD : D_X2_firstBlunder_14 K14 Q x3 x4 x5 σ) : W p l e rm_X2_firstBlunder s m args below meth c H locs 0 0 (QMI G Q below args s) (F0 m 14 ls []) := by
  unfold D_X2_firstBlunder_14 at hD
  refine lv_iload X.1 X.2.1 d_X2_firstBlunder_14 (lv_at hl 3 rfl) ?_
  refine lv_bipush (v := 60) X.1 X.2.1 d_X2_firstBlunder_16 (by decide) ?_
  refine lv_icmp_ge (tgt := 139) X.1 X.2.1 d_X2_firstBlunder_18 (by decide) (fun q_18 => ?_) (fun q_18 => ?_)
  · have hD := hD.1 q_18
    refine lv_bipush (v := (-9)) X.1 X.2.1 d_X2_firstBlunder_139 (by decide) ?_
    exact g_iret X hr hlk hw hD d_X2_firstBlunder_141
  · have hD := hD.2 q_18
    refine lv_aload_n X.1 X.2.1 d_X2_firstBlunder_21 rfl (lv_at hl 0 rfl) ?_
    refine gf_2_0 X hw (by decide +kernel : kd 49 = 2) tb_329 d_X2_firstBlunder_22 ?_
    refine gf_5_4 X hw ly_2_0 tb_256 d_X2_firstBlunder_25 ?_
    refine lv_if_ne (tgt := 139) X.1 X.2.1 d_X2_firstBlunder_28 (by decide) (fun q_28 => ?_) (fun q_28 => ?_)
    · have hD := hD.1 q_28
      refine lv_bipush (v := (-9)) X.1 X.2.1 d_X2_firstBlunder_139 (by decide) ?_
      exact g_iret X hr hlk hw hD d_X2_firstBlunder_141
    · have hD := hD.2 q_28
      refine lv_aload_n X.1 X.2.1 d_X2_firstBlunder_31 rfl (lv_at hl 0 rfl) ?_
      refine gf_2_1 X hw (by decide +kernel : kd 49 = 2) tb_330 d_X2_firstBlunder_32 ?_
      refine lv_aload_n X.1 X.2.1 d_X2_firstBlunder_35 rfl (lv_at hl 0 rfl) ?_
      refine gf_2_0 X hw (by decide +kernel : kd 49 = 2) tb_329 d_X2_firstBlunder_36 ?_
      refine lv_iload_n X.1 X.2.1 d_X2_firstBlunder_39 rfl (lv_at hl 1 rfl) ?_
      refine gcV_i (rest := []) (As := [.ref (G.2.1 50), .int x3]) (o := 29) X hw (c_X3_isSpent l G 50 x3 σ _ ly_2_0 hD) (kd_lt ly_2_1 (by decide)) (ce_3 G _ ly_2_1) rfl tb_837 tb_679 tb_680 tb_7 tb_681 hd_X3_isSpent ⟨rfl, rfl⟩ ⟨Nat.le_of_ble_eq_true rfl, Nat.le_of_ble_eq_true rfl⟩ rfl hl.1 rfl (Nat.le_of_ble_eq_true rfl) d_X2_firstBlunder_40 (fun r_1 σ_2 H locs hD hw => ?_)
      refine lv_if_ne (tgt := 66) X.1 X.2.1 d_X2_firstBlunder_43 (by decide) (fun q_43 => ?_) (fun q_43 => ?_)
      · have hD := hD.1 q_43
        exact s_X2_firstBlunder_66 X hr hlk K14 Q hK14 x3 x4 x5 σ_2 hw (lv_sub hl [0, 1, 2, 3] rfl) hD
      · have hD := hD.2 q_43
        refine lv_aload_n X.1 X.2.1 d_X2_firstBlunder_46 rfl (lv_at hl 0 rfl) ?_
        refine gf_2_1 X hw (by decide +kernel : kd 49 = 2) tb_330 d_X2_firstBlunder_47 ?_
        refine lv_aload_n X.1 X.2.1 d_X2_firstBlunder_50 rfl (lv_at hl 0 rfl) ?_
        refine gf_2_0 X hw (by decide +kernel : kd 49 = 2) tb_329 d_X2_firstBlunder_51 ?_
        refine lv_iload_n X.1 X.2.1 d_X2_firstBlunder_54 rfl (lv_at hl 1 rfl) ?_
        refine gcV_i (rest := []) (As := [.ref (G.2.1 50), .int x3]) (o := 29) X hw (c_X3_valueOf l G 50 x3 σ_2 _ ly_2_0 hD) (kd_lt ly_2_1 (by decide)) (ce_3 G _ ly_2_1) rfl tb_859 tb_690 tb_691 tb_7 tb_692 hd_X3_valueOf ⟨rfl, rfl⟩ ⟨Nat.le_of_ble_eq_true rfl, Nat.le_of_ble_eq_true rfl⟩ rfl hl.1 rfl (Nat.le_of_ble_eq_true rfl) d_X2_firstBlunder_55 (fun r_3 σ_4 H locs hD hw => ?_)
        refine lv_iconst (v := 2) X.1 X.2.1 d_X2_firstBlunder_58 (by decide) ?_
        refine lv_icmp_ne (tgt := 66) X.1 X.2.1 d_X2_firstBlunder_59 (by decide) (fun q_59 => ?_) (fun q_59 => ?_)
        · have hD := hD.1 q_59
          exact s_X2_firstBlunder_66 X hr hlk K14 Q hK14 x3 x4 x5 σ_4 hw (lv_sub hl [0, 1, 2, 3] rfl) hD
        · have hD := hD.2 q_59
          refine lv_iconst (v := 1) X.1 X.2.1 d_X2_firstBlunder_62 (by decide) ?_
          refine lv_goto (tgt := 67) X.1 X.2.1 d_X2_firstBlunder_63 (by decide) ?_
          exact s_X2_firstBlunder_67 X hr hlk K14 Q hK14 x3 x4 x5 1 σ_4 hw (lv_sub hl [0, 1, 2, 3] rfl) hD
set_option maxRecDepth 20000 in
set_option maxHeartbeats 4000000 in
theorem sl_X2_firstBlunder_14 {p : Program} {l : Launch} {e : Env} {s : State} {m : MethodId} {args : Array Value} {below : List Frame} {meth : Method} {c : Code} {G : GC} (X : CallFix p m c cm_X2_firstBlunder 8 s args lw_us "GameLoom$Judge") (hr : meth.sig.returnType = some .int) (hlk : meth.locks = false) (Q : Int32 → GSt → Prop) : ∀ (nn : Nat), ∀ (x3 : Int32) (x4 : Int32) (x5 : Int32) (σ : GSt) (H : Heap) (locs : List Loc) (ls : Array Slot), Wo G s H locs σ → lv_has ls 8 [(0, .ref (G.2.1 49)), (3, .int x3), (4, .int x4), (5, .int x5)] → L_X2_firstBlunder_14 Q nn x3 x4 x5 σ → W p l e rm_X2_firstBlunder s m args below meth c H locs 0 0 (QMI G Q below args s) (F0 m 14 ls []) := by
  intro nn
  induction nn with
  | zero => intro x3 x4 x5 σ H locs ls  hw hl hD; exact hD.elim
  | succ nn ih =>
    intro x3 x4 x5 σ H locs ls  hw hl hD
    exact s_X2_firstBlunder_14 X hr hlk (L_X2_firstBlunder_14 Q nn) Q ih x3 x4 x5 σ hw hl hD
set_option maxRecDepth 20000 in
set_option maxHeartbeats 4000000 in
theorem s_X2_firstBlunder_0 {p : Program} {l : Launch} {e : Env} {s : State} {m : MethodId} {args : Array Value} {below : List Frame} {meth : Method} {c : Code} {G : GC} (X : CallFix p m c cm_X2_firstBlunder 8 s args lw_us "GameLoom$Judge") (hr : meth.sig.returnType = some .int) (hlk : meth.locks = false) (Q : Int32 → GSt → Prop) (r1 : Nat) (hk1 : kd r1 = 1) (x2 : Int32) (x3 : Int32) (σ : GSt) {H : Heap} {locs : List Loc} {ls : Array Slot} (hw : Wo G s H locs σ) (hl : lv_has ls 8 [(0, .ref (G.2.1 49)), (1, .ref (G.2.1 r1)), (2, .int x2), (3, .int x3)]) (hD : D_X2_firstBlunder_0 Q r1 x2 x3 σ) : W p l e rm_X2_firstBlunder s m args below meth c H locs 0 0 (QMI G Q below args s) (F0 m 0 ls []) := by
  unfold D_X2_firstBlunder_0 at hD
  refine lv_iload_n X.1 X.2.1 d_X2_firstBlunder_0 rfl (lv_at hl 2 rfl) ?_
  refine lv_istore (lv' := [(4, .int x2), (0, .ref (G.2.1 49)), (1, .ref (G.2.1 r1)), (2, .int x2), (3, .int x3)]) X.1 X.2.1 d_X2_firstBlunder_1 hl (by decide) rfl (fun ls hl => ?_)
  refine lv_aload_n X.1 X.2.1 d_X2_firstBlunder_3 rfl (lv_at hl 1 rfl) ?_
  refine gf_2_0 X hw (by decide +kernel : kd 49 = 2) tb_329 d_X2_firstBlunder_4 ?_
  refine lv_aload_n X.1 X.2.1 d_X2_firstBlunder_7 rfl (lv_at hl 2 rfl) ?_
  refine gcV_v (rest := []) (As := [.ref (G.2.1 r1)]) (o := 50) X hw (c_X5_begin l G 50 r1 σ _ ly_2_0 hk1 hD) (kd_lt ly_2_0 (by decide)) (ce_5 G _ ly_2_0) rfl tb_836 tb_548 tb_549 tb_9 tb_550 hd_X5_begin ⟨rfl, rfl⟩ ⟨Nat.le_of_ble_eq_true rfl, Nat.le_of_ble_eq_true rfl⟩ rfl hl.1 rfl (Nat.le_of_ble_eq_true rfl) d_X2_firstBlunder_8 (fun σ_1 H locs hD hw => ?_)
  refine lv_iconst (v := 0) X.1 X.2.1 d_X2_firstBlunder_11 (by decide) ?_
  refine lv_istore (lv' := [(5, .int 0), (4, .int x2), (0, .ref (G.2.1 49)), (1, .ref (G.2.1 r1)), (2, .int x2), (3, .int x3)]) X.1 X.2.1 d_X2_firstBlunder_12 hl (by decide) rfl (fun ls hl => ?_)
  obtain ⟨n9, hD⟩ := hD
  exact sl_X2_firstBlunder_14 X hr hlk  Q  n9 x3 x2 0 σ_1 _ _ _  hw (lv_sub hl [2, 5, 1, 0] rfl) hD
theorem c_X2_firstBlunder (l : Launch) (G : GC) (r1 : Nat) (x2 : Int32) (x3 : Int32) (σ : GSt) (Q : Int32 → GSt → Prop) (hr1 : kd r1 = 1) (hD : D_X2_firstBlunder r1 x2 x3 σ Q) : MI l ym_X2_firstBlunder cm_X2_firstBlunder 8 .int rm_X2_firstBlunder G σ [.ref (G.2.1 49), .ref (G.2.1 r1), .int x2, .int x3] Q := by
  refine met_i (by decide) (Nat.le_of_ble_eq_true rfl) ?_
  intro p e s m args below meth c X hr hlk hw ls hl
  exact s_X2_firstBlunder_0 X hr hlk Q  r1 hr1 x2 x3 σ hw (lv_sub hl [0, 1, 2, 3] rfl) hD
