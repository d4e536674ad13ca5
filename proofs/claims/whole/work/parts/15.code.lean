theorem hd_X6_readLength : ym_X6_readLength.cls = "GameLoom$Reader" ∧ ym_X6_readLength.cls ≠ "java/lang/invoke/MethodHandle" ∧ ym_X6_readLength.cls ≠ "java/lang/invoke/VarHandle" ∧ (parseMethodDescriptor ym_X6_readLength.desc).map (fun d => d.parameters.length) = some 1 := by decide +kernel
abbrev rm_X6_readLength : Room := { frames := 2, cells := 0, slots := 0, locals := 44 }
theorem d_X6_readLength_0 : decode cm_X6_readLength 0 = .ok (.aload_n 0, 1) := by decide +kernel
theorem d_X6_readLength_1 : decode cm_X6_readLength 1 = .ok (.iconst 0, 1) := by decide +kernel
theorem d_X6_readLength_2 : decode cm_X6_readLength 2 = .ok (.bipush 9, 2) := by decide +kernel
theorem d_X6_readLength_4 : decode cm_X6_readLength 4 = .ok (.invokevirtual 56, 3) := by decide +kernel
theorem d_X6_readLength_7 : decode cm_X6_readLength 7 = .ok (.istore_n 2, 1) := by decide +kernel
theorem d_X6_readLength_8 : decode cm_X6_readLength 8 = .ok (.iload_n 2, 1) := by decide +kernel
theorem d_X6_readLength_9 : decode cm_X6_readLength 9 = .ok (.ifCond .ge 5, 3) := by decide +kernel
theorem d_X6_readLength_12 : decode cm_X6_readLength 12 = .ok (.iconst 0, 1) := by decide +kernel
theorem d_X6_readLength_13 : decode cm_X6_readLength 13 = .ok (.ireturn, 1) := by decide +kernel
theorem d_X6_readLength_14 : decode cm_X6_readLength 14 = .ok (.aload_n 0, 1) := by decide +kernel
theorem d_X6_readLength_15 : decode cm_X6_readLength 15 = .ok (.iconst 0, 1) := by decide +kernel
theorem d_X6_readLength_16 : decode cm_X6_readLength 16 = .ok (.bipush 9, 2) := by decide +kernel
theorem d_X6_readLength_18 : decode cm_X6_readLength 18 = .ok (.invokevirtual 56, 3) := by decide +kernel
theorem d_X6_readLength_21 : decode cm_X6_readLength 21 = .ok (.istore_n 3, 1) := by decide +kernel
theorem d_X6_readLength_22 : decode cm_X6_readLength 22 = .ok (.aload_n 1, 1) := by decide +kernel
theorem d_X6_readLength_23 : decode cm_X6_readLength 23 = .ok (.bipush 10, 2) := by decide +kernel
theorem d_X6_readLength_25 : decode cm_X6_readLength 25 = .ok (.iload_n 2, 1) := by decide +kernel
theorem d_X6_readLength_26 : decode cm_X6_readLength 26 = .ok (.imul, 1) := by decide +kernel
theorem d_X6_readLength_27 : decode cm_X6_readLength 27 = .ok (.iload_n 3, 1) := by decide +kernel
theorem d_X6_readLength_28 : decode cm_X6_readLength 28 = .ok (.iadd, 1) := by decide +kernel
theorem d_X6_readLength_29 : decode cm_X6_readLength 29 = .ok (.putfield 108, 3) := by decide +kernel
theorem d_X6_readLength_32 : decode cm_X6_readLength 32 = .ok (.aload_n 1, 1) := by decide +kernel
theorem d_X6_readLength_33 : decode cm_X6_readLength 33 = .ok (.iconst 2, 1) := by decide +kernel
theorem d_X6_readLength_34 : decode cm_X6_readLength 34 = .ok (.putfield 129, 3) := by decide +kernel
theorem d_X6_readLength_37 : decode cm_X6_readLength 37 = .ok (.iload_n 3, 1) := by decide +kernel
theorem d_X6_readLength_38 : decode cm_X6_readLength 38 = .ok (.ifCond .lt 7, 3) := by decide +kernel
theorem d_X6_readLength_41 : decode cm_X6_readLength 41 = .ok (.iconst 1, 1) := by decide +kernel
theorem d_X6_readLength_42 : decode cm_X6_readLength 42 = .ok (.goto 4, 3) := by decide +kernel
theorem d_X6_readLength_45 : decode cm_X6_readLength 45 = .ok (.iconst 0, 1) := by decide +kernel
theorem d_X6_readLength_46 : decode cm_X6_readLength 46 = .ok (.ireturn, 1) := by decide +kernel
def D_X6_readLength_0 (Q : Int32 → GSt → Prop) (r1 : Nat) (σ : GSt) : Prop :=
  D_X6_digit 0 9 σ (fun r_1 σ_2 => (0 ≤ r_1 → D_X6_digit 0 9 σ_2 (fun r_3 σ_4 => ∀ σ_5 : GSt, σ_5 = up2 σ_4 r1 1 ((10 * r_1) + r_3) → (∀ σ_6 : GSt, σ_6 = up2 σ_5 r1 2 2 → ((r_3 < 0 → Q 0 σ_6) ∧
  (¬ r_3 < 0 → Q 1 σ_6))))) ∧
  (¬ 0 ≤ r_1 → Q 0 σ_2))
def D_X6_readLength (r1 : Nat) (σ : GSt) (Q : Int32 → GSt → Prop) : Prop := D_X6_readLength_0 Q r1 σ
set_option maxRecDepth 20000 in
set_option maxHeartbeats 4000000 in
theorem s_X6_readLength_0 {p : Program} {l : Launch} {e : Env} {s : State} {m : MethodId} {args : Array Value} {below : List Frame} {meth : Method} {c : Code} {G : GC} (X : CallFix p m c cm_X6_readLength 4 s args lw_us "GameLoom$Reader") (hr : meth.sig.returnType = some .boolean) (hlk : meth.locks = false) (Q : Int32 → GSt → Prop) (r1 : Nat) (hk1 : kd r1 = 7) (σ : GSt) {H : Heap} {locs : List Loc} {ls : Array Slot} (hw : Wo G s H locs σ) (hl : lv_has ls 4 [(0, .ref (G.2.1 5)), (1, .ref (G.2.1 r1))]) (hD : D_X6_readLength_0 Q r1 σ) : W p l e rm_X6_readLength s m args below meth c H locs 0 0 (QMI G Q below args s) (F0 m 0 ls []) := by
  unfold D_X6_readLength_0 at hD
  refine lv_aload_n X.1 X.2.1 d_X6_readLength_0 rfl (lv_at hl 0 rfl) ?_
  refine lv_iconst (v := 0) X.1 X.2.1 d_X6_readLength_1 (by decide) ?_
  refine lv_bipush (v := 9) X.1 X.2.1 d_X6_readLength_2 (by decide) ?_
  refine gcV_i (rest := []) (As := [.int 0, .int 9]) (o := 5) X hw (c_X6_digit l G 0 9 σ _  hD) (kd_lt (by decide +kernel : kd 5 = 6) (by decide)) (ce_6 G _ (by decide +kernel : kd 5 = 6)) rfl tb_452 tb_454 tv_4 tb_3 tb_455 hd_X6_digit ⟨rfl, rfl⟩ ⟨Nat.le_of_ble_eq_true rfl, Nat.le_of_ble_eq_true rfl⟩ rfl hl.1 rfl (Nat.le_of_ble_eq_true rfl) d_X6_readLength_4 (fun r_1 σ_2 H locs hD hw => ?_)
  refine lv_istore_n (lv' := [(2, .int r_1), (0, .ref (G.2.1 5)), (1, .ref (G.2.1 r1))]) X.1 X.2.1 d_X6_readLength_7 rfl hl (by decide) rfl (fun ls hl => ?_)
  refine lv_iload_n X.1 X.2.1 d_X6_readLength_8 rfl (lv_at hl 0 rfl) ?_
  refine lv_if_ge (tgt := 14) X.1 X.2.1 d_X6_readLength_9 (by decide) (fun q_9 => ?_) (fun q_9 => ?_)
  · have hD := hD.1 q_9
    refine lv_aload_n X.1 X.2.1 d_X6_readLength_14 rfl (lv_at hl 1 rfl) ?_
    refine lv_iconst (v := 0) X.1 X.2.1 d_X6_readLength_15 (by decide) ?_
    refine lv_bipush (v := 9) X.1 X.2.1 d_X6_readLength_16 (by decide) ?_
    refine gcV_i (rest := []) (As := [.int 0, .int 9]) (o := 5) X hw (c_X6_digit l G 0 9 σ_2 _  hD) (kd_lt (by decide +kernel : kd 5 = 6) (by decide)) (ce_6 G _ (by decide +kernel : kd 5 = 6)) rfl tb_452 tb_454 tv_4 tb_3 tb_455 hd_X6_digit ⟨rfl, rfl⟩ ⟨Nat.le_of_ble_eq_true rfl, Nat.le_of_ble_eq_true rfl⟩ rfl hl.1 rfl (Nat.le_of_ble_eq_true rfl) d_X6_readLength_18 (fun r_3 σ_4 H locs hD hw => ?_)
    refine lv_istore_n (lv' := [(3, .int r_3), (2, .int r_1), (0, .ref (G.2.1 5)), (1, .ref (G.2.1 r1))]) X.1 X.2.1 d_X6_readLength_21 rfl hl (by decide) rfl (fun ls hl => ?_)
    refine lv_aload_n X.1 X.2.1 d_X6_readLength_22 rfl (lv_at hl 3 rfl) ?_
    refine lv_bipush (v := 10) X.1 X.2.1 d_X6_readLength_23 (by decide) ?_
    refine lv_iload_n X.1 X.2.1 d_X6_readLength_25 rfl (lv_at hl 1 rfl) ?_
    refine lv_imul X.1 X.2.1 d_X6_readLength_26 ?_
    refine lv_iload_n X.1 X.2.1 d_X6_readLength_27 rfl (lv_at hl 0 rfl) ?_
    refine lv_iadd X.1 X.2.1 d_X6_readLength_28 ?_
    refine pf_7_1 X hw hk1 tb_129 d_X6_readLength_29 (fun H locs hw => ?_)
    obtain ⟨σ_5, e_σ_5⟩ : ∃ z : GSt, z = up2 σ_4 r1 1 ((10 * r_1) + r_3) := ⟨_, rfl⟩
    rw [← e_σ_5] at hw
    have hD := hD σ_5 e_σ_5
    refine lv_aload_n X.1 X.2.1 d_X6_readLength_32 rfl (lv_at hl 3 rfl) ?_
    refine lv_iconst (v := 2) X.1 X.2.1 d_X6_readLength_33 (by decide) ?_
    refine pf_7_2 X hw hk1 tb_131 d_X6_readLength_34 (fun H locs hw => ?_)
    obtain ⟨σ_6, e_σ_6⟩ : ∃ z : GSt, z = up2 σ_5 r1 2 2 := ⟨_, rfl⟩
    rw [← e_σ_6] at hw
    have hD := hD σ_6 e_σ_6
    refine lv_iload_n X.1 X.2.1 d_X6_readLength_37 rfl (lv_at hl 0 rfl) ?_
    refine lv_if_lt (tgt := 45) X.1 X.2.1 d_X6_readLength_38 (by decide) (fun q_38 => ?_) (fun q_38 => ?_)
    · have hD := hD.1 q_38
      refine lv_iconst (v := 0) X.1 X.2.1 d_X6_readLength_45 (by decide) ?_
      exact g_zret X hr hlk hw (by decide) hD d_X6_readLength_46
    · have hD := hD.2 q_38
      refine lv_iconst (v := 1) X.1 X.2.1 d_X6_readLength_41 (by decide) ?_
      refine lv_goto (tgt := 46) X.1 X.2.1 d_X6_readLength_42 (by decide) ?_
      exact g_zret X hr hlk hw (by decide) hD d_X6_readLength_46
  · have hD := hD.2 q_9
    refine lv_iconst (v := 0) X.1 X.2.1 d_X6_readLength_12 (by decide) ?_
    exact g_zret X hr hlk hw (by decide) hD d_X6_readLength_13
theorem c_X6_readLength (l : Launch) (G : GC) (r1 : Nat) (σ : GSt) (Q : Int32 → GSt → Prop) (hr1 : kd r1 = 7) (hD : D_X6_readLength r1 σ Q) : MI l ym_X6_readLength cm_X6_readLength 4 .boolean rm_X6_readLength G σ [.ref (G.2.1 5), .ref (G.2.1 r1)] Q := by
  refine met_i (by decide) (Nat.le_of_ble_eq_true rfl) ?_
  intro p e s m args below meth c X hr hlk hw ls hl
  exact s_X6_readLength_0 X hr hlk Q  r1 hr1 σ hw (lv_sub hl [0, 1] rfl) hD
theorem hd_X6_readOutcome : ym_X6_readOutcome.cls = "GameLoom$Reader" ∧ ym_X6_readOutcome.cls ≠ "java/lang/invoke/MethodHandle" ∧ ym_X6_readOutcome.cls ≠ "java/lang/invoke/VarHandle" ∧ (parseMethodDescriptor ym_X6_readOutcome.desc).map (fun d => d.parameters.length) = some 1 := by decide +kernel
abbrev rm_X6_readOutcome : Room := { frames := 2, cells := 0, slots := 0, locals := 43 }
theorem d_X6_readOutcome_0 : decode cm_X6_readOutcome 0 = .ok (.aload_n 1, 1) := by decide +kernel
theorem d_X6_readOutcome_1 : decode cm_X6_readOutcome 1 = .ok (.aload_n 0, 1) := by decide +kernel
theorem d_X6_readOutcome_2 : decode cm_X6_readOutcome 2 = .ok (.bipush 119, 2) := by decide +kernel
theorem d_X6_readOutcome_4 : decode cm_X6_readOutcome 4 = .ok (.invokevirtual 52, 3) := by decide +kernel
theorem d_X6_readOutcome_7 : decode cm_X6_readOutcome 7 = .ok (.ifCond .eq 7, 3) := by decide +kernel
theorem d_X6_readOutcome_10 : decode cm_X6_readOutcome 10 = .ok (.iconst 0, 1) := by decide +kernel
theorem d_X6_readOutcome_11 : decode cm_X6_readOutcome 11 = .ok (.goto 30, 3) := by decide +kernel
theorem d_X6_readOutcome_14 : decode cm_X6_readOutcome 14 = .ok (.aload_n 0, 1) := by decide +kernel
theorem d_X6_readOutcome_15 : decode cm_X6_readOutcome 15 = .ok (.bipush 108, 2) := by decide +kernel
theorem d_X6_readOutcome_17 : decode cm_X6_readOutcome 17 = .ok (.invokevirtual 52, 3) := by decide +kernel
theorem d_X6_readOutcome_20 : decode cm_X6_readOutcome 20 = .ok (.ifCond .eq 7, 3) := by decide +kernel
theorem d_X6_readOutcome_23 : decode cm_X6_readOutcome 23 = .ok (.iconst 1, 1) := by decide +kernel
theorem d_X6_readOutcome_24 : decode cm_X6_readOutcome 24 = .ok (.goto 17, 3) := by decide +kernel
theorem d_X6_readOutcome_27 : decode cm_X6_readOutcome 27 = .ok (.aload_n 0, 1) := by decide +kernel
theorem d_X6_readOutcome_28 : decode cm_X6_readOutcome 28 = .ok (.bipush 100, 2) := by decide +kernel
theorem d_X6_readOutcome_30 : decode cm_X6_readOutcome 30 = .ok (.invokevirtual 52, 3) := by decide +kernel
theorem d_X6_readOutcome_33 : decode cm_X6_readOutcome 33 = .ok (.ifCond .eq 7, 3) := by decide +kernel
theorem d_X6_readOutcome_36 : decode cm_X6_readOutcome 36 = .ok (.iconst 2, 1) := by decide +kernel
theorem d_X6_readOutcome_37 : decode cm_X6_readOutcome 37 = .ok (.goto 4, 3) := by decide +kernel
theorem d_X6_readOutcome_40 : decode cm_X6_readOutcome 40 = .ok (.iconst (-1), 1) := by decide +kernel
theorem d_X6_readOutcome_41 : decode cm_X6_readOutcome 41 = .ok (.putfield 129, 3) := by decide +kernel
theorem d_X6_readOutcome_44 : decode cm_X6_readOutcome 44 = .ok (.aload_n 1, 1) := by decide +kernel
theorem d_X6_readOutcome_45 : decode cm_X6_readOutcome 45 = .ok (.getfield 129, 3) := by decide +kernel
theorem d_X6_readOutcome_48 : decode cm_X6_readOutcome 48 = .ok (.ifCond .lt 7, 3) := by decide +kernel
theorem d_X6_readOutcome_51 : decode cm_X6_readOutcome 51 = .ok (.iconst 1, 1) := by decide +kernel
theorem d_X6_readOutcome_52 : decode cm_X6_readOutcome 52 = .ok (.goto 4, 3) := by decide +kernel
theorem d_X6_readOutcome_55 : decode cm_X6_readOutcome 55 = .ok (.iconst 0, 1) := by decide +kernel
theorem d_X6_readOutcome_56 : decode cm_X6_readOutcome 56 = .ok (.ireturn, 1) := by decide +kernel
def D_X6_readOutcome_41 (Q : Int32 → GSt → Prop) (r1 : Nat) (sr0 : Nat) (s1 : Int32) (σ : GSt) : Prop :=
  ∀ σ_1 : GSt, σ_1 = up2 σ sr0 2 s1 → (((σ_1 r1 2) < 0 → Q 0 σ_1) ∧
  (¬ (σ_1 r1 2) < 0 → Q 1 σ_1))
def D_X6_readOutcome_0 (Q : Int32 → GSt → Prop) (r1 : Nat) (σ : GSt) : Prop :=
  D_X6_takes 119 σ (fun r_1 σ_2 => (r_1 = 0 → D_X6_takes 108 σ_2 (fun r_3 σ_4 => (r_3 = 0 → D_X6_takes 100 σ_4 (fun r_5 σ_6 => (r_5 = 0 → D_X6_readOutcome_41 Q r1 r1 (-1) σ_6) ∧
  (¬ r_5 = 0 → D_X6_readOutcome_41 Q r1 r1 2 σ_6))) ∧
  (¬ r_3 = 0 → D_X6_readOutcome_41 Q r1 r1 1 σ_4))) ∧
  (¬ r_1 = 0 → D_X6_readOutcome_41 Q r1 r1 0 σ_2))
def D_X6_readOutcome (r1 : Nat) (σ : GSt) (Q : Int32 → GSt → Prop) : Prop := D_X6_readOutcome_0 Q r1 σ
set_option maxRecDepth 20000 in
set_option maxHeartbeats 4000000 in
theorem s_X6_readOutcome_41 {p : Program} {l : Launch} {e : Env} {s : State} {m : MethodId} {args : Array Value} {below : List Frame} {meth : Method} {c : Code} {G : GC} (X : CallFix p m c cm_X6_readOutcome 2 s args lw_us "GameLoom$Reader") (hr : meth.sig.returnType = some .boolean) (hlk : meth.locks = false) (Q : Int32 → GSt → Prop) (r1 : Nat) (hk1 : kd r1 = 7) (sr0 : Nat) (hs0 : kd sr0 = 7) (s1 : Int32) (σ : GSt) {H : Heap} {locs : List Loc} {ls : Array Slot} (hw : Wo G s H locs σ) (hl : lv_has ls 2 [(0, .ref (G.2.1 5)), (1, .ref (G.2.1 r1))]) (hD : D_X6_readOutcome_41 Q r1 sr0 s1 σ) : W p l e rm_X6_readOutcome s m args below meth c H locs 0 0 (QMI G Q below args s) (F0 m 41 ls [.int s1, .ref (G.2.1 sr0)]) := by
  unfold D_X6_readOutcome_41 at hD
  refine pf_7_2 X hw hs0 tb_131 d_X6_readOutcome_41 (fun H locs hw => ?_)
  obtain ⟨σ_1, e_σ_1⟩ : ∃ z : GSt, z = up2 σ sr0 2 s1 := ⟨_, rfl⟩
  rw [← e_σ_1] at hw
  have hD := hD σ_1 e_σ_1
  refine lv_aload_n X.1 X.2.1 d_X6_readOutcome_44 rfl (lv_at hl 1 rfl) ?_
  refine gf_7_2 X hw hk1 tb_131 d_X6_readOutcome_45 ?_
  refine lv_if_lt (tgt := 55) X.1 X.2.1 d_X6_readOutcome_48 (by decide) (fun q_48 => ?_) (fun q_48 => ?_)
  · have hD := hD.1 q_48
    refine lv_iconst (v := 0) X.1 X.2.1 d_X6_readOutcome_55 (by decide) ?_
    exact g_zret X hr hlk hw (by decide) hD d_X6_readOutcome_56
  · have hD := hD.2 q_48
    refine lv_iconst (v := 1) X.1 X.2.1 d_X6_readOutcome_51 (by decide) ?_
    refine lv_goto (tgt := 56) X.1 X.2.1 d_X6_readOutcome_52 (by decide) ?_
    exact g_zret X hr hlk hw (by decide) hD d_X6_readOutcome_56
set_option maxRecDepth 20000 in
set_option maxHeartbeats 4000000 in
theorem s_X6_readOutcome_0 {p : Program} {l : Launch} {e : Env} {s : State} {m : MethodId} {args : Array Value} {below : List Frame} {meth : Method} {c : Code} {G : GC} (X : CallFix p m c cm_X6_readOutcome 2 s args lw_us "GameLoom$Reader") (hr : meth.sig.returnType = some .boolean) (hlk : meth.locks = false) (Q : Int32 → GSt → Prop) (r1 : Nat) (hk1 : kd r1 = 7) (σ : GSt) {H : Heap} {locs : List Loc} {ls : Array Slot} (hw : Wo G s H locs σ) (hl : lv_has ls 2 [(0, .ref (G.2.1 5)), (1, .ref (G.2.1 r1))]) (hD : D_X6_readOutcome_0 Q r1 σ) : W p l e rm_X6_readOutcome s m args below meth c H locs 0 0 (QMI G Q below args s) (F0 m 0 ls []) := by
  unfold D_X6_readOutcome_0 at hD
  refine lv_aload_n X.1 X.2.1 d_X6_readOutcome_0 rfl (lv_at hl 1 rfl) ?_
  refine lv_aload_n X.1 X.2.1 d_X6_readOutcome_1 rfl (lv_at hl 0 rfl) ?_
  refine lv_bipush (v := 119) X.1 X.2.1 d_X6_readOutcome_2 (by decide) ?_
  refine gcV_i (rest := [.ref (G.2.1 r1)]) (As := [.int 119]) (o := 5) X hw (c_X6_takes l G 119 σ _  hD) (kd_lt (by decide +kernel : kd 5 = 6) (by decide)) (ce_6 G _ (by decide +kernel : kd 5 = 6)) rfl tb_444 tb_446 tv_3 tb_3 tb_447 hd_X6_takes ⟨rfl, rfl⟩ ⟨Nat.le_of_ble_eq_true rfl, Nat.le_of_ble_eq_true rfl⟩ rfl hl.1 rfl (Nat.le_of_ble_eq_true rfl) d_X6_readOutcome_4 (fun r_1 σ_2 H locs hD hw => ?_)
  refine lv_if_eq (tgt := 14) X.1 X.2.1 d_X6_readOutcome_7 (by decide) (fun q_7 => ?_) (fun q_7 => ?_)
  · have hD := hD.1 q_7
    refine lv_aload_n X.1 X.2.1 d_X6_readOutcome_14 rfl (lv_at hl 0 rfl) ?_
    refine lv_bipush (v := 108) X.1 X.2.1 d_X6_readOutcome_15 (by decide) ?_
    refine gcV_i (rest := [.ref (G.2.1 r1)]) (As := [.int 108]) (o := 5) X hw (c_X6_takes l G 108 σ_2 _  hD) (kd_lt (by decide +kernel : kd 5 = 6) (by decide)) (ce_6 G _ (by decide +kernel : kd 5 = 6)) rfl tb_444 tb_446 tv_3 tb_3 tb_447 hd_X6_takes ⟨rfl, rfl⟩ ⟨Nat.le_of_ble_eq_true rfl, Nat.le_of_ble_eq_true rfl⟩ rfl hl.1 rfl (Nat.le_of_ble_eq_true rfl) d_X6_readOutcome_17 (fun r_3 σ_4 H locs hD hw => ?_)
    refine lv_if_eq (tgt := 27) X.1 X.2.1 d_X6_readOutcome_20 (by decide) (fun q_20 => ?_) (fun q_20 => ?_)
    · have hD := hD.1 q_20
      refine lv_aload_n X.1 X.2.1 d_X6_readOutcome_27 rfl (lv_at hl 0 rfl) ?_
      refine lv_bipush (v := 100) X.1 X.2.1 d_X6_readOutcome_28 (by decide) ?_
      refine gcV_i (rest := [.ref (G.2.1 r1)]) (As := [.int 100]) (o := 5) X hw (c_X6_takes l G 100 σ_4 _  hD) (kd_lt (by decide +kernel : kd 5 = 6) (by decide)) (ce_6 G _ (by decide +kernel : kd 5 = 6)) rfl tb_444 tb_446 tv_3 tb_3 tb_447 hd_X6_takes ⟨rfl, rfl⟩ ⟨Nat.le_of_ble_eq_true rfl, Nat.le_of_ble_eq_true rfl⟩ rfl hl.1 rfl (Nat.le_of_ble_eq_true rfl) d_X6_readOutcome_30 (fun r_5 σ_6 H locs hD hw => ?_)
      refine lv_if_eq (tgt := 40) X.1 X.2.1 d_X6_readOutcome_33 (by decide) (fun q_33 => ?_) (fun q_33 => ?_)
      · have hD := hD.1 q_33
        refine lv_iconst (v := (-1)) X.1 X.2.1 d_X6_readOutcome_40 (by decide) ?_
        exact s_X6_readOutcome_41 X hr hlk  Q  r1 hk1 r1 hk1 (-1) σ_6 hw (lv_sub hl [0, 1] rfl) hD
      · have hD := hD.2 q_33
        refine lv_iconst (v := 2) X.1 X.2.1 d_X6_readOutcome_36 (by decide) ?_
        refine lv_goto (tgt := 41) X.1 X.2.1 d_X6_readOutcome_37 (by decide) ?_
        exact s_X6_readOutcome_41 X hr hlk  Q  r1 hk1 r1 hk1 2 σ_6 hw (lv_sub hl [0, 1] rfl) hD
    · have hD := hD.2 q_20
      refine lv_iconst (v := 1) X.1 X.2.1 d_X6_readOutcome_23 (by decide) ?_
      refine lv_goto (tgt := 41) X.1 X.2.1 d_X6_readOutcome_24 (by decide) ?_
      exact s_X6_readOutcome_41 X hr hlk  Q  r1 hk1 r1 hk1 1 σ_4 hw (lv_sub hl [0, 1] rfl) hD
  · have hD := hD.2 q_7
    refine lv_iconst (v := 0) X.1 X.2.1 d_X6_readOutcome_10 (by decide) ?_
    refine lv_goto (tgt := 41) X.1 X.2.1 d_X6_readOutcome_11 (by decide) ?_
    exact s_X6_readOutcome_41 X hr hlk  Q  r1 hk1 r1 hk1 0 σ_2 hw (lv_sub hl [0, 1] rfl) hD
theorem c_X6_readOutcome (l : Launch) (G : GC) (r1 : Nat) (σ : GSt) (Q : Int32 → GSt → Prop) (hr1 : kd r1 = 7) (hD : D_X6_readOutcome r1 σ Q) : MI l ym_X6_readOutcome cm_X6_readOutcome 2 .boolean rm_X6_readOutcome G σ [.ref (G.2.1 5), .ref (G.2.1 r1)] Q := by
  refine met_i (by decide) (Nat.le_of_ble_eq_true rfl) ?_
  intro p e s m args below meth c X hr hlk hw ls hl
  exact s_X6_readOutcome_0 X hr hlk Q  r1 hr1 σ hw (lv_sub hl [0, 1] rfl) hD
theorem hd_X6_readEnd : ym_X6_readEnd.cls = "GameLoom$Reader" ∧ ym_X6_readEnd.cls ≠ "java/lang/invoke/MethodHandle" ∧ ym_X6_readEnd.cls ≠ "java/lang/invoke/VarHandle" ∧ (parseMethodDescriptor ym_X6_readEnd.desc).map (fun d => d.parameters.length) = some 1 := by decide +kernel
abbrev rm_X6_readEnd : Room := { frames := 3, cells := 0, slots := 0, locals := 67 }
theorem d_X6_readEnd_0 : decode cm_X6_readEnd 0 = .ok (.aload_n 1, 1) := by decide +kernel
theorem d_X6_readEnd_1 : decode cm_X6_readEnd 1 = .ok (.iconst 0, 1) := by decide +kernel
theorem d_X6_readEnd_2 : decode cm_X6_readEnd 2 = .ok (.putfield 108, 3) := by decide +kernel
theorem d_X6_readEnd_5 : decode cm_X6_readEnd 5 = .ok (.aload_n 0, 1) := by decide +kernel
theorem d_X6_readEnd_6 : decode cm_X6_readEnd 6 = .ok (.bipush 109, 2) := by decide +kernel
theorem d_X6_readEnd_8 : decode cm_X6_readEnd 8 = .ok (.invokevirtual 52, 3) := by decide +kernel
theorem d_X6_readEnd_11 : decode cm_X6_readEnd 11 = .ok (.ifCond .eq 14, 3) := by decide +kernel
theorem d_X6_readEnd_14 : decode cm_X6_readEnd 14 = .ok (.aload_n 1, 1) := by decide +kernel
theorem d_X6_readEnd_15 : decode cm_X6_readEnd 15 = .ok (.iconst 5, 1) := by decide +kernel
theorem d_X6_readEnd_16 : decode cm_X6_readEnd 16 = .ok (.putfield 105, 3) := by decide +kernel
theorem d_X6_readEnd_19 : decode cm_X6_readEnd 19 = .ok (.aload_n 0, 1) := by decide +kernel
theorem d_X6_readEnd_20 : decode cm_X6_readEnd 20 = .ok (.aload_n 1, 1) := by decide +kernel
theorem d_X6_readEnd_21 : decode cm_X6_readEnd 21 = .ok (.invokevirtual 123, 3) := by decide +kernel
theorem d_X6_readEnd_24 : decode cm_X6_readEnd 24 = .ok (.ireturn, 1) := by decide +kernel
theorem d_X6_readEnd_25 : decode cm_X6_readEnd 25 = .ok (.aload_n 0, 1) := by decide +kernel
theorem d_X6_readEnd_26 : decode cm_X6_readEnd 26 = .ok (.bipush 114, 2) := by decide +kernel
theorem d_X6_readEnd_28 : decode cm_X6_readEnd 28 = .ok (.invokevirtual 52, 3) := by decide +kernel
theorem d_X6_readEnd_31 : decode cm_X6_readEnd 31 = .ok (.ifCond .eq 21, 3) := by decide +kernel
theorem d_X6_readEnd_34 : decode cm_X6_readEnd 34 = .ok (.aload_n 1, 1) := by decide +kernel
theorem d_X6_readEnd_35 : decode cm_X6_readEnd 35 = .ok (.iconst 0, 1) := by decide +kernel
theorem d_X6_readEnd_36 : decode cm_X6_readEnd 36 = .ok (.putfield 105, 3) := by decide +kernel
theorem d_X6_readEnd_39 : decode cm_X6_readEnd 39 = .ok (.aload_n 1, 1) := by decide +kernel
theorem d_X6_readEnd_40 : decode cm_X6_readEnd 40 = .ok (.aload_n 0, 1) := by decide +kernel
theorem d_X6_readEnd_41 : decode cm_X6_readEnd 41 = .ok (.iconst 2, 1) := by decide +kernel
theorem d_X6_readEnd_42 : decode cm_X6_readEnd 42 = .ok (.iconst 4, 1) := by decide +kernel
theorem d_X6_readEnd_43 : decode cm_X6_readEnd 43 = .ok (.invokevirtual 56, 3) := by decide +kernel
theorem d_X6_readEnd_46 : decode cm_X6_readEnd 46 = .ok (.putfield 108, 3) := by decide +kernel
theorem d_X6_readEnd_49 : decode cm_X6_readEnd 49 = .ok (.goto 84, 3) := by decide +kernel
theorem d_X6_readEnd_52 : decode cm_X6_readEnd 52 = .ok (.aload_n 0, 1) := by decide +kernel
theorem d_X6_readEnd_53 : decode cm_X6_readEnd 53 = .ok (.bipush 107, 2) := by decide +kernel
theorem d_X6_readEnd_55 : decode cm_X6_readEnd 55 = .ok (.invokevirtual 52, 3) := by decide +kernel
theorem d_X6_readEnd_58 : decode cm_X6_readEnd 58 = .ok (.ifCond .eq 22, 3) := by decide +kernel
theorem d_X6_readEnd_61 : decode cm_X6_readEnd 61 = .ok (.aload_n 1, 1) := by decide +kernel
theorem d_X6_readEnd_62 : decode cm_X6_readEnd 62 = .ok (.iconst 4, 1) := by decide +kernel
theorem d_X6_readEnd_63 : decode cm_X6_readEnd 63 = .ok (.putfield 105, 3) := by decide +kernel
theorem d_X6_readEnd_66 : decode cm_X6_readEnd 66 = .ok (.aload_n 1, 1) := by decide +kernel
theorem d_X6_readEnd_67 : decode cm_X6_readEnd 67 = .ok (.aload_n 0, 1) := by decide +kernel
theorem d_X6_readEnd_68 : decode cm_X6_readEnd 68 = .ok (.iconst 1, 1) := by decide +kernel
theorem d_X6_readEnd_69 : decode cm_X6_readEnd 69 = .ok (.bipush 9, 2) := by decide +kernel
theorem d_X6_readEnd_71 : decode cm_X6_readEnd 71 = .ok (.invokevirtual 56, 3) := by decide +kernel
theorem d_X6_readEnd_74 : decode cm_X6_readEnd 74 = .ok (.putfield 108, 3) := by decide +kernel
theorem d_X6_readEnd_77 : decode cm_X6_readEnd 77 = .ok (.goto 56, 3) := by decide +kernel
theorem d_X6_readEnd_80 : decode cm_X6_readEnd 80 = .ok (.aload_n 0, 1) := by decide +kernel
theorem d_X6_readEnd_81 : decode cm_X6_readEnd 81 = .ok (.bipush 110, 2) := by decide +kernel
theorem d_X6_readEnd_83 : decode cm_X6_readEnd 83 = .ok (.invokevirtual 52, 3) := by decide +kernel
theorem d_X6_readEnd_86 : decode cm_X6_readEnd 86 = .ok (.ifCond .eq 11, 3) := by decide +kernel
theorem d_X6_readEnd_89 : decode cm_X6_readEnd 89 = .ok (.aload_n 1, 1) := by decide +kernel
theorem d_X6_readEnd_90 : decode cm_X6_readEnd 90 = .ok (.iconst 1, 1) := by decide +kernel
theorem d_X6_readEnd_91 : decode cm_X6_readEnd 91 = .ok (.putfield 105, 3) := by decide +kernel
theorem d_X6_readEnd_94 : decode cm_X6_readEnd 94 = .ok (.goto 39, 3) := by decide +kernel
theorem d_X6_readEnd_97 : decode cm_X6_readEnd 97 = .ok (.aload_n 0, 1) := by decide +kernel
theorem d_X6_readEnd_98 : decode cm_X6_readEnd 98 = .ok (.bipush 103, 2) := by decide +kernel
theorem d_X6_readEnd_100 : decode cm_X6_readEnd 100 = .ok (.invokevirtual 52, 3) := by decide +kernel
theorem d_X6_readEnd_103 : decode cm_X6_readEnd 103 = .ok (.ifCond .eq 11, 3) := by decide +kernel
theorem d_X6_readEnd_106 : decode cm_X6_readEnd 106 = .ok (.aload_n 1, 1) := by decide +kernel
theorem d_X6_readEnd_107 : decode cm_X6_readEnd 107 = .ok (.iconst 2, 1) := by decide +kernel
theorem d_X6_readEnd_108 : decode cm_X6_readEnd 108 = .ok (.putfield 105, 3) := by decide +kernel
theorem d_X6_readEnd_111 : decode cm_X6_readEnd 111 = .ok (.goto 22, 3) := by decide +kernel
theorem d_X6_readEnd_114 : decode cm_X6_readEnd 114 = .ok (.aload_n 0, 1) := by decide +kernel
theorem d_X6_readEnd_115 : decode cm_X6_readEnd 115 = .ok (.bipush 121, 2) := by decide +kernel
theorem d_X6_readEnd_117 : decode cm_X6_readEnd 117 = .ok (.invokevirtual 52, 3) := by decide +kernel
theorem d_X6_readEnd_120 : decode cm_X6_readEnd 120 = .ok (.ifCond .eq 11, 3) := by decide +kernel
theorem d_X6_readEnd_123 : decode cm_X6_readEnd 123 = .ok (.aload_n 1, 1) := by decide +kernel
theorem d_X6_readEnd_124 : decode cm_X6_readEnd 124 = .ok (.iconst 3, 1) := by decide +kernel
theorem d_X6_readEnd_125 : decode cm_X6_readEnd 125 = .ok (.putfield 105, 3) := by decide +kernel
theorem d_X6_readEnd_128 : decode cm_X6_readEnd 128 = .ok (.goto 5, 3) := by decide +kernel
theorem d_X6_readEnd_131 : decode cm_X6_readEnd 131 = .ok (.iconst 0, 1) := by decide +kernel
theorem d_X6_readEnd_132 : decode cm_X6_readEnd 132 = .ok (.ireturn, 1) := by decide +kernel
theorem d_X6_readEnd_133 : decode cm_X6_readEnd 133 = .ok (.aload_n 1, 1) := by decide +kernel
theorem d_X6_readEnd_134 : decode cm_X6_readEnd 134 = .ok (.getfield 108, 3) := by decide +kernel
theorem d_X6_readEnd_137 : decode cm_X6_readEnd 137 = .ok (.ifCond .lt 15, 3) := by decide +kernel
theorem d_X6_readEnd_140 : decode cm_X6_readEnd 140 = .ok (.aload_n 0, 1) := by decide +kernel
theorem d_X6_readEnd_141 : decode cm_X6_readEnd 141 = .ok (.aload_n 1, 1) := by decide +kernel
theorem d_X6_readEnd_142 : decode cm_X6_readEnd 142 = .ok (.invokevirtual 126, 3) := by decide +kernel
theorem d_X6_readEnd_145 : decode cm_X6_readEnd 145 = .ok (.ifCond .eq 7, 3) := by decide +kernel
theorem d_X6_readEnd_148 : decode cm_X6_readEnd 148 = .ok (.iconst 1, 1) := by decide +kernel
theorem d_X6_readEnd_149 : decode cm_X6_readEnd 149 = .ok (.goto 4, 3) := by decide +kernel
theorem d_X6_readEnd_152 : decode cm_X6_readEnd 152 = .ok (.iconst 0, 1) := by decide +kernel
theorem d_X6_readEnd_153 : decode cm_X6_readEnd 153 = .ok (.ireturn, 1) := by decide +kernel
def D_X6_readEnd_133 (Q : Int32 → GSt → Prop) (r1 : Nat) (σ : GSt) : Prop :=
  ((σ r1 1) < 0 → Q 0 σ) ∧
  (¬ (σ r1 1) < 0 → D_X6_readOutcome r1 σ (fun r_1 σ_2 => (r_1 = 0 → Q 0 σ_2) ∧
  (¬ r_1 = 0 → Q 1 σ_2)))
def D_X6_readEnd_0 (Q : Int32 → GSt → Prop) (r1 : Nat) (σ : GSt) : Prop :=
  ∀ σ_1 : GSt, σ_1 = up2 σ r1 1 0 → (D_X6_takes 109 σ_1 (fun r_2 σ_3 => (r_2 = 0 → D_X6_takes 114 σ_3 (fun r_4 σ_5 => (r_4 = 0 → D_X6_takes 107 σ_5 (fun r_6 σ_7 => (r_6 = 0 → D_X6_takes 110 σ_7 (fun r_8 σ_9 => (r_8 = 0 → D_X6_takes 103 σ_9 (fun r_10 σ_11 => (r_10 = 0 → D_X6_takes 121 σ_11 (fun r_12 σ_13 => (r_12 = 0 → Q 0 σ_13) ∧
  (¬ r_12 = 0 → ∀ σ_14 : GSt, σ_14 = up2 σ_13 r1 0 3 → (D_X6_readEnd_133 Q r1 σ_14)))) ∧
  (¬ r_10 = 0 → ∀ σ_15 : GSt, σ_15 = up2 σ_11 r1 0 2 → (D_X6_readEnd_133 Q r1 σ_15)))) ∧
  (¬ r_8 = 0 → ∀ σ_16 : GSt, σ_16 = up2 σ_9 r1 0 1 → (D_X6_readEnd_133 Q r1 σ_16)))) ∧
  (¬ r_6 = 0 → ∀ σ_17 : GSt, σ_17 = up2 σ_7 r1 0 4 → (D_X6_digit 1 9 σ_17 (fun r_18 σ_19 => ∀ σ_20 : GSt, σ_20 = up2 σ_19 r1 1 r_18 → (D_X6_readEnd_133 Q r1 σ_20)))))) ∧
  (¬ r_4 = 0 → ∀ σ_21 : GSt, σ_21 = up2 σ_5 r1 0 0 → (D_X6_digit 2 4 σ_21 (fun r_22 σ_23 => ∀ σ_24 : GSt, σ_24 = up2 σ_23 r1 1 r_22 → (D_X6_readEnd_133 Q r1 σ_24)))))) ∧
  (¬ r_2 = 0 → ∀ σ_25 : GSt, σ_25 = up2 σ_3 r1 0 5 → (D_X6_readLength r1 σ_25 (fun r_26 σ_27 => (r_26 = 0 ∨ r_26 = 1) ∧ Q r_26 σ_27)))))
def D_X6_readEnd (r1 : Nat) (σ : GSt) (Q : Int32 → GSt → Prop) : Prop := D_X6_readEnd_0 Q r1 σ
set_option maxRecDepth 20000 in
set_option maxHeartbeats 4000000 in
theorem s_X6_readEnd_133 {p : Program} {l : Launch} {e : Env} {s : State} {m : MethodId} {args : Array Value} {below : List Frame} {meth : Method} {c : Code} {G : GC} (X : CallFix p m c cm_X6_readEnd 2 s args lw_us "GameLoom$Reader") (hr : meth.sig.returnType = some .boolean) (hlk : meth.locks = false) (Q : Int32 → GSt → Prop) (r1 : Nat) (hk1 : kd r1 = 7) (σ : GSt) {H : Heap} {locs : List Loc} {ls : Array Slot} (hw : Wo G s H locs σ) (hl : lv_has ls 2 [(0, .ref (G.2.1 5)), (1, .ref (G.2.1 r1))]) (hD : D_X6_readEnd_133 Q r1 σ) : W p l e rm_X6_readEnd s m args below meth c H locs 0 0 (QMI G Q below args s) (F0 m 133 ls []) := by
  unfold D_X6_readEnd_133 at hD
  refine lv_aload_n X.1 X.2.1 d_X6_readEnd_133 rfl (lv_at hl 1 rfl) ?_
  refine gf_7_1 X hw hk1 tb_129 d_X6_readEnd_134 ?_
  refine lv_if_lt (tgt := 152) X.1 X.2.1 d_X6_readEnd_137 (by decide) (fun q_137 => ?_) (fun q_137 => ?_)
  · have hD := hD.1 q_137
    refine lv_iconst (v := 0) X.1 X.2.1 d_X6_readEnd_152 (by decide) ?_
    exact g_zret X hr hlk hw (by decide) hD d_X6_readEnd_153
  · have hD := hD.2 q_137
    refine lv_aload_n X.1 X.2.1 d_X6_readEnd_140 rfl (lv_at hl 0 rfl) ?_
    refine lv_aload_n X.1 X.2.1 d_X6_readEnd_141 rfl (lv_at hl 1 rfl) ?_
    refine gcV_i (rest := []) (As := [.ref (G.2.1 r1)]) (o := 5) X hw (c_X6_readOutcome l G r1 σ _ hk1 hD) (kd_lt (by decide +kernel : kd 5 = 6) (by decide)) (ce_6 G _ (by decide +kernel : kd 5 = 6)) rfl tb_508 tb_510 tv_16 tb_3 tb_511 hd_X6_readOutcome ⟨rfl, rfl⟩ ⟨Nat.le_of_ble_eq_true rfl, Nat.le_of_ble_eq_true rfl⟩ rfl hl.1 rfl (Nat.le_of_ble_eq_true rfl) d_X6_readEnd_142 (fun r_1 σ_2 H locs hD hw => ?_)
    refine lv_if_eq (tgt := 152) X.1 X.2.1 d_X6_readEnd_145 (by decide) (fun q_145 => ?_) (fun q_145 => ?_)
    · have hD := hD.1 q_145
      refine lv_iconst (v := 0) X.1 X.2.1 d_X6_readEnd_152 (by decide) ?_
      exact g_zret X hr hlk hw (by decide) hD d_X6_readEnd_153
    · have hD := hD.2 q_145
      refine lv_iconst (v := 1) X.1 X.2.1 d_X6_readEnd_148 (by decide) ?_
      refine lv_goto (tgt := 153) X.1 X.2.1 d_X6_readEnd_149 (by decide) ?_
      exact g_zret X hr hlk hw (by decide) hD d_X6_readEnd_153
set_option maxRecDepth 20000 in
set_option maxHeartbeats 4000000 in
theorem s_X6_readEnd_0 {p : Program} {l : Launch} {e : Env} {s : State} {m : MethodId} {args : Array Value} {below : List Frame} {meth : Method} {c : Code} {G : GC} (X : CallFix p m c cm_X6_readEnd 2 s args lw_us "GameLoom$Reader") (hr : meth.sig.returnType = some .boolean) (hlk : meth.locks = false) (Q : Int32 → GSt → Prop) (r1 : Nat) (hk1 : kd r1 = 7) (σ : GSt) {H : Heap} {locs : List Loc} {ls : Array Slot} (hw : Wo G s H locs σ) (hl : lv_has ls 2 [(0, .ref (G.2.1 5)), (1, .ref (G.2.1 r1))]) (hD : D_X6_readEnd_0 Q r1 σ) : W p l e rm_X6_readEnd s m args below meth c H locs 0 0 (QMI G Q below args s) (F0 m 0 ls []) := by
  unfold D_X6_readEnd_0 at hD
  refine lv_aload_n X.1 X.2.1 d_X6_readEnd_0 rfl (lv_at hl 1 rfl) ?_
  refine lv_iconst (v := 0) X.1 X.2.1 d_X6_readEnd_1 (by decide) ?_
  refine pf_7_1 X hw hk1 tb_129 d_X6_readEnd_2 (fun H locs hw => ?_)
  obtain ⟨σ_1, e_σ_1⟩ : ∃ z : GSt, z = up2 σ r1 1 0 := ⟨_, rfl⟩
  rw [← e_σ_1] at hw
  have hD := hD σ_1 e_σ_1
  refine lv_aload_n X.1 X.2.1 d_X6_readEnd_5 rfl (lv_at hl 0 rfl) ?_
  refine lv_bipush (v := 109) X.1 X.2.1 d_X6_readEnd_6 (by decide) ?_
  refine gcV_i (rest := []) (As := [.int 109]) (o := 5) X hw (c_X6_takes l G 109 σ_1 _  hD) (kd_lt (by decide +kernel : kd 5 = 6) (by decide)) (ce_6 G _ (by decide +kernel : kd 5 = 6)) rfl tb_444 tb_446 tv_3 tb_3 tb_447 hd_X6_takes ⟨rfl, rfl⟩ ⟨Nat.le_of_ble_eq_true rfl, Nat.le_of_ble_eq_true rfl⟩ rfl hl.1 rfl (Nat.le_of_ble_eq_true rfl) d_X6_readEnd_8 (fun r_2 σ_3 H locs hD hw => ?_)
  refine lv_if_eq (tgt := 25) X.1 X.2.1 d_X6_readEnd_11 (by decide) (fun q_11 => ?_) (fun q_11 => ?_)
  · have hD := hD.1 q_11
    refine lv_aload_n X.1 X.2.1 d_X6_readEnd_25 rfl (lv_at hl 0 rfl) ?_
    refine lv_bipush (v := 114) X.1 X.2.1 d_X6_readEnd_26 (by decide) ?_
    refine gcV_i (rest := []) (As := [.int 114]) (o := 5) X hw (c_X6_takes l G 114 σ_3 _  hD) (kd_lt (by decide +kernel : kd 5 = 6) (by decide)) (ce_6 G _ (by decide +kernel : kd 5 = 6)) rfl tb_444 tb_446 tv_3 tb_3 tb_447 hd_X6_takes ⟨rfl, rfl⟩ ⟨Nat.le_of_ble_eq_true rfl, Nat.le_of_ble_eq_true rfl⟩ rfl hl.1 rfl (Nat.le_of_ble_eq_true rfl) d_X6_readEnd_28 (fun r_4 σ_5 H locs hD hw => ?_)
    refine lv_if_eq (tgt := 52) X.1 X.2.1 d_X6_readEnd_31 (by decide) (fun q_31 => ?_) (fun q_31 => ?_)
    · have hD := hD.1 q_31
      refine lv_aload_n X.1 X.2.1 d_X6_readEnd_52 rfl (lv_at hl 0 rfl) ?_
      refine lv_bipush (v := 107) X.1 X.2.1 d_X6_readEnd_53 (by decide) ?_
      refine gcV_i (rest := []) (As := [.int 107]) (o := 5) X hw (c_X6_takes l G 107 σ_5 _  hD) (kd_lt (by decide +kernel : kd 5 = 6) (by decide)) (ce_6 G _ (by decide +kernel : kd 5 = 6)) rfl tb_444 tb_446 tv_3 tb_3 tb_447 hd_X6_takes ⟨rfl, rfl⟩ ⟨Nat.le_of_ble_eq_true rfl, Nat.le_of_ble_eq_true rfl⟩ rfl hl.1 rfl (Nat.le_of_ble_eq_true rfl) d_X6_readEnd_55 (fun r_6 σ_7 H locs hD hw => ?_)
      refine lv_if_eq (tgt := 80) X.1 X.2.1 d_X6_readEnd_58 (by decide) (fun q_58 => ?_) (fun q_58 => ?_)
      · have hD := hD.1 q_58
        refine lv_aload_n X.1 X.2.1 d_X6_readEnd_80 rfl (lv_at hl 0 rfl) ?_
        refine lv_bipush (v := 110) X.1 X.2.1 d_X6_readEnd_81 (by decide) ?_
        refine gcV_i (rest := []) (As := [.int 110]) (o := 5) X hw (c_X6_takes l G 110 σ_7 _  hD) (kd_lt (by decide +kernel : kd 5 = 6) (by decide)) (ce_6 G _ (by decide +kernel : kd 5 = 6)) rfl tb_444 tb_446 tv_3 tb_3 tb_447 hd_X6_takes ⟨rfl, rfl⟩ ⟨Nat.le_of_ble_eq_true rfl, Nat.le_of_ble_eq_true rfl⟩ rfl hl.1 rfl (Nat.le_of_ble_eq_true rfl) d_X6_readEnd_83 (fun r_8 σ_9 H locs hD hw => ?_)
        refine lv_if_eq (tgt := 97) X.1 X.2.1 d_X6_readEnd_86 (by decide) (fun q_86 => ?_) (fun q_86 => ?_)
        · have hD := hD.1 q_86
          refine lv_aload_n X.1 X.2.1 d_X6_readEnd_97 rfl (lv_at hl 0 rfl) ?_
          refine lv_bipush (v := 103) X.1 X.2.1 d_X6_readEnd_98 (by decide) ?_
          refine gcV_i (rest := []) (As := [.int 103]) (o := 5) X hw (c_X6_takes l G 103 σ_9 _  hD) (kd_lt (by decide +kernel : kd 5 = 6) (by decide)) (ce_6 G _ (by decide +kernel : kd 5 = 6)) rfl tb_444 tb_446 tv_3 tb_3 tb_447 hd_X6_takes ⟨rfl, rfl⟩ ⟨Nat.le_of_ble_eq_true rfl, Nat.le_of_ble_eq_true rfl⟩ rfl hl.1 rfl (Nat.le_of_ble_eq_true rfl) d_X6_readEnd_100 (fun r_10 σ_11 H locs hD hw => ?_)
          refine lv_if_eq (tgt := 114) X.1 X.2.1 d_X6_readEnd_103 (by decide) (fun q_103 => ?_) (fun q_103 => ?_)
          · have hD := hD.1 q_103
            refine lv_aload_n X.1 X.2.1 d_X6_readEnd_114 rfl (lv_at hl 0 rfl) ?_
            refine lv_bipush (v := 121) X.1 X.2.1 d_X6_readEnd_115 (by decide) ?_
            refine gcV_i (rest := []) (As := [.int 121]) (o := 5) X hw (c_X6_takes l G 121 σ_11 _  hD) (kd_lt (by decide +kernel : kd 5 = 6) (by decide)) (ce_6 G _ (by decide +kernel : kd 5 = 6)) rfl tb_444 tb_446 tv_3 tb_3 tb_447 hd_X6_takes ⟨rfl, rfl⟩ ⟨Nat.le_of_ble_eq_true rfl, Nat.le_of_ble_eq_true rfl⟩ rfl hl.1 rfl (Nat.le_of_ble_eq_true rfl) d_X6_readEnd_117 (fun r_12 σ_13 H locs hD hw => ?_)
            refine lv_if_eq (tgt := 131) X.1 X.2.1 d_X6_readEnd_120 (by decide) (fun q_120 => ?_) (fun q_120 => ?_)
            · have hD := hD.1 q_120
              refine lv_iconst (v := 0) X.1 X.2.1 d_X6_readEnd_131 (by decide) ?_
              exact g_zret X hr hlk hw (by decide) hD d_X6_readEnd_132
            · have hD := hD.2 q_120
              refine lv_aload_n X.1 X.2.1 d_X6_readEnd_123 rfl (lv_at hl 1 rfl) ?_
              refine lv_iconst (v := 3) X.1 X.2.1 d_X6_readEnd_124 (by decide) ?_
              refine pf_7_0 X hw hk1 tb_127 d_X6_readEnd_125 (fun H locs hw => ?_)
              obtain ⟨σ_14, e_σ_14⟩ : ∃ z : GSt, z = up2 σ_13 r1 0 3 := ⟨_, rfl⟩
              rw [← e_σ_14] at hw
              have hD := hD σ_14 e_σ_14
              refine lv_goto (tgt := 133) X.1 X.2.1 d_X6_readEnd_128 (by decide) ?_
              exact s_X6_readEnd_133 X hr hlk  Q  r1 hk1 σ_14 hw (lv_sub hl [0, 1] rfl) hD
          · have hD := hD.2 q_103
            refine lv_aload_n X.1 X.2.1 d_X6_readEnd_106 rfl (lv_at hl 1 rfl) ?_
            refine lv_iconst (v := 2) X.1 X.2.1 d_X6_readEnd_107 (by decide) ?_
            refine pf_7_0 X hw hk1 tb_127 d_X6_readEnd_108 (fun H locs hw => ?_)
            obtain ⟨σ_15, e_σ_15⟩ : ∃ z : GSt, z = up2 σ_11 r1 0 2 := ⟨_, rfl⟩
            rw [← e_σ_15] at hw
            have hD := hD σ_15 e_σ_15
            refine lv_goto (tgt := 133) X.1 X.2.1 d_X6_readEnd_111 (by decide) ?_
            exact s_X6_readEnd_133 X hr hlk  Q  r1 hk1 σ_15 hw (lv_sub hl [0, 1] rfl) hD
        · have hD := hD.2 q_86
          refine lv_aload_n X.1 X.2.1 d_X6_readEnd_89 rfl (lv_at hl 1 rfl) ?_
          refine lv_iconst (v := 1) X.1 X.2.1 d_X6_readEnd_90 (by decide) ?_
          refine pf_7_0 X hw hk1 tb_127 d_X6_readEnd_91 (fun H locs hw => ?_)
          obtain ⟨σ_16, e_σ_16⟩ : ∃ z : GSt, z = up2 σ_9 r1 0 1 := ⟨_, rfl⟩
          rw [← e_σ_16] at hw
          have hD := hD σ_16 e_σ_16
          refine lv_goto (tgt := 133) X.1 X.2.1 d_X6_readEnd_94 (by decide) ?_
          exact s_X6_readEnd_133 X hr hlk  Q  r1 hk1 σ_16 hw (lv_sub hl [0, 1] rfl) hD
      · have hD := hD.2 q_58
        refine lv_aload_n X.1 X.2.1 d_X6_readEnd_61 rfl (lv_at hl 1 rfl) ?_
        refine lv_iconst (v := 4) X.1 X.2.1 d_X6_readEnd_62 (by decide) ?_
        refine pf_7_0 X hw hk1 tb_127 d_X6_readEnd_63 (fun H locs hw => ?_)
        obtain ⟨σ_17, e_σ_17⟩ : ∃ z : GSt, z = up2 σ_7 r1 0 4 := ⟨_, rfl⟩
        rw [← e_σ_17] at hw
        have hD := hD σ_17 e_σ_17
        refine lv_aload_n X.1 X.2.1 d_X6_readEnd_66 rfl (lv_at hl 1 rfl) ?_
        refine lv_aload_n X.1 X.2.1 d_X6_readEnd_67 rfl (lv_at hl 0 rfl) ?_
        refine lv_iconst (v := 1) X.1 X.2.1 d_X6_readEnd_68 (by decide) ?_
        refine lv_bipush (v := 9) X.1 X.2.1 d_X6_readEnd_69 (by decide) ?_
        refine gcV_i (rest := [.ref (G.2.1 r1)]) (As := [.int 1, .int 9]) (o := 5) X hw (c_X6_digit l G 1 9 σ_17 _  hD) (kd_lt (by decide +kernel : kd 5 = 6) (by decide)) (ce_6 G _ (by decide +kernel : kd 5 = 6)) rfl tb_452 tb_454 tv_4 tb_3 tb_455 hd_X6_digit ⟨rfl, rfl⟩ ⟨Nat.le_of_ble_eq_true rfl, Nat.le_of_ble_eq_true rfl⟩ rfl hl.1 rfl (Nat.le_of_ble_eq_true rfl) d_X6_readEnd_71 (fun r_18 σ_19 H locs hD hw => ?_)
        refine pf_7_1 X hw hk1 tb_129 d_X6_readEnd_74 (fun H locs hw => ?_)
        obtain ⟨σ_20, e_σ_20⟩ : ∃ z : GSt, z = up2 σ_19 r1 1 r_18 := ⟨_, rfl⟩
        rw [← e_σ_20] at hw
        have hD := hD σ_20 e_σ_20
        refine lv_goto (tgt := 133) X.1 X.2.1 d_X6_readEnd_77 (by decide) ?_
        exact s_X6_readEnd_133 X hr hlk  Q  r1 hk1 σ_20 hw (lv_sub hl [0, 1] rfl) hD
    · have hD := hD.2 q_31
      refine lv_aload_n X.1 X.2.1 d_X6_readEnd_34 rfl (lv_at hl 1 rfl) ?_
      refine lv_iconst (v := 0) X.1 X.2.1 d_X6_readEnd_35 (by decide) ?_
      refine pf_7_0 X hw hk1 tb_127 d_X6_readEnd_36 (fun H locs hw => ?_)
      obtain ⟨σ_21, e_σ_21⟩ : ∃ z : GSt, z = up2 σ_5 r1 0 0 := ⟨_, rfl⟩
      rw [← e_σ_21] at hw
      have hD := hD σ_21 e_σ_21
      refine lv_aload_n X.1 X.2.1 d_X6_readEnd_39 rfl (lv_at hl 1 rfl) ?_
      refine lv_aload_n X.1 X.2.1 d_X6_readEnd_40 rfl (lv_at hl 0 rfl) ?_
      refine lv_iconst (v := 2) X.1 X.2.1 d_X6_readEnd_41 (by decide) ?_
      refine lv_iconst (v := 4) X.1 X.2.1 d_X6_readEnd_42 (by decide) ?_
      refine gcV_i (rest := [.ref (G.2.1 r1)]) (As := [.int 2, .int 4]) (o := 5) X hw (c_X6_digit l G 2 4 σ_21 _  hD) (kd_lt (by decide +kernel : kd 5 = 6) (by decide)) (ce_6 G _ (by decide +kernel : kd 5 = 6)) rfl tb_452 tb_454 tv_4 tb_3 tb_455 hd_X6_digit ⟨rfl, rfl⟩ ⟨Nat.le_of_ble_eq_true rfl, Nat.le_of_ble_eq_true rfl⟩ rfl hl.1 rfl (Nat.le_of_ble_eq_true rfl) d_X6_readEnd_43 (fun r_22 σ_23 H locs hD hw => ?_)
      refine pf_7_1 X hw hk1 tb_129 d_X6_readEnd_46 (fun H locs hw => ?_)
      obtain ⟨σ_24, e_σ_24⟩ : ∃ z : GSt, z = up2 σ_23 r1 1 r_22 := ⟨_, rfl⟩
      rw [← e_σ_24] at hw
      have hD := hD σ_24 e_σ_24
      refine lv_goto (tgt := 133) X.1 X.2.1 d_X6_readEnd_49 (by decide) ?_
      exact s_X6_readEnd_133 X hr hlk  Q  r1 hk1 σ_24 hw (lv_sub hl [0, 1] rfl) hD
  · have hD := hD.2 q_11
    refine lv_aload_n X.1 X.2.1 d_X6_readEnd_14 rfl (lv_at hl 1 rfl) ?_
    refine lv_iconst (v := 5) X.1 X.2.1 d_X6_readEnd_15 (by decide) ?_
    refine pf_7_0 X hw hk1 tb_127 d_X6_readEnd_16 (fun H locs hw => ?_)
    obtain ⟨σ_25, e_σ_25⟩ : ∃ z : GSt, z = up2 σ_3 r1 0 5 := ⟨_, rfl⟩
    rw [← e_σ_25] at hw
    have hD := hD σ_25 e_σ_25
    refine lv_aload_n X.1 X.2.1 d_X6_readEnd_19 rfl (lv_at hl 0 rfl) ?_
    refine lv_aload_n X.1 X.2.1 d_X6_readEnd_20 rfl (lv_at hl 1 rfl) ?_
    refine gcV_i (rest := []) (As := [.ref (G.2.1 r1)]) (o := 5) X hw (c_X6_readLength l G r1 σ_25 _ hk1 hD) (kd_lt (by decide +kernel : kd 5 = 6) (by decide)) (ce_6 G _ (by decide +kernel : kd 5 = 6)) rfl tb_504 tb_506 tv_15 tb_3 tb_507 hd_X6_readLength ⟨rfl, rfl⟩ ⟨Nat.le_of_ble_eq_true rfl, Nat.le_of_ble_eq_true rfl⟩ rfl hl.1 rfl (Nat.le_of_ble_eq_true rfl) d_X6_readEnd_21 (fun r_26 σ_27 H locs hD hw => ?_)
    exact g_zret X hr hlk hw hD.1 hD.2 d_X6_readEnd_24
theorem c_X6_readEnd (l : Launch) (G : GC) (r1 : Nat) (σ : GSt) (Q : Int32 → GSt → Prop) (hr1 : kd r1 = 7) (hD : D_X6_readEnd r1 σ Q) : MI l ym_X6_readEnd cm_X6_readEnd 2 .boolean rm_X6_readEnd G σ [.ref (G.2.1 5), .ref (G.2.1 r1)] Q := by
  refine met_i (by decide) (Nat.le_of_ble_eq_true rfl) ?_
  intro p e s m args below meth c X hr hlk hw ls hl
  exact s_X6_readEnd_0 X hr hlk Q  r1 hr1 σ hw (lv_sub hl [0, 1] rfl) hD
theorem hd_X6_readEnds : ym_X6_readEnds.cls = "GameLoom$Reader" ∧ ym_X6_readEnds.cls ≠ "java/lang/invoke/MethodHandle" ∧ ym_X6_readEnds.cls ≠ "java/lang/invoke/VarHandle" ∧ (parseMethodDescriptor ym_X6_readEnds.desc).map (fun d => d.parameters.length) = some 0 := by decide +kernel
abbrev rm_X6_readEnds : Room := { frames := 4, cells := 0, slots := 0, locals := 88 }
theorem d_X6_readEnds_0 : decode cm_X6_readEnds 0 = .ok (.aload_n 0, 1) := by decide +kernel
theorem d_X6_readEnds_1 : decode cm_X6_readEnds 1 = .ok (.getfield 15, 3) := by decide +kernel
theorem d_X6_readEnds_4 : decode cm_X6_readEnds 4 = .ok (.aload_n 0, 1) := by decide +kernel
theorem d_X6_readEnds_5 : decode cm_X6_readEnds 5 = .ok (.getfield 19, 3) := by decide +kernel
theorem d_X6_readEnds_8 : decode cm_X6_readEnds 8 = .ok (.putfield 111, 3) := by decide +kernel
theorem d_X6_readEnds_11 : decode cm_X6_readEnds 11 = .ok (.aload_n 0, 1) := by decide +kernel
theorem d_X6_readEnds_12 : decode cm_X6_readEnds 12 = .ok (.getfield 15, 3) := by decide +kernel
theorem d_X6_readEnds_15 : decode cm_X6_readEnds 15 = .ok (.iconst 0, 1) := by decide +kernel
theorem d_X6_readEnds_16 : decode cm_X6_readEnds 16 = .ok (.putfield 114, 3) := by decide +kernel
theorem d_X6_readEnds_19 : decode cm_X6_readEnds 19 = .ok (.iconst 0, 1) := by decide +kernel
theorem d_X6_readEnds_20 : decode cm_X6_readEnds 20 = .ok (.istore_n 1, 1) := by decide +kernel
theorem d_X6_readEnds_21 : decode cm_X6_readEnds 21 = .ok (.iload_n 1, 1) := by decide +kernel
theorem d_X6_readEnds_22 : decode cm_X6_readEnds 22 = .ok (.bipush 6, 2) := by decide +kernel
theorem d_X6_readEnds_24 : decode cm_X6_readEnds 24 = .ok (.if_icmp .ge 77, 3) := by decide +kernel
theorem d_X6_readEnds_27 : decode cm_X6_readEnds 27 = .ok (.aload_n 0, 1) := by decide +kernel
theorem d_X6_readEnds_28 : decode cm_X6_readEnds 28 = .ok (.getfield 15, 3) := by decide +kernel
theorem d_X6_readEnds_31 : decode cm_X6_readEnds 31 = .ok (.getfield 117, 3) := by decide +kernel
theorem d_X6_readEnds_34 : decode cm_X6_readEnds 34 = .ok (.iload_n 1, 1) := by decide +kernel
theorem d_X6_readEnds_35 : decode cm_X6_readEnds 35 = .ok (.aaload, 1) := by decide +kernel
theorem d_X6_readEnds_36 : decode cm_X6_readEnds 36 = .ok (.astore_n 2, 1) := by decide +kernel
theorem d_X6_readEnds_37 : decode cm_X6_readEnds 37 = .ok (.aload_n 2, 1) := by decide +kernel
theorem d_X6_readEnds_38 : decode cm_X6_readEnds 38 = .ok (.aload_n 0, 1) := by decide +kernel
theorem d_X6_readEnds_39 : decode cm_X6_readEnds 39 = .ok (.getfield 19, 3) := by decide +kernel
theorem d_X6_readEnds_42 : decode cm_X6_readEnds 42 = .ok (.putfield 89, 3) := by decide +kernel
theorem d_X6_readEnds_45 : decode cm_X6_readEnds 45 = .ok (.aload_n 0, 1) := by decide +kernel
theorem d_X6_readEnds_46 : decode cm_X6_readEnds 46 = .ok (.aload_n 2, 1) := by decide +kernel
theorem d_X6_readEnds_47 : decode cm_X6_readEnds 47 = .ok (.invokevirtual 120, 3) := by decide +kernel
theorem d_X6_readEnds_50 : decode cm_X6_readEnds 50 = .ok (.ifCond .ne 5, 3) := by decide +kernel
theorem d_X6_readEnds_53 : decode cm_X6_readEnds 53 = .ok (.iconst 0, 1) := by decide +kernel
theorem d_X6_readEnds_54 : decode cm_X6_readEnds 54 = .ok (.ireturn, 1) := by decide +kernel
theorem d_X6_readEnds_55 : decode cm_X6_readEnds 55 = .ok (.aload_n 2, 1) := by decide +kernel
theorem d_X6_readEnds_56 : decode cm_X6_readEnds 56 = .ok (.aload_n 0, 1) := by decide +kernel
theorem d_X6_readEnds_57 : decode cm_X6_readEnds 57 = .ok (.getfield 19, 3) := by decide +kernel
theorem d_X6_readEnds_60 : decode cm_X6_readEnds 60 = .ok (.putfield 102, 3) := by decide +kernel
theorem d_X6_readEnds_63 : decode cm_X6_readEnds 63 = .ok (.aload_n 0, 1) := by decide +kernel
theorem d_X6_readEnds_64 : decode cm_X6_readEnds 64 = .ok (.getfield 15, 3) := by decide +kernel
theorem d_X6_readEnds_67 : decode cm_X6_readEnds 67 = .ok (.iload_n 1, 1) := by decide +kernel
theorem d_X6_readEnds_68 : decode cm_X6_readEnds 68 = .ok (.iconst 1, 1) := by decide +kernel
theorem d_X6_readEnds_69 : decode cm_X6_readEnds 69 = .ok (.iadd, 1) := by decide +kernel
theorem d_X6_readEnds_70 : decode cm_X6_readEnds 70 = .ok (.putfield 114, 3) := by decide +kernel
theorem d_X6_readEnds_73 : decode cm_X6_readEnds 73 = .ok (.aload_n 0, 1) := by decide +kernel
theorem d_X6_readEnds_74 : decode cm_X6_readEnds 74 = .ok (.bipush 46, 2) := by decide +kernel
theorem d_X6_readEnds_76 : decode cm_X6_readEnds 76 = .ok (.invokevirtual 52, 3) := by decide +kernel
theorem d_X6_readEnds_79 : decode cm_X6_readEnds 79 = .ok (.ifCond .eq 5, 3) := by decide +kernel
theorem d_X6_readEnds_82 : decode cm_X6_readEnds 82 = .ok (.iconst 1, 1) := by decide +kernel
theorem d_X6_readEnds_83 : decode cm_X6_readEnds 83 = .ok (.ireturn, 1) := by decide +kernel
theorem d_X6_readEnds_84 : decode cm_X6_readEnds 84 = .ok (.aload_n 0, 1) := by decide +kernel
theorem d_X6_readEnds_85 : decode cm_X6_readEnds 85 = .ok (.bipush 44, 2) := by decide +kernel
theorem d_X6_readEnds_87 : decode cm_X6_readEnds 87 = .ok (.invokevirtual 52, 3) := by decide +kernel
theorem d_X6_readEnds_90 : decode cm_X6_readEnds 90 = .ok (.ifCond .ne 5, 3) := by decide +kernel
theorem d_X6_readEnds_93 : decode cm_X6_readEnds 93 = .ok (.iconst 0, 1) := by decide +kernel
theorem d_X6_readEnds_94 : decode cm_X6_readEnds 94 = .ok (.ireturn, 1) := by decide +kernel
theorem d_X6_readEnds_95 : decode cm_X6_readEnds 95 = .ok (.iinc 1 1, 3) := by decide +kernel
theorem d_X6_readEnds_98 : decode cm_X6_readEnds 98 = .ok (.goto (-77), 3) := by decide +kernel
theorem d_X6_readEnds_101 : decode cm_X6_readEnds 101 = .ok (.iconst 0, 1) := by decide +kernel
theorem d_X6_readEnds_102 : decode cm_X6_readEnds 102 = .ok (.ireturn, 1) := by decide +kernel
def D_X6_readEnds_21 (K21 : Int32 → GSt → Prop) (Q : Int32 → GSt → Prop) (x1 : Int32) (σ : GSt) : Prop :=
  (6 ≤ x1 → Q 0 σ) ∧
  (¬ 6 ≤ x1 → (¬ σ 5 1 < 0 ∧ kd (σ 5 1).toNatClampNeg = 1) ∧ (vp_in x1 6 ∧ (∀ σ_1 : GSt, σ_1 = up2 σ ((((σ 5 1).toNatClampNeg) + 9) + 2 + 2 * Int32.toNatClampNeg x1) 4 (σ 5 2) → (D_X6_readEnd ((((σ 5 1).toNatClampNeg) + 9) + 2 + 2 * Int32.toNatClampNeg x1) σ_1 (fun r_2 σ_3 => (¬ r_2 = 0 → ∀ σ_4 : GSt, σ_4 = up2 σ_3 ((((σ 5 1).toNatClampNeg) + 9) + 2 + 2 * Int32.toNatClampNeg x1) 5 (σ_3 5 2) → ((¬ σ_4 5 1 < 0 ∧ kd (σ_4 5 1).toNatClampNeg = 1) ∧ (∀ σ_5 : GSt, σ_5 = up2 σ_4 ((σ_4 5 1).toNatClampNeg) 7 (x1 + 1) → (D_X6_takes 46 σ_5 (fun r_6 σ_7 => (r_6 = 0 → D_X6_takes 44 σ_7 (fun r_8 σ_9 => (¬ r_8 = 0 → ∀ x1_10 : Int32, x1_10 = x1 + 1 → (K21 x1_10 σ_9)) ∧
  (r_8 = 0 → Q 0 σ_9))) ∧
  (¬ r_6 = 0 → Q 1 σ_7)))))) ∧
  (r_2 = 0 → Q 0 σ_3))))))
def L_X6_readEnds_21 (Q : Int32 → GSt → Prop) : Nat → Int32 → GSt → Prop
  | 0 => fun _ _ => False
  | n + 1 => fun x1 σ => D_X6_readEnds_21 (L_X6_readEnds_21 Q n) Q x1 σ
def D_X6_readEnds_0 (Q : Int32 → GSt → Prop) (σ : GSt) : Prop :=
  (¬ σ 5 1 < 0 ∧ kd (σ 5 1).toNatClampNeg = 1) ∧ (∀ σ_1 : GSt, σ_1 = up2 σ ((σ 5 1).toNatClampNeg) 9 (σ 5 2) → ((¬ σ_1 5 1 < 0 ∧ kd (σ_1 5 1).toNatClampNeg = 1) ∧ (∀ σ_2 : GSt, σ_2 = up2 σ_1 ((σ_1 5 1).toNatClampNeg) 7 0 → (∃ n : Nat, L_X6_readEnds_21 Q n 0 σ_2))))
def D_X6_readEnds (σ : GSt) (Q : Int32 → GSt → Prop) : Prop := D_X6_readEnds_0 Q σ
set_option maxRecDepth 20000 in
set_option maxHeartbeats 4000000 in
theorem s_X6_readEnds_21 {p : Program} {l : Launch} {e : Env} {s : State} {m : MethodId} {args : Array Value} {below : List Frame} {meth : Method} {c : Code} {G : GC} (X : CallFix p m c cm_X6_readEnds 3 s args lw_us "GameLoom$Reader") (hr : meth.sig.returnType = some .boolean) (hlk : meth.locks = false) (K21 : Int32 → GSt → Prop) (Q : Int32 → GSt → Prop) (hK21 : ∀ (x1 : Int32) (σ : GSt) (H : Heap) (locs : List Loc) (ls : Array Slot), Wo G s H locs σ → lv_has ls 3 [(0, .ref (G.2.1 5)), (1, .int x1)] → K21 x1 σ → W p l e rm_X6_readEnds s m args below meth c H locs 0 0 (QMI G Q below args s) (F0 m 21 ls [])) (x1 : Int32) (σ : GSt) {H : Heap} {locs : List Loc} {ls : Array Slot} (hw : Wo G s H locs σ) (hl : lv_has ls 3 [(0, .ref (G.2.1 5)), (1, .int x1)]) (hD : D_X6_readEnds_21 K21 Q x1 σ) : W p l e rm_X6_readEnds s m args below meth c H locs 0 0 (QMI G Q below args s) (F0 m 21 ls []) := by
  unfold D_X6_readEnds_21 at hD
  refine lv_iload_n X.1 X.2.1 d_X6_readEnds_21 rfl (lv_at hl 1 rfl) ?_
  refine lv_bipush (v := 6) X.1 X.2.1 d_X6_readEnds_22 (by decide) ?_
  refine lv_icmp_ge (tgt := 101) X.1 X.2.1 d_X6_readEnds_24 (by decide) (fun q_24 => ?_) (fun q_24 => ?_)
  · have hD := hD.1 q_24
    refine lv_iconst (v := 0) X.1 X.2.1 d_X6_readEnds_101 (by decide) ?_
    exact g_zret X hr hlk hw (by decide) hD d_X6_readEnds_102
  · have hD := hD.2 q_24
    refine lv_aload_n X.1 X.2.1 d_X6_readEnds_27 rfl (lv_at hl 0 rfl) ?_
    obtain ⟨q_28, hD⟩ := hD
    refine gf_6_1 X hw (by decide +kernel : kd 5 = 6) tb_49 q_28.1 d_X6_readEnds_28 ?_
    refine gf_1_6 X hw q_28.2 tb_172 d_X6_readEnds_31 ?_
    refine lv_iload_n X.1 X.2.1 d_X6_readEnds_34 rfl (lv_at hl 1 rfl) ?_
    obtain ⟨q_35, hD⟩ := hD
    refine g_aald15 X hw (ly_1_6 q_28.2).1 q_35 d_X6_readEnds_35 ?_
    refine lv_astore_n (lv' := [(2, .ref (G.2.1 ((((σ 5 1).toNatClampNeg) + 9) + 2 + 2 * Int32.toNatClampNeg x1))), (0, .ref (G.2.1 5)), (1, .int x1)]) X.1 X.2.1 d_X6_readEnds_36 rfl hl (by decide) rfl (fun ls hl => ?_)
    refine lv_aload_n X.1 X.2.1 d_X6_readEnds_37 rfl (lv_at hl 0 rfl) ?_
    refine lv_aload_n X.1 X.2.1 d_X6_readEnds_38 rfl (lv_at hl 1 rfl) ?_
    refine gf_6_2 X hw (by decide +kernel : kd 5 = 6) tb_50 d_X6_readEnds_39 ?_
    refine pf_7_4 X hw (le_15 (ly_1_6 q_28.2).1 q_35) tb_136 d_X6_readEnds_42 (fun H locs hw => ?_)
    obtain ⟨σ_1, e_σ_1⟩ : ∃ z : GSt, z = up2 σ ((((σ 5 1).toNatClampNeg) + 9) + 2 + 2 * Int32.toNatClampNeg x1) 4 (σ 5 2) := ⟨_, rfl⟩
    rw [← e_σ_1] at hw
    have hD := hD σ_1 e_σ_1
    refine lv_aload_n X.1 X.2.1 d_X6_readEnds_45 rfl (lv_at hl 1 rfl) ?_
    refine lv_aload_n X.1 X.2.1 d_X6_readEnds_46 rfl (lv_at hl 0 rfl) ?_
    refine gcV_i (rest := []) (As := [.ref (G.2.1 ((((σ 5 1).toNatClampNeg) + 9) + 2 + 2 * Int32.toNatClampNeg x1))]) (o := 5) X hw (c_X6_readEnd l G ((((σ 5 1).toNatClampNeg) + 9) + 2 + 2 * Int32.toNatClampNeg x1) σ_1 _ (le_15 (ly_1_6 q_28.2).1 q_35) hD) (kd_lt (by decide +kernel : kd 5 = 6) (by decide)) (ce_6 G _ (by decide +kernel : kd 5 = 6)) rfl tb_500 tb_502 tv_14 tb_3 tb_503 hd_X6_readEnd ⟨rfl, rfl⟩ ⟨Nat.le_of_ble_eq_true rfl, Nat.le_of_ble_eq_true rfl⟩ rfl hl.1 rfl (Nat.le_of_ble_eq_true rfl) d_X6_readEnds_47 (fun r_2 σ_3 H locs hD hw => ?_)
    refine lv_if_ne (tgt := 55) X.1 X.2.1 d_X6_readEnds_50 (by decide) (fun q_50 => ?_) (fun q_50 => ?_)
    · have hD := hD.1 q_50
      refine lv_aload_n X.1 X.2.1 d_X6_readEnds_55 rfl (lv_at hl 0 rfl) ?_
      refine lv_aload_n X.1 X.2.1 d_X6_readEnds_56 rfl (lv_at hl 1 rfl) ?_
      refine gf_6_2 X hw (by decide +kernel : kd 5 = 6) tb_50 d_X6_readEnds_57 ?_
      refine pf_7_5 X hw (le_15 (ly_1_6 q_28.2).1 q_35) tb_138 d_X6_readEnds_60 (fun H locs hw => ?_)
      obtain ⟨σ_4, e_σ_4⟩ : ∃ z : GSt, z = up2 σ_3 ((((σ 5 1).toNatClampNeg) + 9) + 2 + 2 * Int32.toNatClampNeg x1) 5 (σ_3 5 2) := ⟨_, rfl⟩
      rw [← e_σ_4] at hw
      have hD := hD σ_4 e_σ_4
      refine lv_aload_n X.1 X.2.1 d_X6_readEnds_63 rfl (lv_at hl 1 rfl) ?_
      obtain ⟨q_64, hD⟩ := hD
      refine gf_6_1 X hw (by decide +kernel : kd 5 = 6) tb_49 q_64.1 d_X6_readEnds_64 ?_
      refine lv_iload_n X.1 X.2.1 d_X6_readEnds_67 rfl (lv_at hl 2 rfl) ?_
      refine lv_iconst (v := 1) X.1 X.2.1 d_X6_readEnds_68 (by decide) ?_
      refine lv_iadd X.1 X.2.1 d_X6_readEnds_69 ?_
      refine pf_1_7 X hw q_64.2 tb_177 d_X6_readEnds_70 (fun H locs hw => ?_)
      obtain ⟨σ_5, e_σ_5⟩ : ∃ z : GSt, z = up2 σ_4 ((σ_4 5 1).toNatClampNeg) 7 (x1 + 1) := ⟨_, rfl⟩
      rw [← e_σ_5] at hw
      have hD := hD σ_5 e_σ_5
      refine lv_aload_n X.1 X.2.1 d_X6_readEnds_73 rfl (lv_at hl 1 rfl) ?_
      refine lv_bipush (v := 46) X.1 X.2.1 d_X6_readEnds_74 (by decide) ?_
      refine gcV_i (rest := []) (As := [.int 46]) (o := 5) X hw (c_X6_takes l G 46 σ_5 _  hD) (kd_lt (by decide +kernel : kd 5 = 6) (by decide)) (ce_6 G _ (by decide +kernel : kd 5 = 6)) rfl tb_444 tb_446 tv_3 tb_3 tb_447 hd_X6_takes ⟨rfl, rfl⟩ ⟨Nat.le_of_ble_eq_true rfl, Nat.le_of_ble_eq_true rfl⟩ rfl hl.1 rfl (Nat.le_of_ble_eq_true rfl) d_X6_readEnds_76 (fun r_6 σ_7 H locs hD hw => ?_)
      refine lv_if_eq (tgt := 84) X.1 X.2.1 d_X6_readEnds_79 (by decide) (fun q_79 => ?_) (fun q_79 => ?_)
      · have hD := hD.1 q_79
        refine lv_aload_n X.1 X.2.1 d_X6_readEnds_84 rfl (lv_at hl 1 rfl) ?_
        refine lv_bipush (v := 44) X.1 X.2.1 d_X6_readEnds_85 (by decide) ?_
        refine gcV_i (rest := []) (As := [.int 44]) (o := 5) X hw (c_X6_takes l G 44 σ_7 _  hD) (kd_lt (by decide +kernel : kd 5 = 6) (by decide)) (ce_6 G _ (by decide +kernel : kd 5 = 6)) rfl tb_444 tb_446 tv_3 tb_3 tb_447 hd_X6_takes ⟨rfl, rfl⟩ ⟨Nat.le_of_ble_eq_true rfl, Nat.le_of_ble_eq_true rfl⟩ rfl hl.1 rfl (Nat.le_of_ble_eq_true rfl) d_X6_readEnds_87 (fun r_8 σ_9 H locs hD hw => ?_)
        refine lv_if_ne (tgt := 95) X.1 X.2.1 d_X6_readEnds_90 (by decide) (fun q_90 => ?_) (fun q_90 => ?_)
        · have hD := hD.1 q_90
          obtain ⟨x1_10, e_x1_10⟩ : ∃ y : Int32, y = x1 + 1 := ⟨_, rfl⟩
          have hD := hD x1_10 e_x1_10
          refine lv_iinc (v := x1_10) (lv' := [(1, .int x1_10), (2, .ref (G.2.1 ((((σ 5 1).toNatClampNeg) + 9) + 2 + 2 * Int32.toNatClampNeg x1))), (0, .ref (G.2.1 5))]) X.1 X.2.1 d_X6_readEnds_95 hl (k := 2) rfl (by rw [e_x1_10]; rfl) (by decide) rfl (fun ls hl => ?_)
          refine lv_goto (tgt := 21) X.1 X.2.1 d_X6_readEnds_98 (by decide) ?_
          exact hK21 x1_10 σ_9 _ _ _  hw (lv_sub hl [2, 0] rfl) hD
        · have hD := hD.2 q_90
          refine lv_iconst (v := 0) X.1 X.2.1 d_X6_readEnds_93 (by decide) ?_
          exact g_zret X hr hlk hw (by decide) hD d_X6_readEnds_94
      · have hD := hD.2 q_79
        refine lv_iconst (v := 1) X.1 X.2.1 d_X6_readEnds_82 (by decide) ?_
        exact g_zret X hr hlk hw (by decide) hD d_X6_readEnds_83
    · have hD := hD.2 q_50
      refine lv_iconst (v := 0) X.1 X.2.1 d_X6_readEnds_53 (by decide) ?_
      exact g_zret X hr hlk hw (by decide) hD d_X6_readEnds_54
set_option maxRecDepth 20000 in
set_option maxHeartbeats 4000000 in
theorem sl_X6_readEnds_21 {p : Program} {l : Launch} {e : Env} {s : State} {m : MethodId} {args : Array Value} {below : List Frame} {meth : Method} {c : Code} {G : GC} (X : CallFix p m c cm_X6_readEnds 3 s args lw_us "GameLoom$Reader") (hr : meth.sig.returnType = some .boolean) (hlk : meth.locks = false) (Q : Int32 → GSt → Prop) : ∀ (nn : Nat), ∀ (x1 : Int32) (σ : GSt) (H : Heap) (locs : List Loc) (ls : Array Slot), Wo G s H locs σ → lv_has ls 3 [(0, .ref (G.2.1 5)), (1, .int x1)] → L_X6_readEnds_21 Q nn x1 σ → W p l e rm_X6_readEnds s m args below meth c H locs 0 0 (QMI G Q below args s) (F0 m 21 ls []) := by
  intro nn
  induction nn with
  | zero => intro x1 σ H locs ls  hw hl hD; exact hD.elim
  | succ nn ih =>
    intro x1 σ H locs ls  hw hl hD
    exact s_X6_readEnds_21 X hr hlk (L_X6_readEnds_21 Q nn) Q ih x1 σ hw hl hD
set_option maxRecDepth 20000 in
set_option maxHeartbeats 4000000 in
theorem s_X6_readEnds_0 {p : Program} {l : Launch} {e : Env} {s : State} {m : MethodId} {args : Array Value} {below : List Frame} {meth : Method} {c : Code} {G : GC} (X : CallFix p m c cm_X6_readEnds 3 s args lw_us "GameLoom$Reader") (hr : meth.sig.returnType = some .boolean) (hlk : meth.locks = false) (Q : Int32 → GSt → Prop) (σ : GSt) {H : Heap} {locs : List Loc} {ls : Array Slot} (hw : Wo G s H locs σ) (hl : lv_has ls 3 [(0, .ref (G.2.1 5))]) (hD : D_X6_readEnds_0 Q σ) : W p l e rm_X6_readEnds s m args below meth c H locs 0 0 (QMI G Q below args s) (F0 m 0 ls []) := by
  unfold D_X6_readEnds_0 at hD
  refine lv_aload_n X.1 X.2.1 d_X6_readEnds_0 rfl (lv_at hl 0 rfl) ?_
  obtain ⟨q_1, hD⟩ := hD
  refine gf_6_1 X hw (by decide +kernel : kd 5 = 6) tb_49 q_1.1 d_X6_readEnds_1 ?_
  refine lv_aload_n X.1 X.2.1 d_X6_readEnds_4 rfl (lv_at hl 0 rfl) ?_
  refine gf_6_2 X hw (by decide +kernel : kd 5 = 6) tb_50 d_X6_readEnds_5 ?_
  refine pf_1_9 X hw q_1.2 tb_182 d_X6_readEnds_8 (fun H locs hw => ?_)
  obtain ⟨σ_1, e_σ_1⟩ : ∃ z : GSt, z = up2 σ ((σ 5 1).toNatClampNeg) 9 (σ 5 2) := ⟨_, rfl⟩
  rw [← e_σ_1] at hw
  have hD := hD σ_1 e_σ_1
  refine lv_aload_n X.1 X.2.1 d_X6_readEnds_11 rfl (lv_at hl 0 rfl) ?_
  obtain ⟨q_12, hD⟩ := hD
  refine gf_6_1 X hw (by decide +kernel : kd 5 = 6) tb_49 q_12.1 d_X6_readEnds_12 ?_
  refine lv_iconst (v := 0) X.1 X.2.1 d_X6_readEnds_15 (by decide) ?_
  refine pf_1_7 X hw q_12.2 tb_177 d_X6_readEnds_16 (fun H locs hw => ?_)
  obtain ⟨σ_2, e_σ_2⟩ : ∃ z : GSt, z = up2 σ_1 ((σ_1 5 1).toNatClampNeg) 7 0 := ⟨_, rfl⟩
  rw [← e_σ_2] at hw
  have hD := hD σ_2 e_σ_2
  refine lv_iconst (v := 0) X.1 X.2.1 d_X6_readEnds_19 (by decide) ?_
  refine lv_istore_n (lv' := [(1, .int 0), (0, .ref (G.2.1 5))]) X.1 X.2.1 d_X6_readEnds_20 rfl hl (by decide) rfl (fun ls hl => ?_)
  obtain ⟨n9, hD⟩ := hD
  exact sl_X6_readEnds_21 X hr hlk  Q  n9 0 σ_2 _ _ _  hw (lv_sub hl [1, 0] rfl) hD
theorem c_X6_readEnds (l : Launch) (G : GC) (σ : GSt) (Q : Int32 → GSt → Prop)  (hD : D_X6_readEnds  σ Q) : MI l ym_X6_readEnds cm_X6_readEnds 3 .boolean rm_X6_readEnds G σ [.ref (G.2.1 5)] Q := by
  refine met_i (by decide) (Nat.le_of_ble_eq_true rfl) ?_
  intro p e s m args below meth c X hr hlk hw ls hl
  exact s_X6_readEnds_0 X hr hlk Q   σ hw (lv_sub hl [0] rfl) hD
theorem hd_X6_readMove : ym_X6_readMove.cls = "GameLoom$Reader" ∧ ym_X6_readMove.cls ≠ "java/lang/invoke/MethodHandle" ∧ ym_X6_readMove.cls ≠ "java/lang/invoke/VarHandle" ∧ (parseMethodDescriptor ym_X6_readMove.desc).map (fun d => d.parameters.length) = some 1 := by decide +kernel
abbrev rm_X6_readMove : Room := { frames := 2, cells := 0, slots := 0, locals := 44 }
theorem d_X6_readMove_0 : decode cm_X6_readMove 0 = .ok (.aload_n 0, 1) := by decide +kernel
theorem d_X6_readMove_1 : decode cm_X6_readMove 1 = .ok (.bipush 112, 2) := by decide +kernel
theorem d_X6_readMove_3 : decode cm_X6_readMove 3 = .ok (.invokevirtual 52, 3) := by decide +kernel
theorem d_X6_readMove_6 : decode cm_X6_readMove 6 = .ok (.ifCond .eq 32, 3) := by decide +kernel
theorem d_X6_readMove_9 : decode cm_X6_readMove 9 = .ok (.aload_n 1, 1) := by decide +kernel
theorem d_X6_readMove_10 : decode cm_X6_readMove 10 = .ok (.iconst 0, 1) := by decide +kernel
theorem d_X6_readMove_11 : decode cm_X6_readMove 11 = .ok (.putfield 105, 3) := by decide +kernel
theorem d_X6_readMove_14 : decode cm_X6_readMove 14 = .ok (.aload_n 1, 1) := by decide +kernel
theorem d_X6_readMove_15 : decode cm_X6_readMove 15 = .ok (.aload_n 0, 1) := by decide +kernel
theorem d_X6_readMove_16 : decode cm_X6_readMove 16 = .ok (.iconst 0, 1) := by decide +kernel
theorem d_X6_readMove_17 : decode cm_X6_readMove 17 = .ok (.bipush 9, 2) := by decide +kernel
theorem d_X6_readMove_19 : decode cm_X6_readMove 19 = .ok (.invokevirtual 56, 3) := by decide +kernel
theorem d_X6_readMove_22 : decode cm_X6_readMove 22 = .ok (.putfield 108, 3) := by decide +kernel
theorem d_X6_readMove_25 : decode cm_X6_readMove 25 = .ok (.aload_n 1, 1) := by decide +kernel
theorem d_X6_readMove_26 : decode cm_X6_readMove 26 = .ok (.getfield 108, 3) := by decide +kernel
theorem d_X6_readMove_29 : decode cm_X6_readMove 29 = .ok (.ifCond .lt 7, 3) := by decide +kernel
theorem d_X6_readMove_32 : decode cm_X6_readMove 32 = .ok (.iconst 1, 1) := by decide +kernel
theorem d_X6_readMove_33 : decode cm_X6_readMove 33 = .ok (.goto 4, 3) := by decide +kernel
theorem d_X6_readMove_36 : decode cm_X6_readMove 36 = .ok (.iconst 0, 1) := by decide +kernel
theorem d_X6_readMove_37 : decode cm_X6_readMove 37 = .ok (.ireturn, 1) := by decide +kernel
theorem d_X6_readMove_38 : decode cm_X6_readMove 38 = .ok (.aload_n 0, 1) := by decide +kernel
theorem d_X6_readMove_39 : decode cm_X6_readMove 39 = .ok (.bipush 115, 2) := by decide +kernel
theorem d_X6_readMove_41 : decode cm_X6_readMove 41 = .ok (.invokevirtual 52, 3) := by decide +kernel
theorem d_X6_readMove_44 : decode cm_X6_readMove 44 = .ok (.ifCond .eq 11, 3) := by decide +kernel
theorem d_X6_readMove_47 : decode cm_X6_readMove 47 = .ok (.aload_n 1, 1) := by decide +kernel
theorem d_X6_readMove_48 : decode cm_X6_readMove 48 = .ok (.iconst 1, 1) := by decide +kernel
theorem d_X6_readMove_49 : decode cm_X6_readMove 49 = .ok (.putfield 105, 3) := by decide +kernel
theorem d_X6_readMove_52 : decode cm_X6_readMove 52 = .ok (.goto 56, 3) := by decide +kernel
theorem d_X6_readMove_55 : decode cm_X6_readMove 55 = .ok (.aload_n 0, 1) := by decide +kernel
theorem d_X6_readMove_56 : decode cm_X6_readMove 56 = .ok (.bipush 104, 2) := by decide +kernel
theorem d_X6_readMove_58 : decode cm_X6_readMove 58 = .ok (.invokevirtual 52, 3) := by decide +kernel
theorem d_X6_readMove_61 : decode cm_X6_readMove 61 = .ok (.ifCond .eq 11, 3) := by decide +kernel
theorem d_X6_readMove_64 : decode cm_X6_readMove 64 = .ok (.aload_n 1, 1) := by decide +kernel
theorem d_X6_readMove_65 : decode cm_X6_readMove 65 = .ok (.iconst 2, 1) := by decide +kernel
theorem d_X6_readMove_66 : decode cm_X6_readMove 66 = .ok (.putfield 105, 3) := by decide +kernel
theorem d_X6_readMove_69 : decode cm_X6_readMove 69 = .ok (.goto 39, 3) := by decide +kernel
theorem d_X6_readMove_72 : decode cm_X6_readMove 72 = .ok (.aload_n 0, 1) := by decide +kernel
theorem d_X6_readMove_73 : decode cm_X6_readMove 73 = .ok (.bipush 116, 2) := by decide +kernel
theorem d_X6_readMove_75 : decode cm_X6_readMove 75 = .ok (.invokevirtual 52, 3) := by decide +kernel
theorem d_X6_readMove_78 : decode cm_X6_readMove 78 = .ok (.ifCond .eq 11, 3) := by decide +kernel
theorem d_X6_readMove_81 : decode cm_X6_readMove 81 = .ok (.aload_n 1, 1) := by decide +kernel
theorem d_X6_readMove_82 : decode cm_X6_readMove 82 = .ok (.iconst 3, 1) := by decide +kernel
theorem d_X6_readMove_83 : decode cm_X6_readMove 83 = .ok (.putfield 105, 3) := by decide +kernel
theorem d_X6_readMove_86 : decode cm_X6_readMove 86 = .ok (.goto 22, 3) := by decide +kernel
theorem d_X6_readMove_89 : decode cm_X6_readMove 89 = .ok (.aload_n 0, 1) := by decide +kernel
theorem d_X6_readMove_90 : decode cm_X6_readMove 90 = .ok (.bipush 117, 2) := by decide +kernel
theorem d_X6_readMove_92 : decode cm_X6_readMove 92 = .ok (.invokevirtual 52, 3) := by decide +kernel
theorem d_X6_readMove_95 : decode cm_X6_readMove 95 = .ok (.ifCond .eq 11, 3) := by decide +kernel
theorem d_X6_readMove_98 : decode cm_X6_readMove 98 = .ok (.aload_n 1, 1) := by decide +kernel
theorem d_X6_readMove_99 : decode cm_X6_readMove 99 = .ok (.iconst 4, 1) := by decide +kernel
theorem d_X6_readMove_100 : decode cm_X6_readMove 100 = .ok (.putfield 105, 3) := by decide +kernel
theorem d_X6_readMove_103 : decode cm_X6_readMove 103 = .ok (.goto 5, 3) := by decide +kernel
theorem d_X6_readMove_106 : decode cm_X6_readMove 106 = .ok (.iconst 0, 1) := by decide +kernel
theorem d_X6_readMove_107 : decode cm_X6_readMove 107 = .ok (.ireturn, 1) := by decide +kernel
theorem d_X6_readMove_108 : decode cm_X6_readMove 108 = .ok (.aload_n 1, 1) := by decide +kernel
theorem d_X6_readMove_109 : decode cm_X6_readMove 109 = .ok (.aload_n 0, 1) := by decide +kernel
theorem d_X6_readMove_110 : decode cm_X6_readMove 110 = .ok (.bipush 111, 2) := by decide +kernel
theorem d_X6_readMove_112 : decode cm_X6_readMove 112 = .ok (.invokevirtual 52, 3) := by decide +kernel
theorem d_X6_readMove_115 : decode cm_X6_readMove 115 = .ok (.ifCond .eq 7, 3) := by decide +kernel
theorem d_X6_readMove_118 : decode cm_X6_readMove 118 = .ok (.iconst 1, 1) := by decide +kernel
theorem d_X6_readMove_119 : decode cm_X6_readMove 119 = .ok (.goto 30, 3) := by decide +kernel
theorem d_X6_readMove_122 : decode cm_X6_readMove 122 = .ok (.aload_n 0, 1) := by decide +kernel
theorem d_X6_readMove_123 : decode cm_X6_readMove 123 = .ok (.bipush 100, 2) := by decide +kernel
theorem d_X6_readMove_125 : decode cm_X6_readMove 125 = .ok (.invokevirtual 52, 3) := by decide +kernel
theorem d_X6_readMove_128 : decode cm_X6_readMove 128 = .ok (.ifCond .eq 7, 3) := by decide +kernel
theorem d_X6_readMove_131 : decode cm_X6_readMove 131 = .ok (.iconst 2, 1) := by decide +kernel
theorem d_X6_readMove_132 : decode cm_X6_readMove 132 = .ok (.goto 17, 3) := by decide +kernel
theorem d_X6_readMove_135 : decode cm_X6_readMove 135 = .ok (.aload_n 0, 1) := by decide +kernel
theorem d_X6_readMove_136 : decode cm_X6_readMove 136 = .ok (.bipush 113, 2) := by decide +kernel
theorem d_X6_readMove_138 : decode cm_X6_readMove 138 = .ok (.invokevirtual 52, 3) := by decide +kernel
theorem d_X6_readMove_141 : decode cm_X6_readMove 141 = .ok (.ifCond .eq 7, 3) := by decide +kernel
theorem d_X6_readMove_144 : decode cm_X6_readMove 144 = .ok (.iconst 3, 1) := by decide +kernel
theorem d_X6_readMove_145 : decode cm_X6_readMove 145 = .ok (.goto 4, 3) := by decide +kernel
theorem d_X6_readMove_148 : decode cm_X6_readMove 148 = .ok (.iconst 0, 1) := by decide +kernel
theorem d_X6_readMove_149 : decode cm_X6_readMove 149 = .ok (.putfield 108, 3) := by decide +kernel
theorem d_X6_readMove_152 : decode cm_X6_readMove 152 = .ok (.aload_n 1, 1) := by decide +kernel
theorem d_X6_readMove_153 : decode cm_X6_readMove 153 = .ok (.getfield 108, 3) := by decide +kernel
theorem d_X6_readMove_156 : decode cm_X6_readMove 156 = .ok (.ifCond .eq 7, 3) := by decide +kernel
theorem d_X6_readMove_159 : decode cm_X6_readMove 159 = .ok (.iconst 1, 1) := by decide +kernel
theorem d_X6_readMove_160 : decode cm_X6_readMove 160 = .ok (.goto 4, 3) := by decide +kernel
theorem d_X6_readMove_163 : decode cm_X6_readMove 163 = .ok (.iconst 0, 1) := by decide +kernel
theorem d_X6_readMove_164 : decode cm_X6_readMove 164 = .ok (.ireturn, 1) := by decide +kernel
def D_X6_readMove_149 (Q : Int32 → GSt → Prop) (r1 : Nat) (sr0 : Nat) (s1 : Int32) (σ : GSt) : Prop :=
  ∀ σ_1 : GSt, σ_1 = up2 σ sr0 1 s1 → (((σ_1 r1 1) = 0 → Q 0 σ_1) ∧
  (¬ (σ_1 r1 1) = 0 → Q 1 σ_1))
def D_X6_readMove_108 (Q : Int32 → GSt → Prop) (r1 : Nat) (σ : GSt) : Prop :=
  D_X6_takes 111 σ (fun r_1 σ_2 => (r_1 = 0 → D_X6_takes 100 σ_2 (fun r_3 σ_4 => (r_3 = 0 → D_X6_takes 113 σ_4 (fun r_5 σ_6 => (r_5 = 0 → D_X6_readMove_149 Q r1 r1 0 σ_6) ∧
  (¬ r_5 = 0 → D_X6_readMove_149 Q r1 r1 3 σ_6))) ∧
  (¬ r_3 = 0 → D_X6_readMove_149 Q r1 r1 2 σ_4))) ∧
  (¬ r_1 = 0 → D_X6_readMove_149 Q r1 r1 1 σ_2))
def D_X6_readMove_0 (Q : Int32 → GSt → Prop) (r1 : Nat) (σ : GSt) : Prop :=
  D_X6_takes 112 σ (fun r_1 σ_2 => (r_1 = 0 → D_X6_takes 115 σ_2 (fun r_3 σ_4 => (r_3 = 0 → D_X6_takes 104 σ_4 (fun r_5 σ_6 => (r_5 = 0 → D_X6_takes 116 σ_6 (fun r_7 σ_8 => (r_7 = 0 → D_X6_takes 117 σ_8 (fun r_9 σ_10 => (r_9 = 0 → Q 0 σ_10) ∧
  (¬ r_9 = 0 → ∀ σ_11 : GSt, σ_11 = up2 σ_10 r1 0 4 → (D_X6_readMove_108 Q r1 σ_11)))) ∧
  (¬ r_7 = 0 → ∀ σ_12 : GSt, σ_12 = up2 σ_8 r1 0 3 → (D_X6_readMove_108 Q r1 σ_12)))) ∧
  (¬ r_5 = 0 → ∀ σ_13 : GSt, σ_13 = up2 σ_6 r1 0 2 → (D_X6_readMove_108 Q r1 σ_13)))) ∧
  (¬ r_3 = 0 → ∀ σ_14 : GSt, σ_14 = up2 σ_4 r1 0 1 → (D_X6_readMove_108 Q r1 σ_14)))) ∧
  (¬ r_1 = 0 → ∀ σ_15 : GSt, σ_15 = up2 σ_2 r1 0 0 → (D_X6_digit 0 9 σ_15 (fun r_16 σ_17 => ∀ σ_18 : GSt, σ_18 = up2 σ_17 r1 1 r_16 → (((σ_18 r1 1) < 0 → Q 0 σ_18) ∧
  (¬ (σ_18 r1 1) < 0 → Q 1 σ_18))))))
def D_X6_readMove (r1 : Nat) (σ : GSt) (Q : Int32 → GSt → Prop) : Prop := D_X6_readMove_0 Q r1 σ
set_option maxRecDepth 20000 in
set_option maxHeartbeats 4000000 in
theorem s_X6_readMove_149 {p : Program} {l : Launch} {e : Env} {s : State} {m : MethodId} {args : Array Value} {below : List Frame} {meth : Method} {c : Code} {G : GC} (X : CallFix p m c cm_X6_readMove 2 s args lw_us "GameLoom$Reader") (hr : meth.sig.returnType = some .boolean) (hlk : meth.locks = false) (Q : Int32 → GSt → Prop) (r1 : Nat) (hk1 : kd r1 = 7) (sr0 : Nat) (hs0 : kd sr0 = 7) (s1 : Int32) (σ : GSt) {H : Heap} {locs : List Loc} {ls : Array Slot} (hw : Wo G s H locs σ) (hl : lv_has ls 2 [(0, .ref (G.2.1 5)), (1, .ref (G.2.1 r1))]) (hD : D_X6_readMove_149 Q r1 sr0 s1 σ) : W p l e rm_X6_readMove s m args below meth c H locs 0 0 (QMI G Q below args s) (F0 m 149 ls [.int s1, .ref (G.2.1 sr0)]) := by
  unfold D_X6_readMove_149 at hD
  refine pf_7_1 X hw hs0 tb_129 d_X6_readMove_149 (fun H locs hw => ?_)
  obtain ⟨σ_1, e_σ_1⟩ : ∃ z : GSt, z = up2 σ sr0 1 s1 := ⟨_, rfl⟩
  rw [← e_σ_1] at hw
  have hD := hD σ_1 e_σ_1
  refine lv_aload_n X.1 X.2.1 d_X6_readMove_152 rfl (lv_at hl 1 rfl) ?_
  refine gf_7_1 X hw hk1 tb_129 d_X6_readMove_153 ?_
  refine lv_if_eq (tgt := 163) X.1 X.2.1 d_X6_readMove_156 (by decide) (fun q_156 => ?_) (fun q_156 => ?_)
  · have hD := hD.1 q_156
    refine lv_iconst (v := 0) X.1 X.2.1 d_X6_readMove_163 (by decide) ?_
    exact g_zret X hr hlk hw (by decide) hD d_X6_readMove_164
  · have hD := hD.2 q_156
    refine lv_iconst (v := 1) X.1 X.2.1 d_X6_readMove_159 (by decide) ?_
    refine lv_goto (tgt := 164) X.1 X.2.1 d_X6_readMove_160 (by decide) ?_
    exact g_zret X hr hlk hw (by decide) hD d_X6_readMove_164
set_option maxRecDepth 20000 in
set_option maxHeartbeats 4000000 in
theorem s_X6_readMove_108 {p : Program} {l : Launch} {e : Env} {s : State} {m : MethodId} {args : Array Value} {below : List Frame} {meth : Method} {c : Code} {G : GC} (X : CallFix p m c cm_X6_readMove 2 s args lw_us "GameLoom$Reader") (hr : meth.sig.returnType = some .boolean) (hlk : meth.locks = false) (Q : Int32 → GSt → Prop) (r1 : Nat) (hk1 : kd r1 = 7) (σ : GSt) {H : Heap} {locs : List Loc} {ls : Array Slot} (hw : Wo G s H locs σ) (hl : lv_has ls 2 [(0, .ref (G.2.1 5)), (1, .ref (G.2.1 r1))]) (hD : D_X6_readMove_108 Q r1 σ) : W p l e rm_X6_readMove s m args below meth c H locs 0 0 (QMI G Q below args s) (F0 m 108 ls []) := by
  unfold D_X6_readMove_108 at hD
  refine lv_aload_n X.1 X.2.1 d_X6_readMove_108 rfl (lv_at hl 1 rfl) ?_
  refine lv_aload_n X.1 X.2.1 d_X6_readMove_109 rfl (lv_at hl 0 rfl) ?_
  refine lv_bipush (v := 111) X.1 X.2.1 d_X6_readMove_110 (by decide) ?_
  refine gcV_i (rest := [.ref (G.2.1 r1)]) (As := [.int 111]) (o := 5) X hw (c_X6_takes l G 111 σ _  hD) (kd_lt (by decide +kernel : kd 5 = 6) (by decide)) (ce_6 G _ (by decide +kernel : kd 5 = 6)) rfl tb_444 tb_446 tv_3 tb_3 tb_447 hd_X6_takes ⟨rfl, rfl⟩ ⟨Nat.le_of_ble_eq_true rfl, Nat.le_of_ble_eq_true rfl⟩ rfl hl.1 rfl (Nat.le_of_ble_eq_true rfl) d_X6_readMove_112 (fun r_1 σ_2 H locs hD hw => ?_)
  refine lv_if_eq (tgt := 122) X.1 X.2.1 d_X6_readMove_115 (by decide) (fun q_115 => ?_) (fun q_115 => ?_)
  · have hD := hD.1 q_115
    refine lv_aload_n X.1 X.2.1 d_X6_readMove_122 rfl (lv_at hl 0 rfl) ?_
    refine lv_bipush (v := 100) X.1 X.2.1 d_X6_readMove_123 (by decide) ?_
    refine gcV_i (rest := [.ref (G.2.1 r1)]) (As := [.int 100]) (o := 5) X hw (c_X6_takes l G 100 σ_2 _  hD) (kd_lt (by decide +kernel : kd 5 = 6) (by decide)) (ce_6 G _ (by decide +kernel : kd 5 = 6)) rfl tb_444 tb_446 tv_3 tb_3 tb_447 hd_X6_takes ⟨rfl, rfl⟩ ⟨Nat.le_of_ble_eq_true rfl, Nat.le_of_ble_eq_true rfl⟩ rfl hl.1 rfl (Nat.le_of_ble_eq_true rfl) d_X6_readMove_125 (fun r_3 σ_4 H locs hD hw => ?_)
    refine lv_if_eq (tgt := 135) X.1 X.2.1 d_X6_readMove_128 (by decide) (fun q_128 => ?_) (fun q_128 => ?_)
    · have hD := hD.1 q_128
      refine lv_aload_n X.1 X.2.1 d_X6_readMove_135 rfl (lv_at hl 0 rfl) ?_
      refine lv_bipush (v := 113) X.1 X.2.1 d_X6_readMove_136 (by decide) ?_
      refine gcV_i (rest := [.ref (G.2.1 r1)]) (As := [.int 113]) (o := 5) X hw (c_X6_takes l G 113 σ_4 _  hD) (kd_lt (by decide +kernel : kd 5 = 6) (by decide)) (ce_6 G _ (by decide +kernel : kd 5 = 6)) rfl tb_444 tb_446 tv_3 tb_3 tb_447 hd_X6_takes ⟨rfl, rfl⟩ ⟨Nat.le_of_ble_eq_true rfl, Nat.le_of_ble_eq_true rfl⟩ rfl hl.1 rfl (Nat.le_of_ble_eq_true rfl) d_X6_readMove_138 (fun r_5 σ_6 H locs hD hw => ?_)
      refine lv_if_eq (tgt := 148) X.1 X.2.1 d_X6_readMove_141 (by decide) (fun q_141 => ?_) (fun q_141 => ?_)
      · have hD := hD.1 q_141
        refine lv_iconst (v := 0) X.1 X.2.1 d_X6_readMove_148 (by decide) ?_
        exact s_X6_readMove_149 X hr hlk  Q  r1 hk1 r1 hk1 0 σ_6 hw (lv_sub hl [0, 1] rfl) hD
      · have hD := hD.2 q_141
        refine lv_iconst (v := 3) X.1 X.2.1 d_X6_readMove_144 (by decide) ?_
        refine lv_goto (tgt := 149) X.1 X.2.1 d_X6_readMove_145 (by decide) ?_
        exact s_X6_readMove_149 X hr hlk  Q  r1 hk1 r1 hk1 3 σ_6 hw (lv_sub hl [0, 1] rfl) hD
    · have hD := hD.2 q_128
      refine lv_iconst (v := 2) X.1 X.2.1 d_X6_readMove_131 (by decide) ?_
      refine lv_goto (tgt := 149) X.1 X.2.1 d_X6_readMove_132 (by decide) ?_
      exact s_X6_readMove_149 X hr hlk  Q  r1 hk1 r1 hk1 2 σ_4 hw (lv_sub hl [0, 1] rfl) hD
  · have hD := hD.2 q_115
    refine lv_iconst (v := 1) X.1 X.2.1 d_X6_readMove_118 (by decide) ?_
    refine lv_goto (tgt := 149) X.1 X.2.1 d_X6_readMove_119 (by decide) ?_
    exact s_X6_readMove_149 X hr hlk  Q  r1 hk1 r1 hk1 1 σ_2 hw (lv_sub hl [0, 1] rfl) hD
set_option maxRecDepth 20000 in
set_option maxHeartbeats 4000000 in
theorem s_X6_readMove_0 {p : Program} {l : Launch} {e : Env} {s : State} {m : MethodId} {args : Array Value} {below : List Frame} {meth : Method} {c : Code} {G : GC} (X : CallFix p m c cm_X6_readMove 2 s args lw_us "GameLoom$Reader") (hr : meth.sig.returnType = some .boolean) (hlk : meth.locks = false) (Q : Int32 → GSt → Prop) (r1 : Nat) (hk1 : kd r1 = 7) (σ : GSt) {H : Heap} {locs : List Loc} {ls : Array Slot} (hw : Wo G s H locs σ) (hl : lv_has ls 2 [(0, .ref (G.2.1 5)), (1, .ref (G.2.1 r1))]) (hD : D_X6_readMove_0 Q r1 σ) : W p l e rm_X6_readMove s m args below meth c H locs 0 0 (QMI G Q below args s) (F0 m 0 ls []) := by
  unfold D_X6_readMove_0 at hD
  refine lv_aload_n X.1 X.2.1 d_X6_readMove_0 rfl (lv_at hl 0 rfl) ?_
  refine lv_bipush (v := 112) X.1 X.2.1 d_X6_readMove_1 (by decide) ?_
  refine gcV_i (rest := []) (As := [.int 112]) (o := 5) X hw (c_X6_takes l G 112 σ _  hD) (kd_lt (by decide +kernel : kd 5 = 6) (by decide)) (ce_6 G _ (by decide +kernel : kd 5 = 6)) rfl tb_444 tb_446 tv_3 tb_3 tb_447 hd_X6_takes ⟨rfl, rfl⟩ ⟨Nat.le_of_ble_eq_true rfl, Nat.le_of_ble_eq_true rfl⟩ rfl hl.1 rfl (Nat.le_of_ble_eq_true rfl) d_X6_readMove_3 (fun r_1 σ_2 H locs hD hw => ?_)
  refine lv_if_eq (tgt := 38) X.1 X.2.1 d_X6_readMove_6 (by decide) (fun q_6 => ?_) (fun q_6 => ?_)
  · have hD := hD.1 q_6
    refine lv_aload_n X.1 X.2.1 d_X6_readMove_38 rfl (lv_at hl 0 rfl) ?_
    refine lv_bipush (v := 115) X.1 X.2.1 d_X6_readMove_39 (by decide) ?_
    refine gcV_i (rest := []) (As := [.int 115]) (o := 5) X hw (c_X6_takes l G 115 σ_2 _  hD) (kd_lt (by decide +kernel : kd 5 = 6) (by decide)) (ce_6 G _ (by decide +kernel : kd 5 = 6)) rfl tb_444 tb_446 tv_3 tb_3 tb_447 hd_X6_takes ⟨rfl, rfl⟩ ⟨Nat.le_of_ble_eq_true rfl, Nat.le_of_ble_eq_true rfl⟩ rfl hl.1 rfl (Nat.le_of_ble_eq_true rfl) d_X6_readMove_41 (fun r_3 σ_4 H locs hD hw => ?_)
    refine lv_if_eq (tgt := 55) X.1 X.2.1 d_X6_readMove_44 (by decide) (fun q_44 => ?_) (fun q_44 => ?_)
    · have hD := hD.1 q_44
      refine lv_aload_n X.1 X.2.1 d_X6_readMove_55 rfl (lv_at hl 0 rfl) ?_
      refine lv_bipush (v := 104) X.1 X.2.1 d_X6_readMove_56 (by decide) ?_
      refine gcV_i (rest := []) (As := [.int 104]) (o := 5) X hw (c_X6_takes l G 104 σ_4 _  hD) (kd_lt (by decide +kernel : kd 5 = 6) (by decide)) (ce_6 G _ (by decide +kernel : kd 5 = 6)) rfl tb_444 tb_446 tv_3 tb_3 tb_447 hd_X6_takes ⟨rfl, rfl⟩ ⟨Nat.le_of_ble_eq_true rfl, Nat.le_of_ble_eq_true rfl⟩ rfl hl.1 rfl (Nat.le_of_ble_eq_true rfl) d_X6_readMove_58 (fun r_5 σ_6 H locs hD hw => ?_)
      refine lv_if_eq (tgt := 72) X.1 X.2.1 d_X6_readMove_61 (by decide) (fun q_61 => ?_) (fun q_61 => ?_)
      · have hD := hD.1 q_61
        refine lv_aload_n X.1 X.2.1 d_X6_readMove_72 rfl (lv_at hl 0 rfl) ?_
        refine lv_bipush (v := 116) X.1 X.2.1 d_X6_readMove_73 (by decide) ?_
        refine gcV_i (rest := []) (As := [.int 116]) (o := 5) X hw (c_X6_takes l G 116 σ_6 _  hD) (kd_lt (by decide +kernel : kd 5 = 6) (by decide)) (ce_6 G _ (by decide +kernel : kd 5 = 6)) rfl tb_444 tb_446 tv_3 tb_3 tb_447 hd_X6_takes ⟨rfl, rfl⟩ ⟨Nat.le_of_ble_eq_true rfl, Nat.le_of_ble_eq_true rfl⟩ rfl hl.1 rfl (Nat.le_of_ble_eq_true rfl) d_X6_readMove_75 (fun r_7 σ_8 H locs hD hw => ?_)
        refine lv_if_eq (tgt := 89) X.1 X.2.1 d_X6_readMove_78 (by decide) (fun q_78 => ?_) (fun q_78 => ?_)
        · have hD := hD.1 q_78
          refine lv_aload_n X.1 X.2.1 d_X6_readMove_89 rfl (lv_at hl 0 rfl) ?_
          refine lv_bipush (v := 117) X.1 X.2.1 d_X6_readMove_90 (by decide) ?_
          refine gcV_i (rest := []) (As := [.int 117]) (o := 5) X hw (c_X6_takes l G 117 σ_8 _  hD) (kd_lt (by decide +kernel : kd 5 = 6) (by decide)) (ce_6 G _ (by decide +kernel : kd 5 = 6)) rfl tb_444 tb_446 tv_3 tb_3 tb_447 hd_X6_takes ⟨rfl, rfl⟩ ⟨Nat.le_of_ble_eq_true rfl, Nat.le_of_ble_eq_true rfl⟩ rfl hl.1 rfl (Nat.le_of_ble_eq_true rfl) d_X6_readMove_92 (fun r_9 σ_10 H locs hD hw => ?_)
          refine lv_if_eq (tgt := 106) X.1 X.2.1 d_X6_readMove_95 (by decide) (fun q_95 => ?_) (fun q_95 => ?_)
          · have hD := hD.1 q_95
            refine lv_iconst (v := 0) X.1 X.2.1 d_X6_readMove_106 (by decide) ?_
            exact g_zret X hr hlk hw (by decide) hD d_X6_readMove_107
          · have hD := hD.2 q_95
            refine lv_aload_n X.1 X.2.1 d_X6_readMove_98 rfl (lv_at hl 1 rfl) ?_
            refine lv_iconst (v := 4) X.1 X.2.1 d_X6_readMove_99 (by decide) ?_
            refine pf_7_0 X hw hk1 tb_127 d_X6_readMove_100 (fun H locs hw => ?_)
            obtain ⟨σ_11, e_σ_11⟩ : ∃ z : GSt, z = up2 σ_10 r1 0 4 := ⟨_, rfl⟩
            rw [← e_σ_11] at hw
            have hD := hD σ_11 e_σ_11
            refine lv_goto (tgt := 108) X.1 X.2.1 d_X6_readMove_103 (by decide) ?_
            exact s_X6_readMove_108 X hr hlk  Q  r1 hk1 σ_11 hw (lv_sub hl [0, 1] rfl) hD
        · have hD := hD.2 q_78
          refine lv_aload_n X.1 X.2.1 d_X6_readMove_81 rfl (lv_at hl 1 rfl) ?_
          refine lv_iconst (v := 3) X.1 X.2.1 d_X6_readMove_82 (by decide) ?_
          refine pf_7_0 X hw hk1 tb_127 d_X6_readMove_83 (fun H locs hw => ?_)
          obtain ⟨σ_12, e_σ_12⟩ : ∃ z : GSt, z = up2 σ_8 r1 0 3 := ⟨_, rfl⟩
          rw [← e_σ_12] at hw
          have hD := hD σ_12 e_σ_12
          refine lv_goto (tgt := 108) X.1 X.2.1 d_X6_readMove_86 (by decide) ?_
          exact s_X6_readMove_108 X hr hlk  Q  r1 hk1 σ_12 hw (lv_sub hl [0, 1] rfl) hD
      · have hD := hD.2 q_61
        refine lv_aload_n X.1 X.2.1 d_X6_readMove_64 rfl (lv_at hl 1 rfl) ?_
        refine lv_iconst (v := 2) X.1 X.2.1 d_X6_readMove_65 (by decide) ?_
        refine pf_7_0 X hw hk1 tb_127 d_X6_readMove_66 (fun H locs hw => ?_)
        obtain ⟨σ_13, e_σ_13⟩ : ∃ z : GSt, z = up2 σ_6 r1 0 2 := ⟨_, rfl⟩
        rw [← e_σ_13] at hw
        have hD := hD σ_13 e_σ_13
        refine lv_goto (tgt := 108) X.1 X.2.1 d_X6_readMove_69 (by decide) ?_
        exact s_X6_readMove_108 X hr hlk  Q  r1 hk1 σ_13 hw (lv_sub hl [0, 1] rfl) hD
    · have hD := hD.2 q_44
      refine lv_aload_n X.1 X.2.1 d_X6_readMove_47 rfl (lv_at hl 1 rfl) ?_
      refine lv_iconst (v := 1) X.1 X.2.1 d_X6_readMove_48 (by decide) ?_
      refine pf_7_0 X hw hk1 tb_127 d_X6_readMove_49 (fun H locs hw => ?_)
      obtain ⟨σ_14, e_σ_14⟩ : ∃ z : GSt, z = up2 σ_4 r1 0 1 := ⟨_, rfl⟩
      rw [← e_σ_14] at hw
      have hD := hD σ_14 e_σ_14
      refine lv_goto (tgt := 108) X.1 X.2.1 d_X6_readMove_52 (by decide) ?_
      exact s_X6_readMove_108 X hr hlk  Q  r1 hk1 σ_14 hw (lv_sub hl [0, 1] rfl) hD
  · have hD := hD.2 q_6
    refine lv_aload_n X.1 X.2.1 d_X6_readMove_9 rfl (lv_at hl 1 rfl) ?_
    refine lv_iconst (v := 0) X.1 X.2.1 d_X6_readMove_10 (by decide) ?_
    refine pf_7_0 X hw hk1 tb_127 d_X6_readMove_11 (fun H locs hw => ?_)
    obtain ⟨σ_15, e_σ_15⟩ : ∃ z : GSt, z = up2 σ_2 r1 0 0 := ⟨_, rfl⟩
    rw [← e_σ_15] at hw
    have hD := hD σ_15 e_σ_15
    refine lv_aload_n X.1 X.2.1 d_X6_readMove_14 rfl (lv_at hl 1 rfl) ?_
    refine lv_aload_n X.1 X.2.1 d_X6_readMove_15 rfl (lv_at hl 0 rfl) ?_
    refine lv_iconst (v := 0) X.1 X.2.1 d_X6_readMove_16 (by decide) ?_
    refine lv_bipush (v := 9) X.1 X.2.1 d_X6_readMove_17 (by decide) ?_
    refine gcV_i (rest := [.ref (G.2.1 r1)]) (As := [.int 0, .int 9]) (o := 5) X hw (c_X6_digit l G 0 9 σ_15 _  hD) (kd_lt (by decide +kernel : kd 5 = 6) (by decide)) (ce_6 G _ (by decide +kernel : kd 5 = 6)) rfl tb_452 tb_454 tv_4 tb_3 tb_455 hd_X6_digit ⟨rfl, rfl⟩ ⟨Nat.le_of_ble_eq_true rfl, Nat.le_of_ble_eq_true rfl⟩ rfl hl.1 rfl (Nat.le_of_ble_eq_true rfl) d_X6_readMove_19 (fun r_16 σ_17 H locs hD hw => ?_)
    refine pf_7_1 X hw hk1 tb_129 d_X6_readMove_22 (fun H locs hw => ?_)
    obtain ⟨σ_18, e_σ_18⟩ : ∃ z : GSt, z = up2 σ_17 r1 1 r_16 := ⟨_, rfl⟩
    rw [← e_σ_18] at hw
    have hD := hD σ_18 e_σ_18
    refine lv_aload_n X.1 X.2.1 d_X6_readMove_25 rfl (lv_at hl 1 rfl) ?_
    refine gf_7_1 X hw hk1 tb_129 d_X6_readMove_26 ?_
    refine lv_if_lt (tgt := 36) X.1 X.2.1 d_X6_readMove_29 (by decide) (fun q_29 => ?_) (fun q_29 => ?_)
    · have hD := hD.1 q_29
      refine lv_iconst (v := 0) X.1 X.2.1 d_X6_readMove_36 (by decide) ?_
      exact g_zret X hr hlk hw (by decide) hD d_X6_readMove_37
    · have hD := hD.2 q_29
      refine lv_iconst (v := 1) X.1 X.2.1 d_X6_readMove_32 (by decide) ?_
      refine lv_goto (tgt := 37) X.1 X.2.1 d_X6_readMove_33 (by decide) ?_
      exact g_zret X hr hlk hw (by decide) hD d_X6_readMove_37
theorem c_X6_readMove (l : Launch) (G : GC) (r1 : Nat) (σ : GSt) (Q : Int32 → GSt → Prop) (hr1 : kd r1 = 7) (hD : D_X6_readMove r1 σ Q) : MI l ym_X6_readMove cm_X6_readMove 2 .boolean rm_X6_readMove G σ [.ref (G.2.1 5), .ref (G.2.1 r1)] Q := by
  refine met_i (by decide) (Nat.le_of_ble_eq_true rfl) ?_
  intro p e s m args below meth c X hr hlk hw ls hl
  exact s_X6_readMove_0 X hr hlk Q  r1 hr1 σ hw (lv_sub hl [0, 1] rfl) hD
theorem hd_X6_readMoves : ym_X6_readMoves.cls = "GameLoom$Reader" ∧ ym_X6_readMoves.cls ≠ "java/lang/invoke/MethodHandle" ∧ ym_X6_readMoves.cls ≠ "java/lang/invoke/VarHandle" ∧ (parseMethodDescriptor ym_X6_readMoves.desc).map (fun d => d.parameters.length) = some 0 := by decide +kernel
abbrev rm_X6_readMoves : Room := { frames := 3, cells := 0, slots := 0, locals := 65 }
theorem d_X6_readMoves_0 : decode cm_X6_readMoves 0 = .ok (.aload_n 0, 1) := by decide +kernel
theorem d_X6_readMoves_1 : decode cm_X6_readMoves 1 = .ok (.getfield 15, 3) := by decide +kernel
theorem d_X6_readMoves_4 : decode cm_X6_readMoves 4 = .ok (.aload_n 0, 1) := by decide +kernel
theorem d_X6_readMoves_5 : decode cm_X6_readMoves 5 = .ok (.getfield 19, 3) := by decide +kernel
theorem d_X6_readMoves_8 : decode cm_X6_readMoves 8 = .ok (.putfield 79, 3) := by decide +kernel
theorem d_X6_readMoves_11 : decode cm_X6_readMoves 11 = .ok (.aload_n 0, 1) := by decide +kernel
theorem d_X6_readMoves_12 : decode cm_X6_readMoves 12 = .ok (.getfield 15, 3) := by decide +kernel
theorem d_X6_readMoves_15 : decode cm_X6_readMoves 15 = .ok (.iconst 0, 1) := by decide +kernel
theorem d_X6_readMoves_16 : decode cm_X6_readMoves 16 = .ok (.putfield 82, 3) := by decide +kernel
theorem d_X6_readMoves_19 : decode cm_X6_readMoves 19 = .ok (.iconst 0, 1) := by decide +kernel
theorem d_X6_readMoves_20 : decode cm_X6_readMoves 20 = .ok (.istore_n 1, 1) := by decide +kernel
theorem d_X6_readMoves_21 : decode cm_X6_readMoves 21 = .ok (.iload_n 1, 1) := by decide +kernel
theorem d_X6_readMoves_22 : decode cm_X6_readMoves 22 = .ok (.bipush 6, 2) := by decide +kernel
theorem d_X6_readMoves_24 : decode cm_X6_readMoves 24 = .ok (.if_icmp .ge 87, 3) := by decide +kernel
theorem d_X6_readMoves_27 : decode cm_X6_readMoves 27 = .ok (.aload_n 0, 1) := by decide +kernel
theorem d_X6_readMoves_28 : decode cm_X6_readMoves 28 = .ok (.getfield 15, 3) := by decide +kernel
theorem d_X6_readMoves_31 : decode cm_X6_readMoves 31 = .ok (.getfield 85, 3) := by decide +kernel
theorem d_X6_readMoves_34 : decode cm_X6_readMoves 34 = .ok (.iload_n 1, 1) := by decide +kernel
theorem d_X6_readMoves_35 : decode cm_X6_readMoves 35 = .ok (.aaload, 1) := by decide +kernel
theorem d_X6_readMoves_36 : decode cm_X6_readMoves 36 = .ok (.astore_n 2, 1) := by decide +kernel
theorem d_X6_readMoves_37 : decode cm_X6_readMoves 37 = .ok (.aload_n 2, 1) := by decide +kernel
theorem d_X6_readMoves_38 : decode cm_X6_readMoves 38 = .ok (.aload_n 0, 1) := by decide +kernel
theorem d_X6_readMoves_39 : decode cm_X6_readMoves 39 = .ok (.getfield 19, 3) := by decide +kernel
theorem d_X6_readMoves_42 : decode cm_X6_readMoves 42 = .ok (.putfield 89, 3) := by decide +kernel
theorem d_X6_readMoves_45 : decode cm_X6_readMoves 45 = .ok (.aload_n 0, 1) := by decide +kernel
theorem d_X6_readMoves_46 : decode cm_X6_readMoves 46 = .ok (.aload_n 2, 1) := by decide +kernel
theorem d_X6_readMoves_47 : decode cm_X6_readMoves 47 = .ok (.invokevirtual 94, 3) := by decide +kernel
theorem d_X6_readMoves_50 : decode cm_X6_readMoves 50 = .ok (.ifCond .ne 5, 3) := by decide +kernel
theorem d_X6_readMoves_53 : decode cm_X6_readMoves 53 = .ok (.iconst 0, 1) := by decide +kernel
theorem d_X6_readMoves_54 : decode cm_X6_readMoves 54 = .ok (.ireturn, 1) := by decide +kernel
theorem d_X6_readMoves_55 : decode cm_X6_readMoves 55 = .ok (.aload_n 2, 1) := by decide +kernel
theorem d_X6_readMoves_56 : decode cm_X6_readMoves 56 = .ok (.aload_n 0, 1) := by decide +kernel
theorem d_X6_readMoves_57 : decode cm_X6_readMoves 57 = .ok (.bipush 33, 2) := by decide +kernel
theorem d_X6_readMoves_59 : decode cm_X6_readMoves 59 = .ok (.invokevirtual 52, 3) := by decide +kernel
theorem d_X6_readMoves_62 : decode cm_X6_readMoves 62 = .ok (.putfield 98, 3) := by decide +kernel
theorem d_X6_readMoves_65 : decode cm_X6_readMoves 65 = .ok (.aload_n 2, 1) := by decide +kernel
theorem d_X6_readMoves_66 : decode cm_X6_readMoves 66 = .ok (.aload_n 0, 1) := by decide +kernel
theorem d_X6_readMoves_67 : decode cm_X6_readMoves 67 = .ok (.getfield 19, 3) := by decide +kernel
theorem d_X6_readMoves_70 : decode cm_X6_readMoves 70 = .ok (.putfield 102, 3) := by decide +kernel
theorem d_X6_readMoves_73 : decode cm_X6_readMoves 73 = .ok (.aload_n 0, 1) := by decide +kernel
theorem d_X6_readMoves_74 : decode cm_X6_readMoves 74 = .ok (.getfield 15, 3) := by decide +kernel
theorem d_X6_readMoves_77 : decode cm_X6_readMoves 77 = .ok (.iload_n 1, 1) := by decide +kernel
theorem d_X6_readMoves_78 : decode cm_X6_readMoves 78 = .ok (.iconst 1, 1) := by decide +kernel
theorem d_X6_readMoves_79 : decode cm_X6_readMoves 79 = .ok (.iadd, 1) := by decide +kernel
theorem d_X6_readMoves_80 : decode cm_X6_readMoves 80 = .ok (.putfield 82, 3) := by decide +kernel
theorem d_X6_readMoves_83 : decode cm_X6_readMoves 83 = .ok (.aload_n 0, 1) := by decide +kernel
theorem d_X6_readMoves_84 : decode cm_X6_readMoves 84 = .ok (.bipush 59, 2) := by decide +kernel
theorem d_X6_readMoves_86 : decode cm_X6_readMoves 86 = .ok (.invokevirtual 52, 3) := by decide +kernel
theorem d_X6_readMoves_89 : decode cm_X6_readMoves 89 = .ok (.ifCond .eq 5, 3) := by decide +kernel
theorem d_X6_readMoves_92 : decode cm_X6_readMoves 92 = .ok (.iconst 1, 1) := by decide +kernel
theorem d_X6_readMoves_93 : decode cm_X6_readMoves 93 = .ok (.ireturn, 1) := by decide +kernel
theorem d_X6_readMoves_94 : decode cm_X6_readMoves 94 = .ok (.aload_n 0, 1) := by decide +kernel
theorem d_X6_readMoves_95 : decode cm_X6_readMoves 95 = .ok (.bipush 44, 2) := by decide +kernel
theorem d_X6_readMoves_97 : decode cm_X6_readMoves 97 = .ok (.invokevirtual 52, 3) := by decide +kernel
theorem d_X6_readMoves_100 : decode cm_X6_readMoves 100 = .ok (.ifCond .ne 5, 3) := by decide +kernel
theorem d_X6_readMoves_103 : decode cm_X6_readMoves 103 = .ok (.iconst 0, 1) := by decide +kernel
theorem d_X6_readMoves_104 : decode cm_X6_readMoves 104 = .ok (.ireturn, 1) := by decide +kernel
theorem d_X6_readMoves_105 : decode cm_X6_readMoves 105 = .ok (.iinc 1 1, 3) := by decide +kernel
theorem d_X6_readMoves_108 : decode cm_X6_readMoves 108 = .ok (.goto (-87), 3) := by decide +kernel
theorem d_X6_readMoves_111 : decode cm_X6_readMoves 111 = .ok (.iconst 0, 1) := by decide +kernel
theorem d_X6_readMoves_112 : decode cm_X6_readMoves 112 = .ok (.ireturn, 1) := by decide +kernel
def D_X6_readMoves_21 (K21 : Int32 → GSt → Prop) (Q : Int32 → GSt → Prop) (x1 : Int32) (σ : GSt) : Prop :=
  (6 ≤ x1 → Q 0 σ) ∧
  (¬ 6 ≤ x1 → (¬ σ 5 1 < 0 ∧ kd (σ 5 1).toNatClampNeg = 1) ∧ (vp_in x1 6 ∧ (∀ σ_1 : GSt, σ_1 = up2 σ ((((σ 5 1).toNatClampNeg) + 8) + 2 + 2 * Int32.toNatClampNeg x1) 4 (σ 5 2) → (D_X6_readMove ((((σ 5 1).toNatClampNeg) + 8) + 2 + 2 * Int32.toNatClampNeg x1) σ_1 (fun r_2 σ_3 => (¬ r_2 = 0 → D_X6_takes 33 σ_3 (fun r_4 σ_5 => (r_4 = 0 ∨ r_4 = 1) ∧ (∀ σ_6 : GSt, σ_6 = up2 σ_5 ((((σ 5 1).toNatClampNeg) + 8) + 2 + 2 * Int32.toNatClampNeg x1) 3 r_4 → (∀ σ_7 : GSt, σ_7 = up2 σ_6 ((((σ 5 1).toNatClampNeg) + 8) + 2 + 2 * Int32.toNatClampNeg x1) 5 (σ_6 5 2) → ((¬ σ_7 5 1 < 0 ∧ kd (σ_7 5 1).toNatClampNeg = 1) ∧ (∀ σ_8 : GSt, σ_8 = up2 σ_7 ((σ_7 5 1).toNatClampNeg) 5 (x1 + 1) → (D_X6_takes 59 σ_8 (fun r_9 σ_10 => (r_9 = 0 → D_X6_takes 44 σ_10 (fun r_11 σ_12 => (¬ r_11 = 0 → ∀ x1_13 : Int32, x1_13 = x1 + 1 → (K21 x1_13 σ_12)) ∧
  (r_11 = 0 → Q 0 σ_12))) ∧
  (¬ r_9 = 0 → Q 1 σ_10))))))))) ∧
  (r_2 = 0 → Q 0 σ_3))))))
def L_X6_readMoves_21 (Q : Int32 → GSt → Prop) : Nat → Int32 → GSt → Prop
  | 0 => fun _ _ => False
  | n + 1 => fun x1 σ => D_X6_readMoves_21 (L_X6_readMoves_21 Q n) Q x1 σ
def D_X6_readMoves_0 (Q : Int32 → GSt → Prop) (σ : GSt) : Prop :=
  (¬ σ 5 1 < 0 ∧ kd (σ 5 1).toNatClampNeg = 1) ∧ (∀ σ_1 : GSt, σ_1 = up2 σ ((σ 5 1).toNatClampNeg) 8 (σ 5 2) → ((¬ σ_1 5 1 < 0 ∧ kd (σ_1 5 1).toNatClampNeg = 1) ∧ (∀ σ_2 : GSt, σ_2 = up2 σ_1 ((σ_1 5 1).toNatClampNeg) 5 0 → (∃ n : Nat, L_X6_readMoves_21 Q n 0 σ_2))))
def D_X6_readMoves (σ : GSt) (Q : Int32 → GSt → Prop) : Prop := D_X6_readMoves_0 Q σ
set_option maxRecDepth 20000 in
set_option maxHeartbeats 4000000 in
theorem s_X6_readMoves_21 {p : Program} {l : Launch} {e : Env} {s : State} {m : MethodId} {args : Array Value} {below : List Frame} {meth : Method} {c : Code} {G : GC} (X : CallFix p m c cm_X6_readMoves 3 s args lw_us "GameLoom$Reader") (hr : meth.sig.returnType = some .boolean) (hlk : meth.locks = false) (K21 : Int32 → GSt → Prop) (Q : Int32 → GSt → Prop) (hK21 : ∀ (x1 : Int32) (σ : GSt) (H : Heap) (locs : List Loc) (ls : Array Slot), Wo G s H locs σ → lv_has ls 3 [(0, .ref (G.2.1 5)), (1, .int x1)] → K21 x1 σ → W p l e rm_X6_readMoves s m args below meth c H locs 0 0 (QMI G Q below args s) (F0 m 21 ls [])) (x1 : Int32) (σ : GSt) {H : Heap} {locs : List Loc} {ls : Array Slot} (hw : Wo G s H locs σ) (hl : lv_has ls 3 [(0, .ref (G.2.1 5)), (1, .int x1)]) (hD : D_X6_readMoves_21 K21 Q x1 σ) : W p l e rm_X6_readMoves s m args below meth c H locs 0 0 (QMI G Q below args s) (F0 m 21 ls []) := by
  unfold D_X6_readMoves_21 at hD
  refine lv_iload_n X.1 X.2.1 d_X6_readMoves_21 rfl (lv_at hl 1 rfl) ?_
  refine lv_bipush (v := 6) X.1 X.2.1 d_X6_readMoves_22 (by decide) ?_
  refine lv_icmp_ge (tgt := 111) X.1 X.2.1 d_X6_readMoves_24 (by decide) (fun q_24 => ?_) (fun q_24 => ?_)
  · have hD := hD.1 q_24
    refine lv_iconst (v := 0) X.1 X.2.1 d_X6_readMoves_111 (by decide) ?_
    exact g_zret X hr hlk hw (by decide) hD d_X6_readMoves_112
  · have hD := hD.2 q_24
    refine lv_aload_n X.1 X.2.1 d_X6_readMoves_27 rfl (lv_at hl 0 rfl) ?_
    obtain ⟨q_28, hD⟩ := hD
    refine gf_6_1 X hw (by decide +kernel : kd 5 = 6) tb_49 q_28.1 d_X6_readMoves_28 ?_
    refine gf_1_4 X hw q_28.2 tb_164 d_X6_readMoves_31 ?_
    refine lv_iload_n X.1 X.2.1 d_X6_readMoves_34 rfl (lv_at hl 1 rfl) ?_
    obtain ⟨q_35, hD⟩ := hD
    refine g_aald15 X hw (ly_1_4 q_28.2).1 q_35 d_X6_readMoves_35 ?_
    refine lv_astore_n (lv' := [(2, .ref (G.2.1 ((((σ 5 1).toNatClampNeg) + 8) + 2 + 2 * Int32.toNatClampNeg x1))), (0, .ref (G.2.1 5)), (1, .int x1)]) X.1 X.2.1 d_X6_readMoves_36 rfl hl (by decide) rfl (fun ls hl => ?_)
    refine lv_aload_n X.1 X.2.1 d_X6_readMoves_37 rfl (lv_at hl 0 rfl) ?_
    refine lv_aload_n X.1 X.2.1 d_X6_readMoves_38 rfl (lv_at hl 1 rfl) ?_
    refine gf_6_2 X hw (by decide +kernel : kd 5 = 6) tb_50 d_X6_readMoves_39 ?_
    refine pf_7_4 X hw (le_15 (ly_1_4 q_28.2).1 q_35) tb_136 d_X6_readMoves_42 (fun H locs hw => ?_)
    obtain ⟨σ_1, e_σ_1⟩ : ∃ z : GSt, z = up2 σ ((((σ 5 1).toNatClampNeg) + 8) + 2 + 2 * Int32.toNatClampNeg x1) 4 (σ 5 2) := ⟨_, rfl⟩
    rw [← e_σ_1] at hw
    have hD := hD σ_1 e_σ_1
    refine lv_aload_n X.1 X.2.1 d_X6_readMoves_45 rfl (lv_at hl 1 rfl) ?_
    refine lv_aload_n X.1 X.2.1 d_X6_readMoves_46 rfl (lv_at hl 0 rfl) ?_
    refine gcV_i (rest := []) (As := [.ref (G.2.1 ((((σ 5 1).toNatClampNeg) + 8) + 2 + 2 * Int32.toNatClampNeg x1))]) (o := 5) X hw (c_X6_readMove l G ((((σ 5 1).toNatClampNeg) + 8) + 2 + 2 * Int32.toNatClampNeg x1) σ_1 _ (le_15 (ly_1_4 q_28.2).1 q_35) hD) (kd_lt (by decide +kernel : kd 5 = 6) (by decide)) (ce_6 G _ (by decide +kernel : kd 5 = 6)) rfl tb_492 tb_494 tv_12 tb_3 tb_495 hd_X6_readMove ⟨rfl, rfl⟩ ⟨Nat.le_of_ble_eq_true rfl, Nat.le_of_ble_eq_true rfl⟩ rfl hl.1 rfl (Nat.le_of_ble_eq_true rfl) d_X6_readMoves_47 (fun r_2 σ_3 H locs hD hw => ?_)
    refine lv_if_ne (tgt := 55) X.1 X.2.1 d_X6_readMoves_50 (by decide) (fun q_50 => ?_) (fun q_50 => ?_)
    · have hD := hD.1 q_50
      refine lv_aload_n X.1 X.2.1 d_X6_readMoves_55 rfl (lv_at hl 0 rfl) ?_
      refine lv_aload_n X.1 X.2.1 d_X6_readMoves_56 rfl (lv_at hl 1 rfl) ?_
      refine lv_bipush (v := 33) X.1 X.2.1 d_X6_readMoves_57 (by decide) ?_
      refine gcV_i (rest := [.ref (G.2.1 ((((σ 5 1).toNatClampNeg) + 8) + 2 + 2 * Int32.toNatClampNeg x1))]) (As := [.int 33]) (o := 5) X hw (c_X6_takes l G 33 σ_3 _  hD) (kd_lt (by decide +kernel : kd 5 = 6) (by decide)) (ce_6 G _ (by decide +kernel : kd 5 = 6)) rfl tb_444 tb_446 tv_3 tb_3 tb_447 hd_X6_takes ⟨rfl, rfl⟩ ⟨Nat.le_of_ble_eq_true rfl, Nat.le_of_ble_eq_true rfl⟩ rfl hl.1 rfl (Nat.le_of_ble_eq_true rfl) d_X6_readMoves_59 (fun r_4 σ_5 H locs hD hw => ?_)
      obtain ⟨q_62, hD⟩ := hD
      refine pf_7_3 X hw (le_15 (ly_1_4 q_28.2).1 q_35) tb_134 q_62 d_X6_readMoves_62 (fun H locs hw => ?_)
      obtain ⟨σ_6, e_σ_6⟩ : ∃ z : GSt, z = up2 σ_5 ((((σ 5 1).toNatClampNeg) + 8) + 2 + 2 * Int32.toNatClampNeg x1) 3 r_4 := ⟨_, rfl⟩
      rw [← e_σ_6] at hw
      have hD := hD σ_6 e_σ_6
      refine lv_aload_n X.1 X.2.1 d_X6_readMoves_65 rfl (lv_at hl 0 rfl) ?_
      refine lv_aload_n X.1 X.2.1 d_X6_readMoves_66 rfl (lv_at hl 1 rfl) ?_
      refine gf_6_2 X hw (by decide +kernel : kd 5 = 6) tb_50 d_X6_readMoves_67 ?_
      refine pf_7_5 X hw (le_15 (ly_1_4 q_28.2).1 q_35) tb_138 d_X6_readMoves_70 (fun H locs hw => ?_)
      obtain ⟨σ_7, e_σ_7⟩ : ∃ z : GSt, z = up2 σ_6 ((((σ 5 1).toNatClampNeg) + 8) + 2 + 2 * Int32.toNatClampNeg x1) 5 (σ_6 5 2) := ⟨_, rfl⟩
      rw [← e_σ_7] at hw
      have hD := hD σ_7 e_σ_7
      refine lv_aload_n X.1 X.2.1 d_X6_readMoves_73 rfl (lv_at hl 1 rfl) ?_
      obtain ⟨q_74, hD⟩ := hD
      refine gf_6_1 X hw (by decide +kernel : kd 5 = 6) tb_49 q_74.1 d_X6_readMoves_74 ?_
      refine lv_iload_n X.1 X.2.1 d_X6_readMoves_77 rfl (lv_at hl 2 rfl) ?_
      refine lv_iconst (v := 1) X.1 X.2.1 d_X6_readMoves_78 (by decide) ?_
      refine lv_iadd X.1 X.2.1 d_X6_readMoves_79 ?_
      refine pf_1_5 X hw q_74.2 tb_168 d_X6_readMoves_80 (fun H locs hw => ?_)
      obtain ⟨σ_8, e_σ_8⟩ : ∃ z : GSt, z = up2 σ_7 ((σ_7 5 1).toNatClampNeg) 5 (x1 + 1) := ⟨_, rfl⟩
      rw [← e_σ_8] at hw
      have hD := hD σ_8 e_σ_8
      refine lv_aload_n X.1 X.2.1 d_X6_readMoves_83 rfl (lv_at hl 1 rfl) ?_
      refine lv_bipush (v := 59) X.1 X.2.1 d_X6_readMoves_84 (by decide) ?_
      refine gcV_i (rest := []) (As := [.int 59]) (o := 5) X hw (c_X6_takes l G 59 σ_8 _  hD) (kd_lt (by decide +kernel : kd 5 = 6) (by decide)) (ce_6 G _ (by decide +kernel : kd 5 = 6)) rfl tb_444 tb_446 tv_3 tb_3 tb_447 hd_X6_takes ⟨rfl, rfl⟩ ⟨Nat.le_of_ble_eq_true rfl, Nat.le_of_ble_eq_true rfl⟩ rfl hl.1 rfl (Nat.le_of_ble_eq_true rfl) d_X6_readMoves_86 (fun r_9 σ_10 H locs hD hw => ?_)
      refine lv_if_eq (tgt := 94) X.1 X.2.1 d_X6_readMoves_89 (by decide) (fun q_89 => ?_) (fun q_89 => ?_)
      · have hD := hD.1 q_89
        refine lv_aload_n X.1 X.2.1 d_X6_readMoves_94 rfl (lv_at hl 1 rfl) ?_
        refine lv_bipush (v := 44) X.1 X.2.1 d_X6_readMoves_95 (by decide) ?_
        refine gcV_i (rest := []) (As := [.int 44]) (o := 5) X hw (c_X6_takes l G 44 σ_10 _  hD) (kd_lt (by decide +kernel : kd 5 = 6) (by decide)) (ce_6 G _ (by decide +kernel : kd 5 = 6)) rfl tb_444 tb_446 tv_3 tb_3 tb_447 hd_X6_takes ⟨rfl, rfl⟩ ⟨Nat.le_of_ble_eq_true rfl, Nat.le_of_ble_eq_true rfl⟩ rfl hl.1 rfl (Nat.le_of_ble_eq_true rfl) d_X6_readMoves_97 (fun r_11 σ_12 H locs hD hw => ?_)
        refine lv_if_ne (tgt := 105) X.1 X.2.1 d_X6_readMoves_100 (by decide) (fun q_100 => ?_) (fun q_100 => ?_)
        · have hD := hD.1 q_100
          obtain ⟨x1_13, e_x1_13⟩ : ∃ y : Int32, y = x1 + 1 := ⟨_, rfl⟩
          have hD := hD x1_13 e_x1_13
          refine lv_iinc (v := x1_13) (lv' := [(1, .int x1_13), (2, .ref (G.2.1 ((((σ 5 1).toNatClampNeg) + 8) + 2 + 2 * Int32.toNatClampNeg x1))), (0, .ref (G.2.1 5))]) X.1 X.2.1 d_X6_readMoves_105 hl (k := 2) rfl (by rw [e_x1_13]; rfl) (by decide) rfl (fun ls hl => ?_)
          refine lv_goto (tgt := 21) X.1 X.2.1 d_X6_readMoves_108 (by decide) ?_
          exact hK21 x1_13 σ_12 _ _ _  hw (lv_sub hl [2, 0] rfl) hD
        · have hD := hD.2 q_100
          refine lv_iconst (v := 0) X.1 X.2.1 d_X6_readMoves_103 (by decide) ?_
          exact g_zret X hr hlk hw (by decide) hD d_X6_readMoves_104
      · have hD := hD.2 q_89
        refine lv_iconst (v := 1) X.1 X.2.1 d_X6_readMoves_92 (by decide) ?_
        exact g_zret X hr hlk hw (by decide) hD d_X6_readMoves_93
    · have hD := hD.2 q_50
      refine lv_iconst (v := 0) X.1 X.2.1 d_X6_readMoves_53 (by decide) ?_
      exact g_zret X hr hlk hw (by decide) hD d_X6_readMoves_54
set_option maxRecDepth 20000 in
set_option maxHeartbeats 4000000 in
theorem sl_X6_readMoves_21 {p : Program} {l : Launch} {e : Env} {s : State} {m : MethodId} {args : Array Value} {below : List Frame} {meth : Method} {c : Code} {G : GC} (X : CallFix p m c cm_X6_readMoves 3 s args lw_us "GameLoom$Reader") (hr : meth.sig.returnType = some .boolean) (hlk : meth.locks = false) (Q : Int32 → GSt → Prop) : ∀ (nn : Nat), ∀ (x1 : Int32) (σ : GSt) (H : Heap) (locs : List Loc) (ls : Array Slot), Wo G s H locs σ → lv_has ls 3 [(0, .ref (G.2.1 5)), (1, .int x1)] → L_X6_readMoves_21 Q nn x1 σ → W p l e rm_X6_readMoves s m args below meth c H locs 0 0 (QMI G Q below args s) (F0 m 21 ls []) := by
  intro nn
  induction nn with
  | zero => intro x1 σ H locs ls  hw hl hD; exact hD.elim
  | succ nn ih =>
    intro x1 σ H locs ls  hw hl hD
    exact s_X6_readMoves_21 X hr hlk (L_X6_readMoves_21 Q nn) Q ih x1 σ hw hl hD
set_option maxRecDepth 20000 in
set_option maxHeartbeats 4000000 in
theorem s_X6_readMoves_0 {p : Program} {l : Launch} {e : Env} {s : State} {m : MethodId} {args : Array Value} {below : List Frame} {meth : Method} {c : Code} {G : GC} (X : CallFix p m c cm_X6_readMoves 3 s args lw_us "GameLoom$Reader") (hr : meth.sig.returnType = some .boolean) (hlk : meth.locks = false) (Q : Int32 → GSt → Prop) (σ : GSt) {H : Heap} {locs : List Loc} {ls : Array Slot} (hw : Wo G s H locs σ) (hl : lv_has ls 3 [(0, .ref (G.2.1 5))]) (hD : D_X6_readMoves_0 Q σ) : W p l e rm_X6_readMoves s m args below meth c H locs 0 0 (QMI G Q below args s) (F0 m 0 ls []) := by
  unfold D_X6_readMoves_0 at hD
  refine lv_aload_n X.1 X.2.1 d_X6_readMoves_0 rfl (lv_at hl 0 rfl) ?_
  obtain ⟨q_1, hD⟩ := hD
  refine gf_6_1 X hw (by decide +kernel : kd 5 = 6) tb_49 q_1.1 d_X6_readMoves_1 ?_
  refine lv_aload_n X.1 X.2.1 d_X6_readMoves_4 rfl (lv_at hl 0 rfl) ?_
  refine gf_6_2 X hw (by decide +kernel : kd 5 = 6) tb_50 d_X6_readMoves_5 ?_
  refine pf_1_8 X hw q_1.2 tb_180 d_X6_readMoves_8 (fun H locs hw => ?_)
  obtain ⟨σ_1, e_σ_1⟩ : ∃ z : GSt, z = up2 σ ((σ 5 1).toNatClampNeg) 8 (σ 5 2) := ⟨_, rfl⟩
  rw [← e_σ_1] at hw
  have hD := hD σ_1 e_σ_1
  refine lv_aload_n X.1 X.2.1 d_X6_readMoves_11 rfl (lv_at hl 0 rfl) ?_
  obtain ⟨q_12, hD⟩ := hD
  refine gf_6_1 X hw (by decide +kernel : kd 5 = 6) tb_49 q_12.1 d_X6_readMoves_12 ?_
  refine lv_iconst (v := 0) X.1 X.2.1 d_X6_readMoves_15 (by decide) ?_
  refine pf_1_5 X hw q_12.2 tb_168 d_X6_readMoves_16 (fun H locs hw => ?_)
  obtain ⟨σ_2, e_σ_2⟩ : ∃ z : GSt, z = up2 σ_1 ((σ_1 5 1).toNatClampNeg) 5 0 := ⟨_, rfl⟩
  rw [← e_σ_2] at hw
  have hD := hD σ_2 e_σ_2
  refine lv_iconst (v := 0) X.1 X.2.1 d_X6_readMoves_19 (by decide) ?_
  refine lv_istore_n (lv' := [(1, .int 0), (0, .ref (G.2.1 5))]) X.1 X.2.1 d_X6_readMoves_20 rfl hl (by decide) rfl (fun ls hl => ?_)
  obtain ⟨n9, hD⟩ := hD
  exact sl_X6_readMoves_21 X hr hlk  Q  n9 0 σ_2 _ _ _  hw (lv_sub hl [1, 0] rfl) hD
theorem c_X6_readMoves (l : Launch) (G : GC) (σ : GSt) (Q : Int32 → GSt → Prop)  (hD : D_X6_readMoves  σ Q) : MI l ym_X6_readMoves cm_X6_readMoves 3 .boolean rm_X6_readMoves G σ [.ref (G.2.1 5)] Q := by
  refine met_i (by decide) (Nat.le_of_ble_eq_true rfl) ?_
  intro p e s m args below meth c X hr hlk hw ls hl
  exact s_X6_readMoves_0 X hr hlk Q   σ hw (lv_sub hl [0] rfl) hD
theorem hd_X9_copyOf : ym_X9_copyOf.cls = "GameLoom$Text" ∧ ym_X9_copyOf.cls ≠ "java/lang/invoke/MethodHandle" ∧ ym_X9_copyOf.cls ≠ "java/lang/invoke/VarHandle" ∧ (parseMethodDescriptor ym_X9_copyOf.desc).map (fun d => d.parameters.length) = some 1 := by decide +kernel
abbrev rm_X9_copyOf : Room := { frames := 2, cells := 0, slots := 0, locals := 45 }
theorem d_X9_copyOf_0 : decode cm_X9_copyOf 0 = .ok (.aload_n 0, 1) := by decide +kernel
theorem d_X9_copyOf_1 : decode cm_X9_copyOf 1 = .ok (.iconst 0, 1) := by decide +kernel
theorem d_X9_copyOf_2 : decode cm_X9_copyOf 2 = .ok (.putfield 15, 3) := by decide +kernel
theorem d_X9_copyOf_5 : decode cm_X9_copyOf 5 = .ok (.aload_n 0, 1) := by decide +kernel
theorem d_X9_copyOf_6 : decode cm_X9_copyOf 6 = .ok (.aload_n 1, 1) := by decide +kernel
theorem d_X9_copyOf_7 : decode cm_X9_copyOf 7 = .ok (.iconst 0, 1) := by decide +kernel
theorem d_X9_copyOf_8 : decode cm_X9_copyOf 8 = .ok (.aload_n 1, 1) := by decide +kernel
theorem d_X9_copyOf_9 : decode cm_X9_copyOf 9 = .ok (.getfield 15, 3) := by decide +kernel
theorem d_X9_copyOf_12 : decode cm_X9_copyOf 12 = .ok (.invokevirtual 27, 3) := by decide +kernel
theorem d_X9_copyOf_15 : decode cm_X9_copyOf 15 = .ok (.return_, 1) := by decide +kernel
def D_X9_copyOf_0 (Q : GSt → Prop) (o : Nat) (r1 : Nat) (σ : GSt) : Prop :=
  ∀ σ_1 : GSt, σ_1 = up2 σ o 1 0 → (D_X9_addPart o r1 0 (σ_1 r1 1) σ_1 (fun σ_2 => Q σ_2))
def D_X9_copyOf (o : Nat) (r1 : Nat) (σ : GSt) (Q : GSt → Prop) : Prop := D_X9_copyOf_0 Q o r1 σ
set_option maxRecDepth 20000 in
set_option maxHeartbeats 4000000 in
theorem s_X9_copyOf_0 {p : Program} {l : Launch} {e : Env} {s : State} {m : MethodId} {args : Array Value} {below : List Frame} {meth : Method} {c : Code} {G : GC} (X : CallFix p m c cm_X9_copyOf 2 s args lw_us "GameLoom$Text") (hr : meth.sig.returnType = none) (hlk : meth.locks = false) (Q : GSt → Prop) (o : Nat) (ho : kd o = 9) (r1 : Nat) (hk1 : kd r1 = 9) (σ : GSt) {H : Heap} {locs : List Loc} {ls : Array Slot} (hw : Wo G s H locs σ) (hl : lv_has ls 2 [(0, .ref (G.2.1 o)), (1, .ref (G.2.1 r1))]) (hD : D_X9_copyOf_0 Q o r1 σ) : W p l e rm_X9_copyOf s m args below meth c H locs 0 0 (QMV G Q below args s) (F0 m 0 ls []) := by
  unfold D_X9_copyOf_0 at hD
  refine lv_aload_n X.1 X.2.1 d_X9_copyOf_0 rfl (lv_at hl 0 rfl) ?_
  refine lv_iconst (v := 0) X.1 X.2.1 d_X9_copyOf_1 (by decide) ?_
  refine pf_9_1 X hw ho tb_32 d_X9_copyOf_2 (fun H locs hw => ?_)
  obtain ⟨σ_1, e_σ_1⟩ : ∃ z : GSt, z = up2 σ o 1 0 := ⟨_, rfl⟩
  rw [← e_σ_1] at hw
  have hD := hD σ_1 e_σ_1
  refine lv_aload_n X.1 X.2.1 d_X9_copyOf_5 rfl (lv_at hl 0 rfl) ?_
  refine lv_aload_n X.1 X.2.1 d_X9_copyOf_6 rfl (lv_at hl 1 rfl) ?_
  refine lv_iconst (v := 0) X.1 X.2.1 d_X9_copyOf_7 (by decide) ?_
  refine lv_aload_n X.1 X.2.1 d_X9_copyOf_8 rfl (lv_at hl 1 rfl) ?_
  refine gf_9_1 X hw hk1 tb_32 d_X9_copyOf_9 ?_
  refine gcV_v (rest := []) (As := [.ref (G.2.1 r1), .int 0, .int (σ_1 r1 1)]) (o := o) X hw (c_X9_addPart l G o r1 0 (σ_1 r1 1) σ_1 _ ho hk1 hD) (kd_lt ho (by decide)) (ce_9 G _ ho) rfl tb_516 tb_517 tb_518 tb_2 tb_519 hd_X9_addPart ⟨rfl, rfl⟩ ⟨Nat.le_of_ble_eq_true rfl, Nat.le_of_ble_eq_true rfl⟩ rfl hl.1 rfl (Nat.le_of_ble_eq_true rfl) d_X9_copyOf_12 (fun σ_2 H locs hD hw => ?_)
  exact g_vret X hr hlk hw hD d_X9_copyOf_15
theorem c_X9_copyOf (l : Launch) (G : GC) (o : Nat) (r1 : Nat) (σ : GSt) (Q : GSt → Prop) (ho : kd o = 9) (hr1 : kd r1 = 9) (hD : D_X9_copyOf o r1 σ Q) : MV l ym_X9_copyOf cm_X9_copyOf 2 rm_X9_copyOf G σ [.ref (G.2.1 o), .ref (G.2.1 r1)] Q := by
  refine met_v (by decide) (Nat.le_of_ble_eq_true rfl) ?_
  intro p e s m args below meth c X hr hlk hw ls hl
  exact s_X9_copyOf_0 X hr hlk Q o ho r1 hr1 σ hw (lv_sub hl [0, 1] rfl) hD
theorem hd_X6_read : ym_X6_read.cls = "GameLoom$Reader" ∧ ym_X6_read.cls ≠ "java/lang/invoke/MethodHandle" ∧ ym_X6_read.cls ≠ "java/lang/invoke/VarHandle" ∧ (parseMethodDescriptor ym_X6_read.desc).map (fun d => d.parameters.length) = some 2 := by decide +kernel
abbrev rm_X6_read : Room := { frames := 5, cells := 0, slots := 0, locals := 110 }
theorem d_X6_read_0 : decode cm_X6_read 0 = .ok (.aload_n 0, 1) := by decide +kernel
theorem d_X6_read_1 : decode cm_X6_read 1 = .ok (.aload_n 1, 1) := by decide +kernel
theorem d_X6_read_2 : decode cm_X6_read 2 = .ok (.putfield 9, 3) := by decide +kernel
theorem d_X6_read_5 : decode cm_X6_read 5 = .ok (.aload_n 0, 1) := by decide +kernel
theorem d_X6_read_6 : decode cm_X6_read 6 = .ok (.aload_n 2, 1) := by decide +kernel
theorem d_X6_read_7 : decode cm_X6_read 7 = .ok (.putfield 15, 3) := by decide +kernel
theorem d_X6_read_10 : decode cm_X6_read 10 = .ok (.aload_n 0, 1) := by decide +kernel
theorem d_X6_read_11 : decode cm_X6_read 11 = .ok (.iconst 0, 1) := by decide +kernel
theorem d_X6_read_12 : decode cm_X6_read 12 = .ok (.putfield 19, 3) := by decide +kernel
theorem d_X6_read_15 : decode cm_X6_read 15 = .ok (.aload_n 0, 1) := by decide +kernel
theorem d_X6_read_16 : decode cm_X6_read 16 = .ok (.invokevirtual 23, 3) := by decide +kernel
theorem d_X6_read_19 : decode cm_X6_read 19 = .ok (.ifCond .eq 42, 3) := by decide +kernel
theorem d_X6_read_22 : decode cm_X6_read 22 = .ok (.aload_n 0, 1) := by decide +kernel
theorem d_X6_read_23 : decode cm_X6_read 23 = .ok (.invokevirtual 27, 3) := by decide +kernel
theorem d_X6_read_26 : decode cm_X6_read 26 = .ok (.ifCond .eq 35, 3) := by decide +kernel
theorem d_X6_read_29 : decode cm_X6_read 29 = .ok (.aload_n 0, 1) := by decide +kernel
theorem d_X6_read_30 : decode cm_X6_read 30 = .ok (.invokevirtual 30, 3) := by decide +kernel
theorem d_X6_read_33 : decode cm_X6_read 33 = .ok (.ifCond .eq 28, 3) := by decide +kernel
theorem d_X6_read_36 : decode cm_X6_read 36 = .ok (.aload_n 0, 1) := by decide +kernel
theorem d_X6_read_37 : decode cm_X6_read 37 = .ok (.invokevirtual 33, 3) := by decide +kernel
theorem d_X6_read_40 : decode cm_X6_read 40 = .ok (.ifCond .eq 21, 3) := by decide +kernel
theorem d_X6_read_43 : decode cm_X6_read 43 = .ok (.aload_n 0, 1) := by decide +kernel
theorem d_X6_read_44 : decode cm_X6_read 44 = .ok (.getfield 19, 3) := by decide +kernel
theorem d_X6_read_47 : decode cm_X6_read 47 = .ok (.aload_n 0, 1) := by decide +kernel
theorem d_X6_read_48 : decode cm_X6_read 48 = .ok (.getfield 9, 3) := by decide +kernel
theorem d_X6_read_51 : decode cm_X6_read 51 = .ok (.getfield 36, 3) := by decide +kernel
theorem d_X6_read_54 : decode cm_X6_read 54 = .ok (.if_icmp .ne 7, 3) := by decide +kernel
theorem d_X6_read_57 : decode cm_X6_read 57 = .ok (.iconst 1, 1) := by decide +kernel
theorem d_X6_read_58 : decode cm_X6_read 58 = .ok (.goto 4, 3) := by decide +kernel
theorem d_X6_read_61 : decode cm_X6_read 61 = .ok (.iconst 0, 1) := by decide +kernel
theorem d_X6_read_62 : decode cm_X6_read 62 = .ok (.istore_n 3, 1) := by decide +kernel
theorem d_X6_read_63 : decode cm_X6_read 63 = .ok (.iload_n 3, 1) := by decide +kernel
theorem d_X6_read_64 : decode cm_X6_read 64 = .ok (.ifCond .ne 8, 3) := by decide +kernel
theorem d_X6_read_67 : decode cm_X6_read 67 = .ok (.aload_n 0, 1) := by decide +kernel
theorem d_X6_read_68 : decode cm_X6_read 68 = .ok (.getfield 19, 3) := by decide +kernel
theorem d_X6_read_71 : decode cm_X6_read 71 = .ok (.ireturn, 1) := by decide +kernel
theorem d_X6_read_72 : decode cm_X6_read 72 = .ok (.aload_n 2, 1) := by decide +kernel
theorem d_X6_read_73 : decode cm_X6_read 73 = .ok (.getfield 41, 3) := by decide +kernel
theorem d_X6_read_76 : decode cm_X6_read 76 = .ok (.aload_n 1, 1) := by decide +kernel
theorem d_X6_read_77 : decode cm_X6_read 77 = .ok (.invokevirtual 44, 3) := by decide +kernel
theorem d_X6_read_80 : decode cm_X6_read 80 = .ok (.iconst (-1), 1) := by decide +kernel
theorem d_X6_read_81 : decode cm_X6_read 81 = .ok (.ireturn, 1) := by decide +kernel
def D_X6_read_62 (Q : Int32 → GSt → Prop) (r1 : Nat) (r2 : Nat) (s0 : Int32) (σ : GSt) : Prop :=
  (¬ s0 = 0 → D_X9_copyOf (r2 + 1) r1 σ (fun σ_1 => Q (-1) σ_1)) ∧
  (s0 = 0 → Q (σ 5 2) σ)
def D_X6_read_61 (Q : Int32 → GSt → Prop) (r1 : Nat) (r2 : Nat) (σ : GSt) : Prop :=
  D_X6_read_62 Q r1 r2 0 σ
def D_X6_read_0 (Q : Int32 → GSt → Prop) (r1 : Nat) (r2 : Nat) (σ : GSt) : Prop :=
  ∀ σ_1 : GSt, σ_1 = up2 σ 5 0 (nI r1) → (∀ σ_2 : GSt, σ_2 = up2 σ_1 5 1 (nI r2) → (∀ σ_3 : GSt, σ_3 = up2 σ_2 5 2 0 → (D_X6_readBoard  σ_3 (fun r_4 σ_5 => (r_4 = 0 → D_X6_read_61 Q r1 r2 σ_5) ∧
  (¬ r_4 = 0 → D_X6_readBegin  σ_5 (fun r_6 σ_7 => (r_6 = 0 → D_X6_read_61 Q r1 r2 σ_7) ∧
  (¬ r_6 = 0 → D_X6_readMoves  σ_7 (fun r_8 σ_9 => (r_8 = 0 → D_X6_read_61 Q r1 r2 σ_9) ∧
  (¬ r_8 = 0 → D_X6_readEnds  σ_9 (fun r_10 σ_11 => (r_10 = 0 → D_X6_read_61 Q r1 r2 σ_11) ∧
  (¬ r_10 = 0 → (¬ σ_11 5 0 < 0 ∧ kd (σ_11 5 0).toNatClampNeg = 9) ∧ ((¬ (σ_11 5 2) = (σ_11 ((σ_11 5 0).toNatClampNeg) 1) → D_X6_read_61 Q r1 r2 σ_11) ∧
  ((σ_11 5 2) = (σ_11 ((σ_11 5 0).toNatClampNeg) 1) → D_X6_read_62 Q r1 r2 1 σ_11)))))))))))))
def D_X6_read (r1 : Nat) (r2 : Nat) (σ : GSt) (Q : Int32 → GSt → Prop) : Prop := D_X6_read_0 Q r1 r2 σ
set_option maxRecDepth 20000 in
set_option maxHeartbeats 4000000 in
theorem s_X6_read_62 {p : Program} {l : Launch} {e : Env} {s : State} {m : MethodId} {args : Array Value} {below : List Frame} {meth : Method} {c : Code} {G : GC} (X : CallFix p m c cm_X6_read 4 s args lw_us "GameLoom$Reader") (hr : meth.sig.returnType = some .int) (hlk : meth.locks = false) (Q : Int32 → GSt → Prop) (r1 : Nat) (hk1 : kd r1 = 9) (r2 : Nat) (hk2 : kd r2 = 1) (s0 : Int32) (σ : GSt) {H : Heap} {locs : List Loc} {ls : Array Slot} (hw : Wo G s H locs σ) (hl : lv_has ls 4 [(0, .ref (G.2.1 5)), (1, .ref (G.2.1 r1)), (2, .ref (G.2.1 r2))]) (hD : D_X6_read_62 Q r1 r2 s0 σ) : W p l e rm_X6_read s m args below meth c H locs 0 0 (QMI G Q below args s) (F0 m 62 ls [.int s0]) := by
  unfold D_X6_read_62 at hD
  refine lv_istore_n (lv' := [(3, .int s0), (0, .ref (G.2.1 5)), (1, .ref (G.2.1 r1)), (2, .ref (G.2.1 r2))]) X.1 X.2.1 d_X6_read_62 rfl hl (by decide) rfl (fun ls hl => ?_)
  refine lv_iload_n X.1 X.2.1 d_X6_read_63 rfl (lv_at hl 0 rfl) ?_
  refine lv_if_ne (tgt := 72) X.1 X.2.1 d_X6_read_64 (by decide) (fun q_64 => ?_) (fun q_64 => ?_)
  · have hD := hD.1 q_64
    refine lv_aload_n X.1 X.2.1 d_X6_read_72 rfl (lv_at hl 3 rfl) ?_
    refine gf_1_0 X hw hk2 tb_153 d_X6_read_73 ?_
    refine lv_aload_n X.1 X.2.1 d_X6_read_76 rfl (lv_at hl 2 rfl) ?_
    refine gcV_v (rest := []) (As := [.ref (G.2.1 r1)]) (o := (r2 + 1)) X hw (c_X9_copyOf l G (r2 + 1) r1 σ _ (ly_1_0 hk2) hk1 hD) (kd_lt (ly_1_0 hk2) (by decide)) (ce_9 G _ (ly_1_0 hk2)) rfl tb_512 tb_513 tb_514 tb_2 tb_515 hd_X9_copyOf ⟨rfl, rfl⟩ ⟨Nat.le_of_ble_eq_true rfl, Nat.le_of_ble_eq_true rfl⟩ rfl hl.1 rfl (Nat.le_of_ble_eq_true rfl) d_X6_read_77 (fun σ_1 H locs hD hw => ?_)
    refine lv_iconst (v := (-1)) X.1 X.2.1 d_X6_read_80 (by decide) ?_
    exact g_iret X hr hlk hw hD d_X6_read_81
  · have hD := hD.2 q_64
    refine lv_aload_n X.1 X.2.1 d_X6_read_67 rfl (lv_at hl 1 rfl) ?_
    refine gf_6_2 X hw (by decide +kernel : kd 5 = 6) tb_50 d_X6_read_68 ?_
    exact g_iret X hr hlk hw hD d_X6_read_71
set_option maxRecDepth 20000 in
set_option maxHeartbeats 4000000 in
theorem s_X6_read_61 {p : Program} {l : Launch} {e : Env} {s : State} {m : MethodId} {args : Array Value} {below : List Frame} {meth : Method} {c : Code} {G : GC} (X : CallFix p m c cm_X6_read 4 s args lw_us "GameLoom$Reader") (hr : meth.sig.returnType = some .int) (hlk : meth.locks = false) (Q : Int32 → GSt → Prop) (r1 : Nat) (hk1 : kd r1 = 9) (r2 : Nat) (hk2 : kd r2 = 1) (σ : GSt) {H : Heap} {locs : List Loc} {ls : Array Slot} (hw : Wo G s H locs σ) (hl : lv_has ls 4 [(0, .ref (G.2.1 5)), (1, .ref (G.2.1 r1)), (2, .ref (G.2.1 r2))]) (hD : D_X6_read_61 Q r1 r2 σ) : W p l e rm_X6_read s m args below meth c H locs 0 0 (QMI G Q below args s) (F0 m 61 ls []) := by
  unfold D_X6_read_61 at hD
  refine lv_iconst (v := 0) X.1 X.2.1 d_X6_read_61 (by decide) ?_
  exact s_X6_read_62 X hr hlk  Q  r1 hk1 r2 hk2 0 σ hw (lv_sub hl [0, 1, 2] rfl) hD
set_option maxRecDepth 20000 in
set_option maxHeartbeats 4000000 in
theorem s_X6_read_0 {p : Program} {l : Launch} {e : Env} {s : State} {m : MethodId} {args : Array Value} {below : List Frame} {meth : Method} {c : Code} {G : GC} (X : CallFix p m c cm_X6_read 4 s args lw_us "GameLoom$Reader") (hr : meth.sig.returnType = some .int) (hlk : meth.locks = false) (Q : Int32 → GSt → Prop) (r1 : Nat) (hk1 : kd r1 = 9) (r2 : Nat) (hk2 : kd r2 = 1) (σ : GSt) {H : Heap} {locs : List Loc} {ls : Array Slot} (hw : Wo G s H locs σ) (hl : lv_has ls 4 [(0, .ref (G.2.1 5)), (1, .ref (G.2.1 r1)), (2, .ref (G.2.1 r2))]) (hD : D_X6_read_0 Q r1 r2 σ) : W p l e rm_X6_read s m args below meth c H locs 0 0 (QMI G Q below args s) (F0 m 0 ls []) := by
  unfold D_X6_read_0 at hD
  refine lv_aload_n X.1 X.2.1 d_X6_read_0 rfl (lv_at hl 0 rfl) ?_
  refine lv_aload_n X.1 X.2.1 d_X6_read_1 rfl (lv_at hl 1 rfl) ?_
  refine pf_6_0 X hw (by decide +kernel : kd 5 = 6) tb_48 hk1 d_X6_read_2 (fun H locs hw => ?_)
  obtain ⟨σ_1, e_σ_1⟩ : ∃ z : GSt, z = up2 σ 5 0 (nI r1) := ⟨_, rfl⟩
  rw [← e_σ_1] at hw
  have hD := hD σ_1 e_σ_1
  refine lv_aload_n X.1 X.2.1 d_X6_read_5 rfl (lv_at hl 0 rfl) ?_
  refine lv_aload_n X.1 X.2.1 d_X6_read_6 rfl (lv_at hl 2 rfl) ?_
  refine pf_6_1 X hw (by decide +kernel : kd 5 = 6) tb_49 hk2 d_X6_read_7 (fun H locs hw => ?_)
  obtain ⟨σ_2, e_σ_2⟩ : ∃ z : GSt, z = up2 σ_1 5 1 (nI r2) := ⟨_, rfl⟩
  rw [← e_σ_2] at hw
  have hD := hD σ_2 e_σ_2
  refine lv_aload_n X.1 X.2.1 d_X6_read_10 rfl (lv_at hl 0 rfl) ?_
  refine lv_iconst (v := 0) X.1 X.2.1 d_X6_read_11 (by decide) ?_
  refine pf_6_2 X hw (by decide +kernel : kd 5 = 6) tb_50 d_X6_read_12 (fun H locs hw => ?_)
  obtain ⟨σ_3, e_σ_3⟩ : ∃ z : GSt, z = up2 σ_2 5 2 0 := ⟨_, rfl⟩
  rw [← e_σ_3] at hw
  have hD := hD σ_3 e_σ_3
  refine lv_aload_n X.1 X.2.1 d_X6_read_15 rfl (lv_at hl 0 rfl) ?_
  refine gcV_i (rest := []) (As := []) (o := 5) X hw (c_X6_readBoard l G  σ_3 _  hD) (kd_lt (by decide +kernel : kd 5 = 6) (by decide)) (ce_6 G _ (by decide +kernel : kd 5 = 6)) rfl tb_440 tb_442 tv_2 tb_3 tb_443 hd_X6_readBoard ⟨rfl, rfl⟩ ⟨Nat.le_of_ble_eq_true rfl, Nat.le_of_ble_eq_true rfl⟩ rfl hl.1 rfl (Nat.le_of_ble_eq_true rfl) d_X6_read_16 (fun r_4 σ_5 H locs hD hw => ?_)
  refine lv_if_eq (tgt := 61) X.1 X.2.1 d_X6_read_19 (by decide) (fun q_19 => ?_) (fun q_19 => ?_)
  · have hD := hD.1 q_19
    exact s_X6_read_61 X hr hlk  Q  r1 hk1 r2 hk2 σ_5 hw (lv_sub hl [0, 1, 2] rfl) hD
  · have hD := hD.2 q_19
    refine lv_aload_n X.1 X.2.1 d_X6_read_22 rfl (lv_at hl 0 rfl) ?_
    refine gcV_i (rest := []) (As := []) (o := 5) X hw (c_X6_readBegin l G  σ_5 _  hD) (kd_lt (by decide +kernel : kd 5 = 6) (by decide)) (ce_6 G _ (by decide +kernel : kd 5 = 6)) rfl tb_484 tb_486 tv_10 tb_3 tb_487 hd_X6_readBegin ⟨rfl, rfl⟩ ⟨Nat.le_of_ble_eq_true rfl, Nat.le_of_ble_eq_true rfl⟩ rfl hl.1 rfl (Nat.le_of_ble_eq_true rfl) d_X6_read_23 (fun r_6 σ_7 H locs hD hw => ?_)
    refine lv_if_eq (tgt := 61) X.1 X.2.1 d_X6_read_26 (by decide) (fun q_26 => ?_) (fun q_26 => ?_)
    · have hD := hD.1 q_26
      exact s_X6_read_61 X hr hlk  Q  r1 hk1 r2 hk2 σ_7 hw (lv_sub hl [0, 1, 2] rfl) hD
    · have hD := hD.2 q_26
      refine lv_aload_n X.1 X.2.1 d_X6_read_29 rfl (lv_at hl 0 rfl) ?_
      refine gcV_i (rest := []) (As := []) (o := 5) X hw (c_X6_readMoves l G  σ_7 _  hD) (kd_lt (by decide +kernel : kd 5 = 6) (by decide)) (ce_6 G _ (by decide +kernel : kd 5 = 6)) rfl tb_488 tb_490 tv_11 tb_3 tb_491 hd_X6_readMoves ⟨rfl, rfl⟩ ⟨Nat.le_of_ble_eq_true rfl, Nat.le_of_ble_eq_true rfl⟩ rfl hl.1 rfl (Nat.le_of_ble_eq_true rfl) d_X6_read_30 (fun r_8 σ_9 H locs hD hw => ?_)
      refine lv_if_eq (tgt := 61) X.1 X.2.1 d_X6_read_33 (by decide) (fun q_33 => ?_) (fun q_33 => ?_)
      · have hD := hD.1 q_33
        exact s_X6_read_61 X hr hlk  Q  r1 hk1 r2 hk2 σ_9 hw (lv_sub hl [0, 1, 2] rfl) hD
      · have hD := hD.2 q_33
        refine lv_aload_n X.1 X.2.1 d_X6_read_36 rfl (lv_at hl 0 rfl) ?_
        refine gcV_i (rest := []) (As := []) (o := 5) X hw (c_X6_readEnds l G  σ_9 _  hD) (kd_lt (by decide +kernel : kd 5 = 6) (by decide)) (ce_6 G _ (by decide +kernel : kd 5 = 6)) rfl tb_496 tb_498 tv_13 tb_3 tb_499 hd_X6_readEnds ⟨rfl, rfl⟩ ⟨Nat.le_of_ble_eq_true rfl, Nat.le_of_ble_eq_true rfl⟩ rfl hl.1 rfl (Nat.le_of_ble_eq_true rfl) d_X6_read_37 (fun r_10 σ_11 H locs hD hw => ?_)
        refine lv_if_eq (tgt := 61) X.1 X.2.1 d_X6_read_40 (by decide) (fun q_40 => ?_) (fun q_40 => ?_)
        · have hD := hD.1 q_40
          exact s_X6_read_61 X hr hlk  Q  r1 hk1 r2 hk2 σ_11 hw (lv_sub hl [0, 1, 2] rfl) hD
        · have hD := hD.2 q_40
          refine lv_aload_n X.1 X.2.1 d_X6_read_43 rfl (lv_at hl 0 rfl) ?_
          refine gf_6_2 X hw (by decide +kernel : kd 5 = 6) tb_50 d_X6_read_44 ?_
          refine lv_aload_n X.1 X.2.1 d_X6_read_47 rfl (lv_at hl 0 rfl) ?_
          obtain ⟨q_48, hD⟩ := hD
          refine gf_6_0 X hw (by decide +kernel : kd 5 = 6) tb_48 q_48.1 d_X6_read_48 ?_
          refine gf_9_1 X hw q_48.2 tb_34 d_X6_read_51 ?_
          refine lv_icmp_ne (tgt := 61) X.1 X.2.1 d_X6_read_54 (by decide) (fun q_54 => ?_) (fun q_54 => ?_)
          · have hD := hD.1 q_54
            exact s_X6_read_61 X hr hlk  Q  r1 hk1 r2 hk2 σ_11 hw (lv_sub hl [0, 1, 2] rfl) hD
          · have hD := hD.2 q_54
            refine lv_iconst (v := 1) X.1 X.2.1 d_X6_read_57 (by decide) ?_
            refine lv_goto (tgt := 62) X.1 X.2.1 d_X6_read_58 (by decide) ?_
            exact s_X6_read_62 X hr hlk  Q  r1 hk1 r2 hk2 1 σ_11 hw (lv_sub hl [0, 1, 2] rfl) hD
theorem c_X6_read (l : Launch) (G : GC) (r1 : Nat) (r2 : Nat) (σ : GSt) (Q : Int32 → GSt → Prop) (hr1 : kd r1 = 9) (hr2 : kd r2 = 1) (hD : D_X6_read r1 r2 σ Q) : MI l ym_X6_read cm_X6_read 4 .int rm_X6_read G σ [.ref (G.2.1 5), .ref (G.2.1 r1), .ref (G.2.1 r2)] Q := by
  refine met_i (by decide) (Nat.le_of_ble_eq_true rfl) ?_
  intro p e s m args below meth c X hr hlk hw ls hl
  exact s_X6_read_0 X hr hlk Q  r1 hr1 r2 hr2 σ hw (lv_sub hl [0, 1, 2] rfl) hD
theorem hd_X8_clear : ym_X8_clear.cls = "GameLoom$Tally" ∧ ym_X8_clear.cls ≠ "java/lang/invoke/MethodHandle" ∧ ym_X8_clear.cls ≠ "java/lang/invoke/VarHandle" ∧ (parseMethodDescriptor ym_X8_clear.desc).map (fun d => d.parameters.length) = some 0 := by decide +kernel
abbrev rm_X8_clear : Room := { frames := 0, cells := 0, slots := 0, locals := 0 }
theorem d_X8_clear_0 : decode cm_X8_clear 0 = .ok (.aload_n 0, 1) := by decide +kernel
theorem d_X8_clear_1 : decode cm_X8_clear 1 = .ok (.iconst 0, 1) := by decide +kernel
theorem d_X8_clear_2 : decode cm_X8_clear 2 = .ok (.putfield 42, 3) := by decide +kernel
theorem d_X8_clear_5 : decode cm_X8_clear 5 = .ok (.aload_n 0, 1) := by decide +kernel
theorem d_X8_clear_6 : decode cm_X8_clear 6 = .ok (.iconst 0, 1) := by decide +kernel
theorem d_X8_clear_7 : decode cm_X8_clear 7 = .ok (.putfield 46, 3) := by decide +kernel
theorem d_X8_clear_10 : decode cm_X8_clear 10 = .ok (.aload_n 0, 1) := by decide +kernel
theorem d_X8_clear_11 : decode cm_X8_clear 11 = .ok (.iconst 0, 1) := by decide +kernel
theorem d_X8_clear_12 : decode cm_X8_clear 12 = .ok (.putfield 49, 3) := by decide +kernel
theorem d_X8_clear_15 : decode cm_X8_clear 15 = .ok (.aload_n 0, 1) := by decide +kernel
theorem d_X8_clear_16 : decode cm_X8_clear 16 = .ok (.iconst 0, 1) := by decide +kernel
theorem d_X8_clear_17 : decode cm_X8_clear 17 = .ok (.putfield 52, 3) := by decide +kernel
theorem d_X8_clear_20 : decode cm_X8_clear 20 = .ok (.aload_n 0, 1) := by decide +kernel
theorem d_X8_clear_21 : decode cm_X8_clear 21 = .ok (.iconst 0, 1) := by decide +kernel
theorem d_X8_clear_22 : decode cm_X8_clear 22 = .ok (.putfield 55, 3) := by decide +kernel
theorem d_X8_clear_25 : decode cm_X8_clear 25 = .ok (.aload_n 0, 1) := by decide +kernel
theorem d_X8_clear_26 : decode cm_X8_clear 26 = .ok (.iconst 0, 1) := by decide +kernel
theorem d_X8_clear_27 : decode cm_X8_clear 27 = .ok (.putfield 58, 3) := by decide +kernel
theorem d_X8_clear_30 : decode cm_X8_clear 30 = .ok (.aload_n 0, 1) := by decide +kernel
theorem d_X8_clear_31 : decode cm_X8_clear 31 = .ok (.iconst 0, 1) := by decide +kernel
theorem d_X8_clear_32 : decode cm_X8_clear 32 = .ok (.putfield 61, 3) := by decide +kernel
theorem d_X8_clear_35 : decode cm_X8_clear 35 = .ok (.iconst 0, 1) := by decide +kernel
theorem d_X8_clear_36 : decode cm_X8_clear 36 = .ok (.istore_n 1, 1) := by decide +kernel
theorem d_X8_clear_37 : decode cm_X8_clear 37 = .ok (.iload_n 1, 1) := by decide +kernel
theorem d_X8_clear_38 : decode cm_X8_clear 38 = .ok (.bipush 6, 2) := by decide +kernel
theorem d_X8_clear_40 : decode cm_X8_clear 40 = .ok (.if_icmp .ge 23, 3) := by decide +kernel
theorem d_X8_clear_43 : decode cm_X8_clear 43 = .ok (.aload_n 0, 1) := by decide +kernel
theorem d_X8_clear_44 : decode cm_X8_clear 44 = .ok (.getfield 22, 3) := by decide +kernel
theorem d_X8_clear_47 : decode cm_X8_clear 47 = .ok (.iload_n 1, 1) := by decide +kernel
theorem d_X8_clear_48 : decode cm_X8_clear 48 = .ok (.iconst 0, 1) := by decide +kernel
theorem d_X8_clear_49 : decode cm_X8_clear 49 = .ok (.iastore, 1) := by decide +kernel
theorem d_X8_clear_50 : decode cm_X8_clear 50 = .ok (.aload_n 0, 1) := by decide +kernel
theorem d_X8_clear_51 : decode cm_X8_clear 51 = .ok (.getfield 25, 3) := by decide +kernel
theorem d_X8_clear_54 : decode cm_X8_clear 54 = .ok (.iload_n 1, 1) := by decide +kernel
theorem d_X8_clear_55 : decode cm_X8_clear 55 = .ok (.iconst 0, 1) := by decide +kernel
theorem d_X8_clear_56 : decode cm_X8_clear 56 = .ok (.iastore, 1) := by decide +kernel
theorem d_X8_clear_57 : decode cm_X8_clear 57 = .ok (.iinc 1 1, 3) := by decide +kernel
theorem d_X8_clear_60 : decode cm_X8_clear 60 = .ok (.goto (-23), 3) := by decide +kernel
theorem d_X8_clear_63 : decode cm_X8_clear 63 = .ok (.return_, 1) := by decide +kernel
def D_X8_clear_37 (K37 : Int32 → GSt → Prop) (Q : GSt → Prop) (o : Nat) (x1 : Int32) (σ : GSt) : Prop :=
  (6 ≤ x1 → Q σ) ∧
  (¬ 6 ≤ x1 → vp_in x1 6 ∧ (∀ σ_1 : GSt, σ_1 = up2 σ (o + 3) (Int32.toNatClampNeg x1) 0 → (vp_in x1 6 ∧ (∀ σ_2 : GSt, σ_2 = up2 σ_1 (o + 4) (Int32.toNatClampNeg x1) 0 → (∀ x1_3 : Int32, x1_3 = x1 + 1 → (K37 x1_3 σ_2))))))
def L_X8_clear_37 (Q : GSt → Prop) (o : Nat) : Nat → Int32 → GSt → Prop
  | 0 => fun _ _ => False
  | n + 1 => fun x1 σ => D_X8_clear_37 (L_X8_clear_37 Q o n) Q o x1 σ
def D_X8_clear_0 (Q : GSt → Prop) (o : Nat) (σ : GSt) : Prop :=
  ∀ σ_1 : GSt, σ_1 = up2 σ o 4 0 → (∀ σ_2 : GSt, σ_2 = up2 σ_1 o 1 0 → (∀ σ_3 : GSt, σ_3 = up2 σ_2 o 5 0 → (∀ σ_4 : GSt, σ_4 = up2 σ_3 o 6 0 → (∀ σ_5 : GSt, σ_5 = up2 σ_4 o 7 0 → (∀ σ_6 : GSt, σ_6 = up2 σ_5 o 8 0 → (∀ σ_7 : GSt, σ_7 = up2 σ_6 o 9 0 → (∃ n : Nat, L_X8_clear_37 Q o n 0 σ_7)))))))
def D_X8_clear (o : Nat) (σ : GSt) (Q : GSt → Prop) : Prop := D_X8_clear_0 Q o σ
set_option maxRecDepth 20000 in
set_option maxHeartbeats 4000000 in
theorem s_X8_clear_37 {p : Program} {l : Launch} {e : Env} {s : State} {m : MethodId} {args : Array Value} {below : List Frame} {meth : Method} {c : Code} {G : GC} (X : CallFix p m c cm_X8_clear 2 s args lw_us "GameLoom$Tally") (hr : meth.sig.returnType = none) (hlk : meth.locks = false) (K37 : Int32 → GSt → Prop) (Q : GSt → Prop) (o : Nat) (ho : kd o = 8) (hK37 : ∀ (x1 : Int32) (σ : GSt) (H : Heap) (locs : List Loc) (ls : Array Slot), Wo G s H locs σ → lv_has ls 2 [(0, .ref (G.2.1 o)), (1, .int x1)] → K37 x1 σ → W p l e rm_X8_clear s m args below meth c H locs 0 0 (QMV G Q below args s) (F0 m 37 ls [])) (x1 : Int32) (σ : GSt) {H : Heap} {locs : List Loc} {ls : Array Slot} (hw : Wo G s H locs σ) (hl : lv_has ls 2 [(0, .ref (G.2.1 o)), (1, .int x1)]) (hD : D_X8_clear_37 K37 Q o x1 σ) : W p l e rm_X8_clear s m args below meth c H locs 0 0 (QMV G Q below args s) (F0 m 37 ls []) := by
  unfold D_X8_clear_37 at hD
  refine lv_iload_n X.1 X.2.1 d_X8_clear_37 rfl (lv_at hl 1 rfl) ?_
  refine lv_bipush (v := 6) X.1 X.2.1 d_X8_clear_38 (by decide) ?_
  refine lv_icmp_ge (tgt := 63) X.1 X.2.1 d_X8_clear_40 (by decide) (fun q_40 => ?_) (fun q_40 => ?_)
  · have hD := hD.1 q_40
    exact g_vret X hr hlk hw hD d_X8_clear_63
  · have hD := hD.2 q_40
    refine lv_aload_n X.1 X.2.1 d_X8_clear_43 rfl (lv_at hl 0 rfl) ?_
    refine gf_8_10 X hw ho tb_294 d_X8_clear_44 ?_
    refine lv_iload_n X.1 X.2.1 d_X8_clear_47 rfl (lv_at hl 1 rfl) ?_
    refine lv_iconst (v := 0) X.1 X.2.1 d_X8_clear_48 (by decide) ?_
    obtain ⟨q_49, hD⟩ := hD
    refine g_iast X hw (ly_8_10 ho).1 (ly_8_10 ho).2 q_49 d_X8_clear_49 (fun H locs hw => ?_)
    obtain ⟨σ_1, e_σ_1⟩ : ∃ z : GSt, z = up2 σ (o + 3) (Int32.toNatClampNeg x1) 0 := ⟨_, rfl⟩
    rw [← e_σ_1] at hw
    have hD := hD σ_1 e_σ_1
    refine lv_aload_n X.1 X.2.1 d_X8_clear_50 rfl (lv_at hl 0 rfl) ?_
    refine gf_8_11 X hw ho tb_295 d_X8_clear_51 ?_
    refine lv_iload_n X.1 X.2.1 d_X8_clear_54 rfl (lv_at hl 1 rfl) ?_
    refine lv_iconst (v := 0) X.1 X.2.1 d_X8_clear_55 (by decide) ?_
    obtain ⟨q_56, hD⟩ := hD
    refine g_iast X hw (ly_8_11 ho).1 (ly_8_11 ho).2 q_56 d_X8_clear_56 (fun H locs hw => ?_)
    obtain ⟨σ_2, e_σ_2⟩ : ∃ z : GSt, z = up2 σ_1 (o + 4) (Int32.toNatClampNeg x1) 0 := ⟨_, rfl⟩
    rw [← e_σ_2] at hw
    have hD := hD σ_2 e_σ_2
    obtain ⟨x1_3, e_x1_3⟩ : ∃ y : Int32, y = x1 + 1 := ⟨_, rfl⟩
    have hD := hD x1_3 e_x1_3
    refine lv_iinc (v := x1_3) (lv' := [(1, .int x1_3), (0, .ref (G.2.1 o))]) X.1 X.2.1 d_X8_clear_57 hl (k := 1) rfl (by rw [e_x1_3]; rfl) (by decide) rfl (fun ls hl => ?_)
    refine lv_goto (tgt := 37) X.1 X.2.1 d_X8_clear_60 (by decide) ?_
    exact hK37 x1_3 σ_2 _ _ _  hw (lv_sub hl [1, 0] rfl) hD
set_option maxRecDepth 20000 in
set_option maxHeartbeats 4000000 in
theorem sl_X8_clear_37 {p : Program} {l : Launch} {e : Env} {s : State} {m : MethodId} {args : Array Value} {below : List Frame} {meth : Method} {c : Code} {G : GC} (X : CallFix p m c cm_X8_clear 2 s args lw_us "GameLoom$Tally") (hr : meth.sig.returnType = none) (hlk : meth.locks = false) (Q : GSt → Prop) (o : Nat) (ho : kd o = 8) : ∀ (nn : Nat), ∀ (x1 : Int32) (σ : GSt) (H : Heap) (locs : List Loc) (ls : Array Slot), Wo G s H locs σ → lv_has ls 2 [(0, .ref (G.2.1 o)), (1, .int x1)] → L_X8_clear_37 Q o nn x1 σ → W p l e rm_X8_clear s m args below meth c H locs 0 0 (QMV G Q below args s) (F0 m 37 ls []) := by
  intro nn
  induction nn with
  | zero => intro x1 σ H locs ls  hw hl hD; exact hD.elim
  | succ nn ih =>
    intro x1 σ H locs ls  hw hl hD
    exact s_X8_clear_37 X hr hlk (L_X8_clear_37 Q o nn) Q o ho ih x1 σ hw hl hD
set_option maxRecDepth 20000 in
set_option maxHeartbeats 4000000 in
theorem s_X8_clear_0 {p : Program} {l : Launch} {e : Env} {s : State} {m : MethodId} {args : Array Value} {below : List Frame} {meth : Method} {c : Code} {G : GC} (X : CallFix p m c cm_X8_clear 2 s args lw_us "GameLoom$Tally") (hr : meth.sig.returnType = none) (hlk : meth.locks = false) (Q : GSt → Prop) (o : Nat) (ho : kd o = 8) (σ : GSt) {H : Heap} {locs : List Loc} {ls : Array Slot} (hw : Wo G s H locs σ) (hl : lv_has ls 2 [(0, .ref (G.2.1 o))]) (hD : D_X8_clear_0 Q o σ) : W p l e rm_X8_clear s m args below meth c H locs 0 0 (QMV G Q below args s) (F0 m 0 ls []) := by
  unfold D_X8_clear_0 at hD
  refine lv_aload_n X.1 X.2.1 d_X8_clear_0 rfl (lv_at hl 0 rfl) ?_
  refine lv_iconst (v := 0) X.1 X.2.1 d_X8_clear_1 (by decide) ?_
  refine pf_8_4 X hw ho tb_288 d_X8_clear_2 (fun H locs hw => ?_)
  obtain ⟨σ_1, e_σ_1⟩ : ∃ z : GSt, z = up2 σ o 4 0 := ⟨_, rfl⟩
  rw [← e_σ_1] at hw
  have hD := hD σ_1 e_σ_1
  refine lv_aload_n X.1 X.2.1 d_X8_clear_5 rfl (lv_at hl 0 rfl) ?_
  refine lv_iconst (v := 0) X.1 X.2.1 d_X8_clear_6 (by decide) ?_
  refine pf_8_1 X hw ho tb_284 d_X8_clear_7 (fun H locs hw => ?_)
  obtain ⟨σ_2, e_σ_2⟩ : ∃ z : GSt, z = up2 σ_1 o 1 0 := ⟨_, rfl⟩
  rw [← e_σ_2] at hw
  have hD := hD σ_2 e_σ_2
  refine lv_aload_n X.1 X.2.1 d_X8_clear_10 rfl (lv_at hl 0 rfl) ?_
  refine lv_iconst (v := 0) X.1 X.2.1 d_X8_clear_11 (by decide) ?_
  refine pf_8_5 X hw ho tb_289 d_X8_clear_12 (fun H locs hw => ?_)
  obtain ⟨σ_3, e_σ_3⟩ : ∃ z : GSt, z = up2 σ_2 o 5 0 := ⟨_, rfl⟩
  rw [← e_σ_3] at hw
  have hD := hD σ_3 e_σ_3
  refine lv_aload_n X.1 X.2.1 d_X8_clear_15 rfl (lv_at hl 0 rfl) ?_
  refine lv_iconst (v := 0) X.1 X.2.1 d_X8_clear_16 (by decide) ?_
  refine pf_8_6 X hw ho tb_290 d_X8_clear_17 (fun H locs hw => ?_)
  obtain ⟨σ_4, e_σ_4⟩ : ∃ z : GSt, z = up2 σ_3 o 6 0 := ⟨_, rfl⟩
  rw [← e_σ_4] at hw
  have hD := hD σ_4 e_σ_4
  refine lv_aload_n X.1 X.2.1 d_X8_clear_20 rfl (lv_at hl 0 rfl) ?_
  refine lv_iconst (v := 0) X.1 X.2.1 d_X8_clear_21 (by decide) ?_
  refine pf_8_7 X hw ho tb_291 d_X8_clear_22 (fun H locs hw => ?_)
  obtain ⟨σ_5, e_σ_5⟩ : ∃ z : GSt, z = up2 σ_4 o 7 0 := ⟨_, rfl⟩
  rw [← e_σ_5] at hw
  have hD := hD σ_5 e_σ_5
  refine lv_aload_n X.1 X.2.1 d_X8_clear_25 rfl (lv_at hl 0 rfl) ?_
  refine lv_iconst (v := 0) X.1 X.2.1 d_X8_clear_26 (by decide) ?_
  refine pf_8_8 X hw ho tb_292 d_X8_clear_27 (fun H locs hw => ?_)
  obtain ⟨σ_6, e_σ_6⟩ : ∃ z : GSt, z = up2 σ_5 o 8 0 := ⟨_, rfl⟩
  rw [← e_σ_6] at hw
  have hD := hD σ_6 e_σ_6
  refine lv_aload_n X.1 X.2.1 d_X8_clear_30 rfl (lv_at hl 0 rfl) ?_
  refine lv_iconst (v := 0) X.1 X.2.1 d_X8_clear_31 (by decide) ?_
  refine pf_8_9 X hw ho tb_293 d_X8_clear_32 (fun H locs hw => ?_)
  obtain ⟨σ_7, e_σ_7⟩ : ∃ z : GSt, z = up2 σ_6 o 9 0 := ⟨_, rfl⟩
  rw [← e_σ_7] at hw
  have hD := hD σ_7 e_σ_7
  refine lv_iconst (v := 0) X.1 X.2.1 d_X8_clear_35 (by decide) ?_
  refine lv_istore_n (lv' := [(1, .int 0), (0, .ref (G.2.1 o))]) X.1 X.2.1 d_X8_clear_36 rfl hl (by decide) rfl (fun ls hl => ?_)
  obtain ⟨n9, hD⟩ := hD
  exact sl_X8_clear_37 X hr hlk  Q o ho  n9 0 σ_7 _ _ _  hw (lv_sub hl [1, 0] rfl) hD
theorem c_X8_clear (l : Launch) (G : GC) (o : Nat) (σ : GSt) (Q : GSt → Prop) (ho : kd o = 8) (hD : D_X8_clear o σ Q) : MV l ym_X8_clear cm_X8_clear 2 rm_X8_clear G σ [.ref (G.2.1 o)] Q := by
  refine met_v (by decide) (Nat.le_of_ble_eq_true rfl) ?_
  intro p e s m args below meth c X hr hlk hw ls hl
  exact s_X8_clear_0 X hr hlk Q o ho  σ hw (lv_sub hl [0] rfl) hD
