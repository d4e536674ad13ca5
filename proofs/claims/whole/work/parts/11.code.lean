theorem hd_X1_isMeasured : ym_X1_isMeasured.cls = "GameLoom$Game" ∧ ym_X1_isMeasured.cls ≠ "java/lang/invoke/MethodHandle" ∧ ym_X1_isMeasured.cls ≠ "java/lang/invoke/VarHandle" ∧ (parseMethodDescriptor ym_X1_isMeasured.desc).map (fun d => d.parameters.length) = some 1 := by decide +kernel
abbrev rm_X1_isMeasured : Room := { frames := 0, cells := 0, slots := 0, locals := 0 }
theorem d_X1_isMeasured_0 : decode cm_X1_isMeasured 0 = .ok (.iload_n 1, 1) := by decide +kernel
theorem d_X1_isMeasured_1 : decode cm_X1_isMeasured 1 = .ok (.ifCond .lt 9, 3) := by decide +kernel
theorem d_X1_isMeasured_4 : decode cm_X1_isMeasured 4 = .ok (.iload_n 1, 1) := by decide +kernel
theorem d_X1_isMeasured_5 : decode cm_X1_isMeasured 5 = .ok (.bipush 6, 2) := by decide +kernel
theorem d_X1_isMeasured_7 : decode cm_X1_isMeasured 7 = .ok (.if_icmp .le 37, 3) := by decide +kernel
theorem d_X1_isMeasured_10 : decode cm_X1_isMeasured 10 = .ok (.iload_n 1, 1) := by decide +kernel
theorem d_X1_isMeasured_11 : decode cm_X1_isMeasured 11 = .ok (.bipush 10, 2) := by decide +kernel
theorem d_X1_isMeasured_13 : decode cm_X1_isMeasured 13 = .ok (.if_icmp .lt 14, 3) := by decide +kernel
theorem d_X1_isMeasured_16 : decode cm_X1_isMeasured 16 = .ok (.iload_n 1, 1) := by decide +kernel
theorem d_X1_isMeasured_17 : decode cm_X1_isMeasured 17 = .ok (.bipush 10, 2) := by decide +kernel
theorem d_X1_isMeasured_19 : decode cm_X1_isMeasured 19 = .ok (.aload_n 0, 1) := by decide +kernel
theorem d_X1_isMeasured_20 : decode cm_X1_isMeasured 20 = .ok (.getfield 35, 3) := by decide +kernel
theorem d_X1_isMeasured_23 : decode cm_X1_isMeasured 23 = .ok (.iadd, 1) := by decide +kernel
theorem d_X1_isMeasured_24 : decode cm_X1_isMeasured 24 = .ok (.if_icmp .lt 20, 3) := by decide +kernel
theorem d_X1_isMeasured_27 : decode cm_X1_isMeasured 27 = .ok (.iload_n 1, 1) := by decide +kernel
theorem d_X1_isMeasured_28 : decode cm_X1_isMeasured 28 = .ok (.bipush 20, 2) := by decide +kernel
theorem d_X1_isMeasured_30 : decode cm_X1_isMeasured 30 = .ok (.if_icmp .lt 18, 3) := by decide +kernel
theorem d_X1_isMeasured_33 : decode cm_X1_isMeasured 33 = .ok (.iload_n 1, 1) := by decide +kernel
theorem d_X1_isMeasured_34 : decode cm_X1_isMeasured 34 = .ok (.bipush 20, 2) := by decide +kernel
theorem d_X1_isMeasured_36 : decode cm_X1_isMeasured 36 = .ok (.aload_n 0, 1) := by decide +kernel
theorem d_X1_isMeasured_37 : decode cm_X1_isMeasured 37 = .ok (.getfield 42, 3) := by decide +kernel
theorem d_X1_isMeasured_40 : decode cm_X1_isMeasured 40 = .ok (.iadd, 1) := by decide +kernel
theorem d_X1_isMeasured_41 : decode cm_X1_isMeasured 41 = .ok (.if_icmp .ge 7, 3) := by decide +kernel
theorem d_X1_isMeasured_44 : decode cm_X1_isMeasured 44 = .ok (.iconst 1, 1) := by decide +kernel
theorem d_X1_isMeasured_45 : decode cm_X1_isMeasured 45 = .ok (.goto 4, 3) := by decide +kernel
theorem d_X1_isMeasured_48 : decode cm_X1_isMeasured 48 = .ok (.iconst 0, 1) := by decide +kernel
theorem d_X1_isMeasured_49 : decode cm_X1_isMeasured 49 = .ok (.ireturn, 1) := by decide +kernel
def D_X1_isMeasured_44 (Q : Int32 → GSt → Prop) (o : Nat) (σ : GSt) : Prop :=
  Q 1 σ
def D_X1_isMeasured_27 (Q : Int32 → GSt → Prop) (o : Nat) (x1 : Int32) (σ : GSt) : Prop :=
  (x1 < 20 → Q 0 σ) ∧
  (¬ x1 < 20 → ((20 + (σ o 7)) ≤ x1 → Q 0 σ) ∧
  (¬ (20 + (σ o 7)) ≤ x1 → D_X1_isMeasured_44 Q o σ))
def D_X1_isMeasured_10 (Q : Int32 → GSt → Prop) (o : Nat) (x1 : Int32) (σ : GSt) : Prop :=
  (x1 < 10 → D_X1_isMeasured_27 Q o x1 σ) ∧
  (¬ x1 < 10 → (x1 < (10 + (σ o 5)) → D_X1_isMeasured_44 Q o σ) ∧
  (¬ x1 < (10 + (σ o 5)) → D_X1_isMeasured_27 Q o x1 σ))
def D_X1_isMeasured_0 (Q : Int32 → GSt → Prop) (o : Nat) (x1 : Int32) (σ : GSt) : Prop :=
  (x1 < 0 → D_X1_isMeasured_10 Q o x1 σ) ∧
  (¬ x1 < 0 → (x1 ≤ 6 → D_X1_isMeasured_44 Q o σ) ∧
  (¬ x1 ≤ 6 → D_X1_isMeasured_10 Q o x1 σ))
def D_X1_isMeasured (o : Nat) (x1 : Int32) (σ : GSt) (Q : Int32 → GSt → Prop) : Prop := D_X1_isMeasured_0 Q o x1 σ
set_option maxRecDepth 20000 in
set_option maxHeartbeats 4000000 in
theorem s_X1_isMeasured_44 {p : Program} {l : Launch} {e : Env} {s : State} {m : MethodId} {args : Array Value} {below : List Frame} {meth : Method} {c : Code} {G : GC} (X : CallFix p m c cm_X1_isMeasured 2 s args lw_us "GameLoom$Game") (hr : meth.sig.returnType = some .boolean) (hlk : meth.locks = false) (Q : Int32 → GSt → Prop) (o : Nat) (ho : kd o = 1) (σ : GSt) {H : Heap} {locs : List Loc} {ls : Array Slot} (hw : Wo G s H locs σ) (hl : lv_has ls 2 [(0, .ref (G.2.1 o))]) (hD : D_X1_isMeasured_44 Q o σ) : W p l e rm_X1_isMeasured s m args below meth c H locs 0 0 (QMI G Q below args s) (F0 m 44 ls []) := by
  unfold D_X1_isMeasured_44 at hD
  refine lv_iconst (v := 1) X.1 X.2.1 d_X1_isMeasured_44 (by decide) ?_
  refine lv_goto (tgt := 49) X.1 X.2.1 d_X1_isMeasured_45 (by decide) ?_
  exact g_zret X hr hlk hw (by decide) hD d_X1_isMeasured_49
set_option maxRecDepth 20000 in
set_option maxHeartbeats 4000000 in
theorem s_X1_isMeasured_27 {p : Program} {l : Launch} {e : Env} {s : State} {m : MethodId} {args : Array Value} {below : List Frame} {meth : Method} {c : Code} {G : GC} (X : CallFix p m c cm_X1_isMeasured 2 s args lw_us "GameLoom$Game") (hr : meth.sig.returnType = some .boolean) (hlk : meth.locks = false) (Q : Int32 → GSt → Prop) (o : Nat) (ho : kd o = 1) (x1 : Int32) (σ : GSt) {H : Heap} {locs : List Loc} {ls : Array Slot} (hw : Wo G s H locs σ) (hl : lv_has ls 2 [(0, .ref (G.2.1 o)), (1, .int x1)]) (hD : D_X1_isMeasured_27 Q o x1 σ) : W p l e rm_X1_isMeasured s m args below meth c H locs 0 0 (QMI G Q below args s) (F0 m 27 ls []) := by
  unfold D_X1_isMeasured_27 at hD
  refine lv_iload_n X.1 X.2.1 d_X1_isMeasured_27 rfl (lv_at hl 1 rfl) ?_
  refine lv_bipush (v := 20) X.1 X.2.1 d_X1_isMeasured_28 (by decide) ?_
  refine lv_icmp_lt (tgt := 48) X.1 X.2.1 d_X1_isMeasured_30 (by decide) (fun q_30 => ?_) (fun q_30 => ?_)
  · have hD := hD.1 q_30
    refine lv_iconst (v := 0) X.1 X.2.1 d_X1_isMeasured_48 (by decide) ?_
    exact g_zret X hr hlk hw (by decide) hD d_X1_isMeasured_49
  · have hD := hD.2 q_30
    refine lv_iload_n X.1 X.2.1 d_X1_isMeasured_33 rfl (lv_at hl 1 rfl) ?_
    refine lv_bipush (v := 20) X.1 X.2.1 d_X1_isMeasured_34 (by decide) ?_
    refine lv_aload_n X.1 X.2.1 d_X1_isMeasured_36 rfl (lv_at hl 0 rfl) ?_
    refine gf_1_7 X hw ho tb_174 d_X1_isMeasured_37 ?_
    refine lv_iadd X.1 X.2.1 d_X1_isMeasured_40 ?_
    refine lv_icmp_ge (tgt := 48) X.1 X.2.1 d_X1_isMeasured_41 (by decide) (fun q_41 => ?_) (fun q_41 => ?_)
    · have hD := hD.1 q_41
      refine lv_iconst (v := 0) X.1 X.2.1 d_X1_isMeasured_48 (by decide) ?_
      exact g_zret X hr hlk hw (by decide) hD d_X1_isMeasured_49
    · have hD := hD.2 q_41
      exact s_X1_isMeasured_44 X hr hlk  Q o ho   σ hw (lv_sub hl [0] rfl) hD
set_option maxRecDepth 20000 in
set_option maxHeartbeats 4000000 in
theorem s_X1_isMeasured_10 {p : Program} {l : Launch} {e : Env} {s : State} {m : MethodId} {args : Array Value} {below : List Frame} {meth : Method} {c : Code} {G : GC} (X : CallFix p m c cm_X1_isMeasured 2 s args lw_us "GameLoom$Game") (hr : meth.sig.returnType = some .boolean) (hlk : meth.locks = false) (Q : Int32 → GSt → Prop) (o : Nat) (ho : kd o = 1) (x1 : Int32) (σ : GSt) {H : Heap} {locs : List Loc} {ls : Array Slot} (hw : Wo G s H locs σ) (hl : lv_has ls 2 [(0, .ref (G.2.1 o)), (1, .int x1)]) (hD : D_X1_isMeasured_10 Q o x1 σ) : W p l e rm_X1_isMeasured s m args below meth c H locs 0 0 (QMI G Q below args s) (F0 m 10 ls []) := by
  unfold D_X1_isMeasured_10 at hD
  refine lv_iload_n X.1 X.2.1 d_X1_isMeasured_10 rfl (lv_at hl 1 rfl) ?_
  refine lv_bipush (v := 10) X.1 X.2.1 d_X1_isMeasured_11 (by decide) ?_
  refine lv_icmp_lt (tgt := 27) X.1 X.2.1 d_X1_isMeasured_13 (by decide) (fun q_13 => ?_) (fun q_13 => ?_)
  · have hD := hD.1 q_13
    exact s_X1_isMeasured_27 X hr hlk  Q o ho  x1 σ hw (lv_sub hl [0, 1] rfl) hD
  · have hD := hD.2 q_13
    refine lv_iload_n X.1 X.2.1 d_X1_isMeasured_16 rfl (lv_at hl 1 rfl) ?_
    refine lv_bipush (v := 10) X.1 X.2.1 d_X1_isMeasured_17 (by decide) ?_
    refine lv_aload_n X.1 X.2.1 d_X1_isMeasured_19 rfl (lv_at hl 0 rfl) ?_
    refine gf_1_5 X hw ho tb_166 d_X1_isMeasured_20 ?_
    refine lv_iadd X.1 X.2.1 d_X1_isMeasured_23 ?_
    refine lv_icmp_lt (tgt := 44) X.1 X.2.1 d_X1_isMeasured_24 (by decide) (fun q_24 => ?_) (fun q_24 => ?_)
    · have hD := hD.1 q_24
      exact s_X1_isMeasured_44 X hr hlk  Q o ho   σ hw (lv_sub hl [0] rfl) hD
    · have hD := hD.2 q_24
      exact s_X1_isMeasured_27 X hr hlk  Q o ho  x1 σ hw (lv_sub hl [0, 1] rfl) hD
set_option maxRecDepth 20000 in
set_option maxHeartbeats 4000000 in
theorem s_X1_isMeasured_0 {p : Program} {l : Launch} {e : Env} {s : State} {m : MethodId} {args : Array Value} {below : List Frame} {meth : Method} {c : Code} {G : GC} (X : CallFix p m c cm_X1_isMeasured 2 s args lw_us "GameLoom$Game") (hr : meth.sig.returnType = some .boolean) (hlk : meth.locks = false) (Q : Int32 → GSt → Prop) (o : Nat) (ho : kd o = 1) (x1 : Int32) (σ : GSt) {H : Heap} {locs : List Loc} {ls : Array Slot} (hw : Wo G s H locs σ) (hl : lv_has ls 2 [(0, .ref (G.2.1 o)), (1, .int x1)]) (hD : D_X1_isMeasured_0 Q o x1 σ) : W p l e rm_X1_isMeasured s m args below meth c H locs 0 0 (QMI G Q below args s) (F0 m 0 ls []) := by
  unfold D_X1_isMeasured_0 at hD
  refine lv_iload_n X.1 X.2.1 d_X1_isMeasured_0 rfl (lv_at hl 1 rfl) ?_
  refine lv_if_lt (tgt := 10) X.1 X.2.1 d_X1_isMeasured_1 (by decide) (fun q_1 => ?_) (fun q_1 => ?_)
  · have hD := hD.1 q_1
    exact s_X1_isMeasured_10 X hr hlk  Q o ho  x1 σ hw (lv_sub hl [0, 1] rfl) hD
  · have hD := hD.2 q_1
    refine lv_iload_n X.1 X.2.1 d_X1_isMeasured_4 rfl (lv_at hl 1 rfl) ?_
    refine lv_bipush (v := 6) X.1 X.2.1 d_X1_isMeasured_5 (by decide) ?_
    refine lv_icmp_le (tgt := 44) X.1 X.2.1 d_X1_isMeasured_7 (by decide) (fun q_7 => ?_) (fun q_7 => ?_)
    · have hD := hD.1 q_7
      exact s_X1_isMeasured_44 X hr hlk  Q o ho   σ hw (lv_sub hl [0] rfl) hD
    · have hD := hD.2 q_7
      exact s_X1_isMeasured_10 X hr hlk  Q o ho  x1 σ hw (lv_sub hl [0, 1] rfl) hD
theorem c_X1_isMeasured (l : Launch) (G : GC) (o : Nat) (x1 : Int32) (σ : GSt) (Q : Int32 → GSt → Prop) (ho : kd o = 1) (hD : D_X1_isMeasured o x1 σ Q) : MI l ym_X1_isMeasured cm_X1_isMeasured 2 .boolean rm_X1_isMeasured G σ [.ref (G.2.1 o), .int x1] Q := by
  refine met_i (by decide) (Nat.le_of_ble_eq_true rfl) ?_
  intro p e s m args below meth c X hr hlk hw ls hl
  exact s_X1_isMeasured_0 X hr hlk Q o ho x1 σ hw (lv_sub hl [0, 1] rfl) hD
theorem hd_X9_add : ym_X9_add.cls = "GameLoom$Text" ∧ ym_X9_add.cls ≠ "java/lang/invoke/MethodHandle" ∧ ym_X9_add.cls ≠ "java/lang/invoke/VarHandle" ∧ (parseMethodDescriptor ym_X9_add.desc).map (fun d => d.parameters.length) = some 1 := by decide +kernel
abbrev rm_X9_add : Room := { frames := 0, cells := 0, slots := 0, locals := 0 }
theorem d_X9_add_0 : decode cm_X9_add 0 = .ok (.aload_n 0, 1) := by decide +kernel
theorem d_X9_add_1 : decode cm_X9_add 1 = .ok (.getfield 15, 3) := by decide +kernel
theorem d_X9_add_4 : decode cm_X9_add 4 = .ok (.bipush 90, 2) := by decide +kernel
theorem d_X9_add_6 : decode cm_X9_add 6 = .ok (.if_icmp .ge 23, 3) := by decide +kernel
theorem d_X9_add_9 : decode cm_X9_add 9 = .ok (.aload_n 0, 1) := by decide +kernel
theorem d_X9_add_10 : decode cm_X9_add 10 = .ok (.getfield 9, 3) := by decide +kernel
theorem d_X9_add_13 : decode cm_X9_add 13 = .ok (.aload_n 0, 1) := by decide +kernel
theorem d_X9_add_14 : decode cm_X9_add 14 = .ok (.getfield 15, 3) := by decide +kernel
theorem d_X9_add_17 : decode cm_X9_add 17 = .ok (.iload_n 1, 1) := by decide +kernel
theorem d_X9_add_18 : decode cm_X9_add 18 = .ok (.iastore, 1) := by decide +kernel
theorem d_X9_add_19 : decode cm_X9_add 19 = .ok (.aload_n 0, 1) := by decide +kernel
theorem d_X9_add_20 : decode cm_X9_add 20 = .ok (.dup, 1) := by decide +kernel
theorem d_X9_add_21 : decode cm_X9_add 21 = .ok (.getfield 15, 3) := by decide +kernel
theorem d_X9_add_24 : decode cm_X9_add 24 = .ok (.iconst 1, 1) := by decide +kernel
theorem d_X9_add_25 : decode cm_X9_add 25 = .ok (.iadd, 1) := by decide +kernel
theorem d_X9_add_26 : decode cm_X9_add 26 = .ok (.putfield 15, 3) := by decide +kernel
theorem d_X9_add_29 : decode cm_X9_add 29 = .ok (.return_, 1) := by decide +kernel
def D_X9_add_0 (Q : GSt → Prop) (o : Nat) (x1 : Int32) (σ : GSt) : Prop :=
  (90 ≤ (σ o 1) → Q σ) ∧
  (¬ 90 ≤ (σ o 1) → vp_in (σ o 1) 90 ∧ (∀ σ_1 : GSt, σ_1 = up2 σ (o + 1) (Int32.toNatClampNeg (σ o 1)) x1 → (∀ σ_2 : GSt, σ_2 = up2 σ_1 o 1 ((σ_1 o 1) + 1) → (Q σ_2))))
def D_X9_add (o : Nat) (x1 : Int32) (σ : GSt) (Q : GSt → Prop) : Prop := D_X9_add_0 Q o x1 σ
set_option maxRecDepth 20000 in
set_option maxHeartbeats 4000000 in
theorem s_X9_add_0 {p : Program} {l : Launch} {e : Env} {s : State} {m : MethodId} {args : Array Value} {below : List Frame} {meth : Method} {c : Code} {G : GC} (X : CallFix p m c cm_X9_add 2 s args lw_us "GameLoom$Text") (hr : meth.sig.returnType = none) (hlk : meth.locks = false) (Q : GSt → Prop) (o : Nat) (ho : kd o = 9) (x1 : Int32) (σ : GSt) {H : Heap} {locs : List Loc} {ls : Array Slot} (hw : Wo G s H locs σ) (hl : lv_has ls 2 [(0, .ref (G.2.1 o)), (1, .int x1)]) (hD : D_X9_add_0 Q o x1 σ) : W p l e rm_X9_add s m args below meth c H locs 0 0 (QMV G Q below args s) (F0 m 0 ls []) := by
  unfold D_X9_add_0 at hD
  refine lv_aload_n X.1 X.2.1 d_X9_add_0 rfl (lv_at hl 0 rfl) ?_
  refine gf_9_1 X hw ho tb_32 d_X9_add_1 ?_
  refine lv_bipush (v := 90) X.1 X.2.1 d_X9_add_4 (by decide) ?_
  refine lv_icmp_ge (tgt := 29) X.1 X.2.1 d_X9_add_6 (by decide) (fun q_6 => ?_) (fun q_6 => ?_)
  · have hD := hD.1 q_6
    exact g_vret X hr hlk hw hD d_X9_add_29
  · have hD := hD.2 q_6
    refine lv_aload_n X.1 X.2.1 d_X9_add_9 rfl (lv_at hl 0 rfl) ?_
    refine gf_9_0 X hw ho tb_30 d_X9_add_10 ?_
    refine lv_aload_n X.1 X.2.1 d_X9_add_13 rfl (lv_at hl 0 rfl) ?_
    refine gf_9_1 X hw ho tb_32 d_X9_add_14 ?_
    refine lv_iload_n X.1 X.2.1 d_X9_add_17 rfl (lv_at hl 1 rfl) ?_
    obtain ⟨q_18, hD⟩ := hD
    refine g_iast X hw (ly_9_0 ho).1 (ly_9_0 ho).2 q_18 d_X9_add_18 (fun H locs hw => ?_)
    obtain ⟨σ_1, e_σ_1⟩ : ∃ z : GSt, z = up2 σ (o + 1) (Int32.toNatClampNeg (σ o 1)) x1 := ⟨_, rfl⟩
    rw [← e_σ_1] at hw
    have hD := hD σ_1 e_σ_1
    refine lv_aload_n X.1 X.2.1 d_X9_add_19 rfl (lv_at hl 0 rfl) ?_
    refine lv_dup X.1 X.2.1 d_X9_add_20 rfl ?_
    refine gf_9_1 X hw ho tb_32 d_X9_add_21 ?_
    refine lv_iconst (v := 1) X.1 X.2.1 d_X9_add_24 (by decide) ?_
    refine lv_iadd X.1 X.2.1 d_X9_add_25 ?_
    refine pf_9_1 X hw ho tb_32 d_X9_add_26 (fun H locs hw => ?_)
    obtain ⟨σ_2, e_σ_2⟩ : ∃ z : GSt, z = up2 σ_1 o 1 ((σ_1 o 1) + 1) := ⟨_, rfl⟩
    rw [← e_σ_2] at hw
    have hD := hD σ_2 e_σ_2
    exact g_vret X hr hlk hw hD d_X9_add_29
theorem c_X9_add (l : Launch) (G : GC) (o : Nat) (x1 : Int32) (σ : GSt) (Q : GSt → Prop) (ho : kd o = 9) (hD : D_X9_add o x1 σ Q) : MV l ym_X9_add cm_X9_add 2 rm_X9_add G σ [.ref (G.2.1 o), .int x1] Q := by
  refine met_v (by decide) (Nat.le_of_ble_eq_true rfl) ?_
  intro p e s m args below meth c X hr hlk hw ls hl
  exact s_X9_add_0 X hr hlk Q o ho x1 σ hw (lv_sub hl [0, 1] rfl) hD
theorem hd_X9_at : ym_X9_at.cls = "GameLoom$Text" ∧ ym_X9_at.cls ≠ "java/lang/invoke/MethodHandle" ∧ ym_X9_at.cls ≠ "java/lang/invoke/VarHandle" ∧ (parseMethodDescriptor ym_X9_at.desc).map (fun d => d.parameters.length) = some 1 := by decide +kernel
abbrev rm_X9_at : Room := { frames := 0, cells := 0, slots := 0, locals := 0 }
theorem d_X9_at_0 : decode cm_X9_at 0 = .ok (.iload_n 1, 1) := by decide +kernel
theorem d_X9_at_1 : decode cm_X9_at 1 = .ok (.ifCond .lt 20, 3) := by decide +kernel
theorem d_X9_at_4 : decode cm_X9_at 4 = .ok (.iload_n 1, 1) := by decide +kernel
theorem d_X9_at_5 : decode cm_X9_at 5 = .ok (.aload_n 0, 1) := by decide +kernel
theorem d_X9_at_6 : decode cm_X9_at 6 = .ok (.getfield 15, 3) := by decide +kernel
theorem d_X9_at_9 : decode cm_X9_at 9 = .ok (.if_icmp .ge 12, 3) := by decide +kernel
theorem d_X9_at_12 : decode cm_X9_at 12 = .ok (.aload_n 0, 1) := by decide +kernel
theorem d_X9_at_13 : decode cm_X9_at 13 = .ok (.getfield 9, 3) := by decide +kernel
theorem d_X9_at_16 : decode cm_X9_at 16 = .ok (.iload_n 1, 1) := by decide +kernel
theorem d_X9_at_17 : decode cm_X9_at 17 = .ok (.iaload, 1) := by decide +kernel
theorem d_X9_at_18 : decode cm_X9_at 18 = .ok (.goto 4, 3) := by decide +kernel
theorem d_X9_at_21 : decode cm_X9_at 21 = .ok (.iconst (-1), 1) := by decide +kernel
theorem d_X9_at_22 : decode cm_X9_at 22 = .ok (.ireturn, 1) := by decide +kernel
def D_X9_at_0 (Q : Int32 → GSt → Prop) (o : Nat) (x1 : Int32) (σ : GSt) : Prop :=
  (x1 < 0 → Q (-1) σ) ∧
  (¬ x1 < 0 → ((σ o 1) ≤ x1 → Q (-1) σ) ∧
  (¬ (σ o 1) ≤ x1 → vp_in x1 90 ∧ (Q (σ (o + 1) (Int32.toNatClampNeg x1)) σ)))
def D_X9_at (o : Nat) (x1 : Int32) (σ : GSt) (Q : Int32 → GSt → Prop) : Prop := D_X9_at_0 Q o x1 σ
set_option maxRecDepth 20000 in
set_option maxHeartbeats 4000000 in
theorem s_X9_at_0 {p : Program} {l : Launch} {e : Env} {s : State} {m : MethodId} {args : Array Value} {below : List Frame} {meth : Method} {c : Code} {G : GC} (X : CallFix p m c cm_X9_at 2 s args lw_us "GameLoom$Text") (hr : meth.sig.returnType = some .int) (hlk : meth.locks = false) (Q : Int32 → GSt → Prop) (o : Nat) (ho : kd o = 9) (x1 : Int32) (σ : GSt) {H : Heap} {locs : List Loc} {ls : Array Slot} (hw : Wo G s H locs σ) (hl : lv_has ls 2 [(0, .ref (G.2.1 o)), (1, .int x1)]) (hD : D_X9_at_0 Q o x1 σ) : W p l e rm_X9_at s m args below meth c H locs 0 0 (QMI G Q below args s) (F0 m 0 ls []) := by
  unfold D_X9_at_0 at hD
  refine lv_iload_n X.1 X.2.1 d_X9_at_0 rfl (lv_at hl 1 rfl) ?_
  refine lv_if_lt (tgt := 21) X.1 X.2.1 d_X9_at_1 (by decide) (fun q_1 => ?_) (fun q_1 => ?_)
  · have hD := hD.1 q_1
    refine lv_iconst (v := (-1)) X.1 X.2.1 d_X9_at_21 (by decide) ?_
    exact g_iret X hr hlk hw hD d_X9_at_22
  · have hD := hD.2 q_1
    refine lv_iload_n X.1 X.2.1 d_X9_at_4 rfl (lv_at hl 1 rfl) ?_
    refine lv_aload_n X.1 X.2.1 d_X9_at_5 rfl (lv_at hl 0 rfl) ?_
    refine gf_9_1 X hw ho tb_32 d_X9_at_6 ?_
    refine lv_icmp_ge (tgt := 21) X.1 X.2.1 d_X9_at_9 (by decide) (fun q_9 => ?_) (fun q_9 => ?_)
    · have hD := hD.1 q_9
      refine lv_iconst (v := (-1)) X.1 X.2.1 d_X9_at_21 (by decide) ?_
      exact g_iret X hr hlk hw hD d_X9_at_22
    · have hD := hD.2 q_9
      refine lv_aload_n X.1 X.2.1 d_X9_at_12 rfl (lv_at hl 0 rfl) ?_
      refine gf_9_0 X hw ho tb_30 d_X9_at_13 ?_
      refine lv_iload_n X.1 X.2.1 d_X9_at_16 rfl (lv_at hl 1 rfl) ?_
      obtain ⟨q_17, hD⟩ := hD
      refine g_iald X hw (ly_9_0 ho).1 (ly_9_0 ho).2 q_17 d_X9_at_17 ?_
      refine lv_goto (tgt := 22) X.1 X.2.1 d_X9_at_18 (by decide) ?_
      exact g_iret X hr hlk hw hD d_X9_at_22
theorem c_X9_at (l : Launch) (G : GC) (o : Nat) (x1 : Int32) (σ : GSt) (Q : Int32 → GSt → Prop) (ho : kd o = 9) (hD : D_X9_at o x1 σ Q) : MI l ym_X9_at cm_X9_at 2 .int rm_X9_at G σ [.ref (G.2.1 o), .int x1] Q := by
  refine met_i (by decide) (Nat.le_of_ble_eq_true rfl) ?_
  intro p e s m args below meth c X hr hlk hw ls hl
  exact s_X9_at_0 X hr hlk Q o ho x1 σ hw (lv_sub hl [0, 1] rfl) hD
theorem hd_X9_addPart : ym_X9_addPart.cls = "GameLoom$Text" ∧ ym_X9_addPart.cls ≠ "java/lang/invoke/MethodHandle" ∧ ym_X9_addPart.cls ≠ "java/lang/invoke/VarHandle" ∧ (parseMethodDescriptor ym_X9_addPart.desc).map (fun d => d.parameters.length) = some 3 := by decide +kernel
abbrev rm_X9_addPart : Room := { frames := 1, cells := 0, slots := 0, locals := 21 }
theorem d_X9_addPart_0 : decode cm_X9_addPart 0 = .ok (.iload_n 2, 1) := by decide +kernel
theorem d_X9_addPart_1 : decode cm_X9_addPart 1 = .ok (.istore 4, 2) := by decide +kernel
theorem d_X9_addPart_3 : decode cm_X9_addPart 3 = .ok (.iload 4, 2) := by decide +kernel
theorem d_X9_addPart_5 : decode cm_X9_addPart 5 = .ok (.iload_n 3, 1) := by decide +kernel
theorem d_X9_addPart_6 : decode cm_X9_addPart 6 = .ok (.if_icmp .ge 19, 3) := by decide +kernel
theorem d_X9_addPart_9 : decode cm_X9_addPart 9 = .ok (.aload_n 0, 1) := by decide +kernel
theorem d_X9_addPart_10 : decode cm_X9_addPart 10 = .ok (.aload_n 1, 1) := by decide +kernel
theorem d_X9_addPart_11 : decode cm_X9_addPart 11 = .ok (.iload 4, 2) := by decide +kernel
theorem d_X9_addPart_13 : decode cm_X9_addPart 13 = .ok (.invokevirtual 19, 3) := by decide +kernel
theorem d_X9_addPart_16 : decode cm_X9_addPart 16 = .ok (.invokevirtual 23, 3) := by decide +kernel
theorem d_X9_addPart_19 : decode cm_X9_addPart 19 = .ok (.iinc 4 1, 3) := by decide +kernel
theorem d_X9_addPart_22 : decode cm_X9_addPart 22 = .ok (.goto (-19), 3) := by decide +kernel
theorem d_X9_addPart_25 : decode cm_X9_addPart 25 = .ok (.return_, 1) := by decide +kernel
def D_X9_addPart_3 (K3 : Nat → Int32 → Int32 → GSt → Prop) (Q : GSt → Prop) (o : Nat) (r1 : Nat) (x3 : Int32) (x4 : Int32) (σ : GSt) : Prop :=
  (x3 ≤ x4 → Q σ) ∧
  (¬ x3 ≤ x4 → D_X9_at r1 x4 σ (fun r_1 σ_2 => D_X9_add o r_1 σ_2 (fun σ_3 => ∀ x4_4 : Int32, x4_4 = x4 + 1 → (K3 r1 x3 x4_4 σ_3))))
def L_X9_addPart_3 (Q : GSt → Prop) (o : Nat) : Nat → Nat → Int32 → Int32 → GSt → Prop
  | 0 => fun _ _ _ _ => False
  | n + 1 => fun r1 x3 x4 σ => D_X9_addPart_3 (L_X9_addPart_3 Q o n) Q o r1 x3 x4 σ
def D_X9_addPart_0 (Q : GSt → Prop) (o : Nat) (r1 : Nat) (x2 : Int32) (x3 : Int32) (σ : GSt) : Prop :=
  ∃ n : Nat, L_X9_addPart_3 Q o n r1 x3 x2 σ
def D_X9_addPart (o : Nat) (r1 : Nat) (x2 : Int32) (x3 : Int32) (σ : GSt) (Q : GSt → Prop) : Prop := D_X9_addPart_0 Q o r1 x2 x3 σ
set_option maxRecDepth 20000 in
set_option maxHeartbeats 4000000 in
theorem s_X9_addPart_3 {p : Program} {l : Launch} {e : Env} {s : State} {m : MethodId} {args : Array Value} {below : List Frame} {meth : Method} {c : Code} {G : GC} (X : CallFix p m c cm_X9_addPart 5 s args lw_us "GameLoom$Text") (hr : meth.sig.returnType = none) (hlk : meth.locks = false) (K3 : Nat → Int32 → Int32 → GSt → Prop) (Q : GSt → Prop) (o : Nat) (ho : kd o = 9) (hK3 : ∀ (r1 : Nat) (x3 : Int32) (x4 : Int32) (σ : GSt) (H : Heap) (locs : List Loc) (ls : Array Slot), kd r1 = 9 → Wo G s H locs σ → lv_has ls 5 [(0, .ref (G.2.1 o)), (1, .ref (G.2.1 r1)), (3, .int x3), (4, .int x4)] → K3 r1 x3 x4 σ → W p l e rm_X9_addPart s m args below meth c H locs 0 0 (QMV G Q below args s) (F0 m 3 ls [])) (r1 : Nat) (hk1 : kd r1 = 9) (x3 : Int32) (x4 : Int32) (σ : GSt) {H : Heap} {locs : List Loc} {ls : Array Slot} (hw : Wo G s H locs σ) (hl : lv_has ls 5 [(0, .ref (G.2.1 o)), (1, .ref (G.2.1 r1)), (3, .int x3), (4, .int x4)]) (hD : D_X9_addPart_3 K3 Q o r1 x3 x4 σ) : W p l e rm_X9_addPart s m args below meth c H locs 0 0 (QMV G Q below args s) (F0 m 3 ls []) := by
  unfold D_X9_addPart_3 at hD
  refine lv_iload X.1 X.2.1 d_X9_addPart_3 (lv_at hl 3 rfl) ?_
  refine lv_iload_n X.1 X.2.1 d_X9_addPart_5 rfl (lv_at hl 2 rfl) ?_
  refine lv_icmp_ge (tgt := 25) X.1 X.2.1 d_X9_addPart_6 (by decide) (fun q_6 => ?_) (fun q_6 => ?_)
  · have hD := hD.1 q_6
    exact g_vret X hr hlk hw hD d_X9_addPart_25
  · have hD := hD.2 q_6
    refine lv_aload_n X.1 X.2.1 d_X9_addPart_9 rfl (lv_at hl 0 rfl) ?_
    refine lv_aload_n X.1 X.2.1 d_X9_addPart_10 rfl (lv_at hl 1 rfl) ?_
    refine lv_iload X.1 X.2.1 d_X9_addPart_11 (lv_at hl 3 rfl) ?_
    refine gcV_i (rest := [.ref (G.2.1 o)]) (As := [.int x4]) (o := r1) X hw (c_X9_at l G r1 x4 σ _ hk1 hD) (kd_lt hk1 (by decide)) (ce_9 G _ hk1) rfl tb_520 tb_449 tb_450 tb_2 tb_451 hd_X9_at ⟨rfl, rfl⟩ ⟨Nat.le_of_ble_eq_true rfl, Nat.le_of_ble_eq_true rfl⟩ rfl hl.1 rfl (Nat.le_of_ble_eq_true rfl) d_X9_addPart_13 (fun r_1 σ_2 H locs hD hw => ?_)
    refine gcV_v (rest := []) (As := [.int r_1]) (o := o) X hw (c_X9_add l G o r_1 σ_2 _ ho hD) (kd_lt ho (by decide)) (ce_9 G _ ho) rfl tb_521 tb_425 tb_426 tb_2 tb_427 hd_X9_add ⟨rfl, rfl⟩ ⟨Nat.le_of_ble_eq_true rfl, Nat.le_of_ble_eq_true rfl⟩ rfl hl.1 rfl (Nat.le_of_ble_eq_true rfl) d_X9_addPart_16 (fun σ_3 H locs hD hw => ?_)
    obtain ⟨x4_4, e_x4_4⟩ : ∃ y : Int32, y = x4 + 1 := ⟨_, rfl⟩
    have hD := hD x4_4 e_x4_4
    refine lv_iinc (v := x4_4) (lv' := [(4, .int x4_4), (0, .ref (G.2.1 o)), (1, .ref (G.2.1 r1)), (3, .int x3)]) X.1 X.2.1 d_X9_addPart_19 hl (k := 3) rfl (by rw [e_x4_4]; rfl) (by decide) rfl (fun ls hl => ?_)
    refine lv_goto (tgt := 3) X.1 X.2.1 d_X9_addPart_22 (by decide) ?_
    exact hK3 r1 x3 x4_4 σ_3 _ _ _ hk1 hw (lv_sub hl [1, 2, 3, 0] rfl) hD
set_option maxRecDepth 20000 in
set_option maxHeartbeats 4000000 in
theorem sl_X9_addPart_3 {p : Program} {l : Launch} {e : Env} {s : State} {m : MethodId} {args : Array Value} {below : List Frame} {meth : Method} {c : Code} {G : GC} (X : CallFix p m c cm_X9_addPart 5 s args lw_us "GameLoom$Text") (hr : meth.sig.returnType = none) (hlk : meth.locks = false) (Q : GSt → Prop) (o : Nat) (ho : kd o = 9) : ∀ (nn : Nat), ∀ (r1 : Nat) (x3 : Int32) (x4 : Int32) (σ : GSt) (H : Heap) (locs : List Loc) (ls : Array Slot), kd r1 = 9 → Wo G s H locs σ → lv_has ls 5 [(0, .ref (G.2.1 o)), (1, .ref (G.2.1 r1)), (3, .int x3), (4, .int x4)] → L_X9_addPart_3 Q o nn r1 x3 x4 σ → W p l e rm_X9_addPart s m args below meth c H locs 0 0 (QMV G Q below args s) (F0 m 3 ls []) := by
  intro nn
  induction nn with
  | zero => intro r1 x3 x4 σ H locs ls hk1 hw hl hD; exact hD.elim
  | succ nn ih =>
    intro r1 x3 x4 σ H locs ls hk1 hw hl hD
    exact s_X9_addPart_3 X hr hlk (L_X9_addPart_3 Q o nn) Q o ho ih r1 hk1 x3 x4 σ hw hl hD
set_option maxRecDepth 20000 in
set_option maxHeartbeats 4000000 in
theorem s_X9_addPart_0 {p : Program} {l : Launch} {e : Env} {s : State} {m : MethodId} {args : Array Value} {below : List Frame} {meth : Method} {c : Code} {G : GC} (X : CallFix p m c cm_X9_addPart 5 s args lw_us "GameLoom$Text") (hr : meth.sig.returnType = none) (hlk : meth.locks = false) (Q : GSt → Prop) (o : Nat) (ho : kd o = 9) (r1 : Nat) (hk1 : kd r1 = 9) (x2 : Int32) (x3 : Int32) (σ : GSt) {H : Heap} {locs : List Loc} {ls : Array Slot} (hw : Wo G s H locs σ) (hl : lv_has ls 5 [(0, .ref (G.2.1 o)), (1, .ref (G.2.1 r1)), (2, .int x2), (3, .int x3)]) (hD : D_X9_addPart_0 Q o r1 x2 x3 σ) : W p l e rm_X9_addPart s m args below meth c H locs 0 0 (QMV G Q below args s) (F0 m 0 ls []) := by
  unfold D_X9_addPart_0 at hD
  refine lv_iload_n X.1 X.2.1 d_X9_addPart_0 rfl (lv_at hl 2 rfl) ?_
  refine lv_istore (lv' := [(4, .int x2), (0, .ref (G.2.1 o)), (1, .ref (G.2.1 r1)), (2, .int x2), (3, .int x3)]) X.1 X.2.1 d_X9_addPart_1 hl (by decide) rfl (fun ls hl => ?_)
  obtain ⟨n9, hD⟩ := hD
  exact sl_X9_addPart_3 X hr hlk  Q o ho  n9 r1 x3 x2 σ _ _ _ hk1 hw (lv_sub hl [1, 2, 4, 0] rfl) hD
theorem c_X9_addPart (l : Launch) (G : GC) (o : Nat) (r1 : Nat) (x2 : Int32) (x3 : Int32) (σ : GSt) (Q : GSt → Prop) (ho : kd o = 9) (hr1 : kd r1 = 9) (hD : D_X9_addPart o r1 x2 x3 σ Q) : MV l ym_X9_addPart cm_X9_addPart 5 rm_X9_addPart G σ [.ref (G.2.1 o), .ref (G.2.1 r1), .int x2, .int x3] Q := by
  refine met_v (by decide) (Nat.le_of_ble_eq_true rfl) ?_
  intro p e s m args below meth c X hr hlk hw ls hl
  exact s_X9_addPart_0 X hr hlk Q o ho r1 hr1 x2 x3 σ hw (lv_sub hl [0, 1, 2, 3] rfl) hD
theorem hd_X1_writeRule : ym_X1_writeRule.cls = "GameLoom$Game" ∧ ym_X1_writeRule.cls ≠ "java/lang/invoke/MethodHandle" ∧ ym_X1_writeRule.cls ≠ "java/lang/invoke/VarHandle" ∧ (parseMethodDescriptor ym_X1_writeRule.desc).map (fun d => d.parameters.length) = some 3 := by decide +kernel
abbrev rm_X1_writeRule : Room := { frames := 2, cells := 0, slots := 0, locals := 45 }
theorem d_X1_writeRule_0 : decode cm_X1_writeRule 0 = .ok (.iload_n 2, 1) := by decide +kernel
theorem d_X1_writeRule_1 : decode cm_X1_writeRule 1 = .ok (.ifCond .le 9, 3) := by decide +kernel
theorem d_X1_writeRule_4 : decode cm_X1_writeRule 4 = .ok (.aload_n 3, 1) := by decide +kernel
theorem d_X1_writeRule_5 : decode cm_X1_writeRule 5 = .ok (.bipush 44, 2) := by decide +kernel
theorem d_X1_writeRule_7 : decode cm_X1_writeRule 7 = .ok (.invokevirtual 62, 3) := by decide +kernel
theorem d_X1_writeRule_10 : decode cm_X1_writeRule 10 = .ok (.aload_n 3, 1) := by decide +kernel
theorem d_X1_writeRule_11 : decode cm_X1_writeRule 11 = .ok (.aload_n 0, 1) := by decide +kernel
theorem d_X1_writeRule_12 : decode cm_X1_writeRule 12 = .ok (.getfield 12, 3) := by decide +kernel
theorem d_X1_writeRule_15 : decode cm_X1_writeRule 15 = .ok (.aload_n 1, 1) := by decide +kernel
theorem d_X1_writeRule_16 : decode cm_X1_writeRule 16 = .ok (.getfield 66, 3) := by decide +kernel
theorem d_X1_writeRule_19 : decode cm_X1_writeRule 19 = .ok (.aload_n 1, 1) := by decide +kernel
theorem d_X1_writeRule_20 : decode cm_X1_writeRule 20 = .ok (.getfield 69, 3) := by decide +kernel
theorem d_X1_writeRule_23 : decode cm_X1_writeRule 23 = .ok (.invokevirtual 51, 3) := by decide +kernel
theorem d_X1_writeRule_26 : decode cm_X1_writeRule 26 = .ok (.return_, 1) := by decide +kernel
def D_X1_writeRule_10 (Q : GSt → Prop) (o : Nat) (r1 : Nat) (r3 : Nat) (σ : GSt) : Prop :=
  D_X9_addPart r3 (o + 1) (σ r1 4) (σ r1 5) σ (fun σ_1 => Q σ_1)
def D_X1_writeRule_0 (Q : GSt → Prop) (o : Nat) (r1 : Nat) (x2 : Int32) (r3 : Nat) (σ : GSt) : Prop :=
  (x2 ≤ 0 → D_X1_writeRule_10 Q o r1 r3 σ) ∧
  (¬ x2 ≤ 0 → D_X9_add r3 44 σ (fun σ_1 => D_X1_writeRule_10 Q o r1 r3 σ_1))
def D_X1_writeRule (o : Nat) (r1 : Nat) (x2 : Int32) (r3 : Nat) (σ : GSt) (Q : GSt → Prop) : Prop := D_X1_writeRule_0 Q o r1 x2 r3 σ
set_option maxRecDepth 20000 in
set_option maxHeartbeats 4000000 in
theorem s_X1_writeRule_10 {p : Program} {l : Launch} {e : Env} {s : State} {m : MethodId} {args : Array Value} {below : List Frame} {meth : Method} {c : Code} {G : GC} (X : CallFix p m c cm_X1_writeRule 4 s args lw_us "GameLoom$Game") (hr : meth.sig.returnType = none) (hlk : meth.locks = false) (Q : GSt → Prop) (o : Nat) (ho : kd o = 1) (r1 : Nat) (hk1 : kd r1 = 7) (r3 : Nat) (hk3 : kd r3 = 9) (σ : GSt) {H : Heap} {locs : List Loc} {ls : Array Slot} (hw : Wo G s H locs σ) (hl : lv_has ls 4 [(0, .ref (G.2.1 o)), (1, .ref (G.2.1 r1)), (3, .ref (G.2.1 r3))]) (hD : D_X1_writeRule_10 Q o r1 r3 σ) : W p l e rm_X1_writeRule s m args below meth c H locs 0 0 (QMV G Q below args s) (F0 m 10 ls []) := by
  unfold D_X1_writeRule_10 at hD
  refine lv_aload_n X.1 X.2.1 d_X1_writeRule_10 rfl (lv_at hl 2 rfl) ?_
  refine lv_aload_n X.1 X.2.1 d_X1_writeRule_11 rfl (lv_at hl 0 rfl) ?_
  refine gf_1_0 X hw ho tb_152 d_X1_writeRule_12 ?_
  refine lv_aload_n X.1 X.2.1 d_X1_writeRule_15 rfl (lv_at hl 1 rfl) ?_
  refine gf_7_4 X hw hk1 tb_135 d_X1_writeRule_16 ?_
  refine lv_aload_n X.1 X.2.1 d_X1_writeRule_19 rfl (lv_at hl 1 rfl) ?_
  refine gf_7_5 X hw hk1 tb_137 d_X1_writeRule_20 ?_
  refine gcV_v (rest := []) (As := [.ref (G.2.1 (o + 1)), .int (σ r1 4), .int (σ r1 5)]) (o := r3) X hw (c_X9_addPart l G r3 (o + 1) (σ r1 4) (σ r1 5) σ _ hk3 (ly_1_0 ho) hD) (kd_lt hk3 (by decide)) (ce_9 G _ hk3) rfl tb_792 tb_517 tb_518 tb_2 tb_519 hd_X9_addPart ⟨rfl, rfl⟩ ⟨Nat.le_of_ble_eq_true rfl, Nat.le_of_ble_eq_true rfl⟩ rfl hl.1 rfl (Nat.le_of_ble_eq_true rfl) d_X1_writeRule_23 (fun σ_1 H locs hD hw => ?_)
  exact g_vret X hr hlk hw hD d_X1_writeRule_26
set_option maxRecDepth 20000 in
set_option maxHeartbeats 4000000 in
theorem s_X1_writeRule_0 {p : Program} {l : Launch} {e : Env} {s : State} {m : MethodId} {args : Array Value} {below : List Frame} {meth : Method} {c : Code} {G : GC} (X : CallFix p m c cm_X1_writeRule 4 s args lw_us "GameLoom$Game") (hr : meth.sig.returnType = none) (hlk : meth.locks = false) (Q : GSt → Prop) (o : Nat) (ho : kd o = 1) (r1 : Nat) (hk1 : kd r1 = 7) (x2 : Int32) (r3 : Nat) (hk3 : kd r3 = 9) (σ : GSt) {H : Heap} {locs : List Loc} {ls : Array Slot} (hw : Wo G s H locs σ) (hl : lv_has ls 4 [(0, .ref (G.2.1 o)), (1, .ref (G.2.1 r1)), (2, .int x2), (3, .ref (G.2.1 r3))]) (hD : D_X1_writeRule_0 Q o r1 x2 r3 σ) : W p l e rm_X1_writeRule s m args below meth c H locs 0 0 (QMV G Q below args s) (F0 m 0 ls []) := by
  unfold D_X1_writeRule_0 at hD
  refine lv_iload_n X.1 X.2.1 d_X1_writeRule_0 rfl (lv_at hl 2 rfl) ?_
  refine lv_if_le (tgt := 10) X.1 X.2.1 d_X1_writeRule_1 (by decide) (fun q_1 => ?_) (fun q_1 => ?_)
  · have hD := hD.1 q_1
    exact s_X1_writeRule_10 X hr hlk  Q o ho  r1 hk1 r3 hk3 σ hw (lv_sub hl [0, 1, 3] rfl) hD
  · have hD := hD.2 q_1
    refine lv_aload_n X.1 X.2.1 d_X1_writeRule_4 rfl (lv_at hl 3 rfl) ?_
    refine lv_bipush (v := 44) X.1 X.2.1 d_X1_writeRule_5 (by decide) ?_
    refine gcV_v (rest := []) (As := [.int 44]) (o := r3) X hw (c_X9_add l G r3 44 σ _ hk3 hD) (kd_lt hk3 (by decide)) (ce_9 G _ hk3) rfl tb_797 tb_425 tb_426 tb_2 tb_427 hd_X9_add ⟨rfl, rfl⟩ ⟨Nat.le_of_ble_eq_true rfl, Nat.le_of_ble_eq_true rfl⟩ rfl hl.1 rfl (Nat.le_of_ble_eq_true rfl) d_X1_writeRule_7 (fun σ_1 H locs hD hw => ?_)
    exact s_X1_writeRule_10 X hr hlk  Q o ho  r1 hk1 r3 hk3 σ_1 hw (lv_sub hl [0, 1, 3] rfl) hD
theorem c_X1_writeRule (l : Launch) (G : GC) (o : Nat) (r1 : Nat) (x2 : Int32) (r3 : Nat) (σ : GSt) (Q : GSt → Prop) (ho : kd o = 1) (hr1 : kd r1 = 7) (hr3 : kd r3 = 9) (hD : D_X1_writeRule o r1 x2 r3 σ Q) : MV l ym_X1_writeRule cm_X1_writeRule 4 rm_X1_writeRule G σ [.ref (G.2.1 o), .ref (G.2.1 r1), .int x2, .ref (G.2.1 r3)] Q := by
  refine met_v (by decide) (Nat.le_of_ble_eq_true rfl) ?_
  intro p e s m args below meth c X hr hlk hw ls hl
  exact s_X1_writeRule_0 X hr hlk Q o ho r1 hr1 x2 r3 hr3 σ hw (lv_sub hl [0, 1, 2, 3] rfl) hD
theorem hd_X1_writeWithoutMove : ym_X1_writeWithoutMove.cls = "GameLoom$Game" ∧ ym_X1_writeWithoutMove.cls ≠ "java/lang/invoke/MethodHandle" ∧ ym_X1_writeWithoutMove.cls ≠ "java/lang/invoke/VarHandle" ∧ (parseMethodDescriptor ym_X1_writeWithoutMove.desc).map (fun d => d.parameters.length) = some 2 := by decide +kernel
abbrev rm_X1_writeWithoutMove : Room := { frames := 3, cells := 0, slots := 0, locals := 68 }
theorem d_X1_writeWithoutMove_0 : decode cm_X1_writeWithoutMove 0 = .ok (.aload_n 2, 1) := by decide +kernel
theorem d_X1_writeWithoutMove_1 : decode cm_X1_writeWithoutMove 1 = .ok (.iconst 0, 1) := by decide +kernel
theorem d_X1_writeWithoutMove_2 : decode cm_X1_writeWithoutMove 2 = .ok (.putfield 45, 3) := by decide +kernel
theorem d_X1_writeWithoutMove_5 : decode cm_X1_writeWithoutMove 5 = .ok (.aload_n 2, 1) := by decide +kernel
theorem d_X1_writeWithoutMove_6 : decode cm_X1_writeWithoutMove 6 = .ok (.aload_n 0, 1) := by decide +kernel
theorem d_X1_writeWithoutMove_7 : decode cm_X1_writeWithoutMove 7 = .ok (.getfield 12, 3) := by decide +kernel
theorem d_X1_writeWithoutMove_10 : decode cm_X1_writeWithoutMove 10 = .ok (.iconst 0, 1) := by decide +kernel
theorem d_X1_writeWithoutMove_11 : decode cm_X1_writeWithoutMove 11 = .ok (.aload_n 0, 1) := by decide +kernel
theorem d_X1_writeWithoutMove_12 : decode cm_X1_writeWithoutMove 12 = .ok (.getfield 48, 3) := by decide +kernel
theorem d_X1_writeWithoutMove_15 : decode cm_X1_writeWithoutMove 15 = .ok (.invokevirtual 51, 3) := by decide +kernel
theorem d_X1_writeWithoutMove_18 : decode cm_X1_writeWithoutMove 18 = .ok (.iconst 0, 1) := by decide +kernel
theorem d_X1_writeWithoutMove_19 : decode cm_X1_writeWithoutMove 19 = .ok (.istore_n 3, 1) := by decide +kernel
theorem d_X1_writeWithoutMove_20 : decode cm_X1_writeWithoutMove 20 = .ok (.iconst 0, 1) := by decide +kernel
theorem d_X1_writeWithoutMove_21 : decode cm_X1_writeWithoutMove 21 = .ok (.istore 4, 2) := by decide +kernel
theorem d_X1_writeWithoutMove_23 : decode cm_X1_writeWithoutMove 23 = .ok (.iload 4, 2) := by decide +kernel
theorem d_X1_writeWithoutMove_25 : decode cm_X1_writeWithoutMove 25 = .ok (.aload_n 0, 1) := by decide +kernel
theorem d_X1_writeWithoutMove_26 : decode cm_X1_writeWithoutMove 26 = .ok (.getfield 35, 3) := by decide +kernel
theorem d_X1_writeWithoutMove_29 : decode cm_X1_writeWithoutMove 29 = .ok (.if_icmp .ge 31, 3) := by decide +kernel
theorem d_X1_writeWithoutMove_32 : decode cm_X1_writeWithoutMove 32 = .ok (.iload 4, 2) := by decide +kernel
theorem d_X1_writeWithoutMove_34 : decode cm_X1_writeWithoutMove 34 = .ok (.iload_n 1, 1) := by decide +kernel
theorem d_X1_writeWithoutMove_35 : decode cm_X1_writeWithoutMove 35 = .ok (.if_icmp .eq 19, 3) := by decide +kernel
theorem d_X1_writeWithoutMove_38 : decode cm_X1_writeWithoutMove 38 = .ok (.aload_n 0, 1) := by decide +kernel
theorem d_X1_writeWithoutMove_39 : decode cm_X1_writeWithoutMove 39 = .ok (.aload_n 0, 1) := by decide +kernel
theorem d_X1_writeWithoutMove_40 : decode cm_X1_writeWithoutMove 40 = .ok (.getfield 27, 3) := by decide +kernel
theorem d_X1_writeWithoutMove_43 : decode cm_X1_writeWithoutMove 43 = .ok (.iload 4, 2) := by decide +kernel
theorem d_X1_writeWithoutMove_45 : decode cm_X1_writeWithoutMove 45 = .ok (.aaload, 1) := by decide +kernel
theorem d_X1_writeWithoutMove_46 : decode cm_X1_writeWithoutMove 46 = .ok (.iload_n 3, 1) := by decide +kernel
theorem d_X1_writeWithoutMove_47 : decode cm_X1_writeWithoutMove 47 = .ok (.aload_n 2, 1) := by decide +kernel
theorem d_X1_writeWithoutMove_48 : decode cm_X1_writeWithoutMove 48 = .ok (.invokevirtual 55, 3) := by decide +kernel
theorem d_X1_writeWithoutMove_51 : decode cm_X1_writeWithoutMove 51 = .ok (.iinc 3 1, 3) := by decide +kernel
theorem d_X1_writeWithoutMove_54 : decode cm_X1_writeWithoutMove 54 = .ok (.iinc 4 1, 3) := by decide +kernel
theorem d_X1_writeWithoutMove_57 : decode cm_X1_writeWithoutMove 57 = .ok (.goto (-34), 3) := by decide +kernel
theorem d_X1_writeWithoutMove_60 : decode cm_X1_writeWithoutMove 60 = .ok (.aload_n 2, 1) := by decide +kernel
theorem d_X1_writeWithoutMove_61 : decode cm_X1_writeWithoutMove 61 = .ok (.aload_n 0, 1) := by decide +kernel
theorem d_X1_writeWithoutMove_62 : decode cm_X1_writeWithoutMove 62 = .ok (.getfield 12, 3) := by decide +kernel
theorem d_X1_writeWithoutMove_65 : decode cm_X1_writeWithoutMove 65 = .ok (.aload_n 0, 1) := by decide +kernel
theorem d_X1_writeWithoutMove_66 : decode cm_X1_writeWithoutMove 66 = .ok (.getfield 59, 3) := by decide +kernel
theorem d_X1_writeWithoutMove_69 : decode cm_X1_writeWithoutMove 69 = .ok (.iconst 1, 1) := by decide +kernel
theorem d_X1_writeWithoutMove_70 : decode cm_X1_writeWithoutMove 70 = .ok (.isub, 1) := by decide +kernel
theorem d_X1_writeWithoutMove_71 : decode cm_X1_writeWithoutMove 71 = .ok (.aload_n 0, 1) := by decide +kernel
theorem d_X1_writeWithoutMove_72 : decode cm_X1_writeWithoutMove 72 = .ok (.getfield 12, 3) := by decide +kernel
theorem d_X1_writeWithoutMove_75 : decode cm_X1_writeWithoutMove 75 = .ok (.getfield 45, 3) := by decide +kernel
theorem d_X1_writeWithoutMove_78 : decode cm_X1_writeWithoutMove 78 = .ok (.invokevirtual 51, 3) := by decide +kernel
theorem d_X1_writeWithoutMove_81 : decode cm_X1_writeWithoutMove 81 = .ok (.return_, 1) := by decide +kernel
def D_X1_writeWithoutMove_54 (K23 : Int32 → Nat → Int32 → Int32 → GSt → Prop) (Q : GSt → Prop) (o : Nat) (x1 : Int32) (r2 : Nat) (x3 : Int32) (x4 : Int32) (σ : GSt) : Prop :=
  ∀ x4_1 : Int32, x4_1 = x4 + 1 → (K23 x1 r2 x3 x4_1 σ)
def D_X1_writeWithoutMove_23 (K23 : Int32 → Nat → Int32 → Int32 → GSt → Prop) (Q : GSt → Prop) (o : Nat) (x1 : Int32) (r2 : Nat) (x3 : Int32) (x4 : Int32) (σ : GSt) : Prop :=
  ((σ o 5) ≤ x4 → D_X9_addPart r2 (o + 1) ((σ o 9) - 1) (σ (o + 1) 1) σ (fun σ_1 => Q σ_1)) ∧
  (¬ (σ o 5) ≤ x4 → (x4 = x1 → D_X1_writeWithoutMove_54 K23 Q o x1 r2 x3 x4 σ) ∧
  (¬ x4 = x1 → vp_in x4 6 ∧ (D_X1_writeRule o ((o + 8) + 2 + 2 * Int32.toNatClampNeg x4) x3 r2 σ (fun σ_2 => ∀ x3_3 : Int32, x3_3 = x3 + 1 → (D_X1_writeWithoutMove_54 K23 Q o x1 r2 x3_3 x4 σ_2)))))
def L_X1_writeWithoutMove_23 (Q : GSt → Prop) (o : Nat) : Nat → Int32 → Nat → Int32 → Int32 → GSt → Prop
  | 0 => fun _ _ _ _ _ => False
  | n + 1 => fun x1 r2 x3 x4 σ => D_X1_writeWithoutMove_23 (L_X1_writeWithoutMove_23 Q o n) Q o x1 r2 x3 x4 σ
def D_X1_writeWithoutMove_0 (Q : GSt → Prop) (o : Nat) (x1 : Int32) (r2 : Nat) (σ : GSt) : Prop :=
  ∀ σ_1 : GSt, σ_1 = up2 σ r2 1 0 → (D_X9_addPart r2 (o + 1) 0 (σ_1 o 8) σ_1 (fun σ_2 => ∃ n : Nat, L_X1_writeWithoutMove_23 Q o n x1 r2 0 0 σ_2))
def D_X1_writeWithoutMove (o : Nat) (x1 : Int32) (r2 : Nat) (σ : GSt) (Q : GSt → Prop) : Prop := D_X1_writeWithoutMove_0 Q o x1 r2 σ
set_option maxRecDepth 20000 in
set_option maxHeartbeats 4000000 in
theorem s_X1_writeWithoutMove_54 {p : Program} {l : Launch} {e : Env} {s : State} {m : MethodId} {args : Array Value} {below : List Frame} {meth : Method} {c : Code} {G : GC} (X : CallFix p m c cm_X1_writeWithoutMove 5 s args lw_us "GameLoom$Game") (hr : meth.sig.returnType = none) (hlk : meth.locks = false) (K23 : Int32 → Nat → Int32 → Int32 → GSt → Prop) (Q : GSt → Prop) (o : Nat) (ho : kd o = 1) (hK23 : ∀ (x1 : Int32) (r2 : Nat) (x3 : Int32) (x4 : Int32) (σ : GSt) (H : Heap) (locs : List Loc) (ls : Array Slot), kd r2 = 9 → Wo G s H locs σ → lv_has ls 5 [(0, .ref (G.2.1 o)), (1, .int x1), (2, .ref (G.2.1 r2)), (3, .int x3), (4, .int x4)] → K23 x1 r2 x3 x4 σ → W p l e rm_X1_writeWithoutMove s m args below meth c H locs 0 0 (QMV G Q below args s) (F0 m 23 ls [])) (x1 : Int32) (r2 : Nat) (hk2 : kd r2 = 9) (x3 : Int32) (x4 : Int32) (σ : GSt) {H : Heap} {locs : List Loc} {ls : Array Slot} (hw : Wo G s H locs σ) (hl : lv_has ls 5 [(0, .ref (G.2.1 o)), (1, .int x1), (2, .ref (G.2.1 r2)), (3, .int x3), (4, .int x4)]) (hD : D_X1_writeWithoutMove_54 K23 Q o x1 r2 x3 x4 σ) : W p l e rm_X1_writeWithoutMove s m args below meth c H locs 0 0 (QMV G Q below args s) (F0 m 54 ls []) := by
  unfold D_X1_writeWithoutMove_54 at hD
  obtain ⟨x4_1, e_x4_1⟩ : ∃ y : Int32, y = x4 + 1 := ⟨_, rfl⟩
  have hD := hD x4_1 e_x4_1
  refine lv_iinc (v := x4_1) (lv' := [(4, .int x4_1), (0, .ref (G.2.1 o)), (1, .int x1), (2, .ref (G.2.1 r2)), (3, .int x3)]) X.1 X.2.1 d_X1_writeWithoutMove_54 hl (k := 4) rfl (by rw [e_x4_1]; rfl) (by decide) rfl (fun ls hl => ?_)
  refine lv_goto (tgt := 23) X.1 X.2.1 d_X1_writeWithoutMove_57 (by decide) ?_
  exact hK23 x1 r2 x3 x4_1 σ _ _ _ hk2 hw (lv_sub hl [1, 2, 3, 4, 0] rfl) hD
set_option maxRecDepth 20000 in
set_option maxHeartbeats 4000000 in
theorem s_X1_writeWithoutMove_23 {p : Program} {l : Launch} {e : Env} {s : State} {m : MethodId} {args : Array Value} {below : List Frame} {meth : Method} {c : Code} {G : GC} (X : CallFix p m c cm_X1_writeWithoutMove 5 s args lw_us "GameLoom$Game") (hr : meth.sig.returnType = none) (hlk : meth.locks = false) (K23 : Int32 → Nat → Int32 → Int32 → GSt → Prop) (Q : GSt → Prop) (o : Nat) (ho : kd o = 1) (hK23 : ∀ (x1 : Int32) (r2 : Nat) (x3 : Int32) (x4 : Int32) (σ : GSt) (H : Heap) (locs : List Loc) (ls : Array Slot), kd r2 = 9 → Wo G s H locs σ → lv_has ls 5 [(0, .ref (G.2.1 o)), (1, .int x1), (2, .ref (G.2.1 r2)), (3, .int x3), (4, .int x4)] → K23 x1 r2 x3 x4 σ → W p l e rm_X1_writeWithoutMove s m args below meth c H locs 0 0 (QMV G Q below args s) (F0 m 23 ls [])) (x1 : Int32) (r2 : Nat) (hk2 : kd r2 = 9) (x3 : Int32) (x4 : Int32) (σ : GSt) {H : Heap} {locs : List Loc} {ls : Array Slot} (hw : Wo G s H locs σ) (hl : lv_has ls 5 [(0, .ref (G.2.1 o)), (1, .int x1), (2, .ref (G.2.1 r2)), (3, .int x3), (4, .int x4)]) (hD : D_X1_writeWithoutMove_23 K23 Q o x1 r2 x3 x4 σ) : W p l e rm_X1_writeWithoutMove s m args below meth c H locs 0 0 (QMV G Q below args s) (F0 m 23 ls []) := by
  unfold D_X1_writeWithoutMove_23 at hD
  refine lv_iload X.1 X.2.1 d_X1_writeWithoutMove_23 (lv_at hl 4 rfl) ?_
  refine lv_aload_n X.1 X.2.1 d_X1_writeWithoutMove_25 rfl (lv_at hl 0 rfl) ?_
  refine gf_1_5 X hw ho tb_166 d_X1_writeWithoutMove_26 ?_
  refine lv_icmp_ge (tgt := 60) X.1 X.2.1 d_X1_writeWithoutMove_29 (by decide) (fun q_29 => ?_) (fun q_29 => ?_)
  · have hD := hD.1 q_29
    refine lv_aload_n X.1 X.2.1 d_X1_writeWithoutMove_60 rfl (lv_at hl 2 rfl) ?_
    refine lv_aload_n X.1 X.2.1 d_X1_writeWithoutMove_61 rfl (lv_at hl 0 rfl) ?_
    refine gf_1_0 X hw ho tb_152 d_X1_writeWithoutMove_62 ?_
    refine lv_aload_n X.1 X.2.1 d_X1_writeWithoutMove_65 rfl (lv_at hl 0 rfl) ?_
    refine gf_1_9 X hw ho tb_181 d_X1_writeWithoutMove_66 ?_
    refine lv_iconst (v := 1) X.1 X.2.1 d_X1_writeWithoutMove_69 (by decide) ?_
    refine lv_isub X.1 X.2.1 d_X1_writeWithoutMove_70 ?_
    refine lv_aload_n X.1 X.2.1 d_X1_writeWithoutMove_71 rfl (lv_at hl 0 rfl) ?_
    refine gf_1_0 X hw ho tb_152 d_X1_writeWithoutMove_72 ?_
    refine gf_9_1 X hw (ly_1_0 ho) tb_35 d_X1_writeWithoutMove_75 ?_
    refine gcV_v (rest := []) (As := [.ref (G.2.1 (o + 1)), .int ((σ o 9) - 1), .int (σ (o + 1) 1)]) (o := r2) X hw (c_X9_addPart l G r2 (o + 1) ((σ o 9) - 1) (σ (o + 1) 1) σ _ hk2 (ly_1_0 ho) hD) (kd_lt hk2 (by decide)) (ce_9 G _ hk2) rfl tb_792 tb_517 tb_518 tb_2 tb_519 hd_X9_addPart ⟨rfl, rfl⟩ ⟨Nat.le_of_ble_eq_true rfl, Nat.le_of_ble_eq_true rfl⟩ rfl hl.1 rfl (Nat.le_of_ble_eq_true rfl) d_X1_writeWithoutMove_78 (fun σ_1 H locs hD hw => ?_)
    exact g_vret X hr hlk hw hD d_X1_writeWithoutMove_81
  · have hD := hD.2 q_29
    refine lv_iload X.1 X.2.1 d_X1_writeWithoutMove_32 (lv_at hl 4 rfl) ?_
    refine lv_iload_n X.1 X.2.1 d_X1_writeWithoutMove_34 rfl (lv_at hl 1 rfl) ?_
    refine lv_icmp_eq (tgt := 54) X.1 X.2.1 d_X1_writeWithoutMove_35 (by decide) (fun q_35 => ?_) (fun q_35 => ?_)
    · have hD := hD.1 q_35
      exact s_X1_writeWithoutMove_54 X hr hlk K23 Q o ho hK23 x1 r2 hk2 x3 x4 σ hw (lv_sub hl [0, 1, 2, 3, 4] rfl) hD
    · have hD := hD.2 q_35
      refine lv_aload_n X.1 X.2.1 d_X1_writeWithoutMove_38 rfl (lv_at hl 0 rfl) ?_
      refine lv_aload_n X.1 X.2.1 d_X1_writeWithoutMove_39 rfl (lv_at hl 0 rfl) ?_
      refine gf_1_4 X hw ho tb_163 d_X1_writeWithoutMove_40 ?_
      refine lv_iload X.1 X.2.1 d_X1_writeWithoutMove_43 (lv_at hl 4 rfl) ?_
      obtain ⟨q_45, hD⟩ := hD
      refine g_aald15 X hw (ly_1_4 ho).1 q_45 d_X1_writeWithoutMove_45 ?_
      refine lv_iload_n X.1 X.2.1 d_X1_writeWithoutMove_46 rfl (lv_at hl 3 rfl) ?_
      refine lv_aload_n X.1 X.2.1 d_X1_writeWithoutMove_47 rfl (lv_at hl 2 rfl) ?_
      refine gcV_v (rest := []) (As := [.ref (G.2.1 ((o + 8) + 2 + 2 * Int32.toNatClampNeg x4)), .int x3, .ref (G.2.1 r2)]) (o := o) X hw (c_X1_writeRule l G o ((o + 8) + 2 + 2 * Int32.toNatClampNeg x4) x3 r2 σ _ ho (le_15 (ly_1_4 ho).1 q_45) hk2 hD) (kd_lt ho (by decide)) (ce_1 G _ ho) rfl tb_793 tb_795 tv_31 tb_4 tb_796 hd_X1_writeRule ⟨rfl, rfl⟩ ⟨Nat.le_of_ble_eq_true rfl, Nat.le_of_ble_eq_true rfl⟩ rfl hl.1 rfl (Nat.le_of_ble_eq_true rfl) d_X1_writeWithoutMove_48 (fun σ_2 H locs hD hw => ?_)
      obtain ⟨x3_3, e_x3_3⟩ : ∃ y : Int32, y = x3 + 1 := ⟨_, rfl⟩
      have hD := hD x3_3 e_x3_3
      refine lv_iinc (v := x3_3) (lv' := [(3, .int x3_3), (0, .ref (G.2.1 o)), (1, .int x1), (2, .ref (G.2.1 r2)), (4, .int x4)]) X.1 X.2.1 d_X1_writeWithoutMove_51 hl (k := 3) rfl (by rw [e_x3_3]; rfl) (by decide) rfl (fun ls hl => ?_)
      exact s_X1_writeWithoutMove_54 X hr hlk K23 Q o ho hK23 x1 r2 hk2 x3_3 x4 σ_2 hw (lv_sub hl [1, 2, 3, 0, 4] rfl) hD
set_option maxRecDepth 20000 in
set_option maxHeartbeats 4000000 in
theorem sl_X1_writeWithoutMove_23 {p : Program} {l : Launch} {e : Env} {s : State} {m : MethodId} {args : Array Value} {below : List Frame} {meth : Method} {c : Code} {G : GC} (X : CallFix p m c cm_X1_writeWithoutMove 5 s args lw_us "GameLoom$Game") (hr : meth.sig.returnType = none) (hlk : meth.locks = false) (Q : GSt → Prop) (o : Nat) (ho : kd o = 1) : ∀ (nn : Nat), ∀ (x1 : Int32) (r2 : Nat) (x3 : Int32) (x4 : Int32) (σ : GSt) (H : Heap) (locs : List Loc) (ls : Array Slot), kd r2 = 9 → Wo G s H locs σ → lv_has ls 5 [(0, .ref (G.2.1 o)), (1, .int x1), (2, .ref (G.2.1 r2)), (3, .int x3), (4, .int x4)] → L_X1_writeWithoutMove_23 Q o nn x1 r2 x3 x4 σ → W p l e rm_X1_writeWithoutMove s m args below meth c H locs 0 0 (QMV G Q below args s) (F0 m 23 ls []) := by
  intro nn
  induction nn with
  | zero => intro x1 r2 x3 x4 σ H locs ls hk2 hw hl hD; exact hD.elim
  | succ nn ih =>
    intro x1 r2 x3 x4 σ H locs ls hk2 hw hl hD
    exact s_X1_writeWithoutMove_23 X hr hlk (L_X1_writeWithoutMove_23 Q o nn) Q o ho ih x1 r2 hk2 x3 x4 σ hw hl hD
set_option maxRecDepth 20000 in
set_option maxHeartbeats 4000000 in
theorem s_X1_writeWithoutMove_0 {p : Program} {l : Launch} {e : Env} {s : State} {m : MethodId} {args : Array Value} {below : List Frame} {meth : Method} {c : Code} {G : GC} (X : CallFix p m c cm_X1_writeWithoutMove 5 s args lw_us "GameLoom$Game") (hr : meth.sig.returnType = none) (hlk : meth.locks = false) (Q : GSt → Prop) (o : Nat) (ho : kd o = 1) (x1 : Int32) (r2 : Nat) (hk2 : kd r2 = 9) (σ : GSt) {H : Heap} {locs : List Loc} {ls : Array Slot} (hw : Wo G s H locs σ) (hl : lv_has ls 5 [(0, .ref (G.2.1 o)), (1, .int x1), (2, .ref (G.2.1 r2))]) (hD : D_X1_writeWithoutMove_0 Q o x1 r2 σ) : W p l e rm_X1_writeWithoutMove s m args below meth c H locs 0 0 (QMV G Q below args s) (F0 m 0 ls []) := by
  unfold D_X1_writeWithoutMove_0 at hD
  refine lv_aload_n X.1 X.2.1 d_X1_writeWithoutMove_0 rfl (lv_at hl 2 rfl) ?_
  refine lv_iconst (v := 0) X.1 X.2.1 d_X1_writeWithoutMove_1 (by decide) ?_
  refine pf_9_1 X hw hk2 tb_35 d_X1_writeWithoutMove_2 (fun H locs hw => ?_)
  obtain ⟨σ_1, e_σ_1⟩ : ∃ z : GSt, z = up2 σ r2 1 0 := ⟨_, rfl⟩
  rw [← e_σ_1] at hw
  have hD := hD σ_1 e_σ_1
  refine lv_aload_n X.1 X.2.1 d_X1_writeWithoutMove_5 rfl (lv_at hl 2 rfl) ?_
  refine lv_aload_n X.1 X.2.1 d_X1_writeWithoutMove_6 rfl (lv_at hl 0 rfl) ?_
  refine gf_1_0 X hw ho tb_152 d_X1_writeWithoutMove_7 ?_
  refine lv_iconst (v := 0) X.1 X.2.1 d_X1_writeWithoutMove_10 (by decide) ?_
  refine lv_aload_n X.1 X.2.1 d_X1_writeWithoutMove_11 rfl (lv_at hl 0 rfl) ?_
  refine gf_1_8 X hw ho tb_179 d_X1_writeWithoutMove_12 ?_
  refine gcV_v (rest := []) (As := [.ref (G.2.1 (o + 1)), .int 0, .int (σ_1 o 8)]) (o := r2) X hw (c_X9_addPart l G r2 (o + 1) 0 (σ_1 o 8) σ_1 _ hk2 (ly_1_0 ho) hD) (kd_lt hk2 (by decide)) (ce_9 G _ hk2) rfl tb_792 tb_517 tb_518 tb_2 tb_519 hd_X9_addPart ⟨rfl, rfl⟩ ⟨Nat.le_of_ble_eq_true rfl, Nat.le_of_ble_eq_true rfl⟩ rfl hl.1 rfl (Nat.le_of_ble_eq_true rfl) d_X1_writeWithoutMove_15 (fun σ_2 H locs hD hw => ?_)
  refine lv_iconst (v := 0) X.1 X.2.1 d_X1_writeWithoutMove_18 (by decide) ?_
  refine lv_istore_n (lv' := [(3, .int 0), (0, .ref (G.2.1 o)), (1, .int x1), (2, .ref (G.2.1 r2))]) X.1 X.2.1 d_X1_writeWithoutMove_19 rfl hl (by decide) rfl (fun ls hl => ?_)
  refine lv_iconst (v := 0) X.1 X.2.1 d_X1_writeWithoutMove_20 (by decide) ?_
  refine lv_istore (lv' := [(4, .int 0), (3, .int 0), (0, .ref (G.2.1 o)), (1, .int x1), (2, .ref (G.2.1 r2))]) X.1 X.2.1 d_X1_writeWithoutMove_21 hl (by decide) rfl (fun ls hl => ?_)
  obtain ⟨n9, hD⟩ := hD
  exact sl_X1_writeWithoutMove_23 X hr hlk  Q o ho  n9 x1 r2 0 0 σ_2 _ _ _ hk2 hw (lv_sub hl [2, 3, 4, 1, 0] rfl) hD
theorem c_X1_writeWithoutMove (l : Launch) (G : GC) (o : Nat) (x1 : Int32) (r2 : Nat) (σ : GSt) (Q : GSt → Prop) (ho : kd o = 1) (hr2 : kd r2 = 9) (hD : D_X1_writeWithoutMove o x1 r2 σ Q) : MV l ym_X1_writeWithoutMove cm_X1_writeWithoutMove 5 rm_X1_writeWithoutMove G σ [.ref (G.2.1 o), .int x1, .ref (G.2.1 r2)] Q := by
  refine met_v (by decide) (Nat.le_of_ble_eq_true rfl) ?_
  intro p e s m args below meth c X hr hlk hw ls hl
  exact s_X1_writeWithoutMove_0 X hr hlk Q o ho x1 r2 hr2 σ hw (lv_sub hl [0, 1, 2] rfl) hD
theorem hd_X1_writeWithoutEnd : ym_X1_writeWithoutEnd.cls = "GameLoom$Game" ∧ ym_X1_writeWithoutEnd.cls ≠ "java/lang/invoke/MethodHandle" ∧ ym_X1_writeWithoutEnd.cls ≠ "java/lang/invoke/VarHandle" ∧ (parseMethodDescriptor ym_X1_writeWithoutEnd.desc).map (fun d => d.parameters.length) = some 2 := by decide +kernel
abbrev rm_X1_writeWithoutEnd : Room := { frames := 3, cells := 0, slots := 0, locals := 68 }
theorem d_X1_writeWithoutEnd_0 : decode cm_X1_writeWithoutEnd 0 = .ok (.aload_n 2, 1) := by decide +kernel
theorem d_X1_writeWithoutEnd_1 : decode cm_X1_writeWithoutEnd 1 = .ok (.iconst 0, 1) := by decide +kernel
theorem d_X1_writeWithoutEnd_2 : decode cm_X1_writeWithoutEnd 2 = .ok (.putfield 45, 3) := by decide +kernel
theorem d_X1_writeWithoutEnd_5 : decode cm_X1_writeWithoutEnd 5 = .ok (.aload_n 2, 1) := by decide +kernel
theorem d_X1_writeWithoutEnd_6 : decode cm_X1_writeWithoutEnd 6 = .ok (.aload_n 0, 1) := by decide +kernel
theorem d_X1_writeWithoutEnd_7 : decode cm_X1_writeWithoutEnd 7 = .ok (.getfield 12, 3) := by decide +kernel
theorem d_X1_writeWithoutEnd_10 : decode cm_X1_writeWithoutEnd 10 = .ok (.iconst 0, 1) := by decide +kernel
theorem d_X1_writeWithoutEnd_11 : decode cm_X1_writeWithoutEnd 11 = .ok (.aload_n 0, 1) := by decide +kernel
theorem d_X1_writeWithoutEnd_12 : decode cm_X1_writeWithoutEnd 12 = .ok (.getfield 59, 3) := by decide +kernel
theorem d_X1_writeWithoutEnd_15 : decode cm_X1_writeWithoutEnd 15 = .ok (.invokevirtual 51, 3) := by decide +kernel
theorem d_X1_writeWithoutEnd_18 : decode cm_X1_writeWithoutEnd 18 = .ok (.iconst 0, 1) := by decide +kernel
theorem d_X1_writeWithoutEnd_19 : decode cm_X1_writeWithoutEnd 19 = .ok (.istore_n 3, 1) := by decide +kernel
theorem d_X1_writeWithoutEnd_20 : decode cm_X1_writeWithoutEnd 20 = .ok (.iconst 0, 1) := by decide +kernel
theorem d_X1_writeWithoutEnd_21 : decode cm_X1_writeWithoutEnd 21 = .ok (.istore 4, 2) := by decide +kernel
theorem d_X1_writeWithoutEnd_23 : decode cm_X1_writeWithoutEnd 23 = .ok (.iload 4, 2) := by decide +kernel
theorem d_X1_writeWithoutEnd_25 : decode cm_X1_writeWithoutEnd 25 = .ok (.aload_n 0, 1) := by decide +kernel
theorem d_X1_writeWithoutEnd_26 : decode cm_X1_writeWithoutEnd 26 = .ok (.getfield 42, 3) := by decide +kernel
theorem d_X1_writeWithoutEnd_29 : decode cm_X1_writeWithoutEnd 29 = .ok (.if_icmp .ge 31, 3) := by decide +kernel
theorem d_X1_writeWithoutEnd_32 : decode cm_X1_writeWithoutEnd 32 = .ok (.iload 4, 2) := by decide +kernel
theorem d_X1_writeWithoutEnd_34 : decode cm_X1_writeWithoutEnd 34 = .ok (.iload_n 1, 1) := by decide +kernel
theorem d_X1_writeWithoutEnd_35 : decode cm_X1_writeWithoutEnd 35 = .ok (.if_icmp .eq 19, 3) := by decide +kernel
theorem d_X1_writeWithoutEnd_38 : decode cm_X1_writeWithoutEnd 38 = .ok (.aload_n 0, 1) := by decide +kernel
theorem d_X1_writeWithoutEnd_39 : decode cm_X1_writeWithoutEnd 39 = .ok (.aload_n 0, 1) := by decide +kernel
theorem d_X1_writeWithoutEnd_40 : decode cm_X1_writeWithoutEnd 40 = .ok (.getfield 31, 3) := by decide +kernel
theorem d_X1_writeWithoutEnd_43 : decode cm_X1_writeWithoutEnd 43 = .ok (.iload 4, 2) := by decide +kernel
theorem d_X1_writeWithoutEnd_45 : decode cm_X1_writeWithoutEnd 45 = .ok (.aaload, 1) := by decide +kernel
theorem d_X1_writeWithoutEnd_46 : decode cm_X1_writeWithoutEnd 46 = .ok (.iload_n 3, 1) := by decide +kernel
theorem d_X1_writeWithoutEnd_47 : decode cm_X1_writeWithoutEnd 47 = .ok (.aload_n 2, 1) := by decide +kernel
theorem d_X1_writeWithoutEnd_48 : decode cm_X1_writeWithoutEnd 48 = .ok (.invokevirtual 55, 3) := by decide +kernel
theorem d_X1_writeWithoutEnd_51 : decode cm_X1_writeWithoutEnd 51 = .ok (.iinc 3 1, 3) := by decide +kernel
theorem d_X1_writeWithoutEnd_54 : decode cm_X1_writeWithoutEnd 54 = .ok (.iinc 4 1, 3) := by decide +kernel
theorem d_X1_writeWithoutEnd_57 : decode cm_X1_writeWithoutEnd 57 = .ok (.goto (-34), 3) := by decide +kernel
theorem d_X1_writeWithoutEnd_60 : decode cm_X1_writeWithoutEnd 60 = .ok (.aload_n 2, 1) := by decide +kernel
theorem d_X1_writeWithoutEnd_61 : decode cm_X1_writeWithoutEnd 61 = .ok (.bipush 46, 2) := by decide +kernel
theorem d_X1_writeWithoutEnd_63 : decode cm_X1_writeWithoutEnd 63 = .ok (.invokevirtual 62, 3) := by decide +kernel
theorem d_X1_writeWithoutEnd_66 : decode cm_X1_writeWithoutEnd 66 = .ok (.return_, 1) := by decide +kernel
def D_X1_writeWithoutEnd_54 (K23 : Int32 → Nat → Int32 → Int32 → GSt → Prop) (Q : GSt → Prop) (o : Nat) (x1 : Int32) (r2 : Nat) (x3 : Int32) (x4 : Int32) (σ : GSt) : Prop :=
  ∀ x4_1 : Int32, x4_1 = x4 + 1 → (K23 x1 r2 x3 x4_1 σ)
def D_X1_writeWithoutEnd_23 (K23 : Int32 → Nat → Int32 → Int32 → GSt → Prop) (Q : GSt → Prop) (o : Nat) (x1 : Int32) (r2 : Nat) (x3 : Int32) (x4 : Int32) (σ : GSt) : Prop :=
  ((σ o 7) ≤ x4 → D_X9_add r2 46 σ (fun σ_1 => Q σ_1)) ∧
  (¬ (σ o 7) ≤ x4 → (x4 = x1 → D_X1_writeWithoutEnd_54 K23 Q o x1 r2 x3 x4 σ) ∧
  (¬ x4 = x1 → vp_in x4 6 ∧ (D_X1_writeRule o ((o + 9) + 2 + 2 * Int32.toNatClampNeg x4) x3 r2 σ (fun σ_2 => ∀ x3_3 : Int32, x3_3 = x3 + 1 → (D_X1_writeWithoutEnd_54 K23 Q o x1 r2 x3_3 x4 σ_2)))))
def L_X1_writeWithoutEnd_23 (Q : GSt → Prop) (o : Nat) : Nat → Int32 → Nat → Int32 → Int32 → GSt → Prop
  | 0 => fun _ _ _ _ _ => False
  | n + 1 => fun x1 r2 x3 x4 σ => D_X1_writeWithoutEnd_23 (L_X1_writeWithoutEnd_23 Q o n) Q o x1 r2 x3 x4 σ
def D_X1_writeWithoutEnd_0 (Q : GSt → Prop) (o : Nat) (x1 : Int32) (r2 : Nat) (σ : GSt) : Prop :=
  ∀ σ_1 : GSt, σ_1 = up2 σ r2 1 0 → (D_X9_addPart r2 (o + 1) 0 (σ_1 o 9) σ_1 (fun σ_2 => ∃ n : Nat, L_X1_writeWithoutEnd_23 Q o n x1 r2 0 0 σ_2))
def D_X1_writeWithoutEnd (o : Nat) (x1 : Int32) (r2 : Nat) (σ : GSt) (Q : GSt → Prop) : Prop := D_X1_writeWithoutEnd_0 Q o x1 r2 σ
set_option maxRecDepth 20000 in
set_option maxHeartbeats 4000000 in
theorem s_X1_writeWithoutEnd_54 {p : Program} {l : Launch} {e : Env} {s : State} {m : MethodId} {args : Array Value} {below : List Frame} {meth : Method} {c : Code} {G : GC} (X : CallFix p m c cm_X1_writeWithoutEnd 5 s args lw_us "GameLoom$Game") (hr : meth.sig.returnType = none) (hlk : meth.locks = false) (K23 : Int32 → Nat → Int32 → Int32 → GSt → Prop) (Q : GSt → Prop) (o : Nat) (ho : kd o = 1) (hK23 : ∀ (x1 : Int32) (r2 : Nat) (x3 : Int32) (x4 : Int32) (σ : GSt) (H : Heap) (locs : List Loc) (ls : Array Slot), kd r2 = 9 → Wo G s H locs σ → lv_has ls 5 [(0, .ref (G.2.1 o)), (1, .int x1), (2, .ref (G.2.1 r2)), (3, .int x3), (4, .int x4)] → K23 x1 r2 x3 x4 σ → W p l e rm_X1_writeWithoutEnd s m args below meth c H locs 0 0 (QMV G Q below args s) (F0 m 23 ls [])) (x1 : Int32) (r2 : Nat) (hk2 : kd r2 = 9) (x3 : Int32) (x4 : Int32) (σ : GSt) {H : Heap} {locs : List Loc} {ls : Array Slot} (hw : Wo G s H locs σ) (hl : lv_has ls 5 [(0, .ref (G.2.1 o)), (1, .int x1), (2, .ref (G.2.1 r2)), (3, .int x3), (4, .int x4)]) (hD : D_X1_writeWithoutEnd_54 K23 Q o x1 r2 x3 x4 σ) : W p l e rm_X1_writeWithoutEnd s m args below meth c H locs 0 0 (QMV G Q below args s) (F0 m 54 ls []) := by
  unfold D_X1_writeWithoutEnd_54 at hD
  obtain ⟨x4_1, e_x4_1⟩ : ∃ y : Int32, y = x4 + 1 := ⟨_, rfl⟩
  have hD := hD x4_1 e_x4_1
  refine lv_iinc (v := x4_1) (lv' := [(4, .int x4_1), (0, .ref (G.2.1 o)), (1, .int x1), (2, .ref (G.2.1 r2)), (3, .int x3)]) X.1 X.2.1 d_X1_writeWithoutEnd_54 hl (k := 4) rfl (by rw [e_x4_1]; rfl) (by decide) rfl (fun ls hl => ?_)
  refine lv_goto (tgt := 23) X.1 X.2.1 d_X1_writeWithoutEnd_57 (by decide) ?_
  exact hK23 x1 r2 x3 x4_1 σ _ _ _ hk2 hw (lv_sub hl [1, 2, 3, 4, 0] rfl) hD
set_option maxRecDepth 20000 in
set_option maxHeartbeats 4000000 in
theorem s_X1_writeWithoutEnd_23 {p : Program} {l : Launch} {e : Env} {s : State} {m : MethodId} {args : Array Value} {below : List Frame} {meth : Method} {c : Code} {G : GC} (X : CallFix p m c cm_X1_writeWithoutEnd 5 s args lw_us "GameLoom$Game") (hr : meth.sig.returnType = none) (hlk : meth.locks = false) (K23 : Int32 → Nat → Int32 → Int32 → GSt → Prop) (Q : GSt → Prop) (o : Nat) (ho : kd o = 1) (hK23 : ∀ (x1 : Int32) (r2 : Nat) (x3 : Int32) (x4 : Int32) (σ : GSt) (H : Heap) (locs : List Loc) (ls : Array Slot), kd r2 = 9 → Wo G s H locs σ → lv_has ls 5 [(0, .ref (G.2.1 o)), (1, .int x1), (2, .ref (G.2.1 r2)), (3, .int x3), (4, .int x4)] → K23 x1 r2 x3 x4 σ → W p l e rm_X1_writeWithoutEnd s m args below meth c H locs 0 0 (QMV G Q below args s) (F0 m 23 ls [])) (x1 : Int32) (r2 : Nat) (hk2 : kd r2 = 9) (x3 : Int32) (x4 : Int32) (σ : GSt) {H : Heap} {locs : List Loc} {ls : Array Slot} (hw : Wo G s H locs σ) (hl : lv_has ls 5 [(0, .ref (G.2.1 o)), (1, .int x1), (2, .ref (G.2.1 r2)), (3, .int x3), (4, .int x4)]) (hD : D_X1_writeWithoutEnd_23 K23 Q o x1 r2 x3 x4 σ) : W p l e rm_X1_writeWithoutEnd s m args below meth c H locs 0 0 (QMV G Q below args s) (F0 m 23 ls []) := by
  unfold D_X1_writeWithoutEnd_23 at hD
  refine lv_iload X.1 X.2.1 d_X1_writeWithoutEnd_23 (lv_at hl 4 rfl) ?_
  refine lv_aload_n X.1 X.2.1 d_X1_writeWithoutEnd_25 rfl (lv_at hl 0 rfl) ?_
  refine gf_1_7 X hw ho tb_174 d_X1_writeWithoutEnd_26 ?_
  refine lv_icmp_ge (tgt := 60) X.1 X.2.1 d_X1_writeWithoutEnd_29 (by decide) (fun q_29 => ?_) (fun q_29 => ?_)
  · have hD := hD.1 q_29
    refine lv_aload_n X.1 X.2.1 d_X1_writeWithoutEnd_60 rfl (lv_at hl 2 rfl) ?_
    refine lv_bipush (v := 46) X.1 X.2.1 d_X1_writeWithoutEnd_61 (by decide) ?_
    refine gcV_v (rest := []) (As := [.int 46]) (o := r2) X hw (c_X9_add l G r2 46 σ _ hk2 hD) (kd_lt hk2 (by decide)) (ce_9 G _ hk2) rfl tb_797 tb_425 tb_426 tb_2 tb_427 hd_X9_add ⟨rfl, rfl⟩ ⟨Nat.le_of_ble_eq_true rfl, Nat.le_of_ble_eq_true rfl⟩ rfl hl.1 rfl (Nat.le_of_ble_eq_true rfl) d_X1_writeWithoutEnd_63 (fun σ_1 H locs hD hw => ?_)
    exact g_vret X hr hlk hw hD d_X1_writeWithoutEnd_66
  · have hD := hD.2 q_29
    refine lv_iload X.1 X.2.1 d_X1_writeWithoutEnd_32 (lv_at hl 4 rfl) ?_
    refine lv_iload_n X.1 X.2.1 d_X1_writeWithoutEnd_34 rfl (lv_at hl 1 rfl) ?_
    refine lv_icmp_eq (tgt := 54) X.1 X.2.1 d_X1_writeWithoutEnd_35 (by decide) (fun q_35 => ?_) (fun q_35 => ?_)
    · have hD := hD.1 q_35
      exact s_X1_writeWithoutEnd_54 X hr hlk K23 Q o ho hK23 x1 r2 hk2 x3 x4 σ hw (lv_sub hl [0, 1, 2, 3, 4] rfl) hD
    · have hD := hD.2 q_35
      refine lv_aload_n X.1 X.2.1 d_X1_writeWithoutEnd_38 rfl (lv_at hl 0 rfl) ?_
      refine lv_aload_n X.1 X.2.1 d_X1_writeWithoutEnd_39 rfl (lv_at hl 0 rfl) ?_
      refine gf_1_6 X hw ho tb_171 d_X1_writeWithoutEnd_40 ?_
      refine lv_iload X.1 X.2.1 d_X1_writeWithoutEnd_43 (lv_at hl 4 rfl) ?_
      obtain ⟨q_45, hD⟩ := hD
      refine g_aald15 X hw (ly_1_6 ho).1 q_45 d_X1_writeWithoutEnd_45 ?_
      refine lv_iload_n X.1 X.2.1 d_X1_writeWithoutEnd_46 rfl (lv_at hl 3 rfl) ?_
      refine lv_aload_n X.1 X.2.1 d_X1_writeWithoutEnd_47 rfl (lv_at hl 2 rfl) ?_
      refine gcV_v (rest := []) (As := [.ref (G.2.1 ((o + 9) + 2 + 2 * Int32.toNatClampNeg x4)), .int x3, .ref (G.2.1 r2)]) (o := o) X hw (c_X1_writeRule l G o ((o + 9) + 2 + 2 * Int32.toNatClampNeg x4) x3 r2 σ _ ho (le_15 (ly_1_6 ho).1 q_45) hk2 hD) (kd_lt ho (by decide)) (ce_1 G _ ho) rfl tb_793 tb_795 tv_31 tb_4 tb_796 hd_X1_writeRule ⟨rfl, rfl⟩ ⟨Nat.le_of_ble_eq_true rfl, Nat.le_of_ble_eq_true rfl⟩ rfl hl.1 rfl (Nat.le_of_ble_eq_true rfl) d_X1_writeWithoutEnd_48 (fun σ_2 H locs hD hw => ?_)
      obtain ⟨x3_3, e_x3_3⟩ : ∃ y : Int32, y = x3 + 1 := ⟨_, rfl⟩
      have hD := hD x3_3 e_x3_3
      refine lv_iinc (v := x3_3) (lv' := [(3, .int x3_3), (0, .ref (G.2.1 o)), (1, .int x1), (2, .ref (G.2.1 r2)), (4, .int x4)]) X.1 X.2.1 d_X1_writeWithoutEnd_51 hl (k := 3) rfl (by rw [e_x3_3]; rfl) (by decide) rfl (fun ls hl => ?_)
      exact s_X1_writeWithoutEnd_54 X hr hlk K23 Q o ho hK23 x1 r2 hk2 x3_3 x4 σ_2 hw (lv_sub hl [1, 2, 3, 0, 4] rfl) hD
set_option maxRecDepth 20000 in
set_option maxHeartbeats 4000000 in
theorem sl_X1_writeWithoutEnd_23 {p : Program} {l : Launch} {e : Env} {s : State} {m : MethodId} {args : Array Value} {below : List Frame} {meth : Method} {c : Code} {G : GC} (X : CallFix p m c cm_X1_writeWithoutEnd 5 s args lw_us "GameLoom$Game") (hr : meth.sig.returnType = none) (hlk : meth.locks = false) (Q : GSt → Prop) (o : Nat) (ho : kd o = 1) : ∀ (nn : Nat), ∀ (x1 : Int32) (r2 : Nat) (x3 : Int32) (x4 : Int32) (σ : GSt) (H : Heap) (locs : List Loc) (ls : Array Slot), kd r2 = 9 → Wo G s H locs σ → lv_has ls 5 [(0, .ref (G.2.1 o)), (1, .int x1), (2, .ref (G.2.1 r2)), (3, .int x3), (4, .int x4)] → L_X1_writeWithoutEnd_23 Q o nn x1 r2 x3 x4 σ → W p l e rm_X1_writeWithoutEnd s m args below meth c H locs 0 0 (QMV G Q below args s) (F0 m 23 ls []) := by
  intro nn
  induction nn with
  | zero => intro x1 r2 x3 x4 σ H locs ls hk2 hw hl hD; exact hD.elim
  | succ nn ih =>
    intro x1 r2 x3 x4 σ H locs ls hk2 hw hl hD
    exact s_X1_writeWithoutEnd_23 X hr hlk (L_X1_writeWithoutEnd_23 Q o nn) Q o ho ih x1 r2 hk2 x3 x4 σ hw hl hD
set_option maxRecDepth 20000 in
set_option maxHeartbeats 4000000 in
theorem s_X1_writeWithoutEnd_0 {p : Program} {l : Launch} {e : Env} {s : State} {m : MethodId} {args : Array Value} {below : List Frame} {meth : Method} {c : Code} {G : GC} (X : CallFix p m c cm_X1_writeWithoutEnd 5 s args lw_us "GameLoom$Game") (hr : meth.sig.returnType = none) (hlk : meth.locks = false) (Q : GSt → Prop) (o : Nat) (ho : kd o = 1) (x1 : Int32) (r2 : Nat) (hk2 : kd r2 = 9) (σ : GSt) {H : Heap} {locs : List Loc} {ls : Array Slot} (hw : Wo G s H locs σ) (hl : lv_has ls 5 [(0, .ref (G.2.1 o)), (1, .int x1), (2, .ref (G.2.1 r2))]) (hD : D_X1_writeWithoutEnd_0 Q o x1 r2 σ) : W p l e rm_X1_writeWithoutEnd s m args below meth c H locs 0 0 (QMV G Q below args s) (F0 m 0 ls []) := by
  unfold D_X1_writeWithoutEnd_0 at hD
  refine lv_aload_n X.1 X.2.1 d_X1_writeWithoutEnd_0 rfl (lv_at hl 2 rfl) ?_
  refine lv_iconst (v := 0) X.1 X.2.1 d_X1_writeWithoutEnd_1 (by decide) ?_
  refine pf_9_1 X hw hk2 tb_35 d_X1_writeWithoutEnd_2 (fun H locs hw => ?_)
  obtain ⟨σ_1, e_σ_1⟩ : ∃ z : GSt, z = up2 σ r2 1 0 := ⟨_, rfl⟩
  rw [← e_σ_1] at hw
  have hD := hD σ_1 e_σ_1
  refine lv_aload_n X.1 X.2.1 d_X1_writeWithoutEnd_5 rfl (lv_at hl 2 rfl) ?_
  refine lv_aload_n X.1 X.2.1 d_X1_writeWithoutEnd_6 rfl (lv_at hl 0 rfl) ?_
  refine gf_1_0 X hw ho tb_152 d_X1_writeWithoutEnd_7 ?_
  refine lv_iconst (v := 0) X.1 X.2.1 d_X1_writeWithoutEnd_10 (by decide) ?_
  refine lv_aload_n X.1 X.2.1 d_X1_writeWithoutEnd_11 rfl (lv_at hl 0 rfl) ?_
  refine gf_1_9 X hw ho tb_181 d_X1_writeWithoutEnd_12 ?_
  refine gcV_v (rest := []) (As := [.ref (G.2.1 (o + 1)), .int 0, .int (σ_1 o 9)]) (o := r2) X hw (c_X9_addPart l G r2 (o + 1) 0 (σ_1 o 9) σ_1 _ hk2 (ly_1_0 ho) hD) (kd_lt hk2 (by decide)) (ce_9 G _ hk2) rfl tb_792 tb_517 tb_518 tb_2 tb_519 hd_X9_addPart ⟨rfl, rfl⟩ ⟨Nat.le_of_ble_eq_true rfl, Nat.le_of_ble_eq_true rfl⟩ rfl hl.1 rfl (Nat.le_of_ble_eq_true rfl) d_X1_writeWithoutEnd_15 (fun σ_2 H locs hD hw => ?_)
  refine lv_iconst (v := 0) X.1 X.2.1 d_X1_writeWithoutEnd_18 (by decide) ?_
  refine lv_istore_n (lv' := [(3, .int 0), (0, .ref (G.2.1 o)), (1, .int x1), (2, .ref (G.2.1 r2))]) X.1 X.2.1 d_X1_writeWithoutEnd_19 rfl hl (by decide) rfl (fun ls hl => ?_)
  refine lv_iconst (v := 0) X.1 X.2.1 d_X1_writeWithoutEnd_20 (by decide) ?_
  refine lv_istore (lv' := [(4, .int 0), (3, .int 0), (0, .ref (G.2.1 o)), (1, .int x1), (2, .ref (G.2.1 r2))]) X.1 X.2.1 d_X1_writeWithoutEnd_21 hl (by decide) rfl (fun ls hl => ?_)
  obtain ⟨n9, hD⟩ := hD
  exact sl_X1_writeWithoutEnd_23 X hr hlk  Q o ho  n9 x1 r2 0 0 σ_2 _ _ _ hk2 hw (lv_sub hl [2, 3, 4, 1, 0] rfl) hD
theorem c_X1_writeWithoutEnd (l : Launch) (G : GC) (o : Nat) (x1 : Int32) (r2 : Nat) (σ : GSt) (Q : GSt → Prop) (ho : kd o = 1) (hr2 : kd r2 = 9) (hD : D_X1_writeWithoutEnd o x1 r2 σ Q) : MV l ym_X1_writeWithoutEnd cm_X1_writeWithoutEnd 5 rm_X1_writeWithoutEnd G σ [.ref (G.2.1 o), .int x1, .ref (G.2.1 r2)] Q := by
  refine met_v (by decide) (Nat.le_of_ble_eq_true rfl) ?_
  intro p e s m args below meth c X hr hlk hw ls hl
  exact s_X1_writeWithoutEnd_0 X hr hlk Q o ho x1 r2 hr2 σ hw (lv_sub hl [0, 1, 2] rfl) hD
theorem hd_X1_writeMirrored : ym_X1_writeMirrored.cls = "GameLoom$Game" ∧ ym_X1_writeMirrored.cls ≠ "java/lang/invoke/MethodHandle" ∧ ym_X1_writeMirrored.cls ≠ "java/lang/invoke/VarHandle" ∧ (parseMethodDescriptor ym_X1_writeMirrored.desc).map (fun d => d.parameters.length) = some 1 := by decide +kernel
abbrev rm_X1_writeMirrored : Room := { frames := 3, cells := 0, slots := 0, locals := 68 }
theorem d_X1_writeMirrored_0 : decode cm_X1_writeMirrored 0 = .ok (.aload_n 1, 1) := by decide +kernel
theorem d_X1_writeMirrored_1 : decode cm_X1_writeMirrored 1 = .ok (.iconst 0, 1) := by decide +kernel
theorem d_X1_writeMirrored_2 : decode cm_X1_writeMirrored 2 = .ok (.putfield 45, 3) := by decide +kernel
theorem d_X1_writeMirrored_5 : decode cm_X1_writeMirrored 5 = .ok (.aload_n 1, 1) := by decide +kernel
theorem d_X1_writeMirrored_6 : decode cm_X1_writeMirrored 6 = .ok (.aload_n 0, 1) := by decide +kernel
theorem d_X1_writeMirrored_7 : decode cm_X1_writeMirrored 7 = .ok (.getfield 12, 3) := by decide +kernel
theorem d_X1_writeMirrored_10 : decode cm_X1_writeMirrored 10 = .ok (.iconst 0, 1) := by decide +kernel
theorem d_X1_writeMirrored_11 : decode cm_X1_writeMirrored 11 = .ok (.aload_n 0, 1) := by decide +kernel
theorem d_X1_writeMirrored_12 : decode cm_X1_writeMirrored 12 = .ok (.getfield 48, 3) := by decide +kernel
theorem d_X1_writeMirrored_15 : decode cm_X1_writeMirrored 15 = .ok (.invokevirtual 51, 3) := by decide +kernel
theorem d_X1_writeMirrored_18 : decode cm_X1_writeMirrored 18 = .ok (.iconst 0, 1) := by decide +kernel
theorem d_X1_writeMirrored_19 : decode cm_X1_writeMirrored 19 = .ok (.istore_n 2, 1) := by decide +kernel
theorem d_X1_writeMirrored_20 : decode cm_X1_writeMirrored 20 = .ok (.iload_n 2, 1) := by decide +kernel
theorem d_X1_writeMirrored_21 : decode cm_X1_writeMirrored 21 = .ok (.aload_n 0, 1) := by decide +kernel
theorem d_X1_writeMirrored_22 : decode cm_X1_writeMirrored 22 = .ok (.getfield 35, 3) := by decide +kernel
theorem d_X1_writeMirrored_25 : decode cm_X1_writeMirrored 25 = .ok (.if_icmp .ge 28, 3) := by decide +kernel
theorem d_X1_writeMirrored_28 : decode cm_X1_writeMirrored 28 = .ok (.aload_n 0, 1) := by decide +kernel
theorem d_X1_writeMirrored_29 : decode cm_X1_writeMirrored 29 = .ok (.aload_n 0, 1) := by decide +kernel
theorem d_X1_writeMirrored_30 : decode cm_X1_writeMirrored 30 = .ok (.getfield 27, 3) := by decide +kernel
theorem d_X1_writeMirrored_33 : decode cm_X1_writeMirrored 33 = .ok (.aload_n 0, 1) := by decide +kernel
theorem d_X1_writeMirrored_34 : decode cm_X1_writeMirrored 34 = .ok (.getfield 35, 3) := by decide +kernel
theorem d_X1_writeMirrored_37 : decode cm_X1_writeMirrored 37 = .ok (.iconst 1, 1) := by decide +kernel
theorem d_X1_writeMirrored_38 : decode cm_X1_writeMirrored 38 = .ok (.isub, 1) := by decide +kernel
theorem d_X1_writeMirrored_39 : decode cm_X1_writeMirrored 39 = .ok (.iload_n 2, 1) := by decide +kernel
theorem d_X1_writeMirrored_40 : decode cm_X1_writeMirrored 40 = .ok (.isub, 1) := by decide +kernel
theorem d_X1_writeMirrored_41 : decode cm_X1_writeMirrored 41 = .ok (.aaload, 1) := by decide +kernel
theorem d_X1_writeMirrored_42 : decode cm_X1_writeMirrored 42 = .ok (.iload_n 2, 1) := by decide +kernel
theorem d_X1_writeMirrored_43 : decode cm_X1_writeMirrored 43 = .ok (.aload_n 1, 1) := by decide +kernel
theorem d_X1_writeMirrored_44 : decode cm_X1_writeMirrored 44 = .ok (.invokevirtual 55, 3) := by decide +kernel
theorem d_X1_writeMirrored_47 : decode cm_X1_writeMirrored 47 = .ok (.iinc 2 1, 3) := by decide +kernel
theorem d_X1_writeMirrored_50 : decode cm_X1_writeMirrored 50 = .ok (.goto (-30), 3) := by decide +kernel
theorem d_X1_writeMirrored_53 : decode cm_X1_writeMirrored 53 = .ok (.aload_n 1, 1) := by decide +kernel
theorem d_X1_writeMirrored_54 : decode cm_X1_writeMirrored 54 = .ok (.aload_n 0, 1) := by decide +kernel
theorem d_X1_writeMirrored_55 : decode cm_X1_writeMirrored 55 = .ok (.getfield 12, 3) := by decide +kernel
theorem d_X1_writeMirrored_58 : decode cm_X1_writeMirrored 58 = .ok (.aload_n 0, 1) := by decide +kernel
theorem d_X1_writeMirrored_59 : decode cm_X1_writeMirrored 59 = .ok (.getfield 59, 3) := by decide +kernel
theorem d_X1_writeMirrored_62 : decode cm_X1_writeMirrored 62 = .ok (.iconst 1, 1) := by decide +kernel
theorem d_X1_writeMirrored_63 : decode cm_X1_writeMirrored 63 = .ok (.isub, 1) := by decide +kernel
theorem d_X1_writeMirrored_64 : decode cm_X1_writeMirrored 64 = .ok (.aload_n 0, 1) := by decide +kernel
theorem d_X1_writeMirrored_65 : decode cm_X1_writeMirrored 65 = .ok (.getfield 12, 3) := by decide +kernel
theorem d_X1_writeMirrored_68 : decode cm_X1_writeMirrored 68 = .ok (.getfield 45, 3) := by decide +kernel
theorem d_X1_writeMirrored_71 : decode cm_X1_writeMirrored 71 = .ok (.invokevirtual 51, 3) := by decide +kernel
theorem d_X1_writeMirrored_74 : decode cm_X1_writeMirrored 74 = .ok (.return_, 1) := by decide +kernel
def D_X1_writeMirrored_20 (K20 : Nat → Int32 → GSt → Prop) (Q : GSt → Prop) (o : Nat) (r1 : Nat) (x2 : Int32) (σ : GSt) : Prop :=
  ((σ o 5) ≤ x2 → D_X9_addPart r1 (o + 1) ((σ o 9) - 1) (σ (o + 1) 1) σ (fun σ_1 => Q σ_1)) ∧
  (¬ (σ o 5) ≤ x2 → vp_in (((σ o 5) - 1) - x2) 6 ∧ (D_X1_writeRule o ((o + 8) + 2 + 2 * Int32.toNatClampNeg (((σ o 5) - 1) - x2)) x2 r1 σ (fun σ_2 => ∀ x2_3 : Int32, x2_3 = x2 + 1 → (K20 r1 x2_3 σ_2))))
def L_X1_writeMirrored_20 (Q : GSt → Prop) (o : Nat) : Nat → Nat → Int32 → GSt → Prop
  | 0 => fun _ _ _ => False
  | n + 1 => fun r1 x2 σ => D_X1_writeMirrored_20 (L_X1_writeMirrored_20 Q o n) Q o r1 x2 σ
def D_X1_writeMirrored_0 (Q : GSt → Prop) (o : Nat) (r1 : Nat) (σ : GSt) : Prop :=
  ∀ σ_1 : GSt, σ_1 = up2 σ r1 1 0 → (D_X9_addPart r1 (o + 1) 0 (σ_1 o 8) σ_1 (fun σ_2 => ∃ n : Nat, L_X1_writeMirrored_20 Q o n r1 0 σ_2))
def D_X1_writeMirrored (o : Nat) (r1 : Nat) (σ : GSt) (Q : GSt → Prop) : Prop := D_X1_writeMirrored_0 Q o r1 σ
set_option maxRecDepth 20000 in
set_option maxHeartbeats 4000000 in
theorem s_X1_writeMirrored_20 {p : Program} {l : Launch} {e : Env} {s : State} {m : MethodId} {args : Array Value} {below : List Frame} {meth : Method} {c : Code} {G : GC} (X : CallFix p m c cm_X1_writeMirrored 3 s args lw_us "GameLoom$Game") (hr : meth.sig.returnType = none) (hlk : meth.locks = false) (K20 : Nat → Int32 → GSt → Prop) (Q : GSt → Prop) (o : Nat) (ho : kd o = 1) (hK20 : ∀ (r1 : Nat) (x2 : Int32) (σ : GSt) (H : Heap) (locs : List Loc) (ls : Array Slot), kd r1 = 9 → Wo G s H locs σ → lv_has ls 3 [(0, .ref (G.2.1 o)), (1, .ref (G.2.1 r1)), (2, .int x2)] → K20 r1 x2 σ → W p l e rm_X1_writeMirrored s m args below meth c H locs 0 0 (QMV G Q below args s) (F0 m 20 ls [])) (r1 : Nat) (hk1 : kd r1 = 9) (x2 : Int32) (σ : GSt) {H : Heap} {locs : List Loc} {ls : Array Slot} (hw : Wo G s H locs σ) (hl : lv_has ls 3 [(0, .ref (G.2.1 o)), (1, .ref (G.2.1 r1)), (2, .int x2)]) (hD : D_X1_writeMirrored_20 K20 Q o r1 x2 σ) : W p l e rm_X1_writeMirrored s m args below meth c H locs 0 0 (QMV G Q below args s) (F0 m 20 ls []) := by
  unfold D_X1_writeMirrored_20 at hD
  refine lv_iload_n X.1 X.2.1 d_X1_writeMirrored_20 rfl (lv_at hl 2 rfl) ?_
  refine lv_aload_n X.1 X.2.1 d_X1_writeMirrored_21 rfl (lv_at hl 0 rfl) ?_
  refine gf_1_5 X hw ho tb_166 d_X1_writeMirrored_22 ?_
  refine lv_icmp_ge (tgt := 53) X.1 X.2.1 d_X1_writeMirrored_25 (by decide) (fun q_25 => ?_) (fun q_25 => ?_)
  · have hD := hD.1 q_25
    refine lv_aload_n X.1 X.2.1 d_X1_writeMirrored_53 rfl (lv_at hl 1 rfl) ?_
    refine lv_aload_n X.1 X.2.1 d_X1_writeMirrored_54 rfl (lv_at hl 0 rfl) ?_
    refine gf_1_0 X hw ho tb_152 d_X1_writeMirrored_55 ?_
    refine lv_aload_n X.1 X.2.1 d_X1_writeMirrored_58 rfl (lv_at hl 0 rfl) ?_
    refine gf_1_9 X hw ho tb_181 d_X1_writeMirrored_59 ?_
    refine lv_iconst (v := 1) X.1 X.2.1 d_X1_writeMirrored_62 (by decide) ?_
    refine lv_isub X.1 X.2.1 d_X1_writeMirrored_63 ?_
    refine lv_aload_n X.1 X.2.1 d_X1_writeMirrored_64 rfl (lv_at hl 0 rfl) ?_
    refine gf_1_0 X hw ho tb_152 d_X1_writeMirrored_65 ?_
    refine gf_9_1 X hw (ly_1_0 ho) tb_35 d_X1_writeMirrored_68 ?_
    refine gcV_v (rest := []) (As := [.ref (G.2.1 (o + 1)), .int ((σ o 9) - 1), .int (σ (o + 1) 1)]) (o := r1) X hw (c_X9_addPart l G r1 (o + 1) ((σ o 9) - 1) (σ (o + 1) 1) σ _ hk1 (ly_1_0 ho) hD) (kd_lt hk1 (by decide)) (ce_9 G _ hk1) rfl tb_792 tb_517 tb_518 tb_2 tb_519 hd_X9_addPart ⟨rfl, rfl⟩ ⟨Nat.le_of_ble_eq_true rfl, Nat.le_of_ble_eq_true rfl⟩ rfl hl.1 rfl (Nat.le_of_ble_eq_true rfl) d_X1_writeMirrored_71 (fun σ_1 H locs hD hw => ?_)
    exact g_vret X hr hlk hw hD d_X1_writeMirrored_74
  · have hD := hD.2 q_25
    refine lv_aload_n X.1 X.2.1 d_X1_writeMirrored_28 rfl (lv_at hl 0 rfl) ?_
    refine lv_aload_n X.1 X.2.1 d_X1_writeMirrored_29 rfl (lv_at hl 0 rfl) ?_
    refine gf_1_4 X hw ho tb_163 d_X1_writeMirrored_30 ?_
    refine lv_aload_n X.1 X.2.1 d_X1_writeMirrored_33 rfl (lv_at hl 0 rfl) ?_
    refine gf_1_5 X hw ho tb_166 d_X1_writeMirrored_34 ?_
    refine lv_iconst (v := 1) X.1 X.2.1 d_X1_writeMirrored_37 (by decide) ?_
    refine lv_isub X.1 X.2.1 d_X1_writeMirrored_38 ?_
    refine lv_iload_n X.1 X.2.1 d_X1_writeMirrored_39 rfl (lv_at hl 2 rfl) ?_
    refine lv_isub X.1 X.2.1 d_X1_writeMirrored_40 ?_
    obtain ⟨q_41, hD⟩ := hD
    refine g_aald15 X hw (ly_1_4 ho).1 q_41 d_X1_writeMirrored_41 ?_
    refine lv_iload_n X.1 X.2.1 d_X1_writeMirrored_42 rfl (lv_at hl 2 rfl) ?_
    refine lv_aload_n X.1 X.2.1 d_X1_writeMirrored_43 rfl (lv_at hl 1 rfl) ?_
    refine gcV_v (rest := []) (As := [.ref (G.2.1 ((o + 8) + 2 + 2 * Int32.toNatClampNeg (((σ o 5) - 1) - x2))), .int x2, .ref (G.2.1 r1)]) (o := o) X hw (c_X1_writeRule l G o ((o + 8) + 2 + 2 * Int32.toNatClampNeg (((σ o 5) - 1) - x2)) x2 r1 σ _ ho (le_15 (ly_1_4 ho).1 q_41) hk1 hD) (kd_lt ho (by decide)) (ce_1 G _ ho) rfl tb_793 tb_795 tv_31 tb_4 tb_796 hd_X1_writeRule ⟨rfl, rfl⟩ ⟨Nat.le_of_ble_eq_true rfl, Nat.le_of_ble_eq_true rfl⟩ rfl hl.1 rfl (Nat.le_of_ble_eq_true rfl) d_X1_writeMirrored_44 (fun σ_2 H locs hD hw => ?_)
    obtain ⟨x2_3, e_x2_3⟩ : ∃ y : Int32, y = x2 + 1 := ⟨_, rfl⟩
    have hD := hD x2_3 e_x2_3
    refine lv_iinc (v := x2_3) (lv' := [(2, .int x2_3), (0, .ref (G.2.1 o)), (1, .ref (G.2.1 r1))]) X.1 X.2.1 d_X1_writeMirrored_47 hl (k := 2) rfl (by rw [e_x2_3]; rfl) (by decide) rfl (fun ls hl => ?_)
    refine lv_goto (tgt := 20) X.1 X.2.1 d_X1_writeMirrored_50 (by decide) ?_
    exact hK20 r1 x2_3 σ_2 _ _ _ hk1 hw (lv_sub hl [1, 2, 0] rfl) hD
set_option maxRecDepth 20000 in
set_option maxHeartbeats 4000000 in
theorem sl_X1_writeMirrored_20 {p : Program} {l : Launch} {e : Env} {s : State} {m : MethodId} {args : Array Value} {below : List Frame} {meth : Method} {c : Code} {G : GC} (X : CallFix p m c cm_X1_writeMirrored 3 s args lw_us "GameLoom$Game") (hr : meth.sig.returnType = none) (hlk : meth.locks = false) (Q : GSt → Prop) (o : Nat) (ho : kd o = 1) : ∀ (nn : Nat), ∀ (r1 : Nat) (x2 : Int32) (σ : GSt) (H : Heap) (locs : List Loc) (ls : Array Slot), kd r1 = 9 → Wo G s H locs σ → lv_has ls 3 [(0, .ref (G.2.1 o)), (1, .ref (G.2.1 r1)), (2, .int x2)] → L_X1_writeMirrored_20 Q o nn r1 x2 σ → W p l e rm_X1_writeMirrored s m args below meth c H locs 0 0 (QMV G Q below args s) (F0 m 20 ls []) := by
  intro nn
  induction nn with
  | zero => intro r1 x2 σ H locs ls hk1 hw hl hD; exact hD.elim
  | succ nn ih =>
    intro r1 x2 σ H locs ls hk1 hw hl hD
    exact s_X1_writeMirrored_20 X hr hlk (L_X1_writeMirrored_20 Q o nn) Q o ho ih r1 hk1 x2 σ hw hl hD
set_option maxRecDepth 20000 in
set_option maxHeartbeats 4000000 in
theorem s_X1_writeMirrored_0 {p : Program} {l : Launch} {e : Env} {s : State} {m : MethodId} {args : Array Value} {below : List Frame} {meth : Method} {c : Code} {G : GC} (X : CallFix p m c cm_X1_writeMirrored 3 s args lw_us "GameLoom$Game") (hr : meth.sig.returnType = none) (hlk : meth.locks = false) (Q : GSt → Prop) (o : Nat) (ho : kd o = 1) (r1 : Nat) (hk1 : kd r1 = 9) (σ : GSt) {H : Heap} {locs : List Loc} {ls : Array Slot} (hw : Wo G s H locs σ) (hl : lv_has ls 3 [(0, .ref (G.2.1 o)), (1, .ref (G.2.1 r1))]) (hD : D_X1_writeMirrored_0 Q o r1 σ) : W p l e rm_X1_writeMirrored s m args below meth c H locs 0 0 (QMV G Q below args s) (F0 m 0 ls []) := by
  unfold D_X1_writeMirrored_0 at hD
  refine lv_aload_n X.1 X.2.1 d_X1_writeMirrored_0 rfl (lv_at hl 1 rfl) ?_
  refine lv_iconst (v := 0) X.1 X.2.1 d_X1_writeMirrored_1 (by decide) ?_
  refine pf_9_1 X hw hk1 tb_35 d_X1_writeMirrored_2 (fun H locs hw => ?_)
  obtain ⟨σ_1, e_σ_1⟩ : ∃ z : GSt, z = up2 σ r1 1 0 := ⟨_, rfl⟩
  rw [← e_σ_1] at hw
  have hD := hD σ_1 e_σ_1
  refine lv_aload_n X.1 X.2.1 d_X1_writeMirrored_5 rfl (lv_at hl 1 rfl) ?_
  refine lv_aload_n X.1 X.2.1 d_X1_writeMirrored_6 rfl (lv_at hl 0 rfl) ?_
  refine gf_1_0 X hw ho tb_152 d_X1_writeMirrored_7 ?_
  refine lv_iconst (v := 0) X.1 X.2.1 d_X1_writeMirrored_10 (by decide) ?_
  refine lv_aload_n X.1 X.2.1 d_X1_writeMirrored_11 rfl (lv_at hl 0 rfl) ?_
  refine gf_1_8 X hw ho tb_179 d_X1_writeMirrored_12 ?_
  refine gcV_v (rest := []) (As := [.ref (G.2.1 (o + 1)), .int 0, .int (σ_1 o 8)]) (o := r1) X hw (c_X9_addPart l G r1 (o + 1) 0 (σ_1 o 8) σ_1 _ hk1 (ly_1_0 ho) hD) (kd_lt hk1 (by decide)) (ce_9 G _ hk1) rfl tb_792 tb_517 tb_518 tb_2 tb_519 hd_X9_addPart ⟨rfl, rfl⟩ ⟨Nat.le_of_ble_eq_true rfl, Nat.le_of_ble_eq_true rfl⟩ rfl hl.1 rfl (Nat.le_of_ble_eq_true rfl) d_X1_writeMirrored_15 (fun σ_2 H locs hD hw => ?_)
  refine lv_iconst (v := 0) X.1 X.2.1 d_X1_writeMirrored_18 (by decide) ?_
  refine lv_istore_n (lv' := [(2, .int 0), (0, .ref (G.2.1 o)), (1, .ref (G.2.1 r1))]) X.1 X.2.1 d_X1_writeMirrored_19 rfl hl (by decide) rfl (fun ls hl => ?_)
  obtain ⟨n9, hD⟩ := hD
  exact sl_X1_writeMirrored_20 X hr hlk  Q o ho  n9 r1 0 σ_2 _ _ _ hk1 hw (lv_sub hl [1, 2, 0] rfl) hD
theorem c_X1_writeMirrored (l : Launch) (G : GC) (o : Nat) (r1 : Nat) (σ : GSt) (Q : GSt → Prop) (ho : kd o = 1) (hr1 : kd r1 = 9) (hD : D_X1_writeMirrored o r1 σ Q) : MV l ym_X1_writeMirrored cm_X1_writeMirrored 3 rm_X1_writeMirrored G σ [.ref (G.2.1 o), .ref (G.2.1 r1)] Q := by
  refine met_v (by decide) (Nat.le_of_ble_eq_true rfl) ?_
  intro p e s m args below meth c X hr hlk hw ls hl
  exact s_X1_writeMirrored_0 X hr hlk Q o ho r1 hr1 σ hw (lv_sub hl [0, 1] rfl) hD
theorem hd_X5_addEach : ym_X5_addEach.cls ≠ "java/lang/invoke/MethodHandle" ∧ ym_X5_addEach.cls ≠ "java/lang/invoke/VarHandle" ∧ (parseMethodDescriptor ym_X5_addEach.desc).map (fun d => d.parameters.length) = some 4 := by decide +kernel
abbrev rm_X5_addEach : Room := { frames := 0, cells := 0, slots := 0, locals := 0 }
theorem d_X5_addEach_0 : decode cm_X5_addEach 0 = .ok (.iload_n 3, 1) := by decide +kernel
theorem d_X5_addEach_1 : decode cm_X5_addEach 1 = .ok (.istore 4, 2) := by decide +kernel
theorem d_X5_addEach_3 : decode cm_X5_addEach 3 = .ok (.iconst 0, 1) := by decide +kernel
theorem d_X5_addEach_4 : decode cm_X5_addEach 4 = .ok (.istore 5, 2) := by decide +kernel
theorem d_X5_addEach_6 : decode cm_X5_addEach 6 = .ok (.iload_n 1, 1) := by decide +kernel
theorem d_X5_addEach_7 : decode cm_X5_addEach 7 = .ok (.iload 5, 2) := by decide +kernel
theorem d_X5_addEach_9 : decode cm_X5_addEach 9 = .ok (.iushr, 1) := by decide +kernel
theorem d_X5_addEach_10 : decode cm_X5_addEach 10 = .ok (.ifCond .eq 43, 3) := by decide +kernel
theorem d_X5_addEach_13 : decode cm_X5_addEach 13 = .ok (.iload 5, 2) := by decide +kernel
theorem d_X5_addEach_15 : decode cm_X5_addEach 15 = .ok (.bipush 16, 2) := by decide +kernel
theorem d_X5_addEach_17 : decode cm_X5_addEach 17 = .ok (.if_icmp .ge 36, 3) := by decide +kernel
theorem d_X5_addEach_20 : decode cm_X5_addEach 20 = .ok (.iload_n 1, 1) := by decide +kernel
theorem d_X5_addEach_21 : decode cm_X5_addEach 21 = .ok (.iload 5, 2) := by decide +kernel
theorem d_X5_addEach_23 : decode cm_X5_addEach 23 = .ok (.iushr, 1) := by decide +kernel
theorem d_X5_addEach_24 : decode cm_X5_addEach 24 = .ok (.iconst 1, 1) := by decide +kernel
theorem d_X5_addEach_25 : decode cm_X5_addEach 25 = .ok (.iand, 1) := by decide +kernel
theorem d_X5_addEach_26 : decode cm_X5_addEach 26 = .ok (.ifCond .eq 21, 3) := by decide +kernel
theorem d_X5_addEach_29 : decode cm_X5_addEach 29 = .ok (.iload 4, 2) := by decide +kernel
theorem d_X5_addEach_31 : decode cm_X5_addEach 31 = .ok (.aload_n 2, 1) := by decide +kernel
theorem d_X5_addEach_32 : decode cm_X5_addEach 32 = .ok (.arraylength, 1) := by decide +kernel
theorem d_X5_addEach_33 : decode cm_X5_addEach 33 = .ok (.if_icmp .ge 14, 3) := by decide +kernel
theorem d_X5_addEach_36 : decode cm_X5_addEach 36 = .ok (.aload_n 2, 1) := by decide +kernel
theorem d_X5_addEach_37 : decode cm_X5_addEach 37 = .ok (.iload 4, 2) := by decide +kernel
theorem d_X5_addEach_39 : decode cm_X5_addEach 39 = .ok (.iload_n 0, 1) := by decide +kernel
theorem d_X5_addEach_40 : decode cm_X5_addEach 40 = .ok (.iload 5, 2) := by decide +kernel
theorem d_X5_addEach_42 : decode cm_X5_addEach 42 = .ok (.ior, 1) := by decide +kernel
theorem d_X5_addEach_43 : decode cm_X5_addEach 43 = .ok (.iastore, 1) := by decide +kernel
theorem d_X5_addEach_44 : decode cm_X5_addEach 44 = .ok (.iinc 4 1, 3) := by decide +kernel
theorem d_X5_addEach_47 : decode cm_X5_addEach 47 = .ok (.iinc 5 1, 3) := by decide +kernel
theorem d_X5_addEach_50 : decode cm_X5_addEach 50 = .ok (.goto (-44), 3) := by decide +kernel
theorem d_X5_addEach_53 : decode cm_X5_addEach 53 = .ok (.iload 4, 2) := by decide +kernel
theorem d_X5_addEach_55 : decode cm_X5_addEach 55 = .ok (.ireturn, 1) := by decide +kernel
def D_X5_addEach_47 (K6 : Int32 → Int32 → Nat → Int32 → Int32 → GSt → Prop) (Q : Int32 → GSt → Prop) (x0 : Int32) (x1 : Int32) (r2 : Nat) (x4 : Int32) (x5 : Int32) (σ : GSt) : Prop :=
  ∀ x5_1 : Int32, x5_1 = x5 + 1 → (K6 x0 x1 r2 x4 x5_1 σ)
def D_X5_addEach_6 (K6 : Int32 → Int32 → Nat → Int32 → Int32 → GSt → Prop) (Q : Int32 → GSt → Prop) (x0 : Int32) (x1 : Int32) (r2 : Nat) (x4 : Int32) (x5 : Int32) (σ : GSt) : Prop :=
  ((jushr x1 x5) = 0 → Q x4 σ) ∧
  (¬ (jushr x1 x5) = 0 → (16 ≤ x5 → Q x4 σ) ∧
  (¬ 16 ≤ x5 → (((jushr x1 x5) &&& 1) = 0 → D_X5_addEach_47 K6 Q x0 x1 r2 x4 x5 σ) ∧
  (¬ ((jushr x1 x5) &&& 1) = 0 → ((nI (ln r2)) ≤ x4 → D_X5_addEach_47 K6 Q x0 x1 r2 x4 x5 σ) ∧
  (¬ (nI (ln r2)) ≤ x4 → vp_in x4 (ln r2) ∧ (∀ σ_1 : GSt, σ_1 = up2 σ r2 (Int32.toNatClampNeg x4) (x0 ||| x5) → (∀ x4_2 : Int32, x4_2 = x4 + 1 → (D_X5_addEach_47 K6 Q x0 x1 r2 x4_2 x5 σ_1)))))))
def L_X5_addEach_6 (Q : Int32 → GSt → Prop) : Nat → Int32 → Int32 → Nat → Int32 → Int32 → GSt → Prop
  | 0 => fun _ _ _ _ _ _ => False
  | n + 1 => fun x0 x1 r2 x4 x5 σ => D_X5_addEach_6 (L_X5_addEach_6 Q n) Q x0 x1 r2 x4 x5 σ
def D_X5_addEach_0 (Q : Int32 → GSt → Prop) (x0 : Int32) (x1 : Int32) (r2 : Nat) (x3 : Int32) (σ : GSt) : Prop :=
  ∃ n : Nat, L_X5_addEach_6 Q n x0 x1 r2 x3 0 σ
def D_X5_addEach (x0 : Int32) (x1 : Int32) (r2 : Nat) (x3 : Int32) (σ : GSt) (Q : Int32 → GSt → Prop) : Prop := D_X5_addEach_0 Q x0 x1 r2 x3 σ
set_option maxRecDepth 20000 in
set_option maxHeartbeats 4000000 in
theorem s_X5_addEach_47 {p : Program} {l : Launch} {e : Env} {s : State} {m : MethodId} {args : Array Value} {below : List Frame} {meth : Method} {c : Code} {G : GC} (X : CallFix p m c cm_X5_addEach 6 s args lw_us "GameLoom$Position") (hr : meth.sig.returnType = some .int) (hlk : meth.locks = false) (K6 : Int32 → Int32 → Nat → Int32 → Int32 → GSt → Prop) (Q : Int32 → GSt → Prop) (hK6 : ∀ (x0 : Int32) (x1 : Int32) (r2 : Nat) (x4 : Int32) (x5 : Int32) (σ : GSt) (H : Heap) (locs : List Loc) (ls : Array Slot), kd r2 = 12 → Wo G s H locs σ → lv_has ls 6 [(0, .int x0), (1, .int x1), (2, .ref (G.2.1 r2)), (4, .int x4), (5, .int x5)] → K6 x0 x1 r2 x4 x5 σ → W p l e rm_X5_addEach s m args below meth c H locs 0 0 (QMI G Q below args s) (F0 m 6 ls [])) (x0 : Int32) (x1 : Int32) (r2 : Nat) (hk2 : kd r2 = 12) (x4 : Int32) (x5 : Int32) (σ : GSt) {H : Heap} {locs : List Loc} {ls : Array Slot} (hw : Wo G s H locs σ) (hl : lv_has ls 6 [(0, .int x0), (1, .int x1), (2, .ref (G.2.1 r2)), (4, .int x4), (5, .int x5)]) (hD : D_X5_addEach_47 K6 Q x0 x1 r2 x4 x5 σ) : W p l e rm_X5_addEach s m args below meth c H locs 0 0 (QMI G Q below args s) (F0 m 47 ls []) := by
  unfold D_X5_addEach_47 at hD
  obtain ⟨x5_1, e_x5_1⟩ : ∃ y : Int32, y = x5 + 1 := ⟨_, rfl⟩
  have hD := hD x5_1 e_x5_1
  refine lv_iinc (v := x5_1) (lv' := [(5, .int x5_1), (0, .int x0), (1, .int x1), (2, .ref (G.2.1 r2)), (4, .int x4)]) X.1 X.2.1 d_X5_addEach_47 hl (k := 4) rfl (by rw [e_x5_1]; rfl) (by decide) rfl (fun ls hl => ?_)
  refine lv_goto (tgt := 6) X.1 X.2.1 d_X5_addEach_50 (by decide) ?_
  exact hK6 x0 x1 r2 x4 x5_1 σ _ _ _ hk2 hw (lv_sub hl [1, 2, 3, 4, 0] rfl) hD
set_option maxRecDepth 20000 in
set_option maxHeartbeats 4000000 in
theorem s_X5_addEach_6 {p : Program} {l : Launch} {e : Env} {s : State} {m : MethodId} {args : Array Value} {below : List Frame} {meth : Method} {c : Code} {G : GC} (X : CallFix p m c cm_X5_addEach 6 s args lw_us "GameLoom$Position") (hr : meth.sig.returnType = some .int) (hlk : meth.locks = false) (K6 : Int32 → Int32 → Nat → Int32 → Int32 → GSt → Prop) (Q : Int32 → GSt → Prop) (hK6 : ∀ (x0 : Int32) (x1 : Int32) (r2 : Nat) (x4 : Int32) (x5 : Int32) (σ : GSt) (H : Heap) (locs : List Loc) (ls : Array Slot), kd r2 = 12 → Wo G s H locs σ → lv_has ls 6 [(0, .int x0), (1, .int x1), (2, .ref (G.2.1 r2)), (4, .int x4), (5, .int x5)] → K6 x0 x1 r2 x4 x5 σ → W p l e rm_X5_addEach s m args below meth c H locs 0 0 (QMI G Q below args s) (F0 m 6 ls [])) (x0 : Int32) (x1 : Int32) (r2 : Nat) (hk2 : kd r2 = 12) (x4 : Int32) (x5 : Int32) (σ : GSt) {H : Heap} {locs : List Loc} {ls : Array Slot} (hw : Wo G s H locs σ) (hl : lv_has ls 6 [(0, .int x0), (1, .int x1), (2, .ref (G.2.1 r2)), (4, .int x4), (5, .int x5)]) (hD : D_X5_addEach_6 K6 Q x0 x1 r2 x4 x5 σ) : W p l e rm_X5_addEach s m args below meth c H locs 0 0 (QMI G Q below args s) (F0 m 6 ls []) := by
  unfold D_X5_addEach_6 at hD
  refine lv_iload_n X.1 X.2.1 d_X5_addEach_6 rfl (lv_at hl 1 rfl) ?_
  refine lv_iload X.1 X.2.1 d_X5_addEach_7 (lv_at hl 4 rfl) ?_
  refine lv_iushr (v := (jushr x1 x5)) X.1 X.2.1 d_X5_addEach_9 rfl ?_
  refine lv_if_eq (tgt := 53) X.1 X.2.1 d_X5_addEach_10 (by decide) (fun q_10 => ?_) (fun q_10 => ?_)
  · have hD := hD.1 q_10
    refine lv_iload X.1 X.2.1 d_X5_addEach_53 (lv_at hl 3 rfl) ?_
    exact g_iret X hr hlk hw hD d_X5_addEach_55
  · have hD := hD.2 q_10
    refine lv_iload X.1 X.2.1 d_X5_addEach_13 (lv_at hl 4 rfl) ?_
    refine lv_bipush (v := 16) X.1 X.2.1 d_X5_addEach_15 (by decide) ?_
    refine lv_icmp_ge (tgt := 53) X.1 X.2.1 d_X5_addEach_17 (by decide) (fun q_17 => ?_) (fun q_17 => ?_)
    · have hD := hD.1 q_17
      refine lv_iload X.1 X.2.1 d_X5_addEach_53 (lv_at hl 3 rfl) ?_
      exact g_iret X hr hlk hw hD d_X5_addEach_55
    · have hD := hD.2 q_17
      refine lv_iload_n X.1 X.2.1 d_X5_addEach_20 rfl (lv_at hl 1 rfl) ?_
      refine lv_iload X.1 X.2.1 d_X5_addEach_21 (lv_at hl 4 rfl) ?_
      refine lv_iushr (v := (jushr x1 x5)) X.1 X.2.1 d_X5_addEach_23 rfl ?_
      refine lv_iconst (v := 1) X.1 X.2.1 d_X5_addEach_24 (by decide) ?_
      refine lv_iand X.1 X.2.1 d_X5_addEach_25 ?_
      refine lv_if_eq (tgt := 47) X.1 X.2.1 d_X5_addEach_26 (by decide) (fun q_26 => ?_) (fun q_26 => ?_)
      · have hD := hD.1 q_26
        exact s_X5_addEach_47 X hr hlk K6 Q hK6 x0 x1 r2 hk2 x4 x5 σ hw (lv_sub hl [0, 1, 2, 3, 4] rfl) hD
      · have hD := hD.2 q_26
        refine lv_iload X.1 X.2.1 d_X5_addEach_29 (lv_at hl 3 rfl) ?_
        refine lv_aload_n X.1 X.2.1 d_X5_addEach_31 rfl (lv_at hl 2 rfl) ?_
        refine g_alen12 X hw hk2 d_X5_addEach_32 ?_
        refine lv_icmp_ge (tgt := 47) X.1 X.2.1 d_X5_addEach_33 (by decide) (fun q_33 => ?_) (fun q_33 => ?_)
        · have hD := hD.1 q_33
          exact s_X5_addEach_47 X hr hlk K6 Q hK6 x0 x1 r2 hk2 x4 x5 σ hw (lv_sub hl [0, 1, 2, 3, 4] rfl) hD
        · have hD := hD.2 q_33
          refine lv_aload_n X.1 X.2.1 d_X5_addEach_36 rfl (lv_at hl 2 rfl) ?_
          refine lv_iload X.1 X.2.1 d_X5_addEach_37 (lv_at hl 3 rfl) ?_
          refine lv_iload_n X.1 X.2.1 d_X5_addEach_39 rfl (lv_at hl 0 rfl) ?_
          refine lv_iload X.1 X.2.1 d_X5_addEach_40 (lv_at hl 4 rfl) ?_
          refine lv_ior X.1 X.2.1 d_X5_addEach_42 ?_
          obtain ⟨q_43, hD⟩ := hD
          refine g_iast X hw hk2 rfl q_43 d_X5_addEach_43 (fun H locs hw => ?_)
          obtain ⟨σ_1, e_σ_1⟩ : ∃ z : GSt, z = up2 σ r2 (Int32.toNatClampNeg x4) (x0 ||| x5) := ⟨_, rfl⟩
          rw [← e_σ_1] at hw
          have hD := hD σ_1 e_σ_1
          obtain ⟨x4_2, e_x4_2⟩ : ∃ y : Int32, y = x4 + 1 := ⟨_, rfl⟩
          have hD := hD x4_2 e_x4_2
          refine lv_iinc (v := x4_2) (lv' := [(4, .int x4_2), (0, .int x0), (1, .int x1), (2, .ref (G.2.1 r2)), (5, .int x5)]) X.1 X.2.1 d_X5_addEach_44 hl (k := 3) rfl (by rw [e_x4_2]; rfl) (by decide) rfl (fun ls hl => ?_)
          exact s_X5_addEach_47 X hr hlk K6 Q hK6 x0 x1 r2 hk2 x4_2 x5 σ_1 hw (lv_sub hl [1, 2, 3, 0, 4] rfl) hD
set_option maxRecDepth 20000 in
set_option maxHeartbeats 4000000 in
theorem sl_X5_addEach_6 {p : Program} {l : Launch} {e : Env} {s : State} {m : MethodId} {args : Array Value} {below : List Frame} {meth : Method} {c : Code} {G : GC} (X : CallFix p m c cm_X5_addEach 6 s args lw_us "GameLoom$Position") (hr : meth.sig.returnType = some .int) (hlk : meth.locks = false) (Q : Int32 → GSt → Prop) : ∀ (nn : Nat), ∀ (x0 : Int32) (x1 : Int32) (r2 : Nat) (x4 : Int32) (x5 : Int32) (σ : GSt) (H : Heap) (locs : List Loc) (ls : Array Slot), kd r2 = 12 → Wo G s H locs σ → lv_has ls 6 [(0, .int x0), (1, .int x1), (2, .ref (G.2.1 r2)), (4, .int x4), (5, .int x5)] → L_X5_addEach_6 Q nn x0 x1 r2 x4 x5 σ → W p l e rm_X5_addEach s m args below meth c H locs 0 0 (QMI G Q below args s) (F0 m 6 ls []) := by
  intro nn
  induction nn with
  | zero => intro x0 x1 r2 x4 x5 σ H locs ls hk2 hw hl hD; exact hD.elim
  | succ nn ih =>
    intro x0 x1 r2 x4 x5 σ H locs ls hk2 hw hl hD
    exact s_X5_addEach_6 X hr hlk (L_X5_addEach_6 Q nn) Q ih x0 x1 r2 hk2 x4 x5 σ hw hl hD
set_option maxRecDepth 20000 in
set_option maxHeartbeats 4000000 in
theorem s_X5_addEach_0 {p : Program} {l : Launch} {e : Env} {s : State} {m : MethodId} {args : Array Value} {below : List Frame} {meth : Method} {c : Code} {G : GC} (X : CallFix p m c cm_X5_addEach 6 s args lw_us "GameLoom$Position") (hr : meth.sig.returnType = some .int) (hlk : meth.locks = false) (Q : Int32 → GSt → Prop) (x0 : Int32) (x1 : Int32) (r2 : Nat) (hk2 : kd r2 = 12) (x3 : Int32) (σ : GSt) {H : Heap} {locs : List Loc} {ls : Array Slot} (hw : Wo G s H locs σ) (hl : lv_has ls 6 [(0, .int x0), (1, .int x1), (2, .ref (G.2.1 r2)), (3, .int x3)]) (hD : D_X5_addEach_0 Q x0 x1 r2 x3 σ) : W p l e rm_X5_addEach s m args below meth c H locs 0 0 (QMI G Q below args s) (F0 m 0 ls []) := by
  unfold D_X5_addEach_0 at hD
  refine lv_iload_n X.1 X.2.1 d_X5_addEach_0 rfl (lv_at hl 3 rfl) ?_
  refine lv_istore (lv' := [(4, .int x3), (0, .int x0), (1, .int x1), (2, .ref (G.2.1 r2)), (3, .int x3)]) X.1 X.2.1 d_X5_addEach_1 hl (by decide) rfl (fun ls hl => ?_)
  refine lv_iconst (v := 0) X.1 X.2.1 d_X5_addEach_3 (by decide) ?_
  refine lv_istore (lv' := [(5, .int 0), (4, .int x3), (0, .int x0), (1, .int x1), (2, .ref (G.2.1 r2)), (3, .int x3)]) X.1 X.2.1 d_X5_addEach_4 hl (by decide) rfl (fun ls hl => ?_)
  obtain ⟨n9, hD⟩ := hD
  exact sl_X5_addEach_6 X hr hlk  Q  n9 x0 x1 r2 x3 0 σ _ _ _ hk2 hw (lv_sub hl [2, 3, 4, 1, 0] rfl) hD
theorem c_X5_addEach (l : Launch) (G : GC) (x0 : Int32) (x1 : Int32) (r2 : Nat) (x3 : Int32) (σ : GSt) (Q : Int32 → GSt → Prop) (hr2 : kd r2 = 12) (hD : D_X5_addEach x0 x1 r2 x3 σ Q) : MI l ym_X5_addEach cm_X5_addEach 6 .int rm_X5_addEach G σ [.int x0, .int x1, .ref (G.2.1 r2), .int x3] Q := by
  refine met_i (by decide) (Nat.le_of_ble_eq_true rfl) ?_
  intro p e s m args below meth c X hr hlk hw ls hl
  exact s_X5_addEach_0 X hr hlk Q  x0 x1 r2 hr2 x3 σ hw (lv_sub hl [0, 1, 2, 3] rfl) hD
theorem hd_X5_targets : ym_X5_targets.cls = "GameLoom$Position" ∧ ym_X5_targets.cls ≠ "java/lang/invoke/MethodHandle" ∧ ym_X5_targets.cls ≠ "java/lang/invoke/VarHandle" ∧ (parseMethodDescriptor ym_X5_targets.desc).map (fun d => d.parameters.length) = some 2 := by decide +kernel
abbrev rm_X5_targets : Room := { frames := 0, cells := 0, slots := 0, locals := 0 }
theorem d_X5_targets_0 : decode cm_X5_targets 0 = .ok (.aload_n 0, 1) := by decide +kernel
theorem d_X5_targets_1 : decode cm_X5_targets 1 = .ok (.getfield 9, 3) := by decide +kernel
theorem d_X5_targets_4 : decode cm_X5_targets 4 = .ok (.getfield 83, 3) := by decide +kernel
theorem d_X5_targets_7 : decode cm_X5_targets 7 = .ok (.getfield 100, 3) := by decide +kernel
theorem d_X5_targets_10 : decode cm_X5_targets 10 = .ok (.aload_n 1, 1) := by decide +kernel
theorem d_X5_targets_11 : decode cm_X5_targets 11 = .ok (.getfield 74, 3) := by decide +kernel
theorem d_X5_targets_14 : decode cm_X5_targets 14 = .ok (.bipush 16, 2) := by decide +kernel
theorem d_X5_targets_16 : decode cm_X5_targets 16 = .ok (.imul, 1) := by decide +kernel
theorem d_X5_targets_17 : decode cm_X5_targets 17 = .ok (.iload_n 2, 1) := by decide +kernel
theorem d_X5_targets_18 : decode cm_X5_targets 18 = .ok (.iadd, 1) := by decide +kernel
theorem d_X5_targets_19 : decode cm_X5_targets 19 = .ok (.iaload, 1) := by decide +kernel
theorem d_X5_targets_20 : decode cm_X5_targets 20 = .ok (.istore_n 3, 1) := by decide +kernel
theorem d_X5_targets_21 : decode cm_X5_targets 21 = .ok (.aload_n 1, 1) := by decide +kernel
theorem d_X5_targets_22 : decode cm_X5_targets 22 = .ok (.getfield 71, 3) := by decide +kernel
theorem d_X5_targets_25 : decode cm_X5_targets 25 = .ok (.iconst 1, 1) := by decide +kernel
theorem d_X5_targets_26 : decode cm_X5_targets 26 = .ok (.if_icmp .ne 17, 3) := by decide +kernel
theorem d_X5_targets_29 : decode cm_X5_targets 29 = .ok (.iload_n 3, 1) := by decide +kernel
theorem d_X5_targets_30 : decode cm_X5_targets 30 = .ok (.aload_n 0, 1) := by decide +kernel
theorem d_X5_targets_31 : decode cm_X5_targets 31 = .ok (.getfield 39, 3) := by decide +kernel
theorem d_X5_targets_34 : decode cm_X5_targets 34 = .ok (.aload_n 0, 1) := by decide +kernel
theorem d_X5_targets_35 : decode cm_X5_targets 35 = .ok (.getfield 42, 3) := by decide +kernel
theorem d_X5_targets_38 : decode cm_X5_targets 38 = .ok (.ior, 1) := by decide +kernel
theorem d_X5_targets_39 : decode cm_X5_targets 39 = .ok (.iconst (-1), 1) := by decide +kernel
theorem d_X5_targets_40 : decode cm_X5_targets 40 = .ok (.ixor, 1) := by decide +kernel
theorem d_X5_targets_41 : decode cm_X5_targets 41 = .ok (.iand, 1) := by decide +kernel
theorem d_X5_targets_42 : decode cm_X5_targets 42 = .ok (.ireturn, 1) := by decide +kernel
theorem d_X5_targets_43 : decode cm_X5_targets 43 = .ok (.iload_n 3, 1) := by decide +kernel
theorem d_X5_targets_44 : decode cm_X5_targets 44 = .ok (.aload_n 0, 1) := by decide +kernel
theorem d_X5_targets_45 : decode cm_X5_targets 45 = .ok (.getfield 15, 3) := by decide +kernel
theorem d_X5_targets_48 : decode cm_X5_targets 48 = .ok (.iconst 1, 1) := by decide +kernel
theorem d_X5_targets_49 : decode cm_X5_targets 49 = .ok (.iand, 1) := by decide +kernel
theorem d_X5_targets_50 : decode cm_X5_targets 50 = .ok (.ifCond .ne 10, 3) := by decide +kernel
theorem d_X5_targets_53 : decode cm_X5_targets 53 = .ok (.aload_n 0, 1) := by decide +kernel
theorem d_X5_targets_54 : decode cm_X5_targets 54 = .ok (.getfield 42, 3) := by decide +kernel
theorem d_X5_targets_57 : decode cm_X5_targets 57 = .ok (.goto 7, 3) := by decide +kernel
theorem d_X5_targets_60 : decode cm_X5_targets 60 = .ok (.aload_n 0, 1) := by decide +kernel
theorem d_X5_targets_61 : decode cm_X5_targets 61 = .ok (.getfield 39, 3) := by decide +kernel
theorem d_X5_targets_64 : decode cm_X5_targets 64 = .ok (.iand, 1) := by decide +kernel
theorem d_X5_targets_65 : decode cm_X5_targets 65 = .ok (.istore 4, 2) := by decide +kernel
theorem d_X5_targets_67 : decode cm_X5_targets 67 = .ok (.aload_n 1, 1) := by decide +kernel
theorem d_X5_targets_68 : decode cm_X5_targets 68 = .ok (.getfield 71, 3) := by decide +kernel
theorem d_X5_targets_71 : decode cm_X5_targets 71 = .ok (.iconst 3, 1) := by decide +kernel
theorem d_X5_targets_72 : decode cm_X5_targets 72 = .ok (.if_icmp .eq 8, 3) := by decide +kernel
theorem d_X5_targets_75 : decode cm_X5_targets 75 = .ok (.iload 4, 2) := by decide +kernel
theorem d_X5_targets_77 : decode cm_X5_targets 77 = .ok (.ifCond .ne 6, 3) := by decide +kernel
theorem d_X5_targets_80 : decode cm_X5_targets 80 = .ok (.iload 4, 2) := by decide +kernel
theorem d_X5_targets_82 : decode cm_X5_targets 82 = .ok (.ireturn, 1) := by decide +kernel
theorem d_X5_targets_83 : decode cm_X5_targets 83 = .ok (.aload_n 0, 1) := by decide +kernel
theorem d_X5_targets_84 : decode cm_X5_targets 84 = .ok (.getfield 9, 3) := by decide +kernel
theorem d_X5_targets_87 : decode cm_X5_targets 87 = .ok (.getfield 83, 3) := by decide +kernel
theorem d_X5_targets_90 : decode cm_X5_targets 90 = .ok (.getfield 104, 3) := by decide +kernel
theorem d_X5_targets_93 : decode cm_X5_targets 93 = .ok (.astore 5, 2) := by decide +kernel
theorem d_X5_targets_95 : decode cm_X5_targets 95 = .ok (.iconst 0, 1) := by decide +kernel
theorem d_X5_targets_96 : decode cm_X5_targets 96 = .ok (.istore 6, 2) := by decide +kernel
theorem d_X5_targets_98 : decode cm_X5_targets 98 = .ok (.iconst 0, 1) := by decide +kernel
theorem d_X5_targets_99 : decode cm_X5_targets 99 = .ok (.istore 7, 2) := by decide +kernel
theorem d_X5_targets_101 : decode cm_X5_targets 101 = .ok (.iload 7, 2) := by decide +kernel
theorem d_X5_targets_103 : decode cm_X5_targets 103 = .ok (.bipush 8, 2) := by decide +kernel
theorem d_X5_targets_105 : decode cm_X5_targets 105 = .ok (.if_icmp .ge 130, 3) := by decide +kernel
theorem d_X5_targets_108 : decode cm_X5_targets 108 = .ok (.aload 5, 2) := by decide +kernel
theorem d_X5_targets_110 : decode cm_X5_targets 110 = .ok (.bipush 8, 2) := by decide +kernel
theorem d_X5_targets_112 : decode cm_X5_targets 112 = .ok (.iload_n 2, 1) := by decide +kernel
theorem d_X5_targets_113 : decode cm_X5_targets 113 = .ok (.imul, 1) := by decide +kernel
theorem d_X5_targets_114 : decode cm_X5_targets 114 = .ok (.iload 7, 2) := by decide +kernel
theorem d_X5_targets_116 : decode cm_X5_targets 116 = .ok (.iadd, 1) := by decide +kernel
theorem d_X5_targets_117 : decode cm_X5_targets 117 = .ok (.iaload, 1) := by decide +kernel
theorem d_X5_targets_118 : decode cm_X5_targets 118 = .ok (.istore 8, 2) := by decide +kernel
theorem d_X5_targets_120 : decode cm_X5_targets 120 = .ok (.iload 8, 2) := by decide +kernel
theorem d_X5_targets_122 : decode cm_X5_targets 122 = .ok (.ifCond .lt 107, 3) := by decide +kernel
theorem d_X5_targets_125 : decode cm_X5_targets 125 = .ok (.iload 4, 2) := by decide +kernel
theorem d_X5_targets_127 : decode cm_X5_targets 127 = .ok (.iload 8, 2) := by decide +kernel
theorem d_X5_targets_129 : decode cm_X5_targets 129 = .ok (.iushr, 1) := by decide +kernel
theorem d_X5_targets_130 : decode cm_X5_targets 130 = .ok (.iconst 1, 1) := by decide +kernel
theorem d_X5_targets_131 : decode cm_X5_targets 131 = .ok (.iand, 1) := by decide +kernel
theorem d_X5_targets_132 : decode cm_X5_targets 132 = .ok (.ifCond .eq 97, 3) := by decide +kernel
theorem d_X5_targets_135 : decode cm_X5_targets 135 = .ok (.aload 5, 2) := by decide +kernel
theorem d_X5_targets_137 : decode cm_X5_targets 137 = .ok (.bipush 8, 2) := by decide +kernel
theorem d_X5_targets_139 : decode cm_X5_targets 139 = .ok (.iload 8, 2) := by decide +kernel
theorem d_X5_targets_141 : decode cm_X5_targets 141 = .ok (.imul, 1) := by decide +kernel
theorem d_X5_targets_142 : decode cm_X5_targets 142 = .ok (.iload 7, 2) := by decide +kernel
theorem d_X5_targets_144 : decode cm_X5_targets 144 = .ok (.iadd, 1) := by decide +kernel
theorem d_X5_targets_145 : decode cm_X5_targets 145 = .ok (.iaload, 1) := by decide +kernel
theorem d_X5_targets_146 : decode cm_X5_targets 146 = .ok (.istore 9, 2) := by decide +kernel
theorem d_X5_targets_148 : decode cm_X5_targets 148 = .ok (.iload 9, 2) := by decide +kernel
theorem d_X5_targets_150 : decode cm_X5_targets 150 = .ok (.ifCond .lt 24, 3) := by decide +kernel
theorem d_X5_targets_153 : decode cm_X5_targets 153 = .ok (.aload_n 0, 1) := by decide +kernel
theorem d_X5_targets_154 : decode cm_X5_targets 154 = .ok (.getfield 39, 3) := by decide +kernel
theorem d_X5_targets_157 : decode cm_X5_targets 157 = .ok (.aload_n 0, 1) := by decide +kernel
theorem d_X5_targets_158 : decode cm_X5_targets 158 = .ok (.getfield 42, 3) := by decide +kernel
theorem d_X5_targets_161 : decode cm_X5_targets 161 = .ok (.ior, 1) := by decide +kernel
theorem d_X5_targets_162 : decode cm_X5_targets 162 = .ok (.iload 9, 2) := by decide +kernel
theorem d_X5_targets_164 : decode cm_X5_targets 164 = .ok (.iushr, 1) := by decide +kernel
theorem d_X5_targets_165 : decode cm_X5_targets 165 = .ok (.iconst 1, 1) := by decide +kernel
theorem d_X5_targets_166 : decode cm_X5_targets 166 = .ok (.iand, 1) := by decide +kernel
theorem d_X5_targets_167 : decode cm_X5_targets 167 = .ok (.ifCond .ne 7, 3) := by decide +kernel
theorem d_X5_targets_170 : decode cm_X5_targets 170 = .ok (.iconst 1, 1) := by decide +kernel
theorem d_X5_targets_171 : decode cm_X5_targets 171 = .ok (.goto 4, 3) := by decide +kernel
theorem d_X5_targets_174 : decode cm_X5_targets 174 = .ok (.iconst 0, 1) := by decide +kernel
theorem d_X5_targets_175 : decode cm_X5_targets 175 = .ok (.istore 10, 2) := by decide +kernel
theorem d_X5_targets_177 : decode cm_X5_targets 177 = .ok (.aload_n 1, 1) := by decide +kernel
theorem d_X5_targets_178 : decode cm_X5_targets 178 = .ok (.getfield 71, 3) := by decide +kernel
theorem d_X5_targets_181 : decode cm_X5_targets 181 = .ok (.iconst 2, 1) := by decide +kernel
theorem d_X5_targets_182 : decode cm_X5_targets 182 = .ok (.if_icmp .ne 24, 3) := by decide +kernel
theorem d_X5_targets_185 : decode cm_X5_targets 185 = .ok (.iload 6, 2) := by decide +kernel
theorem d_X5_targets_187 : decode cm_X5_targets 187 = .ok (.iload 10, 2) := by decide +kernel
theorem d_X5_targets_189 : decode cm_X5_targets 189 = .ok (.ifCond .eq 10, 3) := by decide +kernel
theorem d_X5_targets_192 : decode cm_X5_targets 192 = .ok (.iconst 1, 1) := by decide +kernel
theorem d_X5_targets_193 : decode cm_X5_targets 193 = .ok (.iload 9, 2) := by decide +kernel
theorem d_X5_targets_195 : decode cm_X5_targets 195 = .ok (.ishl, 1) := by decide +kernel
theorem d_X5_targets_196 : decode cm_X5_targets 196 = .ok (.goto 4, 3) := by decide +kernel
theorem d_X5_targets_199 : decode cm_X5_targets 199 = .ok (.iconst 0, 1) := by decide +kernel
theorem d_X5_targets_200 : decode cm_X5_targets 200 = .ok (.ior, 1) := by decide +kernel
theorem d_X5_targets_201 : decode cm_X5_targets 201 = .ok (.istore 6, 2) := by decide +kernel
theorem d_X5_targets_203 : decode cm_X5_targets 203 = .ok (.goto 26, 3) := by decide +kernel
theorem d_X5_targets_206 : decode cm_X5_targets 206 = .ok (.iload 6, 2) := by decide +kernel
theorem d_X5_targets_208 : decode cm_X5_targets 208 = .ok (.iload 10, 2) := by decide +kernel
theorem d_X5_targets_210 : decode cm_X5_targets 210 = .ok (.ifCond .ne 8, 3) := by decide +kernel
theorem d_X5_targets_213 : decode cm_X5_targets 213 = .ok (.iload 9, 2) := by decide +kernel
theorem d_X5_targets_215 : decode cm_X5_targets 215 = .ok (.ifCond .ge 10, 3) := by decide +kernel
theorem d_X5_targets_218 : decode cm_X5_targets 218 = .ok (.iconst 1, 1) := by decide +kernel
theorem d_X5_targets_219 : decode cm_X5_targets 219 = .ok (.iload 8, 2) := by decide +kernel
theorem d_X5_targets_221 : decode cm_X5_targets 221 = .ok (.ishl, 1) := by decide +kernel
theorem d_X5_targets_222 : decode cm_X5_targets 222 = .ok (.goto 4, 3) := by decide +kernel
theorem d_X5_targets_225 : decode cm_X5_targets 225 = .ok (.iconst 0, 1) := by decide +kernel
theorem d_X5_targets_226 : decode cm_X5_targets 226 = .ok (.ior, 1) := by decide +kernel
theorem d_X5_targets_227 : decode cm_X5_targets 227 = .ok (.istore 6, 2) := by decide +kernel
theorem d_X5_targets_229 : decode cm_X5_targets 229 = .ok (.iinc 7 1, 3) := by decide +kernel
theorem d_X5_targets_232 : decode cm_X5_targets 232 = .ok (.goto (-131), 3) := by decide +kernel
theorem d_X5_targets_235 : decode cm_X5_targets 235 = .ok (.iload 6, 2) := by decide +kernel
theorem d_X5_targets_237 : decode cm_X5_targets 237 = .ok (.ireturn, 1) := by decide +kernel
def D_X5_targets_229 (K101 : Nat → Int32 → Int32 → Nat → Int32 → Int32 → GSt → Prop) (Q : Int32 → GSt → Prop) (o : Nat) (r1 : Nat) (x2 : Int32) (x4 : Int32) (r5 : Nat) (x6 : Int32) (x7 : Int32) (σ : GSt) : Prop :=
  ∀ x7_1 : Int32, x7_1 = x7 + 1 → (K101 r1 x2 x4 r5 x6 x7_1 σ)
def D_X5_targets_226 (K101 : Nat → Int32 → Int32 → Nat → Int32 → Int32 → GSt → Prop) (Q : Int32 → GSt → Prop) (o : Nat) (r1 : Nat) (x2 : Int32) (x4 : Int32) (r5 : Nat) (x7 : Int32) (s0 : Int32) (s1 : Int32) (σ : GSt) : Prop :=
  ∀ x6_1 : Int32, x6_1 = (s0 ||| s1) → (D_X5_targets_229 K101 Q o r1 x2 x4 r5 x6_1 x7 σ)
def D_X5_targets_218 (K101 : Nat → Int32 → Int32 → Nat → Int32 → Int32 → GSt → Prop) (Q : Int32 → GSt → Prop) (o : Nat) (r1 : Nat) (x2 : Int32) (x4 : Int32) (r5 : Nat) (x7 : Int32) (x8 : Int32) (s0 : Int32) (σ : GSt) : Prop :=
  D_X5_targets_226 K101 Q o r1 x2 x4 r5 x7 s0 (jshl 1 x8) σ
def D_X5_targets_200 (K101 : Nat → Int32 → Int32 → Nat → Int32 → Int32 → GSt → Prop) (Q : Int32 → GSt → Prop) (o : Nat) (r1 : Nat) (x2 : Int32) (x4 : Int32) (r5 : Nat) (x7 : Int32) (s0 : Int32) (s1 : Int32) (σ : GSt) : Prop :=
  ∀ x6_1 : Int32, x6_1 = (s0 ||| s1) → (D_X5_targets_229 K101 Q o r1 x2 x4 r5 x6_1 x7 σ)
def D_X5_targets_175 (K101 : Nat → Int32 → Int32 → Nat → Int32 → Int32 → GSt → Prop) (Q : Int32 → GSt → Prop) (o : Nat) (r1 : Nat) (x2 : Int32) (x4 : Int32) (r5 : Nat) (x6 : Int32) (x7 : Int32) (x8 : Int32) (x9 : Int32) (s0 : Int32) (σ : GSt) : Prop :=
  (¬ (σ r1 0) = 2 → (¬ s0 = 0 → D_X5_targets_218 K101 Q o r1 x2 x4 r5 x7 x8 x6 σ) ∧
  (s0 = 0 → (0 ≤ x9 → D_X5_targets_226 K101 Q o r1 x2 x4 r5 x7 x6 0 σ) ∧
  (¬ 0 ≤ x9 → D_X5_targets_218 K101 Q o r1 x2 x4 r5 x7 x8 x6 σ))) ∧
  ((σ r1 0) = 2 → (s0 = 0 → D_X5_targets_200 K101 Q o r1 x2 x4 r5 x7 x6 0 σ) ∧
  (¬ s0 = 0 → D_X5_targets_200 K101 Q o r1 x2 x4 r5 x7 x6 (jshl 1 x9) σ))
def D_X5_targets_174 (K101 : Nat → Int32 → Int32 → Nat → Int32 → Int32 → GSt → Prop) (Q : Int32 → GSt → Prop) (o : Nat) (r1 : Nat) (x2 : Int32) (x4 : Int32) (r5 : Nat) (x6 : Int32) (x7 : Int32) (x8 : Int32) (x9 : Int32) (σ : GSt) : Prop :=
  D_X5_targets_175 K101 Q o r1 x2 x4 r5 x6 x7 x8 x9 0 σ
def D_X5_targets_101 (K101 : Nat → Int32 → Int32 → Nat → Int32 → Int32 → GSt → Prop) (Q : Int32 → GSt → Prop) (o : Nat) (r1 : Nat) (x2 : Int32) (x4 : Int32) (r5 : Nat) (x6 : Int32) (x7 : Int32) (σ : GSt) : Prop :=
  (8 ≤ x7 → Q x6 σ) ∧
  (¬ 8 ≤ x7 → vp_in ((8 * x2) + x7) (ln r5) ∧ (∀ x8_1 : Int32, x8_1 = (σ r5 (Int32.toNatClampNeg ((8 * x2) + x7))) → ((x8_1 < 0 → D_X5_targets_229 K101 Q o r1 x2 x4 r5 x6 x7 σ) ∧
  (¬ x8_1 < 0 → (((jushr x4 x8_1) &&& 1) = 0 → D_X5_targets_229 K101 Q o r1 x2 x4 r5 x6 x7 σ) ∧
  (¬ ((jushr x4 x8_1) &&& 1) = 0 → vp_in ((8 * x8_1) + x7) (ln r5) ∧ (∀ x9_2 : Int32, x9_2 = (σ r5 (Int32.toNatClampNeg ((8 * x8_1) + x7))) → ((x9_2 < 0 → D_X5_targets_174 K101 Q o r1 x2 x4 r5 x6 x7 x8_1 x9_2 σ) ∧
  (¬ x9_2 < 0 → (¬ ((jushr ((σ o 1) ||| (σ o 2)) x9_2) &&& 1) = 0 → D_X5_targets_174 K101 Q o r1 x2 x4 r5 x6 x7 x8_1 x9_2 σ) ∧
  (((jushr ((σ o 1) ||| (σ o 2)) x9_2) &&& 1) = 0 → D_X5_targets_175 K101 Q o r1 x2 x4 r5 x6 x7 x8_1 x9_2 1 σ)))))))))
def L_X5_targets_101 (Q : Int32 → GSt → Prop) (o : Nat) : Nat → Nat → Int32 → Int32 → Nat → Int32 → Int32 → GSt → Prop
  | 0 => fun _ _ _ _ _ _ _ => False
  | n + 1 => fun r1 x2 x4 r5 x6 x7 σ => D_X5_targets_101 (L_X5_targets_101 Q o n) Q o r1 x2 x4 r5 x6 x7 σ
def D_X5_targets_64 (Q : Int32 → GSt → Prop) (o : Nat) (r1 : Nat) (x2 : Int32) (s0 : Int32) (s1 : Int32) (σ : GSt) : Prop :=
  ∀ x4_1 : Int32, x4_1 = (s0 &&& s1) → (((σ r1 0) = 3 → Q x4_1 σ) ∧
  (¬ (σ r1 0) = 3 → (¬ x4_1 = 0 → (¬ σ o 0 < 0 ∧ kd (σ o 0).toNatClampNeg = 1) ∧ (∃ n : Nat, L_X5_targets_101 Q o n r1 x2 x4_1 ((((σ o 0).toNatClampNeg) + 3) + 1) 0 0 σ)) ∧
  (x4_1 = 0 → Q x4_1 σ)))
def D_X5_targets_0 (Q : Int32 → GSt → Prop) (o : Nat) (r1 : Nat) (x2 : Int32) (σ : GSt) : Prop :=
  (¬ σ o 0 < 0 ∧ kd (σ o 0).toNatClampNeg = 1) ∧ (vp_in (((σ r1 1) * 16) + x2) 64 ∧ (∀ x3_1 : Int32, x3_1 = (σ ((((σ o 0).toNatClampNeg) + 3) + 2) (Int32.toNatClampNeg (((σ r1 1) * 16) + x2))) → ((¬ (σ r1 0) = 1 → (¬ ((σ o 3) &&& 1) = 0 → D_X5_targets_64 Q o r1 x2 x3_1 (σ o 1) σ) ∧
  (((σ o 3) &&& 1) = 0 → D_X5_targets_64 Q o r1 x2 x3_1 (σ o 2) σ)) ∧
  ((σ r1 0) = 1 → Q (x3_1 &&& (((σ o 1) ||| (σ o 2)) ^^^ (-1))) σ))))
def D_X5_targets (o : Nat) (r1 : Nat) (x2 : Int32) (σ : GSt) (Q : Int32 → GSt → Prop) : Prop := D_X5_targets_0 Q o r1 x2 σ
set_option maxRecDepth 20000 in
set_option maxHeartbeats 4000000 in
theorem s_X5_targets_229 {p : Program} {l : Launch} {e : Env} {s : State} {m : MethodId} {args : Array Value} {below : List Frame} {meth : Method} {c : Code} {G : GC} (X : CallFix p m c cm_X5_targets 11 s args lw_us "GameLoom$Position") (hr : meth.sig.returnType = some .int) (hlk : meth.locks = false) (K101 : Nat → Int32 → Int32 → Nat → Int32 → Int32 → GSt → Prop) (Q : Int32 → GSt → Prop) (o : Nat) (ho : kd o = 5) (hK101 : ∀ (r1 : Nat) (x2 : Int32) (x4 : Int32) (r5 : Nat) (x6 : Int32) (x7 : Int32) (σ : GSt) (H : Heap) (locs : List Loc) (ls : Array Slot), kd r1 = 7 → kd r5 = 12 → Wo G s H locs σ → lv_has ls 11 [(0, .ref (G.2.1 o)), (1, .ref (G.2.1 r1)), (2, .int x2), (4, .int x4), (5, .ref (G.2.1 r5)), (6, .int x6), (7, .int x7)] → K101 r1 x2 x4 r5 x6 x7 σ → W p l e rm_X5_targets s m args below meth c H locs 0 0 (QMI G Q below args s) (F0 m 101 ls [])) (r1 : Nat) (hk1 : kd r1 = 7) (x2 : Int32) (x4 : Int32) (r5 : Nat) (hk5 : kd r5 = 12) (x6 : Int32) (x7 : Int32) (σ : GSt) {H : Heap} {locs : List Loc} {ls : Array Slot} (hw : Wo G s H locs σ) (hl : lv_has ls 11 [(0, .ref (G.2.1 o)), (1, .ref (G.2.1 r1)), (2, .int x2), (4, .int x4), (5, .ref (G.2.1 r5)), (6, .int x6), (7, .int x7)]) (hD : D_X5_targets_229 K101 Q o r1 x2 x4 r5 x6 x7 σ) : W p l e rm_X5_targets s m args below meth c H locs 0 0 (QMI G Q below args s) (F0 m 229 ls []) := by
  unfold D_X5_targets_229 at hD
  obtain ⟨x7_1, e_x7_1⟩ : ∃ y : Int32, y = x7 + 1 := ⟨_, rfl⟩
  have hD := hD x7_1 e_x7_1
  refine lv_iinc (v := x7_1) (lv' := [(7, .int x7_1), (0, .ref (G.2.1 o)), (1, .ref (G.2.1 r1)), (2, .int x2), (4, .int x4), (5, .ref (G.2.1 r5)), (6, .int x6)]) X.1 X.2.1 d_X5_targets_229 hl (k := 6) rfl (by rw [e_x7_1]; rfl) (by decide) rfl (fun ls hl => ?_)
  refine lv_goto (tgt := 101) X.1 X.2.1 d_X5_targets_232 (by decide) ?_
  exact hK101 r1 x2 x4 r5 x6 x7_1 σ _ _ _ hk1 hk5 hw (lv_sub hl [1, 2, 3, 4, 5, 6, 0] rfl) hD
set_option maxRecDepth 20000 in
set_option maxHeartbeats 4000000 in
theorem s_X5_targets_226 {p : Program} {l : Launch} {e : Env} {s : State} {m : MethodId} {args : Array Value} {below : List Frame} {meth : Method} {c : Code} {G : GC} (X : CallFix p m c cm_X5_targets 11 s args lw_us "GameLoom$Position") (hr : meth.sig.returnType = some .int) (hlk : meth.locks = false) (K101 : Nat → Int32 → Int32 → Nat → Int32 → Int32 → GSt → Prop) (Q : Int32 → GSt → Prop) (o : Nat) (ho : kd o = 5) (hK101 : ∀ (r1 : Nat) (x2 : Int32) (x4 : Int32) (r5 : Nat) (x6 : Int32) (x7 : Int32) (σ : GSt) (H : Heap) (locs : List Loc) (ls : Array Slot), kd r1 = 7 → kd r5 = 12 → Wo G s H locs σ → lv_has ls 11 [(0, .ref (G.2.1 o)), (1, .ref (G.2.1 r1)), (2, .int x2), (4, .int x4), (5, .ref (G.2.1 r5)), (6, .int x6), (7, .int x7)] → K101 r1 x2 x4 r5 x6 x7 σ → W p l e rm_X5_targets s m args below meth c H locs 0 0 (QMI G Q below args s) (F0 m 101 ls [])) (r1 : Nat) (hk1 : kd r1 = 7) (x2 : Int32) (x4 : Int32) (r5 : Nat) (hk5 : kd r5 = 12) (x7 : Int32) (s0 : Int32) (s1 : Int32) (σ : GSt) {H : Heap} {locs : List Loc} {ls : Array Slot} (hw : Wo G s H locs σ) (hl : lv_has ls 11 [(0, .ref (G.2.1 o)), (1, .ref (G.2.1 r1)), (2, .int x2), (4, .int x4), (5, .ref (G.2.1 r5)), (7, .int x7)]) (hD : D_X5_targets_226 K101 Q o r1 x2 x4 r5 x7 s0 s1 σ) : W p l e rm_X5_targets s m args below meth c H locs 0 0 (QMI G Q below args s) (F0 m 226 ls [.int s1, .int s0]) := by
  unfold D_X5_targets_226 at hD
  refine lv_ior X.1 X.2.1 d_X5_targets_226 ?_
  refine lv_topi (fun x6_1 e_x6_1 => ?_)
  have hD := hD x6_1 e_x6_1
  refine lv_istore (lv' := [(6, .int x6_1), (0, .ref (G.2.1 o)), (1, .ref (G.2.1 r1)), (2, .int x2), (4, .int x4), (5, .ref (G.2.1 r5)), (7, .int x7)]) X.1 X.2.1 d_X5_targets_227 hl (by decide) rfl (fun ls hl => ?_)
  exact s_X5_targets_229 X hr hlk K101 Q o ho hK101 r1 hk1 x2 x4 r5 hk5 x6_1 x7 σ hw (lv_sub hl [1, 2, 3, 4, 5, 0, 6] rfl) hD
set_option maxRecDepth 20000 in
set_option maxHeartbeats 4000000 in
theorem s_X5_targets_218 {p : Program} {l : Launch} {e : Env} {s : State} {m : MethodId} {args : Array Value} {below : List Frame} {meth : Method} {c : Code} {G : GC} (X : CallFix p m c cm_X5_targets 11 s args lw_us "GameLoom$Position") (hr : meth.sig.returnType = some .int) (hlk : meth.locks = false) (K101 : Nat → Int32 → Int32 → Nat → Int32 → Int32 → GSt → Prop) (Q : Int32 → GSt → Prop) (o : Nat) (ho : kd o = 5) (hK101 : ∀ (r1 : Nat) (x2 : Int32) (x4 : Int32) (r5 : Nat) (x6 : Int32) (x7 : Int32) (σ : GSt) (H : Heap) (locs : List Loc) (ls : Array Slot), kd r1 = 7 → kd r5 = 12 → Wo G s H locs σ → lv_has ls 11 [(0, .ref (G.2.1 o)), (1, .ref (G.2.1 r1)), (2, .int x2), (4, .int x4), (5, .ref (G.2.1 r5)), (6, .int x6), (7, .int x7)] → K101 r1 x2 x4 r5 x6 x7 σ → W p l e rm_X5_targets s m args below meth c H locs 0 0 (QMI G Q below args s) (F0 m 101 ls [])) (r1 : Nat) (hk1 : kd r1 = 7) (x2 : Int32) (x4 : Int32) (r5 : Nat) (hk5 : kd r5 = 12) (x7 : Int32) (x8 : Int32) (s0 : Int32) (σ : GSt) {H : Heap} {locs : List Loc} {ls : Array Slot} (hw : Wo G s H locs σ) (hl : lv_has ls 11 [(0, .ref (G.2.1 o)), (1, .ref (G.2.1 r1)), (2, .int x2), (4, .int x4), (5, .ref (G.2.1 r5)), (7, .int x7), (8, .int x8)]) (hD : D_X5_targets_218 K101 Q o r1 x2 x4 r5 x7 x8 s0 σ) : W p l e rm_X5_targets s m args below meth c H locs 0 0 (QMI G Q below args s) (F0 m 218 ls [.int s0]) := by
  unfold D_X5_targets_218 at hD
  refine lv_iconst (v := 1) X.1 X.2.1 d_X5_targets_218 (by decide) ?_
  refine lv_iload X.1 X.2.1 d_X5_targets_219 (lv_at hl 6 rfl) ?_
  refine g_ishl X d_X5_targets_221 ?_
  refine lv_goto (tgt := 226) X.1 X.2.1 d_X5_targets_222 (by decide) ?_
  exact s_X5_targets_226 X hr hlk K101 Q o ho hK101 r1 hk1 x2 x4 r5 hk5 x7 s0 (jshl 1 x8) σ hw (lv_sub hl [0, 1, 2, 3, 4, 5] rfl) hD
set_option maxRecDepth 20000 in
set_option maxHeartbeats 4000000 in
theorem s_X5_targets_200 {p : Program} {l : Launch} {e : Env} {s : State} {m : MethodId} {args : Array Value} {below : List Frame} {meth : Method} {c : Code} {G : GC} (X : CallFix p m c cm_X5_targets 11 s args lw_us "GameLoom$Position") (hr : meth.sig.returnType = some .int) (hlk : meth.locks = false) (K101 : Nat → Int32 → Int32 → Nat → Int32 → Int32 → GSt → Prop) (Q : Int32 → GSt → Prop) (o : Nat) (ho : kd o = 5) (hK101 : ∀ (r1 : Nat) (x2 : Int32) (x4 : Int32) (r5 : Nat) (x6 : Int32) (x7 : Int32) (σ : GSt) (H : Heap) (locs : List Loc) (ls : Array Slot), kd r1 = 7 → kd r5 = 12 → Wo G s H locs σ → lv_has ls 11 [(0, .ref (G.2.1 o)), (1, .ref (G.2.1 r1)), (2, .int x2), (4, .int x4), (5, .ref (G.2.1 r5)), (6, .int x6), (7, .int x7)] → K101 r1 x2 x4 r5 x6 x7 σ → W p l e rm_X5_targets s m args below meth c H locs 0 0 (QMI G Q below args s) (F0 m 101 ls [])) (r1 : Nat) (hk1 : kd r1 = 7) (x2 : Int32) (x4 : Int32) (r5 : Nat) (hk5 : kd r5 = 12) (x7 : Int32) (s0 : Int32) (s1 : Int32) (σ : GSt) {H : Heap} {locs : List Loc} {ls : Array Slot} (hw : Wo G s H locs σ) (hl : lv_has ls 11 [(0, .ref (G.2.1 o)), (1, .ref (G.2.1 r1)), (2, .int x2), (4, .int x4), (5, .ref (G.2.1 r5)), (7, .int x7)]) (hD : D_X5_targets_200 K101 Q o r1 x2 x4 r5 x7 s0 s1 σ) : W p l e rm_X5_targets s m args below meth c H locs 0 0 (QMI G Q below args s) (F0 m 200 ls [.int s1, .int s0]) := by
  unfold D_X5_targets_200 at hD
  refine lv_ior X.1 X.2.1 d_X5_targets_200 ?_
  refine lv_topi (fun x6_1 e_x6_1 => ?_)
  have hD := hD x6_1 e_x6_1
  refine lv_istore (lv' := [(6, .int x6_1), (0, .ref (G.2.1 o)), (1, .ref (G.2.1 r1)), (2, .int x2), (4, .int x4), (5, .ref (G.2.1 r5)), (7, .int x7)]) X.1 X.2.1 d_X5_targets_201 hl (by decide) rfl (fun ls hl => ?_)
  refine lv_goto (tgt := 229) X.1 X.2.1 d_X5_targets_203 (by decide) ?_
  exact s_X5_targets_229 X hr hlk K101 Q o ho hK101 r1 hk1 x2 x4 r5 hk5 x6_1 x7 σ hw (lv_sub hl [1, 2, 3, 4, 5, 0, 6] rfl) hD
set_option maxRecDepth 20000 in
set_option maxHeartbeats 4000000 in
theorem s_X5_targets_175 {p : Program} {l : Launch} {e : Env} {s : State} {m : MethodId} {args : Array Value} {below : List Frame} {meth : Method} {c : Code} {G : GC} (X : CallFix p m c cm_X5_targets 11 s args lw_us "GameLoom$Position") (hr : meth.sig.returnType = some .int) (hlk : meth.locks = false) (K101 : Nat → Int32 → Int32 → Nat → Int32 → Int32 → GSt → Prop) (Q : Int32 → GSt → Prop) (o : Nat) (ho : kd o = 5) (hK101 : ∀ (r1 : Nat) (x2 : Int32) (x4 : Int32) (r5 : Nat) (x6 : Int32) (x7 : Int32) (σ : GSt) (H : Heap) (locs : List Loc) (ls : Array Slot), kd r1 = 7 → kd r5 = 12 → Wo G s H locs σ → lv_has ls 11 [(0, .ref (G.2.1 o)), (1, .ref (G.2.1 r1)), (2, .int x2), (4, .int x4), (5, .ref (G.2.1 r5)), (6, .int x6), (7, .int x7)] → K101 r1 x2 x4 r5 x6 x7 σ → W p l e rm_X5_targets s m args below meth c H locs 0 0 (QMI G Q below args s) (F0 m 101 ls [])) (r1 : Nat) (hk1 : kd r1 = 7) (x2 : Int32) (x4 : Int32) (r5 : Nat) (hk5 : kd r5 = 12) (x6 : Int32) (x7 : Int32) (x8 : Int32) (x9 : Int32) (s0 : Int32) (σ : GSt) {H : Heap} {locs : List Loc} {ls : Array Slot} (hw : Wo G s H locs σ) (hl : lv_has ls 11 [(0, .ref (G.2.1 o)), (1, .ref (G.2.1 r1)), (2, .int x2), (4, .int x4), (5, .ref (G.2.1 r5)), (6, .int x6), (7, .int x7), (8, .int x8), (9, .int x9)]) (hD : D_X5_targets_175 K101 Q o r1 x2 x4 r5 x6 x7 x8 x9 s0 σ) : W p l e rm_X5_targets s m args below meth c H locs 0 0 (QMI G Q below args s) (F0 m 175 ls [.int s0]) := by
  unfold D_X5_targets_175 at hD
  refine lv_istore (lv' := [(10, .int s0), (0, .ref (G.2.1 o)), (1, .ref (G.2.1 r1)), (2, .int x2), (4, .int x4), (5, .ref (G.2.1 r5)), (6, .int x6), (7, .int x7), (8, .int x8), (9, .int x9)]) X.1 X.2.1 d_X5_targets_175 hl (by decide) rfl (fun ls hl => ?_)
  refine lv_aload_n X.1 X.2.1 d_X5_targets_177 rfl (lv_at hl 2 rfl) ?_
  refine gf_7_0 X hw hk1 tb_128 d_X5_targets_178 ?_
  refine lv_iconst (v := 2) X.1 X.2.1 d_X5_targets_181 (by decide) ?_
  refine lv_icmp_ne (tgt := 206) X.1 X.2.1 d_X5_targets_182 (by decide) (fun q_182 => ?_) (fun q_182 => ?_)
  · have hD := hD.1 q_182
    refine lv_iload X.1 X.2.1 d_X5_targets_206 (lv_at hl 6 rfl) ?_
    refine lv_iload X.1 X.2.1 d_X5_targets_208 (lv_at hl 0 rfl) ?_
    refine lv_if_ne (tgt := 218) X.1 X.2.1 d_X5_targets_210 (by decide) (fun q_210 => ?_) (fun q_210 => ?_)
    · have hD := hD.1 q_210
      exact s_X5_targets_218 X hr hlk K101 Q o ho hK101 r1 hk1 x2 x4 r5 hk5 x7 x8 x6 σ hw (lv_sub hl [1, 2, 3, 4, 5, 7, 8] rfl) hD
    · have hD := hD.2 q_210
      refine lv_iload X.1 X.2.1 d_X5_targets_213 (lv_at hl 9 rfl) ?_
      refine lv_if_ge (tgt := 225) X.1 X.2.1 d_X5_targets_215 (by decide) (fun q_215 => ?_) (fun q_215 => ?_)
      · have hD := hD.1 q_215
        refine lv_iconst (v := 0) X.1 X.2.1 d_X5_targets_225 (by decide) ?_
        exact s_X5_targets_226 X hr hlk K101 Q o ho hK101 r1 hk1 x2 x4 r5 hk5 x7 x6 0 σ hw (lv_sub hl [1, 2, 3, 4, 5, 7] rfl) hD
      · have hD := hD.2 q_215
        exact s_X5_targets_218 X hr hlk K101 Q o ho hK101 r1 hk1 x2 x4 r5 hk5 x7 x8 x6 σ hw (lv_sub hl [1, 2, 3, 4, 5, 7, 8] rfl) hD
  · have hD := hD.2 q_182
    refine lv_iload X.1 X.2.1 d_X5_targets_185 (lv_at hl 6 rfl) ?_
    refine lv_iload X.1 X.2.1 d_X5_targets_187 (lv_at hl 0 rfl) ?_
    refine lv_if_eq (tgt := 199) X.1 X.2.1 d_X5_targets_189 (by decide) (fun q_189 => ?_) (fun q_189 => ?_)
    · have hD := hD.1 q_189
      refine lv_iconst (v := 0) X.1 X.2.1 d_X5_targets_199 (by decide) ?_
      exact s_X5_targets_200 X hr hlk K101 Q o ho hK101 r1 hk1 x2 x4 r5 hk5 x7 x6 0 σ hw (lv_sub hl [1, 2, 3, 4, 5, 7] rfl) hD
    · have hD := hD.2 q_189
      refine lv_iconst (v := 1) X.1 X.2.1 d_X5_targets_192 (by decide) ?_
      refine lv_iload X.1 X.2.1 d_X5_targets_193 (lv_at hl 9 rfl) ?_
      refine g_ishl X d_X5_targets_195 ?_
      refine lv_goto (tgt := 200) X.1 X.2.1 d_X5_targets_196 (by decide) ?_
      exact s_X5_targets_200 X hr hlk K101 Q o ho hK101 r1 hk1 x2 x4 r5 hk5 x7 x6 (jshl 1 x9) σ hw (lv_sub hl [1, 2, 3, 4, 5, 7] rfl) hD
set_option maxRecDepth 20000 in
set_option maxHeartbeats 4000000 in
theorem s_X5_targets_174 {p : Program} {l : Launch} {e : Env} {s : State} {m : MethodId} {args : Array Value} {below : List Frame} {meth : Method} {c : Code} {G : GC} (X : CallFix p m c cm_X5_targets 11 s args lw_us "GameLoom$Position") (hr : meth.sig.returnType = some .int) (hlk : meth.locks = false) (K101 : Nat → Int32 → Int32 → Nat → Int32 → Int32 → GSt → Prop) (Q : Int32 → GSt → Prop) (o : Nat) (ho : kd o = 5) (hK101 : ∀ (r1 : Nat) (x2 : Int32) (x4 : Int32) (r5 : Nat) (x6 : Int32) (x7 : Int32) (σ : GSt) (H : Heap) (locs : List Loc) (ls : Array Slot), kd r1 = 7 → kd r5 = 12 → Wo G s H locs σ → lv_has ls 11 [(0, .ref (G.2.1 o)), (1, .ref (G.2.1 r1)), (2, .int x2), (4, .int x4), (5, .ref (G.2.1 r5)), (6, .int x6), (7, .int x7)] → K101 r1 x2 x4 r5 x6 x7 σ → W p l e rm_X5_targets s m args below meth c H locs 0 0 (QMI G Q below args s) (F0 m 101 ls [])) (r1 : Nat) (hk1 : kd r1 = 7) (x2 : Int32) (x4 : Int32) (r5 : Nat) (hk5 : kd r5 = 12) (x6 : Int32) (x7 : Int32) (x8 : Int32) (x9 : Int32) (σ : GSt) {H : Heap} {locs : List Loc} {ls : Array Slot} (hw : Wo G s H locs σ) (hl : lv_has ls 11 [(0, .ref (G.2.1 o)), (1, .ref (G.2.1 r1)), (2, .int x2), (4, .int x4), (5, .ref (G.2.1 r5)), (6, .int x6), (7, .int x7), (8, .int x8), (9, .int x9)]) (hD : D_X5_targets_174 K101 Q o r1 x2 x4 r5 x6 x7 x8 x9 σ) : W p l e rm_X5_targets s m args below meth c H locs 0 0 (QMI G Q below args s) (F0 m 174 ls []) := by
  unfold D_X5_targets_174 at hD
  refine lv_iconst (v := 0) X.1 X.2.1 d_X5_targets_174 (by decide) ?_
  exact s_X5_targets_175 X hr hlk K101 Q o ho hK101 r1 hk1 x2 x4 r5 hk5 x6 x7 x8 x9 0 σ hw (lv_sub hl [0, 1, 2, 3, 4, 5, 6, 7, 8] rfl) hD
set_option maxRecDepth 20000 in
set_option maxHeartbeats 4000000 in
theorem s_X5_targets_101 {p : Program} {l : Launch} {e : Env} {s : State} {m : MethodId} {args : Array Value} {below : List Frame} {meth : Method} {c : Code} {G : GC} (X : CallFix p m c cm_X5_targets 11 s args lw_us "GameLoom$Position") (hr : meth.sig.returnType = some .int) (hlk : meth.locks = false) (K101 : Nat → Int32 → Int32 → Nat → Int32 → Int32 → GSt → Prop) (Q : Int32 → GSt → Prop) (o : Nat) (ho : kd o = 5) (hK101 : ∀ (r1 : Nat) (x2 : Int32) (x4 : Int32) (r5 : Nat) (x6 : Int32) (x7 : Int32) (σ : GSt) (H : Heap) (locs : List Loc) (ls : Array Slot), kd r1 = 7 → kd r5 = 12 → Wo G s H locs σ → lv_has ls 11 [(0, .ref (G.2.1 o)), (1, .ref (G.2.1 r1)), (2, .int x2), (4, .int x4), (5, .ref (G.2.1 r5)), (6, .int x6), (7, .int x7)] → K101 r1 x2 x4 r5 x6 x7 σ → W p l e rm_X5_targets s m args below meth c H locs 0 0 (QMI G Q below args s) (F0 m 101 ls [])) (r1 : Nat) (hk1 : kd r1 = 7) (x2 : Int32) (x4 : Int32) (r5 : Nat) (hk5 : kd r5 = 12) (x6 : Int32) (x7 : Int32) (σ : GSt) {H : Heap} {locs : List Loc} {ls : Array Slot} (hw : Wo G s H locs σ) (hl : lv_has ls 11 [(0, .ref (G.2.1 o)), (1, .ref (G.2.1 r1)), (2, .int x2), (4, .int x4), (5, .ref (G.2.1 r5)), (6, .int x6), (7, .int x7)]) (hD : D_X5_targets_101 K101 Q o r1 x2 x4 r5 x6 x7 σ) : W p l e rm_X5_targets s m args below meth c H locs 0 0 (QMI G Q below args s) (F0 m 101 ls []) := by
  unfold D_X5_targets_101 at hD
  refine lv_iload X.1 X.2.1 d_X5_targets_101 (lv_at hl 6 rfl) ?_
  refine lv_bipush (v := 8) X.1 X.2.1 d_X5_targets_103 (by decide) ?_
  refine lv_icmp_ge (tgt := 235) X.1 X.2.1 d_X5_targets_105 (by decide) (fun q_105 => ?_) (fun q_105 => ?_)
  · have hD := hD.1 q_105
    refine lv_iload X.1 X.2.1 d_X5_targets_235 (lv_at hl 5 rfl) ?_
    exact g_iret X hr hlk hw hD d_X5_targets_237
  · have hD := hD.2 q_105
    refine lv_aload X.1 X.2.1 d_X5_targets_108 (lv_at hl 4 rfl) ?_
    refine lv_bipush (v := 8) X.1 X.2.1 d_X5_targets_110 (by decide) ?_
    refine lv_iload_n X.1 X.2.1 d_X5_targets_112 rfl (lv_at hl 2 rfl) ?_
    refine lv_imul X.1 X.2.1 d_X5_targets_113 ?_
    refine lv_iload X.1 X.2.1 d_X5_targets_114 (lv_at hl 6 rfl) ?_
    refine lv_iadd X.1 X.2.1 d_X5_targets_116 ?_
    obtain ⟨q_117, hD⟩ := hD
    refine g_iald X hw hk5 rfl q_117 d_X5_targets_117 ?_
    refine lv_topi (fun x8_1 e_x8_1 => ?_)
    have hD := hD x8_1 e_x8_1
    refine lv_istore (lv' := [(8, .int x8_1), (0, .ref (G.2.1 o)), (1, .ref (G.2.1 r1)), (2, .int x2), (4, .int x4), (5, .ref (G.2.1 r5)), (6, .int x6), (7, .int x7)]) X.1 X.2.1 d_X5_targets_118 hl (by decide) rfl (fun ls hl => ?_)
    refine lv_iload X.1 X.2.1 d_X5_targets_120 (lv_at hl 0 rfl) ?_
    refine lv_if_lt (tgt := 229) X.1 X.2.1 d_X5_targets_122 (by decide) (fun q_122 => ?_) (fun q_122 => ?_)
    · have hD := hD.1 q_122
      exact s_X5_targets_229 X hr hlk K101 Q o ho hK101 r1 hk1 x2 x4 r5 hk5 x6 x7 σ hw (lv_sub hl [1, 2, 3, 4, 5, 6, 7] rfl) hD
    · have hD := hD.2 q_122
      refine lv_iload X.1 X.2.1 d_X5_targets_125 (lv_at hl 4 rfl) ?_
      refine lv_iload X.1 X.2.1 d_X5_targets_127 (lv_at hl 0 rfl) ?_
      refine lv_iushr (v := (jushr x4 x8_1)) X.1 X.2.1 d_X5_targets_129 rfl ?_
      refine lv_iconst (v := 1) X.1 X.2.1 d_X5_targets_130 (by decide) ?_
      refine lv_iand X.1 X.2.1 d_X5_targets_131 ?_
      refine lv_if_eq (tgt := 229) X.1 X.2.1 d_X5_targets_132 (by decide) (fun q_132 => ?_) (fun q_132 => ?_)
      · have hD := hD.1 q_132
        exact s_X5_targets_229 X hr hlk K101 Q o ho hK101 r1 hk1 x2 x4 r5 hk5 x6 x7 σ hw (lv_sub hl [1, 2, 3, 4, 5, 6, 7] rfl) hD
      · have hD := hD.2 q_132
        refine lv_aload X.1 X.2.1 d_X5_targets_135 (lv_at hl 5 rfl) ?_
        refine lv_bipush (v := 8) X.1 X.2.1 d_X5_targets_137 (by decide) ?_
        refine lv_iload X.1 X.2.1 d_X5_targets_139 (lv_at hl 0 rfl) ?_
        refine lv_imul X.1 X.2.1 d_X5_targets_141 ?_
        refine lv_iload X.1 X.2.1 d_X5_targets_142 (lv_at hl 7 rfl) ?_
        refine lv_iadd X.1 X.2.1 d_X5_targets_144 ?_
        obtain ⟨q_145, hD⟩ := hD
        refine g_iald X hw hk5 rfl q_145 d_X5_targets_145 ?_
        refine lv_topi (fun x9_2 e_x9_2 => ?_)
        have hD := hD x9_2 e_x9_2
        refine lv_istore (lv' := [(9, .int x9_2), (8, .int x8_1), (0, .ref (G.2.1 o)), (1, .ref (G.2.1 r1)), (2, .int x2), (4, .int x4), (5, .ref (G.2.1 r5)), (6, .int x6), (7, .int x7)]) X.1 X.2.1 d_X5_targets_146 hl (by decide) rfl (fun ls hl => ?_)
        refine lv_iload X.1 X.2.1 d_X5_targets_148 (lv_at hl 0 rfl) ?_
        refine lv_if_lt (tgt := 174) X.1 X.2.1 d_X5_targets_150 (by decide) (fun q_150 => ?_) (fun q_150 => ?_)
        · have hD := hD.1 q_150
          exact s_X5_targets_174 X hr hlk K101 Q o ho hK101 r1 hk1 x2 x4 r5 hk5 x6 x7 x8_1 x9_2 σ hw (lv_sub hl [2, 3, 4, 5, 6, 7, 8, 1, 0] rfl) hD
        · have hD := hD.2 q_150
          refine lv_aload_n X.1 X.2.1 d_X5_targets_153 rfl (lv_at hl 2 rfl) ?_
          refine gf_5_1 X hw ho tb_240 d_X5_targets_154 ?_
          refine lv_aload_n X.1 X.2.1 d_X5_targets_157 rfl (lv_at hl 2 rfl) ?_
          refine gf_5_2 X hw ho tb_245 d_X5_targets_158 ?_
          refine lv_ior X.1 X.2.1 d_X5_targets_161 ?_
          refine lv_iload X.1 X.2.1 d_X5_targets_162 (lv_at hl 0 rfl) ?_
          refine lv_iushr (v := (jushr ((σ o 1) ||| (σ o 2)) x9_2)) X.1 X.2.1 d_X5_targets_164 rfl ?_
          refine lv_iconst (v := 1) X.1 X.2.1 d_X5_targets_165 (by decide) ?_
          refine lv_iand X.1 X.2.1 d_X5_targets_166 ?_
          refine lv_if_ne (tgt := 174) X.1 X.2.1 d_X5_targets_167 (by decide) (fun q_167 => ?_) (fun q_167 => ?_)
          · have hD := hD.1 q_167
            exact s_X5_targets_174 X hr hlk K101 Q o ho hK101 r1 hk1 x2 x4 r5 hk5 x6 x7 x8_1 x9_2 σ hw (lv_sub hl [2, 3, 4, 5, 6, 7, 8, 1, 0] rfl) hD
          · have hD := hD.2 q_167
            refine lv_iconst (v := 1) X.1 X.2.1 d_X5_targets_170 (by decide) ?_
            refine lv_goto (tgt := 175) X.1 X.2.1 d_X5_targets_171 (by decide) ?_
            exact s_X5_targets_175 X hr hlk K101 Q o ho hK101 r1 hk1 x2 x4 r5 hk5 x6 x7 x8_1 x9_2 1 σ hw (lv_sub hl [2, 3, 4, 5, 6, 7, 8, 1, 0] rfl) hD
set_option maxRecDepth 20000 in
set_option maxHeartbeats 4000000 in
theorem sl_X5_targets_101 {p : Program} {l : Launch} {e : Env} {s : State} {m : MethodId} {args : Array Value} {below : List Frame} {meth : Method} {c : Code} {G : GC} (X : CallFix p m c cm_X5_targets 11 s args lw_us "GameLoom$Position") (hr : meth.sig.returnType = some .int) (hlk : meth.locks = false) (Q : Int32 → GSt → Prop) (o : Nat) (ho : kd o = 5) : ∀ (nn : Nat), ∀ (r1 : Nat) (x2 : Int32) (x4 : Int32) (r5 : Nat) (x6 : Int32) (x7 : Int32) (σ : GSt) (H : Heap) (locs : List Loc) (ls : Array Slot), kd r1 = 7 → kd r5 = 12 → Wo G s H locs σ → lv_has ls 11 [(0, .ref (G.2.1 o)), (1, .ref (G.2.1 r1)), (2, .int x2), (4, .int x4), (5, .ref (G.2.1 r5)), (6, .int x6), (7, .int x7)] → L_X5_targets_101 Q o nn r1 x2 x4 r5 x6 x7 σ → W p l e rm_X5_targets s m args below meth c H locs 0 0 (QMI G Q below args s) (F0 m 101 ls []) := by
  intro nn
  induction nn with
  | zero => intro r1 x2 x4 r5 x6 x7 σ H locs ls hk1 hk5 hw hl hD; exact hD.elim
  | succ nn ih =>
    intro r1 x2 x4 r5 x6 x7 σ H locs ls hk1 hk5 hw hl hD
    exact s_X5_targets_101 X hr hlk (L_X5_targets_101 Q o nn) Q o ho ih r1 hk1 x2 x4 r5 hk5 x6 x7 σ hw hl hD
set_option maxRecDepth 20000 in
set_option maxHeartbeats 4000000 in
theorem s_X5_targets_64 {p : Program} {l : Launch} {e : Env} {s : State} {m : MethodId} {args : Array Value} {below : List Frame} {meth : Method} {c : Code} {G : GC} (X : CallFix p m c cm_X5_targets 11 s args lw_us "GameLoom$Position") (hr : meth.sig.returnType = some .int) (hlk : meth.locks = false) (Q : Int32 → GSt → Prop) (o : Nat) (ho : kd o = 5) (r1 : Nat) (hk1 : kd r1 = 7) (x2 : Int32) (s0 : Int32) (s1 : Int32) (σ : GSt) {H : Heap} {locs : List Loc} {ls : Array Slot} (hw : Wo G s H locs σ) (hl : lv_has ls 11 [(0, .ref (G.2.1 o)), (1, .ref (G.2.1 r1)), (2, .int x2)]) (hD : D_X5_targets_64 Q o r1 x2 s0 s1 σ) : W p l e rm_X5_targets s m args below meth c H locs 0 0 (QMI G Q below args s) (F0 m 64 ls [.int s1, .int s0]) := by
  unfold D_X5_targets_64 at hD
  refine lv_iand X.1 X.2.1 d_X5_targets_64 ?_
  refine lv_topi (fun x4_1 e_x4_1 => ?_)
  have hD := hD x4_1 e_x4_1
  refine lv_istore (lv' := [(4, .int x4_1), (0, .ref (G.2.1 o)), (1, .ref (G.2.1 r1)), (2, .int x2)]) X.1 X.2.1 d_X5_targets_65 hl (by decide) rfl (fun ls hl => ?_)
  refine lv_aload_n X.1 X.2.1 d_X5_targets_67 rfl (lv_at hl 2 rfl) ?_
  refine gf_7_0 X hw hk1 tb_128 d_X5_targets_68 ?_
  refine lv_iconst (v := 3) X.1 X.2.1 d_X5_targets_71 (by decide) ?_
  refine lv_icmp_eq (tgt := 80) X.1 X.2.1 d_X5_targets_72 (by decide) (fun q_72 => ?_) (fun q_72 => ?_)
  · have hD := hD.1 q_72
    refine lv_iload X.1 X.2.1 d_X5_targets_80 (lv_at hl 0 rfl) ?_
    exact g_iret X hr hlk hw hD d_X5_targets_82
  · have hD := hD.2 q_72
    refine lv_iload X.1 X.2.1 d_X5_targets_75 (lv_at hl 0 rfl) ?_
    refine lv_if_ne (tgt := 83) X.1 X.2.1 d_X5_targets_77 (by decide) (fun q_77 => ?_) (fun q_77 => ?_)
    · have hD := hD.1 q_77
      refine lv_aload_n X.1 X.2.1 d_X5_targets_83 rfl (lv_at hl 1 rfl) ?_
      obtain ⟨q_84, hD⟩ := hD
      refine gf_5_0 X hw ho tb_237 q_84.1 d_X5_targets_84 ?_
      refine gf_1_1 X hw q_84.2 tb_158 d_X5_targets_87 ?_
      refine gf_0_3 X hw (ly_1_1 q_84.2) tb_83 d_X5_targets_90 ?_
      refine lv_astore (lv' := [(5, .ref (G.2.1 ((((σ o 0).toNatClampNeg) + 3) + 1))), (4, .int x4_1), (0, .ref (G.2.1 o)), (1, .ref (G.2.1 r1)), (2, .int x2)]) X.1 X.2.1 d_X5_targets_93 hl (by decide) rfl (fun ls hl => ?_)
      refine lv_iconst (v := 0) X.1 X.2.1 d_X5_targets_95 (by decide) ?_
      refine lv_istore (lv' := [(6, .int 0), (5, .ref (G.2.1 ((((σ o 0).toNatClampNeg) + 3) + 1))), (4, .int x4_1), (0, .ref (G.2.1 o)), (1, .ref (G.2.1 r1)), (2, .int x2)]) X.1 X.2.1 d_X5_targets_96 hl (by decide) rfl (fun ls hl => ?_)
      refine lv_iconst (v := 0) X.1 X.2.1 d_X5_targets_98 (by decide) ?_
      refine lv_istore (lv' := [(7, .int 0), (6, .int 0), (5, .ref (G.2.1 ((((σ o 0).toNatClampNeg) + 3) + 1))), (4, .int x4_1), (0, .ref (G.2.1 o)), (1, .ref (G.2.1 r1)), (2, .int x2)]) X.1 X.2.1 d_X5_targets_99 hl (by decide) rfl (fun ls hl => ?_)
      obtain ⟨n9, hD⟩ := hD
      exact sl_X5_targets_101 X hr hlk  Q o ho  n9 r1 x2 x4_1 ((((σ o 0).toNatClampNeg) + 3) + 1) 0 0 σ _ _ _ hk1 (ly_0_3 (ly_1_1 q_84.2)).1 hw (lv_sub hl [4, 5, 6, 3, 2, 1, 0] rfl) hD
    · have hD := hD.2 q_77
      refine lv_iload X.1 X.2.1 d_X5_targets_80 (lv_at hl 0 rfl) ?_
      exact g_iret X hr hlk hw hD d_X5_targets_82
set_option maxRecDepth 20000 in
set_option maxHeartbeats 4000000 in
theorem s_X5_targets_0 {p : Program} {l : Launch} {e : Env} {s : State} {m : MethodId} {args : Array Value} {below : List Frame} {meth : Method} {c : Code} {G : GC} (X : CallFix p m c cm_X5_targets 11 s args lw_us "GameLoom$Position") (hr : meth.sig.returnType = some .int) (hlk : meth.locks = false) (Q : Int32 → GSt → Prop) (o : Nat) (ho : kd o = 5) (r1 : Nat) (hk1 : kd r1 = 7) (x2 : Int32) (σ : GSt) {H : Heap} {locs : List Loc} {ls : Array Slot} (hw : Wo G s H locs σ) (hl : lv_has ls 11 [(0, .ref (G.2.1 o)), (1, .ref (G.2.1 r1)), (2, .int x2)]) (hD : D_X5_targets_0 Q o r1 x2 σ) : W p l e rm_X5_targets s m args below meth c H locs 0 0 (QMI G Q below args s) (F0 m 0 ls []) := by
  unfold D_X5_targets_0 at hD
  refine lv_aload_n X.1 X.2.1 d_X5_targets_0 rfl (lv_at hl 0 rfl) ?_
  obtain ⟨q_1, hD⟩ := hD
  refine gf_5_0 X hw ho tb_237 q_1.1 d_X5_targets_1 ?_
  refine gf_1_1 X hw q_1.2 tb_158 d_X5_targets_4 ?_
  refine gf_0_4 X hw (ly_1_1 q_1.2) tb_85 d_X5_targets_7 ?_
  refine lv_aload_n X.1 X.2.1 d_X5_targets_10 rfl (lv_at hl 1 rfl) ?_
  refine gf_7_1 X hw hk1 tb_130 d_X5_targets_11 ?_
  refine lv_bipush (v := 16) X.1 X.2.1 d_X5_targets_14 (by decide) ?_
  refine lv_imul X.1 X.2.1 d_X5_targets_16 ?_
  refine lv_iload_n X.1 X.2.1 d_X5_targets_17 rfl (lv_at hl 2 rfl) ?_
  refine lv_iadd X.1 X.2.1 d_X5_targets_18 ?_
  obtain ⟨q_19, hD⟩ := hD
  refine g_iald X hw (ly_0_4 (ly_1_1 q_1.2)).1 (ly_0_4 (ly_1_1 q_1.2)).2 q_19 d_X5_targets_19 ?_
  refine lv_topi (fun x3_1 e_x3_1 => ?_)
  have hD := hD x3_1 e_x3_1
  refine lv_istore_n (lv' := [(3, .int x3_1), (0, .ref (G.2.1 o)), (1, .ref (G.2.1 r1)), (2, .int x2)]) X.1 X.2.1 d_X5_targets_20 rfl hl (by decide) rfl (fun ls hl => ?_)
  refine lv_aload_n X.1 X.2.1 d_X5_targets_21 rfl (lv_at hl 2 rfl) ?_
  refine gf_7_0 X hw hk1 tb_128 d_X5_targets_22 ?_
  refine lv_iconst (v := 1) X.1 X.2.1 d_X5_targets_25 (by decide) ?_
  refine lv_icmp_ne (tgt := 43) X.1 X.2.1 d_X5_targets_26 (by decide) (fun q_26 => ?_) (fun q_26 => ?_)
  · have hD := hD.1 q_26
    refine lv_iload_n X.1 X.2.1 d_X5_targets_43 rfl (lv_at hl 0 rfl) ?_
    refine lv_aload_n X.1 X.2.1 d_X5_targets_44 rfl (lv_at hl 1 rfl) ?_
    refine gf_5_3 X hw ho tb_250 d_X5_targets_45 ?_
    refine lv_iconst (v := 1) X.1 X.2.1 d_X5_targets_48 (by decide) ?_
    refine lv_iand X.1 X.2.1 d_X5_targets_49 ?_
    refine lv_if_ne (tgt := 60) X.1 X.2.1 d_X5_targets_50 (by decide) (fun q_50 => ?_) (fun q_50 => ?_)
    · have hD := hD.1 q_50
      refine lv_aload_n X.1 X.2.1 d_X5_targets_60 rfl (lv_at hl 1 rfl) ?_
      refine gf_5_1 X hw ho tb_240 d_X5_targets_61 ?_
      exact s_X5_targets_64 X hr hlk  Q o ho  r1 hk1 x2 x3_1 (σ o 1) σ hw (lv_sub hl [1, 2, 3] rfl) hD
    · have hD := hD.2 q_50
      refine lv_aload_n X.1 X.2.1 d_X5_targets_53 rfl (lv_at hl 1 rfl) ?_
      refine gf_5_2 X hw ho tb_245 d_X5_targets_54 ?_
      refine lv_goto (tgt := 64) X.1 X.2.1 d_X5_targets_57 (by decide) ?_
      exact s_X5_targets_64 X hr hlk  Q o ho  r1 hk1 x2 x3_1 (σ o 2) σ hw (lv_sub hl [1, 2, 3] rfl) hD
  · have hD := hD.2 q_26
    refine lv_iload_n X.1 X.2.1 d_X5_targets_29 rfl (lv_at hl 0 rfl) ?_
    refine lv_aload_n X.1 X.2.1 d_X5_targets_30 rfl (lv_at hl 1 rfl) ?_
    refine gf_5_1 X hw ho tb_240 d_X5_targets_31 ?_
    refine lv_aload_n X.1 X.2.1 d_X5_targets_34 rfl (lv_at hl 1 rfl) ?_
    refine gf_5_2 X hw ho tb_245 d_X5_targets_35 ?_
    refine lv_ior X.1 X.2.1 d_X5_targets_38 ?_
    refine lv_iconst (v := (-1)) X.1 X.2.1 d_X5_targets_39 (by decide) ?_
    refine lv_ixor X.1 X.2.1 d_X5_targets_40 ?_
    refine lv_iand X.1 X.2.1 d_X5_targets_41 ?_
    exact g_iret X hr hlk hw hD d_X5_targets_42
theorem c_X5_targets (l : Launch) (G : GC) (o : Nat) (r1 : Nat) (x2 : Int32) (σ : GSt) (Q : Int32 → GSt → Prop) (ho : kd o = 5) (hr1 : kd r1 = 7) (hD : D_X5_targets o r1 x2 σ Q) : MI l ym_X5_targets cm_X5_targets 11 .int rm_X5_targets G σ [.ref (G.2.1 o), .ref (G.2.1 r1), .int x2] Q := by
  refine met_i (by decide) (Nat.le_of_ble_eq_true rfl) ?_
  intro p e s m args below meth c X hr hlk hw ls hl
  exact s_X5_targets_0 X hr hlk Q o ho r1 hr1 x2 σ hw (lv_sub hl [0, 1, 2] rfl) hD
theorem hd_J6_bitCount_0f7a4 : ym_J6_bitCount_0f7a4.cls ≠ "java/lang/invoke/MethodHandle" ∧ ym_J6_bitCount_0f7a4.cls ≠ "java/lang/invoke/VarHandle" ∧ (parseMethodDescriptor ym_J6_bitCount_0f7a4.desc).map (fun d => d.parameters.length) = some 1 := by decide +kernel
abbrev rm_J6_bitCount_0f7a4 : Room := { frames := 0, cells := 0, slots := 0, locals := 0 }
theorem d_J6_bitCount_0f7a4_0 : decode cm_J6_bitCount_0f7a4 0 = .ok (.iload_n 0, 1) := by decide +kernel
theorem d_J6_bitCount_0f7a4_1 : decode cm_J6_bitCount_0f7a4 1 = .ok (.iload_n 0, 1) := by decide +kernel
theorem d_J6_bitCount_0f7a4_2 : decode cm_J6_bitCount_0f7a4 2 = .ok (.iconst 1, 1) := by decide +kernel
theorem d_J6_bitCount_0f7a4_3 : decode cm_J6_bitCount_0f7a4 3 = .ok (.iushr, 1) := by decide +kernel
theorem d_J6_bitCount_0f7a4_4 : decode cm_J6_bitCount_0f7a4 4 = .ok (.ldc_w 265, 3) := by decide +kernel
theorem d_J6_bitCount_0f7a4_7 : decode cm_J6_bitCount_0f7a4 7 = .ok (.iand, 1) := by decide +kernel
theorem d_J6_bitCount_0f7a4_8 : decode cm_J6_bitCount_0f7a4 8 = .ok (.isub, 1) := by decide +kernel
theorem d_J6_bitCount_0f7a4_9 : decode cm_J6_bitCount_0f7a4 9 = .ok (.istore_n 0, 1) := by decide +kernel
theorem d_J6_bitCount_0f7a4_10 : decode cm_J6_bitCount_0f7a4 10 = .ok (.iload_n 0, 1) := by decide +kernel
theorem d_J6_bitCount_0f7a4_11 : decode cm_J6_bitCount_0f7a4 11 = .ok (.ldc_w 266, 3) := by decide +kernel
theorem d_J6_bitCount_0f7a4_14 : decode cm_J6_bitCount_0f7a4 14 = .ok (.iand, 1) := by decide +kernel
theorem d_J6_bitCount_0f7a4_15 : decode cm_J6_bitCount_0f7a4 15 = .ok (.iload_n 0, 1) := by decide +kernel
theorem d_J6_bitCount_0f7a4_16 : decode cm_J6_bitCount_0f7a4 16 = .ok (.iconst 2, 1) := by decide +kernel
theorem d_J6_bitCount_0f7a4_17 : decode cm_J6_bitCount_0f7a4 17 = .ok (.iushr, 1) := by decide +kernel
theorem d_J6_bitCount_0f7a4_18 : decode cm_J6_bitCount_0f7a4 18 = .ok (.ldc_w 266, 3) := by decide +kernel
theorem d_J6_bitCount_0f7a4_21 : decode cm_J6_bitCount_0f7a4 21 = .ok (.iand, 1) := by decide +kernel
theorem d_J6_bitCount_0f7a4_22 : decode cm_J6_bitCount_0f7a4 22 = .ok (.iadd, 1) := by decide +kernel
theorem d_J6_bitCount_0f7a4_23 : decode cm_J6_bitCount_0f7a4 23 = .ok (.istore_n 0, 1) := by decide +kernel
theorem d_J6_bitCount_0f7a4_24 : decode cm_J6_bitCount_0f7a4 24 = .ok (.iload_n 0, 1) := by decide +kernel
theorem d_J6_bitCount_0f7a4_25 : decode cm_J6_bitCount_0f7a4 25 = .ok (.iload_n 0, 1) := by decide +kernel
theorem d_J6_bitCount_0f7a4_26 : decode cm_J6_bitCount_0f7a4 26 = .ok (.iconst 4, 1) := by decide +kernel
theorem d_J6_bitCount_0f7a4_27 : decode cm_J6_bitCount_0f7a4 27 = .ok (.iushr, 1) := by decide +kernel
theorem d_J6_bitCount_0f7a4_28 : decode cm_J6_bitCount_0f7a4 28 = .ok (.iadd, 1) := by decide +kernel
theorem d_J6_bitCount_0f7a4_29 : decode cm_J6_bitCount_0f7a4 29 = .ok (.ldc_w 267, 3) := by decide +kernel
theorem d_J6_bitCount_0f7a4_32 : decode cm_J6_bitCount_0f7a4 32 = .ok (.iand, 1) := by decide +kernel
theorem d_J6_bitCount_0f7a4_33 : decode cm_J6_bitCount_0f7a4 33 = .ok (.istore_n 0, 1) := by decide +kernel
theorem d_J6_bitCount_0f7a4_34 : decode cm_J6_bitCount_0f7a4 34 = .ok (.iload_n 0, 1) := by decide +kernel
theorem d_J6_bitCount_0f7a4_35 : decode cm_J6_bitCount_0f7a4 35 = .ok (.iload_n 0, 1) := by decide +kernel
theorem d_J6_bitCount_0f7a4_36 : decode cm_J6_bitCount_0f7a4 36 = .ok (.bipush 8, 2) := by decide +kernel
theorem d_J6_bitCount_0f7a4_38 : decode cm_J6_bitCount_0f7a4 38 = .ok (.iushr, 1) := by decide +kernel
theorem d_J6_bitCount_0f7a4_39 : decode cm_J6_bitCount_0f7a4 39 = .ok (.iadd, 1) := by decide +kernel
theorem d_J6_bitCount_0f7a4_40 : decode cm_J6_bitCount_0f7a4 40 = .ok (.istore_n 0, 1) := by decide +kernel
theorem d_J6_bitCount_0f7a4_41 : decode cm_J6_bitCount_0f7a4 41 = .ok (.iload_n 0, 1) := by decide +kernel
theorem d_J6_bitCount_0f7a4_42 : decode cm_J6_bitCount_0f7a4 42 = .ok (.iload_n 0, 1) := by decide +kernel
theorem d_J6_bitCount_0f7a4_43 : decode cm_J6_bitCount_0f7a4 43 = .ok (.bipush 16, 2) := by decide +kernel
theorem d_J6_bitCount_0f7a4_45 : decode cm_J6_bitCount_0f7a4 45 = .ok (.iushr, 1) := by decide +kernel
theorem d_J6_bitCount_0f7a4_46 : decode cm_J6_bitCount_0f7a4 46 = .ok (.iadd, 1) := by decide +kernel
theorem d_J6_bitCount_0f7a4_47 : decode cm_J6_bitCount_0f7a4 47 = .ok (.istore_n 0, 1) := by decide +kernel
theorem d_J6_bitCount_0f7a4_48 : decode cm_J6_bitCount_0f7a4 48 = .ok (.iload_n 0, 1) := by decide +kernel
theorem d_J6_bitCount_0f7a4_49 : decode cm_J6_bitCount_0f7a4 49 = .ok (.bipush 63, 2) := by decide +kernel
theorem d_J6_bitCount_0f7a4_51 : decode cm_J6_bitCount_0f7a4 51 = .ok (.iand, 1) := by decide +kernel
theorem d_J6_bitCount_0f7a4_52 : decode cm_J6_bitCount_0f7a4 52 = .ok (.ireturn, 1) := by decide +kernel
def D_J6_bitCount_0f7a4_0 (Q : Int32 → GSt → Prop) (x0 : Int32) (σ : GSt) : Prop :=
  ∀ x0_1 : Int32, x0_1 = (x0 - ((jushr x0 1) &&& 1431655765)) → (∀ x0_2 : Int32, x0_2 = ((x0_1 &&& 858993459) + ((jushr x0_1 2) &&& 858993459)) → (∀ x0_3 : Int32, x0_3 = ((x0_2 + (jushr x0_2 4)) &&& 252645135) → (∀ x0_4 : Int32, x0_4 = (x0_3 + (jushr x0_3 8)) → (∀ x0_5 : Int32, x0_5 = (x0_4 + (jushr x0_4 16)) → (Q (x0_5 &&& 63) σ)))))
def D_J6_bitCount_0f7a4 (x0 : Int32) (σ : GSt) (Q : Int32 → GSt → Prop) : Prop := D_J6_bitCount_0f7a4_0 Q x0 σ
set_option maxRecDepth 20000 in
set_option maxHeartbeats 4000000 in
theorem s_J6_bitCount_0f7a4_0 {p : Program} {l : Launch} {e : Env} {s : State} {m : MethodId} {args : Array Value} {below : List Frame} {meth : Method} {c : Code} {G : GC} (X : CallFix p m c cm_J6_bitCount_0f7a4 1 s args lw_us "java/lang/Integer") (hr : meth.sig.returnType = some .int) (hlk : meth.locks = false) (Q : Int32 → GSt → Prop) (x0 : Int32) (σ : GSt) {H : Heap} {locs : List Loc} {ls : Array Slot} (hw : Wo G s H locs σ) (hl : lv_has ls 1 [(0, .int x0)]) (hD : D_J6_bitCount_0f7a4_0 Q x0 σ) : W p l e rm_J6_bitCount_0f7a4 s m args below meth c H locs 0 0 (QMI G Q below args s) (F0 m 0 ls []) := by
  unfold D_J6_bitCount_0f7a4_0 at hD
  refine lv_iload_n X.1 X.2.1 d_J6_bitCount_0f7a4_0 rfl (lv_at hl 0 rfl) ?_
  refine lv_iload_n X.1 X.2.1 d_J6_bitCount_0f7a4_1 rfl (lv_at hl 0 rfl) ?_
  refine lv_iconst (v := 1) X.1 X.2.1 d_J6_bitCount_0f7a4_2 (by decide) ?_
  refine lv_iushr (v := (jushr x0 1)) X.1 X.2.1 d_J6_bitCount_0f7a4_3 rfl ?_
  refine lv_ldcw (v := 1431655765) X.1 X.2.1 X.2.2.2.1 (X.2.2.2.2 _ tb_562) d_J6_bitCount_0f7a4_4 ?_
  refine lv_iand X.1 X.2.1 d_J6_bitCount_0f7a4_7 ?_
  refine lv_isub X.1 X.2.1 d_J6_bitCount_0f7a4_8 ?_
  refine lv_topi (fun x0_1 e_x0_1 => ?_)
  have hD := hD x0_1 e_x0_1
  refine lv_istore_n (lv' := [(0, .int x0_1)]) X.1 X.2.1 d_J6_bitCount_0f7a4_9 rfl hl (by decide) rfl (fun ls hl => ?_)
  refine lv_iload_n X.1 X.2.1 d_J6_bitCount_0f7a4_10 rfl (lv_at hl 0 rfl) ?_
  refine lv_ldcw (v := 858993459) X.1 X.2.1 X.2.2.2.1 (X.2.2.2.2 _ tb_563) d_J6_bitCount_0f7a4_11 ?_
  refine lv_iand X.1 X.2.1 d_J6_bitCount_0f7a4_14 ?_
  refine lv_iload_n X.1 X.2.1 d_J6_bitCount_0f7a4_15 rfl (lv_at hl 0 rfl) ?_
  refine lv_iconst (v := 2) X.1 X.2.1 d_J6_bitCount_0f7a4_16 (by decide) ?_
  refine lv_iushr (v := (jushr x0_1 2)) X.1 X.2.1 d_J6_bitCount_0f7a4_17 rfl ?_
  refine lv_ldcw (v := 858993459) X.1 X.2.1 X.2.2.2.1 (X.2.2.2.2 _ tb_563) d_J6_bitCount_0f7a4_18 ?_
  refine lv_iand X.1 X.2.1 d_J6_bitCount_0f7a4_21 ?_
  refine lv_iadd X.1 X.2.1 d_J6_bitCount_0f7a4_22 ?_
  refine lv_topi (fun x0_2 e_x0_2 => ?_)
  have hD := hD x0_2 e_x0_2
  refine lv_istore_n (lv' := [(0, .int x0_2)]) X.1 X.2.1 d_J6_bitCount_0f7a4_23 rfl hl (by decide) rfl (fun ls hl => ?_)
  refine lv_iload_n X.1 X.2.1 d_J6_bitCount_0f7a4_24 rfl (lv_at hl 0 rfl) ?_
  refine lv_iload_n X.1 X.2.1 d_J6_bitCount_0f7a4_25 rfl (lv_at hl 0 rfl) ?_
  refine lv_iconst (v := 4) X.1 X.2.1 d_J6_bitCount_0f7a4_26 (by decide) ?_
  refine lv_iushr (v := (jushr x0_2 4)) X.1 X.2.1 d_J6_bitCount_0f7a4_27 rfl ?_
  refine lv_iadd X.1 X.2.1 d_J6_bitCount_0f7a4_28 ?_
  refine lv_ldcw (v := 252645135) X.1 X.2.1 X.2.2.2.1 (X.2.2.2.2 _ tb_564) d_J6_bitCount_0f7a4_29 ?_
  refine lv_iand X.1 X.2.1 d_J6_bitCount_0f7a4_32 ?_
  refine lv_topi (fun x0_3 e_x0_3 => ?_)
  have hD := hD x0_3 e_x0_3
  refine lv_istore_n (lv' := [(0, .int x0_3)]) X.1 X.2.1 d_J6_bitCount_0f7a4_33 rfl hl (by decide) rfl (fun ls hl => ?_)
  refine lv_iload_n X.1 X.2.1 d_J6_bitCount_0f7a4_34 rfl (lv_at hl 0 rfl) ?_
  refine lv_iload_n X.1 X.2.1 d_J6_bitCount_0f7a4_35 rfl (lv_at hl 0 rfl) ?_
  refine lv_bipush (v := 8) X.1 X.2.1 d_J6_bitCount_0f7a4_36 (by decide) ?_
  refine lv_iushr (v := (jushr x0_3 8)) X.1 X.2.1 d_J6_bitCount_0f7a4_38 rfl ?_
  refine lv_iadd X.1 X.2.1 d_J6_bitCount_0f7a4_39 ?_
  refine lv_topi (fun x0_4 e_x0_4 => ?_)
  have hD := hD x0_4 e_x0_4
  refine lv_istore_n (lv' := [(0, .int x0_4)]) X.1 X.2.1 d_J6_bitCount_0f7a4_40 rfl hl (by decide) rfl (fun ls hl => ?_)
  refine lv_iload_n X.1 X.2.1 d_J6_bitCount_0f7a4_41 rfl (lv_at hl 0 rfl) ?_
  refine lv_iload_n X.1 X.2.1 d_J6_bitCount_0f7a4_42 rfl (lv_at hl 0 rfl) ?_
  refine lv_bipush (v := 16) X.1 X.2.1 d_J6_bitCount_0f7a4_43 (by decide) ?_
  refine lv_iushr (v := (jushr x0_4 16)) X.1 X.2.1 d_J6_bitCount_0f7a4_45 rfl ?_
  refine lv_iadd X.1 X.2.1 d_J6_bitCount_0f7a4_46 ?_
  refine lv_topi (fun x0_5 e_x0_5 => ?_)
  have hD := hD x0_5 e_x0_5
  refine lv_istore_n (lv' := [(0, .int x0_5)]) X.1 X.2.1 d_J6_bitCount_0f7a4_47 rfl hl (by decide) rfl (fun ls hl => ?_)
  refine lv_iload_n X.1 X.2.1 d_J6_bitCount_0f7a4_48 rfl (lv_at hl 0 rfl) ?_
  refine lv_bipush (v := 63) X.1 X.2.1 d_J6_bitCount_0f7a4_49 (by decide) ?_
  refine lv_iand X.1 X.2.1 d_J6_bitCount_0f7a4_51 ?_
  exact g_iret X hr hlk hw hD d_J6_bitCount_0f7a4_52
theorem c_J6_bitCount_0f7a4 (l : Launch) (G : GC) (x0 : Int32) (σ : GSt) (Q : Int32 → GSt → Prop)  (hD : D_J6_bitCount_0f7a4 x0 σ Q) : MI l ym_J6_bitCount_0f7a4 cm_J6_bitCount_0f7a4 1 .int rm_J6_bitCount_0f7a4 G σ [.int x0] Q := by
  refine met_i (by decide) (Nat.le_of_ble_eq_true rfl) ?_
  intro p e s m args below meth c X hr hlk hw ls hl
  exact s_J6_bitCount_0f7a4_0 X hr hlk Q  x0 σ hw (lv_sub hl [0] rfl) hD
