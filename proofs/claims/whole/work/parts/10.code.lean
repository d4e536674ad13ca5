theorem hd_X0_layEdges : ym_X0_layEdges.cls = "GameLoom$Board" ∧ ym_X0_layEdges.cls ≠ "java/lang/invoke/MethodHandle" ∧ ym_X0_layEdges.cls ≠ "java/lang/invoke/VarHandle" ∧ (parseMethodDescriptor ym_X0_layEdges.desc).map (fun d => d.parameters.length) = some 0 := by decide +kernel
abbrev rm_X0_layEdges : Room := { frames := 0, cells := 0, slots := 0, locals := 0 }
theorem d_X0_layEdges_0 : decode cm_X0_layEdges 0 = .ok (.aload_n 0, 1) := by decide +kernel
theorem d_X0_layEdges_1 : decode cm_X0_layEdges 1 = .ok (.iconst 1, 1) := by decide +kernel
theorem d_X0_layEdges_2 : decode cm_X0_layEdges 2 = .ok (.aload_n 0, 1) := by decide +kernel
theorem d_X0_layEdges_3 : decode cm_X0_layEdges 3 = .ok (.getfield 31, 3) := by decide +kernel
theorem d_X0_layEdges_6 : decode cm_X0_layEdges 6 = .ok (.ishl, 1) := by decide +kernel
theorem d_X0_layEdges_7 : decode cm_X0_layEdges 7 = .ok (.iconst 1, 1) := by decide +kernel
theorem d_X0_layEdges_8 : decode cm_X0_layEdges 8 = .ok (.isub, 1) := by decide +kernel
theorem d_X0_layEdges_9 : decode cm_X0_layEdges 9 = .ok (.putfield 54, 3) := by decide +kernel
theorem d_X0_layEdges_12 : decode cm_X0_layEdges 12 = .ok (.aload_n 0, 1) := by decide +kernel
theorem d_X0_layEdges_13 : decode cm_X0_layEdges 13 = .ok (.iconst 1, 1) := by decide +kernel
theorem d_X0_layEdges_14 : decode cm_X0_layEdges 14 = .ok (.aload_n 0, 1) := by decide +kernel
theorem d_X0_layEdges_15 : decode cm_X0_layEdges 15 = .ok (.getfield 24, 3) := by decide +kernel
theorem d_X0_layEdges_18 : decode cm_X0_layEdges 18 = .ok (.ishl, 1) := by decide +kernel
theorem d_X0_layEdges_19 : decode cm_X0_layEdges 19 = .ok (.iconst 1, 1) := by decide +kernel
theorem d_X0_layEdges_20 : decode cm_X0_layEdges 20 = .ok (.isub, 1) := by decide +kernel
theorem d_X0_layEdges_21 : decode cm_X0_layEdges 21 = .ok (.putfield 57, 3) := by decide +kernel
theorem d_X0_layEdges_24 : decode cm_X0_layEdges 24 = .ok (.aload_n 0, 1) := by decide +kernel
theorem d_X0_layEdges_25 : decode cm_X0_layEdges 25 = .ok (.aload_n 0, 1) := by decide +kernel
theorem d_X0_layEdges_26 : decode cm_X0_layEdges 26 = .ok (.getfield 57, 3) := by decide +kernel
theorem d_X0_layEdges_29 : decode cm_X0_layEdges 29 = .ok (.aload_n 0, 1) := by decide +kernel
theorem d_X0_layEdges_30 : decode cm_X0_layEdges 30 = .ok (.getfield 31, 3) := by decide +kernel
theorem d_X0_layEdges_33 : decode cm_X0_layEdges 33 = .ok (.aload_n 0, 1) := by decide +kernel
theorem d_X0_layEdges_34 : decode cm_X0_layEdges 34 = .ok (.getfield 24, 3) := by decide +kernel
theorem d_X0_layEdges_37 : decode cm_X0_layEdges 37 = .ok (.isub, 1) := by decide +kernel
theorem d_X0_layEdges_38 : decode cm_X0_layEdges 38 = .ok (.ishl, 1) := by decide +kernel
theorem d_X0_layEdges_39 : decode cm_X0_layEdges 39 = .ok (.putfield 60, 3) := by decide +kernel
theorem d_X0_layEdges_42 : decode cm_X0_layEdges 42 = .ok (.aload_n 0, 1) := by decide +kernel
theorem d_X0_layEdges_43 : decode cm_X0_layEdges 43 = .ok (.iconst 0, 1) := by decide +kernel
theorem d_X0_layEdges_44 : decode cm_X0_layEdges 44 = .ok (.putfield 63, 3) := by decide +kernel
theorem d_X0_layEdges_47 : decode cm_X0_layEdges 47 = .ok (.iconst 0, 1) := by decide +kernel
theorem d_X0_layEdges_48 : decode cm_X0_layEdges 48 = .ok (.istore_n 1, 1) := by decide +kernel
theorem d_X0_layEdges_49 : decode cm_X0_layEdges 49 = .ok (.iload_n 1, 1) := by decide +kernel
theorem d_X0_layEdges_50 : decode cm_X0_layEdges 50 = .ok (.aload_n 0, 1) := by decide +kernel
theorem d_X0_layEdges_51 : decode cm_X0_layEdges 51 = .ok (.getfield 28, 3) := by decide +kernel
theorem d_X0_layEdges_54 : decode cm_X0_layEdges 54 = .ok (.if_icmp .ge 26, 3) := by decide +kernel
theorem d_X0_layEdges_57 : decode cm_X0_layEdges 57 = .ok (.aload_n 0, 1) := by decide +kernel
theorem d_X0_layEdges_58 : decode cm_X0_layEdges 58 = .ok (.dup, 1) := by decide +kernel
theorem d_X0_layEdges_59 : decode cm_X0_layEdges 59 = .ok (.getfield 63, 3) := by decide +kernel
theorem d_X0_layEdges_62 : decode cm_X0_layEdges 62 = .ok (.iconst 1, 1) := by decide +kernel
theorem d_X0_layEdges_63 : decode cm_X0_layEdges 63 = .ok (.iload_n 1, 1) := by decide +kernel
theorem d_X0_layEdges_64 : decode cm_X0_layEdges 64 = .ok (.aload_n 0, 1) := by decide +kernel
theorem d_X0_layEdges_65 : decode cm_X0_layEdges 65 = .ok (.getfield 24, 3) := by decide +kernel
theorem d_X0_layEdges_68 : decode cm_X0_layEdges 68 = .ok (.imul, 1) := by decide +kernel
theorem d_X0_layEdges_69 : decode cm_X0_layEdges 69 = .ok (.ishl, 1) := by decide +kernel
theorem d_X0_layEdges_70 : decode cm_X0_layEdges 70 = .ok (.ior, 1) := by decide +kernel
theorem d_X0_layEdges_71 : decode cm_X0_layEdges 71 = .ok (.putfield 63, 3) := by decide +kernel
theorem d_X0_layEdges_74 : decode cm_X0_layEdges 74 = .ok (.iinc 1 1, 3) := by decide +kernel
theorem d_X0_layEdges_77 : decode cm_X0_layEdges 77 = .ok (.goto (-28), 3) := by decide +kernel
theorem d_X0_layEdges_80 : decode cm_X0_layEdges 80 = .ok (.aload_n 0, 1) := by decide +kernel
theorem d_X0_layEdges_81 : decode cm_X0_layEdges 81 = .ok (.aload_n 0, 1) := by decide +kernel
theorem d_X0_layEdges_82 : decode cm_X0_layEdges 82 = .ok (.getfield 63, 3) := by decide +kernel
theorem d_X0_layEdges_85 : decode cm_X0_layEdges 85 = .ok (.aload_n 0, 1) := by decide +kernel
theorem d_X0_layEdges_86 : decode cm_X0_layEdges 86 = .ok (.getfield 24, 3) := by decide +kernel
theorem d_X0_layEdges_89 : decode cm_X0_layEdges 89 = .ok (.iconst 1, 1) := by decide +kernel
theorem d_X0_layEdges_90 : decode cm_X0_layEdges 90 = .ok (.isub, 1) := by decide +kernel
theorem d_X0_layEdges_91 : decode cm_X0_layEdges 91 = .ok (.ishl, 1) := by decide +kernel
theorem d_X0_layEdges_92 : decode cm_X0_layEdges 92 = .ok (.putfield 66, 3) := by decide +kernel
theorem d_X0_layEdges_95 : decode cm_X0_layEdges 95 = .ok (.return_, 1) := by decide +kernel
def D_X0_layEdges_49 (K49 : Int32 → GSt → Prop) (Q : GSt → Prop) (o : Nat) (x1 : Int32) (σ : GSt) : Prop :=
  ((σ o 1) ≤ x1 → ∀ σ_1 : GSt, σ_1 = up2 σ o 11 (jshl (σ o 10) ((σ o 0) - 1)) → (Q σ_1)) ∧
  (¬ (σ o 1) ≤ x1 → ∀ σ_2 : GSt, σ_2 = up2 σ o 10 ((σ o 10) ||| (jshl 1 (x1 * (σ o 0)))) → (∀ x1_3 : Int32, x1_3 = x1 + 1 → (K49 x1_3 σ_2)))
def L_X0_layEdges_49 (Q : GSt → Prop) (o : Nat) : Nat → Int32 → GSt → Prop
  | 0 => fun _ _ => False
  | n + 1 => fun x1 σ => D_X0_layEdges_49 (L_X0_layEdges_49 Q o n) Q o x1 σ
def D_X0_layEdges_0 (Q : GSt → Prop) (o : Nat) (σ : GSt) : Prop :=
  ∀ σ_1 : GSt, σ_1 = up2 σ o 7 ((jshl 1 (σ o 2)) - 1) → (∀ σ_2 : GSt, σ_2 = up2 σ_1 o 8 ((jshl 1 (σ_1 o 0)) - 1) → (∀ σ_3 : GSt, σ_3 = up2 σ_2 o 9 (jshl (σ_2 o 8) ((σ_2 o 2) - (σ_2 o 0))) → (∀ σ_4 : GSt, σ_4 = up2 σ_3 o 10 0 → (∃ n : Nat, L_X0_layEdges_49 Q o n 0 σ_4))))
def D_X0_layEdges (o : Nat) (σ : GSt) (Q : GSt → Prop) : Prop := D_X0_layEdges_0 Q o σ
set_option maxRecDepth 20000 in
set_option maxHeartbeats 4000000 in
theorem s_X0_layEdges_49 {p : Program} {l : Launch} {e : Env} {s : State} {m : MethodId} {args : Array Value} {below : List Frame} {meth : Method} {c : Code} {G : GC} (X : CallFix p m c cm_X0_layEdges 2 s args lw_us "GameLoom$Board") (hr : meth.sig.returnType = none) (hlk : meth.locks = false) (K49 : Int32 → GSt → Prop) (Q : GSt → Prop) (o : Nat) (ho : kd o = 0) (hK49 : ∀ (x1 : Int32) (σ : GSt) (H : Heap) (locs : List Loc) (ls : Array Slot), Wo G s H locs σ → lv_has ls 2 [(0, .ref (G.2.1 o)), (1, .int x1)] → K49 x1 σ → W p l e rm_X0_layEdges s m args below meth c H locs 0 0 (QMV G Q below args s) (F0 m 49 ls [])) (x1 : Int32) (σ : GSt) {H : Heap} {locs : List Loc} {ls : Array Slot} (hw : Wo G s H locs σ) (hl : lv_has ls 2 [(0, .ref (G.2.1 o)), (1, .int x1)]) (hD : D_X0_layEdges_49 K49 Q o x1 σ) : W p l e rm_X0_layEdges s m args below meth c H locs 0 0 (QMV G Q below args s) (F0 m 49 ls []) := by
  unfold D_X0_layEdges_49 at hD
  refine lv_iload_n X.1 X.2.1 d_X0_layEdges_49 rfl (lv_at hl 1 rfl) ?_
  refine lv_aload_n X.1 X.2.1 d_X0_layEdges_50 rfl (lv_at hl 0 rfl) ?_
  refine gf_0_1 X hw ho tb_76 d_X0_layEdges_51 ?_
  refine lv_icmp_ge (tgt := 80) X.1 X.2.1 d_X0_layEdges_54 (by decide) (fun q_54 => ?_) (fun q_54 => ?_)
  · have hD := hD.1 q_54
    refine lv_aload_n X.1 X.2.1 d_X0_layEdges_80 rfl (lv_at hl 0 rfl) ?_
    refine lv_aload_n X.1 X.2.1 d_X0_layEdges_81 rfl (lv_at hl 0 rfl) ?_
    refine gf_0_10 X hw ho tb_92 d_X0_layEdges_82 ?_
    refine lv_aload_n X.1 X.2.1 d_X0_layEdges_85 rfl (lv_at hl 0 rfl) ?_
    refine gf_0_0 X hw ho tb_73 d_X0_layEdges_86 ?_
    refine lv_iconst (v := 1) X.1 X.2.1 d_X0_layEdges_89 (by decide) ?_
    refine lv_isub X.1 X.2.1 d_X0_layEdges_90 ?_
    refine g_ishl X d_X0_layEdges_91 ?_
    refine pf_0_11 X hw ho tb_93 d_X0_layEdges_92 (fun H locs hw => ?_)
    obtain ⟨σ_1, e_σ_1⟩ : ∃ z : GSt, z = up2 σ o 11 (jshl (σ o 10) ((σ o 0) - 1)) := ⟨_, rfl⟩
    rw [← e_σ_1] at hw
    have hD := hD σ_1 e_σ_1
    exact g_vret X hr hlk hw hD d_X0_layEdges_95
  · have hD := hD.2 q_54
    refine lv_aload_n X.1 X.2.1 d_X0_layEdges_57 rfl (lv_at hl 0 rfl) ?_
    refine lv_dup X.1 X.2.1 d_X0_layEdges_58 rfl ?_
    refine gf_0_10 X hw ho tb_92 d_X0_layEdges_59 ?_
    refine lv_iconst (v := 1) X.1 X.2.1 d_X0_layEdges_62 (by decide) ?_
    refine lv_iload_n X.1 X.2.1 d_X0_layEdges_63 rfl (lv_at hl 1 rfl) ?_
    refine lv_aload_n X.1 X.2.1 d_X0_layEdges_64 rfl (lv_at hl 0 rfl) ?_
    refine gf_0_0 X hw ho tb_73 d_X0_layEdges_65 ?_
    refine lv_imul X.1 X.2.1 d_X0_layEdges_68 ?_
    refine g_ishl X d_X0_layEdges_69 ?_
    refine lv_ior X.1 X.2.1 d_X0_layEdges_70 ?_
    refine pf_0_10 X hw ho tb_92 d_X0_layEdges_71 (fun H locs hw => ?_)
    obtain ⟨σ_2, e_σ_2⟩ : ∃ z : GSt, z = up2 σ o 10 ((σ o 10) ||| (jshl 1 (x1 * (σ o 0)))) := ⟨_, rfl⟩
    rw [← e_σ_2] at hw
    have hD := hD σ_2 e_σ_2
    obtain ⟨x1_3, e_x1_3⟩ : ∃ y : Int32, y = x1 + 1 := ⟨_, rfl⟩
    have hD := hD x1_3 e_x1_3
    refine lv_iinc (v := x1_3) (lv' := [(1, .int x1_3), (0, .ref (G.2.1 o))]) X.1 X.2.1 d_X0_layEdges_74 hl (k := 1) rfl (by rw [e_x1_3]; rfl) (by decide) rfl (fun ls hl => ?_)
    refine lv_goto (tgt := 49) X.1 X.2.1 d_X0_layEdges_77 (by decide) ?_
    exact hK49 x1_3 σ_2 _ _ _  hw (lv_sub hl [1, 0] rfl) hD
set_option maxRecDepth 20000 in
set_option maxHeartbeats 4000000 in
theorem sl_X0_layEdges_49 {p : Program} {l : Launch} {e : Env} {s : State} {m : MethodId} {args : Array Value} {below : List Frame} {meth : Method} {c : Code} {G : GC} (X : CallFix p m c cm_X0_layEdges 2 s args lw_us "GameLoom$Board") (hr : meth.sig.returnType = none) (hlk : meth.locks = false) (Q : GSt → Prop) (o : Nat) (ho : kd o = 0) : ∀ (nn : Nat), ∀ (x1 : Int32) (σ : GSt) (H : Heap) (locs : List Loc) (ls : Array Slot), Wo G s H locs σ → lv_has ls 2 [(0, .ref (G.2.1 o)), (1, .int x1)] → L_X0_layEdges_49 Q o nn x1 σ → W p l e rm_X0_layEdges s m args below meth c H locs 0 0 (QMV G Q below args s) (F0 m 49 ls []) := by
  intro nn
  induction nn with
  | zero => intro x1 σ H locs ls  hw hl hD; exact hD.elim
  | succ nn ih =>
    intro x1 σ H locs ls  hw hl hD
    exact s_X0_layEdges_49 X hr hlk (L_X0_layEdges_49 Q o nn) Q o ho ih x1 σ hw hl hD
set_option maxRecDepth 20000 in
set_option maxHeartbeats 4000000 in
theorem s_X0_layEdges_0 {p : Program} {l : Launch} {e : Env} {s : State} {m : MethodId} {args : Array Value} {below : List Frame} {meth : Method} {c : Code} {G : GC} (X : CallFix p m c cm_X0_layEdges 2 s args lw_us "GameLoom$Board") (hr : meth.sig.returnType = none) (hlk : meth.locks = false) (Q : GSt → Prop) (o : Nat) (ho : kd o = 0) (σ : GSt) {H : Heap} {locs : List Loc} {ls : Array Slot} (hw : Wo G s H locs σ) (hl : lv_has ls 2 [(0, .ref (G.2.1 o))]) (hD : D_X0_layEdges_0 Q o σ) : W p l e rm_X0_layEdges s m args below meth c H locs 0 0 (QMV G Q below args s) (F0 m 0 ls []) := by
  unfold D_X0_layEdges_0 at hD
  refine lv_aload_n X.1 X.2.1 d_X0_layEdges_0 rfl (lv_at hl 0 rfl) ?_
  refine lv_iconst (v := 1) X.1 X.2.1 d_X0_layEdges_1 (by decide) ?_
  refine lv_aload_n X.1 X.2.1 d_X0_layEdges_2 rfl (lv_at hl 0 rfl) ?_
  refine gf_0_2 X hw ho tb_79 d_X0_layEdges_3 ?_
  refine g_ishl X d_X0_layEdges_6 ?_
  refine lv_iconst (v := 1) X.1 X.2.1 d_X0_layEdges_7 (by decide) ?_
  refine lv_isub X.1 X.2.1 d_X0_layEdges_8 ?_
  refine pf_0_7 X hw ho tb_88 d_X0_layEdges_9 (fun H locs hw => ?_)
  obtain ⟨σ_1, e_σ_1⟩ : ∃ z : GSt, z = up2 σ o 7 ((jshl 1 (σ o 2)) - 1) := ⟨_, rfl⟩
  rw [← e_σ_1] at hw
  have hD := hD σ_1 e_σ_1
  refine lv_aload_n X.1 X.2.1 d_X0_layEdges_12 rfl (lv_at hl 0 rfl) ?_
  refine lv_iconst (v := 1) X.1 X.2.1 d_X0_layEdges_13 (by decide) ?_
  refine lv_aload_n X.1 X.2.1 d_X0_layEdges_14 rfl (lv_at hl 0 rfl) ?_
  refine gf_0_0 X hw ho tb_73 d_X0_layEdges_15 ?_
  refine g_ishl X d_X0_layEdges_18 ?_
  refine lv_iconst (v := 1) X.1 X.2.1 d_X0_layEdges_19 (by decide) ?_
  refine lv_isub X.1 X.2.1 d_X0_layEdges_20 ?_
  refine pf_0_8 X hw ho tb_90 d_X0_layEdges_21 (fun H locs hw => ?_)
  obtain ⟨σ_2, e_σ_2⟩ : ∃ z : GSt, z = up2 σ_1 o 8 ((jshl 1 (σ_1 o 0)) - 1) := ⟨_, rfl⟩
  rw [← e_σ_2] at hw
  have hD := hD σ_2 e_σ_2
  refine lv_aload_n X.1 X.2.1 d_X0_layEdges_24 rfl (lv_at hl 0 rfl) ?_
  refine lv_aload_n X.1 X.2.1 d_X0_layEdges_25 rfl (lv_at hl 0 rfl) ?_
  refine gf_0_8 X hw ho tb_90 d_X0_layEdges_26 ?_
  refine lv_aload_n X.1 X.2.1 d_X0_layEdges_29 rfl (lv_at hl 0 rfl) ?_
  refine gf_0_2 X hw ho tb_79 d_X0_layEdges_30 ?_
  refine lv_aload_n X.1 X.2.1 d_X0_layEdges_33 rfl (lv_at hl 0 rfl) ?_
  refine gf_0_0 X hw ho tb_73 d_X0_layEdges_34 ?_
  refine lv_isub X.1 X.2.1 d_X0_layEdges_37 ?_
  refine g_ishl X d_X0_layEdges_38 ?_
  refine pf_0_9 X hw ho tb_91 d_X0_layEdges_39 (fun H locs hw => ?_)
  obtain ⟨σ_3, e_σ_3⟩ : ∃ z : GSt, z = up2 σ_2 o 9 (jshl (σ_2 o 8) ((σ_2 o 2) - (σ_2 o 0))) := ⟨_, rfl⟩
  rw [← e_σ_3] at hw
  have hD := hD σ_3 e_σ_3
  refine lv_aload_n X.1 X.2.1 d_X0_layEdges_42 rfl (lv_at hl 0 rfl) ?_
  refine lv_iconst (v := 0) X.1 X.2.1 d_X0_layEdges_43 (by decide) ?_
  refine pf_0_10 X hw ho tb_92 d_X0_layEdges_44 (fun H locs hw => ?_)
  obtain ⟨σ_4, e_σ_4⟩ : ∃ z : GSt, z = up2 σ_3 o 10 0 := ⟨_, rfl⟩
  rw [← e_σ_4] at hw
  have hD := hD σ_4 e_σ_4
  refine lv_iconst (v := 0) X.1 X.2.1 d_X0_layEdges_47 (by decide) ?_
  refine lv_istore_n (lv' := [(1, .int 0), (0, .ref (G.2.1 o))]) X.1 X.2.1 d_X0_layEdges_48 rfl hl (by decide) rfl (fun ls hl => ?_)
  obtain ⟨n9, hD⟩ := hD
  exact sl_X0_layEdges_49 X hr hlk  Q o ho  n9 0 σ_4 _ _ _  hw (lv_sub hl [1, 0] rfl) hD
theorem c_X0_layEdges (l : Launch) (G : GC) (o : Nat) (σ : GSt) (Q : GSt → Prop) (ho : kd o = 0) (hD : D_X0_layEdges o σ Q) : MV l ym_X0_layEdges cm_X0_layEdges 2 rm_X0_layEdges G σ [.ref (G.2.1 o)] Q := by
  refine met_v (by decide) (Nat.le_of_ble_eq_true rfl) ?_
  intro p e s m args below meth c X hr hlk hw ls hl
  exact s_X0_layEdges_0 X hr hlk Q o ho  σ hw (lv_sub hl [0] rfl) hD
theorem hd_X0_neighbour : ym_X0_neighbour.cls = "GameLoom$Board" ∧ ym_X0_neighbour.cls ≠ "java/lang/invoke/MethodHandle" ∧ ym_X0_neighbour.cls ≠ "java/lang/invoke/VarHandle" ∧ (parseMethodDescriptor ym_X0_neighbour.desc).map (fun d => d.parameters.length) = some 2 := by decide +kernel
abbrev rm_X0_neighbour : Room := { frames := 0, cells := 0, slots := 0, locals := 0 }
theorem d_X0_neighbour_0 : decode cm_X0_neighbour 0 = .ok (.aload_n 0, 1) := by decide +kernel
theorem d_X0_neighbour_1 : decode cm_X0_neighbour 1 = .ok (.getfield 24, 3) := by decide +kernel
theorem d_X0_neighbour_4 : decode cm_X0_neighbour 4 = .ok (.iconst 1, 1) := by decide +kernel
theorem d_X0_neighbour_5 : decode cm_X0_neighbour 5 = .ok (.if_icmp .ge 5, 3) := by decide +kernel
theorem d_X0_neighbour_8 : decode cm_X0_neighbour 8 = .ok (.iconst (-1), 1) := by decide +kernel
theorem d_X0_neighbour_9 : decode cm_X0_neighbour 9 = .ok (.ireturn, 1) := by decide +kernel
theorem d_X0_neighbour_10 : decode cm_X0_neighbour 10 = .ok (.iload_n 1, 1) := by decide +kernel
theorem d_X0_neighbour_11 : decode cm_X0_neighbour 11 = .ok (.aload_n 0, 1) := by decide +kernel
theorem d_X0_neighbour_12 : decode cm_X0_neighbour 12 = .ok (.getfield 24, 3) := by decide +kernel
theorem d_X0_neighbour_15 : decode cm_X0_neighbour 15 = .ok (.idiv, 1) := by decide +kernel
theorem d_X0_neighbour_16 : decode cm_X0_neighbour 16 = .ok (.getstatic 48, 3) := by decide +kernel
theorem d_X0_neighbour_19 : decode cm_X0_neighbour 19 = .ok (.iload_n 2, 1) := by decide +kernel
theorem d_X0_neighbour_20 : decode cm_X0_neighbour 20 = .ok (.iaload, 1) := by decide +kernel
theorem d_X0_neighbour_21 : decode cm_X0_neighbour 21 = .ok (.iadd, 1) := by decide +kernel
theorem d_X0_neighbour_22 : decode cm_X0_neighbour 22 = .ok (.istore_n 3, 1) := by decide +kernel
theorem d_X0_neighbour_23 : decode cm_X0_neighbour 23 = .ok (.iload_n 1, 1) := by decide +kernel
theorem d_X0_neighbour_24 : decode cm_X0_neighbour 24 = .ok (.aload_n 0, 1) := by decide +kernel
theorem d_X0_neighbour_25 : decode cm_X0_neighbour 25 = .ok (.getfield 24, 3) := by decide +kernel
theorem d_X0_neighbour_28 : decode cm_X0_neighbour 28 = .ok (.irem, 1) := by decide +kernel
theorem d_X0_neighbour_29 : decode cm_X0_neighbour 29 = .ok (.getstatic 51, 3) := by decide +kernel
theorem d_X0_neighbour_32 : decode cm_X0_neighbour 32 = .ok (.iload_n 2, 1) := by decide +kernel
theorem d_X0_neighbour_33 : decode cm_X0_neighbour 33 = .ok (.iaload, 1) := by decide +kernel
theorem d_X0_neighbour_34 : decode cm_X0_neighbour 34 = .ok (.iadd, 1) := by decide +kernel
theorem d_X0_neighbour_35 : decode cm_X0_neighbour 35 = .ok (.istore 4, 2) := by decide +kernel
theorem d_X0_neighbour_37 : decode cm_X0_neighbour 37 = .ok (.iload_n 3, 1) := by decide +kernel
theorem d_X0_neighbour_38 : decode cm_X0_neighbour 38 = .ok (.ifCond .lt 29, 3) := by decide +kernel
theorem d_X0_neighbour_41 : decode cm_X0_neighbour 41 = .ok (.iload_n 3, 1) := by decide +kernel
theorem d_X0_neighbour_42 : decode cm_X0_neighbour 42 = .ok (.aload_n 0, 1) := by decide +kernel
theorem d_X0_neighbour_43 : decode cm_X0_neighbour 43 = .ok (.getfield 28, 3) := by decide +kernel
theorem d_X0_neighbour_46 : decode cm_X0_neighbour 46 = .ok (.if_icmp .ge 21, 3) := by decide +kernel
theorem d_X0_neighbour_49 : decode cm_X0_neighbour 49 = .ok (.iload 4, 2) := by decide +kernel
theorem d_X0_neighbour_51 : decode cm_X0_neighbour 51 = .ok (.ifCond .lt 16, 3) := by decide +kernel
theorem d_X0_neighbour_54 : decode cm_X0_neighbour 54 = .ok (.iload 4, 2) := by decide +kernel
theorem d_X0_neighbour_56 : decode cm_X0_neighbour 56 = .ok (.aload_n 0, 1) := by decide +kernel
theorem d_X0_neighbour_57 : decode cm_X0_neighbour 57 = .ok (.getfield 24, 3) := by decide +kernel
theorem d_X0_neighbour_60 : decode cm_X0_neighbour 60 = .ok (.if_icmp .ge 7, 3) := by decide +kernel
theorem d_X0_neighbour_63 : decode cm_X0_neighbour 63 = .ok (.iconst 1, 1) := by decide +kernel
theorem d_X0_neighbour_64 : decode cm_X0_neighbour 64 = .ok (.goto 4, 3) := by decide +kernel
theorem d_X0_neighbour_67 : decode cm_X0_neighbour 67 = .ok (.iconst 0, 1) := by decide +kernel
theorem d_X0_neighbour_68 : decode cm_X0_neighbour 68 = .ok (.istore 5, 2) := by decide +kernel
theorem d_X0_neighbour_70 : decode cm_X0_neighbour 70 = .ok (.iload 5, 2) := by decide +kernel
theorem d_X0_neighbour_72 : decode cm_X0_neighbour 72 = .ok (.ifCond .eq 15, 3) := by decide +kernel
theorem d_X0_neighbour_75 : decode cm_X0_neighbour 75 = .ok (.iload_n 3, 1) := by decide +kernel
theorem d_X0_neighbour_76 : decode cm_X0_neighbour 76 = .ok (.aload_n 0, 1) := by decide +kernel
theorem d_X0_neighbour_77 : decode cm_X0_neighbour 77 = .ok (.getfield 24, 3) := by decide +kernel
theorem d_X0_neighbour_80 : decode cm_X0_neighbour 80 = .ok (.imul, 1) := by decide +kernel
theorem d_X0_neighbour_81 : decode cm_X0_neighbour 81 = .ok (.iload 4, 2) := by decide +kernel
theorem d_X0_neighbour_83 : decode cm_X0_neighbour 83 = .ok (.iadd, 1) := by decide +kernel
theorem d_X0_neighbour_84 : decode cm_X0_neighbour 84 = .ok (.goto 4, 3) := by decide +kernel
theorem d_X0_neighbour_87 : decode cm_X0_neighbour 87 = .ok (.iconst (-1), 1) := by decide +kernel
theorem d_X0_neighbour_88 : decode cm_X0_neighbour 88 = .ok (.ireturn, 1) := by decide +kernel
def D_X0_neighbour_68 (Q : Int32 → GSt → Prop) (o : Nat) (x3 : Int32) (x4 : Int32) (s0 : Int32) (σ : GSt) : Prop :=
  (s0 = 0 → Q (-1) σ) ∧
  (¬ s0 = 0 → Q ((x3 * (σ o 0)) + x4) σ)
def D_X0_neighbour_67 (Q : Int32 → GSt → Prop) (o : Nat) (x3 : Int32) (x4 : Int32) (σ : GSt) : Prop :=
  D_X0_neighbour_68 Q o x3 x4 0 σ
def D_X0_neighbour_0 (Q : Int32 → GSt → Prop) (o : Nat) (x1 : Int32) (x2 : Int32) (σ : GSt) : Prop :=
  (1 ≤ (σ o 0) → ¬ (σ o 0) = 0 ∧ (vp_in x2 8 ∧ (∀ x3_1 : Int32, x3_1 = ((x1 / (σ o 0)) + (downF (Int32.toNatClampNeg x2))) → (¬ (σ o 0) = 0 ∧ (vp_in x2 8 ∧ (∀ x4_2 : Int32, x4_2 = ((jrem x1 (σ o 0)) + (rightF (Int32.toNatClampNeg x2))) → ((x3_1 < 0 → D_X0_neighbour_67 Q o x3_1 x4_2 σ) ∧
  (¬ x3_1 < 0 → ((σ o 1) ≤ x3_1 → D_X0_neighbour_67 Q o x3_1 x4_2 σ) ∧
  (¬ (σ o 1) ≤ x3_1 → (x4_2 < 0 → D_X0_neighbour_67 Q o x3_1 x4_2 σ) ∧
  (¬ x4_2 < 0 → ((σ o 0) ≤ x4_2 → D_X0_neighbour_67 Q o x3_1 x4_2 σ) ∧
  (¬ (σ o 0) ≤ x4_2 → D_X0_neighbour_68 Q o x3_1 x4_2 1 σ))))))))))) ∧
  (¬ 1 ≤ (σ o 0) → Q (-1) σ)
def D_X0_neighbour (o : Nat) (x1 : Int32) (x2 : Int32) (σ : GSt) (Q : Int32 → GSt → Prop) : Prop := D_X0_neighbour_0 Q o x1 x2 σ
set_option maxRecDepth 20000 in
set_option maxHeartbeats 4000000 in
theorem s_X0_neighbour_68 {p : Program} {l : Launch} {e : Env} {s : State} {m : MethodId} {args : Array Value} {below : List Frame} {meth : Method} {c : Code} {G : GC} (X : CallFix p m c cm_X0_neighbour 6 s args lw_us "GameLoom$Board") (hr : meth.sig.returnType = some .int) (hlk : meth.locks = false) (Q : Int32 → GSt → Prop) (o : Nat) (ho : kd o = 0) (x3 : Int32) (x4 : Int32) (s0 : Int32) (σ : GSt) {H : Heap} {locs : List Loc} {ls : Array Slot} (hw : Wo G s H locs σ) (hl : lv_has ls 6 [(0, .ref (G.2.1 o)), (3, .int x3), (4, .int x4)]) (hD : D_X0_neighbour_68 Q o x3 x4 s0 σ) : W p l e rm_X0_neighbour s m args below meth c H locs 0 0 (QMI G Q below args s) (F0 m 68 ls [.int s0]) := by
  unfold D_X0_neighbour_68 at hD
  refine lv_istore (lv' := [(5, .int s0), (0, .ref (G.2.1 o)), (3, .int x3), (4, .int x4)]) X.1 X.2.1 d_X0_neighbour_68 hl (by decide) rfl (fun ls hl => ?_)
  refine lv_iload X.1 X.2.1 d_X0_neighbour_70 (lv_at hl 0 rfl) ?_
  refine lv_if_eq (tgt := 87) X.1 X.2.1 d_X0_neighbour_72 (by decide) (fun q_72 => ?_) (fun q_72 => ?_)
  · have hD := hD.1 q_72
    refine lv_iconst (v := (-1)) X.1 X.2.1 d_X0_neighbour_87 (by decide) ?_
    exact g_iret X hr hlk hw hD d_X0_neighbour_88
  · have hD := hD.2 q_72
    refine lv_iload_n X.1 X.2.1 d_X0_neighbour_75 rfl (lv_at hl 2 rfl) ?_
    refine lv_aload_n X.1 X.2.1 d_X0_neighbour_76 rfl (lv_at hl 1 rfl) ?_
    refine gf_0_0 X hw ho tb_73 d_X0_neighbour_77 ?_
    refine lv_imul X.1 X.2.1 d_X0_neighbour_80 ?_
    refine lv_iload X.1 X.2.1 d_X0_neighbour_81 (lv_at hl 3 rfl) ?_
    refine lv_iadd X.1 X.2.1 d_X0_neighbour_83 ?_
    refine lv_goto (tgt := 88) X.1 X.2.1 d_X0_neighbour_84 (by decide) ?_
    exact g_iret X hr hlk hw hD d_X0_neighbour_88
set_option maxRecDepth 20000 in
set_option maxHeartbeats 4000000 in
theorem s_X0_neighbour_67 {p : Program} {l : Launch} {e : Env} {s : State} {m : MethodId} {args : Array Value} {below : List Frame} {meth : Method} {c : Code} {G : GC} (X : CallFix p m c cm_X0_neighbour 6 s args lw_us "GameLoom$Board") (hr : meth.sig.returnType = some .int) (hlk : meth.locks = false) (Q : Int32 → GSt → Prop) (o : Nat) (ho : kd o = 0) (x3 : Int32) (x4 : Int32) (σ : GSt) {H : Heap} {locs : List Loc} {ls : Array Slot} (hw : Wo G s H locs σ) (hl : lv_has ls 6 [(0, .ref (G.2.1 o)), (3, .int x3), (4, .int x4)]) (hD : D_X0_neighbour_67 Q o x3 x4 σ) : W p l e rm_X0_neighbour s m args below meth c H locs 0 0 (QMI G Q below args s) (F0 m 67 ls []) := by
  unfold D_X0_neighbour_67 at hD
  refine lv_iconst (v := 0) X.1 X.2.1 d_X0_neighbour_67 (by decide) ?_
  exact s_X0_neighbour_68 X hr hlk  Q o ho  x3 x4 0 σ hw (lv_sub hl [0, 1, 2] rfl) hD
set_option maxRecDepth 20000 in
set_option maxHeartbeats 4000000 in
theorem s_X0_neighbour_0 {p : Program} {l : Launch} {e : Env} {s : State} {m : MethodId} {args : Array Value} {below : List Frame} {meth : Method} {c : Code} {G : GC} (X : CallFix p m c cm_X0_neighbour 6 s args lw_us "GameLoom$Board") (hr : meth.sig.returnType = some .int) (hlk : meth.locks = false) (Q : Int32 → GSt → Prop) (o : Nat) (ho : kd o = 0) (x1 : Int32) (x2 : Int32) (σ : GSt) {H : Heap} {locs : List Loc} {ls : Array Slot} (hw : Wo G s H locs σ) (hl : lv_has ls 6 [(0, .ref (G.2.1 o)), (1, .int x1), (2, .int x2)]) (hD : D_X0_neighbour_0 Q o x1 x2 σ) : W p l e rm_X0_neighbour s m args below meth c H locs 0 0 (QMI G Q below args s) (F0 m 0 ls []) := by
  unfold D_X0_neighbour_0 at hD
  refine lv_aload_n X.1 X.2.1 d_X0_neighbour_0 rfl (lv_at hl 0 rfl) ?_
  refine gf_0_0 X hw ho tb_73 d_X0_neighbour_1 ?_
  refine lv_iconst (v := 1) X.1 X.2.1 d_X0_neighbour_4 (by decide) ?_
  refine lv_icmp_ge (tgt := 10) X.1 X.2.1 d_X0_neighbour_5 (by decide) (fun q_5 => ?_) (fun q_5 => ?_)
  · have hD := hD.1 q_5
    refine lv_iload_n X.1 X.2.1 d_X0_neighbour_10 rfl (lv_at hl 1 rfl) ?_
    refine lv_aload_n X.1 X.2.1 d_X0_neighbour_11 rfl (lv_at hl 0 rfl) ?_
    refine gf_0_0 X hw ho tb_73 d_X0_neighbour_12 ?_
    obtain ⟨q_15, hD⟩ := hD
    refine lv_idiv X.1 X.2.1 d_X0_neighbour_15 q_15 ?_
    refine va_getsN X.1 X.2.1 hw.2.2.2.2.1.1 hw.2.2.2.1 X.2.2.2.1 (va_Nw.use rfl hw.2.2.2.2.2.1) (fun _ h9 => h9) d_X0_neighbour_16 ?_
    refine lv_iload_n X.1 X.2.1 d_X0_neighbour_19 rfl (lv_at hl 2 rfl) ?_
    obtain ⟨q_20, hD⟩ := hD
    refine va_ti X.1 X.2.1 hw.2.2.2.2.1.2.2.1 hw.2.2.2.1 q_20 rfl d_X0_neighbour_20 ?_
    refine lv_iadd X.1 X.2.1 d_X0_neighbour_21 ?_
    refine lv_topi (fun x3_1 e_x3_1 => ?_)
    have hD := hD x3_1 e_x3_1
    refine lv_istore_n (lv' := [(3, .int x3_1), (0, .ref (G.2.1 o)), (1, .int x1), (2, .int x2)]) X.1 X.2.1 d_X0_neighbour_22 rfl hl (by decide) rfl (fun ls hl => ?_)
    refine lv_iload_n X.1 X.2.1 d_X0_neighbour_23 rfl (lv_at hl 2 rfl) ?_
    refine lv_aload_n X.1 X.2.1 d_X0_neighbour_24 rfl (lv_at hl 1 rfl) ?_
    refine gf_0_0 X hw ho tb_73 d_X0_neighbour_25 ?_
    obtain ⟨q_28, hD⟩ := hD
    refine g_irem X d_X0_neighbour_28 q_28 ?_
    refine va_getsN X.1 X.2.1 hw.2.2.2.2.1.2.1 hw.2.2.2.1 X.2.2.2.1 (va_Nw.use rfl hw.2.2.2.2.2.2.1) (fun _ h9 => h9) d_X0_neighbour_29 ?_
    refine lv_iload_n X.1 X.2.1 d_X0_neighbour_32 rfl (lv_at hl 3 rfl) ?_
    obtain ⟨q_33, hD⟩ := hD
    refine va_ti X.1 X.2.1 hw.2.2.2.2.1.2.2.2 hw.2.2.2.1 q_33 rfl d_X0_neighbour_33 ?_
    refine lv_iadd X.1 X.2.1 d_X0_neighbour_34 ?_
    refine lv_topi (fun x4_2 e_x4_2 => ?_)
    have hD := hD x4_2 e_x4_2
    refine lv_istore (lv' := [(4, .int x4_2), (3, .int x3_1), (0, .ref (G.2.1 o)), (1, .int x1), (2, .int x2)]) X.1 X.2.1 d_X0_neighbour_35 hl (by decide) rfl (fun ls hl => ?_)
    refine lv_iload_n X.1 X.2.1 d_X0_neighbour_37 rfl (lv_at hl 1 rfl) ?_
    refine lv_if_lt (tgt := 67) X.1 X.2.1 d_X0_neighbour_38 (by decide) (fun q_38 => ?_) (fun q_38 => ?_)
    · have hD := hD.1 q_38
      exact s_X0_neighbour_67 X hr hlk  Q o ho  x3_1 x4_2 σ hw (lv_sub hl [2, 1, 0] rfl) hD
    · have hD := hD.2 q_38
      refine lv_iload_n X.1 X.2.1 d_X0_neighbour_41 rfl (lv_at hl 1 rfl) ?_
      refine lv_aload_n X.1 X.2.1 d_X0_neighbour_42 rfl (lv_at hl 2 rfl) ?_
      refine gf_0_1 X hw ho tb_76 d_X0_neighbour_43 ?_
      refine lv_icmp_ge (tgt := 67) X.1 X.2.1 d_X0_neighbour_46 (by decide) (fun q_46 => ?_) (fun q_46 => ?_)
      · have hD := hD.1 q_46
        exact s_X0_neighbour_67 X hr hlk  Q o ho  x3_1 x4_2 σ hw (lv_sub hl [2, 1, 0] rfl) hD
      · have hD := hD.2 q_46
        refine lv_iload X.1 X.2.1 d_X0_neighbour_49 (lv_at hl 0 rfl) ?_
        refine lv_if_lt (tgt := 67) X.1 X.2.1 d_X0_neighbour_51 (by decide) (fun q_51 => ?_) (fun q_51 => ?_)
        · have hD := hD.1 q_51
          exact s_X0_neighbour_67 X hr hlk  Q o ho  x3_1 x4_2 σ hw (lv_sub hl [2, 1, 0] rfl) hD
        · have hD := hD.2 q_51
          refine lv_iload X.1 X.2.1 d_X0_neighbour_54 (lv_at hl 0 rfl) ?_
          refine lv_aload_n X.1 X.2.1 d_X0_neighbour_56 rfl (lv_at hl 2 rfl) ?_
          refine gf_0_0 X hw ho tb_73 d_X0_neighbour_57 ?_
          refine lv_icmp_ge (tgt := 67) X.1 X.2.1 d_X0_neighbour_60 (by decide) (fun q_60 => ?_) (fun q_60 => ?_)
          · have hD := hD.1 q_60
            exact s_X0_neighbour_67 X hr hlk  Q o ho  x3_1 x4_2 σ hw (lv_sub hl [2, 1, 0] rfl) hD
          · have hD := hD.2 q_60
            refine lv_iconst (v := 1) X.1 X.2.1 d_X0_neighbour_63 (by decide) ?_
            refine lv_goto (tgt := 68) X.1 X.2.1 d_X0_neighbour_64 (by decide) ?_
            exact s_X0_neighbour_68 X hr hlk  Q o ho  x3_1 x4_2 1 σ hw (lv_sub hl [2, 1, 0] rfl) hD
  · have hD := hD.2 q_5
    refine lv_iconst (v := (-1)) X.1 X.2.1 d_X0_neighbour_8 (by decide) ?_
    exact g_iret X hr hlk hw hD d_X0_neighbour_9
theorem c_X0_neighbour (l : Launch) (G : GC) (o : Nat) (x1 : Int32) (x2 : Int32) (σ : GSt) (Q : Int32 → GSt → Prop) (ho : kd o = 0) (hD : D_X0_neighbour o x1 x2 σ Q) : MI l ym_X0_neighbour cm_X0_neighbour 6 .int rm_X0_neighbour G σ [.ref (G.2.1 o), .int x1, .int x2] Q := by
  refine met_i (by decide) (Nat.le_of_ble_eq_true rfl) ?_
  intro p e s m args below meth c X hr hlk hw ls hl
  exact s_X0_neighbour_0 X hr hlk Q o ho x1 x2 σ hw (lv_sub hl [0, 1, 2] rfl) hD
theorem hd_X0_layNear : ym_X0_layNear.cls = "GameLoom$Board" ∧ ym_X0_layNear.cls ≠ "java/lang/invoke/MethodHandle" ∧ ym_X0_layNear.cls ≠ "java/lang/invoke/VarHandle" ∧ (parseMethodDescriptor ym_X0_layNear.desc).map (fun d => d.parameters.length) = some 1 := by decide +kernel
abbrev rm_X0_layNear : Room := { frames := 1, cells := 0, slots := 0, locals := 25 }
theorem d_X0_layNear_0 : decode cm_X0_layNear 0 = .ok (.iconst 0, 1) := by decide +kernel
theorem d_X0_layNear_1 : decode cm_X0_layNear 1 = .ok (.istore_n 2, 1) := by decide +kernel
theorem d_X0_layNear_2 : decode cm_X0_layNear 2 = .ok (.iconst 0, 1) := by decide +kernel
theorem d_X0_layNear_3 : decode cm_X0_layNear 3 = .ok (.istore_n 3, 1) := by decide +kernel
theorem d_X0_layNear_4 : decode cm_X0_layNear 4 = .ok (.iconst 0, 1) := by decide +kernel
theorem d_X0_layNear_5 : decode cm_X0_layNear 5 = .ok (.istore 4, 2) := by decide +kernel
theorem d_X0_layNear_7 : decode cm_X0_layNear 7 = .ok (.iload 4, 2) := by decide +kernel
theorem d_X0_layNear_9 : decode cm_X0_layNear 9 = .ok (.bipush 8, 2) := by decide +kernel
theorem d_X0_layNear_11 : decode cm_X0_layNear 11 = .ok (.if_icmp .ge 78, 3) := by decide +kernel
theorem d_X0_layNear_14 : decode cm_X0_layNear 14 = .ok (.aload_n 0, 1) := by decide +kernel
theorem d_X0_layNear_15 : decode cm_X0_layNear 15 = .ok (.iload_n 1, 1) := by decide +kernel
theorem d_X0_layNear_16 : decode cm_X0_layNear 16 = .ok (.iload 4, 2) := by decide +kernel
theorem d_X0_layNear_18 : decode cm_X0_layNear 18 = .ok (.invokevirtual 45, 3) := by decide +kernel
theorem d_X0_layNear_21 : decode cm_X0_layNear 21 = .ok (.istore 5, 2) := by decide +kernel
theorem d_X0_layNear_23 : decode cm_X0_layNear 23 = .ok (.iload 5, 2) := by decide +kernel
theorem d_X0_layNear_25 : decode cm_X0_layNear 25 = .ok (.ifCond .ge 7, 3) := by decide +kernel
theorem d_X0_layNear_28 : decode cm_X0_layNear 28 = .ok (.iconst 0, 1) := by decide +kernel
theorem d_X0_layNear_29 : decode cm_X0_layNear 29 = .ok (.goto 7, 3) := by decide +kernel
theorem d_X0_layNear_32 : decode cm_X0_layNear 32 = .ok (.iconst 1, 1) := by decide +kernel
theorem d_X0_layNear_33 : decode cm_X0_layNear 33 = .ok (.iload 5, 2) := by decide +kernel
theorem d_X0_layNear_35 : decode cm_X0_layNear 35 = .ok (.ishl, 1) := by decide +kernel
theorem d_X0_layNear_36 : decode cm_X0_layNear 36 = .ok (.istore 6, 2) := by decide +kernel
theorem d_X0_layNear_38 : decode cm_X0_layNear 38 = .ok (.aload_n 0, 1) := by decide +kernel
theorem d_X0_layNear_39 : decode cm_X0_layNear 39 = .ok (.getfield 9, 3) := by decide +kernel
theorem d_X0_layNear_42 : decode cm_X0_layNear 42 = .ok (.bipush 8, 2) := by decide +kernel
theorem d_X0_layNear_44 : decode cm_X0_layNear 44 = .ok (.iload_n 1, 1) := by decide +kernel
theorem d_X0_layNear_45 : decode cm_X0_layNear 45 = .ok (.imul, 1) := by decide +kernel
theorem d_X0_layNear_46 : decode cm_X0_layNear 46 = .ok (.iload 4, 2) := by decide +kernel
theorem d_X0_layNear_48 : decode cm_X0_layNear 48 = .ok (.iadd, 1) := by decide +kernel
theorem d_X0_layNear_49 : decode cm_X0_layNear 49 = .ok (.iload 5, 2) := by decide +kernel
theorem d_X0_layNear_51 : decode cm_X0_layNear 51 = .ok (.iastore, 1) := by decide +kernel
theorem d_X0_layNear_52 : decode cm_X0_layNear 52 = .ok (.getstatic 48, 3) := by decide +kernel
theorem d_X0_layNear_55 : decode cm_X0_layNear 55 = .ok (.iload 4, 2) := by decide +kernel
theorem d_X0_layNear_57 : decode cm_X0_layNear 57 = .ok (.iaload, 1) := by decide +kernel
theorem d_X0_layNear_58 : decode cm_X0_layNear 58 = .ok (.ifCond .eq 12, 3) := by decide +kernel
theorem d_X0_layNear_61 : decode cm_X0_layNear 61 = .ok (.getstatic 51, 3) := by decide +kernel
theorem d_X0_layNear_64 : decode cm_X0_layNear 64 = .ok (.iload 4, 2) := by decide +kernel
theorem d_X0_layNear_66 : decode cm_X0_layNear 66 = .ok (.iaload, 1) := by decide +kernel
theorem d_X0_layNear_67 : decode cm_X0_layNear 67 = .ok (.ifCond .ne 11, 3) := by decide +kernel
theorem d_X0_layNear_70 : decode cm_X0_layNear 70 = .ok (.iload_n 2, 1) := by decide +kernel
theorem d_X0_layNear_71 : decode cm_X0_layNear 71 = .ok (.iload 6, 2) := by decide +kernel
theorem d_X0_layNear_73 : decode cm_X0_layNear 73 = .ok (.ior, 1) := by decide +kernel
theorem d_X0_layNear_74 : decode cm_X0_layNear 74 = .ok (.istore_n 2, 1) := by decide +kernel
theorem d_X0_layNear_75 : decode cm_X0_layNear 75 = .ok (.goto 8, 3) := by decide +kernel
theorem d_X0_layNear_78 : decode cm_X0_layNear 78 = .ok (.iload_n 3, 1) := by decide +kernel
theorem d_X0_layNear_79 : decode cm_X0_layNear 79 = .ok (.iload 6, 2) := by decide +kernel
theorem d_X0_layNear_81 : decode cm_X0_layNear 81 = .ok (.ior, 1) := by decide +kernel
theorem d_X0_layNear_82 : decode cm_X0_layNear 82 = .ok (.istore_n 3, 1) := by decide +kernel
theorem d_X0_layNear_83 : decode cm_X0_layNear 83 = .ok (.iinc 4 1, 3) := by decide +kernel
theorem d_X0_layNear_86 : decode cm_X0_layNear 86 = .ok (.goto (-79), 3) := by decide +kernel
theorem d_X0_layNear_89 : decode cm_X0_layNear 89 = .ok (.aload_n 0, 1) := by decide +kernel
theorem d_X0_layNear_90 : decode cm_X0_layNear 90 = .ok (.getfield 15, 3) := by decide +kernel
theorem d_X0_layNear_93 : decode cm_X0_layNear 93 = .ok (.bipush 16, 2) := by decide +kernel
theorem d_X0_layNear_95 : decode cm_X0_layNear 95 = .ok (.iload_n 1, 1) := by decide +kernel
theorem d_X0_layNear_96 : decode cm_X0_layNear 96 = .ok (.iadd, 1) := by decide +kernel
theorem d_X0_layNear_97 : decode cm_X0_layNear 97 = .ok (.iload_n 2, 1) := by decide +kernel
theorem d_X0_layNear_98 : decode cm_X0_layNear 98 = .ok (.iastore, 1) := by decide +kernel
theorem d_X0_layNear_99 : decode cm_X0_layNear 99 = .ok (.aload_n 0, 1) := by decide +kernel
theorem d_X0_layNear_100 : decode cm_X0_layNear 100 = .ok (.getfield 15, 3) := by decide +kernel
theorem d_X0_layNear_103 : decode cm_X0_layNear 103 = .ok (.bipush 32, 2) := by decide +kernel
theorem d_X0_layNear_105 : decode cm_X0_layNear 105 = .ok (.iload_n 1, 1) := by decide +kernel
theorem d_X0_layNear_106 : decode cm_X0_layNear 106 = .ok (.iadd, 1) := by decide +kernel
theorem d_X0_layNear_107 : decode cm_X0_layNear 107 = .ok (.iload_n 3, 1) := by decide +kernel
theorem d_X0_layNear_108 : decode cm_X0_layNear 108 = .ok (.iastore, 1) := by decide +kernel
theorem d_X0_layNear_109 : decode cm_X0_layNear 109 = .ok (.aload_n 0, 1) := by decide +kernel
theorem d_X0_layNear_110 : decode cm_X0_layNear 110 = .ok (.getfield 15, 3) := by decide +kernel
theorem d_X0_layNear_113 : decode cm_X0_layNear 113 = .ok (.bipush 48, 2) := by decide +kernel
theorem d_X0_layNear_115 : decode cm_X0_layNear 115 = .ok (.iload_n 1, 1) := by decide +kernel
theorem d_X0_layNear_116 : decode cm_X0_layNear 116 = .ok (.iadd, 1) := by decide +kernel
theorem d_X0_layNear_117 : decode cm_X0_layNear 117 = .ok (.iload_n 2, 1) := by decide +kernel
theorem d_X0_layNear_118 : decode cm_X0_layNear 118 = .ok (.iload_n 3, 1) := by decide +kernel
theorem d_X0_layNear_119 : decode cm_X0_layNear 119 = .ok (.ior, 1) := by decide +kernel
theorem d_X0_layNear_120 : decode cm_X0_layNear 120 = .ok (.iastore, 1) := by decide +kernel
theorem d_X0_layNear_121 : decode cm_X0_layNear 121 = .ok (.return_, 1) := by decide +kernel
def D_X0_layNear_83 (K7 : Int32 → Int32 → Int32 → Int32 → GSt → Prop) (Q : GSt → Prop) (o : Nat) (x1 : Int32) (x2 : Int32) (x3 : Int32) (x4 : Int32) (σ : GSt) : Prop :=
  ∀ x4_1 : Int32, x4_1 = x4 + 1 → (K7 x1 x2 x3 x4_1 σ)
def D_X0_layNear_70 (K7 : Int32 → Int32 → Int32 → Int32 → GSt → Prop) (Q : GSt → Prop) (o : Nat) (x1 : Int32) (x2 : Int32) (x3 : Int32) (x4 : Int32) (x6 : Int32) (σ : GSt) : Prop :=
  ∀ x2_1 : Int32, x2_1 = (x2 ||| x6) → (D_X0_layNear_83 K7 Q o x1 x2_1 x3 x4 σ)
def D_X0_layNear_36 (K7 : Int32 → Int32 → Int32 → Int32 → GSt → Prop) (Q : GSt → Prop) (o : Nat) (x1 : Int32) (x2 : Int32) (x3 : Int32) (x4 : Int32) (x5 : Int32) (s0 : Int32) (σ : GSt) : Prop :=
  vp_in ((8 * x1) + x4) 128 ∧ (∀ σ_1 : GSt, σ_1 = up2 σ (o + 1) (Int32.toNatClampNeg ((8 * x1) + x4)) x5 → (vp_in x4 8 ∧ (((downF (Int32.toNatClampNeg x4)) = 0 → D_X0_layNear_70 K7 Q o x1 x2 x3 x4 s0 σ_1) ∧
  (¬ (downF (Int32.toNatClampNeg x4)) = 0 → vp_in x4 8 ∧ ((¬ (rightF (Int32.toNatClampNeg x4)) = 0 → ∀ x3_2 : Int32, x3_2 = (x3 ||| s0) → (D_X0_layNear_83 K7 Q o x1 x2 x3_2 x4 σ_1)) ∧
  ((rightF (Int32.toNatClampNeg x4)) = 0 → D_X0_layNear_70 K7 Q o x1 x2 x3 x4 s0 σ_1))))))
def D_X0_layNear_7 (K7 : Int32 → Int32 → Int32 → Int32 → GSt → Prop) (Q : GSt → Prop) (o : Nat) (x1 : Int32) (x2 : Int32) (x3 : Int32) (x4 : Int32) (σ : GSt) : Prop :=
  (8 ≤ x4 → vp_in (16 + x1) 64 ∧ (∀ σ_1 : GSt, σ_1 = up2 σ (o + 2) (Int32.toNatClampNeg (16 + x1)) x2 → (vp_in (32 + x1) 64 ∧ (∀ σ_2 : GSt, σ_2 = up2 σ_1 (o + 2) (Int32.toNatClampNeg (32 + x1)) x3 → (vp_in (48 + x1) 64 ∧ (∀ σ_3 : GSt, σ_3 = up2 σ_2 (o + 2) (Int32.toNatClampNeg (48 + x1)) (x2 ||| x3) → (Q σ_3))))))) ∧
  (¬ 8 ≤ x4 → D_X0_neighbour o x1 x4 σ (fun r_4 σ_5 => (0 ≤ r_4 → D_X0_layNear_36 K7 Q o x1 x2 x3 x4 r_4 (jshl 1 r_4) σ_5) ∧
  (¬ 0 ≤ r_4 → D_X0_layNear_36 K7 Q o x1 x2 x3 x4 r_4 0 σ_5)))
def L_X0_layNear_7 (Q : GSt → Prop) (o : Nat) : Nat → Int32 → Int32 → Int32 → Int32 → GSt → Prop
  | 0 => fun _ _ _ _ _ => False
  | n + 1 => fun x1 x2 x3 x4 σ => D_X0_layNear_7 (L_X0_layNear_7 Q o n) Q o x1 x2 x3 x4 σ
def D_X0_layNear_0 (Q : GSt → Prop) (o : Nat) (x1 : Int32) (σ : GSt) : Prop :=
  ∃ n : Nat, L_X0_layNear_7 Q o n x1 0 0 0 σ
def D_X0_layNear (o : Nat) (x1 : Int32) (σ : GSt) (Q : GSt → Prop) : Prop := D_X0_layNear_0 Q o x1 σ
set_option maxRecDepth 20000 in
set_option maxHeartbeats 4000000 in
theorem s_X0_layNear_83 {p : Program} {l : Launch} {e : Env} {s : State} {m : MethodId} {args : Array Value} {below : List Frame} {meth : Method} {c : Code} {G : GC} (X : CallFix p m c cm_X0_layNear 7 s args lw_us "GameLoom$Board") (hr : meth.sig.returnType = none) (hlk : meth.locks = false) (K7 : Int32 → Int32 → Int32 → Int32 → GSt → Prop) (Q : GSt → Prop) (o : Nat) (ho : kd o = 0) (hK7 : ∀ (x1 : Int32) (x2 : Int32) (x3 : Int32) (x4 : Int32) (σ : GSt) (H : Heap) (locs : List Loc) (ls : Array Slot), Wo G s H locs σ → lv_has ls 7 [(0, .ref (G.2.1 o)), (1, .int x1), (2, .int x2), (3, .int x3), (4, .int x4)] → K7 x1 x2 x3 x4 σ → W p l e rm_X0_layNear s m args below meth c H locs 0 0 (QMV G Q below args s) (F0 m 7 ls [])) (x1 : Int32) (x2 : Int32) (x3 : Int32) (x4 : Int32) (σ : GSt) {H : Heap} {locs : List Loc} {ls : Array Slot} (hw : Wo G s H locs σ) (hl : lv_has ls 7 [(0, .ref (G.2.1 o)), (1, .int x1), (2, .int x2), (3, .int x3), (4, .int x4)]) (hD : D_X0_layNear_83 K7 Q o x1 x2 x3 x4 σ) : W p l e rm_X0_layNear s m args below meth c H locs 0 0 (QMV G Q below args s) (F0 m 83 ls []) := by
  unfold D_X0_layNear_83 at hD
  obtain ⟨x4_1, e_x4_1⟩ : ∃ y : Int32, y = x4 + 1 := ⟨_, rfl⟩
  have hD := hD x4_1 e_x4_1
  refine lv_iinc (v := x4_1) (lv' := [(4, .int x4_1), (0, .ref (G.2.1 o)), (1, .int x1), (2, .int x2), (3, .int x3)]) X.1 X.2.1 d_X0_layNear_83 hl (k := 4) rfl (by rw [e_x4_1]; rfl) (by decide) rfl (fun ls hl => ?_)
  refine lv_goto (tgt := 7) X.1 X.2.1 d_X0_layNear_86 (by decide) ?_
  exact hK7 x1 x2 x3 x4_1 σ _ _ _  hw (lv_sub hl [1, 2, 3, 4, 0] rfl) hD
set_option maxRecDepth 20000 in
set_option maxHeartbeats 4000000 in
theorem s_X0_layNear_70 {p : Program} {l : Launch} {e : Env} {s : State} {m : MethodId} {args : Array Value} {below : List Frame} {meth : Method} {c : Code} {G : GC} (X : CallFix p m c cm_X0_layNear 7 s args lw_us "GameLoom$Board") (hr : meth.sig.returnType = none) (hlk : meth.locks = false) (K7 : Int32 → Int32 → Int32 → Int32 → GSt → Prop) (Q : GSt → Prop) (o : Nat) (ho : kd o = 0) (hK7 : ∀ (x1 : Int32) (x2 : Int32) (x3 : Int32) (x4 : Int32) (σ : GSt) (H : Heap) (locs : List Loc) (ls : Array Slot), Wo G s H locs σ → lv_has ls 7 [(0, .ref (G.2.1 o)), (1, .int x1), (2, .int x2), (3, .int x3), (4, .int x4)] → K7 x1 x2 x3 x4 σ → W p l e rm_X0_layNear s m args below meth c H locs 0 0 (QMV G Q below args s) (F0 m 7 ls [])) (x1 : Int32) (x2 : Int32) (x3 : Int32) (x4 : Int32) (x6 : Int32) (σ : GSt) {H : Heap} {locs : List Loc} {ls : Array Slot} (hw : Wo G s H locs σ) (hl : lv_has ls 7 [(0, .ref (G.2.1 o)), (1, .int x1), (2, .int x2), (3, .int x3), (4, .int x4), (6, .int x6)]) (hD : D_X0_layNear_70 K7 Q o x1 x2 x3 x4 x6 σ) : W p l e rm_X0_layNear s m args below meth c H locs 0 0 (QMV G Q below args s) (F0 m 70 ls []) := by
  unfold D_X0_layNear_70 at hD
  refine lv_iload_n X.1 X.2.1 d_X0_layNear_70 rfl (lv_at hl 2 rfl) ?_
  refine lv_iload X.1 X.2.1 d_X0_layNear_71 (lv_at hl 5 rfl) ?_
  refine lv_ior X.1 X.2.1 d_X0_layNear_73 ?_
  refine lv_topi (fun x2_1 e_x2_1 => ?_)
  have hD := hD x2_1 e_x2_1
  refine lv_istore_n (lv' := [(2, .int x2_1), (0, .ref (G.2.1 o)), (1, .int x1), (3, .int x3), (4, .int x4), (6, .int x6)]) X.1 X.2.1 d_X0_layNear_74 rfl hl (by decide) rfl (fun ls hl => ?_)
  refine lv_goto (tgt := 83) X.1 X.2.1 d_X0_layNear_75 (by decide) ?_
  exact s_X0_layNear_83 X hr hlk K7 Q o ho hK7 x1 x2_1 x3 x4 σ hw (lv_sub hl [1, 2, 0, 3, 4] rfl) hD
set_option maxRecDepth 20000 in
set_option maxHeartbeats 4000000 in
theorem s_X0_layNear_36 {p : Program} {l : Launch} {e : Env} {s : State} {m : MethodId} {args : Array Value} {below : List Frame} {meth : Method} {c : Code} {G : GC} (X : CallFix p m c cm_X0_layNear 7 s args lw_us "GameLoom$Board") (hr : meth.sig.returnType = none) (hlk : meth.locks = false) (K7 : Int32 → Int32 → Int32 → Int32 → GSt → Prop) (Q : GSt → Prop) (o : Nat) (ho : kd o = 0) (hK7 : ∀ (x1 : Int32) (x2 : Int32) (x3 : Int32) (x4 : Int32) (σ : GSt) (H : Heap) (locs : List Loc) (ls : Array Slot), Wo G s H locs σ → lv_has ls 7 [(0, .ref (G.2.1 o)), (1, .int x1), (2, .int x2), (3, .int x3), (4, .int x4)] → K7 x1 x2 x3 x4 σ → W p l e rm_X0_layNear s m args below meth c H locs 0 0 (QMV G Q below args s) (F0 m 7 ls [])) (x1 : Int32) (x2 : Int32) (x3 : Int32) (x4 : Int32) (x5 : Int32) (s0 : Int32) (σ : GSt) {H : Heap} {locs : List Loc} {ls : Array Slot} (hw : Wo G s H locs σ) (hl : lv_has ls 7 [(0, .ref (G.2.1 o)), (1, .int x1), (2, .int x2), (3, .int x3), (4, .int x4), (5, .int x5)]) (hD : D_X0_layNear_36 K7 Q o x1 x2 x3 x4 x5 s0 σ) : W p l e rm_X0_layNear s m args below meth c H locs 0 0 (QMV G Q below args s) (F0 m 36 ls [.int s0]) := by
  unfold D_X0_layNear_36 at hD
  refine lv_istore (lv' := [(6, .int s0), (0, .ref (G.2.1 o)), (1, .int x1), (2, .int x2), (3, .int x3), (4, .int x4), (5, .int x5)]) X.1 X.2.1 d_X0_layNear_36 hl (by decide) rfl (fun ls hl => ?_)
  refine lv_aload_n X.1 X.2.1 d_X0_layNear_38 rfl (lv_at hl 1 rfl) ?_
  refine gf_0_3 X hw ho tb_82 d_X0_layNear_39 ?_
  refine lv_bipush (v := 8) X.1 X.2.1 d_X0_layNear_42 (by decide) ?_
  refine lv_iload_n X.1 X.2.1 d_X0_layNear_44 rfl (lv_at hl 2 rfl) ?_
  refine lv_imul X.1 X.2.1 d_X0_layNear_45 ?_
  refine lv_iload X.1 X.2.1 d_X0_layNear_46 (lv_at hl 5 rfl) ?_
  refine lv_iadd X.1 X.2.1 d_X0_layNear_48 ?_
  refine lv_iload X.1 X.2.1 d_X0_layNear_49 (lv_at hl 6 rfl) ?_
  obtain ⟨q_51, hD⟩ := hD
  refine g_iast X hw (ly_0_3 ho).1 (ly_0_3 ho).2 q_51 d_X0_layNear_51 (fun H locs hw => ?_)
  obtain ⟨σ_1, e_σ_1⟩ : ∃ z : GSt, z = up2 σ (o + 1) (Int32.toNatClampNeg ((8 * x1) + x4)) x5 := ⟨_, rfl⟩
  rw [← e_σ_1] at hw
  have hD := hD σ_1 e_σ_1
  refine va_getsN X.1 X.2.1 hw.2.2.2.2.1.1 hw.2.2.2.1 X.2.2.2.1 (va_Nw.use rfl hw.2.2.2.2.2.1) (fun _ h9 => h9) d_X0_layNear_52 ?_
  refine lv_iload X.1 X.2.1 d_X0_layNear_55 (lv_at hl 5 rfl) ?_
  obtain ⟨q_57, hD⟩ := hD
  refine va_ti X.1 X.2.1 hw.2.2.2.2.1.2.2.1 hw.2.2.2.1 q_57 rfl d_X0_layNear_57 ?_
  refine lv_if_eq (tgt := 70) X.1 X.2.1 d_X0_layNear_58 (by decide) (fun q_58 => ?_) (fun q_58 => ?_)
  · have hD := hD.1 q_58
    exact s_X0_layNear_70 X hr hlk K7 Q o ho hK7 x1 x2 x3 x4 s0 σ_1 hw (lv_sub hl [1, 2, 3, 4, 5, 0] rfl) hD
  · have hD := hD.2 q_58
    refine va_getsN X.1 X.2.1 hw.2.2.2.2.1.2.1 hw.2.2.2.1 X.2.2.2.1 (va_Nw.use rfl hw.2.2.2.2.2.2.1) (fun _ h9 => h9) d_X0_layNear_61 ?_
    refine lv_iload X.1 X.2.1 d_X0_layNear_64 (lv_at hl 5 rfl) ?_
    obtain ⟨q_66, hD⟩ := hD
    refine va_ti X.1 X.2.1 hw.2.2.2.2.1.2.2.2 hw.2.2.2.1 q_66 rfl d_X0_layNear_66 ?_
    refine lv_if_ne (tgt := 78) X.1 X.2.1 d_X0_layNear_67 (by decide) (fun q_67 => ?_) (fun q_67 => ?_)
    · have hD := hD.1 q_67
      refine lv_iload_n X.1 X.2.1 d_X0_layNear_78 rfl (lv_at hl 4 rfl) ?_
      refine lv_iload X.1 X.2.1 d_X0_layNear_79 (lv_at hl 0 rfl) ?_
      refine lv_ior X.1 X.2.1 d_X0_layNear_81 ?_
      refine lv_topi (fun x3_2 e_x3_2 => ?_)
      have hD := hD x3_2 e_x3_2
      refine lv_istore_n (lv' := [(3, .int x3_2), (6, .int s0), (0, .ref (G.2.1 o)), (1, .int x1), (2, .int x2), (4, .int x4), (5, .int x5)]) X.1 X.2.1 d_X0_layNear_82 rfl hl (by decide) rfl (fun ls hl => ?_)
      exact s_X0_layNear_83 X hr hlk K7 Q o ho hK7 x1 x2 x3_2 x4 σ_1 hw (lv_sub hl [2, 3, 4, 0, 5] rfl) hD
    · have hD := hD.2 q_67
      exact s_X0_layNear_70 X hr hlk K7 Q o ho hK7 x1 x2 x3 x4 s0 σ_1 hw (lv_sub hl [1, 2, 3, 4, 5, 0] rfl) hD
set_option maxRecDepth 20000 in
set_option maxHeartbeats 4000000 in
theorem s_X0_layNear_7 {p : Program} {l : Launch} {e : Env} {s : State} {m : MethodId} {args : Array Value} {below : List Frame} {meth : Method} {c : Code} {G : GC} (X : CallFix p m c cm_X0_layNear 7 s args lw_us "GameLoom$Board") (hr : meth.sig.returnType = none) (hlk : meth.locks = false) (K7 : Int32 → Int32 → Int32 → Int32 → GSt → Prop) (Q : GSt → Prop) (o : Nat) (ho : kd o = 0) (hK7 : ∀ (x1 : Int32) (x2 : Int32) (x3 : Int32) (x4 : Int32) (σ : GSt) (H : Heap) (locs : List Loc) (ls : Array Slot), Wo G s H locs σ → lv_has ls 7 [(0, .ref (G.2.1 o)), (1, .int x1), (2, .int x2), (3, .int x3), (4, .int x4)] → K7 x1 x2 x3 x4 σ → W p l e rm_X0_layNear s m args below meth c H locs 0 0 (QMV G Q below args s) (F0 m 7 ls [])) (x1 : Int32) (x2 : Int32) (x3 : Int32) (x4 : Int32) (σ : GSt) {H : Heap} {locs : List Loc} {ls : Array Slot} (hw : Wo G s H locs σ) (hl : lv_has ls 7 [(0, .ref (G.2.1 o)), (1, .int x1), (2, .int x2), (3, .int x3), (4, .int x4)]) (hD : D_X0_layNear_7 K7 Q o x1 x2 x3 x4 σ) : W p l e rm_X0_layNear s m args below meth c H locs 0 0 (QMV G Q below args s) (F0 m 7 ls []) := by
  unfold D_X0_layNear_7 at hD
  refine lv_iload X.1 X.2.1 d_X0_layNear_7 (lv_at hl 4 rfl) ?_
  refine lv_bipush (v := 8) X.1 X.2.1 d_X0_layNear_9 (by decide) ?_
  refine lv_icmp_ge (tgt := 89) X.1 X.2.1 d_X0_layNear_11 (by decide) (fun q_11 => ?_) (fun q_11 => ?_)
  · have hD := hD.1 q_11
    refine lv_aload_n X.1 X.2.1 d_X0_layNear_89 rfl (lv_at hl 0 rfl) ?_
    refine gf_0_4 X hw ho tb_84 d_X0_layNear_90 ?_
    refine lv_bipush (v := 16) X.1 X.2.1 d_X0_layNear_93 (by decide) ?_
    refine lv_iload_n X.1 X.2.1 d_X0_layNear_95 rfl (lv_at hl 1 rfl) ?_
    refine lv_iadd X.1 X.2.1 d_X0_layNear_96 ?_
    refine lv_iload_n X.1 X.2.1 d_X0_layNear_97 rfl (lv_at hl 2 rfl) ?_
    obtain ⟨q_98, hD⟩ := hD
    refine g_iast X hw (ly_0_4 ho).1 (ly_0_4 ho).2 q_98 d_X0_layNear_98 (fun H locs hw => ?_)
    obtain ⟨σ_1, e_σ_1⟩ : ∃ z : GSt, z = up2 σ (o + 2) (Int32.toNatClampNeg (16 + x1)) x2 := ⟨_, rfl⟩
    rw [← e_σ_1] at hw
    have hD := hD σ_1 e_σ_1
    refine lv_aload_n X.1 X.2.1 d_X0_layNear_99 rfl (lv_at hl 0 rfl) ?_
    refine gf_0_4 X hw ho tb_84 d_X0_layNear_100 ?_
    refine lv_bipush (v := 32) X.1 X.2.1 d_X0_layNear_103 (by decide) ?_
    refine lv_iload_n X.1 X.2.1 d_X0_layNear_105 rfl (lv_at hl 1 rfl) ?_
    refine lv_iadd X.1 X.2.1 d_X0_layNear_106 ?_
    refine lv_iload_n X.1 X.2.1 d_X0_layNear_107 rfl (lv_at hl 3 rfl) ?_
    obtain ⟨q_108, hD⟩ := hD
    refine g_iast X hw (ly_0_4 ho).1 (ly_0_4 ho).2 q_108 d_X0_layNear_108 (fun H locs hw => ?_)
    obtain ⟨σ_2, e_σ_2⟩ : ∃ z : GSt, z = up2 σ_1 (o + 2) (Int32.toNatClampNeg (32 + x1)) x3 := ⟨_, rfl⟩
    rw [← e_σ_2] at hw
    have hD := hD σ_2 e_σ_2
    refine lv_aload_n X.1 X.2.1 d_X0_layNear_109 rfl (lv_at hl 0 rfl) ?_
    refine gf_0_4 X hw ho tb_84 d_X0_layNear_110 ?_
    refine lv_bipush (v := 48) X.1 X.2.1 d_X0_layNear_113 (by decide) ?_
    refine lv_iload_n X.1 X.2.1 d_X0_layNear_115 rfl (lv_at hl 1 rfl) ?_
    refine lv_iadd X.1 X.2.1 d_X0_layNear_116 ?_
    refine lv_iload_n X.1 X.2.1 d_X0_layNear_117 rfl (lv_at hl 2 rfl) ?_
    refine lv_iload_n X.1 X.2.1 d_X0_layNear_118 rfl (lv_at hl 3 rfl) ?_
    refine lv_ior X.1 X.2.1 d_X0_layNear_119 ?_
    obtain ⟨q_120, hD⟩ := hD
    refine g_iast X hw (ly_0_4 ho).1 (ly_0_4 ho).2 q_120 d_X0_layNear_120 (fun H locs hw => ?_)
    obtain ⟨σ_3, e_σ_3⟩ : ∃ z : GSt, z = up2 σ_2 (o + 2) (Int32.toNatClampNeg (48 + x1)) (x2 ||| x3) := ⟨_, rfl⟩
    rw [← e_σ_3] at hw
    have hD := hD σ_3 e_σ_3
    exact g_vret X hr hlk hw hD d_X0_layNear_121
  · have hD := hD.2 q_11
    refine lv_aload_n X.1 X.2.1 d_X0_layNear_14 rfl (lv_at hl 0 rfl) ?_
    refine lv_iload_n X.1 X.2.1 d_X0_layNear_15 rfl (lv_at hl 1 rfl) ?_
    refine lv_iload X.1 X.2.1 d_X0_layNear_16 (lv_at hl 4 rfl) ?_
    refine gcV_i (rest := []) (As := [.int x1, .int x4]) (o := o) X hw (c_X0_neighbour l G o x1 x4 σ _ ho hD) (kd_lt ho (by decide)) (ce_0 G _ ho) rfl tb_464 tb_466 tv_6 tb_5 tb_467 hd_X0_neighbour ⟨rfl, rfl⟩ ⟨Nat.le_of_ble_eq_true rfl, Nat.le_of_ble_eq_true rfl⟩ rfl hl.1 rfl (Nat.le_of_ble_eq_true rfl) d_X0_layNear_18 (fun r_4 σ_5 H locs hD hw => ?_)
    refine lv_istore (lv' := [(5, .int r_4), (0, .ref (G.2.1 o)), (1, .int x1), (2, .int x2), (3, .int x3), (4, .int x4)]) X.1 X.2.1 d_X0_layNear_21 hl (by decide) rfl (fun ls hl => ?_)
    refine lv_iload X.1 X.2.1 d_X0_layNear_23 (lv_at hl 0 rfl) ?_
    refine lv_if_ge (tgt := 32) X.1 X.2.1 d_X0_layNear_25 (by decide) (fun q_25 => ?_) (fun q_25 => ?_)
    · have hD := hD.1 q_25
      refine lv_iconst (v := 1) X.1 X.2.1 d_X0_layNear_32 (by decide) ?_
      refine lv_iload X.1 X.2.1 d_X0_layNear_33 (lv_at hl 0 rfl) ?_
      refine g_ishl X d_X0_layNear_35 ?_
      exact s_X0_layNear_36 X hr hlk K7 Q o ho hK7 x1 x2 x3 x4 r_4 (jshl 1 r_4) σ_5 hw (lv_sub hl [1, 2, 3, 4, 5, 0] rfl) hD
    · have hD := hD.2 q_25
      refine lv_iconst (v := 0) X.1 X.2.1 d_X0_layNear_28 (by decide) ?_
      refine lv_goto (tgt := 36) X.1 X.2.1 d_X0_layNear_29 (by decide) ?_
      exact s_X0_layNear_36 X hr hlk K7 Q o ho hK7 x1 x2 x3 x4 r_4 0 σ_5 hw (lv_sub hl [1, 2, 3, 4, 5, 0] rfl) hD
set_option maxRecDepth 20000 in
set_option maxHeartbeats 4000000 in
theorem sl_X0_layNear_7 {p : Program} {l : Launch} {e : Env} {s : State} {m : MethodId} {args : Array Value} {below : List Frame} {meth : Method} {c : Code} {G : GC} (X : CallFix p m c cm_X0_layNear 7 s args lw_us "GameLoom$Board") (hr : meth.sig.returnType = none) (hlk : meth.locks = false) (Q : GSt → Prop) (o : Nat) (ho : kd o = 0) : ∀ (nn : Nat), ∀ (x1 : Int32) (x2 : Int32) (x3 : Int32) (x4 : Int32) (σ : GSt) (H : Heap) (locs : List Loc) (ls : Array Slot), Wo G s H locs σ → lv_has ls 7 [(0, .ref (G.2.1 o)), (1, .int x1), (2, .int x2), (3, .int x3), (4, .int x4)] → L_X0_layNear_7 Q o nn x1 x2 x3 x4 σ → W p l e rm_X0_layNear s m args below meth c H locs 0 0 (QMV G Q below args s) (F0 m 7 ls []) := by
  intro nn
  induction nn with
  | zero => intro x1 x2 x3 x4 σ H locs ls  hw hl hD; exact hD.elim
  | succ nn ih =>
    intro x1 x2 x3 x4 σ H locs ls  hw hl hD
    exact s_X0_layNear_7 X hr hlk (L_X0_layNear_7 Q o nn) Q o ho ih x1 x2 x3 x4 σ hw hl hD
set_option maxRecDepth 20000 in
set_option maxHeartbeats 4000000 in
theorem s_X0_layNear_0 {p : Program} {l : Launch} {e : Env} {s : State} {m : MethodId} {args : Array Value} {below : List Frame} {meth : Method} {c : Code} {G : GC} (X : CallFix p m c cm_X0_layNear 7 s args lw_us "GameLoom$Board") (hr : meth.sig.returnType = none) (hlk : meth.locks = false) (Q : GSt → Prop) (o : Nat) (ho : kd o = 0) (x1 : Int32) (σ : GSt) {H : Heap} {locs : List Loc} {ls : Array Slot} (hw : Wo G s H locs σ) (hl : lv_has ls 7 [(0, .ref (G.2.1 o)), (1, .int x1)]) (hD : D_X0_layNear_0 Q o x1 σ) : W p l e rm_X0_layNear s m args below meth c H locs 0 0 (QMV G Q below args s) (F0 m 0 ls []) := by
  unfold D_X0_layNear_0 at hD
  refine lv_iconst (v := 0) X.1 X.2.1 d_X0_layNear_0 (by decide) ?_
  refine lv_istore_n (lv' := [(2, .int 0), (0, .ref (G.2.1 o)), (1, .int x1)]) X.1 X.2.1 d_X0_layNear_1 rfl hl (by decide) rfl (fun ls hl => ?_)
  refine lv_iconst (v := 0) X.1 X.2.1 d_X0_layNear_2 (by decide) ?_
  refine lv_istore_n (lv' := [(3, .int 0), (2, .int 0), (0, .ref (G.2.1 o)), (1, .int x1)]) X.1 X.2.1 d_X0_layNear_3 rfl hl (by decide) rfl (fun ls hl => ?_)
  refine lv_iconst (v := 0) X.1 X.2.1 d_X0_layNear_4 (by decide) ?_
  refine lv_istore (lv' := [(4, .int 0), (3, .int 0), (2, .int 0), (0, .ref (G.2.1 o)), (1, .int x1)]) X.1 X.2.1 d_X0_layNear_5 hl (by decide) rfl (fun ls hl => ?_)
  obtain ⟨n9, hD⟩ := hD
  exact sl_X0_layNear_7 X hr hlk  Q o ho  n9 x1 0 0 0 σ _ _ _  hw (lv_sub hl [3, 4, 2, 1, 0] rfl) hD
theorem c_X0_layNear (l : Launch) (G : GC) (o : Nat) (x1 : Int32) (σ : GSt) (Q : GSt → Prop) (ho : kd o = 0) (hD : D_X0_layNear o x1 σ Q) : MV l ym_X0_layNear cm_X0_layNear 7 rm_X0_layNear G σ [.ref (G.2.1 o), .int x1] Q := by
  refine met_v (by decide) (Nat.le_of_ble_eq_true rfl) ?_
  intro p e s m args below meth c X hr hlk hw ls hl
  exact s_X0_layNear_0 X hr hlk Q o ho x1 σ hw (lv_sub hl [0, 1] rfl) hD
theorem hd_X0_rowOf : ym_X0_rowOf.cls = "GameLoom$Board" ∧ ym_X0_rowOf.cls ≠ "java/lang/invoke/MethodHandle" ∧ ym_X0_rowOf.cls ≠ "java/lang/invoke/VarHandle" ∧ (parseMethodDescriptor ym_X0_rowOf.desc).map (fun d => d.parameters.length) = some 3 := by decide +kernel
abbrev rm_X0_rowOf : Room := { frames := 0, cells := 0, slots := 0, locals := 0 }
theorem d_X0_rowOf_0 : decode cm_X0_rowOf 0 = .ok (.iconst 0, 1) := by decide +kernel
theorem d_X0_rowOf_1 : decode cm_X0_rowOf 1 = .ok (.istore 4, 2) := by decide +kernel
theorem d_X0_rowOf_3 : decode cm_X0_rowOf 3 = .ok (.iload_n 2, 1) := by decide +kernel
theorem d_X0_rowOf_4 : decode cm_X0_rowOf 4 = .ok (.istore 5, 2) := by decide +kernel
theorem d_X0_rowOf_6 : decode cm_X0_rowOf 6 = .ok (.iconst 0, 1) := by decide +kernel
theorem d_X0_rowOf_7 : decode cm_X0_rowOf 7 = .ok (.istore 6, 2) := by decide +kernel
theorem d_X0_rowOf_9 : decode cm_X0_rowOf 9 = .ok (.iload 6, 2) := by decide +kernel
theorem d_X0_rowOf_11 : decode cm_X0_rowOf 11 = .ok (.iload_n 1, 1) := by decide +kernel
theorem d_X0_rowOf_12 : decode cm_X0_rowOf 12 = .ok (.if_icmp .ge 39, 3) := by decide +kernel
theorem d_X0_rowOf_15 : decode cm_X0_rowOf 15 = .ok (.iload 5, 2) := by decide +kernel
theorem d_X0_rowOf_17 : decode cm_X0_rowOf 17 = .ok (.ifCond .ge 5, 3) := by decide +kernel
theorem d_X0_rowOf_20 : decode cm_X0_rowOf 20 = .ok (.iconst 0, 1) := by decide +kernel
theorem d_X0_rowOf_21 : decode cm_X0_rowOf 21 = .ok (.ireturn, 1) := by decide +kernel
theorem d_X0_rowOf_22 : decode cm_X0_rowOf 22 = .ok (.iload 4, 2) := by decide +kernel
theorem d_X0_rowOf_24 : decode cm_X0_rowOf 24 = .ok (.iconst 1, 1) := by decide +kernel
theorem d_X0_rowOf_25 : decode cm_X0_rowOf 25 = .ok (.iload 5, 2) := by decide +kernel
theorem d_X0_rowOf_27 : decode cm_X0_rowOf 27 = .ok (.ishl, 1) := by decide +kernel
theorem d_X0_rowOf_28 : decode cm_X0_rowOf 28 = .ok (.ior, 1) := by decide +kernel
theorem d_X0_rowOf_29 : decode cm_X0_rowOf 29 = .ok (.istore 4, 2) := by decide +kernel
theorem d_X0_rowOf_31 : decode cm_X0_rowOf 31 = .ok (.aload_n 0, 1) := by decide +kernel
theorem d_X0_rowOf_32 : decode cm_X0_rowOf 32 = .ok (.getfield 9, 3) := by decide +kernel
theorem d_X0_rowOf_35 : decode cm_X0_rowOf 35 = .ok (.bipush 8, 2) := by decide +kernel
theorem d_X0_rowOf_37 : decode cm_X0_rowOf 37 = .ok (.iload 5, 2) := by decide +kernel
theorem d_X0_rowOf_39 : decode cm_X0_rowOf 39 = .ok (.imul, 1) := by decide +kernel
theorem d_X0_rowOf_40 : decode cm_X0_rowOf 40 = .ok (.iload_n 3, 1) := by decide +kernel
theorem d_X0_rowOf_41 : decode cm_X0_rowOf 41 = .ok (.iadd, 1) := by decide +kernel
theorem d_X0_rowOf_42 : decode cm_X0_rowOf 42 = .ok (.iaload, 1) := by decide +kernel
theorem d_X0_rowOf_43 : decode cm_X0_rowOf 43 = .ok (.istore 5, 2) := by decide +kernel
theorem d_X0_rowOf_45 : decode cm_X0_rowOf 45 = .ok (.iinc 6 1, 3) := by decide +kernel
theorem d_X0_rowOf_48 : decode cm_X0_rowOf 48 = .ok (.goto (-39), 3) := by decide +kernel
theorem d_X0_rowOf_51 : decode cm_X0_rowOf 51 = .ok (.iload 4, 2) := by decide +kernel
theorem d_X0_rowOf_53 : decode cm_X0_rowOf 53 = .ok (.ireturn, 1) := by decide +kernel
def D_X0_rowOf_9 (K9 : Int32 → Int32 → Int32 → Int32 → Int32 → GSt → Prop) (Q : Int32 → GSt → Prop) (o : Nat) (x1 : Int32) (x3 : Int32) (x4 : Int32) (x5 : Int32) (x6 : Int32) (σ : GSt) : Prop :=
  (x1 ≤ x6 → Q x4 σ) ∧
  (¬ x1 ≤ x6 → (0 ≤ x5 → ∀ x4_1 : Int32, x4_1 = (x4 ||| (jshl 1 x5)) → (vp_in ((8 * x5) + x3) 128 ∧ (∀ x5_2 : Int32, x5_2 = (σ (o + 1) (Int32.toNatClampNeg ((8 * x5) + x3))) → (∀ x6_3 : Int32, x6_3 = x6 + 1 → (K9 x1 x3 x4_1 x5_2 x6_3 σ))))) ∧
  (¬ 0 ≤ x5 → Q 0 σ))
def L_X0_rowOf_9 (Q : Int32 → GSt → Prop) (o : Nat) : Nat → Int32 → Int32 → Int32 → Int32 → Int32 → GSt → Prop
  | 0 => fun _ _ _ _ _ _ => False
  | n + 1 => fun x1 x3 x4 x5 x6 σ => D_X0_rowOf_9 (L_X0_rowOf_9 Q o n) Q o x1 x3 x4 x5 x6 σ
def D_X0_rowOf_0 (Q : Int32 → GSt → Prop) (o : Nat) (x1 : Int32) (x2 : Int32) (x3 : Int32) (σ : GSt) : Prop :=
  ∃ n : Nat, L_X0_rowOf_9 Q o n x1 x3 0 x2 0 σ
def D_X0_rowOf (o : Nat) (x1 : Int32) (x2 : Int32) (x3 : Int32) (σ : GSt) (Q : Int32 → GSt → Prop) : Prop := D_X0_rowOf_0 Q o x1 x2 x3 σ
set_option maxRecDepth 20000 in
set_option maxHeartbeats 4000000 in
theorem s_X0_rowOf_9 {p : Program} {l : Launch} {e : Env} {s : State} {m : MethodId} {args : Array Value} {below : List Frame} {meth : Method} {c : Code} {G : GC} (X : CallFix p m c cm_X0_rowOf 7 s args lw_us "GameLoom$Board") (hr : meth.sig.returnType = some .int) (hlk : meth.locks = false) (K9 : Int32 → Int32 → Int32 → Int32 → Int32 → GSt → Prop) (Q : Int32 → GSt → Prop) (o : Nat) (ho : kd o = 0) (hK9 : ∀ (x1 : Int32) (x3 : Int32) (x4 : Int32) (x5 : Int32) (x6 : Int32) (σ : GSt) (H : Heap) (locs : List Loc) (ls : Array Slot), Wo G s H locs σ → lv_has ls 7 [(0, .ref (G.2.1 o)), (1, .int x1), (3, .int x3), (4, .int x4), (5, .int x5), (6, .int x6)] → K9 x1 x3 x4 x5 x6 σ → W p l e rm_X0_rowOf s m args below meth c H locs 0 0 (QMI G Q below args s) (F0 m 9 ls [])) (x1 : Int32) (x3 : Int32) (x4 : Int32) (x5 : Int32) (x6 : Int32) (σ : GSt) {H : Heap} {locs : List Loc} {ls : Array Slot} (hw : Wo G s H locs σ) (hl : lv_has ls 7 [(0, .ref (G.2.1 o)), (1, .int x1), (3, .int x3), (4, .int x4), (5, .int x5), (6, .int x6)]) (hD : D_X0_rowOf_9 K9 Q o x1 x3 x4 x5 x6 σ) : W p l e rm_X0_rowOf s m args below meth c H locs 0 0 (QMI G Q below args s) (F0 m 9 ls []) := by
  unfold D_X0_rowOf_9 at hD
  refine lv_iload X.1 X.2.1 d_X0_rowOf_9 (lv_at hl 5 rfl) ?_
  refine lv_iload_n X.1 X.2.1 d_X0_rowOf_11 rfl (lv_at hl 1 rfl) ?_
  refine lv_icmp_ge (tgt := 51) X.1 X.2.1 d_X0_rowOf_12 (by decide) (fun q_12 => ?_) (fun q_12 => ?_)
  · have hD := hD.1 q_12
    refine lv_iload X.1 X.2.1 d_X0_rowOf_51 (lv_at hl 3 rfl) ?_
    exact g_iret X hr hlk hw hD d_X0_rowOf_53
  · have hD := hD.2 q_12
    refine lv_iload X.1 X.2.1 d_X0_rowOf_15 (lv_at hl 4 rfl) ?_
    refine lv_if_ge (tgt := 22) X.1 X.2.1 d_X0_rowOf_17 (by decide) (fun q_17 => ?_) (fun q_17 => ?_)
    · have hD := hD.1 q_17
      refine lv_iload X.1 X.2.1 d_X0_rowOf_22 (lv_at hl 3 rfl) ?_
      refine lv_iconst (v := 1) X.1 X.2.1 d_X0_rowOf_24 (by decide) ?_
      refine lv_iload X.1 X.2.1 d_X0_rowOf_25 (lv_at hl 4 rfl) ?_
      refine g_ishl X d_X0_rowOf_27 ?_
      refine lv_ior X.1 X.2.1 d_X0_rowOf_28 ?_
      refine lv_topi (fun x4_1 e_x4_1 => ?_)
      have hD := hD x4_1 e_x4_1
      refine lv_istore (lv' := [(4, .int x4_1), (0, .ref (G.2.1 o)), (1, .int x1), (3, .int x3), (5, .int x5), (6, .int x6)]) X.1 X.2.1 d_X0_rowOf_29 hl (by decide) rfl (fun ls hl => ?_)
      refine lv_aload_n X.1 X.2.1 d_X0_rowOf_31 rfl (lv_at hl 1 rfl) ?_
      refine gf_0_3 X hw ho tb_82 d_X0_rowOf_32 ?_
      refine lv_bipush (v := 8) X.1 X.2.1 d_X0_rowOf_35 (by decide) ?_
      refine lv_iload X.1 X.2.1 d_X0_rowOf_37 (lv_at hl 4 rfl) ?_
      refine lv_imul X.1 X.2.1 d_X0_rowOf_39 ?_
      refine lv_iload_n X.1 X.2.1 d_X0_rowOf_40 rfl (lv_at hl 3 rfl) ?_
      refine lv_iadd X.1 X.2.1 d_X0_rowOf_41 ?_
      obtain ⟨q_42, hD⟩ := hD
      refine g_iald X hw (ly_0_3 ho).1 (ly_0_3 ho).2 q_42 d_X0_rowOf_42 ?_
      refine lv_topi (fun x5_2 e_x5_2 => ?_)
      have hD := hD x5_2 e_x5_2
      refine lv_istore (lv' := [(5, .int x5_2), (4, .int x4_1), (0, .ref (G.2.1 o)), (1, .int x1), (3, .int x3), (6, .int x6)]) X.1 X.2.1 d_X0_rowOf_43 hl (by decide) rfl (fun ls hl => ?_)
      obtain ⟨x6_3, e_x6_3⟩ : ∃ y : Int32, y = x6 + 1 := ⟨_, rfl⟩
      have hD := hD x6_3 e_x6_3
      refine lv_iinc (v := x6_3) (lv' := [(6, .int x6_3), (5, .int x5_2), (4, .int x4_1), (0, .ref (G.2.1 o)), (1, .int x1), (3, .int x3)]) X.1 X.2.1 d_X0_rowOf_45 hl (k := 5) rfl (by rw [e_x6_3]; rfl) (by decide) rfl (fun ls hl => ?_)
      refine lv_goto (tgt := 9) X.1 X.2.1 d_X0_rowOf_48 (by decide) ?_
      exact hK9 x1 x3 x4_1 x5_2 x6_3 σ _ _ _  hw (lv_sub hl [3, 4, 5, 2, 1, 0] rfl) hD
    · have hD := hD.2 q_17
      refine lv_iconst (v := 0) X.1 X.2.1 d_X0_rowOf_20 (by decide) ?_
      exact g_iret X hr hlk hw hD d_X0_rowOf_21
set_option maxRecDepth 20000 in
set_option maxHeartbeats 4000000 in
theorem sl_X0_rowOf_9 {p : Program} {l : Launch} {e : Env} {s : State} {m : MethodId} {args : Array Value} {below : List Frame} {meth : Method} {c : Code} {G : GC} (X : CallFix p m c cm_X0_rowOf 7 s args lw_us "GameLoom$Board") (hr : meth.sig.returnType = some .int) (hlk : meth.locks = false) (Q : Int32 → GSt → Prop) (o : Nat) (ho : kd o = 0) : ∀ (nn : Nat), ∀ (x1 : Int32) (x3 : Int32) (x4 : Int32) (x5 : Int32) (x6 : Int32) (σ : GSt) (H : Heap) (locs : List Loc) (ls : Array Slot), Wo G s H locs σ → lv_has ls 7 [(0, .ref (G.2.1 o)), (1, .int x1), (3, .int x3), (4, .int x4), (5, .int x5), (6, .int x6)] → L_X0_rowOf_9 Q o nn x1 x3 x4 x5 x6 σ → W p l e rm_X0_rowOf s m args below meth c H locs 0 0 (QMI G Q below args s) (F0 m 9 ls []) := by
  intro nn
  induction nn with
  | zero => intro x1 x3 x4 x5 x6 σ H locs ls  hw hl hD; exact hD.elim
  | succ nn ih =>
    intro x1 x3 x4 x5 x6 σ H locs ls  hw hl hD
    exact s_X0_rowOf_9 X hr hlk (L_X0_rowOf_9 Q o nn) Q o ho ih x1 x3 x4 x5 x6 σ hw hl hD
set_option maxRecDepth 20000 in
set_option maxHeartbeats 4000000 in
theorem s_X0_rowOf_0 {p : Program} {l : Launch} {e : Env} {s : State} {m : MethodId} {args : Array Value} {below : List Frame} {meth : Method} {c : Code} {G : GC} (X : CallFix p m c cm_X0_rowOf 7 s args lw_us "GameLoom$Board") (hr : meth.sig.returnType = some .int) (hlk : meth.locks = false) (Q : Int32 → GSt → Prop) (o : Nat) (ho : kd o = 0) (x1 : Int32) (x2 : Int32) (x3 : Int32) (σ : GSt) {H : Heap} {locs : List Loc} {ls : Array Slot} (hw : Wo G s H locs σ) (hl : lv_has ls 7 [(0, .ref (G.2.1 o)), (1, .int x1), (2, .int x2), (3, .int x3)]) (hD : D_X0_rowOf_0 Q o x1 x2 x3 σ) : W p l e rm_X0_rowOf s m args below meth c H locs 0 0 (QMI G Q below args s) (F0 m 0 ls []) := by
  unfold D_X0_rowOf_0 at hD
  refine lv_iconst (v := 0) X.1 X.2.1 d_X0_rowOf_0 (by decide) ?_
  refine lv_istore (lv' := [(4, .int 0), (0, .ref (G.2.1 o)), (1, .int x1), (2, .int x2), (3, .int x3)]) X.1 X.2.1 d_X0_rowOf_1 hl (by decide) rfl (fun ls hl => ?_)
  refine lv_iload_n X.1 X.2.1 d_X0_rowOf_3 rfl (lv_at hl 3 rfl) ?_
  refine lv_istore (lv' := [(5, .int x2), (4, .int 0), (0, .ref (G.2.1 o)), (1, .int x1), (2, .int x2), (3, .int x3)]) X.1 X.2.1 d_X0_rowOf_4 hl (by decide) rfl (fun ls hl => ?_)
  refine lv_iconst (v := 0) X.1 X.2.1 d_X0_rowOf_6 (by decide) ?_
  refine lv_istore (lv' := [(6, .int 0), (5, .int x2), (4, .int 0), (0, .ref (G.2.1 o)), (1, .int x1), (2, .int x2), (3, .int x3)]) X.1 X.2.1 d_X0_rowOf_7 hl (by decide) rfl (fun ls hl => ?_)
  obtain ⟨n9, hD⟩ := hD
  exact sl_X0_rowOf_9 X hr hlk  Q o ho  n9 x1 x3 0 x2 0 σ _ _ _  hw (lv_sub hl [3, 4, 6, 2, 1, 0] rfl) hD
theorem c_X0_rowOf (l : Launch) (G : GC) (o : Nat) (x1 : Int32) (x2 : Int32) (x3 : Int32) (σ : GSt) (Q : Int32 → GSt → Prop) (ho : kd o = 0) (hD : D_X0_rowOf o x1 x2 x3 σ Q) : MI l ym_X0_rowOf cm_X0_rowOf 7 .int rm_X0_rowOf G σ [.ref (G.2.1 o), .int x1, .int x2, .int x3] Q := by
  refine met_i (by decide) (Nat.le_of_ble_eq_true rfl) ?_
  intro p e s m args below meth c X hr hlk hw ls hl
  exact s_X0_rowOf_0 X hr hlk Q o ho x1 x2 x3 σ hw (lv_sub hl [0, 1, 2, 3] rfl) hD
theorem hd_X0_layRows : ym_X0_layRows.cls = "GameLoom$Board" ∧ ym_X0_layRows.cls ≠ "java/lang/invoke/MethodHandle" ∧ ym_X0_layRows.cls ≠ "java/lang/invoke/VarHandle" ∧ (parseMethodDescriptor ym_X0_layRows.desc).map (fun d => d.parameters.length) = some 2 := by decide +kernel
abbrev rm_X0_layRows : Room := { frames := 1, cells := 0, slots := 0, locals := 26 }
theorem d_X0_layRows_0 : decode cm_X0_layRows 0 = .ok (.iload_n 2, 1) := by decide +kernel
theorem d_X0_layRows_1 : decode cm_X0_layRows 1 = .ok (.istore_n 3, 1) := by decide +kernel
theorem d_X0_layRows_2 : decode cm_X0_layRows 2 = .ok (.iconst 0, 1) := by decide +kernel
theorem d_X0_layRows_3 : decode cm_X0_layRows 3 = .ok (.istore 4, 2) := by decide +kernel
theorem d_X0_layRows_5 : decode cm_X0_layRows 5 = .ok (.iload 4, 2) := by decide +kernel
theorem d_X0_layRows_7 : decode cm_X0_layRows 7 = .ok (.aload_n 0, 1) := by decide +kernel
theorem d_X0_layRows_8 : decode cm_X0_layRows 8 = .ok (.getfield 31, 3) := by decide +kernel
theorem d_X0_layRows_11 : decode cm_X0_layRows 11 = .ok (.if_icmp .ge 61, 3) := by decide +kernel
theorem d_X0_layRows_14 : decode cm_X0_layRows 14 = .ok (.iconst 4, 1) := by decide +kernel
theorem d_X0_layRows_15 : decode cm_X0_layRows 15 = .ok (.istore 5, 2) := by decide +kernel
theorem d_X0_layRows_17 : decode cm_X0_layRows 17 = .ok (.iload 5, 2) := by decide +kernel
theorem d_X0_layRows_19 : decode cm_X0_layRows 19 = .ok (.bipush 8, 2) := by decide +kernel
theorem d_X0_layRows_21 : decode cm_X0_layRows 21 = .ok (.if_icmp .ge 45, 3) := by decide +kernel
theorem d_X0_layRows_24 : decode cm_X0_layRows 24 = .ok (.aload_n 0, 1) := by decide +kernel
theorem d_X0_layRows_25 : decode cm_X0_layRows 25 = .ok (.iload_n 1, 1) := by decide +kernel
theorem d_X0_layRows_26 : decode cm_X0_layRows 26 = .ok (.iload 4, 2) := by decide +kernel
theorem d_X0_layRows_28 : decode cm_X0_layRows 28 = .ok (.iload 5, 2) := by decide +kernel
theorem d_X0_layRows_30 : decode cm_X0_layRows 30 = .ok (.invokevirtual 69, 3) := by decide +kernel
theorem d_X0_layRows_33 : decode cm_X0_layRows 33 = .ok (.istore 6, 2) := by decide +kernel
theorem d_X0_layRows_35 : decode cm_X0_layRows 35 = .ok (.iload 6, 2) := by decide +kernel
theorem d_X0_layRows_37 : decode cm_X0_layRows 37 = .ok (.ifCond .eq 23, 3) := by decide +kernel
theorem d_X0_layRows_40 : decode cm_X0_layRows 40 = .ok (.iload_n 3, 1) := by decide +kernel
theorem d_X0_layRows_41 : decode cm_X0_layRows 41 = .ok (.aload_n 0, 1) := by decide +kernel
theorem d_X0_layRows_42 : decode cm_X0_layRows 42 = .ok (.getfield 18, 3) := by decide +kernel
theorem d_X0_layRows_45 : decode cm_X0_layRows 45 = .ok (.arraylength, 1) := by decide +kernel
theorem d_X0_layRows_46 : decode cm_X0_layRows 46 = .ok (.if_icmp .ge 14, 3) := by decide +kernel
theorem d_X0_layRows_49 : decode cm_X0_layRows 49 = .ok (.aload_n 0, 1) := by decide +kernel
theorem d_X0_layRows_50 : decode cm_X0_layRows 50 = .ok (.getfield 18, 3) := by decide +kernel
theorem d_X0_layRows_53 : decode cm_X0_layRows 53 = .ok (.iload_n 3, 1) := by decide +kernel
theorem d_X0_layRows_54 : decode cm_X0_layRows 54 = .ok (.iload 6, 2) := by decide +kernel
theorem d_X0_layRows_56 : decode cm_X0_layRows 56 = .ok (.iastore, 1) := by decide +kernel
theorem d_X0_layRows_57 : decode cm_X0_layRows 57 = .ok (.iinc 3 1, 3) := by decide +kernel
theorem d_X0_layRows_60 : decode cm_X0_layRows 60 = .ok (.iinc 5 1, 3) := by decide +kernel
theorem d_X0_layRows_63 : decode cm_X0_layRows 63 = .ok (.goto (-46), 3) := by decide +kernel
theorem d_X0_layRows_66 : decode cm_X0_layRows 66 = .ok (.iinc 4 1, 3) := by decide +kernel
theorem d_X0_layRows_69 : decode cm_X0_layRows 69 = .ok (.goto (-64), 3) := by decide +kernel
theorem d_X0_layRows_72 : decode cm_X0_layRows 72 = .ok (.iload_n 3, 1) := by decide +kernel
theorem d_X0_layRows_73 : decode cm_X0_layRows 73 = .ok (.ireturn, 1) := by decide +kernel
def D_X0_layRows_60 (K5 : Int32 → Int32 → Int32 → GSt → Prop) (K17 : Int32 → Int32 → Int32 → Int32 → GSt → Prop) (Q : Int32 → GSt → Prop) (o : Nat) (x1 : Int32) (x3 : Int32) (x4 : Int32) (x5 : Int32) (σ : GSt) : Prop :=
  ∀ x5_1 : Int32, x5_1 = x5 + 1 → (K17 x1 x3 x4 x5_1 σ)
def D_X0_layRows_17 (K5 : Int32 → Int32 → Int32 → GSt → Prop) (K17 : Int32 → Int32 → Int32 → Int32 → GSt → Prop) (Q : Int32 → GSt → Prop) (o : Nat) (x1 : Int32) (x3 : Int32) (x4 : Int32) (x5 : Int32) (σ : GSt) : Prop :=
  (8 ≤ x5 → ∀ x4_1 : Int32, x4_1 = x4 + 1 → (K5 x1 x3 x4_1 σ)) ∧
  (¬ 8 ≤ x5 → D_X0_rowOf o x1 x4 x5 σ (fun r_2 σ_3 => (r_2 = 0 → D_X0_layRows_60 K5 K17 Q o x1 x3 x4 x5 σ_3) ∧
  (¬ r_2 = 0 → ((nI (ln (o + 3))) ≤ x3 → D_X0_layRows_60 K5 K17 Q o x1 x3 x4 x5 σ_3) ∧
  (¬ (nI (ln (o + 3))) ≤ x3 → vp_in x3 76 ∧ (∀ σ_4 : GSt, σ_4 = up2 σ_3 (o + 3) (Int32.toNatClampNeg x3) r_2 → (∀ x3_5 : Int32, x3_5 = x3 + 1 → (D_X0_layRows_60 K5 K17 Q o x1 x3_5 x4 x5 σ_4)))))))
def L_X0_layRows_17 (K5 : Int32 → Int32 → Int32 → GSt → Prop) (Q : Int32 → GSt → Prop) (o : Nat) : Nat → Int32 → Int32 → Int32 → Int32 → GSt → Prop
  | 0 => fun _ _ _ _ _ => False
  | n + 1 => fun x1 x3 x4 x5 σ => D_X0_layRows_17 K5 (L_X0_layRows_17 K5 Q o n) Q o x1 x3 x4 x5 σ
def D_X0_layRows_5 (K5 : Int32 → Int32 → Int32 → GSt → Prop) (Q : Int32 → GSt → Prop) (o : Nat) (x1 : Int32) (x3 : Int32) (x4 : Int32) (σ : GSt) : Prop :=
  ((σ o 2) ≤ x4 → Q x3 σ) ∧
  (¬ (σ o 2) ≤ x4 → ∃ n : Nat, L_X0_layRows_17 K5 Q o n x1 x3 x4 4 σ)
def L_X0_layRows_5 (Q : Int32 → GSt → Prop) (o : Nat) : Nat → Int32 → Int32 → Int32 → GSt → Prop
  | 0 => fun _ _ _ _ => False
  | n + 1 => fun x1 x3 x4 σ => D_X0_layRows_5 (L_X0_layRows_5 Q o n) Q o x1 x3 x4 σ
def D_X0_layRows_0 (Q : Int32 → GSt → Prop) (o : Nat) (x1 : Int32) (x2 : Int32) (σ : GSt) : Prop :=
  ∃ n : Nat, L_X0_layRows_5 Q o n x1 x2 0 σ
def D_X0_layRows (o : Nat) (x1 : Int32) (x2 : Int32) (σ : GSt) (Q : Int32 → GSt → Prop) : Prop := D_X0_layRows_0 Q o x1 x2 σ
set_option maxRecDepth 20000 in
set_option maxHeartbeats 4000000 in
theorem s_X0_layRows_60 {p : Program} {l : Launch} {e : Env} {s : State} {m : MethodId} {args : Array Value} {below : List Frame} {meth : Method} {c : Code} {G : GC} (X : CallFix p m c cm_X0_layRows 7 s args lw_us "GameLoom$Board") (hr : meth.sig.returnType = some .int) (hlk : meth.locks = false) (K5 : Int32 → Int32 → Int32 → GSt → Prop) (K17 : Int32 → Int32 → Int32 → Int32 → GSt → Prop) (Q : Int32 → GSt → Prop) (o : Nat) (ho : kd o = 0) (hK5 : ∀ (x1 : Int32) (x3 : Int32) (x4 : Int32) (σ : GSt) (H : Heap) (locs : List Loc) (ls : Array Slot), Wo G s H locs σ → lv_has ls 7 [(0, .ref (G.2.1 o)), (1, .int x1), (3, .int x3), (4, .int x4)] → K5 x1 x3 x4 σ → W p l e rm_X0_layRows s m args below meth c H locs 0 0 (QMI G Q below args s) (F0 m 5 ls [])) (hK17 : ∀ (x1 : Int32) (x3 : Int32) (x4 : Int32) (x5 : Int32) (σ : GSt) (H : Heap) (locs : List Loc) (ls : Array Slot), Wo G s H locs σ → lv_has ls 7 [(0, .ref (G.2.1 o)), (1, .int x1), (3, .int x3), (4, .int x4), (5, .int x5)] → K17 x1 x3 x4 x5 σ → W p l e rm_X0_layRows s m args below meth c H locs 0 0 (QMI G Q below args s) (F0 m 17 ls [])) (x1 : Int32) (x3 : Int32) (x4 : Int32) (x5 : Int32) (σ : GSt) {H : Heap} {locs : List Loc} {ls : Array Slot} (hw : Wo G s H locs σ) (hl : lv_has ls 7 [(0, .ref (G.2.1 o)), (1, .int x1), (3, .int x3), (4, .int x4), (5, .int x5)]) (hD : D_X0_layRows_60 K5 K17 Q o x1 x3 x4 x5 σ) : W p l e rm_X0_layRows s m args below meth c H locs 0 0 (QMI G Q below args s) (F0 m 60 ls []) := by
  unfold D_X0_layRows_60 at hD
  obtain ⟨x5_1, e_x5_1⟩ : ∃ y : Int32, y = x5 + 1 := ⟨_, rfl⟩
  have hD := hD x5_1 e_x5_1
  refine lv_iinc (v := x5_1) (lv' := [(5, .int x5_1), (0, .ref (G.2.1 o)), (1, .int x1), (3, .int x3), (4, .int x4)]) X.1 X.2.1 d_X0_layRows_60 hl (k := 4) rfl (by rw [e_x5_1]; rfl) (by decide) rfl (fun ls hl => ?_)
  refine lv_goto (tgt := 17) X.1 X.2.1 d_X0_layRows_63 (by decide) ?_
  exact hK17 x1 x3 x4 x5_1 σ _ _ _  hw (lv_sub hl [1, 2, 3, 4, 0] rfl) hD
set_option maxRecDepth 20000 in
set_option maxHeartbeats 4000000 in
theorem s_X0_layRows_17 {p : Program} {l : Launch} {e : Env} {s : State} {m : MethodId} {args : Array Value} {below : List Frame} {meth : Method} {c : Code} {G : GC} (X : CallFix p m c cm_X0_layRows 7 s args lw_us "GameLoom$Board") (hr : meth.sig.returnType = some .int) (hlk : meth.locks = false) (K5 : Int32 → Int32 → Int32 → GSt → Prop) (K17 : Int32 → Int32 → Int32 → Int32 → GSt → Prop) (Q : Int32 → GSt → Prop) (o : Nat) (ho : kd o = 0) (hK5 : ∀ (x1 : Int32) (x3 : Int32) (x4 : Int32) (σ : GSt) (H : Heap) (locs : List Loc) (ls : Array Slot), Wo G s H locs σ → lv_has ls 7 [(0, .ref (G.2.1 o)), (1, .int x1), (3, .int x3), (4, .int x4)] → K5 x1 x3 x4 σ → W p l e rm_X0_layRows s m args below meth c H locs 0 0 (QMI G Q below args s) (F0 m 5 ls [])) (hK17 : ∀ (x1 : Int32) (x3 : Int32) (x4 : Int32) (x5 : Int32) (σ : GSt) (H : Heap) (locs : List Loc) (ls : Array Slot), Wo G s H locs σ → lv_has ls 7 [(0, .ref (G.2.1 o)), (1, .int x1), (3, .int x3), (4, .int x4), (5, .int x5)] → K17 x1 x3 x4 x5 σ → W p l e rm_X0_layRows s m args below meth c H locs 0 0 (QMI G Q below args s) (F0 m 17 ls [])) (x1 : Int32) (x3 : Int32) (x4 : Int32) (x5 : Int32) (σ : GSt) {H : Heap} {locs : List Loc} {ls : Array Slot} (hw : Wo G s H locs σ) (hl : lv_has ls 7 [(0, .ref (G.2.1 o)), (1, .int x1), (3, .int x3), (4, .int x4), (5, .int x5)]) (hD : D_X0_layRows_17 K5 K17 Q o x1 x3 x4 x5 σ) : W p l e rm_X0_layRows s m args below meth c H locs 0 0 (QMI G Q below args s) (F0 m 17 ls []) := by
  unfold D_X0_layRows_17 at hD
  refine lv_iload X.1 X.2.1 d_X0_layRows_17 (lv_at hl 4 rfl) ?_
  refine lv_bipush (v := 8) X.1 X.2.1 d_X0_layRows_19 (by decide) ?_
  refine lv_icmp_ge (tgt := 66) X.1 X.2.1 d_X0_layRows_21 (by decide) (fun q_21 => ?_) (fun q_21 => ?_)
  · have hD := hD.1 q_21
    obtain ⟨x4_1, e_x4_1⟩ : ∃ y : Int32, y = x4 + 1 := ⟨_, rfl⟩
    have hD := hD x4_1 e_x4_1
    refine lv_iinc (v := x4_1) (lv' := [(4, .int x4_1), (0, .ref (G.2.1 o)), (1, .int x1), (3, .int x3), (5, .int x5)]) X.1 X.2.1 d_X0_layRows_66 hl (k := 3) rfl (by rw [e_x4_1]; rfl) (by decide) rfl (fun ls hl => ?_)
    refine lv_goto (tgt := 5) X.1 X.2.1 d_X0_layRows_69 (by decide) ?_
    exact hK5 x1 x3 x4_1 σ _ _ _  hw (lv_sub hl [1, 2, 3, 0] rfl) hD
  · have hD := hD.2 q_21
    refine lv_aload_n X.1 X.2.1 d_X0_layRows_24 rfl (lv_at hl 0 rfl) ?_
    refine lv_iload_n X.1 X.2.1 d_X0_layRows_25 rfl (lv_at hl 1 rfl) ?_
    refine lv_iload X.1 X.2.1 d_X0_layRows_26 (lv_at hl 3 rfl) ?_
    refine lv_iload X.1 X.2.1 d_X0_layRows_28 (lv_at hl 4 rfl) ?_
    refine gcV_i (rest := []) (As := [.int x1, .int x4, .int x5]) (o := o) X hw (c_X0_rowOf l G o x1 x4 x5 σ _ ho hD) (kd_lt ho (by decide)) (ce_0 G _ ho) rfl tb_480 tb_482 tv_9 tb_5 tb_483 hd_X0_rowOf ⟨rfl, rfl⟩ ⟨Nat.le_of_ble_eq_true rfl, Nat.le_of_ble_eq_true rfl⟩ rfl hl.1 rfl (Nat.le_of_ble_eq_true rfl) d_X0_layRows_30 (fun r_2 σ_3 H locs hD hw => ?_)
    refine lv_istore (lv' := [(6, .int r_2), (0, .ref (G.2.1 o)), (1, .int x1), (3, .int x3), (4, .int x4), (5, .int x5)]) X.1 X.2.1 d_X0_layRows_33 hl (by decide) rfl (fun ls hl => ?_)
    refine lv_iload X.1 X.2.1 d_X0_layRows_35 (lv_at hl 0 rfl) ?_
    refine lv_if_eq (tgt := 60) X.1 X.2.1 d_X0_layRows_37 (by decide) (fun q_37 => ?_) (fun q_37 => ?_)
    · have hD := hD.1 q_37
      exact s_X0_layRows_60 X hr hlk K5 K17 Q o ho hK5 hK17 x1 x3 x4 x5 σ_3 hw (lv_sub hl [1, 2, 3, 4, 5] rfl) hD
    · have hD := hD.2 q_37
      refine lv_iload_n X.1 X.2.1 d_X0_layRows_40 rfl (lv_at hl 3 rfl) ?_
      refine lv_aload_n X.1 X.2.1 d_X0_layRows_41 rfl (lv_at hl 1 rfl) ?_
      refine gf_0_5 X hw ho tb_86 d_X0_layRows_42 ?_
      refine g_alen12 X hw (ly_0_5 ho).1 d_X0_layRows_45 ?_
      refine lv_icmp_ge (tgt := 60) X.1 X.2.1 d_X0_layRows_46 (by decide) (fun q_46 => ?_) (fun q_46 => ?_)
      · have hD := hD.1 q_46
        exact s_X0_layRows_60 X hr hlk K5 K17 Q o ho hK5 hK17 x1 x3 x4 x5 σ_3 hw (lv_sub hl [1, 2, 3, 4, 5] rfl) hD
      · have hD := hD.2 q_46
        refine lv_aload_n X.1 X.2.1 d_X0_layRows_49 rfl (lv_at hl 1 rfl) ?_
        refine gf_0_5 X hw ho tb_86 d_X0_layRows_50 ?_
        refine lv_iload_n X.1 X.2.1 d_X0_layRows_53 rfl (lv_at hl 3 rfl) ?_
        refine lv_iload X.1 X.2.1 d_X0_layRows_54 (lv_at hl 0 rfl) ?_
        obtain ⟨q_56, hD⟩ := hD
        refine g_iast X hw (ly_0_5 ho).1 (ly_0_5 ho).2 q_56 d_X0_layRows_56 (fun H locs hw => ?_)
        obtain ⟨σ_4, e_σ_4⟩ : ∃ z : GSt, z = up2 σ_3 (o + 3) (Int32.toNatClampNeg x3) r_2 := ⟨_, rfl⟩
        rw [← e_σ_4] at hw
        have hD := hD σ_4 e_σ_4
        obtain ⟨x3_5, e_x3_5⟩ : ∃ y : Int32, y = x3 + 1 := ⟨_, rfl⟩
        have hD := hD x3_5 e_x3_5
        refine lv_iinc (v := x3_5) (lv' := [(3, .int x3_5), (6, .int r_2), (0, .ref (G.2.1 o)), (1, .int x1), (4, .int x4), (5, .int x5)]) X.1 X.2.1 d_X0_layRows_57 hl (k := 3) rfl (by rw [e_x3_5]; rfl) (by decide) rfl (fun ls hl => ?_)
        exact s_X0_layRows_60 X hr hlk K5 K17 Q o ho hK5 hK17 x1 x3_5 x4 x5 σ_4 hw (lv_sub hl [2, 3, 0, 4, 5] rfl) hD
set_option maxRecDepth 20000 in
set_option maxHeartbeats 4000000 in
theorem sl_X0_layRows_17 {p : Program} {l : Launch} {e : Env} {s : State} {m : MethodId} {args : Array Value} {below : List Frame} {meth : Method} {c : Code} {G : GC} (X : CallFix p m c cm_X0_layRows 7 s args lw_us "GameLoom$Board") (hr : meth.sig.returnType = some .int) (hlk : meth.locks = false) (K5 : Int32 → Int32 → Int32 → GSt → Prop) (Q : Int32 → GSt → Prop) (o : Nat) (ho : kd o = 0) (hK5 : ∀ (x1 : Int32) (x3 : Int32) (x4 : Int32) (σ : GSt) (H : Heap) (locs : List Loc) (ls : Array Slot), Wo G s H locs σ → lv_has ls 7 [(0, .ref (G.2.1 o)), (1, .int x1), (3, .int x3), (4, .int x4)] → K5 x1 x3 x4 σ → W p l e rm_X0_layRows s m args below meth c H locs 0 0 (QMI G Q below args s) (F0 m 5 ls [])) : ∀ (nn : Nat), ∀ (x1 : Int32) (x3 : Int32) (x4 : Int32) (x5 : Int32) (σ : GSt) (H : Heap) (locs : List Loc) (ls : Array Slot), Wo G s H locs σ → lv_has ls 7 [(0, .ref (G.2.1 o)), (1, .int x1), (3, .int x3), (4, .int x4), (5, .int x5)] → L_X0_layRows_17 K5 Q o nn x1 x3 x4 x5 σ → W p l e rm_X0_layRows s m args below meth c H locs 0 0 (QMI G Q below args s) (F0 m 17 ls []) := by
  intro nn
  induction nn with
  | zero => intro x1 x3 x4 x5 σ H locs ls  hw hl hD; exact hD.elim
  | succ nn ih =>
    intro x1 x3 x4 x5 σ H locs ls  hw hl hD
    exact s_X0_layRows_17 X hr hlk K5 (L_X0_layRows_17 K5 Q o nn) Q o ho hK5 ih x1 x3 x4 x5 σ hw hl hD
set_option maxRecDepth 20000 in
set_option maxHeartbeats 4000000 in
theorem s_X0_layRows_5 {p : Program} {l : Launch} {e : Env} {s : State} {m : MethodId} {args : Array Value} {below : List Frame} {meth : Method} {c : Code} {G : GC} (X : CallFix p m c cm_X0_layRows 7 s args lw_us "GameLoom$Board") (hr : meth.sig.returnType = some .int) (hlk : meth.locks = false) (K5 : Int32 → Int32 → Int32 → GSt → Prop) (Q : Int32 → GSt → Prop) (o : Nat) (ho : kd o = 0) (hK5 : ∀ (x1 : Int32) (x3 : Int32) (x4 : Int32) (σ : GSt) (H : Heap) (locs : List Loc) (ls : Array Slot), Wo G s H locs σ → lv_has ls 7 [(0, .ref (G.2.1 o)), (1, .int x1), (3, .int x3), (4, .int x4)] → K5 x1 x3 x4 σ → W p l e rm_X0_layRows s m args below meth c H locs 0 0 (QMI G Q below args s) (F0 m 5 ls [])) (x1 : Int32) (x3 : Int32) (x4 : Int32) (σ : GSt) {H : Heap} {locs : List Loc} {ls : Array Slot} (hw : Wo G s H locs σ) (hl : lv_has ls 7 [(0, .ref (G.2.1 o)), (1, .int x1), (3, .int x3), (4, .int x4)]) (hD : D_X0_layRows_5 K5 Q o x1 x3 x4 σ) : W p l e rm_X0_layRows s m args below meth c H locs 0 0 (QMI G Q below args s) (F0 m 5 ls []) := by
  unfold D_X0_layRows_5 at hD
  refine lv_iload X.1 X.2.1 d_X0_layRows_5 (lv_at hl 3 rfl) ?_
  refine lv_aload_n X.1 X.2.1 d_X0_layRows_7 rfl (lv_at hl 0 rfl) ?_
  refine gf_0_2 X hw ho tb_79 d_X0_layRows_8 ?_
  refine lv_icmp_ge (tgt := 72) X.1 X.2.1 d_X0_layRows_11 (by decide) (fun q_11 => ?_) (fun q_11 => ?_)
  · have hD := hD.1 q_11
    refine lv_iload_n X.1 X.2.1 d_X0_layRows_72 rfl (lv_at hl 2 rfl) ?_
    exact g_iret X hr hlk hw hD d_X0_layRows_73
  · have hD := hD.2 q_11
    refine lv_iconst (v := 4) X.1 X.2.1 d_X0_layRows_14 (by decide) ?_
    refine lv_istore (lv' := [(5, .int 4), (0, .ref (G.2.1 o)), (1, .int x1), (3, .int x3), (4, .int x4)]) X.1 X.2.1 d_X0_layRows_15 hl (by decide) rfl (fun ls hl => ?_)
    obtain ⟨n9, hD⟩ := hD
    exact sl_X0_layRows_17 X hr hlk K5 Q o ho hK5 n9 x1 x3 x4 4 σ _ _ _  hw (lv_sub hl [1, 2, 3, 4, 0] rfl) hD
set_option maxRecDepth 20000 in
set_option maxHeartbeats 4000000 in
theorem sl_X0_layRows_5 {p : Program} {l : Launch} {e : Env} {s : State} {m : MethodId} {args : Array Value} {below : List Frame} {meth : Method} {c : Code} {G : GC} (X : CallFix p m c cm_X0_layRows 7 s args lw_us "GameLoom$Board") (hr : meth.sig.returnType = some .int) (hlk : meth.locks = false) (Q : Int32 → GSt → Prop) (o : Nat) (ho : kd o = 0) : ∀ (nn : Nat), ∀ (x1 : Int32) (x3 : Int32) (x4 : Int32) (σ : GSt) (H : Heap) (locs : List Loc) (ls : Array Slot), Wo G s H locs σ → lv_has ls 7 [(0, .ref (G.2.1 o)), (1, .int x1), (3, .int x3), (4, .int x4)] → L_X0_layRows_5 Q o nn x1 x3 x4 σ → W p l e rm_X0_layRows s m args below meth c H locs 0 0 (QMI G Q below args s) (F0 m 5 ls []) := by
  intro nn
  induction nn with
  | zero => intro x1 x3 x4 σ H locs ls  hw hl hD; exact hD.elim
  | succ nn ih =>
    intro x1 x3 x4 σ H locs ls  hw hl hD
    exact s_X0_layRows_5 X hr hlk (L_X0_layRows_5 Q o nn) Q o ho ih x1 x3 x4 σ hw hl hD
set_option maxRecDepth 20000 in
set_option maxHeartbeats 4000000 in
theorem s_X0_layRows_0 {p : Program} {l : Launch} {e : Env} {s : State} {m : MethodId} {args : Array Value} {below : List Frame} {meth : Method} {c : Code} {G : GC} (X : CallFix p m c cm_X0_layRows 7 s args lw_us "GameLoom$Board") (hr : meth.sig.returnType = some .int) (hlk : meth.locks = false) (Q : Int32 → GSt → Prop) (o : Nat) (ho : kd o = 0) (x1 : Int32) (x2 : Int32) (σ : GSt) {H : Heap} {locs : List Loc} {ls : Array Slot} (hw : Wo G s H locs σ) (hl : lv_has ls 7 [(0, .ref (G.2.1 o)), (1, .int x1), (2, .int x2)]) (hD : D_X0_layRows_0 Q o x1 x2 σ) : W p l e rm_X0_layRows s m args below meth c H locs 0 0 (QMI G Q below args s) (F0 m 0 ls []) := by
  unfold D_X0_layRows_0 at hD
  refine lv_iload_n X.1 X.2.1 d_X0_layRows_0 rfl (lv_at hl 2 rfl) ?_
  refine lv_istore_n (lv' := [(3, .int x2), (0, .ref (G.2.1 o)), (1, .int x1), (2, .int x2)]) X.1 X.2.1 d_X0_layRows_1 rfl hl (by decide) rfl (fun ls hl => ?_)
  refine lv_iconst (v := 0) X.1 X.2.1 d_X0_layRows_2 (by decide) ?_
  refine lv_istore (lv' := [(4, .int 0), (3, .int x2), (0, .ref (G.2.1 o)), (1, .int x1), (2, .int x2)]) X.1 X.2.1 d_X0_layRows_3 hl (by decide) rfl (fun ls hl => ?_)
  obtain ⟨n9, hD⟩ := hD
  exact sl_X0_layRows_5 X hr hlk  Q o ho  n9 x1 x2 0 σ _ _ _  hw (lv_sub hl [2, 3, 1, 0] rfl) hD
theorem c_X0_layRows (l : Launch) (G : GC) (o : Nat) (x1 : Int32) (x2 : Int32) (σ : GSt) (Q : Int32 → GSt → Prop) (ho : kd o = 0) (hD : D_X0_layRows o x1 x2 σ Q) : MI l ym_X0_layRows cm_X0_layRows 7 .int rm_X0_layRows G σ [.ref (G.2.1 o), .int x1, .int x2] Q := by
  refine met_i (by decide) (Nat.le_of_ble_eq_true rfl) ?_
  intro p e s m args below meth c X hr hlk hw ls hl
  exact s_X0_layRows_0 X hr hlk Q o ho x1 x2 σ hw (lv_sub hl [0, 1, 2] rfl) hD
theorem hd_X0_lay : ym_X0_lay.cls = "GameLoom$Board" ∧ ym_X0_lay.cls ≠ "java/lang/invoke/MethodHandle" ∧ ym_X0_lay.cls ≠ "java/lang/invoke/VarHandle" ∧ (parseMethodDescriptor ym_X0_lay.desc).map (fun d => d.parameters.length) = some 2 := by decide +kernel
abbrev rm_X0_lay : Room := { frames := 2, cells := 0, slots := 0, locals := 52 }
theorem d_X0_lay_0 : decode cm_X0_lay 0 = .ok (.aload_n 0, 1) := by decide +kernel
theorem d_X0_lay_1 : decode cm_X0_lay 1 = .ok (.iload_n 1, 1) := by decide +kernel
theorem d_X0_lay_2 : decode cm_X0_lay 2 = .ok (.putfield 24, 3) := by decide +kernel
theorem d_X0_lay_5 : decode cm_X0_lay 5 = .ok (.aload_n 0, 1) := by decide +kernel
theorem d_X0_lay_6 : decode cm_X0_lay 6 = .ok (.iload_n 2, 1) := by decide +kernel
theorem d_X0_lay_7 : decode cm_X0_lay 7 = .ok (.putfield 28, 3) := by decide +kernel
theorem d_X0_lay_10 : decode cm_X0_lay 10 = .ok (.aload_n 0, 1) := by decide +kernel
theorem d_X0_lay_11 : decode cm_X0_lay 11 = .ok (.iload_n 1, 1) := by decide +kernel
theorem d_X0_lay_12 : decode cm_X0_lay 12 = .ok (.iload_n 2, 1) := by decide +kernel
theorem d_X0_lay_13 : decode cm_X0_lay 13 = .ok (.imul, 1) := by decide +kernel
theorem d_X0_lay_14 : decode cm_X0_lay 14 = .ok (.putfield 31, 3) := by decide +kernel
theorem d_X0_lay_17 : decode cm_X0_lay 17 = .ok (.iconst 0, 1) := by decide +kernel
theorem d_X0_lay_18 : decode cm_X0_lay 18 = .ok (.istore_n 3, 1) := by decide +kernel
theorem d_X0_lay_19 : decode cm_X0_lay 19 = .ok (.iload_n 3, 1) := by decide +kernel
theorem d_X0_lay_20 : decode cm_X0_lay 20 = .ok (.aload_n 0, 1) := by decide +kernel
theorem d_X0_lay_21 : decode cm_X0_lay 21 = .ok (.getfield 31, 3) := by decide +kernel
theorem d_X0_lay_24 : decode cm_X0_lay 24 = .ok (.if_icmp .ge 14, 3) := by decide +kernel
theorem d_X0_lay_27 : decode cm_X0_lay 27 = .ok (.aload_n 0, 1) := by decide +kernel
theorem d_X0_lay_28 : decode cm_X0_lay 28 = .ok (.iload_n 3, 1) := by decide +kernel
theorem d_X0_lay_29 : decode cm_X0_lay 29 = .ok (.invokevirtual 34, 3) := by decide +kernel
theorem d_X0_lay_32 : decode cm_X0_lay 32 = .ok (.iinc 3 1, 3) := by decide +kernel
theorem d_X0_lay_35 : decode cm_X0_lay 35 = .ok (.goto (-16), 3) := by decide +kernel
theorem d_X0_lay_38 : decode cm_X0_lay 38 = .ok (.aload_n 0, 1) := by decide +kernel
theorem d_X0_lay_39 : decode cm_X0_lay 39 = .ok (.invokevirtual 38, 3) := by decide +kernel
theorem d_X0_lay_42 : decode cm_X0_lay 42 = .ok (.iconst 0, 1) := by decide +kernel
theorem d_X0_lay_43 : decode cm_X0_lay 43 = .ok (.istore_n 3, 1) := by decide +kernel
theorem d_X0_lay_44 : decode cm_X0_lay 44 = .ok (.iconst 2, 1) := by decide +kernel
theorem d_X0_lay_45 : decode cm_X0_lay 45 = .ok (.istore 4, 2) := by decide +kernel
theorem d_X0_lay_47 : decode cm_X0_lay 47 = .ok (.iload 4, 2) := by decide +kernel
theorem d_X0_lay_49 : decode cm_X0_lay 49 = .ok (.iconst 4, 1) := by decide +kernel
theorem d_X0_lay_50 : decode cm_X0_lay 50 = .ok (.if_icmp .gt 25, 3) := by decide +kernel
theorem d_X0_lay_53 : decode cm_X0_lay 53 = .ok (.aload_n 0, 1) := by decide +kernel
theorem d_X0_lay_54 : decode cm_X0_lay 54 = .ok (.getfield 21, 3) := by decide +kernel
theorem d_X0_lay_57 : decode cm_X0_lay 57 = .ok (.iload 4, 2) := by decide +kernel
theorem d_X0_lay_59 : decode cm_X0_lay 59 = .ok (.iload_n 3, 1) := by decide +kernel
theorem d_X0_lay_60 : decode cm_X0_lay 60 = .ok (.iastore, 1) := by decide +kernel
theorem d_X0_lay_61 : decode cm_X0_lay 61 = .ok (.aload_n 0, 1) := by decide +kernel
theorem d_X0_lay_62 : decode cm_X0_lay 62 = .ok (.iload 4, 2) := by decide +kernel
theorem d_X0_lay_64 : decode cm_X0_lay 64 = .ok (.iload_n 3, 1) := by decide +kernel
theorem d_X0_lay_65 : decode cm_X0_lay 65 = .ok (.invokevirtual 41, 3) := by decide +kernel
theorem d_X0_lay_68 : decode cm_X0_lay 68 = .ok (.istore_n 3, 1) := by decide +kernel
theorem d_X0_lay_69 : decode cm_X0_lay 69 = .ok (.iinc 4 1, 3) := by decide +kernel
theorem d_X0_lay_72 : decode cm_X0_lay 72 = .ok (.goto (-25), 3) := by decide +kernel
theorem d_X0_lay_75 : decode cm_X0_lay 75 = .ok (.aload_n 0, 1) := by decide +kernel
theorem d_X0_lay_76 : decode cm_X0_lay 76 = .ok (.getfield 21, 3) := by decide +kernel
theorem d_X0_lay_79 : decode cm_X0_lay 79 = .ok (.iconst 5, 1) := by decide +kernel
theorem d_X0_lay_80 : decode cm_X0_lay 80 = .ok (.iload_n 3, 1) := by decide +kernel
theorem d_X0_lay_81 : decode cm_X0_lay 81 = .ok (.iastore, 1) := by decide +kernel
theorem d_X0_lay_82 : decode cm_X0_lay 82 = .ok (.return_, 1) := by decide +kernel
def D_X0_lay_47 (K47 : Int32 → Int32 → GSt → Prop) (Q : GSt → Prop) (o : Nat) (x3 : Int32) (x4 : Int32) (σ : GSt) : Prop :=
  (4 < x4 → ∀ σ_1 : GSt, σ_1 = up2 σ (o + 4) (Int32.toNatClampNeg 5) x3 → (Q σ_1)) ∧
  (¬ 4 < x4 → vp_in x4 6 ∧ (∀ σ_2 : GSt, σ_2 = up2 σ (o + 4) (Int32.toNatClampNeg x4) x3 → (D_X0_layRows o x4 x3 σ_2 (fun r_3 σ_4 => ∀ x4_5 : Int32, x4_5 = x4 + 1 → (K47 r_3 x4_5 σ_4)))))
def L_X0_lay_47 (Q : GSt → Prop) (o : Nat) : Nat → Int32 → Int32 → GSt → Prop
  | 0 => fun _ _ _ => False
  | n + 1 => fun x3 x4 σ => D_X0_lay_47 (L_X0_lay_47 Q o n) Q o x3 x4 σ
def D_X0_lay_19 (K19 : Int32 → GSt → Prop) (Q : GSt → Prop) (o : Nat) (x3 : Int32) (σ : GSt) : Prop :=
  ((σ o 2) ≤ x3 → D_X0_layEdges o σ (fun σ_1 => ∃ n : Nat, L_X0_lay_47 Q o n 0 2 σ_1)) ∧
  (¬ (σ o 2) ≤ x3 → D_X0_layNear o x3 σ (fun σ_2 => ∀ x3_3 : Int32, x3_3 = x3 + 1 → (K19 x3_3 σ_2)))
def L_X0_lay_19 (Q : GSt → Prop) (o : Nat) : Nat → Int32 → GSt → Prop
  | 0 => fun _ _ => False
  | n + 1 => fun x3 σ => D_X0_lay_19 (L_X0_lay_19 Q o n) Q o x3 σ
def D_X0_lay_0 (Q : GSt → Prop) (o : Nat) (x1 : Int32) (x2 : Int32) (σ : GSt) : Prop :=
  ∀ σ_1 : GSt, σ_1 = up2 σ o 0 x1 → (∀ σ_2 : GSt, σ_2 = up2 σ_1 o 1 x2 → (∀ σ_3 : GSt, σ_3 = up2 σ_2 o 2 (x1 * x2) → (∃ n : Nat, L_X0_lay_19 Q o n 0 σ_3)))
def D_X0_lay (o : Nat) (x1 : Int32) (x2 : Int32) (σ : GSt) (Q : GSt → Prop) : Prop := D_X0_lay_0 Q o x1 x2 σ
set_option maxRecDepth 20000 in
set_option maxHeartbeats 4000000 in
theorem s_X0_lay_47 {p : Program} {l : Launch} {e : Env} {s : State} {m : MethodId} {args : Array Value} {below : List Frame} {meth : Method} {c : Code} {G : GC} (X : CallFix p m c cm_X0_lay 5 s args lw_us "GameLoom$Board") (hr : meth.sig.returnType = none) (hlk : meth.locks = false) (K47 : Int32 → Int32 → GSt → Prop) (Q : GSt → Prop) (o : Nat) (ho : kd o = 0) (hK47 : ∀ (x3 : Int32) (x4 : Int32) (σ : GSt) (H : Heap) (locs : List Loc) (ls : Array Slot), Wo G s H locs σ → lv_has ls 5 [(0, .ref (G.2.1 o)), (3, .int x3), (4, .int x4)] → K47 x3 x4 σ → W p l e rm_X0_lay s m args below meth c H locs 0 0 (QMV G Q below args s) (F0 m 47 ls [])) (x3 : Int32) (x4 : Int32) (σ : GSt) {H : Heap} {locs : List Loc} {ls : Array Slot} (hw : Wo G s H locs σ) (hl : lv_has ls 5 [(0, .ref (G.2.1 o)), (3, .int x3), (4, .int x4)]) (hD : D_X0_lay_47 K47 Q o x3 x4 σ) : W p l e rm_X0_lay s m args below meth c H locs 0 0 (QMV G Q below args s) (F0 m 47 ls []) := by
  unfold D_X0_lay_47 at hD
  refine lv_iload X.1 X.2.1 d_X0_lay_47 (lv_at hl 2 rfl) ?_
  refine lv_iconst (v := 4) X.1 X.2.1 d_X0_lay_49 (by decide) ?_
  refine lv_icmp_gt (tgt := 75) X.1 X.2.1 d_X0_lay_50 (by decide) (fun q_50 => ?_) (fun q_50 => ?_)
  · have hD := hD.1 q_50
    refine lv_aload_n X.1 X.2.1 d_X0_lay_75 rfl (lv_at hl 0 rfl) ?_
    refine gf_0_6 X hw ho tb_87 d_X0_lay_76 ?_
    refine lv_iconst (v := 5) X.1 X.2.1 d_X0_lay_79 (by decide) ?_
    refine lv_iload_n X.1 X.2.1 d_X0_lay_80 rfl (lv_at hl 1 rfl) ?_
    have q_81 : vp_in 5 6 := by unfold vp_in; decide
    refine g_iast X hw (ly_0_6 ho).1 (ly_0_6 ho).2 q_81 d_X0_lay_81 (fun H locs hw => ?_)
    obtain ⟨σ_1, e_σ_1⟩ : ∃ z : GSt, z = up2 σ (o + 4) (Int32.toNatClampNeg 5) x3 := ⟨_, rfl⟩
    rw [← e_σ_1] at hw
    have hD := hD σ_1 e_σ_1
    exact g_vret X hr hlk hw hD d_X0_lay_82
  · have hD := hD.2 q_50
    refine lv_aload_n X.1 X.2.1 d_X0_lay_53 rfl (lv_at hl 0 rfl) ?_
    refine gf_0_6 X hw ho tb_87 d_X0_lay_54 ?_
    refine lv_iload X.1 X.2.1 d_X0_lay_57 (lv_at hl 2 rfl) ?_
    refine lv_iload_n X.1 X.2.1 d_X0_lay_59 rfl (lv_at hl 1 rfl) ?_
    obtain ⟨q_60, hD⟩ := hD
    refine g_iast X hw (ly_0_6 ho).1 (ly_0_6 ho).2 q_60 d_X0_lay_60 (fun H locs hw => ?_)
    obtain ⟨σ_2, e_σ_2⟩ : ∃ z : GSt, z = up2 σ (o + 4) (Int32.toNatClampNeg x4) x3 := ⟨_, rfl⟩
    rw [← e_σ_2] at hw
    have hD := hD σ_2 e_σ_2
    refine lv_aload_n X.1 X.2.1 d_X0_lay_61 rfl (lv_at hl 0 rfl) ?_
    refine lv_iload X.1 X.2.1 d_X0_lay_62 (lv_at hl 2 rfl) ?_
    refine lv_iload_n X.1 X.2.1 d_X0_lay_64 rfl (lv_at hl 1 rfl) ?_
    refine gcV_i (rest := []) (As := [.int x4, .int x3]) (o := o) X hw (c_X0_layRows l G o x4 x3 σ_2 _ ho hD) (kd_lt ho (by decide)) (ce_0 G _ ho) rfl tb_476 tb_478 tv_8 tb_5 tb_479 hd_X0_layRows ⟨rfl, rfl⟩ ⟨Nat.le_of_ble_eq_true rfl, Nat.le_of_ble_eq_true rfl⟩ rfl hl.1 rfl (Nat.le_of_ble_eq_true rfl) d_X0_lay_65 (fun r_3 σ_4 H locs hD hw => ?_)
    refine lv_istore_n (lv' := [(3, .int r_3), (0, .ref (G.2.1 o)), (4, .int x4)]) X.1 X.2.1 d_X0_lay_68 rfl hl (by decide) rfl (fun ls hl => ?_)
    obtain ⟨x4_5, e_x4_5⟩ : ∃ y : Int32, y = x4 + 1 := ⟨_, rfl⟩
    have hD := hD x4_5 e_x4_5
    refine lv_iinc (v := x4_5) (lv' := [(4, .int x4_5), (3, .int r_3), (0, .ref (G.2.1 o))]) X.1 X.2.1 d_X0_lay_69 hl (k := 2) rfl (by rw [e_x4_5]; rfl) (by decide) rfl (fun ls hl => ?_)
    refine lv_goto (tgt := 47) X.1 X.2.1 d_X0_lay_72 (by decide) ?_
    exact hK47 r_3 x4_5 σ_4 _ _ _  hw (lv_sub hl [2, 1, 0] rfl) hD
set_option maxRecDepth 20000 in
set_option maxHeartbeats 4000000 in
theorem sl_X0_lay_47 {p : Program} {l : Launch} {e : Env} {s : State} {m : MethodId} {args : Array Value} {below : List Frame} {meth : Method} {c : Code} {G : GC} (X : CallFix p m c cm_X0_lay 5 s args lw_us "GameLoom$Board") (hr : meth.sig.returnType = none) (hlk : meth.locks = false) (Q : GSt → Prop) (o : Nat) (ho : kd o = 0) : ∀ (nn : Nat), ∀ (x3 : Int32) (x4 : Int32) (σ : GSt) (H : Heap) (locs : List Loc) (ls : Array Slot), Wo G s H locs σ → lv_has ls 5 [(0, .ref (G.2.1 o)), (3, .int x3), (4, .int x4)] → L_X0_lay_47 Q o nn x3 x4 σ → W p l e rm_X0_lay s m args below meth c H locs 0 0 (QMV G Q below args s) (F0 m 47 ls []) := by
  intro nn
  induction nn with
  | zero => intro x3 x4 σ H locs ls  hw hl hD; exact hD.elim
  | succ nn ih =>
    intro x3 x4 σ H locs ls  hw hl hD
    exact s_X0_lay_47 X hr hlk (L_X0_lay_47 Q o nn) Q o ho ih x3 x4 σ hw hl hD
set_option maxRecDepth 20000 in
set_option maxHeartbeats 4000000 in
theorem s_X0_lay_19 {p : Program} {l : Launch} {e : Env} {s : State} {m : MethodId} {args : Array Value} {below : List Frame} {meth : Method} {c : Code} {G : GC} (X : CallFix p m c cm_X0_lay 5 s args lw_us "GameLoom$Board") (hr : meth.sig.returnType = none) (hlk : meth.locks = false) (K19 : Int32 → GSt → Prop) (Q : GSt → Prop) (o : Nat) (ho : kd o = 0) (hK19 : ∀ (x3 : Int32) (σ : GSt) (H : Heap) (locs : List Loc) (ls : Array Slot), Wo G s H locs σ → lv_has ls 5 [(0, .ref (G.2.1 o)), (3, .int x3)] → K19 x3 σ → W p l e rm_X0_lay s m args below meth c H locs 0 0 (QMV G Q below args s) (F0 m 19 ls [])) (x3 : Int32) (σ : GSt) {H : Heap} {locs : List Loc} {ls : Array Slot} (hw : Wo G s H locs σ) (hl : lv_has ls 5 [(0, .ref (G.2.1 o)), (3, .int x3)]) (hD : D_X0_lay_19 K19 Q o x3 σ) : W p l e rm_X0_lay s m args below meth c H locs 0 0 (QMV G Q below args s) (F0 m 19 ls []) := by
  unfold D_X0_lay_19 at hD
  refine lv_iload_n X.1 X.2.1 d_X0_lay_19 rfl (lv_at hl 1 rfl) ?_
  refine lv_aload_n X.1 X.2.1 d_X0_lay_20 rfl (lv_at hl 0 rfl) ?_
  refine gf_0_2 X hw ho tb_79 d_X0_lay_21 ?_
  refine lv_icmp_ge (tgt := 38) X.1 X.2.1 d_X0_lay_24 (by decide) (fun q_24 => ?_) (fun q_24 => ?_)
  · have hD := hD.1 q_24
    refine lv_aload_n X.1 X.2.1 d_X0_lay_38 rfl (lv_at hl 0 rfl) ?_
    refine gcV_v (rest := []) (As := []) (o := o) X hw (c_X0_layEdges l G o σ _ ho hD) (kd_lt ho (by decide)) (ce_0 G _ ho) rfl tb_472 tb_474 tv_7 tb_5 tb_475 hd_X0_layEdges ⟨rfl, rfl⟩ ⟨Nat.le_of_ble_eq_true rfl, Nat.le_of_ble_eq_true rfl⟩ rfl hl.1 rfl (Nat.le_of_ble_eq_true rfl) d_X0_lay_39 (fun σ_1 H locs hD hw => ?_)
    refine lv_iconst (v := 0) X.1 X.2.1 d_X0_lay_42 (by decide) ?_
    refine lv_istore_n (lv' := [(3, .int 0), (0, .ref (G.2.1 o))]) X.1 X.2.1 d_X0_lay_43 rfl hl (by decide) rfl (fun ls hl => ?_)
    refine lv_iconst (v := 2) X.1 X.2.1 d_X0_lay_44 (by decide) ?_
    refine lv_istore (lv' := [(4, .int 2), (3, .int 0), (0, .ref (G.2.1 o))]) X.1 X.2.1 d_X0_lay_45 hl (by decide) rfl (fun ls hl => ?_)
    obtain ⟨n9, hD⟩ := hD
    exact sl_X0_lay_47 X hr hlk  Q o ho  n9 0 2 σ_1 _ _ _  hw (lv_sub hl [2, 1, 0] rfl) hD
  · have hD := hD.2 q_24
    refine lv_aload_n X.1 X.2.1 d_X0_lay_27 rfl (lv_at hl 0 rfl) ?_
    refine lv_iload_n X.1 X.2.1 d_X0_lay_28 rfl (lv_at hl 1 rfl) ?_
    refine gcV_v (rest := []) (As := [.int x3]) (o := o) X hw (c_X0_layNear l G o x3 σ _ ho hD) (kd_lt ho (by decide)) (ce_0 G _ ho) rfl tb_460 tb_462 tv_5 tb_5 tb_463 hd_X0_layNear ⟨rfl, rfl⟩ ⟨Nat.le_of_ble_eq_true rfl, Nat.le_of_ble_eq_true rfl⟩ rfl hl.1 rfl (Nat.le_of_ble_eq_true rfl) d_X0_lay_29 (fun σ_2 H locs hD hw => ?_)
    obtain ⟨x3_3, e_x3_3⟩ : ∃ y : Int32, y = x3 + 1 := ⟨_, rfl⟩
    have hD := hD x3_3 e_x3_3
    refine lv_iinc (v := x3_3) (lv' := [(3, .int x3_3), (0, .ref (G.2.1 o))]) X.1 X.2.1 d_X0_lay_32 hl (k := 1) rfl (by rw [e_x3_3]; rfl) (by decide) rfl (fun ls hl => ?_)
    refine lv_goto (tgt := 19) X.1 X.2.1 d_X0_lay_35 (by decide) ?_
    exact hK19 x3_3 σ_2 _ _ _  hw (lv_sub hl [1, 0] rfl) hD
set_option maxRecDepth 20000 in
set_option maxHeartbeats 4000000 in
theorem sl_X0_lay_19 {p : Program} {l : Launch} {e : Env} {s : State} {m : MethodId} {args : Array Value} {below : List Frame} {meth : Method} {c : Code} {G : GC} (X : CallFix p m c cm_X0_lay 5 s args lw_us "GameLoom$Board") (hr : meth.sig.returnType = none) (hlk : meth.locks = false) (Q : GSt → Prop) (o : Nat) (ho : kd o = 0) : ∀ (nn : Nat), ∀ (x3 : Int32) (σ : GSt) (H : Heap) (locs : List Loc) (ls : Array Slot), Wo G s H locs σ → lv_has ls 5 [(0, .ref (G.2.1 o)), (3, .int x3)] → L_X0_lay_19 Q o nn x3 σ → W p l e rm_X0_lay s m args below meth c H locs 0 0 (QMV G Q below args s) (F0 m 19 ls []) := by
  intro nn
  induction nn with
  | zero => intro x3 σ H locs ls  hw hl hD; exact hD.elim
  | succ nn ih =>
    intro x3 σ H locs ls  hw hl hD
    exact s_X0_lay_19 X hr hlk (L_X0_lay_19 Q o nn) Q o ho ih x3 σ hw hl hD
set_option maxRecDepth 20000 in
set_option maxHeartbeats 4000000 in
theorem s_X0_lay_0 {p : Program} {l : Launch} {e : Env} {s : State} {m : MethodId} {args : Array Value} {below : List Frame} {meth : Method} {c : Code} {G : GC} (X : CallFix p m c cm_X0_lay 5 s args lw_us "GameLoom$Board") (hr : meth.sig.returnType = none) (hlk : meth.locks = false) (Q : GSt → Prop) (o : Nat) (ho : kd o = 0) (x1 : Int32) (x2 : Int32) (σ : GSt) {H : Heap} {locs : List Loc} {ls : Array Slot} (hw : Wo G s H locs σ) (hl : lv_has ls 5 [(0, .ref (G.2.1 o)), (1, .int x1), (2, .int x2)]) (hD : D_X0_lay_0 Q o x1 x2 σ) : W p l e rm_X0_lay s m args below meth c H locs 0 0 (QMV G Q below args s) (F0 m 0 ls []) := by
  unfold D_X0_lay_0 at hD
  refine lv_aload_n X.1 X.2.1 d_X0_lay_0 rfl (lv_at hl 0 rfl) ?_
  refine lv_iload_n X.1 X.2.1 d_X0_lay_1 rfl (lv_at hl 1 rfl) ?_
  refine pf_0_0 X hw ho tb_73 d_X0_lay_2 (fun H locs hw => ?_)
  obtain ⟨σ_1, e_σ_1⟩ : ∃ z : GSt, z = up2 σ o 0 x1 := ⟨_, rfl⟩
  rw [← e_σ_1] at hw
  have hD := hD σ_1 e_σ_1
  refine lv_aload_n X.1 X.2.1 d_X0_lay_5 rfl (lv_at hl 0 rfl) ?_
  refine lv_iload_n X.1 X.2.1 d_X0_lay_6 rfl (lv_at hl 2 rfl) ?_
  refine pf_0_1 X hw ho tb_76 d_X0_lay_7 (fun H locs hw => ?_)
  obtain ⟨σ_2, e_σ_2⟩ : ∃ z : GSt, z = up2 σ_1 o 1 x2 := ⟨_, rfl⟩
  rw [← e_σ_2] at hw
  have hD := hD σ_2 e_σ_2
  refine lv_aload_n X.1 X.2.1 d_X0_lay_10 rfl (lv_at hl 0 rfl) ?_
  refine lv_iload_n X.1 X.2.1 d_X0_lay_11 rfl (lv_at hl 1 rfl) ?_
  refine lv_iload_n X.1 X.2.1 d_X0_lay_12 rfl (lv_at hl 2 rfl) ?_
  refine lv_imul X.1 X.2.1 d_X0_lay_13 ?_
  refine pf_0_2 X hw ho tb_79 d_X0_lay_14 (fun H locs hw => ?_)
  obtain ⟨σ_3, e_σ_3⟩ : ∃ z : GSt, z = up2 σ_2 o 2 (x1 * x2) := ⟨_, rfl⟩
  rw [← e_σ_3] at hw
  have hD := hD σ_3 e_σ_3
  refine lv_iconst (v := 0) X.1 X.2.1 d_X0_lay_17 (by decide) ?_
  refine lv_istore_n (lv' := [(3, .int 0), (0, .ref (G.2.1 o)), (1, .int x1), (2, .int x2)]) X.1 X.2.1 d_X0_lay_18 rfl hl (by decide) rfl (fun ls hl => ?_)
  obtain ⟨n9, hD⟩ := hD
  exact sl_X0_lay_19 X hr hlk  Q o ho  n9 0 σ_3 _ _ _  hw (lv_sub hl [1, 0] rfl) hD
theorem c_X0_lay (l : Launch) (G : GC) (o : Nat) (x1 : Int32) (x2 : Int32) (σ : GSt) (Q : GSt → Prop) (ho : kd o = 0) (hD : D_X0_lay o x1 x2 σ Q) : MV l ym_X0_lay cm_X0_lay 5 rm_X0_lay G σ [.ref (G.2.1 o), .int x1, .int x2] Q := by
  refine met_v (by decide) (Nat.le_of_ble_eq_true rfl) ?_
  intro p e s m args below meth c X hr hlk hw ls hl
  exact s_X0_lay_0 X hr hlk Q o ho x1 x2 σ hw (lv_sub hl [0, 1, 2] rfl) hD
theorem hd_X0_hasRow : ym_X0_hasRow.cls = "GameLoom$Board" ∧ ym_X0_hasRow.cls ≠ "java/lang/invoke/MethodHandle" ∧ ym_X0_hasRow.cls ≠ "java/lang/invoke/VarHandle" ∧ (parseMethodDescriptor ym_X0_hasRow.desc).map (fun d => d.parameters.length) = some 2 := by decide +kernel
abbrev rm_X0_hasRow : Room := { frames := 0, cells := 0, slots := 0, locals := 0 }
theorem d_X0_hasRow_0 : decode cm_X0_hasRow 0 = .ok (.iload_n 2, 1) := by decide +kernel
theorem d_X0_hasRow_1 : decode cm_X0_hasRow 1 = .ok (.iconst 2, 1) := by decide +kernel
theorem d_X0_hasRow_2 : decode cm_X0_hasRow 2 = .ok (.if_icmp .lt 8, 3) := by decide +kernel
theorem d_X0_hasRow_5 : decode cm_X0_hasRow 5 = .ok (.iload_n 2, 1) := by decide +kernel
theorem d_X0_hasRow_6 : decode cm_X0_hasRow 6 = .ok (.iconst 4, 1) := by decide +kernel
theorem d_X0_hasRow_7 : decode cm_X0_hasRow 7 = .ok (.if_icmp .le 5, 3) := by decide +kernel
theorem d_X0_hasRow_10 : decode cm_X0_hasRow 10 = .ok (.iconst 0, 1) := by decide +kernel
theorem d_X0_hasRow_11 : decode cm_X0_hasRow 11 = .ok (.ireturn, 1) := by decide +kernel
theorem d_X0_hasRow_12 : decode cm_X0_hasRow 12 = .ok (.aload_n 0, 1) := by decide +kernel
theorem d_X0_hasRow_13 : decode cm_X0_hasRow 13 = .ok (.getfield 21, 3) := by decide +kernel
theorem d_X0_hasRow_16 : decode cm_X0_hasRow 16 = .ok (.iload_n 2, 1) := by decide +kernel
theorem d_X0_hasRow_17 : decode cm_X0_hasRow 17 = .ok (.iaload, 1) := by decide +kernel
theorem d_X0_hasRow_18 : decode cm_X0_hasRow 18 = .ok (.istore_n 3, 1) := by decide +kernel
theorem d_X0_hasRow_19 : decode cm_X0_hasRow 19 = .ok (.iload_n 3, 1) := by decide +kernel
theorem d_X0_hasRow_20 : decode cm_X0_hasRow 20 = .ok (.aload_n 0, 1) := by decide +kernel
theorem d_X0_hasRow_21 : decode cm_X0_hasRow 21 = .ok (.getfield 21, 3) := by decide +kernel
theorem d_X0_hasRow_24 : decode cm_X0_hasRow 24 = .ok (.iload_n 2, 1) := by decide +kernel
theorem d_X0_hasRow_25 : decode cm_X0_hasRow 25 = .ok (.iconst 1, 1) := by decide +kernel
theorem d_X0_hasRow_26 : decode cm_X0_hasRow 26 = .ok (.iadd, 1) := by decide +kernel
theorem d_X0_hasRow_27 : decode cm_X0_hasRow 27 = .ok (.iaload, 1) := by decide +kernel
theorem d_X0_hasRow_28 : decode cm_X0_hasRow 28 = .ok (.if_icmp .ge 28, 3) := by decide +kernel
theorem d_X0_hasRow_31 : decode cm_X0_hasRow 31 = .ok (.iload_n 1, 1) := by decide +kernel
theorem d_X0_hasRow_32 : decode cm_X0_hasRow 32 = .ok (.aload_n 0, 1) := by decide +kernel
theorem d_X0_hasRow_33 : decode cm_X0_hasRow 33 = .ok (.getfield 18, 3) := by decide +kernel
theorem d_X0_hasRow_36 : decode cm_X0_hasRow 36 = .ok (.iload_n 3, 1) := by decide +kernel
theorem d_X0_hasRow_37 : decode cm_X0_hasRow 37 = .ok (.iaload, 1) := by decide +kernel
theorem d_X0_hasRow_38 : decode cm_X0_hasRow 38 = .ok (.iand, 1) := by decide +kernel
theorem d_X0_hasRow_39 : decode cm_X0_hasRow 39 = .ok (.aload_n 0, 1) := by decide +kernel
theorem d_X0_hasRow_40 : decode cm_X0_hasRow 40 = .ok (.getfield 18, 3) := by decide +kernel
theorem d_X0_hasRow_43 : decode cm_X0_hasRow 43 = .ok (.iload_n 3, 1) := by decide +kernel
theorem d_X0_hasRow_44 : decode cm_X0_hasRow 44 = .ok (.iaload, 1) := by decide +kernel
theorem d_X0_hasRow_45 : decode cm_X0_hasRow 45 = .ok (.if_icmp .ne 5, 3) := by decide +kernel
theorem d_X0_hasRow_48 : decode cm_X0_hasRow 48 = .ok (.iconst 1, 1) := by decide +kernel
theorem d_X0_hasRow_49 : decode cm_X0_hasRow 49 = .ok (.ireturn, 1) := by decide +kernel
theorem d_X0_hasRow_50 : decode cm_X0_hasRow 50 = .ok (.iinc 3 1, 3) := by decide +kernel
theorem d_X0_hasRow_53 : decode cm_X0_hasRow 53 = .ok (.goto (-34), 3) := by decide +kernel
theorem d_X0_hasRow_56 : decode cm_X0_hasRow 56 = .ok (.iconst 0, 1) := by decide +kernel
theorem d_X0_hasRow_57 : decode cm_X0_hasRow 57 = .ok (.ireturn, 1) := by decide +kernel
def D_X0_hasRow_19 (K19 : Int32 → Int32 → Int32 → GSt → Prop) (Q : Int32 → GSt → Prop) (o : Nat) (x1 : Int32) (x2 : Int32) (x3 : Int32) (σ : GSt) : Prop :=
  vp_in (x2 + 1) 6 ∧ (((σ (o + 4) (Int32.toNatClampNeg (x2 + 1))) ≤ x3 → Q 0 σ) ∧
  (¬ (σ (o + 4) (Int32.toNatClampNeg (x2 + 1))) ≤ x3 → vp_in x3 76 ∧ (vp_in x3 76 ∧ ((¬ (x1 &&& (σ (o + 3) (Int32.toNatClampNeg x3))) = (σ (o + 3) (Int32.toNatClampNeg x3)) → ∀ x3_1 : Int32, x3_1 = x3 + 1 → (K19 x1 x2 x3_1 σ)) ∧
  ((x1 &&& (σ (o + 3) (Int32.toNatClampNeg x3))) = (σ (o + 3) (Int32.toNatClampNeg x3)) → Q 1 σ)))))
def L_X0_hasRow_19 (Q : Int32 → GSt → Prop) (o : Nat) : Nat → Int32 → Int32 → Int32 → GSt → Prop
  | 0 => fun _ _ _ _ => False
  | n + 1 => fun x1 x2 x3 σ => D_X0_hasRow_19 (L_X0_hasRow_19 Q o n) Q o x1 x2 x3 σ
def D_X0_hasRow_0 (Q : Int32 → GSt → Prop) (o : Nat) (x1 : Int32) (x2 : Int32) (σ : GSt) : Prop :=
  (x2 < 2 → Q 0 σ) ∧
  (¬ x2 < 2 → (x2 ≤ 4 → vp_in x2 6 ∧ (∀ x3_1 : Int32, x3_1 = (σ (o + 4) (Int32.toNatClampNeg x2)) → (∃ n : Nat, L_X0_hasRow_19 Q o n x1 x2 x3_1 σ))) ∧
  (¬ x2 ≤ 4 → Q 0 σ))
def D_X0_hasRow (o : Nat) (x1 : Int32) (x2 : Int32) (σ : GSt) (Q : Int32 → GSt → Prop) : Prop := D_X0_hasRow_0 Q o x1 x2 σ
set_option maxRecDepth 20000 in
set_option maxHeartbeats 4000000 in
theorem s_X0_hasRow_19 {p : Program} {l : Launch} {e : Env} {s : State} {m : MethodId} {args : Array Value} {below : List Frame} {meth : Method} {c : Code} {G : GC} (X : CallFix p m c cm_X0_hasRow 4 s args lw_us "GameLoom$Board") (hr : meth.sig.returnType = some .boolean) (hlk : meth.locks = false) (K19 : Int32 → Int32 → Int32 → GSt → Prop) (Q : Int32 → GSt → Prop) (o : Nat) (ho : kd o = 0) (hK19 : ∀ (x1 : Int32) (x2 : Int32) (x3 : Int32) (σ : GSt) (H : Heap) (locs : List Loc) (ls : Array Slot), Wo G s H locs σ → lv_has ls 4 [(0, .ref (G.2.1 o)), (1, .int x1), (2, .int x2), (3, .int x3)] → K19 x1 x2 x3 σ → W p l e rm_X0_hasRow s m args below meth c H locs 0 0 (QMI G Q below args s) (F0 m 19 ls [])) (x1 : Int32) (x2 : Int32) (x3 : Int32) (σ : GSt) {H : Heap} {locs : List Loc} {ls : Array Slot} (hw : Wo G s H locs σ) (hl : lv_has ls 4 [(0, .ref (G.2.1 o)), (1, .int x1), (2, .int x2), (3, .int x3)]) (hD : D_X0_hasRow_19 K19 Q o x1 x2 x3 σ) : W p l e rm_X0_hasRow s m args below meth c H locs 0 0 (QMI G Q below args s) (F0 m 19 ls []) := by
  unfold D_X0_hasRow_19 at hD
  refine lv_iload_n X.1 X.2.1 d_X0_hasRow_19 rfl (lv_at hl 3 rfl) ?_
  refine lv_aload_n X.1 X.2.1 d_X0_hasRow_20 rfl (lv_at hl 0 rfl) ?_
  refine gf_0_6 X hw ho tb_87 d_X0_hasRow_21 ?_
  refine lv_iload_n X.1 X.2.1 d_X0_hasRow_24 rfl (lv_at hl 2 rfl) ?_
  refine lv_iconst (v := 1) X.1 X.2.1 d_X0_hasRow_25 (by decide) ?_
  refine lv_iadd X.1 X.2.1 d_X0_hasRow_26 ?_
  obtain ⟨q_27, hD⟩ := hD
  refine g_iald X hw (ly_0_6 ho).1 (ly_0_6 ho).2 q_27 d_X0_hasRow_27 ?_
  refine lv_icmp_ge (tgt := 56) X.1 X.2.1 d_X0_hasRow_28 (by decide) (fun q_28 => ?_) (fun q_28 => ?_)
  · have hD := hD.1 q_28
    refine lv_iconst (v := 0) X.1 X.2.1 d_X0_hasRow_56 (by decide) ?_
    exact g_zret X hr hlk hw (by decide) hD d_X0_hasRow_57
  · have hD := hD.2 q_28
    refine lv_iload_n X.1 X.2.1 d_X0_hasRow_31 rfl (lv_at hl 1 rfl) ?_
    refine lv_aload_n X.1 X.2.1 d_X0_hasRow_32 rfl (lv_at hl 0 rfl) ?_
    refine gf_0_5 X hw ho tb_86 d_X0_hasRow_33 ?_
    refine lv_iload_n X.1 X.2.1 d_X0_hasRow_36 rfl (lv_at hl 3 rfl) ?_
    obtain ⟨q_37, hD⟩ := hD
    refine g_iald X hw (ly_0_5 ho).1 (ly_0_5 ho).2 q_37 d_X0_hasRow_37 ?_
    refine lv_iand X.1 X.2.1 d_X0_hasRow_38 ?_
    refine lv_aload_n X.1 X.2.1 d_X0_hasRow_39 rfl (lv_at hl 0 rfl) ?_
    refine gf_0_5 X hw ho tb_86 d_X0_hasRow_40 ?_
    refine lv_iload_n X.1 X.2.1 d_X0_hasRow_43 rfl (lv_at hl 3 rfl) ?_
    obtain ⟨q_44, hD⟩ := hD
    refine g_iald X hw (ly_0_5 ho).1 (ly_0_5 ho).2 q_44 d_X0_hasRow_44 ?_
    refine lv_icmp_ne (tgt := 50) X.1 X.2.1 d_X0_hasRow_45 (by decide) (fun q_45 => ?_) (fun q_45 => ?_)
    · have hD := hD.1 q_45
      obtain ⟨x3_1, e_x3_1⟩ : ∃ y : Int32, y = x3 + 1 := ⟨_, rfl⟩
      have hD := hD x3_1 e_x3_1
      refine lv_iinc (v := x3_1) (lv' := [(3, .int x3_1), (0, .ref (G.2.1 o)), (1, .int x1), (2, .int x2)]) X.1 X.2.1 d_X0_hasRow_50 hl (k := 3) rfl (by rw [e_x3_1]; rfl) (by decide) rfl (fun ls hl => ?_)
      refine lv_goto (tgt := 19) X.1 X.2.1 d_X0_hasRow_53 (by decide) ?_
      exact hK19 x1 x2 x3_1 σ _ _ _  hw (lv_sub hl [1, 2, 3, 0] rfl) hD
    · have hD := hD.2 q_45
      refine lv_iconst (v := 1) X.1 X.2.1 d_X0_hasRow_48 (by decide) ?_
      exact g_zret X hr hlk hw (by decide) hD d_X0_hasRow_49
set_option maxRecDepth 20000 in
set_option maxHeartbeats 4000000 in
theorem sl_X0_hasRow_19 {p : Program} {l : Launch} {e : Env} {s : State} {m : MethodId} {args : Array Value} {below : List Frame} {meth : Method} {c : Code} {G : GC} (X : CallFix p m c cm_X0_hasRow 4 s args lw_us "GameLoom$Board") (hr : meth.sig.returnType = some .boolean) (hlk : meth.locks = false) (Q : Int32 → GSt → Prop) (o : Nat) (ho : kd o = 0) : ∀ (nn : Nat), ∀ (x1 : Int32) (x2 : Int32) (x3 : Int32) (σ : GSt) (H : Heap) (locs : List Loc) (ls : Array Slot), Wo G s H locs σ → lv_has ls 4 [(0, .ref (G.2.1 o)), (1, .int x1), (2, .int x2), (3, .int x3)] → L_X0_hasRow_19 Q o nn x1 x2 x3 σ → W p l e rm_X0_hasRow s m args below meth c H locs 0 0 (QMI G Q below args s) (F0 m 19 ls []) := by
  intro nn
  induction nn with
  | zero => intro x1 x2 x3 σ H locs ls  hw hl hD; exact hD.elim
  | succ nn ih =>
    intro x1 x2 x3 σ H locs ls  hw hl hD
    exact s_X0_hasRow_19 X hr hlk (L_X0_hasRow_19 Q o nn) Q o ho ih x1 x2 x3 σ hw hl hD
set_option maxRecDepth 20000 in
set_option maxHeartbeats 4000000 in
theorem s_X0_hasRow_0 {p : Program} {l : Launch} {e : Env} {s : State} {m : MethodId} {args : Array Value} {below : List Frame} {meth : Method} {c : Code} {G : GC} (X : CallFix p m c cm_X0_hasRow 4 s args lw_us "GameLoom$Board") (hr : meth.sig.returnType = some .boolean) (hlk : meth.locks = false) (Q : Int32 → GSt → Prop) (o : Nat) (ho : kd o = 0) (x1 : Int32) (x2 : Int32) (σ : GSt) {H : Heap} {locs : List Loc} {ls : Array Slot} (hw : Wo G s H locs σ) (hl : lv_has ls 4 [(0, .ref (G.2.1 o)), (1, .int x1), (2, .int x2)]) (hD : D_X0_hasRow_0 Q o x1 x2 σ) : W p l e rm_X0_hasRow s m args below meth c H locs 0 0 (QMI G Q below args s) (F0 m 0 ls []) := by
  unfold D_X0_hasRow_0 at hD
  refine lv_iload_n X.1 X.2.1 d_X0_hasRow_0 rfl (lv_at hl 2 rfl) ?_
  refine lv_iconst (v := 2) X.1 X.2.1 d_X0_hasRow_1 (by decide) ?_
  refine lv_icmp_lt (tgt := 10) X.1 X.2.1 d_X0_hasRow_2 (by decide) (fun q_2 => ?_) (fun q_2 => ?_)
  · have hD := hD.1 q_2
    refine lv_iconst (v := 0) X.1 X.2.1 d_X0_hasRow_10 (by decide) ?_
    exact g_zret X hr hlk hw (by decide) hD d_X0_hasRow_11
  · have hD := hD.2 q_2
    refine lv_iload_n X.1 X.2.1 d_X0_hasRow_5 rfl (lv_at hl 2 rfl) ?_
    refine lv_iconst (v := 4) X.1 X.2.1 d_X0_hasRow_6 (by decide) ?_
    refine lv_icmp_le (tgt := 12) X.1 X.2.1 d_X0_hasRow_7 (by decide) (fun q_7 => ?_) (fun q_7 => ?_)
    · have hD := hD.1 q_7
      refine lv_aload_n X.1 X.2.1 d_X0_hasRow_12 rfl (lv_at hl 0 rfl) ?_
      refine gf_0_6 X hw ho tb_87 d_X0_hasRow_13 ?_
      refine lv_iload_n X.1 X.2.1 d_X0_hasRow_16 rfl (lv_at hl 2 rfl) ?_
      obtain ⟨q_17, hD⟩ := hD
      refine g_iald X hw (ly_0_6 ho).1 (ly_0_6 ho).2 q_17 d_X0_hasRow_17 ?_
      refine lv_topi (fun x3_1 e_x3_1 => ?_)
      have hD := hD x3_1 e_x3_1
      refine lv_istore_n (lv' := [(3, .int x3_1), (0, .ref (G.2.1 o)), (1, .int x1), (2, .int x2)]) X.1 X.2.1 d_X0_hasRow_18 rfl hl (by decide) rfl (fun ls hl => ?_)
      obtain ⟨n9, hD⟩ := hD
      exact sl_X0_hasRow_19 X hr hlk  Q o ho  n9 x1 x2 x3_1 σ _ _ _  hw (lv_sub hl [1, 2, 3, 0] rfl) hD
    · have hD := hD.2 q_7
      refine lv_iconst (v := 0) X.1 X.2.1 d_X0_hasRow_10 (by decide) ?_
      exact g_zret X hr hlk hw (by decide) hD d_X0_hasRow_11
theorem c_X0_hasRow (l : Launch) (G : GC) (o : Nat) (x1 : Int32) (x2 : Int32) (σ : GSt) (Q : Int32 → GSt → Prop) (ho : kd o = 0) (hD : D_X0_hasRow o x1 x2 σ Q) : MI l ym_X0_hasRow cm_X0_hasRow 4 .boolean rm_X0_hasRow G σ [.ref (G.2.1 o), .int x1, .int x2] Q := by
  refine met_i (by decide) (Nat.le_of_ble_eq_true rfl) ?_
  intro p e s m args below meth c X hr hlk hw ls hl
  exact s_X0_hasRow_0 X hr hlk Q o ho x1 x2 σ hw (lv_sub hl [0, 1, 2] rfl) hD
theorem hd_X0_hasWay : ym_X0_hasWay.cls = "GameLoom$Board" ∧ ym_X0_hasWay.cls ≠ "java/lang/invoke/MethodHandle" ∧ ym_X0_hasWay.cls ≠ "java/lang/invoke/VarHandle" ∧ (parseMethodDescriptor ym_X0_hasWay.desc).map (fun d => d.parameters.length) = some 2 := by decide +kernel
abbrev rm_X0_hasWay : Room := { frames := 0, cells := 0, slots := 0, locals := 0 }
theorem d_X0_hasWay_0 : decode cm_X0_hasWay 0 = .ok (.iload_n 2, 1) := by decide +kernel
theorem d_X0_hasWay_1 : decode cm_X0_hasWay 1 = .ok (.ifCond .ne 10, 3) := by decide +kernel
theorem d_X0_hasWay_4 : decode cm_X0_hasWay 4 = .ok (.aload_n 0, 1) := by decide +kernel
theorem d_X0_hasWay_5 : decode cm_X0_hasWay 5 = .ok (.getfield 57, 3) := by decide +kernel
theorem d_X0_hasWay_8 : decode cm_X0_hasWay 8 = .ok (.goto 7, 3) := by decide +kernel
theorem d_X0_hasWay_11 : decode cm_X0_hasWay 11 = .ok (.aload_n 0, 1) := by decide +kernel
theorem d_X0_hasWay_12 : decode cm_X0_hasWay 12 = .ok (.getfield 63, 3) := by decide +kernel
theorem d_X0_hasWay_15 : decode cm_X0_hasWay 15 = .ok (.istore_n 3, 1) := by decide +kernel
theorem d_X0_hasWay_16 : decode cm_X0_hasWay 16 = .ok (.iload_n 2, 1) := by decide +kernel
theorem d_X0_hasWay_17 : decode cm_X0_hasWay 17 = .ok (.ifCond .ne 10, 3) := by decide +kernel
theorem d_X0_hasWay_20 : decode cm_X0_hasWay 20 = .ok (.aload_n 0, 1) := by decide +kernel
theorem d_X0_hasWay_21 : decode cm_X0_hasWay 21 = .ok (.getfield 60, 3) := by decide +kernel
theorem d_X0_hasWay_24 : decode cm_X0_hasWay 24 = .ok (.goto 7, 3) := by decide +kernel
theorem d_X0_hasWay_27 : decode cm_X0_hasWay 27 = .ok (.aload_n 0, 1) := by decide +kernel
theorem d_X0_hasWay_28 : decode cm_X0_hasWay 28 = .ok (.getfield 66, 3) := by decide +kernel
theorem d_X0_hasWay_31 : decode cm_X0_hasWay 31 = .ok (.istore 4, 2) := by decide +kernel
theorem d_X0_hasWay_33 : decode cm_X0_hasWay 33 = .ok (.iload_n 1, 1) := by decide +kernel
theorem d_X0_hasWay_34 : decode cm_X0_hasWay 34 = .ok (.iload_n 3, 1) := by decide +kernel
theorem d_X0_hasWay_35 : decode cm_X0_hasWay 35 = .ok (.iand, 1) := by decide +kernel
theorem d_X0_hasWay_36 : decode cm_X0_hasWay 36 = .ok (.istore 5, 2) := by decide +kernel
theorem d_X0_hasWay_38 : decode cm_X0_hasWay 38 = .ok (.iconst 0, 1) := by decide +kernel
theorem d_X0_hasWay_39 : decode cm_X0_hasWay 39 = .ok (.istore 6, 2) := by decide +kernel
theorem d_X0_hasWay_41 : decode cm_X0_hasWay 41 = .ok (.iload 6, 2) := by decide +kernel
theorem d_X0_hasWay_43 : decode cm_X0_hasWay 43 = .ok (.aload_n 0, 1) := by decide +kernel
theorem d_X0_hasWay_44 : decode cm_X0_hasWay 44 = .ok (.getfield 31, 3) := by decide +kernel
theorem d_X0_hasWay_47 : decode cm_X0_hasWay 47 = .ok (.if_icmp .ge 73, 3) := by decide +kernel
theorem d_X0_hasWay_50 : decode cm_X0_hasWay 50 = .ok (.iload 5, 2) := by decide +kernel
theorem d_X0_hasWay_52 : decode cm_X0_hasWay 52 = .ok (.aload_n 0, 1) := by decide +kernel
theorem d_X0_hasWay_53 : decode cm_X0_hasWay 53 = .ok (.getfield 66, 3) := by decide +kernel
theorem d_X0_hasWay_56 : decode cm_X0_hasWay 56 = .ok (.iconst (-1), 1) := by decide +kernel
theorem d_X0_hasWay_57 : decode cm_X0_hasWay 57 = .ok (.ixor, 1) := by decide +kernel
theorem d_X0_hasWay_58 : decode cm_X0_hasWay 58 = .ok (.iand, 1) := by decide +kernel
theorem d_X0_hasWay_59 : decode cm_X0_hasWay 59 = .ok (.iconst 1, 1) := by decide +kernel
theorem d_X0_hasWay_60 : decode cm_X0_hasWay 60 = .ok (.ishl, 1) := by decide +kernel
theorem d_X0_hasWay_61 : decode cm_X0_hasWay 61 = .ok (.iload 5, 2) := by decide +kernel
theorem d_X0_hasWay_63 : decode cm_X0_hasWay 63 = .ok (.aload_n 0, 1) := by decide +kernel
theorem d_X0_hasWay_64 : decode cm_X0_hasWay 64 = .ok (.getfield 63, 3) := by decide +kernel
theorem d_X0_hasWay_67 : decode cm_X0_hasWay 67 = .ok (.iconst (-1), 1) := by decide +kernel
theorem d_X0_hasWay_68 : decode cm_X0_hasWay 68 = .ok (.ixor, 1) := by decide +kernel
theorem d_X0_hasWay_69 : decode cm_X0_hasWay 69 = .ok (.iand, 1) := by decide +kernel
theorem d_X0_hasWay_70 : decode cm_X0_hasWay 70 = .ok (.iconst 1, 1) := by decide +kernel
theorem d_X0_hasWay_71 : decode cm_X0_hasWay 71 = .ok (.iushr, 1) := by decide +kernel
theorem d_X0_hasWay_72 : decode cm_X0_hasWay 72 = .ok (.ior, 1) := by decide +kernel
theorem d_X0_hasWay_73 : decode cm_X0_hasWay 73 = .ok (.istore 7, 2) := by decide +kernel
theorem d_X0_hasWay_75 : decode cm_X0_hasWay 75 = .ok (.iload_n 1, 1) := by decide +kernel
theorem d_X0_hasWay_76 : decode cm_X0_hasWay 76 = .ok (.iload 5, 2) := by decide +kernel
theorem d_X0_hasWay_78 : decode cm_X0_hasWay 78 = .ok (.iload 7, 2) := by decide +kernel
theorem d_X0_hasWay_80 : decode cm_X0_hasWay 80 = .ok (.ior, 1) := by decide +kernel
theorem d_X0_hasWay_81 : decode cm_X0_hasWay 81 = .ok (.iload 5, 2) := by decide +kernel
theorem d_X0_hasWay_83 : decode cm_X0_hasWay 83 = .ok (.aload_n 0, 1) := by decide +kernel
theorem d_X0_hasWay_84 : decode cm_X0_hasWay 84 = .ok (.getfield 24, 3) := by decide +kernel
theorem d_X0_hasWay_87 : decode cm_X0_hasWay 87 = .ok (.ishl, 1) := by decide +kernel
theorem d_X0_hasWay_88 : decode cm_X0_hasWay 88 = .ok (.ior, 1) := by decide +kernel
theorem d_X0_hasWay_89 : decode cm_X0_hasWay 89 = .ok (.iload 5, 2) := by decide +kernel
theorem d_X0_hasWay_91 : decode cm_X0_hasWay 91 = .ok (.aload_n 0, 1) := by decide +kernel
theorem d_X0_hasWay_92 : decode cm_X0_hasWay 92 = .ok (.getfield 24, 3) := by decide +kernel
theorem d_X0_hasWay_95 : decode cm_X0_hasWay 95 = .ok (.iushr, 1) := by decide +kernel
theorem d_X0_hasWay_96 : decode cm_X0_hasWay 96 = .ok (.ior, 1) := by decide +kernel
theorem d_X0_hasWay_97 : decode cm_X0_hasWay 97 = .ok (.iand, 1) := by decide +kernel
theorem d_X0_hasWay_98 : decode cm_X0_hasWay 98 = .ok (.istore 8, 2) := by decide +kernel
theorem d_X0_hasWay_100 : decode cm_X0_hasWay 100 = .ok (.iload 8, 2) := by decide +kernel
theorem d_X0_hasWay_102 : decode cm_X0_hasWay 102 = .ok (.iload 5, 2) := by decide +kernel
theorem d_X0_hasWay_104 : decode cm_X0_hasWay 104 = .ok (.if_icmp .ne 6, 3) := by decide +kernel
theorem d_X0_hasWay_107 : decode cm_X0_hasWay 107 = .ok (.goto 13, 3) := by decide +kernel
theorem d_X0_hasWay_110 : decode cm_X0_hasWay 110 = .ok (.iload 8, 2) := by decide +kernel
theorem d_X0_hasWay_112 : decode cm_X0_hasWay 112 = .ok (.istore 5, 2) := by decide +kernel
theorem d_X0_hasWay_114 : decode cm_X0_hasWay 114 = .ok (.iinc 6 1, 3) := by decide +kernel
theorem d_X0_hasWay_117 : decode cm_X0_hasWay 117 = .ok (.goto (-76), 3) := by decide +kernel
theorem d_X0_hasWay_120 : decode cm_X0_hasWay 120 = .ok (.iload 5, 2) := by decide +kernel
theorem d_X0_hasWay_122 : decode cm_X0_hasWay 122 = .ok (.iload 4, 2) := by decide +kernel
theorem d_X0_hasWay_124 : decode cm_X0_hasWay 124 = .ok (.iand, 1) := by decide +kernel
theorem d_X0_hasWay_125 : decode cm_X0_hasWay 125 = .ok (.ifCond .eq 7, 3) := by decide +kernel
theorem d_X0_hasWay_128 : decode cm_X0_hasWay 128 = .ok (.iconst 1, 1) := by decide +kernel
theorem d_X0_hasWay_129 : decode cm_X0_hasWay 129 = .ok (.goto 4, 3) := by decide +kernel
theorem d_X0_hasWay_132 : decode cm_X0_hasWay 132 = .ok (.iconst 0, 1) := by decide +kernel
theorem d_X0_hasWay_133 : decode cm_X0_hasWay 133 = .ok (.ireturn, 1) := by decide +kernel
def D_X0_hasWay_120 (Q : Int32 → GSt → Prop) (o : Nat) (x4 : Int32) (x5 : Int32) (σ : GSt) : Prop :=
  ((x5 &&& x4) = 0 → Q 0 σ) ∧
  (¬ (x5 &&& x4) = 0 → Q 1 σ)
def D_X0_hasWay_41 (K41 : Int32 → Int32 → Int32 → Int32 → GSt → Prop) (Q : Int32 → GSt → Prop) (o : Nat) (x1 : Int32) (x4 : Int32) (x5 : Int32) (x6 : Int32) (σ : GSt) : Prop :=
  ((σ o 2) ≤ x6 → D_X0_hasWay_120 Q o x4 x5 σ) ∧
  (¬ (σ o 2) ≤ x6 → ∀ x7_1 : Int32, x7_1 = ((jshl (x5 &&& ((σ o 11) ^^^ (-1))) 1) ||| (jushr (x5 &&& ((σ o 10) ^^^ (-1))) 1)) → (∀ x8_2 : Int32, x8_2 = (x1 &&& (((x5 ||| x7_1) ||| (jshl x5 (σ o 0))) ||| (jushr x5 (σ o 0)))) → ((¬ x8_2 = x5 → ∀ x6_3 : Int32, x6_3 = x6 + 1 → (K41 x1 x4 x8_2 x6_3 σ)) ∧
  (x8_2 = x5 → D_X0_hasWay_120 Q o x4 x5 σ))))
def L_X0_hasWay_41 (Q : Int32 → GSt → Prop) (o : Nat) : Nat → Int32 → Int32 → Int32 → Int32 → GSt → Prop
  | 0 => fun _ _ _ _ _ => False
  | n + 1 => fun x1 x4 x5 x6 σ => D_X0_hasWay_41 (L_X0_hasWay_41 Q o n) Q o x1 x4 x5 x6 σ
def D_X0_hasWay_31 (Q : Int32 → GSt → Prop) (o : Nat) (x1 : Int32) (x3 : Int32) (s0 : Int32) (σ : GSt) : Prop :=
  ∀ x5_1 : Int32, x5_1 = (x1 &&& x3) → (∃ n : Nat, L_X0_hasWay_41 Q o n x1 s0 x5_1 0 σ)
def D_X0_hasWay_15 (Q : Int32 → GSt → Prop) (o : Nat) (x1 : Int32) (x2 : Int32) (s0 : Int32) (σ : GSt) : Prop :=
  (¬ x2 = 0 → D_X0_hasWay_31 Q o x1 s0 (σ o 11) σ) ∧
  (x2 = 0 → D_X0_hasWay_31 Q o x1 s0 (σ o 9) σ)
def D_X0_hasWay_0 (Q : Int32 → GSt → Prop) (o : Nat) (x1 : Int32) (x2 : Int32) (σ : GSt) : Prop :=
  (¬ x2 = 0 → D_X0_hasWay_15 Q o x1 x2 (σ o 10) σ) ∧
  (x2 = 0 → D_X0_hasWay_15 Q o x1 x2 (σ o 8) σ)
def D_X0_hasWay (o : Nat) (x1 : Int32) (x2 : Int32) (σ : GSt) (Q : Int32 → GSt → Prop) : Prop := D_X0_hasWay_0 Q o x1 x2 σ
set_option maxRecDepth 20000 in
set_option maxHeartbeats 4000000 in
theorem s_X0_hasWay_120 {p : Program} {l : Launch} {e : Env} {s : State} {m : MethodId} {args : Array Value} {below : List Frame} {meth : Method} {c : Code} {G : GC} (X : CallFix p m c cm_X0_hasWay 9 s args lw_us "GameLoom$Board") (hr : meth.sig.returnType = some .boolean) (hlk : meth.locks = false) (Q : Int32 → GSt → Prop) (o : Nat) (ho : kd o = 0) (x4 : Int32) (x5 : Int32) (σ : GSt) {H : Heap} {locs : List Loc} {ls : Array Slot} (hw : Wo G s H locs σ) (hl : lv_has ls 9 [(0, .ref (G.2.1 o)), (4, .int x4), (5, .int x5)]) (hD : D_X0_hasWay_120 Q o x4 x5 σ) : W p l e rm_X0_hasWay s m args below meth c H locs 0 0 (QMI G Q below args s) (F0 m 120 ls []) := by
  unfold D_X0_hasWay_120 at hD
  refine lv_iload X.1 X.2.1 d_X0_hasWay_120 (lv_at hl 2 rfl) ?_
  refine lv_iload X.1 X.2.1 d_X0_hasWay_122 (lv_at hl 1 rfl) ?_
  refine lv_iand X.1 X.2.1 d_X0_hasWay_124 ?_
  refine lv_if_eq (tgt := 132) X.1 X.2.1 d_X0_hasWay_125 (by decide) (fun q_125 => ?_) (fun q_125 => ?_)
  · have hD := hD.1 q_125
    refine lv_iconst (v := 0) X.1 X.2.1 d_X0_hasWay_132 (by decide) ?_
    exact g_zret X hr hlk hw (by decide) hD d_X0_hasWay_133
  · have hD := hD.2 q_125
    refine lv_iconst (v := 1) X.1 X.2.1 d_X0_hasWay_128 (by decide) ?_
    refine lv_goto (tgt := 133) X.1 X.2.1 d_X0_hasWay_129 (by decide) ?_
    exact g_zret X hr hlk hw (by decide) hD d_X0_hasWay_133
set_option maxRecDepth 20000 in
set_option maxHeartbeats 4000000 in
theorem s_X0_hasWay_41 {p : Program} {l : Launch} {e : Env} {s : State} {m : MethodId} {args : Array Value} {below : List Frame} {meth : Method} {c : Code} {G : GC} (X : CallFix p m c cm_X0_hasWay 9 s args lw_us "GameLoom$Board") (hr : meth.sig.returnType = some .boolean) (hlk : meth.locks = false) (K41 : Int32 → Int32 → Int32 → Int32 → GSt → Prop) (Q : Int32 → GSt → Prop) (o : Nat) (ho : kd o = 0) (hK41 : ∀ (x1 : Int32) (x4 : Int32) (x5 : Int32) (x6 : Int32) (σ : GSt) (H : Heap) (locs : List Loc) (ls : Array Slot), Wo G s H locs σ → lv_has ls 9 [(0, .ref (G.2.1 o)), (1, .int x1), (4, .int x4), (5, .int x5), (6, .int x6)] → K41 x1 x4 x5 x6 σ → W p l e rm_X0_hasWay s m args below meth c H locs 0 0 (QMI G Q below args s) (F0 m 41 ls [])) (x1 : Int32) (x4 : Int32) (x5 : Int32) (x6 : Int32) (σ : GSt) {H : Heap} {locs : List Loc} {ls : Array Slot} (hw : Wo G s H locs σ) (hl : lv_has ls 9 [(0, .ref (G.2.1 o)), (1, .int x1), (4, .int x4), (5, .int x5), (6, .int x6)]) (hD : D_X0_hasWay_41 K41 Q o x1 x4 x5 x6 σ) : W p l e rm_X0_hasWay s m args below meth c H locs 0 0 (QMI G Q below args s) (F0 m 41 ls []) := by
  unfold D_X0_hasWay_41 at hD
  refine lv_iload X.1 X.2.1 d_X0_hasWay_41 (lv_at hl 4 rfl) ?_
  refine lv_aload_n X.1 X.2.1 d_X0_hasWay_43 rfl (lv_at hl 0 rfl) ?_
  refine gf_0_2 X hw ho tb_79 d_X0_hasWay_44 ?_
  refine lv_icmp_ge (tgt := 120) X.1 X.2.1 d_X0_hasWay_47 (by decide) (fun q_47 => ?_) (fun q_47 => ?_)
  · have hD := hD.1 q_47
    exact s_X0_hasWay_120 X hr hlk  Q o ho  x4 x5 σ hw (lv_sub hl [0, 2, 3] rfl) hD
  · have hD := hD.2 q_47
    refine lv_iload X.1 X.2.1 d_X0_hasWay_50 (lv_at hl 3 rfl) ?_
    refine lv_aload_n X.1 X.2.1 d_X0_hasWay_52 rfl (lv_at hl 0 rfl) ?_
    refine gf_0_11 X hw ho tb_93 d_X0_hasWay_53 ?_
    refine lv_iconst (v := (-1)) X.1 X.2.1 d_X0_hasWay_56 (by decide) ?_
    refine lv_ixor X.1 X.2.1 d_X0_hasWay_57 ?_
    refine lv_iand X.1 X.2.1 d_X0_hasWay_58 ?_
    refine lv_iconst (v := 1) X.1 X.2.1 d_X0_hasWay_59 (by decide) ?_
    refine g_ishl X d_X0_hasWay_60 ?_
    refine lv_iload X.1 X.2.1 d_X0_hasWay_61 (lv_at hl 3 rfl) ?_
    refine lv_aload_n X.1 X.2.1 d_X0_hasWay_63 rfl (lv_at hl 0 rfl) ?_
    refine gf_0_10 X hw ho tb_92 d_X0_hasWay_64 ?_
    refine lv_iconst (v := (-1)) X.1 X.2.1 d_X0_hasWay_67 (by decide) ?_
    refine lv_ixor X.1 X.2.1 d_X0_hasWay_68 ?_
    refine lv_iand X.1 X.2.1 d_X0_hasWay_69 ?_
    refine lv_iconst (v := 1) X.1 X.2.1 d_X0_hasWay_70 (by decide) ?_
    refine lv_iushr (v := (jushr (x5 &&& ((σ o 10) ^^^ (-1))) 1)) X.1 X.2.1 d_X0_hasWay_71 rfl ?_
    refine lv_ior X.1 X.2.1 d_X0_hasWay_72 ?_
    refine lv_topi (fun x7_1 e_x7_1 => ?_)
    have hD := hD x7_1 e_x7_1
    refine lv_istore (lv' := [(7, .int x7_1), (0, .ref (G.2.1 o)), (1, .int x1), (4, .int x4), (5, .int x5), (6, .int x6)]) X.1 X.2.1 d_X0_hasWay_73 hl (by decide) rfl (fun ls hl => ?_)
    refine lv_iload_n X.1 X.2.1 d_X0_hasWay_75 rfl (lv_at hl 2 rfl) ?_
    refine lv_iload X.1 X.2.1 d_X0_hasWay_76 (lv_at hl 4 rfl) ?_
    refine lv_iload X.1 X.2.1 d_X0_hasWay_78 (lv_at hl 0 rfl) ?_
    refine lv_ior X.1 X.2.1 d_X0_hasWay_80 ?_
    refine lv_iload X.1 X.2.1 d_X0_hasWay_81 (lv_at hl 4 rfl) ?_
    refine lv_aload_n X.1 X.2.1 d_X0_hasWay_83 rfl (lv_at hl 1 rfl) ?_
    refine gf_0_0 X hw ho tb_73 d_X0_hasWay_84 ?_
    refine g_ishl X d_X0_hasWay_87 ?_
    refine lv_ior X.1 X.2.1 d_X0_hasWay_88 ?_
    refine lv_iload X.1 X.2.1 d_X0_hasWay_89 (lv_at hl 4 rfl) ?_
    refine lv_aload_n X.1 X.2.1 d_X0_hasWay_91 rfl (lv_at hl 1 rfl) ?_
    refine gf_0_0 X hw ho tb_73 d_X0_hasWay_92 ?_
    refine lv_iushr (v := (jushr x5 (σ o 0))) X.1 X.2.1 d_X0_hasWay_95 rfl ?_
    refine lv_ior X.1 X.2.1 d_X0_hasWay_96 ?_
    refine lv_iand X.1 X.2.1 d_X0_hasWay_97 ?_
    refine lv_topi (fun x8_2 e_x8_2 => ?_)
    have hD := hD x8_2 e_x8_2
    refine lv_istore (lv' := [(8, .int x8_2), (7, .int x7_1), (0, .ref (G.2.1 o)), (1, .int x1), (4, .int x4), (5, .int x5), (6, .int x6)]) X.1 X.2.1 d_X0_hasWay_98 hl (by decide) rfl (fun ls hl => ?_)
    refine lv_iload X.1 X.2.1 d_X0_hasWay_100 (lv_at hl 0 rfl) ?_
    refine lv_iload X.1 X.2.1 d_X0_hasWay_102 (lv_at hl 5 rfl) ?_
    refine lv_icmp_ne (tgt := 110) X.1 X.2.1 d_X0_hasWay_104 (by decide) (fun q_104 => ?_) (fun q_104 => ?_)
    · have hD := hD.1 q_104
      refine lv_iload X.1 X.2.1 d_X0_hasWay_110 (lv_at hl 0 rfl) ?_
      refine lv_istore (lv' := [(5, .int x8_2), (8, .int x8_2), (7, .int x7_1), (0, .ref (G.2.1 o)), (1, .int x1), (4, .int x4), (6, .int x6)]) X.1 X.2.1 d_X0_hasWay_112 hl (by decide) rfl (fun ls hl => ?_)
      obtain ⟨x6_3, e_x6_3⟩ : ∃ y : Int32, y = x6 + 1 := ⟨_, rfl⟩
      have hD := hD x6_3 e_x6_3
      refine lv_iinc (v := x6_3) (lv' := [(6, .int x6_3), (5, .int x8_2), (8, .int x8_2), (7, .int x7_1), (0, .ref (G.2.1 o)), (1, .int x1), (4, .int x4)]) X.1 X.2.1 d_X0_hasWay_114 hl (k := 6) rfl (by rw [e_x6_3]; rfl) (by decide) rfl (fun ls hl => ?_)
      refine lv_goto (tgt := 41) X.1 X.2.1 d_X0_hasWay_117 (by decide) ?_
      exact hK41 x1 x4 x8_2 x6_3 σ _ _ _  hw (lv_sub hl [4, 5, 6, 1, 0] rfl) hD
    · have hD := hD.2 q_104
      refine lv_goto (tgt := 120) X.1 X.2.1 d_X0_hasWay_107 (by decide) ?_
      exact s_X0_hasWay_120 X hr hlk  Q o ho  x4 x5 σ hw (lv_sub hl [2, 4, 5] rfl) hD
set_option maxRecDepth 20000 in
set_option maxHeartbeats 4000000 in
theorem sl_X0_hasWay_41 {p : Program} {l : Launch} {e : Env} {s : State} {m : MethodId} {args : Array Value} {below : List Frame} {meth : Method} {c : Code} {G : GC} (X : CallFix p m c cm_X0_hasWay 9 s args lw_us "GameLoom$Board") (hr : meth.sig.returnType = some .boolean) (hlk : meth.locks = false) (Q : Int32 → GSt → Prop) (o : Nat) (ho : kd o = 0) : ∀ (nn : Nat), ∀ (x1 : Int32) (x4 : Int32) (x5 : Int32) (x6 : Int32) (σ : GSt) (H : Heap) (locs : List Loc) (ls : Array Slot), Wo G s H locs σ → lv_has ls 9 [(0, .ref (G.2.1 o)), (1, .int x1), (4, .int x4), (5, .int x5), (6, .int x6)] → L_X0_hasWay_41 Q o nn x1 x4 x5 x6 σ → W p l e rm_X0_hasWay s m args below meth c H locs 0 0 (QMI G Q below args s) (F0 m 41 ls []) := by
  intro nn
  induction nn with
  | zero => intro x1 x4 x5 x6 σ H locs ls  hw hl hD; exact hD.elim
  | succ nn ih =>
    intro x1 x4 x5 x6 σ H locs ls  hw hl hD
    exact s_X0_hasWay_41 X hr hlk (L_X0_hasWay_41 Q o nn) Q o ho ih x1 x4 x5 x6 σ hw hl hD
set_option maxRecDepth 20000 in
set_option maxHeartbeats 4000000 in
theorem s_X0_hasWay_31 {p : Program} {l : Launch} {e : Env} {s : State} {m : MethodId} {args : Array Value} {below : List Frame} {meth : Method} {c : Code} {G : GC} (X : CallFix p m c cm_X0_hasWay 9 s args lw_us "GameLoom$Board") (hr : meth.sig.returnType = some .boolean) (hlk : meth.locks = false) (Q : Int32 → GSt → Prop) (o : Nat) (ho : kd o = 0) (x1 : Int32) (x3 : Int32) (s0 : Int32) (σ : GSt) {H : Heap} {locs : List Loc} {ls : Array Slot} (hw : Wo G s H locs σ) (hl : lv_has ls 9 [(0, .ref (G.2.1 o)), (1, .int x1), (3, .int x3)]) (hD : D_X0_hasWay_31 Q o x1 x3 s0 σ) : W p l e rm_X0_hasWay s m args below meth c H locs 0 0 (QMI G Q below args s) (F0 m 31 ls [.int s0]) := by
  unfold D_X0_hasWay_31 at hD
  refine lv_istore (lv' := [(4, .int s0), (0, .ref (G.2.1 o)), (1, .int x1), (3, .int x3)]) X.1 X.2.1 d_X0_hasWay_31 hl (by decide) rfl (fun ls hl => ?_)
  refine lv_iload_n X.1 X.2.1 d_X0_hasWay_33 rfl (lv_at hl 2 rfl) ?_
  refine lv_iload_n X.1 X.2.1 d_X0_hasWay_34 rfl (lv_at hl 3 rfl) ?_
  refine lv_iand X.1 X.2.1 d_X0_hasWay_35 ?_
  refine lv_topi (fun x5_1 e_x5_1 => ?_)
  have hD := hD x5_1 e_x5_1
  refine lv_istore (lv' := [(5, .int x5_1), (4, .int s0), (0, .ref (G.2.1 o)), (1, .int x1), (3, .int x3)]) X.1 X.2.1 d_X0_hasWay_36 hl (by decide) rfl (fun ls hl => ?_)
  refine lv_iconst (v := 0) X.1 X.2.1 d_X0_hasWay_38 (by decide) ?_
  refine lv_istore (lv' := [(6, .int 0), (5, .int x5_1), (4, .int s0), (0, .ref (G.2.1 o)), (1, .int x1), (3, .int x3)]) X.1 X.2.1 d_X0_hasWay_39 hl (by decide) rfl (fun ls hl => ?_)
  obtain ⟨n9, hD⟩ := hD
  exact sl_X0_hasWay_41 X hr hlk  Q o ho  n9 x1 s0 x5_1 0 σ _ _ _  hw (lv_sub hl [3, 4, 2, 1, 0] rfl) hD
set_option maxRecDepth 20000 in
set_option maxHeartbeats 4000000 in
theorem s_X0_hasWay_15 {p : Program} {l : Launch} {e : Env} {s : State} {m : MethodId} {args : Array Value} {below : List Frame} {meth : Method} {c : Code} {G : GC} (X : CallFix p m c cm_X0_hasWay 9 s args lw_us "GameLoom$Board") (hr : meth.sig.returnType = some .boolean) (hlk : meth.locks = false) (Q : Int32 → GSt → Prop) (o : Nat) (ho : kd o = 0) (x1 : Int32) (x2 : Int32) (s0 : Int32) (σ : GSt) {H : Heap} {locs : List Loc} {ls : Array Slot} (hw : Wo G s H locs σ) (hl : lv_has ls 9 [(0, .ref (G.2.1 o)), (1, .int x1), (2, .int x2)]) (hD : D_X0_hasWay_15 Q o x1 x2 s0 σ) : W p l e rm_X0_hasWay s m args below meth c H locs 0 0 (QMI G Q below args s) (F0 m 15 ls [.int s0]) := by
  unfold D_X0_hasWay_15 at hD
  refine lv_istore_n (lv' := [(3, .int s0), (0, .ref (G.2.1 o)), (1, .int x1), (2, .int x2)]) X.1 X.2.1 d_X0_hasWay_15 rfl hl (by decide) rfl (fun ls hl => ?_)
  refine lv_iload_n X.1 X.2.1 d_X0_hasWay_16 rfl (lv_at hl 3 rfl) ?_
  refine lv_if_ne (tgt := 27) X.1 X.2.1 d_X0_hasWay_17 (by decide) (fun q_17 => ?_) (fun q_17 => ?_)
  · have hD := hD.1 q_17
    refine lv_aload_n X.1 X.2.1 d_X0_hasWay_27 rfl (lv_at hl 1 rfl) ?_
    refine gf_0_11 X hw ho tb_93 d_X0_hasWay_28 ?_
    exact s_X0_hasWay_31 X hr hlk  Q o ho  x1 s0 (σ o 11) σ hw (lv_sub hl [1, 2, 0] rfl) hD
  · have hD := hD.2 q_17
    refine lv_aload_n X.1 X.2.1 d_X0_hasWay_20 rfl (lv_at hl 1 rfl) ?_
    refine gf_0_9 X hw ho tb_91 d_X0_hasWay_21 ?_
    refine lv_goto (tgt := 31) X.1 X.2.1 d_X0_hasWay_24 (by decide) ?_
    exact s_X0_hasWay_31 X hr hlk  Q o ho  x1 s0 (σ o 9) σ hw (lv_sub hl [1, 2, 0] rfl) hD
set_option maxRecDepth 20000 in
set_option maxHeartbeats 4000000 in
theorem s_X0_hasWay_0 {p : Program} {l : Launch} {e : Env} {s : State} {m : MethodId} {args : Array Value} {below : List Frame} {meth : Method} {c : Code} {G : GC} (X : CallFix p m c cm_X0_hasWay 9 s args lw_us "GameLoom$Board") (hr : meth.sig.returnType = some .boolean) (hlk : meth.locks = false) (Q : Int32 → GSt → Prop) (o : Nat) (ho : kd o = 0) (x1 : Int32) (x2 : Int32) (σ : GSt) {H : Heap} {locs : List Loc} {ls : Array Slot} (hw : Wo G s H locs σ) (hl : lv_has ls 9 [(0, .ref (G.2.1 o)), (1, .int x1), (2, .int x2)]) (hD : D_X0_hasWay_0 Q o x1 x2 σ) : W p l e rm_X0_hasWay s m args below meth c H locs 0 0 (QMI G Q below args s) (F0 m 0 ls []) := by
  unfold D_X0_hasWay_0 at hD
  refine lv_iload_n X.1 X.2.1 d_X0_hasWay_0 rfl (lv_at hl 2 rfl) ?_
  refine lv_if_ne (tgt := 11) X.1 X.2.1 d_X0_hasWay_1 (by decide) (fun q_1 => ?_) (fun q_1 => ?_)
  · have hD := hD.1 q_1
    refine lv_aload_n X.1 X.2.1 d_X0_hasWay_11 rfl (lv_at hl 0 rfl) ?_
    refine gf_0_10 X hw ho tb_92 d_X0_hasWay_12 ?_
    exact s_X0_hasWay_15 X hr hlk  Q o ho  x1 x2 (σ o 10) σ hw (lv_sub hl [0, 1, 2] rfl) hD
  · have hD := hD.2 q_1
    refine lv_aload_n X.1 X.2.1 d_X0_hasWay_4 rfl (lv_at hl 0 rfl) ?_
    refine gf_0_8 X hw ho tb_90 d_X0_hasWay_5 ?_
    refine lv_goto (tgt := 15) X.1 X.2.1 d_X0_hasWay_8 (by decide) ?_
    exact s_X0_hasWay_15 X hr hlk  Q o ho  x1 x2 (σ o 8) σ hw (lv_sub hl [0, 1, 2] rfl) hD
theorem c_X0_hasWay (l : Launch) (G : GC) (o : Nat) (x1 : Int32) (x2 : Int32) (σ : GSt) (Q : Int32 → GSt → Prop) (ho : kd o = 0) (hD : D_X0_hasWay o x1 x2 σ Q) : MI l ym_X0_hasWay cm_X0_hasWay 9 .boolean rm_X0_hasWay G σ [.ref (G.2.1 o), .int x1, .int x2] Q := by
  refine met_i (by decide) (Nat.le_of_ble_eq_true rfl) ?_
  intro p e s m args below meth c X hr hlk hw ls hl
  exact s_X0_hasWay_0 X hr hlk Q o ho x1 x2 σ hw (lv_sub hl [0, 1, 2] rfl) hD
theorem hd_X0_bitBehind : ym_X0_bitBehind.cls = "GameLoom$Board" ∧ ym_X0_bitBehind.cls ≠ "java/lang/invoke/MethodHandle" ∧ ym_X0_bitBehind.cls ≠ "java/lang/invoke/VarHandle" ∧ (parseMethodDescriptor ym_X0_bitBehind.desc).map (fun d => d.parameters.length) = some 2 := by decide +kernel
abbrev rm_X0_bitBehind : Room := { frames := 0, cells := 0, slots := 0, locals := 0 }
theorem d_X0_bitBehind_0 : decode cm_X0_bitBehind 0 = .ok (.iconst 0, 1) := by decide +kernel
theorem d_X0_bitBehind_1 : decode cm_X0_bitBehind 1 = .ok (.istore_n 3, 1) := by decide +kernel
theorem d_X0_bitBehind_2 : decode cm_X0_bitBehind 2 = .ok (.iload_n 3, 1) := by decide +kernel
theorem d_X0_bitBehind_3 : decode cm_X0_bitBehind 3 = .ok (.bipush 8, 2) := by decide +kernel
theorem d_X0_bitBehind_5 : decode cm_X0_bitBehind 5 = .ok (.if_icmp .ge 51, 3) := by decide +kernel
theorem d_X0_bitBehind_8 : decode cm_X0_bitBehind 8 = .ok (.aload_n 0, 1) := by decide +kernel
theorem d_X0_bitBehind_9 : decode cm_X0_bitBehind 9 = .ok (.getfield 9, 3) := by decide +kernel
theorem d_X0_bitBehind_12 : decode cm_X0_bitBehind 12 = .ok (.bipush 8, 2) := by decide +kernel
theorem d_X0_bitBehind_14 : decode cm_X0_bitBehind 14 = .ok (.iload_n 1, 1) := by decide +kernel
theorem d_X0_bitBehind_15 : decode cm_X0_bitBehind 15 = .ok (.imul, 1) := by decide +kernel
theorem d_X0_bitBehind_16 : decode cm_X0_bitBehind 16 = .ok (.iload_n 3, 1) := by decide +kernel
theorem d_X0_bitBehind_17 : decode cm_X0_bitBehind 17 = .ok (.iadd, 1) := by decide +kernel
theorem d_X0_bitBehind_18 : decode cm_X0_bitBehind 18 = .ok (.iaload, 1) := by decide +kernel
theorem d_X0_bitBehind_19 : decode cm_X0_bitBehind 19 = .ok (.iload_n 2, 1) := by decide +kernel
theorem d_X0_bitBehind_20 : decode cm_X0_bitBehind 20 = .ok (.if_icmp .ne 30, 3) := by decide +kernel
theorem d_X0_bitBehind_23 : decode cm_X0_bitBehind 23 = .ok (.aload_n 0, 1) := by decide +kernel
theorem d_X0_bitBehind_24 : decode cm_X0_bitBehind 24 = .ok (.getfield 9, 3) := by decide +kernel
theorem d_X0_bitBehind_27 : decode cm_X0_bitBehind 27 = .ok (.bipush 8, 2) := by decide +kernel
theorem d_X0_bitBehind_29 : decode cm_X0_bitBehind 29 = .ok (.iload_n 2, 1) := by decide +kernel
theorem d_X0_bitBehind_30 : decode cm_X0_bitBehind 30 = .ok (.imul, 1) := by decide +kernel
theorem d_X0_bitBehind_31 : decode cm_X0_bitBehind 31 = .ok (.iload_n 3, 1) := by decide +kernel
theorem d_X0_bitBehind_32 : decode cm_X0_bitBehind 32 = .ok (.iadd, 1) := by decide +kernel
theorem d_X0_bitBehind_33 : decode cm_X0_bitBehind 33 = .ok (.iaload, 1) := by decide +kernel
theorem d_X0_bitBehind_34 : decode cm_X0_bitBehind 34 = .ok (.istore 4, 2) := by decide +kernel
theorem d_X0_bitBehind_36 : decode cm_X0_bitBehind 36 = .ok (.iload 4, 2) := by decide +kernel
theorem d_X0_bitBehind_38 : decode cm_X0_bitBehind 38 = .ok (.ifCond .ge 7, 3) := by decide +kernel
theorem d_X0_bitBehind_41 : decode cm_X0_bitBehind 41 = .ok (.iconst 0, 1) := by decide +kernel
theorem d_X0_bitBehind_42 : decode cm_X0_bitBehind 42 = .ok (.goto 7, 3) := by decide +kernel
theorem d_X0_bitBehind_45 : decode cm_X0_bitBehind 45 = .ok (.iconst 1, 1) := by decide +kernel
theorem d_X0_bitBehind_46 : decode cm_X0_bitBehind 46 = .ok (.iload 4, 2) := by decide +kernel
theorem d_X0_bitBehind_48 : decode cm_X0_bitBehind 48 = .ok (.ishl, 1) := by decide +kernel
theorem d_X0_bitBehind_49 : decode cm_X0_bitBehind 49 = .ok (.ireturn, 1) := by decide +kernel
theorem d_X0_bitBehind_50 : decode cm_X0_bitBehind 50 = .ok (.iinc 3 1, 3) := by decide +kernel
theorem d_X0_bitBehind_53 : decode cm_X0_bitBehind 53 = .ok (.goto (-51), 3) := by decide +kernel
theorem d_X0_bitBehind_56 : decode cm_X0_bitBehind 56 = .ok (.iconst 0, 1) := by decide +kernel
theorem d_X0_bitBehind_57 : decode cm_X0_bitBehind 57 = .ok (.ireturn, 1) := by decide +kernel
def D_X0_bitBehind_2 (K2 : Int32 → Int32 → Int32 → GSt → Prop) (Q : Int32 → GSt → Prop) (o : Nat) (x1 : Int32) (x2 : Int32) (x3 : Int32) (σ : GSt) : Prop :=
  (8 ≤ x3 → Q 0 σ) ∧
  (¬ 8 ≤ x3 → vp_in ((8 * x1) + x3) 128 ∧ ((¬ (σ (o + 1) (Int32.toNatClampNeg ((8 * x1) + x3))) = x2 → ∀ x3_1 : Int32, x3_1 = x3 + 1 → (K2 x1 x2 x3_1 σ)) ∧
  ((σ (o + 1) (Int32.toNatClampNeg ((8 * x1) + x3))) = x2 → vp_in ((8 * x2) + x3) 128 ∧ (∀ x4_2 : Int32, x4_2 = (σ (o + 1) (Int32.toNatClampNeg ((8 * x2) + x3))) → ((0 ≤ x4_2 → Q (jshl 1 x4_2) σ) ∧
  (¬ 0 ≤ x4_2 → Q 0 σ))))))
def L_X0_bitBehind_2 (Q : Int32 → GSt → Prop) (o : Nat) : Nat → Int32 → Int32 → Int32 → GSt → Prop
  | 0 => fun _ _ _ _ => False
  | n + 1 => fun x1 x2 x3 σ => D_X0_bitBehind_2 (L_X0_bitBehind_2 Q o n) Q o x1 x2 x3 σ
def D_X0_bitBehind_0 (Q : Int32 → GSt → Prop) (o : Nat) (x1 : Int32) (x2 : Int32) (σ : GSt) : Prop :=
  ∃ n : Nat, L_X0_bitBehind_2 Q o n x1 x2 0 σ
def D_X0_bitBehind (o : Nat) (x1 : Int32) (x2 : Int32) (σ : GSt) (Q : Int32 → GSt → Prop) : Prop := D_X0_bitBehind_0 Q o x1 x2 σ
set_option maxRecDepth 20000 in
set_option maxHeartbeats 4000000 in
theorem s_X0_bitBehind_2 {p : Program} {l : Launch} {e : Env} {s : State} {m : MethodId} {args : Array Value} {below : List Frame} {meth : Method} {c : Code} {G : GC} (X : CallFix p m c cm_X0_bitBehind 5 s args lw_us "GameLoom$Board") (hr : meth.sig.returnType = some .int) (hlk : meth.locks = false) (K2 : Int32 → Int32 → Int32 → GSt → Prop) (Q : Int32 → GSt → Prop) (o : Nat) (ho : kd o = 0) (hK2 : ∀ (x1 : Int32) (x2 : Int32) (x3 : Int32) (σ : GSt) (H : Heap) (locs : List Loc) (ls : Array Slot), Wo G s H locs σ → lv_has ls 5 [(0, .ref (G.2.1 o)), (1, .int x1), (2, .int x2), (3, .int x3)] → K2 x1 x2 x3 σ → W p l e rm_X0_bitBehind s m args below meth c H locs 0 0 (QMI G Q below args s) (F0 m 2 ls [])) (x1 : Int32) (x2 : Int32) (x3 : Int32) (σ : GSt) {H : Heap} {locs : List Loc} {ls : Array Slot} (hw : Wo G s H locs σ) (hl : lv_has ls 5 [(0, .ref (G.2.1 o)), (1, .int x1), (2, .int x2), (3, .int x3)]) (hD : D_X0_bitBehind_2 K2 Q o x1 x2 x3 σ) : W p l e rm_X0_bitBehind s m args below meth c H locs 0 0 (QMI G Q below args s) (F0 m 2 ls []) := by
  unfold D_X0_bitBehind_2 at hD
  refine lv_iload_n X.1 X.2.1 d_X0_bitBehind_2 rfl (lv_at hl 3 rfl) ?_
  refine lv_bipush (v := 8) X.1 X.2.1 d_X0_bitBehind_3 (by decide) ?_
  refine lv_icmp_ge (tgt := 56) X.1 X.2.1 d_X0_bitBehind_5 (by decide) (fun q_5 => ?_) (fun q_5 => ?_)
  · have hD := hD.1 q_5
    refine lv_iconst (v := 0) X.1 X.2.1 d_X0_bitBehind_56 (by decide) ?_
    exact g_iret X hr hlk hw hD d_X0_bitBehind_57
  · have hD := hD.2 q_5
    refine lv_aload_n X.1 X.2.1 d_X0_bitBehind_8 rfl (lv_at hl 0 rfl) ?_
    refine gf_0_3 X hw ho tb_82 d_X0_bitBehind_9 ?_
    refine lv_bipush (v := 8) X.1 X.2.1 d_X0_bitBehind_12 (by decide) ?_
    refine lv_iload_n X.1 X.2.1 d_X0_bitBehind_14 rfl (lv_at hl 1 rfl) ?_
    refine lv_imul X.1 X.2.1 d_X0_bitBehind_15 ?_
    refine lv_iload_n X.1 X.2.1 d_X0_bitBehind_16 rfl (lv_at hl 3 rfl) ?_
    refine lv_iadd X.1 X.2.1 d_X0_bitBehind_17 ?_
    obtain ⟨q_18, hD⟩ := hD
    refine g_iald X hw (ly_0_3 ho).1 (ly_0_3 ho).2 q_18 d_X0_bitBehind_18 ?_
    refine lv_iload_n X.1 X.2.1 d_X0_bitBehind_19 rfl (lv_at hl 2 rfl) ?_
    refine lv_icmp_ne (tgt := 50) X.1 X.2.1 d_X0_bitBehind_20 (by decide) (fun q_20 => ?_) (fun q_20 => ?_)
    · have hD := hD.1 q_20
      obtain ⟨x3_1, e_x3_1⟩ : ∃ y : Int32, y = x3 + 1 := ⟨_, rfl⟩
      have hD := hD x3_1 e_x3_1
      refine lv_iinc (v := x3_1) (lv' := [(3, .int x3_1), (0, .ref (G.2.1 o)), (1, .int x1), (2, .int x2)]) X.1 X.2.1 d_X0_bitBehind_50 hl (k := 3) rfl (by rw [e_x3_1]; rfl) (by decide) rfl (fun ls hl => ?_)
      refine lv_goto (tgt := 2) X.1 X.2.1 d_X0_bitBehind_53 (by decide) ?_
      exact hK2 x1 x2 x3_1 σ _ _ _  hw (lv_sub hl [1, 2, 3, 0] rfl) hD
    · have hD := hD.2 q_20
      refine lv_aload_n X.1 X.2.1 d_X0_bitBehind_23 rfl (lv_at hl 0 rfl) ?_
      refine gf_0_3 X hw ho tb_82 d_X0_bitBehind_24 ?_
      refine lv_bipush (v := 8) X.1 X.2.1 d_X0_bitBehind_27 (by decide) ?_
      refine lv_iload_n X.1 X.2.1 d_X0_bitBehind_29 rfl (lv_at hl 2 rfl) ?_
      refine lv_imul X.1 X.2.1 d_X0_bitBehind_30 ?_
      refine lv_iload_n X.1 X.2.1 d_X0_bitBehind_31 rfl (lv_at hl 3 rfl) ?_
      refine lv_iadd X.1 X.2.1 d_X0_bitBehind_32 ?_
      obtain ⟨q_33, hD⟩ := hD
      refine g_iald X hw (ly_0_3 ho).1 (ly_0_3 ho).2 q_33 d_X0_bitBehind_33 ?_
      refine lv_topi (fun x4_2 e_x4_2 => ?_)
      have hD := hD x4_2 e_x4_2
      refine lv_istore (lv' := [(4, .int x4_2), (0, .ref (G.2.1 o)), (1, .int x1), (2, .int x2), (3, .int x3)]) X.1 X.2.1 d_X0_bitBehind_34 hl (by decide) rfl (fun ls hl => ?_)
      refine lv_iload X.1 X.2.1 d_X0_bitBehind_36 (lv_at hl 0 rfl) ?_
      refine lv_if_ge (tgt := 45) X.1 X.2.1 d_X0_bitBehind_38 (by decide) (fun q_38 => ?_) (fun q_38 => ?_)
      · have hD := hD.1 q_38
        refine lv_iconst (v := 1) X.1 X.2.1 d_X0_bitBehind_45 (by decide) ?_
        refine lv_iload X.1 X.2.1 d_X0_bitBehind_46 (lv_at hl 0 rfl) ?_
        refine g_ishl X d_X0_bitBehind_48 ?_
        exact g_iret X hr hlk hw hD d_X0_bitBehind_49
      · have hD := hD.2 q_38
        refine lv_iconst (v := 0) X.1 X.2.1 d_X0_bitBehind_41 (by decide) ?_
        refine lv_goto (tgt := 49) X.1 X.2.1 d_X0_bitBehind_42 (by decide) ?_
        exact g_iret X hr hlk hw hD d_X0_bitBehind_49
set_option maxRecDepth 20000 in
set_option maxHeartbeats 4000000 in
theorem sl_X0_bitBehind_2 {p : Program} {l : Launch} {e : Env} {s : State} {m : MethodId} {args : Array Value} {below : List Frame} {meth : Method} {c : Code} {G : GC} (X : CallFix p m c cm_X0_bitBehind 5 s args lw_us "GameLoom$Board") (hr : meth.sig.returnType = some .int) (hlk : meth.locks = false) (Q : Int32 → GSt → Prop) (o : Nat) (ho : kd o = 0) : ∀ (nn : Nat), ∀ (x1 : Int32) (x2 : Int32) (x3 : Int32) (σ : GSt) (H : Heap) (locs : List Loc) (ls : Array Slot), Wo G s H locs σ → lv_has ls 5 [(0, .ref (G.2.1 o)), (1, .int x1), (2, .int x2), (3, .int x3)] → L_X0_bitBehind_2 Q o nn x1 x2 x3 σ → W p l e rm_X0_bitBehind s m args below meth c H locs 0 0 (QMI G Q below args s) (F0 m 2 ls []) := by
  intro nn
  induction nn with
  | zero => intro x1 x2 x3 σ H locs ls  hw hl hD; exact hD.elim
  | succ nn ih =>
    intro x1 x2 x3 σ H locs ls  hw hl hD
    exact s_X0_bitBehind_2 X hr hlk (L_X0_bitBehind_2 Q o nn) Q o ho ih x1 x2 x3 σ hw hl hD
set_option maxRecDepth 20000 in
set_option maxHeartbeats 4000000 in
theorem s_X0_bitBehind_0 {p : Program} {l : Launch} {e : Env} {s : State} {m : MethodId} {args : Array Value} {below : List Frame} {meth : Method} {c : Code} {G : GC} (X : CallFix p m c cm_X0_bitBehind 5 s args lw_us "GameLoom$Board") (hr : meth.sig.returnType = some .int) (hlk : meth.locks = false) (Q : Int32 → GSt → Prop) (o : Nat) (ho : kd o = 0) (x1 : Int32) (x2 : Int32) (σ : GSt) {H : Heap} {locs : List Loc} {ls : Array Slot} (hw : Wo G s H locs σ) (hl : lv_has ls 5 [(0, .ref (G.2.1 o)), (1, .int x1), (2, .int x2)]) (hD : D_X0_bitBehind_0 Q o x1 x2 σ) : W p l e rm_X0_bitBehind s m args below meth c H locs 0 0 (QMI G Q below args s) (F0 m 0 ls []) := by
  unfold D_X0_bitBehind_0 at hD
  refine lv_iconst (v := 0) X.1 X.2.1 d_X0_bitBehind_0 (by decide) ?_
  refine lv_istore_n (lv' := [(3, .int 0), (0, .ref (G.2.1 o)), (1, .int x1), (2, .int x2)]) X.1 X.2.1 d_X0_bitBehind_1 rfl hl (by decide) rfl (fun ls hl => ?_)
  obtain ⟨n9, hD⟩ := hD
  exact sl_X0_bitBehind_2 X hr hlk  Q o ho  n9 x1 x2 0 σ _ _ _  hw (lv_sub hl [1, 2, 3, 0] rfl) hD
theorem c_X0_bitBehind (l : Launch) (G : GC) (o : Nat) (x1 : Int32) (x2 : Int32) (σ : GSt) (Q : Int32 → GSt → Prop) (ho : kd o = 0) (hD : D_X0_bitBehind o x1 x2 σ Q) : MI l ym_X0_bitBehind cm_X0_bitBehind 5 .int rm_X0_bitBehind G σ [.ref (G.2.1 o), .int x1, .int x2] Q := by
  refine met_i (by decide) (Nat.le_of_ble_eq_true rfl) ?_
  intro p e s m args below meth c X hr hlk hw ls hl
  exact s_X0_bitBehind_0 X hr hlk Q o ho x1 x2 σ hw (lv_sub hl [0, 1, 2] rfl) hD
theorem hd_X1_falls : ym_X1_falls.cls = "GameLoom$Game" ∧ ym_X1_falls.cls ≠ "java/lang/invoke/MethodHandle" ∧ ym_X1_falls.cls ≠ "java/lang/invoke/VarHandle" ∧ (parseMethodDescriptor ym_X1_falls.desc).map (fun d => d.parameters.length) = some 0 := by decide +kernel
abbrev rm_X1_falls : Room := { frames := 0, cells := 0, slots := 0, locals := 0 }
theorem d_X1_falls_0 : decode cm_X1_falls 0 = .ok (.iconst 1, 1) := by decide +kernel
theorem d_X1_falls_1 : decode cm_X1_falls 1 = .ok (.istore_n 1, 1) := by decide +kernel
theorem d_X1_falls_2 : decode cm_X1_falls 2 = .ok (.iconst 1, 1) := by decide +kernel
theorem d_X1_falls_3 : decode cm_X1_falls 3 = .ok (.istore_n 2, 1) := by decide +kernel
theorem d_X1_falls_4 : decode cm_X1_falls 4 = .ok (.iconst 0, 1) := by decide +kernel
theorem d_X1_falls_5 : decode cm_X1_falls 5 = .ok (.istore_n 3, 1) := by decide +kernel
theorem d_X1_falls_6 : decode cm_X1_falls 6 = .ok (.iload_n 3, 1) := by decide +kernel
theorem d_X1_falls_7 : decode cm_X1_falls 7 = .ok (.aload_n 0, 1) := by decide +kernel
theorem d_X1_falls_8 : decode cm_X1_falls 8 = .ok (.getfield 35, 3) := by decide +kernel
theorem d_X1_falls_11 : decode cm_X1_falls 11 = .ok (.if_icmp .ge 57, 3) := by decide +kernel
theorem d_X1_falls_14 : decode cm_X1_falls 14 = .ok (.aload_n 0, 1) := by decide +kernel
theorem d_X1_falls_15 : decode cm_X1_falls 15 = .ok (.getfield 27, 3) := by decide +kernel
theorem d_X1_falls_18 : decode cm_X1_falls 18 = .ok (.iload_n 3, 1) := by decide +kernel
theorem d_X1_falls_19 : decode cm_X1_falls 19 = .ok (.aaload, 1) := by decide +kernel
theorem d_X1_falls_20 : decode cm_X1_falls 20 = .ok (.getfield 39, 3) := by decide +kernel
theorem d_X1_falls_23 : decode cm_X1_falls 23 = .ok (.istore 4, 2) := by decide +kernel
theorem d_X1_falls_25 : decode cm_X1_falls 25 = .ok (.iload_n 1, 1) := by decide +kernel
theorem d_X1_falls_26 : decode cm_X1_falls 26 = .ok (.ifCond .eq 12, 3) := by decide +kernel
theorem d_X1_falls_29 : decode cm_X1_falls 29 = .ok (.iload 4, 2) := by decide +kernel
theorem d_X1_falls_31 : decode cm_X1_falls 31 = .ok (.ifCond .ne 7, 3) := by decide +kernel
theorem d_X1_falls_34 : decode cm_X1_falls 34 = .ok (.iconst 1, 1) := by decide +kernel
theorem d_X1_falls_35 : decode cm_X1_falls 35 = .ok (.goto 4, 3) := by decide +kernel
theorem d_X1_falls_38 : decode cm_X1_falls 38 = .ok (.iconst 0, 1) := by decide +kernel
theorem d_X1_falls_39 : decode cm_X1_falls 39 = .ok (.istore_n 1, 1) := by decide +kernel
theorem d_X1_falls_40 : decode cm_X1_falls 40 = .ok (.iload_n 2, 1) := by decide +kernel
theorem d_X1_falls_41 : decode cm_X1_falls 41 = .ok (.ifCond .eq 19, 3) := by decide +kernel
theorem d_X1_falls_44 : decode cm_X1_falls 44 = .ok (.iload 4, 2) := by decide +kernel
theorem d_X1_falls_46 : decode cm_X1_falls 46 = .ok (.iconst 2, 1) := by decide +kernel
theorem d_X1_falls_47 : decode cm_X1_falls 47 = .ok (.if_icmp .eq 9, 3) := by decide +kernel
theorem d_X1_falls_50 : decode cm_X1_falls 50 = .ok (.iload 4, 2) := by decide +kernel
theorem d_X1_falls_52 : decode cm_X1_falls 52 = .ok (.iconst 3, 1) := by decide +kernel
theorem d_X1_falls_53 : decode cm_X1_falls 53 = .ok (.if_icmp .ne 7, 3) := by decide +kernel
theorem d_X1_falls_56 : decode cm_X1_falls 56 = .ok (.iconst 1, 1) := by decide +kernel
theorem d_X1_falls_57 : decode cm_X1_falls 57 = .ok (.goto 4, 3) := by decide +kernel
theorem d_X1_falls_60 : decode cm_X1_falls 60 = .ok (.iconst 0, 1) := by decide +kernel
theorem d_X1_falls_61 : decode cm_X1_falls 61 = .ok (.istore_n 2, 1) := by decide +kernel
theorem d_X1_falls_62 : decode cm_X1_falls 62 = .ok (.iinc 3 1, 3) := by decide +kernel
theorem d_X1_falls_65 : decode cm_X1_falls 65 = .ok (.goto (-59), 3) := by decide +kernel
theorem d_X1_falls_68 : decode cm_X1_falls 68 = .ok (.iload_n 1, 1) := by decide +kernel
theorem d_X1_falls_69 : decode cm_X1_falls 69 = .ok (.ifCond .eq 7, 3) := by decide +kernel
theorem d_X1_falls_72 : decode cm_X1_falls 72 = .ok (.iconst 0, 1) := by decide +kernel
theorem d_X1_falls_73 : decode cm_X1_falls 73 = .ok (.goto 13, 3) := by decide +kernel
theorem d_X1_falls_76 : decode cm_X1_falls 76 = .ok (.iload_n 2, 1) := by decide +kernel
theorem d_X1_falls_77 : decode cm_X1_falls 77 = .ok (.ifCond .eq 7, 3) := by decide +kernel
theorem d_X1_falls_80 : decode cm_X1_falls 80 = .ok (.iconst 1, 1) := by decide +kernel
theorem d_X1_falls_81 : decode cm_X1_falls 81 = .ok (.goto 5, 3) := by decide +kernel
theorem d_X1_falls_84 : decode cm_X1_falls 84 = .ok (.bipush (-9), 2) := by decide +kernel
theorem d_X1_falls_86 : decode cm_X1_falls 86 = .ok (.ireturn, 1) := by decide +kernel
def D_X1_falls_61 (K6 : Int32 → Int32 → Int32 → GSt → Prop) (Q : Int32 → GSt → Prop) (o : Nat) (x1 : Int32) (x3 : Int32) (s0 : Int32) (σ : GSt) : Prop :=
  ∀ x3_1 : Int32, x3_1 = x3 + 1 → (K6 x1 s0 x3_1 σ)
def D_X1_falls_60 (K6 : Int32 → Int32 → Int32 → GSt → Prop) (Q : Int32 → GSt → Prop) (o : Nat) (x1 : Int32) (x3 : Int32) (σ : GSt) : Prop :=
  D_X1_falls_61 K6 Q o x1 x3 0 σ
def D_X1_falls_56 (K6 : Int32 → Int32 → Int32 → GSt → Prop) (Q : Int32 → GSt → Prop) (o : Nat) (x1 : Int32) (x3 : Int32) (σ : GSt) : Prop :=
  D_X1_falls_61 K6 Q o x1 x3 1 σ
def D_X1_falls_39 (K6 : Int32 → Int32 → Int32 → GSt → Prop) (Q : Int32 → GSt → Prop) (o : Nat) (x2 : Int32) (x3 : Int32) (x4 : Int32) (s0 : Int32) (σ : GSt) : Prop :=
  (x2 = 0 → D_X1_falls_60 K6 Q o s0 x3 σ) ∧
  (¬ x2 = 0 → (x4 = 2 → D_X1_falls_56 K6 Q o s0 x3 σ) ∧
  (¬ x4 = 2 → (¬ x4 = 3 → D_X1_falls_60 K6 Q o s0 x3 σ) ∧
  (x4 = 3 → D_X1_falls_56 K6 Q o s0 x3 σ)))
def D_X1_falls_38 (K6 : Int32 → Int32 → Int32 → GSt → Prop) (Q : Int32 → GSt → Prop) (o : Nat) (x2 : Int32) (x3 : Int32) (x4 : Int32) (σ : GSt) : Prop :=
  D_X1_falls_39 K6 Q o x2 x3 x4 0 σ
def D_X1_falls_6 (K6 : Int32 → Int32 → Int32 → GSt → Prop) (Q : Int32 → GSt → Prop) (o : Nat) (x1 : Int32) (x2 : Int32) (x3 : Int32) (σ : GSt) : Prop :=
  ((σ o 5) ≤ x3 → (x1 = 0 → (x2 = 0 → Q (-9) σ) ∧
  (¬ x2 = 0 → Q 1 σ)) ∧
  (¬ x1 = 0 → Q 0 σ)) ∧
  (¬ (σ o 5) ≤ x3 → vp_in x3 6 ∧ (∀ x4_1 : Int32, x4_1 = (σ ((o + 8) + 2 + 2 * Int32.toNatClampNeg x3) 0) → ((x1 = 0 → D_X1_falls_38 K6 Q o x2 x3 x4_1 σ) ∧
  (¬ x1 = 0 → (¬ x4_1 = 0 → D_X1_falls_38 K6 Q o x2 x3 x4_1 σ) ∧
  (x4_1 = 0 → D_X1_falls_39 K6 Q o x2 x3 x4_1 1 σ)))))
def L_X1_falls_6 (Q : Int32 → GSt → Prop) (o : Nat) : Nat → Int32 → Int32 → Int32 → GSt → Prop
  | 0 => fun _ _ _ _ => False
  | n + 1 => fun x1 x2 x3 σ => D_X1_falls_6 (L_X1_falls_6 Q o n) Q o x1 x2 x3 σ
def D_X1_falls_0 (Q : Int32 → GSt → Prop) (o : Nat) (σ : GSt) : Prop :=
  ∃ n : Nat, L_X1_falls_6 Q o n 1 1 0 σ
def D_X1_falls (o : Nat) (σ : GSt) (Q : Int32 → GSt → Prop) : Prop := D_X1_falls_0 Q o σ
set_option maxRecDepth 20000 in
set_option maxHeartbeats 4000000 in
theorem s_X1_falls_61 {p : Program} {l : Launch} {e : Env} {s : State} {m : MethodId} {args : Array Value} {below : List Frame} {meth : Method} {c : Code} {G : GC} (X : CallFix p m c cm_X1_falls 5 s args lw_us "GameLoom$Game") (hr : meth.sig.returnType = some .int) (hlk : meth.locks = false) (K6 : Int32 → Int32 → Int32 → GSt → Prop) (Q : Int32 → GSt → Prop) (o : Nat) (ho : kd o = 1) (hK6 : ∀ (x1 : Int32) (x2 : Int32) (x3 : Int32) (σ : GSt) (H : Heap) (locs : List Loc) (ls : Array Slot), Wo G s H locs σ → lv_has ls 5 [(0, .ref (G.2.1 o)), (1, .int x1), (2, .int x2), (3, .int x3)] → K6 x1 x2 x3 σ → W p l e rm_X1_falls s m args below meth c H locs 0 0 (QMI G Q below args s) (F0 m 6 ls [])) (x1 : Int32) (x3 : Int32) (s0 : Int32) (σ : GSt) {H : Heap} {locs : List Loc} {ls : Array Slot} (hw : Wo G s H locs σ) (hl : lv_has ls 5 [(0, .ref (G.2.1 o)), (1, .int x1), (3, .int x3)]) (hD : D_X1_falls_61 K6 Q o x1 x3 s0 σ) : W p l e rm_X1_falls s m args below meth c H locs 0 0 (QMI G Q below args s) (F0 m 61 ls [.int s0]) := by
  unfold D_X1_falls_61 at hD
  refine lv_istore_n (lv' := [(2, .int s0), (0, .ref (G.2.1 o)), (1, .int x1), (3, .int x3)]) X.1 X.2.1 d_X1_falls_61 rfl hl (by decide) rfl (fun ls hl => ?_)
  obtain ⟨x3_1, e_x3_1⟩ : ∃ y : Int32, y = x3 + 1 := ⟨_, rfl⟩
  have hD := hD x3_1 e_x3_1
  refine lv_iinc (v := x3_1) (lv' := [(3, .int x3_1), (2, .int s0), (0, .ref (G.2.1 o)), (1, .int x1)]) X.1 X.2.1 d_X1_falls_62 hl (k := 3) rfl (by rw [e_x3_1]; rfl) (by decide) rfl (fun ls hl => ?_)
  refine lv_goto (tgt := 6) X.1 X.2.1 d_X1_falls_65 (by decide) ?_
  exact hK6 x1 s0 x3_1 σ _ _ _  hw (lv_sub hl [2, 3, 1, 0] rfl) hD
set_option maxRecDepth 20000 in
set_option maxHeartbeats 4000000 in
theorem s_X1_falls_60 {p : Program} {l : Launch} {e : Env} {s : State} {m : MethodId} {args : Array Value} {below : List Frame} {meth : Method} {c : Code} {G : GC} (X : CallFix p m c cm_X1_falls 5 s args lw_us "GameLoom$Game") (hr : meth.sig.returnType = some .int) (hlk : meth.locks = false) (K6 : Int32 → Int32 → Int32 → GSt → Prop) (Q : Int32 → GSt → Prop) (o : Nat) (ho : kd o = 1) (hK6 : ∀ (x1 : Int32) (x2 : Int32) (x3 : Int32) (σ : GSt) (H : Heap) (locs : List Loc) (ls : Array Slot), Wo G s H locs σ → lv_has ls 5 [(0, .ref (G.2.1 o)), (1, .int x1), (2, .int x2), (3, .int x3)] → K6 x1 x2 x3 σ → W p l e rm_X1_falls s m args below meth c H locs 0 0 (QMI G Q below args s) (F0 m 6 ls [])) (x1 : Int32) (x3 : Int32) (σ : GSt) {H : Heap} {locs : List Loc} {ls : Array Slot} (hw : Wo G s H locs σ) (hl : lv_has ls 5 [(0, .ref (G.2.1 o)), (1, .int x1), (3, .int x3)]) (hD : D_X1_falls_60 K6 Q o x1 x3 σ) : W p l e rm_X1_falls s m args below meth c H locs 0 0 (QMI G Q below args s) (F0 m 60 ls []) := by
  unfold D_X1_falls_60 at hD
  refine lv_iconst (v := 0) X.1 X.2.1 d_X1_falls_60 (by decide) ?_
  exact s_X1_falls_61 X hr hlk K6 Q o ho hK6 x1 x3 0 σ hw (lv_sub hl [0, 1, 2] rfl) hD
set_option maxRecDepth 20000 in
set_option maxHeartbeats 4000000 in
theorem s_X1_falls_56 {p : Program} {l : Launch} {e : Env} {s : State} {m : MethodId} {args : Array Value} {below : List Frame} {meth : Method} {c : Code} {G : GC} (X : CallFix p m c cm_X1_falls 5 s args lw_us "GameLoom$Game") (hr : meth.sig.returnType = some .int) (hlk : meth.locks = false) (K6 : Int32 → Int32 → Int32 → GSt → Prop) (Q : Int32 → GSt → Prop) (o : Nat) (ho : kd o = 1) (hK6 : ∀ (x1 : Int32) (x2 : Int32) (x3 : Int32) (σ : GSt) (H : Heap) (locs : List Loc) (ls : Array Slot), Wo G s H locs σ → lv_has ls 5 [(0, .ref (G.2.1 o)), (1, .int x1), (2, .int x2), (3, .int x3)] → K6 x1 x2 x3 σ → W p l e rm_X1_falls s m args below meth c H locs 0 0 (QMI G Q below args s) (F0 m 6 ls [])) (x1 : Int32) (x3 : Int32) (σ : GSt) {H : Heap} {locs : List Loc} {ls : Array Slot} (hw : Wo G s H locs σ) (hl : lv_has ls 5 [(0, .ref (G.2.1 o)), (1, .int x1), (3, .int x3)]) (hD : D_X1_falls_56 K6 Q o x1 x3 σ) : W p l e rm_X1_falls s m args below meth c H locs 0 0 (QMI G Q below args s) (F0 m 56 ls []) := by
  unfold D_X1_falls_56 at hD
  refine lv_iconst (v := 1) X.1 X.2.1 d_X1_falls_56 (by decide) ?_
  refine lv_goto (tgt := 61) X.1 X.2.1 d_X1_falls_57 (by decide) ?_
  exact s_X1_falls_61 X hr hlk K6 Q o ho hK6 x1 x3 1 σ hw (lv_sub hl [0, 1, 2] rfl) hD
set_option maxRecDepth 20000 in
set_option maxHeartbeats 4000000 in
theorem s_X1_falls_39 {p : Program} {l : Launch} {e : Env} {s : State} {m : MethodId} {args : Array Value} {below : List Frame} {meth : Method} {c : Code} {G : GC} (X : CallFix p m c cm_X1_falls 5 s args lw_us "GameLoom$Game") (hr : meth.sig.returnType = some .int) (hlk : meth.locks = false) (K6 : Int32 → Int32 → Int32 → GSt → Prop) (Q : Int32 → GSt → Prop) (o : Nat) (ho : kd o = 1) (hK6 : ∀ (x1 : Int32) (x2 : Int32) (x3 : Int32) (σ : GSt) (H : Heap) (locs : List Loc) (ls : Array Slot), Wo G s H locs σ → lv_has ls 5 [(0, .ref (G.2.1 o)), (1, .int x1), (2, .int x2), (3, .int x3)] → K6 x1 x2 x3 σ → W p l e rm_X1_falls s m args below meth c H locs 0 0 (QMI G Q below args s) (F0 m 6 ls [])) (x2 : Int32) (x3 : Int32) (x4 : Int32) (s0 : Int32) (σ : GSt) {H : Heap} {locs : List Loc} {ls : Array Slot} (hw : Wo G s H locs σ) (hl : lv_has ls 5 [(0, .ref (G.2.1 o)), (2, .int x2), (3, .int x3), (4, .int x4)]) (hD : D_X1_falls_39 K6 Q o x2 x3 x4 s0 σ) : W p l e rm_X1_falls s m args below meth c H locs 0 0 (QMI G Q below args s) (F0 m 39 ls [.int s0]) := by
  unfold D_X1_falls_39 at hD
  refine lv_istore_n (lv' := [(1, .int s0), (0, .ref (G.2.1 o)), (2, .int x2), (3, .int x3), (4, .int x4)]) X.1 X.2.1 d_X1_falls_39 rfl hl (by decide) rfl (fun ls hl => ?_)
  refine lv_iload_n X.1 X.2.1 d_X1_falls_40 rfl (lv_at hl 2 rfl) ?_
  refine lv_if_eq (tgt := 60) X.1 X.2.1 d_X1_falls_41 (by decide) (fun q_41 => ?_) (fun q_41 => ?_)
  · have hD := hD.1 q_41
    exact s_X1_falls_60 X hr hlk K6 Q o ho hK6 s0 x3 σ hw (lv_sub hl [1, 0, 3] rfl) hD
  · have hD := hD.2 q_41
    refine lv_iload X.1 X.2.1 d_X1_falls_44 (lv_at hl 4 rfl) ?_
    refine lv_iconst (v := 2) X.1 X.2.1 d_X1_falls_46 (by decide) ?_
    refine lv_icmp_eq (tgt := 56) X.1 X.2.1 d_X1_falls_47 (by decide) (fun q_47 => ?_) (fun q_47 => ?_)
    · have hD := hD.1 q_47
      exact s_X1_falls_56 X hr hlk K6 Q o ho hK6 s0 x3 σ hw (lv_sub hl [1, 0, 3] rfl) hD
    · have hD := hD.2 q_47
      refine lv_iload X.1 X.2.1 d_X1_falls_50 (lv_at hl 4 rfl) ?_
      refine lv_iconst (v := 3) X.1 X.2.1 d_X1_falls_52 (by decide) ?_
      refine lv_icmp_ne (tgt := 60) X.1 X.2.1 d_X1_falls_53 (by decide) (fun q_53 => ?_) (fun q_53 => ?_)
      · have hD := hD.1 q_53
        exact s_X1_falls_60 X hr hlk K6 Q o ho hK6 s0 x3 σ hw (lv_sub hl [1, 0, 3] rfl) hD
      · have hD := hD.2 q_53
        exact s_X1_falls_56 X hr hlk K6 Q o ho hK6 s0 x3 σ hw (lv_sub hl [1, 0, 3] rfl) hD
set_option maxRecDepth 20000 in
set_option maxHeartbeats 4000000 in
theorem s_X1_falls_38 {p : Program} {l : Launch} {e : Env} {s : State} {m : MethodId} {args : Array Value} {below : List Frame} {meth : Method} {c : Code} {G : GC} (X : CallFix p m c cm_X1_falls 5 s args lw_us "GameLoom$Game") (hr : meth.sig.returnType = some .int) (hlk : meth.locks = false) (K6 : Int32 → Int32 → Int32 → GSt → Prop) (Q : Int32 → GSt → Prop) (o : Nat) (ho : kd o = 1) (hK6 : ∀ (x1 : Int32) (x2 : Int32) (x3 : Int32) (σ : GSt) (H : Heap) (locs : List Loc) (ls : Array Slot), Wo G s H locs σ → lv_has ls 5 [(0, .ref (G.2.1 o)), (1, .int x1), (2, .int x2), (3, .int x3)] → K6 x1 x2 x3 σ → W p l e rm_X1_falls s m args below meth c H locs 0 0 (QMI G Q below args s) (F0 m 6 ls [])) (x2 : Int32) (x3 : Int32) (x4 : Int32) (σ : GSt) {H : Heap} {locs : List Loc} {ls : Array Slot} (hw : Wo G s H locs σ) (hl : lv_has ls 5 [(0, .ref (G.2.1 o)), (2, .int x2), (3, .int x3), (4, .int x4)]) (hD : D_X1_falls_38 K6 Q o x2 x3 x4 σ) : W p l e rm_X1_falls s m args below meth c H locs 0 0 (QMI G Q below args s) (F0 m 38 ls []) := by
  unfold D_X1_falls_38 at hD
  refine lv_iconst (v := 0) X.1 X.2.1 d_X1_falls_38 (by decide) ?_
  exact s_X1_falls_39 X hr hlk K6 Q o ho hK6 x2 x3 x4 0 σ hw (lv_sub hl [0, 1, 2, 3] rfl) hD
set_option maxRecDepth 20000 in
set_option maxHeartbeats 4000000 in
theorem s_X1_falls_6 {p : Program} {l : Launch} {e : Env} {s : State} {m : MethodId} {args : Array Value} {below : List Frame} {meth : Method} {c : Code} {G : GC} (X : CallFix p m c cm_X1_falls 5 s args lw_us "GameLoom$Game") (hr : meth.sig.returnType = some .int) (hlk : meth.locks = false) (K6 : Int32 → Int32 → Int32 → GSt → Prop) (Q : Int32 → GSt → Prop) (o : Nat) (ho : kd o = 1) (hK6 : ∀ (x1 : Int32) (x2 : Int32) (x3 : Int32) (σ : GSt) (H : Heap) (locs : List Loc) (ls : Array Slot), Wo G s H locs σ → lv_has ls 5 [(0, .ref (G.2.1 o)), (1, .int x1), (2, .int x2), (3, .int x3)] → K6 x1 x2 x3 σ → W p l e rm_X1_falls s m args below meth c H locs 0 0 (QMI G Q below args s) (F0 m 6 ls [])) (x1 : Int32) (x2 : Int32) (x3 : Int32) (σ : GSt) {H : Heap} {locs : List Loc} {ls : Array Slot} (hw : Wo G s H locs σ) (hl : lv_has ls 5 [(0, .ref (G.2.1 o)), (1, .int x1), (2, .int x2), (3, .int x3)]) (hD : D_X1_falls_6 K6 Q o x1 x2 x3 σ) : W p l e rm_X1_falls s m args below meth c H locs 0 0 (QMI G Q below args s) (F0 m 6 ls []) := by
  unfold D_X1_falls_6 at hD
  refine lv_iload_n X.1 X.2.1 d_X1_falls_6 rfl (lv_at hl 3 rfl) ?_
  refine lv_aload_n X.1 X.2.1 d_X1_falls_7 rfl (lv_at hl 0 rfl) ?_
  refine gf_1_5 X hw ho tb_166 d_X1_falls_8 ?_
  refine lv_icmp_ge (tgt := 68) X.1 X.2.1 d_X1_falls_11 (by decide) (fun q_11 => ?_) (fun q_11 => ?_)
  · have hD := hD.1 q_11
    refine lv_iload_n X.1 X.2.1 d_X1_falls_68 rfl (lv_at hl 1 rfl) ?_
    refine lv_if_eq (tgt := 76) X.1 X.2.1 d_X1_falls_69 (by decide) (fun q_69 => ?_) (fun q_69 => ?_)
    · have hD := hD.1 q_69
      refine lv_iload_n X.1 X.2.1 d_X1_falls_76 rfl (lv_at hl 2 rfl) ?_
      refine lv_if_eq (tgt := 84) X.1 X.2.1 d_X1_falls_77 (by decide) (fun q_77 => ?_) (fun q_77 => ?_)
      · have hD := hD.1 q_77
        refine lv_bipush (v := (-9)) X.1 X.2.1 d_X1_falls_84 (by decide) ?_
        exact g_iret X hr hlk hw hD d_X1_falls_86
      · have hD := hD.2 q_77
        refine lv_iconst (v := 1) X.1 X.2.1 d_X1_falls_80 (by decide) ?_
        refine lv_goto (tgt := 86) X.1 X.2.1 d_X1_falls_81 (by decide) ?_
        exact g_iret X hr hlk hw hD d_X1_falls_86
    · have hD := hD.2 q_69
      refine lv_iconst (v := 0) X.1 X.2.1 d_X1_falls_72 (by decide) ?_
      refine lv_goto (tgt := 86) X.1 X.2.1 d_X1_falls_73 (by decide) ?_
      exact g_iret X hr hlk hw hD d_X1_falls_86
  · have hD := hD.2 q_11
    refine lv_aload_n X.1 X.2.1 d_X1_falls_14 rfl (lv_at hl 0 rfl) ?_
    refine gf_1_4 X hw ho tb_163 d_X1_falls_15 ?_
    refine lv_iload_n X.1 X.2.1 d_X1_falls_18 rfl (lv_at hl 3 rfl) ?_
    obtain ⟨q_19, hD⟩ := hD
    refine g_aald15 X hw (ly_1_4 ho).1 q_19 d_X1_falls_19 ?_
    refine gf_7_0 X hw (le_15 (ly_1_4 ho).1 q_19) tb_126 d_X1_falls_20 ?_
    refine lv_topi (fun x4_1 e_x4_1 => ?_)
    have hD := hD x4_1 e_x4_1
    refine lv_istore (lv' := [(4, .int x4_1), (0, .ref (G.2.1 o)), (1, .int x1), (2, .int x2), (3, .int x3)]) X.1 X.2.1 d_X1_falls_23 hl (by decide) rfl (fun ls hl => ?_)
    refine lv_iload_n X.1 X.2.1 d_X1_falls_25 rfl (lv_at hl 2 rfl) ?_
    refine lv_if_eq (tgt := 38) X.1 X.2.1 d_X1_falls_26 (by decide) (fun q_26 => ?_) (fun q_26 => ?_)
    · have hD := hD.1 q_26
      exact s_X1_falls_38 X hr hlk K6 Q o ho hK6 x2 x3 x4_1 σ hw (lv_sub hl [1, 3, 4, 0] rfl) hD
    · have hD := hD.2 q_26
      refine lv_iload X.1 X.2.1 d_X1_falls_29 (lv_at hl 0 rfl) ?_
      refine lv_if_ne (tgt := 38) X.1 X.2.1 d_X1_falls_31 (by decide) (fun q_31 => ?_) (fun q_31 => ?_)
      · have hD := hD.1 q_31
        exact s_X1_falls_38 X hr hlk K6 Q o ho hK6 x2 x3 x4_1 σ hw (lv_sub hl [1, 3, 4, 0] rfl) hD
      · have hD := hD.2 q_31
        refine lv_iconst (v := 1) X.1 X.2.1 d_X1_falls_34 (by decide) ?_
        refine lv_goto (tgt := 39) X.1 X.2.1 d_X1_falls_35 (by decide) ?_
        exact s_X1_falls_39 X hr hlk K6 Q o ho hK6 x2 x3 x4_1 1 σ hw (lv_sub hl [1, 3, 4, 0] rfl) hD
set_option maxRecDepth 20000 in
set_option maxHeartbeats 4000000 in
theorem sl_X1_falls_6 {p : Program} {l : Launch} {e : Env} {s : State} {m : MethodId} {args : Array Value} {below : List Frame} {meth : Method} {c : Code} {G : GC} (X : CallFix p m c cm_X1_falls 5 s args lw_us "GameLoom$Game") (hr : meth.sig.returnType = some .int) (hlk : meth.locks = false) (Q : Int32 → GSt → Prop) (o : Nat) (ho : kd o = 1) : ∀ (nn : Nat), ∀ (x1 : Int32) (x2 : Int32) (x3 : Int32) (σ : GSt) (H : Heap) (locs : List Loc) (ls : Array Slot), Wo G s H locs σ → lv_has ls 5 [(0, .ref (G.2.1 o)), (1, .int x1), (2, .int x2), (3, .int x3)] → L_X1_falls_6 Q o nn x1 x2 x3 σ → W p l e rm_X1_falls s m args below meth c H locs 0 0 (QMI G Q below args s) (F0 m 6 ls []) := by
  intro nn
  induction nn with
  | zero => intro x1 x2 x3 σ H locs ls  hw hl hD; exact hD.elim
  | succ nn ih =>
    intro x1 x2 x3 σ H locs ls  hw hl hD
    exact s_X1_falls_6 X hr hlk (L_X1_falls_6 Q o nn) Q o ho ih x1 x2 x3 σ hw hl hD
set_option maxRecDepth 20000 in
set_option maxHeartbeats 4000000 in
theorem s_X1_falls_0 {p : Program} {l : Launch} {e : Env} {s : State} {m : MethodId} {args : Array Value} {below : List Frame} {meth : Method} {c : Code} {G : GC} (X : CallFix p m c cm_X1_falls 5 s args lw_us "GameLoom$Game") (hr : meth.sig.returnType = some .int) (hlk : meth.locks = false) (Q : Int32 → GSt → Prop) (o : Nat) (ho : kd o = 1) (σ : GSt) {H : Heap} {locs : List Loc} {ls : Array Slot} (hw : Wo G s H locs σ) (hl : lv_has ls 5 [(0, .ref (G.2.1 o))]) (hD : D_X1_falls_0 Q o σ) : W p l e rm_X1_falls s m args below meth c H locs 0 0 (QMI G Q below args s) (F0 m 0 ls []) := by
  unfold D_X1_falls_0 at hD
  refine lv_iconst (v := 1) X.1 X.2.1 d_X1_falls_0 (by decide) ?_
  refine lv_istore_n (lv' := [(1, .int 1), (0, .ref (G.2.1 o))]) X.1 X.2.1 d_X1_falls_1 rfl hl (by decide) rfl (fun ls hl => ?_)
  refine lv_iconst (v := 1) X.1 X.2.1 d_X1_falls_2 (by decide) ?_
  refine lv_istore_n (lv' := [(2, .int 1), (1, .int 1), (0, .ref (G.2.1 o))]) X.1 X.2.1 d_X1_falls_3 rfl hl (by decide) rfl (fun ls hl => ?_)
  refine lv_iconst (v := 0) X.1 X.2.1 d_X1_falls_4 (by decide) ?_
  refine lv_istore_n (lv' := [(3, .int 0), (2, .int 1), (1, .int 1), (0, .ref (G.2.1 o))]) X.1 X.2.1 d_X1_falls_5 rfl hl (by decide) rfl (fun ls hl => ?_)
  obtain ⟨n9, hD⟩ := hD
  exact sl_X1_falls_6 X hr hlk  Q o ho  n9 1 1 0 σ _ _ _  hw (lv_sub hl [3, 2, 1, 0] rfl) hD
theorem c_X1_falls (l : Launch) (G : GC) (o : Nat) (σ : GSt) (Q : Int32 → GSt → Prop) (ho : kd o = 1) (hD : D_X1_falls o σ Q) : MI l ym_X1_falls cm_X1_falls 5 .int rm_X1_falls G σ [.ref (G.2.1 o)] Q := by
  refine met_i (by decide) (Nat.le_of_ble_eq_true rfl) ?_
  intro p e s m args below meth c X hr hlk hw ls hl
  exact s_X1_falls_0 X hr hlk Q o ho  σ hw (lv_sub hl [0] rfl) hD
