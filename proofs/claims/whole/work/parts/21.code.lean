theorem hd_X11_game : ym_X11_game.cls = "GameLoomModel" ∧ ym_X11_game.cls ≠ "java/lang/invoke/MethodHandle" ∧ ym_X11_game.cls ≠ "java/lang/invoke/VarHandle" ∧ (parseMethodDescriptor ym_X11_game.desc).map (fun d => d.parameters.length) = some 0 := by decide +kernel
abbrev rm_X11_game : Room := { frames := 5, cells := 0, slots := 0, locals := 114 }
theorem d_X11_game_0 : decode cm_X11_game 0 = .ok (.aload_n 0, 1) := by decide +kernel
theorem d_X11_game_1 : decode cm_X11_game 1 = .ok (.getfield 191, 3) := by decide +kernel
theorem d_X11_game_4 : decode cm_X11_game 4 = .ok (.bipush 8, 2) := by decide +kernel
theorem d_X11_game_6 : decode cm_X11_game 6 = .ok (.if_icmp .ne 10, 3) := by decide +kernel
theorem d_X11_game_9 : decode cm_X11_game 9 = .ok (.aload_n 0, 1) := by decide +kernel
theorem d_X11_game_10 : decode cm_X11_game 10 = .ok (.bipush (-6), 2) := by decide +kernel
theorem d_X11_game_12 : decode cm_X11_game 12 = .ok (.invokevirtual 147, 3) := by decide +kernel
theorem d_X11_game_15 : decode cm_X11_game 15 = .ok (.ireturn, 1) := by decide +kernel
theorem d_X11_game_16 : decode cm_X11_game 16 = .ok (.aload_n 0, 1) := by decide +kernel
theorem d_X11_game_17 : decode cm_X11_game 17 = .ok (.invokevirtual 198, 3) := by decide +kernel
theorem d_X11_game_20 : decode cm_X11_game 20 = .ok (.iconst 0, 1) := by decide +kernel
theorem d_X11_game_21 : decode cm_X11_game 21 = .ok (.istore_n 1, 1) := by decide +kernel
theorem d_X11_game_22 : decode cm_X11_game 22 = .ok (.iload_n 1, 1) := by decide +kernel
theorem d_X11_game_23 : decode cm_X11_game 23 = .ok (.aload_n 0, 1) := by decide +kernel
theorem d_X11_game_24 : decode cm_X11_game 24 = .ok (.getfield 144, 3) := by decide +kernel
theorem d_X11_game_27 : decode cm_X11_game 27 = .ok (.if_icmp .ge 19, 3) := by decide +kernel
theorem d_X11_game_30 : decode cm_X11_game 30 = .ok (.aload_n 0, 1) := by decide +kernel
theorem d_X11_game_31 : decode cm_X11_game 31 = .ok (.aload_n 0, 1) := by decide +kernel
theorem d_X11_game_32 : decode cm_X11_game 32 = .ok (.getfield 13, 3) := by decide +kernel
theorem d_X11_game_35 : decode cm_X11_game 35 = .ok (.iload_n 1, 1) := by decide +kernel
theorem d_X11_game_36 : decode cm_X11_game 36 = .ok (.iaload, 1) := by decide +kernel
theorem d_X11_game_37 : decode cm_X11_game 37 = .ok (.invokevirtual 194, 3) := by decide +kernel
theorem d_X11_game_40 : decode cm_X11_game 40 = .ok (.iinc 1 1, 3) := by decide +kernel
theorem d_X11_game_43 : decode cm_X11_game 43 = .ok (.goto (-21), 3) := by decide +kernel
theorem d_X11_game_46 : decode cm_X11_game 46 = .ok (.aload_n 0, 1) := by decide +kernel
theorem d_X11_game_47 : decode cm_X11_game 47 = .ok (.iconst 0, 1) := by decide +kernel
theorem d_X11_game_48 : decode cm_X11_game 48 = .ok (.putfield 144, 3) := by decide +kernel
theorem d_X11_game_51 : decode cm_X11_game 51 = .ok (.aload_n 0, 1) := by decide +kernel
theorem d_X11_game_52 : decode cm_X11_game 52 = .ok (.invokevirtual 201, 3) := by decide +kernel
theorem d_X11_game_55 : decode cm_X11_game 55 = .ok (.ireturn, 1) := by decide +kernel
def D_X11_game_22 (K22 : Int32 → GSt → Prop) (Q : Int32 → GSt → Prop) (x1 : Int32) (σ : GSt) : Prop :=
  ((σ 237 19) ≤ x1 → ∀ σ_1 : GSt, σ_1 = up2 σ 237 19 0 → (D_X11_grown  σ_1 (fun r_2 σ_3 => Q r_2 σ_3))) ∧
  (¬ (σ 237 19) ≤ x1 → vp_in x1 90 ∧ (D_X11_adds (σ 239 (Int32.toNatClampNeg x1)) σ (fun σ_4 => ∀ x1_5 : Int32, x1_5 = x1 + 1 → (K22 x1_5 σ_4))))
def L_X11_game_22 (Q : Int32 → GSt → Prop) : Nat → Int32 → GSt → Prop
  | 0 => fun _ _ => False
  | n + 1 => fun x1 σ => D_X11_game_22 (L_X11_game_22 Q n) Q x1 σ
def D_X11_game_0 (Q : Int32 → GSt → Prop) (σ : GSt) : Prop :=
  (¬ (σ 237 20) = 8 → D_X11_starts  σ (fun σ_1 => ∃ n : Nat, L_X11_game_22 Q n 0 σ_1)) ∧
  ((σ 237 20) = 8 → D_X11_no (-6) σ (fun r_2 σ_3 => Q r_2 σ_3))
def D_X11_game (σ : GSt) (Q : Int32 → GSt → Prop) : Prop := D_X11_game_0 Q σ
set_option maxRecDepth 20000 in
set_option maxHeartbeats 4000000 in
theorem s_X11_game_22 {p : Program} {l : Launch} {e : Env} {s : State} {m : MethodId} {args : Array Value} {below : List Frame} {meth : Method} {c : Code} {G : GC} (X : CallFix p m c cm_X11_game 2 s args lw_us "GameLoomModel") (hr : meth.sig.returnType = some .int) (hlk : meth.locks = false) (K22 : Int32 → GSt → Prop) (Q : Int32 → GSt → Prop) (hK22 : ∀ (x1 : Int32) (σ : GSt) (H : Heap) (locs : List Loc) (ls : Array Slot), Wo G s H locs σ → lv_has ls 2 [(0, .ref (G.2.1 237)), (1, .int x1)] → K22 x1 σ → W p l e rm_X11_game s m args below meth c H locs 0 0 (QMI G Q below args s) (F0 m 22 ls [])) (x1 : Int32) (σ : GSt) {H : Heap} {locs : List Loc} {ls : Array Slot} (hw : Wo G s H locs σ) (hl : lv_has ls 2 [(0, .ref (G.2.1 237)), (1, .int x1)]) (hD : D_X11_game_22 K22 Q x1 σ) : W p l e rm_X11_game s m args below meth c H locs 0 0 (QMI G Q below args s) (F0 m 22 ls []) := by
  unfold D_X11_game_22 at hD
  refine lv_iload_n X.1 X.2.1 d_X11_game_22 rfl (lv_at hl 1 rfl) ?_
  refine lv_aload_n X.1 X.2.1 d_X11_game_23 rfl (lv_at hl 0 rfl) ?_
  refine gf_11_19 X hw (by decide +kernel : kd 237 = 11) tb_925 d_X11_game_24 ?_
  refine lv_icmp_ge (tgt := 46) X.1 X.2.1 d_X11_game_27 (by decide) (fun q_27 => ?_) (fun q_27 => ?_)
  · have hD := hD.1 q_27
    refine lv_aload_n X.1 X.2.1 d_X11_game_46 rfl (lv_at hl 0 rfl) ?_
    refine lv_iconst (v := 0) X.1 X.2.1 d_X11_game_47 (by decide) ?_
    refine pf_11_19 X hw (by decide +kernel : kd 237 = 11) tb_925 d_X11_game_48 (fun H locs hw => ?_)
    obtain ⟨σ_1, e_σ_1⟩ : ∃ z : GSt, z = up2 σ 237 19 0 := ⟨_, rfl⟩
    rw [← e_σ_1] at hw
    have hD := hD σ_1 e_σ_1
    refine lv_aload_n X.1 X.2.1 d_X11_game_51 rfl (lv_at hl 0 rfl) ?_
    refine gcV_i (rest := []) (As := []) (o := 237) X hw (c_X11_grown l G  σ_1 _  hD) (kd_lt (by decide +kernel : kd 237 = 11) (by decide)) (ce_11 G _ (by decide +kernel : kd 237 = 11)) rfl tb_1101 tb_1103 tv_38 tb_12 tb_1104 hd_X11_grown ⟨rfl, rfl⟩ ⟨Nat.le_of_ble_eq_true rfl, Nat.le_of_ble_eq_true rfl⟩ rfl hl.1 rfl (Nat.le_of_ble_eq_true rfl) d_X11_game_52 (fun r_2 σ_3 H locs hD hw => ?_)
    exact g_iret X hr hlk hw hD d_X11_game_55
  · have hD := hD.2 q_27
    refine lv_aload_n X.1 X.2.1 d_X11_game_30 rfl (lv_at hl 0 rfl) ?_
    refine lv_aload_n X.1 X.2.1 d_X11_game_31 rfl (lv_at hl 0 rfl) ?_
    refine gf_11_1 X hw (by decide +kernel : kd 237 = 11) tb_907 d_X11_game_32 ?_
    refine lv_iload_n X.1 X.2.1 d_X11_game_35 rfl (lv_at hl 1 rfl) ?_
    obtain ⟨q_36, hD⟩ := hD
    refine g_iald X hw ly_11_1.1 ly_11_1.2 q_36 d_X11_game_36 ?_
    refine gcV_v (rest := []) (As := [.int (σ 239 (Int32.toNatClampNeg x1))]) (o := 237) X hw (c_X11_adds l G (σ 239 (Int32.toNatClampNeg x1)) σ _  hD) (kd_lt (by decide +kernel : kd 237 = 11) (by decide)) (ce_11 G _ (by decide +kernel : kd 237 = 11)) rfl tb_1097 tb_1099 tv_37 tb_12 tb_1100 hd_X11_adds ⟨rfl, rfl⟩ ⟨Nat.le_of_ble_eq_true rfl, Nat.le_of_ble_eq_true rfl⟩ rfl hl.1 rfl (Nat.le_of_ble_eq_true rfl) d_X11_game_37 (fun σ_4 H locs hD hw => ?_)
    obtain ⟨x1_5, e_x1_5⟩ : ∃ y : Int32, y = x1 + 1 := ⟨_, rfl⟩
    have hD := hD x1_5 e_x1_5
    refine lv_iinc (v := x1_5) (lv' := [(1, .int x1_5), (0, .ref (G.2.1 237))]) X.1 X.2.1 d_X11_game_40 hl (k := 1) rfl (by rw [e_x1_5]; rfl) (by decide) rfl (fun ls hl => ?_)
    refine lv_goto (tgt := 22) X.1 X.2.1 d_X11_game_43 (by decide) ?_
    exact hK22 x1_5 σ_4 _ _ _  hw (lv_sub hl [1, 0] rfl) hD
set_option maxRecDepth 20000 in
set_option maxHeartbeats 4000000 in
theorem sl_X11_game_22 {p : Program} {l : Launch} {e : Env} {s : State} {m : MethodId} {args : Array Value} {below : List Frame} {meth : Method} {c : Code} {G : GC} (X : CallFix p m c cm_X11_game 2 s args lw_us "GameLoomModel") (hr : meth.sig.returnType = some .int) (hlk : meth.locks = false) (Q : Int32 → GSt → Prop) : ∀ (nn : Nat), ∀ (x1 : Int32) (σ : GSt) (H : Heap) (locs : List Loc) (ls : Array Slot), Wo G s H locs σ → lv_has ls 2 [(0, .ref (G.2.1 237)), (1, .int x1)] → L_X11_game_22 Q nn x1 σ → W p l e rm_X11_game s m args below meth c H locs 0 0 (QMI G Q below args s) (F0 m 22 ls []) := by
  intro nn
  induction nn with
  | zero => intro x1 σ H locs ls  hw hl hD; exact hD.elim
  | succ nn ih =>
    intro x1 σ H locs ls  hw hl hD
    exact s_X11_game_22 X hr hlk (L_X11_game_22 Q nn) Q ih x1 σ hw hl hD
set_option maxRecDepth 20000 in
set_option maxHeartbeats 4000000 in
theorem s_X11_game_0 {p : Program} {l : Launch} {e : Env} {s : State} {m : MethodId} {args : Array Value} {below : List Frame} {meth : Method} {c : Code} {G : GC} (X : CallFix p m c cm_X11_game 2 s args lw_us "GameLoomModel") (hr : meth.sig.returnType = some .int) (hlk : meth.locks = false) (Q : Int32 → GSt → Prop) (σ : GSt) {H : Heap} {locs : List Loc} {ls : Array Slot} (hw : Wo G s H locs σ) (hl : lv_has ls 2 [(0, .ref (G.2.1 237))]) (hD : D_X11_game_0 Q σ) : W p l e rm_X11_game s m args below meth c H locs 0 0 (QMI G Q below args s) (F0 m 0 ls []) := by
  unfold D_X11_game_0 at hD
  refine lv_aload_n X.1 X.2.1 d_X11_game_0 rfl (lv_at hl 0 rfl) ?_
  refine gf_11_20 X hw (by decide +kernel : kd 237 = 11) tb_926 d_X11_game_1 ?_
  refine lv_bipush (v := 8) X.1 X.2.1 d_X11_game_4 (by decide) ?_
  refine lv_icmp_ne (tgt := 16) X.1 X.2.1 d_X11_game_6 (by decide) (fun q_6 => ?_) (fun q_6 => ?_)
  · have hD := hD.1 q_6
    refine lv_aload_n X.1 X.2.1 d_X11_game_16 rfl (lv_at hl 0 rfl) ?_
    refine gcV_v (rest := []) (As := []) (o := 237) X hw (c_X11_starts l G  σ _  hD) (kd_lt (by decide +kernel : kd 237 = 11) (by decide)) (ce_11 G _ (by decide +kernel : kd 237 = 11)) rfl tb_1093 tb_1095 tv_36 tb_12 tb_1096 hd_X11_starts ⟨rfl, rfl⟩ ⟨Nat.le_of_ble_eq_true rfl, Nat.le_of_ble_eq_true rfl⟩ rfl hl.1 rfl (Nat.le_of_ble_eq_true rfl) d_X11_game_17 (fun σ_1 H locs hD hw => ?_)
    refine lv_iconst (v := 0) X.1 X.2.1 d_X11_game_20 (by decide) ?_
    refine lv_istore_n (lv' := [(1, .int 0), (0, .ref (G.2.1 237))]) X.1 X.2.1 d_X11_game_21 rfl hl (by decide) rfl (fun ls hl => ?_)
    obtain ⟨n9, hD⟩ := hD
    exact sl_X11_game_22 X hr hlk  Q  n9 0 σ_1 _ _ _  hw (lv_sub hl [1, 0] rfl) hD
  · have hD := hD.2 q_6
    refine lv_aload_n X.1 X.2.1 d_X11_game_9 rfl (lv_at hl 0 rfl) ?_
    refine lv_bipush (v := (-6)) X.1 X.2.1 d_X11_game_10 (by decide) ?_
    refine gcV_i (rest := []) (As := [.int (-6)]) (o := 237) X hw (c_X11_no l G (-6) σ _  hD) (kd_lt (by decide +kernel : kd 237 = 11) (by decide)) (ce_11 G _ (by decide +kernel : kd 237 = 11)) rfl tb_1084 tb_1086 tv_35 tb_12 tb_1087 hd_X11_no ⟨rfl, rfl⟩ ⟨Nat.le_of_ble_eq_true rfl, Nat.le_of_ble_eq_true rfl⟩ rfl hl.1 rfl (Nat.le_of_ble_eq_true rfl) d_X11_game_12 (fun r_2 σ_3 H locs hD hw => ?_)
    exact g_iret X hr hlk hw hD d_X11_game_15
theorem c_X11_game (l : Launch) (G : GC) (σ : GSt) (Q : Int32 → GSt → Prop)  (hD : D_X11_game  σ Q) : MI l ym_X11_game cm_X11_game 2 .int rm_X11_game G σ [.ref (G.2.1 237)] Q := by
  refine met_i (by decide) (Nat.le_of_ble_eq_true rfl) ?_
  intro p e s m args below meth c X hr hlk hw ls hl
  exact s_X11_game_0 X hr hlk Q   σ hw (lv_sub hl [0] rfl) hD
theorem hd_X11_isGame : ym_X11_isGame.cls = "GameLoomModel" ∧ ym_X11_isGame.cls ≠ "java/lang/invoke/MethodHandle" ∧ ym_X11_isGame.cls ≠ "java/lang/invoke/VarHandle" ∧ (parseMethodDescriptor ym_X11_isGame.desc).map (fun d => d.parameters.length) = some 1 := by decide +kernel
abbrev rm_X11_isGame : Room := { frames := 0, cells := 0, slots := 0, locals := 0 }
theorem d_X11_isGame_0 : decode cm_X11_isGame 0 = .ok (.iload_n 1, 1) := by decide +kernel
theorem d_X11_isGame_1 : decode cm_X11_isGame 1 = .ok (.ifCond .lt 15, 3) := by decide +kernel
theorem d_X11_isGame_4 : decode cm_X11_isGame 4 = .ok (.iload_n 1, 1) := by decide +kernel
theorem d_X11_isGame_5 : decode cm_X11_isGame 5 = .ok (.aload_n 0, 1) := by decide +kernel
theorem d_X11_isGame_6 : decode cm_X11_isGame 6 = .ok (.getfield 191, 3) := by decide +kernel
theorem d_X11_isGame_9 : decode cm_X11_isGame 9 = .ok (.if_icmp .ge 7, 3) := by decide +kernel
theorem d_X11_isGame_12 : decode cm_X11_isGame 12 = .ok (.iconst 1, 1) := by decide +kernel
theorem d_X11_isGame_13 : decode cm_X11_isGame 13 = .ok (.goto 4, 3) := by decide +kernel
theorem d_X11_isGame_16 : decode cm_X11_isGame 16 = .ok (.iconst 0, 1) := by decide +kernel
theorem d_X11_isGame_17 : decode cm_X11_isGame 17 = .ok (.ireturn, 1) := by decide +kernel
def D_X11_isGame_0 (Q : Int32 → GSt → Prop) (x1 : Int32) (σ : GSt) : Prop :=
  (x1 < 0 → Q 0 σ) ∧
  (¬ x1 < 0 → ((σ 237 20) ≤ x1 → Q 0 σ) ∧
  (¬ (σ 237 20) ≤ x1 → Q 1 σ))
def D_X11_isGame (x1 : Int32) (σ : GSt) (Q : Int32 → GSt → Prop) : Prop := D_X11_isGame_0 Q x1 σ
set_option maxRecDepth 20000 in
set_option maxHeartbeats 4000000 in
theorem s_X11_isGame_0 {p : Program} {l : Launch} {e : Env} {s : State} {m : MethodId} {args : Array Value} {below : List Frame} {meth : Method} {c : Code} {G : GC} (X : CallFix p m c cm_X11_isGame 2 s args lw_us "GameLoomModel") (hr : meth.sig.returnType = some .boolean) (hlk : meth.locks = false) (Q : Int32 → GSt → Prop) (x1 : Int32) (σ : GSt) {H : Heap} {locs : List Loc} {ls : Array Slot} (hw : Wo G s H locs σ) (hl : lv_has ls 2 [(0, .ref (G.2.1 237)), (1, .int x1)]) (hD : D_X11_isGame_0 Q x1 σ) : W p l e rm_X11_isGame s m args below meth c H locs 0 0 (QMI G Q below args s) (F0 m 0 ls []) := by
  unfold D_X11_isGame_0 at hD
  refine lv_iload_n X.1 X.2.1 d_X11_isGame_0 rfl (lv_at hl 1 rfl) ?_
  refine lv_if_lt (tgt := 16) X.1 X.2.1 d_X11_isGame_1 (by decide) (fun q_1 => ?_) (fun q_1 => ?_)
  · have hD := hD.1 q_1
    refine lv_iconst (v := 0) X.1 X.2.1 d_X11_isGame_16 (by decide) ?_
    exact g_zret X hr hlk hw (by decide) hD d_X11_isGame_17
  · have hD := hD.2 q_1
    refine lv_iload_n X.1 X.2.1 d_X11_isGame_4 rfl (lv_at hl 1 rfl) ?_
    refine lv_aload_n X.1 X.2.1 d_X11_isGame_5 rfl (lv_at hl 0 rfl) ?_
    refine gf_11_20 X hw (by decide +kernel : kd 237 = 11) tb_926 d_X11_isGame_6 ?_
    refine lv_icmp_ge (tgt := 16) X.1 X.2.1 d_X11_isGame_9 (by decide) (fun q_9 => ?_) (fun q_9 => ?_)
    · have hD := hD.1 q_9
      refine lv_iconst (v := 0) X.1 X.2.1 d_X11_isGame_16 (by decide) ?_
      exact g_zret X hr hlk hw (by decide) hD d_X11_isGame_17
    · have hD := hD.2 q_9
      refine lv_iconst (v := 1) X.1 X.2.1 d_X11_isGame_12 (by decide) ?_
      refine lv_goto (tgt := 17) X.1 X.2.1 d_X11_isGame_13 (by decide) ?_
      exact g_zret X hr hlk hw (by decide) hD d_X11_isGame_17
theorem c_X11_isGame (l : Launch) (G : GC) (x1 : Int32) (σ : GSt) (Q : Int32 → GSt → Prop)  (hD : D_X11_isGame x1 σ Q) : MI l ym_X11_isGame cm_X11_isGame 2 .boolean rm_X11_isGame G σ [.ref (G.2.1 237), .int x1] Q := by
  refine met_i (by decide) (Nat.le_of_ble_eq_true rfl) ?_
  intro p e s m args below meth c X hr hlk hw ls hl
  exact s_X11_isGame_0 X hr hlk Q  x1 σ hw (lv_sub hl [0, 1] rfl) hD
theorem hd_X11_falls : ym_X11_falls.cls = "GameLoomModel" ∧ ym_X11_falls.cls ≠ "java/lang/invoke/MethodHandle" ∧ ym_X11_falls.cls ≠ "java/lang/invoke/VarHandle" ∧ (parseMethodDescriptor ym_X11_falls.desc).map (fun d => d.parameters.length) = some 1 := by decide +kernel
abbrev rm_X11_falls : Room := { frames := 0, cells := 0, slots := 0, locals := 0 }
theorem d_X11_falls_0 : decode cm_X11_falls 0 = .ok (.iconst 1, 1) := by decide +kernel
theorem d_X11_falls_1 : decode cm_X11_falls 1 = .ok (.istore_n 2, 1) := by decide +kernel
theorem d_X11_falls_2 : decode cm_X11_falls 2 = .ok (.iconst 1, 1) := by decide +kernel
theorem d_X11_falls_3 : decode cm_X11_falls 3 = .ok (.istore_n 3, 1) := by decide +kernel
theorem d_X11_falls_4 : decode cm_X11_falls 4 = .ok (.bipush 6, 2) := by decide +kernel
theorem d_X11_falls_6 : decode cm_X11_falls 6 = .ok (.iload_n 1, 1) := by decide +kernel
theorem d_X11_falls_7 : decode cm_X11_falls 7 = .ok (.imul, 1) := by decide +kernel
theorem d_X11_falls_8 : decode cm_X11_falls 8 = .ok (.istore 4, 2) := by decide +kernel
theorem d_X11_falls_10 : decode cm_X11_falls 10 = .ok (.iload 4, 2) := by decide +kernel
theorem d_X11_falls_12 : decode cm_X11_falls 12 = .ok (.bipush 6, 2) := by decide +kernel
theorem d_X11_falls_14 : decode cm_X11_falls 14 = .ok (.iload_n 1, 1) := by decide +kernel
theorem d_X11_falls_15 : decode cm_X11_falls 15 = .ok (.imul, 1) := by decide +kernel
theorem d_X11_falls_16 : decode cm_X11_falls 16 = .ok (.aload_n 0, 1) := by decide +kernel
theorem d_X11_falls_17 : decode cm_X11_falls 17 = .ok (.getfield 40, 3) := by decide +kernel
theorem d_X11_falls_20 : decode cm_X11_falls 20 = .ok (.iload_n 1, 1) := by decide +kernel
theorem d_X11_falls_21 : decode cm_X11_falls 21 = .ok (.iaload, 1) := by decide +kernel
theorem d_X11_falls_22 : decode cm_X11_falls 22 = .ok (.iadd, 1) := by decide +kernel
theorem d_X11_falls_23 : decode cm_X11_falls 23 = .ok (.if_icmp .ge 65, 3) := by decide +kernel
theorem d_X11_falls_26 : decode cm_X11_falls 26 = .ok (.iload_n 2, 1) := by decide +kernel
theorem d_X11_falls_27 : decode cm_X11_falls 27 = .ok (.ifCond .eq 19, 3) := by decide +kernel
theorem d_X11_falls_30 : decode cm_X11_falls 30 = .ok (.aload_n 0, 1) := by decide +kernel
theorem d_X11_falls_31 : decode cm_X11_falls 31 = .ok (.getfield 31, 3) := by decide +kernel
theorem d_X11_falls_34 : decode cm_X11_falls 34 = .ok (.iload 4, 2) := by decide +kernel
theorem d_X11_falls_36 : decode cm_X11_falls 36 = .ok (.iaload, 1) := by decide +kernel
theorem d_X11_falls_37 : decode cm_X11_falls 37 = .ok (.bipush 112, 2) := by decide +kernel
theorem d_X11_falls_39 : decode cm_X11_falls 39 = .ok (.if_icmp .ne 7, 3) := by decide +kernel
theorem d_X11_falls_42 : decode cm_X11_falls 42 = .ok (.iconst 1, 1) := by decide +kernel
theorem d_X11_falls_43 : decode cm_X11_falls 43 = .ok (.goto 4, 3) := by decide +kernel
theorem d_X11_falls_46 : decode cm_X11_falls 46 = .ok (.iconst 0, 1) := by decide +kernel
theorem d_X11_falls_47 : decode cm_X11_falls 47 = .ok (.istore_n 2, 1) := by decide +kernel
theorem d_X11_falls_48 : decode cm_X11_falls 48 = .ok (.iload_n 3, 1) := by decide +kernel
theorem d_X11_falls_49 : decode cm_X11_falls 49 = .ok (.ifCond .eq 31, 3) := by decide +kernel
theorem d_X11_falls_52 : decode cm_X11_falls 52 = .ok (.aload_n 0, 1) := by decide +kernel
theorem d_X11_falls_53 : decode cm_X11_falls 53 = .ok (.getfield 31, 3) := by decide +kernel
theorem d_X11_falls_56 : decode cm_X11_falls 56 = .ok (.iload 4, 2) := by decide +kernel
theorem d_X11_falls_58 : decode cm_X11_falls 58 = .ok (.iaload, 1) := by decide +kernel
theorem d_X11_falls_59 : decode cm_X11_falls 59 = .ok (.bipush 104, 2) := by decide +kernel
theorem d_X11_falls_61 : decode cm_X11_falls 61 = .ok (.if_icmp .eq 15, 3) := by decide +kernel
theorem d_X11_falls_64 : decode cm_X11_falls 64 = .ok (.aload_n 0, 1) := by decide +kernel
theorem d_X11_falls_65 : decode cm_X11_falls 65 = .ok (.getfield 31, 3) := by decide +kernel
theorem d_X11_falls_68 : decode cm_X11_falls 68 = .ok (.iload 4, 2) := by decide +kernel
theorem d_X11_falls_70 : decode cm_X11_falls 70 = .ok (.iaload, 1) := by decide +kernel
theorem d_X11_falls_71 : decode cm_X11_falls 71 = .ok (.bipush 116, 2) := by decide +kernel
theorem d_X11_falls_73 : decode cm_X11_falls 73 = .ok (.if_icmp .ne 7, 3) := by decide +kernel
theorem d_X11_falls_76 : decode cm_X11_falls 76 = .ok (.iconst 1, 1) := by decide +kernel
theorem d_X11_falls_77 : decode cm_X11_falls 77 = .ok (.goto 4, 3) := by decide +kernel
theorem d_X11_falls_80 : decode cm_X11_falls 80 = .ok (.iconst 0, 1) := by decide +kernel
theorem d_X11_falls_81 : decode cm_X11_falls 81 = .ok (.istore_n 3, 1) := by decide +kernel
theorem d_X11_falls_82 : decode cm_X11_falls 82 = .ok (.iinc 4 1, 3) := by decide +kernel
theorem d_X11_falls_85 : decode cm_X11_falls 85 = .ok (.goto (-75), 3) := by decide +kernel
theorem d_X11_falls_88 : decode cm_X11_falls 88 = .ok (.iload_n 2, 1) := by decide +kernel
theorem d_X11_falls_89 : decode cm_X11_falls 89 = .ok (.ifCond .eq 7, 3) := by decide +kernel
theorem d_X11_falls_92 : decode cm_X11_falls 92 = .ok (.iconst 0, 1) := by decide +kernel
theorem d_X11_falls_93 : decode cm_X11_falls 93 = .ok (.goto 13, 3) := by decide +kernel
theorem d_X11_falls_96 : decode cm_X11_falls 96 = .ok (.iload_n 3, 1) := by decide +kernel
theorem d_X11_falls_97 : decode cm_X11_falls 97 = .ok (.ifCond .eq 7, 3) := by decide +kernel
theorem d_X11_falls_100 : decode cm_X11_falls 100 = .ok (.iconst 1, 1) := by decide +kernel
theorem d_X11_falls_101 : decode cm_X11_falls 101 = .ok (.goto 5, 3) := by decide +kernel
theorem d_X11_falls_104 : decode cm_X11_falls 104 = .ok (.bipush (-9), 2) := by decide +kernel
theorem d_X11_falls_106 : decode cm_X11_falls 106 = .ok (.ireturn, 1) := by decide +kernel
def D_X11_falls_81 (K10 : Int32 → Int32 → Int32 → Int32 → GSt → Prop) (Q : Int32 → GSt → Prop) (x1 : Int32) (x2 : Int32) (x4 : Int32) (s0 : Int32) (σ : GSt) : Prop :=
  ∀ x4_1 : Int32, x4_1 = x4 + 1 → (K10 x1 x2 s0 x4_1 σ)
def D_X11_falls_80 (K10 : Int32 → Int32 → Int32 → Int32 → GSt → Prop) (Q : Int32 → GSt → Prop) (x1 : Int32) (x2 : Int32) (x4 : Int32) (σ : GSt) : Prop :=
  D_X11_falls_81 K10 Q x1 x2 x4 0 σ
def D_X11_falls_76 (K10 : Int32 → Int32 → Int32 → Int32 → GSt → Prop) (Q : Int32 → GSt → Prop) (x1 : Int32) (x2 : Int32) (x4 : Int32) (σ : GSt) : Prop :=
  D_X11_falls_81 K10 Q x1 x2 x4 1 σ
def D_X11_falls_47 (K10 : Int32 → Int32 → Int32 → Int32 → GSt → Prop) (Q : Int32 → GSt → Prop) (x1 : Int32) (x3 : Int32) (x4 : Int32) (s0 : Int32) (σ : GSt) : Prop :=
  (x3 = 0 → D_X11_falls_80 K10 Q x1 s0 x4 σ) ∧
  (¬ x3 = 0 → vp_in x4 54 ∧ (((σ 245 (Int32.toNatClampNeg x4)) = 104 → D_X11_falls_76 K10 Q x1 s0 x4 σ) ∧
  (¬ (σ 245 (Int32.toNatClampNeg x4)) = 104 → vp_in x4 54 ∧ ((¬ (σ 245 (Int32.toNatClampNeg x4)) = 116 → D_X11_falls_80 K10 Q x1 s0 x4 σ) ∧
  ((σ 245 (Int32.toNatClampNeg x4)) = 116 → D_X11_falls_76 K10 Q x1 s0 x4 σ)))))
def D_X11_falls_46 (K10 : Int32 → Int32 → Int32 → Int32 → GSt → Prop) (Q : Int32 → GSt → Prop) (x1 : Int32) (x3 : Int32) (x4 : Int32) (σ : GSt) : Prop :=
  D_X11_falls_47 K10 Q x1 x3 x4 0 σ
def D_X11_falls_10 (K10 : Int32 → Int32 → Int32 → Int32 → GSt → Prop) (Q : Int32 → GSt → Prop) (x1 : Int32) (x2 : Int32) (x3 : Int32) (x4 : Int32) (σ : GSt) : Prop :=
  vp_in x1 9 ∧ ((((6 * x1) + (σ 248 (Int32.toNatClampNeg x1))) ≤ x4 → (x2 = 0 → (x3 = 0 → Q (-9) σ) ∧
  (¬ x3 = 0 → Q 1 σ)) ∧
  (¬ x2 = 0 → Q 0 σ)) ∧
  (¬ ((6 * x1) + (σ 248 (Int32.toNatClampNeg x1))) ≤ x4 → (x2 = 0 → D_X11_falls_46 K10 Q x1 x3 x4 σ) ∧
  (¬ x2 = 0 → vp_in x4 54 ∧ ((¬ (σ 245 (Int32.toNatClampNeg x4)) = 112 → D_X11_falls_46 K10 Q x1 x3 x4 σ) ∧
  ((σ 245 (Int32.toNatClampNeg x4)) = 112 → D_X11_falls_47 K10 Q x1 x3 x4 1 σ)))))
def L_X11_falls_10 (Q : Int32 → GSt → Prop) : Nat → Int32 → Int32 → Int32 → Int32 → GSt → Prop
  | 0 => fun _ _ _ _ _ => False
  | n + 1 => fun x1 x2 x3 x4 σ => D_X11_falls_10 (L_X11_falls_10 Q n) Q x1 x2 x3 x4 σ
def D_X11_falls_0 (Q : Int32 → GSt → Prop) (x1 : Int32) (σ : GSt) : Prop :=
  ∀ x4_1 : Int32, x4_1 = (6 * x1) → (∃ n : Nat, L_X11_falls_10 Q n x1 1 1 x4_1 σ)
def D_X11_falls (x1 : Int32) (σ : GSt) (Q : Int32 → GSt → Prop) : Prop := D_X11_falls_0 Q x1 σ
set_option maxRecDepth 20000 in
set_option maxHeartbeats 4000000 in
theorem s_X11_falls_81 {p : Program} {l : Launch} {e : Env} {s : State} {m : MethodId} {args : Array Value} {below : List Frame} {meth : Method} {c : Code} {G : GC} (X : CallFix p m c cm_X11_falls 5 s args lw_us "GameLoomModel") (hr : meth.sig.returnType = some .int) (hlk : meth.locks = false) (K10 : Int32 → Int32 → Int32 → Int32 → GSt → Prop) (Q : Int32 → GSt → Prop) (hK10 : ∀ (x1 : Int32) (x2 : Int32) (x3 : Int32) (x4 : Int32) (σ : GSt) (H : Heap) (locs : List Loc) (ls : Array Slot), Wo G s H locs σ → lv_has ls 5 [(0, .ref (G.2.1 237)), (1, .int x1), (2, .int x2), (3, .int x3), (4, .int x4)] → K10 x1 x2 x3 x4 σ → W p l e rm_X11_falls s m args below meth c H locs 0 0 (QMI G Q below args s) (F0 m 10 ls [])) (x1 : Int32) (x2 : Int32) (x4 : Int32) (s0 : Int32) (σ : GSt) {H : Heap} {locs : List Loc} {ls : Array Slot} (hw : Wo G s H locs σ) (hl : lv_has ls 5 [(0, .ref (G.2.1 237)), (1, .int x1), (2, .int x2), (4, .int x4)]) (hD : D_X11_falls_81 K10 Q x1 x2 x4 s0 σ) : W p l e rm_X11_falls s m args below meth c H locs 0 0 (QMI G Q below args s) (F0 m 81 ls [.int s0]) := by
  unfold D_X11_falls_81 at hD
  refine lv_istore_n (lv' := [(3, .int s0), (0, .ref (G.2.1 237)), (1, .int x1), (2, .int x2), (4, .int x4)]) X.1 X.2.1 d_X11_falls_81 rfl hl (by decide) rfl (fun ls hl => ?_)
  obtain ⟨x4_1, e_x4_1⟩ : ∃ y : Int32, y = x4 + 1 := ⟨_, rfl⟩
  have hD := hD x4_1 e_x4_1
  refine lv_iinc (v := x4_1) (lv' := [(4, .int x4_1), (3, .int s0), (0, .ref (G.2.1 237)), (1, .int x1), (2, .int x2)]) X.1 X.2.1 d_X11_falls_82 hl (k := 4) rfl (by rw [e_x4_1]; rfl) (by decide) rfl (fun ls hl => ?_)
  refine lv_goto (tgt := 10) X.1 X.2.1 d_X11_falls_85 (by decide) ?_
  exact hK10 x1 x2 s0 x4_1 σ _ _ _  hw (lv_sub hl [2, 3, 4, 1, 0] rfl) hD
set_option maxRecDepth 20000 in
set_option maxHeartbeats 4000000 in
theorem s_X11_falls_80 {p : Program} {l : Launch} {e : Env} {s : State} {m : MethodId} {args : Array Value} {below : List Frame} {meth : Method} {c : Code} {G : GC} (X : CallFix p m c cm_X11_falls 5 s args lw_us "GameLoomModel") (hr : meth.sig.returnType = some .int) (hlk : meth.locks = false) (K10 : Int32 → Int32 → Int32 → Int32 → GSt → Prop) (Q : Int32 → GSt → Prop) (hK10 : ∀ (x1 : Int32) (x2 : Int32) (x3 : Int32) (x4 : Int32) (σ : GSt) (H : Heap) (locs : List Loc) (ls : Array Slot), Wo G s H locs σ → lv_has ls 5 [(0, .ref (G.2.1 237)), (1, .int x1), (2, .int x2), (3, .int x3), (4, .int x4)] → K10 x1 x2 x3 x4 σ → W p l e rm_X11_falls s m args below meth c H locs 0 0 (QMI G Q below args s) (F0 m 10 ls [])) (x1 : Int32) (x2 : Int32) (x4 : Int32) (σ : GSt) {H : Heap} {locs : List Loc} {ls : Array Slot} (hw : Wo G s H locs σ) (hl : lv_has ls 5 [(0, .ref (G.2.1 237)), (1, .int x1), (2, .int x2), (4, .int x4)]) (hD : D_X11_falls_80 K10 Q x1 x2 x4 σ) : W p l e rm_X11_falls s m args below meth c H locs 0 0 (QMI G Q below args s) (F0 m 80 ls []) := by
  unfold D_X11_falls_80 at hD
  refine lv_iconst (v := 0) X.1 X.2.1 d_X11_falls_80 (by decide) ?_
  exact s_X11_falls_81 X hr hlk K10 Q hK10 x1 x2 x4 0 σ hw (lv_sub hl [0, 1, 2, 3] rfl) hD
set_option maxRecDepth 20000 in
set_option maxHeartbeats 4000000 in
theorem s_X11_falls_76 {p : Program} {l : Launch} {e : Env} {s : State} {m : MethodId} {args : Array Value} {below : List Frame} {meth : Method} {c : Code} {G : GC} (X : CallFix p m c cm_X11_falls 5 s args lw_us "GameLoomModel") (hr : meth.sig.returnType = some .int) (hlk : meth.locks = false) (K10 : Int32 → Int32 → Int32 → Int32 → GSt → Prop) (Q : Int32 → GSt → Prop) (hK10 : ∀ (x1 : Int32) (x2 : Int32) (x3 : Int32) (x4 : Int32) (σ : GSt) (H : Heap) (locs : List Loc) (ls : Array Slot), Wo G s H locs σ → lv_has ls 5 [(0, .ref (G.2.1 237)), (1, .int x1), (2, .int x2), (3, .int x3), (4, .int x4)] → K10 x1 x2 x3 x4 σ → W p l e rm_X11_falls s m args below meth c H locs 0 0 (QMI G Q below args s) (F0 m 10 ls [])) (x1 : Int32) (x2 : Int32) (x4 : Int32) (σ : GSt) {H : Heap} {locs : List Loc} {ls : Array Slot} (hw : Wo G s H locs σ) (hl : lv_has ls 5 [(0, .ref (G.2.1 237)), (1, .int x1), (2, .int x2), (4, .int x4)]) (hD : D_X11_falls_76 K10 Q x1 x2 x4 σ) : W p l e rm_X11_falls s m args below meth c H locs 0 0 (QMI G Q below args s) (F0 m 76 ls []) := by
  unfold D_X11_falls_76 at hD
  refine lv_iconst (v := 1) X.1 X.2.1 d_X11_falls_76 (by decide) ?_
  refine lv_goto (tgt := 81) X.1 X.2.1 d_X11_falls_77 (by decide) ?_
  exact s_X11_falls_81 X hr hlk K10 Q hK10 x1 x2 x4 1 σ hw (lv_sub hl [0, 1, 2, 3] rfl) hD
set_option maxRecDepth 20000 in
set_option maxHeartbeats 4000000 in
theorem s_X11_falls_47 {p : Program} {l : Launch} {e : Env} {s : State} {m : MethodId} {args : Array Value} {below : List Frame} {meth : Method} {c : Code} {G : GC} (X : CallFix p m c cm_X11_falls 5 s args lw_us "GameLoomModel") (hr : meth.sig.returnType = some .int) (hlk : meth.locks = false) (K10 : Int32 → Int32 → Int32 → Int32 → GSt → Prop) (Q : Int32 → GSt → Prop) (hK10 : ∀ (x1 : Int32) (x2 : Int32) (x3 : Int32) (x4 : Int32) (σ : GSt) (H : Heap) (locs : List Loc) (ls : Array Slot), Wo G s H locs σ → lv_has ls 5 [(0, .ref (G.2.1 237)), (1, .int x1), (2, .int x2), (3, .int x3), (4, .int x4)] → K10 x1 x2 x3 x4 σ → W p l e rm_X11_falls s m args below meth c H locs 0 0 (QMI G Q below args s) (F0 m 10 ls [])) (x1 : Int32) (x3 : Int32) (x4 : Int32) (s0 : Int32) (σ : GSt) {H : Heap} {locs : List Loc} {ls : Array Slot} (hw : Wo G s H locs σ) (hl : lv_has ls 5 [(0, .ref (G.2.1 237)), (1, .int x1), (3, .int x3), (4, .int x4)]) (hD : D_X11_falls_47 K10 Q x1 x3 x4 s0 σ) : W p l e rm_X11_falls s m args below meth c H locs 0 0 (QMI G Q below args s) (F0 m 47 ls [.int s0]) := by
  unfold D_X11_falls_47 at hD
  refine lv_istore_n (lv' := [(2, .int s0), (0, .ref (G.2.1 237)), (1, .int x1), (3, .int x3), (4, .int x4)]) X.1 X.2.1 d_X11_falls_47 rfl hl (by decide) rfl (fun ls hl => ?_)
  refine lv_iload_n X.1 X.2.1 d_X11_falls_48 rfl (lv_at hl 3 rfl) ?_
  refine lv_if_eq (tgt := 80) X.1 X.2.1 d_X11_falls_49 (by decide) (fun q_49 => ?_) (fun q_49 => ?_)
  · have hD := hD.1 q_49
    exact s_X11_falls_80 X hr hlk K10 Q hK10 x1 s0 x4 σ hw (lv_sub hl [1, 2, 0, 4] rfl) hD
  · have hD := hD.2 q_49
    refine lv_aload_n X.1 X.2.1 d_X11_falls_52 rfl (lv_at hl 1 rfl) ?_
    refine gf_11_7 X hw (by decide +kernel : kd 237 = 11) tb_913 d_X11_falls_53 ?_
    refine lv_iload X.1 X.2.1 d_X11_falls_56 (lv_at hl 4 rfl) ?_
    obtain ⟨q_58, hD⟩ := hD
    refine g_iald X hw ly_11_7.1 ly_11_7.2 q_58 d_X11_falls_58 ?_
    refine lv_bipush (v := 104) X.1 X.2.1 d_X11_falls_59 (by decide) ?_
    refine lv_icmp_eq (tgt := 76) X.1 X.2.1 d_X11_falls_61 (by decide) (fun q_61 => ?_) (fun q_61 => ?_)
    · have hD := hD.1 q_61
      exact s_X11_falls_76 X hr hlk K10 Q hK10 x1 s0 x4 σ hw (lv_sub hl [1, 2, 0, 4] rfl) hD
    · have hD := hD.2 q_61
      refine lv_aload_n X.1 X.2.1 d_X11_falls_64 rfl (lv_at hl 1 rfl) ?_
      refine gf_11_7 X hw (by decide +kernel : kd 237 = 11) tb_913 d_X11_falls_65 ?_
      refine lv_iload X.1 X.2.1 d_X11_falls_68 (lv_at hl 4 rfl) ?_
      obtain ⟨q_70, hD⟩ := hD
      refine g_iald X hw ly_11_7.1 ly_11_7.2 q_70 d_X11_falls_70 ?_
      refine lv_bipush (v := 116) X.1 X.2.1 d_X11_falls_71 (by decide) ?_
      refine lv_icmp_ne (tgt := 80) X.1 X.2.1 d_X11_falls_73 (by decide) (fun q_73 => ?_) (fun q_73 => ?_)
      · have hD := hD.1 q_73
        exact s_X11_falls_80 X hr hlk K10 Q hK10 x1 s0 x4 σ hw (lv_sub hl [1, 2, 0, 4] rfl) hD
      · have hD := hD.2 q_73
        exact s_X11_falls_76 X hr hlk K10 Q hK10 x1 s0 x4 σ hw (lv_sub hl [1, 2, 0, 4] rfl) hD
set_option maxRecDepth 20000 in
set_option maxHeartbeats 4000000 in
theorem s_X11_falls_46 {p : Program} {l : Launch} {e : Env} {s : State} {m : MethodId} {args : Array Value} {below : List Frame} {meth : Method} {c : Code} {G : GC} (X : CallFix p m c cm_X11_falls 5 s args lw_us "GameLoomModel") (hr : meth.sig.returnType = some .int) (hlk : meth.locks = false) (K10 : Int32 → Int32 → Int32 → Int32 → GSt → Prop) (Q : Int32 → GSt → Prop) (hK10 : ∀ (x1 : Int32) (x2 : Int32) (x3 : Int32) (x4 : Int32) (σ : GSt) (H : Heap) (locs : List Loc) (ls : Array Slot), Wo G s H locs σ → lv_has ls 5 [(0, .ref (G.2.1 237)), (1, .int x1), (2, .int x2), (3, .int x3), (4, .int x4)] → K10 x1 x2 x3 x4 σ → W p l e rm_X11_falls s m args below meth c H locs 0 0 (QMI G Q below args s) (F0 m 10 ls [])) (x1 : Int32) (x3 : Int32) (x4 : Int32) (σ : GSt) {H : Heap} {locs : List Loc} {ls : Array Slot} (hw : Wo G s H locs σ) (hl : lv_has ls 5 [(0, .ref (G.2.1 237)), (1, .int x1), (3, .int x3), (4, .int x4)]) (hD : D_X11_falls_46 K10 Q x1 x3 x4 σ) : W p l e rm_X11_falls s m args below meth c H locs 0 0 (QMI G Q below args s) (F0 m 46 ls []) := by
  unfold D_X11_falls_46 at hD
  refine lv_iconst (v := 0) X.1 X.2.1 d_X11_falls_46 (by decide) ?_
  exact s_X11_falls_47 X hr hlk K10 Q hK10 x1 x3 x4 0 σ hw (lv_sub hl [0, 1, 2, 3] rfl) hD
set_option maxRecDepth 20000 in
set_option maxHeartbeats 4000000 in
theorem s_X11_falls_10 {p : Program} {l : Launch} {e : Env} {s : State} {m : MethodId} {args : Array Value} {below : List Frame} {meth : Method} {c : Code} {G : GC} (X : CallFix p m c cm_X11_falls 5 s args lw_us "GameLoomModel") (hr : meth.sig.returnType = some .int) (hlk : meth.locks = false) (K10 : Int32 → Int32 → Int32 → Int32 → GSt → Prop) (Q : Int32 → GSt → Prop) (hK10 : ∀ (x1 : Int32) (x2 : Int32) (x3 : Int32) (x4 : Int32) (σ : GSt) (H : Heap) (locs : List Loc) (ls : Array Slot), Wo G s H locs σ → lv_has ls 5 [(0, .ref (G.2.1 237)), (1, .int x1), (2, .int x2), (3, .int x3), (4, .int x4)] → K10 x1 x2 x3 x4 σ → W p l e rm_X11_falls s m args below meth c H locs 0 0 (QMI G Q below args s) (F0 m 10 ls [])) (x1 : Int32) (x2 : Int32) (x3 : Int32) (x4 : Int32) (σ : GSt) {H : Heap} {locs : List Loc} {ls : Array Slot} (hw : Wo G s H locs σ) (hl : lv_has ls 5 [(0, .ref (G.2.1 237)), (1, .int x1), (2, .int x2), (3, .int x3), (4, .int x4)]) (hD : D_X11_falls_10 K10 Q x1 x2 x3 x4 σ) : W p l e rm_X11_falls s m args below meth c H locs 0 0 (QMI G Q below args s) (F0 m 10 ls []) := by
  unfold D_X11_falls_10 at hD
  refine lv_iload X.1 X.2.1 d_X11_falls_10 (lv_at hl 4 rfl) ?_
  refine lv_bipush (v := 6) X.1 X.2.1 d_X11_falls_12 (by decide) ?_
  refine lv_iload_n X.1 X.2.1 d_X11_falls_14 rfl (lv_at hl 1 rfl) ?_
  refine lv_imul X.1 X.2.1 d_X11_falls_15 ?_
  refine lv_aload_n X.1 X.2.1 d_X11_falls_16 rfl (lv_at hl 0 rfl) ?_
  refine gf_11_10 X hw (by decide +kernel : kd 237 = 11) tb_916 d_X11_falls_17 ?_
  refine lv_iload_n X.1 X.2.1 d_X11_falls_20 rfl (lv_at hl 1 rfl) ?_
  obtain ⟨q_21, hD⟩ := hD
  refine g_iald X hw ly_11_10.1 ly_11_10.2 q_21 d_X11_falls_21 ?_
  refine lv_iadd X.1 X.2.1 d_X11_falls_22 ?_
  refine lv_icmp_ge (tgt := 88) X.1 X.2.1 d_X11_falls_23 (by decide) (fun q_23 => ?_) (fun q_23 => ?_)
  · have hD := hD.1 q_23
    refine lv_iload_n X.1 X.2.1 d_X11_falls_88 rfl (lv_at hl 2 rfl) ?_
    refine lv_if_eq (tgt := 96) X.1 X.2.1 d_X11_falls_89 (by decide) (fun q_89 => ?_) (fun q_89 => ?_)
    · have hD := hD.1 q_89
      refine lv_iload_n X.1 X.2.1 d_X11_falls_96 rfl (lv_at hl 3 rfl) ?_
      refine lv_if_eq (tgt := 104) X.1 X.2.1 d_X11_falls_97 (by decide) (fun q_97 => ?_) (fun q_97 => ?_)
      · have hD := hD.1 q_97
        refine lv_bipush (v := (-9)) X.1 X.2.1 d_X11_falls_104 (by decide) ?_
        exact g_iret X hr hlk hw hD d_X11_falls_106
      · have hD := hD.2 q_97
        refine lv_iconst (v := 1) X.1 X.2.1 d_X11_falls_100 (by decide) ?_
        refine lv_goto (tgt := 106) X.1 X.2.1 d_X11_falls_101 (by decide) ?_
        exact g_iret X hr hlk hw hD d_X11_falls_106
    · have hD := hD.2 q_89
      refine lv_iconst (v := 0) X.1 X.2.1 d_X11_falls_92 (by decide) ?_
      refine lv_goto (tgt := 106) X.1 X.2.1 d_X11_falls_93 (by decide) ?_
      exact g_iret X hr hlk hw hD d_X11_falls_106
  · have hD := hD.2 q_23
    refine lv_iload_n X.1 X.2.1 d_X11_falls_26 rfl (lv_at hl 2 rfl) ?_
    refine lv_if_eq (tgt := 46) X.1 X.2.1 d_X11_falls_27 (by decide) (fun q_27 => ?_) (fun q_27 => ?_)
    · have hD := hD.1 q_27
      exact s_X11_falls_46 X hr hlk K10 Q hK10 x1 x3 x4 σ hw (lv_sub hl [0, 1, 3, 4] rfl) hD
    · have hD := hD.2 q_27
      refine lv_aload_n X.1 X.2.1 d_X11_falls_30 rfl (lv_at hl 0 rfl) ?_
      refine gf_11_7 X hw (by decide +kernel : kd 237 = 11) tb_913 d_X11_falls_31 ?_
      refine lv_iload X.1 X.2.1 d_X11_falls_34 (lv_at hl 4 rfl) ?_
      obtain ⟨q_36, hD⟩ := hD
      refine g_iald X hw ly_11_7.1 ly_11_7.2 q_36 d_X11_falls_36 ?_
      refine lv_bipush (v := 112) X.1 X.2.1 d_X11_falls_37 (by decide) ?_
      refine lv_icmp_ne (tgt := 46) X.1 X.2.1 d_X11_falls_39 (by decide) (fun q_39 => ?_) (fun q_39 => ?_)
      · have hD := hD.1 q_39
        exact s_X11_falls_46 X hr hlk K10 Q hK10 x1 x3 x4 σ hw (lv_sub hl [0, 1, 3, 4] rfl) hD
      · have hD := hD.2 q_39
        refine lv_iconst (v := 1) X.1 X.2.1 d_X11_falls_42 (by decide) ?_
        refine lv_goto (tgt := 47) X.1 X.2.1 d_X11_falls_43 (by decide) ?_
        exact s_X11_falls_47 X hr hlk K10 Q hK10 x1 x3 x4 1 σ hw (lv_sub hl [0, 1, 3, 4] rfl) hD
set_option maxRecDepth 20000 in
set_option maxHeartbeats 4000000 in
theorem sl_X11_falls_10 {p : Program} {l : Launch} {e : Env} {s : State} {m : MethodId} {args : Array Value} {below : List Frame} {meth : Method} {c : Code} {G : GC} (X : CallFix p m c cm_X11_falls 5 s args lw_us "GameLoomModel") (hr : meth.sig.returnType = some .int) (hlk : meth.locks = false) (Q : Int32 → GSt → Prop) : ∀ (nn : Nat), ∀ (x1 : Int32) (x2 : Int32) (x3 : Int32) (x4 : Int32) (σ : GSt) (H : Heap) (locs : List Loc) (ls : Array Slot), Wo G s H locs σ → lv_has ls 5 [(0, .ref (G.2.1 237)), (1, .int x1), (2, .int x2), (3, .int x3), (4, .int x4)] → L_X11_falls_10 Q nn x1 x2 x3 x4 σ → W p l e rm_X11_falls s m args below meth c H locs 0 0 (QMI G Q below args s) (F0 m 10 ls []) := by
  intro nn
  induction nn with
  | zero => intro x1 x2 x3 x4 σ H locs ls  hw hl hD; exact hD.elim
  | succ nn ih =>
    intro x1 x2 x3 x4 σ H locs ls  hw hl hD
    exact s_X11_falls_10 X hr hlk (L_X11_falls_10 Q nn) Q ih x1 x2 x3 x4 σ hw hl hD
set_option maxRecDepth 20000 in
set_option maxHeartbeats 4000000 in
theorem s_X11_falls_0 {p : Program} {l : Launch} {e : Env} {s : State} {m : MethodId} {args : Array Value} {below : List Frame} {meth : Method} {c : Code} {G : GC} (X : CallFix p m c cm_X11_falls 5 s args lw_us "GameLoomModel") (hr : meth.sig.returnType = some .int) (hlk : meth.locks = false) (Q : Int32 → GSt → Prop) (x1 : Int32) (σ : GSt) {H : Heap} {locs : List Loc} {ls : Array Slot} (hw : Wo G s H locs σ) (hl : lv_has ls 5 [(0, .ref (G.2.1 237)), (1, .int x1)]) (hD : D_X11_falls_0 Q x1 σ) : W p l e rm_X11_falls s m args below meth c H locs 0 0 (QMI G Q below args s) (F0 m 0 ls []) := by
  unfold D_X11_falls_0 at hD
  refine lv_iconst (v := 1) X.1 X.2.1 d_X11_falls_0 (by decide) ?_
  refine lv_istore_n (lv' := [(2, .int 1), (0, .ref (G.2.1 237)), (1, .int x1)]) X.1 X.2.1 d_X11_falls_1 rfl hl (by decide) rfl (fun ls hl => ?_)
  refine lv_iconst (v := 1) X.1 X.2.1 d_X11_falls_2 (by decide) ?_
  refine lv_istore_n (lv' := [(3, .int 1), (2, .int 1), (0, .ref (G.2.1 237)), (1, .int x1)]) X.1 X.2.1 d_X11_falls_3 rfl hl (by decide) rfl (fun ls hl => ?_)
  refine lv_bipush (v := 6) X.1 X.2.1 d_X11_falls_4 (by decide) ?_
  refine lv_iload_n X.1 X.2.1 d_X11_falls_6 rfl (lv_at hl 3 rfl) ?_
  refine lv_imul X.1 X.2.1 d_X11_falls_7 ?_
  refine lv_topi (fun x4_1 e_x4_1 => ?_)
  have hD := hD x4_1 e_x4_1
  refine lv_istore (lv' := [(4, .int x4_1), (3, .int 1), (2, .int 1), (0, .ref (G.2.1 237)), (1, .int x1)]) X.1 X.2.1 d_X11_falls_8 hl (by decide) rfl (fun ls hl => ?_)
  obtain ⟨n9, hD⟩ := hD
  exact sl_X11_falls_10 X hr hlk  Q  n9 x1 1 1 x4_1 σ _ _ _  hw (lv_sub hl [3, 4, 2, 1, 0] rfl) hD
theorem c_X11_falls (l : Launch) (G : GC) (x1 : Int32) (σ : GSt) (Q : Int32 → GSt → Prop)  (hD : D_X11_falls x1 σ Q) : MI l ym_X11_falls cm_X11_falls 5 .int rm_X11_falls G σ [.ref (G.2.1 237), .int x1] Q := by
  refine met_i (by decide) (Nat.le_of_ble_eq_true rfl) ?_
  intro p e s m args below meth c X hr hlk hw ls hl
  exact s_X11_falls_0 X hr hlk Q  x1 σ hw (lv_sub hl [0, 1] rfl) hD
theorem hd_X11_of : ym_X11_of.cls = "GameLoomModel" ∧ ym_X11_of.cls ≠ "java/lang/invoke/MethodHandle" ∧ ym_X11_of.cls ≠ "java/lang/invoke/VarHandle" ∧ (parseMethodDescriptor ym_X11_of.desc).map (fun d => d.parameters.length) = some 2 := by decide +kernel
abbrev rm_X11_of : Room := { frames := 1, cells := 0, slots := 0, locals := 24 }
theorem d_X11_of_0 : decode cm_X11_of 0 = .ok (.aload_n 0, 1) := by decide +kernel
theorem d_X11_of_1 : decode cm_X11_of 1 = .ok (.iload_n 1, 1) := by decide +kernel
theorem d_X11_of_2 : decode cm_X11_of 2 = .ok (.invokevirtual 204, 3) := by decide +kernel
theorem d_X11_of_5 : decode cm_X11_of 5 = .ok (.ifCond .ne 9, 3) := by decide +kernel
theorem d_X11_of_8 : decode cm_X11_of 8 = .ok (.aload_n 0, 1) := by decide +kernel
theorem d_X11_of_9 : decode cm_X11_of 9 = .ok (.iconst (-1), 1) := by decide +kernel
theorem d_X11_of_10 : decode cm_X11_of 10 = .ok (.invokevirtual 147, 3) := by decide +kernel
theorem d_X11_of_13 : decode cm_X11_of 13 = .ok (.ireturn, 1) := by decide +kernel
theorem d_X11_of_14 : decode cm_X11_of 14 = .ok (.iload_n 2, 1) := by decide +kernel
theorem d_X11_of_15 : decode cm_X11_of 15 = .ok (.tableswitch 78 0 5 #[37, 44, 51, 58, 65, 72], 37) := by decide +kernel
theorem d_X11_of_52 : decode cm_X11_of 52 = .ok (.aload_n 0, 1) := by decide +kernel
theorem d_X11_of_53 : decode cm_X11_of 53 = .ok (.getfield 22, 3) := by decide +kernel
theorem d_X11_of_56 : decode cm_X11_of 56 = .ok (.iload_n 1, 1) := by decide +kernel
theorem d_X11_of_57 : decode cm_X11_of 57 = .ok (.iaload, 1) := by decide +kernel
theorem d_X11_of_58 : decode cm_X11_of 58 = .ok (.ireturn, 1) := by decide +kernel
theorem d_X11_of_59 : decode cm_X11_of 59 = .ok (.aload_n 0, 1) := by decide +kernel
theorem d_X11_of_60 : decode cm_X11_of 60 = .ok (.getfield 25, 3) := by decide +kernel
theorem d_X11_of_63 : decode cm_X11_of 63 = .ok (.iload_n 1, 1) := by decide +kernel
theorem d_X11_of_64 : decode cm_X11_of 64 = .ok (.iaload, 1) := by decide +kernel
theorem d_X11_of_65 : decode cm_X11_of 65 = .ok (.ireturn, 1) := by decide +kernel
theorem d_X11_of_66 : decode cm_X11_of 66 = .ok (.aload_n 0, 1) := by decide +kernel
theorem d_X11_of_67 : decode cm_X11_of 67 = .ok (.getfield 40, 3) := by decide +kernel
theorem d_X11_of_70 : decode cm_X11_of 70 = .ok (.iload_n 1, 1) := by decide +kernel
theorem d_X11_of_71 : decode cm_X11_of 71 = .ok (.iaload, 1) := by decide +kernel
theorem d_X11_of_72 : decode cm_X11_of 72 = .ok (.ireturn, 1) := by decide +kernel
theorem d_X11_of_73 : decode cm_X11_of 73 = .ok (.aload_n 0, 1) := by decide +kernel
theorem d_X11_of_74 : decode cm_X11_of 74 = .ok (.getfield 55, 3) := by decide +kernel
theorem d_X11_of_77 : decode cm_X11_of 77 = .ok (.iload_n 1, 1) := by decide +kernel
theorem d_X11_of_78 : decode cm_X11_of 78 = .ok (.iaload, 1) := by decide +kernel
theorem d_X11_of_79 : decode cm_X11_of 79 = .ok (.ireturn, 1) := by decide +kernel
theorem d_X11_of_80 : decode cm_X11_of 80 = .ok (.aload_n 0, 1) := by decide +kernel
theorem d_X11_of_81 : decode cm_X11_of 81 = .ok (.getfield 19, 3) := by decide +kernel
theorem d_X11_of_84 : decode cm_X11_of 84 = .ok (.iload_n 1, 1) := by decide +kernel
theorem d_X11_of_85 : decode cm_X11_of 85 = .ok (.iaload, 1) := by decide +kernel
theorem d_X11_of_86 : decode cm_X11_of 86 = .ok (.ireturn, 1) := by decide +kernel
theorem d_X11_of_87 : decode cm_X11_of 87 = .ok (.aload_n 0, 1) := by decide +kernel
theorem d_X11_of_88 : decode cm_X11_of 88 = .ok (.iload_n 1, 1) := by decide +kernel
theorem d_X11_of_89 : decode cm_X11_of 89 = .ok (.invokevirtual 207, 3) := by decide +kernel
theorem d_X11_of_92 : decode cm_X11_of 92 = .ok (.ireturn, 1) := by decide +kernel
theorem d_X11_of_93 : decode cm_X11_of 93 = .ok (.aload_n 0, 1) := by decide +kernel
theorem d_X11_of_94 : decode cm_X11_of 94 = .ok (.bipush (-2), 2) := by decide +kernel
theorem d_X11_of_96 : decode cm_X11_of 96 = .ok (.invokevirtual 147, 3) := by decide +kernel
theorem d_X11_of_99 : decode cm_X11_of 99 = .ok (.ireturn, 1) := by decide +kernel
def D_X11_of_0 (Q : Int32 → GSt → Prop) (x1 : Int32) (x2 : Int32) (σ : GSt) : Prop :=
  D_X11_isGame x1 σ (fun r_1 σ_2 => (¬ r_1 = 0 → ((x2 < 0 ∨ 5 < x2) → D_X11_no (-2) σ_2 (fun r_3 σ_4 => Q r_3 σ_4)) ∧
  (x2 = 0 → vp_in x1 9 ∧ (Q (σ_2 242 (Int32.toNatClampNeg x1)) σ_2)) ∧
  (x2 = 1 → vp_in x1 9 ∧ (Q (σ_2 243 (Int32.toNatClampNeg x1)) σ_2)) ∧
  (x2 = 2 → vp_in x1 9 ∧ (Q (σ_2 248 (Int32.toNatClampNeg x1)) σ_2)) ∧
  (x2 = 3 → vp_in x1 9 ∧ (Q (σ_2 253 (Int32.toNatClampNeg x1)) σ_2)) ∧
  (x2 = 4 → vp_in x1 9 ∧ (Q (σ_2 241 (Int32.toNatClampNeg x1)) σ_2)) ∧
  (x2 = 5 → D_X11_falls x1 σ_2 (fun r_5 σ_6 => Q r_5 σ_6))) ∧
  (r_1 = 0 → D_X11_no (-1) σ_2 (fun r_7 σ_8 => Q r_7 σ_8)))
def D_X11_of (x1 : Int32) (x2 : Int32) (σ : GSt) (Q : Int32 → GSt → Prop) : Prop := D_X11_of_0 Q x1 x2 σ
set_option maxRecDepth 20000 in
set_option maxHeartbeats 4000000 in
theorem s_X11_of_0 {p : Program} {l : Launch} {e : Env} {s : State} {m : MethodId} {args : Array Value} {below : List Frame} {meth : Method} {c : Code} {G : GC} (X : CallFix p m c cm_X11_of 3 s args lw_us "GameLoomModel") (hr : meth.sig.returnType = some .int) (hlk : meth.locks = false) (Q : Int32 → GSt → Prop) (x1 : Int32) (x2 : Int32) (σ : GSt) {H : Heap} {locs : List Loc} {ls : Array Slot} (hw : Wo G s H locs σ) (hl : lv_has ls 3 [(0, .ref (G.2.1 237)), (1, .int x1), (2, .int x2)]) (hD : D_X11_of_0 Q x1 x2 σ) : W p l e rm_X11_of s m args below meth c H locs 0 0 (QMI G Q below args s) (F0 m 0 ls []) := by
  unfold D_X11_of_0 at hD
  refine lv_aload_n X.1 X.2.1 d_X11_of_0 rfl (lv_at hl 0 rfl) ?_
  refine lv_iload_n X.1 X.2.1 d_X11_of_1 rfl (lv_at hl 1 rfl) ?_
  refine gcV_i (rest := []) (As := [.int x1]) (o := 237) X hw (c_X11_isGame l G x1 σ _  hD) (kd_lt (by decide +kernel : kd 237 = 11) (by decide)) (ce_11 G _ (by decide +kernel : kd 237 = 11)) rfl tb_1144 tb_1146 tv_47 tb_12 tb_1147 hd_X11_isGame ⟨rfl, rfl⟩ ⟨Nat.le_of_ble_eq_true rfl, Nat.le_of_ble_eq_true rfl⟩ rfl hl.1 rfl (Nat.le_of_ble_eq_true rfl) d_X11_of_2 (fun r_1 σ_2 H locs hD hw => ?_)
  refine lv_if_ne (tgt := 14) X.1 X.2.1 d_X11_of_5 (by decide) (fun q_5 => ?_) (fun q_5 => ?_)
  · have hD := hD.1 q_5
    refine lv_iload_n X.1 X.2.1 d_X11_of_14 rfl (lv_at hl 2 rfl) ?_
    by_cases q_15 : x2 < 0 ∨ 5 < x2
    · have hD := hD.1 q_15
      refine lv_tableOut (tgt := 93) X.1 X.2.1 d_X11_of_15 (sw_out (n := 5) (by decide) q_15) (by decide) ?_
      refine lv_aload_n X.1 X.2.1 d_X11_of_93 rfl (lv_at hl 0 rfl) ?_
      refine lv_bipush (v := (-2)) X.1 X.2.1 d_X11_of_94 (by decide) ?_
      refine gcV_i (rest := []) (As := [.int (-2)]) (o := 237) X hw (c_X11_no l G (-2) σ_2 _  hD) (kd_lt (by decide +kernel : kd 237 = 11) (by decide)) (ce_11 G _ (by decide +kernel : kd 237 = 11)) rfl tb_1084 tb_1086 tv_35 tb_12 tb_1087 hd_X11_no ⟨rfl, rfl⟩ ⟨Nat.le_of_ble_eq_true rfl, Nat.le_of_ble_eq_true rfl⟩ rfl hl.1 rfl (Nat.le_of_ble_eq_true rfl) d_X11_of_96 (fun r_3 σ_4 H locs hD hw => ?_)
      exact g_iret X hr hlk hw hD d_X11_of_99
    · obtain ⟨j_15, hj, ej⟩ := sw_in (n := 5) (by decide) q_15
      have hD := hD.2
      rcases (show j_15 = 0 ∨ j_15 = 1 ∨ j_15 = 2 ∨ j_15 = 3 ∨ j_15 = 4 ∨ j_15 = 5 by omega) with rfl | rfl | rfl | rfl | rfl | rfl
      · have hD := hD.1 ej
        refine lv_tableIn (tgt := 52) X.1 X.2.1 d_X11_of_15 (by rw [ej]; decide) (by rw [ej]; decide) (by rw [ej]; rfl) (by decide) ?_
        refine lv_aload_n X.1 X.2.1 d_X11_of_52 rfl (lv_at hl 0 rfl) ?_
        refine gf_11_4 X hw (by decide +kernel : kd 237 = 11) tb_910 d_X11_of_53 ?_
        refine lv_iload_n X.1 X.2.1 d_X11_of_56 rfl (lv_at hl 1 rfl) ?_
        obtain ⟨q_57, hD⟩ := hD
        refine g_iald X hw ly_11_4.1 ly_11_4.2 q_57 d_X11_of_57 ?_
        exact g_iret X hr hlk hw hD d_X11_of_58
      · have hD := hD.2.1 ej
        refine lv_tableIn (tgt := 59) X.1 X.2.1 d_X11_of_15 (by rw [ej]; decide) (by rw [ej]; decide) (by rw [ej]; rfl) (by decide) ?_
        refine lv_aload_n X.1 X.2.1 d_X11_of_59 rfl (lv_at hl 0 rfl) ?_
        refine gf_11_5 X hw (by decide +kernel : kd 237 = 11) tb_911 d_X11_of_60 ?_
        refine lv_iload_n X.1 X.2.1 d_X11_of_63 rfl (lv_at hl 1 rfl) ?_
        obtain ⟨q_64, hD⟩ := hD
        refine g_iald X hw ly_11_5.1 ly_11_5.2 q_64 d_X11_of_64 ?_
        exact g_iret X hr hlk hw hD d_X11_of_65
      · have hD := hD.2.2.1 ej
        refine lv_tableIn (tgt := 66) X.1 X.2.1 d_X11_of_15 (by rw [ej]; decide) (by rw [ej]; decide) (by rw [ej]; rfl) (by decide) ?_
        refine lv_aload_n X.1 X.2.1 d_X11_of_66 rfl (lv_at hl 0 rfl) ?_
        refine gf_11_10 X hw (by decide +kernel : kd 237 = 11) tb_916 d_X11_of_67 ?_
        refine lv_iload_n X.1 X.2.1 d_X11_of_70 rfl (lv_at hl 1 rfl) ?_
        obtain ⟨q_71, hD⟩ := hD
        refine g_iald X hw ly_11_10.1 ly_11_10.2 q_71 d_X11_of_71 ?_
        exact g_iret X hr hlk hw hD d_X11_of_72
      · have hD := hD.2.2.2.1 ej
        refine lv_tableIn (tgt := 73) X.1 X.2.1 d_X11_of_15 (by rw [ej]; decide) (by rw [ej]; decide) (by rw [ej]; rfl) (by decide) ?_
        refine lv_aload_n X.1 X.2.1 d_X11_of_73 rfl (lv_at hl 0 rfl) ?_
        refine gf_11_15 X hw (by decide +kernel : kd 237 = 11) tb_921 d_X11_of_74 ?_
        refine lv_iload_n X.1 X.2.1 d_X11_of_77 rfl (lv_at hl 1 rfl) ?_
        obtain ⟨q_78, hD⟩ := hD
        refine g_iald X hw ly_11_15.1 ly_11_15.2 q_78 d_X11_of_78 ?_
        exact g_iret X hr hlk hw hD d_X11_of_79
      · have hD := hD.2.2.2.2.1 ej
        refine lv_tableIn (tgt := 80) X.1 X.2.1 d_X11_of_15 (by rw [ej]; decide) (by rw [ej]; decide) (by rw [ej]; rfl) (by decide) ?_
        refine lv_aload_n X.1 X.2.1 d_X11_of_80 rfl (lv_at hl 0 rfl) ?_
        refine gf_11_3 X hw (by decide +kernel : kd 237 = 11) tb_909 d_X11_of_81 ?_
        refine lv_iload_n X.1 X.2.1 d_X11_of_84 rfl (lv_at hl 1 rfl) ?_
        obtain ⟨q_85, hD⟩ := hD
        refine g_iald X hw ly_11_3.1 ly_11_3.2 q_85 d_X11_of_85 ?_
        exact g_iret X hr hlk hw hD d_X11_of_86
      · have hD := hD.2.2.2.2.2 ej
        refine lv_tableIn (tgt := 87) X.1 X.2.1 d_X11_of_15 (by rw [ej]; decide) (by rw [ej]; decide) (by rw [ej]; rfl) (by decide) ?_
        refine lv_aload_n X.1 X.2.1 d_X11_of_87 rfl (lv_at hl 0 rfl) ?_
        refine lv_iload_n X.1 X.2.1 d_X11_of_88 rfl (lv_at hl 1 rfl) ?_
        refine gcV_i (rest := []) (As := [.int x1]) (o := 237) X hw (c_X11_falls l G x1 σ_2 _  hD) (kd_lt (by decide +kernel : kd 237 = 11) (by decide)) (ce_11 G _ (by decide +kernel : kd 237 = 11)) rfl tb_1148 tb_1150 tv_48 tb_12 tb_1151 hd_X11_falls ⟨rfl, rfl⟩ ⟨Nat.le_of_ble_eq_true rfl, Nat.le_of_ble_eq_true rfl⟩ rfl hl.1 rfl (Nat.le_of_ble_eq_true rfl) d_X11_of_89 (fun r_5 σ_6 H locs hD hw => ?_)
        exact g_iret X hr hlk hw hD d_X11_of_92
  · have hD := hD.2 q_5
    refine lv_aload_n X.1 X.2.1 d_X11_of_8 rfl (lv_at hl 0 rfl) ?_
    refine lv_iconst (v := (-1)) X.1 X.2.1 d_X11_of_9 (by decide) ?_
    refine gcV_i (rest := []) (As := [.int (-1)]) (o := 237) X hw (c_X11_no l G (-1) σ_2 _  hD) (kd_lt (by decide +kernel : kd 237 = 11) (by decide)) (ce_11 G _ (by decide +kernel : kd 237 = 11)) rfl tb_1084 tb_1086 tv_35 tb_12 tb_1087 hd_X11_no ⟨rfl, rfl⟩ ⟨Nat.le_of_ble_eq_true rfl, Nat.le_of_ble_eq_true rfl⟩ rfl hl.1 rfl (Nat.le_of_ble_eq_true rfl) d_X11_of_10 (fun r_7 σ_8 H locs hD hw => ?_)
    exact g_iret X hr hlk hw hD d_X11_of_13
theorem c_X11_of (l : Launch) (G : GC) (x1 : Int32) (x2 : Int32) (σ : GSt) (Q : Int32 → GSt → Prop)  (hD : D_X11_of x1 x2 σ Q) : MI l ym_X11_of cm_X11_of 3 .int rm_X11_of G σ [.ref (G.2.1 237), .int x1, .int x2] Q := by
  refine met_i (by decide) (Nat.le_of_ble_eq_true rfl) ?_
  intro p e s m args below meth c X hr hlk hw ls hl
  exact s_X11_of_0 X hr hlk Q  x1 x2 σ hw (lv_sub hl [0, 1, 2] rfl) hD
theorem hd_X11_letter : ym_X11_letter.cls = "GameLoomModel" ∧ ym_X11_letter.cls ≠ "java/lang/invoke/MethodHandle" ∧ ym_X11_letter.cls ≠ "java/lang/invoke/VarHandle" ∧ (parseMethodDescriptor ym_X11_letter.desc).map (fun d => d.parameters.length) = some 2 := by decide +kernel
abbrev rm_X11_letter : Room := { frames := 1, cells := 0, slots := 0, locals := 21 }
theorem d_X11_letter_0 : decode cm_X11_letter 0 = .ok (.aload_n 0, 1) := by decide +kernel
theorem d_X11_letter_1 : decode cm_X11_letter 1 = .ok (.iload_n 1, 1) := by decide +kernel
theorem d_X11_letter_2 : decode cm_X11_letter 2 = .ok (.invokevirtual 204, 3) := by decide +kernel
theorem d_X11_letter_5 : decode cm_X11_letter 5 = .ok (.ifCond .ne 9, 3) := by decide +kernel
theorem d_X11_letter_8 : decode cm_X11_letter 8 = .ok (.aload_n 0, 1) := by decide +kernel
theorem d_X11_letter_9 : decode cm_X11_letter 9 = .ok (.iconst (-1), 1) := by decide +kernel
theorem d_X11_letter_10 : decode cm_X11_letter 10 = .ok (.invokevirtual 147, 3) := by decide +kernel
theorem d_X11_letter_13 : decode cm_X11_letter 13 = .ok (.ireturn, 1) := by decide +kernel
theorem d_X11_letter_14 : decode cm_X11_letter 14 = .ok (.iload_n 2, 1) := by decide +kernel
theorem d_X11_letter_15 : decode cm_X11_letter 15 = .ok (.ifCond .ge 10, 3) := by decide +kernel
theorem d_X11_letter_18 : decode cm_X11_letter 18 = .ok (.aload_n 0, 1) := by decide +kernel
theorem d_X11_letter_19 : decode cm_X11_letter 19 = .ok (.bipush (-4), 2) := by decide +kernel
theorem d_X11_letter_21 : decode cm_X11_letter 21 = .ok (.invokevirtual 147, 3) := by decide +kernel
theorem d_X11_letter_24 : decode cm_X11_letter 24 = .ok (.ireturn, 1) := by decide +kernel
theorem d_X11_letter_25 : decode cm_X11_letter 25 = .ok (.iload_n 2, 1) := by decide +kernel
theorem d_X11_letter_26 : decode cm_X11_letter 26 = .ok (.aload_n 0, 1) := by decide +kernel
theorem d_X11_letter_27 : decode cm_X11_letter 27 = .ok (.getfield 19, 3) := by decide +kernel
theorem d_X11_letter_30 : decode cm_X11_letter 30 = .ok (.iload_n 1, 1) := by decide +kernel
theorem d_X11_letter_31 : decode cm_X11_letter 31 = .ok (.iaload, 1) := by decide +kernel
theorem d_X11_letter_32 : decode cm_X11_letter 32 = .ok (.if_icmp .ge 17, 3) := by decide +kernel
theorem d_X11_letter_35 : decode cm_X11_letter 35 = .ok (.aload_n 0, 1) := by decide +kernel
theorem d_X11_letter_36 : decode cm_X11_letter 36 = .ok (.getfield 16, 3) := by decide +kernel
theorem d_X11_letter_39 : decode cm_X11_letter 39 = .ok (.bipush 90, 2) := by decide +kernel
theorem d_X11_letter_41 : decode cm_X11_letter 41 = .ok (.iload_n 1, 1) := by decide +kernel
theorem d_X11_letter_42 : decode cm_X11_letter 42 = .ok (.imul, 1) := by decide +kernel
theorem d_X11_letter_43 : decode cm_X11_letter 43 = .ok (.iload_n 2, 1) := by decide +kernel
theorem d_X11_letter_44 : decode cm_X11_letter 44 = .ok (.iadd, 1) := by decide +kernel
theorem d_X11_letter_45 : decode cm_X11_letter 45 = .ok (.iaload, 1) := by decide +kernel
theorem d_X11_letter_46 : decode cm_X11_letter 46 = .ok (.goto 5, 3) := by decide +kernel
theorem d_X11_letter_49 : decode cm_X11_letter 49 = .ok (.bipush (-9), 2) := by decide +kernel
theorem d_X11_letter_51 : decode cm_X11_letter 51 = .ok (.ireturn, 1) := by decide +kernel
def D_X11_letter_0 (Q : Int32 → GSt → Prop) (x1 : Int32) (x2 : Int32) (σ : GSt) : Prop :=
  D_X11_isGame x1 σ (fun r_1 σ_2 => (¬ r_1 = 0 → (0 ≤ x2 → vp_in x1 9 ∧ (((σ_2 241 (Int32.toNatClampNeg x1)) ≤ x2 → Q (-9) σ_2) ∧
  (¬ (σ_2 241 (Int32.toNatClampNeg x1)) ≤ x2 → vp_in ((90 * x1) + x2) 810 ∧ (Q (σ_2 240 (Int32.toNatClampNeg ((90 * x1) + x2))) σ_2)))) ∧
  (¬ 0 ≤ x2 → D_X11_no (-4) σ_2 (fun r_3 σ_4 => Q r_3 σ_4))) ∧
  (r_1 = 0 → D_X11_no (-1) σ_2 (fun r_5 σ_6 => Q r_5 σ_6)))
def D_X11_letter (x1 : Int32) (x2 : Int32) (σ : GSt) (Q : Int32 → GSt → Prop) : Prop := D_X11_letter_0 Q x1 x2 σ
set_option maxRecDepth 20000 in
set_option maxHeartbeats 4000000 in
theorem s_X11_letter_0 {p : Program} {l : Launch} {e : Env} {s : State} {m : MethodId} {args : Array Value} {below : List Frame} {meth : Method} {c : Code} {G : GC} (X : CallFix p m c cm_X11_letter 3 s args lw_us "GameLoomModel") (hr : meth.sig.returnType = some .int) (hlk : meth.locks = false) (Q : Int32 → GSt → Prop) (x1 : Int32) (x2 : Int32) (σ : GSt) {H : Heap} {locs : List Loc} {ls : Array Slot} (hw : Wo G s H locs σ) (hl : lv_has ls 3 [(0, .ref (G.2.1 237)), (1, .int x1), (2, .int x2)]) (hD : D_X11_letter_0 Q x1 x2 σ) : W p l e rm_X11_letter s m args below meth c H locs 0 0 (QMI G Q below args s) (F0 m 0 ls []) := by
  unfold D_X11_letter_0 at hD
  refine lv_aload_n X.1 X.2.1 d_X11_letter_0 rfl (lv_at hl 0 rfl) ?_
  refine lv_iload_n X.1 X.2.1 d_X11_letter_1 rfl (lv_at hl 1 rfl) ?_
  refine gcV_i (rest := []) (As := [.int x1]) (o := 237) X hw (c_X11_isGame l G x1 σ _  hD) (kd_lt (by decide +kernel : kd 237 = 11) (by decide)) (ce_11 G _ (by decide +kernel : kd 237 = 11)) rfl tb_1144 tb_1146 tv_47 tb_12 tb_1147 hd_X11_isGame ⟨rfl, rfl⟩ ⟨Nat.le_of_ble_eq_true rfl, Nat.le_of_ble_eq_true rfl⟩ rfl hl.1 rfl (Nat.le_of_ble_eq_true rfl) d_X11_letter_2 (fun r_1 σ_2 H locs hD hw => ?_)
  refine lv_if_ne (tgt := 14) X.1 X.2.1 d_X11_letter_5 (by decide) (fun q_5 => ?_) (fun q_5 => ?_)
  · have hD := hD.1 q_5
    refine lv_iload_n X.1 X.2.1 d_X11_letter_14 rfl (lv_at hl 2 rfl) ?_
    refine lv_if_ge (tgt := 25) X.1 X.2.1 d_X11_letter_15 (by decide) (fun q_15 => ?_) (fun q_15 => ?_)
    · have hD := hD.1 q_15
      refine lv_iload_n X.1 X.2.1 d_X11_letter_25 rfl (lv_at hl 2 rfl) ?_
      refine lv_aload_n X.1 X.2.1 d_X11_letter_26 rfl (lv_at hl 0 rfl) ?_
      refine gf_11_3 X hw (by decide +kernel : kd 237 = 11) tb_909 d_X11_letter_27 ?_
      refine lv_iload_n X.1 X.2.1 d_X11_letter_30 rfl (lv_at hl 1 rfl) ?_
      obtain ⟨q_31, hD⟩ := hD
      refine g_iald X hw ly_11_3.1 ly_11_3.2 q_31 d_X11_letter_31 ?_
      refine lv_icmp_ge (tgt := 49) X.1 X.2.1 d_X11_letter_32 (by decide) (fun q_32 => ?_) (fun q_32 => ?_)
      · have hD := hD.1 q_32
        refine lv_bipush (v := (-9)) X.1 X.2.1 d_X11_letter_49 (by decide) ?_
        exact g_iret X hr hlk hw hD d_X11_letter_51
      · have hD := hD.2 q_32
        refine lv_aload_n X.1 X.2.1 d_X11_letter_35 rfl (lv_at hl 0 rfl) ?_
        refine gf_11_2 X hw (by decide +kernel : kd 237 = 11) tb_908 d_X11_letter_36 ?_
        refine lv_bipush (v := 90) X.1 X.2.1 d_X11_letter_39 (by decide) ?_
        refine lv_iload_n X.1 X.2.1 d_X11_letter_41 rfl (lv_at hl 1 rfl) ?_
        refine lv_imul X.1 X.2.1 d_X11_letter_42 ?_
        refine lv_iload_n X.1 X.2.1 d_X11_letter_43 rfl (lv_at hl 2 rfl) ?_
        refine lv_iadd X.1 X.2.1 d_X11_letter_44 ?_
        obtain ⟨q_45, hD⟩ := hD
        refine g_iald X hw ly_11_2.1 ly_11_2.2 q_45 d_X11_letter_45 ?_
        refine lv_goto (tgt := 51) X.1 X.2.1 d_X11_letter_46 (by decide) ?_
        exact g_iret X hr hlk hw hD d_X11_letter_51
    · have hD := hD.2 q_15
      refine lv_aload_n X.1 X.2.1 d_X11_letter_18 rfl (lv_at hl 0 rfl) ?_
      refine lv_bipush (v := (-4)) X.1 X.2.1 d_X11_letter_19 (by decide) ?_
      refine gcV_i (rest := []) (As := [.int (-4)]) (o := 237) X hw (c_X11_no l G (-4) σ_2 _  hD) (kd_lt (by decide +kernel : kd 237 = 11) (by decide)) (ce_11 G _ (by decide +kernel : kd 237 = 11)) rfl tb_1084 tb_1086 tv_35 tb_12 tb_1087 hd_X11_no ⟨rfl, rfl⟩ ⟨Nat.le_of_ble_eq_true rfl, Nat.le_of_ble_eq_true rfl⟩ rfl hl.1 rfl (Nat.le_of_ble_eq_true rfl) d_X11_letter_21 (fun r_3 σ_4 H locs hD hw => ?_)
      exact g_iret X hr hlk hw hD d_X11_letter_24
  · have hD := hD.2 q_5
    refine lv_aload_n X.1 X.2.1 d_X11_letter_8 rfl (lv_at hl 0 rfl) ?_
    refine lv_iconst (v := (-1)) X.1 X.2.1 d_X11_letter_9 (by decide) ?_
    refine gcV_i (rest := []) (As := [.int (-1)]) (o := 237) X hw (c_X11_no l G (-1) σ_2 _  hD) (kd_lt (by decide +kernel : kd 237 = 11) (by decide)) (ce_11 G _ (by decide +kernel : kd 237 = 11)) rfl tb_1084 tb_1086 tv_35 tb_12 tb_1087 hd_X11_no ⟨rfl, rfl⟩ ⟨Nat.le_of_ble_eq_true rfl, Nat.le_of_ble_eq_true rfl⟩ rfl hl.1 rfl (Nat.le_of_ble_eq_true rfl) d_X11_letter_10 (fun r_5 σ_6 H locs hD hw => ?_)
    exact g_iret X hr hlk hw hD d_X11_letter_13
theorem c_X11_letter (l : Launch) (G : GC) (x1 : Int32) (x2 : Int32) (σ : GSt) (Q : Int32 → GSt → Prop)  (hD : D_X11_letter x1 x2 σ Q) : MI l ym_X11_letter cm_X11_letter 3 .int rm_X11_letter G σ [.ref (G.2.1 237), .int x1, .int x2] Q := by
  refine met_i (by decide) (Nat.le_of_ble_eq_true rfl) ?_
  intro p e s m args below meth c X hr hlk hw ls hl
  exact s_X11_letter_0 X hr hlk Q  x1 x2 σ hw (lv_sub hl [0, 1, 2] rfl) hD
theorem hd_X11_cellAt : ym_X11_cellAt.cls = "GameLoomModel" ∧ ym_X11_cellAt.cls ≠ "java/lang/invoke/MethodHandle" ∧ ym_X11_cellAt.cls ≠ "java/lang/invoke/VarHandle" ∧ (parseMethodDescriptor ym_X11_cellAt.desc).map (fun d => d.parameters.length) = some 3 := by decide +kernel
abbrev rm_X11_cellAt : Room := { frames := 1, cells := 0, slots := 0, locals := 25 }
theorem d_X11_cellAt_0 : decode cm_X11_cellAt 0 = .ok (.iload_n 2, 1) := by decide +kernel
theorem d_X11_cellAt_1 : decode cm_X11_cellAt 1 = .ok (.i2l, 1) := by decide +kernel
theorem d_X11_cellAt_2 : decode cm_X11_cellAt 2 = .ok (.lconst 0, 1) := by decide +kernel
theorem d_X11_cellAt_3 : decode cm_X11_cellAt 3 = .ok (.aload_n 0, 1) := by decide +kernel
theorem d_X11_cellAt_4 : decode cm_X11_cellAt 4 = .ok (.getfield 22, 3) := by decide +kernel
theorem d_X11_cellAt_7 : decode cm_X11_cellAt 7 = .ok (.aload_n 0, 1) := by decide +kernel
theorem d_X11_cellAt_8 : decode cm_X11_cellAt 8 = .ok (.getfield 156, 3) := by decide +kernel
theorem d_X11_cellAt_11 : decode cm_X11_cellAt 11 = .ok (.iaload, 1) := by decide +kernel
theorem d_X11_cellAt_12 : decode cm_X11_cellAt 12 = .ok (.iconst 1, 1) := by decide +kernel
theorem d_X11_cellAt_13 : decode cm_X11_cellAt 13 = .ok (.isub, 1) := by decide +kernel
theorem d_X11_cellAt_14 : decode cm_X11_cellAt 14 = .ok (.i2l, 1) := by decide +kernel
theorem d_X11_cellAt_15 : decode cm_X11_cellAt 15 = .ok (.invokestatic 163, 3) := by decide +kernel
theorem d_X11_cellAt_18 : decode cm_X11_cellAt 18 = .ok (.ifCond .eq 50, 3) := by decide +kernel
theorem d_X11_cellAt_21 : decode cm_X11_cellAt 21 = .ok (.iload_n 3, 1) := by decide +kernel
theorem d_X11_cellAt_22 : decode cm_X11_cellAt 22 = .ok (.i2l, 1) := by decide +kernel
theorem d_X11_cellAt_23 : decode cm_X11_cellAt 23 = .ok (.lconst 0, 1) := by decide +kernel
theorem d_X11_cellAt_24 : decode cm_X11_cellAt 24 = .ok (.aload_n 0, 1) := by decide +kernel
theorem d_X11_cellAt_25 : decode cm_X11_cellAt 25 = .ok (.getfield 25, 3) := by decide +kernel
theorem d_X11_cellAt_28 : decode cm_X11_cellAt 28 = .ok (.aload_n 0, 1) := by decide +kernel
theorem d_X11_cellAt_29 : decode cm_X11_cellAt 29 = .ok (.getfield 156, 3) := by decide +kernel
theorem d_X11_cellAt_32 : decode cm_X11_cellAt 32 = .ok (.iaload, 1) := by decide +kernel
theorem d_X11_cellAt_33 : decode cm_X11_cellAt 33 = .ok (.iconst 1, 1) := by decide +kernel
theorem d_X11_cellAt_34 : decode cm_X11_cellAt 34 = .ok (.isub, 1) := by decide +kernel
theorem d_X11_cellAt_35 : decode cm_X11_cellAt 35 = .ok (.i2l, 1) := by decide +kernel
theorem d_X11_cellAt_36 : decode cm_X11_cellAt 36 = .ok (.invokestatic 163, 3) := by decide +kernel
theorem d_X11_cellAt_39 : decode cm_X11_cellAt 39 = .ok (.ifCond .eq 29, 3) := by decide +kernel
theorem d_X11_cellAt_42 : decode cm_X11_cellAt 42 = .ok (.aload_n 0, 1) := by decide +kernel
theorem d_X11_cellAt_43 : decode cm_X11_cellAt 43 = .ok (.getfield 68, 3) := by decide +kernel
theorem d_X11_cellAt_46 : decode cm_X11_cellAt 46 = .ok (.bipush 16, 2) := by decide +kernel
theorem d_X11_cellAt_48 : decode cm_X11_cellAt 48 = .ok (.iload_n 1, 1) := by decide +kernel
theorem d_X11_cellAt_49 : decode cm_X11_cellAt 49 = .ok (.imul, 1) := by decide +kernel
theorem d_X11_cellAt_50 : decode cm_X11_cellAt 50 = .ok (.aload_n 0, 1) := by decide +kernel
theorem d_X11_cellAt_51 : decode cm_X11_cellAt 51 = .ok (.getfield 22, 3) := by decide +kernel
theorem d_X11_cellAt_54 : decode cm_X11_cellAt 54 = .ok (.aload_n 0, 1) := by decide +kernel
theorem d_X11_cellAt_55 : decode cm_X11_cellAt 55 = .ok (.getfield 156, 3) := by decide +kernel
theorem d_X11_cellAt_58 : decode cm_X11_cellAt 58 = .ok (.iaload, 1) := by decide +kernel
theorem d_X11_cellAt_59 : decode cm_X11_cellAt 59 = .ok (.iload_n 3, 1) := by decide +kernel
theorem d_X11_cellAt_60 : decode cm_X11_cellAt 60 = .ok (.imul, 1) := by decide +kernel
theorem d_X11_cellAt_61 : decode cm_X11_cellAt 61 = .ok (.iadd, 1) := by decide +kernel
theorem d_X11_cellAt_62 : decode cm_X11_cellAt 62 = .ok (.iload_n 2, 1) := by decide +kernel
theorem d_X11_cellAt_63 : decode cm_X11_cellAt 63 = .ok (.iadd, 1) := by decide +kernel
theorem d_X11_cellAt_64 : decode cm_X11_cellAt 64 = .ok (.iaload, 1) := by decide +kernel
theorem d_X11_cellAt_65 : decode cm_X11_cellAt 65 = .ok (.goto 4, 3) := by decide +kernel
theorem d_X11_cellAt_68 : decode cm_X11_cellAt 68 = .ok (.iconst (-1), 1) := by decide +kernel
theorem d_X11_cellAt_69 : decode cm_X11_cellAt 69 = .ok (.ireturn, 1) := by decide +kernel
def D_X11_cellAt_0 (Q : Int32 → GSt → Prop) (x1 : Int32) (x2 : Int32) (x3 : Int32) (σ : GSt) : Prop :=
  vp_in (σ 237 22) 9 ∧ (D_X11_isIn (Int32.toInt64 x2) 0 (Int32.toInt64 ((σ 242 (Int32.toNatClampNeg (σ 237 22))) - 1)) σ (fun r_1 σ_2 => (r_1 = 0 → Q (-1) σ_2) ∧
  (¬ r_1 = 0 → vp_in (σ_2 237 22) 9 ∧ (D_X11_isIn (Int32.toInt64 x3) 0 (Int32.toInt64 ((σ_2 243 (Int32.toNatClampNeg (σ_2 237 22))) - 1)) σ_2 (fun r_3 σ_4 => (r_3 = 0 → Q (-1) σ_4) ∧
  (¬ r_3 = 0 → vp_in (σ_4 237 22) 9 ∧ (vp_in (((16 * x1) + ((σ_4 242 (Int32.toNatClampNeg (σ_4 237 22))) * x3)) + x2) 144 ∧ (Q (σ_4 257 (Int32.toNatClampNeg (((16 * x1) + ((σ_4 242 (Int32.toNatClampNeg (σ_4 237 22))) * x3)) + x2))) σ_4))))))))
def D_X11_cellAt (x1 : Int32) (x2 : Int32) (x3 : Int32) (σ : GSt) (Q : Int32 → GSt → Prop) : Prop := D_X11_cellAt_0 Q x1 x2 x3 σ
set_option maxRecDepth 20000 in
set_option maxHeartbeats 4000000 in
theorem s_X11_cellAt_0 {p : Program} {l : Launch} {e : Env} {s : State} {m : MethodId} {args : Array Value} {below : List Frame} {meth : Method} {c : Code} {G : GC} (X : CallFix p m c cm_X11_cellAt 4 s args lw_us "GameLoomModel") (hr : meth.sig.returnType = some .int) (hlk : meth.locks = false) (Q : Int32 → GSt → Prop) (x1 : Int32) (x2 : Int32) (x3 : Int32) (σ : GSt) {H : Heap} {locs : List Loc} {ls : Array Slot} (hw : Wo G s H locs σ) (hl : lv_has ls 4 [(0, .ref (G.2.1 237)), (1, .int x1), (2, .int x2), (3, .int x3)]) (hD : D_X11_cellAt_0 Q x1 x2 x3 σ) : W p l e rm_X11_cellAt s m args below meth c H locs 0 0 (QMI G Q below args s) (F0 m 0 ls []) := by
  unfold D_X11_cellAt_0 at hD
  refine lv_iload_n X.1 X.2.1 d_X11_cellAt_0 rfl (lv_at hl 2 rfl) ?_
  refine lv_i2l (v := (Int32.toInt64 x2)) X.1 X.2.1 d_X11_cellAt_1 rfl ?_
  refine lv_lconst (v := 0) X.1 X.2.1 d_X11_cellAt_2 (by decide) ?_
  refine lv_aload_n X.1 X.2.1 d_X11_cellAt_3 rfl (lv_at hl 0 rfl) ?_
  refine gf_11_4 X hw (by decide +kernel : kd 237 = 11) tb_910 d_X11_cellAt_4 ?_
  refine lv_aload_n X.1 X.2.1 d_X11_cellAt_7 rfl (lv_at hl 0 rfl) ?_
  refine gf_11_22 X hw (by decide +kernel : kd 237 = 11) tb_928 d_X11_cellAt_8 ?_
  obtain ⟨q_11, hD⟩ := hD
  refine g_iald X hw ly_11_4.1 ly_11_4.2 q_11 d_X11_cellAt_11 ?_
  refine lv_iconst (v := 1) X.1 X.2.1 d_X11_cellAt_12 (by decide) ?_
  refine lv_isub X.1 X.2.1 d_X11_cellAt_13 ?_
  refine lv_i2l (v := (Int32.toInt64 ((σ 242 (Int32.toNatClampNeg (σ 237 22))) - 1))) X.1 X.2.1 d_X11_cellAt_14 rfl ?_
  refine gcS_i (rest := []) (As := [.long (Int32.toInt64 x2), .long 0, .long (Int32.toInt64 ((σ 242 (Int32.toNatClampNeg (σ 237 22))) - 1))]) X hw (c_X11_isIn l G (Int32.toInt64 x2) 0 (Int32.toInt64 ((σ 242 (Int32.toNatClampNeg (σ 237 22))) - 1)) σ _  hD) tb_1125 tb_1126 tb_12 tb_1127 hd_X11_isIn ⟨rfl, rfl⟩ ⟨Nat.le_of_ble_eq_true rfl, Nat.le_of_ble_eq_true rfl⟩ rfl hl.1 rfl (Nat.le_of_ble_eq_true rfl) d_X11_cellAt_15 (fun r_1 σ_2 H locs hD hw => ?_)
  refine lv_if_eq (tgt := 68) X.1 X.2.1 d_X11_cellAt_18 (by decide) (fun q_18 => ?_) (fun q_18 => ?_)
  · have hD := hD.1 q_18
    refine lv_iconst (v := (-1)) X.1 X.2.1 d_X11_cellAt_68 (by decide) ?_
    exact g_iret X hr hlk hw hD d_X11_cellAt_69
  · have hD := hD.2 q_18
    refine lv_iload_n X.1 X.2.1 d_X11_cellAt_21 rfl (lv_at hl 3 rfl) ?_
    refine lv_i2l (v := (Int32.toInt64 x3)) X.1 X.2.1 d_X11_cellAt_22 rfl ?_
    refine lv_lconst (v := 0) X.1 X.2.1 d_X11_cellAt_23 (by decide) ?_
    refine lv_aload_n X.1 X.2.1 d_X11_cellAt_24 rfl (lv_at hl 0 rfl) ?_
    refine gf_11_5 X hw (by decide +kernel : kd 237 = 11) tb_911 d_X11_cellAt_25 ?_
    refine lv_aload_n X.1 X.2.1 d_X11_cellAt_28 rfl (lv_at hl 0 rfl) ?_
    refine gf_11_22 X hw (by decide +kernel : kd 237 = 11) tb_928 d_X11_cellAt_29 ?_
    obtain ⟨q_32, hD⟩ := hD
    refine g_iald X hw ly_11_5.1 ly_11_5.2 q_32 d_X11_cellAt_32 ?_
    refine lv_iconst (v := 1) X.1 X.2.1 d_X11_cellAt_33 (by decide) ?_
    refine lv_isub X.1 X.2.1 d_X11_cellAt_34 ?_
    refine lv_i2l (v := (Int32.toInt64 ((σ_2 243 (Int32.toNatClampNeg (σ_2 237 22))) - 1))) X.1 X.2.1 d_X11_cellAt_35 rfl ?_
    refine gcS_i (rest := []) (As := [.long (Int32.toInt64 x3), .long 0, .long (Int32.toInt64 ((σ_2 243 (Int32.toNatClampNeg (σ_2 237 22))) - 1))]) X hw (c_X11_isIn l G (Int32.toInt64 x3) 0 (Int32.toInt64 ((σ_2 243 (Int32.toNatClampNeg (σ_2 237 22))) - 1)) σ_2 _  hD) tb_1125 tb_1126 tb_12 tb_1127 hd_X11_isIn ⟨rfl, rfl⟩ ⟨Nat.le_of_ble_eq_true rfl, Nat.le_of_ble_eq_true rfl⟩ rfl hl.1 rfl (Nat.le_of_ble_eq_true rfl) d_X11_cellAt_36 (fun r_3 σ_4 H locs hD hw => ?_)
    refine lv_if_eq (tgt := 68) X.1 X.2.1 d_X11_cellAt_39 (by decide) (fun q_39 => ?_) (fun q_39 => ?_)
    · have hD := hD.1 q_39
      refine lv_iconst (v := (-1)) X.1 X.2.1 d_X11_cellAt_68 (by decide) ?_
      exact g_iret X hr hlk hw hD d_X11_cellAt_69
    · have hD := hD.2 q_39
      refine lv_aload_n X.1 X.2.1 d_X11_cellAt_42 rfl (lv_at hl 0 rfl) ?_
      refine gf_11_23 X hw (by decide +kernel : kd 237 = 11) tb_929 d_X11_cellAt_43 ?_
      refine lv_bipush (v := 16) X.1 X.2.1 d_X11_cellAt_46 (by decide) ?_
      refine lv_iload_n X.1 X.2.1 d_X11_cellAt_48 rfl (lv_at hl 1 rfl) ?_
      refine lv_imul X.1 X.2.1 d_X11_cellAt_49 ?_
      refine lv_aload_n X.1 X.2.1 d_X11_cellAt_50 rfl (lv_at hl 0 rfl) ?_
      refine gf_11_4 X hw (by decide +kernel : kd 237 = 11) tb_910 d_X11_cellAt_51 ?_
      refine lv_aload_n X.1 X.2.1 d_X11_cellAt_54 rfl (lv_at hl 0 rfl) ?_
      refine gf_11_22 X hw (by decide +kernel : kd 237 = 11) tb_928 d_X11_cellAt_55 ?_
      obtain ⟨q_58, hD⟩ := hD
      refine g_iald X hw ly_11_4.1 ly_11_4.2 q_58 d_X11_cellAt_58 ?_
      refine lv_iload_n X.1 X.2.1 d_X11_cellAt_59 rfl (lv_at hl 3 rfl) ?_
      refine lv_imul X.1 X.2.1 d_X11_cellAt_60 ?_
      refine lv_iadd X.1 X.2.1 d_X11_cellAt_61 ?_
      refine lv_iload_n X.1 X.2.1 d_X11_cellAt_62 rfl (lv_at hl 2 rfl) ?_
      refine lv_iadd X.1 X.2.1 d_X11_cellAt_63 ?_
      obtain ⟨q_64, hD⟩ := hD
      refine g_iald X hw ly_11_23.1 ly_11_23.2 q_64 d_X11_cellAt_64 ?_
      refine lv_goto (tgt := 69) X.1 X.2.1 d_X11_cellAt_65 (by decide) ?_
      exact g_iret X hr hlk hw hD d_X11_cellAt_69
theorem c_X11_cellAt (l : Launch) (G : GC) (x1 : Int32) (x2 : Int32) (x3 : Int32) (σ : GSt) (Q : Int32 → GSt → Prop)  (hD : D_X11_cellAt x1 x2 x3 σ Q) : MI l ym_X11_cellAt cm_X11_cellAt 4 .int rm_X11_cellAt G σ [.ref (G.2.1 237), .int x1, .int x2, .int x3] Q := by
  refine met_i (by decide) (Nat.le_of_ble_eq_true rfl) ?_
  intro p e s m args below meth c X hr hlk hw ls hl
  exact s_X11_cellAt_0 X hr hlk Q  x1 x2 x3 σ hw (lv_sub hl [0, 1, 2, 3] rfl) hD
theorem hd_X11_cells : ym_X11_cells.cls = "GameLoomModel" ∧ ym_X11_cells.cls ≠ "java/lang/invoke/MethodHandle" ∧ ym_X11_cells.cls ≠ "java/lang/invoke/VarHandle" ∧ (parseMethodDescriptor ym_X11_cells.desc).map (fun d => d.parameters.length) = some 0 := by decide +kernel
abbrev rm_X11_cells : Room := { frames := 0, cells := 0, slots := 0, locals := 0 }
theorem d_X11_cells_0 : decode cm_X11_cells 0 = .ok (.aload_n 0, 1) := by decide +kernel
theorem d_X11_cells_1 : decode cm_X11_cells 1 = .ok (.getfield 22, 3) := by decide +kernel
theorem d_X11_cells_4 : decode cm_X11_cells 4 = .ok (.aload_n 0, 1) := by decide +kernel
theorem d_X11_cells_5 : decode cm_X11_cells 5 = .ok (.getfield 156, 3) := by decide +kernel
theorem d_X11_cells_8 : decode cm_X11_cells 8 = .ok (.iaload, 1) := by decide +kernel
theorem d_X11_cells_9 : decode cm_X11_cells 9 = .ok (.aload_n 0, 1) := by decide +kernel
theorem d_X11_cells_10 : decode cm_X11_cells 10 = .ok (.getfield 25, 3) := by decide +kernel
theorem d_X11_cells_13 : decode cm_X11_cells 13 = .ok (.aload_n 0, 1) := by decide +kernel
theorem d_X11_cells_14 : decode cm_X11_cells 14 = .ok (.getfield 156, 3) := by decide +kernel
theorem d_X11_cells_17 : decode cm_X11_cells 17 = .ok (.iaload, 1) := by decide +kernel
theorem d_X11_cells_18 : decode cm_X11_cells 18 = .ok (.imul, 1) := by decide +kernel
theorem d_X11_cells_19 : decode cm_X11_cells 19 = .ok (.ireturn, 1) := by decide +kernel
def D_X11_cells_0 (Q : Int32 → GSt → Prop) (σ : GSt) : Prop :=
  vp_in (σ 237 22) 9 ∧ (vp_in (σ 237 22) 9 ∧ (Q ((σ 242 (Int32.toNatClampNeg (σ 237 22))) * (σ 243 (Int32.toNatClampNeg (σ 237 22)))) σ))
def D_X11_cells (σ : GSt) (Q : Int32 → GSt → Prop) : Prop := D_X11_cells_0 Q σ
set_option maxRecDepth 20000 in
set_option maxHeartbeats 4000000 in
theorem s_X11_cells_0 {p : Program} {l : Launch} {e : Env} {s : State} {m : MethodId} {args : Array Value} {below : List Frame} {meth : Method} {c : Code} {G : GC} (X : CallFix p m c cm_X11_cells 1 s args lw_us "GameLoomModel") (hr : meth.sig.returnType = some .int) (hlk : meth.locks = false) (Q : Int32 → GSt → Prop) (σ : GSt) {H : Heap} {locs : List Loc} {ls : Array Slot} (hw : Wo G s H locs σ) (hl : lv_has ls 1 [(0, .ref (G.2.1 237))]) (hD : D_X11_cells_0 Q σ) : W p l e rm_X11_cells s m args below meth c H locs 0 0 (QMI G Q below args s) (F0 m 0 ls []) := by
  unfold D_X11_cells_0 at hD
  refine lv_aload_n X.1 X.2.1 d_X11_cells_0 rfl (lv_at hl 0 rfl) ?_
  refine gf_11_4 X hw (by decide +kernel : kd 237 = 11) tb_910 d_X11_cells_1 ?_
  refine lv_aload_n X.1 X.2.1 d_X11_cells_4 rfl (lv_at hl 0 rfl) ?_
  refine gf_11_22 X hw (by decide +kernel : kd 237 = 11) tb_928 d_X11_cells_5 ?_
  obtain ⟨q_8, hD⟩ := hD
  refine g_iald X hw ly_11_4.1 ly_11_4.2 q_8 d_X11_cells_8 ?_
  refine lv_aload_n X.1 X.2.1 d_X11_cells_9 rfl (lv_at hl 0 rfl) ?_
  refine gf_11_5 X hw (by decide +kernel : kd 237 = 11) tb_911 d_X11_cells_10 ?_
  refine lv_aload_n X.1 X.2.1 d_X11_cells_13 rfl (lv_at hl 0 rfl) ?_
  refine gf_11_22 X hw (by decide +kernel : kd 237 = 11) tb_928 d_X11_cells_14 ?_
  obtain ⟨q_17, hD⟩ := hD
  refine g_iald X hw ly_11_5.1 ly_11_5.2 q_17 d_X11_cells_17 ?_
  refine lv_imul X.1 X.2.1 d_X11_cells_18 ?_
  exact g_iret X hr hlk hw hD d_X11_cells_19
theorem c_X11_cells (l : Launch) (G : GC) (σ : GSt) (Q : Int32 → GSt → Prop)  (hD : D_X11_cells  σ Q) : MI l ym_X11_cells cm_X11_cells 1 .int rm_X11_cells G σ [.ref (G.2.1 237)] Q := by
  refine met_i (by decide) (Nat.le_of_ble_eq_true rfl) ?_
  intro p e s m args below meth c X hr hlk hw ls hl
  exact s_X11_cells_0 X hr hlk Q   σ hw (lv_sub hl [0] rfl) hD
theorem hd_X11_tells : ym_X11_tells.cls = "GameLoomModel" ∧ ym_X11_tells.cls ≠ "java/lang/invoke/MethodHandle" ∧ ym_X11_tells.cls ≠ "java/lang/invoke/VarHandle" ∧ (parseMethodDescriptor ym_X11_tells.desc).map (fun d => d.parameters.length) = some 4 := by decide +kernel
abbrev rm_X11_tells : Room := { frames := 0, cells := 0, slots := 0, locals := 0 }
theorem d_X11_tells_0 : decode cm_X11_tells 0 = .ok (.sipush 800, 3) := by decide +kernel
theorem d_X11_tells_3 : decode cm_X11_tells 3 = .ok (.iload_n 1, 1) := by decide +kernel
theorem d_X11_tells_4 : decode cm_X11_tells 4 = .ok (.imul, 1) := by decide +kernel
theorem d_X11_tells_5 : decode cm_X11_tells 5 = .ok (.aload_n 0, 1) := by decide +kernel
theorem d_X11_tells_6 : decode cm_X11_tells 6 = .ok (.getfield 95, 3) := by decide +kernel
theorem d_X11_tells_9 : decode cm_X11_tells 9 = .ok (.iload_n 1, 1) := by decide +kernel
theorem d_X11_tells_10 : decode cm_X11_tells 10 = .ok (.iaload, 1) := by decide +kernel
theorem d_X11_tells_11 : decode cm_X11_tells 11 = .ok (.iadd, 1) := by decide +kernel
theorem d_X11_tells_12 : decode cm_X11_tells 12 = .ok (.istore 5, 2) := by decide +kernel
theorem d_X11_tells_14 : decode cm_X11_tells 14 = .ok (.iload 5, 2) := by decide +kernel
theorem d_X11_tells_16 : decode cm_X11_tells 16 = .ok (.istore 6, 2) := by decide +kernel
theorem d_X11_tells_18 : decode cm_X11_tells 18 = .ok (.iload 6, 2) := by decide +kernel
theorem d_X11_tells_20 : decode cm_X11_tells 20 = .ok (.sipush 800, 3) := by decide +kernel
theorem d_X11_tells_23 : decode cm_X11_tells 23 = .ok (.iload_n 1, 1) := by decide +kernel
theorem d_X11_tells_24 : decode cm_X11_tells 24 = .ok (.imul, 1) := by decide +kernel
theorem d_X11_tells_25 : decode cm_X11_tells 25 = .ok (.if_icmp .le 97, 3) := by decide +kernel
theorem d_X11_tells_28 : decode cm_X11_tells 28 = .ok (.aload_n 0, 1) := by decide +kernel
theorem d_X11_tells_29 : decode cm_X11_tells 29 = .ok (.getfield 86, 3) := by decide +kernel
theorem d_X11_tells_32 : decode cm_X11_tells 32 = .ok (.iload 6, 2) := by decide +kernel
theorem d_X11_tells_34 : decode cm_X11_tells 34 = .ok (.iconst 1, 1) := by decide +kernel
theorem d_X11_tells_35 : decode cm_X11_tells 35 = .ok (.isub, 1) := by decide +kernel
theorem d_X11_tells_36 : decode cm_X11_tells 36 = .ok (.iaload, 1) := by decide +kernel
theorem d_X11_tells_37 : decode cm_X11_tells 37 = .ok (.iload_n 2, 1) := by decide +kernel
theorem d_X11_tells_38 : decode cm_X11_tells 38 = .ok (.if_icmp .ne 84, 3) := by decide +kernel
theorem d_X11_tells_41 : decode cm_X11_tells 41 = .ok (.aload_n 0, 1) := by decide +kernel
theorem d_X11_tells_42 : decode cm_X11_tells 42 = .ok (.getfield 89, 3) := by decide +kernel
theorem d_X11_tells_45 : decode cm_X11_tells 45 = .ok (.iload 6, 2) := by decide +kernel
theorem d_X11_tells_47 : decode cm_X11_tells 47 = .ok (.iconst 1, 1) := by decide +kernel
theorem d_X11_tells_48 : decode cm_X11_tells 48 = .ok (.isub, 1) := by decide +kernel
theorem d_X11_tells_49 : decode cm_X11_tells 49 = .ok (.iaload, 1) := by decide +kernel
theorem d_X11_tells_50 : decode cm_X11_tells 50 = .ok (.iload_n 3, 1) := by decide +kernel
theorem d_X11_tells_51 : decode cm_X11_tells 51 = .ok (.if_icmp .ne 71, 3) := by decide +kernel
theorem d_X11_tells_54 : decode cm_X11_tells 54 = .ok (.aload_n 0, 1) := by decide +kernel
theorem d_X11_tells_55 : decode cm_X11_tells 55 = .ok (.getfield 92, 3) := by decide +kernel
theorem d_X11_tells_58 : decode cm_X11_tells 58 = .ok (.iload 6, 2) := by decide +kernel
theorem d_X11_tells_60 : decode cm_X11_tells 60 = .ok (.iconst 1, 1) := by decide +kernel
theorem d_X11_tells_61 : decode cm_X11_tells 61 = .ok (.isub, 1) := by decide +kernel
theorem d_X11_tells_62 : decode cm_X11_tells 62 = .ok (.iaload, 1) := by decide +kernel
theorem d_X11_tells_63 : decode cm_X11_tells 63 = .ok (.iload 4, 2) := by decide +kernel
theorem d_X11_tells_65 : decode cm_X11_tells 65 = .ok (.if_icmp .le 57, 3) := by decide +kernel
theorem d_X11_tells_68 : decode cm_X11_tells 68 = .ok (.aload_n 0, 1) := by decide +kernel
theorem d_X11_tells_69 : decode cm_X11_tells 69 = .ok (.getfield 86, 3) := by decide +kernel
theorem d_X11_tells_72 : decode cm_X11_tells 72 = .ok (.iload 6, 2) := by decide +kernel
theorem d_X11_tells_74 : decode cm_X11_tells 74 = .ok (.aload_n 0, 1) := by decide +kernel
theorem d_X11_tells_75 : decode cm_X11_tells 75 = .ok (.getfield 86, 3) := by decide +kernel
theorem d_X11_tells_78 : decode cm_X11_tells 78 = .ok (.iload 6, 2) := by decide +kernel
theorem d_X11_tells_80 : decode cm_X11_tells 80 = .ok (.iconst 1, 1) := by decide +kernel
theorem d_X11_tells_81 : decode cm_X11_tells 81 = .ok (.isub, 1) := by decide +kernel
theorem d_X11_tells_82 : decode cm_X11_tells 82 = .ok (.iaload, 1) := by decide +kernel
theorem d_X11_tells_83 : decode cm_X11_tells 83 = .ok (.iastore, 1) := by decide +kernel
theorem d_X11_tells_84 : decode cm_X11_tells 84 = .ok (.aload_n 0, 1) := by decide +kernel
theorem d_X11_tells_85 : decode cm_X11_tells 85 = .ok (.getfield 89, 3) := by decide +kernel
theorem d_X11_tells_88 : decode cm_X11_tells 88 = .ok (.iload 6, 2) := by decide +kernel
theorem d_X11_tells_90 : decode cm_X11_tells 90 = .ok (.aload_n 0, 1) := by decide +kernel
theorem d_X11_tells_91 : decode cm_X11_tells 91 = .ok (.getfield 89, 3) := by decide +kernel
theorem d_X11_tells_94 : decode cm_X11_tells 94 = .ok (.iload 6, 2) := by decide +kernel
theorem d_X11_tells_96 : decode cm_X11_tells 96 = .ok (.iconst 1, 1) := by decide +kernel
theorem d_X11_tells_97 : decode cm_X11_tells 97 = .ok (.isub, 1) := by decide +kernel
theorem d_X11_tells_98 : decode cm_X11_tells 98 = .ok (.iaload, 1) := by decide +kernel
theorem d_X11_tells_99 : decode cm_X11_tells 99 = .ok (.iastore, 1) := by decide +kernel
theorem d_X11_tells_100 : decode cm_X11_tells 100 = .ok (.aload_n 0, 1) := by decide +kernel
theorem d_X11_tells_101 : decode cm_X11_tells 101 = .ok (.getfield 92, 3) := by decide +kernel
theorem d_X11_tells_104 : decode cm_X11_tells 104 = .ok (.iload 6, 2) := by decide +kernel
theorem d_X11_tells_106 : decode cm_X11_tells 106 = .ok (.aload_n 0, 1) := by decide +kernel
theorem d_X11_tells_107 : decode cm_X11_tells 107 = .ok (.getfield 92, 3) := by decide +kernel
theorem d_X11_tells_110 : decode cm_X11_tells 110 = .ok (.iload 6, 2) := by decide +kernel
theorem d_X11_tells_112 : decode cm_X11_tells 112 = .ok (.iconst 1, 1) := by decide +kernel
theorem d_X11_tells_113 : decode cm_X11_tells 113 = .ok (.isub, 1) := by decide +kernel
theorem d_X11_tells_114 : decode cm_X11_tells 114 = .ok (.iaload, 1) := by decide +kernel
theorem d_X11_tells_115 : decode cm_X11_tells 115 = .ok (.iastore, 1) := by decide +kernel
theorem d_X11_tells_116 : decode cm_X11_tells 116 = .ok (.iinc 6 (-1), 3) := by decide +kernel
theorem d_X11_tells_119 : decode cm_X11_tells 119 = .ok (.goto (-101), 3) := by decide +kernel
theorem d_X11_tells_122 : decode cm_X11_tells 122 = .ok (.aload_n 0, 1) := by decide +kernel
theorem d_X11_tells_123 : decode cm_X11_tells 123 = .ok (.getfield 86, 3) := by decide +kernel
theorem d_X11_tells_126 : decode cm_X11_tells 126 = .ok (.iload 6, 2) := by decide +kernel
theorem d_X11_tells_128 : decode cm_X11_tells 128 = .ok (.iload_n 2, 1) := by decide +kernel
theorem d_X11_tells_129 : decode cm_X11_tells 129 = .ok (.iastore, 1) := by decide +kernel
theorem d_X11_tells_130 : decode cm_X11_tells 130 = .ok (.aload_n 0, 1) := by decide +kernel
theorem d_X11_tells_131 : decode cm_X11_tells 131 = .ok (.getfield 89, 3) := by decide +kernel
theorem d_X11_tells_134 : decode cm_X11_tells 134 = .ok (.iload 6, 2) := by decide +kernel
theorem d_X11_tells_136 : decode cm_X11_tells 136 = .ok (.iload_n 3, 1) := by decide +kernel
theorem d_X11_tells_137 : decode cm_X11_tells 137 = .ok (.iastore, 1) := by decide +kernel
theorem d_X11_tells_138 : decode cm_X11_tells 138 = .ok (.aload_n 0, 1) := by decide +kernel
theorem d_X11_tells_139 : decode cm_X11_tells 139 = .ok (.getfield 92, 3) := by decide +kernel
theorem d_X11_tells_142 : decode cm_X11_tells 142 = .ok (.iload 6, 2) := by decide +kernel
theorem d_X11_tells_144 : decode cm_X11_tells 144 = .ok (.iload 4, 2) := by decide +kernel
theorem d_X11_tells_146 : decode cm_X11_tells 146 = .ok (.iastore, 1) := by decide +kernel
theorem d_X11_tells_147 : decode cm_X11_tells 147 = .ok (.aload_n 0, 1) := by decide +kernel
theorem d_X11_tells_148 : decode cm_X11_tells 148 = .ok (.getfield 95, 3) := by decide +kernel
theorem d_X11_tells_151 : decode cm_X11_tells 151 = .ok (.iload_n 1, 1) := by decide +kernel
theorem d_X11_tells_152 : decode cm_X11_tells 152 = .ok (.dup2, 1) := by decide +kernel
theorem d_X11_tells_153 : decode cm_X11_tells 153 = .ok (.iaload, 1) := by decide +kernel
theorem d_X11_tells_154 : decode cm_X11_tells 154 = .ok (.iconst 1, 1) := by decide +kernel
theorem d_X11_tells_155 : decode cm_X11_tells 155 = .ok (.iadd, 1) := by decide +kernel
theorem d_X11_tells_156 : decode cm_X11_tells 156 = .ok (.iastore, 1) := by decide +kernel
theorem d_X11_tells_157 : decode cm_X11_tells 157 = .ok (.return_, 1) := by decide +kernel
def D_X11_tells_122 (Q : GSt → Prop) (x1 : Int32) (x2 : Int32) (x3 : Int32) (x4 : Int32) (x6 : Int32) (σ : GSt) : Prop :=
  vp_in x6 7200 ∧ (∀ σ_1 : GSt, σ_1 = up2 σ 263 (Int32.toNatClampNeg x6) x2 → (vp_in x6 7200 ∧ (∀ σ_2 : GSt, σ_2 = up2 σ_1 264 (Int32.toNatClampNeg x6) x3 → (vp_in x6 7200 ∧ (∀ σ_3 : GSt, σ_3 = up2 σ_2 265 (Int32.toNatClampNeg x6) x4 → (vp_in x1 9 ∧ (vp_in x1 9 ∧ (∀ σ_4 : GSt, σ_4 = up2 σ_3 266 (Int32.toNatClampNeg x1) ((σ_3 266 (Int32.toNatClampNeg x1)) + 1) → (Q σ_4)))))))))
def D_X11_tells_18 (K18 : Int32 → Int32 → Int32 → Int32 → Int32 → GSt → Prop) (Q : GSt → Prop) (x1 : Int32) (x2 : Int32) (x3 : Int32) (x4 : Int32) (x6 : Int32) (σ : GSt) : Prop :=
  (x6 ≤ (800 * x1) → D_X11_tells_122 Q x1 x2 x3 x4 x6 σ) ∧
  (¬ x6 ≤ (800 * x1) → vp_in (x6 - 1) 7200 ∧ ((¬ (σ 263 (Int32.toNatClampNeg (x6 - 1))) = x2 → D_X11_tells_122 Q x1 x2 x3 x4 x6 σ) ∧
  ((σ 263 (Int32.toNatClampNeg (x6 - 1))) = x2 → vp_in (x6 - 1) 7200 ∧ ((¬ (σ 264 (Int32.toNatClampNeg (x6 - 1))) = x3 → D_X11_tells_122 Q x1 x2 x3 x4 x6 σ) ∧
  ((σ 264 (Int32.toNatClampNeg (x6 - 1))) = x3 → vp_in (x6 - 1) 7200 ∧ (((σ 265 (Int32.toNatClampNeg (x6 - 1))) ≤ x4 → D_X11_tells_122 Q x1 x2 x3 x4 x6 σ) ∧
  (¬ (σ 265 (Int32.toNatClampNeg (x6 - 1))) ≤ x4 → vp_in (x6 - 1) 7200 ∧ (vp_in x6 7200 ∧ (∀ σ_1 : GSt, σ_1 = up2 σ 263 (Int32.toNatClampNeg x6) (σ 263 (Int32.toNatClampNeg (x6 - 1))) → (vp_in (x6 - 1) 7200 ∧ (vp_in x6 7200 ∧ (∀ σ_2 : GSt, σ_2 = up2 σ_1 264 (Int32.toNatClampNeg x6) (σ_1 264 (Int32.toNatClampNeg (x6 - 1))) → (vp_in (x6 - 1) 7200 ∧ (vp_in x6 7200 ∧ (∀ σ_3 : GSt, σ_3 = up2 σ_2 265 (Int32.toNatClampNeg x6) (σ_2 265 (Int32.toNatClampNeg (x6 - 1))) → (∀ x6_4 : Int32, x6_4 = x6 + (-1) → (K18 x1 x2 x3 x4 x6_4 σ_3)))))))))))))))))
def L_X11_tells_18 (Q : GSt → Prop) : Nat → Int32 → Int32 → Int32 → Int32 → Int32 → GSt → Prop
  | 0 => fun _ _ _ _ _ _ => False
  | n + 1 => fun x1 x2 x3 x4 x6 σ => D_X11_tells_18 (L_X11_tells_18 Q n) Q x1 x2 x3 x4 x6 σ
def D_X11_tells_0 (Q : GSt → Prop) (x1 : Int32) (x2 : Int32) (x3 : Int32) (x4 : Int32) (σ : GSt) : Prop :=
  vp_in x1 9 ∧ (∀ x5_1 : Int32, x5_1 = ((800 * x1) + (σ 266 (Int32.toNatClampNeg x1))) → (∃ n : Nat, L_X11_tells_18 Q n x1 x2 x3 x4 x5_1 σ))
def D_X11_tells (x1 : Int32) (x2 : Int32) (x3 : Int32) (x4 : Int32) (σ : GSt) (Q : GSt → Prop) : Prop := D_X11_tells_0 Q x1 x2 x3 x4 σ
set_option maxRecDepth 20000 in
set_option maxHeartbeats 4000000 in
theorem s_X11_tells_122 {p : Program} {l : Launch} {e : Env} {s : State} {m : MethodId} {args : Array Value} {below : List Frame} {meth : Method} {c : Code} {G : GC} (X : CallFix p m c cm_X11_tells 7 s args lw_us "GameLoomModel") (hr : meth.sig.returnType = none) (hlk : meth.locks = false) (Q : GSt → Prop) (x1 : Int32) (x2 : Int32) (x3 : Int32) (x4 : Int32) (x6 : Int32) (σ : GSt) {H : Heap} {locs : List Loc} {ls : Array Slot} (hw : Wo G s H locs σ) (hl : lv_has ls 7 [(0, .ref (G.2.1 237)), (1, .int x1), (2, .int x2), (3, .int x3), (4, .int x4), (6, .int x6)]) (hD : D_X11_tells_122 Q x1 x2 x3 x4 x6 σ) : W p l e rm_X11_tells s m args below meth c H locs 0 0 (QMV G Q below args s) (F0 m 122 ls []) := by
  unfold D_X11_tells_122 at hD
  refine lv_aload_n X.1 X.2.1 d_X11_tells_122 rfl (lv_at hl 0 rfl) ?_
  refine gf_11_29 X hw (by decide +kernel : kd 237 = 11) tb_935 d_X11_tells_123 ?_
  refine lv_iload X.1 X.2.1 d_X11_tells_126 (lv_at hl 5 rfl) ?_
  refine lv_iload_n X.1 X.2.1 d_X11_tells_128 rfl (lv_at hl 2 rfl) ?_
  obtain ⟨q_129, hD⟩ := hD
  refine g_iast X hw ly_11_29.1 ly_11_29.2 q_129 d_X11_tells_129 (fun H locs hw => ?_)
  obtain ⟨σ_1, e_σ_1⟩ : ∃ z : GSt, z = up2 σ 263 (Int32.toNatClampNeg x6) x2 := ⟨_, rfl⟩
  rw [← e_σ_1] at hw
  have hD := hD σ_1 e_σ_1
  refine lv_aload_n X.1 X.2.1 d_X11_tells_130 rfl (lv_at hl 0 rfl) ?_
  refine gf_11_30 X hw (by decide +kernel : kd 237 = 11) tb_936 d_X11_tells_131 ?_
  refine lv_iload X.1 X.2.1 d_X11_tells_134 (lv_at hl 5 rfl) ?_
  refine lv_iload_n X.1 X.2.1 d_X11_tells_136 rfl (lv_at hl 3 rfl) ?_
  obtain ⟨q_137, hD⟩ := hD
  refine g_iast X hw ly_11_30.1 ly_11_30.2 q_137 d_X11_tells_137 (fun H locs hw => ?_)
  obtain ⟨σ_2, e_σ_2⟩ : ∃ z : GSt, z = up2 σ_1 264 (Int32.toNatClampNeg x6) x3 := ⟨_, rfl⟩
  rw [← e_σ_2] at hw
  have hD := hD σ_2 e_σ_2
  refine lv_aload_n X.1 X.2.1 d_X11_tells_138 rfl (lv_at hl 0 rfl) ?_
  refine gf_11_31 X hw (by decide +kernel : kd 237 = 11) tb_937 d_X11_tells_139 ?_
  refine lv_iload X.1 X.2.1 d_X11_tells_142 (lv_at hl 5 rfl) ?_
  refine lv_iload X.1 X.2.1 d_X11_tells_144 (lv_at hl 4 rfl) ?_
  obtain ⟨q_146, hD⟩ := hD
  refine g_iast X hw ly_11_31.1 ly_11_31.2 q_146 d_X11_tells_146 (fun H locs hw => ?_)
  obtain ⟨σ_3, e_σ_3⟩ : ∃ z : GSt, z = up2 σ_2 265 (Int32.toNatClampNeg x6) x4 := ⟨_, rfl⟩
  rw [← e_σ_3] at hw
  have hD := hD σ_3 e_σ_3
  refine lv_aload_n X.1 X.2.1 d_X11_tells_147 rfl (lv_at hl 0 rfl) ?_
  refine gf_11_32 X hw (by decide +kernel : kd 237 = 11) tb_938 d_X11_tells_148 ?_
  refine lv_iload_n X.1 X.2.1 d_X11_tells_151 rfl (lv_at hl 1 rfl) ?_
  refine lv_dup2_11 X.1 X.2.1 d_X11_tells_152 rfl rfl ?_
  obtain ⟨q_153, hD⟩ := hD
  refine g_iald X hw ly_11_32.1 ly_11_32.2 q_153 d_X11_tells_153 ?_
  refine lv_iconst (v := 1) X.1 X.2.1 d_X11_tells_154 (by decide) ?_
  refine lv_iadd X.1 X.2.1 d_X11_tells_155 ?_
  obtain ⟨q_156, hD⟩ := hD
  refine g_iast X hw ly_11_32.1 ly_11_32.2 q_156 d_X11_tells_156 (fun H locs hw => ?_)
  obtain ⟨σ_4, e_σ_4⟩ : ∃ z : GSt, z = up2 σ_3 266 (Int32.toNatClampNeg x1) ((σ_3 266 (Int32.toNatClampNeg x1)) + 1) := ⟨_, rfl⟩
  rw [← e_σ_4] at hw
  have hD := hD σ_4 e_σ_4
  exact g_vret X hr hlk hw hD d_X11_tells_157
set_option maxRecDepth 20000 in
set_option maxHeartbeats 4000000 in
theorem s_X11_tells_18 {p : Program} {l : Launch} {e : Env} {s : State} {m : MethodId} {args : Array Value} {below : List Frame} {meth : Method} {c : Code} {G : GC} (X : CallFix p m c cm_X11_tells 7 s args lw_us "GameLoomModel") (hr : meth.sig.returnType = none) (hlk : meth.locks = false) (K18 : Int32 → Int32 → Int32 → Int32 → Int32 → GSt → Prop) (Q : GSt → Prop) (hK18 : ∀ (x1 : Int32) (x2 : Int32) (x3 : Int32) (x4 : Int32) (x6 : Int32) (σ : GSt) (H : Heap) (locs : List Loc) (ls : Array Slot), Wo G s H locs σ → lv_has ls 7 [(0, .ref (G.2.1 237)), (1, .int x1), (2, .int x2), (3, .int x3), (4, .int x4), (6, .int x6)] → K18 x1 x2 x3 x4 x6 σ → W p l e rm_X11_tells s m args below meth c H locs 0 0 (QMV G Q below args s) (F0 m 18 ls [])) (x1 : Int32) (x2 : Int32) (x3 : Int32) (x4 : Int32) (x6 : Int32) (σ : GSt) {H : Heap} {locs : List Loc} {ls : Array Slot} (hw : Wo G s H locs σ) (hl : lv_has ls 7 [(0, .ref (G.2.1 237)), (1, .int x1), (2, .int x2), (3, .int x3), (4, .int x4), (6, .int x6)]) (hD : D_X11_tells_18 K18 Q x1 x2 x3 x4 x6 σ) : W p l e rm_X11_tells s m args below meth c H locs 0 0 (QMV G Q below args s) (F0 m 18 ls []) := by
  unfold D_X11_tells_18 at hD
  refine lv_iload X.1 X.2.1 d_X11_tells_18 (lv_at hl 5 rfl) ?_
  refine lv_sipush (v := 800) X.1 X.2.1 d_X11_tells_20 (by decide) ?_
  refine lv_iload_n X.1 X.2.1 d_X11_tells_23 rfl (lv_at hl 1 rfl) ?_
  refine lv_imul X.1 X.2.1 d_X11_tells_24 ?_
  refine lv_icmp_le (tgt := 122) X.1 X.2.1 d_X11_tells_25 (by decide) (fun q_25 => ?_) (fun q_25 => ?_)
  · have hD := hD.1 q_25
    exact s_X11_tells_122 X hr hlk  Q  x1 x2 x3 x4 x6 σ hw (lv_sub hl [0, 1, 2, 3, 4, 5] rfl) hD
  · have hD := hD.2 q_25
    refine lv_aload_n X.1 X.2.1 d_X11_tells_28 rfl (lv_at hl 0 rfl) ?_
    refine gf_11_29 X hw (by decide +kernel : kd 237 = 11) tb_935 d_X11_tells_29 ?_
    refine lv_iload X.1 X.2.1 d_X11_tells_32 (lv_at hl 5 rfl) ?_
    refine lv_iconst (v := 1) X.1 X.2.1 d_X11_tells_34 (by decide) ?_
    refine lv_isub X.1 X.2.1 d_X11_tells_35 ?_
    obtain ⟨q_36, hD⟩ := hD
    refine g_iald X hw ly_11_29.1 ly_11_29.2 q_36 d_X11_tells_36 ?_
    refine lv_iload_n X.1 X.2.1 d_X11_tells_37 rfl (lv_at hl 2 rfl) ?_
    refine lv_icmp_ne (tgt := 122) X.1 X.2.1 d_X11_tells_38 (by decide) (fun q_38 => ?_) (fun q_38 => ?_)
    · have hD := hD.1 q_38
      exact s_X11_tells_122 X hr hlk  Q  x1 x2 x3 x4 x6 σ hw (lv_sub hl [0, 1, 2, 3, 4, 5] rfl) hD
    · have hD := hD.2 q_38
      refine lv_aload_n X.1 X.2.1 d_X11_tells_41 rfl (lv_at hl 0 rfl) ?_
      refine gf_11_30 X hw (by decide +kernel : kd 237 = 11) tb_936 d_X11_tells_42 ?_
      refine lv_iload X.1 X.2.1 d_X11_tells_45 (lv_at hl 5 rfl) ?_
      refine lv_iconst (v := 1) X.1 X.2.1 d_X11_tells_47 (by decide) ?_
      refine lv_isub X.1 X.2.1 d_X11_tells_48 ?_
      obtain ⟨q_49, hD⟩ := hD
      refine g_iald X hw ly_11_30.1 ly_11_30.2 q_49 d_X11_tells_49 ?_
      refine lv_iload_n X.1 X.2.1 d_X11_tells_50 rfl (lv_at hl 3 rfl) ?_
      refine lv_icmp_ne (tgt := 122) X.1 X.2.1 d_X11_tells_51 (by decide) (fun q_51 => ?_) (fun q_51 => ?_)
      · have hD := hD.1 q_51
        exact s_X11_tells_122 X hr hlk  Q  x1 x2 x3 x4 x6 σ hw (lv_sub hl [0, 1, 2, 3, 4, 5] rfl) hD
      · have hD := hD.2 q_51
        refine lv_aload_n X.1 X.2.1 d_X11_tells_54 rfl (lv_at hl 0 rfl) ?_
        refine gf_11_31 X hw (by decide +kernel : kd 237 = 11) tb_937 d_X11_tells_55 ?_
        refine lv_iload X.1 X.2.1 d_X11_tells_58 (lv_at hl 5 rfl) ?_
        refine lv_iconst (v := 1) X.1 X.2.1 d_X11_tells_60 (by decide) ?_
        refine lv_isub X.1 X.2.1 d_X11_tells_61 ?_
        obtain ⟨q_62, hD⟩ := hD
        refine g_iald X hw ly_11_31.1 ly_11_31.2 q_62 d_X11_tells_62 ?_
        refine lv_iload X.1 X.2.1 d_X11_tells_63 (lv_at hl 4 rfl) ?_
        refine lv_icmp_le (tgt := 122) X.1 X.2.1 d_X11_tells_65 (by decide) (fun q_65 => ?_) (fun q_65 => ?_)
        · have hD := hD.1 q_65
          exact s_X11_tells_122 X hr hlk  Q  x1 x2 x3 x4 x6 σ hw (lv_sub hl [0, 1, 2, 3, 4, 5] rfl) hD
        · have hD := hD.2 q_65
          refine lv_aload_n X.1 X.2.1 d_X11_tells_68 rfl (lv_at hl 0 rfl) ?_
          refine gf_11_29 X hw (by decide +kernel : kd 237 = 11) tb_935 d_X11_tells_69 ?_
          refine lv_iload X.1 X.2.1 d_X11_tells_72 (lv_at hl 5 rfl) ?_
          refine lv_aload_n X.1 X.2.1 d_X11_tells_74 rfl (lv_at hl 0 rfl) ?_
          refine gf_11_29 X hw (by decide +kernel : kd 237 = 11) tb_935 d_X11_tells_75 ?_
          refine lv_iload X.1 X.2.1 d_X11_tells_78 (lv_at hl 5 rfl) ?_
          refine lv_iconst (v := 1) X.1 X.2.1 d_X11_tells_80 (by decide) ?_
          refine lv_isub X.1 X.2.1 d_X11_tells_81 ?_
          obtain ⟨q_82, hD⟩ := hD
          refine g_iald X hw ly_11_29.1 ly_11_29.2 q_82 d_X11_tells_82 ?_
          obtain ⟨q_83, hD⟩ := hD
          refine g_iast X hw ly_11_29.1 ly_11_29.2 q_83 d_X11_tells_83 (fun H locs hw => ?_)
          obtain ⟨σ_1, e_σ_1⟩ : ∃ z : GSt, z = up2 σ 263 (Int32.toNatClampNeg x6) (σ 263 (Int32.toNatClampNeg (x6 - 1))) := ⟨_, rfl⟩
          rw [← e_σ_1] at hw
          have hD := hD σ_1 e_σ_1
          refine lv_aload_n X.1 X.2.1 d_X11_tells_84 rfl (lv_at hl 0 rfl) ?_
          refine gf_11_30 X hw (by decide +kernel : kd 237 = 11) tb_936 d_X11_tells_85 ?_
          refine lv_iload X.1 X.2.1 d_X11_tells_88 (lv_at hl 5 rfl) ?_
          refine lv_aload_n X.1 X.2.1 d_X11_tells_90 rfl (lv_at hl 0 rfl) ?_
          refine gf_11_30 X hw (by decide +kernel : kd 237 = 11) tb_936 d_X11_tells_91 ?_
          refine lv_iload X.1 X.2.1 d_X11_tells_94 (lv_at hl 5 rfl) ?_
          refine lv_iconst (v := 1) X.1 X.2.1 d_X11_tells_96 (by decide) ?_
          refine lv_isub X.1 X.2.1 d_X11_tells_97 ?_
          obtain ⟨q_98, hD⟩ := hD
          refine g_iald X hw ly_11_30.1 ly_11_30.2 q_98 d_X11_tells_98 ?_
          obtain ⟨q_99, hD⟩ := hD
          refine g_iast X hw ly_11_30.1 ly_11_30.2 q_99 d_X11_tells_99 (fun H locs hw => ?_)
          obtain ⟨σ_2, e_σ_2⟩ : ∃ z : GSt, z = up2 σ_1 264 (Int32.toNatClampNeg x6) (σ_1 264 (Int32.toNatClampNeg (x6 - 1))) := ⟨_, rfl⟩
          rw [← e_σ_2] at hw
          have hD := hD σ_2 e_σ_2
          refine lv_aload_n X.1 X.2.1 d_X11_tells_100 rfl (lv_at hl 0 rfl) ?_
          refine gf_11_31 X hw (by decide +kernel : kd 237 = 11) tb_937 d_X11_tells_101 ?_
          refine lv_iload X.1 X.2.1 d_X11_tells_104 (lv_at hl 5 rfl) ?_
          refine lv_aload_n X.1 X.2.1 d_X11_tells_106 rfl (lv_at hl 0 rfl) ?_
          refine gf_11_31 X hw (by decide +kernel : kd 237 = 11) tb_937 d_X11_tells_107 ?_
          refine lv_iload X.1 X.2.1 d_X11_tells_110 (lv_at hl 5 rfl) ?_
          refine lv_iconst (v := 1) X.1 X.2.1 d_X11_tells_112 (by decide) ?_
          refine lv_isub X.1 X.2.1 d_X11_tells_113 ?_
          obtain ⟨q_114, hD⟩ := hD
          refine g_iald X hw ly_11_31.1 ly_11_31.2 q_114 d_X11_tells_114 ?_
          obtain ⟨q_115, hD⟩ := hD
          refine g_iast X hw ly_11_31.1 ly_11_31.2 q_115 d_X11_tells_115 (fun H locs hw => ?_)
          obtain ⟨σ_3, e_σ_3⟩ : ∃ z : GSt, z = up2 σ_2 265 (Int32.toNatClampNeg x6) (σ_2 265 (Int32.toNatClampNeg (x6 - 1))) := ⟨_, rfl⟩
          rw [← e_σ_3] at hw
          have hD := hD σ_3 e_σ_3
          obtain ⟨x6_4, e_x6_4⟩ : ∃ y : Int32, y = x6 + (-1) := ⟨_, rfl⟩
          have hD := hD x6_4 e_x6_4
          refine lv_iinc (v := x6_4) (lv' := [(6, .int x6_4), (0, .ref (G.2.1 237)), (1, .int x1), (2, .int x2), (3, .int x3), (4, .int x4)]) X.1 X.2.1 d_X11_tells_116 hl (k := 5) rfl (by rw [e_x6_4]; rfl) (by decide) rfl (fun ls hl => ?_)
          refine lv_goto (tgt := 18) X.1 X.2.1 d_X11_tells_119 (by decide) ?_
          exact hK18 x1 x2 x3 x4 x6_4 σ_3 _ _ _  hw (lv_sub hl [1, 2, 3, 4, 5, 0] rfl) hD
set_option maxRecDepth 20000 in
set_option maxHeartbeats 4000000 in
theorem sl_X11_tells_18 {p : Program} {l : Launch} {e : Env} {s : State} {m : MethodId} {args : Array Value} {below : List Frame} {meth : Method} {c : Code} {G : GC} (X : CallFix p m c cm_X11_tells 7 s args lw_us "GameLoomModel") (hr : meth.sig.returnType = none) (hlk : meth.locks = false) (Q : GSt → Prop) : ∀ (nn : Nat), ∀ (x1 : Int32) (x2 : Int32) (x3 : Int32) (x4 : Int32) (x6 : Int32) (σ : GSt) (H : Heap) (locs : List Loc) (ls : Array Slot), Wo G s H locs σ → lv_has ls 7 [(0, .ref (G.2.1 237)), (1, .int x1), (2, .int x2), (3, .int x3), (4, .int x4), (6, .int x6)] → L_X11_tells_18 Q nn x1 x2 x3 x4 x6 σ → W p l e rm_X11_tells s m args below meth c H locs 0 0 (QMV G Q below args s) (F0 m 18 ls []) := by
  intro nn
  induction nn with
  | zero => intro x1 x2 x3 x4 x6 σ H locs ls  hw hl hD; exact hD.elim
  | succ nn ih =>
    intro x1 x2 x3 x4 x6 σ H locs ls  hw hl hD
    exact s_X11_tells_18 X hr hlk (L_X11_tells_18 Q nn) Q ih x1 x2 x3 x4 x6 σ hw hl hD
set_option maxRecDepth 20000 in
set_option maxHeartbeats 4000000 in
theorem s_X11_tells_0 {p : Program} {l : Launch} {e : Env} {s : State} {m : MethodId} {args : Array Value} {below : List Frame} {meth : Method} {c : Code} {G : GC} (X : CallFix p m c cm_X11_tells 7 s args lw_us "GameLoomModel") (hr : meth.sig.returnType = none) (hlk : meth.locks = false) (Q : GSt → Prop) (x1 : Int32) (x2 : Int32) (x3 : Int32) (x4 : Int32) (σ : GSt) {H : Heap} {locs : List Loc} {ls : Array Slot} (hw : Wo G s H locs σ) (hl : lv_has ls 7 [(0, .ref (G.2.1 237)), (1, .int x1), (2, .int x2), (3, .int x3), (4, .int x4)]) (hD : D_X11_tells_0 Q x1 x2 x3 x4 σ) : W p l e rm_X11_tells s m args below meth c H locs 0 0 (QMV G Q below args s) (F0 m 0 ls []) := by
  unfold D_X11_tells_0 at hD
  refine lv_sipush (v := 800) X.1 X.2.1 d_X11_tells_0 (by decide) ?_
  refine lv_iload_n X.1 X.2.1 d_X11_tells_3 rfl (lv_at hl 1 rfl) ?_
  refine lv_imul X.1 X.2.1 d_X11_tells_4 ?_
  refine lv_aload_n X.1 X.2.1 d_X11_tells_5 rfl (lv_at hl 0 rfl) ?_
  refine gf_11_32 X hw (by decide +kernel : kd 237 = 11) tb_938 d_X11_tells_6 ?_
  refine lv_iload_n X.1 X.2.1 d_X11_tells_9 rfl (lv_at hl 1 rfl) ?_
  obtain ⟨q_10, hD⟩ := hD
  refine g_iald X hw ly_11_32.1 ly_11_32.2 q_10 d_X11_tells_10 ?_
  refine lv_iadd X.1 X.2.1 d_X11_tells_11 ?_
  refine lv_topi (fun x5_1 e_x5_1 => ?_)
  have hD := hD x5_1 e_x5_1
  refine lv_istore (lv' := [(5, .int x5_1), (0, .ref (G.2.1 237)), (1, .int x1), (2, .int x2), (3, .int x3), (4, .int x4)]) X.1 X.2.1 d_X11_tells_12 hl (by decide) rfl (fun ls hl => ?_)
  refine lv_iload X.1 X.2.1 d_X11_tells_14 (lv_at hl 0 rfl) ?_
  refine lv_istore (lv' := [(6, .int x5_1), (5, .int x5_1), (0, .ref (G.2.1 237)), (1, .int x1), (2, .int x2), (3, .int x3), (4, .int x4)]) X.1 X.2.1 d_X11_tells_16 hl (by decide) rfl (fun ls hl => ?_)
  obtain ⟨n9, hD⟩ := hD
  exact sl_X11_tells_18 X hr hlk  Q  n9 x1 x2 x3 x4 x5_1 σ _ _ _  hw (lv_sub hl [2, 3, 4, 5, 6, 0] rfl) hD
theorem c_X11_tells (l : Launch) (G : GC) (x1 : Int32) (x2 : Int32) (x3 : Int32) (x4 : Int32) (σ : GSt) (Q : GSt → Prop)  (hD : D_X11_tells x1 x2 x3 x4 σ Q) : MV l ym_X11_tells cm_X11_tells 7 rm_X11_tells G σ [.ref (G.2.1 237), .int x1, .int x2, .int x3, .int x4] Q := by
  refine met_v (by decide) (Nat.le_of_ble_eq_true rfl) ?_
  intro p e s m args below meth c X hr hlk hw ls hl
  exact s_X11_tells_0 X hr hlk Q  x1 x2 x3 x4 σ hw (lv_sub hl [0, 1, 2, 3, 4] rfl) hD
theorem hd_X11_pieces : ym_X11_pieces.cls = "GameLoomModel" ∧ ym_X11_pieces.cls ≠ "java/lang/invoke/MethodHandle" ∧ ym_X11_pieces.cls ≠ "java/lang/invoke/VarHandle" ∧ (parseMethodDescriptor ym_X11_pieces.desc).map (fun d => d.parameters.length) = some 2 := by decide +kernel
abbrev rm_X11_pieces : Room := { frames := 1, cells := 0, slots := 0, locals := 20 }
theorem d_X11_pieces_0 : decode cm_X11_pieces 0 = .ok (.iconst 0, 1) := by decide +kernel
theorem d_X11_pieces_1 : decode cm_X11_pieces 1 = .ok (.istore_n 3, 1) := by decide +kernel
theorem d_X11_pieces_2 : decode cm_X11_pieces 2 = .ok (.iconst 0, 1) := by decide +kernel
theorem d_X11_pieces_3 : decode cm_X11_pieces 3 = .ok (.istore 4, 2) := by decide +kernel
theorem d_X11_pieces_5 : decode cm_X11_pieces 5 = .ok (.iload 4, 2) := by decide +kernel
theorem d_X11_pieces_7 : decode cm_X11_pieces 7 = .ok (.aload_n 0, 1) := by decide +kernel
theorem d_X11_pieces_8 : decode cm_X11_pieces 8 = .ok (.invokevirtual 210, 3) := by decide +kernel
theorem d_X11_pieces_11 : decode cm_X11_pieces 11 = .ok (.if_icmp .ge 33, 3) := by decide +kernel
theorem d_X11_pieces_14 : decode cm_X11_pieces 14 = .ok (.iload_n 3, 1) := by decide +kernel
theorem d_X11_pieces_15 : decode cm_X11_pieces 15 = .ok (.aload_n 0, 1) := by decide +kernel
theorem d_X11_pieces_16 : decode cm_X11_pieces 16 = .ok (.getfield 68, 3) := by decide +kernel
theorem d_X11_pieces_19 : decode cm_X11_pieces 19 = .ok (.bipush 16, 2) := by decide +kernel
theorem d_X11_pieces_21 : decode cm_X11_pieces 21 = .ok (.iload_n 1, 1) := by decide +kernel
theorem d_X11_pieces_22 : decode cm_X11_pieces 22 = .ok (.imul, 1) := by decide +kernel
theorem d_X11_pieces_23 : decode cm_X11_pieces 23 = .ok (.iload 4, 2) := by decide +kernel
theorem d_X11_pieces_25 : decode cm_X11_pieces 25 = .ok (.iadd, 1) := by decide +kernel
theorem d_X11_pieces_26 : decode cm_X11_pieces 26 = .ok (.iaload, 1) := by decide +kernel
theorem d_X11_pieces_27 : decode cm_X11_pieces 27 = .ok (.iload_n 2, 1) := by decide +kernel
theorem d_X11_pieces_28 : decode cm_X11_pieces 28 = .ok (.if_icmp .ne 7, 3) := by decide +kernel
theorem d_X11_pieces_31 : decode cm_X11_pieces 31 = .ok (.iconst 1, 1) := by decide +kernel
theorem d_X11_pieces_32 : decode cm_X11_pieces 32 = .ok (.goto 4, 3) := by decide +kernel
theorem d_X11_pieces_35 : decode cm_X11_pieces 35 = .ok (.iconst 0, 1) := by decide +kernel
theorem d_X11_pieces_36 : decode cm_X11_pieces 36 = .ok (.iadd, 1) := by decide +kernel
theorem d_X11_pieces_37 : decode cm_X11_pieces 37 = .ok (.istore_n 3, 1) := by decide +kernel
theorem d_X11_pieces_38 : decode cm_X11_pieces 38 = .ok (.iinc 4 1, 3) := by decide +kernel
theorem d_X11_pieces_41 : decode cm_X11_pieces 41 = .ok (.goto (-36), 3) := by decide +kernel
theorem d_X11_pieces_44 : decode cm_X11_pieces 44 = .ok (.iload_n 3, 1) := by decide +kernel
theorem d_X11_pieces_45 : decode cm_X11_pieces 45 = .ok (.ireturn, 1) := by decide +kernel
def D_X11_pieces_36 (K5 : Int32 → Int32 → Int32 → Int32 → GSt → Prop) (Q : Int32 → GSt → Prop) (x1 : Int32) (x2 : Int32) (x4 : Int32) (s0 : Int32) (s1 : Int32) (σ : GSt) : Prop :=
  ∀ x3_1 : Int32, x3_1 = (s0 + s1) → (∀ x4_2 : Int32, x4_2 = x4 + 1 → (K5 x1 x2 x3_1 x4_2 σ))
def D_X11_pieces_5 (K5 : Int32 → Int32 → Int32 → Int32 → GSt → Prop) (Q : Int32 → GSt → Prop) (x1 : Int32) (x2 : Int32) (x3 : Int32) (x4 : Int32) (σ : GSt) : Prop :=
  D_X11_cells  σ (fun r_1 σ_2 => (r_1 ≤ x4 → Q x3 σ_2) ∧
  (¬ r_1 ≤ x4 → vp_in ((16 * x1) + x4) 144 ∧ ((¬ (σ_2 257 (Int32.toNatClampNeg ((16 * x1) + x4))) = x2 → D_X11_pieces_36 K5 Q x1 x2 x4 x3 0 σ_2) ∧
  ((σ_2 257 (Int32.toNatClampNeg ((16 * x1) + x4))) = x2 → D_X11_pieces_36 K5 Q x1 x2 x4 x3 1 σ_2))))
def L_X11_pieces_5 (Q : Int32 → GSt → Prop) : Nat → Int32 → Int32 → Int32 → Int32 → GSt → Prop
  | 0 => fun _ _ _ _ _ => False
  | n + 1 => fun x1 x2 x3 x4 σ => D_X11_pieces_5 (L_X11_pieces_5 Q n) Q x1 x2 x3 x4 σ
def D_X11_pieces_0 (Q : Int32 → GSt → Prop) (x1 : Int32) (x2 : Int32) (σ : GSt) : Prop :=
  ∃ n : Nat, L_X11_pieces_5 Q n x1 x2 0 0 σ
def D_X11_pieces (x1 : Int32) (x2 : Int32) (σ : GSt) (Q : Int32 → GSt → Prop) : Prop := D_X11_pieces_0 Q x1 x2 σ
set_option maxRecDepth 20000 in
set_option maxHeartbeats 4000000 in
theorem s_X11_pieces_36 {p : Program} {l : Launch} {e : Env} {s : State} {m : MethodId} {args : Array Value} {below : List Frame} {meth : Method} {c : Code} {G : GC} (X : CallFix p m c cm_X11_pieces 5 s args lw_us "GameLoomModel") (hr : meth.sig.returnType = some .int) (hlk : meth.locks = false) (K5 : Int32 → Int32 → Int32 → Int32 → GSt → Prop) (Q : Int32 → GSt → Prop) (hK5 : ∀ (x1 : Int32) (x2 : Int32) (x3 : Int32) (x4 : Int32) (σ : GSt) (H : Heap) (locs : List Loc) (ls : Array Slot), Wo G s H locs σ → lv_has ls 5 [(0, .ref (G.2.1 237)), (1, .int x1), (2, .int x2), (3, .int x3), (4, .int x4)] → K5 x1 x2 x3 x4 σ → W p l e rm_X11_pieces s m args below meth c H locs 0 0 (QMI G Q below args s) (F0 m 5 ls [])) (x1 : Int32) (x2 : Int32) (x4 : Int32) (s0 : Int32) (s1 : Int32) (σ : GSt) {H : Heap} {locs : List Loc} {ls : Array Slot} (hw : Wo G s H locs σ) (hl : lv_has ls 5 [(0, .ref (G.2.1 237)), (1, .int x1), (2, .int x2), (4, .int x4)]) (hD : D_X11_pieces_36 K5 Q x1 x2 x4 s0 s1 σ) : W p l e rm_X11_pieces s m args below meth c H locs 0 0 (QMI G Q below args s) (F0 m 36 ls [.int s1, .int s0]) := by
  unfold D_X11_pieces_36 at hD
  refine lv_iadd X.1 X.2.1 d_X11_pieces_36 ?_
  refine lv_topi (fun x3_1 e_x3_1 => ?_)
  have hD := hD x3_1 e_x3_1
  refine lv_istore_n (lv' := [(3, .int x3_1), (0, .ref (G.2.1 237)), (1, .int x1), (2, .int x2), (4, .int x4)]) X.1 X.2.1 d_X11_pieces_37 rfl hl (by decide) rfl (fun ls hl => ?_)
  obtain ⟨x4_2, e_x4_2⟩ : ∃ y : Int32, y = x4 + 1 := ⟨_, rfl⟩
  have hD := hD x4_2 e_x4_2
  refine lv_iinc (v := x4_2) (lv' := [(4, .int x4_2), (3, .int x3_1), (0, .ref (G.2.1 237)), (1, .int x1), (2, .int x2)]) X.1 X.2.1 d_X11_pieces_38 hl (k := 4) rfl (by rw [e_x4_2]; rfl) (by decide) rfl (fun ls hl => ?_)
  refine lv_goto (tgt := 5) X.1 X.2.1 d_X11_pieces_41 (by decide) ?_
  exact hK5 x1 x2 x3_1 x4_2 σ _ _ _  hw (lv_sub hl [2, 3, 4, 1, 0] rfl) hD
set_option maxRecDepth 20000 in
set_option maxHeartbeats 4000000 in
theorem s_X11_pieces_5 {p : Program} {l : Launch} {e : Env} {s : State} {m : MethodId} {args : Array Value} {below : List Frame} {meth : Method} {c : Code} {G : GC} (X : CallFix p m c cm_X11_pieces 5 s args lw_us "GameLoomModel") (hr : meth.sig.returnType = some .int) (hlk : meth.locks = false) (K5 : Int32 → Int32 → Int32 → Int32 → GSt → Prop) (Q : Int32 → GSt → Prop) (hK5 : ∀ (x1 : Int32) (x2 : Int32) (x3 : Int32) (x4 : Int32) (σ : GSt) (H : Heap) (locs : List Loc) (ls : Array Slot), Wo G s H locs σ → lv_has ls 5 [(0, .ref (G.2.1 237)), (1, .int x1), (2, .int x2), (3, .int x3), (4, .int x4)] → K5 x1 x2 x3 x4 σ → W p l e rm_X11_pieces s m args below meth c H locs 0 0 (QMI G Q below args s) (F0 m 5 ls [])) (x1 : Int32) (x2 : Int32) (x3 : Int32) (x4 : Int32) (σ : GSt) {H : Heap} {locs : List Loc} {ls : Array Slot} (hw : Wo G s H locs σ) (hl : lv_has ls 5 [(0, .ref (G.2.1 237)), (1, .int x1), (2, .int x2), (3, .int x3), (4, .int x4)]) (hD : D_X11_pieces_5 K5 Q x1 x2 x3 x4 σ) : W p l e rm_X11_pieces s m args below meth c H locs 0 0 (QMI G Q below args s) (F0 m 5 ls []) := by
  unfold D_X11_pieces_5 at hD
  refine lv_iload X.1 X.2.1 d_X11_pieces_5 (lv_at hl 4 rfl) ?_
  refine lv_aload_n X.1 X.2.1 d_X11_pieces_7 rfl (lv_at hl 0 rfl) ?_
  refine gcV_i (rest := [.int x4]) (As := []) (o := 237) X hw (c_X11_cells l G  σ _  hD) (kd_lt (by decide +kernel : kd 237 = 11) (by decide)) (ce_11 G _ (by decide +kernel : kd 237 = 11)) rfl tb_1180 tb_1182 tv_54 tb_12 tb_1183 hd_X11_cells ⟨rfl, rfl⟩ ⟨Nat.le_of_ble_eq_true rfl, Nat.le_of_ble_eq_true rfl⟩ rfl hl.1 rfl (Nat.le_of_ble_eq_true rfl) d_X11_pieces_8 (fun r_1 σ_2 H locs hD hw => ?_)
  refine lv_icmp_ge (tgt := 44) X.1 X.2.1 d_X11_pieces_11 (by decide) (fun q_11 => ?_) (fun q_11 => ?_)
  · have hD := hD.1 q_11
    refine lv_iload_n X.1 X.2.1 d_X11_pieces_44 rfl (lv_at hl 3 rfl) ?_
    exact g_iret X hr hlk hw hD d_X11_pieces_45
  · have hD := hD.2 q_11
    refine lv_iload_n X.1 X.2.1 d_X11_pieces_14 rfl (lv_at hl 3 rfl) ?_
    refine lv_aload_n X.1 X.2.1 d_X11_pieces_15 rfl (lv_at hl 0 rfl) ?_
    refine gf_11_23 X hw (by decide +kernel : kd 237 = 11) tb_929 d_X11_pieces_16 ?_
    refine lv_bipush (v := 16) X.1 X.2.1 d_X11_pieces_19 (by decide) ?_
    refine lv_iload_n X.1 X.2.1 d_X11_pieces_21 rfl (lv_at hl 1 rfl) ?_
    refine lv_imul X.1 X.2.1 d_X11_pieces_22 ?_
    refine lv_iload X.1 X.2.1 d_X11_pieces_23 (lv_at hl 4 rfl) ?_
    refine lv_iadd X.1 X.2.1 d_X11_pieces_25 ?_
    obtain ⟨q_26, hD⟩ := hD
    refine g_iald X hw ly_11_23.1 ly_11_23.2 q_26 d_X11_pieces_26 ?_
    refine lv_iload_n X.1 X.2.1 d_X11_pieces_27 rfl (lv_at hl 2 rfl) ?_
    refine lv_icmp_ne (tgt := 35) X.1 X.2.1 d_X11_pieces_28 (by decide) (fun q_28 => ?_) (fun q_28 => ?_)
    · have hD := hD.1 q_28
      refine lv_iconst (v := 0) X.1 X.2.1 d_X11_pieces_35 (by decide) ?_
      exact s_X11_pieces_36 X hr hlk K5 Q hK5 x1 x2 x4 x3 0 σ_2 hw (lv_sub hl [0, 1, 2, 4] rfl) hD
    · have hD := hD.2 q_28
      refine lv_iconst (v := 1) X.1 X.2.1 d_X11_pieces_31 (by decide) ?_
      refine lv_goto (tgt := 36) X.1 X.2.1 d_X11_pieces_32 (by decide) ?_
      exact s_X11_pieces_36 X hr hlk K5 Q hK5 x1 x2 x4 x3 1 σ_2 hw (lv_sub hl [0, 1, 2, 4] rfl) hD
set_option maxRecDepth 20000 in
set_option maxHeartbeats 4000000 in
theorem sl_X11_pieces_5 {p : Program} {l : Launch} {e : Env} {s : State} {m : MethodId} {args : Array Value} {below : List Frame} {meth : Method} {c : Code} {G : GC} (X : CallFix p m c cm_X11_pieces 5 s args lw_us "GameLoomModel") (hr : meth.sig.returnType = some .int) (hlk : meth.locks = false) (Q : Int32 → GSt → Prop) : ∀ (nn : Nat), ∀ (x1 : Int32) (x2 : Int32) (x3 : Int32) (x4 : Int32) (σ : GSt) (H : Heap) (locs : List Loc) (ls : Array Slot), Wo G s H locs σ → lv_has ls 5 [(0, .ref (G.2.1 237)), (1, .int x1), (2, .int x2), (3, .int x3), (4, .int x4)] → L_X11_pieces_5 Q nn x1 x2 x3 x4 σ → W p l e rm_X11_pieces s m args below meth c H locs 0 0 (QMI G Q below args s) (F0 m 5 ls []) := by
  intro nn
  induction nn with
  | zero => intro x1 x2 x3 x4 σ H locs ls  hw hl hD; exact hD.elim
  | succ nn ih =>
    intro x1 x2 x3 x4 σ H locs ls  hw hl hD
    exact s_X11_pieces_5 X hr hlk (L_X11_pieces_5 Q nn) Q ih x1 x2 x3 x4 σ hw hl hD
set_option maxRecDepth 20000 in
set_option maxHeartbeats 4000000 in
theorem s_X11_pieces_0 {p : Program} {l : Launch} {e : Env} {s : State} {m : MethodId} {args : Array Value} {below : List Frame} {meth : Method} {c : Code} {G : GC} (X : CallFix p m c cm_X11_pieces 5 s args lw_us "GameLoomModel") (hr : meth.sig.returnType = some .int) (hlk : meth.locks = false) (Q : Int32 → GSt → Prop) (x1 : Int32) (x2 : Int32) (σ : GSt) {H : Heap} {locs : List Loc} {ls : Array Slot} (hw : Wo G s H locs σ) (hl : lv_has ls 5 [(0, .ref (G.2.1 237)), (1, .int x1), (2, .int x2)]) (hD : D_X11_pieces_0 Q x1 x2 σ) : W p l e rm_X11_pieces s m args below meth c H locs 0 0 (QMI G Q below args s) (F0 m 0 ls []) := by
  unfold D_X11_pieces_0 at hD
  refine lv_iconst (v := 0) X.1 X.2.1 d_X11_pieces_0 (by decide) ?_
  refine lv_istore_n (lv' := [(3, .int 0), (0, .ref (G.2.1 237)), (1, .int x1), (2, .int x2)]) X.1 X.2.1 d_X11_pieces_1 rfl hl (by decide) rfl (fun ls hl => ?_)
  refine lv_iconst (v := 0) X.1 X.2.1 d_X11_pieces_2 (by decide) ?_
  refine lv_istore (lv' := [(4, .int 0), (3, .int 0), (0, .ref (G.2.1 237)), (1, .int x1), (2, .int x2)]) X.1 X.2.1 d_X11_pieces_3 hl (by decide) rfl (fun ls hl => ?_)
  obtain ⟨n9, hD⟩ := hD
  exact sl_X11_pieces_5 X hr hlk  Q  n9 x1 x2 0 0 σ _ _ _  hw (lv_sub hl [2, 3, 4, 1, 0] rfl) hD
theorem c_X11_pieces (l : Launch) (G : GC) (x1 : Int32) (x2 : Int32) (σ : GSt) (Q : Int32 → GSt → Prop)  (hD : D_X11_pieces x1 x2 σ Q) : MI l ym_X11_pieces cm_X11_pieces 5 .int rm_X11_pieces G σ [.ref (G.2.1 237), .int x1, .int x2] Q := by
  refine met_i (by decide) (Nat.le_of_ble_eq_true rfl) ?_
  intro p e s m args below meth c X hr hlk hw ls hl
  exact s_X11_pieces_0 X hr hlk Q  x1 x2 σ hw (lv_sub hl [0, 1, 2] rfl) hD
theorem hd_X11_findPuts : ym_X11_findPuts.cls = "GameLoomModel" ∧ ym_X11_findPuts.cls ≠ "java/lang/invoke/MethodHandle" ∧ ym_X11_findPuts.cls ≠ "java/lang/invoke/VarHandle" ∧ (parseMethodDescriptor ym_X11_findPuts.desc).map (fun d => d.parameters.length) = some 2 := by decide +kernel
abbrev rm_X11_findPuts : Room := { frames := 2, cells := 0, slots := 0, locals := 44 }
theorem d_X11_findPuts_0 : decode cm_X11_findPuts 0 = .ok (.aload_n 0, 1) := by decide +kernel
theorem d_X11_findPuts_1 : decode cm_X11_findPuts 1 = .ok (.getfield 34, 3) := by decide +kernel
theorem d_X11_findPuts_4 : decode cm_X11_findPuts 4 = .ok (.bipush 6, 2) := by decide +kernel
theorem d_X11_findPuts_6 : decode cm_X11_findPuts 6 = .ok (.aload_n 0, 1) := by decide +kernel
theorem d_X11_findPuts_7 : decode cm_X11_findPuts 7 = .ok (.getfield 156, 3) := by decide +kernel
theorem d_X11_findPuts_10 : decode cm_X11_findPuts 10 = .ok (.imul, 1) := by decide +kernel
theorem d_X11_findPuts_11 : decode cm_X11_findPuts 11 = .ok (.iload_n 2, 1) := by decide +kernel
theorem d_X11_findPuts_12 : decode cm_X11_findPuts 12 = .ok (.iadd, 1) := by decide +kernel
theorem d_X11_findPuts_13 : decode cm_X11_findPuts 13 = .ok (.iaload, 1) := by decide +kernel
theorem d_X11_findPuts_14 : decode cm_X11_findPuts 14 = .ok (.istore_n 3, 1) := by decide +kernel
theorem d_X11_findPuts_15 : decode cm_X11_findPuts 15 = .ok (.iload_n 3, 1) := by decide +kernel
theorem d_X11_findPuts_16 : decode cm_X11_findPuts 16 = .ok (.ifCond .le 19, 3) := by decide +kernel
theorem d_X11_findPuts_19 : decode cm_X11_findPuts 19 = .ok (.aload_n 0, 1) := by decide +kernel
theorem d_X11_findPuts_20 : decode cm_X11_findPuts 20 = .ok (.iload_n 1, 1) := by decide +kernel
theorem d_X11_findPuts_21 : decode cm_X11_findPuts 21 = .ok (.aload_n 0, 1) := by decide +kernel
theorem d_X11_findPuts_22 : decode cm_X11_findPuts 22 = .ok (.getfield 71, 3) := by decide +kernel
theorem d_X11_findPuts_25 : decode cm_X11_findPuts 25 = .ok (.iload_n 1, 1) := by decide +kernel
theorem d_X11_findPuts_26 : decode cm_X11_findPuts 26 = .ok (.iaload, 1) := by decide +kernel
theorem d_X11_findPuts_27 : decode cm_X11_findPuts 27 = .ok (.invokevirtual 213, 3) := by decide +kernel
theorem d_X11_findPuts_30 : decode cm_X11_findPuts 30 = .ok (.iload_n 3, 1) := by decide +kernel
theorem d_X11_findPuts_31 : decode cm_X11_findPuts 31 = .ok (.if_icmp .lt 4, 3) := by decide +kernel
theorem d_X11_findPuts_34 : decode cm_X11_findPuts 34 = .ok (.return_, 1) := by decide +kernel
theorem d_X11_findPuts_35 : decode cm_X11_findPuts 35 = .ok (.iconst 0, 1) := by decide +kernel
theorem d_X11_findPuts_36 : decode cm_X11_findPuts 36 = .ok (.istore 4, 2) := by decide +kernel
theorem d_X11_findPuts_38 : decode cm_X11_findPuts 38 = .ok (.iload 4, 2) := by decide +kernel
theorem d_X11_findPuts_40 : decode cm_X11_findPuts 40 = .ok (.aload_n 0, 1) := by decide +kernel
theorem d_X11_findPuts_41 : decode cm_X11_findPuts 41 = .ok (.invokevirtual 210, 3) := by decide +kernel
theorem d_X11_findPuts_44 : decode cm_X11_findPuts 44 = .ok (.if_icmp .ge 34, 3) := by decide +kernel
theorem d_X11_findPuts_47 : decode cm_X11_findPuts 47 = .ok (.aload_n 0, 1) := by decide +kernel
theorem d_X11_findPuts_48 : decode cm_X11_findPuts 48 = .ok (.getfield 68, 3) := by decide +kernel
theorem d_X11_findPuts_51 : decode cm_X11_findPuts 51 = .ok (.bipush 16, 2) := by decide +kernel
theorem d_X11_findPuts_53 : decode cm_X11_findPuts 53 = .ok (.iload_n 1, 1) := by decide +kernel
theorem d_X11_findPuts_54 : decode cm_X11_findPuts 54 = .ok (.imul, 1) := by decide +kernel
theorem d_X11_findPuts_55 : decode cm_X11_findPuts 55 = .ok (.iload 4, 2) := by decide +kernel
theorem d_X11_findPuts_57 : decode cm_X11_findPuts 57 = .ok (.iadd, 1) := by decide +kernel
theorem d_X11_findPuts_58 : decode cm_X11_findPuts 58 = .ok (.iaload, 1) := by decide +kernel
theorem d_X11_findPuts_59 : decode cm_X11_findPuts 59 = .ok (.ifCond .ne 13, 3) := by decide +kernel
theorem d_X11_findPuts_62 : decode cm_X11_findPuts 62 = .ok (.aload_n 0, 1) := by decide +kernel
theorem d_X11_findPuts_63 : decode cm_X11_findPuts 63 = .ok (.iload_n 1, 1) := by decide +kernel
theorem d_X11_findPuts_64 : decode cm_X11_findPuts 64 = .ok (.iload_n 2, 1) := by decide +kernel
theorem d_X11_findPuts_65 : decode cm_X11_findPuts 65 = .ok (.bipush 99, 2) := by decide +kernel
theorem d_X11_findPuts_67 : decode cm_X11_findPuts 67 = .ok (.iload 4, 2) := by decide +kernel
theorem d_X11_findPuts_69 : decode cm_X11_findPuts 69 = .ok (.invokevirtual 216, 3) := by decide +kernel
theorem d_X11_findPuts_72 : decode cm_X11_findPuts 72 = .ok (.iinc 4 1, 3) := by decide +kernel
theorem d_X11_findPuts_75 : decode cm_X11_findPuts 75 = .ok (.goto (-37), 3) := by decide +kernel
theorem d_X11_findPuts_78 : decode cm_X11_findPuts 78 = .ok (.return_, 1) := by decide +kernel
def D_X11_findPuts_72 (K38 : Int32 → Int32 → Int32 → GSt → Prop) (Q : GSt → Prop) (x1 : Int32) (x2 : Int32) (x4 : Int32) (σ : GSt) : Prop :=
  ∀ x4_1 : Int32, x4_1 = x4 + 1 → (K38 x1 x2 x4_1 σ)
def D_X11_findPuts_38 (K38 : Int32 → Int32 → Int32 → GSt → Prop) (Q : GSt → Prop) (x1 : Int32) (x2 : Int32) (x4 : Int32) (σ : GSt) : Prop :=
  D_X11_cells  σ (fun r_1 σ_2 => (r_1 ≤ x4 → Q σ_2) ∧
  (¬ r_1 ≤ x4 → vp_in ((16 * x1) + x4) 144 ∧ ((¬ (σ_2 257 (Int32.toNatClampNeg ((16 * x1) + x4))) = 0 → D_X11_findPuts_72 K38 Q x1 x2 x4 σ_2) ∧
  ((σ_2 257 (Int32.toNatClampNeg ((16 * x1) + x4))) = 0 → D_X11_tells x1 x2 99 x4 σ_2 (fun σ_3 => D_X11_findPuts_72 K38 Q x1 x2 x4 σ_3)))))
def L_X11_findPuts_38 (Q : GSt → Prop) : Nat → Int32 → Int32 → Int32 → GSt → Prop
  | 0 => fun _ _ _ _ => False
  | n + 1 => fun x1 x2 x4 σ => D_X11_findPuts_38 (L_X11_findPuts_38 Q n) Q x1 x2 x4 σ
def D_X11_findPuts_35 (Q : GSt → Prop) (x1 : Int32) (x2 : Int32) (σ : GSt) : Prop :=
  ∃ n : Nat, L_X11_findPuts_38 Q n x1 x2 0 σ
def D_X11_findPuts_0 (Q : GSt → Prop) (x1 : Int32) (x2 : Int32) (σ : GSt) : Prop :=
  vp_in ((6 * (σ 237 22)) + x2) 54 ∧ (∀ x3_1 : Int32, x3_1 = (σ 246 (Int32.toNatClampNeg ((6 * (σ 237 22)) + x2))) → ((x3_1 ≤ 0 → D_X11_findPuts_35 Q x1 x2 σ) ∧
  (¬ x3_1 ≤ 0 → vp_in x1 9 ∧ (D_X11_pieces x1 (σ 258 (Int32.toNatClampNeg x1)) σ (fun r_2 σ_3 => (r_2 < x3_1 → D_X11_findPuts_35 Q x1 x2 σ_3) ∧
  (¬ r_2 < x3_1 → Q σ_3))))))
def D_X11_findPuts (x1 : Int32) (x2 : Int32) (σ : GSt) (Q : GSt → Prop) : Prop := D_X11_findPuts_0 Q x1 x2 σ
set_option maxRecDepth 20000 in
set_option maxHeartbeats 4000000 in
theorem s_X11_findPuts_72 {p : Program} {l : Launch} {e : Env} {s : State} {m : MethodId} {args : Array Value} {below : List Frame} {meth : Method} {c : Code} {G : GC} (X : CallFix p m c cm_X11_findPuts 5 s args lw_us "GameLoomModel") (hr : meth.sig.returnType = none) (hlk : meth.locks = false) (K38 : Int32 → Int32 → Int32 → GSt → Prop) (Q : GSt → Prop) (hK38 : ∀ (x1 : Int32) (x2 : Int32) (x4 : Int32) (σ : GSt) (H : Heap) (locs : List Loc) (ls : Array Slot), Wo G s H locs σ → lv_has ls 5 [(0, .ref (G.2.1 237)), (1, .int x1), (2, .int x2), (4, .int x4)] → K38 x1 x2 x4 σ → W p l e rm_X11_findPuts s m args below meth c H locs 0 0 (QMV G Q below args s) (F0 m 38 ls [])) (x1 : Int32) (x2 : Int32) (x4 : Int32) (σ : GSt) {H : Heap} {locs : List Loc} {ls : Array Slot} (hw : Wo G s H locs σ) (hl : lv_has ls 5 [(0, .ref (G.2.1 237)), (1, .int x1), (2, .int x2), (4, .int x4)]) (hD : D_X11_findPuts_72 K38 Q x1 x2 x4 σ) : W p l e rm_X11_findPuts s m args below meth c H locs 0 0 (QMV G Q below args s) (F0 m 72 ls []) := by
  unfold D_X11_findPuts_72 at hD
  obtain ⟨x4_1, e_x4_1⟩ : ∃ y : Int32, y = x4 + 1 := ⟨_, rfl⟩
  have hD := hD x4_1 e_x4_1
  refine lv_iinc (v := x4_1) (lv' := [(4, .int x4_1), (0, .ref (G.2.1 237)), (1, .int x1), (2, .int x2)]) X.1 X.2.1 d_X11_findPuts_72 hl (k := 3) rfl (by rw [e_x4_1]; rfl) (by decide) rfl (fun ls hl => ?_)
  refine lv_goto (tgt := 38) X.1 X.2.1 d_X11_findPuts_75 (by decide) ?_
  exact hK38 x1 x2 x4_1 σ _ _ _  hw (lv_sub hl [1, 2, 3, 0] rfl) hD
set_option maxRecDepth 20000 in
set_option maxHeartbeats 4000000 in
theorem s_X11_findPuts_38 {p : Program} {l : Launch} {e : Env} {s : State} {m : MethodId} {args : Array Value} {below : List Frame} {meth : Method} {c : Code} {G : GC} (X : CallFix p m c cm_X11_findPuts 5 s args lw_us "GameLoomModel") (hr : meth.sig.returnType = none) (hlk : meth.locks = false) (K38 : Int32 → Int32 → Int32 → GSt → Prop) (Q : GSt → Prop) (hK38 : ∀ (x1 : Int32) (x2 : Int32) (x4 : Int32) (σ : GSt) (H : Heap) (locs : List Loc) (ls : Array Slot), Wo G s H locs σ → lv_has ls 5 [(0, .ref (G.2.1 237)), (1, .int x1), (2, .int x2), (4, .int x4)] → K38 x1 x2 x4 σ → W p l e rm_X11_findPuts s m args below meth c H locs 0 0 (QMV G Q below args s) (F0 m 38 ls [])) (x1 : Int32) (x2 : Int32) (x4 : Int32) (σ : GSt) {H : Heap} {locs : List Loc} {ls : Array Slot} (hw : Wo G s H locs σ) (hl : lv_has ls 5 [(0, .ref (G.2.1 237)), (1, .int x1), (2, .int x2), (4, .int x4)]) (hD : D_X11_findPuts_38 K38 Q x1 x2 x4 σ) : W p l e rm_X11_findPuts s m args below meth c H locs 0 0 (QMV G Q below args s) (F0 m 38 ls []) := by
  unfold D_X11_findPuts_38 at hD
  refine lv_iload X.1 X.2.1 d_X11_findPuts_38 (lv_at hl 3 rfl) ?_
  refine lv_aload_n X.1 X.2.1 d_X11_findPuts_40 rfl (lv_at hl 0 rfl) ?_
  refine gcV_i (rest := [.int x4]) (As := []) (o := 237) X hw (c_X11_cells l G  σ _  hD) (kd_lt (by decide +kernel : kd 237 = 11) (by decide)) (ce_11 G _ (by decide +kernel : kd 237 = 11)) rfl tb_1180 tb_1182 tv_54 tb_12 tb_1183 hd_X11_cells ⟨rfl, rfl⟩ ⟨Nat.le_of_ble_eq_true rfl, Nat.le_of_ble_eq_true rfl⟩ rfl hl.1 rfl (Nat.le_of_ble_eq_true rfl) d_X11_findPuts_41 (fun r_1 σ_2 H locs hD hw => ?_)
  refine lv_icmp_ge (tgt := 78) X.1 X.2.1 d_X11_findPuts_44 (by decide) (fun q_44 => ?_) (fun q_44 => ?_)
  · have hD := hD.1 q_44
    exact g_vret X hr hlk hw hD d_X11_findPuts_78
  · have hD := hD.2 q_44
    refine lv_aload_n X.1 X.2.1 d_X11_findPuts_47 rfl (lv_at hl 0 rfl) ?_
    refine gf_11_23 X hw (by decide +kernel : kd 237 = 11) tb_929 d_X11_findPuts_48 ?_
    refine lv_bipush (v := 16) X.1 X.2.1 d_X11_findPuts_51 (by decide) ?_
    refine lv_iload_n X.1 X.2.1 d_X11_findPuts_53 rfl (lv_at hl 1 rfl) ?_
    refine lv_imul X.1 X.2.1 d_X11_findPuts_54 ?_
    refine lv_iload X.1 X.2.1 d_X11_findPuts_55 (lv_at hl 3 rfl) ?_
    refine lv_iadd X.1 X.2.1 d_X11_findPuts_57 ?_
    obtain ⟨q_58, hD⟩ := hD
    refine g_iald X hw ly_11_23.1 ly_11_23.2 q_58 d_X11_findPuts_58 ?_
    refine lv_if_ne (tgt := 72) X.1 X.2.1 d_X11_findPuts_59 (by decide) (fun q_59 => ?_) (fun q_59 => ?_)
    · have hD := hD.1 q_59
      exact s_X11_findPuts_72 X hr hlk K38 Q hK38 x1 x2 x4 σ_2 hw (lv_sub hl [0, 1, 2, 3] rfl) hD
    · have hD := hD.2 q_59
      refine lv_aload_n X.1 X.2.1 d_X11_findPuts_62 rfl (lv_at hl 0 rfl) ?_
      refine lv_iload_n X.1 X.2.1 d_X11_findPuts_63 rfl (lv_at hl 1 rfl) ?_
      refine lv_iload_n X.1 X.2.1 d_X11_findPuts_64 rfl (lv_at hl 2 rfl) ?_
      refine lv_bipush (v := 99) X.1 X.2.1 d_X11_findPuts_65 (by decide) ?_
      refine lv_iload X.1 X.2.1 d_X11_findPuts_67 (lv_at hl 3 rfl) ?_
      refine gcV_v (rest := []) (As := [.int x1, .int x2, .int 99, .int x4]) (o := 237) X hw (c_X11_tells l G x1 x2 99 x4 σ_2 _  hD) (kd_lt (by decide +kernel : kd 237 = 11) (by decide)) (ce_11 G _ (by decide +kernel : kd 237 = 11)) rfl tb_1184 tb_1186 tv_55 tb_12 tb_1187 hd_X11_tells ⟨rfl, rfl⟩ ⟨Nat.le_of_ble_eq_true rfl, Nat.le_of_ble_eq_true rfl⟩ rfl hl.1 rfl (Nat.le_of_ble_eq_true rfl) d_X11_findPuts_69 (fun σ_3 H locs hD hw => ?_)
      exact s_X11_findPuts_72 X hr hlk K38 Q hK38 x1 x2 x4 σ_3 hw (lv_sub hl [0, 1, 2, 3] rfl) hD
set_option maxRecDepth 20000 in
set_option maxHeartbeats 4000000 in
theorem sl_X11_findPuts_38 {p : Program} {l : Launch} {e : Env} {s : State} {m : MethodId} {args : Array Value} {below : List Frame} {meth : Method} {c : Code} {G : GC} (X : CallFix p m c cm_X11_findPuts 5 s args lw_us "GameLoomModel") (hr : meth.sig.returnType = none) (hlk : meth.locks = false) (Q : GSt → Prop) : ∀ (nn : Nat), ∀ (x1 : Int32) (x2 : Int32) (x4 : Int32) (σ : GSt) (H : Heap) (locs : List Loc) (ls : Array Slot), Wo G s H locs σ → lv_has ls 5 [(0, .ref (G.2.1 237)), (1, .int x1), (2, .int x2), (4, .int x4)] → L_X11_findPuts_38 Q nn x1 x2 x4 σ → W p l e rm_X11_findPuts s m args below meth c H locs 0 0 (QMV G Q below args s) (F0 m 38 ls []) := by
  intro nn
  induction nn with
  | zero => intro x1 x2 x4 σ H locs ls  hw hl hD; exact hD.elim
  | succ nn ih =>
    intro x1 x2 x4 σ H locs ls  hw hl hD
    exact s_X11_findPuts_38 X hr hlk (L_X11_findPuts_38 Q nn) Q ih x1 x2 x4 σ hw hl hD
set_option maxRecDepth 20000 in
set_option maxHeartbeats 4000000 in
theorem s_X11_findPuts_35 {p : Program} {l : Launch} {e : Env} {s : State} {m : MethodId} {args : Array Value} {below : List Frame} {meth : Method} {c : Code} {G : GC} (X : CallFix p m c cm_X11_findPuts 5 s args lw_us "GameLoomModel") (hr : meth.sig.returnType = none) (hlk : meth.locks = false) (Q : GSt → Prop) (x1 : Int32) (x2 : Int32) (σ : GSt) {H : Heap} {locs : List Loc} {ls : Array Slot} (hw : Wo G s H locs σ) (hl : lv_has ls 5 [(0, .ref (G.2.1 237)), (1, .int x1), (2, .int x2)]) (hD : D_X11_findPuts_35 Q x1 x2 σ) : W p l e rm_X11_findPuts s m args below meth c H locs 0 0 (QMV G Q below args s) (F0 m 35 ls []) := by
  unfold D_X11_findPuts_35 at hD
  refine lv_iconst (v := 0) X.1 X.2.1 d_X11_findPuts_35 (by decide) ?_
  refine lv_istore (lv' := [(4, .int 0), (0, .ref (G.2.1 237)), (1, .int x1), (2, .int x2)]) X.1 X.2.1 d_X11_findPuts_36 hl (by decide) rfl (fun ls hl => ?_)
  obtain ⟨n9, hD⟩ := hD
  exact sl_X11_findPuts_38 X hr hlk  Q  n9 x1 x2 0 σ _ _ _  hw (lv_sub hl [1, 2, 3, 0] rfl) hD
set_option maxRecDepth 20000 in
set_option maxHeartbeats 4000000 in
theorem s_X11_findPuts_0 {p : Program} {l : Launch} {e : Env} {s : State} {m : MethodId} {args : Array Value} {below : List Frame} {meth : Method} {c : Code} {G : GC} (X : CallFix p m c cm_X11_findPuts 5 s args lw_us "GameLoomModel") (hr : meth.sig.returnType = none) (hlk : meth.locks = false) (Q : GSt → Prop) (x1 : Int32) (x2 : Int32) (σ : GSt) {H : Heap} {locs : List Loc} {ls : Array Slot} (hw : Wo G s H locs σ) (hl : lv_has ls 5 [(0, .ref (G.2.1 237)), (1, .int x1), (2, .int x2)]) (hD : D_X11_findPuts_0 Q x1 x2 σ) : W p l e rm_X11_findPuts s m args below meth c H locs 0 0 (QMV G Q below args s) (F0 m 0 ls []) := by
  unfold D_X11_findPuts_0 at hD
  refine lv_aload_n X.1 X.2.1 d_X11_findPuts_0 rfl (lv_at hl 0 rfl) ?_
  refine gf_11_8 X hw (by decide +kernel : kd 237 = 11) tb_914 d_X11_findPuts_1 ?_
  refine lv_bipush (v := 6) X.1 X.2.1 d_X11_findPuts_4 (by decide) ?_
  refine lv_aload_n X.1 X.2.1 d_X11_findPuts_6 rfl (lv_at hl 0 rfl) ?_
  refine gf_11_22 X hw (by decide +kernel : kd 237 = 11) tb_928 d_X11_findPuts_7 ?_
  refine lv_imul X.1 X.2.1 d_X11_findPuts_10 ?_
  refine lv_iload_n X.1 X.2.1 d_X11_findPuts_11 rfl (lv_at hl 2 rfl) ?_
  refine lv_iadd X.1 X.2.1 d_X11_findPuts_12 ?_
  obtain ⟨q_13, hD⟩ := hD
  refine g_iald X hw ly_11_8.1 ly_11_8.2 q_13 d_X11_findPuts_13 ?_
  refine lv_topi (fun x3_1 e_x3_1 => ?_)
  have hD := hD x3_1 e_x3_1
  refine lv_istore_n (lv' := [(3, .int x3_1), (0, .ref (G.2.1 237)), (1, .int x1), (2, .int x2)]) X.1 X.2.1 d_X11_findPuts_14 rfl hl (by decide) rfl (fun ls hl => ?_)
  refine lv_iload_n X.1 X.2.1 d_X11_findPuts_15 rfl (lv_at hl 0 rfl) ?_
  refine lv_if_le (tgt := 35) X.1 X.2.1 d_X11_findPuts_16 (by decide) (fun q_16 => ?_) (fun q_16 => ?_)
  · have hD := hD.1 q_16
    exact s_X11_findPuts_35 X hr hlk  Q  x1 x2 σ hw (lv_sub hl [1, 2, 3] rfl) hD
  · have hD := hD.2 q_16
    refine lv_aload_n X.1 X.2.1 d_X11_findPuts_19 rfl (lv_at hl 1 rfl) ?_
    refine lv_iload_n X.1 X.2.1 d_X11_findPuts_20 rfl (lv_at hl 2 rfl) ?_
    refine lv_aload_n X.1 X.2.1 d_X11_findPuts_21 rfl (lv_at hl 1 rfl) ?_
    refine gf_11_24 X hw (by decide +kernel : kd 237 = 11) tb_930 d_X11_findPuts_22 ?_
    refine lv_iload_n X.1 X.2.1 d_X11_findPuts_25 rfl (lv_at hl 2 rfl) ?_
    obtain ⟨q_26, hD⟩ := hD
    refine g_iald X hw ly_11_24.1 ly_11_24.2 q_26 d_X11_findPuts_26 ?_
    refine gcV_i (rest := []) (As := [.int x1, .int (σ 258 (Int32.toNatClampNeg x1))]) (o := 237) X hw (c_X11_pieces l G x1 (σ 258 (Int32.toNatClampNeg x1)) σ _  hD) (kd_lt (by decide +kernel : kd 237 = 11) (by decide)) (ce_11 G _ (by decide +kernel : kd 237 = 11)) rfl tb_1176 tb_1178 tv_53 tb_12 tb_1179 hd_X11_pieces ⟨rfl, rfl⟩ ⟨Nat.le_of_ble_eq_true rfl, Nat.le_of_ble_eq_true rfl⟩ rfl hl.1 rfl (Nat.le_of_ble_eq_true rfl) d_X11_findPuts_27 (fun r_2 σ_3 H locs hD hw => ?_)
    refine lv_iload_n X.1 X.2.1 d_X11_findPuts_30 rfl (lv_at hl 0 rfl) ?_
    refine lv_icmp_lt (tgt := 35) X.1 X.2.1 d_X11_findPuts_31 (by decide) (fun q_31 => ?_) (fun q_31 => ?_)
    · have hD := hD.1 q_31
      exact s_X11_findPuts_35 X hr hlk  Q  x1 x2 σ_3 hw (lv_sub hl [1, 2, 3] rfl) hD
    · have hD := hD.2 q_31
      exact g_vret X hr hlk hw hD d_X11_findPuts_34
theorem c_X11_findPuts (l : Launch) (G : GC) (x1 : Int32) (x2 : Int32) (σ : GSt) (Q : GSt → Prop)  (hD : D_X11_findPuts x1 x2 σ Q) : MV l ym_X11_findPuts cm_X11_findPuts 5 rm_X11_findPuts G σ [.ref (G.2.1 237), .int x1, .int x2] Q := by
  refine met_v (by decide) (Nat.le_of_ble_eq_true rfl) ?_
  intro p e s m args below meth c X hr hlk hw ls hl
  exact s_X11_findPuts_0 X hr hlk Q  x1 x2 σ hw (lv_sub hl [0, 1, 2] rfl) hD
