theorem vu_ne {α : Type} {f : Nat → α} {k i : Nat} {v : α} (h : i ≠ k) : va_up f k v i = f i := if_neg h
theorem vu_at {α : Type} {f : Nat → α} {k : Nat} {v : α} : va_up f k v k = v := if_pos rfl
def s0 : GSt := fun i j => if i = 58 then ([-9, -9, -9, -9, -9, -9, -9, -9, -9, -9, -9, -9, -9, -9, -9, -9, -9] : List Int32).getD j 0 else if i = 267 then ([0, 1, 0, -1, 1, 1, -1, -1] : List Int32).getD j 0 else if i = 268 then ([-1, 0, 1, 0, -1, 1, 1, -1] : List Int32).getD j 0 else if i = 277 then ([-9, -9, -9, -9, -9, -9, -9, -9, -9, -9, -9, -9, -9, -9, -9, -9, -9] : List Int32).getD j 0 else if kd i = 5 ∧ j = 0 then -1 else if kd i = 6 ∧ j < 2 then -1 else if i = 237 ∧ j = 41 then -1 else 0
def GB (D : va_G) (bs : Nat) (cy : Nat → ClassId) (tD tR : Nat) : GC := (D, (fun i => bs + i), cy, tD, tR)
def Pd (D : va_G) (cy : Nat → ClassId) (bs tD tR : Nat) (cf : Nat → va_E) (lo hi : Nat) (u : Nat → va_E) : Prop := (∀ i, i < lo → u i = cf i) ∧ ∀ i, lo ≤ i → i < hi → u i = ce (GB D bs cy tD tR) (s0 i) i
theorem d_X0_init_0 : decode cm_X0_init 0 = .ok (.aload_n 0, 1) := by decide +kernel
theorem d_X0_init_1 : decode cm_X0_init 1 = .ok (.invokespecial 3, 3) := by decide +kernel
theorem d_X0_init_4 : decode cm_X0_init 4 = .ok (.aload_n 0, 1) := by decide +kernel
theorem d_X0_init_5 : decode cm_X0_init 5 = .ok (.sipush 128, 3) := by decide +kernel
theorem d_X0_init_8 : decode cm_X0_init 8 = .ok (.newarray .int, 2) := by decide +kernel
theorem d_X0_init_10 : decode cm_X0_init 10 = .ok (.putfield 9, 3) := by decide +kernel
theorem d_X0_init_13 : decode cm_X0_init 13 = .ok (.aload_n 0, 1) := by decide +kernel
theorem d_X0_init_14 : decode cm_X0_init 14 = .ok (.bipush 64, 2) := by decide +kernel
theorem d_X0_init_16 : decode cm_X0_init 16 = .ok (.newarray .int, 2) := by decide +kernel
theorem d_X0_init_18 : decode cm_X0_init 18 = .ok (.putfield 15, 3) := by decide +kernel
theorem d_X0_init_21 : decode cm_X0_init 21 = .ok (.aload_n 0, 1) := by decide +kernel
theorem d_X0_init_22 : decode cm_X0_init 22 = .ok (.bipush 76, 2) := by decide +kernel
theorem d_X0_init_24 : decode cm_X0_init 24 = .ok (.newarray .int, 2) := by decide +kernel
theorem d_X0_init_26 : decode cm_X0_init 26 = .ok (.putfield 18, 3) := by decide +kernel
theorem d_X0_init_29 : decode cm_X0_init 29 = .ok (.aload_n 0, 1) := by decide +kernel
theorem d_X0_init_30 : decode cm_X0_init 30 = .ok (.bipush 6, 2) := by decide +kernel
theorem d_X0_init_32 : decode cm_X0_init 32 = .ok (.newarray .int, 2) := by decide +kernel
theorem d_X0_init_34 : decode cm_X0_init 34 = .ok (.putfield 21, 3) := by decide +kernel
theorem d_X0_init_37 : decode cm_X0_init 37 = .ok (.return_, 1) := by decide +kernel
theorem hdc_X0_init : ym_X0_init.cls ≠ "java/lang/invoke/MethodHandle" ∧ ym_X0_init.cls ≠ "java/lang/invoke/VarHandle" ∧ (parseMethodDescriptor ym_X0_init.desc).map (fun d => d.parameters.length) = some 0 := by decide +kernel
theorem d_X1_init_0 : decode cm_X1_init 0 = .ok (.aload_n 0, 1) := by decide +kernel
theorem d_X1_init_1 : decode cm_X1_init 1 = .ok (.invokespecial 3, 3) := by decide +kernel
theorem d_X1_init_4 : decode cm_X1_init 4 = .ok (.aload_n 0, 1) := by decide +kernel
theorem d_X1_init_5 : decode cm_X1_init 5 = .ok (.new 9, 3) := by decide +kernel
theorem d_X1_init_8 : decode cm_X1_init 8 = .ok (.dup, 1) := by decide +kernel
theorem d_X1_init_9 : decode cm_X1_init 9 = .ok (.invokespecial 11, 3) := by decide +kernel
theorem d_X1_init_12 : decode cm_X1_init 12 = .ok (.putfield 12, 3) := by decide +kernel
theorem d_X1_init_15 : decode cm_X1_init 15 = .ok (.aload_n 0, 1) := by decide +kernel
theorem d_X1_init_16 : decode cm_X1_init 16 = .ok (.new 18, 3) := by decide +kernel
theorem d_X1_init_19 : decode cm_X1_init 19 = .ok (.dup, 1) := by decide +kernel
theorem d_X1_init_20 : decode cm_X1_init 20 = .ok (.invokespecial 20, 3) := by decide +kernel
theorem d_X1_init_23 : decode cm_X1_init 23 = .ok (.putfield 21, 3) := by decide +kernel
theorem d_X1_init_26 : decode cm_X1_init 26 = .ok (.aload_n 0, 1) := by decide +kernel
theorem d_X1_init_27 : decode cm_X1_init 27 = .ok (.bipush 6, 2) := by decide +kernel
theorem d_X1_init_29 : decode cm_X1_init 29 = .ok (.anewarray 25, 3) := by decide +kernel
theorem d_X1_init_32 : decode cm_X1_init 32 = .ok (.putfield 27, 3) := by decide +kernel
theorem d_X1_init_35 : decode cm_X1_init 35 = .ok (.aload_n 0, 1) := by decide +kernel
theorem d_X1_init_36 : decode cm_X1_init 36 = .ok (.bipush 6, 2) := by decide +kernel
theorem d_X1_init_38 : decode cm_X1_init 38 = .ok (.anewarray 25, 3) := by decide +kernel
theorem d_X1_init_41 : decode cm_X1_init 41 = .ok (.putfield 31, 3) := by decide +kernel
theorem d_X1_init_44 : decode cm_X1_init 44 = .ok (.iconst 0, 1) := by decide +kernel
theorem d_X1_init_45 : decode cm_X1_init 45 = .ok (.istore_n 1, 1) := by decide +kernel
theorem d_X1_init_46 : decode cm_X1_init 46 = .ok (.iload_n 1, 1) := by decide +kernel
theorem d_X1_init_47 : decode cm_X1_init 47 = .ok (.bipush 6, 2) := by decide +kernel
theorem d_X1_init_49 : decode cm_X1_init 49 = .ok (.if_icmp .ge 35, 3) := by decide +kernel
theorem d_X1_init_52 : decode cm_X1_init 52 = .ok (.aload_n 0, 1) := by decide +kernel
theorem d_X1_init_53 : decode cm_X1_init 53 = .ok (.getfield 27, 3) := by decide +kernel
theorem d_X1_init_56 : decode cm_X1_init 56 = .ok (.iload_n 1, 1) := by decide +kernel
theorem d_X1_init_57 : decode cm_X1_init 57 = .ok (.new 25, 3) := by decide +kernel
theorem d_X1_init_60 : decode cm_X1_init 60 = .ok (.dup, 1) := by decide +kernel
theorem d_X1_init_61 : decode cm_X1_init 61 = .ok (.invokespecial 34, 3) := by decide +kernel
theorem d_X1_init_64 : decode cm_X1_init 64 = .ok (.aastore, 1) := by decide +kernel
theorem d_X1_init_65 : decode cm_X1_init 65 = .ok (.aload_n 0, 1) := by decide +kernel
theorem d_X1_init_66 : decode cm_X1_init 66 = .ok (.getfield 31, 3) := by decide +kernel
theorem d_X1_init_69 : decode cm_X1_init 69 = .ok (.iload_n 1, 1) := by decide +kernel
theorem d_X1_init_70 : decode cm_X1_init 70 = .ok (.new 25, 3) := by decide +kernel
theorem d_X1_init_73 : decode cm_X1_init 73 = .ok (.dup, 1) := by decide +kernel
theorem d_X1_init_74 : decode cm_X1_init 74 = .ok (.invokespecial 34, 3) := by decide +kernel
theorem d_X1_init_77 : decode cm_X1_init 77 = .ok (.aastore, 1) := by decide +kernel
theorem d_X1_init_78 : decode cm_X1_init 78 = .ok (.iinc 1 1, 3) := by decide +kernel
theorem d_X1_init_81 : decode cm_X1_init 81 = .ok (.goto (-35), 3) := by decide +kernel
theorem d_X1_init_84 : decode cm_X1_init 84 = .ok (.return_, 1) := by decide +kernel
theorem hdc_X1_init : ym_X1_init.cls ≠ "java/lang/invoke/MethodHandle" ∧ ym_X1_init.cls ≠ "java/lang/invoke/VarHandle" ∧ (parseMethodDescriptor ym_X1_init.desc).map (fun d => d.parameters.length) = some 0 := by decide +kernel
theorem d_X2_init_0 : decode cm_X2_init 0 = .ok (.aload_n 0, 1) := by decide +kernel
theorem d_X2_init_1 : decode cm_X2_init 1 = .ok (.invokespecial 3, 3) := by decide +kernel
theorem d_X2_init_4 : decode cm_X2_init 4 = .ok (.aload_n 0, 1) := by decide +kernel
theorem d_X2_init_5 : decode cm_X2_init 5 = .ok (.new 9, 3) := by decide +kernel
theorem d_X2_init_8 : decode cm_X2_init 8 = .ok (.dup, 1) := by decide +kernel
theorem d_X2_init_9 : decode cm_X2_init 9 = .ok (.invokespecial 11, 3) := by decide +kernel
theorem d_X2_init_12 : decode cm_X2_init 12 = .ok (.putfield 12, 3) := by decide +kernel
theorem d_X2_init_15 : decode cm_X2_init 15 = .ok (.aload_n 0, 1) := by decide +kernel
theorem d_X2_init_16 : decode cm_X2_init 16 = .ok (.sipush 256, 3) := by decide +kernel
theorem d_X2_init_19 : decode cm_X2_init 19 = .ok (.newarray .int, 2) := by decide +kernel
theorem d_X2_init_21 : decode cm_X2_init 21 = .ok (.putfield 18, 3) := by decide +kernel
theorem d_X2_init_24 : decode cm_X2_init 24 = .ok (.aload_n 0, 1) := by decide +kernel
theorem d_X2_init_25 : decode cm_X2_init 25 = .ok (.bipush 7, 2) := by decide +kernel
theorem d_X2_init_27 : decode cm_X2_init 27 = .ok (.newarray .int, 2) := by decide +kernel
theorem d_X2_init_29 : decode cm_X2_init 29 = .ok (.putfield 22, 3) := by decide +kernel
theorem d_X2_init_32 : decode cm_X2_init 32 = .ok (.aload_n 0, 1) := by decide +kernel
theorem d_X2_init_33 : decode cm_X2_init 33 = .ok (.aload_n 1, 1) := by decide +kernel
theorem d_X2_init_34 : decode cm_X2_init 34 = .ok (.putfield 25, 3) := by decide +kernel
theorem d_X2_init_37 : decode cm_X2_init 37 = .ok (.return_, 1) := by decide +kernel
theorem hdc_X2_init : ym_X2_init.cls ≠ "java/lang/invoke/MethodHandle" ∧ ym_X2_init.cls ≠ "java/lang/invoke/VarHandle" ∧ (parseMethodDescriptor ym_X2_init.desc).map (fun d => d.parameters.length) = some 1 := by decide +kernel
theorem d_X3_init_0 : decode cm_X3_init 0 = .ok (.aload_n 0, 1) := by decide +kernel
theorem d_X3_init_1 : decode cm_X3_init 1 = .ok (.invokespecial 3, 3) := by decide +kernel
theorem d_X3_init_4 : decode cm_X3_init 4 = .ok (.aload_n 0, 1) := by decide +kernel
theorem d_X3_init_5 : decode cm_X3_init 5 = .ok (.bipush 7, 2) := by decide +kernel
theorem d_X3_init_7 : decode cm_X3_init 7 = .ok (.newarray .int, 2) := by decide +kernel
theorem d_X3_init_9 : decode cm_X3_init 9 = .ok (.putfield 9, 3) := by decide +kernel
theorem d_X3_init_12 : decode cm_X3_init 12 = .ok (.aload_n 0, 1) := by decide +kernel
theorem d_X3_init_13 : decode cm_X3_init 13 = .ok (.bipush 7, 2) := by decide +kernel
theorem d_X3_init_15 : decode cm_X3_init 15 = .ok (.sipush 256, 3) := by decide +kernel
theorem d_X3_init_18 : decode cm_X3_init 18 = .ok (.multianewarray 15 2, 4) := by decide +kernel
theorem d_X3_init_22 : decode cm_X3_init 22 = .ok (.putfield 17, 3) := by decide +kernel
theorem d_X3_init_25 : decode cm_X3_init 25 = .ok (.return_, 1) := by decide +kernel
theorem hdc_X3_init : ym_X3_init.cls ≠ "java/lang/invoke/MethodHandle" ∧ ym_X3_init.cls ≠ "java/lang/invoke/VarHandle" ∧ (parseMethodDescriptor ym_X3_init.desc).map (fun d => d.parameters.length) = some 0 := by decide +kernel
theorem d_X4_init_0 : decode cm_X4_init 0 = .ok (.aload_n 0, 1) := by decide +kernel
theorem d_X4_init_1 : decode cm_X4_init 1 = .ok (.invokespecial 3, 3) := by decide +kernel
theorem d_X4_init_4 : decode cm_X4_init 4 = .ok (.aload_n 0, 1) := by decide +kernel
theorem d_X4_init_5 : decode cm_X4_init 5 = .ok (.new 9, 3) := by decide +kernel
theorem d_X4_init_8 : decode cm_X4_init 8 = .ok (.dup, 1) := by decide +kernel
theorem d_X4_init_9 : decode cm_X4_init 9 = .ok (.invokespecial 11, 3) := by decide +kernel
theorem d_X4_init_12 : decode cm_X4_init 12 = .ok (.putfield 12, 3) := by decide +kernel
theorem d_X4_init_15 : decode cm_X4_init 15 = .ok (.aload_n 0, 1) := by decide +kernel
theorem d_X4_init_16 : decode cm_X4_init 16 = .ok (.sipush 256, 3) := by decide +kernel
theorem d_X4_init_19 : decode cm_X4_init 19 = .ok (.newarray .int, 2) := by decide +kernel
theorem d_X4_init_21 : decode cm_X4_init 21 = .ok (.putfield 18, 3) := by decide +kernel
theorem d_X4_init_24 : decode cm_X4_init 24 = .ok (.aload_n 0, 1) := by decide +kernel
theorem d_X4_init_25 : decode cm_X4_init 25 = .ok (.bipush 60, 2) := by decide +kernel
theorem d_X4_init_27 : decode cm_X4_init 27 = .ok (.newarray .int, 2) := by decide +kernel
theorem d_X4_init_29 : decode cm_X4_init 29 = .ok (.putfield 22, 3) := by decide +kernel
theorem d_X4_init_32 : decode cm_X4_init 32 = .ok (.aload_n 0, 1) := by decide +kernel
theorem d_X4_init_33 : decode cm_X4_init 33 = .ok (.bipush 60, 2) := by decide +kernel
theorem d_X4_init_35 : decode cm_X4_init 35 = .ok (.newarray .int, 2) := by decide +kernel
theorem d_X4_init_37 : decode cm_X4_init 37 = .ok (.putfield 25, 3) := by decide +kernel
theorem d_X4_init_40 : decode cm_X4_init 40 = .ok (.return_, 1) := by decide +kernel
theorem hdc_X4_init : ym_X4_init.cls ≠ "java/lang/invoke/MethodHandle" ∧ ym_X4_init.cls ≠ "java/lang/invoke/VarHandle" ∧ (parseMethodDescriptor ym_X4_init.desc).map (fun d => d.parameters.length) = some 0 := by decide +kernel
theorem d_X5_init_0 : decode cm_X5_init 0 = .ok (.aload_n 0, 1) := by decide +kernel
theorem d_X5_init_1 : decode cm_X5_init 1 = .ok (.invokespecial 3, 3) := by decide +kernel
theorem d_X5_init_4 : decode cm_X5_init 4 = .ok (.return_, 1) := by decide +kernel
theorem hdc_X5_init : ym_X5_init.cls ≠ "java/lang/invoke/MethodHandle" ∧ ym_X5_init.cls ≠ "java/lang/invoke/VarHandle" ∧ (parseMethodDescriptor ym_X5_init.desc).map (fun d => d.parameters.length) = some 0 := by decide +kernel
theorem d_X6_init_0 : decode cm_X6_init 0 = .ok (.aload_n 0, 1) := by decide +kernel
theorem d_X6_init_1 : decode cm_X6_init 1 = .ok (.invokespecial 3, 3) := by decide +kernel
theorem d_X6_init_4 : decode cm_X6_init 4 = .ok (.return_, 1) := by decide +kernel
theorem hdc_X6_init : ym_X6_init.cls ≠ "java/lang/invoke/MethodHandle" ∧ ym_X6_init.cls ≠ "java/lang/invoke/VarHandle" ∧ (parseMethodDescriptor ym_X6_init.desc).map (fun d => d.parameters.length) = some 0 := by decide +kernel
theorem d_X7_init_0 : decode cm_X7_init 0 = .ok (.aload_n 0, 1) := by decide +kernel
theorem d_X7_init_1 : decode cm_X7_init 1 = .ok (.invokespecial 1, 3) := by decide +kernel
theorem d_X7_init_4 : decode cm_X7_init 4 = .ok (.return_, 1) := by decide +kernel
theorem hdc_X7_init : ym_X7_init.cls ≠ "java/lang/invoke/MethodHandle" ∧ ym_X7_init.cls ≠ "java/lang/invoke/VarHandle" ∧ (parseMethodDescriptor ym_X7_init.desc).map (fun d => d.parameters.length) = some 0 := by decide +kernel
theorem d_X8_init_0 : decode cm_X8_init 0 = .ok (.aload_n 0, 1) := by decide +kernel
theorem d_X8_init_1 : decode cm_X8_init 1 = .ok (.invokespecial 3, 3) := by decide +kernel
theorem d_X8_init_4 : decode cm_X8_init 4 = .ok (.aload_n 0, 1) := by decide +kernel
theorem d_X8_init_5 : decode cm_X8_init 5 = .ok (.new 9, 3) := by decide +kernel
theorem d_X8_init_8 : decode cm_X8_init 8 = .ok (.dup, 1) := by decide +kernel
theorem d_X8_init_9 : decode cm_X8_init 9 = .ok (.invokespecial 11, 3) := by decide +kernel
theorem d_X8_init_12 : decode cm_X8_init 12 = .ok (.putfield 12, 3) := by decide +kernel
theorem d_X8_init_15 : decode cm_X8_init 15 = .ok (.aload_n 0, 1) := by decide +kernel
theorem d_X8_init_16 : decode cm_X8_init 16 = .ok (.sipush 256, 3) := by decide +kernel
theorem d_X8_init_19 : decode cm_X8_init 19 = .ok (.newarray .int, 2) := by decide +kernel
theorem d_X8_init_21 : decode cm_X8_init 21 = .ok (.putfield 18, 3) := by decide +kernel
theorem d_X8_init_24 : decode cm_X8_init 24 = .ok (.aload_n 0, 1) := by decide +kernel
theorem d_X8_init_25 : decode cm_X8_init 25 = .ok (.bipush 6, 2) := by decide +kernel
theorem d_X8_init_27 : decode cm_X8_init 27 = .ok (.newarray .int, 2) := by decide +kernel
theorem d_X8_init_29 : decode cm_X8_init 29 = .ok (.putfield 22, 3) := by decide +kernel
theorem d_X8_init_32 : decode cm_X8_init 32 = .ok (.aload_n 0, 1) := by decide +kernel
theorem d_X8_init_33 : decode cm_X8_init 33 = .ok (.bipush 6, 2) := by decide +kernel
theorem d_X8_init_35 : decode cm_X8_init 35 = .ok (.newarray .int, 2) := by decide +kernel
theorem d_X8_init_37 : decode cm_X8_init 37 = .ok (.putfield 25, 3) := by decide +kernel
theorem d_X8_init_40 : decode cm_X8_init 40 = .ok (.aload_n 0, 1) := by decide +kernel
theorem d_X8_init_41 : decode cm_X8_init 41 = .ok (.aload_n 1, 1) := by decide +kernel
theorem d_X8_init_42 : decode cm_X8_init 42 = .ok (.putfield 28, 3) := by decide +kernel
theorem d_X8_init_45 : decode cm_X8_init 45 = .ok (.return_, 1) := by decide +kernel
theorem hdc_X8_init : ym_X8_init.cls ≠ "java/lang/invoke/MethodHandle" ∧ ym_X8_init.cls ≠ "java/lang/invoke/VarHandle" ∧ (parseMethodDescriptor ym_X8_init.desc).map (fun d => d.parameters.length) = some 1 := by decide +kernel
theorem d_X9_init_0 : decode cm_X9_init 0 = .ok (.aload_n 0, 1) := by decide +kernel
theorem d_X9_init_1 : decode cm_X9_init 1 = .ok (.invokespecial 3, 3) := by decide +kernel
theorem d_X9_init_4 : decode cm_X9_init 4 = .ok (.aload_n 0, 1) := by decide +kernel
theorem d_X9_init_5 : decode cm_X9_init 5 = .ok (.bipush 90, 2) := by decide +kernel
theorem d_X9_init_7 : decode cm_X9_init 7 = .ok (.newarray .int, 2) := by decide +kernel
theorem d_X9_init_9 : decode cm_X9_init 9 = .ok (.putfield 9, 3) := by decide +kernel
theorem d_X9_init_12 : decode cm_X9_init 12 = .ok (.return_, 1) := by decide +kernel
theorem hdc_X9_init : ym_X9_init.cls ≠ "java/lang/invoke/MethodHandle" ∧ ym_X9_init.cls ≠ "java/lang/invoke/VarHandle" ∧ (parseMethodDescriptor ym_X9_init.desc).map (fun d => d.parameters.length) = some 0 := by decide +kernel
theorem d_X10_init_0 : decode cm_X10_init 0 = .ok (.aload_n 0, 1) := by decide +kernel
theorem d_X10_init_1 : decode cm_X10_init 1 = .ok (.invokespecial 1, 3) := by decide +kernel
theorem d_X10_init_4 : decode cm_X10_init 4 = .ok (.aload_n 0, 1) := by decide +kernel
theorem d_X10_init_5 : decode cm_X10_init 5 = .ok (.new 7, 3) := by decide +kernel
theorem d_X10_init_8 : decode cm_X10_init 8 = .ok (.dup, 1) := by decide +kernel
theorem d_X10_init_9 : decode cm_X10_init 9 = .ok (.invokespecial 9, 3) := by decide +kernel
theorem d_X10_init_12 : decode cm_X10_init 12 = .ok (.putfield 10, 3) := by decide +kernel
theorem d_X10_init_15 : decode cm_X10_init 15 = .ok (.aload_n 0, 1) := by decide +kernel
theorem d_X10_init_16 : decode cm_X10_init 16 = .ok (.new 7, 3) := by decide +kernel
theorem d_X10_init_19 : decode cm_X10_init 19 = .ok (.dup, 1) := by decide +kernel
theorem d_X10_init_20 : decode cm_X10_init 20 = .ok (.invokespecial 9, 3) := by decide +kernel
theorem d_X10_init_23 : decode cm_X10_init 23 = .ok (.putfield 16, 3) := by decide +kernel
theorem d_X10_init_26 : decode cm_X10_init 26 = .ok (.aload_n 0, 1) := by decide +kernel
theorem d_X10_init_27 : decode cm_X10_init 27 = .ok (.new 19, 3) := by decide +kernel
theorem d_X10_init_30 : decode cm_X10_init 30 = .ok (.dup, 1) := by decide +kernel
theorem d_X10_init_31 : decode cm_X10_init 31 = .ok (.invokespecial 21, 3) := by decide +kernel
theorem d_X10_init_34 : decode cm_X10_init 34 = .ok (.putfield 22, 3) := by decide +kernel
theorem d_X10_init_37 : decode cm_X10_init 37 = .ok (.aload_n 0, 1) := by decide +kernel
theorem d_X10_init_38 : decode cm_X10_init 38 = .ok (.bipush 8, 2) := by decide +kernel
theorem d_X10_init_40 : decode cm_X10_init 40 = .ok (.anewarray 26, 3) := by decide +kernel
theorem d_X10_init_43 : decode cm_X10_init 43 = .ok (.putfield 28, 3) := by decide +kernel
theorem d_X10_init_46 : decode cm_X10_init 46 = .ok (.aload_n 0, 1) := by decide +kernel
theorem d_X10_init_47 : decode cm_X10_init 47 = .ok (.new 26, 3) := by decide +kernel
theorem d_X10_init_50 : decode cm_X10_init 50 = .ok (.dup, 1) := by decide +kernel
theorem d_X10_init_51 : decode cm_X10_init 51 = .ok (.invokespecial 32, 3) := by decide +kernel
theorem d_X10_init_54 : decode cm_X10_init 54 = .ok (.putfield 33, 3) := by decide +kernel
theorem d_X10_init_57 : decode cm_X10_init 57 = .ok (.aload_n 0, 1) := by decide +kernel
theorem d_X10_init_58 : decode cm_X10_init 58 = .ok (.new 37, 3) := by decide +kernel
theorem d_X10_init_61 : decode cm_X10_init 61 = .ok (.dup, 1) := by decide +kernel
theorem d_X10_init_62 : decode cm_X10_init 62 = .ok (.invokespecial 39, 3) := by decide +kernel
theorem d_X10_init_65 : decode cm_X10_init 65 = .ok (.putfield 40, 3) := by decide +kernel
theorem d_X10_init_68 : decode cm_X10_init 68 = .ok (.aload_n 0, 1) := by decide +kernel
theorem d_X10_init_69 : decode cm_X10_init 69 = .ok (.new 44, 3) := by decide +kernel
theorem d_X10_init_72 : decode cm_X10_init 72 = .ok (.dup, 1) := by decide +kernel
theorem d_X10_init_73 : decode cm_X10_init 73 = .ok (.aload_n 0, 1) := by decide +kernel
theorem d_X10_init_74 : decode cm_X10_init 74 = .ok (.getfield 40, 3) := by decide +kernel
theorem d_X10_init_77 : decode cm_X10_init 77 = .ok (.invokespecial 46, 3) := by decide +kernel
theorem d_X10_init_80 : decode cm_X10_init 80 = .ok (.putfield 49, 3) := by decide +kernel
theorem d_X10_init_83 : decode cm_X10_init 83 = .ok (.aload_n 0, 1) := by decide +kernel
theorem d_X10_init_84 : decode cm_X10_init 84 = .ok (.new 44, 3) := by decide +kernel
theorem d_X10_init_87 : decode cm_X10_init 87 = .ok (.dup, 1) := by decide +kernel
theorem d_X10_init_88 : decode cm_X10_init 88 = .ok (.aload_n 0, 1) := by decide +kernel
theorem d_X10_init_89 : decode cm_X10_init 89 = .ok (.getfield 40, 3) := by decide +kernel
theorem d_X10_init_92 : decode cm_X10_init 92 = .ok (.invokespecial 46, 3) := by decide +kernel
theorem d_X10_init_95 : decode cm_X10_init 95 = .ok (.putfield 53, 3) := by decide +kernel
theorem d_X10_init_98 : decode cm_X10_init 98 = .ok (.aload_n 0, 1) := by decide +kernel
theorem d_X10_init_99 : decode cm_X10_init 99 = .ok (.new 56, 3) := by decide +kernel
theorem d_X10_init_102 : decode cm_X10_init 102 = .ok (.dup, 1) := by decide +kernel
theorem d_X10_init_103 : decode cm_X10_init 103 = .ok (.aload_n 0, 1) := by decide +kernel
theorem d_X10_init_104 : decode cm_X10_init 104 = .ok (.getfield 40, 3) := by decide +kernel
theorem d_X10_init_107 : decode cm_X10_init 107 = .ok (.invokespecial 58, 3) := by decide +kernel
theorem d_X10_init_110 : decode cm_X10_init 110 = .ok (.putfield 59, 3) := by decide +kernel
theorem d_X10_init_113 : decode cm_X10_init 113 = .ok (.aload_n 0, 1) := by decide +kernel
theorem d_X10_init_114 : decode cm_X10_init 114 = .ok (.new 63, 3) := by decide +kernel
theorem d_X10_init_117 : decode cm_X10_init 117 = .ok (.dup, 1) := by decide +kernel
theorem d_X10_init_118 : decode cm_X10_init 118 = .ok (.invokespecial 65, 3) := by decide +kernel
theorem d_X10_init_121 : decode cm_X10_init 121 = .ok (.putfield 66, 3) := by decide +kernel
theorem d_X10_init_124 : decode cm_X10_init 124 = .ok (.aload_n 0, 1) := by decide +kernel
theorem d_X10_init_125 : decode cm_X10_init 125 = .ok (.bipush 17, 2) := by decide +kernel
theorem d_X10_init_127 : decode cm_X10_init 127 = .ok (.newarray .int, 2) := by decide +kernel
theorem d_X10_init_129 : decode cm_X10_init 129 = .ok (.putfield 70, 3) := by decide +kernel
theorem d_X10_init_132 : decode cm_X10_init 132 = .ok (.aload_n 0, 1) := by decide +kernel
theorem d_X10_init_133 : decode cm_X10_init 133 = .ok (.bipush 17, 2) := by decide +kernel
theorem d_X10_init_135 : decode cm_X10_init 135 = .ok (.newarray .int, 2) := by decide +kernel
theorem d_X10_init_137 : decode cm_X10_init 137 = .ok (.putfield 74, 3) := by decide +kernel
theorem d_X10_init_140 : decode cm_X10_init 140 = .ok (.aload_n 0, 1) := by decide +kernel
theorem d_X10_init_141 : decode cm_X10_init 141 = .ok (.bipush 7, 2) := by decide +kernel
theorem d_X10_init_143 : decode cm_X10_init 143 = .ok (.newarray .int, 2) := by decide +kernel
theorem d_X10_init_145 : decode cm_X10_init 145 = .ok (.putfield 77, 3) := by decide +kernel
theorem d_X10_init_148 : decode cm_X10_init 148 = .ok (.iconst 0, 1) := by decide +kernel
theorem d_X10_init_149 : decode cm_X10_init 149 = .ok (.istore_n 1, 1) := by decide +kernel
theorem d_X10_init_150 : decode cm_X10_init 150 = .ok (.iload_n 1, 1) := by decide +kernel
theorem d_X10_init_151 : decode cm_X10_init 151 = .ok (.bipush 8, 2) := by decide +kernel
theorem d_X10_init_153 : decode cm_X10_init 153 = .ok (.if_icmp .ge 22, 3) := by decide +kernel
theorem d_X10_init_156 : decode cm_X10_init 156 = .ok (.aload_n 0, 1) := by decide +kernel
theorem d_X10_init_157 : decode cm_X10_init 157 = .ok (.getfield 28, 3) := by decide +kernel
theorem d_X10_init_160 : decode cm_X10_init 160 = .ok (.iload_n 1, 1) := by decide +kernel
theorem d_X10_init_161 : decode cm_X10_init 161 = .ok (.new 26, 3) := by decide +kernel
theorem d_X10_init_164 : decode cm_X10_init 164 = .ok (.dup, 1) := by decide +kernel
theorem d_X10_init_165 : decode cm_X10_init 165 = .ok (.invokespecial 32, 3) := by decide +kernel
theorem d_X10_init_168 : decode cm_X10_init 168 = .ok (.aastore, 1) := by decide +kernel
theorem d_X10_init_169 : decode cm_X10_init 169 = .ok (.iinc 1 1, 3) := by decide +kernel
theorem d_X10_init_172 : decode cm_X10_init 172 = .ok (.goto (-22), 3) := by decide +kernel
theorem d_X10_init_175 : decode cm_X10_init 175 = .ok (.iconst 0, 1) := by decide +kernel
theorem d_X10_init_176 : decode cm_X10_init 176 = .ok (.istore_n 1, 1) := by decide +kernel
theorem d_X10_init_177 : decode cm_X10_init 177 = .ok (.iload_n 1, 1) := by decide +kernel
theorem d_X10_init_178 : decode cm_X10_init 178 = .ok (.bipush 16, 2) := by decide +kernel
theorem d_X10_init_180 : decode cm_X10_init 180 = .ok (.if_icmp .gt 17, 3) := by decide +kernel
theorem d_X10_init_183 : decode cm_X10_init 183 = .ok (.aload_n 0, 1) := by decide +kernel
theorem d_X10_init_184 : decode cm_X10_init 184 = .ok (.getfield 70, 3) := by decide +kernel
theorem d_X10_init_187 : decode cm_X10_init 187 = .ok (.iload_n 1, 1) := by decide +kernel
theorem d_X10_init_188 : decode cm_X10_init 188 = .ok (.bipush (-9), 2) := by decide +kernel
theorem d_X10_init_190 : decode cm_X10_init 190 = .ok (.iastore, 1) := by decide +kernel
theorem d_X10_init_191 : decode cm_X10_init 191 = .ok (.iinc 1 1, 3) := by decide +kernel
theorem d_X10_init_194 : decode cm_X10_init 194 = .ok (.goto (-17), 3) := by decide +kernel
theorem d_X10_init_197 : decode cm_X10_init 197 = .ok (.return_, 1) := by decide +kernel
theorem hdc_X10_init : ym_X10_init.cls ≠ "java/lang/invoke/MethodHandle" ∧ ym_X10_init.cls ≠ "java/lang/invoke/VarHandle" ∧ (parseMethodDescriptor ym_X10_init.desc).map (fun d => d.parameters.length) = some 0 := by decide +kernel
theorem d_X11_init_0 : decode cm_X11_init 0 = .ok (.aload_n 0, 1) := by decide +kernel
theorem d_X11_init_1 : decode cm_X11_init 1 = .ok (.invokespecial 1, 3) := by decide +kernel
theorem d_X11_init_4 : decode cm_X11_init 4 = .ok (.aload_n 0, 1) := by decide +kernel
theorem d_X11_init_5 : decode cm_X11_init 5 = .ok (.bipush 7, 2) := by decide +kernel
theorem d_X11_init_7 : decode cm_X11_init 7 = .ok (.newarray .int, 2) := by decide +kernel
theorem d_X11_init_9 : decode cm_X11_init 9 = .ok (.putfield 7, 3) := by decide +kernel
theorem d_X11_init_12 : decode cm_X11_init 12 = .ok (.aload_n 0, 1) := by decide +kernel
theorem d_X11_init_13 : decode cm_X11_init 13 = .ok (.bipush 90, 2) := by decide +kernel
theorem d_X11_init_15 : decode cm_X11_init 15 = .ok (.newarray .int, 2) := by decide +kernel
theorem d_X11_init_17 : decode cm_X11_init 17 = .ok (.putfield 13, 3) := by decide +kernel
theorem d_X11_init_20 : decode cm_X11_init 20 = .ok (.aload_n 0, 1) := by decide +kernel
theorem d_X11_init_21 : decode cm_X11_init 21 = .ok (.sipush 810, 3) := by decide +kernel
theorem d_X11_init_24 : decode cm_X11_init 24 = .ok (.newarray .int, 2) := by decide +kernel
theorem d_X11_init_26 : decode cm_X11_init 26 = .ok (.putfield 16, 3) := by decide +kernel
theorem d_X11_init_29 : decode cm_X11_init 29 = .ok (.aload_n 0, 1) := by decide +kernel
theorem d_X11_init_30 : decode cm_X11_init 30 = .ok (.bipush 9, 2) := by decide +kernel
theorem d_X11_init_32 : decode cm_X11_init 32 = .ok (.newarray .int, 2) := by decide +kernel
theorem d_X11_init_34 : decode cm_X11_init 34 = .ok (.putfield 19, 3) := by decide +kernel
theorem d_X11_init_37 : decode cm_X11_init 37 = .ok (.aload_n 0, 1) := by decide +kernel
theorem d_X11_init_38 : decode cm_X11_init 38 = .ok (.bipush 9, 2) := by decide +kernel
theorem d_X11_init_40 : decode cm_X11_init 40 = .ok (.newarray .int, 2) := by decide +kernel
theorem d_X11_init_42 : decode cm_X11_init 42 = .ok (.putfield 22, 3) := by decide +kernel
theorem d_X11_init_45 : decode cm_X11_init 45 = .ok (.aload_n 0, 1) := by decide +kernel
theorem d_X11_init_46 : decode cm_X11_init 46 = .ok (.bipush 9, 2) := by decide +kernel
theorem d_X11_init_48 : decode cm_X11_init 48 = .ok (.newarray .int, 2) := by decide +kernel
theorem d_X11_init_50 : decode cm_X11_init 50 = .ok (.putfield 25, 3) := by decide +kernel
theorem d_X11_init_53 : decode cm_X11_init 53 = .ok (.aload_n 0, 1) := by decide +kernel
theorem d_X11_init_54 : decode cm_X11_init 54 = .ok (.sipush 144, 3) := by decide +kernel
theorem d_X11_init_57 : decode cm_X11_init 57 = .ok (.newarray .int, 2) := by decide +kernel
theorem d_X11_init_59 : decode cm_X11_init 59 = .ok (.putfield 28, 3) := by decide +kernel
theorem d_X11_init_62 : decode cm_X11_init 62 = .ok (.aload_n 0, 1) := by decide +kernel
theorem d_X11_init_63 : decode cm_X11_init 63 = .ok (.bipush 54, 2) := by decide +kernel
theorem d_X11_init_65 : decode cm_X11_init 65 = .ok (.newarray .int, 2) := by decide +kernel
theorem d_X11_init_67 : decode cm_X11_init 67 = .ok (.putfield 31, 3) := by decide +kernel
theorem d_X11_init_70 : decode cm_X11_init 70 = .ok (.aload_n 0, 1) := by decide +kernel
theorem d_X11_init_71 : decode cm_X11_init 71 = .ok (.bipush 54, 2) := by decide +kernel
theorem d_X11_init_73 : decode cm_X11_init 73 = .ok (.newarray .int, 2) := by decide +kernel
theorem d_X11_init_75 : decode cm_X11_init 75 = .ok (.putfield 34, 3) := by decide +kernel
theorem d_X11_init_78 : decode cm_X11_init 78 = .ok (.aload_n 0, 1) := by decide +kernel
theorem d_X11_init_79 : decode cm_X11_init 79 = .ok (.bipush 54, 2) := by decide +kernel
theorem d_X11_init_81 : decode cm_X11_init 81 = .ok (.newarray .int, 2) := by decide +kernel
theorem d_X11_init_83 : decode cm_X11_init 83 = .ok (.putfield 37, 3) := by decide +kernel
theorem d_X11_init_86 : decode cm_X11_init 86 = .ok (.aload_n 0, 1) := by decide +kernel
theorem d_X11_init_87 : decode cm_X11_init 87 = .ok (.bipush 9, 2) := by decide +kernel
theorem d_X11_init_89 : decode cm_X11_init 89 = .ok (.newarray .int, 2) := by decide +kernel
theorem d_X11_init_91 : decode cm_X11_init 91 = .ok (.putfield 40, 3) := by decide +kernel
theorem d_X11_init_94 : decode cm_X11_init 94 = .ok (.aload_n 0, 1) := by decide +kernel
theorem d_X11_init_95 : decode cm_X11_init 95 = .ok (.bipush 54, 2) := by decide +kernel
theorem d_X11_init_97 : decode cm_X11_init 97 = .ok (.newarray .int, 2) := by decide +kernel
theorem d_X11_init_99 : decode cm_X11_init 99 = .ok (.putfield 43, 3) := by decide +kernel
theorem d_X11_init_102 : decode cm_X11_init 102 = .ok (.aload_n 0, 1) := by decide +kernel
theorem d_X11_init_103 : decode cm_X11_init 103 = .ok (.bipush 54, 2) := by decide +kernel
theorem d_X11_init_105 : decode cm_X11_init 105 = .ok (.newarray .int, 2) := by decide +kernel
theorem d_X11_init_107 : decode cm_X11_init 107 = .ok (.putfield 46, 3) := by decide +kernel
theorem d_X11_init_110 : decode cm_X11_init 110 = .ok (.aload_n 0, 1) := by decide +kernel
theorem d_X11_init_111 : decode cm_X11_init 111 = .ok (.bipush 54, 2) := by decide +kernel
theorem d_X11_init_113 : decode cm_X11_init 113 = .ok (.newarray .int, 2) := by decide +kernel
theorem d_X11_init_115 : decode cm_X11_init 115 = .ok (.putfield 49, 3) := by decide +kernel
theorem d_X11_init_118 : decode cm_X11_init 118 = .ok (.aload_n 0, 1) := by decide +kernel
theorem d_X11_init_119 : decode cm_X11_init 119 = .ok (.bipush 54, 2) := by decide +kernel
theorem d_X11_init_121 : decode cm_X11_init 121 = .ok (.newarray .int, 2) := by decide +kernel
theorem d_X11_init_123 : decode cm_X11_init 123 = .ok (.putfield 52, 3) := by decide +kernel
theorem d_X11_init_126 : decode cm_X11_init 126 = .ok (.aload_n 0, 1) := by decide +kernel
theorem d_X11_init_127 : decode cm_X11_init 127 = .ok (.bipush 9, 2) := by decide +kernel
theorem d_X11_init_129 : decode cm_X11_init 129 = .ok (.newarray .int, 2) := by decide +kernel
theorem d_X11_init_131 : decode cm_X11_init 131 = .ok (.putfield 55, 3) := by decide +kernel
theorem d_X11_init_134 : decode cm_X11_init 134 = .ok (.aload_n 0, 1) := by decide +kernel
theorem d_X11_init_135 : decode cm_X11_init 135 = .ok (.bipush 9, 2) := by decide +kernel
theorem d_X11_init_137 : decode cm_X11_init 137 = .ok (.newarray .int, 2) := by decide +kernel
theorem d_X11_init_139 : decode cm_X11_init 139 = .ok (.putfield 58, 3) := by decide +kernel
theorem d_X11_init_142 : decode cm_X11_init 142 = .ok (.aload_n 0, 1) := by decide +kernel
theorem d_X11_init_143 : decode cm_X11_init 143 = .ok (.bipush 9, 2) := by decide +kernel
theorem d_X11_init_145 : decode cm_X11_init 145 = .ok (.newarray .int, 2) := by decide +kernel
theorem d_X11_init_147 : decode cm_X11_init 147 = .ok (.putfield 61, 3) := by decide +kernel
theorem d_X11_init_150 : decode cm_X11_init 150 = .ok (.aload_n 0, 1) := by decide +kernel
theorem d_X11_init_151 : decode cm_X11_init 151 = .ok (.bipush 54, 2) := by decide +kernel
theorem d_X11_init_153 : decode cm_X11_init 153 = .ok (.newarray .boolean, 2) := by decide +kernel
theorem d_X11_init_155 : decode cm_X11_init 155 = .ok (.putfield 64, 3) := by decide +kernel
theorem d_X11_init_158 : decode cm_X11_init 158 = .ok (.aload_n 0, 1) := by decide +kernel
theorem d_X11_init_159 : decode cm_X11_init 159 = .ok (.sipush 144, 3) := by decide +kernel
theorem d_X11_init_162 : decode cm_X11_init 162 = .ok (.newarray .int, 2) := by decide +kernel
theorem d_X11_init_164 : decode cm_X11_init 164 = .ok (.putfield 68, 3) := by decide +kernel
theorem d_X11_init_167 : decode cm_X11_init 167 = .ok (.aload_n 0, 1) := by decide +kernel
theorem d_X11_init_168 : decode cm_X11_init 168 = .ok (.bipush 9, 2) := by decide +kernel
theorem d_X11_init_170 : decode cm_X11_init 170 = .ok (.newarray .int, 2) := by decide +kernel
theorem d_X11_init_172 : decode cm_X11_init 172 = .ok (.putfield 71, 3) := by decide +kernel
theorem d_X11_init_175 : decode cm_X11_init 175 = .ok (.aload_n 0, 1) := by decide +kernel
theorem d_X11_init_176 : decode cm_X11_init 176 = .ok (.bipush 9, 2) := by decide +kernel
theorem d_X11_init_178 : decode cm_X11_init 178 = .ok (.newarray .int, 2) := by decide +kernel
theorem d_X11_init_180 : decode cm_X11_init 180 = .ok (.putfield 74, 3) := by decide +kernel
theorem d_X11_init_183 : decode cm_X11_init 183 = .ok (.aload_n 0, 1) := by decide +kernel
theorem d_X11_init_184 : decode cm_X11_init 184 = .ok (.bipush 9, 2) := by decide +kernel
theorem d_X11_init_186 : decode cm_X11_init 186 = .ok (.newarray .int, 2) := by decide +kernel
theorem d_X11_init_188 : decode cm_X11_init 188 = .ok (.putfield 77, 3) := by decide +kernel
theorem d_X11_init_191 : decode cm_X11_init 191 = .ok (.aload_n 0, 1) := by decide +kernel
theorem d_X11_init_192 : decode cm_X11_init 192 = .ok (.bipush 9, 2) := by decide +kernel
theorem d_X11_init_194 : decode cm_X11_init 194 = .ok (.newarray .int, 2) := by decide +kernel
theorem d_X11_init_196 : decode cm_X11_init 196 = .ok (.putfield 80, 3) := by decide +kernel
theorem d_X11_init_199 : decode cm_X11_init 199 = .ok (.aload_n 0, 1) := by decide +kernel
theorem d_X11_init_200 : decode cm_X11_init 200 = .ok (.bipush 9, 2) := by decide +kernel
theorem d_X11_init_202 : decode cm_X11_init 202 = .ok (.newarray .int, 2) := by decide +kernel
theorem d_X11_init_204 : decode cm_X11_init 204 = .ok (.putfield 83, 3) := by decide +kernel
theorem d_X11_init_207 : decode cm_X11_init 207 = .ok (.aload_n 0, 1) := by decide +kernel
theorem d_X11_init_208 : decode cm_X11_init 208 = .ok (.sipush 7200, 3) := by decide +kernel
theorem d_X11_init_211 : decode cm_X11_init 211 = .ok (.newarray .int, 2) := by decide +kernel
theorem d_X11_init_213 : decode cm_X11_init 213 = .ok (.putfield 86, 3) := by decide +kernel
theorem d_X11_init_216 : decode cm_X11_init 216 = .ok (.aload_n 0, 1) := by decide +kernel
theorem d_X11_init_217 : decode cm_X11_init 217 = .ok (.sipush 7200, 3) := by decide +kernel
theorem d_X11_init_220 : decode cm_X11_init 220 = .ok (.newarray .int, 2) := by decide +kernel
theorem d_X11_init_222 : decode cm_X11_init 222 = .ok (.putfield 89, 3) := by decide +kernel
theorem d_X11_init_225 : decode cm_X11_init 225 = .ok (.aload_n 0, 1) := by decide +kernel
theorem d_X11_init_226 : decode cm_X11_init 226 = .ok (.sipush 7200, 3) := by decide +kernel
theorem d_X11_init_229 : decode cm_X11_init 229 = .ok (.newarray .int, 2) := by decide +kernel
theorem d_X11_init_231 : decode cm_X11_init 231 = .ok (.putfield 92, 3) := by decide +kernel
theorem d_X11_init_234 : decode cm_X11_init 234 = .ok (.aload_n 0, 1) := by decide +kernel
theorem d_X11_init_235 : decode cm_X11_init 235 = .ok (.bipush 9, 2) := by decide +kernel
theorem d_X11_init_237 : decode cm_X11_init 237 = .ok (.newarray .int, 2) := by decide +kernel
theorem d_X11_init_239 : decode cm_X11_init 239 = .ok (.putfield 95, 3) := by decide +kernel
theorem d_X11_init_242 : decode cm_X11_init 242 = .ok (.aload_n 0, 1) := by decide +kernel
theorem d_X11_init_243 : decode cm_X11_init 243 = .ok (.bipush 8, 2) := by decide +kernel
theorem d_X11_init_245 : decode cm_X11_init 245 = .ok (.newarray .int, 2) := by decide +kernel
theorem d_X11_init_247 : decode cm_X11_init 247 = .ok (.dup, 1) := by decide +kernel
theorem d_X11_init_248 : decode cm_X11_init 248 = .ok (.iconst 0, 1) := by decide +kernel
theorem d_X11_init_249 : decode cm_X11_init 249 = .ok (.iconst 0, 1) := by decide +kernel
theorem d_X11_init_250 : decode cm_X11_init 250 = .ok (.iastore, 1) := by decide +kernel
theorem d_X11_init_251 : decode cm_X11_init 251 = .ok (.dup, 1) := by decide +kernel
theorem d_X11_init_252 : decode cm_X11_init 252 = .ok (.iconst 1, 1) := by decide +kernel
theorem d_X11_init_253 : decode cm_X11_init 253 = .ok (.iconst 1, 1) := by decide +kernel
theorem d_X11_init_254 : decode cm_X11_init 254 = .ok (.iastore, 1) := by decide +kernel
theorem d_X11_init_255 : decode cm_X11_init 255 = .ok (.dup, 1) := by decide +kernel
theorem d_X11_init_256 : decode cm_X11_init 256 = .ok (.iconst 2, 1) := by decide +kernel
theorem d_X11_init_257 : decode cm_X11_init 257 = .ok (.iconst 0, 1) := by decide +kernel
theorem d_X11_init_258 : decode cm_X11_init 258 = .ok (.iastore, 1) := by decide +kernel
theorem d_X11_init_259 : decode cm_X11_init 259 = .ok (.dup, 1) := by decide +kernel
theorem d_X11_init_260 : decode cm_X11_init 260 = .ok (.iconst 3, 1) := by decide +kernel
theorem d_X11_init_261 : decode cm_X11_init 261 = .ok (.iconst (-1), 1) := by decide +kernel
theorem d_X11_init_262 : decode cm_X11_init 262 = .ok (.iastore, 1) := by decide +kernel
theorem d_X11_init_263 : decode cm_X11_init 263 = .ok (.dup, 1) := by decide +kernel
theorem d_X11_init_264 : decode cm_X11_init 264 = .ok (.iconst 4, 1) := by decide +kernel
theorem d_X11_init_265 : decode cm_X11_init 265 = .ok (.iconst 1, 1) := by decide +kernel
theorem d_X11_init_266 : decode cm_X11_init 266 = .ok (.iastore, 1) := by decide +kernel
theorem d_X11_init_267 : decode cm_X11_init 267 = .ok (.dup, 1) := by decide +kernel
theorem d_X11_init_268 : decode cm_X11_init 268 = .ok (.iconst 5, 1) := by decide +kernel
theorem d_X11_init_269 : decode cm_X11_init 269 = .ok (.iconst 1, 1) := by decide +kernel
theorem d_X11_init_270 : decode cm_X11_init 270 = .ok (.iastore, 1) := by decide +kernel
theorem d_X11_init_271 : decode cm_X11_init 271 = .ok (.dup, 1) := by decide +kernel
theorem d_X11_init_272 : decode cm_X11_init 272 = .ok (.bipush 6, 2) := by decide +kernel
theorem d_X11_init_274 : decode cm_X11_init 274 = .ok (.iconst (-1), 1) := by decide +kernel
theorem d_X11_init_275 : decode cm_X11_init 275 = .ok (.iastore, 1) := by decide +kernel
theorem d_X11_init_276 : decode cm_X11_init 276 = .ok (.dup, 1) := by decide +kernel
theorem d_X11_init_277 : decode cm_X11_init 277 = .ok (.bipush 7, 2) := by decide +kernel
theorem d_X11_init_279 : decode cm_X11_init 279 = .ok (.iconst (-1), 1) := by decide +kernel
theorem d_X11_init_280 : decode cm_X11_init 280 = .ok (.iastore, 1) := by decide +kernel
theorem d_X11_init_281 : decode cm_X11_init 281 = .ok (.putfield 98, 3) := by decide +kernel
theorem d_X11_init_284 : decode cm_X11_init 284 = .ok (.aload_n 0, 1) := by decide +kernel
theorem d_X11_init_285 : decode cm_X11_init 285 = .ok (.bipush 8, 2) := by decide +kernel
theorem d_X11_init_287 : decode cm_X11_init 287 = .ok (.newarray .int, 2) := by decide +kernel
theorem d_X11_init_289 : decode cm_X11_init 289 = .ok (.dup, 1) := by decide +kernel
theorem d_X11_init_290 : decode cm_X11_init 290 = .ok (.iconst 0, 1) := by decide +kernel
theorem d_X11_init_291 : decode cm_X11_init 291 = .ok (.iconst (-1), 1) := by decide +kernel
theorem d_X11_init_292 : decode cm_X11_init 292 = .ok (.iastore, 1) := by decide +kernel
theorem d_X11_init_293 : decode cm_X11_init 293 = .ok (.dup, 1) := by decide +kernel
theorem d_X11_init_294 : decode cm_X11_init 294 = .ok (.iconst 1, 1) := by decide +kernel
theorem d_X11_init_295 : decode cm_X11_init 295 = .ok (.iconst 0, 1) := by decide +kernel
theorem d_X11_init_296 : decode cm_X11_init 296 = .ok (.iastore, 1) := by decide +kernel
theorem d_X11_init_297 : decode cm_X11_init 297 = .ok (.dup, 1) := by decide +kernel
theorem d_X11_init_298 : decode cm_X11_init 298 = .ok (.iconst 2, 1) := by decide +kernel
theorem d_X11_init_299 : decode cm_X11_init 299 = .ok (.iconst 1, 1) := by decide +kernel
theorem d_X11_init_300 : decode cm_X11_init 300 = .ok (.iastore, 1) := by decide +kernel
theorem d_X11_init_301 : decode cm_X11_init 301 = .ok (.dup, 1) := by decide +kernel
theorem d_X11_init_302 : decode cm_X11_init 302 = .ok (.iconst 3, 1) := by decide +kernel
theorem d_X11_init_303 : decode cm_X11_init 303 = .ok (.iconst 0, 1) := by decide +kernel
theorem d_X11_init_304 : decode cm_X11_init 304 = .ok (.iastore, 1) := by decide +kernel
theorem d_X11_init_305 : decode cm_X11_init 305 = .ok (.dup, 1) := by decide +kernel
theorem d_X11_init_306 : decode cm_X11_init 306 = .ok (.iconst 4, 1) := by decide +kernel
theorem d_X11_init_307 : decode cm_X11_init 307 = .ok (.iconst (-1), 1) := by decide +kernel
theorem d_X11_init_308 : decode cm_X11_init 308 = .ok (.iastore, 1) := by decide +kernel
theorem d_X11_init_309 : decode cm_X11_init 309 = .ok (.dup, 1) := by decide +kernel
theorem d_X11_init_310 : decode cm_X11_init 310 = .ok (.iconst 5, 1) := by decide +kernel
theorem d_X11_init_311 : decode cm_X11_init 311 = .ok (.iconst 1, 1) := by decide +kernel
theorem d_X11_init_312 : decode cm_X11_init 312 = .ok (.iastore, 1) := by decide +kernel
theorem d_X11_init_313 : decode cm_X11_init 313 = .ok (.dup, 1) := by decide +kernel
theorem d_X11_init_314 : decode cm_X11_init 314 = .ok (.bipush 6, 2) := by decide +kernel
theorem d_X11_init_316 : decode cm_X11_init 316 = .ok (.iconst 1, 1) := by decide +kernel
theorem d_X11_init_317 : decode cm_X11_init 317 = .ok (.iastore, 1) := by decide +kernel
theorem d_X11_init_318 : decode cm_X11_init 318 = .ok (.dup, 1) := by decide +kernel
theorem d_X11_init_319 : decode cm_X11_init 319 = .ok (.bipush 7, 2) := by decide +kernel
theorem d_X11_init_321 : decode cm_X11_init 321 = .ok (.iconst (-1), 1) := by decide +kernel
theorem d_X11_init_322 : decode cm_X11_init 322 = .ok (.iastore, 1) := by decide +kernel
theorem d_X11_init_323 : decode cm_X11_init 323 = .ok (.putfield 101, 3) := by decide +kernel
theorem d_X11_init_326 : decode cm_X11_init 326 = .ok (.aload_n 0, 1) := by decide +kernel
theorem d_X11_init_327 : decode cm_X11_init 327 = .ok (.bipush 16, 2) := by decide +kernel
theorem d_X11_init_329 : decode cm_X11_init 329 = .ok (.newarray .boolean, 2) := by decide +kernel
theorem d_X11_init_331 : decode cm_X11_init 331 = .ok (.putfield 104, 3) := by decide +kernel
theorem d_X11_init_334 : decode cm_X11_init 334 = .ok (.aload_n 0, 1) := by decide +kernel
theorem d_X11_init_335 : decode cm_X11_init 335 = .ok (.bipush 9, 2) := by decide +kernel
theorem d_X11_init_337 : decode cm_X11_init 337 = .ok (.newarray .int, 2) := by decide +kernel
theorem d_X11_init_339 : decode cm_X11_init 339 = .ok (.putfield 107, 3) := by decide +kernel
theorem d_X11_init_342 : decode cm_X11_init 342 = .ok (.aload_n 0, 1) := by decide +kernel
theorem d_X11_init_343 : decode cm_X11_init 343 = .ok (.bipush 9, 2) := by decide +kernel
theorem d_X11_init_345 : decode cm_X11_init 345 = .ok (.newarray .int, 2) := by decide +kernel
theorem d_X11_init_347 : decode cm_X11_init 347 = .ok (.putfield 110, 3) := by decide +kernel
theorem d_X11_init_350 : decode cm_X11_init 350 = .ok (.aload_n 0, 1) := by decide +kernel
theorem d_X11_init_351 : decode cm_X11_init 351 = .ok (.bipush 8, 2) := by decide +kernel
theorem d_X11_init_353 : decode cm_X11_init 353 = .ok (.newarray .int, 2) := by decide +kernel
theorem d_X11_init_355 : decode cm_X11_init 355 = .ok (.putfield 113, 3) := by decide +kernel
theorem d_X11_init_358 : decode cm_X11_init 358 = .ok (.aload_n 0, 1) := by decide +kernel
theorem d_X11_init_359 : decode cm_X11_init 359 = .ok (.bipush 60, 2) := by decide +kernel
theorem d_X11_init_361 : decode cm_X11_init 361 = .ok (.newarray .int, 2) := by decide +kernel
theorem d_X11_init_363 : decode cm_X11_init 363 = .ok (.putfield 116, 3) := by decide +kernel
theorem d_X11_init_366 : decode cm_X11_init 366 = .ok (.aload_n 0, 1) := by decide +kernel
theorem d_X11_init_367 : decode cm_X11_init 367 = .ok (.iconst (-1), 1) := by decide +kernel
theorem d_X11_init_368 : decode cm_X11_init 368 = .ok (.putfield 119, 3) := by decide +kernel
theorem d_X11_init_371 : decode cm_X11_init 371 = .ok (.aload_n 0, 1) := by decide +kernel
theorem d_X11_init_372 : decode cm_X11_init 372 = .ok (.bipush 6, 2) := by decide +kernel
theorem d_X11_init_374 : decode cm_X11_init 374 = .ok (.newarray .int, 2) := by decide +kernel
theorem d_X11_init_376 : decode cm_X11_init 376 = .ok (.putfield 123, 3) := by decide +kernel
theorem d_X11_init_379 : decode cm_X11_init 379 = .ok (.aload_n 0, 1) := by decide +kernel
theorem d_X11_init_380 : decode cm_X11_init 380 = .ok (.bipush 6, 2) := by decide +kernel
theorem d_X11_init_382 : decode cm_X11_init 382 = .ok (.newarray .int, 2) := by decide +kernel
theorem d_X11_init_384 : decode cm_X11_init 384 = .ok (.putfield 126, 3) := by decide +kernel
theorem d_X11_init_387 : decode cm_X11_init 387 = .ok (.aload_n 0, 1) := by decide +kernel
theorem d_X11_init_388 : decode cm_X11_init 388 = .ok (.bipush 8, 2) := by decide +kernel
theorem d_X11_init_390 : decode cm_X11_init 390 = .ok (.newarray .int, 2) := by decide +kernel
theorem d_X11_init_392 : decode cm_X11_init 392 = .ok (.putfield 129, 3) := by decide +kernel
theorem d_X11_init_395 : decode cm_X11_init 395 = .ok (.aload_n 0, 1) := by decide +kernel
theorem d_X11_init_396 : decode cm_X11_init 396 = .ok (.bipush 17, 2) := by decide +kernel
theorem d_X11_init_398 : decode cm_X11_init 398 = .ok (.newarray .int, 2) := by decide +kernel
theorem d_X11_init_400 : decode cm_X11_init 400 = .ok (.putfield 132, 3) := by decide +kernel
theorem d_X11_init_403 : decode cm_X11_init 403 = .ok (.aload_n 0, 1) := by decide +kernel
theorem d_X11_init_404 : decode cm_X11_init 404 = .ok (.bipush 17, 2) := by decide +kernel
theorem d_X11_init_406 : decode cm_X11_init 406 = .ok (.newarray .int, 2) := by decide +kernel
theorem d_X11_init_408 : decode cm_X11_init 408 = .ok (.putfield 135, 3) := by decide +kernel
theorem d_X11_init_411 : decode cm_X11_init 411 = .ok (.iconst 0, 1) := by decide +kernel
theorem d_X11_init_412 : decode cm_X11_init 412 = .ok (.istore_n 1, 1) := by decide +kernel
theorem d_X11_init_413 : decode cm_X11_init 413 = .ok (.iload_n 1, 1) := by decide +kernel
theorem d_X11_init_414 : decode cm_X11_init 414 = .ok (.bipush 17, 2) := by decide +kernel
theorem d_X11_init_416 : decode cm_X11_init 416 = .ok (.if_icmp .ge 17, 3) := by decide +kernel
theorem d_X11_init_419 : decode cm_X11_init 419 = .ok (.aload_n 0, 1) := by decide +kernel
theorem d_X11_init_420 : decode cm_X11_init 420 = .ok (.getfield 132, 3) := by decide +kernel
theorem d_X11_init_423 : decode cm_X11_init 423 = .ok (.iload_n 1, 1) := by decide +kernel
theorem d_X11_init_424 : decode cm_X11_init 424 = .ok (.bipush (-9), 2) := by decide +kernel
theorem d_X11_init_426 : decode cm_X11_init 426 = .ok (.iastore, 1) := by decide +kernel
theorem d_X11_init_427 : decode cm_X11_init 427 = .ok (.iinc 1 1, 3) := by decide +kernel
theorem d_X11_init_430 : decode cm_X11_init 430 = .ok (.goto (-17), 3) := by decide +kernel
theorem d_X11_init_433 : decode cm_X11_init 433 = .ok (.return_, 1) := by decide +kernel
theorem hdc_X11_init : ym_X11_init.cls ≠ "java/lang/invoke/MethodHandle" ∧ ym_X11_init.cls ≠ "java/lang/invoke/VarHandle" ∧ (parseMethodDescriptor ym_X11_init.desc).map (fun d => d.parameters.length) = some 0 := by decide +kernel
theorem kt_X5_init (l : Launch) (D : va_G) (cy : Nat → ClassId) (bs N : Nat) (cf : Nat → va_E) (o : Nat) (hN : 0 < N) : MC l ym_X5_init cm_X5_init 1 { frames := 1, cells := 0, slots := 0, locals := 20 } D cy bs N cf [.ref (bs + o)] N [] (fun u => ∀ i, u i = cf i) 0 0 := by
  refine met_c hN (by decide) (Nat.le_of_ble_eq_true rfl) ?_
  intro p e s m args below meth c X hr hlk hin hw ls hl
  have hl : lv_has ls 1 [(0, .ref (bs + o))] := hl
  refine lv_aload_n X.1 X.2.1 d_X5_init_0 rfl (lv_at hl 0 rfl) ?_
  refine W.objInit X.1 X.2.1 X.2.2.2.1 (X.2.2.2.2 _ tb_236) (X.2.2.2.2 _ tb_22) (X.2.2.2.2 _ tb_23) rfl (by rw [X.2.2.1]; exact hl.1) rfl d_X5_init_1 (Nat.le_of_ble_eq_true rfl) (Nat.le_of_ble_eq_true rfl) ?_
  refine W.eq (g2 := F0 m 4 ls []) rfl ?_
  exact k_vret X hr hlk hw (fun _ => rfl) d_X5_init_4
theorem kt_X6_init (l : Launch) (D : va_G) (cy : Nat → ClassId) (bs N : Nat) (cf : Nat → va_E) (o : Nat) (hN : 0 < N) : MC l ym_X6_init cm_X6_init 1 { frames := 1, cells := 0, slots := 0, locals := 20 } D cy bs N cf [.ref (bs + o)] N [] (fun u => ∀ i, u i = cf i) 0 0 := by
  refine met_c hN (by decide) (Nat.le_of_ble_eq_true rfl) ?_
  intro p e s m args below meth c X hr hlk hin hw ls hl
  have hl : lv_has ls 1 [(0, .ref (bs + o))] := hl
  refine lv_aload_n X.1 X.2.1 d_X6_init_0 rfl (lv_at hl 0 rfl) ?_
  refine W.objInit X.1 X.2.1 X.2.2.2.1 (X.2.2.2.2 _ tb_47) (X.2.2.2.2 _ tb_22) (X.2.2.2.2 _ tb_23) rfl (by rw [X.2.2.1]; exact hl.1) rfl d_X6_init_1 (Nat.le_of_ble_eq_true rfl) (Nat.le_of_ble_eq_true rfl) ?_
  refine W.eq (g2 := F0 m 4 ls []) rfl ?_
  exact k_vret X hr hlk hw (fun _ => rfl) d_X6_init_4
theorem kt_X7_init (l : Launch) (D : va_G) (cy : Nat → ClassId) (bs N : Nat) (cf : Nat → va_E) (o : Nat) (hN : 0 < N) : MC l ym_X7_init cm_X7_init 1 { frames := 1, cells := 0, slots := 0, locals := 20 } D cy bs N cf [.ref (bs + o)] N [] (fun u => ∀ i, u i = cf i) 0 0 := by
  refine met_c hN (by decide) (Nat.le_of_ble_eq_true rfl) ?_
  intro p e s m args below meth c X hr hlk hin hw ls hl
  have hl : lv_has ls 1 [(0, .ref (bs + o))] := hl
  refine lv_aload_n X.1 X.2.1 d_X7_init_0 rfl (lv_at hl 0 rfl) ?_
  refine W.objInit X.1 X.2.1 X.2.2.2.1 (X.2.2.2.2 _ tb_125) (X.2.2.2.2 _ tb_22) (X.2.2.2.2 _ tb_23) rfl (by rw [X.2.2.1]; exact hl.1) rfl d_X7_init_1 (Nat.le_of_ble_eq_true rfl) (Nat.le_of_ble_eq_true rfl) ?_
  refine W.eq (g2 := F0 m 4 ls []) rfl ?_
  exact k_vret X hr hlk hw (fun _ => rfl) d_X7_init_4
set_option maxRecDepth 100000 in
set_option maxHeartbeats 4000000 in
theorem kc_X9_init_1 (l : Launch) (D : va_G) (cy : Nat → ClassId) (bs tD tR : Nat) (cf : Nat → va_E) (hc_1 : cf 1 = .inr (9, [.null, .int 0])) : MC l ym_X9_init cm_X9_init 1 { frames := 1, cells := 1, slots := 90, locals := 20 } D cy bs 2 cf [.ref (bs + 1)] 3 [(cy 12, .int)] (Pd D cy bs tD tR cf 1 3) 1 90 := by
  refine met_c (by decide) (by decide) (Nat.le_of_ble_eq_true rfl) ?_
  intro p e s m args below meth c X hr hlk hin hw ls hl
  have hl : lv_has ls 1 [(0, .ref (bs + 1))] := hl
  have hlow : ∀ i, i < 1 → cf i = cf i := fun _ _ => rfl
  have hdone : ∀ i, 1 < i → i < 2 → cf i = ce (GB D bs cy tD tR) (s0 i) i := fun i h1 h2 => by omega
  refine lv_aload_n X.1 X.2.1 d_X9_init_0 rfl (lv_at hl 0 rfl) ?_
  refine W.objInit X.1 X.2.1 X.2.2.2.1 (X.2.2.2.2 _ tb_29) (X.2.2.2.2 _ tb_22) (X.2.2.2.2 _ tb_23) rfl (by rw [X.2.2.1]; exact hl.1) rfl d_X9_init_1 (Nat.le_of_ble_eq_true rfl) (Nat.le_of_ble_eq_true rfl) ?_
  refine W.eq (g2 := F0 m 4 ls []) rfl ?_
  refine lv_aload_n X.1 X.2.1 d_X9_init_4 rfl (lv_at hl 0 rfl) ?_
  refine lv_bipush (v := 90) X.1 X.2.1 d_X9_init_5 (by decide) ?_
  refine k_newI (N' := 90) X hw (by decide) (by decide) (by decide) (Nat.le_of_ble_eq_true rfl) (Nat.le_of_ble_eq_true rfl) d_X9_init_7 (fun H hw => ?_)
  have hw : CW D cy bs 3 ([] ++ [(cy 12, .int)]) _ s H _ 1 := hw
  obtain ⟨cf_1, e_cf_1⟩ : ∃ z : Nat → va_E, z = va_up cf 2 (.inl (cy 12, 90, .inl (fun _ => 0))) := ⟨_, rfl⟩
  rw [← e_cf_1] at hw
  have hlow : ∀ i, i < 1 → cf_1 i = cf i := fun i h => by rw [e_cf_1]; exact (vu_ne (by omega)).trans (hlow i h)
  have hc_1 : cf_1 1 = .inr (9, [.null, .int 0]) := by rw [e_cf_1]; exact (vu_ne (by decide)).trans hc_1
  have hc_2 : cf_1 2 = .inl (cy 12, 90, .inl (fun _ => 0)) := by rw [e_cf_1]; exact vu_at
  have hdone : ∀ i, 1 < i → i < 3 → i ≠ 2 → cf_1 i = ce (GB D bs cy tD tR) (s0 i) i := fun i h1 h2 p_2 => by rw [e_cf_1]; exact (vu_ne (by omega)).trans (hdone i h1 (by omega) )
  have hdone : ∀ i, 1 < i → i < 3 → cf_1 i = ce (GB D bs cy tD tR) (s0 i) i := fun i h1 h2  => by
    by_cases p_2 : i = 2
    · subst p_2; exact hc_2.trans rfl
    · exact hdone i h1 h2 p_2
  have hw : CW D cy bs 3 [(cy 12, .int)] cf_1 s H _ 1 := k_tys [0] hw rfl
  refine W.eq (g2 := F0 m 9 ls [.ref (bs + 2), .ref (bs + 1)]) rfl ?_
  refine k_putF (ci := 9) (n := 2) (k := 0) (v := .ref (bs + 2)) (ty := .array (.int)) nty9 X hw (by decide) hc_1 ni9 nk9 nn9 rfl (by decide) tb_30 rfl rfl hin rfl (by decide +kernel) rfl rfl (Nat.le_of_ble_eq_true rfl) d_X9_init_9 (fun H locs hw => ?_)
  have hw : CW D cy bs 3 [(cy 12, .int)] (va_up cf_1 1 (.inr (9, [.ref (bs + 2), .int 0]))) s H _ 1 := hw
  obtain ⟨cf_2, e_cf_2⟩ : ∃ z : Nat → va_E, z = va_up cf_1 1 (.inr (9, [.ref (bs + 2), .int 0])) := ⟨_, rfl⟩
  rw [← e_cf_2] at hw
  have hlow : ∀ i, i < 1 → cf_2 i = cf i := fun i h => by rw [e_cf_2]; exact (vu_ne (by omega)).trans (hlow i h)
  have hc_1 : cf_2 1 = .inr (9, [.ref (bs + 2), .int 0]) := by rw [e_cf_2]; exact vu_at
  have hdone : ∀ i, 1 < i → i < 3 → cf_2 i = ce (GB D bs cy tD tR) (s0 i) i := fun i h1 h2  => by rw [e_cf_2]; exact (vu_ne (by omega)).trans (hdone i h1 h2 )
  refine k_vret X hr hlk hw ⟨hlow, fun i h1 h2 => ?_⟩ d_X9_init_12
  rcases Nat.eq_or_lt_of_le h1 with h3 | h3
  · subst h3; exact hc_1.trans rfl
  exact hdone i h3 h2 
set_option maxRecDepth 100000 in
set_option maxHeartbeats 4000000 in
theorem kc_X0_init_10 (l : Launch) (D : va_G) (cy : Nat → ClassId) (bs tD tR : Nat) (cf : Nat → va_E) (hc_10 : cf 10 = .inr (0, [.int 0, .int 0, .int 0, .null, .null, .null, .null, .int 0, .int 0, .int 0, .int 0, .int 0])) : MC l ym_X0_init cm_X0_init 1 { frames := 1, cells := 4, slots := 274, locals := 20 } D cy bs 11 cf [.ref (bs + 10)] 15 [(cy 12, .int)] (Pd D cy bs tD tR cf 10 15) 4 274 := by
  refine met_c (by decide) (by decide) (Nat.le_of_ble_eq_true rfl) ?_
  intro p e s m args below meth c X hr hlk hin hw ls hl
  have hl : lv_has ls 1 [(0, .ref (bs + 10))] := hl
  have hlow : ∀ i, i < 10 → cf i = cf i := fun _ _ => rfl
  have hdone : ∀ i, 10 < i → i < 11 → cf i = ce (GB D bs cy tD tR) (s0 i) i := fun i h1 h2 => by omega
  refine lv_aload_n X.1 X.2.1 d_X0_init_0 rfl (lv_at hl 0 rfl) ?_
  refine W.objInit X.1 X.2.1 X.2.2.2.1 (X.2.2.2.2 _ tb_72) (X.2.2.2.2 _ tb_22) (X.2.2.2.2 _ tb_23) rfl (by rw [X.2.2.1]; exact hl.1) rfl d_X0_init_1 (Nat.le_of_ble_eq_true rfl) (Nat.le_of_ble_eq_true rfl) ?_
  refine W.eq (g2 := F0 m 4 ls []) rfl ?_
  refine lv_aload_n X.1 X.2.1 d_X0_init_4 rfl (lv_at hl 0 rfl) ?_
  refine lv_sipush (v := 128) X.1 X.2.1 d_X0_init_5 (by decide) ?_
  refine k_newI (N' := 128) X hw (by decide) (by decide) (by decide) (Nat.le_of_ble_eq_true rfl) (Nat.le_of_ble_eq_true rfl) d_X0_init_8 (fun H hw => ?_)
  have hw : CW D cy bs 12 ([] ++ [(cy 12, .int)]) _ s H _ 1 := hw
  obtain ⟨cf_1, e_cf_1⟩ : ∃ z : Nat → va_E, z = va_up cf 11 (.inl (cy 12, 128, .inl (fun _ => 0))) := ⟨_, rfl⟩
  rw [← e_cf_1] at hw
  have hlow : ∀ i, i < 10 → cf_1 i = cf i := fun i h => by rw [e_cf_1]; exact (vu_ne (by omega)).trans (hlow i h)
  have hc_10 : cf_1 10 = .inr (0, [.int 0, .int 0, .int 0, .null, .null, .null, .null, .int 0, .int 0, .int 0, .int 0, .int 0]) := by rw [e_cf_1]; exact (vu_ne (by decide)).trans hc_10
  have hc_11 : cf_1 11 = .inl (cy 12, 128, .inl (fun _ => 0)) := by rw [e_cf_1]; exact vu_at
  have hdone : ∀ i, 10 < i → i < 12 → i ≠ 11 → cf_1 i = ce (GB D bs cy tD tR) (s0 i) i := fun i h1 h2 p_11 => by rw [e_cf_1]; exact (vu_ne (by omega)).trans (hdone i h1 (by omega) )
  have hdone : ∀ i, 10 < i → i < 12 → cf_1 i = ce (GB D bs cy tD tR) (s0 i) i := fun i h1 h2  => by
    by_cases p_11 : i = 11
    · subst p_11; exact hc_11.trans rfl
    · exact hdone i h1 h2 p_11
  have hw : CW D cy bs 12 [(cy 12, .int)] cf_1 s H _ 1 := k_tys [0] hw rfl
  refine W.eq (g2 := F0 m 10 ls [.ref (bs + 11), .ref (bs + 10)]) rfl ?_
  refine k_putF (ci := 0) (n := 12) (k := 3) (v := .ref (bs + 11)) (ty := .array (.int)) nty0 X hw (by decide) hc_10 ni0 nk0 nn0 rfl (by decide) tb_82 rfl rfl hin rfl (by decide +kernel) rfl rfl (Nat.le_of_ble_eq_true rfl) d_X0_init_10 (fun H locs hw => ?_)
  have hw : CW D cy bs 12 [(cy 12, .int)] (va_up cf_1 10 (.inr (0, [.int 0, .int 0, .int 0, .ref (bs + 11), .null, .null, .null, .int 0, .int 0, .int 0, .int 0, .int 0]))) s H _ 1 := hw
  obtain ⟨cf_2, e_cf_2⟩ : ∃ z : Nat → va_E, z = va_up cf_1 10 (.inr (0, [.int 0, .int 0, .int 0, .ref (bs + 11), .null, .null, .null, .int 0, .int 0, .int 0, .int 0, .int 0])) := ⟨_, rfl⟩
  rw [← e_cf_2] at hw
  have hlow : ∀ i, i < 10 → cf_2 i = cf i := fun i h => by rw [e_cf_2]; exact (vu_ne (by omega)).trans (hlow i h)
  have hc_10 : cf_2 10 = .inr (0, [.int 0, .int 0, .int 0, .ref (bs + 11), .null, .null, .null, .int 0, .int 0, .int 0, .int 0, .int 0]) := by rw [e_cf_2]; exact vu_at
  have hdone : ∀ i, 10 < i → i < 12 → cf_2 i = ce (GB D bs cy tD tR) (s0 i) i := fun i h1 h2  => by rw [e_cf_2]; exact (vu_ne (by omega)).trans (hdone i h1 h2 )
  refine lv_aload_n X.1 X.2.1 d_X0_init_13 rfl (lv_at hl 0 rfl) ?_
  refine lv_bipush (v := 64) X.1 X.2.1 d_X0_init_14 (by decide) ?_
  refine k_newI (N' := 64) X hw (by decide) (by decide) (by decide) (Nat.le_of_ble_eq_true rfl) (Nat.le_of_ble_eq_true rfl) d_X0_init_16 (fun H hw => ?_)
  have hw : CW D cy bs 13 ([(cy 12, .int)] ++ [(cy 12, .int)]) _ s H _ 2 := hw
  obtain ⟨cf_3, e_cf_3⟩ : ∃ z : Nat → va_E, z = va_up cf_2 12 (.inl (cy 12, 64, .inl (fun _ => 0))) := ⟨_, rfl⟩
  rw [← e_cf_3] at hw
  have hlow : ∀ i, i < 10 → cf_3 i = cf i := fun i h => by rw [e_cf_3]; exact (vu_ne (by omega)).trans (hlow i h)
  have hc_10 : cf_3 10 = .inr (0, [.int 0, .int 0, .int 0, .ref (bs + 11), .null, .null, .null, .int 0, .int 0, .int 0, .int 0, .int 0]) := by rw [e_cf_3]; exact (vu_ne (by decide)).trans hc_10
  have hc_12 : cf_3 12 = .inl (cy 12, 64, .inl (fun _ => 0)) := by rw [e_cf_3]; exact vu_at
  have hdone : ∀ i, 10 < i → i < 13 → i ≠ 12 → cf_3 i = ce (GB D bs cy tD tR) (s0 i) i := fun i h1 h2 p_12 => by rw [e_cf_3]; exact (vu_ne (by omega)).trans (hdone i h1 (by omega) )
  have hdone : ∀ i, 10 < i → i < 13 → cf_3 i = ce (GB D bs cy tD tR) (s0 i) i := fun i h1 h2  => by
    by_cases p_12 : i = 12
    · subst p_12; exact hc_12.trans rfl
    · exact hdone i h1 h2 p_12
  have hw : CW D cy bs 13 [(cy 12, .int)] cf_3 s H _ 2 := k_tys [0] hw rfl
  refine W.eq (g2 := F0 m 18 ls [.ref (bs + 12), .ref (bs + 10)]) rfl ?_
  refine k_putF (ci := 0) (n := 12) (k := 4) (v := .ref (bs + 12)) (ty := .array (.int)) nty0 X hw (by decide) hc_10 ni0 nk0 nn0 rfl (by decide) tb_84 rfl rfl hin rfl (by decide +kernel) rfl rfl (Nat.le_of_ble_eq_true rfl) d_X0_init_18 (fun H locs hw => ?_)
  have hw : CW D cy bs 13 [(cy 12, .int)] (va_up cf_3 10 (.inr (0, [.int 0, .int 0, .int 0, .ref (bs + 11), .ref (bs + 12), .null, .null, .int 0, .int 0, .int 0, .int 0, .int 0]))) s H _ 2 := hw
  obtain ⟨cf_4, e_cf_4⟩ : ∃ z : Nat → va_E, z = va_up cf_3 10 (.inr (0, [.int 0, .int 0, .int 0, .ref (bs + 11), .ref (bs + 12), .null, .null, .int 0, .int 0, .int 0, .int 0, .int 0])) := ⟨_, rfl⟩
  rw [← e_cf_4] at hw
  have hlow : ∀ i, i < 10 → cf_4 i = cf i := fun i h => by rw [e_cf_4]; exact (vu_ne (by omega)).trans (hlow i h)
  have hc_10 : cf_4 10 = .inr (0, [.int 0, .int 0, .int 0, .ref (bs + 11), .ref (bs + 12), .null, .null, .int 0, .int 0, .int 0, .int 0, .int 0]) := by rw [e_cf_4]; exact vu_at
  have hdone : ∀ i, 10 < i → i < 13 → cf_4 i = ce (GB D bs cy tD tR) (s0 i) i := fun i h1 h2  => by rw [e_cf_4]; exact (vu_ne (by omega)).trans (hdone i h1 h2 )
  refine lv_aload_n X.1 X.2.1 d_X0_init_21 rfl (lv_at hl 0 rfl) ?_
  refine lv_bipush (v := 76) X.1 X.2.1 d_X0_init_22 (by decide) ?_
  refine k_newI (N' := 76) X hw (by decide) (by decide) (by decide) (Nat.le_of_ble_eq_true rfl) (Nat.le_of_ble_eq_true rfl) d_X0_init_24 (fun H hw => ?_)
  have hw : CW D cy bs 14 ([(cy 12, .int)] ++ [(cy 12, .int)]) _ s H _ 3 := hw
  obtain ⟨cf_5, e_cf_5⟩ : ∃ z : Nat → va_E, z = va_up cf_4 13 (.inl (cy 12, 76, .inl (fun _ => 0))) := ⟨_, rfl⟩
  rw [← e_cf_5] at hw
  have hlow : ∀ i, i < 10 → cf_5 i = cf i := fun i h => by rw [e_cf_5]; exact (vu_ne (by omega)).trans (hlow i h)
  have hc_10 : cf_5 10 = .inr (0, [.int 0, .int 0, .int 0, .ref (bs + 11), .ref (bs + 12), .null, .null, .int 0, .int 0, .int 0, .int 0, .int 0]) := by rw [e_cf_5]; exact (vu_ne (by decide)).trans hc_10
  have hc_13 : cf_5 13 = .inl (cy 12, 76, .inl (fun _ => 0)) := by rw [e_cf_5]; exact vu_at
  have hdone : ∀ i, 10 < i → i < 14 → i ≠ 13 → cf_5 i = ce (GB D bs cy tD tR) (s0 i) i := fun i h1 h2 p_13 => by rw [e_cf_5]; exact (vu_ne (by omega)).trans (hdone i h1 (by omega) )
  have hdone : ∀ i, 10 < i → i < 14 → cf_5 i = ce (GB D bs cy tD tR) (s0 i) i := fun i h1 h2  => by
    by_cases p_13 : i = 13
    · subst p_13; exact hc_13.trans rfl
    · exact hdone i h1 h2 p_13
  have hw : CW D cy bs 14 [(cy 12, .int)] cf_5 s H _ 3 := k_tys [0] hw rfl
  refine W.eq (g2 := F0 m 26 ls [.ref (bs + 13), .ref (bs + 10)]) rfl ?_
  refine k_putF (ci := 0) (n := 12) (k := 5) (v := .ref (bs + 13)) (ty := .array (.int)) nty0 X hw (by decide) hc_10 ni0 nk0 nn0 rfl (by decide) tb_86 rfl rfl hin rfl (by decide +kernel) rfl rfl (Nat.le_of_ble_eq_true rfl) d_X0_init_26 (fun H locs hw => ?_)
  have hw : CW D cy bs 14 [(cy 12, .int)] (va_up cf_5 10 (.inr (0, [.int 0, .int 0, .int 0, .ref (bs + 11), .ref (bs + 12), .ref (bs + 13), .null, .int 0, .int 0, .int 0, .int 0, .int 0]))) s H _ 3 := hw
  obtain ⟨cf_6, e_cf_6⟩ : ∃ z : Nat → va_E, z = va_up cf_5 10 (.inr (0, [.int 0, .int 0, .int 0, .ref (bs + 11), .ref (bs + 12), .ref (bs + 13), .null, .int 0, .int 0, .int 0, .int 0, .int 0])) := ⟨_, rfl⟩
  rw [← e_cf_6] at hw
  have hlow : ∀ i, i < 10 → cf_6 i = cf i := fun i h => by rw [e_cf_6]; exact (vu_ne (by omega)).trans (hlow i h)
  have hc_10 : cf_6 10 = .inr (0, [.int 0, .int 0, .int 0, .ref (bs + 11), .ref (bs + 12), .ref (bs + 13), .null, .int 0, .int 0, .int 0, .int 0, .int 0]) := by rw [e_cf_6]; exact vu_at
  have hdone : ∀ i, 10 < i → i < 14 → cf_6 i = ce (GB D bs cy tD tR) (s0 i) i := fun i h1 h2  => by rw [e_cf_6]; exact (vu_ne (by omega)).trans (hdone i h1 h2 )
  refine lv_aload_n X.1 X.2.1 d_X0_init_29 rfl (lv_at hl 0 rfl) ?_
  refine lv_bipush (v := 6) X.1 X.2.1 d_X0_init_30 (by decide) ?_
  refine k_newI (N' := 6) X hw (by decide) (by decide) (by decide) (Nat.le_of_ble_eq_true rfl) (Nat.le_of_ble_eq_true rfl) d_X0_init_32 (fun H hw => ?_)
  have hw : CW D cy bs 15 ([(cy 12, .int)] ++ [(cy 12, .int)]) _ s H _ 4 := hw
  obtain ⟨cf_7, e_cf_7⟩ : ∃ z : Nat → va_E, z = va_up cf_6 14 (.inl (cy 12, 6, .inl (fun _ => 0))) := ⟨_, rfl⟩
  rw [← e_cf_7] at hw
  have hlow : ∀ i, i < 10 → cf_7 i = cf i := fun i h => by rw [e_cf_7]; exact (vu_ne (by omega)).trans (hlow i h)
  have hc_10 : cf_7 10 = .inr (0, [.int 0, .int 0, .int 0, .ref (bs + 11), .ref (bs + 12), .ref (bs + 13), .null, .int 0, .int 0, .int 0, .int 0, .int 0]) := by rw [e_cf_7]; exact (vu_ne (by decide)).trans hc_10
  have hc_14 : cf_7 14 = .inl (cy 12, 6, .inl (fun _ => 0)) := by rw [e_cf_7]; exact vu_at
  have hdone : ∀ i, 10 < i → i < 15 → i ≠ 14 → cf_7 i = ce (GB D bs cy tD tR) (s0 i) i := fun i h1 h2 p_14 => by rw [e_cf_7]; exact (vu_ne (by omega)).trans (hdone i h1 (by omega) )
  have hdone : ∀ i, 10 < i → i < 15 → cf_7 i = ce (GB D bs cy tD tR) (s0 i) i := fun i h1 h2  => by
    by_cases p_14 : i = 14
    · subst p_14; exact hc_14.trans rfl
    · exact hdone i h1 h2 p_14
  have hw : CW D cy bs 15 [(cy 12, .int)] cf_7 s H _ 4 := k_tys [0] hw rfl
  refine W.eq (g2 := F0 m 34 ls [.ref (bs + 14), .ref (bs + 10)]) rfl ?_
  refine k_putF (ci := 0) (n := 12) (k := 6) (v := .ref (bs + 14)) (ty := .array (.int)) nty0 X hw (by decide) hc_10 ni0 nk0 nn0 rfl (by decide) tb_87 rfl rfl hin rfl (by decide +kernel) rfl rfl (Nat.le_of_ble_eq_true rfl) d_X0_init_34 (fun H locs hw => ?_)
  have hw : CW D cy bs 15 [(cy 12, .int)] (va_up cf_7 10 (.inr (0, [.int 0, .int 0, .int 0, .ref (bs + 11), .ref (bs + 12), .ref (bs + 13), .ref (bs + 14), .int 0, .int 0, .int 0, .int 0, .int 0]))) s H _ 4 := hw
  obtain ⟨cf_8, e_cf_8⟩ : ∃ z : Nat → va_E, z = va_up cf_7 10 (.inr (0, [.int 0, .int 0, .int 0, .ref (bs + 11), .ref (bs + 12), .ref (bs + 13), .ref (bs + 14), .int 0, .int 0, .int 0, .int 0, .int 0])) := ⟨_, rfl⟩
  rw [← e_cf_8] at hw
  have hlow : ∀ i, i < 10 → cf_8 i = cf i := fun i h => by rw [e_cf_8]; exact (vu_ne (by omega)).trans (hlow i h)
  have hc_10 : cf_8 10 = .inr (0, [.int 0, .int 0, .int 0, .ref (bs + 11), .ref (bs + 12), .ref (bs + 13), .ref (bs + 14), .int 0, .int 0, .int 0, .int 0, .int 0]) := by rw [e_cf_8]; exact vu_at
  have hdone : ∀ i, 10 < i → i < 15 → cf_8 i = ce (GB D bs cy tD tR) (s0 i) i := fun i h1 h2  => by rw [e_cf_8]; exact (vu_ne (by omega)).trans (hdone i h1 h2 )
  refine k_vret X hr hlk hw ⟨hlow, fun i h1 h2 => ?_⟩ d_X0_init_37
  rcases Nat.eq_or_lt_of_le h1 with h3 | h3
  · subst h3; exact hc_10.trans rfl
  exact hdone i h3 h2 
set_option maxRecDepth 100000 in
set_option maxHeartbeats 4000000 in
theorem kc_X9_init_8 (l : Launch) (D : va_G) (cy : Nat → ClassId) (bs tD tR : Nat) (cf : Nat → va_E) (hc_8 : cf 8 = .inr (9, [.null, .int 0])) : MC l ym_X9_init cm_X9_init 1 { frames := 1, cells := 1, slots := 90, locals := 20 } D cy bs 9 cf [.ref (bs + 8)] 10 [(cy 12, .int)] (Pd D cy bs tD tR cf 8 10) 1 90 := by
  refine met_c (by decide) (by decide) (Nat.le_of_ble_eq_true rfl) ?_
  intro p e s m args below meth c X hr hlk hin hw ls hl
  have hl : lv_has ls 1 [(0, .ref (bs + 8))] := hl
  have hlow : ∀ i, i < 8 → cf i = cf i := fun _ _ => rfl
  have hdone : ∀ i, 8 < i → i < 9 → cf i = ce (GB D bs cy tD tR) (s0 i) i := fun i h1 h2 => by omega
  refine lv_aload_n X.1 X.2.1 d_X9_init_0 rfl (lv_at hl 0 rfl) ?_
  refine W.objInit X.1 X.2.1 X.2.2.2.1 (X.2.2.2.2 _ tb_29) (X.2.2.2.2 _ tb_22) (X.2.2.2.2 _ tb_23) rfl (by rw [X.2.2.1]; exact hl.1) rfl d_X9_init_1 (Nat.le_of_ble_eq_true rfl) (Nat.le_of_ble_eq_true rfl) ?_
  refine W.eq (g2 := F0 m 4 ls []) rfl ?_
  refine lv_aload_n X.1 X.2.1 d_X9_init_4 rfl (lv_at hl 0 rfl) ?_
  refine lv_bipush (v := 90) X.1 X.2.1 d_X9_init_5 (by decide) ?_
  refine k_newI (N' := 90) X hw (by decide) (by decide) (by decide) (Nat.le_of_ble_eq_true rfl) (Nat.le_of_ble_eq_true rfl) d_X9_init_7 (fun H hw => ?_)
  have hw : CW D cy bs 10 ([] ++ [(cy 12, .int)]) _ s H _ 1 := hw
  obtain ⟨cf_1, e_cf_1⟩ : ∃ z : Nat → va_E, z = va_up cf 9 (.inl (cy 12, 90, .inl (fun _ => 0))) := ⟨_, rfl⟩
  rw [← e_cf_1] at hw
  have hlow : ∀ i, i < 8 → cf_1 i = cf i := fun i h => by rw [e_cf_1]; exact (vu_ne (by omega)).trans (hlow i h)
  have hc_8 : cf_1 8 = .inr (9, [.null, .int 0]) := by rw [e_cf_1]; exact (vu_ne (by decide)).trans hc_8
  have hc_9 : cf_1 9 = .inl (cy 12, 90, .inl (fun _ => 0)) := by rw [e_cf_1]; exact vu_at
  have hdone : ∀ i, 8 < i → i < 10 → i ≠ 9 → cf_1 i = ce (GB D bs cy tD tR) (s0 i) i := fun i h1 h2 p_9 => by rw [e_cf_1]; exact (vu_ne (by omega)).trans (hdone i h1 (by omega) )
  have hdone : ∀ i, 8 < i → i < 10 → cf_1 i = ce (GB D bs cy tD tR) (s0 i) i := fun i h1 h2  => by
    by_cases p_9 : i = 9
    · subst p_9; exact hc_9.trans rfl
    · exact hdone i h1 h2 p_9
  have hw : CW D cy bs 10 [(cy 12, .int)] cf_1 s H _ 1 := k_tys [0] hw rfl
  refine W.eq (g2 := F0 m 9 ls [.ref (bs + 9), .ref (bs + 8)]) rfl ?_
  refine k_putF (ci := 9) (n := 2) (k := 0) (v := .ref (bs + 9)) (ty := .array (.int)) nty9 X hw (by decide) hc_8 ni9 nk9 nn9 rfl (by decide) tb_30 rfl rfl hin rfl (by decide +kernel) rfl rfl (Nat.le_of_ble_eq_true rfl) d_X9_init_9 (fun H locs hw => ?_)
  have hw : CW D cy bs 10 [(cy 12, .int)] (va_up cf_1 8 (.inr (9, [.ref (bs + 9), .int 0]))) s H _ 1 := hw
  obtain ⟨cf_2, e_cf_2⟩ : ∃ z : Nat → va_E, z = va_up cf_1 8 (.inr (9, [.ref (bs + 9), .int 0])) := ⟨_, rfl⟩
  rw [← e_cf_2] at hw
  have hlow : ∀ i, i < 8 → cf_2 i = cf i := fun i h => by rw [e_cf_2]; exact (vu_ne (by omega)).trans (hlow i h)
  have hc_8 : cf_2 8 = .inr (9, [.ref (bs + 9), .int 0]) := by rw [e_cf_2]; exact vu_at
  have hdone : ∀ i, 8 < i → i < 10 → cf_2 i = ce (GB D bs cy tD tR) (s0 i) i := fun i h1 h2  => by rw [e_cf_2]; exact (vu_ne (by omega)).trans (hdone i h1 h2 )
  refine k_vret X hr hlk hw ⟨hlow, fun i h1 h2 => ?_⟩ d_X9_init_12
  rcases Nat.eq_or_lt_of_le h1 with h3 | h3
  · subst h3; exact hc_8.trans rfl
  exact hdone i h3 h2 
theorem cq_15_15 (D : va_G) (cy : Nat → ClassId) (bs tD tR : Nat) : (.inl (cy 15, 6, .inr (.inr (.inr (.inr (va_up (va_up (va_up (va_up (va_up (va_up (fun _ => none) 0 (some (bs + 17))) 1 (some (bs + 19))) 2 (some (bs + 21))) 3 (some (bs + 23))) 4 (some (bs + 25))) 5 (some (bs + 27))))))) : va_E) = ce (GB D bs cy tD tR) (s0 15) 15 := by
  have e : ((va_up (va_up (va_up (va_up (va_up (va_up (fun _ => none) 0 (some (bs + 17))) 1 (some (bs + 19))) 2 (some (bs + 21))) 3 (some (bs + 23))) 4 (some (bs + 25))) 5 (some (bs + 27))) : Nat → Option Nat) = fun j => if j < 6 then some (bs + (15 + 2 + 2 * j)) else none := by
    funext j
    rcases Nat.lt_or_ge j 6 with h | h
    · rcases (show j = 0 ∨ j = 1 ∨ j = 2 ∨ j = 3 ∨ j = 4 ∨ j = 5 by omega) with rfl | rfl | rfl | rfl | rfl | rfl <;> rfl
    · simp [va_up, show j ≠ 0 by omega, show j ≠ 1 by omega, show j ≠ 2 by omega, show j ≠ 3 by omega, show j ≠ 4 by omega, show j ≠ 5 by omega, show ¬ j < 6 by omega]
  rw [e]
  rfl
theorem cq_15_16 (D : va_G) (cy : Nat → ClassId) (bs tD tR : Nat) : (.inl (cy 15, 6, .inr (.inr (.inr (.inr (va_up (va_up (va_up (va_up (va_up (va_up (fun _ => none) 0 (some (bs + 18))) 1 (some (bs + 20))) 2 (some (bs + 22))) 3 (some (bs + 24))) 4 (some (bs + 26))) 5 (some (bs + 28))))))) : va_E) = ce (GB D bs cy tD tR) (s0 16) 16 := by
  have e : ((va_up (va_up (va_up (va_up (va_up (va_up (fun _ => none) 0 (some (bs + 18))) 1 (some (bs + 20))) 2 (some (bs + 22))) 3 (some (bs + 24))) 4 (some (bs + 26))) 5 (some (bs + 28))) : Nat → Option Nat) = fun j => if j < 6 then some (bs + (16 + 2 + 2 * j)) else none := by
    funext j
    rcases Nat.lt_or_ge j 6 with h | h
    · rcases (show j = 0 ∨ j = 1 ∨ j = 2 ∨ j = 3 ∨ j = 4 ∨ j = 5 by omega) with rfl | rfl | rfl | rfl | rfl | rfl <;> rfl
    · simp [va_up, show j ≠ 0 by omega, show j ≠ 1 by omega, show j ≠ 2 by omega, show j ≠ 3 by omega, show j ≠ 4 by omega, show j ≠ 5 by omega, show ¬ j < 6 by omega]
  rw [e]
  rfl
set_option maxRecDepth 100000 in
set_option maxHeartbeats 4000000 in
theorem kc_X1_init_7 (l : Launch) (D : va_G) (cy : Nat → ClassId) (bs tD tR : Nat) (cf : Nat → va_E) (hc_7 : cf 7 = .inr (1, [.null, .null, .int 0, .int 0, .null, .int 0, .null, .int 0, .int 0, .int 0])) : MC l ym_X1_init cm_X1_init 2 { frames := 2, cells := 21, slots := 462, locals := 40 } D cy bs 8 cf [.ref (bs + 7)] 29 [(cy 12, .int), (cy 15, .object "GameLoom$Rule")] (Pd D cy bs tD tR cf 7 29) 21 462 := by
  refine met_c (by decide) (by decide) (Nat.le_of_ble_eq_true rfl) ?_
  intro p e s m args below meth c X hr hlk hin hw ls hl
  have hl : lv_has ls 2 [(0, .ref (bs + 7))] := hl
  have hlow : ∀ i, i < 7 → cf i = cf i := fun _ _ => rfl
  have hdone : ∀ i, 7 < i → i < 8 → cf i = ce (GB D bs cy tD tR) (s0 i) i := fun i h1 h2 => by omega
  refine lv_aload_n X.1 X.2.1 d_X1_init_0 rfl (lv_at hl 0 rfl) ?_
  refine W.objInit X.1 X.2.1 X.2.2.2.1 (X.2.2.2.2 _ tb_64) (X.2.2.2.2 _ tb_22) (X.2.2.2.2 _ tb_23) rfl (by rw [X.2.2.1]; exact hl.1) rfl d_X1_init_1 (Nat.le_of_ble_eq_true rfl) (Nat.le_of_ble_eq_true rfl) ?_
  refine W.eq (g2 := F0 m 4 ls []) rfl ?_
  refine lv_aload_n X.1 X.2.1 d_X1_init_4 rfl (lv_at hl 0 rfl) ?_
  refine k_new (ci := 9) (n := 2) (fs := [.null, .int 0]) nty9 X hw ni9 nk9 rfl tb_65 tb_25 tb_2 (by intro j hj; have : j < 2 := hj; rcases (show j = 0 ∨ j = 1 by omega) with rfl | rfl <;> rfl) (Nat.le_of_ble_eq_true rfl) (Nat.le_of_ble_eq_true rfl) d_X1_init_5 (fun H hw => ?_)
  obtain ⟨cf_1, e_cf_1⟩ : ∃ z : Nat → va_E, z = va_up cf 8 (.inr (9, [.null, .int 0])) := ⟨_, rfl⟩
  rw [← e_cf_1] at hw
  have hlow : ∀ i, i < 7 → cf_1 i = cf i := fun i h => by rw [e_cf_1]; exact (vu_ne (by omega)).trans (hlow i h)
  have hc_7 : cf_1 7 = .inr (1, [.null, .null, .int 0, .int 0, .null, .int 0, .null, .int 0, .int 0, .int 0]) := by rw [e_cf_1]; exact (vu_ne (by decide)).trans hc_7
  have hc_8 : cf_1 8 = .inr (9, [.null, .int 0]) := by rw [e_cf_1]; exact vu_at
  have hdone : ∀ i, 7 < i → i < 9 → i ≠ 8 → cf_1 i = ce (GB D bs cy tD tR) (s0 i) i := fun i h1 h2 p_8 => by rw [e_cf_1]; exact (vu_ne (by omega)).trans (hdone i h1 (by omega) )
  have hw : CW D cy bs 9 [] cf_1 s H _ 1 := hw
  refine W.eq (g2 := F0 m 8 ls [.ref (bs + 8), .ref (bs + 7)]) rfl ?_
  refine lv_dup X.1 X.2.1 d_X1_init_8 rfl ?_
  refine k_callN (rest := [.ref (bs + 8), .ref (bs + 7)]) (As := []) X hw (kc_X9_init_8 l D cy bs tD tR cf_1 hc_8) rfl hw.2.2.2.2.2.1.2.2.1 tb_27 tb_2 tb_28 rfl hdc_X9_init ⟨rfl, rfl⟩ ⟨Nat.le_of_ble_eq_true rfl, Nat.le_of_ble_eq_true rfl⟩ rfl hl.1 rfl (Nat.le_of_ble_eq_true rfl) ⟨Nat.le_of_ble_eq_true rfl, Nat.le_of_ble_eq_true rfl⟩ d_X1_init_9 (fun u H locs hu hw => ?_)
  obtain ⟨cf_2, rfl⟩ : ∃ z : Nat → va_E, z = u := ⟨_, rfl⟩
  have hc_7 : cf_2 7 = .inr (1, [.null, .null, .int 0, .int 0, .null, .int 0, .null, .int 0, .int 0, .int 0]) := (hu.1 _ (by decide)).trans hc_7
  have hlow : ∀ i, i < 7 → cf_2 i = cf i := fun i h => (hu.1 i (by omega)).trans (hlow i h)
  have hdone : ∀ i, 7 < i → i < 10 → cf_2 i = ce (GB D bs cy tD tR) (s0 i) i := fun i h1 h2  => by
    rcases Nat.lt_or_ge i 8 with h3 | h3
    · exact (hu.1 i h3).trans (hdone i h1 (by omega) (by omega))
    · exact hu.2 i h3 h2
  have hw : CW D cy bs 10 ([] ++ [(cy 12, .int)]) cf_2 s H _ 2 := hw
  have hw : CW D cy bs 10 [(cy 12, .int)] cf_2 s H _ 2 := k_tys [0] hw rfl
  refine W.eq (g2 := F0 m 12 ls [.ref (bs + 8), .ref (bs + 7)]) rfl ?_
  refine k_putF (ci := 1) (n := 10) (k := 0) (v := .ref (bs + 8)) (ty := .object "GameLoom$Text") nty1 X hw (by decide) hc_7 ni1 nk1 nn1 rfl (by decide) tb_152 rfl rfl hin rfl (by decide +kernel) rfl rfl (Nat.le_of_ble_eq_true rfl) d_X1_init_12 (fun H locs hw => ?_)
  have hw : CW D cy bs 10 [(cy 12, .int)] (va_up cf_2 7 (.inr (1, [.ref (bs + 8), .null, .int 0, .int 0, .null, .int 0, .null, .int 0, .int 0, .int 0]))) s H _ 2 := hw
  obtain ⟨cf_3, e_cf_3⟩ : ∃ z : Nat → va_E, z = va_up cf_2 7 (.inr (1, [.ref (bs + 8), .null, .int 0, .int 0, .null, .int 0, .null, .int 0, .int 0, .int 0])) := ⟨_, rfl⟩
  rw [← e_cf_3] at hw
  have hlow : ∀ i, i < 7 → cf_3 i = cf i := fun i h => by rw [e_cf_3]; exact (vu_ne (by omega)).trans (hlow i h)
  have hc_7 : cf_3 7 = .inr (1, [.ref (bs + 8), .null, .int 0, .int 0, .null, .int 0, .null, .int 0, .int 0, .int 0]) := by rw [e_cf_3]; exact vu_at
  have hdone : ∀ i, 7 < i → i < 10 → cf_3 i = ce (GB D bs cy tD tR) (s0 i) i := fun i h1 h2  => by rw [e_cf_3]; exact (vu_ne (by omega)).trans (hdone i h1 h2 )
  refine lv_aload_n X.1 X.2.1 d_X1_init_15 rfl (lv_at hl 0 rfl) ?_
  refine k_new (ci := 0) (n := 12) (fs := [.int 0, .int 0, .int 0, .null, .null, .null, .null, .int 0, .int 0, .int 0, .int 0, .int 0]) nty0 X hw ni0 nk0 rfl tb_67 tb_68 tb_5 (by intro j hj; have : j < 12 := hj; rcases (show j = 0 ∨ j = 1 ∨ j = 2 ∨ j = 3 ∨ j = 4 ∨ j = 5 ∨ j = 6 ∨ j = 7 ∨ j = 8 ∨ j = 9 ∨ j = 10 ∨ j = 11 by omega) with rfl | rfl | rfl | rfl | rfl | rfl | rfl | rfl | rfl | rfl | rfl | rfl <;> rfl) (Nat.le_of_ble_eq_true rfl) (Nat.le_of_ble_eq_true rfl) d_X1_init_16 (fun H hw => ?_)
  obtain ⟨cf_4, e_cf_4⟩ : ∃ z : Nat → va_E, z = va_up cf_3 10 (.inr (0, [.int 0, .int 0, .int 0, .null, .null, .null, .null, .int 0, .int 0, .int 0, .int 0, .int 0])) := ⟨_, rfl⟩
  rw [← e_cf_4] at hw
  have hlow : ∀ i, i < 7 → cf_4 i = cf i := fun i h => by rw [e_cf_4]; exact (vu_ne (by omega)).trans (hlow i h)
  have hc_7 : cf_4 7 = .inr (1, [.ref (bs + 8), .null, .int 0, .int 0, .null, .int 0, .null, .int 0, .int 0, .int 0]) := by rw [e_cf_4]; exact (vu_ne (by decide)).trans hc_7
  have hc_10 : cf_4 10 = .inr (0, [.int 0, .int 0, .int 0, .null, .null, .null, .null, .int 0, .int 0, .int 0, .int 0, .int 0]) := by rw [e_cf_4]; exact vu_at
  have hdone : ∀ i, 7 < i → i < 11 → i ≠ 10 → cf_4 i = ce (GB D bs cy tD tR) (s0 i) i := fun i h1 h2 p_10 => by rw [e_cf_4]; exact (vu_ne (by omega)).trans (hdone i h1 (by omega) )
  have hw : CW D cy bs 11 [(cy 12, .int)] cf_4 s H _ 3 := hw
  refine W.eq (g2 := F0 m 19 ls [.ref (bs + 10), .ref (bs + 7)]) rfl ?_
  refine lv_dup X.1 X.2.1 d_X1_init_19 rfl ?_
  refine k_callN (rest := [.ref (bs + 10), .ref (bs + 7)]) (As := []) X hw (kc_X0_init_10 l D cy bs tD tR cf_4 hc_10) rfl hw.2.2.2.2.2.1.2.2.2.1 tb_70 tb_5 tb_71 rfl hdc_X0_init ⟨rfl, rfl⟩ ⟨Nat.le_of_ble_eq_true rfl, Nat.le_of_ble_eq_true rfl⟩ rfl hl.1 rfl (Nat.le_of_ble_eq_true rfl) ⟨Nat.le_of_ble_eq_true rfl, Nat.le_of_ble_eq_true rfl⟩ d_X1_init_20 (fun u H locs hu hw => ?_)
  obtain ⟨cf_5, rfl⟩ : ∃ z : Nat → va_E, z = u := ⟨_, rfl⟩
  have hc_7 : cf_5 7 = .inr (1, [.ref (bs + 8), .null, .int 0, .int 0, .null, .int 0, .null, .int 0, .int 0, .int 0]) := (hu.1 _ (by decide)).trans hc_7
  have hlow : ∀ i, i < 7 → cf_5 i = cf i := fun i h => (hu.1 i (by omega)).trans (hlow i h)
  have hdone : ∀ i, 7 < i → i < 15 → cf_5 i = ce (GB D bs cy tD tR) (s0 i) i := fun i h1 h2  => by
    rcases Nat.lt_or_ge i 10 with h3 | h3
    · exact (hu.1 i h3).trans (hdone i h1 (by omega) (by omega))
    · exact hu.2 i h3 h2
  have hw : CW D cy bs 15 ([(cy 12, .int)] ++ [(cy 12, .int)]) cf_5 s H _ 7 := hw
  have hw : CW D cy bs 15 [(cy 12, .int)] cf_5 s H _ 7 := k_tys [0] hw rfl
  refine W.eq (g2 := F0 m 23 ls [.ref (bs + 10), .ref (bs + 7)]) rfl ?_
  refine k_putF (ci := 1) (n := 10) (k := 1) (v := .ref (bs + 10)) (ty := .object "GameLoom$Board") nty1 X hw (by decide) hc_7 ni1 nk1 nn1 rfl (by decide) tb_155 rfl rfl hin rfl (by decide +kernel) rfl rfl (Nat.le_of_ble_eq_true rfl) d_X1_init_23 (fun H locs hw => ?_)
  have hw : CW D cy bs 15 [(cy 12, .int)] (va_up cf_5 7 (.inr (1, [.ref (bs + 8), .ref (bs + 10), .int 0, .int 0, .null, .int 0, .null, .int 0, .int 0, .int 0]))) s H _ 7 := hw
  obtain ⟨cf_6, e_cf_6⟩ : ∃ z : Nat → va_E, z = va_up cf_5 7 (.inr (1, [.ref (bs + 8), .ref (bs + 10), .int 0, .int 0, .null, .int 0, .null, .int 0, .int 0, .int 0])) := ⟨_, rfl⟩
  rw [← e_cf_6] at hw
  have hlow : ∀ i, i < 7 → cf_6 i = cf i := fun i h => by rw [e_cf_6]; exact (vu_ne (by omega)).trans (hlow i h)
  have hc_7 : cf_6 7 = .inr (1, [.ref (bs + 8), .ref (bs + 10), .int 0, .int 0, .null, .int 0, .null, .int 0, .int 0, .int 0]) := by rw [e_cf_6]; exact vu_at
  have hdone : ∀ i, 7 < i → i < 15 → cf_6 i = ce (GB D bs cy tD tR) (s0 i) i := fun i h1 h2  => by rw [e_cf_6]; exact (vu_ne (by omega)).trans (hdone i h1 h2 )
  refine lv_aload_n X.1 X.2.1 d_X1_init_26 rfl (lv_at hl 0 rfl) ?_
  refine lv_bipush (v := 6) X.1 X.2.1 d_X1_init_27 (by decide) ?_
  refine k_newq (N' := 6) (k := 15) (C := "GameLoom$Rule") hw.2.2.2.2.1.2.2.2.1 hw.2.2.2.2.2.1.2.2.2.2.2.2.2.2.2.2.2.1 X hw tb_119 (by decide) (by decide) (by decide) (Nat.le_of_ble_eq_true rfl) (Nat.le_of_ble_eq_true rfl) d_X1_init_29 (fun H hw => ?_)
  have hw : CW D cy bs 16 ([(cy 12, .int)] ++ [(cy 15, .object "GameLoom$Rule")]) _ s H _ 8 := hw
  obtain ⟨cf_7, e_cf_7⟩ : ∃ z : Nat → va_E, z = va_up cf_6 15 (.inl (cy 15, 6, .inr (.inr (.inr (.inr (fun _ => none)))))) := ⟨_, rfl⟩
  rw [← e_cf_7] at hw
  have hlow : ∀ i, i < 7 → cf_7 i = cf i := fun i h => by rw [e_cf_7]; exact (vu_ne (by omega)).trans (hlow i h)
  have hc_7 : cf_7 7 = .inr (1, [.ref (bs + 8), .ref (bs + 10), .int 0, .int 0, .null, .int 0, .null, .int 0, .int 0, .int 0]) := by rw [e_cf_7]; exact (vu_ne (by decide)).trans hc_7
  have hc_15 : cf_7 15 = .inl (cy 15, 6, .inr (.inr (.inr (.inr (fun _ => none))))) := by rw [e_cf_7]; exact vu_at
  have hdone : ∀ i, 7 < i → i < 16 → i ≠ 15 → cf_7 i = ce (GB D bs cy tD tR) (s0 i) i := fun i h1 h2 p_15 => by rw [e_cf_7]; exact (vu_ne (by omega)).trans (hdone i h1 (by omega) )
  have hw : CW D cy bs 16 [(cy 12, .int), (cy 15, .object "GameLoom$Rule")] cf_7 s H _ 8 := k_tys [0, 1] hw rfl
  refine W.eq (g2 := F0 m 32 ls [.ref (bs + 15), .ref (bs + 7)]) rfl ?_
  refine k_putF (ci := 1) (n := 10) (k := 4) (v := .ref (bs + 15)) (ty := .array (.object "GameLoom$Rule")) nty1 X hw (by decide) hc_7 ni1 nk1 nn1 rfl (by decide) tb_163 rfl rfl hin rfl (by decide +kernel) rfl rfl (Nat.le_of_ble_eq_true rfl) d_X1_init_32 (fun H locs hw => ?_)
  have hw : CW D cy bs 16 [(cy 12, .int), (cy 15, .object "GameLoom$Rule")] (va_up cf_7 7 (.inr (1, [.ref (bs + 8), .ref (bs + 10), .int 0, .int 0, .ref (bs + 15), .int 0, .null, .int 0, .int 0, .int 0]))) s H _ 8 := hw
  obtain ⟨cf_8, e_cf_8⟩ : ∃ z : Nat → va_E, z = va_up cf_7 7 (.inr (1, [.ref (bs + 8), .ref (bs + 10), .int 0, .int 0, .ref (bs + 15), .int 0, .null, .int 0, .int 0, .int 0])) := ⟨_, rfl⟩
  rw [← e_cf_8] at hw
  have hlow : ∀ i, i < 7 → cf_8 i = cf i := fun i h => by rw [e_cf_8]; exact (vu_ne (by omega)).trans (hlow i h)
  have hc_7 : cf_8 7 = .inr (1, [.ref (bs + 8), .ref (bs + 10), .int 0, .int 0, .ref (bs + 15), .int 0, .null, .int 0, .int 0, .int 0]) := by rw [e_cf_8]; exact vu_at
  have hc_15 : cf_8 15 = .inl (cy 15, 6, .inr (.inr (.inr (.inr (fun _ => none))))) := by rw [e_cf_8]; exact (vu_ne (by decide)).trans hc_15
  have hdone : ∀ i, 7 < i → i < 16 → i ≠ 15 → cf_8 i = ce (GB D bs cy tD tR) (s0 i) i := fun i h1 h2 p_15 => by rw [e_cf_8]; exact (vu_ne (by omega)).trans (hdone i h1 h2 p_15)
  refine lv_aload_n X.1 X.2.1 d_X1_init_35 rfl (lv_at hl 0 rfl) ?_
  refine lv_bipush (v := 6) X.1 X.2.1 d_X1_init_36 (by decide) ?_
  refine k_newq (N' := 6) (k := 15) (C := "GameLoom$Rule") hw.2.2.2.2.1.2.2.2.1 hw.2.2.2.2.2.1.2.2.2.2.2.2.2.2.2.2.2.1 X hw tb_119 (by decide) (by decide) (by decide) (Nat.le_of_ble_eq_true rfl) (Nat.le_of_ble_eq_true rfl) d_X1_init_38 (fun H hw => ?_)
  have hw : CW D cy bs 17 ([(cy 12, .int), (cy 15, .object "GameLoom$Rule")] ++ [(cy 15, .object "GameLoom$Rule")]) _ s H _ 9 := hw
  obtain ⟨cf_9, e_cf_9⟩ : ∃ z : Nat → va_E, z = va_up cf_8 16 (.inl (cy 15, 6, .inr (.inr (.inr (.inr (fun _ => none)))))) := ⟨_, rfl⟩
  rw [← e_cf_9] at hw
  have hlow : ∀ i, i < 7 → cf_9 i = cf i := fun i h => by rw [e_cf_9]; exact (vu_ne (by omega)).trans (hlow i h)
  have hc_7 : cf_9 7 = .inr (1, [.ref (bs + 8), .ref (bs + 10), .int 0, .int 0, .ref (bs + 15), .int 0, .null, .int 0, .int 0, .int 0]) := by rw [e_cf_9]; exact (vu_ne (by decide)).trans hc_7
  have hc_15 : cf_9 15 = .inl (cy 15, 6, .inr (.inr (.inr (.inr (fun _ => none))))) := by rw [e_cf_9]; exact (vu_ne (by decide)).trans hc_15
  have hc_16 : cf_9 16 = .inl (cy 15, 6, .inr (.inr (.inr (.inr (fun _ => none))))) := by rw [e_cf_9]; exact vu_at
  have hdone : ∀ i, 7 < i → i < 17 → i ≠ 15 → i ≠ 16 → cf_9 i = ce (GB D bs cy tD tR) (s0 i) i := fun i h1 h2 p_15 p_16 => by rw [e_cf_9]; exact (vu_ne (by omega)).trans (hdone i h1 (by omega) p_15)
  have hw : CW D cy bs 17 [(cy 12, .int), (cy 15, .object "GameLoom$Rule")] cf_9 s H _ 9 := k_tys [0, 1] hw rfl
  refine W.eq (g2 := F0 m 41 ls [.ref (bs + 16), .ref (bs + 7)]) rfl ?_
  refine k_putF (ci := 1) (n := 10) (k := 6) (v := .ref (bs + 16)) (ty := .array (.object "GameLoom$Rule")) nty1 X hw (by decide) hc_7 ni1 nk1 nn1 rfl (by decide) tb_171 rfl rfl hin rfl (by decide +kernel) rfl rfl (Nat.le_of_ble_eq_true rfl) d_X1_init_41 (fun H locs hw => ?_)
  have hw : CW D cy bs 17 [(cy 12, .int), (cy 15, .object "GameLoom$Rule")] (va_up cf_9 7 (.inr (1, [.ref (bs + 8), .ref (bs + 10), .int 0, .int 0, .ref (bs + 15), .int 0, .ref (bs + 16), .int 0, .int 0, .int 0]))) s H _ 9 := hw
  obtain ⟨cf_10, e_cf_10⟩ : ∃ z : Nat → va_E, z = va_up cf_9 7 (.inr (1, [.ref (bs + 8), .ref (bs + 10), .int 0, .int 0, .ref (bs + 15), .int 0, .ref (bs + 16), .int 0, .int 0, .int 0])) := ⟨_, rfl⟩
  rw [← e_cf_10] at hw
  have hlow : ∀ i, i < 7 → cf_10 i = cf i := fun i h => by rw [e_cf_10]; exact (vu_ne (by omega)).trans (hlow i h)
  have hc_7 : cf_10 7 = .inr (1, [.ref (bs + 8), .ref (bs + 10), .int 0, .int 0, .ref (bs + 15), .int 0, .ref (bs + 16), .int 0, .int 0, .int 0]) := by rw [e_cf_10]; exact vu_at
  have hc_15 : cf_10 15 = .inl (cy 15, 6, .inr (.inr (.inr (.inr (fun _ => none))))) := by rw [e_cf_10]; exact (vu_ne (by decide)).trans hc_15
  have hc_16 : cf_10 16 = .inl (cy 15, 6, .inr (.inr (.inr (.inr (fun _ => none))))) := by rw [e_cf_10]; exact (vu_ne (by decide)).trans hc_16
  have hdone : ∀ i, 7 < i → i < 17 → i ≠ 15 → i ≠ 16 → cf_10 i = ce (GB D bs cy tD tR) (s0 i) i := fun i h1 h2 p_15 p_16 => by rw [e_cf_10]; exact (vu_ne (by omega)).trans (hdone i h1 h2 p_15 p_16)
  refine lv_iconst (v := 0) X.1 X.2.1 d_X1_init_44 (by decide) ?_
  refine lv_istore_n (lv' := [(1, .int 0), (0, .ref (bs + 7))]) X.1 X.2.1 d_X1_init_45 rfl hl (by decide) rfl (fun ls hl => ?_)
  refine lv_iload_n X.1 X.2.1 d_X1_init_46 rfl (lv_at hl 0 rfl) ?_
  refine lv_bipush (v := 6) X.1 X.2.1 d_X1_init_47 (by decide) ?_
  refine lv_icmp_ge (tgt := 84) X.1 X.2.1 d_X1_init_49 (by decide) (fun q9 => ?_) (fun q9 => ?_)
  · exact absurd q9 (by decide)
  refine lv_aload_n X.1 X.2.1 d_X1_init_52 rfl (lv_at hl 1 rfl) ?_
  refine k_get (ci := 1) (n := 10) (k := 4) (v := .ref (bs + 15)) X hw (by decide) hc_7 ni1 rfl (by decide) tb_163 rfl rfl d_X1_init_53 ?_
  refine lv_iload_n X.1 X.2.1 d_X1_init_56 rfl (lv_at hl 0 rfl) ?_
  refine k_new (ci := 7) (n := 6) (fs := [.int 0, .int 0, .int 0, .int 0, .int 0, .int 0]) nty7 X hw ni7 nk7 rfl tb_119 tb_121 tb_6 (by intro j hj; have : j < 6 := hj; rcases (show j = 0 ∨ j = 1 ∨ j = 2 ∨ j = 3 ∨ j = 4 ∨ j = 5 by omega) with rfl | rfl | rfl | rfl | rfl | rfl <;> rfl) (Nat.le_of_ble_eq_true rfl) (Nat.le_of_ble_eq_true rfl) d_X1_init_57 (fun H hw => ?_)
  obtain ⟨cf_11, e_cf_11⟩ : ∃ z : Nat → va_E, z = va_up cf_10 17 (.inr (7, [.int 0, .int 0, .int 0, .int 0, .int 0, .int 0])) := ⟨_, rfl⟩
  rw [← e_cf_11] at hw
  have hlow : ∀ i, i < 7 → cf_11 i = cf i := fun i h => by rw [e_cf_11]; exact (vu_ne (by omega)).trans (hlow i h)
  have hc_7 : cf_11 7 = .inr (1, [.ref (bs + 8), .ref (bs + 10), .int 0, .int 0, .ref (bs + 15), .int 0, .ref (bs + 16), .int 0, .int 0, .int 0]) := by rw [e_cf_11]; exact (vu_ne (by decide)).trans hc_7
  have hc_15 : cf_11 15 = .inl (cy 15, 6, .inr (.inr (.inr (.inr (fun _ => none))))) := by rw [e_cf_11]; exact (vu_ne (by decide)).trans hc_15
  have hc_16 : cf_11 16 = .inl (cy 15, 6, .inr (.inr (.inr (.inr (fun _ => none))))) := by rw [e_cf_11]; exact (vu_ne (by decide)).trans hc_16
  have hc_17 : cf_11 17 = .inr (7, [.int 0, .int 0, .int 0, .int 0, .int 0, .int 0]) := by rw [e_cf_11]; exact vu_at
  have hdone : ∀ i, 7 < i → i < 18 → i ≠ 15 → i ≠ 16 → i ≠ 17 → cf_11 i = ce (GB D bs cy tD tR) (s0 i) i := fun i h1 h2 p_15 p_16 p_17 => by rw [e_cf_11]; exact (vu_ne (by omega)).trans (hdone i h1 (by omega) p_15 p_16)
  have hw : CW D cy bs 18 [(cy 12, .int), (cy 15, .object "GameLoom$Rule")] cf_11 s H _ 10 := hw
  refine W.eq (g2 := F0 m 60 ls [.ref (bs + 17), .int 0, .ref (bs + 15)]) rfl ?_
  refine lv_dup X.1 X.2.1 d_X1_init_60 rfl ?_
  refine k_callN (rest := [.ref (bs + 17), .int 0, .ref (bs + 15)]) (As := []) X hw (kt_X7_init l D cy bs 18 cf_11 17 (by decide)) rfl hw.2.2.2.2.2.1.2.2.2.2.1 tb_123 tb_6 tb_124 rfl hdc_X7_init ⟨rfl, rfl⟩ ⟨Nat.le_of_ble_eq_true rfl, Nat.le_of_ble_eq_true rfl⟩ rfl hl.1 rfl (Nat.le_of_ble_eq_true rfl) ⟨Nat.le_of_ble_eq_true rfl, Nat.le_of_ble_eq_true rfl⟩ d_X1_init_61 (fun u H locs hu hw => ?_)
  obtain ⟨cf_12, rfl⟩ : ∃ z : Nat → va_E, z = u := ⟨_, rfl⟩
  have hu : ∀ i, cf_12 i = cf_11 i := hu
  have hc_7 : cf_12 7 = .inr (1, [.ref (bs + 8), .ref (bs + 10), .int 0, .int 0, .ref (bs + 15), .int 0, .ref (bs + 16), .int 0, .int 0, .int 0]) := (hu _).trans hc_7
  have hc_15 : cf_12 15 = .inl (cy 15, 6, .inr (.inr (.inr (.inr (fun _ => none))))) := (hu _).trans hc_15
  have hc_16 : cf_12 16 = .inl (cy 15, 6, .inr (.inr (.inr (.inr (fun _ => none))))) := (hu _).trans hc_16
  have hc_17 : cf_12 17 = .inr (7, [.int 0, .int 0, .int 0, .int 0, .int 0, .int 0]) := (hu _).trans hc_17
  have hlow : ∀ i, i < 7 → cf_12 i = cf i := fun i h => (hu i).trans (hlow i h)
  have hdone : ∀ i, 7 < i → i < 18 → i ≠ 15 → i ≠ 16 → i ≠ 17 → cf_12 i = ce (GB D bs cy tD tR) (s0 i) i := fun i h1 h2 p_15 p_16 p_17 => (hu i).trans (hdone i h1 h2 p_15 p_16 p_17)
  have hw : CW D cy bs 18 [(cy 12, .int), (cy 15, .object "GameLoom$Rule")] cf_12 s H _ 10 := k_tys [0, 1] hw rfl
  refine W.eq (g2 := F0 m 64 ls [.ref (bs + 17), .int 0, .ref (bs + 15)]) rfl ?_
  refine k_astq (k := 15) (ci := 7) (q := 17) 1 X hw (by decide) hc_15 rfl (by decide) hc_17 rfl (by unfold vp_in; decide) d_X1_init_64 (fun H locs hw => ?_)
  have hw : CW D cy bs 18 [(cy 12, .int), (cy 15, .object "GameLoom$Rule")] (va_up cf_12 15 (.inl (cy 15, 6, .inr (.inr (.inr (.inr (va_up (fun _ => none) 0 (some (bs + 17))))))))) s H _ 10 := hw
  obtain ⟨cf_13, e_cf_13⟩ : ∃ z : Nat → va_E, z = va_up cf_12 15 (.inl (cy 15, 6, .inr (.inr (.inr (.inr (va_up (fun _ => none) 0 (some (bs + 17)))))))) := ⟨_, rfl⟩
  rw [← e_cf_13] at hw
  have hlow : ∀ i, i < 7 → cf_13 i = cf i := fun i h => by rw [e_cf_13]; exact (vu_ne (by omega)).trans (hlow i h)
  have hc_7 : cf_13 7 = .inr (1, [.ref (bs + 8), .ref (bs + 10), .int 0, .int 0, .ref (bs + 15), .int 0, .ref (bs + 16), .int 0, .int 0, .int 0]) := by rw [e_cf_13]; exact (vu_ne (by decide)).trans hc_7
  have hc_15 : cf_13 15 = .inl (cy 15, 6, .inr (.inr (.inr (.inr (va_up (fun _ => none) 0 (some (bs + 17))))))) := by rw [e_cf_13]; exact vu_at
  have hc_16 : cf_13 16 = .inl (cy 15, 6, .inr (.inr (.inr (.inr (fun _ => none))))) := by rw [e_cf_13]; exact (vu_ne (by decide)).trans hc_16
  have hc_17 : cf_13 17 = .inr (7, [.int 0, .int 0, .int 0, .int 0, .int 0, .int 0]) := by rw [e_cf_13]; exact (vu_ne (by decide)).trans hc_17
  have hdone : ∀ i, 7 < i → i < 18 → i ≠ 15 → i ≠ 16 → i ≠ 17 → cf_13 i = ce (GB D bs cy tD tR) (s0 i) i := fun i h1 h2 p_15 p_16 p_17 => by rw [e_cf_13]; exact (vu_ne (by omega)).trans (hdone i h1 h2 p_15 p_16 p_17)
  have hdone : ∀ i, 7 < i → i < 18 → i ≠ 15 → i ≠ 16 → cf_13 i = ce (GB D bs cy tD tR) (s0 i) i := fun i h1 h2 p_15 p_16 => by
    by_cases p_17 : i = 17
    · subst p_17; exact hc_17.trans rfl
    · exact hdone i h1 h2 p_15 p_16 p_17
  refine lv_aload_n X.1 X.2.1 d_X1_init_65 rfl (lv_at hl 1 rfl) ?_
  refine k_get (ci := 1) (n := 10) (k := 6) (v := .ref (bs + 16)) X hw (by decide) hc_7 ni1 rfl (by decide) tb_171 rfl rfl d_X1_init_66 ?_
  refine lv_iload_n X.1 X.2.1 d_X1_init_69 rfl (lv_at hl 0 rfl) ?_
  refine k_new (ci := 7) (n := 6) (fs := [.int 0, .int 0, .int 0, .int 0, .int 0, .int 0]) nty7 X hw ni7 nk7 rfl tb_119 tb_121 tb_6 (by intro j hj; have : j < 6 := hj; rcases (show j = 0 ∨ j = 1 ∨ j = 2 ∨ j = 3 ∨ j = 4 ∨ j = 5 by omega) with rfl | rfl | rfl | rfl | rfl | rfl <;> rfl) (Nat.le_of_ble_eq_true rfl) (Nat.le_of_ble_eq_true rfl) d_X1_init_70 (fun H hw => ?_)
  obtain ⟨cf_14, e_cf_14⟩ : ∃ z : Nat → va_E, z = va_up cf_13 18 (.inr (7, [.int 0, .int 0, .int 0, .int 0, .int 0, .int 0])) := ⟨_, rfl⟩
  rw [← e_cf_14] at hw
  have hlow : ∀ i, i < 7 → cf_14 i = cf i := fun i h => by rw [e_cf_14]; exact (vu_ne (by omega)).trans (hlow i h)
  have hc_7 : cf_14 7 = .inr (1, [.ref (bs + 8), .ref (bs + 10), .int 0, .int 0, .ref (bs + 15), .int 0, .ref (bs + 16), .int 0, .int 0, .int 0]) := by rw [e_cf_14]; exact (vu_ne (by decide)).trans hc_7
  have hc_15 : cf_14 15 = .inl (cy 15, 6, .inr (.inr (.inr (.inr (va_up (fun _ => none) 0 (some (bs + 17))))))) := by rw [e_cf_14]; exact (vu_ne (by decide)).trans hc_15
  have hc_16 : cf_14 16 = .inl (cy 15, 6, .inr (.inr (.inr (.inr (fun _ => none))))) := by rw [e_cf_14]; exact (vu_ne (by decide)).trans hc_16
  have hc_18 : cf_14 18 = .inr (7, [.int 0, .int 0, .int 0, .int 0, .int 0, .int 0]) := by rw [e_cf_14]; exact vu_at
  have hdone : ∀ i, 7 < i → i < 19 → i ≠ 15 → i ≠ 16 → i ≠ 18 → cf_14 i = ce (GB D bs cy tD tR) (s0 i) i := fun i h1 h2 p_15 p_16 p_18 => by rw [e_cf_14]; exact (vu_ne (by omega)).trans (hdone i h1 (by omega) p_15 p_16)
  have hw : CW D cy bs 19 [(cy 12, .int), (cy 15, .object "GameLoom$Rule")] cf_14 s H _ 11 := hw
  refine W.eq (g2 := F0 m 73 ls [.ref (bs + 18), .int 0, .ref (bs + 16)]) rfl ?_
  refine lv_dup X.1 X.2.1 d_X1_init_73 rfl ?_
  refine k_callN (rest := [.ref (bs + 18), .int 0, .ref (bs + 16)]) (As := []) X hw (kt_X7_init l D cy bs 19 cf_14 18 (by decide)) rfl hw.2.2.2.2.2.1.2.2.2.2.1 tb_123 tb_6 tb_124 rfl hdc_X7_init ⟨rfl, rfl⟩ ⟨Nat.le_of_ble_eq_true rfl, Nat.le_of_ble_eq_true rfl⟩ rfl hl.1 rfl (Nat.le_of_ble_eq_true rfl) ⟨Nat.le_of_ble_eq_true rfl, Nat.le_of_ble_eq_true rfl⟩ d_X1_init_74 (fun u H locs hu hw => ?_)
  obtain ⟨cf_15, rfl⟩ : ∃ z : Nat → va_E, z = u := ⟨_, rfl⟩
  have hu : ∀ i, cf_15 i = cf_14 i := hu
  have hc_7 : cf_15 7 = .inr (1, [.ref (bs + 8), .ref (bs + 10), .int 0, .int 0, .ref (bs + 15), .int 0, .ref (bs + 16), .int 0, .int 0, .int 0]) := (hu _).trans hc_7
  have hc_15 : cf_15 15 = .inl (cy 15, 6, .inr (.inr (.inr (.inr (va_up (fun _ => none) 0 (some (bs + 17))))))) := (hu _).trans hc_15
  have hc_16 : cf_15 16 = .inl (cy 15, 6, .inr (.inr (.inr (.inr (fun _ => none))))) := (hu _).trans hc_16
  have hc_18 : cf_15 18 = .inr (7, [.int 0, .int 0, .int 0, .int 0, .int 0, .int 0]) := (hu _).trans hc_18
  have hlow : ∀ i, i < 7 → cf_15 i = cf i := fun i h => (hu i).trans (hlow i h)
  have hdone : ∀ i, 7 < i → i < 19 → i ≠ 15 → i ≠ 16 → i ≠ 18 → cf_15 i = ce (GB D bs cy tD tR) (s0 i) i := fun i h1 h2 p_15 p_16 p_18 => (hu i).trans (hdone i h1 h2 p_15 p_16 p_18)
  have hw : CW D cy bs 19 [(cy 12, .int), (cy 15, .object "GameLoom$Rule")] cf_15 s H _ 11 := k_tys [0, 1] hw rfl
  refine W.eq (g2 := F0 m 77 ls [.ref (bs + 18), .int 0, .ref (bs + 16)]) rfl ?_
  refine k_astq (k := 15) (ci := 7) (q := 18) 1 X hw (by decide) hc_16 rfl (by decide) hc_18 rfl (by unfold vp_in; decide) d_X1_init_77 (fun H locs hw => ?_)
  have hw : CW D cy bs 19 [(cy 12, .int), (cy 15, .object "GameLoom$Rule")] (va_up cf_15 16 (.inl (cy 15, 6, .inr (.inr (.inr (.inr (va_up (fun _ => none) 0 (some (bs + 18))))))))) s H _ 11 := hw
  obtain ⟨cf_16, e_cf_16⟩ : ∃ z : Nat → va_E, z = va_up cf_15 16 (.inl (cy 15, 6, .inr (.inr (.inr (.inr (va_up (fun _ => none) 0 (some (bs + 18)))))))) := ⟨_, rfl⟩
  rw [← e_cf_16] at hw
  have hlow : ∀ i, i < 7 → cf_16 i = cf i := fun i h => by rw [e_cf_16]; exact (vu_ne (by omega)).trans (hlow i h)
  have hc_7 : cf_16 7 = .inr (1, [.ref (bs + 8), .ref (bs + 10), .int 0, .int 0, .ref (bs + 15), .int 0, .ref (bs + 16), .int 0, .int 0, .int 0]) := by rw [e_cf_16]; exact (vu_ne (by decide)).trans hc_7
  have hc_15 : cf_16 15 = .inl (cy 15, 6, .inr (.inr (.inr (.inr (va_up (fun _ => none) 0 (some (bs + 17))))))) := by rw [e_cf_16]; exact (vu_ne (by decide)).trans hc_15
  have hc_16 : cf_16 16 = .inl (cy 15, 6, .inr (.inr (.inr (.inr (va_up (fun _ => none) 0 (some (bs + 18))))))) := by rw [e_cf_16]; exact vu_at
  have hc_18 : cf_16 18 = .inr (7, [.int 0, .int 0, .int 0, .int 0, .int 0, .int 0]) := by rw [e_cf_16]; exact (vu_ne (by decide)).trans hc_18
  have hdone : ∀ i, 7 < i → i < 19 → i ≠ 15 → i ≠ 16 → i ≠ 18 → cf_16 i = ce (GB D bs cy tD tR) (s0 i) i := fun i h1 h2 p_15 p_16 p_18 => by rw [e_cf_16]; exact (vu_ne (by omega)).trans (hdone i h1 h2 p_15 p_16 p_18)
  have hdone : ∀ i, 7 < i → i < 19 → i ≠ 15 → i ≠ 16 → cf_16 i = ce (GB D bs cy tD tR) (s0 i) i := fun i h1 h2 p_15 p_16 => by
    by_cases p_18 : i = 18
    · subst p_18; exact hc_18.trans rfl
    · exact hdone i h1 h2 p_15 p_16 p_18
  refine lv_iinc (v := 1) (lv' := [(1, .int 1), (0, .ref (bs + 7))]) X.1 X.2.1 d_X1_init_78 hl (k := 0) rfl (by decide) (by decide) rfl (fun ls hl => ?_)
  refine lv_goto (tgt := 46) X.1 X.2.1 d_X1_init_81 (by decide) ?_
  refine lv_iload_n X.1 X.2.1 d_X1_init_46 rfl (lv_at hl 0 rfl) ?_
  refine lv_bipush (v := 6) X.1 X.2.1 d_X1_init_47 (by decide) ?_
  refine lv_icmp_ge (tgt := 84) X.1 X.2.1 d_X1_init_49 (by decide) (fun q9 => ?_) (fun q9 => ?_)
  · exact absurd q9 (by decide)
  refine lv_aload_n X.1 X.2.1 d_X1_init_52 rfl (lv_at hl 1 rfl) ?_
  refine k_get (ci := 1) (n := 10) (k := 4) (v := .ref (bs + 15)) X hw (by decide) hc_7 ni1 rfl (by decide) tb_163 rfl rfl d_X1_init_53 ?_
  refine lv_iload_n X.1 X.2.1 d_X1_init_56 rfl (lv_at hl 0 rfl) ?_
  refine k_new (ci := 7) (n := 6) (fs := [.int 0, .int 0, .int 0, .int 0, .int 0, .int 0]) nty7 X hw ni7 nk7 rfl tb_119 tb_121 tb_6 (by intro j hj; have : j < 6 := hj; rcases (show j = 0 ∨ j = 1 ∨ j = 2 ∨ j = 3 ∨ j = 4 ∨ j = 5 by omega) with rfl | rfl | rfl | rfl | rfl | rfl <;> rfl) (Nat.le_of_ble_eq_true rfl) (Nat.le_of_ble_eq_true rfl) d_X1_init_57 (fun H hw => ?_)
  obtain ⟨cf_17, e_cf_17⟩ : ∃ z : Nat → va_E, z = va_up cf_16 19 (.inr (7, [.int 0, .int 0, .int 0, .int 0, .int 0, .int 0])) := ⟨_, rfl⟩
  rw [← e_cf_17] at hw
  have hlow : ∀ i, i < 7 → cf_17 i = cf i := fun i h => by rw [e_cf_17]; exact (vu_ne (by omega)).trans (hlow i h)
  have hc_7 : cf_17 7 = .inr (1, [.ref (bs + 8), .ref (bs + 10), .int 0, .int 0, .ref (bs + 15), .int 0, .ref (bs + 16), .int 0, .int 0, .int 0]) := by rw [e_cf_17]; exact (vu_ne (by decide)).trans hc_7
  have hc_15 : cf_17 15 = .inl (cy 15, 6, .inr (.inr (.inr (.inr (va_up (fun _ => none) 0 (some (bs + 17))))))) := by rw [e_cf_17]; exact (vu_ne (by decide)).trans hc_15
  have hc_16 : cf_17 16 = .inl (cy 15, 6, .inr (.inr (.inr (.inr (va_up (fun _ => none) 0 (some (bs + 18))))))) := by rw [e_cf_17]; exact (vu_ne (by decide)).trans hc_16
  have hc_19 : cf_17 19 = .inr (7, [.int 0, .int 0, .int 0, .int 0, .int 0, .int 0]) := by rw [e_cf_17]; exact vu_at
  have hdone : ∀ i, 7 < i → i < 20 → i ≠ 15 → i ≠ 16 → i ≠ 19 → cf_17 i = ce (GB D bs cy tD tR) (s0 i) i := fun i h1 h2 p_15 p_16 p_19 => by rw [e_cf_17]; exact (vu_ne (by omega)).trans (hdone i h1 (by omega) p_15 p_16)
  have hw : CW D cy bs 20 [(cy 12, .int), (cy 15, .object "GameLoom$Rule")] cf_17 s H _ 12 := hw
  refine W.eq (g2 := F0 m 60 ls [.ref (bs + 19), .int 1, .ref (bs + 15)]) rfl ?_
  refine lv_dup X.1 X.2.1 d_X1_init_60 rfl ?_
  refine k_callN (rest := [.ref (bs + 19), .int 1, .ref (bs + 15)]) (As := []) X hw (kt_X7_init l D cy bs 20 cf_17 19 (by decide)) rfl hw.2.2.2.2.2.1.2.2.2.2.1 tb_123 tb_6 tb_124 rfl hdc_X7_init ⟨rfl, rfl⟩ ⟨Nat.le_of_ble_eq_true rfl, Nat.le_of_ble_eq_true rfl⟩ rfl hl.1 rfl (Nat.le_of_ble_eq_true rfl) ⟨Nat.le_of_ble_eq_true rfl, Nat.le_of_ble_eq_true rfl⟩ d_X1_init_61 (fun u H locs hu hw => ?_)
  obtain ⟨cf_18, rfl⟩ : ∃ z : Nat → va_E, z = u := ⟨_, rfl⟩
  have hu : ∀ i, cf_18 i = cf_17 i := hu
  have hc_7 : cf_18 7 = .inr (1, [.ref (bs + 8), .ref (bs + 10), .int 0, .int 0, .ref (bs + 15), .int 0, .ref (bs + 16), .int 0, .int 0, .int 0]) := (hu _).trans hc_7
  have hc_15 : cf_18 15 = .inl (cy 15, 6, .inr (.inr (.inr (.inr (va_up (fun _ => none) 0 (some (bs + 17))))))) := (hu _).trans hc_15
  have hc_16 : cf_18 16 = .inl (cy 15, 6, .inr (.inr (.inr (.inr (va_up (fun _ => none) 0 (some (bs + 18))))))) := (hu _).trans hc_16
  have hc_19 : cf_18 19 = .inr (7, [.int 0, .int 0, .int 0, .int 0, .int 0, .int 0]) := (hu _).trans hc_19
  have hlow : ∀ i, i < 7 → cf_18 i = cf i := fun i h => (hu i).trans (hlow i h)
  have hdone : ∀ i, 7 < i → i < 20 → i ≠ 15 → i ≠ 16 → i ≠ 19 → cf_18 i = ce (GB D bs cy tD tR) (s0 i) i := fun i h1 h2 p_15 p_16 p_19 => (hu i).trans (hdone i h1 h2 p_15 p_16 p_19)
  have hw : CW D cy bs 20 [(cy 12, .int), (cy 15, .object "GameLoom$Rule")] cf_18 s H _ 12 := k_tys [0, 1] hw rfl
  refine W.eq (g2 := F0 m 64 ls [.ref (bs + 19), .int 1, .ref (bs + 15)]) rfl ?_
  refine k_astq (k := 15) (ci := 7) (q := 19) 1 X hw (by decide) hc_15 rfl (by decide) hc_19 rfl (by unfold vp_in; decide) d_X1_init_64 (fun H locs hw => ?_)
  have hw : CW D cy bs 20 [(cy 12, .int), (cy 15, .object "GameLoom$Rule")] (va_up cf_18 15 (.inl (cy 15, 6, .inr (.inr (.inr (.inr (va_up (va_up (fun _ => none) 0 (some (bs + 17))) 1 (some (bs + 19))))))))) s H _ 12 := hw
  obtain ⟨cf_19, e_cf_19⟩ : ∃ z : Nat → va_E, z = va_up cf_18 15 (.inl (cy 15, 6, .inr (.inr (.inr (.inr (va_up (va_up (fun _ => none) 0 (some (bs + 17))) 1 (some (bs + 19)))))))) := ⟨_, rfl⟩
  rw [← e_cf_19] at hw
  have hlow : ∀ i, i < 7 → cf_19 i = cf i := fun i h => by rw [e_cf_19]; exact (vu_ne (by omega)).trans (hlow i h)
  have hc_7 : cf_19 7 = .inr (1, [.ref (bs + 8), .ref (bs + 10), .int 0, .int 0, .ref (bs + 15), .int 0, .ref (bs + 16), .int 0, .int 0, .int 0]) := by rw [e_cf_19]; exact (vu_ne (by decide)).trans hc_7
  have hc_15 : cf_19 15 = .inl (cy 15, 6, .inr (.inr (.inr (.inr (va_up (va_up (fun _ => none) 0 (some (bs + 17))) 1 (some (bs + 19))))))) := by rw [e_cf_19]; exact vu_at
  have hc_16 : cf_19 16 = .inl (cy 15, 6, .inr (.inr (.inr (.inr (va_up (fun _ => none) 0 (some (bs + 18))))))) := by rw [e_cf_19]; exact (vu_ne (by decide)).trans hc_16
  have hc_19 : cf_19 19 = .inr (7, [.int 0, .int 0, .int 0, .int 0, .int 0, .int 0]) := by rw [e_cf_19]; exact (vu_ne (by decide)).trans hc_19
  have hdone : ∀ i, 7 < i → i < 20 → i ≠ 15 → i ≠ 16 → i ≠ 19 → cf_19 i = ce (GB D bs cy tD tR) (s0 i) i := fun i h1 h2 p_15 p_16 p_19 => by rw [e_cf_19]; exact (vu_ne (by omega)).trans (hdone i h1 h2 p_15 p_16 p_19)
  have hdone : ∀ i, 7 < i → i < 20 → i ≠ 15 → i ≠ 16 → cf_19 i = ce (GB D bs cy tD tR) (s0 i) i := fun i h1 h2 p_15 p_16 => by
    by_cases p_19 : i = 19
    · subst p_19; exact hc_19.trans rfl
    · exact hdone i h1 h2 p_15 p_16 p_19
  refine lv_aload_n X.1 X.2.1 d_X1_init_65 rfl (lv_at hl 1 rfl) ?_
  refine k_get (ci := 1) (n := 10) (k := 6) (v := .ref (bs + 16)) X hw (by decide) hc_7 ni1 rfl (by decide) tb_171 rfl rfl d_X1_init_66 ?_
  refine lv_iload_n X.1 X.2.1 d_X1_init_69 rfl (lv_at hl 0 rfl) ?_
  refine k_new (ci := 7) (n := 6) (fs := [.int 0, .int 0, .int 0, .int 0, .int 0, .int 0]) nty7 X hw ni7 nk7 rfl tb_119 tb_121 tb_6 (by intro j hj; have : j < 6 := hj; rcases (show j = 0 ∨ j = 1 ∨ j = 2 ∨ j = 3 ∨ j = 4 ∨ j = 5 by omega) with rfl | rfl | rfl | rfl | rfl | rfl <;> rfl) (Nat.le_of_ble_eq_true rfl) (Nat.le_of_ble_eq_true rfl) d_X1_init_70 (fun H hw => ?_)
  obtain ⟨cf_20, e_cf_20⟩ : ∃ z : Nat → va_E, z = va_up cf_19 20 (.inr (7, [.int 0, .int 0, .int 0, .int 0, .int 0, .int 0])) := ⟨_, rfl⟩
  rw [← e_cf_20] at hw
  have hlow : ∀ i, i < 7 → cf_20 i = cf i := fun i h => by rw [e_cf_20]; exact (vu_ne (by omega)).trans (hlow i h)
  have hc_7 : cf_20 7 = .inr (1, [.ref (bs + 8), .ref (bs + 10), .int 0, .int 0, .ref (bs + 15), .int 0, .ref (bs + 16), .int 0, .int 0, .int 0]) := by rw [e_cf_20]; exact (vu_ne (by decide)).trans hc_7
  have hc_15 : cf_20 15 = .inl (cy 15, 6, .inr (.inr (.inr (.inr (va_up (va_up (fun _ => none) 0 (some (bs + 17))) 1 (some (bs + 19))))))) := by rw [e_cf_20]; exact (vu_ne (by decide)).trans hc_15
  have hc_16 : cf_20 16 = .inl (cy 15, 6, .inr (.inr (.inr (.inr (va_up (fun _ => none) 0 (some (bs + 18))))))) := by rw [e_cf_20]; exact (vu_ne (by decide)).trans hc_16
  have hc_20 : cf_20 20 = .inr (7, [.int 0, .int 0, .int 0, .int 0, .int 0, .int 0]) := by rw [e_cf_20]; exact vu_at
  have hdone : ∀ i, 7 < i → i < 21 → i ≠ 15 → i ≠ 16 → i ≠ 20 → cf_20 i = ce (GB D bs cy tD tR) (s0 i) i := fun i h1 h2 p_15 p_16 p_20 => by rw [e_cf_20]; exact (vu_ne (by omega)).trans (hdone i h1 (by omega) p_15 p_16)
  have hw : CW D cy bs 21 [(cy 12, .int), (cy 15, .object "GameLoom$Rule")] cf_20 s H _ 13 := hw
  refine W.eq (g2 := F0 m 73 ls [.ref (bs + 20), .int 1, .ref (bs + 16)]) rfl ?_
  refine lv_dup X.1 X.2.1 d_X1_init_73 rfl ?_
  refine k_callN (rest := [.ref (bs + 20), .int 1, .ref (bs + 16)]) (As := []) X hw (kt_X7_init l D cy bs 21 cf_20 20 (by decide)) rfl hw.2.2.2.2.2.1.2.2.2.2.1 tb_123 tb_6 tb_124 rfl hdc_X7_init ⟨rfl, rfl⟩ ⟨Nat.le_of_ble_eq_true rfl, Nat.le_of_ble_eq_true rfl⟩ rfl hl.1 rfl (Nat.le_of_ble_eq_true rfl) ⟨Nat.le_of_ble_eq_true rfl, Nat.le_of_ble_eq_true rfl⟩ d_X1_init_74 (fun u H locs hu hw => ?_)
  obtain ⟨cf_21, rfl⟩ : ∃ z : Nat → va_E, z = u := ⟨_, rfl⟩
  have hu : ∀ i, cf_21 i = cf_20 i := hu
  have hc_7 : cf_21 7 = .inr (1, [.ref (bs + 8), .ref (bs + 10), .int 0, .int 0, .ref (bs + 15), .int 0, .ref (bs + 16), .int 0, .int 0, .int 0]) := (hu _).trans hc_7
  have hc_15 : cf_21 15 = .inl (cy 15, 6, .inr (.inr (.inr (.inr (va_up (va_up (fun _ => none) 0 (some (bs + 17))) 1 (some (bs + 19))))))) := (hu _).trans hc_15
  have hc_16 : cf_21 16 = .inl (cy 15, 6, .inr (.inr (.inr (.inr (va_up (fun _ => none) 0 (some (bs + 18))))))) := (hu _).trans hc_16
  have hc_20 : cf_21 20 = .inr (7, [.int 0, .int 0, .int 0, .int 0, .int 0, .int 0]) := (hu _).trans hc_20
  have hlow : ∀ i, i < 7 → cf_21 i = cf i := fun i h => (hu i).trans (hlow i h)
  have hdone : ∀ i, 7 < i → i < 21 → i ≠ 15 → i ≠ 16 → i ≠ 20 → cf_21 i = ce (GB D bs cy tD tR) (s0 i) i := fun i h1 h2 p_15 p_16 p_20 => (hu i).trans (hdone i h1 h2 p_15 p_16 p_20)
  have hw : CW D cy bs 21 [(cy 12, .int), (cy 15, .object "GameLoom$Rule")] cf_21 s H _ 13 := k_tys [0, 1] hw rfl
  refine W.eq (g2 := F0 m 77 ls [.ref (bs + 20), .int 1, .ref (bs + 16)]) rfl ?_
  refine k_astq (k := 15) (ci := 7) (q := 20) 1 X hw (by decide) hc_16 rfl (by decide) hc_20 rfl (by unfold vp_in; decide) d_X1_init_77 (fun H locs hw => ?_)
  have hw : CW D cy bs 21 [(cy 12, .int), (cy 15, .object "GameLoom$Rule")] (va_up cf_21 16 (.inl (cy 15, 6, .inr (.inr (.inr (.inr (va_up (va_up (fun _ => none) 0 (some (bs + 18))) 1 (some (bs + 20))))))))) s H _ 13 := hw
  obtain ⟨cf_22, e_cf_22⟩ : ∃ z : Nat → va_E, z = va_up cf_21 16 (.inl (cy 15, 6, .inr (.inr (.inr (.inr (va_up (va_up (fun _ => none) 0 (some (bs + 18))) 1 (some (bs + 20)))))))) := ⟨_, rfl⟩
  rw [← e_cf_22] at hw
  have hlow : ∀ i, i < 7 → cf_22 i = cf i := fun i h => by rw [e_cf_22]; exact (vu_ne (by omega)).trans (hlow i h)
  have hc_7 : cf_22 7 = .inr (1, [.ref (bs + 8), .ref (bs + 10), .int 0, .int 0, .ref (bs + 15), .int 0, .ref (bs + 16), .int 0, .int 0, .int 0]) := by rw [e_cf_22]; exact (vu_ne (by decide)).trans hc_7
  have hc_15 : cf_22 15 = .inl (cy 15, 6, .inr (.inr (.inr (.inr (va_up (va_up (fun _ => none) 0 (some (bs + 17))) 1 (some (bs + 19))))))) := by rw [e_cf_22]; exact (vu_ne (by decide)).trans hc_15
  have hc_16 : cf_22 16 = .inl (cy 15, 6, .inr (.inr (.inr (.inr (va_up (va_up (fun _ => none) 0 (some (bs + 18))) 1 (some (bs + 20))))))) := by rw [e_cf_22]; exact vu_at
  have hc_20 : cf_22 20 = .inr (7, [.int 0, .int 0, .int 0, .int 0, .int 0, .int 0]) := by rw [e_cf_22]; exact (vu_ne (by decide)).trans hc_20
  have hdone : ∀ i, 7 < i → i < 21 → i ≠ 15 → i ≠ 16 → i ≠ 20 → cf_22 i = ce (GB D bs cy tD tR) (s0 i) i := fun i h1 h2 p_15 p_16 p_20 => by rw [e_cf_22]; exact (vu_ne (by omega)).trans (hdone i h1 h2 p_15 p_16 p_20)
  have hdone : ∀ i, 7 < i → i < 21 → i ≠ 15 → i ≠ 16 → cf_22 i = ce (GB D bs cy tD tR) (s0 i) i := fun i h1 h2 p_15 p_16 => by
    by_cases p_20 : i = 20
    · subst p_20; exact hc_20.trans rfl
    · exact hdone i h1 h2 p_15 p_16 p_20
  refine lv_iinc (v := 2) (lv' := [(1, .int 2), (0, .ref (bs + 7))]) X.1 X.2.1 d_X1_init_78 hl (k := 0) rfl (by decide) (by decide) rfl (fun ls hl => ?_)
  refine lv_goto (tgt := 46) X.1 X.2.1 d_X1_init_81 (by decide) ?_
  refine lv_iload_n X.1 X.2.1 d_X1_init_46 rfl (lv_at hl 0 rfl) ?_
  refine lv_bipush (v := 6) X.1 X.2.1 d_X1_init_47 (by decide) ?_
  refine lv_icmp_ge (tgt := 84) X.1 X.2.1 d_X1_init_49 (by decide) (fun q9 => ?_) (fun q9 => ?_)
  · exact absurd q9 (by decide)
  refine lv_aload_n X.1 X.2.1 d_X1_init_52 rfl (lv_at hl 1 rfl) ?_
  refine k_get (ci := 1) (n := 10) (k := 4) (v := .ref (bs + 15)) X hw (by decide) hc_7 ni1 rfl (by decide) tb_163 rfl rfl d_X1_init_53 ?_
  refine lv_iload_n X.1 X.2.1 d_X1_init_56 rfl (lv_at hl 0 rfl) ?_
  refine k_new (ci := 7) (n := 6) (fs := [.int 0, .int 0, .int 0, .int 0, .int 0, .int 0]) nty7 X hw ni7 nk7 rfl tb_119 tb_121 tb_6 (by intro j hj; have : j < 6 := hj; rcases (show j = 0 ∨ j = 1 ∨ j = 2 ∨ j = 3 ∨ j = 4 ∨ j = 5 by omega) with rfl | rfl | rfl | rfl | rfl | rfl <;> rfl) (Nat.le_of_ble_eq_true rfl) (Nat.le_of_ble_eq_true rfl) d_X1_init_57 (fun H hw => ?_)
  obtain ⟨cf_23, e_cf_23⟩ : ∃ z : Nat → va_E, z = va_up cf_22 21 (.inr (7, [.int 0, .int 0, .int 0, .int 0, .int 0, .int 0])) := ⟨_, rfl⟩
  rw [← e_cf_23] at hw
  have hlow : ∀ i, i < 7 → cf_23 i = cf i := fun i h => by rw [e_cf_23]; exact (vu_ne (by omega)).trans (hlow i h)
  have hc_7 : cf_23 7 = .inr (1, [.ref (bs + 8), .ref (bs + 10), .int 0, .int 0, .ref (bs + 15), .int 0, .ref (bs + 16), .int 0, .int 0, .int 0]) := by rw [e_cf_23]; exact (vu_ne (by decide)).trans hc_7
  have hc_15 : cf_23 15 = .inl (cy 15, 6, .inr (.inr (.inr (.inr (va_up (va_up (fun _ => none) 0 (some (bs + 17))) 1 (some (bs + 19))))))) := by rw [e_cf_23]; exact (vu_ne (by decide)).trans hc_15
  have hc_16 : cf_23 16 = .inl (cy 15, 6, .inr (.inr (.inr (.inr (va_up (va_up (fun _ => none) 0 (some (bs + 18))) 1 (some (bs + 20))))))) := by rw [e_cf_23]; exact (vu_ne (by decide)).trans hc_16
  have hc_21 : cf_23 21 = .inr (7, [.int 0, .int 0, .int 0, .int 0, .int 0, .int 0]) := by rw [e_cf_23]; exact vu_at
  have hdone : ∀ i, 7 < i → i < 22 → i ≠ 15 → i ≠ 16 → i ≠ 21 → cf_23 i = ce (GB D bs cy tD tR) (s0 i) i := fun i h1 h2 p_15 p_16 p_21 => by rw [e_cf_23]; exact (vu_ne (by omega)).trans (hdone i h1 (by omega) p_15 p_16)
  have hw : CW D cy bs 22 [(cy 12, .int), (cy 15, .object "GameLoom$Rule")] cf_23 s H _ 14 := hw
  refine W.eq (g2 := F0 m 60 ls [.ref (bs + 21), .int 2, .ref (bs + 15)]) rfl ?_
  refine lv_dup X.1 X.2.1 d_X1_init_60 rfl ?_
  refine k_callN (rest := [.ref (bs + 21), .int 2, .ref (bs + 15)]) (As := []) X hw (kt_X7_init l D cy bs 22 cf_23 21 (by decide)) rfl hw.2.2.2.2.2.1.2.2.2.2.1 tb_123 tb_6 tb_124 rfl hdc_X7_init ⟨rfl, rfl⟩ ⟨Nat.le_of_ble_eq_true rfl, Nat.le_of_ble_eq_true rfl⟩ rfl hl.1 rfl (Nat.le_of_ble_eq_true rfl) ⟨Nat.le_of_ble_eq_true rfl, Nat.le_of_ble_eq_true rfl⟩ d_X1_init_61 (fun u H locs hu hw => ?_)
  obtain ⟨cf_24, rfl⟩ : ∃ z : Nat → va_E, z = u := ⟨_, rfl⟩
  have hu : ∀ i, cf_24 i = cf_23 i := hu
  have hc_7 : cf_24 7 = .inr (1, [.ref (bs + 8), .ref (bs + 10), .int 0, .int 0, .ref (bs + 15), .int 0, .ref (bs + 16), .int 0, .int 0, .int 0]) := (hu _).trans hc_7
  have hc_15 : cf_24 15 = .inl (cy 15, 6, .inr (.inr (.inr (.inr (va_up (va_up (fun _ => none) 0 (some (bs + 17))) 1 (some (bs + 19))))))) := (hu _).trans hc_15
  have hc_16 : cf_24 16 = .inl (cy 15, 6, .inr (.inr (.inr (.inr (va_up (va_up (fun _ => none) 0 (some (bs + 18))) 1 (some (bs + 20))))))) := (hu _).trans hc_16
  have hc_21 : cf_24 21 = .inr (7, [.int 0, .int 0, .int 0, .int 0, .int 0, .int 0]) := (hu _).trans hc_21
  have hlow : ∀ i, i < 7 → cf_24 i = cf i := fun i h => (hu i).trans (hlow i h)
  have hdone : ∀ i, 7 < i → i < 22 → i ≠ 15 → i ≠ 16 → i ≠ 21 → cf_24 i = ce (GB D bs cy tD tR) (s0 i) i := fun i h1 h2 p_15 p_16 p_21 => (hu i).trans (hdone i h1 h2 p_15 p_16 p_21)
  have hw : CW D cy bs 22 [(cy 12, .int), (cy 15, .object "GameLoom$Rule")] cf_24 s H _ 14 := k_tys [0, 1] hw rfl
  refine W.eq (g2 := F0 m 64 ls [.ref (bs + 21), .int 2, .ref (bs + 15)]) rfl ?_
  refine k_astq (k := 15) (ci := 7) (q := 21) 1 X hw (by decide) hc_15 rfl (by decide) hc_21 rfl (by unfold vp_in; decide) d_X1_init_64 (fun H locs hw => ?_)
  have hw : CW D cy bs 22 [(cy 12, .int), (cy 15, .object "GameLoom$Rule")] (va_up cf_24 15 (.inl (cy 15, 6, .inr (.inr (.inr (.inr (va_up (va_up (va_up (fun _ => none) 0 (some (bs + 17))) 1 (some (bs + 19))) 2 (some (bs + 21))))))))) s H _ 14 := hw
  obtain ⟨cf_25, e_cf_25⟩ : ∃ z : Nat → va_E, z = va_up cf_24 15 (.inl (cy 15, 6, .inr (.inr (.inr (.inr (va_up (va_up (va_up (fun _ => none) 0 (some (bs + 17))) 1 (some (bs + 19))) 2 (some (bs + 21)))))))) := ⟨_, rfl⟩
  rw [← e_cf_25] at hw
  have hlow : ∀ i, i < 7 → cf_25 i = cf i := fun i h => by rw [e_cf_25]; exact (vu_ne (by omega)).trans (hlow i h)
  have hc_7 : cf_25 7 = .inr (1, [.ref (bs + 8), .ref (bs + 10), .int 0, .int 0, .ref (bs + 15), .int 0, .ref (bs + 16), .int 0, .int 0, .int 0]) := by rw [e_cf_25]; exact (vu_ne (by decide)).trans hc_7
  have hc_15 : cf_25 15 = .inl (cy 15, 6, .inr (.inr (.inr (.inr (va_up (va_up (va_up (fun _ => none) 0 (some (bs + 17))) 1 (some (bs + 19))) 2 (some (bs + 21))))))) := by rw [e_cf_25]; exact vu_at
  have hc_16 : cf_25 16 = .inl (cy 15, 6, .inr (.inr (.inr (.inr (va_up (va_up (fun _ => none) 0 (some (bs + 18))) 1 (some (bs + 20))))))) := by rw [e_cf_25]; exact (vu_ne (by decide)).trans hc_16
  have hc_21 : cf_25 21 = .inr (7, [.int 0, .int 0, .int 0, .int 0, .int 0, .int 0]) := by rw [e_cf_25]; exact (vu_ne (by decide)).trans hc_21
  have hdone : ∀ i, 7 < i → i < 22 → i ≠ 15 → i ≠ 16 → i ≠ 21 → cf_25 i = ce (GB D bs cy tD tR) (s0 i) i := fun i h1 h2 p_15 p_16 p_21 => by rw [e_cf_25]; exact (vu_ne (by omega)).trans (hdone i h1 h2 p_15 p_16 p_21)
  have hdone : ∀ i, 7 < i → i < 22 → i ≠ 15 → i ≠ 16 → cf_25 i = ce (GB D bs cy tD tR) (s0 i) i := fun i h1 h2 p_15 p_16 => by
    by_cases p_21 : i = 21
    · subst p_21; exact hc_21.trans rfl
    · exact hdone i h1 h2 p_15 p_16 p_21
  refine lv_aload_n X.1 X.2.1 d_X1_init_65 rfl (lv_at hl 1 rfl) ?_
  refine k_get (ci := 1) (n := 10) (k := 6) (v := .ref (bs + 16)) X hw (by decide) hc_7 ni1 rfl (by decide) tb_171 rfl rfl d_X1_init_66 ?_
  refine lv_iload_n X.1 X.2.1 d_X1_init_69 rfl (lv_at hl 0 rfl) ?_
  refine k_new (ci := 7) (n := 6) (fs := [.int 0, .int 0, .int 0, .int 0, .int 0, .int 0]) nty7 X hw ni7 nk7 rfl tb_119 tb_121 tb_6 (by intro j hj; have : j < 6 := hj; rcases (show j = 0 ∨ j = 1 ∨ j = 2 ∨ j = 3 ∨ j = 4 ∨ j = 5 by omega) with rfl | rfl | rfl | rfl | rfl | rfl <;> rfl) (Nat.le_of_ble_eq_true rfl) (Nat.le_of_ble_eq_true rfl) d_X1_init_70 (fun H hw => ?_)
  obtain ⟨cf_26, e_cf_26⟩ : ∃ z : Nat → va_E, z = va_up cf_25 22 (.inr (7, [.int 0, .int 0, .int 0, .int 0, .int 0, .int 0])) := ⟨_, rfl⟩
  rw [← e_cf_26] at hw
  have hlow : ∀ i, i < 7 → cf_26 i = cf i := fun i h => by rw [e_cf_26]; exact (vu_ne (by omega)).trans (hlow i h)
  have hc_7 : cf_26 7 = .inr (1, [.ref (bs + 8), .ref (bs + 10), .int 0, .int 0, .ref (bs + 15), .int 0, .ref (bs + 16), .int 0, .int 0, .int 0]) := by rw [e_cf_26]; exact (vu_ne (by decide)).trans hc_7
  have hc_15 : cf_26 15 = .inl (cy 15, 6, .inr (.inr (.inr (.inr (va_up (va_up (va_up (fun _ => none) 0 (some (bs + 17))) 1 (some (bs + 19))) 2 (some (bs + 21))))))) := by rw [e_cf_26]; exact (vu_ne (by decide)).trans hc_15
  have hc_16 : cf_26 16 = .inl (cy 15, 6, .inr (.inr (.inr (.inr (va_up (va_up (fun _ => none) 0 (some (bs + 18))) 1 (some (bs + 20))))))) := by rw [e_cf_26]; exact (vu_ne (by decide)).trans hc_16
  have hc_22 : cf_26 22 = .inr (7, [.int 0, .int 0, .int 0, .int 0, .int 0, .int 0]) := by rw [e_cf_26]; exact vu_at
  have hdone : ∀ i, 7 < i → i < 23 → i ≠ 15 → i ≠ 16 → i ≠ 22 → cf_26 i = ce (GB D bs cy tD tR) (s0 i) i := fun i h1 h2 p_15 p_16 p_22 => by rw [e_cf_26]; exact (vu_ne (by omega)).trans (hdone i h1 (by omega) p_15 p_16)
  have hw : CW D cy bs 23 [(cy 12, .int), (cy 15, .object "GameLoom$Rule")] cf_26 s H _ 15 := hw
  refine W.eq (g2 := F0 m 73 ls [.ref (bs + 22), .int 2, .ref (bs + 16)]) rfl ?_
  refine lv_dup X.1 X.2.1 d_X1_init_73 rfl ?_
  refine k_callN (rest := [.ref (bs + 22), .int 2, .ref (bs + 16)]) (As := []) X hw (kt_X7_init l D cy bs 23 cf_26 22 (by decide)) rfl hw.2.2.2.2.2.1.2.2.2.2.1 tb_123 tb_6 tb_124 rfl hdc_X7_init ⟨rfl, rfl⟩ ⟨Nat.le_of_ble_eq_true rfl, Nat.le_of_ble_eq_true rfl⟩ rfl hl.1 rfl (Nat.le_of_ble_eq_true rfl) ⟨Nat.le_of_ble_eq_true rfl, Nat.le_of_ble_eq_true rfl⟩ d_X1_init_74 (fun u H locs hu hw => ?_)
  obtain ⟨cf_27, rfl⟩ : ∃ z : Nat → va_E, z = u := ⟨_, rfl⟩
  have hu : ∀ i, cf_27 i = cf_26 i := hu
  have hc_7 : cf_27 7 = .inr (1, [.ref (bs + 8), .ref (bs + 10), .int 0, .int 0, .ref (bs + 15), .int 0, .ref (bs + 16), .int 0, .int 0, .int 0]) := (hu _).trans hc_7
  have hc_15 : cf_27 15 = .inl (cy 15, 6, .inr (.inr (.inr (.inr (va_up (va_up (va_up (fun _ => none) 0 (some (bs + 17))) 1 (some (bs + 19))) 2 (some (bs + 21))))))) := (hu _).trans hc_15
  have hc_16 : cf_27 16 = .inl (cy 15, 6, .inr (.inr (.inr (.inr (va_up (va_up (fun _ => none) 0 (some (bs + 18))) 1 (some (bs + 20))))))) := (hu _).trans hc_16
  have hc_22 : cf_27 22 = .inr (7, [.int 0, .int 0, .int 0, .int 0, .int 0, .int 0]) := (hu _).trans hc_22
  have hlow : ∀ i, i < 7 → cf_27 i = cf i := fun i h => (hu i).trans (hlow i h)
  have hdone : ∀ i, 7 < i → i < 23 → i ≠ 15 → i ≠ 16 → i ≠ 22 → cf_27 i = ce (GB D bs cy tD tR) (s0 i) i := fun i h1 h2 p_15 p_16 p_22 => (hu i).trans (hdone i h1 h2 p_15 p_16 p_22)
  have hw : CW D cy bs 23 [(cy 12, .int), (cy 15, .object "GameLoom$Rule")] cf_27 s H _ 15 := k_tys [0, 1] hw rfl
  refine W.eq (g2 := F0 m 77 ls [.ref (bs + 22), .int 2, .ref (bs + 16)]) rfl ?_
  refine k_astq (k := 15) (ci := 7) (q := 22) 1 X hw (by decide) hc_16 rfl (by decide) hc_22 rfl (by unfold vp_in; decide) d_X1_init_77 (fun H locs hw => ?_)
  have hw : CW D cy bs 23 [(cy 12, .int), (cy 15, .object "GameLoom$Rule")] (va_up cf_27 16 (.inl (cy 15, 6, .inr (.inr (.inr (.inr (va_up (va_up (va_up (fun _ => none) 0 (some (bs + 18))) 1 (some (bs + 20))) 2 (some (bs + 22))))))))) s H _ 15 := hw
  obtain ⟨cf_28, e_cf_28⟩ : ∃ z : Nat → va_E, z = va_up cf_27 16 (.inl (cy 15, 6, .inr (.inr (.inr (.inr (va_up (va_up (va_up (fun _ => none) 0 (some (bs + 18))) 1 (some (bs + 20))) 2 (some (bs + 22)))))))) := ⟨_, rfl⟩
  rw [← e_cf_28] at hw
  have hlow : ∀ i, i < 7 → cf_28 i = cf i := fun i h => by rw [e_cf_28]; exact (vu_ne (by omega)).trans (hlow i h)
  have hc_7 : cf_28 7 = .inr (1, [.ref (bs + 8), .ref (bs + 10), .int 0, .int 0, .ref (bs + 15), .int 0, .ref (bs + 16), .int 0, .int 0, .int 0]) := by rw [e_cf_28]; exact (vu_ne (by decide)).trans hc_7
  have hc_15 : cf_28 15 = .inl (cy 15, 6, .inr (.inr (.inr (.inr (va_up (va_up (va_up (fun _ => none) 0 (some (bs + 17))) 1 (some (bs + 19))) 2 (some (bs + 21))))))) := by rw [e_cf_28]; exact (vu_ne (by decide)).trans hc_15
  have hc_16 : cf_28 16 = .inl (cy 15, 6, .inr (.inr (.inr (.inr (va_up (va_up (va_up (fun _ => none) 0 (some (bs + 18))) 1 (some (bs + 20))) 2 (some (bs + 22))))))) := by rw [e_cf_28]; exact vu_at
  have hc_22 : cf_28 22 = .inr (7, [.int 0, .int 0, .int 0, .int 0, .int 0, .int 0]) := by rw [e_cf_28]; exact (vu_ne (by decide)).trans hc_22
  have hdone : ∀ i, 7 < i → i < 23 → i ≠ 15 → i ≠ 16 → i ≠ 22 → cf_28 i = ce (GB D bs cy tD tR) (s0 i) i := fun i h1 h2 p_15 p_16 p_22 => by rw [e_cf_28]; exact (vu_ne (by omega)).trans (hdone i h1 h2 p_15 p_16 p_22)
  have hdone : ∀ i, 7 < i → i < 23 → i ≠ 15 → i ≠ 16 → cf_28 i = ce (GB D bs cy tD tR) (s0 i) i := fun i h1 h2 p_15 p_16 => by
    by_cases p_22 : i = 22
    · subst p_22; exact hc_22.trans rfl
    · exact hdone i h1 h2 p_15 p_16 p_22
  refine lv_iinc (v := 3) (lv' := [(1, .int 3), (0, .ref (bs + 7))]) X.1 X.2.1 d_X1_init_78 hl (k := 0) rfl (by decide) (by decide) rfl (fun ls hl => ?_)
  refine lv_goto (tgt := 46) X.1 X.2.1 d_X1_init_81 (by decide) ?_
  refine lv_iload_n X.1 X.2.1 d_X1_init_46 rfl (lv_at hl 0 rfl) ?_
  refine lv_bipush (v := 6) X.1 X.2.1 d_X1_init_47 (by decide) ?_
  refine lv_icmp_ge (tgt := 84) X.1 X.2.1 d_X1_init_49 (by decide) (fun q9 => ?_) (fun q9 => ?_)
  · exact absurd q9 (by decide)
  refine lv_aload_n X.1 X.2.1 d_X1_init_52 rfl (lv_at hl 1 rfl) ?_
  refine k_get (ci := 1) (n := 10) (k := 4) (v := .ref (bs + 15)) X hw (by decide) hc_7 ni1 rfl (by decide) tb_163 rfl rfl d_X1_init_53 ?_
  refine lv_iload_n X.1 X.2.1 d_X1_init_56 rfl (lv_at hl 0 rfl) ?_
  refine k_new (ci := 7) (n := 6) (fs := [.int 0, .int 0, .int 0, .int 0, .int 0, .int 0]) nty7 X hw ni7 nk7 rfl tb_119 tb_121 tb_6 (by intro j hj; have : j < 6 := hj; rcases (show j = 0 ∨ j = 1 ∨ j = 2 ∨ j = 3 ∨ j = 4 ∨ j = 5 by omega) with rfl | rfl | rfl | rfl | rfl | rfl <;> rfl) (Nat.le_of_ble_eq_true rfl) (Nat.le_of_ble_eq_true rfl) d_X1_init_57 (fun H hw => ?_)
  obtain ⟨cf_29, e_cf_29⟩ : ∃ z : Nat → va_E, z = va_up cf_28 23 (.inr (7, [.int 0, .int 0, .int 0, .int 0, .int 0, .int 0])) := ⟨_, rfl⟩
  rw [← e_cf_29] at hw
  have hlow : ∀ i, i < 7 → cf_29 i = cf i := fun i h => by rw [e_cf_29]; exact (vu_ne (by omega)).trans (hlow i h)
  have hc_7 : cf_29 7 = .inr (1, [.ref (bs + 8), .ref (bs + 10), .int 0, .int 0, .ref (bs + 15), .int 0, .ref (bs + 16), .int 0, .int 0, .int 0]) := by rw [e_cf_29]; exact (vu_ne (by decide)).trans hc_7
  have hc_15 : cf_29 15 = .inl (cy 15, 6, .inr (.inr (.inr (.inr (va_up (va_up (va_up (fun _ => none) 0 (some (bs + 17))) 1 (some (bs + 19))) 2 (some (bs + 21))))))) := by rw [e_cf_29]; exact (vu_ne (by decide)).trans hc_15
  have hc_16 : cf_29 16 = .inl (cy 15, 6, .inr (.inr (.inr (.inr (va_up (va_up (va_up (fun _ => none) 0 (some (bs + 18))) 1 (some (bs + 20))) 2 (some (bs + 22))))))) := by rw [e_cf_29]; exact (vu_ne (by decide)).trans hc_16
  have hc_23 : cf_29 23 = .inr (7, [.int 0, .int 0, .int 0, .int 0, .int 0, .int 0]) := by rw [e_cf_29]; exact vu_at
  have hdone : ∀ i, 7 < i → i < 24 → i ≠ 15 → i ≠ 16 → i ≠ 23 → cf_29 i = ce (GB D bs cy tD tR) (s0 i) i := fun i h1 h2 p_15 p_16 p_23 => by rw [e_cf_29]; exact (vu_ne (by omega)).trans (hdone i h1 (by omega) p_15 p_16)
  have hw : CW D cy bs 24 [(cy 12, .int), (cy 15, .object "GameLoom$Rule")] cf_29 s H _ 16 := hw
  refine W.eq (g2 := F0 m 60 ls [.ref (bs + 23), .int 3, .ref (bs + 15)]) rfl ?_
  refine lv_dup X.1 X.2.1 d_X1_init_60 rfl ?_
  refine k_callN (rest := [.ref (bs + 23), .int 3, .ref (bs + 15)]) (As := []) X hw (kt_X7_init l D cy bs 24 cf_29 23 (by decide)) rfl hw.2.2.2.2.2.1.2.2.2.2.1 tb_123 tb_6 tb_124 rfl hdc_X7_init ⟨rfl, rfl⟩ ⟨Nat.le_of_ble_eq_true rfl, Nat.le_of_ble_eq_true rfl⟩ rfl hl.1 rfl (Nat.le_of_ble_eq_true rfl) ⟨Nat.le_of_ble_eq_true rfl, Nat.le_of_ble_eq_true rfl⟩ d_X1_init_61 (fun u H locs hu hw => ?_)
  obtain ⟨cf_30, rfl⟩ : ∃ z : Nat → va_E, z = u := ⟨_, rfl⟩
  have hu : ∀ i, cf_30 i = cf_29 i := hu
  have hc_7 : cf_30 7 = .inr (1, [.ref (bs + 8), .ref (bs + 10), .int 0, .int 0, .ref (bs + 15), .int 0, .ref (bs + 16), .int 0, .int 0, .int 0]) := (hu _).trans hc_7
  have hc_15 : cf_30 15 = .inl (cy 15, 6, .inr (.inr (.inr (.inr (va_up (va_up (va_up (fun _ => none) 0 (some (bs + 17))) 1 (some (bs + 19))) 2 (some (bs + 21))))))) := (hu _).trans hc_15
  have hc_16 : cf_30 16 = .inl (cy 15, 6, .inr (.inr (.inr (.inr (va_up (va_up (va_up (fun _ => none) 0 (some (bs + 18))) 1 (some (bs + 20))) 2 (some (bs + 22))))))) := (hu _).trans hc_16
  have hc_23 : cf_30 23 = .inr (7, [.int 0, .int 0, .int 0, .int 0, .int 0, .int 0]) := (hu _).trans hc_23
  have hlow : ∀ i, i < 7 → cf_30 i = cf i := fun i h => (hu i).trans (hlow i h)
  have hdone : ∀ i, 7 < i → i < 24 → i ≠ 15 → i ≠ 16 → i ≠ 23 → cf_30 i = ce (GB D bs cy tD tR) (s0 i) i := fun i h1 h2 p_15 p_16 p_23 => (hu i).trans (hdone i h1 h2 p_15 p_16 p_23)
  have hw : CW D cy bs 24 [(cy 12, .int), (cy 15, .object "GameLoom$Rule")] cf_30 s H _ 16 := k_tys [0, 1] hw rfl
  refine W.eq (g2 := F0 m 64 ls [.ref (bs + 23), .int 3, .ref (bs + 15)]) rfl ?_
  refine k_astq (k := 15) (ci := 7) (q := 23) 1 X hw (by decide) hc_15 rfl (by decide) hc_23 rfl (by unfold vp_in; decide) d_X1_init_64 (fun H locs hw => ?_)
  have hw : CW D cy bs 24 [(cy 12, .int), (cy 15, .object "GameLoom$Rule")] (va_up cf_30 15 (.inl (cy 15, 6, .inr (.inr (.inr (.inr (va_up (va_up (va_up (va_up (fun _ => none) 0 (some (bs + 17))) 1 (some (bs + 19))) 2 (some (bs + 21))) 3 (some (bs + 23))))))))) s H _ 16 := hw
  obtain ⟨cf_31, e_cf_31⟩ : ∃ z : Nat → va_E, z = va_up cf_30 15 (.inl (cy 15, 6, .inr (.inr (.inr (.inr (va_up (va_up (va_up (va_up (fun _ => none) 0 (some (bs + 17))) 1 (some (bs + 19))) 2 (some (bs + 21))) 3 (some (bs + 23)))))))) := ⟨_, rfl⟩
  rw [← e_cf_31] at hw
  have hlow : ∀ i, i < 7 → cf_31 i = cf i := fun i h => by rw [e_cf_31]; exact (vu_ne (by omega)).trans (hlow i h)
  have hc_7 : cf_31 7 = .inr (1, [.ref (bs + 8), .ref (bs + 10), .int 0, .int 0, .ref (bs + 15), .int 0, .ref (bs + 16), .int 0, .int 0, .int 0]) := by rw [e_cf_31]; exact (vu_ne (by decide)).trans hc_7
  have hc_15 : cf_31 15 = .inl (cy 15, 6, .inr (.inr (.inr (.inr (va_up (va_up (va_up (va_up (fun _ => none) 0 (some (bs + 17))) 1 (some (bs + 19))) 2 (some (bs + 21))) 3 (some (bs + 23))))))) := by rw [e_cf_31]; exact vu_at
  have hc_16 : cf_31 16 = .inl (cy 15, 6, .inr (.inr (.inr (.inr (va_up (va_up (va_up (fun _ => none) 0 (some (bs + 18))) 1 (some (bs + 20))) 2 (some (bs + 22))))))) := by rw [e_cf_31]; exact (vu_ne (by decide)).trans hc_16
  have hc_23 : cf_31 23 = .inr (7, [.int 0, .int 0, .int 0, .int 0, .int 0, .int 0]) := by rw [e_cf_31]; exact (vu_ne (by decide)).trans hc_23
  have hdone : ∀ i, 7 < i → i < 24 → i ≠ 15 → i ≠ 16 → i ≠ 23 → cf_31 i = ce (GB D bs cy tD tR) (s0 i) i := fun i h1 h2 p_15 p_16 p_23 => by rw [e_cf_31]; exact (vu_ne (by omega)).trans (hdone i h1 h2 p_15 p_16 p_23)
  have hdone : ∀ i, 7 < i → i < 24 → i ≠ 15 → i ≠ 16 → cf_31 i = ce (GB D bs cy tD tR) (s0 i) i := fun i h1 h2 p_15 p_16 => by
    by_cases p_23 : i = 23
    · subst p_23; exact hc_23.trans rfl
    · exact hdone i h1 h2 p_15 p_16 p_23
  refine lv_aload_n X.1 X.2.1 d_X1_init_65 rfl (lv_at hl 1 rfl) ?_
  refine k_get (ci := 1) (n := 10) (k := 6) (v := .ref (bs + 16)) X hw (by decide) hc_7 ni1 rfl (by decide) tb_171 rfl rfl d_X1_init_66 ?_
  refine lv_iload_n X.1 X.2.1 d_X1_init_69 rfl (lv_at hl 0 rfl) ?_
  refine k_new (ci := 7) (n := 6) (fs := [.int 0, .int 0, .int 0, .int 0, .int 0, .int 0]) nty7 X hw ni7 nk7 rfl tb_119 tb_121 tb_6 (by intro j hj; have : j < 6 := hj; rcases (show j = 0 ∨ j = 1 ∨ j = 2 ∨ j = 3 ∨ j = 4 ∨ j = 5 by omega) with rfl | rfl | rfl | rfl | rfl | rfl <;> rfl) (Nat.le_of_ble_eq_true rfl) (Nat.le_of_ble_eq_true rfl) d_X1_init_70 (fun H hw => ?_)
  obtain ⟨cf_32, e_cf_32⟩ : ∃ z : Nat → va_E, z = va_up cf_31 24 (.inr (7, [.int 0, .int 0, .int 0, .int 0, .int 0, .int 0])) := ⟨_, rfl⟩
  rw [← e_cf_32] at hw
  have hlow : ∀ i, i < 7 → cf_32 i = cf i := fun i h => by rw [e_cf_32]; exact (vu_ne (by omega)).trans (hlow i h)
  have hc_7 : cf_32 7 = .inr (1, [.ref (bs + 8), .ref (bs + 10), .int 0, .int 0, .ref (bs + 15), .int 0, .ref (bs + 16), .int 0, .int 0, .int 0]) := by rw [e_cf_32]; exact (vu_ne (by decide)).trans hc_7
  have hc_15 : cf_32 15 = .inl (cy 15, 6, .inr (.inr (.inr (.inr (va_up (va_up (va_up (va_up (fun _ => none) 0 (some (bs + 17))) 1 (some (bs + 19))) 2 (some (bs + 21))) 3 (some (bs + 23))))))) := by rw [e_cf_32]; exact (vu_ne (by decide)).trans hc_15
  have hc_16 : cf_32 16 = .inl (cy 15, 6, .inr (.inr (.inr (.inr (va_up (va_up (va_up (fun _ => none) 0 (some (bs + 18))) 1 (some (bs + 20))) 2 (some (bs + 22))))))) := by rw [e_cf_32]; exact (vu_ne (by decide)).trans hc_16
  have hc_24 : cf_32 24 = .inr (7, [.int 0, .int 0, .int 0, .int 0, .int 0, .int 0]) := by rw [e_cf_32]; exact vu_at
  have hdone : ∀ i, 7 < i → i < 25 → i ≠ 15 → i ≠ 16 → i ≠ 24 → cf_32 i = ce (GB D bs cy tD tR) (s0 i) i := fun i h1 h2 p_15 p_16 p_24 => by rw [e_cf_32]; exact (vu_ne (by omega)).trans (hdone i h1 (by omega) p_15 p_16)
  have hw : CW D cy bs 25 [(cy 12, .int), (cy 15, .object "GameLoom$Rule")] cf_32 s H _ 17 := hw
  refine W.eq (g2 := F0 m 73 ls [.ref (bs + 24), .int 3, .ref (bs + 16)]) rfl ?_
  refine lv_dup X.1 X.2.1 d_X1_init_73 rfl ?_
  refine k_callN (rest := [.ref (bs + 24), .int 3, .ref (bs + 16)]) (As := []) X hw (kt_X7_init l D cy bs 25 cf_32 24 (by decide)) rfl hw.2.2.2.2.2.1.2.2.2.2.1 tb_123 tb_6 tb_124 rfl hdc_X7_init ⟨rfl, rfl⟩ ⟨Nat.le_of_ble_eq_true rfl, Nat.le_of_ble_eq_true rfl⟩ rfl hl.1 rfl (Nat.le_of_ble_eq_true rfl) ⟨Nat.le_of_ble_eq_true rfl, Nat.le_of_ble_eq_true rfl⟩ d_X1_init_74 (fun u H locs hu hw => ?_)
  obtain ⟨cf_33, rfl⟩ : ∃ z : Nat → va_E, z = u := ⟨_, rfl⟩
  have hu : ∀ i, cf_33 i = cf_32 i := hu
  have hc_7 : cf_33 7 = .inr (1, [.ref (bs + 8), .ref (bs + 10), .int 0, .int 0, .ref (bs + 15), .int 0, .ref (bs + 16), .int 0, .int 0, .int 0]) := (hu _).trans hc_7
  have hc_15 : cf_33 15 = .inl (cy 15, 6, .inr (.inr (.inr (.inr (va_up (va_up (va_up (va_up (fun _ => none) 0 (some (bs + 17))) 1 (some (bs + 19))) 2 (some (bs + 21))) 3 (some (bs + 23))))))) := (hu _).trans hc_15
  have hc_16 : cf_33 16 = .inl (cy 15, 6, .inr (.inr (.inr (.inr (va_up (va_up (va_up (fun _ => none) 0 (some (bs + 18))) 1 (some (bs + 20))) 2 (some (bs + 22))))))) := (hu _).trans hc_16
  have hc_24 : cf_33 24 = .inr (7, [.int 0, .int 0, .int 0, .int 0, .int 0, .int 0]) := (hu _).trans hc_24
  have hlow : ∀ i, i < 7 → cf_33 i = cf i := fun i h => (hu i).trans (hlow i h)
  have hdone : ∀ i, 7 < i → i < 25 → i ≠ 15 → i ≠ 16 → i ≠ 24 → cf_33 i = ce (GB D bs cy tD tR) (s0 i) i := fun i h1 h2 p_15 p_16 p_24 => (hu i).trans (hdone i h1 h2 p_15 p_16 p_24)
  have hw : CW D cy bs 25 [(cy 12, .int), (cy 15, .object "GameLoom$Rule")] cf_33 s H _ 17 := k_tys [0, 1] hw rfl
  refine W.eq (g2 := F0 m 77 ls [.ref (bs + 24), .int 3, .ref (bs + 16)]) rfl ?_
  refine k_astq (k := 15) (ci := 7) (q := 24) 1 X hw (by decide) hc_16 rfl (by decide) hc_24 rfl (by unfold vp_in; decide) d_X1_init_77 (fun H locs hw => ?_)
  have hw : CW D cy bs 25 [(cy 12, .int), (cy 15, .object "GameLoom$Rule")] (va_up cf_33 16 (.inl (cy 15, 6, .inr (.inr (.inr (.inr (va_up (va_up (va_up (va_up (fun _ => none) 0 (some (bs + 18))) 1 (some (bs + 20))) 2 (some (bs + 22))) 3 (some (bs + 24))))))))) s H _ 17 := hw
  obtain ⟨cf_34, e_cf_34⟩ : ∃ z : Nat → va_E, z = va_up cf_33 16 (.inl (cy 15, 6, .inr (.inr (.inr (.inr (va_up (va_up (va_up (va_up (fun _ => none) 0 (some (bs + 18))) 1 (some (bs + 20))) 2 (some (bs + 22))) 3 (some (bs + 24)))))))) := ⟨_, rfl⟩
  rw [← e_cf_34] at hw
  have hlow : ∀ i, i < 7 → cf_34 i = cf i := fun i h => by rw [e_cf_34]; exact (vu_ne (by omega)).trans (hlow i h)
  have hc_7 : cf_34 7 = .inr (1, [.ref (bs + 8), .ref (bs + 10), .int 0, .int 0, .ref (bs + 15), .int 0, .ref (bs + 16), .int 0, .int 0, .int 0]) := by rw [e_cf_34]; exact (vu_ne (by decide)).trans hc_7
  have hc_15 : cf_34 15 = .inl (cy 15, 6, .inr (.inr (.inr (.inr (va_up (va_up (va_up (va_up (fun _ => none) 0 (some (bs + 17))) 1 (some (bs + 19))) 2 (some (bs + 21))) 3 (some (bs + 23))))))) := by rw [e_cf_34]; exact (vu_ne (by decide)).trans hc_15
  have hc_16 : cf_34 16 = .inl (cy 15, 6, .inr (.inr (.inr (.inr (va_up (va_up (va_up (va_up (fun _ => none) 0 (some (bs + 18))) 1 (some (bs + 20))) 2 (some (bs + 22))) 3 (some (bs + 24))))))) := by rw [e_cf_34]; exact vu_at
  have hc_24 : cf_34 24 = .inr (7, [.int 0, .int 0, .int 0, .int 0, .int 0, .int 0]) := by rw [e_cf_34]; exact (vu_ne (by decide)).trans hc_24
  have hdone : ∀ i, 7 < i → i < 25 → i ≠ 15 → i ≠ 16 → i ≠ 24 → cf_34 i = ce (GB D bs cy tD tR) (s0 i) i := fun i h1 h2 p_15 p_16 p_24 => by rw [e_cf_34]; exact (vu_ne (by omega)).trans (hdone i h1 h2 p_15 p_16 p_24)
  have hdone : ∀ i, 7 < i → i < 25 → i ≠ 15 → i ≠ 16 → cf_34 i = ce (GB D bs cy tD tR) (s0 i) i := fun i h1 h2 p_15 p_16 => by
    by_cases p_24 : i = 24
    · subst p_24; exact hc_24.trans rfl
    · exact hdone i h1 h2 p_15 p_16 p_24
  refine lv_iinc (v := 4) (lv' := [(1, .int 4), (0, .ref (bs + 7))]) X.1 X.2.1 d_X1_init_78 hl (k := 0) rfl (by decide) (by decide) rfl (fun ls hl => ?_)
  refine lv_goto (tgt := 46) X.1 X.2.1 d_X1_init_81 (by decide) ?_
  refine lv_iload_n X.1 X.2.1 d_X1_init_46 rfl (lv_at hl 0 rfl) ?_
  refine lv_bipush (v := 6) X.1 X.2.1 d_X1_init_47 (by decide) ?_
  refine lv_icmp_ge (tgt := 84) X.1 X.2.1 d_X1_init_49 (by decide) (fun q9 => ?_) (fun q9 => ?_)
  · exact absurd q9 (by decide)
  refine lv_aload_n X.1 X.2.1 d_X1_init_52 rfl (lv_at hl 1 rfl) ?_
  refine k_get (ci := 1) (n := 10) (k := 4) (v := .ref (bs + 15)) X hw (by decide) hc_7 ni1 rfl (by decide) tb_163 rfl rfl d_X1_init_53 ?_
  refine lv_iload_n X.1 X.2.1 d_X1_init_56 rfl (lv_at hl 0 rfl) ?_
  refine k_new (ci := 7) (n := 6) (fs := [.int 0, .int 0, .int 0, .int 0, .int 0, .int 0]) nty7 X hw ni7 nk7 rfl tb_119 tb_121 tb_6 (by intro j hj; have : j < 6 := hj; rcases (show j = 0 ∨ j = 1 ∨ j = 2 ∨ j = 3 ∨ j = 4 ∨ j = 5 by omega) with rfl | rfl | rfl | rfl | rfl | rfl <;> rfl) (Nat.le_of_ble_eq_true rfl) (Nat.le_of_ble_eq_true rfl) d_X1_init_57 (fun H hw => ?_)
  obtain ⟨cf_35, e_cf_35⟩ : ∃ z : Nat → va_E, z = va_up cf_34 25 (.inr (7, [.int 0, .int 0, .int 0, .int 0, .int 0, .int 0])) := ⟨_, rfl⟩
  rw [← e_cf_35] at hw
  have hlow : ∀ i, i < 7 → cf_35 i = cf i := fun i h => by rw [e_cf_35]; exact (vu_ne (by omega)).trans (hlow i h)
  have hc_7 : cf_35 7 = .inr (1, [.ref (bs + 8), .ref (bs + 10), .int 0, .int 0, .ref (bs + 15), .int 0, .ref (bs + 16), .int 0, .int 0, .int 0]) := by rw [e_cf_35]; exact (vu_ne (by decide)).trans hc_7
  have hc_15 : cf_35 15 = .inl (cy 15, 6, .inr (.inr (.inr (.inr (va_up (va_up (va_up (va_up (fun _ => none) 0 (some (bs + 17))) 1 (some (bs + 19))) 2 (some (bs + 21))) 3 (some (bs + 23))))))) := by rw [e_cf_35]; exact (vu_ne (by decide)).trans hc_15
  have hc_16 : cf_35 16 = .inl (cy 15, 6, .inr (.inr (.inr (.inr (va_up (va_up (va_up (va_up (fun _ => none) 0 (some (bs + 18))) 1 (some (bs + 20))) 2 (some (bs + 22))) 3 (some (bs + 24))))))) := by rw [e_cf_35]; exact (vu_ne (by decide)).trans hc_16
  have hc_25 : cf_35 25 = .inr (7, [.int 0, .int 0, .int 0, .int 0, .int 0, .int 0]) := by rw [e_cf_35]; exact vu_at
  have hdone : ∀ i, 7 < i → i < 26 → i ≠ 15 → i ≠ 16 → i ≠ 25 → cf_35 i = ce (GB D bs cy tD tR) (s0 i) i := fun i h1 h2 p_15 p_16 p_25 => by rw [e_cf_35]; exact (vu_ne (by omega)).trans (hdone i h1 (by omega) p_15 p_16)
  have hw : CW D cy bs 26 [(cy 12, .int), (cy 15, .object "GameLoom$Rule")] cf_35 s H _ 18 := hw
  refine W.eq (g2 := F0 m 60 ls [.ref (bs + 25), .int 4, .ref (bs + 15)]) rfl ?_
  refine lv_dup X.1 X.2.1 d_X1_init_60 rfl ?_
  refine k_callN (rest := [.ref (bs + 25), .int 4, .ref (bs + 15)]) (As := []) X hw (kt_X7_init l D cy bs 26 cf_35 25 (by decide)) rfl hw.2.2.2.2.2.1.2.2.2.2.1 tb_123 tb_6 tb_124 rfl hdc_X7_init ⟨rfl, rfl⟩ ⟨Nat.le_of_ble_eq_true rfl, Nat.le_of_ble_eq_true rfl⟩ rfl hl.1 rfl (Nat.le_of_ble_eq_true rfl) ⟨Nat.le_of_ble_eq_true rfl, Nat.le_of_ble_eq_true rfl⟩ d_X1_init_61 (fun u H locs hu hw => ?_)
  obtain ⟨cf_36, rfl⟩ : ∃ z : Nat → va_E, z = u := ⟨_, rfl⟩
  have hu : ∀ i, cf_36 i = cf_35 i := hu
  have hc_7 : cf_36 7 = .inr (1, [.ref (bs + 8), .ref (bs + 10), .int 0, .int 0, .ref (bs + 15), .int 0, .ref (bs + 16), .int 0, .int 0, .int 0]) := (hu _).trans hc_7
  have hc_15 : cf_36 15 = .inl (cy 15, 6, .inr (.inr (.inr (.inr (va_up (va_up (va_up (va_up (fun _ => none) 0 (some (bs + 17))) 1 (some (bs + 19))) 2 (some (bs + 21))) 3 (some (bs + 23))))))) := (hu _).trans hc_15
  have hc_16 : cf_36 16 = .inl (cy 15, 6, .inr (.inr (.inr (.inr (va_up (va_up (va_up (va_up (fun _ => none) 0 (some (bs + 18))) 1 (some (bs + 20))) 2 (some (bs + 22))) 3 (some (bs + 24))))))) := (hu _).trans hc_16
  have hc_25 : cf_36 25 = .inr (7, [.int 0, .int 0, .int 0, .int 0, .int 0, .int 0]) := (hu _).trans hc_25
  have hlow : ∀ i, i < 7 → cf_36 i = cf i := fun i h => (hu i).trans (hlow i h)
  have hdone : ∀ i, 7 < i → i < 26 → i ≠ 15 → i ≠ 16 → i ≠ 25 → cf_36 i = ce (GB D bs cy tD tR) (s0 i) i := fun i h1 h2 p_15 p_16 p_25 => (hu i).trans (hdone i h1 h2 p_15 p_16 p_25)
  have hw : CW D cy bs 26 [(cy 12, .int), (cy 15, .object "GameLoom$Rule")] cf_36 s H _ 18 := k_tys [0, 1] hw rfl
  refine W.eq (g2 := F0 m 64 ls [.ref (bs + 25), .int 4, .ref (bs + 15)]) rfl ?_
  refine k_astq (k := 15) (ci := 7) (q := 25) 1 X hw (by decide) hc_15 rfl (by decide) hc_25 rfl (by unfold vp_in; decide) d_X1_init_64 (fun H locs hw => ?_)
  have hw : CW D cy bs 26 [(cy 12, .int), (cy 15, .object "GameLoom$Rule")] (va_up cf_36 15 (.inl (cy 15, 6, .inr (.inr (.inr (.inr (va_up (va_up (va_up (va_up (va_up (fun _ => none) 0 (some (bs + 17))) 1 (some (bs + 19))) 2 (some (bs + 21))) 3 (some (bs + 23))) 4 (some (bs + 25))))))))) s H _ 18 := hw
  obtain ⟨cf_37, e_cf_37⟩ : ∃ z : Nat → va_E, z = va_up cf_36 15 (.inl (cy 15, 6, .inr (.inr (.inr (.inr (va_up (va_up (va_up (va_up (va_up (fun _ => none) 0 (some (bs + 17))) 1 (some (bs + 19))) 2 (some (bs + 21))) 3 (some (bs + 23))) 4 (some (bs + 25)))))))) := ⟨_, rfl⟩
  rw [← e_cf_37] at hw
  have hlow : ∀ i, i < 7 → cf_37 i = cf i := fun i h => by rw [e_cf_37]; exact (vu_ne (by omega)).trans (hlow i h)
  have hc_7 : cf_37 7 = .inr (1, [.ref (bs + 8), .ref (bs + 10), .int 0, .int 0, .ref (bs + 15), .int 0, .ref (bs + 16), .int 0, .int 0, .int 0]) := by rw [e_cf_37]; exact (vu_ne (by decide)).trans hc_7
  have hc_15 : cf_37 15 = .inl (cy 15, 6, .inr (.inr (.inr (.inr (va_up (va_up (va_up (va_up (va_up (fun _ => none) 0 (some (bs + 17))) 1 (some (bs + 19))) 2 (some (bs + 21))) 3 (some (bs + 23))) 4 (some (bs + 25))))))) := by rw [e_cf_37]; exact vu_at
  have hc_16 : cf_37 16 = .inl (cy 15, 6, .inr (.inr (.inr (.inr (va_up (va_up (va_up (va_up (fun _ => none) 0 (some (bs + 18))) 1 (some (bs + 20))) 2 (some (bs + 22))) 3 (some (bs + 24))))))) := by rw [e_cf_37]; exact (vu_ne (by decide)).trans hc_16
  have hc_25 : cf_37 25 = .inr (7, [.int 0, .int 0, .int 0, .int 0, .int 0, .int 0]) := by rw [e_cf_37]; exact (vu_ne (by decide)).trans hc_25
  have hdone : ∀ i, 7 < i → i < 26 → i ≠ 15 → i ≠ 16 → i ≠ 25 → cf_37 i = ce (GB D bs cy tD tR) (s0 i) i := fun i h1 h2 p_15 p_16 p_25 => by rw [e_cf_37]; exact (vu_ne (by omega)).trans (hdone i h1 h2 p_15 p_16 p_25)
  have hdone : ∀ i, 7 < i → i < 26 → i ≠ 15 → i ≠ 16 → cf_37 i = ce (GB D bs cy tD tR) (s0 i) i := fun i h1 h2 p_15 p_16 => by
    by_cases p_25 : i = 25
    · subst p_25; exact hc_25.trans rfl
    · exact hdone i h1 h2 p_15 p_16 p_25
  refine lv_aload_n X.1 X.2.1 d_X1_init_65 rfl (lv_at hl 1 rfl) ?_
  refine k_get (ci := 1) (n := 10) (k := 6) (v := .ref (bs + 16)) X hw (by decide) hc_7 ni1 rfl (by decide) tb_171 rfl rfl d_X1_init_66 ?_
  refine lv_iload_n X.1 X.2.1 d_X1_init_69 rfl (lv_at hl 0 rfl) ?_
  refine k_new (ci := 7) (n := 6) (fs := [.int 0, .int 0, .int 0, .int 0, .int 0, .int 0]) nty7 X hw ni7 nk7 rfl tb_119 tb_121 tb_6 (by intro j hj; have : j < 6 := hj; rcases (show j = 0 ∨ j = 1 ∨ j = 2 ∨ j = 3 ∨ j = 4 ∨ j = 5 by omega) with rfl | rfl | rfl | rfl | rfl | rfl <;> rfl) (Nat.le_of_ble_eq_true rfl) (Nat.le_of_ble_eq_true rfl) d_X1_init_70 (fun H hw => ?_)
  obtain ⟨cf_38, e_cf_38⟩ : ∃ z : Nat → va_E, z = va_up cf_37 26 (.inr (7, [.int 0, .int 0, .int 0, .int 0, .int 0, .int 0])) := ⟨_, rfl⟩
  rw [← e_cf_38] at hw
  have hlow : ∀ i, i < 7 → cf_38 i = cf i := fun i h => by rw [e_cf_38]; exact (vu_ne (by omega)).trans (hlow i h)
  have hc_7 : cf_38 7 = .inr (1, [.ref (bs + 8), .ref (bs + 10), .int 0, .int 0, .ref (bs + 15), .int 0, .ref (bs + 16), .int 0, .int 0, .int 0]) := by rw [e_cf_38]; exact (vu_ne (by decide)).trans hc_7
  have hc_15 : cf_38 15 = .inl (cy 15, 6, .inr (.inr (.inr (.inr (va_up (va_up (va_up (va_up (va_up (fun _ => none) 0 (some (bs + 17))) 1 (some (bs + 19))) 2 (some (bs + 21))) 3 (some (bs + 23))) 4 (some (bs + 25))))))) := by rw [e_cf_38]; exact (vu_ne (by decide)).trans hc_15
  have hc_16 : cf_38 16 = .inl (cy 15, 6, .inr (.inr (.inr (.inr (va_up (va_up (va_up (va_up (fun _ => none) 0 (some (bs + 18))) 1 (some (bs + 20))) 2 (some (bs + 22))) 3 (some (bs + 24))))))) := by rw [e_cf_38]; exact (vu_ne (by decide)).trans hc_16
  have hc_26 : cf_38 26 = .inr (7, [.int 0, .int 0, .int 0, .int 0, .int 0, .int 0]) := by rw [e_cf_38]; exact vu_at
  have hdone : ∀ i, 7 < i → i < 27 → i ≠ 15 → i ≠ 16 → i ≠ 26 → cf_38 i = ce (GB D bs cy tD tR) (s0 i) i := fun i h1 h2 p_15 p_16 p_26 => by rw [e_cf_38]; exact (vu_ne (by omega)).trans (hdone i h1 (by omega) p_15 p_16)
  have hw : CW D cy bs 27 [(cy 12, .int), (cy 15, .object "GameLoom$Rule")] cf_38 s H _ 19 := hw
  refine W.eq (g2 := F0 m 73 ls [.ref (bs + 26), .int 4, .ref (bs + 16)]) rfl ?_
  refine lv_dup X.1 X.2.1 d_X1_init_73 rfl ?_
  refine k_callN (rest := [.ref (bs + 26), .int 4, .ref (bs + 16)]) (As := []) X hw (kt_X7_init l D cy bs 27 cf_38 26 (by decide)) rfl hw.2.2.2.2.2.1.2.2.2.2.1 tb_123 tb_6 tb_124 rfl hdc_X7_init ⟨rfl, rfl⟩ ⟨Nat.le_of_ble_eq_true rfl, Nat.le_of_ble_eq_true rfl⟩ rfl hl.1 rfl (Nat.le_of_ble_eq_true rfl) ⟨Nat.le_of_ble_eq_true rfl, Nat.le_of_ble_eq_true rfl⟩ d_X1_init_74 (fun u H locs hu hw => ?_)
  obtain ⟨cf_39, rfl⟩ : ∃ z : Nat → va_E, z = u := ⟨_, rfl⟩
  have hu : ∀ i, cf_39 i = cf_38 i := hu
  have hc_7 : cf_39 7 = .inr (1, [.ref (bs + 8), .ref (bs + 10), .int 0, .int 0, .ref (bs + 15), .int 0, .ref (bs + 16), .int 0, .int 0, .int 0]) := (hu _).trans hc_7
  have hc_15 : cf_39 15 = .inl (cy 15, 6, .inr (.inr (.inr (.inr (va_up (va_up (va_up (va_up (va_up (fun _ => none) 0 (some (bs + 17))) 1 (some (bs + 19))) 2 (some (bs + 21))) 3 (some (bs + 23))) 4 (some (bs + 25))))))) := (hu _).trans hc_15
  have hc_16 : cf_39 16 = .inl (cy 15, 6, .inr (.inr (.inr (.inr (va_up (va_up (va_up (va_up (fun _ => none) 0 (some (bs + 18))) 1 (some (bs + 20))) 2 (some (bs + 22))) 3 (some (bs + 24))))))) := (hu _).trans hc_16
  have hc_26 : cf_39 26 = .inr (7, [.int 0, .int 0, .int 0, .int 0, .int 0, .int 0]) := (hu _).trans hc_26
  have hlow : ∀ i, i < 7 → cf_39 i = cf i := fun i h => (hu i).trans (hlow i h)
  have hdone : ∀ i, 7 < i → i < 27 → i ≠ 15 → i ≠ 16 → i ≠ 26 → cf_39 i = ce (GB D bs cy tD tR) (s0 i) i := fun i h1 h2 p_15 p_16 p_26 => (hu i).trans (hdone i h1 h2 p_15 p_16 p_26)
  have hw : CW D cy bs 27 [(cy 12, .int), (cy 15, .object "GameLoom$Rule")] cf_39 s H _ 19 := k_tys [0, 1] hw rfl
  refine W.eq (g2 := F0 m 77 ls [.ref (bs + 26), .int 4, .ref (bs + 16)]) rfl ?_
  refine k_astq (k := 15) (ci := 7) (q := 26) 1 X hw (by decide) hc_16 rfl (by decide) hc_26 rfl (by unfold vp_in; decide) d_X1_init_77 (fun H locs hw => ?_)
  have hw : CW D cy bs 27 [(cy 12, .int), (cy 15, .object "GameLoom$Rule")] (va_up cf_39 16 (.inl (cy 15, 6, .inr (.inr (.inr (.inr (va_up (va_up (va_up (va_up (va_up (fun _ => none) 0 (some (bs + 18))) 1 (some (bs + 20))) 2 (some (bs + 22))) 3 (some (bs + 24))) 4 (some (bs + 26))))))))) s H _ 19 := hw
  obtain ⟨cf_40, e_cf_40⟩ : ∃ z : Nat → va_E, z = va_up cf_39 16 (.inl (cy 15, 6, .inr (.inr (.inr (.inr (va_up (va_up (va_up (va_up (va_up (fun _ => none) 0 (some (bs + 18))) 1 (some (bs + 20))) 2 (some (bs + 22))) 3 (some (bs + 24))) 4 (some (bs + 26)))))))) := ⟨_, rfl⟩
  rw [← e_cf_40] at hw
  have hlow : ∀ i, i < 7 → cf_40 i = cf i := fun i h => by rw [e_cf_40]; exact (vu_ne (by omega)).trans (hlow i h)
  have hc_7 : cf_40 7 = .inr (1, [.ref (bs + 8), .ref (bs + 10), .int 0, .int 0, .ref (bs + 15), .int 0, .ref (bs + 16), .int 0, .int 0, .int 0]) := by rw [e_cf_40]; exact (vu_ne (by decide)).trans hc_7
  have hc_15 : cf_40 15 = .inl (cy 15, 6, .inr (.inr (.inr (.inr (va_up (va_up (va_up (va_up (va_up (fun _ => none) 0 (some (bs + 17))) 1 (some (bs + 19))) 2 (some (bs + 21))) 3 (some (bs + 23))) 4 (some (bs + 25))))))) := by rw [e_cf_40]; exact (vu_ne (by decide)).trans hc_15
  have hc_16 : cf_40 16 = .inl (cy 15, 6, .inr (.inr (.inr (.inr (va_up (va_up (va_up (va_up (va_up (fun _ => none) 0 (some (bs + 18))) 1 (some (bs + 20))) 2 (some (bs + 22))) 3 (some (bs + 24))) 4 (some (bs + 26))))))) := by rw [e_cf_40]; exact vu_at
  have hc_26 : cf_40 26 = .inr (7, [.int 0, .int 0, .int 0, .int 0, .int 0, .int 0]) := by rw [e_cf_40]; exact (vu_ne (by decide)).trans hc_26
  have hdone : ∀ i, 7 < i → i < 27 → i ≠ 15 → i ≠ 16 → i ≠ 26 → cf_40 i = ce (GB D bs cy tD tR) (s0 i) i := fun i h1 h2 p_15 p_16 p_26 => by rw [e_cf_40]; exact (vu_ne (by omega)).trans (hdone i h1 h2 p_15 p_16 p_26)
  have hdone : ∀ i, 7 < i → i < 27 → i ≠ 15 → i ≠ 16 → cf_40 i = ce (GB D bs cy tD tR) (s0 i) i := fun i h1 h2 p_15 p_16 => by
    by_cases p_26 : i = 26
    · subst p_26; exact hc_26.trans rfl
    · exact hdone i h1 h2 p_15 p_16 p_26
  refine lv_iinc (v := 5) (lv' := [(1, .int 5), (0, .ref (bs + 7))]) X.1 X.2.1 d_X1_init_78 hl (k := 0) rfl (by decide) (by decide) rfl (fun ls hl => ?_)
  refine lv_goto (tgt := 46) X.1 X.2.1 d_X1_init_81 (by decide) ?_
  refine lv_iload_n X.1 X.2.1 d_X1_init_46 rfl (lv_at hl 0 rfl) ?_
  refine lv_bipush (v := 6) X.1 X.2.1 d_X1_init_47 (by decide) ?_
  refine lv_icmp_ge (tgt := 84) X.1 X.2.1 d_X1_init_49 (by decide) (fun q9 => ?_) (fun q9 => ?_)
  · exact absurd q9 (by decide)
  refine lv_aload_n X.1 X.2.1 d_X1_init_52 rfl (lv_at hl 1 rfl) ?_
  refine k_get (ci := 1) (n := 10) (k := 4) (v := .ref (bs + 15)) X hw (by decide) hc_7 ni1 rfl (by decide) tb_163 rfl rfl d_X1_init_53 ?_
  refine lv_iload_n X.1 X.2.1 d_X1_init_56 rfl (lv_at hl 0 rfl) ?_
  refine k_new (ci := 7) (n := 6) (fs := [.int 0, .int 0, .int 0, .int 0, .int 0, .int 0]) nty7 X hw ni7 nk7 rfl tb_119 tb_121 tb_6 (by intro j hj; have : j < 6 := hj; rcases (show j = 0 ∨ j = 1 ∨ j = 2 ∨ j = 3 ∨ j = 4 ∨ j = 5 by omega) with rfl | rfl | rfl | rfl | rfl | rfl <;> rfl) (Nat.le_of_ble_eq_true rfl) (Nat.le_of_ble_eq_true rfl) d_X1_init_57 (fun H hw => ?_)
  obtain ⟨cf_41, e_cf_41⟩ : ∃ z : Nat → va_E, z = va_up cf_40 27 (.inr (7, [.int 0, .int 0, .int 0, .int 0, .int 0, .int 0])) := ⟨_, rfl⟩
  rw [← e_cf_41] at hw
  have hlow : ∀ i, i < 7 → cf_41 i = cf i := fun i h => by rw [e_cf_41]; exact (vu_ne (by omega)).trans (hlow i h)
  have hc_7 : cf_41 7 = .inr (1, [.ref (bs + 8), .ref (bs + 10), .int 0, .int 0, .ref (bs + 15), .int 0, .ref (bs + 16), .int 0, .int 0, .int 0]) := by rw [e_cf_41]; exact (vu_ne (by decide)).trans hc_7
  have hc_15 : cf_41 15 = .inl (cy 15, 6, .inr (.inr (.inr (.inr (va_up (va_up (va_up (va_up (va_up (fun _ => none) 0 (some (bs + 17))) 1 (some (bs + 19))) 2 (some (bs + 21))) 3 (some (bs + 23))) 4 (some (bs + 25))))))) := by rw [e_cf_41]; exact (vu_ne (by decide)).trans hc_15
  have hc_16 : cf_41 16 = .inl (cy 15, 6, .inr (.inr (.inr (.inr (va_up (va_up (va_up (va_up (va_up (fun _ => none) 0 (some (bs + 18))) 1 (some (bs + 20))) 2 (some (bs + 22))) 3 (some (bs + 24))) 4 (some (bs + 26))))))) := by rw [e_cf_41]; exact (vu_ne (by decide)).trans hc_16
  have hc_27 : cf_41 27 = .inr (7, [.int 0, .int 0, .int 0, .int 0, .int 0, .int 0]) := by rw [e_cf_41]; exact vu_at
  have hdone : ∀ i, 7 < i → i < 28 → i ≠ 15 → i ≠ 16 → i ≠ 27 → cf_41 i = ce (GB D bs cy tD tR) (s0 i) i := fun i h1 h2 p_15 p_16 p_27 => by rw [e_cf_41]; exact (vu_ne (by omega)).trans (hdone i h1 (by omega) p_15 p_16)
  have hw : CW D cy bs 28 [(cy 12, .int), (cy 15, .object "GameLoom$Rule")] cf_41 s H _ 20 := hw
  refine W.eq (g2 := F0 m 60 ls [.ref (bs + 27), .int 5, .ref (bs + 15)]) rfl ?_
  refine lv_dup X.1 X.2.1 d_X1_init_60 rfl ?_
  refine k_callN (rest := [.ref (bs + 27), .int 5, .ref (bs + 15)]) (As := []) X hw (kt_X7_init l D cy bs 28 cf_41 27 (by decide)) rfl hw.2.2.2.2.2.1.2.2.2.2.1 tb_123 tb_6 tb_124 rfl hdc_X7_init ⟨rfl, rfl⟩ ⟨Nat.le_of_ble_eq_true rfl, Nat.le_of_ble_eq_true rfl⟩ rfl hl.1 rfl (Nat.le_of_ble_eq_true rfl) ⟨Nat.le_of_ble_eq_true rfl, Nat.le_of_ble_eq_true rfl⟩ d_X1_init_61 (fun u H locs hu hw => ?_)
  obtain ⟨cf_42, rfl⟩ : ∃ z : Nat → va_E, z = u := ⟨_, rfl⟩
  have hu : ∀ i, cf_42 i = cf_41 i := hu
  have hc_7 : cf_42 7 = .inr (1, [.ref (bs + 8), .ref (bs + 10), .int 0, .int 0, .ref (bs + 15), .int 0, .ref (bs + 16), .int 0, .int 0, .int 0]) := (hu _).trans hc_7
  have hc_15 : cf_42 15 = .inl (cy 15, 6, .inr (.inr (.inr (.inr (va_up (va_up (va_up (va_up (va_up (fun _ => none) 0 (some (bs + 17))) 1 (some (bs + 19))) 2 (some (bs + 21))) 3 (some (bs + 23))) 4 (some (bs + 25))))))) := (hu _).trans hc_15
  have hc_16 : cf_42 16 = .inl (cy 15, 6, .inr (.inr (.inr (.inr (va_up (va_up (va_up (va_up (va_up (fun _ => none) 0 (some (bs + 18))) 1 (some (bs + 20))) 2 (some (bs + 22))) 3 (some (bs + 24))) 4 (some (bs + 26))))))) := (hu _).trans hc_16
  have hc_27 : cf_42 27 = .inr (7, [.int 0, .int 0, .int 0, .int 0, .int 0, .int 0]) := (hu _).trans hc_27
  have hlow : ∀ i, i < 7 → cf_42 i = cf i := fun i h => (hu i).trans (hlow i h)
  have hdone : ∀ i, 7 < i → i < 28 → i ≠ 15 → i ≠ 16 → i ≠ 27 → cf_42 i = ce (GB D bs cy tD tR) (s0 i) i := fun i h1 h2 p_15 p_16 p_27 => (hu i).trans (hdone i h1 h2 p_15 p_16 p_27)
  have hw : CW D cy bs 28 [(cy 12, .int), (cy 15, .object "GameLoom$Rule")] cf_42 s H _ 20 := k_tys [0, 1] hw rfl
  refine W.eq (g2 := F0 m 64 ls [.ref (bs + 27), .int 5, .ref (bs + 15)]) rfl ?_
  refine k_astq (k := 15) (ci := 7) (q := 27) 1 X hw (by decide) hc_15 rfl (by decide) hc_27 rfl (by unfold vp_in; decide) d_X1_init_64 (fun H locs hw => ?_)
  have hw : CW D cy bs 28 [(cy 12, .int), (cy 15, .object "GameLoom$Rule")] (va_up cf_42 15 (.inl (cy 15, 6, .inr (.inr (.inr (.inr (va_up (va_up (va_up (va_up (va_up (va_up (fun _ => none) 0 (some (bs + 17))) 1 (some (bs + 19))) 2 (some (bs + 21))) 3 (some (bs + 23))) 4 (some (bs + 25))) 5 (some (bs + 27))))))))) s H _ 20 := hw
  obtain ⟨cf_43, e_cf_43⟩ : ∃ z : Nat → va_E, z = va_up cf_42 15 (.inl (cy 15, 6, .inr (.inr (.inr (.inr (va_up (va_up (va_up (va_up (va_up (va_up (fun _ => none) 0 (some (bs + 17))) 1 (some (bs + 19))) 2 (some (bs + 21))) 3 (some (bs + 23))) 4 (some (bs + 25))) 5 (some (bs + 27)))))))) := ⟨_, rfl⟩
  rw [← e_cf_43] at hw
  have hlow : ∀ i, i < 7 → cf_43 i = cf i := fun i h => by rw [e_cf_43]; exact (vu_ne (by omega)).trans (hlow i h)
  have hc_7 : cf_43 7 = .inr (1, [.ref (bs + 8), .ref (bs + 10), .int 0, .int 0, .ref (bs + 15), .int 0, .ref (bs + 16), .int 0, .int 0, .int 0]) := by rw [e_cf_43]; exact (vu_ne (by decide)).trans hc_7
  have hc_15 : cf_43 15 = .inl (cy 15, 6, .inr (.inr (.inr (.inr (va_up (va_up (va_up (va_up (va_up (va_up (fun _ => none) 0 (some (bs + 17))) 1 (some (bs + 19))) 2 (some (bs + 21))) 3 (some (bs + 23))) 4 (some (bs + 25))) 5 (some (bs + 27))))))) := by rw [e_cf_43]; exact vu_at
  have hc_16 : cf_43 16 = .inl (cy 15, 6, .inr (.inr (.inr (.inr (va_up (va_up (va_up (va_up (va_up (fun _ => none) 0 (some (bs + 18))) 1 (some (bs + 20))) 2 (some (bs + 22))) 3 (some (bs + 24))) 4 (some (bs + 26))))))) := by rw [e_cf_43]; exact (vu_ne (by decide)).trans hc_16
  have hc_27 : cf_43 27 = .inr (7, [.int 0, .int 0, .int 0, .int 0, .int 0, .int 0]) := by rw [e_cf_43]; exact (vu_ne (by decide)).trans hc_27
  have hdone : ∀ i, 7 < i → i < 28 → i ≠ 15 → i ≠ 16 → i ≠ 27 → cf_43 i = ce (GB D bs cy tD tR) (s0 i) i := fun i h1 h2 p_15 p_16 p_27 => by rw [e_cf_43]; exact (vu_ne (by omega)).trans (hdone i h1 h2 p_15 p_16 p_27)
  have hdone : ∀ i, 7 < i → i < 28 → i ≠ 15 → i ≠ 16 → cf_43 i = ce (GB D bs cy tD tR) (s0 i) i := fun i h1 h2 p_15 p_16 => by
    by_cases p_27 : i = 27
    · subst p_27; exact hc_27.trans rfl
    · exact hdone i h1 h2 p_15 p_16 p_27
  refine lv_aload_n X.1 X.2.1 d_X1_init_65 rfl (lv_at hl 1 rfl) ?_
  refine k_get (ci := 1) (n := 10) (k := 6) (v := .ref (bs + 16)) X hw (by decide) hc_7 ni1 rfl (by decide) tb_171 rfl rfl d_X1_init_66 ?_
  refine lv_iload_n X.1 X.2.1 d_X1_init_69 rfl (lv_at hl 0 rfl) ?_
  refine k_new (ci := 7) (n := 6) (fs := [.int 0, .int 0, .int 0, .int 0, .int 0, .int 0]) nty7 X hw ni7 nk7 rfl tb_119 tb_121 tb_6 (by intro j hj; have : j < 6 := hj; rcases (show j = 0 ∨ j = 1 ∨ j = 2 ∨ j = 3 ∨ j = 4 ∨ j = 5 by omega) with rfl | rfl | rfl | rfl | rfl | rfl <;> rfl) (Nat.le_of_ble_eq_true rfl) (Nat.le_of_ble_eq_true rfl) d_X1_init_70 (fun H hw => ?_)
  obtain ⟨cf_44, e_cf_44⟩ : ∃ z : Nat → va_E, z = va_up cf_43 28 (.inr (7, [.int 0, .int 0, .int 0, .int 0, .int 0, .int 0])) := ⟨_, rfl⟩
  rw [← e_cf_44] at hw
  have hlow : ∀ i, i < 7 → cf_44 i = cf i := fun i h => by rw [e_cf_44]; exact (vu_ne (by omega)).trans (hlow i h)
  have hc_7 : cf_44 7 = .inr (1, [.ref (bs + 8), .ref (bs + 10), .int 0, .int 0, .ref (bs + 15), .int 0, .ref (bs + 16), .int 0, .int 0, .int 0]) := by rw [e_cf_44]; exact (vu_ne (by decide)).trans hc_7
  have hc_15 : cf_44 15 = .inl (cy 15, 6, .inr (.inr (.inr (.inr (va_up (va_up (va_up (va_up (va_up (va_up (fun _ => none) 0 (some (bs + 17))) 1 (some (bs + 19))) 2 (some (bs + 21))) 3 (some (bs + 23))) 4 (some (bs + 25))) 5 (some (bs + 27))))))) := by rw [e_cf_44]; exact (vu_ne (by decide)).trans hc_15
  have hc_16 : cf_44 16 = .inl (cy 15, 6, .inr (.inr (.inr (.inr (va_up (va_up (va_up (va_up (va_up (fun _ => none) 0 (some (bs + 18))) 1 (some (bs + 20))) 2 (some (bs + 22))) 3 (some (bs + 24))) 4 (some (bs + 26))))))) := by rw [e_cf_44]; exact (vu_ne (by decide)).trans hc_16
  have hc_28 : cf_44 28 = .inr (7, [.int 0, .int 0, .int 0, .int 0, .int 0, .int 0]) := by rw [e_cf_44]; exact vu_at
  have hdone : ∀ i, 7 < i → i < 29 → i ≠ 15 → i ≠ 16 → i ≠ 28 → cf_44 i = ce (GB D bs cy tD tR) (s0 i) i := fun i h1 h2 p_15 p_16 p_28 => by rw [e_cf_44]; exact (vu_ne (by omega)).trans (hdone i h1 (by omega) p_15 p_16)
  have hw : CW D cy bs 29 [(cy 12, .int), (cy 15, .object "GameLoom$Rule")] cf_44 s H _ 21 := hw
  refine W.eq (g2 := F0 m 73 ls [.ref (bs + 28), .int 5, .ref (bs + 16)]) rfl ?_
  refine lv_dup X.1 X.2.1 d_X1_init_73 rfl ?_
  refine k_callN (rest := [.ref (bs + 28), .int 5, .ref (bs + 16)]) (As := []) X hw (kt_X7_init l D cy bs 29 cf_44 28 (by decide)) rfl hw.2.2.2.2.2.1.2.2.2.2.1 tb_123 tb_6 tb_124 rfl hdc_X7_init ⟨rfl, rfl⟩ ⟨Nat.le_of_ble_eq_true rfl, Nat.le_of_ble_eq_true rfl⟩ rfl hl.1 rfl (Nat.le_of_ble_eq_true rfl) ⟨Nat.le_of_ble_eq_true rfl, Nat.le_of_ble_eq_true rfl⟩ d_X1_init_74 (fun u H locs hu hw => ?_)
  obtain ⟨cf_45, rfl⟩ : ∃ z : Nat → va_E, z = u := ⟨_, rfl⟩
  have hu : ∀ i, cf_45 i = cf_44 i := hu
  have hc_7 : cf_45 7 = .inr (1, [.ref (bs + 8), .ref (bs + 10), .int 0, .int 0, .ref (bs + 15), .int 0, .ref (bs + 16), .int 0, .int 0, .int 0]) := (hu _).trans hc_7
  have hc_15 : cf_45 15 = .inl (cy 15, 6, .inr (.inr (.inr (.inr (va_up (va_up (va_up (va_up (va_up (va_up (fun _ => none) 0 (some (bs + 17))) 1 (some (bs + 19))) 2 (some (bs + 21))) 3 (some (bs + 23))) 4 (some (bs + 25))) 5 (some (bs + 27))))))) := (hu _).trans hc_15
  have hc_16 : cf_45 16 = .inl (cy 15, 6, .inr (.inr (.inr (.inr (va_up (va_up (va_up (va_up (va_up (fun _ => none) 0 (some (bs + 18))) 1 (some (bs + 20))) 2 (some (bs + 22))) 3 (some (bs + 24))) 4 (some (bs + 26))))))) := (hu _).trans hc_16
  have hc_28 : cf_45 28 = .inr (7, [.int 0, .int 0, .int 0, .int 0, .int 0, .int 0]) := (hu _).trans hc_28
  have hlow : ∀ i, i < 7 → cf_45 i = cf i := fun i h => (hu i).trans (hlow i h)
  have hdone : ∀ i, 7 < i → i < 29 → i ≠ 15 → i ≠ 16 → i ≠ 28 → cf_45 i = ce (GB D bs cy tD tR) (s0 i) i := fun i h1 h2 p_15 p_16 p_28 => (hu i).trans (hdone i h1 h2 p_15 p_16 p_28)
  have hw : CW D cy bs 29 [(cy 12, .int), (cy 15, .object "GameLoom$Rule")] cf_45 s H _ 21 := k_tys [0, 1] hw rfl
  refine W.eq (g2 := F0 m 77 ls [.ref (bs + 28), .int 5, .ref (bs + 16)]) rfl ?_
  refine k_astq (k := 15) (ci := 7) (q := 28) 1 X hw (by decide) hc_16 rfl (by decide) hc_28 rfl (by unfold vp_in; decide) d_X1_init_77 (fun H locs hw => ?_)
  have hw : CW D cy bs 29 [(cy 12, .int), (cy 15, .object "GameLoom$Rule")] (va_up cf_45 16 (.inl (cy 15, 6, .inr (.inr (.inr (.inr (va_up (va_up (va_up (va_up (va_up (va_up (fun _ => none) 0 (some (bs + 18))) 1 (some (bs + 20))) 2 (some (bs + 22))) 3 (some (bs + 24))) 4 (some (bs + 26))) 5 (some (bs + 28))))))))) s H _ 21 := hw
  obtain ⟨cf_46, e_cf_46⟩ : ∃ z : Nat → va_E, z = va_up cf_45 16 (.inl (cy 15, 6, .inr (.inr (.inr (.inr (va_up (va_up (va_up (va_up (va_up (va_up (fun _ => none) 0 (some (bs + 18))) 1 (some (bs + 20))) 2 (some (bs + 22))) 3 (some (bs + 24))) 4 (some (bs + 26))) 5 (some (bs + 28)))))))) := ⟨_, rfl⟩
  rw [← e_cf_46] at hw
  have hlow : ∀ i, i < 7 → cf_46 i = cf i := fun i h => by rw [e_cf_46]; exact (vu_ne (by omega)).trans (hlow i h)
  have hc_7 : cf_46 7 = .inr (1, [.ref (bs + 8), .ref (bs + 10), .int 0, .int 0, .ref (bs + 15), .int 0, .ref (bs + 16), .int 0, .int 0, .int 0]) := by rw [e_cf_46]; exact (vu_ne (by decide)).trans hc_7
  have hc_15 : cf_46 15 = .inl (cy 15, 6, .inr (.inr (.inr (.inr (va_up (va_up (va_up (va_up (va_up (va_up (fun _ => none) 0 (some (bs + 17))) 1 (some (bs + 19))) 2 (some (bs + 21))) 3 (some (bs + 23))) 4 (some (bs + 25))) 5 (some (bs + 27))))))) := by rw [e_cf_46]; exact (vu_ne (by decide)).trans hc_15
  have hc_16 : cf_46 16 = .inl (cy 15, 6, .inr (.inr (.inr (.inr (va_up (va_up (va_up (va_up (va_up (va_up (fun _ => none) 0 (some (bs + 18))) 1 (some (bs + 20))) 2 (some (bs + 22))) 3 (some (bs + 24))) 4 (some (bs + 26))) 5 (some (bs + 28))))))) := by rw [e_cf_46]; exact vu_at
  have hc_28 : cf_46 28 = .inr (7, [.int 0, .int 0, .int 0, .int 0, .int 0, .int 0]) := by rw [e_cf_46]; exact (vu_ne (by decide)).trans hc_28
  have hdone : ∀ i, 7 < i → i < 29 → i ≠ 15 → i ≠ 16 → i ≠ 28 → cf_46 i = ce (GB D bs cy tD tR) (s0 i) i := fun i h1 h2 p_15 p_16 p_28 => by rw [e_cf_46]; exact (vu_ne (by omega)).trans (hdone i h1 h2 p_15 p_16 p_28)
  have hdone : ∀ i, 7 < i → i < 29 → i ≠ 15 → i ≠ 16 → cf_46 i = ce (GB D bs cy tD tR) (s0 i) i := fun i h1 h2 p_15 p_16 => by
    by_cases p_28 : i = 28
    · subst p_28; exact hc_28.trans rfl
    · exact hdone i h1 h2 p_15 p_16 p_28
  refine lv_iinc (v := 6) (lv' := [(1, .int 6), (0, .ref (bs + 7))]) X.1 X.2.1 d_X1_init_78 hl (k := 0) rfl (by decide) (by decide) rfl (fun ls hl => ?_)
  refine lv_goto (tgt := 46) X.1 X.2.1 d_X1_init_81 (by decide) ?_
  refine lv_iload_n X.1 X.2.1 d_X1_init_46 rfl (lv_at hl 0 rfl) ?_
  refine lv_bipush (v := 6) X.1 X.2.1 d_X1_init_47 (by decide) ?_
  refine lv_icmp_ge (tgt := 84) X.1 X.2.1 d_X1_init_49 (by decide) (fun q9 => ?_) (fun q9 => ?_)
  rotate_left
  · exact absurd (by decide) q9
  refine k_vret X hr hlk hw ⟨hlow, fun i h1 h2 => ?_⟩ d_X1_init_84
  rcases Nat.eq_or_lt_of_le h1 with h3 | h3
  · subst h3; exact hc_7.trans rfl
  by_cases p_15 : i = 15
  · subst p_15; exact hc_15.trans (cq_15_15 _ _ _ _ _)
  by_cases p_16 : i = 16
  · subst p_16; exact hc_16.trans (cq_15_16 _ _ _ _ _)
  exact hdone i h3 h2 p_15 p_16
set_option maxRecDepth 100000 in
set_option maxHeartbeats 4000000 in
theorem kc_X8_init_39 (l : Launch) (D : va_G) (cy : Nat → ClassId) (bs tD tR : Nat) (cf : Nat → va_E) (hc_39 : cf 39 = .inr (8, [.null, .int 0, .null, .null, .int 0, .int 0, .int 0, .int 0, .int 0, .int 0, .null, .null])) : MC l ym_X8_init cm_X8_init 2 { frames := 2, cells := 4, slots := 275, locals := 40 } D cy bs 40 cf [.ref (bs + 39), .ref (bs + 29)] 44 [(cy 12, .int)] (Pd D cy bs tD tR cf 39 44) 4 275 := by
  refine met_c (by decide) (by decide) (Nat.le_of_ble_eq_true rfl) ?_
  intro p e s m args below meth c X hr hlk hin hw ls hl
  have hl : lv_has ls 2 [(0, .ref (bs + 39)), (1, .ref (bs + 29))] := hl
  have hlow : ∀ i, i < 39 → cf i = cf i := fun _ _ => rfl
  have hdone : ∀ i, 39 < i → i < 40 → cf i = ce (GB D bs cy tD tR) (s0 i) i := fun i h1 h2 => by omega
  refine lv_aload_n X.1 X.2.1 d_X8_init_0 rfl (lv_at hl 0 rfl) ?_
  refine W.objInit X.1 X.2.1 X.2.2.2.1 (X.2.2.2.2 _ tb_230) (X.2.2.2.2 _ tb_22) (X.2.2.2.2 _ tb_23) rfl (by rw [X.2.2.1]; exact hl.1) rfl d_X8_init_1 (Nat.le_of_ble_eq_true rfl) (Nat.le_of_ble_eq_true rfl) ?_
  refine W.eq (g2 := F0 m 4 ls []) rfl ?_
  refine lv_aload_n X.1 X.2.1 d_X8_init_4 rfl (lv_at hl 0 rfl) ?_
  refine k_new (ci := 5) (n := 7) (fs := [.null, .int 0, .int 0, .int 0, .int 0, .int 0, .int 0]) nty5 X hw ni5 nk5 rfl tb_231 tb_232 tb_9 (by intro j hj; have : j < 7 := hj; rcases (show j = 0 ∨ j = 1 ∨ j = 2 ∨ j = 3 ∨ j = 4 ∨ j = 5 ∨ j = 6 by omega) with rfl | rfl | rfl | rfl | rfl | rfl | rfl <;> rfl) (Nat.le_of_ble_eq_true rfl) (Nat.le_of_ble_eq_true rfl) d_X8_init_5 (fun H hw => ?_)
  obtain ⟨cf_1, e_cf_1⟩ : ∃ z : Nat → va_E, z = va_up cf 40 (.inr (5, [.null, .int 0, .int 0, .int 0, .int 0, .int 0, .int 0])) := ⟨_, rfl⟩
  rw [← e_cf_1] at hw
  have hlow : ∀ i, i < 39 → cf_1 i = cf i := fun i h => by rw [e_cf_1]; exact (vu_ne (by omega)).trans (hlow i h)
  have hc_39 : cf_1 39 = .inr (8, [.null, .int 0, .null, .null, .int 0, .int 0, .int 0, .int 0, .int 0, .int 0, .null, .null]) := by rw [e_cf_1]; exact (vu_ne (by decide)).trans hc_39
  have hc_40 : cf_1 40 = .inr (5, [.null, .int 0, .int 0, .int 0, .int 0, .int 0, .int 0]) := by rw [e_cf_1]; exact vu_at
  have hdone : ∀ i, 39 < i → i < 41 → i ≠ 40 → cf_1 i = ce (GB D bs cy tD tR) (s0 i) i := fun i h1 h2 p_40 => by rw [e_cf_1]; exact (vu_ne (by omega)).trans (hdone i h1 (by omega) )
  have hw : CW D cy bs 41 [] cf_1 s H _ 1 := hw
  refine W.eq (g2 := F0 m 8 ls [.ref (bs + 40), .ref (bs + 39)]) rfl ?_
  refine lv_dup X.1 X.2.1 d_X8_init_8 rfl ?_
  refine k_callN (rest := [.ref (bs + 40), .ref (bs + 39)]) (As := []) X hw (kt_X5_init l D cy bs 41 cf_1 40 (by decide)) rfl hw.2.2.2.2.2.1.2.2.2.2.2.2.1 tb_234 tb_9 tb_235 rfl hdc_X5_init ⟨rfl, rfl⟩ ⟨Nat.le_of_ble_eq_true rfl, Nat.le_of_ble_eq_true rfl⟩ rfl hl.1 rfl (Nat.le_of_ble_eq_true rfl) ⟨Nat.le_of_ble_eq_true rfl, Nat.le_of_ble_eq_true rfl⟩ d_X8_init_9 (fun u H locs hu hw => ?_)
  obtain ⟨cf_2, rfl⟩ : ∃ z : Nat → va_E, z = u := ⟨_, rfl⟩
  have hu : ∀ i, cf_2 i = cf_1 i := hu
  have hc_39 : cf_2 39 = .inr (8, [.null, .int 0, .null, .null, .int 0, .int 0, .int 0, .int 0, .int 0, .int 0, .null, .null]) := (hu _).trans hc_39
  have hc_40 : cf_2 40 = .inr (5, [.null, .int 0, .int 0, .int 0, .int 0, .int 0, .int 0]) := (hu _).trans hc_40
  have hlow : ∀ i, i < 39 → cf_2 i = cf i := fun i h => (hu i).trans (hlow i h)
  have hdone : ∀ i, 39 < i → i < 41 → i ≠ 40 → cf_2 i = ce (GB D bs cy tD tR) (s0 i) i := fun i h1 h2 p_40 => (hu i).trans (hdone i h1 h2 p_40)
  have hw : CW D cy bs 41 [] cf_2 s H _ 1 := k_tys [] hw rfl
  have hdone : ∀ i, 39 < i → i < 41 → cf_2 i = ce (GB D bs cy tD tR) (s0 i) i := fun i h1 h2  => by
    by_cases p_40 : i = 40
    · subst p_40; exact hc_40.trans rfl
    · exact hdone i h1 h2 p_40
  refine W.eq (g2 := F0 m 12 ls [.ref (bs + 40), .ref (bs + 39)]) rfl ?_
  refine k_putF (ci := 8) (n := 12) (k := 0) (v := .ref (bs + 40)) (ty := .object "GameLoom$Position") nty8 X hw (by decide) hc_39 ni8 nk8 nn8 rfl (by decide) tb_282 rfl rfl hin rfl (by decide +kernel) rfl rfl (Nat.le_of_ble_eq_true rfl) d_X8_init_12 (fun H locs hw => ?_)
  have hw : CW D cy bs 41 [] (va_up cf_2 39 (.inr (8, [.ref (bs + 40), .int 0, .null, .null, .int 0, .int 0, .int 0, .int 0, .int 0, .int 0, .null, .null]))) s H _ 1 := hw
  obtain ⟨cf_3, e_cf_3⟩ : ∃ z : Nat → va_E, z = va_up cf_2 39 (.inr (8, [.ref (bs + 40), .int 0, .null, .null, .int 0, .int 0, .int 0, .int 0, .int 0, .int 0, .null, .null])) := ⟨_, rfl⟩
  rw [← e_cf_3] at hw
  have hlow : ∀ i, i < 39 → cf_3 i = cf i := fun i h => by rw [e_cf_3]; exact (vu_ne (by omega)).trans (hlow i h)
  have hc_39 : cf_3 39 = .inr (8, [.ref (bs + 40), .int 0, .null, .null, .int 0, .int 0, .int 0, .int 0, .int 0, .int 0, .null, .null]) := by rw [e_cf_3]; exact vu_at
  have hdone : ∀ i, 39 < i → i < 41 → cf_3 i = ce (GB D bs cy tD tR) (s0 i) i := fun i h1 h2  => by rw [e_cf_3]; exact (vu_ne (by omega)).trans (hdone i h1 h2 )
  refine lv_aload_n X.1 X.2.1 d_X8_init_15 rfl (lv_at hl 0 rfl) ?_
  refine lv_sipush (v := 256) X.1 X.2.1 d_X8_init_16 (by decide) ?_
  refine k_newI (N' := 256) X hw (by decide) (by decide) (by decide) (Nat.le_of_ble_eq_true rfl) (Nat.le_of_ble_eq_true rfl) d_X8_init_19 (fun H hw => ?_)
  have hw : CW D cy bs 42 ([] ++ [(cy 12, .int)]) _ s H _ 2 := hw
  obtain ⟨cf_4, e_cf_4⟩ : ∃ z : Nat → va_E, z = va_up cf_3 41 (.inl (cy 12, 256, .inl (fun _ => 0))) := ⟨_, rfl⟩
  rw [← e_cf_4] at hw
  have hlow : ∀ i, i < 39 → cf_4 i = cf i := fun i h => by rw [e_cf_4]; exact (vu_ne (by omega)).trans (hlow i h)
  have hc_39 : cf_4 39 = .inr (8, [.ref (bs + 40), .int 0, .null, .null, .int 0, .int 0, .int 0, .int 0, .int 0, .int 0, .null, .null]) := by rw [e_cf_4]; exact (vu_ne (by decide)).trans hc_39
  have hc_41 : cf_4 41 = .inl (cy 12, 256, .inl (fun _ => 0)) := by rw [e_cf_4]; exact vu_at
  have hdone : ∀ i, 39 < i → i < 42 → i ≠ 41 → cf_4 i = ce (GB D bs cy tD tR) (s0 i) i := fun i h1 h2 p_41 => by rw [e_cf_4]; exact (vu_ne (by omega)).trans (hdone i h1 (by omega) )
  have hdone : ∀ i, 39 < i → i < 42 → cf_4 i = ce (GB D bs cy tD tR) (s0 i) i := fun i h1 h2  => by
    by_cases p_41 : i = 41
    · subst p_41; exact hc_41.trans rfl
    · exact hdone i h1 h2 p_41
  have hw : CW D cy bs 42 [(cy 12, .int)] cf_4 s H _ 2 := k_tys [0] hw rfl
  refine W.eq (g2 := F0 m 21 ls [.ref (bs + 41), .ref (bs + 39)]) rfl ?_
  refine k_putF (ci := 8) (n := 12) (k := 3) (v := .ref (bs + 41)) (ty := .array (.int)) nty8 X hw (by decide) hc_39 ni8 nk8 nn8 rfl (by decide) tb_287 rfl rfl hin rfl (by decide +kernel) rfl rfl (Nat.le_of_ble_eq_true rfl) d_X8_init_21 (fun H locs hw => ?_)
  have hw : CW D cy bs 42 [(cy 12, .int)] (va_up cf_4 39 (.inr (8, [.ref (bs + 40), .int 0, .null, .ref (bs + 41), .int 0, .int 0, .int 0, .int 0, .int 0, .int 0, .null, .null]))) s H _ 2 := hw
  obtain ⟨cf_5, e_cf_5⟩ : ∃ z : Nat → va_E, z = va_up cf_4 39 (.inr (8, [.ref (bs + 40), .int 0, .null, .ref (bs + 41), .int 0, .int 0, .int 0, .int 0, .int 0, .int 0, .null, .null])) := ⟨_, rfl⟩
  rw [← e_cf_5] at hw
  have hlow : ∀ i, i < 39 → cf_5 i = cf i := fun i h => by rw [e_cf_5]; exact (vu_ne (by omega)).trans (hlow i h)
  have hc_39 : cf_5 39 = .inr (8, [.ref (bs + 40), .int 0, .null, .ref (bs + 41), .int 0, .int 0, .int 0, .int 0, .int 0, .int 0, .null, .null]) := by rw [e_cf_5]; exact vu_at
  have hdone : ∀ i, 39 < i → i < 42 → cf_5 i = ce (GB D bs cy tD tR) (s0 i) i := fun i h1 h2  => by rw [e_cf_5]; exact (vu_ne (by omega)).trans (hdone i h1 h2 )
  refine lv_aload_n X.1 X.2.1 d_X8_init_24 rfl (lv_at hl 0 rfl) ?_
  refine lv_bipush (v := 6) X.1 X.2.1 d_X8_init_25 (by decide) ?_
  refine k_newI (N' := 6) X hw (by decide) (by decide) (by decide) (Nat.le_of_ble_eq_true rfl) (Nat.le_of_ble_eq_true rfl) d_X8_init_27 (fun H hw => ?_)
  have hw : CW D cy bs 43 ([(cy 12, .int)] ++ [(cy 12, .int)]) _ s H _ 3 := hw
  obtain ⟨cf_6, e_cf_6⟩ : ∃ z : Nat → va_E, z = va_up cf_5 42 (.inl (cy 12, 6, .inl (fun _ => 0))) := ⟨_, rfl⟩
  rw [← e_cf_6] at hw
  have hlow : ∀ i, i < 39 → cf_6 i = cf i := fun i h => by rw [e_cf_6]; exact (vu_ne (by omega)).trans (hlow i h)
  have hc_39 : cf_6 39 = .inr (8, [.ref (bs + 40), .int 0, .null, .ref (bs + 41), .int 0, .int 0, .int 0, .int 0, .int 0, .int 0, .null, .null]) := by rw [e_cf_6]; exact (vu_ne (by decide)).trans hc_39
  have hc_42 : cf_6 42 = .inl (cy 12, 6, .inl (fun _ => 0)) := by rw [e_cf_6]; exact vu_at
  have hdone : ∀ i, 39 < i → i < 43 → i ≠ 42 → cf_6 i = ce (GB D bs cy tD tR) (s0 i) i := fun i h1 h2 p_42 => by rw [e_cf_6]; exact (vu_ne (by omega)).trans (hdone i h1 (by omega) )
  have hdone : ∀ i, 39 < i → i < 43 → cf_6 i = ce (GB D bs cy tD tR) (s0 i) i := fun i h1 h2  => by
    by_cases p_42 : i = 42
    · subst p_42; exact hc_42.trans rfl
    · exact hdone i h1 h2 p_42
  have hw : CW D cy bs 43 [(cy 12, .int)] cf_6 s H _ 3 := k_tys [0] hw rfl
  refine W.eq (g2 := F0 m 29 ls [.ref (bs + 42), .ref (bs + 39)]) rfl ?_
  refine k_putF (ci := 8) (n := 12) (k := 10) (v := .ref (bs + 42)) (ty := .array (.int)) nty8 X hw (by decide) hc_39 ni8 nk8 nn8 rfl (by decide) tb_294 rfl rfl hin rfl (by decide +kernel) rfl rfl (Nat.le_of_ble_eq_true rfl) d_X8_init_29 (fun H locs hw => ?_)
  have hw : CW D cy bs 43 [(cy 12, .int)] (va_up cf_6 39 (.inr (8, [.ref (bs + 40), .int 0, .null, .ref (bs + 41), .int 0, .int 0, .int 0, .int 0, .int 0, .int 0, .ref (bs + 42), .null]))) s H _ 3 := hw
  obtain ⟨cf_7, e_cf_7⟩ : ∃ z : Nat → va_E, z = va_up cf_6 39 (.inr (8, [.ref (bs + 40), .int 0, .null, .ref (bs + 41), .int 0, .int 0, .int 0, .int 0, .int 0, .int 0, .ref (bs + 42), .null])) := ⟨_, rfl⟩
  rw [← e_cf_7] at hw
  have hlow : ∀ i, i < 39 → cf_7 i = cf i := fun i h => by rw [e_cf_7]; exact (vu_ne (by omega)).trans (hlow i h)
  have hc_39 : cf_7 39 = .inr (8, [.ref (bs + 40), .int 0, .null, .ref (bs + 41), .int 0, .int 0, .int 0, .int 0, .int 0, .int 0, .ref (bs + 42), .null]) := by rw [e_cf_7]; exact vu_at
  have hdone : ∀ i, 39 < i → i < 43 → cf_7 i = ce (GB D bs cy tD tR) (s0 i) i := fun i h1 h2  => by rw [e_cf_7]; exact (vu_ne (by omega)).trans (hdone i h1 h2 )
  refine lv_aload_n X.1 X.2.1 d_X8_init_32 rfl (lv_at hl 0 rfl) ?_
  refine lv_bipush (v := 6) X.1 X.2.1 d_X8_init_33 (by decide) ?_
  refine k_newI (N' := 6) X hw (by decide) (by decide) (by decide) (Nat.le_of_ble_eq_true rfl) (Nat.le_of_ble_eq_true rfl) d_X8_init_35 (fun H hw => ?_)
  have hw : CW D cy bs 44 ([(cy 12, .int)] ++ [(cy 12, .int)]) _ s H _ 4 := hw
  obtain ⟨cf_8, e_cf_8⟩ : ∃ z : Nat → va_E, z = va_up cf_7 43 (.inl (cy 12, 6, .inl (fun _ => 0))) := ⟨_, rfl⟩
  rw [← e_cf_8] at hw
  have hlow : ∀ i, i < 39 → cf_8 i = cf i := fun i h => by rw [e_cf_8]; exact (vu_ne (by omega)).trans (hlow i h)
  have hc_39 : cf_8 39 = .inr (8, [.ref (bs + 40), .int 0, .null, .ref (bs + 41), .int 0, .int 0, .int 0, .int 0, .int 0, .int 0, .ref (bs + 42), .null]) := by rw [e_cf_8]; exact (vu_ne (by decide)).trans hc_39
  have hc_43 : cf_8 43 = .inl (cy 12, 6, .inl (fun _ => 0)) := by rw [e_cf_8]; exact vu_at
  have hdone : ∀ i, 39 < i → i < 44 → i ≠ 43 → cf_8 i = ce (GB D bs cy tD tR) (s0 i) i := fun i h1 h2 p_43 => by rw [e_cf_8]; exact (vu_ne (by omega)).trans (hdone i h1 (by omega) )
  have hdone : ∀ i, 39 < i → i < 44 → cf_8 i = ce (GB D bs cy tD tR) (s0 i) i := fun i h1 h2  => by
    by_cases p_43 : i = 43
    · subst p_43; exact hc_43.trans rfl
    · exact hdone i h1 h2 p_43
  have hw : CW D cy bs 44 [(cy 12, .int)] cf_8 s H _ 4 := k_tys [0] hw rfl
  refine W.eq (g2 := F0 m 37 ls [.ref (bs + 43), .ref (bs + 39)]) rfl ?_
  refine k_putF (ci := 8) (n := 12) (k := 11) (v := .ref (bs + 43)) (ty := .array (.int)) nty8 X hw (by decide) hc_39 ni8 nk8 nn8 rfl (by decide) tb_295 rfl rfl hin rfl (by decide +kernel) rfl rfl (Nat.le_of_ble_eq_true rfl) d_X8_init_37 (fun H locs hw => ?_)
  have hw : CW D cy bs 44 [(cy 12, .int)] (va_up cf_8 39 (.inr (8, [.ref (bs + 40), .int 0, .null, .ref (bs + 41), .int 0, .int 0, .int 0, .int 0, .int 0, .int 0, .ref (bs + 42), .ref (bs + 43)]))) s H _ 4 := hw
  obtain ⟨cf_9, e_cf_9⟩ : ∃ z : Nat → va_E, z = va_up cf_8 39 (.inr (8, [.ref (bs + 40), .int 0, .null, .ref (bs + 41), .int 0, .int 0, .int 0, .int 0, .int 0, .int 0, .ref (bs + 42), .ref (bs + 43)])) := ⟨_, rfl⟩
  rw [← e_cf_9] at hw
  have hlow : ∀ i, i < 39 → cf_9 i = cf i := fun i h => by rw [e_cf_9]; exact (vu_ne (by omega)).trans (hlow i h)
  have hc_39 : cf_9 39 = .inr (8, [.ref (bs + 40), .int 0, .null, .ref (bs + 41), .int 0, .int 0, .int 0, .int 0, .int 0, .int 0, .ref (bs + 42), .ref (bs + 43)]) := by rw [e_cf_9]; exact vu_at
  have hdone : ∀ i, 39 < i → i < 44 → cf_9 i = ce (GB D bs cy tD tR) (s0 i) i := fun i h1 h2  => by rw [e_cf_9]; exact (vu_ne (by omega)).trans (hdone i h1 h2 )
  refine lv_aload_n X.1 X.2.1 d_X8_init_40 rfl (lv_at hl 0 rfl) ?_
  refine lv_aload_n X.1 X.2.1 d_X8_init_41 rfl (lv_at hl 1 rfl) ?_
  refine k_putF (ci := 8) (n := 12) (k := 2) (v := .ref (bs + 29)) (ty := .object "GameLoom$Looker") nty8 X hw (by decide) hc_39 ni8 nk8 nn8 rfl (by decide) tb_286 rfl rfl hin rfl (by decide +kernel) rfl rfl (Nat.le_of_ble_eq_true rfl) d_X8_init_42 (fun H locs hw => ?_)
  have hw : CW D cy bs 44 [(cy 12, .int)] (va_up cf_9 39 (.inr (8, [.ref (bs + 40), .int 0, .ref (bs + 29), .ref (bs + 41), .int 0, .int 0, .int 0, .int 0, .int 0, .int 0, .ref (bs + 42), .ref (bs + 43)]))) s H _ 4 := hw
  obtain ⟨cf_10, e_cf_10⟩ : ∃ z : Nat → va_E, z = va_up cf_9 39 (.inr (8, [.ref (bs + 40), .int 0, .ref (bs + 29), .ref (bs + 41), .int 0, .int 0, .int 0, .int 0, .int 0, .int 0, .ref (bs + 42), .ref (bs + 43)])) := ⟨_, rfl⟩
  rw [← e_cf_10] at hw
  have hlow : ∀ i, i < 39 → cf_10 i = cf i := fun i h => by rw [e_cf_10]; exact (vu_ne (by omega)).trans (hlow i h)
  have hc_39 : cf_10 39 = .inr (8, [.ref (bs + 40), .int 0, .ref (bs + 29), .ref (bs + 41), .int 0, .int 0, .int 0, .int 0, .int 0, .int 0, .ref (bs + 42), .ref (bs + 43)]) := by rw [e_cf_10]; exact vu_at
  have hdone : ∀ i, 39 < i → i < 44 → cf_10 i = ce (GB D bs cy tD tR) (s0 i) i := fun i h1 h2  => by rw [e_cf_10]; exact (vu_ne (by omega)).trans (hdone i h1 h2 )
  refine k_vret X hr hlk hw ⟨hlow, fun i h1 h2 => ?_⟩ d_X8_init_45
  rcases Nat.eq_or_lt_of_le h1 with h3 | h3
  · subst h3; exact hc_39.trans rfl
  exact hdone i h3 h2 
set_option maxRecDepth 100000 in
set_option maxHeartbeats 4000000 in
theorem kc_X8_init_44 (l : Launch) (D : va_G) (cy : Nat → ClassId) (bs tD tR : Nat) (cf : Nat → va_E) (hc_44 : cf 44 = .inr (8, [.null, .int 0, .null, .null, .int 0, .int 0, .int 0, .int 0, .int 0, .int 0, .null, .null])) : MC l ym_X8_init cm_X8_init 2 { frames := 2, cells := 4, slots := 275, locals := 40 } D cy bs 45 cf [.ref (bs + 44), .ref (bs + 29)] 49 [(cy 12, .int)] (Pd D cy bs tD tR cf 44 49) 4 275 := by
  refine met_c (by decide) (by decide) (Nat.le_of_ble_eq_true rfl) ?_
  intro p e s m args below meth c X hr hlk hin hw ls hl
  have hl : lv_has ls 2 [(0, .ref (bs + 44)), (1, .ref (bs + 29))] := hl
  have hlow : ∀ i, i < 44 → cf i = cf i := fun _ _ => rfl
  have hdone : ∀ i, 44 < i → i < 45 → cf i = ce (GB D bs cy tD tR) (s0 i) i := fun i h1 h2 => by omega
  refine lv_aload_n X.1 X.2.1 d_X8_init_0 rfl (lv_at hl 0 rfl) ?_
  refine W.objInit X.1 X.2.1 X.2.2.2.1 (X.2.2.2.2 _ tb_230) (X.2.2.2.2 _ tb_22) (X.2.2.2.2 _ tb_23) rfl (by rw [X.2.2.1]; exact hl.1) rfl d_X8_init_1 (Nat.le_of_ble_eq_true rfl) (Nat.le_of_ble_eq_true rfl) ?_
  refine W.eq (g2 := F0 m 4 ls []) rfl ?_
  refine lv_aload_n X.1 X.2.1 d_X8_init_4 rfl (lv_at hl 0 rfl) ?_
  refine k_new (ci := 5) (n := 7) (fs := [.null, .int 0, .int 0, .int 0, .int 0, .int 0, .int 0]) nty5 X hw ni5 nk5 rfl tb_231 tb_232 tb_9 (by intro j hj; have : j < 7 := hj; rcases (show j = 0 ∨ j = 1 ∨ j = 2 ∨ j = 3 ∨ j = 4 ∨ j = 5 ∨ j = 6 by omega) with rfl | rfl | rfl | rfl | rfl | rfl | rfl <;> rfl) (Nat.le_of_ble_eq_true rfl) (Nat.le_of_ble_eq_true rfl) d_X8_init_5 (fun H hw => ?_)
  obtain ⟨cf_1, e_cf_1⟩ : ∃ z : Nat → va_E, z = va_up cf 45 (.inr (5, [.null, .int 0, .int 0, .int 0, .int 0, .int 0, .int 0])) := ⟨_, rfl⟩
  rw [← e_cf_1] at hw
  have hlow : ∀ i, i < 44 → cf_1 i = cf i := fun i h => by rw [e_cf_1]; exact (vu_ne (by omega)).trans (hlow i h)
  have hc_44 : cf_1 44 = .inr (8, [.null, .int 0, .null, .null, .int 0, .int 0, .int 0, .int 0, .int 0, .int 0, .null, .null]) := by rw [e_cf_1]; exact (vu_ne (by decide)).trans hc_44
  have hc_45 : cf_1 45 = .inr (5, [.null, .int 0, .int 0, .int 0, .int 0, .int 0, .int 0]) := by rw [e_cf_1]; exact vu_at
  have hdone : ∀ i, 44 < i → i < 46 → i ≠ 45 → cf_1 i = ce (GB D bs cy tD tR) (s0 i) i := fun i h1 h2 p_45 => by rw [e_cf_1]; exact (vu_ne (by omega)).trans (hdone i h1 (by omega) )
  have hw : CW D cy bs 46 [] cf_1 s H _ 1 := hw
  refine W.eq (g2 := F0 m 8 ls [.ref (bs + 45), .ref (bs + 44)]) rfl ?_
  refine lv_dup X.1 X.2.1 d_X8_init_8 rfl ?_
  refine k_callN (rest := [.ref (bs + 45), .ref (bs + 44)]) (As := []) X hw (kt_X5_init l D cy bs 46 cf_1 45 (by decide)) rfl hw.2.2.2.2.2.1.2.2.2.2.2.2.1 tb_234 tb_9 tb_235 rfl hdc_X5_init ⟨rfl, rfl⟩ ⟨Nat.le_of_ble_eq_true rfl, Nat.le_of_ble_eq_true rfl⟩ rfl hl.1 rfl (Nat.le_of_ble_eq_true rfl) ⟨Nat.le_of_ble_eq_true rfl, Nat.le_of_ble_eq_true rfl⟩ d_X8_init_9 (fun u H locs hu hw => ?_)
  obtain ⟨cf_2, rfl⟩ : ∃ z : Nat → va_E, z = u := ⟨_, rfl⟩
  have hu : ∀ i, cf_2 i = cf_1 i := hu
  have hc_44 : cf_2 44 = .inr (8, [.null, .int 0, .null, .null, .int 0, .int 0, .int 0, .int 0, .int 0, .int 0, .null, .null]) := (hu _).trans hc_44
  have hc_45 : cf_2 45 = .inr (5, [.null, .int 0, .int 0, .int 0, .int 0, .int 0, .int 0]) := (hu _).trans hc_45
  have hlow : ∀ i, i < 44 → cf_2 i = cf i := fun i h => (hu i).trans (hlow i h)
  have hdone : ∀ i, 44 < i → i < 46 → i ≠ 45 → cf_2 i = ce (GB D bs cy tD tR) (s0 i) i := fun i h1 h2 p_45 => (hu i).trans (hdone i h1 h2 p_45)
  have hw : CW D cy bs 46 [] cf_2 s H _ 1 := k_tys [] hw rfl
  have hdone : ∀ i, 44 < i → i < 46 → cf_2 i = ce (GB D bs cy tD tR) (s0 i) i := fun i h1 h2  => by
    by_cases p_45 : i = 45
    · subst p_45; exact hc_45.trans rfl
    · exact hdone i h1 h2 p_45
  refine W.eq (g2 := F0 m 12 ls [.ref (bs + 45), .ref (bs + 44)]) rfl ?_
  refine k_putF (ci := 8) (n := 12) (k := 0) (v := .ref (bs + 45)) (ty := .object "GameLoom$Position") nty8 X hw (by decide) hc_44 ni8 nk8 nn8 rfl (by decide) tb_282 rfl rfl hin rfl (by decide +kernel) rfl rfl (Nat.le_of_ble_eq_true rfl) d_X8_init_12 (fun H locs hw => ?_)
  have hw : CW D cy bs 46 [] (va_up cf_2 44 (.inr (8, [.ref (bs + 45), .int 0, .null, .null, .int 0, .int 0, .int 0, .int 0, .int 0, .int 0, .null, .null]))) s H _ 1 := hw
  obtain ⟨cf_3, e_cf_3⟩ : ∃ z : Nat → va_E, z = va_up cf_2 44 (.inr (8, [.ref (bs + 45), .int 0, .null, .null, .int 0, .int 0, .int 0, .int 0, .int 0, .int 0, .null, .null])) := ⟨_, rfl⟩
  rw [← e_cf_3] at hw
  have hlow : ∀ i, i < 44 → cf_3 i = cf i := fun i h => by rw [e_cf_3]; exact (vu_ne (by omega)).trans (hlow i h)
  have hc_44 : cf_3 44 = .inr (8, [.ref (bs + 45), .int 0, .null, .null, .int 0, .int 0, .int 0, .int 0, .int 0, .int 0, .null, .null]) := by rw [e_cf_3]; exact vu_at
  have hdone : ∀ i, 44 < i → i < 46 → cf_3 i = ce (GB D bs cy tD tR) (s0 i) i := fun i h1 h2  => by rw [e_cf_3]; exact (vu_ne (by omega)).trans (hdone i h1 h2 )
  refine lv_aload_n X.1 X.2.1 d_X8_init_15 rfl (lv_at hl 0 rfl) ?_
  refine lv_sipush (v := 256) X.1 X.2.1 d_X8_init_16 (by decide) ?_
  refine k_newI (N' := 256) X hw (by decide) (by decide) (by decide) (Nat.le_of_ble_eq_true rfl) (Nat.le_of_ble_eq_true rfl) d_X8_init_19 (fun H hw => ?_)
  have hw : CW D cy bs 47 ([] ++ [(cy 12, .int)]) _ s H _ 2 := hw
  obtain ⟨cf_4, e_cf_4⟩ : ∃ z : Nat → va_E, z = va_up cf_3 46 (.inl (cy 12, 256, .inl (fun _ => 0))) := ⟨_, rfl⟩
  rw [← e_cf_4] at hw
  have hlow : ∀ i, i < 44 → cf_4 i = cf i := fun i h => by rw [e_cf_4]; exact (vu_ne (by omega)).trans (hlow i h)
  have hc_44 : cf_4 44 = .inr (8, [.ref (bs + 45), .int 0, .null, .null, .int 0, .int 0, .int 0, .int 0, .int 0, .int 0, .null, .null]) := by rw [e_cf_4]; exact (vu_ne (by decide)).trans hc_44
  have hc_46 : cf_4 46 = .inl (cy 12, 256, .inl (fun _ => 0)) := by rw [e_cf_4]; exact vu_at
  have hdone : ∀ i, 44 < i → i < 47 → i ≠ 46 → cf_4 i = ce (GB D bs cy tD tR) (s0 i) i := fun i h1 h2 p_46 => by rw [e_cf_4]; exact (vu_ne (by omega)).trans (hdone i h1 (by omega) )
  have hdone : ∀ i, 44 < i → i < 47 → cf_4 i = ce (GB D bs cy tD tR) (s0 i) i := fun i h1 h2  => by
    by_cases p_46 : i = 46
    · subst p_46; exact hc_46.trans rfl
    · exact hdone i h1 h2 p_46
  have hw : CW D cy bs 47 [(cy 12, .int)] cf_4 s H _ 2 := k_tys [0] hw rfl
  refine W.eq (g2 := F0 m 21 ls [.ref (bs + 46), .ref (bs + 44)]) rfl ?_
  refine k_putF (ci := 8) (n := 12) (k := 3) (v := .ref (bs + 46)) (ty := .array (.int)) nty8 X hw (by decide) hc_44 ni8 nk8 nn8 rfl (by decide) tb_287 rfl rfl hin rfl (by decide +kernel) rfl rfl (Nat.le_of_ble_eq_true rfl) d_X8_init_21 (fun H locs hw => ?_)
  have hw : CW D cy bs 47 [(cy 12, .int)] (va_up cf_4 44 (.inr (8, [.ref (bs + 45), .int 0, .null, .ref (bs + 46), .int 0, .int 0, .int 0, .int 0, .int 0, .int 0, .null, .null]))) s H _ 2 := hw
  obtain ⟨cf_5, e_cf_5⟩ : ∃ z : Nat → va_E, z = va_up cf_4 44 (.inr (8, [.ref (bs + 45), .int 0, .null, .ref (bs + 46), .int 0, .int 0, .int 0, .int 0, .int 0, .int 0, .null, .null])) := ⟨_, rfl⟩
  rw [← e_cf_5] at hw
  have hlow : ∀ i, i < 44 → cf_5 i = cf i := fun i h => by rw [e_cf_5]; exact (vu_ne (by omega)).trans (hlow i h)
  have hc_44 : cf_5 44 = .inr (8, [.ref (bs + 45), .int 0, .null, .ref (bs + 46), .int 0, .int 0, .int 0, .int 0, .int 0, .int 0, .null, .null]) := by rw [e_cf_5]; exact vu_at
  have hdone : ∀ i, 44 < i → i < 47 → cf_5 i = ce (GB D bs cy tD tR) (s0 i) i := fun i h1 h2  => by rw [e_cf_5]; exact (vu_ne (by omega)).trans (hdone i h1 h2 )
  refine lv_aload_n X.1 X.2.1 d_X8_init_24 rfl (lv_at hl 0 rfl) ?_
  refine lv_bipush (v := 6) X.1 X.2.1 d_X8_init_25 (by decide) ?_
  refine k_newI (N' := 6) X hw (by decide) (by decide) (by decide) (Nat.le_of_ble_eq_true rfl) (Nat.le_of_ble_eq_true rfl) d_X8_init_27 (fun H hw => ?_)
  have hw : CW D cy bs 48 ([(cy 12, .int)] ++ [(cy 12, .int)]) _ s H _ 3 := hw
  obtain ⟨cf_6, e_cf_6⟩ : ∃ z : Nat → va_E, z = va_up cf_5 47 (.inl (cy 12, 6, .inl (fun _ => 0))) := ⟨_, rfl⟩
  rw [← e_cf_6] at hw
  have hlow : ∀ i, i < 44 → cf_6 i = cf i := fun i h => by rw [e_cf_6]; exact (vu_ne (by omega)).trans (hlow i h)
  have hc_44 : cf_6 44 = .inr (8, [.ref (bs + 45), .int 0, .null, .ref (bs + 46), .int 0, .int 0, .int 0, .int 0, .int 0, .int 0, .null, .null]) := by rw [e_cf_6]; exact (vu_ne (by decide)).trans hc_44
  have hc_47 : cf_6 47 = .inl (cy 12, 6, .inl (fun _ => 0)) := by rw [e_cf_6]; exact vu_at
  have hdone : ∀ i, 44 < i → i < 48 → i ≠ 47 → cf_6 i = ce (GB D bs cy tD tR) (s0 i) i := fun i h1 h2 p_47 => by rw [e_cf_6]; exact (vu_ne (by omega)).trans (hdone i h1 (by omega) )
  have hdone : ∀ i, 44 < i → i < 48 → cf_6 i = ce (GB D bs cy tD tR) (s0 i) i := fun i h1 h2  => by
    by_cases p_47 : i = 47
    · subst p_47; exact hc_47.trans rfl
    · exact hdone i h1 h2 p_47
  have hw : CW D cy bs 48 [(cy 12, .int)] cf_6 s H _ 3 := k_tys [0] hw rfl
  refine W.eq (g2 := F0 m 29 ls [.ref (bs + 47), .ref (bs + 44)]) rfl ?_
  refine k_putF (ci := 8) (n := 12) (k := 10) (v := .ref (bs + 47)) (ty := .array (.int)) nty8 X hw (by decide) hc_44 ni8 nk8 nn8 rfl (by decide) tb_294 rfl rfl hin rfl (by decide +kernel) rfl rfl (Nat.le_of_ble_eq_true rfl) d_X8_init_29 (fun H locs hw => ?_)
  have hw : CW D cy bs 48 [(cy 12, .int)] (va_up cf_6 44 (.inr (8, [.ref (bs + 45), .int 0, .null, .ref (bs + 46), .int 0, .int 0, .int 0, .int 0, .int 0, .int 0, .ref (bs + 47), .null]))) s H _ 3 := hw
  obtain ⟨cf_7, e_cf_7⟩ : ∃ z : Nat → va_E, z = va_up cf_6 44 (.inr (8, [.ref (bs + 45), .int 0, .null, .ref (bs + 46), .int 0, .int 0, .int 0, .int 0, .int 0, .int 0, .ref (bs + 47), .null])) := ⟨_, rfl⟩
  rw [← e_cf_7] at hw
  have hlow : ∀ i, i < 44 → cf_7 i = cf i := fun i h => by rw [e_cf_7]; exact (vu_ne (by omega)).trans (hlow i h)
  have hc_44 : cf_7 44 = .inr (8, [.ref (bs + 45), .int 0, .null, .ref (bs + 46), .int 0, .int 0, .int 0, .int 0, .int 0, .int 0, .ref (bs + 47), .null]) := by rw [e_cf_7]; exact vu_at
  have hdone : ∀ i, 44 < i → i < 48 → cf_7 i = ce (GB D bs cy tD tR) (s0 i) i := fun i h1 h2  => by rw [e_cf_7]; exact (vu_ne (by omega)).trans (hdone i h1 h2 )
  refine lv_aload_n X.1 X.2.1 d_X8_init_32 rfl (lv_at hl 0 rfl) ?_
  refine lv_bipush (v := 6) X.1 X.2.1 d_X8_init_33 (by decide) ?_
  refine k_newI (N' := 6) X hw (by decide) (by decide) (by decide) (Nat.le_of_ble_eq_true rfl) (Nat.le_of_ble_eq_true rfl) d_X8_init_35 (fun H hw => ?_)
  have hw : CW D cy bs 49 ([(cy 12, .int)] ++ [(cy 12, .int)]) _ s H _ 4 := hw
  obtain ⟨cf_8, e_cf_8⟩ : ∃ z : Nat → va_E, z = va_up cf_7 48 (.inl (cy 12, 6, .inl (fun _ => 0))) := ⟨_, rfl⟩
  rw [← e_cf_8] at hw
  have hlow : ∀ i, i < 44 → cf_8 i = cf i := fun i h => by rw [e_cf_8]; exact (vu_ne (by omega)).trans (hlow i h)
  have hc_44 : cf_8 44 = .inr (8, [.ref (bs + 45), .int 0, .null, .ref (bs + 46), .int 0, .int 0, .int 0, .int 0, .int 0, .int 0, .ref (bs + 47), .null]) := by rw [e_cf_8]; exact (vu_ne (by decide)).trans hc_44
  have hc_48 : cf_8 48 = .inl (cy 12, 6, .inl (fun _ => 0)) := by rw [e_cf_8]; exact vu_at
  have hdone : ∀ i, 44 < i → i < 49 → i ≠ 48 → cf_8 i = ce (GB D bs cy tD tR) (s0 i) i := fun i h1 h2 p_48 => by rw [e_cf_8]; exact (vu_ne (by omega)).trans (hdone i h1 (by omega) )
  have hdone : ∀ i, 44 < i → i < 49 → cf_8 i = ce (GB D bs cy tD tR) (s0 i) i := fun i h1 h2  => by
    by_cases p_48 : i = 48
    · subst p_48; exact hc_48.trans rfl
    · exact hdone i h1 h2 p_48
  have hw : CW D cy bs 49 [(cy 12, .int)] cf_8 s H _ 4 := k_tys [0] hw rfl
  refine W.eq (g2 := F0 m 37 ls [.ref (bs + 48), .ref (bs + 44)]) rfl ?_
  refine k_putF (ci := 8) (n := 12) (k := 11) (v := .ref (bs + 48)) (ty := .array (.int)) nty8 X hw (by decide) hc_44 ni8 nk8 nn8 rfl (by decide) tb_295 rfl rfl hin rfl (by decide +kernel) rfl rfl (Nat.le_of_ble_eq_true rfl) d_X8_init_37 (fun H locs hw => ?_)
  have hw : CW D cy bs 49 [(cy 12, .int)] (va_up cf_8 44 (.inr (8, [.ref (bs + 45), .int 0, .null, .ref (bs + 46), .int 0, .int 0, .int 0, .int 0, .int 0, .int 0, .ref (bs + 47), .ref (bs + 48)]))) s H _ 4 := hw
  obtain ⟨cf_9, e_cf_9⟩ : ∃ z : Nat → va_E, z = va_up cf_8 44 (.inr (8, [.ref (bs + 45), .int 0, .null, .ref (bs + 46), .int 0, .int 0, .int 0, .int 0, .int 0, .int 0, .ref (bs + 47), .ref (bs + 48)])) := ⟨_, rfl⟩
  rw [← e_cf_9] at hw
  have hlow : ∀ i, i < 44 → cf_9 i = cf i := fun i h => by rw [e_cf_9]; exact (vu_ne (by omega)).trans (hlow i h)
  have hc_44 : cf_9 44 = .inr (8, [.ref (bs + 45), .int 0, .null, .ref (bs + 46), .int 0, .int 0, .int 0, .int 0, .int 0, .int 0, .ref (bs + 47), .ref (bs + 48)]) := by rw [e_cf_9]; exact vu_at
  have hdone : ∀ i, 44 < i → i < 49 → cf_9 i = ce (GB D bs cy tD tR) (s0 i) i := fun i h1 h2  => by rw [e_cf_9]; exact (vu_ne (by omega)).trans (hdone i h1 h2 )
  refine lv_aload_n X.1 X.2.1 d_X8_init_40 rfl (lv_at hl 0 rfl) ?_
  refine lv_aload_n X.1 X.2.1 d_X8_init_41 rfl (lv_at hl 1 rfl) ?_
  refine k_putF (ci := 8) (n := 12) (k := 2) (v := .ref (bs + 29)) (ty := .object "GameLoom$Looker") nty8 X hw (by decide) hc_44 ni8 nk8 nn8 rfl (by decide) tb_286 rfl rfl hin rfl (by decide +kernel) rfl rfl (Nat.le_of_ble_eq_true rfl) d_X8_init_42 (fun H locs hw => ?_)
  have hw : CW D cy bs 49 [(cy 12, .int)] (va_up cf_9 44 (.inr (8, [.ref (bs + 45), .int 0, .ref (bs + 29), .ref (bs + 46), .int 0, .int 0, .int 0, .int 0, .int 0, .int 0, .ref (bs + 47), .ref (bs + 48)]))) s H _ 4 := hw
  obtain ⟨cf_10, e_cf_10⟩ : ∃ z : Nat → va_E, z = va_up cf_9 44 (.inr (8, [.ref (bs + 45), .int 0, .ref (bs + 29), .ref (bs + 46), .int 0, .int 0, .int 0, .int 0, .int 0, .int 0, .ref (bs + 47), .ref (bs + 48)])) := ⟨_, rfl⟩
  rw [← e_cf_10] at hw
  have hlow : ∀ i, i < 44 → cf_10 i = cf i := fun i h => by rw [e_cf_10]; exact (vu_ne (by omega)).trans (hlow i h)
  have hc_44 : cf_10 44 = .inr (8, [.ref (bs + 45), .int 0, .ref (bs + 29), .ref (bs + 46), .int 0, .int 0, .int 0, .int 0, .int 0, .int 0, .ref (bs + 47), .ref (bs + 48)]) := by rw [e_cf_10]; exact vu_at
  have hdone : ∀ i, 44 < i → i < 49 → cf_10 i = ce (GB D bs cy tD tR) (s0 i) i := fun i h1 h2  => by rw [e_cf_10]; exact (vu_ne (by omega)).trans (hdone i h1 h2 )
  refine k_vret X hr hlk hw ⟨hlow, fun i h1 h2 => ?_⟩ d_X8_init_45
  rcases Nat.eq_or_lt_of_le h1 with h3 | h3
  · subst h3; exact hc_44.trans rfl
  exact hdone i h3 h2 
set_option maxRecDepth 100000 in
set_option maxHeartbeats 4000000 in
theorem kc_X2_init_49 (l : Launch) (D : va_G) (cy : Nat → ClassId) (bs tD tR : Nat) (cf : Nat → va_E) (hc_49 : cf 49 = .inr (2, [.null, .null, .null, .null])) : MC l ym_X2_init cm_X2_init 2 { frames := 2, cells := 3, slots := 270, locals := 40 } D cy bs 50 cf [.ref (bs + 49), .ref (bs + 29)] 53 [(cy 12, .int)] (Pd D cy bs tD tR cf 49 53) 3 270 := by
  refine met_c (by decide) (by decide) (Nat.le_of_ble_eq_true rfl) ?_
  intro p e s m args below meth c X hr hlk hin hw ls hl
  have hl : lv_has ls 2 [(0, .ref (bs + 49)), (1, .ref (bs + 29))] := hl
  have hlow : ∀ i, i < 49 → cf i = cf i := fun _ _ => rfl
  have hdone : ∀ i, 49 < i → i < 50 → cf i = ce (GB D bs cy tD tR) (s0 i) i := fun i h1 h2 => by omega
  refine lv_aload_n X.1 X.2.1 d_X2_init_0 rfl (lv_at hl 0 rfl) ?_
  refine W.objInit X.1 X.2.1 X.2.2.2.1 (X.2.2.2.2 _ tb_326) (X.2.2.2.2 _ tb_22) (X.2.2.2.2 _ tb_23) rfl (by rw [X.2.2.1]; exact hl.1) rfl d_X2_init_1 (Nat.le_of_ble_eq_true rfl) (Nat.le_of_ble_eq_true rfl) ?_
  refine W.eq (g2 := F0 m 4 ls []) rfl ?_
  refine lv_aload_n X.1 X.2.1 d_X2_init_4 rfl (lv_at hl 0 rfl) ?_
  refine k_new (ci := 5) (n := 7) (fs := [.null, .int 0, .int 0, .int 0, .int 0, .int 0, .int 0]) nty5 X hw ni5 nk5 rfl tb_327 tb_232 tb_9 (by intro j hj; have : j < 7 := hj; rcases (show j = 0 ∨ j = 1 ∨ j = 2 ∨ j = 3 ∨ j = 4 ∨ j = 5 ∨ j = 6 by omega) with rfl | rfl | rfl | rfl | rfl | rfl | rfl <;> rfl) (Nat.le_of_ble_eq_true rfl) (Nat.le_of_ble_eq_true rfl) d_X2_init_5 (fun H hw => ?_)
  obtain ⟨cf_1, e_cf_1⟩ : ∃ z : Nat → va_E, z = va_up cf 50 (.inr (5, [.null, .int 0, .int 0, .int 0, .int 0, .int 0, .int 0])) := ⟨_, rfl⟩
  rw [← e_cf_1] at hw
  have hlow : ∀ i, i < 49 → cf_1 i = cf i := fun i h => by rw [e_cf_1]; exact (vu_ne (by omega)).trans (hlow i h)
  have hc_49 : cf_1 49 = .inr (2, [.null, .null, .null, .null]) := by rw [e_cf_1]; exact (vu_ne (by decide)).trans hc_49
  have hc_50 : cf_1 50 = .inr (5, [.null, .int 0, .int 0, .int 0, .int 0, .int 0, .int 0]) := by rw [e_cf_1]; exact vu_at
  have hdone : ∀ i, 49 < i → i < 51 → i ≠ 50 → cf_1 i = ce (GB D bs cy tD tR) (s0 i) i := fun i h1 h2 p_50 => by rw [e_cf_1]; exact (vu_ne (by omega)).trans (hdone i h1 (by omega) )
  have hw : CW D cy bs 51 [] cf_1 s H _ 1 := hw
  refine W.eq (g2 := F0 m 8 ls [.ref (bs + 50), .ref (bs + 49)]) rfl ?_
  refine lv_dup X.1 X.2.1 d_X2_init_8 rfl ?_
  refine k_callN (rest := [.ref (bs + 50), .ref (bs + 49)]) (As := []) X hw (kt_X5_init l D cy bs 51 cf_1 50 (by decide)) rfl hw.2.2.2.2.2.1.2.2.2.2.2.2.2.1 tb_234 tb_9 tb_235 rfl hdc_X5_init ⟨rfl, rfl⟩ ⟨Nat.le_of_ble_eq_true rfl, Nat.le_of_ble_eq_true rfl⟩ rfl hl.1 rfl (Nat.le_of_ble_eq_true rfl) ⟨Nat.le_of_ble_eq_true rfl, Nat.le_of_ble_eq_true rfl⟩ d_X2_init_9 (fun u H locs hu hw => ?_)
  obtain ⟨cf_2, rfl⟩ : ∃ z : Nat → va_E, z = u := ⟨_, rfl⟩
  have hu : ∀ i, cf_2 i = cf_1 i := hu
  have hc_49 : cf_2 49 = .inr (2, [.null, .null, .null, .null]) := (hu _).trans hc_49
  have hc_50 : cf_2 50 = .inr (5, [.null, .int 0, .int 0, .int 0, .int 0, .int 0, .int 0]) := (hu _).trans hc_50
  have hlow : ∀ i, i < 49 → cf_2 i = cf i := fun i h => (hu i).trans (hlow i h)
  have hdone : ∀ i, 49 < i → i < 51 → i ≠ 50 → cf_2 i = ce (GB D bs cy tD tR) (s0 i) i := fun i h1 h2 p_50 => (hu i).trans (hdone i h1 h2 p_50)
  have hw : CW D cy bs 51 [] cf_2 s H _ 1 := k_tys [] hw rfl
  have hdone : ∀ i, 49 < i → i < 51 → cf_2 i = ce (GB D bs cy tD tR) (s0 i) i := fun i h1 h2  => by
    by_cases p_50 : i = 50
    · subst p_50; exact hc_50.trans rfl
    · exact hdone i h1 h2 p_50
  refine W.eq (g2 := F0 m 12 ls [.ref (bs + 50), .ref (bs + 49)]) rfl ?_
  refine k_putF (ci := 2) (n := 4) (k := 0) (v := .ref (bs + 50)) (ty := .object "GameLoom$Position") nty2 X hw (by decide) hc_49 ni2 nk2 nn2 rfl (by decide) tb_329 rfl rfl hin rfl (by decide +kernel) rfl rfl (Nat.le_of_ble_eq_true rfl) d_X2_init_12 (fun H locs hw => ?_)
  have hw : CW D cy bs 51 [] (va_up cf_2 49 (.inr (2, [.ref (bs + 50), .null, .null, .null]))) s H _ 1 := hw
  obtain ⟨cf_3, e_cf_3⟩ : ∃ z : Nat → va_E, z = va_up cf_2 49 (.inr (2, [.ref (bs + 50), .null, .null, .null])) := ⟨_, rfl⟩
  rw [← e_cf_3] at hw
  have hlow : ∀ i, i < 49 → cf_3 i = cf i := fun i h => by rw [e_cf_3]; exact (vu_ne (by omega)).trans (hlow i h)
  have hc_49 : cf_3 49 = .inr (2, [.ref (bs + 50), .null, .null, .null]) := by rw [e_cf_3]; exact vu_at
  have hdone : ∀ i, 49 < i → i < 51 → cf_3 i = ce (GB D bs cy tD tR) (s0 i) i := fun i h1 h2  => by rw [e_cf_3]; exact (vu_ne (by omega)).trans (hdone i h1 h2 )
  refine lv_aload_n X.1 X.2.1 d_X2_init_15 rfl (lv_at hl 0 rfl) ?_
  refine lv_sipush (v := 256) X.1 X.2.1 d_X2_init_16 (by decide) ?_
  refine k_newI (N' := 256) X hw (by decide) (by decide) (by decide) (Nat.le_of_ble_eq_true rfl) (Nat.le_of_ble_eq_true rfl) d_X2_init_19 (fun H hw => ?_)
  have hw : CW D cy bs 52 ([] ++ [(cy 12, .int)]) _ s H _ 2 := hw
  obtain ⟨cf_4, e_cf_4⟩ : ∃ z : Nat → va_E, z = va_up cf_3 51 (.inl (cy 12, 256, .inl (fun _ => 0))) := ⟨_, rfl⟩
  rw [← e_cf_4] at hw
  have hlow : ∀ i, i < 49 → cf_4 i = cf i := fun i h => by rw [e_cf_4]; exact (vu_ne (by omega)).trans (hlow i h)
  have hc_49 : cf_4 49 = .inr (2, [.ref (bs + 50), .null, .null, .null]) := by rw [e_cf_4]; exact (vu_ne (by decide)).trans hc_49
  have hc_51 : cf_4 51 = .inl (cy 12, 256, .inl (fun _ => 0)) := by rw [e_cf_4]; exact vu_at
  have hdone : ∀ i, 49 < i → i < 52 → i ≠ 51 → cf_4 i = ce (GB D bs cy tD tR) (s0 i) i := fun i h1 h2 p_51 => by rw [e_cf_4]; exact (vu_ne (by omega)).trans (hdone i h1 (by omega) )
  have hdone : ∀ i, 49 < i → i < 52 → cf_4 i = ce (GB D bs cy tD tR) (s0 i) i := fun i h1 h2  => by
    by_cases p_51 : i = 51
    · subst p_51; exact hc_51.trans rfl
    · exact hdone i h1 h2 p_51
  have hw : CW D cy bs 52 [(cy 12, .int)] cf_4 s H _ 2 := k_tys [0] hw rfl
  refine W.eq (g2 := F0 m 21 ls [.ref (bs + 51), .ref (bs + 49)]) rfl ?_
  refine k_putF (ci := 2) (n := 4) (k := 2) (v := .ref (bs + 51)) (ty := .array (.int)) nty2 X hw (by decide) hc_49 ni2 nk2 nn2 rfl (by decide) tb_331 rfl rfl hin rfl (by decide +kernel) rfl rfl (Nat.le_of_ble_eq_true rfl) d_X2_init_21 (fun H locs hw => ?_)
  have hw : CW D cy bs 52 [(cy 12, .int)] (va_up cf_4 49 (.inr (2, [.ref (bs + 50), .null, .ref (bs + 51), .null]))) s H _ 2 := hw
  obtain ⟨cf_5, e_cf_5⟩ : ∃ z : Nat → va_E, z = va_up cf_4 49 (.inr (2, [.ref (bs + 50), .null, .ref (bs + 51), .null])) := ⟨_, rfl⟩
  rw [← e_cf_5] at hw
  have hlow : ∀ i, i < 49 → cf_5 i = cf i := fun i h => by rw [e_cf_5]; exact (vu_ne (by omega)).trans (hlow i h)
  have hc_49 : cf_5 49 = .inr (2, [.ref (bs + 50), .null, .ref (bs + 51), .null]) := by rw [e_cf_5]; exact vu_at
  have hdone : ∀ i, 49 < i → i < 52 → cf_5 i = ce (GB D bs cy tD tR) (s0 i) i := fun i h1 h2  => by rw [e_cf_5]; exact (vu_ne (by omega)).trans (hdone i h1 h2 )
  refine lv_aload_n X.1 X.2.1 d_X2_init_24 rfl (lv_at hl 0 rfl) ?_
  refine lv_bipush (v := 7) X.1 X.2.1 d_X2_init_25 (by decide) ?_
  refine k_newI (N' := 7) X hw (by decide) (by decide) (by decide) (Nat.le_of_ble_eq_true rfl) (Nat.le_of_ble_eq_true rfl) d_X2_init_27 (fun H hw => ?_)
  have hw : CW D cy bs 53 ([(cy 12, .int)] ++ [(cy 12, .int)]) _ s H _ 3 := hw
  obtain ⟨cf_6, e_cf_6⟩ : ∃ z : Nat → va_E, z = va_up cf_5 52 (.inl (cy 12, 7, .inl (fun _ => 0))) := ⟨_, rfl⟩
  rw [← e_cf_6] at hw
  have hlow : ∀ i, i < 49 → cf_6 i = cf i := fun i h => by rw [e_cf_6]; exact (vu_ne (by omega)).trans (hlow i h)
  have hc_49 : cf_6 49 = .inr (2, [.ref (bs + 50), .null, .ref (bs + 51), .null]) := by rw [e_cf_6]; exact (vu_ne (by decide)).trans hc_49
  have hc_52 : cf_6 52 = .inl (cy 12, 7, .inl (fun _ => 0)) := by rw [e_cf_6]; exact vu_at
  have hdone : ∀ i, 49 < i → i < 53 → i ≠ 52 → cf_6 i = ce (GB D bs cy tD tR) (s0 i) i := fun i h1 h2 p_52 => by rw [e_cf_6]; exact (vu_ne (by omega)).trans (hdone i h1 (by omega) )
  have hdone : ∀ i, 49 < i → i < 53 → cf_6 i = ce (GB D bs cy tD tR) (s0 i) i := fun i h1 h2  => by
    by_cases p_52 : i = 52
    · subst p_52; exact hc_52.trans rfl
    · exact hdone i h1 h2 p_52
  have hw : CW D cy bs 53 [(cy 12, .int)] cf_6 s H _ 3 := k_tys [0] hw rfl
  refine W.eq (g2 := F0 m 29 ls [.ref (bs + 52), .ref (bs + 49)]) rfl ?_
  refine k_putF (ci := 2) (n := 4) (k := 3) (v := .ref (bs + 52)) (ty := .array (.int)) nty2 X hw (by decide) hc_49 ni2 nk2 nn2 rfl (by decide) tb_332 rfl rfl hin rfl (by decide +kernel) rfl rfl (Nat.le_of_ble_eq_true rfl) d_X2_init_29 (fun H locs hw => ?_)
  have hw : CW D cy bs 53 [(cy 12, .int)] (va_up cf_6 49 (.inr (2, [.ref (bs + 50), .null, .ref (bs + 51), .ref (bs + 52)]))) s H _ 3 := hw
  obtain ⟨cf_7, e_cf_7⟩ : ∃ z : Nat → va_E, z = va_up cf_6 49 (.inr (2, [.ref (bs + 50), .null, .ref (bs + 51), .ref (bs + 52)])) := ⟨_, rfl⟩
  rw [← e_cf_7] at hw
  have hlow : ∀ i, i < 49 → cf_7 i = cf i := fun i h => by rw [e_cf_7]; exact (vu_ne (by omega)).trans (hlow i h)
  have hc_49 : cf_7 49 = .inr (2, [.ref (bs + 50), .null, .ref (bs + 51), .ref (bs + 52)]) := by rw [e_cf_7]; exact vu_at
  have hdone : ∀ i, 49 < i → i < 53 → cf_7 i = ce (GB D bs cy tD tR) (s0 i) i := fun i h1 h2  => by rw [e_cf_7]; exact (vu_ne (by omega)).trans (hdone i h1 h2 )
  refine lv_aload_n X.1 X.2.1 d_X2_init_32 rfl (lv_at hl 0 rfl) ?_
  refine lv_aload_n X.1 X.2.1 d_X2_init_33 rfl (lv_at hl 1 rfl) ?_
  refine k_putF (ci := 2) (n := 4) (k := 1) (v := .ref (bs + 29)) (ty := .object "GameLoom$Looker") nty2 X hw (by decide) hc_49 ni2 nk2 nn2 rfl (by decide) tb_330 rfl rfl hin rfl (by decide +kernel) rfl rfl (Nat.le_of_ble_eq_true rfl) d_X2_init_34 (fun H locs hw => ?_)
  have hw : CW D cy bs 53 [(cy 12, .int)] (va_up cf_7 49 (.inr (2, [.ref (bs + 50), .ref (bs + 29), .ref (bs + 51), .ref (bs + 52)]))) s H _ 3 := hw
  obtain ⟨cf_8, e_cf_8⟩ : ∃ z : Nat → va_E, z = va_up cf_7 49 (.inr (2, [.ref (bs + 50), .ref (bs + 29), .ref (bs + 51), .ref (bs + 52)])) := ⟨_, rfl⟩
  rw [← e_cf_8] at hw
  have hlow : ∀ i, i < 49 → cf_8 i = cf i := fun i h => by rw [e_cf_8]; exact (vu_ne (by omega)).trans (hlow i h)
  have hc_49 : cf_8 49 = .inr (2, [.ref (bs + 50), .ref (bs + 29), .ref (bs + 51), .ref (bs + 52)]) := by rw [e_cf_8]; exact vu_at
  have hdone : ∀ i, 49 < i → i < 53 → cf_8 i = ce (GB D bs cy tD tR) (s0 i) i := fun i h1 h2  => by rw [e_cf_8]; exact (vu_ne (by omega)).trans (hdone i h1 h2 )
  refine k_vret X hr hlk hw ⟨hlow, fun i h1 h2 => ?_⟩ d_X2_init_37
  rcases Nat.eq_or_lt_of_le h1 with h3 | h3
  · subst h3; exact hc_49.trans rfl
  exact hdone i h3 h2 
set_option maxRecDepth 100000 in
set_option maxHeartbeats 4000000 in
theorem kc_X4_init_53 (l : Launch) (D : va_G) (cy : Nat → ClassId) (bs tD tR : Nat) (cf : Nat → va_E) (hc_53 : cf 53 = .inr (4, [.null, .null, .int 0, .int 0, .null, .null])) : MC l ym_X4_init cm_X4_init 1 { frames := 2, cells := 4, slots := 383, locals := 40 } D cy bs 54 cf [.ref (bs + 53)] 58 [(cy 12, .int)] (Pd D cy bs tD tR cf 53 58) 4 383 := by
  refine met_c (by decide) (by decide) (Nat.le_of_ble_eq_true rfl) ?_
  intro p e s m args below meth c X hr hlk hin hw ls hl
  have hl : lv_has ls 1 [(0, .ref (bs + 53))] := hl
  have hlow : ∀ i, i < 53 → cf i = cf i := fun _ _ => rfl
  have hdone : ∀ i, 53 < i → i < 54 → cf i = ce (GB D bs cy tD tR) (s0 i) i := fun i h1 h2 => by omega
  refine lv_aload_n X.1 X.2.1 d_X4_init_0 rfl (lv_at hl 0 rfl) ?_
  refine W.objInit X.1 X.2.1 X.2.2.2.1 (X.2.2.2.2 _ tb_347) (X.2.2.2.2 _ tb_22) (X.2.2.2.2 _ tb_23) rfl (by rw [X.2.2.1]; exact hl.1) rfl d_X4_init_1 (Nat.le_of_ble_eq_true rfl) (Nat.le_of_ble_eq_true rfl) ?_
  refine W.eq (g2 := F0 m 4 ls []) rfl ?_
  refine lv_aload_n X.1 X.2.1 d_X4_init_4 rfl (lv_at hl 0 rfl) ?_
  refine k_new (ci := 5) (n := 7) (fs := [.null, .int 0, .int 0, .int 0, .int 0, .int 0, .int 0]) nty5 X hw ni5 nk5 rfl tb_348 tb_232 tb_9 (by intro j hj; have : j < 7 := hj; rcases (show j = 0 ∨ j = 1 ∨ j = 2 ∨ j = 3 ∨ j = 4 ∨ j = 5 ∨ j = 6 by omega) with rfl | rfl | rfl | rfl | rfl | rfl | rfl <;> rfl) (Nat.le_of_ble_eq_true rfl) (Nat.le_of_ble_eq_true rfl) d_X4_init_5 (fun H hw => ?_)
  obtain ⟨cf_1, e_cf_1⟩ : ∃ z : Nat → va_E, z = va_up cf 54 (.inr (5, [.null, .int 0, .int 0, .int 0, .int 0, .int 0, .int 0])) := ⟨_, rfl⟩
  rw [← e_cf_1] at hw
  have hlow : ∀ i, i < 53 → cf_1 i = cf i := fun i h => by rw [e_cf_1]; exact (vu_ne (by omega)).trans (hlow i h)
  have hc_53 : cf_1 53 = .inr (4, [.null, .null, .int 0, .int 0, .null, .null]) := by rw [e_cf_1]; exact (vu_ne (by decide)).trans hc_53
  have hc_54 : cf_1 54 = .inr (5, [.null, .int 0, .int 0, .int 0, .int 0, .int 0, .int 0]) := by rw [e_cf_1]; exact vu_at
  have hdone : ∀ i, 53 < i → i < 55 → i ≠ 54 → cf_1 i = ce (GB D bs cy tD tR) (s0 i) i := fun i h1 h2 p_54 => by rw [e_cf_1]; exact (vu_ne (by omega)).trans (hdone i h1 (by omega) )
  have hw : CW D cy bs 55 [] cf_1 s H _ 1 := hw
  refine W.eq (g2 := F0 m 8 ls [.ref (bs + 54), .ref (bs + 53)]) rfl ?_
  refine lv_dup X.1 X.2.1 d_X4_init_8 rfl ?_
  refine k_callN (rest := [.ref (bs + 54), .ref (bs + 53)]) (As := []) X hw (kt_X5_init l D cy bs 55 cf_1 54 (by decide)) rfl hw.2.2.2.2.2.1.2.2.2.2.2.2.2.2.2.1 tb_234 tb_9 tb_235 rfl hdc_X5_init ⟨rfl, rfl⟩ ⟨Nat.le_of_ble_eq_true rfl, Nat.le_of_ble_eq_true rfl⟩ rfl hl.1 rfl (Nat.le_of_ble_eq_true rfl) ⟨Nat.le_of_ble_eq_true rfl, Nat.le_of_ble_eq_true rfl⟩ d_X4_init_9 (fun u H locs hu hw => ?_)
  obtain ⟨cf_2, rfl⟩ : ∃ z : Nat → va_E, z = u := ⟨_, rfl⟩
  have hu : ∀ i, cf_2 i = cf_1 i := hu
  have hc_53 : cf_2 53 = .inr (4, [.null, .null, .int 0, .int 0, .null, .null]) := (hu _).trans hc_53
  have hc_54 : cf_2 54 = .inr (5, [.null, .int 0, .int 0, .int 0, .int 0, .int 0, .int 0]) := (hu _).trans hc_54
  have hlow : ∀ i, i < 53 → cf_2 i = cf i := fun i h => (hu i).trans (hlow i h)
  have hdone : ∀ i, 53 < i → i < 55 → i ≠ 54 → cf_2 i = ce (GB D bs cy tD tR) (s0 i) i := fun i h1 h2 p_54 => (hu i).trans (hdone i h1 h2 p_54)
  have hw : CW D cy bs 55 [] cf_2 s H _ 1 := k_tys [] hw rfl
  have hdone : ∀ i, 53 < i → i < 55 → cf_2 i = ce (GB D bs cy tD tR) (s0 i) i := fun i h1 h2  => by
    by_cases p_54 : i = 54
    · subst p_54; exact hc_54.trans rfl
    · exact hdone i h1 h2 p_54
  refine W.eq (g2 := F0 m 12 ls [.ref (bs + 54), .ref (bs + 53)]) rfl ?_
  refine k_putF (ci := 4) (n := 6) (k := 0) (v := .ref (bs + 54)) (ty := .object "GameLoom$Position") nty4 X hw (by decide) hc_53 ni4 nk4 nn4 rfl (by decide) tb_350 rfl rfl hin rfl (by decide +kernel) rfl rfl (Nat.le_of_ble_eq_true rfl) d_X4_init_12 (fun H locs hw => ?_)
  have hw : CW D cy bs 55 [] (va_up cf_2 53 (.inr (4, [.ref (bs + 54), .null, .int 0, .int 0, .null, .null]))) s H _ 1 := hw
  obtain ⟨cf_3, e_cf_3⟩ : ∃ z : Nat → va_E, z = va_up cf_2 53 (.inr (4, [.ref (bs + 54), .null, .int 0, .int 0, .null, .null])) := ⟨_, rfl⟩
  rw [← e_cf_3] at hw
  have hlow : ∀ i, i < 53 → cf_3 i = cf i := fun i h => by rw [e_cf_3]; exact (vu_ne (by omega)).trans (hlow i h)
  have hc_53 : cf_3 53 = .inr (4, [.ref (bs + 54), .null, .int 0, .int 0, .null, .null]) := by rw [e_cf_3]; exact vu_at
  have hdone : ∀ i, 53 < i → i < 55 → cf_3 i = ce (GB D bs cy tD tR) (s0 i) i := fun i h1 h2  => by rw [e_cf_3]; exact (vu_ne (by omega)).trans (hdone i h1 h2 )
  refine lv_aload_n X.1 X.2.1 d_X4_init_15 rfl (lv_at hl 0 rfl) ?_
  refine lv_sipush (v := 256) X.1 X.2.1 d_X4_init_16 (by decide) ?_
  refine k_newI (N' := 256) X hw (by decide) (by decide) (by decide) (Nat.le_of_ble_eq_true rfl) (Nat.le_of_ble_eq_true rfl) d_X4_init_19 (fun H hw => ?_)
  have hw : CW D cy bs 56 ([] ++ [(cy 12, .int)]) _ s H _ 2 := hw
  obtain ⟨cf_4, e_cf_4⟩ : ∃ z : Nat → va_E, z = va_up cf_3 55 (.inl (cy 12, 256, .inl (fun _ => 0))) := ⟨_, rfl⟩
  rw [← e_cf_4] at hw
  have hlow : ∀ i, i < 53 → cf_4 i = cf i := fun i h => by rw [e_cf_4]; exact (vu_ne (by omega)).trans (hlow i h)
  have hc_53 : cf_4 53 = .inr (4, [.ref (bs + 54), .null, .int 0, .int 0, .null, .null]) := by rw [e_cf_4]; exact (vu_ne (by decide)).trans hc_53
  have hc_55 : cf_4 55 = .inl (cy 12, 256, .inl (fun _ => 0)) := by rw [e_cf_4]; exact vu_at
  have hdone : ∀ i, 53 < i → i < 56 → i ≠ 55 → cf_4 i = ce (GB D bs cy tD tR) (s0 i) i := fun i h1 h2 p_55 => by rw [e_cf_4]; exact (vu_ne (by omega)).trans (hdone i h1 (by omega) )
  have hdone : ∀ i, 53 < i → i < 56 → cf_4 i = ce (GB D bs cy tD tR) (s0 i) i := fun i h1 h2  => by
    by_cases p_55 : i = 55
    · subst p_55; exact hc_55.trans rfl
    · exact hdone i h1 h2 p_55
  have hw : CW D cy bs 56 [(cy 12, .int)] cf_4 s H _ 2 := k_tys [0] hw rfl
  refine W.eq (g2 := F0 m 21 ls [.ref (bs + 55), .ref (bs + 53)]) rfl ?_
  refine k_putF (ci := 4) (n := 6) (k := 1) (v := .ref (bs + 55)) (ty := .array (.int)) nty4 X hw (by decide) hc_53 ni4 nk4 nn4 rfl (by decide) tb_352 rfl rfl hin rfl (by decide +kernel) rfl rfl (Nat.le_of_ble_eq_true rfl) d_X4_init_21 (fun H locs hw => ?_)
  have hw : CW D cy bs 56 [(cy 12, .int)] (va_up cf_4 53 (.inr (4, [.ref (bs + 54), .ref (bs + 55), .int 0, .int 0, .null, .null]))) s H _ 2 := hw
  obtain ⟨cf_5, e_cf_5⟩ : ∃ z : Nat → va_E, z = va_up cf_4 53 (.inr (4, [.ref (bs + 54), .ref (bs + 55), .int 0, .int 0, .null, .null])) := ⟨_, rfl⟩
  rw [← e_cf_5] at hw
  have hlow : ∀ i, i < 53 → cf_5 i = cf i := fun i h => by rw [e_cf_5]; exact (vu_ne (by omega)).trans (hlow i h)
  have hc_53 : cf_5 53 = .inr (4, [.ref (bs + 54), .ref (bs + 55), .int 0, .int 0, .null, .null]) := by rw [e_cf_5]; exact vu_at
  have hdone : ∀ i, 53 < i → i < 56 → cf_5 i = ce (GB D bs cy tD tR) (s0 i) i := fun i h1 h2  => by rw [e_cf_5]; exact (vu_ne (by omega)).trans (hdone i h1 h2 )
  refine lv_aload_n X.1 X.2.1 d_X4_init_24 rfl (lv_at hl 0 rfl) ?_
  refine lv_bipush (v := 60) X.1 X.2.1 d_X4_init_25 (by decide) ?_
  refine k_newI (N' := 60) X hw (by decide) (by decide) (by decide) (Nat.le_of_ble_eq_true rfl) (Nat.le_of_ble_eq_true rfl) d_X4_init_27 (fun H hw => ?_)
  have hw : CW D cy bs 57 ([(cy 12, .int)] ++ [(cy 12, .int)]) _ s H _ 3 := hw
  obtain ⟨cf_6, e_cf_6⟩ : ∃ z : Nat → va_E, z = va_up cf_5 56 (.inl (cy 12, 60, .inl (fun _ => 0))) := ⟨_, rfl⟩
  rw [← e_cf_6] at hw
  have hlow : ∀ i, i < 53 → cf_6 i = cf i := fun i h => by rw [e_cf_6]; exact (vu_ne (by omega)).trans (hlow i h)
  have hc_53 : cf_6 53 = .inr (4, [.ref (bs + 54), .ref (bs + 55), .int 0, .int 0, .null, .null]) := by rw [e_cf_6]; exact (vu_ne (by decide)).trans hc_53
  have hc_56 : cf_6 56 = .inl (cy 12, 60, .inl (fun _ => 0)) := by rw [e_cf_6]; exact vu_at
  have hdone : ∀ i, 53 < i → i < 57 → i ≠ 56 → cf_6 i = ce (GB D bs cy tD tR) (s0 i) i := fun i h1 h2 p_56 => by rw [e_cf_6]; exact (vu_ne (by omega)).trans (hdone i h1 (by omega) )
  have hdone : ∀ i, 53 < i → i < 57 → cf_6 i = ce (GB D bs cy tD tR) (s0 i) i := fun i h1 h2  => by
    by_cases p_56 : i = 56
    · subst p_56; exact hc_56.trans rfl
    · exact hdone i h1 h2 p_56
  have hw : CW D cy bs 57 [(cy 12, .int)] cf_6 s H _ 3 := k_tys [0] hw rfl
  refine W.eq (g2 := F0 m 29 ls [.ref (bs + 56), .ref (bs + 53)]) rfl ?_
  refine k_putF (ci := 4) (n := 6) (k := 4) (v := .ref (bs + 56)) (ty := .array (.int)) nty4 X hw (by decide) hc_53 ni4 nk4 nn4 rfl (by decide) tb_358 rfl rfl hin rfl (by decide +kernel) rfl rfl (Nat.le_of_ble_eq_true rfl) d_X4_init_29 (fun H locs hw => ?_)
  have hw : CW D cy bs 57 [(cy 12, .int)] (va_up cf_6 53 (.inr (4, [.ref (bs + 54), .ref (bs + 55), .int 0, .int 0, .ref (bs + 56), .null]))) s H _ 3 := hw
  obtain ⟨cf_7, e_cf_7⟩ : ∃ z : Nat → va_E, z = va_up cf_6 53 (.inr (4, [.ref (bs + 54), .ref (bs + 55), .int 0, .int 0, .ref (bs + 56), .null])) := ⟨_, rfl⟩
  rw [← e_cf_7] at hw
  have hlow : ∀ i, i < 53 → cf_7 i = cf i := fun i h => by rw [e_cf_7]; exact (vu_ne (by omega)).trans (hlow i h)
  have hc_53 : cf_7 53 = .inr (4, [.ref (bs + 54), .ref (bs + 55), .int 0, .int 0, .ref (bs + 56), .null]) := by rw [e_cf_7]; exact vu_at
  have hdone : ∀ i, 53 < i → i < 57 → cf_7 i = ce (GB D bs cy tD tR) (s0 i) i := fun i h1 h2  => by rw [e_cf_7]; exact (vu_ne (by omega)).trans (hdone i h1 h2 )
  refine lv_aload_n X.1 X.2.1 d_X4_init_32 rfl (lv_at hl 0 rfl) ?_
  refine lv_bipush (v := 60) X.1 X.2.1 d_X4_init_33 (by decide) ?_
  refine k_newI (N' := 60) X hw (by decide) (by decide) (by decide) (Nat.le_of_ble_eq_true rfl) (Nat.le_of_ble_eq_true rfl) d_X4_init_35 (fun H hw => ?_)
  have hw : CW D cy bs 58 ([(cy 12, .int)] ++ [(cy 12, .int)]) _ s H _ 4 := hw
  obtain ⟨cf_8, e_cf_8⟩ : ∃ z : Nat → va_E, z = va_up cf_7 57 (.inl (cy 12, 60, .inl (fun _ => 0))) := ⟨_, rfl⟩
  rw [← e_cf_8] at hw
  have hlow : ∀ i, i < 53 → cf_8 i = cf i := fun i h => by rw [e_cf_8]; exact (vu_ne (by omega)).trans (hlow i h)
  have hc_53 : cf_8 53 = .inr (4, [.ref (bs + 54), .ref (bs + 55), .int 0, .int 0, .ref (bs + 56), .null]) := by rw [e_cf_8]; exact (vu_ne (by decide)).trans hc_53
  have hc_57 : cf_8 57 = .inl (cy 12, 60, .inl (fun _ => 0)) := by rw [e_cf_8]; exact vu_at
  have hdone : ∀ i, 53 < i → i < 58 → i ≠ 57 → cf_8 i = ce (GB D bs cy tD tR) (s0 i) i := fun i h1 h2 p_57 => by rw [e_cf_8]; exact (vu_ne (by omega)).trans (hdone i h1 (by omega) )
  have hdone : ∀ i, 53 < i → i < 58 → cf_8 i = ce (GB D bs cy tD tR) (s0 i) i := fun i h1 h2  => by
    by_cases p_57 : i = 57
    · subst p_57; exact hc_57.trans rfl
    · exact hdone i h1 h2 p_57
  have hw : CW D cy bs 58 [(cy 12, .int)] cf_8 s H _ 4 := k_tys [0] hw rfl
  refine W.eq (g2 := F0 m 37 ls [.ref (bs + 57), .ref (bs + 53)]) rfl ?_
  refine k_putF (ci := 4) (n := 6) (k := 5) (v := .ref (bs + 57)) (ty := .array (.int)) nty4 X hw (by decide) hc_53 ni4 nk4 nn4 rfl (by decide) tb_359 rfl rfl hin rfl (by decide +kernel) rfl rfl (Nat.le_of_ble_eq_true rfl) d_X4_init_37 (fun H locs hw => ?_)
  have hw : CW D cy bs 58 [(cy 12, .int)] (va_up cf_8 53 (.inr (4, [.ref (bs + 54), .ref (bs + 55), .int 0, .int 0, .ref (bs + 56), .ref (bs + 57)]))) s H _ 4 := hw
  obtain ⟨cf_9, e_cf_9⟩ : ∃ z : Nat → va_E, z = va_up cf_8 53 (.inr (4, [.ref (bs + 54), .ref (bs + 55), .int 0, .int 0, .ref (bs + 56), .ref (bs + 57)])) := ⟨_, rfl⟩
  rw [← e_cf_9] at hw
  have hlow : ∀ i, i < 53 → cf_9 i = cf i := fun i h => by rw [e_cf_9]; exact (vu_ne (by omega)).trans (hlow i h)
  have hc_53 : cf_9 53 = .inr (4, [.ref (bs + 54), .ref (bs + 55), .int 0, .int 0, .ref (bs + 56), .ref (bs + 57)]) := by rw [e_cf_9]; exact vu_at
  have hdone : ∀ i, 53 < i → i < 58 → cf_9 i = ce (GB D bs cy tD tR) (s0 i) i := fun i h1 h2  => by rw [e_cf_9]; exact (vu_ne (by omega)).trans (hdone i h1 h2 )
  refine k_vret X hr hlk hw ⟨hlow, fun i h1 h2 => ?_⟩ d_X4_init_40
  rcases Nat.eq_or_lt_of_le h1 with h3 | h3
  · subst h3; exact hc_53.trans rfl
  exact hdone i h3 h2 
