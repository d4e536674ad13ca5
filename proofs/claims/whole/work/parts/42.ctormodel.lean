theorem ca_267 (D : va_G) (cy : Nat → ClassId) (bs tD tR : Nat) : (.inl (cy 12, 8, .inl (upd (upd (upd (upd (upd (upd (upd (upd (fun _ => 0) 0 0) 1 1) 2 0) 3 (-1)) 4 1) 5 1) 6 (-1)) 7 (-1))) : va_E) = ce (GB D bs cy tD tR) (s0 267) 267 := by
  have e : ((upd (upd (upd (upd (upd (upd (upd (upd (fun _ => 0) 0 0) 1 1) 2 0) 3 (-1)) 4 1) 5 1) 6 (-1)) 7 (-1)) : Nat → Int32) = s0 267 := by
    funext j
    rcases Nat.lt_or_ge j 8 with h | h
    · rcases (show j = 0 ∨ j = 1 ∨ j = 2 ∨ j = 3 ∨ j = 4 ∨ j = 5 ∨ j = 6 ∨ j = 7 by omega) with rfl | rfl | rfl | rfl | rfl | rfl | rfl | rfl <;> rfl
    · have e2 : ([0, 1, 0, -1, 1, 1, -1, -1] : List Int32)[j]? = none := List.getElem?_eq_none (by simpa using h)
      simp [upd, s0, e2, show j ≠ 0 by omega, show j ≠ 1 by omega, show j ≠ 2 by omega, show j ≠ 3 by omega, show j ≠ 4 by omega, show j ≠ 5 by omega, show j ≠ 6 by omega, show j ≠ 7 by omega]
  rw [e]
  rfl
theorem ca_268 (D : va_G) (cy : Nat → ClassId) (bs tD tR : Nat) : (.inl (cy 12, 8, .inl (upd (upd (upd (upd (upd (upd (upd (upd (fun _ => 0) 0 (-1)) 1 0) 2 1) 3 0) 4 (-1)) 5 1) 6 1) 7 (-1))) : va_E) = ce (GB D bs cy tD tR) (s0 268) 268 := by
  have e : ((upd (upd (upd (upd (upd (upd (upd (upd (fun _ => 0) 0 (-1)) 1 0) 2 1) 3 0) 4 (-1)) 5 1) 6 1) 7 (-1)) : Nat → Int32) = s0 268 := by
    funext j
    rcases Nat.lt_or_ge j 8 with h | h
    · rcases (show j = 0 ∨ j = 1 ∨ j = 2 ∨ j = 3 ∨ j = 4 ∨ j = 5 ∨ j = 6 ∨ j = 7 by omega) with rfl | rfl | rfl | rfl | rfl | rfl | rfl | rfl <;> rfl
    · have e2 : ([-1, 0, 1, 0, -1, 1, 1, -1] : List Int32)[j]? = none := List.getElem?_eq_none (by simpa using h)
      simp [upd, s0, e2, show j ≠ 0 by omega, show j ≠ 1 by omega, show j ≠ 2 by omega, show j ≠ 3 by omega, show j ≠ 4 by omega, show j ≠ 5 by omega, show j ≠ 6 by omega, show j ≠ 7 by omega]
  rw [e]
  rfl
theorem ca_277 (D : va_G) (cy : Nat → ClassId) (bs tD tR : Nat) : (.inl (cy 12, 17, .inl (upd (upd (upd (upd (upd (upd (upd (upd (upd (upd (upd (upd (upd (upd (upd (upd (upd (fun _ => 0) 0 (-9)) 1 (-9)) 2 (-9)) 3 (-9)) 4 (-9)) 5 (-9)) 6 (-9)) 7 (-9)) 8 (-9)) 9 (-9)) 10 (-9)) 11 (-9)) 12 (-9)) 13 (-9)) 14 (-9)) 15 (-9)) 16 (-9))) : va_E) = ce (GB D bs cy tD tR) (s0 277) 277 := by
  have e : ((upd (upd (upd (upd (upd (upd (upd (upd (upd (upd (upd (upd (upd (upd (upd (upd (upd (fun _ => 0) 0 (-9)) 1 (-9)) 2 (-9)) 3 (-9)) 4 (-9)) 5 (-9)) 6 (-9)) 7 (-9)) 8 (-9)) 9 (-9)) 10 (-9)) 11 (-9)) 12 (-9)) 13 (-9)) 14 (-9)) 15 (-9)) 16 (-9)) : Nat → Int32) = s0 277 := by
    funext j
    rcases Nat.lt_or_ge j 17 with h | h
    · rcases (show j = 0 ∨ j = 1 ∨ j = 2 ∨ j = 3 ∨ j = 4 ∨ j = 5 ∨ j = 6 ∨ j = 7 ∨ j = 8 ∨ j = 9 ∨ j = 10 ∨ j = 11 ∨ j = 12 ∨ j = 13 ∨ j = 14 ∨ j = 15 ∨ j = 16 by omega) with rfl | rfl | rfl | rfl | rfl | rfl | rfl | rfl | rfl | rfl | rfl | rfl | rfl | rfl | rfl | rfl | rfl <;> rfl
    · have e2 : ([-9, -9, -9, -9, -9, -9, -9, -9, -9, -9, -9, -9, -9, -9, -9, -9, -9] : List Int32)[j]? = none := List.getElem?_eq_none (by simpa using h)
      simp [upd, s0, e2, show j ≠ 0 by omega, show j ≠ 1 by omega, show j ≠ 2 by omega, show j ≠ 3 by omega, show j ≠ 4 by omega, show j ≠ 5 by omega, show j ≠ 6 by omega, show j ≠ 7 by omega, show j ≠ 8 by omega, show j ≠ 9 by omega, show j ≠ 10 by omega, show j ≠ 11 by omega, show j ≠ 12 by omega, show j ≠ 13 by omega, show j ≠ 14 by omega, show j ≠ 15 by omega, show j ≠ 16 by omega]
  rw [e]
  rfl
set_option maxRecDepth 100000 in
set_option maxHeartbeats 4000000 in
theorem kc_X11_init_237 (l : Launch) (D : va_G) (cy : Nat → ClassId) (bs tD tR : Nat) (cf : Nat → va_E) (hc_237 : cf 237 = .inr (11, [.null, .null, .null, .null, .null, .null, .null, .null, .null, .null, .null, .null, .null, .null, .null, .null, .null, .null, .null, .int 0, .int 0, .int 0, .int 0, .null, .null, .null, .null, .null, .null, .null, .null, .null, .null, .null, .null, .null, .null, .null, .null, .int 0, .null, .int 0, .int 0, .null, .null, .int 0, .int 0, .int 0, .int 0, .int 0, .int 0, .int 0, .int 0, .null, .null, .null])) : MC l ym_X11_init cm_X11_init 2 { frames := 1, cells := 41, slots := 23516, locals := 20 } D cy bs 238 cf [.ref (bs + 237)] 279 [(cy 12, .int), (cy 13, .boolean)] (Pd D cy bs tD tR cf 237 279) 41 23516 := by
  refine met_c (by decide) (by decide) (Nat.le_of_ble_eq_true rfl) ?_
  intro p e s m args below meth c X hr hlk hin hw ls hl
  have hl : lv_has ls 2 [(0, .ref (bs + 237))] := hl
  have hlow : ∀ i, i < 237 → cf i = cf i := fun _ _ => rfl
  have hdone : ∀ i, 237 < i → i < 238 → cf i = ce (GB D bs cy tD tR) (s0 i) i := fun i h1 h2 => by omega
  refine lv_aload_n X.1 X.2.1 d_X11_init_0 rfl (lv_at hl 0 rfl) ?_
  refine W.objInit X.1 X.2.1 X.2.2.2.1 (X.2.2.2.2 _ tb_905) (X.2.2.2.2 _ tb_22) (X.2.2.2.2 _ tb_23) rfl (by rw [X.2.2.1]; exact hl.1) rfl d_X11_init_1 (Nat.le_of_ble_eq_true rfl) (Nat.le_of_ble_eq_true rfl) ?_
  refine W.eq (g2 := F0 m 4 ls []) rfl ?_
  refine lv_aload_n X.1 X.2.1 d_X11_init_4 rfl (lv_at hl 0 rfl) ?_
  refine lv_bipush (v := 7) X.1 X.2.1 d_X11_init_5 (by decide) ?_
  refine k_newI (N' := 7) X hw (by decide) (by decide) (by decide) (Nat.le_of_ble_eq_true rfl) (Nat.le_of_ble_eq_true rfl) d_X11_init_7 (fun H hw => ?_)
  have hw : CW D cy bs 239 ([] ++ [(cy 12, .int)]) _ s H _ 1 := hw
  obtain ⟨cf_1, e_cf_1⟩ : ∃ z : Nat → va_E, z = va_up cf 238 (.inl (cy 12, 7, .inl (fun _ => 0))) := ⟨_, rfl⟩
  rw [← e_cf_1] at hw
  have hlow : ∀ i, i < 237 → cf_1 i = cf i := fun i h => by rw [e_cf_1]; exact (vu_ne (by omega)).trans (hlow i h)
  have hc_237 : cf_1 237 = .inr (11, [.null, .null, .null, .null, .null, .null, .null, .null, .null, .null, .null, .null, .null, .null, .null, .null, .null, .null, .null, .int 0, .int 0, .int 0, .int 0, .null, .null, .null, .null, .null, .null, .null, .null, .null, .null, .null, .null, .null, .null, .null, .null, .int 0, .null, .int 0, .int 0, .null, .null, .int 0, .int 0, .int 0, .int 0, .int 0, .int 0, .int 0, .int 0, .null, .null, .null]) := by rw [e_cf_1]; exact (vu_ne (by decide)).trans hc_237
  have hc_238 : cf_1 238 = .inl (cy 12, 7, .inl (fun _ => 0)) := by rw [e_cf_1]; exact vu_at
  have hdone : ∀ i, 237 < i → i < 239 → i ≠ 238 → cf_1 i = ce (GB D bs cy tD tR) (s0 i) i := fun i h1 h2 p_238 => by rw [e_cf_1]; exact (vu_ne (by omega)).trans (hdone i h1 (by omega) )
  have hdone : ∀ i, 237 < i → i < 239 → cf_1 i = ce (GB D bs cy tD tR) (s0 i) i := fun i h1 h2  => by
    by_cases p_238 : i = 238
    · subst p_238; exact hc_238.trans rfl
    · exact hdone i h1 h2 p_238
  have hw : CW D cy bs 239 [(cy 12, .int)] cf_1 s H _ 1 := k_tys [0] hw rfl
  refine W.eq (g2 := F0 m 9 ls [.ref (bs + 238), .ref (bs + 237)]) rfl ?_
  refine k_putF (ci := 11) (n := 56) (k := 0) (v := .ref (bs + 238)) (ty := .array (.int)) nty11 X hw (by decide) hc_237 ni11 nk11 nn11 rfl (by decide) tb_906 rfl rfl hin rfl (by decide +kernel) rfl rfl (Nat.le_of_ble_eq_true rfl) d_X11_init_9 (fun H locs hw => ?_)
  have hw : CW D cy bs 239 [(cy 12, .int)] (va_up cf_1 237 (.inr (11, [.ref (bs + 238), .null, .null, .null, .null, .null, .null, .null, .null, .null, .null, .null, .null, .null, .null, .null, .null, .null, .null, .int 0, .int 0, .int 0, .int 0, .null, .null, .null, .null, .null, .null, .null, .null, .null, .null, .null, .null, .null, .null, .null, .null, .int 0, .null, .int 0, .int 0, .null, .null, .int 0, .int 0, .int 0, .int 0, .int 0, .int 0, .int 0, .int 0, .null, .null, .null]))) s H _ 1 := hw
  obtain ⟨cf_2, e_cf_2⟩ : ∃ z : Nat → va_E, z = va_up cf_1 237 (.inr (11, [.ref (bs + 238), .null, .null, .null, .null, .null, .null, .null, .null, .null, .null, .null, .null, .null, .null, .null, .null, .null, .null, .int 0, .int 0, .int 0, .int 0, .null, .null, .null, .null, .null, .null, .null, .null, .null, .null, .null, .null, .null, .null, .null, .null, .int 0, .null, .int 0, .int 0, .null, .null, .int 0, .int 0, .int 0, .int 0, .int 0, .int 0, .int 0, .int 0, .null, .null, .null])) := ⟨_, rfl⟩
  rw [← e_cf_2] at hw
  have hlow : ∀ i, i < 237 → cf_2 i = cf i := fun i h => by rw [e_cf_2]; exact (vu_ne (by omega)).trans (hlow i h)
  have hc_237 : cf_2 237 = .inr (11, [.ref (bs + 238), .null, .null, .null, .null, .null, .null, .null, .null, .null, .null, .null, .null, .null, .null, .null, .null, .null, .null, .int 0, .int 0, .int 0, .int 0, .null, .null, .null, .null, .null, .null, .null, .null, .null, .null, .null, .null, .null, .null, .null, .null, .int 0, .null, .int 0, .int 0, .null, .null, .int 0, .int 0, .int 0, .int 0, .int 0, .int 0, .int 0, .int 0, .null, .null, .null]) := by rw [e_cf_2]; exact vu_at
  have hdone : ∀ i, 237 < i → i < 239 → cf_2 i = ce (GB D bs cy tD tR) (s0 i) i := fun i h1 h2  => by rw [e_cf_2]; exact (vu_ne (by omega)).trans (hdone i h1 h2 )
  refine lv_aload_n X.1 X.2.1 d_X11_init_12 rfl (lv_at hl 0 rfl) ?_
  refine lv_bipush (v := 90) X.1 X.2.1 d_X11_init_13 (by decide) ?_
  refine k_newI (N' := 90) X hw (by decide) (by decide) (by decide) (Nat.le_of_ble_eq_true rfl) (Nat.le_of_ble_eq_true rfl) d_X11_init_15 (fun H hw => ?_)
  have hw : CW D cy bs 240 ([(cy 12, .int)] ++ [(cy 12, .int)]) _ s H _ 2 := hw
  obtain ⟨cf_3, e_cf_3⟩ : ∃ z : Nat → va_E, z = va_up cf_2 239 (.inl (cy 12, 90, .inl (fun _ => 0))) := ⟨_, rfl⟩
  rw [← e_cf_3] at hw
  have hlow : ∀ i, i < 237 → cf_3 i = cf i := fun i h => by rw [e_cf_3]; exact (vu_ne (by omega)).trans (hlow i h)
  have hc_237 : cf_3 237 = .inr (11, [.ref (bs + 238), .null, .null, .null, .null, .null, .null, .null, .null, .null, .null, .null, .null, .null, .null, .null, .null, .null, .null, .int 0, .int 0, .int 0, .int 0, .null, .null, .null, .null, .null, .null, .null, .null, .null, .null, .null, .null, .null, .null, .null, .null, .int 0, .null, .int 0, .int 0, .null, .null, .int 0, .int 0, .int 0, .int 0, .int 0, .int 0, .int 0, .int 0, .null, .null, .null]) := by rw [e_cf_3]; exact (vu_ne (by decide)).trans hc_237
  have hc_239 : cf_3 239 = .inl (cy 12, 90, .inl (fun _ => 0)) := by rw [e_cf_3]; exact vu_at
  have hdone : ∀ i, 237 < i → i < 240 → i ≠ 239 → cf_3 i = ce (GB D bs cy tD tR) (s0 i) i := fun i h1 h2 p_239 => by rw [e_cf_3]; exact (vu_ne (by omega)).trans (hdone i h1 (by omega) )
  have hdone : ∀ i, 237 < i → i < 240 → cf_3 i = ce (GB D bs cy tD tR) (s0 i) i := fun i h1 h2  => by
    by_cases p_239 : i = 239
    · subst p_239; exact hc_239.trans rfl
    · exact hdone i h1 h2 p_239
  have hw : CW D cy bs 240 [(cy 12, .int)] cf_3 s H _ 2 := k_tys [0] hw rfl
  refine W.eq (g2 := F0 m 17 ls [.ref (bs + 239), .ref (bs + 237)]) rfl ?_
  refine k_putF (ci := 11) (n := 56) (k := 1) (v := .ref (bs + 239)) (ty := .array (.int)) nty11 X hw (by decide) hc_237 ni11 nk11 nn11 rfl (by decide) tb_907 rfl rfl hin rfl (by decide +kernel) rfl rfl (Nat.le_of_ble_eq_true rfl) d_X11_init_17 (fun H locs hw => ?_)
  have hw : CW D cy bs 240 [(cy 12, .int)] (va_up cf_3 237 (.inr (11, [.ref (bs + 238), .ref (bs + 239), .null, .null, .null, .null, .null, .null, .null, .null, .null, .null, .null, .null, .null, .null, .null, .null, .null, .int 0, .int 0, .int 0, .int 0, .null, .null, .null, .null, .null, .null, .null, .null, .null, .null, .null, .null, .null, .null, .null, .null, .int 0, .null, .int 0, .int 0, .null, .null, .int 0, .int 0, .int 0, .int 0, .int 0, .int 0, .int 0, .int 0, .null, .null, .null]))) s H _ 2 := hw
  obtain ⟨cf_4, e_cf_4⟩ : ∃ z : Nat → va_E, z = va_up cf_3 237 (.inr (11, [.ref (bs + 238), .ref (bs + 239), .null, .null, .null, .null, .null, .null, .null, .null, .null, .null, .null, .null, .null, .null, .null, .null, .null, .int 0, .int 0, .int 0, .int 0, .null, .null, .null, .null, .null, .null, .null, .null, .null, .null, .null, .null, .null, .null, .null, .null, .int 0, .null, .int 0, .int 0, .null, .null, .int 0, .int 0, .int 0, .int 0, .int 0, .int 0, .int 0, .int 0, .null, .null, .null])) := ⟨_, rfl⟩
  rw [← e_cf_4] at hw
  have hlow : ∀ i, i < 237 → cf_4 i = cf i := fun i h => by rw [e_cf_4]; exact (vu_ne (by omega)).trans (hlow i h)
  have hc_237 : cf_4 237 = .inr (11, [.ref (bs + 238), .ref (bs + 239), .null, .null, .null, .null, .null, .null, .null, .null, .null, .null, .null, .null, .null, .null, .null, .null, .null, .int 0, .int 0, .int 0, .int 0, .null, .null, .null, .null, .null, .null, .null, .null, .null, .null, .null, .null, .null, .null, .null, .null, .int 0, .null, .int 0, .int 0, .null, .null, .int 0, .int 0, .int 0, .int 0, .int 0, .int 0, .int 0, .int 0, .null, .null, .null]) := by rw [e_cf_4]; exact vu_at
  have hdone : ∀ i, 237 < i → i < 240 → cf_4 i = ce (GB D bs cy tD tR) (s0 i) i := fun i h1 h2  => by rw [e_cf_4]; exact (vu_ne (by omega)).trans (hdone i h1 h2 )
  refine lv_aload_n X.1 X.2.1 d_X11_init_20 rfl (lv_at hl 0 rfl) ?_
  refine lv_sipush (v := 810) X.1 X.2.1 d_X11_init_21 (by decide) ?_
  refine k_newI (N' := 810) X hw (by decide) (by decide) (by decide) (Nat.le_of_ble_eq_true rfl) (Nat.le_of_ble_eq_true rfl) d_X11_init_24 (fun H hw => ?_)
  have hw : CW D cy bs 241 ([(cy 12, .int)] ++ [(cy 12, .int)]) _ s H _ 3 := hw
  obtain ⟨cf_5, e_cf_5⟩ : ∃ z : Nat → va_E, z = va_up cf_4 240 (.inl (cy 12, 810, .inl (fun _ => 0))) := ⟨_, rfl⟩
  rw [← e_cf_5] at hw
  have hlow : ∀ i, i < 237 → cf_5 i = cf i := fun i h => by rw [e_cf_5]; exact (vu_ne (by omega)).trans (hlow i h)
  have hc_237 : cf_5 237 = .inr (11, [.ref (bs + 238), .ref (bs + 239), .null, .null, .null, .null, .null, .null, .null, .null, .null, .null, .null, .null, .null, .null, .null, .null, .null, .int 0, .int 0, .int 0, .int 0, .null, .null, .null, .null, .null, .null, .null, .null, .null, .null, .null, .null, .null, .null, .null, .null, .int 0, .null, .int 0, .int 0, .null, .null, .int 0, .int 0, .int 0, .int 0, .int 0, .int 0, .int 0, .int 0, .null, .null, .null]) := by rw [e_cf_5]; exact (vu_ne (by decide)).trans hc_237
  have hc_240 : cf_5 240 = .inl (cy 12, 810, .inl (fun _ => 0)) := by rw [e_cf_5]; exact vu_at
  have hdone : ∀ i, 237 < i → i < 241 → i ≠ 240 → cf_5 i = ce (GB D bs cy tD tR) (s0 i) i := fun i h1 h2 p_240 => by rw [e_cf_5]; exact (vu_ne (by omega)).trans (hdone i h1 (by omega) )
  have hdone : ∀ i, 237 < i → i < 241 → cf_5 i = ce (GB D bs cy tD tR) (s0 i) i := fun i h1 h2  => by
    by_cases p_240 : i = 240
    · subst p_240; exact hc_240.trans rfl
    · exact hdone i h1 h2 p_240
  have hw : CW D cy bs 241 [(cy 12, .int)] cf_5 s H _ 3 := k_tys [0] hw rfl
  refine W.eq (g2 := F0 m 26 ls [.ref (bs + 240), .ref (bs + 237)]) rfl ?_
  refine k_putF (ci := 11) (n := 56) (k := 2) (v := .ref (bs + 240)) (ty := .array (.int)) nty11 X hw (by decide) hc_237 ni11 nk11 nn11 rfl (by decide) tb_908 rfl rfl hin rfl (by decide +kernel) rfl rfl (Nat.le_of_ble_eq_true rfl) d_X11_init_26 (fun H locs hw => ?_)
  have hw : CW D cy bs 241 [(cy 12, .int)] (va_up cf_5 237 (.inr (11, [.ref (bs + 238), .ref (bs + 239), .ref (bs + 240), .null, .null, .null, .null, .null, .null, .null, .null, .null, .null, .null, .null, .null, .null, .null, .null, .int 0, .int 0, .int 0, .int 0, .null, .null, .null, .null, .null, .null, .null, .null, .null, .null, .null, .null, .null, .null, .null, .null, .int 0, .null, .int 0, .int 0, .null, .null, .int 0, .int 0, .int 0, .int 0, .int 0, .int 0, .int 0, .int 0, .null, .null, .null]))) s H _ 3 := hw
  obtain ⟨cf_6, e_cf_6⟩ : ∃ z : Nat → va_E, z = va_up cf_5 237 (.inr (11, [.ref (bs + 238), .ref (bs + 239), .ref (bs + 240), .null, .null, .null, .null, .null, .null, .null, .null, .null, .null, .null, .null, .null, .null, .null, .null, .int 0, .int 0, .int 0, .int 0, .null, .null, .null, .null, .null, .null, .null, .null, .null, .null, .null, .null, .null, .null, .null, .null, .int 0, .null, .int 0, .int 0, .null, .null, .int 0, .int 0, .int 0, .int 0, .int 0, .int 0, .int 0, .int 0, .null, .null, .null])) := ⟨_, rfl⟩
  rw [← e_cf_6] at hw
  have hlow : ∀ i, i < 237 → cf_6 i = cf i := fun i h => by rw [e_cf_6]; exact (vu_ne (by omega)).trans (hlow i h)
  have hc_237 : cf_6 237 = .inr (11, [.ref (bs + 238), .ref (bs + 239), .ref (bs + 240), .null, .null, .null, .null, .null, .null, .null, .null, .null, .null, .null, .null, .null, .null, .null, .null, .int 0, .int 0, .int 0, .int 0, .null, .null, .null, .null, .null, .null, .null, .null, .null, .null, .null, .null, .null, .null, .null, .null, .int 0, .null, .int 0, .int 0, .null, .null, .int 0, .int 0, .int 0, .int 0, .int 0, .int 0, .int 0, .int 0, .null, .null, .null]) := by rw [e_cf_6]; exact vu_at
  have hdone : ∀ i, 237 < i → i < 241 → cf_6 i = ce (GB D bs cy tD tR) (s0 i) i := fun i h1 h2  => by rw [e_cf_6]; exact (vu_ne (by omega)).trans (hdone i h1 h2 )
  refine lv_aload_n X.1 X.2.1 d_X11_init_29 rfl (lv_at hl 0 rfl) ?_
  refine lv_bipush (v := 9) X.1 X.2.1 d_X11_init_30 (by decide) ?_
  refine k_newI (N' := 9) X hw (by decide) (by decide) (by decide) (Nat.le_of_ble_eq_true rfl) (Nat.le_of_ble_eq_true rfl) d_X11_init_32 (fun H hw => ?_)
  have hw : CW D cy bs 242 ([(cy 12, .int)] ++ [(cy 12, .int)]) _ s H _ 4 := hw
  obtain ⟨cf_7, e_cf_7⟩ : ∃ z : Nat → va_E, z = va_up cf_6 241 (.inl (cy 12, 9, .inl (fun _ => 0))) := ⟨_, rfl⟩
  rw [← e_cf_7] at hw
  have hlow : ∀ i, i < 237 → cf_7 i = cf i := fun i h => by rw [e_cf_7]; exact (vu_ne (by omega)).trans (hlow i h)
  have hc_237 : cf_7 237 = .inr (11, [.ref (bs + 238), .ref (bs + 239), .ref (bs + 240), .null, .null, .null, .null, .null, .null, .null, .null, .null, .null, .null, .null, .null, .null, .null, .null, .int 0, .int 0, .int 0, .int 0, .null, .null, .null, .null, .null, .null, .null, .null, .null, .null, .null, .null, .null, .null, .null, .null, .int 0, .null, .int 0, .int 0, .null, .null, .int 0, .int 0, .int 0, .int 0, .int 0, .int 0, .int 0, .int 0, .null, .null, .null]) := by rw [e_cf_7]; exact (vu_ne (by decide)).trans hc_237
  have hc_241 : cf_7 241 = .inl (cy 12, 9, .inl (fun _ => 0)) := by rw [e_cf_7]; exact vu_at
  have hdone : ∀ i, 237 < i → i < 242 → i ≠ 241 → cf_7 i = ce (GB D bs cy tD tR) (s0 i) i := fun i h1 h2 p_241 => by rw [e_cf_7]; exact (vu_ne (by omega)).trans (hdone i h1 (by omega) )
  have hdone : ∀ i, 237 < i → i < 242 → cf_7 i = ce (GB D bs cy tD tR) (s0 i) i := fun i h1 h2  => by
    by_cases p_241 : i = 241
    · subst p_241; exact hc_241.trans rfl
    · exact hdone i h1 h2 p_241
  have hw : CW D cy bs 242 [(cy 12, .int)] cf_7 s H _ 4 := k_tys [0] hw rfl
  refine W.eq (g2 := F0 m 34 ls [.ref (bs + 241), .ref (bs + 237)]) rfl ?_
  refine k_putF (ci := 11) (n := 56) (k := 3) (v := .ref (bs + 241)) (ty := .array (.int)) nty11 X hw (by decide) hc_237 ni11 nk11 nn11 rfl (by decide) tb_909 rfl rfl hin rfl (by decide +kernel) rfl rfl (Nat.le_of_ble_eq_true rfl) d_X11_init_34 (fun H locs hw => ?_)
  have hw : CW D cy bs 242 [(cy 12, .int)] (va_up cf_7 237 (.inr (11, [.ref (bs + 238), .ref (bs + 239), .ref (bs + 240), .ref (bs + 241), .null, .null, .null, .null, .null, .null, .null, .null, .null, .null, .null, .null, .null, .null, .null, .int 0, .int 0, .int 0, .int 0, .null, .null, .null, .null, .null, .null, .null, .null, .null, .null, .null, .null, .null, .null, .null, .null, .int 0, .null, .int 0, .int 0, .null, .null, .int 0, .int 0, .int 0, .int 0, .int 0, .int 0, .int 0, .int 0, .null, .null, .null]))) s H _ 4 := hw
  obtain ⟨cf_8, e_cf_8⟩ : ∃ z : Nat → va_E, z = va_up cf_7 237 (.inr (11, [.ref (bs + 238), .ref (bs + 239), .ref (bs + 240), .ref (bs + 241), .null, .null, .null, .null, .null, .null, .null, .null, .null, .null, .null, .null, .null, .null, .null, .int 0, .int 0, .int 0, .int 0, .null, .null, .null, .null, .null, .null, .null, .null, .null, .null, .null, .null, .null, .null, .null, .null, .int 0, .null, .int 0, .int 0, .null, .null, .int 0, .int 0, .int 0, .int 0, .int 0, .int 0, .int 0, .int 0, .null, .null, .null])) := ⟨_, rfl⟩
  rw [← e_cf_8] at hw
  have hlow : ∀ i, i < 237 → cf_8 i = cf i := fun i h => by rw [e_cf_8]; exact (vu_ne (by omega)).trans (hlow i h)
  have hc_237 : cf_8 237 = .inr (11, [.ref (bs + 238), .ref (bs + 239), .ref (bs + 240), .ref (bs + 241), .null, .null, .null, .null, .null, .null, .null, .null, .null, .null, .null, .null, .null, .null, .null, .int 0, .int 0, .int 0, .int 0, .null, .null, .null, .null, .null, .null, .null, .null, .null, .null, .null, .null, .null, .null, .null, .null, .int 0, .null, .int 0, .int 0, .null, .null, .int 0, .int 0, .int 0, .int 0, .int 0, .int 0, .int 0, .int 0, .null, .null, .null]) := by rw [e_cf_8]; exact vu_at
  have hdone : ∀ i, 237 < i → i < 242 → cf_8 i = ce (GB D bs cy tD tR) (s0 i) i := fun i h1 h2  => by rw [e_cf_8]; exact (vu_ne (by omega)).trans (hdone i h1 h2 )
  refine lv_aload_n X.1 X.2.1 d_X11_init_37 rfl (lv_at hl 0 rfl) ?_
  refine lv_bipush (v := 9) X.1 X.2.1 d_X11_init_38 (by decide) ?_
  refine k_newI (N' := 9) X hw (by decide) (by decide) (by decide) (Nat.le_of_ble_eq_true rfl) (Nat.le_of_ble_eq_true rfl) d_X11_init_40 (fun H hw => ?_)
  have hw : CW D cy bs 243 ([(cy 12, .int)] ++ [(cy 12, .int)]) _ s H _ 5 := hw
  obtain ⟨cf_9, e_cf_9⟩ : ∃ z : Nat → va_E, z = va_up cf_8 242 (.inl (cy 12, 9, .inl (fun _ => 0))) := ⟨_, rfl⟩
  rw [← e_cf_9] at hw
  have hlow : ∀ i, i < 237 → cf_9 i = cf i := fun i h => by rw [e_cf_9]; exact (vu_ne (by omega)).trans (hlow i h)
  have hc_237 : cf_9 237 = .inr (11, [.ref (bs + 238), .ref (bs + 239), .ref (bs + 240), .ref (bs + 241), .null, .null, .null, .null, .null, .null, .null, .null, .null, .null, .null, .null, .null, .null, .null, .int 0, .int 0, .int 0, .int 0, .null, .null, .null, .null, .null, .null, .null, .null, .null, .null, .null, .null, .null, .null, .null, .null, .int 0, .null, .int 0, .int 0, .null, .null, .int 0, .int 0, .int 0, .int 0, .int 0, .int 0, .int 0, .int 0, .null, .null, .null]) := by rw [e_cf_9]; exact (vu_ne (by decide)).trans hc_237
  have hc_242 : cf_9 242 = .inl (cy 12, 9, .inl (fun _ => 0)) := by rw [e_cf_9]; exact vu_at
  have hdone : ∀ i, 237 < i → i < 243 → i ≠ 242 → cf_9 i = ce (GB D bs cy tD tR) (s0 i) i := fun i h1 h2 p_242 => by rw [e_cf_9]; exact (vu_ne (by omega)).trans (hdone i h1 (by omega) )
  have hdone : ∀ i, 237 < i → i < 243 → cf_9 i = ce (GB D bs cy tD tR) (s0 i) i := fun i h1 h2  => by
    by_cases p_242 : i = 242
    · subst p_242; exact hc_242.trans rfl
    · exact hdone i h1 h2 p_242
  have hw : CW D cy bs 243 [(cy 12, .int)] cf_9 s H _ 5 := k_tys [0] hw rfl
  refine W.eq (g2 := F0 m 42 ls [.ref (bs + 242), .ref (bs + 237)]) rfl ?_
  refine k_putF (ci := 11) (n := 56) (k := 4) (v := .ref (bs + 242)) (ty := .array (.int)) nty11 X hw (by decide) hc_237 ni11 nk11 nn11 rfl (by decide) tb_910 rfl rfl hin rfl (by decide +kernel) rfl rfl (Nat.le_of_ble_eq_true rfl) d_X11_init_42 (fun H locs hw => ?_)
  have hw : CW D cy bs 243 [(cy 12, .int)] (va_up cf_9 237 (.inr (11, [.ref (bs + 238), .ref (bs + 239), .ref (bs + 240), .ref (bs + 241), .ref (bs + 242), .null, .null, .null, .null, .null, .null, .null, .null, .null, .null, .null, .null, .null, .null, .int 0, .int 0, .int 0, .int 0, .null, .null, .null, .null, .null, .null, .null, .null, .null, .null, .null, .null, .null, .null, .null, .null, .int 0, .null, .int 0, .int 0, .null, .null, .int 0, .int 0, .int 0, .int 0, .int 0, .int 0, .int 0, .int 0, .null, .null, .null]))) s H _ 5 := hw
  obtain ⟨cf_10, e_cf_10⟩ : ∃ z : Nat → va_E, z = va_up cf_9 237 (.inr (11, [.ref (bs + 238), .ref (bs + 239), .ref (bs + 240), .ref (bs + 241), .ref (bs + 242), .null, .null, .null, .null, .null, .null, .null, .null, .null, .null, .null, .null, .null, .null, .int 0, .int 0, .int 0, .int 0, .null, .null, .null, .null, .null, .null, .null, .null, .null, .null, .null, .null, .null, .null, .null, .null, .int 0, .null, .int 0, .int 0, .null, .null, .int 0, .int 0, .int 0, .int 0, .int 0, .int 0, .int 0, .int 0, .null, .null, .null])) := ⟨_, rfl⟩
  rw [← e_cf_10] at hw
  have hlow : ∀ i, i < 237 → cf_10 i = cf i := fun i h => by rw [e_cf_10]; exact (vu_ne (by omega)).trans (hlow i h)
  have hc_237 : cf_10 237 = .inr (11, [.ref (bs + 238), .ref (bs + 239), .ref (bs + 240), .ref (bs + 241), .ref (bs + 242), .null, .null, .null, .null, .null, .null, .null, .null, .null, .null, .null, .null, .null, .null, .int 0, .int 0, .int 0, .int 0, .null, .null, .null, .null, .null, .null, .null, .null, .null, .null, .null, .null, .null, .null, .null, .null, .int 0, .null, .int 0, .int 0, .null, .null, .int 0, .int 0, .int 0, .int 0, .int 0, .int 0, .int 0, .int 0, .null, .null, .null]) := by rw [e_cf_10]; exact vu_at
  have hdone : ∀ i, 237 < i → i < 243 → cf_10 i = ce (GB D bs cy tD tR) (s0 i) i := fun i h1 h2  => by rw [e_cf_10]; exact (vu_ne (by omega)).trans (hdone i h1 h2 )
  refine lv_aload_n X.1 X.2.1 d_X11_init_45 rfl (lv_at hl 0 rfl) ?_
  refine lv_bipush (v := 9) X.1 X.2.1 d_X11_init_46 (by decide) ?_
  refine k_newI (N' := 9) X hw (by decide) (by decide) (by decide) (Nat.le_of_ble_eq_true rfl) (Nat.le_of_ble_eq_true rfl) d_X11_init_48 (fun H hw => ?_)
  have hw : CW D cy bs 244 ([(cy 12, .int)] ++ [(cy 12, .int)]) _ s H _ 6 := hw
  obtain ⟨cf_11, e_cf_11⟩ : ∃ z : Nat → va_E, z = va_up cf_10 243 (.inl (cy 12, 9, .inl (fun _ => 0))) := ⟨_, rfl⟩
  rw [← e_cf_11] at hw
  have hlow : ∀ i, i < 237 → cf_11 i = cf i := fun i h => by rw [e_cf_11]; exact (vu_ne (by omega)).trans (hlow i h)
  have hc_237 : cf_11 237 = .inr (11, [.ref (bs + 238), .ref (bs + 239), .ref (bs + 240), .ref (bs + 241), .ref (bs + 242), .null, .null, .null, .null, .null, .null, .null, .null, .null, .null, .null, .null, .null, .null, .int 0, .int 0, .int 0, .int 0, .null, .null, .null, .null, .null, .null, .null, .null, .null, .null, .null, .null, .null, .null, .null, .null, .int 0, .null, .int 0, .int 0, .null, .null, .int 0, .int 0, .int 0, .int 0, .int 0, .int 0, .int 0, .int 0, .null, .null, .null]) := by rw [e_cf_11]; exact (vu_ne (by decide)).trans hc_237
  have hc_243 : cf_11 243 = .inl (cy 12, 9, .inl (fun _ => 0)) := by rw [e_cf_11]; exact vu_at
  have hdone : ∀ i, 237 < i → i < 244 → i ≠ 243 → cf_11 i = ce (GB D bs cy tD tR) (s0 i) i := fun i h1 h2 p_243 => by rw [e_cf_11]; exact (vu_ne (by omega)).trans (hdone i h1 (by omega) )
  have hdone : ∀ i, 237 < i → i < 244 → cf_11 i = ce (GB D bs cy tD tR) (s0 i) i := fun i h1 h2  => by
    by_cases p_243 : i = 243
    · subst p_243; exact hc_243.trans rfl
    · exact hdone i h1 h2 p_243
  have hw : CW D cy bs 244 [(cy 12, .int)] cf_11 s H _ 6 := k_tys [0] hw rfl
  refine W.eq (g2 := F0 m 50 ls [.ref (bs + 243), .ref (bs + 237)]) rfl ?_
  refine k_putF (ci := 11) (n := 56) (k := 5) (v := .ref (bs + 243)) (ty := .array (.int)) nty11 X hw (by decide) hc_237 ni11 nk11 nn11 rfl (by decide) tb_911 rfl rfl hin rfl (by decide +kernel) rfl rfl (Nat.le_of_ble_eq_true rfl) d_X11_init_50 (fun H locs hw => ?_)
  have hw : CW D cy bs 244 [(cy 12, .int)] (va_up cf_11 237 (.inr (11, [.ref (bs + 238), .ref (bs + 239), .ref (bs + 240), .ref (bs + 241), .ref (bs + 242), .ref (bs + 243), .null, .null, .null, .null, .null, .null, .null, .null, .null, .null, .null, .null, .null, .int 0, .int 0, .int 0, .int 0, .null, .null, .null, .null, .null, .null, .null, .null, .null, .null, .null, .null, .null, .null, .null, .null, .int 0, .null, .int 0, .int 0, .null, .null, .int 0, .int 0, .int 0, .int 0, .int 0, .int 0, .int 0, .int 0, .null, .null, .null]))) s H _ 6 := hw
  obtain ⟨cf_12, e_cf_12⟩ : ∃ z : Nat → va_E, z = va_up cf_11 237 (.inr (11, [.ref (bs + 238), .ref (bs + 239), .ref (bs + 240), .ref (bs + 241), .ref (bs + 242), .ref (bs + 243), .null, .null, .null, .null, .null, .null, .null, .null, .null, .null, .null, .null, .null, .int 0, .int 0, .int 0, .int 0, .null, .null, .null, .null, .null, .null, .null, .null, .null, .null, .null, .null, .null, .null, .null, .null, .int 0, .null, .int 0, .int 0, .null, .null, .int 0, .int 0, .int 0, .int 0, .int 0, .int 0, .int 0, .int 0, .null, .null, .null])) := ⟨_, rfl⟩
  rw [← e_cf_12] at hw
  have hlow : ∀ i, i < 237 → cf_12 i = cf i := fun i h => by rw [e_cf_12]; exact (vu_ne (by omega)).trans (hlow i h)
  have hc_237 : cf_12 237 = .inr (11, [.ref (bs + 238), .ref (bs + 239), .ref (bs + 240), .ref (bs + 241), .ref (bs + 242), .ref (bs + 243), .null, .null, .null, .null, .null, .null, .null, .null, .null, .null, .null, .null, .null, .int 0, .int 0, .int 0, .int 0, .null, .null, .null, .null, .null, .null, .null, .null, .null, .null, .null, .null, .null, .null, .null, .null, .int 0, .null, .int 0, .int 0, .null, .null, .int 0, .int 0, .int 0, .int 0, .int 0, .int 0, .int 0, .int 0, .null, .null, .null]) := by rw [e_cf_12]; exact vu_at
  have hdone : ∀ i, 237 < i → i < 244 → cf_12 i = ce (GB D bs cy tD tR) (s0 i) i := fun i h1 h2  => by rw [e_cf_12]; exact (vu_ne (by omega)).trans (hdone i h1 h2 )
  refine lv_aload_n X.1 X.2.1 d_X11_init_53 rfl (lv_at hl 0 rfl) ?_
  refine lv_sipush (v := 144) X.1 X.2.1 d_X11_init_54 (by decide) ?_
  refine k_newI (N' := 144) X hw (by decide) (by decide) (by decide) (Nat.le_of_ble_eq_true rfl) (Nat.le_of_ble_eq_true rfl) d_X11_init_57 (fun H hw => ?_)
  have hw : CW D cy bs 245 ([(cy 12, .int)] ++ [(cy 12, .int)]) _ s H _ 7 := hw
  obtain ⟨cf_13, e_cf_13⟩ : ∃ z : Nat → va_E, z = va_up cf_12 244 (.inl (cy 12, 144, .inl (fun _ => 0))) := ⟨_, rfl⟩
  rw [← e_cf_13] at hw
  have hlow : ∀ i, i < 237 → cf_13 i = cf i := fun i h => by rw [e_cf_13]; exact (vu_ne (by omega)).trans (hlow i h)
  have hc_237 : cf_13 237 = .inr (11, [.ref (bs + 238), .ref (bs + 239), .ref (bs + 240), .ref (bs + 241), .ref (bs + 242), .ref (bs + 243), .null, .null, .null, .null, .null, .null, .null, .null, .null, .null, .null, .null, .null, .int 0, .int 0, .int 0, .int 0, .null, .null, .null, .null, .null, .null, .null, .null, .null, .null, .null, .null, .null, .null, .null, .null, .int 0, .null, .int 0, .int 0, .null, .null, .int 0, .int 0, .int 0, .int 0, .int 0, .int 0, .int 0, .int 0, .null, .null, .null]) := by rw [e_cf_13]; exact (vu_ne (by decide)).trans hc_237
  have hc_244 : cf_13 244 = .inl (cy 12, 144, .inl (fun _ => 0)) := by rw [e_cf_13]; exact vu_at
  have hdone : ∀ i, 237 < i → i < 245 → i ≠ 244 → cf_13 i = ce (GB D bs cy tD tR) (s0 i) i := fun i h1 h2 p_244 => by rw [e_cf_13]; exact (vu_ne (by omega)).trans (hdone i h1 (by omega) )
  have hdone : ∀ i, 237 < i → i < 245 → cf_13 i = ce (GB D bs cy tD tR) (s0 i) i := fun i h1 h2  => by
    by_cases p_244 : i = 244
    · subst p_244; exact hc_244.trans rfl
    · exact hdone i h1 h2 p_244
  have hw : CW D cy bs 245 [(cy 12, .int)] cf_13 s H _ 7 := k_tys [0] hw rfl
  refine W.eq (g2 := F0 m 59 ls [.ref (bs + 244), .ref (bs + 237)]) rfl ?_
  refine k_putF (ci := 11) (n := 56) (k := 6) (v := .ref (bs + 244)) (ty := .array (.int)) nty11 X hw (by decide) hc_237 ni11 nk11 nn11 rfl (by decide) tb_912 rfl rfl hin rfl (by decide +kernel) rfl rfl (Nat.le_of_ble_eq_true rfl) d_X11_init_59 (fun H locs hw => ?_)
  have hw : CW D cy bs 245 [(cy 12, .int)] (va_up cf_13 237 (.inr (11, [.ref (bs + 238), .ref (bs + 239), .ref (bs + 240), .ref (bs + 241), .ref (bs + 242), .ref (bs + 243), .ref (bs + 244), .null, .null, .null, .null, .null, .null, .null, .null, .null, .null, .null, .null, .int 0, .int 0, .int 0, .int 0, .null, .null, .null, .null, .null, .null, .null, .null, .null, .null, .null, .null, .null, .null, .null, .null, .int 0, .null, .int 0, .int 0, .null, .null, .int 0, .int 0, .int 0, .int 0, .int 0, .int 0, .int 0, .int 0, .null, .null, .null]))) s H _ 7 := hw
  obtain ⟨cf_14, e_cf_14⟩ : ∃ z : Nat → va_E, z = va_up cf_13 237 (.inr (11, [.ref (bs + 238), .ref (bs + 239), .ref (bs + 240), .ref (bs + 241), .ref (bs + 242), .ref (bs + 243), .ref (bs + 244), .null, .null, .null, .null, .null, .null, .null, .null, .null, .null, .null, .null, .int 0, .int 0, .int 0, .int 0, .null, .null, .null, .null, .null, .null, .null, .null, .null, .null, .null, .null, .null, .null, .null, .null, .int 0, .null, .int 0, .int 0, .null, .null, .int 0, .int 0, .int 0, .int 0, .int 0, .int 0, .int 0, .int 0, .null, .null, .null])) := ⟨_, rfl⟩
  rw [← e_cf_14] at hw
  have hlow : ∀ i, i < 237 → cf_14 i = cf i := fun i h => by rw [e_cf_14]; exact (vu_ne (by omega)).trans (hlow i h)
  have hc_237 : cf_14 237 = .inr (11, [.ref (bs + 238), .ref (bs + 239), .ref (bs + 240), .ref (bs + 241), .ref (bs + 242), .ref (bs + 243), .ref (bs + 244), .null, .null, .null, .null, .null, .null, .null, .null, .null, .null, .null, .null, .int 0, .int 0, .int 0, .int 0, .null, .null, .null, .null, .null, .null, .null, .null, .null, .null, .null, .null, .null, .null, .null, .null, .int 0, .null, .int 0, .int 0, .null, .null, .int 0, .int 0, .int 0, .int 0, .int 0, .int 0, .int 0, .int 0, .null, .null, .null]) := by rw [e_cf_14]; exact vu_at
  have hdone : ∀ i, 237 < i → i < 245 → cf_14 i = ce (GB D bs cy tD tR) (s0 i) i := fun i h1 h2  => by rw [e_cf_14]; exact (vu_ne (by omega)).trans (hdone i h1 h2 )
  refine lv_aload_n X.1 X.2.1 d_X11_init_62 rfl (lv_at hl 0 rfl) ?_
  refine lv_bipush (v := 54) X.1 X.2.1 d_X11_init_63 (by decide) ?_
  refine k_newI (N' := 54) X hw (by decide) (by decide) (by decide) (Nat.le_of_ble_eq_true rfl) (Nat.le_of_ble_eq_true rfl) d_X11_init_65 (fun H hw => ?_)
  have hw : CW D cy bs 246 ([(cy 12, .int)] ++ [(cy 12, .int)]) _ s H _ 8 := hw
  obtain ⟨cf_15, e_cf_15⟩ : ∃ z : Nat → va_E, z = va_up cf_14 245 (.inl (cy 12, 54, .inl (fun _ => 0))) := ⟨_, rfl⟩
  rw [← e_cf_15] at hw
  have hlow : ∀ i, i < 237 → cf_15 i = cf i := fun i h => by rw [e_cf_15]; exact (vu_ne (by omega)).trans (hlow i h)
  have hc_237 : cf_15 237 = .inr (11, [.ref (bs + 238), .ref (bs + 239), .ref (bs + 240), .ref (bs + 241), .ref (bs + 242), .ref (bs + 243), .ref (bs + 244), .null, .null, .null, .null, .null, .null, .null, .null, .null, .null, .null, .null, .int 0, .int 0, .int 0, .int 0, .null, .null, .null, .null, .null, .null, .null, .null, .null, .null, .null, .null, .null, .null, .null, .null, .int 0, .null, .int 0, .int 0, .null, .null, .int 0, .int 0, .int 0, .int 0, .int 0, .int 0, .int 0, .int 0, .null, .null, .null]) := by rw [e_cf_15]; exact (vu_ne (by decide)).trans hc_237
  have hc_245 : cf_15 245 = .inl (cy 12, 54, .inl (fun _ => 0)) := by rw [e_cf_15]; exact vu_at
  have hdone : ∀ i, 237 < i → i < 246 → i ≠ 245 → cf_15 i = ce (GB D bs cy tD tR) (s0 i) i := fun i h1 h2 p_245 => by rw [e_cf_15]; exact (vu_ne (by omega)).trans (hdone i h1 (by omega) )
  have hdone : ∀ i, 237 < i → i < 246 → cf_15 i = ce (GB D bs cy tD tR) (s0 i) i := fun i h1 h2  => by
    by_cases p_245 : i = 245
    · subst p_245; exact hc_245.trans rfl
    · exact hdone i h1 h2 p_245
  have hw : CW D cy bs 246 [(cy 12, .int)] cf_15 s H _ 8 := k_tys [0] hw rfl
  refine W.eq (g2 := F0 m 67 ls [.ref (bs + 245), .ref (bs + 237)]) rfl ?_
  refine k_putF (ci := 11) (n := 56) (k := 7) (v := .ref (bs + 245)) (ty := .array (.int)) nty11 X hw (by decide) hc_237 ni11 nk11 nn11 rfl (by decide) tb_913 rfl rfl hin rfl (by decide +kernel) rfl rfl (Nat.le_of_ble_eq_true rfl) d_X11_init_67 (fun H locs hw => ?_)
  have hw : CW D cy bs 246 [(cy 12, .int)] (va_up cf_15 237 (.inr (11, [.ref (bs + 238), .ref (bs + 239), .ref (bs + 240), .ref (bs + 241), .ref (bs + 242), .ref (bs + 243), .ref (bs + 244), .ref (bs + 245), .null, .null, .null, .null, .null, .null, .null, .null, .null, .null, .null, .int 0, .int 0, .int 0, .int 0, .null, .null, .null, .null, .null, .null, .null, .null, .null, .null, .null, .null, .null, .null, .null, .null, .int 0, .null, .int 0, .int 0, .null, .null, .int 0, .int 0, .int 0, .int 0, .int 0, .int 0, .int 0, .int 0, .null, .null, .null]))) s H _ 8 := hw
  obtain ⟨cf_16, e_cf_16⟩ : ∃ z : Nat → va_E, z = va_up cf_15 237 (.inr (11, [.ref (bs + 238), .ref (bs + 239), .ref (bs + 240), .ref (bs + 241), .ref (bs + 242), .ref (bs + 243), .ref (bs + 244), .ref (bs + 245), .null, .null, .null, .null, .null, .null, .null, .null, .null, .null, .null, .int 0, .int 0, .int 0, .int 0, .null, .null, .null, .null, .null, .null, .null, .null, .null, .null, .null, .null, .null, .null, .null, .null, .int 0, .null, .int 0, .int 0, .null, .null, .int 0, .int 0, .int 0, .int 0, .int 0, .int 0, .int 0, .int 0, .null, .null, .null])) := ⟨_, rfl⟩
  rw [← e_cf_16] at hw
  have hlow : ∀ i, i < 237 → cf_16 i = cf i := fun i h => by rw [e_cf_16]; exact (vu_ne (by omega)).trans (hlow i h)
  have hc_237 : cf_16 237 = .inr (11, [.ref (bs + 238), .ref (bs + 239), .ref (bs + 240), .ref (bs + 241), .ref (bs + 242), .ref (bs + 243), .ref (bs + 244), .ref (bs + 245), .null, .null, .null, .null, .null, .null, .null, .null, .null, .null, .null, .int 0, .int 0, .int 0, .int 0, .null, .null, .null, .null, .null, .null, .null, .null, .null, .null, .null, .null, .null, .null, .null, .null, .int 0, .null, .int 0, .int 0, .null, .null, .int 0, .int 0, .int 0, .int 0, .int 0, .int 0, .int 0, .int 0, .null, .null, .null]) := by rw [e_cf_16]; exact vu_at
  have hdone : ∀ i, 237 < i → i < 246 → cf_16 i = ce (GB D bs cy tD tR) (s0 i) i := fun i h1 h2  => by rw [e_cf_16]; exact (vu_ne (by omega)).trans (hdone i h1 h2 )
  refine lv_aload_n X.1 X.2.1 d_X11_init_70 rfl (lv_at hl 0 rfl) ?_
  refine lv_bipush (v := 54) X.1 X.2.1 d_X11_init_71 (by decide) ?_
  refine k_newI (N' := 54) X hw (by decide) (by decide) (by decide) (Nat.le_of_ble_eq_true rfl) (Nat.le_of_ble_eq_true rfl) d_X11_init_73 (fun H hw => ?_)
  have hw : CW D cy bs 247 ([(cy 12, .int)] ++ [(cy 12, .int)]) _ s H _ 9 := hw
  obtain ⟨cf_17, e_cf_17⟩ : ∃ z : Nat → va_E, z = va_up cf_16 246 (.inl (cy 12, 54, .inl (fun _ => 0))) := ⟨_, rfl⟩
  rw [← e_cf_17] at hw
  have hlow : ∀ i, i < 237 → cf_17 i = cf i := fun i h => by rw [e_cf_17]; exact (vu_ne (by omega)).trans (hlow i h)
  have hc_237 : cf_17 237 = .inr (11, [.ref (bs + 238), .ref (bs + 239), .ref (bs + 240), .ref (bs + 241), .ref (bs + 242), .ref (bs + 243), .ref (bs + 244), .ref (bs + 245), .null, .null, .null, .null, .null, .null, .null, .null, .null, .null, .null, .int 0, .int 0, .int 0, .int 0, .null, .null, .null, .null, .null, .null, .null, .null, .null, .null, .null, .null, .null, .null, .null, .null, .int 0, .null, .int 0, .int 0, .null, .null, .int 0, .int 0, .int 0, .int 0, .int 0, .int 0, .int 0, .int 0, .null, .null, .null]) := by rw [e_cf_17]; exact (vu_ne (by decide)).trans hc_237
  have hc_246 : cf_17 246 = .inl (cy 12, 54, .inl (fun _ => 0)) := by rw [e_cf_17]; exact vu_at
  have hdone : ∀ i, 237 < i → i < 247 → i ≠ 246 → cf_17 i = ce (GB D bs cy tD tR) (s0 i) i := fun i h1 h2 p_246 => by rw [e_cf_17]; exact (vu_ne (by omega)).trans (hdone i h1 (by omega) )
  have hdone : ∀ i, 237 < i → i < 247 → cf_17 i = ce (GB D bs cy tD tR) (s0 i) i := fun i h1 h2  => by
    by_cases p_246 : i = 246
    · subst p_246; exact hc_246.trans rfl
    · exact hdone i h1 h2 p_246
  have hw : CW D cy bs 247 [(cy 12, .int)] cf_17 s H _ 9 := k_tys [0] hw rfl
  refine W.eq (g2 := F0 m 75 ls [.ref (bs + 246), .ref (bs + 237)]) rfl ?_
  refine k_putF (ci := 11) (n := 56) (k := 8) (v := .ref (bs + 246)) (ty := .array (.int)) nty11 X hw (by decide) hc_237 ni11 nk11 nn11 rfl (by decide) tb_914 rfl rfl hin rfl (by decide +kernel) rfl rfl (Nat.le_of_ble_eq_true rfl) d_X11_init_75 (fun H locs hw => ?_)
  have hw : CW D cy bs 247 [(cy 12, .int)] (va_up cf_17 237 (.inr (11, [.ref (bs + 238), .ref (bs + 239), .ref (bs + 240), .ref (bs + 241), .ref (bs + 242), .ref (bs + 243), .ref (bs + 244), .ref (bs + 245), .ref (bs + 246), .null, .null, .null, .null, .null, .null, .null, .null, .null, .null, .int 0, .int 0, .int 0, .int 0, .null, .null, .null, .null, .null, .null, .null, .null, .null, .null, .null, .null, .null, .null, .null, .null, .int 0, .null, .int 0, .int 0, .null, .null, .int 0, .int 0, .int 0, .int 0, .int 0, .int 0, .int 0, .int 0, .null, .null, .null]))) s H _ 9 := hw
  obtain ⟨cf_18, e_cf_18⟩ : ∃ z : Nat → va_E, z = va_up cf_17 237 (.inr (11, [.ref (bs + 238), .ref (bs + 239), .ref (bs + 240), .ref (bs + 241), .ref (bs + 242), .ref (bs + 243), .ref (bs + 244), .ref (bs + 245), .ref (bs + 246), .null, .null, .null, .null, .null, .null, .null, .null, .null, .null, .int 0, .int 0, .int 0, .int 0, .null, .null, .null, .null, .null, .null, .null, .null, .null, .null, .null, .null, .null, .null, .null, .null, .int 0, .null, .int 0, .int 0, .null, .null, .int 0, .int 0, .int 0, .int 0, .int 0, .int 0, .int 0, .int 0, .null, .null, .null])) := ⟨_, rfl⟩
  rw [← e_cf_18] at hw
  have hlow : ∀ i, i < 237 → cf_18 i = cf i := fun i h => by rw [e_cf_18]; exact (vu_ne (by omega)).trans (hlow i h)
  have hc_237 : cf_18 237 = .inr (11, [.ref (bs + 238), .ref (bs + 239), .ref (bs + 240), .ref (bs + 241), .ref (bs + 242), .ref (bs + 243), .ref (bs + 244), .ref (bs + 245), .ref (bs + 246), .null, .null, .null, .null, .null, .null, .null, .null, .null, .null, .int 0, .int 0, .int 0, .int 0, .null, .null, .null, .null, .null, .null, .null, .null, .null, .null, .null, .null, .null, .null, .null, .null, .int 0, .null, .int 0, .int 0, .null, .null, .int 0, .int 0, .int 0, .int 0, .int 0, .int 0, .int 0, .int 0, .null, .null, .null]) := by rw [e_cf_18]; exact vu_at
  have hdone : ∀ i, 237 < i → i < 247 → cf_18 i = ce (GB D bs cy tD tR) (s0 i) i := fun i h1 h2  => by rw [e_cf_18]; exact (vu_ne (by omega)).trans (hdone i h1 h2 )
  refine lv_aload_n X.1 X.2.1 d_X11_init_78 rfl (lv_at hl 0 rfl) ?_
  refine lv_bipush (v := 54) X.1 X.2.1 d_X11_init_79 (by decide) ?_
  refine k_newI (N' := 54) X hw (by decide) (by decide) (by decide) (Nat.le_of_ble_eq_true rfl) (Nat.le_of_ble_eq_true rfl) d_X11_init_81 (fun H hw => ?_)
  have hw : CW D cy bs 248 ([(cy 12, .int)] ++ [(cy 12, .int)]) _ s H _ 10 := hw
  obtain ⟨cf_19, e_cf_19⟩ : ∃ z : Nat → va_E, z = va_up cf_18 247 (.inl (cy 12, 54, .inl (fun _ => 0))) := ⟨_, rfl⟩
  rw [← e_cf_19] at hw
  have hlow : ∀ i, i < 237 → cf_19 i = cf i := fun i h => by rw [e_cf_19]; exact (vu_ne (by omega)).trans (hlow i h)
  have hc_237 : cf_19 237 = .inr (11, [.ref (bs + 238), .ref (bs + 239), .ref (bs + 240), .ref (bs + 241), .ref (bs + 242), .ref (bs + 243), .ref (bs + 244), .ref (bs + 245), .ref (bs + 246), .null, .null, .null, .null, .null, .null, .null, .null, .null, .null, .int 0, .int 0, .int 0, .int 0, .null, .null, .null, .null, .null, .null, .null, .null, .null, .null, .null, .null, .null, .null, .null, .null, .int 0, .null, .int 0, .int 0, .null, .null, .int 0, .int 0, .int 0, .int 0, .int 0, .int 0, .int 0, .int 0, .null, .null, .null]) := by rw [e_cf_19]; exact (vu_ne (by decide)).trans hc_237
  have hc_247 : cf_19 247 = .inl (cy 12, 54, .inl (fun _ => 0)) := by rw [e_cf_19]; exact vu_at
  have hdone : ∀ i, 237 < i → i < 248 → i ≠ 247 → cf_19 i = ce (GB D bs cy tD tR) (s0 i) i := fun i h1 h2 p_247 => by rw [e_cf_19]; exact (vu_ne (by omega)).trans (hdone i h1 (by omega) )
  have hdone : ∀ i, 237 < i → i < 248 → cf_19 i = ce (GB D bs cy tD tR) (s0 i) i := fun i h1 h2  => by
    by_cases p_247 : i = 247
    · subst p_247; exact hc_247.trans rfl
    · exact hdone i h1 h2 p_247
  have hw : CW D cy bs 248 [(cy 12, .int)] cf_19 s H _ 10 := k_tys [0] hw rfl
  refine W.eq (g2 := F0 m 83 ls [.ref (bs + 247), .ref (bs + 237)]) rfl ?_
  refine k_putF (ci := 11) (n := 56) (k := 9) (v := .ref (bs + 247)) (ty := .array (.int)) nty11 X hw (by decide) hc_237 ni11 nk11 nn11 rfl (by decide) tb_915 rfl rfl hin rfl (by decide +kernel) rfl rfl (Nat.le_of_ble_eq_true rfl) d_X11_init_83 (fun H locs hw => ?_)
  have hw : CW D cy bs 248 [(cy 12, .int)] (va_up cf_19 237 (.inr (11, [.ref (bs + 238), .ref (bs + 239), .ref (bs + 240), .ref (bs + 241), .ref (bs + 242), .ref (bs + 243), .ref (bs + 244), .ref (bs + 245), .ref (bs + 246), .ref (bs + 247), .null, .null, .null, .null, .null, .null, .null, .null, .null, .int 0, .int 0, .int 0, .int 0, .null, .null, .null, .null, .null, .null, .null, .null, .null, .null, .null, .null, .null, .null, .null, .null, .int 0, .null, .int 0, .int 0, .null, .null, .int 0, .int 0, .int 0, .int 0, .int 0, .int 0, .int 0, .int 0, .null, .null, .null]))) s H _ 10 := hw
  obtain ⟨cf_20, e_cf_20⟩ : ∃ z : Nat → va_E, z = va_up cf_19 237 (.inr (11, [.ref (bs + 238), .ref (bs + 239), .ref (bs + 240), .ref (bs + 241), .ref (bs + 242), .ref (bs + 243), .ref (bs + 244), .ref (bs + 245), .ref (bs + 246), .ref (bs + 247), .null, .null, .null, .null, .null, .null, .null, .null, .null, .int 0, .int 0, .int 0, .int 0, .null, .null, .null, .null, .null, .null, .null, .null, .null, .null, .null, .null, .null, .null, .null, .null, .int 0, .null, .int 0, .int 0, .null, .null, .int 0, .int 0, .int 0, .int 0, .int 0, .int 0, .int 0, .int 0, .null, .null, .null])) := ⟨_, rfl⟩
  rw [← e_cf_20] at hw
  have hlow : ∀ i, i < 237 → cf_20 i = cf i := fun i h => by rw [e_cf_20]; exact (vu_ne (by omega)).trans (hlow i h)
  have hc_237 : cf_20 237 = .inr (11, [.ref (bs + 238), .ref (bs + 239), .ref (bs + 240), .ref (bs + 241), .ref (bs + 242), .ref (bs + 243), .ref (bs + 244), .ref (bs + 245), .ref (bs + 246), .ref (bs + 247), .null, .null, .null, .null, .null, .null, .null, .null, .null, .int 0, .int 0, .int 0, .int 0, .null, .null, .null, .null, .null, .null, .null, .null, .null, .null, .null, .null, .null, .null, .null, .null, .int 0, .null, .int 0, .int 0, .null, .null, .int 0, .int 0, .int 0, .int 0, .int 0, .int 0, .int 0, .int 0, .null, .null, .null]) := by rw [e_cf_20]; exact vu_at
  have hdone : ∀ i, 237 < i → i < 248 → cf_20 i = ce (GB D bs cy tD tR) (s0 i) i := fun i h1 h2  => by rw [e_cf_20]; exact (vu_ne (by omega)).trans (hdone i h1 h2 )
  refine lv_aload_n X.1 X.2.1 d_X11_init_86 rfl (lv_at hl 0 rfl) ?_
  refine lv_bipush (v := 9) X.1 X.2.1 d_X11_init_87 (by decide) ?_
  refine k_newI (N' := 9) X hw (by decide) (by decide) (by decide) (Nat.le_of_ble_eq_true rfl) (Nat.le_of_ble_eq_true rfl) d_X11_init_89 (fun H hw => ?_)
  have hw : CW D cy bs 249 ([(cy 12, .int)] ++ [(cy 12, .int)]) _ s H _ 11 := hw
  obtain ⟨cf_21, e_cf_21⟩ : ∃ z : Nat → va_E, z = va_up cf_20 248 (.inl (cy 12, 9, .inl (fun _ => 0))) := ⟨_, rfl⟩
  rw [← e_cf_21] at hw
  have hlow : ∀ i, i < 237 → cf_21 i = cf i := fun i h => by rw [e_cf_21]; exact (vu_ne (by omega)).trans (hlow i h)
  have hc_237 : cf_21 237 = .inr (11, [.ref (bs + 238), .ref (bs + 239), .ref (bs + 240), .ref (bs + 241), .ref (bs + 242), .ref (bs + 243), .ref (bs + 244), .ref (bs + 245), .ref (bs + 246), .ref (bs + 247), .null, .null, .null, .null, .null, .null, .null, .null, .null, .int 0, .int 0, .int 0, .int 0, .null, .null, .null, .null, .null, .null, .null, .null, .null, .null, .null, .null, .null, .null, .null, .null, .int 0, .null, .int 0, .int 0, .null, .null, .int 0, .int 0, .int 0, .int 0, .int 0, .int 0, .int 0, .int 0, .null, .null, .null]) := by rw [e_cf_21]; exact (vu_ne (by decide)).trans hc_237
  have hc_248 : cf_21 248 = .inl (cy 12, 9, .inl (fun _ => 0)) := by rw [e_cf_21]; exact vu_at
  have hdone : ∀ i, 237 < i → i < 249 → i ≠ 248 → cf_21 i = ce (GB D bs cy tD tR) (s0 i) i := fun i h1 h2 p_248 => by rw [e_cf_21]; exact (vu_ne (by omega)).trans (hdone i h1 (by omega) )
  have hdone : ∀ i, 237 < i → i < 249 → cf_21 i = ce (GB D bs cy tD tR) (s0 i) i := fun i h1 h2  => by
    by_cases p_248 : i = 248
    · subst p_248; exact hc_248.trans rfl
    · exact hdone i h1 h2 p_248
  have hw : CW D cy bs 249 [(cy 12, .int)] cf_21 s H _ 11 := k_tys [0] hw rfl
  refine W.eq (g2 := F0 m 91 ls [.ref (bs + 248), .ref (bs + 237)]) rfl ?_
  refine k_putF (ci := 11) (n := 56) (k := 10) (v := .ref (bs + 248)) (ty := .array (.int)) nty11 X hw (by decide) hc_237 ni11 nk11 nn11 rfl (by decide) tb_916 rfl rfl hin rfl (by decide +kernel) rfl rfl (Nat.le_of_ble_eq_true rfl) d_X11_init_91 (fun H locs hw => ?_)
  have hw : CW D cy bs 249 [(cy 12, .int)] (va_up cf_21 237 (.inr (11, [.ref (bs + 238), .ref (bs + 239), .ref (bs + 240), .ref (bs + 241), .ref (bs + 242), .ref (bs + 243), .ref (bs + 244), .ref (bs + 245), .ref (bs + 246), .ref (bs + 247), .ref (bs + 248), .null, .null, .null, .null, .null, .null, .null, .null, .int 0, .int 0, .int 0, .int 0, .null, .null, .null, .null, .null, .null, .null, .null, .null, .null, .null, .null, .null, .null, .null, .null, .int 0, .null, .int 0, .int 0, .null, .null, .int 0, .int 0, .int 0, .int 0, .int 0, .int 0, .int 0, .int 0, .null, .null, .null]))) s H _ 11 := hw
  obtain ⟨cf_22, e_cf_22⟩ : ∃ z : Nat → va_E, z = va_up cf_21 237 (.inr (11, [.ref (bs + 238), .ref (bs + 239), .ref (bs + 240), .ref (bs + 241), .ref (bs + 242), .ref (bs + 243), .ref (bs + 244), .ref (bs + 245), .ref (bs + 246), .ref (bs + 247), .ref (bs + 248), .null, .null, .null, .null, .null, .null, .null, .null, .int 0, .int 0, .int 0, .int 0, .null, .null, .null, .null, .null, .null, .null, .null, .null, .null, .null, .null, .null, .null, .null, .null, .int 0, .null, .int 0, .int 0, .null, .null, .int 0, .int 0, .int 0, .int 0, .int 0, .int 0, .int 0, .int 0, .null, .null, .null])) := ⟨_, rfl⟩
  rw [← e_cf_22] at hw
  have hlow : ∀ i, i < 237 → cf_22 i = cf i := fun i h => by rw [e_cf_22]; exact (vu_ne (by omega)).trans (hlow i h)
  have hc_237 : cf_22 237 = .inr (11, [.ref (bs + 238), .ref (bs + 239), .ref (bs + 240), .ref (bs + 241), .ref (bs + 242), .ref (bs + 243), .ref (bs + 244), .ref (bs + 245), .ref (bs + 246), .ref (bs + 247), .ref (bs + 248), .null, .null, .null, .null, .null, .null, .null, .null, .int 0, .int 0, .int 0, .int 0, .null, .null, .null, .null, .null, .null, .null, .null, .null, .null, .null, .null, .null, .null, .null, .null, .int 0, .null, .int 0, .int 0, .null, .null, .int 0, .int 0, .int 0, .int 0, .int 0, .int 0, .int 0, .int 0, .null, .null, .null]) := by rw [e_cf_22]; exact vu_at
  have hdone : ∀ i, 237 < i → i < 249 → cf_22 i = ce (GB D bs cy tD tR) (s0 i) i := fun i h1 h2  => by rw [e_cf_22]; exact (vu_ne (by omega)).trans (hdone i h1 h2 )
  refine lv_aload_n X.1 X.2.1 d_X11_init_94 rfl (lv_at hl 0 rfl) ?_
  refine lv_bipush (v := 54) X.1 X.2.1 d_X11_init_95 (by decide) ?_
  refine k_newI (N' := 54) X hw (by decide) (by decide) (by decide) (Nat.le_of_ble_eq_true rfl) (Nat.le_of_ble_eq_true rfl) d_X11_init_97 (fun H hw => ?_)
  have hw : CW D cy bs 250 ([(cy 12, .int)] ++ [(cy 12, .int)]) _ s H _ 12 := hw
  obtain ⟨cf_23, e_cf_23⟩ : ∃ z : Nat → va_E, z = va_up cf_22 249 (.inl (cy 12, 54, .inl (fun _ => 0))) := ⟨_, rfl⟩
  rw [← e_cf_23] at hw
  have hlow : ∀ i, i < 237 → cf_23 i = cf i := fun i h => by rw [e_cf_23]; exact (vu_ne (by omega)).trans (hlow i h)
  have hc_237 : cf_23 237 = .inr (11, [.ref (bs + 238), .ref (bs + 239), .ref (bs + 240), .ref (bs + 241), .ref (bs + 242), .ref (bs + 243), .ref (bs + 244), .ref (bs + 245), .ref (bs + 246), .ref (bs + 247), .ref (bs + 248), .null, .null, .null, .null, .null, .null, .null, .null, .int 0, .int 0, .int 0, .int 0, .null, .null, .null, .null, .null, .null, .null, .null, .null, .null, .null, .null, .null, .null, .null, .null, .int 0, .null, .int 0, .int 0, .null, .null, .int 0, .int 0, .int 0, .int 0, .int 0, .int 0, .int 0, .int 0, .null, .null, .null]) := by rw [e_cf_23]; exact (vu_ne (by decide)).trans hc_237
  have hc_249 : cf_23 249 = .inl (cy 12, 54, .inl (fun _ => 0)) := by rw [e_cf_23]; exact vu_at
  have hdone : ∀ i, 237 < i → i < 250 → i ≠ 249 → cf_23 i = ce (GB D bs cy tD tR) (s0 i) i := fun i h1 h2 p_249 => by rw [e_cf_23]; exact (vu_ne (by omega)).trans (hdone i h1 (by omega) )
  have hdone : ∀ i, 237 < i → i < 250 → cf_23 i = ce (GB D bs cy tD tR) (s0 i) i := fun i h1 h2  => by
    by_cases p_249 : i = 249
    · subst p_249; exact hc_249.trans rfl
    · exact hdone i h1 h2 p_249
  have hw : CW D cy bs 250 [(cy 12, .int)] cf_23 s H _ 12 := k_tys [0] hw rfl
  refine W.eq (g2 := F0 m 99 ls [.ref (bs + 249), .ref (bs + 237)]) rfl ?_
  refine k_putF (ci := 11) (n := 56) (k := 11) (v := .ref (bs + 249)) (ty := .array (.int)) nty11 X hw (by decide) hc_237 ni11 nk11 nn11 rfl (by decide) tb_917 rfl rfl hin rfl (by decide +kernel) rfl rfl (Nat.le_of_ble_eq_true rfl) d_X11_init_99 (fun H locs hw => ?_)
  have hw : CW D cy bs 250 [(cy 12, .int)] (va_up cf_23 237 (.inr (11, [.ref (bs + 238), .ref (bs + 239), .ref (bs + 240), .ref (bs + 241), .ref (bs + 242), .ref (bs + 243), .ref (bs + 244), .ref (bs + 245), .ref (bs + 246), .ref (bs + 247), .ref (bs + 248), .ref (bs + 249), .null, .null, .null, .null, .null, .null, .null, .int 0, .int 0, .int 0, .int 0, .null, .null, .null, .null, .null, .null, .null, .null, .null, .null, .null, .null, .null, .null, .null, .null, .int 0, .null, .int 0, .int 0, .null, .null, .int 0, .int 0, .int 0, .int 0, .int 0, .int 0, .int 0, .int 0, .null, .null, .null]))) s H _ 12 := hw
  obtain ⟨cf_24, e_cf_24⟩ : ∃ z : Nat → va_E, z = va_up cf_23 237 (.inr (11, [.ref (bs + 238), .ref (bs + 239), .ref (bs + 240), .ref (bs + 241), .ref (bs + 242), .ref (bs + 243), .ref (bs + 244), .ref (bs + 245), .ref (bs + 246), .ref (bs + 247), .ref (bs + 248), .ref (bs + 249), .null, .null, .null, .null, .null, .null, .null, .int 0, .int 0, .int 0, .int 0, .null, .null, .null, .null, .null, .null, .null, .null, .null, .null, .null, .null, .null, .null, .null, .null, .int 0, .null, .int 0, .int 0, .null, .null, .int 0, .int 0, .int 0, .int 0, .int 0, .int 0, .int 0, .int 0, .null, .null, .null])) := ⟨_, rfl⟩
  rw [← e_cf_24] at hw
  have hlow : ∀ i, i < 237 → cf_24 i = cf i := fun i h => by rw [e_cf_24]; exact (vu_ne (by omega)).trans (hlow i h)
  have hc_237 : cf_24 237 = .inr (11, [.ref (bs + 238), .ref (bs + 239), .ref (bs + 240), .ref (bs + 241), .ref (bs + 242), .ref (bs + 243), .ref (bs + 244), .ref (bs + 245), .ref (bs + 246), .ref (bs + 247), .ref (bs + 248), .ref (bs + 249), .null, .null, .null, .null, .null, .null, .null, .int 0, .int 0, .int 0, .int 0, .null, .null, .null, .null, .null, .null, .null, .null, .null, .null, .null, .null, .null, .null, .null, .null, .int 0, .null, .int 0, .int 0, .null, .null, .int 0, .int 0, .int 0, .int 0, .int 0, .int 0, .int 0, .int 0, .null, .null, .null]) := by rw [e_cf_24]; exact vu_at
  have hdone : ∀ i, 237 < i → i < 250 → cf_24 i = ce (GB D bs cy tD tR) (s0 i) i := fun i h1 h2  => by rw [e_cf_24]; exact (vu_ne (by omega)).trans (hdone i h1 h2 )
  refine lv_aload_n X.1 X.2.1 d_X11_init_102 rfl (lv_at hl 0 rfl) ?_
  refine lv_bipush (v := 54) X.1 X.2.1 d_X11_init_103 (by decide) ?_
  refine k_newI (N' := 54) X hw (by decide) (by decide) (by decide) (Nat.le_of_ble_eq_true rfl) (Nat.le_of_ble_eq_true rfl) d_X11_init_105 (fun H hw => ?_)
  have hw : CW D cy bs 251 ([(cy 12, .int)] ++ [(cy 12, .int)]) _ s H _ 13 := hw
  obtain ⟨cf_25, e_cf_25⟩ : ∃ z : Nat → va_E, z = va_up cf_24 250 (.inl (cy 12, 54, .inl (fun _ => 0))) := ⟨_, rfl⟩
  rw [← e_cf_25] at hw
  have hlow : ∀ i, i < 237 → cf_25 i = cf i := fun i h => by rw [e_cf_25]; exact (vu_ne (by omega)).trans (hlow i h)
  have hc_237 : cf_25 237 = .inr (11, [.ref (bs + 238), .ref (bs + 239), .ref (bs + 240), .ref (bs + 241), .ref (bs + 242), .ref (bs + 243), .ref (bs + 244), .ref (bs + 245), .ref (bs + 246), .ref (bs + 247), .ref (bs + 248), .ref (bs + 249), .null, .null, .null, .null, .null, .null, .null, .int 0, .int 0, .int 0, .int 0, .null, .null, .null, .null, .null, .null, .null, .null, .null, .null, .null, .null, .null, .null, .null, .null, .int 0, .null, .int 0, .int 0, .null, .null, .int 0, .int 0, .int 0, .int 0, .int 0, .int 0, .int 0, .int 0, .null, .null, .null]) := by rw [e_cf_25]; exact (vu_ne (by decide)).trans hc_237
  have hc_250 : cf_25 250 = .inl (cy 12, 54, .inl (fun _ => 0)) := by rw [e_cf_25]; exact vu_at
  have hdone : ∀ i, 237 < i → i < 251 → i ≠ 250 → cf_25 i = ce (GB D bs cy tD tR) (s0 i) i := fun i h1 h2 p_250 => by rw [e_cf_25]; exact (vu_ne (by omega)).trans (hdone i h1 (by omega) )
  have hdone : ∀ i, 237 < i → i < 251 → cf_25 i = ce (GB D bs cy tD tR) (s0 i) i := fun i h1 h2  => by
    by_cases p_250 : i = 250
    · subst p_250; exact hc_250.trans rfl
    · exact hdone i h1 h2 p_250
  have hw : CW D cy bs 251 [(cy 12, .int)] cf_25 s H _ 13 := k_tys [0] hw rfl
  refine W.eq (g2 := F0 m 107 ls [.ref (bs + 250), .ref (bs + 237)]) rfl ?_
  refine k_putF (ci := 11) (n := 56) (k := 12) (v := .ref (bs + 250)) (ty := .array (.int)) nty11 X hw (by decide) hc_237 ni11 nk11 nn11 rfl (by decide) tb_918 rfl rfl hin rfl (by decide +kernel) rfl rfl (Nat.le_of_ble_eq_true rfl) d_X11_init_107 (fun H locs hw => ?_)
  have hw : CW D cy bs 251 [(cy 12, .int)] (va_up cf_25 237 (.inr (11, [.ref (bs + 238), .ref (bs + 239), .ref (bs + 240), .ref (bs + 241), .ref (bs + 242), .ref (bs + 243), .ref (bs + 244), .ref (bs + 245), .ref (bs + 246), .ref (bs + 247), .ref (bs + 248), .ref (bs + 249), .ref (bs + 250), .null, .null, .null, .null, .null, .null, .int 0, .int 0, .int 0, .int 0, .null, .null, .null, .null, .null, .null, .null, .null, .null, .null, .null, .null, .null, .null, .null, .null, .int 0, .null, .int 0, .int 0, .null, .null, .int 0, .int 0, .int 0, .int 0, .int 0, .int 0, .int 0, .int 0, .null, .null, .null]))) s H _ 13 := hw
  obtain ⟨cf_26, e_cf_26⟩ : ∃ z : Nat → va_E, z = va_up cf_25 237 (.inr (11, [.ref (bs + 238), .ref (bs + 239), .ref (bs + 240), .ref (bs + 241), .ref (bs + 242), .ref (bs + 243), .ref (bs + 244), .ref (bs + 245), .ref (bs + 246), .ref (bs + 247), .ref (bs + 248), .ref (bs + 249), .ref (bs + 250), .null, .null, .null, .null, .null, .null, .int 0, .int 0, .int 0, .int 0, .null, .null, .null, .null, .null, .null, .null, .null, .null, .null, .null, .null, .null, .null, .null, .null, .int 0, .null, .int 0, .int 0, .null, .null, .int 0, .int 0, .int 0, .int 0, .int 0, .int 0, .int 0, .int 0, .null, .null, .null])) := ⟨_, rfl⟩
  rw [← e_cf_26] at hw
  have hlow : ∀ i, i < 237 → cf_26 i = cf i := fun i h => by rw [e_cf_26]; exact (vu_ne (by omega)).trans (hlow i h)
  have hc_237 : cf_26 237 = .inr (11, [.ref (bs + 238), .ref (bs + 239), .ref (bs + 240), .ref (bs + 241), .ref (bs + 242), .ref (bs + 243), .ref (bs + 244), .ref (bs + 245), .ref (bs + 246), .ref (bs + 247), .ref (bs + 248), .ref (bs + 249), .ref (bs + 250), .null, .null, .null, .null, .null, .null, .int 0, .int 0, .int 0, .int 0, .null, .null, .null, .null, .null, .null, .null, .null, .null, .null, .null, .null, .null, .null, .null, .null, .int 0, .null, .int 0, .int 0, .null, .null, .int 0, .int 0, .int 0, .int 0, .int 0, .int 0, .int 0, .int 0, .null, .null, .null]) := by rw [e_cf_26]; exact vu_at
  have hdone : ∀ i, 237 < i → i < 251 → cf_26 i = ce (GB D bs cy tD tR) (s0 i) i := fun i h1 h2  => by rw [e_cf_26]; exact (vu_ne (by omega)).trans (hdone i h1 h2 )
  refine lv_aload_n X.1 X.2.1 d_X11_init_110 rfl (lv_at hl 0 rfl) ?_
  refine lv_bipush (v := 54) X.1 X.2.1 d_X11_init_111 (by decide) ?_
  refine k_newI (N' := 54) X hw (by decide) (by decide) (by decide) (Nat.le_of_ble_eq_true rfl) (Nat.le_of_ble_eq_true rfl) d_X11_init_113 (fun H hw => ?_)
  have hw : CW D cy bs 252 ([(cy 12, .int)] ++ [(cy 12, .int)]) _ s H _ 14 := hw
  obtain ⟨cf_27, e_cf_27⟩ : ∃ z : Nat → va_E, z = va_up cf_26 251 (.inl (cy 12, 54, .inl (fun _ => 0))) := ⟨_, rfl⟩
  rw [← e_cf_27] at hw
  have hlow : ∀ i, i < 237 → cf_27 i = cf i := fun i h => by rw [e_cf_27]; exact (vu_ne (by omega)).trans (hlow i h)
  have hc_237 : cf_27 237 = .inr (11, [.ref (bs + 238), .ref (bs + 239), .ref (bs + 240), .ref (bs + 241), .ref (bs + 242), .ref (bs + 243), .ref (bs + 244), .ref (bs + 245), .ref (bs + 246), .ref (bs + 247), .ref (bs + 248), .ref (bs + 249), .ref (bs + 250), .null, .null, .null, .null, .null, .null, .int 0, .int 0, .int 0, .int 0, .null, .null, .null, .null, .null, .null, .null, .null, .null, .null, .null, .null, .null, .null, .null, .null, .int 0, .null, .int 0, .int 0, .null, .null, .int 0, .int 0, .int 0, .int 0, .int 0, .int 0, .int 0, .int 0, .null, .null, .null]) := by rw [e_cf_27]; exact (vu_ne (by decide)).trans hc_237
  have hc_251 : cf_27 251 = .inl (cy 12, 54, .inl (fun _ => 0)) := by rw [e_cf_27]; exact vu_at
  have hdone : ∀ i, 237 < i → i < 252 → i ≠ 251 → cf_27 i = ce (GB D bs cy tD tR) (s0 i) i := fun i h1 h2 p_251 => by rw [e_cf_27]; exact (vu_ne (by omega)).trans (hdone i h1 (by omega) )
  have hdone : ∀ i, 237 < i → i < 252 → cf_27 i = ce (GB D bs cy tD tR) (s0 i) i := fun i h1 h2  => by
    by_cases p_251 : i = 251
    · subst p_251; exact hc_251.trans rfl
    · exact hdone i h1 h2 p_251
  have hw : CW D cy bs 252 [(cy 12, .int)] cf_27 s H _ 14 := k_tys [0] hw rfl
  refine W.eq (g2 := F0 m 115 ls [.ref (bs + 251), .ref (bs + 237)]) rfl ?_
  refine k_putF (ci := 11) (n := 56) (k := 13) (v := .ref (bs + 251)) (ty := .array (.int)) nty11 X hw (by decide) hc_237 ni11 nk11 nn11 rfl (by decide) tb_919 rfl rfl hin rfl (by decide +kernel) rfl rfl (Nat.le_of_ble_eq_true rfl) d_X11_init_115 (fun H locs hw => ?_)
  have hw : CW D cy bs 252 [(cy 12, .int)] (va_up cf_27 237 (.inr (11, [.ref (bs + 238), .ref (bs + 239), .ref (bs + 240), .ref (bs + 241), .ref (bs + 242), .ref (bs + 243), .ref (bs + 244), .ref (bs + 245), .ref (bs + 246), .ref (bs + 247), .ref (bs + 248), .ref (bs + 249), .ref (bs + 250), .ref (bs + 251), .null, .null, .null, .null, .null, .int 0, .int 0, .int 0, .int 0, .null, .null, .null, .null, .null, .null, .null, .null, .null, .null, .null, .null, .null, .null, .null, .null, .int 0, .null, .int 0, .int 0, .null, .null, .int 0, .int 0, .int 0, .int 0, .int 0, .int 0, .int 0, .int 0, .null, .null, .null]))) s H _ 14 := hw
  obtain ⟨cf_28, e_cf_28⟩ : ∃ z : Nat → va_E, z = va_up cf_27 237 (.inr (11, [.ref (bs + 238), .ref (bs + 239), .ref (bs + 240), .ref (bs + 241), .ref (bs + 242), .ref (bs + 243), .ref (bs + 244), .ref (bs + 245), .ref (bs + 246), .ref (bs + 247), .ref (bs + 248), .ref (bs + 249), .ref (bs + 250), .ref (bs + 251), .null, .null, .null, .null, .null, .int 0, .int 0, .int 0, .int 0, .null, .null, .null, .null, .null, .null, .null, .null, .null, .null, .null, .null, .null, .null, .null, .null, .int 0, .null, .int 0, .int 0, .null, .null, .int 0, .int 0, .int 0, .int 0, .int 0, .int 0, .int 0, .int 0, .null, .null, .null])) := ⟨_, rfl⟩
  rw [← e_cf_28] at hw
  have hlow : ∀ i, i < 237 → cf_28 i = cf i := fun i h => by rw [e_cf_28]; exact (vu_ne (by omega)).trans (hlow i h)
  have hc_237 : cf_28 237 = .inr (11, [.ref (bs + 238), .ref (bs + 239), .ref (bs + 240), .ref (bs + 241), .ref (bs + 242), .ref (bs + 243), .ref (bs + 244), .ref (bs + 245), .ref (bs + 246), .ref (bs + 247), .ref (bs + 248), .ref (bs + 249), .ref (bs + 250), .ref (bs + 251), .null, .null, .null, .null, .null, .int 0, .int 0, .int 0, .int 0, .null, .null, .null, .null, .null, .null, .null, .null, .null, .null, .null, .null, .null, .null, .null, .null, .int 0, .null, .int 0, .int 0, .null, .null, .int 0, .int 0, .int 0, .int 0, .int 0, .int 0, .int 0, .int 0, .null, .null, .null]) := by rw [e_cf_28]; exact vu_at
  have hdone : ∀ i, 237 < i → i < 252 → cf_28 i = ce (GB D bs cy tD tR) (s0 i) i := fun i h1 h2  => by rw [e_cf_28]; exact (vu_ne (by omega)).trans (hdone i h1 h2 )
  refine lv_aload_n X.1 X.2.1 d_X11_init_118 rfl (lv_at hl 0 rfl) ?_
  refine lv_bipush (v := 54) X.1 X.2.1 d_X11_init_119 (by decide) ?_
  refine k_newI (N' := 54) X hw (by decide) (by decide) (by decide) (Nat.le_of_ble_eq_true rfl) (Nat.le_of_ble_eq_true rfl) d_X11_init_121 (fun H hw => ?_)
  have hw : CW D cy bs 253 ([(cy 12, .int)] ++ [(cy 12, .int)]) _ s H _ 15 := hw
  obtain ⟨cf_29, e_cf_29⟩ : ∃ z : Nat → va_E, z = va_up cf_28 252 (.inl (cy 12, 54, .inl (fun _ => 0))) := ⟨_, rfl⟩
  rw [← e_cf_29] at hw
  have hlow : ∀ i, i < 237 → cf_29 i = cf i := fun i h => by rw [e_cf_29]; exact (vu_ne (by omega)).trans (hlow i h)
  have hc_237 : cf_29 237 = .inr (11, [.ref (bs + 238), .ref (bs + 239), .ref (bs + 240), .ref (bs + 241), .ref (bs + 242), .ref (bs + 243), .ref (bs + 244), .ref (bs + 245), .ref (bs + 246), .ref (bs + 247), .ref (bs + 248), .ref (bs + 249), .ref (bs + 250), .ref (bs + 251), .null, .null, .null, .null, .null, .int 0, .int 0, .int 0, .int 0, .null, .null, .null, .null, .null, .null, .null, .null, .null, .null, .null, .null, .null, .null, .null, .null, .int 0, .null, .int 0, .int 0, .null, .null, .int 0, .int 0, .int 0, .int 0, .int 0, .int 0, .int 0, .int 0, .null, .null, .null]) := by rw [e_cf_29]; exact (vu_ne (by decide)).trans hc_237
  have hc_252 : cf_29 252 = .inl (cy 12, 54, .inl (fun _ => 0)) := by rw [e_cf_29]; exact vu_at
  have hdone : ∀ i, 237 < i → i < 253 → i ≠ 252 → cf_29 i = ce (GB D bs cy tD tR) (s0 i) i := fun i h1 h2 p_252 => by rw [e_cf_29]; exact (vu_ne (by omega)).trans (hdone i h1 (by omega) )
  have hdone : ∀ i, 237 < i → i < 253 → cf_29 i = ce (GB D bs cy tD tR) (s0 i) i := fun i h1 h2  => by
    by_cases p_252 : i = 252
    · subst p_252; exact hc_252.trans rfl
    · exact hdone i h1 h2 p_252
  have hw : CW D cy bs 253 [(cy 12, .int)] cf_29 s H _ 15 := k_tys [0] hw rfl
  refine W.eq (g2 := F0 m 123 ls [.ref (bs + 252), .ref (bs + 237)]) rfl ?_
  refine k_putF (ci := 11) (n := 56) (k := 14) (v := .ref (bs + 252)) (ty := .array (.int)) nty11 X hw (by decide) hc_237 ni11 nk11 nn11 rfl (by decide) tb_920 rfl rfl hin rfl (by decide +kernel) rfl rfl (Nat.le_of_ble_eq_true rfl) d_X11_init_123 (fun H locs hw => ?_)
  have hw : CW D cy bs 253 [(cy 12, .int)] (va_up cf_29 237 (.inr (11, [.ref (bs + 238), .ref (bs + 239), .ref (bs + 240), .ref (bs + 241), .ref (bs + 242), .ref (bs + 243), .ref (bs + 244), .ref (bs + 245), .ref (bs + 246), .ref (bs + 247), .ref (bs + 248), .ref (bs + 249), .ref (bs + 250), .ref (bs + 251), .ref (bs + 252), .null, .null, .null, .null, .int 0, .int 0, .int 0, .int 0, .null, .null, .null, .null, .null, .null, .null, .null, .null, .null, .null, .null, .null, .null, .null, .null, .int 0, .null, .int 0, .int 0, .null, .null, .int 0, .int 0, .int 0, .int 0, .int 0, .int 0, .int 0, .int 0, .null, .null, .null]))) s H _ 15 := hw
  obtain ⟨cf_30, e_cf_30⟩ : ∃ z : Nat → va_E, z = va_up cf_29 237 (.inr (11, [.ref (bs + 238), .ref (bs + 239), .ref (bs + 240), .ref (bs + 241), .ref (bs + 242), .ref (bs + 243), .ref (bs + 244), .ref (bs + 245), .ref (bs + 246), .ref (bs + 247), .ref (bs + 248), .ref (bs + 249), .ref (bs + 250), .ref (bs + 251), .ref (bs + 252), .null, .null, .null, .null, .int 0, .int 0, .int 0, .int 0, .null, .null, .null, .null, .null, .null, .null, .null, .null, .null, .null, .null, .null, .null, .null, .null, .int 0, .null, .int 0, .int 0, .null, .null, .int 0, .int 0, .int 0, .int 0, .int 0, .int 0, .int 0, .int 0, .null, .null, .null])) := ⟨_, rfl⟩
  rw [← e_cf_30] at hw
  have hlow : ∀ i, i < 237 → cf_30 i = cf i := fun i h => by rw [e_cf_30]; exact (vu_ne (by omega)).trans (hlow i h)
  have hc_237 : cf_30 237 = .inr (11, [.ref (bs + 238), .ref (bs + 239), .ref (bs + 240), .ref (bs + 241), .ref (bs + 242), .ref (bs + 243), .ref (bs + 244), .ref (bs + 245), .ref (bs + 246), .ref (bs + 247), .ref (bs + 248), .ref (bs + 249), .ref (bs + 250), .ref (bs + 251), .ref (bs + 252), .null, .null, .null, .null, .int 0, .int 0, .int 0, .int 0, .null, .null, .null, .null, .null, .null, .null, .null, .null, .null, .null, .null, .null, .null, .null, .null, .int 0, .null, .int 0, .int 0, .null, .null, .int 0, .int 0, .int 0, .int 0, .int 0, .int 0, .int 0, .int 0, .null, .null, .null]) := by rw [e_cf_30]; exact vu_at
  have hdone : ∀ i, 237 < i → i < 253 → cf_30 i = ce (GB D bs cy tD tR) (s0 i) i := fun i h1 h2  => by rw [e_cf_30]; exact (vu_ne (by omega)).trans (hdone i h1 h2 )
  refine lv_aload_n X.1 X.2.1 d_X11_init_126 rfl (lv_at hl 0 rfl) ?_
  refine lv_bipush (v := 9) X.1 X.2.1 d_X11_init_127 (by decide) ?_
  refine k_newI (N' := 9) X hw (by decide) (by decide) (by decide) (Nat.le_of_ble_eq_true rfl) (Nat.le_of_ble_eq_true rfl) d_X11_init_129 (fun H hw => ?_)
  have hw : CW D cy bs 254 ([(cy 12, .int)] ++ [(cy 12, .int)]) _ s H _ 16 := hw
  obtain ⟨cf_31, e_cf_31⟩ : ∃ z : Nat → va_E, z = va_up cf_30 253 (.inl (cy 12, 9, .inl (fun _ => 0))) := ⟨_, rfl⟩
  rw [← e_cf_31] at hw
  have hlow : ∀ i, i < 237 → cf_31 i = cf i := fun i h => by rw [e_cf_31]; exact (vu_ne (by omega)).trans (hlow i h)
  have hc_237 : cf_31 237 = .inr (11, [.ref (bs + 238), .ref (bs + 239), .ref (bs + 240), .ref (bs + 241), .ref (bs + 242), .ref (bs + 243), .ref (bs + 244), .ref (bs + 245), .ref (bs + 246), .ref (bs + 247), .ref (bs + 248), .ref (bs + 249), .ref (bs + 250), .ref (bs + 251), .ref (bs + 252), .null, .null, .null, .null, .int 0, .int 0, .int 0, .int 0, .null, .null, .null, .null, .null, .null, .null, .null, .null, .null, .null, .null, .null, .null, .null, .null, .int 0, .null, .int 0, .int 0, .null, .null, .int 0, .int 0, .int 0, .int 0, .int 0, .int 0, .int 0, .int 0, .null, .null, .null]) := by rw [e_cf_31]; exact (vu_ne (by decide)).trans hc_237
  have hc_253 : cf_31 253 = .inl (cy 12, 9, .inl (fun _ => 0)) := by rw [e_cf_31]; exact vu_at
  have hdone : ∀ i, 237 < i → i < 254 → i ≠ 253 → cf_31 i = ce (GB D bs cy tD tR) (s0 i) i := fun i h1 h2 p_253 => by rw [e_cf_31]; exact (vu_ne (by omega)).trans (hdone i h1 (by omega) )
  have hdone : ∀ i, 237 < i → i < 254 → cf_31 i = ce (GB D bs cy tD tR) (s0 i) i := fun i h1 h2  => by
    by_cases p_253 : i = 253
    · subst p_253; exact hc_253.trans rfl
    · exact hdone i h1 h2 p_253
  have hw : CW D cy bs 254 [(cy 12, .int)] cf_31 s H _ 16 := k_tys [0] hw rfl
  refine W.eq (g2 := F0 m 131 ls [.ref (bs + 253), .ref (bs + 237)]) rfl ?_
  refine k_putF (ci := 11) (n := 56) (k := 15) (v := .ref (bs + 253)) (ty := .array (.int)) nty11 X hw (by decide) hc_237 ni11 nk11 nn11 rfl (by decide) tb_921 rfl rfl hin rfl (by decide +kernel) rfl rfl (Nat.le_of_ble_eq_true rfl) d_X11_init_131 (fun H locs hw => ?_)
  have hw : CW D cy bs 254 [(cy 12, .int)] (va_up cf_31 237 (.inr (11, [.ref (bs + 238), .ref (bs + 239), .ref (bs + 240), .ref (bs + 241), .ref (bs + 242), .ref (bs + 243), .ref (bs + 244), .ref (bs + 245), .ref (bs + 246), .ref (bs + 247), .ref (bs + 248), .ref (bs + 249), .ref (bs + 250), .ref (bs + 251), .ref (bs + 252), .ref (bs + 253), .null, .null, .null, .int 0, .int 0, .int 0, .int 0, .null, .null, .null, .null, .null, .null, .null, .null, .null, .null, .null, .null, .null, .null, .null, .null, .int 0, .null, .int 0, .int 0, .null, .null, .int 0, .int 0, .int 0, .int 0, .int 0, .int 0, .int 0, .int 0, .null, .null, .null]))) s H _ 16 := hw
  obtain ⟨cf_32, e_cf_32⟩ : ∃ z : Nat → va_E, z = va_up cf_31 237 (.inr (11, [.ref (bs + 238), .ref (bs + 239), .ref (bs + 240), .ref (bs + 241), .ref (bs + 242), .ref (bs + 243), .ref (bs + 244), .ref (bs + 245), .ref (bs + 246), .ref (bs + 247), .ref (bs + 248), .ref (bs + 249), .ref (bs + 250), .ref (bs + 251), .ref (bs + 252), .ref (bs + 253), .null, .null, .null, .int 0, .int 0, .int 0, .int 0, .null, .null, .null, .null, .null, .null, .null, .null, .null, .null, .null, .null, .null, .null, .null, .null, .int 0, .null, .int 0, .int 0, .null, .null, .int 0, .int 0, .int 0, .int 0, .int 0, .int 0, .int 0, .int 0, .null, .null, .null])) := ⟨_, rfl⟩
  rw [← e_cf_32] at hw
  have hlow : ∀ i, i < 237 → cf_32 i = cf i := fun i h => by rw [e_cf_32]; exact (vu_ne (by omega)).trans (hlow i h)
  have hc_237 : cf_32 237 = .inr (11, [.ref (bs + 238), .ref (bs + 239), .ref (bs + 240), .ref (bs + 241), .ref (bs + 242), .ref (bs + 243), .ref (bs + 244), .ref (bs + 245), .ref (bs + 246), .ref (bs + 247), .ref (bs + 248), .ref (bs + 249), .ref (bs + 250), .ref (bs + 251), .ref (bs + 252), .ref (bs + 253), .null, .null, .null, .int 0, .int 0, .int 0, .int 0, .null, .null, .null, .null, .null, .null, .null, .null, .null, .null, .null, .null, .null, .null, .null, .null, .int 0, .null, .int 0, .int 0, .null, .null, .int 0, .int 0, .int 0, .int 0, .int 0, .int 0, .int 0, .int 0, .null, .null, .null]) := by rw [e_cf_32]; exact vu_at
  have hdone : ∀ i, 237 < i → i < 254 → cf_32 i = ce (GB D bs cy tD tR) (s0 i) i := fun i h1 h2  => by rw [e_cf_32]; exact (vu_ne (by omega)).trans (hdone i h1 h2 )
  refine lv_aload_n X.1 X.2.1 d_X11_init_134 rfl (lv_at hl 0 rfl) ?_
  refine lv_bipush (v := 9) X.1 X.2.1 d_X11_init_135 (by decide) ?_
  refine k_newI (N' := 9) X hw (by decide) (by decide) (by decide) (Nat.le_of_ble_eq_true rfl) (Nat.le_of_ble_eq_true rfl) d_X11_init_137 (fun H hw => ?_)
  have hw : CW D cy bs 255 ([(cy 12, .int)] ++ [(cy 12, .int)]) _ s H _ 17 := hw
  obtain ⟨cf_33, e_cf_33⟩ : ∃ z : Nat → va_E, z = va_up cf_32 254 (.inl (cy 12, 9, .inl (fun _ => 0))) := ⟨_, rfl⟩
  rw [← e_cf_33] at hw
  have hlow : ∀ i, i < 237 → cf_33 i = cf i := fun i h => by rw [e_cf_33]; exact (vu_ne (by omega)).trans (hlow i h)
  have hc_237 : cf_33 237 = .inr (11, [.ref (bs + 238), .ref (bs + 239), .ref (bs + 240), .ref (bs + 241), .ref (bs + 242), .ref (bs + 243), .ref (bs + 244), .ref (bs + 245), .ref (bs + 246), .ref (bs + 247), .ref (bs + 248), .ref (bs + 249), .ref (bs + 250), .ref (bs + 251), .ref (bs + 252), .ref (bs + 253), .null, .null, .null, .int 0, .int 0, .int 0, .int 0, .null, .null, .null, .null, .null, .null, .null, .null, .null, .null, .null, .null, .null, .null, .null, .null, .int 0, .null, .int 0, .int 0, .null, .null, .int 0, .int 0, .int 0, .int 0, .int 0, .int 0, .int 0, .int 0, .null, .null, .null]) := by rw [e_cf_33]; exact (vu_ne (by decide)).trans hc_237
  have hc_254 : cf_33 254 = .inl (cy 12, 9, .inl (fun _ => 0)) := by rw [e_cf_33]; exact vu_at
  have hdone : ∀ i, 237 < i → i < 255 → i ≠ 254 → cf_33 i = ce (GB D bs cy tD tR) (s0 i) i := fun i h1 h2 p_254 => by rw [e_cf_33]; exact (vu_ne (by omega)).trans (hdone i h1 (by omega) )
  have hdone : ∀ i, 237 < i → i < 255 → cf_33 i = ce (GB D bs cy tD tR) (s0 i) i := fun i h1 h2  => by
    by_cases p_254 : i = 254
    · subst p_254; exact hc_254.trans rfl
    · exact hdone i h1 h2 p_254
  have hw : CW D cy bs 255 [(cy 12, .int)] cf_33 s H _ 17 := k_tys [0] hw rfl
  refine W.eq (g2 := F0 m 139 ls [.ref (bs + 254), .ref (bs + 237)]) rfl ?_
  refine k_putF (ci := 11) (n := 56) (k := 16) (v := .ref (bs + 254)) (ty := .array (.int)) nty11 X hw (by decide) hc_237 ni11 nk11 nn11 rfl (by decide) tb_922 rfl rfl hin rfl (by decide +kernel) rfl rfl (Nat.le_of_ble_eq_true rfl) d_X11_init_139 (fun H locs hw => ?_)
  have hw : CW D cy bs 255 [(cy 12, .int)] (va_up cf_33 237 (.inr (11, [.ref (bs + 238), .ref (bs + 239), .ref (bs + 240), .ref (bs + 241), .ref (bs + 242), .ref (bs + 243), .ref (bs + 244), .ref (bs + 245), .ref (bs + 246), .ref (bs + 247), .ref (bs + 248), .ref (bs + 249), .ref (bs + 250), .ref (bs + 251), .ref (bs + 252), .ref (bs + 253), .ref (bs + 254), .null, .null, .int 0, .int 0, .int 0, .int 0, .null, .null, .null, .null, .null, .null, .null, .null, .null, .null, .null, .null, .null, .null, .null, .null, .int 0, .null, .int 0, .int 0, .null, .null, .int 0, .int 0, .int 0, .int 0, .int 0, .int 0, .int 0, .int 0, .null, .null, .null]))) s H _ 17 := hw
  obtain ⟨cf_34, e_cf_34⟩ : ∃ z : Nat → va_E, z = va_up cf_33 237 (.inr (11, [.ref (bs + 238), .ref (bs + 239), .ref (bs + 240), .ref (bs + 241), .ref (bs + 242), .ref (bs + 243), .ref (bs + 244), .ref (bs + 245), .ref (bs + 246), .ref (bs + 247), .ref (bs + 248), .ref (bs + 249), .ref (bs + 250), .ref (bs + 251), .ref (bs + 252), .ref (bs + 253), .ref (bs + 254), .null, .null, .int 0, .int 0, .int 0, .int 0, .null, .null, .null, .null, .null, .null, .null, .null, .null, .null, .null, .null, .null, .null, .null, .null, .int 0, .null, .int 0, .int 0, .null, .null, .int 0, .int 0, .int 0, .int 0, .int 0, .int 0, .int 0, .int 0, .null, .null, .null])) := ⟨_, rfl⟩
  rw [← e_cf_34] at hw
  have hlow : ∀ i, i < 237 → cf_34 i = cf i := fun i h => by rw [e_cf_34]; exact (vu_ne (by omega)).trans (hlow i h)
  have hc_237 : cf_34 237 = .inr (11, [.ref (bs + 238), .ref (bs + 239), .ref (bs + 240), .ref (bs + 241), .ref (bs + 242), .ref (bs + 243), .ref (bs + 244), .ref (bs + 245), .ref (bs + 246), .ref (bs + 247), .ref (bs + 248), .ref (bs + 249), .ref (bs + 250), .ref (bs + 251), .ref (bs + 252), .ref (bs + 253), .ref (bs + 254), .null, .null, .int 0, .int 0, .int 0, .int 0, .null, .null, .null, .null, .null, .null, .null, .null, .null, .null, .null, .null, .null, .null, .null, .null, .int 0, .null, .int 0, .int 0, .null, .null, .int 0, .int 0, .int 0, .int 0, .int 0, .int 0, .int 0, .int 0, .null, .null, .null]) := by rw [e_cf_34]; exact vu_at
  have hdone : ∀ i, 237 < i → i < 255 → cf_34 i = ce (GB D bs cy tD tR) (s0 i) i := fun i h1 h2  => by rw [e_cf_34]; exact (vu_ne (by omega)).trans (hdone i h1 h2 )
  refine lv_aload_n X.1 X.2.1 d_X11_init_142 rfl (lv_at hl 0 rfl) ?_
  refine lv_bipush (v := 9) X.1 X.2.1 d_X11_init_143 (by decide) ?_
  refine k_newI (N' := 9) X hw (by decide) (by decide) (by decide) (Nat.le_of_ble_eq_true rfl) (Nat.le_of_ble_eq_true rfl) d_X11_init_145 (fun H hw => ?_)
  have hw : CW D cy bs 256 ([(cy 12, .int)] ++ [(cy 12, .int)]) _ s H _ 18 := hw
  obtain ⟨cf_35, e_cf_35⟩ : ∃ z : Nat → va_E, z = va_up cf_34 255 (.inl (cy 12, 9, .inl (fun _ => 0))) := ⟨_, rfl⟩
  rw [← e_cf_35] at hw
  have hlow : ∀ i, i < 237 → cf_35 i = cf i := fun i h => by rw [e_cf_35]; exact (vu_ne (by omega)).trans (hlow i h)
  have hc_237 : cf_35 237 = .inr (11, [.ref (bs + 238), .ref (bs + 239), .ref (bs + 240), .ref (bs + 241), .ref (bs + 242), .ref (bs + 243), .ref (bs + 244), .ref (bs + 245), .ref (bs + 246), .ref (bs + 247), .ref (bs + 248), .ref (bs + 249), .ref (bs + 250), .ref (bs + 251), .ref (bs + 252), .ref (bs + 253), .ref (bs + 254), .null, .null, .int 0, .int 0, .int 0, .int 0, .null, .null, .null, .null, .null, .null, .null, .null, .null, .null, .null, .null, .null, .null, .null, .null, .int 0, .null, .int 0, .int 0, .null, .null, .int 0, .int 0, .int 0, .int 0, .int 0, .int 0, .int 0, .int 0, .null, .null, .null]) := by rw [e_cf_35]; exact (vu_ne (by decide)).trans hc_237
  have hc_255 : cf_35 255 = .inl (cy 12, 9, .inl (fun _ => 0)) := by rw [e_cf_35]; exact vu_at
  have hdone : ∀ i, 237 < i → i < 256 → i ≠ 255 → cf_35 i = ce (GB D bs cy tD tR) (s0 i) i := fun i h1 h2 p_255 => by rw [e_cf_35]; exact (vu_ne (by omega)).trans (hdone i h1 (by omega) )
  have hdone : ∀ i, 237 < i → i < 256 → cf_35 i = ce (GB D bs cy tD tR) (s0 i) i := fun i h1 h2  => by
    by_cases p_255 : i = 255
    · subst p_255; exact hc_255.trans rfl
    · exact hdone i h1 h2 p_255
  have hw : CW D cy bs 256 [(cy 12, .int)] cf_35 s H _ 18 := k_tys [0] hw rfl
  refine W.eq (g2 := F0 m 147 ls [.ref (bs + 255), .ref (bs + 237)]) rfl ?_
  refine k_putF (ci := 11) (n := 56) (k := 17) (v := .ref (bs + 255)) (ty := .array (.int)) nty11 X hw (by decide) hc_237 ni11 nk11 nn11 rfl (by decide) tb_923 rfl rfl hin rfl (by decide +kernel) rfl rfl (Nat.le_of_ble_eq_true rfl) d_X11_init_147 (fun H locs hw => ?_)
  have hw : CW D cy bs 256 [(cy 12, .int)] (va_up cf_35 237 (.inr (11, [.ref (bs + 238), .ref (bs + 239), .ref (bs + 240), .ref (bs + 241), .ref (bs + 242), .ref (bs + 243), .ref (bs + 244), .ref (bs + 245), .ref (bs + 246), .ref (bs + 247), .ref (bs + 248), .ref (bs + 249), .ref (bs + 250), .ref (bs + 251), .ref (bs + 252), .ref (bs + 253), .ref (bs + 254), .ref (bs + 255), .null, .int 0, .int 0, .int 0, .int 0, .null, .null, .null, .null, .null, .null, .null, .null, .null, .null, .null, .null, .null, .null, .null, .null, .int 0, .null, .int 0, .int 0, .null, .null, .int 0, .int 0, .int 0, .int 0, .int 0, .int 0, .int 0, .int 0, .null, .null, .null]))) s H _ 18 := hw
  obtain ⟨cf_36, e_cf_36⟩ : ∃ z : Nat → va_E, z = va_up cf_35 237 (.inr (11, [.ref (bs + 238), .ref (bs + 239), .ref (bs + 240), .ref (bs + 241), .ref (bs + 242), .ref (bs + 243), .ref (bs + 244), .ref (bs + 245), .ref (bs + 246), .ref (bs + 247), .ref (bs + 248), .ref (bs + 249), .ref (bs + 250), .ref (bs + 251), .ref (bs + 252), .ref (bs + 253), .ref (bs + 254), .ref (bs + 255), .null, .int 0, .int 0, .int 0, .int 0, .null, .null, .null, .null, .null, .null, .null, .null, .null, .null, .null, .null, .null, .null, .null, .null, .int 0, .null, .int 0, .int 0, .null, .null, .int 0, .int 0, .int 0, .int 0, .int 0, .int 0, .int 0, .int 0, .null, .null, .null])) := ⟨_, rfl⟩
  rw [← e_cf_36] at hw
  have hlow : ∀ i, i < 237 → cf_36 i = cf i := fun i h => by rw [e_cf_36]; exact (vu_ne (by omega)).trans (hlow i h)
  have hc_237 : cf_36 237 = .inr (11, [.ref (bs + 238), .ref (bs + 239), .ref (bs + 240), .ref (bs + 241), .ref (bs + 242), .ref (bs + 243), .ref (bs + 244), .ref (bs + 245), .ref (bs + 246), .ref (bs + 247), .ref (bs + 248), .ref (bs + 249), .ref (bs + 250), .ref (bs + 251), .ref (bs + 252), .ref (bs + 253), .ref (bs + 254), .ref (bs + 255), .null, .int 0, .int 0, .int 0, .int 0, .null, .null, .null, .null, .null, .null, .null, .null, .null, .null, .null, .null, .null, .null, .null, .null, .int 0, .null, .int 0, .int 0, .null, .null, .int 0, .int 0, .int 0, .int 0, .int 0, .int 0, .int 0, .int 0, .null, .null, .null]) := by rw [e_cf_36]; exact vu_at
  have hdone : ∀ i, 237 < i → i < 256 → cf_36 i = ce (GB D bs cy tD tR) (s0 i) i := fun i h1 h2  => by rw [e_cf_36]; exact (vu_ne (by omega)).trans (hdone i h1 h2 )
  refine lv_aload_n X.1 X.2.1 d_X11_init_150 rfl (lv_at hl 0 rfl) ?_
  refine lv_bipush (v := 54) X.1 X.2.1 d_X11_init_151 (by decide) ?_
  refine k_newZ (N' := 54) X hw (by decide) (by decide) (by decide) (Nat.le_of_ble_eq_true rfl) (Nat.le_of_ble_eq_true rfl) d_X11_init_153 (fun H hw => ?_)
  have hw : CW D cy bs 257 ([(cy 12, .int)] ++ [(cy 13, .boolean)]) _ s H _ 19 := hw
  obtain ⟨cf_37, e_cf_37⟩ : ∃ z : Nat → va_E, z = va_up cf_36 256 (.inl (cy 13, 54, .inl (fun _ => 0))) := ⟨_, rfl⟩
  rw [← e_cf_37] at hw
  have hlow : ∀ i, i < 237 → cf_37 i = cf i := fun i h => by rw [e_cf_37]; exact (vu_ne (by omega)).trans (hlow i h)
  have hc_237 : cf_37 237 = .inr (11, [.ref (bs + 238), .ref (bs + 239), .ref (bs + 240), .ref (bs + 241), .ref (bs + 242), .ref (bs + 243), .ref (bs + 244), .ref (bs + 245), .ref (bs + 246), .ref (bs + 247), .ref (bs + 248), .ref (bs + 249), .ref (bs + 250), .ref (bs + 251), .ref (bs + 252), .ref (bs + 253), .ref (bs + 254), .ref (bs + 255), .null, .int 0, .int 0, .int 0, .int 0, .null, .null, .null, .null, .null, .null, .null, .null, .null, .null, .null, .null, .null, .null, .null, .null, .int 0, .null, .int 0, .int 0, .null, .null, .int 0, .int 0, .int 0, .int 0, .int 0, .int 0, .int 0, .int 0, .null, .null, .null]) := by rw [e_cf_37]; exact (vu_ne (by decide)).trans hc_237
  have hc_256 : cf_37 256 = .inl (cy 13, 54, .inl (fun _ => 0)) := by rw [e_cf_37]; exact vu_at
  have hdone : ∀ i, 237 < i → i < 257 → i ≠ 256 → cf_37 i = ce (GB D bs cy tD tR) (s0 i) i := fun i h1 h2 p_256 => by rw [e_cf_37]; exact (vu_ne (by omega)).trans (hdone i h1 (by omega) )
  have hdone : ∀ i, 237 < i → i < 257 → cf_37 i = ce (GB D bs cy tD tR) (s0 i) i := fun i h1 h2  => by
    by_cases p_256 : i = 256
    · subst p_256; exact hc_256.trans rfl
    · exact hdone i h1 h2 p_256
  have hw : CW D cy bs 257 [(cy 12, .int), (cy 13, .boolean)] cf_37 s H _ 19 := k_tys [0, 1] hw rfl
  refine W.eq (g2 := F0 m 155 ls [.ref (bs + 256), .ref (bs + 237)]) rfl ?_
  refine k_putF (ci := 11) (n := 56) (k := 18) (v := .ref (bs + 256)) (ty := .array (.boolean)) nty11 X hw (by decide) hc_237 ni11 nk11 nn11 rfl (by decide) tb_924 rfl rfl hin rfl (by decide +kernel) rfl rfl (Nat.le_of_ble_eq_true rfl) d_X11_init_155 (fun H locs hw => ?_)
  have hw : CW D cy bs 257 [(cy 12, .int), (cy 13, .boolean)] (va_up cf_37 237 (.inr (11, [.ref (bs + 238), .ref (bs + 239), .ref (bs + 240), .ref (bs + 241), .ref (bs + 242), .ref (bs + 243), .ref (bs + 244), .ref (bs + 245), .ref (bs + 246), .ref (bs + 247), .ref (bs + 248), .ref (bs + 249), .ref (bs + 250), .ref (bs + 251), .ref (bs + 252), .ref (bs + 253), .ref (bs + 254), .ref (bs + 255), .ref (bs + 256), .int 0, .int 0, .int 0, .int 0, .null, .null, .null, .null, .null, .null, .null, .null, .null, .null, .null, .null, .null, .null, .null, .null, .int 0, .null, .int 0, .int 0, .null, .null, .int 0, .int 0, .int 0, .int 0, .int 0, .int 0, .int 0, .int 0, .null, .null, .null]))) s H _ 19 := hw
  obtain ⟨cf_38, e_cf_38⟩ : ∃ z : Nat → va_E, z = va_up cf_37 237 (.inr (11, [.ref (bs + 238), .ref (bs + 239), .ref (bs + 240), .ref (bs + 241), .ref (bs + 242), .ref (bs + 243), .ref (bs + 244), .ref (bs + 245), .ref (bs + 246), .ref (bs + 247), .ref (bs + 248), .ref (bs + 249), .ref (bs + 250), .ref (bs + 251), .ref (bs + 252), .ref (bs + 253), .ref (bs + 254), .ref (bs + 255), .ref (bs + 256), .int 0, .int 0, .int 0, .int 0, .null, .null, .null, .null, .null, .null, .null, .null, .null, .null, .null, .null, .null, .null, .null, .null, .int 0, .null, .int 0, .int 0, .null, .null, .int 0, .int 0, .int 0, .int 0, .int 0, .int 0, .int 0, .int 0, .null, .null, .null])) := ⟨_, rfl⟩
  rw [← e_cf_38] at hw
  have hlow : ∀ i, i < 237 → cf_38 i = cf i := fun i h => by rw [e_cf_38]; exact (vu_ne (by omega)).trans (hlow i h)
  have hc_237 : cf_38 237 = .inr (11, [.ref (bs + 238), .ref (bs + 239), .ref (bs + 240), .ref (bs + 241), .ref (bs + 242), .ref (bs + 243), .ref (bs + 244), .ref (bs + 245), .ref (bs + 246), .ref (bs + 247), .ref (bs + 248), .ref (bs + 249), .ref (bs + 250), .ref (bs + 251), .ref (bs + 252), .ref (bs + 253), .ref (bs + 254), .ref (bs + 255), .ref (bs + 256), .int 0, .int 0, .int 0, .int 0, .null, .null, .null, .null, .null, .null, .null, .null, .null, .null, .null, .null, .null, .null, .null, .null, .int 0, .null, .int 0, .int 0, .null, .null, .int 0, .int 0, .int 0, .int 0, .int 0, .int 0, .int 0, .int 0, .null, .null, .null]) := by rw [e_cf_38]; exact vu_at
  have hdone : ∀ i, 237 < i → i < 257 → cf_38 i = ce (GB D bs cy tD tR) (s0 i) i := fun i h1 h2  => by rw [e_cf_38]; exact (vu_ne (by omega)).trans (hdone i h1 h2 )
  refine lv_aload_n X.1 X.2.1 d_X11_init_158 rfl (lv_at hl 0 rfl) ?_
  refine lv_sipush (v := 144) X.1 X.2.1 d_X11_init_159 (by decide) ?_
  refine k_newI (N' := 144) X hw (by decide) (by decide) (by decide) (Nat.le_of_ble_eq_true rfl) (Nat.le_of_ble_eq_true rfl) d_X11_init_162 (fun H hw => ?_)
  have hw : CW D cy bs 258 ([(cy 12, .int), (cy 13, .boolean)] ++ [(cy 12, .int)]) _ s H _ 20 := hw
  obtain ⟨cf_39, e_cf_39⟩ : ∃ z : Nat → va_E, z = va_up cf_38 257 (.inl (cy 12, 144, .inl (fun _ => 0))) := ⟨_, rfl⟩
  rw [← e_cf_39] at hw
  have hlow : ∀ i, i < 237 → cf_39 i = cf i := fun i h => by rw [e_cf_39]; exact (vu_ne (by omega)).trans (hlow i h)
  have hc_237 : cf_39 237 = .inr (11, [.ref (bs + 238), .ref (bs + 239), .ref (bs + 240), .ref (bs + 241), .ref (bs + 242), .ref (bs + 243), .ref (bs + 244), .ref (bs + 245), .ref (bs + 246), .ref (bs + 247), .ref (bs + 248), .ref (bs + 249), .ref (bs + 250), .ref (bs + 251), .ref (bs + 252), .ref (bs + 253), .ref (bs + 254), .ref (bs + 255), .ref (bs + 256), .int 0, .int 0, .int 0, .int 0, .null, .null, .null, .null, .null, .null, .null, .null, .null, .null, .null, .null, .null, .null, .null, .null, .int 0, .null, .int 0, .int 0, .null, .null, .int 0, .int 0, .int 0, .int 0, .int 0, .int 0, .int 0, .int 0, .null, .null, .null]) := by rw [e_cf_39]; exact (vu_ne (by decide)).trans hc_237
  have hc_257 : cf_39 257 = .inl (cy 12, 144, .inl (fun _ => 0)) := by rw [e_cf_39]; exact vu_at
  have hdone : ∀ i, 237 < i → i < 258 → i ≠ 257 → cf_39 i = ce (GB D bs cy tD tR) (s0 i) i := fun i h1 h2 p_257 => by rw [e_cf_39]; exact (vu_ne (by omega)).trans (hdone i h1 (by omega) )
  have hdone : ∀ i, 237 < i → i < 258 → cf_39 i = ce (GB D bs cy tD tR) (s0 i) i := fun i h1 h2  => by
    by_cases p_257 : i = 257
    · subst p_257; exact hc_257.trans rfl
    · exact hdone i h1 h2 p_257
  have hw : CW D cy bs 258 [(cy 12, .int), (cy 13, .boolean)] cf_39 s H _ 20 := k_tys [0, 1] hw rfl
  refine W.eq (g2 := F0 m 164 ls [.ref (bs + 257), .ref (bs + 237)]) rfl ?_
  refine k_putF (ci := 11) (n := 56) (k := 23) (v := .ref (bs + 257)) (ty := .array (.int)) nty11 X hw (by decide) hc_237 ni11 nk11 nn11 rfl (by decide) tb_929 rfl rfl hin rfl (by decide +kernel) rfl rfl (Nat.le_of_ble_eq_true rfl) d_X11_init_164 (fun H locs hw => ?_)
  have hw : CW D cy bs 258 [(cy 12, .int), (cy 13, .boolean)] (va_up cf_39 237 (.inr (11, [.ref (bs + 238), .ref (bs + 239), .ref (bs + 240), .ref (bs + 241), .ref (bs + 242), .ref (bs + 243), .ref (bs + 244), .ref (bs + 245), .ref (bs + 246), .ref (bs + 247), .ref (bs + 248), .ref (bs + 249), .ref (bs + 250), .ref (bs + 251), .ref (bs + 252), .ref (bs + 253), .ref (bs + 254), .ref (bs + 255), .ref (bs + 256), .int 0, .int 0, .int 0, .int 0, .ref (bs + 257), .null, .null, .null, .null, .null, .null, .null, .null, .null, .null, .null, .null, .null, .null, .null, .int 0, .null, .int 0, .int 0, .null, .null, .int 0, .int 0, .int 0, .int 0, .int 0, .int 0, .int 0, .int 0, .null, .null, .null]))) s H _ 20 := hw
  obtain ⟨cf_40, e_cf_40⟩ : ∃ z : Nat → va_E, z = va_up cf_39 237 (.inr (11, [.ref (bs + 238), .ref (bs + 239), .ref (bs + 240), .ref (bs + 241), .ref (bs + 242), .ref (bs + 243), .ref (bs + 244), .ref (bs + 245), .ref (bs + 246), .ref (bs + 247), .ref (bs + 248), .ref (bs + 249), .ref (bs + 250), .ref (bs + 251), .ref (bs + 252), .ref (bs + 253), .ref (bs + 254), .ref (bs + 255), .ref (bs + 256), .int 0, .int 0, .int 0, .int 0, .ref (bs + 257), .null, .null, .null, .null, .null, .null, .null, .null, .null, .null, .null, .null, .null, .null, .null, .int 0, .null, .int 0, .int 0, .null, .null, .int 0, .int 0, .int 0, .int 0, .int 0, .int 0, .int 0, .int 0, .null, .null, .null])) := ⟨_, rfl⟩
  rw [← e_cf_40] at hw
  have hlow : ∀ i, i < 237 → cf_40 i = cf i := fun i h => by rw [e_cf_40]; exact (vu_ne (by omega)).trans (hlow i h)
  have hc_237 : cf_40 237 = .inr (11, [.ref (bs + 238), .ref (bs + 239), .ref (bs + 240), .ref (bs + 241), .ref (bs + 242), .ref (bs + 243), .ref (bs + 244), .ref (bs + 245), .ref (bs + 246), .ref (bs + 247), .ref (bs + 248), .ref (bs + 249), .ref (bs + 250), .ref (bs + 251), .ref (bs + 252), .ref (bs + 253), .ref (bs + 254), .ref (bs + 255), .ref (bs + 256), .int 0, .int 0, .int 0, .int 0, .ref (bs + 257), .null, .null, .null, .null, .null, .null, .null, .null, .null, .null, .null, .null, .null, .null, .null, .int 0, .null, .int 0, .int 0, .null, .null, .int 0, .int 0, .int 0, .int 0, .int 0, .int 0, .int 0, .int 0, .null, .null, .null]) := by rw [e_cf_40]; exact vu_at
  have hdone : ∀ i, 237 < i → i < 258 → cf_40 i = ce (GB D bs cy tD tR) (s0 i) i := fun i h1 h2  => by rw [e_cf_40]; exact (vu_ne (by omega)).trans (hdone i h1 h2 )
  refine lv_aload_n X.1 X.2.1 d_X11_init_167 rfl (lv_at hl 0 rfl) ?_
  refine lv_bipush (v := 9) X.1 X.2.1 d_X11_init_168 (by decide) ?_
  refine k_newI (N' := 9) X hw (by decide) (by decide) (by decide) (Nat.le_of_ble_eq_true rfl) (Nat.le_of_ble_eq_true rfl) d_X11_init_170 (fun H hw => ?_)
  have hw : CW D cy bs 259 ([(cy 12, .int), (cy 13, .boolean)] ++ [(cy 12, .int)]) _ s H _ 21 := hw
  obtain ⟨cf_41, e_cf_41⟩ : ∃ z : Nat → va_E, z = va_up cf_40 258 (.inl (cy 12, 9, .inl (fun _ => 0))) := ⟨_, rfl⟩
  rw [← e_cf_41] at hw
  have hlow : ∀ i, i < 237 → cf_41 i = cf i := fun i h => by rw [e_cf_41]; exact (vu_ne (by omega)).trans (hlow i h)
  have hc_237 : cf_41 237 = .inr (11, [.ref (bs + 238), .ref (bs + 239), .ref (bs + 240), .ref (bs + 241), .ref (bs + 242), .ref (bs + 243), .ref (bs + 244), .ref (bs + 245), .ref (bs + 246), .ref (bs + 247), .ref (bs + 248), .ref (bs + 249), .ref (bs + 250), .ref (bs + 251), .ref (bs + 252), .ref (bs + 253), .ref (bs + 254), .ref (bs + 255), .ref (bs + 256), .int 0, .int 0, .int 0, .int 0, .ref (bs + 257), .null, .null, .null, .null, .null, .null, .null, .null, .null, .null, .null, .null, .null, .null, .null, .int 0, .null, .int 0, .int 0, .null, .null, .int 0, .int 0, .int 0, .int 0, .int 0, .int 0, .int 0, .int 0, .null, .null, .null]) := by rw [e_cf_41]; exact (vu_ne (by decide)).trans hc_237
  have hc_258 : cf_41 258 = .inl (cy 12, 9, .inl (fun _ => 0)) := by rw [e_cf_41]; exact vu_at
  have hdone : ∀ i, 237 < i → i < 259 → i ≠ 258 → cf_41 i = ce (GB D bs cy tD tR) (s0 i) i := fun i h1 h2 p_258 => by rw [e_cf_41]; exact (vu_ne (by omega)).trans (hdone i h1 (by omega) )
  have hdone : ∀ i, 237 < i → i < 259 → cf_41 i = ce (GB D bs cy tD tR) (s0 i) i := fun i h1 h2  => by
    by_cases p_258 : i = 258
    · subst p_258; exact hc_258.trans rfl
    · exact hdone i h1 h2 p_258
  have hw : CW D cy bs 259 [(cy 12, .int), (cy 13, .boolean)] cf_41 s H _ 21 := k_tys [0, 1] hw rfl
  refine W.eq (g2 := F0 m 172 ls [.ref (bs + 258), .ref (bs + 237)]) rfl ?_
  refine k_putF (ci := 11) (n := 56) (k := 24) (v := .ref (bs + 258)) (ty := .array (.int)) nty11 X hw (by decide) hc_237 ni11 nk11 nn11 rfl (by decide) tb_930 rfl rfl hin rfl (by decide +kernel) rfl rfl (Nat.le_of_ble_eq_true rfl) d_X11_init_172 (fun H locs hw => ?_)
  have hw : CW D cy bs 259 [(cy 12, .int), (cy 13, .boolean)] (va_up cf_41 237 (.inr (11, [.ref (bs + 238), .ref (bs + 239), .ref (bs + 240), .ref (bs + 241), .ref (bs + 242), .ref (bs + 243), .ref (bs + 244), .ref (bs + 245), .ref (bs + 246), .ref (bs + 247), .ref (bs + 248), .ref (bs + 249), .ref (bs + 250), .ref (bs + 251), .ref (bs + 252), .ref (bs + 253), .ref (bs + 254), .ref (bs + 255), .ref (bs + 256), .int 0, .int 0, .int 0, .int 0, .ref (bs + 257), .ref (bs + 258), .null, .null, .null, .null, .null, .null, .null, .null, .null, .null, .null, .null, .null, .null, .int 0, .null, .int 0, .int 0, .null, .null, .int 0, .int 0, .int 0, .int 0, .int 0, .int 0, .int 0, .int 0, .null, .null, .null]))) s H _ 21 := hw
  obtain ⟨cf_42, e_cf_42⟩ : ∃ z : Nat → va_E, z = va_up cf_41 237 (.inr (11, [.ref (bs + 238), .ref (bs + 239), .ref (bs + 240), .ref (bs + 241), .ref (bs + 242), .ref (bs + 243), .ref (bs + 244), .ref (bs + 245), .ref (bs + 246), .ref (bs + 247), .ref (bs + 248), .ref (bs + 249), .ref (bs + 250), .ref (bs + 251), .ref (bs + 252), .ref (bs + 253), .ref (bs + 254), .ref (bs + 255), .ref (bs + 256), .int 0, .int 0, .int 0, .int 0, .ref (bs + 257), .ref (bs + 258), .null, .null, .null, .null, .null, .null, .null, .null, .null, .null, .null, .null, .null, .null, .int 0, .null, .int 0, .int 0, .null, .null, .int 0, .int 0, .int 0, .int 0, .int 0, .int 0, .int 0, .int 0, .null, .null, .null])) := ⟨_, rfl⟩
  rw [← e_cf_42] at hw
  have hlow : ∀ i, i < 237 → cf_42 i = cf i := fun i h => by rw [e_cf_42]; exact (vu_ne (by omega)).trans (hlow i h)
  have hc_237 : cf_42 237 = .inr (11, [.ref (bs + 238), .ref (bs + 239), .ref (bs + 240), .ref (bs + 241), .ref (bs + 242), .ref (bs + 243), .ref (bs + 244), .ref (bs + 245), .ref (bs + 246), .ref (bs + 247), .ref (bs + 248), .ref (bs + 249), .ref (bs + 250), .ref (bs + 251), .ref (bs + 252), .ref (bs + 253), .ref (bs + 254), .ref (bs + 255), .ref (bs + 256), .int 0, .int 0, .int 0, .int 0, .ref (bs + 257), .ref (bs + 258), .null, .null, .null, .null, .null, .null, .null, .null, .null, .null, .null, .null, .null, .null, .int 0, .null, .int 0, .int 0, .null, .null, .int 0, .int 0, .int 0, .int 0, .int 0, .int 0, .int 0, .int 0, .null, .null, .null]) := by rw [e_cf_42]; exact vu_at
  have hdone : ∀ i, 237 < i → i < 259 → cf_42 i = ce (GB D bs cy tD tR) (s0 i) i := fun i h1 h2  => by rw [e_cf_42]; exact (vu_ne (by omega)).trans (hdone i h1 h2 )
  refine lv_aload_n X.1 X.2.1 d_X11_init_175 rfl (lv_at hl 0 rfl) ?_
  refine lv_bipush (v := 9) X.1 X.2.1 d_X11_init_176 (by decide) ?_
  refine k_newI (N' := 9) X hw (by decide) (by decide) (by decide) (Nat.le_of_ble_eq_true rfl) (Nat.le_of_ble_eq_true rfl) d_X11_init_178 (fun H hw => ?_)
  have hw : CW D cy bs 260 ([(cy 12, .int), (cy 13, .boolean)] ++ [(cy 12, .int)]) _ s H _ 22 := hw
  obtain ⟨cf_43, e_cf_43⟩ : ∃ z : Nat → va_E, z = va_up cf_42 259 (.inl (cy 12, 9, .inl (fun _ => 0))) := ⟨_, rfl⟩
  rw [← e_cf_43] at hw
  have hlow : ∀ i, i < 237 → cf_43 i = cf i := fun i h => by rw [e_cf_43]; exact (vu_ne (by omega)).trans (hlow i h)
  have hc_237 : cf_43 237 = .inr (11, [.ref (bs + 238), .ref (bs + 239), .ref (bs + 240), .ref (bs + 241), .ref (bs + 242), .ref (bs + 243), .ref (bs + 244), .ref (bs + 245), .ref (bs + 246), .ref (bs + 247), .ref (bs + 248), .ref (bs + 249), .ref (bs + 250), .ref (bs + 251), .ref (bs + 252), .ref (bs + 253), .ref (bs + 254), .ref (bs + 255), .ref (bs + 256), .int 0, .int 0, .int 0, .int 0, .ref (bs + 257), .ref (bs + 258), .null, .null, .null, .null, .null, .null, .null, .null, .null, .null, .null, .null, .null, .null, .int 0, .null, .int 0, .int 0, .null, .null, .int 0, .int 0, .int 0, .int 0, .int 0, .int 0, .int 0, .int 0, .null, .null, .null]) := by rw [e_cf_43]; exact (vu_ne (by decide)).trans hc_237
  have hc_259 : cf_43 259 = .inl (cy 12, 9, .inl (fun _ => 0)) := by rw [e_cf_43]; exact vu_at
  have hdone : ∀ i, 237 < i → i < 260 → i ≠ 259 → cf_43 i = ce (GB D bs cy tD tR) (s0 i) i := fun i h1 h2 p_259 => by rw [e_cf_43]; exact (vu_ne (by omega)).trans (hdone i h1 (by omega) )
  have hdone : ∀ i, 237 < i → i < 260 → cf_43 i = ce (GB D bs cy tD tR) (s0 i) i := fun i h1 h2  => by
    by_cases p_259 : i = 259
    · subst p_259; exact hc_259.trans rfl
    · exact hdone i h1 h2 p_259
  have hw : CW D cy bs 260 [(cy 12, .int), (cy 13, .boolean)] cf_43 s H _ 22 := k_tys [0, 1] hw rfl
  refine W.eq (g2 := F0 m 180 ls [.ref (bs + 259), .ref (bs + 237)]) rfl ?_
  refine k_putF (ci := 11) (n := 56) (k := 25) (v := .ref (bs + 259)) (ty := .array (.int)) nty11 X hw (by decide) hc_237 ni11 nk11 nn11 rfl (by decide) tb_931 rfl rfl hin rfl (by decide +kernel) rfl rfl (Nat.le_of_ble_eq_true rfl) d_X11_init_180 (fun H locs hw => ?_)
  have hw : CW D cy bs 260 [(cy 12, .int), (cy 13, .boolean)] (va_up cf_43 237 (.inr (11, [.ref (bs + 238), .ref (bs + 239), .ref (bs + 240), .ref (bs + 241), .ref (bs + 242), .ref (bs + 243), .ref (bs + 244), .ref (bs + 245), .ref (bs + 246), .ref (bs + 247), .ref (bs + 248), .ref (bs + 249), .ref (bs + 250), .ref (bs + 251), .ref (bs + 252), .ref (bs + 253), .ref (bs + 254), .ref (bs + 255), .ref (bs + 256), .int 0, .int 0, .int 0, .int 0, .ref (bs + 257), .ref (bs + 258), .ref (bs + 259), .null, .null, .null, .null, .null, .null, .null, .null, .null, .null, .null, .null, .null, .int 0, .null, .int 0, .int 0, .null, .null, .int 0, .int 0, .int 0, .int 0, .int 0, .int 0, .int 0, .int 0, .null, .null, .null]))) s H _ 22 := hw
  obtain ⟨cf_44, e_cf_44⟩ : ∃ z : Nat → va_E, z = va_up cf_43 237 (.inr (11, [.ref (bs + 238), .ref (bs + 239), .ref (bs + 240), .ref (bs + 241), .ref (bs + 242), .ref (bs + 243), .ref (bs + 244), .ref (bs + 245), .ref (bs + 246), .ref (bs + 247), .ref (bs + 248), .ref (bs + 249), .ref (bs + 250), .ref (bs + 251), .ref (bs + 252), .ref (bs + 253), .ref (bs + 254), .ref (bs + 255), .ref (bs + 256), .int 0, .int 0, .int 0, .int 0, .ref (bs + 257), .ref (bs + 258), .ref (bs + 259), .null, .null, .null, .null, .null, .null, .null, .null, .null, .null, .null, .null, .null, .int 0, .null, .int 0, .int 0, .null, .null, .int 0, .int 0, .int 0, .int 0, .int 0, .int 0, .int 0, .int 0, .null, .null, .null])) := ⟨_, rfl⟩
  rw [← e_cf_44] at hw
  have hlow : ∀ i, i < 237 → cf_44 i = cf i := fun i h => by rw [e_cf_44]; exact (vu_ne (by omega)).trans (hlow i h)
  have hc_237 : cf_44 237 = .inr (11, [.ref (bs + 238), .ref (bs + 239), .ref (bs + 240), .ref (bs + 241), .ref (bs + 242), .ref (bs + 243), .ref (bs + 244), .ref (bs + 245), .ref (bs + 246), .ref (bs + 247), .ref (bs + 248), .ref (bs + 249), .ref (bs + 250), .ref (bs + 251), .ref (bs + 252), .ref (bs + 253), .ref (bs + 254), .ref (bs + 255), .ref (bs + 256), .int 0, .int 0, .int 0, .int 0, .ref (bs + 257), .ref (bs + 258), .ref (bs + 259), .null, .null, .null, .null, .null, .null, .null, .null, .null, .null, .null, .null, .null, .int 0, .null, .int 0, .int 0, .null, .null, .int 0, .int 0, .int 0, .int 0, .int 0, .int 0, .int 0, .int 0, .null, .null, .null]) := by rw [e_cf_44]; exact vu_at
  have hdone : ∀ i, 237 < i → i < 260 → cf_44 i = ce (GB D bs cy tD tR) (s0 i) i := fun i h1 h2  => by rw [e_cf_44]; exact (vu_ne (by omega)).trans (hdone i h1 h2 )
  refine lv_aload_n X.1 X.2.1 d_X11_init_183 rfl (lv_at hl 0 rfl) ?_
  refine lv_bipush (v := 9) X.1 X.2.1 d_X11_init_184 (by decide) ?_
  refine k_newI (N' := 9) X hw (by decide) (by decide) (by decide) (Nat.le_of_ble_eq_true rfl) (Nat.le_of_ble_eq_true rfl) d_X11_init_186 (fun H hw => ?_)
  have hw : CW D cy bs 261 ([(cy 12, .int), (cy 13, .boolean)] ++ [(cy 12, .int)]) _ s H _ 23 := hw
  obtain ⟨cf_45, e_cf_45⟩ : ∃ z : Nat → va_E, z = va_up cf_44 260 (.inl (cy 12, 9, .inl (fun _ => 0))) := ⟨_, rfl⟩
  rw [← e_cf_45] at hw
  have hlow : ∀ i, i < 237 → cf_45 i = cf i := fun i h => by rw [e_cf_45]; exact (vu_ne (by omega)).trans (hlow i h)
  have hc_237 : cf_45 237 = .inr (11, [.ref (bs + 238), .ref (bs + 239), .ref (bs + 240), .ref (bs + 241), .ref (bs + 242), .ref (bs + 243), .ref (bs + 244), .ref (bs + 245), .ref (bs + 246), .ref (bs + 247), .ref (bs + 248), .ref (bs + 249), .ref (bs + 250), .ref (bs + 251), .ref (bs + 252), .ref (bs + 253), .ref (bs + 254), .ref (bs + 255), .ref (bs + 256), .int 0, .int 0, .int 0, .int 0, .ref (bs + 257), .ref (bs + 258), .ref (bs + 259), .null, .null, .null, .null, .null, .null, .null, .null, .null, .null, .null, .null, .null, .int 0, .null, .int 0, .int 0, .null, .null, .int 0, .int 0, .int 0, .int 0, .int 0, .int 0, .int 0, .int 0, .null, .null, .null]) := by rw [e_cf_45]; exact (vu_ne (by decide)).trans hc_237
  have hc_260 : cf_45 260 = .inl (cy 12, 9, .inl (fun _ => 0)) := by rw [e_cf_45]; exact vu_at
  have hdone : ∀ i, 237 < i → i < 261 → i ≠ 260 → cf_45 i = ce (GB D bs cy tD tR) (s0 i) i := fun i h1 h2 p_260 => by rw [e_cf_45]; exact (vu_ne (by omega)).trans (hdone i h1 (by omega) )
  have hdone : ∀ i, 237 < i → i < 261 → cf_45 i = ce (GB D bs cy tD tR) (s0 i) i := fun i h1 h2  => by
    by_cases p_260 : i = 260
    · subst p_260; exact hc_260.trans rfl
    · exact hdone i h1 h2 p_260
  have hw : CW D cy bs 261 [(cy 12, .int), (cy 13, .boolean)] cf_45 s H _ 23 := k_tys [0, 1] hw rfl
  refine W.eq (g2 := F0 m 188 ls [.ref (bs + 260), .ref (bs + 237)]) rfl ?_
  refine k_putF (ci := 11) (n := 56) (k := 26) (v := .ref (bs + 260)) (ty := .array (.int)) nty11 X hw (by decide) hc_237 ni11 nk11 nn11 rfl (by decide) tb_932 rfl rfl hin rfl (by decide +kernel) rfl rfl (Nat.le_of_ble_eq_true rfl) d_X11_init_188 (fun H locs hw => ?_)
  have hw : CW D cy bs 261 [(cy 12, .int), (cy 13, .boolean)] (va_up cf_45 237 (.inr (11, [.ref (bs + 238), .ref (bs + 239), .ref (bs + 240), .ref (bs + 241), .ref (bs + 242), .ref (bs + 243), .ref (bs + 244), .ref (bs + 245), .ref (bs + 246), .ref (bs + 247), .ref (bs + 248), .ref (bs + 249), .ref (bs + 250), .ref (bs + 251), .ref (bs + 252), .ref (bs + 253), .ref (bs + 254), .ref (bs + 255), .ref (bs + 256), .int 0, .int 0, .int 0, .int 0, .ref (bs + 257), .ref (bs + 258), .ref (bs + 259), .ref (bs + 260), .null, .null, .null, .null, .null, .null, .null, .null, .null, .null, .null, .null, .int 0, .null, .int 0, .int 0, .null, .null, .int 0, .int 0, .int 0, .int 0, .int 0, .int 0, .int 0, .int 0, .null, .null, .null]))) s H _ 23 := hw
  obtain ⟨cf_46, e_cf_46⟩ : ∃ z : Nat → va_E, z = va_up cf_45 237 (.inr (11, [.ref (bs + 238), .ref (bs + 239), .ref (bs + 240), .ref (bs + 241), .ref (bs + 242), .ref (bs + 243), .ref (bs + 244), .ref (bs + 245), .ref (bs + 246), .ref (bs + 247), .ref (bs + 248), .ref (bs + 249), .ref (bs + 250), .ref (bs + 251), .ref (bs + 252), .ref (bs + 253), .ref (bs + 254), .ref (bs + 255), .ref (bs + 256), .int 0, .int 0, .int 0, .int 0, .ref (bs + 257), .ref (bs + 258), .ref (bs + 259), .ref (bs + 260), .null, .null, .null, .null, .null, .null, .null, .null, .null, .null, .null, .null, .int 0, .null, .int 0, .int 0, .null, .null, .int 0, .int 0, .int 0, .int 0, .int 0, .int 0, .int 0, .int 0, .null, .null, .null])) := ⟨_, rfl⟩
  rw [← e_cf_46] at hw
  have hlow : ∀ i, i < 237 → cf_46 i = cf i := fun i h => by rw [e_cf_46]; exact (vu_ne (by omega)).trans (hlow i h)
  have hc_237 : cf_46 237 = .inr (11, [.ref (bs + 238), .ref (bs + 239), .ref (bs + 240), .ref (bs + 241), .ref (bs + 242), .ref (bs + 243), .ref (bs + 244), .ref (bs + 245), .ref (bs + 246), .ref (bs + 247), .ref (bs + 248), .ref (bs + 249), .ref (bs + 250), .ref (bs + 251), .ref (bs + 252), .ref (bs + 253), .ref (bs + 254), .ref (bs + 255), .ref (bs + 256), .int 0, .int 0, .int 0, .int 0, .ref (bs + 257), .ref (bs + 258), .ref (bs + 259), .ref (bs + 260), .null, .null, .null, .null, .null, .null, .null, .null, .null, .null, .null, .null, .int 0, .null, .int 0, .int 0, .null, .null, .int 0, .int 0, .int 0, .int 0, .int 0, .int 0, .int 0, .int 0, .null, .null, .null]) := by rw [e_cf_46]; exact vu_at
  have hdone : ∀ i, 237 < i → i < 261 → cf_46 i = ce (GB D bs cy tD tR) (s0 i) i := fun i h1 h2  => by rw [e_cf_46]; exact (vu_ne (by omega)).trans (hdone i h1 h2 )
  refine lv_aload_n X.1 X.2.1 d_X11_init_191 rfl (lv_at hl 0 rfl) ?_
  refine lv_bipush (v := 9) X.1 X.2.1 d_X11_init_192 (by decide) ?_
  refine k_newI (N' := 9) X hw (by decide) (by decide) (by decide) (Nat.le_of_ble_eq_true rfl) (Nat.le_of_ble_eq_true rfl) d_X11_init_194 (fun H hw => ?_)
  have hw : CW D cy bs 262 ([(cy 12, .int), (cy 13, .boolean)] ++ [(cy 12, .int)]) _ s H _ 24 := hw
  obtain ⟨cf_47, e_cf_47⟩ : ∃ z : Nat → va_E, z = va_up cf_46 261 (.inl (cy 12, 9, .inl (fun _ => 0))) := ⟨_, rfl⟩
  rw [← e_cf_47] at hw
  have hlow : ∀ i, i < 237 → cf_47 i = cf i := fun i h => by rw [e_cf_47]; exact (vu_ne (by omega)).trans (hlow i h)
  have hc_237 : cf_47 237 = .inr (11, [.ref (bs + 238), .ref (bs + 239), .ref (bs + 240), .ref (bs + 241), .ref (bs + 242), .ref (bs + 243), .ref (bs + 244), .ref (bs + 245), .ref (bs + 246), .ref (bs + 247), .ref (bs + 248), .ref (bs + 249), .ref (bs + 250), .ref (bs + 251), .ref (bs + 252), .ref (bs + 253), .ref (bs + 254), .ref (bs + 255), .ref (bs + 256), .int 0, .int 0, .int 0, .int 0, .ref (bs + 257), .ref (bs + 258), .ref (bs + 259), .ref (bs + 260), .null, .null, .null, .null, .null, .null, .null, .null, .null, .null, .null, .null, .int 0, .null, .int 0, .int 0, .null, .null, .int 0, .int 0, .int 0, .int 0, .int 0, .int 0, .int 0, .int 0, .null, .null, .null]) := by rw [e_cf_47]; exact (vu_ne (by decide)).trans hc_237
  have hc_261 : cf_47 261 = .inl (cy 12, 9, .inl (fun _ => 0)) := by rw [e_cf_47]; exact vu_at
  have hdone : ∀ i, 237 < i → i < 262 → i ≠ 261 → cf_47 i = ce (GB D bs cy tD tR) (s0 i) i := fun i h1 h2 p_261 => by rw [e_cf_47]; exact (vu_ne (by omega)).trans (hdone i h1 (by omega) )
  have hdone : ∀ i, 237 < i → i < 262 → cf_47 i = ce (GB D bs cy tD tR) (s0 i) i := fun i h1 h2  => by
    by_cases p_261 : i = 261
    · subst p_261; exact hc_261.trans rfl
    · exact hdone i h1 h2 p_261
  have hw : CW D cy bs 262 [(cy 12, .int), (cy 13, .boolean)] cf_47 s H _ 24 := k_tys [0, 1] hw rfl
  refine W.eq (g2 := F0 m 196 ls [.ref (bs + 261), .ref (bs + 237)]) rfl ?_
  refine k_putF (ci := 11) (n := 56) (k := 27) (v := .ref (bs + 261)) (ty := .array (.int)) nty11 X hw (by decide) hc_237 ni11 nk11 nn11 rfl (by decide) tb_933 rfl rfl hin rfl (by decide +kernel) rfl rfl (Nat.le_of_ble_eq_true rfl) d_X11_init_196 (fun H locs hw => ?_)
  have hw : CW D cy bs 262 [(cy 12, .int), (cy 13, .boolean)] (va_up cf_47 237 (.inr (11, [.ref (bs + 238), .ref (bs + 239), .ref (bs + 240), .ref (bs + 241), .ref (bs + 242), .ref (bs + 243), .ref (bs + 244), .ref (bs + 245), .ref (bs + 246), .ref (bs + 247), .ref (bs + 248), .ref (bs + 249), .ref (bs + 250), .ref (bs + 251), .ref (bs + 252), .ref (bs + 253), .ref (bs + 254), .ref (bs + 255), .ref (bs + 256), .int 0, .int 0, .int 0, .int 0, .ref (bs + 257), .ref (bs + 258), .ref (bs + 259), .ref (bs + 260), .ref (bs + 261), .null, .null, .null, .null, .null, .null, .null, .null, .null, .null, .null, .int 0, .null, .int 0, .int 0, .null, .null, .int 0, .int 0, .int 0, .int 0, .int 0, .int 0, .int 0, .int 0, .null, .null, .null]))) s H _ 24 := hw
  obtain ⟨cf_48, e_cf_48⟩ : ∃ z : Nat → va_E, z = va_up cf_47 237 (.inr (11, [.ref (bs + 238), .ref (bs + 239), .ref (bs + 240), .ref (bs + 241), .ref (bs + 242), .ref (bs + 243), .ref (bs + 244), .ref (bs + 245), .ref (bs + 246), .ref (bs + 247), .ref (bs + 248), .ref (bs + 249), .ref (bs + 250), .ref (bs + 251), .ref (bs + 252), .ref (bs + 253), .ref (bs + 254), .ref (bs + 255), .ref (bs + 256), .int 0, .int 0, .int 0, .int 0, .ref (bs + 257), .ref (bs + 258), .ref (bs + 259), .ref (bs + 260), .ref (bs + 261), .null, .null, .null, .null, .null, .null, .null, .null, .null, .null, .null, .int 0, .null, .int 0, .int 0, .null, .null, .int 0, .int 0, .int 0, .int 0, .int 0, .int 0, .int 0, .int 0, .null, .null, .null])) := ⟨_, rfl⟩
  rw [← e_cf_48] at hw
  have hlow : ∀ i, i < 237 → cf_48 i = cf i := fun i h => by rw [e_cf_48]; exact (vu_ne (by omega)).trans (hlow i h)
  have hc_237 : cf_48 237 = .inr (11, [.ref (bs + 238), .ref (bs + 239), .ref (bs + 240), .ref (bs + 241), .ref (bs + 242), .ref (bs + 243), .ref (bs + 244), .ref (bs + 245), .ref (bs + 246), .ref (bs + 247), .ref (bs + 248), .ref (bs + 249), .ref (bs + 250), .ref (bs + 251), .ref (bs + 252), .ref (bs + 253), .ref (bs + 254), .ref (bs + 255), .ref (bs + 256), .int 0, .int 0, .int 0, .int 0, .ref (bs + 257), .ref (bs + 258), .ref (bs + 259), .ref (bs + 260), .ref (bs + 261), .null, .null, .null, .null, .null, .null, .null, .null, .null, .null, .null, .int 0, .null, .int 0, .int 0, .null, .null, .int 0, .int 0, .int 0, .int 0, .int 0, .int 0, .int 0, .int 0, .null, .null, .null]) := by rw [e_cf_48]; exact vu_at
  have hdone : ∀ i, 237 < i → i < 262 → cf_48 i = ce (GB D bs cy tD tR) (s0 i) i := fun i h1 h2  => by rw [e_cf_48]; exact (vu_ne (by omega)).trans (hdone i h1 h2 )
  refine lv_aload_n X.1 X.2.1 d_X11_init_199 rfl (lv_at hl 0 rfl) ?_
  refine lv_bipush (v := 9) X.1 X.2.1 d_X11_init_200 (by decide) ?_
  refine k_newI (N' := 9) X hw (by decide) (by decide) (by decide) (Nat.le_of_ble_eq_true rfl) (Nat.le_of_ble_eq_true rfl) d_X11_init_202 (fun H hw => ?_)
  have hw : CW D cy bs 263 ([(cy 12, .int), (cy 13, .boolean)] ++ [(cy 12, .int)]) _ s H _ 25 := hw
  obtain ⟨cf_49, e_cf_49⟩ : ∃ z : Nat → va_E, z = va_up cf_48 262 (.inl (cy 12, 9, .inl (fun _ => 0))) := ⟨_, rfl⟩
  rw [← e_cf_49] at hw
  have hlow : ∀ i, i < 237 → cf_49 i = cf i := fun i h => by rw [e_cf_49]; exact (vu_ne (by omega)).trans (hlow i h)
  have hc_237 : cf_49 237 = .inr (11, [.ref (bs + 238), .ref (bs + 239), .ref (bs + 240), .ref (bs + 241), .ref (bs + 242), .ref (bs + 243), .ref (bs + 244), .ref (bs + 245), .ref (bs + 246), .ref (bs + 247), .ref (bs + 248), .ref (bs + 249), .ref (bs + 250), .ref (bs + 251), .ref (bs + 252), .ref (bs + 253), .ref (bs + 254), .ref (bs + 255), .ref (bs + 256), .int 0, .int 0, .int 0, .int 0, .ref (bs + 257), .ref (bs + 258), .ref (bs + 259), .ref (bs + 260), .ref (bs + 261), .null, .null, .null, .null, .null, .null, .null, .null, .null, .null, .null, .int 0, .null, .int 0, .int 0, .null, .null, .int 0, .int 0, .int 0, .int 0, .int 0, .int 0, .int 0, .int 0, .null, .null, .null]) := by rw [e_cf_49]; exact (vu_ne (by decide)).trans hc_237
  have hc_262 : cf_49 262 = .inl (cy 12, 9, .inl (fun _ => 0)) := by rw [e_cf_49]; exact vu_at
  have hdone : ∀ i, 237 < i → i < 263 → i ≠ 262 → cf_49 i = ce (GB D bs cy tD tR) (s0 i) i := fun i h1 h2 p_262 => by rw [e_cf_49]; exact (vu_ne (by omega)).trans (hdone i h1 (by omega) )
  have hdone : ∀ i, 237 < i → i < 263 → cf_49 i = ce (GB D bs cy tD tR) (s0 i) i := fun i h1 h2  => by
    by_cases p_262 : i = 262
    · subst p_262; exact hc_262.trans rfl
    · exact hdone i h1 h2 p_262
  have hw : CW D cy bs 263 [(cy 12, .int), (cy 13, .boolean)] cf_49 s H _ 25 := k_tys [0, 1] hw rfl
  refine W.eq (g2 := F0 m 204 ls [.ref (bs + 262), .ref (bs + 237)]) rfl ?_
  refine k_putF (ci := 11) (n := 56) (k := 28) (v := .ref (bs + 262)) (ty := .array (.int)) nty11 X hw (by decide) hc_237 ni11 nk11 nn11 rfl (by decide) tb_934 rfl rfl hin rfl (by decide +kernel) rfl rfl (Nat.le_of_ble_eq_true rfl) d_X11_init_204 (fun H locs hw => ?_)
  have hw : CW D cy bs 263 [(cy 12, .int), (cy 13, .boolean)] (va_up cf_49 237 (.inr (11, [.ref (bs + 238), .ref (bs + 239), .ref (bs + 240), .ref (bs + 241), .ref (bs + 242), .ref (bs + 243), .ref (bs + 244), .ref (bs + 245), .ref (bs + 246), .ref (bs + 247), .ref (bs + 248), .ref (bs + 249), .ref (bs + 250), .ref (bs + 251), .ref (bs + 252), .ref (bs + 253), .ref (bs + 254), .ref (bs + 255), .ref (bs + 256), .int 0, .int 0, .int 0, .int 0, .ref (bs + 257), .ref (bs + 258), .ref (bs + 259), .ref (bs + 260), .ref (bs + 261), .ref (bs + 262), .null, .null, .null, .null, .null, .null, .null, .null, .null, .null, .int 0, .null, .int 0, .int 0, .null, .null, .int 0, .int 0, .int 0, .int 0, .int 0, .int 0, .int 0, .int 0, .null, .null, .null]))) s H _ 25 := hw
  obtain ⟨cf_50, e_cf_50⟩ : ∃ z : Nat → va_E, z = va_up cf_49 237 (.inr (11, [.ref (bs + 238), .ref (bs + 239), .ref (bs + 240), .ref (bs + 241), .ref (bs + 242), .ref (bs + 243), .ref (bs + 244), .ref (bs + 245), .ref (bs + 246), .ref (bs + 247), .ref (bs + 248), .ref (bs + 249), .ref (bs + 250), .ref (bs + 251), .ref (bs + 252), .ref (bs + 253), .ref (bs + 254), .ref (bs + 255), .ref (bs + 256), .int 0, .int 0, .int 0, .int 0, .ref (bs + 257), .ref (bs + 258), .ref (bs + 259), .ref (bs + 260), .ref (bs + 261), .ref (bs + 262), .null, .null, .null, .null, .null, .null, .null, .null, .null, .null, .int 0, .null, .int 0, .int 0, .null, .null, .int 0, .int 0, .int 0, .int 0, .int 0, .int 0, .int 0, .int 0, .null, .null, .null])) := ⟨_, rfl⟩
  rw [← e_cf_50] at hw
  have hlow : ∀ i, i < 237 → cf_50 i = cf i := fun i h => by rw [e_cf_50]; exact (vu_ne (by omega)).trans (hlow i h)
  have hc_237 : cf_50 237 = .inr (11, [.ref (bs + 238), .ref (bs + 239), .ref (bs + 240), .ref (bs + 241), .ref (bs + 242), .ref (bs + 243), .ref (bs + 244), .ref (bs + 245), .ref (bs + 246), .ref (bs + 247), .ref (bs + 248), .ref (bs + 249), .ref (bs + 250), .ref (bs + 251), .ref (bs + 252), .ref (bs + 253), .ref (bs + 254), .ref (bs + 255), .ref (bs + 256), .int 0, .int 0, .int 0, .int 0, .ref (bs + 257), .ref (bs + 258), .ref (bs + 259), .ref (bs + 260), .ref (bs + 261), .ref (bs + 262), .null, .null, .null, .null, .null, .null, .null, .null, .null, .null, .int 0, .null, .int 0, .int 0, .null, .null, .int 0, .int 0, .int 0, .int 0, .int 0, .int 0, .int 0, .int 0, .null, .null, .null]) := by rw [e_cf_50]; exact vu_at
  have hdone : ∀ i, 237 < i → i < 263 → cf_50 i = ce (GB D bs cy tD tR) (s0 i) i := fun i h1 h2  => by rw [e_cf_50]; exact (vu_ne (by omega)).trans (hdone i h1 h2 )
  refine lv_aload_n X.1 X.2.1 d_X11_init_207 rfl (lv_at hl 0 rfl) ?_
  refine lv_sipush (v := 7200) X.1 X.2.1 d_X11_init_208 (by decide) ?_
  refine k_newI (N' := 7200) X hw (by decide) (by decide) (by decide) (Nat.le_of_ble_eq_true rfl) (Nat.le_of_ble_eq_true rfl) d_X11_init_211 (fun H hw => ?_)
  have hw : CW D cy bs 264 ([(cy 12, .int), (cy 13, .boolean)] ++ [(cy 12, .int)]) _ s H _ 26 := hw
  obtain ⟨cf_51, e_cf_51⟩ : ∃ z : Nat → va_E, z = va_up cf_50 263 (.inl (cy 12, 7200, .inl (fun _ => 0))) := ⟨_, rfl⟩
  rw [← e_cf_51] at hw
  have hlow : ∀ i, i < 237 → cf_51 i = cf i := fun i h => by rw [e_cf_51]; exact (vu_ne (by omega)).trans (hlow i h)
  have hc_237 : cf_51 237 = .inr (11, [.ref (bs + 238), .ref (bs + 239), .ref (bs + 240), .ref (bs + 241), .ref (bs + 242), .ref (bs + 243), .ref (bs + 244), .ref (bs + 245), .ref (bs + 246), .ref (bs + 247), .ref (bs + 248), .ref (bs + 249), .ref (bs + 250), .ref (bs + 251), .ref (bs + 252), .ref (bs + 253), .ref (bs + 254), .ref (bs + 255), .ref (bs + 256), .int 0, .int 0, .int 0, .int 0, .ref (bs + 257), .ref (bs + 258), .ref (bs + 259), .ref (bs + 260), .ref (bs + 261), .ref (bs + 262), .null, .null, .null, .null, .null, .null, .null, .null, .null, .null, .int 0, .null, .int 0, .int 0, .null, .null, .int 0, .int 0, .int 0, .int 0, .int 0, .int 0, .int 0, .int 0, .null, .null, .null]) := by rw [e_cf_51]; exact (vu_ne (by decide)).trans hc_237
  have hc_263 : cf_51 263 = .inl (cy 12, 7200, .inl (fun _ => 0)) := by rw [e_cf_51]; exact vu_at
  have hdone : ∀ i, 237 < i → i < 264 → i ≠ 263 → cf_51 i = ce (GB D bs cy tD tR) (s0 i) i := fun i h1 h2 p_263 => by rw [e_cf_51]; exact (vu_ne (by omega)).trans (hdone i h1 (by omega) )
  have hdone : ∀ i, 237 < i → i < 264 → cf_51 i = ce (GB D bs cy tD tR) (s0 i) i := fun i h1 h2  => by
    by_cases p_263 : i = 263
    · subst p_263; exact hc_263.trans rfl
    · exact hdone i h1 h2 p_263
  have hw : CW D cy bs 264 [(cy 12, .int), (cy 13, .boolean)] cf_51 s H _ 26 := k_tys [0, 1] hw rfl
  refine W.eq (g2 := F0 m 213 ls [.ref (bs + 263), .ref (bs + 237)]) rfl ?_
  refine k_putF (ci := 11) (n := 56) (k := 29) (v := .ref (bs + 263)) (ty := .array (.int)) nty11 X hw (by decide) hc_237 ni11 nk11 nn11 rfl (by decide) tb_935 rfl rfl hin rfl (by decide +kernel) rfl rfl (Nat.le_of_ble_eq_true rfl) d_X11_init_213 (fun H locs hw => ?_)
  have hw : CW D cy bs 264 [(cy 12, .int), (cy 13, .boolean)] (va_up cf_51 237 (.inr (11, [.ref (bs + 238), .ref (bs + 239), .ref (bs + 240), .ref (bs + 241), .ref (bs + 242), .ref (bs + 243), .ref (bs + 244), .ref (bs + 245), .ref (bs + 246), .ref (bs + 247), .ref (bs + 248), .ref (bs + 249), .ref (bs + 250), .ref (bs + 251), .ref (bs + 252), .ref (bs + 253), .ref (bs + 254), .ref (bs + 255), .ref (bs + 256), .int 0, .int 0, .int 0, .int 0, .ref (bs + 257), .ref (bs + 258), .ref (bs + 259), .ref (bs + 260), .ref (bs + 261), .ref (bs + 262), .ref (bs + 263), .null, .null, .null, .null, .null, .null, .null, .null, .null, .int 0, .null, .int 0, .int 0, .null, .null, .int 0, .int 0, .int 0, .int 0, .int 0, .int 0, .int 0, .int 0, .null, .null, .null]))) s H _ 26 := hw
  obtain ⟨cf_52, e_cf_52⟩ : ∃ z : Nat → va_E, z = va_up cf_51 237 (.inr (11, [.ref (bs + 238), .ref (bs + 239), .ref (bs + 240), .ref (bs + 241), .ref (bs + 242), .ref (bs + 243), .ref (bs + 244), .ref (bs + 245), .ref (bs + 246), .ref (bs + 247), .ref (bs + 248), .ref (bs + 249), .ref (bs + 250), .ref (bs + 251), .ref (bs + 252), .ref (bs + 253), .ref (bs + 254), .ref (bs + 255), .ref (bs + 256), .int 0, .int 0, .int 0, .int 0, .ref (bs + 257), .ref (bs + 258), .ref (bs + 259), .ref (bs + 260), .ref (bs + 261), .ref (bs + 262), .ref (bs + 263), .null, .null, .null, .null, .null, .null, .null, .null, .null, .int 0, .null, .int 0, .int 0, .null, .null, .int 0, .int 0, .int 0, .int 0, .int 0, .int 0, .int 0, .int 0, .null, .null, .null])) := ⟨_, rfl⟩
  rw [← e_cf_52] at hw
  have hlow : ∀ i, i < 237 → cf_52 i = cf i := fun i h => by rw [e_cf_52]; exact (vu_ne (by omega)).trans (hlow i h)
  have hc_237 : cf_52 237 = .inr (11, [.ref (bs + 238), .ref (bs + 239), .ref (bs + 240), .ref (bs + 241), .ref (bs + 242), .ref (bs + 243), .ref (bs + 244), .ref (bs + 245), .ref (bs + 246), .ref (bs + 247), .ref (bs + 248), .ref (bs + 249), .ref (bs + 250), .ref (bs + 251), .ref (bs + 252), .ref (bs + 253), .ref (bs + 254), .ref (bs + 255), .ref (bs + 256), .int 0, .int 0, .int 0, .int 0, .ref (bs + 257), .ref (bs + 258), .ref (bs + 259), .ref (bs + 260), .ref (bs + 261), .ref (bs + 262), .ref (bs + 263), .null, .null, .null, .null, .null, .null, .null, .null, .null, .int 0, .null, .int 0, .int 0, .null, .null, .int 0, .int 0, .int 0, .int 0, .int 0, .int 0, .int 0, .int 0, .null, .null, .null]) := by rw [e_cf_52]; exact vu_at
  have hdone : ∀ i, 237 < i → i < 264 → cf_52 i = ce (GB D bs cy tD tR) (s0 i) i := fun i h1 h2  => by rw [e_cf_52]; exact (vu_ne (by omega)).trans (hdone i h1 h2 )
  refine lv_aload_n X.1 X.2.1 d_X11_init_216 rfl (lv_at hl 0 rfl) ?_
  refine lv_sipush (v := 7200) X.1 X.2.1 d_X11_init_217 (by decide) ?_
  refine k_newI (N' := 7200) X hw (by decide) (by decide) (by decide) (Nat.le_of_ble_eq_true rfl) (Nat.le_of_ble_eq_true rfl) d_X11_init_220 (fun H hw => ?_)
  have hw : CW D cy bs 265 ([(cy 12, .int), (cy 13, .boolean)] ++ [(cy 12, .int)]) _ s H _ 27 := hw
  obtain ⟨cf_53, e_cf_53⟩ : ∃ z : Nat → va_E, z = va_up cf_52 264 (.inl (cy 12, 7200, .inl (fun _ => 0))) := ⟨_, rfl⟩
  rw [← e_cf_53] at hw
  have hlow : ∀ i, i < 237 → cf_53 i = cf i := fun i h => by rw [e_cf_53]; exact (vu_ne (by omega)).trans (hlow i h)
  have hc_237 : cf_53 237 = .inr (11, [.ref (bs + 238), .ref (bs + 239), .ref (bs + 240), .ref (bs + 241), .ref (bs + 242), .ref (bs + 243), .ref (bs + 244), .ref (bs + 245), .ref (bs + 246), .ref (bs + 247), .ref (bs + 248), .ref (bs + 249), .ref (bs + 250), .ref (bs + 251), .ref (bs + 252), .ref (bs + 253), .ref (bs + 254), .ref (bs + 255), .ref (bs + 256), .int 0, .int 0, .int 0, .int 0, .ref (bs + 257), .ref (bs + 258), .ref (bs + 259), .ref (bs + 260), .ref (bs + 261), .ref (bs + 262), .ref (bs + 263), .null, .null, .null, .null, .null, .null, .null, .null, .null, .int 0, .null, .int 0, .int 0, .null, .null, .int 0, .int 0, .int 0, .int 0, .int 0, .int 0, .int 0, .int 0, .null, .null, .null]) := by rw [e_cf_53]; exact (vu_ne (by decide)).trans hc_237
  have hc_264 : cf_53 264 = .inl (cy 12, 7200, .inl (fun _ => 0)) := by rw [e_cf_53]; exact vu_at
  have hdone : ∀ i, 237 < i → i < 265 → i ≠ 264 → cf_53 i = ce (GB D bs cy tD tR) (s0 i) i := fun i h1 h2 p_264 => by rw [e_cf_53]; exact (vu_ne (by omega)).trans (hdone i h1 (by omega) )
  have hdone : ∀ i, 237 < i → i < 265 → cf_53 i = ce (GB D bs cy tD tR) (s0 i) i := fun i h1 h2  => by
    by_cases p_264 : i = 264
    · subst p_264; exact hc_264.trans rfl
    · exact hdone i h1 h2 p_264
  have hw : CW D cy bs 265 [(cy 12, .int), (cy 13, .boolean)] cf_53 s H _ 27 := k_tys [0, 1] hw rfl
  refine W.eq (g2 := F0 m 222 ls [.ref (bs + 264), .ref (bs + 237)]) rfl ?_
  refine k_putF (ci := 11) (n := 56) (k := 30) (v := .ref (bs + 264)) (ty := .array (.int)) nty11 X hw (by decide) hc_237 ni11 nk11 nn11 rfl (by decide) tb_936 rfl rfl hin rfl (by decide +kernel) rfl rfl (Nat.le_of_ble_eq_true rfl) d_X11_init_222 (fun H locs hw => ?_)
  have hw : CW D cy bs 265 [(cy 12, .int), (cy 13, .boolean)] (va_up cf_53 237 (.inr (11, [.ref (bs + 238), .ref (bs + 239), .ref (bs + 240), .ref (bs + 241), .ref (bs + 242), .ref (bs + 243), .ref (bs + 244), .ref (bs + 245), .ref (bs + 246), .ref (bs + 247), .ref (bs + 248), .ref (bs + 249), .ref (bs + 250), .ref (bs + 251), .ref (bs + 252), .ref (bs + 253), .ref (bs + 254), .ref (bs + 255), .ref (bs + 256), .int 0, .int 0, .int 0, .int 0, .ref (bs + 257), .ref (bs + 258), .ref (bs + 259), .ref (bs + 260), .ref (bs + 261), .ref (bs + 262), .ref (bs + 263), .ref (bs + 264), .null, .null, .null, .null, .null, .null, .null, .null, .int 0, .null, .int 0, .int 0, .null, .null, .int 0, .int 0, .int 0, .int 0, .int 0, .int 0, .int 0, .int 0, .null, .null, .null]))) s H _ 27 := hw
  obtain ⟨cf_54, e_cf_54⟩ : ∃ z : Nat → va_E, z = va_up cf_53 237 (.inr (11, [.ref (bs + 238), .ref (bs + 239), .ref (bs + 240), .ref (bs + 241), .ref (bs + 242), .ref (bs + 243), .ref (bs + 244), .ref (bs + 245), .ref (bs + 246), .ref (bs + 247), .ref (bs + 248), .ref (bs + 249), .ref (bs + 250), .ref (bs + 251), .ref (bs + 252), .ref (bs + 253), .ref (bs + 254), .ref (bs + 255), .ref (bs + 256), .int 0, .int 0, .int 0, .int 0, .ref (bs + 257), .ref (bs + 258), .ref (bs + 259), .ref (bs + 260), .ref (bs + 261), .ref (bs + 262), .ref (bs + 263), .ref (bs + 264), .null, .null, .null, .null, .null, .null, .null, .null, .int 0, .null, .int 0, .int 0, .null, .null, .int 0, .int 0, .int 0, .int 0, .int 0, .int 0, .int 0, .int 0, .null, .null, .null])) := ⟨_, rfl⟩
  rw [← e_cf_54] at hw
  have hlow : ∀ i, i < 237 → cf_54 i = cf i := fun i h => by rw [e_cf_54]; exact (vu_ne (by omega)).trans (hlow i h)
  have hc_237 : cf_54 237 = .inr (11, [.ref (bs + 238), .ref (bs + 239), .ref (bs + 240), .ref (bs + 241), .ref (bs + 242), .ref (bs + 243), .ref (bs + 244), .ref (bs + 245), .ref (bs + 246), .ref (bs + 247), .ref (bs + 248), .ref (bs + 249), .ref (bs + 250), .ref (bs + 251), .ref (bs + 252), .ref (bs + 253), .ref (bs + 254), .ref (bs + 255), .ref (bs + 256), .int 0, .int 0, .int 0, .int 0, .ref (bs + 257), .ref (bs + 258), .ref (bs + 259), .ref (bs + 260), .ref (bs + 261), .ref (bs + 262), .ref (bs + 263), .ref (bs + 264), .null, .null, .null, .null, .null, .null, .null, .null, .int 0, .null, .int 0, .int 0, .null, .null, .int 0, .int 0, .int 0, .int 0, .int 0, .int 0, .int 0, .int 0, .null, .null, .null]) := by rw [e_cf_54]; exact vu_at
  have hdone : ∀ i, 237 < i → i < 265 → cf_54 i = ce (GB D bs cy tD tR) (s0 i) i := fun i h1 h2  => by rw [e_cf_54]; exact (vu_ne (by omega)).trans (hdone i h1 h2 )
  refine lv_aload_n X.1 X.2.1 d_X11_init_225 rfl (lv_at hl 0 rfl) ?_
  refine lv_sipush (v := 7200) X.1 X.2.1 d_X11_init_226 (by decide) ?_
  refine k_newI (N' := 7200) X hw (by decide) (by decide) (by decide) (Nat.le_of_ble_eq_true rfl) (Nat.le_of_ble_eq_true rfl) d_X11_init_229 (fun H hw => ?_)
  have hw : CW D cy bs 266 ([(cy 12, .int), (cy 13, .boolean)] ++ [(cy 12, .int)]) _ s H _ 28 := hw
  obtain ⟨cf_55, e_cf_55⟩ : ∃ z : Nat → va_E, z = va_up cf_54 265 (.inl (cy 12, 7200, .inl (fun _ => 0))) := ⟨_, rfl⟩
  rw [← e_cf_55] at hw
  have hlow : ∀ i, i < 237 → cf_55 i = cf i := fun i h => by rw [e_cf_55]; exact (vu_ne (by omega)).trans (hlow i h)
  have hc_237 : cf_55 237 = .inr (11, [.ref (bs + 238), .ref (bs + 239), .ref (bs + 240), .ref (bs + 241), .ref (bs + 242), .ref (bs + 243), .ref (bs + 244), .ref (bs + 245), .ref (bs + 246), .ref (bs + 247), .ref (bs + 248), .ref (bs + 249), .ref (bs + 250), .ref (bs + 251), .ref (bs + 252), .ref (bs + 253), .ref (bs + 254), .ref (bs + 255), .ref (bs + 256), .int 0, .int 0, .int 0, .int 0, .ref (bs + 257), .ref (bs + 258), .ref (bs + 259), .ref (bs + 260), .ref (bs + 261), .ref (bs + 262), .ref (bs + 263), .ref (bs + 264), .null, .null, .null, .null, .null, .null, .null, .null, .int 0, .null, .int 0, .int 0, .null, .null, .int 0, .int 0, .int 0, .int 0, .int 0, .int 0, .int 0, .int 0, .null, .null, .null]) := by rw [e_cf_55]; exact (vu_ne (by decide)).trans hc_237
  have hc_265 : cf_55 265 = .inl (cy 12, 7200, .inl (fun _ => 0)) := by rw [e_cf_55]; exact vu_at
  have hdone : ∀ i, 237 < i → i < 266 → i ≠ 265 → cf_55 i = ce (GB D bs cy tD tR) (s0 i) i := fun i h1 h2 p_265 => by rw [e_cf_55]; exact (vu_ne (by omega)).trans (hdone i h1 (by omega) )
  have hdone : ∀ i, 237 < i → i < 266 → cf_55 i = ce (GB D bs cy tD tR) (s0 i) i := fun i h1 h2  => by
    by_cases p_265 : i = 265
    · subst p_265; exact hc_265.trans rfl
    · exact hdone i h1 h2 p_265
  have hw : CW D cy bs 266 [(cy 12, .int), (cy 13, .boolean)] cf_55 s H _ 28 := k_tys [0, 1] hw rfl
  refine W.eq (g2 := F0 m 231 ls [.ref (bs + 265), .ref (bs + 237)]) rfl ?_
  refine k_putF (ci := 11) (n := 56) (k := 31) (v := .ref (bs + 265)) (ty := .array (.int)) nty11 X hw (by decide) hc_237 ni11 nk11 nn11 rfl (by decide) tb_937 rfl rfl hin rfl (by decide +kernel) rfl rfl (Nat.le_of_ble_eq_true rfl) d_X11_init_231 (fun H locs hw => ?_)
  have hw : CW D cy bs 266 [(cy 12, .int), (cy 13, .boolean)] (va_up cf_55 237 (.inr (11, [.ref (bs + 238), .ref (bs + 239), .ref (bs + 240), .ref (bs + 241), .ref (bs + 242), .ref (bs + 243), .ref (bs + 244), .ref (bs + 245), .ref (bs + 246), .ref (bs + 247), .ref (bs + 248), .ref (bs + 249), .ref (bs + 250), .ref (bs + 251), .ref (bs + 252), .ref (bs + 253), .ref (bs + 254), .ref (bs + 255), .ref (bs + 256), .int 0, .int 0, .int 0, .int 0, .ref (bs + 257), .ref (bs + 258), .ref (bs + 259), .ref (bs + 260), .ref (bs + 261), .ref (bs + 262), .ref (bs + 263), .ref (bs + 264), .ref (bs + 265), .null, .null, .null, .null, .null, .null, .null, .int 0, .null, .int 0, .int 0, .null, .null, .int 0, .int 0, .int 0, .int 0, .int 0, .int 0, .int 0, .int 0, .null, .null, .null]))) s H _ 28 := hw
  obtain ⟨cf_56, e_cf_56⟩ : ∃ z : Nat → va_E, z = va_up cf_55 237 (.inr (11, [.ref (bs + 238), .ref (bs + 239), .ref (bs + 240), .ref (bs + 241), .ref (bs + 242), .ref (bs + 243), .ref (bs + 244), .ref (bs + 245), .ref (bs + 246), .ref (bs + 247), .ref (bs + 248), .ref (bs + 249), .ref (bs + 250), .ref (bs + 251), .ref (bs + 252), .ref (bs + 253), .ref (bs + 254), .ref (bs + 255), .ref (bs + 256), .int 0, .int 0, .int 0, .int 0, .ref (bs + 257), .ref (bs + 258), .ref (bs + 259), .ref (bs + 260), .ref (bs + 261), .ref (bs + 262), .ref (bs + 263), .ref (bs + 264), .ref (bs + 265), .null, .null, .null, .null, .null, .null, .null, .int 0, .null, .int 0, .int 0, .null, .null, .int 0, .int 0, .int 0, .int 0, .int 0, .int 0, .int 0, .int 0, .null, .null, .null])) := ⟨_, rfl⟩
  rw [← e_cf_56] at hw
  have hlow : ∀ i, i < 237 → cf_56 i = cf i := fun i h => by rw [e_cf_56]; exact (vu_ne (by omega)).trans (hlow i h)
  have hc_237 : cf_56 237 = .inr (11, [.ref (bs + 238), .ref (bs + 239), .ref (bs + 240), .ref (bs + 241), .ref (bs + 242), .ref (bs + 243), .ref (bs + 244), .ref (bs + 245), .ref (bs + 246), .ref (bs + 247), .ref (bs + 248), .ref (bs + 249), .ref (bs + 250), .ref (bs + 251), .ref (bs + 252), .ref (bs + 253), .ref (bs + 254), .ref (bs + 255), .ref (bs + 256), .int 0, .int 0, .int 0, .int 0, .ref (bs + 257), .ref (bs + 258), .ref (bs + 259), .ref (bs + 260), .ref (bs + 261), .ref (bs + 262), .ref (bs + 263), .ref (bs + 264), .ref (bs + 265), .null, .null, .null, .null, .null, .null, .null, .int 0, .null, .int 0, .int 0, .null, .null, .int 0, .int 0, .int 0, .int 0, .int 0, .int 0, .int 0, .int 0, .null, .null, .null]) := by rw [e_cf_56]; exact vu_at
  have hdone : ∀ i, 237 < i → i < 266 → cf_56 i = ce (GB D bs cy tD tR) (s0 i) i := fun i h1 h2  => by rw [e_cf_56]; exact (vu_ne (by omega)).trans (hdone i h1 h2 )
  refine lv_aload_n X.1 X.2.1 d_X11_init_234 rfl (lv_at hl 0 rfl) ?_
  refine lv_bipush (v := 9) X.1 X.2.1 d_X11_init_235 (by decide) ?_
  refine k_newI (N' := 9) X hw (by decide) (by decide) (by decide) (Nat.le_of_ble_eq_true rfl) (Nat.le_of_ble_eq_true rfl) d_X11_init_237 (fun H hw => ?_)
  have hw : CW D cy bs 267 ([(cy 12, .int), (cy 13, .boolean)] ++ [(cy 12, .int)]) _ s H _ 29 := hw
  obtain ⟨cf_57, e_cf_57⟩ : ∃ z : Nat → va_E, z = va_up cf_56 266 (.inl (cy 12, 9, .inl (fun _ => 0))) := ⟨_, rfl⟩
  rw [← e_cf_57] at hw
  have hlow : ∀ i, i < 237 → cf_57 i = cf i := fun i h => by rw [e_cf_57]; exact (vu_ne (by omega)).trans (hlow i h)
  have hc_237 : cf_57 237 = .inr (11, [.ref (bs + 238), .ref (bs + 239), .ref (bs + 240), .ref (bs + 241), .ref (bs + 242), .ref (bs + 243), .ref (bs + 244), .ref (bs + 245), .ref (bs + 246), .ref (bs + 247), .ref (bs + 248), .ref (bs + 249), .ref (bs + 250), .ref (bs + 251), .ref (bs + 252), .ref (bs + 253), .ref (bs + 254), .ref (bs + 255), .ref (bs + 256), .int 0, .int 0, .int 0, .int 0, .ref (bs + 257), .ref (bs + 258), .ref (bs + 259), .ref (bs + 260), .ref (bs + 261), .ref (bs + 262), .ref (bs + 263), .ref (bs + 264), .ref (bs + 265), .null, .null, .null, .null, .null, .null, .null, .int 0, .null, .int 0, .int 0, .null, .null, .int 0, .int 0, .int 0, .int 0, .int 0, .int 0, .int 0, .int 0, .null, .null, .null]) := by rw [e_cf_57]; exact (vu_ne (by decide)).trans hc_237
  have hc_266 : cf_57 266 = .inl (cy 12, 9, .inl (fun _ => 0)) := by rw [e_cf_57]; exact vu_at
  have hdone : ∀ i, 237 < i → i < 267 → i ≠ 266 → cf_57 i = ce (GB D bs cy tD tR) (s0 i) i := fun i h1 h2 p_266 => by rw [e_cf_57]; exact (vu_ne (by omega)).trans (hdone i h1 (by omega) )
  have hdone : ∀ i, 237 < i → i < 267 → cf_57 i = ce (GB D bs cy tD tR) (s0 i) i := fun i h1 h2  => by
    by_cases p_266 : i = 266
    · subst p_266; exact hc_266.trans rfl
    · exact hdone i h1 h2 p_266
  have hw : CW D cy bs 267 [(cy 12, .int), (cy 13, .boolean)] cf_57 s H _ 29 := k_tys [0, 1] hw rfl
  refine W.eq (g2 := F0 m 239 ls [.ref (bs + 266), .ref (bs + 237)]) rfl ?_
  refine k_putF (ci := 11) (n := 56) (k := 32) (v := .ref (bs + 266)) (ty := .array (.int)) nty11 X hw (by decide) hc_237 ni11 nk11 nn11 rfl (by decide) tb_938 rfl rfl hin rfl (by decide +kernel) rfl rfl (Nat.le_of_ble_eq_true rfl) d_X11_init_239 (fun H locs hw => ?_)
  have hw : CW D cy bs 267 [(cy 12, .int), (cy 13, .boolean)] (va_up cf_57 237 (.inr (11, [.ref (bs + 238), .ref (bs + 239), .ref (bs + 240), .ref (bs + 241), .ref (bs + 242), .ref (bs + 243), .ref (bs + 244), .ref (bs + 245), .ref (bs + 246), .ref (bs + 247), .ref (bs + 248), .ref (bs + 249), .ref (bs + 250), .ref (bs + 251), .ref (bs + 252), .ref (bs + 253), .ref (bs + 254), .ref (bs + 255), .ref (bs + 256), .int 0, .int 0, .int 0, .int 0, .ref (bs + 257), .ref (bs + 258), .ref (bs + 259), .ref (bs + 260), .ref (bs + 261), .ref (bs + 262), .ref (bs + 263), .ref (bs + 264), .ref (bs + 265), .ref (bs + 266), .null, .null, .null, .null, .null, .null, .int 0, .null, .int 0, .int 0, .null, .null, .int 0, .int 0, .int 0, .int 0, .int 0, .int 0, .int 0, .int 0, .null, .null, .null]))) s H _ 29 := hw
  obtain ⟨cf_58, e_cf_58⟩ : ∃ z : Nat → va_E, z = va_up cf_57 237 (.inr (11, [.ref (bs + 238), .ref (bs + 239), .ref (bs + 240), .ref (bs + 241), .ref (bs + 242), .ref (bs + 243), .ref (bs + 244), .ref (bs + 245), .ref (bs + 246), .ref (bs + 247), .ref (bs + 248), .ref (bs + 249), .ref (bs + 250), .ref (bs + 251), .ref (bs + 252), .ref (bs + 253), .ref (bs + 254), .ref (bs + 255), .ref (bs + 256), .int 0, .int 0, .int 0, .int 0, .ref (bs + 257), .ref (bs + 258), .ref (bs + 259), .ref (bs + 260), .ref (bs + 261), .ref (bs + 262), .ref (bs + 263), .ref (bs + 264), .ref (bs + 265), .ref (bs + 266), .null, .null, .null, .null, .null, .null, .int 0, .null, .int 0, .int 0, .null, .null, .int 0, .int 0, .int 0, .int 0, .int 0, .int 0, .int 0, .int 0, .null, .null, .null])) := ⟨_, rfl⟩
  rw [← e_cf_58] at hw
  have hlow : ∀ i, i < 237 → cf_58 i = cf i := fun i h => by rw [e_cf_58]; exact (vu_ne (by omega)).trans (hlow i h)
  have hc_237 : cf_58 237 = .inr (11, [.ref (bs + 238), .ref (bs + 239), .ref (bs + 240), .ref (bs + 241), .ref (bs + 242), .ref (bs + 243), .ref (bs + 244), .ref (bs + 245), .ref (bs + 246), .ref (bs + 247), .ref (bs + 248), .ref (bs + 249), .ref (bs + 250), .ref (bs + 251), .ref (bs + 252), .ref (bs + 253), .ref (bs + 254), .ref (bs + 255), .ref (bs + 256), .int 0, .int 0, .int 0, .int 0, .ref (bs + 257), .ref (bs + 258), .ref (bs + 259), .ref (bs + 260), .ref (bs + 261), .ref (bs + 262), .ref (bs + 263), .ref (bs + 264), .ref (bs + 265), .ref (bs + 266), .null, .null, .null, .null, .null, .null, .int 0, .null, .int 0, .int 0, .null, .null, .int 0, .int 0, .int 0, .int 0, .int 0, .int 0, .int 0, .int 0, .null, .null, .null]) := by rw [e_cf_58]; exact vu_at
  have hdone : ∀ i, 237 < i → i < 267 → cf_58 i = ce (GB D bs cy tD tR) (s0 i) i := fun i h1 h2  => by rw [e_cf_58]; exact (vu_ne (by omega)).trans (hdone i h1 h2 )
  refine lv_aload_n X.1 X.2.1 d_X11_init_242 rfl (lv_at hl 0 rfl) ?_
  refine lv_bipush (v := 8) X.1 X.2.1 d_X11_init_243 (by decide) ?_
  refine k_newI (N' := 8) X hw (by decide) (by decide) (by decide) (Nat.le_of_ble_eq_true rfl) (Nat.le_of_ble_eq_true rfl) d_X11_init_245 (fun H hw => ?_)
  have hw : CW D cy bs 268 ([(cy 12, .int), (cy 13, .boolean)] ++ [(cy 12, .int)]) _ s H _ 30 := hw
  obtain ⟨cf_59, e_cf_59⟩ : ∃ z : Nat → va_E, z = va_up cf_58 267 (.inl (cy 12, 8, .inl (fun _ => 0))) := ⟨_, rfl⟩
  rw [← e_cf_59] at hw
  have hlow : ∀ i, i < 237 → cf_59 i = cf i := fun i h => by rw [e_cf_59]; exact (vu_ne (by omega)).trans (hlow i h)
  have hc_237 : cf_59 237 = .inr (11, [.ref (bs + 238), .ref (bs + 239), .ref (bs + 240), .ref (bs + 241), .ref (bs + 242), .ref (bs + 243), .ref (bs + 244), .ref (bs + 245), .ref (bs + 246), .ref (bs + 247), .ref (bs + 248), .ref (bs + 249), .ref (bs + 250), .ref (bs + 251), .ref (bs + 252), .ref (bs + 253), .ref (bs + 254), .ref (bs + 255), .ref (bs + 256), .int 0, .int 0, .int 0, .int 0, .ref (bs + 257), .ref (bs + 258), .ref (bs + 259), .ref (bs + 260), .ref (bs + 261), .ref (bs + 262), .ref (bs + 263), .ref (bs + 264), .ref (bs + 265), .ref (bs + 266), .null, .null, .null, .null, .null, .null, .int 0, .null, .int 0, .int 0, .null, .null, .int 0, .int 0, .int 0, .int 0, .int 0, .int 0, .int 0, .int 0, .null, .null, .null]) := by rw [e_cf_59]; exact (vu_ne (by decide)).trans hc_237
  have hc_267 : cf_59 267 = .inl (cy 12, 8, .inl (fun _ => 0)) := by rw [e_cf_59]; exact vu_at
  have hdone : ∀ i, 237 < i → i < 268 → i ≠ 267 → cf_59 i = ce (GB D bs cy tD tR) (s0 i) i := fun i h1 h2 p_267 => by rw [e_cf_59]; exact (vu_ne (by omega)).trans (hdone i h1 (by omega) )
  have hw : CW D cy bs 268 [(cy 12, .int), (cy 13, .boolean)] cf_59 s H _ 30 := k_tys [0, 1] hw rfl
  refine W.eq (g2 := F0 m 247 ls [.ref (bs + 267), .ref (bs + 237)]) rfl ?_
  refine lv_dup X.1 X.2.1 d_X11_init_247 rfl ?_
  refine lv_iconst (v := 0) X.1 X.2.1 d_X11_init_248 (by decide) ?_
  refine lv_iconst (v := 0) X.1 X.2.1 d_X11_init_249 (by decide) ?_
  refine k_iast 0 X hw (by decide) hc_267 rfl (by unfold vp_in; decide) d_X11_init_250 (fun H locs hw => ?_)
  have hw : CW D cy bs 268 [(cy 12, .int), (cy 13, .boolean)] (va_up cf_59 267 (.inl (cy 12, 8, .inl (upd (fun _ => 0) 0 0)))) s H _ 30 := hw
  obtain ⟨cf_60, e_cf_60⟩ : ∃ z : Nat → va_E, z = va_up cf_59 267 (.inl (cy 12, 8, .inl (upd (fun _ => 0) 0 0))) := ⟨_, rfl⟩
  rw [← e_cf_60] at hw
  have hlow : ∀ i, i < 237 → cf_60 i = cf i := fun i h => by rw [e_cf_60]; exact (vu_ne (by omega)).trans (hlow i h)
  have hc_237 : cf_60 237 = .inr (11, [.ref (bs + 238), .ref (bs + 239), .ref (bs + 240), .ref (bs + 241), .ref (bs + 242), .ref (bs + 243), .ref (bs + 244), .ref (bs + 245), .ref (bs + 246), .ref (bs + 247), .ref (bs + 248), .ref (bs + 249), .ref (bs + 250), .ref (bs + 251), .ref (bs + 252), .ref (bs + 253), .ref (bs + 254), .ref (bs + 255), .ref (bs + 256), .int 0, .int 0, .int 0, .int 0, .ref (bs + 257), .ref (bs + 258), .ref (bs + 259), .ref (bs + 260), .ref (bs + 261), .ref (bs + 262), .ref (bs + 263), .ref (bs + 264), .ref (bs + 265), .ref (bs + 266), .null, .null, .null, .null, .null, .null, .int 0, .null, .int 0, .int 0, .null, .null, .int 0, .int 0, .int 0, .int 0, .int 0, .int 0, .int 0, .int 0, .null, .null, .null]) := by rw [e_cf_60]; exact (vu_ne (by decide)).trans hc_237
  have hc_267 : cf_60 267 = .inl (cy 12, 8, .inl (upd (fun _ => 0) 0 0)) := by rw [e_cf_60]; exact vu_at
  have hdone : ∀ i, 237 < i → i < 268 → i ≠ 267 → cf_60 i = ce (GB D bs cy tD tR) (s0 i) i := fun i h1 h2 p_267 => by rw [e_cf_60]; exact (vu_ne (by omega)).trans (hdone i h1 h2 p_267)
  refine lv_dup X.1 X.2.1 d_X11_init_251 rfl ?_
  refine lv_iconst (v := 1) X.1 X.2.1 d_X11_init_252 (by decide) ?_
  refine lv_iconst (v := 1) X.1 X.2.1 d_X11_init_253 (by decide) ?_
  refine k_iast 0 X hw (by decide) hc_267 rfl (by unfold vp_in; decide) d_X11_init_254 (fun H locs hw => ?_)
  have hw : CW D cy bs 268 [(cy 12, .int), (cy 13, .boolean)] (va_up cf_60 267 (.inl (cy 12, 8, .inl (upd (upd (fun _ => 0) 0 0) 1 1)))) s H _ 30 := hw
  obtain ⟨cf_61, e_cf_61⟩ : ∃ z : Nat → va_E, z = va_up cf_60 267 (.inl (cy 12, 8, .inl (upd (upd (fun _ => 0) 0 0) 1 1))) := ⟨_, rfl⟩
  rw [← e_cf_61] at hw
  have hlow : ∀ i, i < 237 → cf_61 i = cf i := fun i h => by rw [e_cf_61]; exact (vu_ne (by omega)).trans (hlow i h)
  have hc_237 : cf_61 237 = .inr (11, [.ref (bs + 238), .ref (bs + 239), .ref (bs + 240), .ref (bs + 241), .ref (bs + 242), .ref (bs + 243), .ref (bs + 244), .ref (bs + 245), .ref (bs + 246), .ref (bs + 247), .ref (bs + 248), .ref (bs + 249), .ref (bs + 250), .ref (bs + 251), .ref (bs + 252), .ref (bs + 253), .ref (bs + 254), .ref (bs + 255), .ref (bs + 256), .int 0, .int 0, .int 0, .int 0, .ref (bs + 257), .ref (bs + 258), .ref (bs + 259), .ref (bs + 260), .ref (bs + 261), .ref (bs + 262), .ref (bs + 263), .ref (bs + 264), .ref (bs + 265), .ref (bs + 266), .null, .null, .null, .null, .null, .null, .int 0, .null, .int 0, .int 0, .null, .null, .int 0, .int 0, .int 0, .int 0, .int 0, .int 0, .int 0, .int 0, .null, .null, .null]) := by rw [e_cf_61]; exact (vu_ne (by decide)).trans hc_237
  have hc_267 : cf_61 267 = .inl (cy 12, 8, .inl (upd (upd (fun _ => 0) 0 0) 1 1)) := by rw [e_cf_61]; exact vu_at
  have hdone : ∀ i, 237 < i → i < 268 → i ≠ 267 → cf_61 i = ce (GB D bs cy tD tR) (s0 i) i := fun i h1 h2 p_267 => by rw [e_cf_61]; exact (vu_ne (by omega)).trans (hdone i h1 h2 p_267)
  refine lv_dup X.1 X.2.1 d_X11_init_255 rfl ?_
  refine lv_iconst (v := 2) X.1 X.2.1 d_X11_init_256 (by decide) ?_
  refine lv_iconst (v := 0) X.1 X.2.1 d_X11_init_257 (by decide) ?_
  refine k_iast 0 X hw (by decide) hc_267 rfl (by unfold vp_in; decide) d_X11_init_258 (fun H locs hw => ?_)
  have hw : CW D cy bs 268 [(cy 12, .int), (cy 13, .boolean)] (va_up cf_61 267 (.inl (cy 12, 8, .inl (upd (upd (upd (fun _ => 0) 0 0) 1 1) 2 0)))) s H _ 30 := hw
  obtain ⟨cf_62, e_cf_62⟩ : ∃ z : Nat → va_E, z = va_up cf_61 267 (.inl (cy 12, 8, .inl (upd (upd (upd (fun _ => 0) 0 0) 1 1) 2 0))) := ⟨_, rfl⟩
  rw [← e_cf_62] at hw
  have hlow : ∀ i, i < 237 → cf_62 i = cf i := fun i h => by rw [e_cf_62]; exact (vu_ne (by omega)).trans (hlow i h)
  have hc_237 : cf_62 237 = .inr (11, [.ref (bs + 238), .ref (bs + 239), .ref (bs + 240), .ref (bs + 241), .ref (bs + 242), .ref (bs + 243), .ref (bs + 244), .ref (bs + 245), .ref (bs + 246), .ref (bs + 247), .ref (bs + 248), .ref (bs + 249), .ref (bs + 250), .ref (bs + 251), .ref (bs + 252), .ref (bs + 253), .ref (bs + 254), .ref (bs + 255), .ref (bs + 256), .int 0, .int 0, .int 0, .int 0, .ref (bs + 257), .ref (bs + 258), .ref (bs + 259), .ref (bs + 260), .ref (bs + 261), .ref (bs + 262), .ref (bs + 263), .ref (bs + 264), .ref (bs + 265), .ref (bs + 266), .null, .null, .null, .null, .null, .null, .int 0, .null, .int 0, .int 0, .null, .null, .int 0, .int 0, .int 0, .int 0, .int 0, .int 0, .int 0, .int 0, .null, .null, .null]) := by rw [e_cf_62]; exact (vu_ne (by decide)).trans hc_237
  have hc_267 : cf_62 267 = .inl (cy 12, 8, .inl (upd (upd (upd (fun _ => 0) 0 0) 1 1) 2 0)) := by rw [e_cf_62]; exact vu_at
  have hdone : ∀ i, 237 < i → i < 268 → i ≠ 267 → cf_62 i = ce (GB D bs cy tD tR) (s0 i) i := fun i h1 h2 p_267 => by rw [e_cf_62]; exact (vu_ne (by omega)).trans (hdone i h1 h2 p_267)
  refine lv_dup X.1 X.2.1 d_X11_init_259 rfl ?_
  refine lv_iconst (v := 3) X.1 X.2.1 d_X11_init_260 (by decide) ?_
  refine lv_iconst (v := (-1)) X.1 X.2.1 d_X11_init_261 (by decide) ?_
  refine k_iast 0 X hw (by decide) hc_267 rfl (by unfold vp_in; decide) d_X11_init_262 (fun H locs hw => ?_)
  have hw : CW D cy bs 268 [(cy 12, .int), (cy 13, .boolean)] (va_up cf_62 267 (.inl (cy 12, 8, .inl (upd (upd (upd (upd (fun _ => 0) 0 0) 1 1) 2 0) 3 (-1))))) s H _ 30 := hw
  obtain ⟨cf_63, e_cf_63⟩ : ∃ z : Nat → va_E, z = va_up cf_62 267 (.inl (cy 12, 8, .inl (upd (upd (upd (upd (fun _ => 0) 0 0) 1 1) 2 0) 3 (-1)))) := ⟨_, rfl⟩
  rw [← e_cf_63] at hw
  have hlow : ∀ i, i < 237 → cf_63 i = cf i := fun i h => by rw [e_cf_63]; exact (vu_ne (by omega)).trans (hlow i h)
  have hc_237 : cf_63 237 = .inr (11, [.ref (bs + 238), .ref (bs + 239), .ref (bs + 240), .ref (bs + 241), .ref (bs + 242), .ref (bs + 243), .ref (bs + 244), .ref (bs + 245), .ref (bs + 246), .ref (bs + 247), .ref (bs + 248), .ref (bs + 249), .ref (bs + 250), .ref (bs + 251), .ref (bs + 252), .ref (bs + 253), .ref (bs + 254), .ref (bs + 255), .ref (bs + 256), .int 0, .int 0, .int 0, .int 0, .ref (bs + 257), .ref (bs + 258), .ref (bs + 259), .ref (bs + 260), .ref (bs + 261), .ref (bs + 262), .ref (bs + 263), .ref (bs + 264), .ref (bs + 265), .ref (bs + 266), .null, .null, .null, .null, .null, .null, .int 0, .null, .int 0, .int 0, .null, .null, .int 0, .int 0, .int 0, .int 0, .int 0, .int 0, .int 0, .int 0, .null, .null, .null]) := by rw [e_cf_63]; exact (vu_ne (by decide)).trans hc_237
  have hc_267 : cf_63 267 = .inl (cy 12, 8, .inl (upd (upd (upd (upd (fun _ => 0) 0 0) 1 1) 2 0) 3 (-1))) := by rw [e_cf_63]; exact vu_at
  have hdone : ∀ i, 237 < i → i < 268 → i ≠ 267 → cf_63 i = ce (GB D bs cy tD tR) (s0 i) i := fun i h1 h2 p_267 => by rw [e_cf_63]; exact (vu_ne (by omega)).trans (hdone i h1 h2 p_267)
  refine lv_dup X.1 X.2.1 d_X11_init_263 rfl ?_
  refine lv_iconst (v := 4) X.1 X.2.1 d_X11_init_264 (by decide) ?_
  refine lv_iconst (v := 1) X.1 X.2.1 d_X11_init_265 (by decide) ?_
  refine k_iast 0 X hw (by decide) hc_267 rfl (by unfold vp_in; decide) d_X11_init_266 (fun H locs hw => ?_)
  have hw : CW D cy bs 268 [(cy 12, .int), (cy 13, .boolean)] (va_up cf_63 267 (.inl (cy 12, 8, .inl (upd (upd (upd (upd (upd (fun _ => 0) 0 0) 1 1) 2 0) 3 (-1)) 4 1)))) s H _ 30 := hw
  obtain ⟨cf_64, e_cf_64⟩ : ∃ z : Nat → va_E, z = va_up cf_63 267 (.inl (cy 12, 8, .inl (upd (upd (upd (upd (upd (fun _ => 0) 0 0) 1 1) 2 0) 3 (-1)) 4 1))) := ⟨_, rfl⟩
  rw [← e_cf_64] at hw
  have hlow : ∀ i, i < 237 → cf_64 i = cf i := fun i h => by rw [e_cf_64]; exact (vu_ne (by omega)).trans (hlow i h)
  have hc_237 : cf_64 237 = .inr (11, [.ref (bs + 238), .ref (bs + 239), .ref (bs + 240), .ref (bs + 241), .ref (bs + 242), .ref (bs + 243), .ref (bs + 244), .ref (bs + 245), .ref (bs + 246), .ref (bs + 247), .ref (bs + 248), .ref (bs + 249), .ref (bs + 250), .ref (bs + 251), .ref (bs + 252), .ref (bs + 253), .ref (bs + 254), .ref (bs + 255), .ref (bs + 256), .int 0, .int 0, .int 0, .int 0, .ref (bs + 257), .ref (bs + 258), .ref (bs + 259), .ref (bs + 260), .ref (bs + 261), .ref (bs + 262), .ref (bs + 263), .ref (bs + 264), .ref (bs + 265), .ref (bs + 266), .null, .null, .null, .null, .null, .null, .int 0, .null, .int 0, .int 0, .null, .null, .int 0, .int 0, .int 0, .int 0, .int 0, .int 0, .int 0, .int 0, .null, .null, .null]) := by rw [e_cf_64]; exact (vu_ne (by decide)).trans hc_237
  have hc_267 : cf_64 267 = .inl (cy 12, 8, .inl (upd (upd (upd (upd (upd (fun _ => 0) 0 0) 1 1) 2 0) 3 (-1)) 4 1)) := by rw [e_cf_64]; exact vu_at
  have hdone : ∀ i, 237 < i → i < 268 → i ≠ 267 → cf_64 i = ce (GB D bs cy tD tR) (s0 i) i := fun i h1 h2 p_267 => by rw [e_cf_64]; exact (vu_ne (by omega)).trans (hdone i h1 h2 p_267)
  refine lv_dup X.1 X.2.1 d_X11_init_267 rfl ?_
  refine lv_iconst (v := 5) X.1 X.2.1 d_X11_init_268 (by decide) ?_
  refine lv_iconst (v := 1) X.1 X.2.1 d_X11_init_269 (by decide) ?_
  refine k_iast 0 X hw (by decide) hc_267 rfl (by unfold vp_in; decide) d_X11_init_270 (fun H locs hw => ?_)
  have hw : CW D cy bs 268 [(cy 12, .int), (cy 13, .boolean)] (va_up cf_64 267 (.inl (cy 12, 8, .inl (upd (upd (upd (upd (upd (upd (fun _ => 0) 0 0) 1 1) 2 0) 3 (-1)) 4 1) 5 1)))) s H _ 30 := hw
  obtain ⟨cf_65, e_cf_65⟩ : ∃ z : Nat → va_E, z = va_up cf_64 267 (.inl (cy 12, 8, .inl (upd (upd (upd (upd (upd (upd (fun _ => 0) 0 0) 1 1) 2 0) 3 (-1)) 4 1) 5 1))) := ⟨_, rfl⟩
  rw [← e_cf_65] at hw
  have hlow : ∀ i, i < 237 → cf_65 i = cf i := fun i h => by rw [e_cf_65]; exact (vu_ne (by omega)).trans (hlow i h)
  have hc_237 : cf_65 237 = .inr (11, [.ref (bs + 238), .ref (bs + 239), .ref (bs + 240), .ref (bs + 241), .ref (bs + 242), .ref (bs + 243), .ref (bs + 244), .ref (bs + 245), .ref (bs + 246), .ref (bs + 247), .ref (bs + 248), .ref (bs + 249), .ref (bs + 250), .ref (bs + 251), .ref (bs + 252), .ref (bs + 253), .ref (bs + 254), .ref (bs + 255), .ref (bs + 256), .int 0, .int 0, .int 0, .int 0, .ref (bs + 257), .ref (bs + 258), .ref (bs + 259), .ref (bs + 260), .ref (bs + 261), .ref (bs + 262), .ref (bs + 263), .ref (bs + 264), .ref (bs + 265), .ref (bs + 266), .null, .null, .null, .null, .null, .null, .int 0, .null, .int 0, .int 0, .null, .null, .int 0, .int 0, .int 0, .int 0, .int 0, .int 0, .int 0, .int 0, .null, .null, .null]) := by rw [e_cf_65]; exact (vu_ne (by decide)).trans hc_237
  have hc_267 : cf_65 267 = .inl (cy 12, 8, .inl (upd (upd (upd (upd (upd (upd (fun _ => 0) 0 0) 1 1) 2 0) 3 (-1)) 4 1) 5 1)) := by rw [e_cf_65]; exact vu_at
  have hdone : ∀ i, 237 < i → i < 268 → i ≠ 267 → cf_65 i = ce (GB D bs cy tD tR) (s0 i) i := fun i h1 h2 p_267 => by rw [e_cf_65]; exact (vu_ne (by omega)).trans (hdone i h1 h2 p_267)
  refine lv_dup X.1 X.2.1 d_X11_init_271 rfl ?_
  refine lv_bipush (v := 6) X.1 X.2.1 d_X11_init_272 (by decide) ?_
  refine lv_iconst (v := (-1)) X.1 X.2.1 d_X11_init_274 (by decide) ?_
  refine k_iast 0 X hw (by decide) hc_267 rfl (by unfold vp_in; decide) d_X11_init_275 (fun H locs hw => ?_)
  have hw : CW D cy bs 268 [(cy 12, .int), (cy 13, .boolean)] (va_up cf_65 267 (.inl (cy 12, 8, .inl (upd (upd (upd (upd (upd (upd (upd (fun _ => 0) 0 0) 1 1) 2 0) 3 (-1)) 4 1) 5 1) 6 (-1))))) s H _ 30 := hw
  obtain ⟨cf_66, e_cf_66⟩ : ∃ z : Nat → va_E, z = va_up cf_65 267 (.inl (cy 12, 8, .inl (upd (upd (upd (upd (upd (upd (upd (fun _ => 0) 0 0) 1 1) 2 0) 3 (-1)) 4 1) 5 1) 6 (-1)))) := ⟨_, rfl⟩
  rw [← e_cf_66] at hw
  have hlow : ∀ i, i < 237 → cf_66 i = cf i := fun i h => by rw [e_cf_66]; exact (vu_ne (by omega)).trans (hlow i h)
  have hc_237 : cf_66 237 = .inr (11, [.ref (bs + 238), .ref (bs + 239), .ref (bs + 240), .ref (bs + 241), .ref (bs + 242), .ref (bs + 243), .ref (bs + 244), .ref (bs + 245), .ref (bs + 246), .ref (bs + 247), .ref (bs + 248), .ref (bs + 249), .ref (bs + 250), .ref (bs + 251), .ref (bs + 252), .ref (bs + 253), .ref (bs + 254), .ref (bs + 255), .ref (bs + 256), .int 0, .int 0, .int 0, .int 0, .ref (bs + 257), .ref (bs + 258), .ref (bs + 259), .ref (bs + 260), .ref (bs + 261), .ref (bs + 262), .ref (bs + 263), .ref (bs + 264), .ref (bs + 265), .ref (bs + 266), .null, .null, .null, .null, .null, .null, .int 0, .null, .int 0, .int 0, .null, .null, .int 0, .int 0, .int 0, .int 0, .int 0, .int 0, .int 0, .int 0, .null, .null, .null]) := by rw [e_cf_66]; exact (vu_ne (by decide)).trans hc_237
  have hc_267 : cf_66 267 = .inl (cy 12, 8, .inl (upd (upd (upd (upd (upd (upd (upd (fun _ => 0) 0 0) 1 1) 2 0) 3 (-1)) 4 1) 5 1) 6 (-1))) := by rw [e_cf_66]; exact vu_at
  have hdone : ∀ i, 237 < i → i < 268 → i ≠ 267 → cf_66 i = ce (GB D bs cy tD tR) (s0 i) i := fun i h1 h2 p_267 => by rw [e_cf_66]; exact (vu_ne (by omega)).trans (hdone i h1 h2 p_267)
  refine lv_dup X.1 X.2.1 d_X11_init_276 rfl ?_
  refine lv_bipush (v := 7) X.1 X.2.1 d_X11_init_277 (by decide) ?_
  refine lv_iconst (v := (-1)) X.1 X.2.1 d_X11_init_279 (by decide) ?_
  refine k_iast 0 X hw (by decide) hc_267 rfl (by unfold vp_in; decide) d_X11_init_280 (fun H locs hw => ?_)
  have hw : CW D cy bs 268 [(cy 12, .int), (cy 13, .boolean)] (va_up cf_66 267 (.inl (cy 12, 8, .inl (upd (upd (upd (upd (upd (upd (upd (upd (fun _ => 0) 0 0) 1 1) 2 0) 3 (-1)) 4 1) 5 1) 6 (-1)) 7 (-1))))) s H _ 30 := hw
  obtain ⟨cf_67, e_cf_67⟩ : ∃ z : Nat → va_E, z = va_up cf_66 267 (.inl (cy 12, 8, .inl (upd (upd (upd (upd (upd (upd (upd (upd (fun _ => 0) 0 0) 1 1) 2 0) 3 (-1)) 4 1) 5 1) 6 (-1)) 7 (-1)))) := ⟨_, rfl⟩
  rw [← e_cf_67] at hw
  have hlow : ∀ i, i < 237 → cf_67 i = cf i := fun i h => by rw [e_cf_67]; exact (vu_ne (by omega)).trans (hlow i h)
  have hc_237 : cf_67 237 = .inr (11, [.ref (bs + 238), .ref (bs + 239), .ref (bs + 240), .ref (bs + 241), .ref (bs + 242), .ref (bs + 243), .ref (bs + 244), .ref (bs + 245), .ref (bs + 246), .ref (bs + 247), .ref (bs + 248), .ref (bs + 249), .ref (bs + 250), .ref (bs + 251), .ref (bs + 252), .ref (bs + 253), .ref (bs + 254), .ref (bs + 255), .ref (bs + 256), .int 0, .int 0, .int 0, .int 0, .ref (bs + 257), .ref (bs + 258), .ref (bs + 259), .ref (bs + 260), .ref (bs + 261), .ref (bs + 262), .ref (bs + 263), .ref (bs + 264), .ref (bs + 265), .ref (bs + 266), .null, .null, .null, .null, .null, .null, .int 0, .null, .int 0, .int 0, .null, .null, .int 0, .int 0, .int 0, .int 0, .int 0, .int 0, .int 0, .int 0, .null, .null, .null]) := by rw [e_cf_67]; exact (vu_ne (by decide)).trans hc_237
  have hc_267 : cf_67 267 = .inl (cy 12, 8, .inl (upd (upd (upd (upd (upd (upd (upd (upd (fun _ => 0) 0 0) 1 1) 2 0) 3 (-1)) 4 1) 5 1) 6 (-1)) 7 (-1))) := by rw [e_cf_67]; exact vu_at
  have hdone : ∀ i, 237 < i → i < 268 → i ≠ 267 → cf_67 i = ce (GB D bs cy tD tR) (s0 i) i := fun i h1 h2 p_267 => by rw [e_cf_67]; exact (vu_ne (by omega)).trans (hdone i h1 h2 p_267)
  refine k_putF (ci := 11) (n := 56) (k := 33) (v := .ref (bs + 267)) (ty := .array (.int)) nty11 X hw (by decide) hc_237 ni11 nk11 nn11 rfl (by decide) tb_939 rfl rfl hin rfl (by decide +kernel) rfl rfl (Nat.le_of_ble_eq_true rfl) d_X11_init_281 (fun H locs hw => ?_)
  have hw : CW D cy bs 268 [(cy 12, .int), (cy 13, .boolean)] (va_up cf_67 237 (.inr (11, [.ref (bs + 238), .ref (bs + 239), .ref (bs + 240), .ref (bs + 241), .ref (bs + 242), .ref (bs + 243), .ref (bs + 244), .ref (bs + 245), .ref (bs + 246), .ref (bs + 247), .ref (bs + 248), .ref (bs + 249), .ref (bs + 250), .ref (bs + 251), .ref (bs + 252), .ref (bs + 253), .ref (bs + 254), .ref (bs + 255), .ref (bs + 256), .int 0, .int 0, .int 0, .int 0, .ref (bs + 257), .ref (bs + 258), .ref (bs + 259), .ref (bs + 260), .ref (bs + 261), .ref (bs + 262), .ref (bs + 263), .ref (bs + 264), .ref (bs + 265), .ref (bs + 266), .ref (bs + 267), .null, .null, .null, .null, .null, .int 0, .null, .int 0, .int 0, .null, .null, .int 0, .int 0, .int 0, .int 0, .int 0, .int 0, .int 0, .int 0, .null, .null, .null]))) s H _ 30 := hw
  obtain ⟨cf_68, e_cf_68⟩ : ∃ z : Nat → va_E, z = va_up cf_67 237 (.inr (11, [.ref (bs + 238), .ref (bs + 239), .ref (bs + 240), .ref (bs + 241), .ref (bs + 242), .ref (bs + 243), .ref (bs + 244), .ref (bs + 245), .ref (bs + 246), .ref (bs + 247), .ref (bs + 248), .ref (bs + 249), .ref (bs + 250), .ref (bs + 251), .ref (bs + 252), .ref (bs + 253), .ref (bs + 254), .ref (bs + 255), .ref (bs + 256), .int 0, .int 0, .int 0, .int 0, .ref (bs + 257), .ref (bs + 258), .ref (bs + 259), .ref (bs + 260), .ref (bs + 261), .ref (bs + 262), .ref (bs + 263), .ref (bs + 264), .ref (bs + 265), .ref (bs + 266), .ref (bs + 267), .null, .null, .null, .null, .null, .int 0, .null, .int 0, .int 0, .null, .null, .int 0, .int 0, .int 0, .int 0, .int 0, .int 0, .int 0, .int 0, .null, .null, .null])) := ⟨_, rfl⟩
  rw [← e_cf_68] at hw
  have hlow : ∀ i, i < 237 → cf_68 i = cf i := fun i h => by rw [e_cf_68]; exact (vu_ne (by omega)).trans (hlow i h)
  have hc_237 : cf_68 237 = .inr (11, [.ref (bs + 238), .ref (bs + 239), .ref (bs + 240), .ref (bs + 241), .ref (bs + 242), .ref (bs + 243), .ref (bs + 244), .ref (bs + 245), .ref (bs + 246), .ref (bs + 247), .ref (bs + 248), .ref (bs + 249), .ref (bs + 250), .ref (bs + 251), .ref (bs + 252), .ref (bs + 253), .ref (bs + 254), .ref (bs + 255), .ref (bs + 256), .int 0, .int 0, .int 0, .int 0, .ref (bs + 257), .ref (bs + 258), .ref (bs + 259), .ref (bs + 260), .ref (bs + 261), .ref (bs + 262), .ref (bs + 263), .ref (bs + 264), .ref (bs + 265), .ref (bs + 266), .ref (bs + 267), .null, .null, .null, .null, .null, .int 0, .null, .int 0, .int 0, .null, .null, .int 0, .int 0, .int 0, .int 0, .int 0, .int 0, .int 0, .int 0, .null, .null, .null]) := by rw [e_cf_68]; exact vu_at
  have hc_267 : cf_68 267 = .inl (cy 12, 8, .inl (upd (upd (upd (upd (upd (upd (upd (upd (fun _ => 0) 0 0) 1 1) 2 0) 3 (-1)) 4 1) 5 1) 6 (-1)) 7 (-1))) := by rw [e_cf_68]; exact (vu_ne (by decide)).trans hc_267
  have hdone : ∀ i, 237 < i → i < 268 → i ≠ 267 → cf_68 i = ce (GB D bs cy tD tR) (s0 i) i := fun i h1 h2 p_267 => by rw [e_cf_68]; exact (vu_ne (by omega)).trans (hdone i h1 h2 p_267)
  refine lv_aload_n X.1 X.2.1 d_X11_init_284 rfl (lv_at hl 0 rfl) ?_
  refine lv_bipush (v := 8) X.1 X.2.1 d_X11_init_285 (by decide) ?_
  refine k_newI (N' := 8) X hw (by decide) (by decide) (by decide) (Nat.le_of_ble_eq_true rfl) (Nat.le_of_ble_eq_true rfl) d_X11_init_287 (fun H hw => ?_)
  have hw : CW D cy bs 269 ([(cy 12, .int), (cy 13, .boolean)] ++ [(cy 12, .int)]) _ s H _ 31 := hw
  obtain ⟨cf_69, e_cf_69⟩ : ∃ z : Nat → va_E, z = va_up cf_68 268 (.inl (cy 12, 8, .inl (fun _ => 0))) := ⟨_, rfl⟩
  rw [← e_cf_69] at hw
  have hlow : ∀ i, i < 237 → cf_69 i = cf i := fun i h => by rw [e_cf_69]; exact (vu_ne (by omega)).trans (hlow i h)
  have hc_237 : cf_69 237 = .inr (11, [.ref (bs + 238), .ref (bs + 239), .ref (bs + 240), .ref (bs + 241), .ref (bs + 242), .ref (bs + 243), .ref (bs + 244), .ref (bs + 245), .ref (bs + 246), .ref (bs + 247), .ref (bs + 248), .ref (bs + 249), .ref (bs + 250), .ref (bs + 251), .ref (bs + 252), .ref (bs + 253), .ref (bs + 254), .ref (bs + 255), .ref (bs + 256), .int 0, .int 0, .int 0, .int 0, .ref (bs + 257), .ref (bs + 258), .ref (bs + 259), .ref (bs + 260), .ref (bs + 261), .ref (bs + 262), .ref (bs + 263), .ref (bs + 264), .ref (bs + 265), .ref (bs + 266), .ref (bs + 267), .null, .null, .null, .null, .null, .int 0, .null, .int 0, .int 0, .null, .null, .int 0, .int 0, .int 0, .int 0, .int 0, .int 0, .int 0, .int 0, .null, .null, .null]) := by rw [e_cf_69]; exact (vu_ne (by decide)).trans hc_237
  have hc_267 : cf_69 267 = .inl (cy 12, 8, .inl (upd (upd (upd (upd (upd (upd (upd (upd (fun _ => 0) 0 0) 1 1) 2 0) 3 (-1)) 4 1) 5 1) 6 (-1)) 7 (-1))) := by rw [e_cf_69]; exact (vu_ne (by decide)).trans hc_267
  have hc_268 : cf_69 268 = .inl (cy 12, 8, .inl (fun _ => 0)) := by rw [e_cf_69]; exact vu_at
  have hdone : ∀ i, 237 < i → i < 269 → i ≠ 267 → i ≠ 268 → cf_69 i = ce (GB D bs cy tD tR) (s0 i) i := fun i h1 h2 p_267 p_268 => by rw [e_cf_69]; exact (vu_ne (by omega)).trans (hdone i h1 (by omega) p_267)
  have hw : CW D cy bs 269 [(cy 12, .int), (cy 13, .boolean)] cf_69 s H _ 31 := k_tys [0, 1] hw rfl
  refine W.eq (g2 := F0 m 289 ls [.ref (bs + 268), .ref (bs + 237)]) rfl ?_
  refine lv_dup X.1 X.2.1 d_X11_init_289 rfl ?_
  refine lv_iconst (v := 0) X.1 X.2.1 d_X11_init_290 (by decide) ?_
  refine lv_iconst (v := (-1)) X.1 X.2.1 d_X11_init_291 (by decide) ?_
  refine k_iast 0 X hw (by decide) hc_268 rfl (by unfold vp_in; decide) d_X11_init_292 (fun H locs hw => ?_)
  have hw : CW D cy bs 269 [(cy 12, .int), (cy 13, .boolean)] (va_up cf_69 268 (.inl (cy 12, 8, .inl (upd (fun _ => 0) 0 (-1))))) s H _ 31 := hw
  obtain ⟨cf_70, e_cf_70⟩ : ∃ z : Nat → va_E, z = va_up cf_69 268 (.inl (cy 12, 8, .inl (upd (fun _ => 0) 0 (-1)))) := ⟨_, rfl⟩
  rw [← e_cf_70] at hw
  have hlow : ∀ i, i < 237 → cf_70 i = cf i := fun i h => by rw [e_cf_70]; exact (vu_ne (by omega)).trans (hlow i h)
  have hc_237 : cf_70 237 = .inr (11, [.ref (bs + 238), .ref (bs + 239), .ref (bs + 240), .ref (bs + 241), .ref (bs + 242), .ref (bs + 243), .ref (bs + 244), .ref (bs + 245), .ref (bs + 246), .ref (bs + 247), .ref (bs + 248), .ref (bs + 249), .ref (bs + 250), .ref (bs + 251), .ref (bs + 252), .ref (bs + 253), .ref (bs + 254), .ref (bs + 255), .ref (bs + 256), .int 0, .int 0, .int 0, .int 0, .ref (bs + 257), .ref (bs + 258), .ref (bs + 259), .ref (bs + 260), .ref (bs + 261), .ref (bs + 262), .ref (bs + 263), .ref (bs + 264), .ref (bs + 265), .ref (bs + 266), .ref (bs + 267), .null, .null, .null, .null, .null, .int 0, .null, .int 0, .int 0, .null, .null, .int 0, .int 0, .int 0, .int 0, .int 0, .int 0, .int 0, .int 0, .null, .null, .null]) := by rw [e_cf_70]; exact (vu_ne (by decide)).trans hc_237
  have hc_267 : cf_70 267 = .inl (cy 12, 8, .inl (upd (upd (upd (upd (upd (upd (upd (upd (fun _ => 0) 0 0) 1 1) 2 0) 3 (-1)) 4 1) 5 1) 6 (-1)) 7 (-1))) := by rw [e_cf_70]; exact (vu_ne (by decide)).trans hc_267
  have hc_268 : cf_70 268 = .inl (cy 12, 8, .inl (upd (fun _ => 0) 0 (-1))) := by rw [e_cf_70]; exact vu_at
  have hdone : ∀ i, 237 < i → i < 269 → i ≠ 267 → i ≠ 268 → cf_70 i = ce (GB D bs cy tD tR) (s0 i) i := fun i h1 h2 p_267 p_268 => by rw [e_cf_70]; exact (vu_ne (by omega)).trans (hdone i h1 h2 p_267 p_268)
  refine lv_dup X.1 X.2.1 d_X11_init_293 rfl ?_
  refine lv_iconst (v := 1) X.1 X.2.1 d_X11_init_294 (by decide) ?_
  refine lv_iconst (v := 0) X.1 X.2.1 d_X11_init_295 (by decide) ?_
  refine k_iast 0 X hw (by decide) hc_268 rfl (by unfold vp_in; decide) d_X11_init_296 (fun H locs hw => ?_)
  have hw : CW D cy bs 269 [(cy 12, .int), (cy 13, .boolean)] (va_up cf_70 268 (.inl (cy 12, 8, .inl (upd (upd (fun _ => 0) 0 (-1)) 1 0)))) s H _ 31 := hw
  obtain ⟨cf_71, e_cf_71⟩ : ∃ z : Nat → va_E, z = va_up cf_70 268 (.inl (cy 12, 8, .inl (upd (upd (fun _ => 0) 0 (-1)) 1 0))) := ⟨_, rfl⟩
  rw [← e_cf_71] at hw
  have hlow : ∀ i, i < 237 → cf_71 i = cf i := fun i h => by rw [e_cf_71]; exact (vu_ne (by omega)).trans (hlow i h)
  have hc_237 : cf_71 237 = .inr (11, [.ref (bs + 238), .ref (bs + 239), .ref (bs + 240), .ref (bs + 241), .ref (bs + 242), .ref (bs + 243), .ref (bs + 244), .ref (bs + 245), .ref (bs + 246), .ref (bs + 247), .ref (bs + 248), .ref (bs + 249), .ref (bs + 250), .ref (bs + 251), .ref (bs + 252), .ref (bs + 253), .ref (bs + 254), .ref (bs + 255), .ref (bs + 256), .int 0, .int 0, .int 0, .int 0, .ref (bs + 257), .ref (bs + 258), .ref (bs + 259), .ref (bs + 260), .ref (bs + 261), .ref (bs + 262), .ref (bs + 263), .ref (bs + 264), .ref (bs + 265), .ref (bs + 266), .ref (bs + 267), .null, .null, .null, .null, .null, .int 0, .null, .int 0, .int 0, .null, .null, .int 0, .int 0, .int 0, .int 0, .int 0, .int 0, .int 0, .int 0, .null, .null, .null]) := by rw [e_cf_71]; exact (vu_ne (by decide)).trans hc_237
  have hc_267 : cf_71 267 = .inl (cy 12, 8, .inl (upd (upd (upd (upd (upd (upd (upd (upd (fun _ => 0) 0 0) 1 1) 2 0) 3 (-1)) 4 1) 5 1) 6 (-1)) 7 (-1))) := by rw [e_cf_71]; exact (vu_ne (by decide)).trans hc_267
  have hc_268 : cf_71 268 = .inl (cy 12, 8, .inl (upd (upd (fun _ => 0) 0 (-1)) 1 0)) := by rw [e_cf_71]; exact vu_at
  have hdone : ∀ i, 237 < i → i < 269 → i ≠ 267 → i ≠ 268 → cf_71 i = ce (GB D bs cy tD tR) (s0 i) i := fun i h1 h2 p_267 p_268 => by rw [e_cf_71]; exact (vu_ne (by omega)).trans (hdone i h1 h2 p_267 p_268)
  refine lv_dup X.1 X.2.1 d_X11_init_297 rfl ?_
  refine lv_iconst (v := 2) X.1 X.2.1 d_X11_init_298 (by decide) ?_
  refine lv_iconst (v := 1) X.1 X.2.1 d_X11_init_299 (by decide) ?_
  refine k_iast 0 X hw (by decide) hc_268 rfl (by unfold vp_in; decide) d_X11_init_300 (fun H locs hw => ?_)
  have hw : CW D cy bs 269 [(cy 12, .int), (cy 13, .boolean)] (va_up cf_71 268 (.inl (cy 12, 8, .inl (upd (upd (upd (fun _ => 0) 0 (-1)) 1 0) 2 1)))) s H _ 31 := hw
  obtain ⟨cf_72, e_cf_72⟩ : ∃ z : Nat → va_E, z = va_up cf_71 268 (.inl (cy 12, 8, .inl (upd (upd (upd (fun _ => 0) 0 (-1)) 1 0) 2 1))) := ⟨_, rfl⟩
  rw [← e_cf_72] at hw
  have hlow : ∀ i, i < 237 → cf_72 i = cf i := fun i h => by rw [e_cf_72]; exact (vu_ne (by omega)).trans (hlow i h)
  have hc_237 : cf_72 237 = .inr (11, [.ref (bs + 238), .ref (bs + 239), .ref (bs + 240), .ref (bs + 241), .ref (bs + 242), .ref (bs + 243), .ref (bs + 244), .ref (bs + 245), .ref (bs + 246), .ref (bs + 247), .ref (bs + 248), .ref (bs + 249), .ref (bs + 250), .ref (bs + 251), .ref (bs + 252), .ref (bs + 253), .ref (bs + 254), .ref (bs + 255), .ref (bs + 256), .int 0, .int 0, .int 0, .int 0, .ref (bs + 257), .ref (bs + 258), .ref (bs + 259), .ref (bs + 260), .ref (bs + 261), .ref (bs + 262), .ref (bs + 263), .ref (bs + 264), .ref (bs + 265), .ref (bs + 266), .ref (bs + 267), .null, .null, .null, .null, .null, .int 0, .null, .int 0, .int 0, .null, .null, .int 0, .int 0, .int 0, .int 0, .int 0, .int 0, .int 0, .int 0, .null, .null, .null]) := by rw [e_cf_72]; exact (vu_ne (by decide)).trans hc_237
  have hc_267 : cf_72 267 = .inl (cy 12, 8, .inl (upd (upd (upd (upd (upd (upd (upd (upd (fun _ => 0) 0 0) 1 1) 2 0) 3 (-1)) 4 1) 5 1) 6 (-1)) 7 (-1))) := by rw [e_cf_72]; exact (vu_ne (by decide)).trans hc_267
  have hc_268 : cf_72 268 = .inl (cy 12, 8, .inl (upd (upd (upd (fun _ => 0) 0 (-1)) 1 0) 2 1)) := by rw [e_cf_72]; exact vu_at
  have hdone : ∀ i, 237 < i → i < 269 → i ≠ 267 → i ≠ 268 → cf_72 i = ce (GB D bs cy tD tR) (s0 i) i := fun i h1 h2 p_267 p_268 => by rw [e_cf_72]; exact (vu_ne (by omega)).trans (hdone i h1 h2 p_267 p_268)
  refine lv_dup X.1 X.2.1 d_X11_init_301 rfl ?_
  refine lv_iconst (v := 3) X.1 X.2.1 d_X11_init_302 (by decide) ?_
  refine lv_iconst (v := 0) X.1 X.2.1 d_X11_init_303 (by decide) ?_
  refine k_iast 0 X hw (by decide) hc_268 rfl (by unfold vp_in; decide) d_X11_init_304 (fun H locs hw => ?_)
  have hw : CW D cy bs 269 [(cy 12, .int), (cy 13, .boolean)] (va_up cf_72 268 (.inl (cy 12, 8, .inl (upd (upd (upd (upd (fun _ => 0) 0 (-1)) 1 0) 2 1) 3 0)))) s H _ 31 := hw
  obtain ⟨cf_73, e_cf_73⟩ : ∃ z : Nat → va_E, z = va_up cf_72 268 (.inl (cy 12, 8, .inl (upd (upd (upd (upd (fun _ => 0) 0 (-1)) 1 0) 2 1) 3 0))) := ⟨_, rfl⟩
  rw [← e_cf_73] at hw
  have hlow : ∀ i, i < 237 → cf_73 i = cf i := fun i h => by rw [e_cf_73]; exact (vu_ne (by omega)).trans (hlow i h)
  have hc_237 : cf_73 237 = .inr (11, [.ref (bs + 238), .ref (bs + 239), .ref (bs + 240), .ref (bs + 241), .ref (bs + 242), .ref (bs + 243), .ref (bs + 244), .ref (bs + 245), .ref (bs + 246), .ref (bs + 247), .ref (bs + 248), .ref (bs + 249), .ref (bs + 250), .ref (bs + 251), .ref (bs + 252), .ref (bs + 253), .ref (bs + 254), .ref (bs + 255), .ref (bs + 256), .int 0, .int 0, .int 0, .int 0, .ref (bs + 257), .ref (bs + 258), .ref (bs + 259), .ref (bs + 260), .ref (bs + 261), .ref (bs + 262), .ref (bs + 263), .ref (bs + 264), .ref (bs + 265), .ref (bs + 266), .ref (bs + 267), .null, .null, .null, .null, .null, .int 0, .null, .int 0, .int 0, .null, .null, .int 0, .int 0, .int 0, .int 0, .int 0, .int 0, .int 0, .int 0, .null, .null, .null]) := by rw [e_cf_73]; exact (vu_ne (by decide)).trans hc_237
  have hc_267 : cf_73 267 = .inl (cy 12, 8, .inl (upd (upd (upd (upd (upd (upd (upd (upd (fun _ => 0) 0 0) 1 1) 2 0) 3 (-1)) 4 1) 5 1) 6 (-1)) 7 (-1))) := by rw [e_cf_73]; exact (vu_ne (by decide)).trans hc_267
  have hc_268 : cf_73 268 = .inl (cy 12, 8, .inl (upd (upd (upd (upd (fun _ => 0) 0 (-1)) 1 0) 2 1) 3 0)) := by rw [e_cf_73]; exact vu_at
  have hdone : ∀ i, 237 < i → i < 269 → i ≠ 267 → i ≠ 268 → cf_73 i = ce (GB D bs cy tD tR) (s0 i) i := fun i h1 h2 p_267 p_268 => by rw [e_cf_73]; exact (vu_ne (by omega)).trans (hdone i h1 h2 p_267 p_268)
  refine lv_dup X.1 X.2.1 d_X11_init_305 rfl ?_
  refine lv_iconst (v := 4) X.1 X.2.1 d_X11_init_306 (by decide) ?_
  refine lv_iconst (v := (-1)) X.1 X.2.1 d_X11_init_307 (by decide) ?_
  refine k_iast 0 X hw (by decide) hc_268 rfl (by unfold vp_in; decide) d_X11_init_308 (fun H locs hw => ?_)
  have hw : CW D cy bs 269 [(cy 12, .int), (cy 13, .boolean)] (va_up cf_73 268 (.inl (cy 12, 8, .inl (upd (upd (upd (upd (upd (fun _ => 0) 0 (-1)) 1 0) 2 1) 3 0) 4 (-1))))) s H _ 31 := hw
  obtain ⟨cf_74, e_cf_74⟩ : ∃ z : Nat → va_E, z = va_up cf_73 268 (.inl (cy 12, 8, .inl (upd (upd (upd (upd (upd (fun _ => 0) 0 (-1)) 1 0) 2 1) 3 0) 4 (-1)))) := ⟨_, rfl⟩
  rw [← e_cf_74] at hw
  have hlow : ∀ i, i < 237 → cf_74 i = cf i := fun i h => by rw [e_cf_74]; exact (vu_ne (by omega)).trans (hlow i h)
  have hc_237 : cf_74 237 = .inr (11, [.ref (bs + 238), .ref (bs + 239), .ref (bs + 240), .ref (bs + 241), .ref (bs + 242), .ref (bs + 243), .ref (bs + 244), .ref (bs + 245), .ref (bs + 246), .ref (bs + 247), .ref (bs + 248), .ref (bs + 249), .ref (bs + 250), .ref (bs + 251), .ref (bs + 252), .ref (bs + 253), .ref (bs + 254), .ref (bs + 255), .ref (bs + 256), .int 0, .int 0, .int 0, .int 0, .ref (bs + 257), .ref (bs + 258), .ref (bs + 259), .ref (bs + 260), .ref (bs + 261), .ref (bs + 262), .ref (bs + 263), .ref (bs + 264), .ref (bs + 265), .ref (bs + 266), .ref (bs + 267), .null, .null, .null, .null, .null, .int 0, .null, .int 0, .int 0, .null, .null, .int 0, .int 0, .int 0, .int 0, .int 0, .int 0, .int 0, .int 0, .null, .null, .null]) := by rw [e_cf_74]; exact (vu_ne (by decide)).trans hc_237
  have hc_267 : cf_74 267 = .inl (cy 12, 8, .inl (upd (upd (upd (upd (upd (upd (upd (upd (fun _ => 0) 0 0) 1 1) 2 0) 3 (-1)) 4 1) 5 1) 6 (-1)) 7 (-1))) := by rw [e_cf_74]; exact (vu_ne (by decide)).trans hc_267
  have hc_268 : cf_74 268 = .inl (cy 12, 8, .inl (upd (upd (upd (upd (upd (fun _ => 0) 0 (-1)) 1 0) 2 1) 3 0) 4 (-1))) := by rw [e_cf_74]; exact vu_at
  have hdone : ∀ i, 237 < i → i < 269 → i ≠ 267 → i ≠ 268 → cf_74 i = ce (GB D bs cy tD tR) (s0 i) i := fun i h1 h2 p_267 p_268 => by rw [e_cf_74]; exact (vu_ne (by omega)).trans (hdone i h1 h2 p_267 p_268)
  refine lv_dup X.1 X.2.1 d_X11_init_309 rfl ?_
  refine lv_iconst (v := 5) X.1 X.2.1 d_X11_init_310 (by decide) ?_
  refine lv_iconst (v := 1) X.1 X.2.1 d_X11_init_311 (by decide) ?_
  refine k_iast 0 X hw (by decide) hc_268 rfl (by unfold vp_in; decide) d_X11_init_312 (fun H locs hw => ?_)
  have hw : CW D cy bs 269 [(cy 12, .int), (cy 13, .boolean)] (va_up cf_74 268 (.inl (cy 12, 8, .inl (upd (upd (upd (upd (upd (upd (fun _ => 0) 0 (-1)) 1 0) 2 1) 3 0) 4 (-1)) 5 1)))) s H _ 31 := hw
  obtain ⟨cf_75, e_cf_75⟩ : ∃ z : Nat → va_E, z = va_up cf_74 268 (.inl (cy 12, 8, .inl (upd (upd (upd (upd (upd (upd (fun _ => 0) 0 (-1)) 1 0) 2 1) 3 0) 4 (-1)) 5 1))) := ⟨_, rfl⟩
  rw [← e_cf_75] at hw
  have hlow : ∀ i, i < 237 → cf_75 i = cf i := fun i h => by rw [e_cf_75]; exact (vu_ne (by omega)).trans (hlow i h)
  have hc_237 : cf_75 237 = .inr (11, [.ref (bs + 238), .ref (bs + 239), .ref (bs + 240), .ref (bs + 241), .ref (bs + 242), .ref (bs + 243), .ref (bs + 244), .ref (bs + 245), .ref (bs + 246), .ref (bs + 247), .ref (bs + 248), .ref (bs + 249), .ref (bs + 250), .ref (bs + 251), .ref (bs + 252), .ref (bs + 253), .ref (bs + 254), .ref (bs + 255), .ref (bs + 256), .int 0, .int 0, .int 0, .int 0, .ref (bs + 257), .ref (bs + 258), .ref (bs + 259), .ref (bs + 260), .ref (bs + 261), .ref (bs + 262), .ref (bs + 263), .ref (bs + 264), .ref (bs + 265), .ref (bs + 266), .ref (bs + 267), .null, .null, .null, .null, .null, .int 0, .null, .int 0, .int 0, .null, .null, .int 0, .int 0, .int 0, .int 0, .int 0, .int 0, .int 0, .int 0, .null, .null, .null]) := by rw [e_cf_75]; exact (vu_ne (by decide)).trans hc_237
  have hc_267 : cf_75 267 = .inl (cy 12, 8, .inl (upd (upd (upd (upd (upd (upd (upd (upd (fun _ => 0) 0 0) 1 1) 2 0) 3 (-1)) 4 1) 5 1) 6 (-1)) 7 (-1))) := by rw [e_cf_75]; exact (vu_ne (by decide)).trans hc_267
  have hc_268 : cf_75 268 = .inl (cy 12, 8, .inl (upd (upd (upd (upd (upd (upd (fun _ => 0) 0 (-1)) 1 0) 2 1) 3 0) 4 (-1)) 5 1)) := by rw [e_cf_75]; exact vu_at
  have hdone : ∀ i, 237 < i → i < 269 → i ≠ 267 → i ≠ 268 → cf_75 i = ce (GB D bs cy tD tR) (s0 i) i := fun i h1 h2 p_267 p_268 => by rw [e_cf_75]; exact (vu_ne (by omega)).trans (hdone i h1 h2 p_267 p_268)
  refine lv_dup X.1 X.2.1 d_X11_init_313 rfl ?_
  refine lv_bipush (v := 6) X.1 X.2.1 d_X11_init_314 (by decide) ?_
  refine lv_iconst (v := 1) X.1 X.2.1 d_X11_init_316 (by decide) ?_
  refine k_iast 0 X hw (by decide) hc_268 rfl (by unfold vp_in; decide) d_X11_init_317 (fun H locs hw => ?_)
  have hw : CW D cy bs 269 [(cy 12, .int), (cy 13, .boolean)] (va_up cf_75 268 (.inl (cy 12, 8, .inl (upd (upd (upd (upd (upd (upd (upd (fun _ => 0) 0 (-1)) 1 0) 2 1) 3 0) 4 (-1)) 5 1) 6 1)))) s H _ 31 := hw
  obtain ⟨cf_76, e_cf_76⟩ : ∃ z : Nat → va_E, z = va_up cf_75 268 (.inl (cy 12, 8, .inl (upd (upd (upd (upd (upd (upd (upd (fun _ => 0) 0 (-1)) 1 0) 2 1) 3 0) 4 (-1)) 5 1) 6 1))) := ⟨_, rfl⟩
  rw [← e_cf_76] at hw
  have hlow : ∀ i, i < 237 → cf_76 i = cf i := fun i h => by rw [e_cf_76]; exact (vu_ne (by omega)).trans (hlow i h)
  have hc_237 : cf_76 237 = .inr (11, [.ref (bs + 238), .ref (bs + 239), .ref (bs + 240), .ref (bs + 241), .ref (bs + 242), .ref (bs + 243), .ref (bs + 244), .ref (bs + 245), .ref (bs + 246), .ref (bs + 247), .ref (bs + 248), .ref (bs + 249), .ref (bs + 250), .ref (bs + 251), .ref (bs + 252), .ref (bs + 253), .ref (bs + 254), .ref (bs + 255), .ref (bs + 256), .int 0, .int 0, .int 0, .int 0, .ref (bs + 257), .ref (bs + 258), .ref (bs + 259), .ref (bs + 260), .ref (bs + 261), .ref (bs + 262), .ref (bs + 263), .ref (bs + 264), .ref (bs + 265), .ref (bs + 266), .ref (bs + 267), .null, .null, .null, .null, .null, .int 0, .null, .int 0, .int 0, .null, .null, .int 0, .int 0, .int 0, .int 0, .int 0, .int 0, .int 0, .int 0, .null, .null, .null]) := by rw [e_cf_76]; exact (vu_ne (by decide)).trans hc_237
  have hc_267 : cf_76 267 = .inl (cy 12, 8, .inl (upd (upd (upd (upd (upd (upd (upd (upd (fun _ => 0) 0 0) 1 1) 2 0) 3 (-1)) 4 1) 5 1) 6 (-1)) 7 (-1))) := by rw [e_cf_76]; exact (vu_ne (by decide)).trans hc_267
  have hc_268 : cf_76 268 = .inl (cy 12, 8, .inl (upd (upd (upd (upd (upd (upd (upd (fun _ => 0) 0 (-1)) 1 0) 2 1) 3 0) 4 (-1)) 5 1) 6 1)) := by rw [e_cf_76]; exact vu_at
  have hdone : ∀ i, 237 < i → i < 269 → i ≠ 267 → i ≠ 268 → cf_76 i = ce (GB D bs cy tD tR) (s0 i) i := fun i h1 h2 p_267 p_268 => by rw [e_cf_76]; exact (vu_ne (by omega)).trans (hdone i h1 h2 p_267 p_268)
  refine lv_dup X.1 X.2.1 d_X11_init_318 rfl ?_
  refine lv_bipush (v := 7) X.1 X.2.1 d_X11_init_319 (by decide) ?_
  refine lv_iconst (v := (-1)) X.1 X.2.1 d_X11_init_321 (by decide) ?_
  refine k_iast 0 X hw (by decide) hc_268 rfl (by unfold vp_in; decide) d_X11_init_322 (fun H locs hw => ?_)
  have hw : CW D cy bs 269 [(cy 12, .int), (cy 13, .boolean)] (va_up cf_76 268 (.inl (cy 12, 8, .inl (upd (upd (upd (upd (upd (upd (upd (upd (fun _ => 0) 0 (-1)) 1 0) 2 1) 3 0) 4 (-1)) 5 1) 6 1) 7 (-1))))) s H _ 31 := hw
  obtain ⟨cf_77, e_cf_77⟩ : ∃ z : Nat → va_E, z = va_up cf_76 268 (.inl (cy 12, 8, .inl (upd (upd (upd (upd (upd (upd (upd (upd (fun _ => 0) 0 (-1)) 1 0) 2 1) 3 0) 4 (-1)) 5 1) 6 1) 7 (-1)))) := ⟨_, rfl⟩
  rw [← e_cf_77] at hw
  have hlow : ∀ i, i < 237 → cf_77 i = cf i := fun i h => by rw [e_cf_77]; exact (vu_ne (by omega)).trans (hlow i h)
  have hc_237 : cf_77 237 = .inr (11, [.ref (bs + 238), .ref (bs + 239), .ref (bs + 240), .ref (bs + 241), .ref (bs + 242), .ref (bs + 243), .ref (bs + 244), .ref (bs + 245), .ref (bs + 246), .ref (bs + 247), .ref (bs + 248), .ref (bs + 249), .ref (bs + 250), .ref (bs + 251), .ref (bs + 252), .ref (bs + 253), .ref (bs + 254), .ref (bs + 255), .ref (bs + 256), .int 0, .int 0, .int 0, .int 0, .ref (bs + 257), .ref (bs + 258), .ref (bs + 259), .ref (bs + 260), .ref (bs + 261), .ref (bs + 262), .ref (bs + 263), .ref (bs + 264), .ref (bs + 265), .ref (bs + 266), .ref (bs + 267), .null, .null, .null, .null, .null, .int 0, .null, .int 0, .int 0, .null, .null, .int 0, .int 0, .int 0, .int 0, .int 0, .int 0, .int 0, .int 0, .null, .null, .null]) := by rw [e_cf_77]; exact (vu_ne (by decide)).trans hc_237
  have hc_267 : cf_77 267 = .inl (cy 12, 8, .inl (upd (upd (upd (upd (upd (upd (upd (upd (fun _ => 0) 0 0) 1 1) 2 0) 3 (-1)) 4 1) 5 1) 6 (-1)) 7 (-1))) := by rw [e_cf_77]; exact (vu_ne (by decide)).trans hc_267
  have hc_268 : cf_77 268 = .inl (cy 12, 8, .inl (upd (upd (upd (upd (upd (upd (upd (upd (fun _ => 0) 0 (-1)) 1 0) 2 1) 3 0) 4 (-1)) 5 1) 6 1) 7 (-1))) := by rw [e_cf_77]; exact vu_at
  have hdone : ∀ i, 237 < i → i < 269 → i ≠ 267 → i ≠ 268 → cf_77 i = ce (GB D bs cy tD tR) (s0 i) i := fun i h1 h2 p_267 p_268 => by rw [e_cf_77]; exact (vu_ne (by omega)).trans (hdone i h1 h2 p_267 p_268)
  refine k_putF (ci := 11) (n := 56) (k := 34) (v := .ref (bs + 268)) (ty := .array (.int)) nty11 X hw (by decide) hc_237 ni11 nk11 nn11 rfl (by decide) tb_940 rfl rfl hin rfl (by decide +kernel) rfl rfl (Nat.le_of_ble_eq_true rfl) d_X11_init_323 (fun H locs hw => ?_)
  have hw : CW D cy bs 269 [(cy 12, .int), (cy 13, .boolean)] (va_up cf_77 237 (.inr (11, [.ref (bs + 238), .ref (bs + 239), .ref (bs + 240), .ref (bs + 241), .ref (bs + 242), .ref (bs + 243), .ref (bs + 244), .ref (bs + 245), .ref (bs + 246), .ref (bs + 247), .ref (bs + 248), .ref (bs + 249), .ref (bs + 250), .ref (bs + 251), .ref (bs + 252), .ref (bs + 253), .ref (bs + 254), .ref (bs + 255), .ref (bs + 256), .int 0, .int 0, .int 0, .int 0, .ref (bs + 257), .ref (bs + 258), .ref (bs + 259), .ref (bs + 260), .ref (bs + 261), .ref (bs + 262), .ref (bs + 263), .ref (bs + 264), .ref (bs + 265), .ref (bs + 266), .ref (bs + 267), .ref (bs + 268), .null, .null, .null, .null, .int 0, .null, .int 0, .int 0, .null, .null, .int 0, .int 0, .int 0, .int 0, .int 0, .int 0, .int 0, .int 0, .null, .null, .null]))) s H _ 31 := hw
  obtain ⟨cf_78, e_cf_78⟩ : ∃ z : Nat → va_E, z = va_up cf_77 237 (.inr (11, [.ref (bs + 238), .ref (bs + 239), .ref (bs + 240), .ref (bs + 241), .ref (bs + 242), .ref (bs + 243), .ref (bs + 244), .ref (bs + 245), .ref (bs + 246), .ref (bs + 247), .ref (bs + 248), .ref (bs + 249), .ref (bs + 250), .ref (bs + 251), .ref (bs + 252), .ref (bs + 253), .ref (bs + 254), .ref (bs + 255), .ref (bs + 256), .int 0, .int 0, .int 0, .int 0, .ref (bs + 257), .ref (bs + 258), .ref (bs + 259), .ref (bs + 260), .ref (bs + 261), .ref (bs + 262), .ref (bs + 263), .ref (bs + 264), .ref (bs + 265), .ref (bs + 266), .ref (bs + 267), .ref (bs + 268), .null, .null, .null, .null, .int 0, .null, .int 0, .int 0, .null, .null, .int 0, .int 0, .int 0, .int 0, .int 0, .int 0, .int 0, .int 0, .null, .null, .null])) := ⟨_, rfl⟩
  rw [← e_cf_78] at hw
  have hlow : ∀ i, i < 237 → cf_78 i = cf i := fun i h => by rw [e_cf_78]; exact (vu_ne (by omega)).trans (hlow i h)
  have hc_237 : cf_78 237 = .inr (11, [.ref (bs + 238), .ref (bs + 239), .ref (bs + 240), .ref (bs + 241), .ref (bs + 242), .ref (bs + 243), .ref (bs + 244), .ref (bs + 245), .ref (bs + 246), .ref (bs + 247), .ref (bs + 248), .ref (bs + 249), .ref (bs + 250), .ref (bs + 251), .ref (bs + 252), .ref (bs + 253), .ref (bs + 254), .ref (bs + 255), .ref (bs + 256), .int 0, .int 0, .int 0, .int 0, .ref (bs + 257), .ref (bs + 258), .ref (bs + 259), .ref (bs + 260), .ref (bs + 261), .ref (bs + 262), .ref (bs + 263), .ref (bs + 264), .ref (bs + 265), .ref (bs + 266), .ref (bs + 267), .ref (bs + 268), .null, .null, .null, .null, .int 0, .null, .int 0, .int 0, .null, .null, .int 0, .int 0, .int 0, .int 0, .int 0, .int 0, .int 0, .int 0, .null, .null, .null]) := by rw [e_cf_78]; exact vu_at
  have hc_267 : cf_78 267 = .inl (cy 12, 8, .inl (upd (upd (upd (upd (upd (upd (upd (upd (fun _ => 0) 0 0) 1 1) 2 0) 3 (-1)) 4 1) 5 1) 6 (-1)) 7 (-1))) := by rw [e_cf_78]; exact (vu_ne (by decide)).trans hc_267
  have hc_268 : cf_78 268 = .inl (cy 12, 8, .inl (upd (upd (upd (upd (upd (upd (upd (upd (fun _ => 0) 0 (-1)) 1 0) 2 1) 3 0) 4 (-1)) 5 1) 6 1) 7 (-1))) := by rw [e_cf_78]; exact (vu_ne (by decide)).trans hc_268
  have hdone : ∀ i, 237 < i → i < 269 → i ≠ 267 → i ≠ 268 → cf_78 i = ce (GB D bs cy tD tR) (s0 i) i := fun i h1 h2 p_267 p_268 => by rw [e_cf_78]; exact (vu_ne (by omega)).trans (hdone i h1 h2 p_267 p_268)
  refine lv_aload_n X.1 X.2.1 d_X11_init_326 rfl (lv_at hl 0 rfl) ?_
  refine lv_bipush (v := 16) X.1 X.2.1 d_X11_init_327 (by decide) ?_
  refine k_newZ (N' := 16) X hw (by decide) (by decide) (by decide) (Nat.le_of_ble_eq_true rfl) (Nat.le_of_ble_eq_true rfl) d_X11_init_329 (fun H hw => ?_)
  have hw : CW D cy bs 270 ([(cy 12, .int), (cy 13, .boolean)] ++ [(cy 13, .boolean)]) _ s H _ 32 := hw
  obtain ⟨cf_79, e_cf_79⟩ : ∃ z : Nat → va_E, z = va_up cf_78 269 (.inl (cy 13, 16, .inl (fun _ => 0))) := ⟨_, rfl⟩
  rw [← e_cf_79] at hw
  have hlow : ∀ i, i < 237 → cf_79 i = cf i := fun i h => by rw [e_cf_79]; exact (vu_ne (by omega)).trans (hlow i h)
  have hc_237 : cf_79 237 = .inr (11, [.ref (bs + 238), .ref (bs + 239), .ref (bs + 240), .ref (bs + 241), .ref (bs + 242), .ref (bs + 243), .ref (bs + 244), .ref (bs + 245), .ref (bs + 246), .ref (bs + 247), .ref (bs + 248), .ref (bs + 249), .ref (bs + 250), .ref (bs + 251), .ref (bs + 252), .ref (bs + 253), .ref (bs + 254), .ref (bs + 255), .ref (bs + 256), .int 0, .int 0, .int 0, .int 0, .ref (bs + 257), .ref (bs + 258), .ref (bs + 259), .ref (bs + 260), .ref (bs + 261), .ref (bs + 262), .ref (bs + 263), .ref (bs + 264), .ref (bs + 265), .ref (bs + 266), .ref (bs + 267), .ref (bs + 268), .null, .null, .null, .null, .int 0, .null, .int 0, .int 0, .null, .null, .int 0, .int 0, .int 0, .int 0, .int 0, .int 0, .int 0, .int 0, .null, .null, .null]) := by rw [e_cf_79]; exact (vu_ne (by decide)).trans hc_237
  have hc_267 : cf_79 267 = .inl (cy 12, 8, .inl (upd (upd (upd (upd (upd (upd (upd (upd (fun _ => 0) 0 0) 1 1) 2 0) 3 (-1)) 4 1) 5 1) 6 (-1)) 7 (-1))) := by rw [e_cf_79]; exact (vu_ne (by decide)).trans hc_267
  have hc_268 : cf_79 268 = .inl (cy 12, 8, .inl (upd (upd (upd (upd (upd (upd (upd (upd (fun _ => 0) 0 (-1)) 1 0) 2 1) 3 0) 4 (-1)) 5 1) 6 1) 7 (-1))) := by rw [e_cf_79]; exact (vu_ne (by decide)).trans hc_268
  have hc_269 : cf_79 269 = .inl (cy 13, 16, .inl (fun _ => 0)) := by rw [e_cf_79]; exact vu_at
  have hdone : ∀ i, 237 < i → i < 270 → i ≠ 267 → i ≠ 268 → i ≠ 269 → cf_79 i = ce (GB D bs cy tD tR) (s0 i) i := fun i h1 h2 p_267 p_268 p_269 => by rw [e_cf_79]; exact (vu_ne (by omega)).trans (hdone i h1 (by omega) p_267 p_268)
  have hdone : ∀ i, 237 < i → i < 270 → i ≠ 267 → i ≠ 268 → cf_79 i = ce (GB D bs cy tD tR) (s0 i) i := fun i h1 h2 p_267 p_268 => by
    by_cases p_269 : i = 269
    · subst p_269; exact hc_269.trans rfl
    · exact hdone i h1 h2 p_267 p_268 p_269
  have hw : CW D cy bs 270 [(cy 12, .int), (cy 13, .boolean)] cf_79 s H _ 32 := k_tys [0, 1] hw rfl
  refine W.eq (g2 := F0 m 331 ls [.ref (bs + 269), .ref (bs + 237)]) rfl ?_
  refine k_putF (ci := 11) (n := 56) (k := 35) (v := .ref (bs + 269)) (ty := .array (.boolean)) nty11 X hw (by decide) hc_237 ni11 nk11 nn11 rfl (by decide) tb_941 rfl rfl hin rfl (by decide +kernel) rfl rfl (Nat.le_of_ble_eq_true rfl) d_X11_init_331 (fun H locs hw => ?_)
  have hw : CW D cy bs 270 [(cy 12, .int), (cy 13, .boolean)] (va_up cf_79 237 (.inr (11, [.ref (bs + 238), .ref (bs + 239), .ref (bs + 240), .ref (bs + 241), .ref (bs + 242), .ref (bs + 243), .ref (bs + 244), .ref (bs + 245), .ref (bs + 246), .ref (bs + 247), .ref (bs + 248), .ref (bs + 249), .ref (bs + 250), .ref (bs + 251), .ref (bs + 252), .ref (bs + 253), .ref (bs + 254), .ref (bs + 255), .ref (bs + 256), .int 0, .int 0, .int 0, .int 0, .ref (bs + 257), .ref (bs + 258), .ref (bs + 259), .ref (bs + 260), .ref (bs + 261), .ref (bs + 262), .ref (bs + 263), .ref (bs + 264), .ref (bs + 265), .ref (bs + 266), .ref (bs + 267), .ref (bs + 268), .ref (bs + 269), .null, .null, .null, .int 0, .null, .int 0, .int 0, .null, .null, .int 0, .int 0, .int 0, .int 0, .int 0, .int 0, .int 0, .int 0, .null, .null, .null]))) s H _ 32 := hw
  obtain ⟨cf_80, e_cf_80⟩ : ∃ z : Nat → va_E, z = va_up cf_79 237 (.inr (11, [.ref (bs + 238), .ref (bs + 239), .ref (bs + 240), .ref (bs + 241), .ref (bs + 242), .ref (bs + 243), .ref (bs + 244), .ref (bs + 245), .ref (bs + 246), .ref (bs + 247), .ref (bs + 248), .ref (bs + 249), .ref (bs + 250), .ref (bs + 251), .ref (bs + 252), .ref (bs + 253), .ref (bs + 254), .ref (bs + 255), .ref (bs + 256), .int 0, .int 0, .int 0, .int 0, .ref (bs + 257), .ref (bs + 258), .ref (bs + 259), .ref (bs + 260), .ref (bs + 261), .ref (bs + 262), .ref (bs + 263), .ref (bs + 264), .ref (bs + 265), .ref (bs + 266), .ref (bs + 267), .ref (bs + 268), .ref (bs + 269), .null, .null, .null, .int 0, .null, .int 0, .int 0, .null, .null, .int 0, .int 0, .int 0, .int 0, .int 0, .int 0, .int 0, .int 0, .null, .null, .null])) := ⟨_, rfl⟩
  rw [← e_cf_80] at hw
  have hlow : ∀ i, i < 237 → cf_80 i = cf i := fun i h => by rw [e_cf_80]; exact (vu_ne (by omega)).trans (hlow i h)
  have hc_237 : cf_80 237 = .inr (11, [.ref (bs + 238), .ref (bs + 239), .ref (bs + 240), .ref (bs + 241), .ref (bs + 242), .ref (bs + 243), .ref (bs + 244), .ref (bs + 245), .ref (bs + 246), .ref (bs + 247), .ref (bs + 248), .ref (bs + 249), .ref (bs + 250), .ref (bs + 251), .ref (bs + 252), .ref (bs + 253), .ref (bs + 254), .ref (bs + 255), .ref (bs + 256), .int 0, .int 0, .int 0, .int 0, .ref (bs + 257), .ref (bs + 258), .ref (bs + 259), .ref (bs + 260), .ref (bs + 261), .ref (bs + 262), .ref (bs + 263), .ref (bs + 264), .ref (bs + 265), .ref (bs + 266), .ref (bs + 267), .ref (bs + 268), .ref (bs + 269), .null, .null, .null, .int 0, .null, .int 0, .int 0, .null, .null, .int 0, .int 0, .int 0, .int 0, .int 0, .int 0, .int 0, .int 0, .null, .null, .null]) := by rw [e_cf_80]; exact vu_at
  have hc_267 : cf_80 267 = .inl (cy 12, 8, .inl (upd (upd (upd (upd (upd (upd (upd (upd (fun _ => 0) 0 0) 1 1) 2 0) 3 (-1)) 4 1) 5 1) 6 (-1)) 7 (-1))) := by rw [e_cf_80]; exact (vu_ne (by decide)).trans hc_267
  have hc_268 : cf_80 268 = .inl (cy 12, 8, .inl (upd (upd (upd (upd (upd (upd (upd (upd (fun _ => 0) 0 (-1)) 1 0) 2 1) 3 0) 4 (-1)) 5 1) 6 1) 7 (-1))) := by rw [e_cf_80]; exact (vu_ne (by decide)).trans hc_268
  have hdone : ∀ i, 237 < i → i < 270 → i ≠ 267 → i ≠ 268 → cf_80 i = ce (GB D bs cy tD tR) (s0 i) i := fun i h1 h2 p_267 p_268 => by rw [e_cf_80]; exact (vu_ne (by omega)).trans (hdone i h1 h2 p_267 p_268)
  refine lv_aload_n X.1 X.2.1 d_X11_init_334 rfl (lv_at hl 0 rfl) ?_
  refine lv_bipush (v := 9) X.1 X.2.1 d_X11_init_335 (by decide) ?_
  refine k_newI (N' := 9) X hw (by decide) (by decide) (by decide) (Nat.le_of_ble_eq_true rfl) (Nat.le_of_ble_eq_true rfl) d_X11_init_337 (fun H hw => ?_)
  have hw : CW D cy bs 271 ([(cy 12, .int), (cy 13, .boolean)] ++ [(cy 12, .int)]) _ s H _ 33 := hw
  obtain ⟨cf_81, e_cf_81⟩ : ∃ z : Nat → va_E, z = va_up cf_80 270 (.inl (cy 12, 9, .inl (fun _ => 0))) := ⟨_, rfl⟩
  rw [← e_cf_81] at hw
  have hlow : ∀ i, i < 237 → cf_81 i = cf i := fun i h => by rw [e_cf_81]; exact (vu_ne (by omega)).trans (hlow i h)
  have hc_237 : cf_81 237 = .inr (11, [.ref (bs + 238), .ref (bs + 239), .ref (bs + 240), .ref (bs + 241), .ref (bs + 242), .ref (bs + 243), .ref (bs + 244), .ref (bs + 245), .ref (bs + 246), .ref (bs + 247), .ref (bs + 248), .ref (bs + 249), .ref (bs + 250), .ref (bs + 251), .ref (bs + 252), .ref (bs + 253), .ref (bs + 254), .ref (bs + 255), .ref (bs + 256), .int 0, .int 0, .int 0, .int 0, .ref (bs + 257), .ref (bs + 258), .ref (bs + 259), .ref (bs + 260), .ref (bs + 261), .ref (bs + 262), .ref (bs + 263), .ref (bs + 264), .ref (bs + 265), .ref (bs + 266), .ref (bs + 267), .ref (bs + 268), .ref (bs + 269), .null, .null, .null, .int 0, .null, .int 0, .int 0, .null, .null, .int 0, .int 0, .int 0, .int 0, .int 0, .int 0, .int 0, .int 0, .null, .null, .null]) := by rw [e_cf_81]; exact (vu_ne (by decide)).trans hc_237
  have hc_267 : cf_81 267 = .inl (cy 12, 8, .inl (upd (upd (upd (upd (upd (upd (upd (upd (fun _ => 0) 0 0) 1 1) 2 0) 3 (-1)) 4 1) 5 1) 6 (-1)) 7 (-1))) := by rw [e_cf_81]; exact (vu_ne (by decide)).trans hc_267
  have hc_268 : cf_81 268 = .inl (cy 12, 8, .inl (upd (upd (upd (upd (upd (upd (upd (upd (fun _ => 0) 0 (-1)) 1 0) 2 1) 3 0) 4 (-1)) 5 1) 6 1) 7 (-1))) := by rw [e_cf_81]; exact (vu_ne (by decide)).trans hc_268
  have hc_270 : cf_81 270 = .inl (cy 12, 9, .inl (fun _ => 0)) := by rw [e_cf_81]; exact vu_at
  have hdone : ∀ i, 237 < i → i < 271 → i ≠ 267 → i ≠ 268 → i ≠ 270 → cf_81 i = ce (GB D bs cy tD tR) (s0 i) i := fun i h1 h2 p_267 p_268 p_270 => by rw [e_cf_81]; exact (vu_ne (by omega)).trans (hdone i h1 (by omega) p_267 p_268)
  have hdone : ∀ i, 237 < i → i < 271 → i ≠ 267 → i ≠ 268 → cf_81 i = ce (GB D bs cy tD tR) (s0 i) i := fun i h1 h2 p_267 p_268 => by
    by_cases p_270 : i = 270
    · subst p_270; exact hc_270.trans rfl
    · exact hdone i h1 h2 p_267 p_268 p_270
  have hw : CW D cy bs 271 [(cy 12, .int), (cy 13, .boolean)] cf_81 s H _ 33 := k_tys [0, 1] hw rfl
  refine W.eq (g2 := F0 m 339 ls [.ref (bs + 270), .ref (bs + 237)]) rfl ?_
  refine k_putF (ci := 11) (n := 56) (k := 36) (v := .ref (bs + 270)) (ty := .array (.int)) nty11 X hw (by decide) hc_237 ni11 nk11 nn11 rfl (by decide) tb_942 rfl rfl hin rfl (by decide +kernel) rfl rfl (Nat.le_of_ble_eq_true rfl) d_X11_init_339 (fun H locs hw => ?_)
  have hw : CW D cy bs 271 [(cy 12, .int), (cy 13, .boolean)] (va_up cf_81 237 (.inr (11, [.ref (bs + 238), .ref (bs + 239), .ref (bs + 240), .ref (bs + 241), .ref (bs + 242), .ref (bs + 243), .ref (bs + 244), .ref (bs + 245), .ref (bs + 246), .ref (bs + 247), .ref (bs + 248), .ref (bs + 249), .ref (bs + 250), .ref (bs + 251), .ref (bs + 252), .ref (bs + 253), .ref (bs + 254), .ref (bs + 255), .ref (bs + 256), .int 0, .int 0, .int 0, .int 0, .ref (bs + 257), .ref (bs + 258), .ref (bs + 259), .ref (bs + 260), .ref (bs + 261), .ref (bs + 262), .ref (bs + 263), .ref (bs + 264), .ref (bs + 265), .ref (bs + 266), .ref (bs + 267), .ref (bs + 268), .ref (bs + 269), .ref (bs + 270), .null, .null, .int 0, .null, .int 0, .int 0, .null, .null, .int 0, .int 0, .int 0, .int 0, .int 0, .int 0, .int 0, .int 0, .null, .null, .null]))) s H _ 33 := hw
  obtain ⟨cf_82, e_cf_82⟩ : ∃ z : Nat → va_E, z = va_up cf_81 237 (.inr (11, [.ref (bs + 238), .ref (bs + 239), .ref (bs + 240), .ref (bs + 241), .ref (bs + 242), .ref (bs + 243), .ref (bs + 244), .ref (bs + 245), .ref (bs + 246), .ref (bs + 247), .ref (bs + 248), .ref (bs + 249), .ref (bs + 250), .ref (bs + 251), .ref (bs + 252), .ref (bs + 253), .ref (bs + 254), .ref (bs + 255), .ref (bs + 256), .int 0, .int 0, .int 0, .int 0, .ref (bs + 257), .ref (bs + 258), .ref (bs + 259), .ref (bs + 260), .ref (bs + 261), .ref (bs + 262), .ref (bs + 263), .ref (bs + 264), .ref (bs + 265), .ref (bs + 266), .ref (bs + 267), .ref (bs + 268), .ref (bs + 269), .ref (bs + 270), .null, .null, .int 0, .null, .int 0, .int 0, .null, .null, .int 0, .int 0, .int 0, .int 0, .int 0, .int 0, .int 0, .int 0, .null, .null, .null])) := ⟨_, rfl⟩
  rw [← e_cf_82] at hw
  have hlow : ∀ i, i < 237 → cf_82 i = cf i := fun i h => by rw [e_cf_82]; exact (vu_ne (by omega)).trans (hlow i h)
  have hc_237 : cf_82 237 = .inr (11, [.ref (bs + 238), .ref (bs + 239), .ref (bs + 240), .ref (bs + 241), .ref (bs + 242), .ref (bs + 243), .ref (bs + 244), .ref (bs + 245), .ref (bs + 246), .ref (bs + 247), .ref (bs + 248), .ref (bs + 249), .ref (bs + 250), .ref (bs + 251), .ref (bs + 252), .ref (bs + 253), .ref (bs + 254), .ref (bs + 255), .ref (bs + 256), .int 0, .int 0, .int 0, .int 0, .ref (bs + 257), .ref (bs + 258), .ref (bs + 259), .ref (bs + 260), .ref (bs + 261), .ref (bs + 262), .ref (bs + 263), .ref (bs + 264), .ref (bs + 265), .ref (bs + 266), .ref (bs + 267), .ref (bs + 268), .ref (bs + 269), .ref (bs + 270), .null, .null, .int 0, .null, .int 0, .int 0, .null, .null, .int 0, .int 0, .int 0, .int 0, .int 0, .int 0, .int 0, .int 0, .null, .null, .null]) := by rw [e_cf_82]; exact vu_at
  have hc_267 : cf_82 267 = .inl (cy 12, 8, .inl (upd (upd (upd (upd (upd (upd (upd (upd (fun _ => 0) 0 0) 1 1) 2 0) 3 (-1)) 4 1) 5 1) 6 (-1)) 7 (-1))) := by rw [e_cf_82]; exact (vu_ne (by decide)).trans hc_267
  have hc_268 : cf_82 268 = .inl (cy 12, 8, .inl (upd (upd (upd (upd (upd (upd (upd (upd (fun _ => 0) 0 (-1)) 1 0) 2 1) 3 0) 4 (-1)) 5 1) 6 1) 7 (-1))) := by rw [e_cf_82]; exact (vu_ne (by decide)).trans hc_268
  have hdone : ∀ i, 237 < i → i < 271 → i ≠ 267 → i ≠ 268 → cf_82 i = ce (GB D bs cy tD tR) (s0 i) i := fun i h1 h2 p_267 p_268 => by rw [e_cf_82]; exact (vu_ne (by omega)).trans (hdone i h1 h2 p_267 p_268)
  refine lv_aload_n X.1 X.2.1 d_X11_init_342 rfl (lv_at hl 0 rfl) ?_
  refine lv_bipush (v := 9) X.1 X.2.1 d_X11_init_343 (by decide) ?_
  refine k_newI (N' := 9) X hw (by decide) (by decide) (by decide) (Nat.le_of_ble_eq_true rfl) (Nat.le_of_ble_eq_true rfl) d_X11_init_345 (fun H hw => ?_)
  have hw : CW D cy bs 272 ([(cy 12, .int), (cy 13, .boolean)] ++ [(cy 12, .int)]) _ s H _ 34 := hw
  obtain ⟨cf_83, e_cf_83⟩ : ∃ z : Nat → va_E, z = va_up cf_82 271 (.inl (cy 12, 9, .inl (fun _ => 0))) := ⟨_, rfl⟩
  rw [← e_cf_83] at hw
  have hlow : ∀ i, i < 237 → cf_83 i = cf i := fun i h => by rw [e_cf_83]; exact (vu_ne (by omega)).trans (hlow i h)
  have hc_237 : cf_83 237 = .inr (11, [.ref (bs + 238), .ref (bs + 239), .ref (bs + 240), .ref (bs + 241), .ref (bs + 242), .ref (bs + 243), .ref (bs + 244), .ref (bs + 245), .ref (bs + 246), .ref (bs + 247), .ref (bs + 248), .ref (bs + 249), .ref (bs + 250), .ref (bs + 251), .ref (bs + 252), .ref (bs + 253), .ref (bs + 254), .ref (bs + 255), .ref (bs + 256), .int 0, .int 0, .int 0, .int 0, .ref (bs + 257), .ref (bs + 258), .ref (bs + 259), .ref (bs + 260), .ref (bs + 261), .ref (bs + 262), .ref (bs + 263), .ref (bs + 264), .ref (bs + 265), .ref (bs + 266), .ref (bs + 267), .ref (bs + 268), .ref (bs + 269), .ref (bs + 270), .null, .null, .int 0, .null, .int 0, .int 0, .null, .null, .int 0, .int 0, .int 0, .int 0, .int 0, .int 0, .int 0, .int 0, .null, .null, .null]) := by rw [e_cf_83]; exact (vu_ne (by decide)).trans hc_237
  have hc_267 : cf_83 267 = .inl (cy 12, 8, .inl (upd (upd (upd (upd (upd (upd (upd (upd (fun _ => 0) 0 0) 1 1) 2 0) 3 (-1)) 4 1) 5 1) 6 (-1)) 7 (-1))) := by rw [e_cf_83]; exact (vu_ne (by decide)).trans hc_267
  have hc_268 : cf_83 268 = .inl (cy 12, 8, .inl (upd (upd (upd (upd (upd (upd (upd (upd (fun _ => 0) 0 (-1)) 1 0) 2 1) 3 0) 4 (-1)) 5 1) 6 1) 7 (-1))) := by rw [e_cf_83]; exact (vu_ne (by decide)).trans hc_268
  have hc_271 : cf_83 271 = .inl (cy 12, 9, .inl (fun _ => 0)) := by rw [e_cf_83]; exact vu_at
  have hdone : ∀ i, 237 < i → i < 272 → i ≠ 267 → i ≠ 268 → i ≠ 271 → cf_83 i = ce (GB D bs cy tD tR) (s0 i) i := fun i h1 h2 p_267 p_268 p_271 => by rw [e_cf_83]; exact (vu_ne (by omega)).trans (hdone i h1 (by omega) p_267 p_268)
  have hdone : ∀ i, 237 < i → i < 272 → i ≠ 267 → i ≠ 268 → cf_83 i = ce (GB D bs cy tD tR) (s0 i) i := fun i h1 h2 p_267 p_268 => by
    by_cases p_271 : i = 271
    · subst p_271; exact hc_271.trans rfl
    · exact hdone i h1 h2 p_267 p_268 p_271
  have hw : CW D cy bs 272 [(cy 12, .int), (cy 13, .boolean)] cf_83 s H _ 34 := k_tys [0, 1] hw rfl
  refine W.eq (g2 := F0 m 347 ls [.ref (bs + 271), .ref (bs + 237)]) rfl ?_
  refine k_putF (ci := 11) (n := 56) (k := 37) (v := .ref (bs + 271)) (ty := .array (.int)) nty11 X hw (by decide) hc_237 ni11 nk11 nn11 rfl (by decide) tb_943 rfl rfl hin rfl (by decide +kernel) rfl rfl (Nat.le_of_ble_eq_true rfl) d_X11_init_347 (fun H locs hw => ?_)
  have hw : CW D cy bs 272 [(cy 12, .int), (cy 13, .boolean)] (va_up cf_83 237 (.inr (11, [.ref (bs + 238), .ref (bs + 239), .ref (bs + 240), .ref (bs + 241), .ref (bs + 242), .ref (bs + 243), .ref (bs + 244), .ref (bs + 245), .ref (bs + 246), .ref (bs + 247), .ref (bs + 248), .ref (bs + 249), .ref (bs + 250), .ref (bs + 251), .ref (bs + 252), .ref (bs + 253), .ref (bs + 254), .ref (bs + 255), .ref (bs + 256), .int 0, .int 0, .int 0, .int 0, .ref (bs + 257), .ref (bs + 258), .ref (bs + 259), .ref (bs + 260), .ref (bs + 261), .ref (bs + 262), .ref (bs + 263), .ref (bs + 264), .ref (bs + 265), .ref (bs + 266), .ref (bs + 267), .ref (bs + 268), .ref (bs + 269), .ref (bs + 270), .ref (bs + 271), .null, .int 0, .null, .int 0, .int 0, .null, .null, .int 0, .int 0, .int 0, .int 0, .int 0, .int 0, .int 0, .int 0, .null, .null, .null]))) s H _ 34 := hw
  obtain ⟨cf_84, e_cf_84⟩ : ∃ z : Nat → va_E, z = va_up cf_83 237 (.inr (11, [.ref (bs + 238), .ref (bs + 239), .ref (bs + 240), .ref (bs + 241), .ref (bs + 242), .ref (bs + 243), .ref (bs + 244), .ref (bs + 245), .ref (bs + 246), .ref (bs + 247), .ref (bs + 248), .ref (bs + 249), .ref (bs + 250), .ref (bs + 251), .ref (bs + 252), .ref (bs + 253), .ref (bs + 254), .ref (bs + 255), .ref (bs + 256), .int 0, .int 0, .int 0, .int 0, .ref (bs + 257), .ref (bs + 258), .ref (bs + 259), .ref (bs + 260), .ref (bs + 261), .ref (bs + 262), .ref (bs + 263), .ref (bs + 264), .ref (bs + 265), .ref (bs + 266), .ref (bs + 267), .ref (bs + 268), .ref (bs + 269), .ref (bs + 270), .ref (bs + 271), .null, .int 0, .null, .int 0, .int 0, .null, .null, .int 0, .int 0, .int 0, .int 0, .int 0, .int 0, .int 0, .int 0, .null, .null, .null])) := ⟨_, rfl⟩
  rw [← e_cf_84] at hw
  have hlow : ∀ i, i < 237 → cf_84 i = cf i := fun i h => by rw [e_cf_84]; exact (vu_ne (by omega)).trans (hlow i h)
  have hc_237 : cf_84 237 = .inr (11, [.ref (bs + 238), .ref (bs + 239), .ref (bs + 240), .ref (bs + 241), .ref (bs + 242), .ref (bs + 243), .ref (bs + 244), .ref (bs + 245), .ref (bs + 246), .ref (bs + 247), .ref (bs + 248), .ref (bs + 249), .ref (bs + 250), .ref (bs + 251), .ref (bs + 252), .ref (bs + 253), .ref (bs + 254), .ref (bs + 255), .ref (bs + 256), .int 0, .int 0, .int 0, .int 0, .ref (bs + 257), .ref (bs + 258), .ref (bs + 259), .ref (bs + 260), .ref (bs + 261), .ref (bs + 262), .ref (bs + 263), .ref (bs + 264), .ref (bs + 265), .ref (bs + 266), .ref (bs + 267), .ref (bs + 268), .ref (bs + 269), .ref (bs + 270), .ref (bs + 271), .null, .int 0, .null, .int 0, .int 0, .null, .null, .int 0, .int 0, .int 0, .int 0, .int 0, .int 0, .int 0, .int 0, .null, .null, .null]) := by rw [e_cf_84]; exact vu_at
  have hc_267 : cf_84 267 = .inl (cy 12, 8, .inl (upd (upd (upd (upd (upd (upd (upd (upd (fun _ => 0) 0 0) 1 1) 2 0) 3 (-1)) 4 1) 5 1) 6 (-1)) 7 (-1))) := by rw [e_cf_84]; exact (vu_ne (by decide)).trans hc_267
  have hc_268 : cf_84 268 = .inl (cy 12, 8, .inl (upd (upd (upd (upd (upd (upd (upd (upd (fun _ => 0) 0 (-1)) 1 0) 2 1) 3 0) 4 (-1)) 5 1) 6 1) 7 (-1))) := by rw [e_cf_84]; exact (vu_ne (by decide)).trans hc_268
  have hdone : ∀ i, 237 < i → i < 272 → i ≠ 267 → i ≠ 268 → cf_84 i = ce (GB D bs cy tD tR) (s0 i) i := fun i h1 h2 p_267 p_268 => by rw [e_cf_84]; exact (vu_ne (by omega)).trans (hdone i h1 h2 p_267 p_268)
  refine lv_aload_n X.1 X.2.1 d_X11_init_350 rfl (lv_at hl 0 rfl) ?_
  refine lv_bipush (v := 8) X.1 X.2.1 d_X11_init_351 (by decide) ?_
  refine k_newI (N' := 8) X hw (by decide) (by decide) (by decide) (Nat.le_of_ble_eq_true rfl) (Nat.le_of_ble_eq_true rfl) d_X11_init_353 (fun H hw => ?_)
  have hw : CW D cy bs 273 ([(cy 12, .int), (cy 13, .boolean)] ++ [(cy 12, .int)]) _ s H _ 35 := hw
  obtain ⟨cf_85, e_cf_85⟩ : ∃ z : Nat → va_E, z = va_up cf_84 272 (.inl (cy 12, 8, .inl (fun _ => 0))) := ⟨_, rfl⟩
  rw [← e_cf_85] at hw
  have hlow : ∀ i, i < 237 → cf_85 i = cf i := fun i h => by rw [e_cf_85]; exact (vu_ne (by omega)).trans (hlow i h)
  have hc_237 : cf_85 237 = .inr (11, [.ref (bs + 238), .ref (bs + 239), .ref (bs + 240), .ref (bs + 241), .ref (bs + 242), .ref (bs + 243), .ref (bs + 244), .ref (bs + 245), .ref (bs + 246), .ref (bs + 247), .ref (bs + 248), .ref (bs + 249), .ref (bs + 250), .ref (bs + 251), .ref (bs + 252), .ref (bs + 253), .ref (bs + 254), .ref (bs + 255), .ref (bs + 256), .int 0, .int 0, .int 0, .int 0, .ref (bs + 257), .ref (bs + 258), .ref (bs + 259), .ref (bs + 260), .ref (bs + 261), .ref (bs + 262), .ref (bs + 263), .ref (bs + 264), .ref (bs + 265), .ref (bs + 266), .ref (bs + 267), .ref (bs + 268), .ref (bs + 269), .ref (bs + 270), .ref (bs + 271), .null, .int 0, .null, .int 0, .int 0, .null, .null, .int 0, .int 0, .int 0, .int 0, .int 0, .int 0, .int 0, .int 0, .null, .null, .null]) := by rw [e_cf_85]; exact (vu_ne (by decide)).trans hc_237
  have hc_267 : cf_85 267 = .inl (cy 12, 8, .inl (upd (upd (upd (upd (upd (upd (upd (upd (fun _ => 0) 0 0) 1 1) 2 0) 3 (-1)) 4 1) 5 1) 6 (-1)) 7 (-1))) := by rw [e_cf_85]; exact (vu_ne (by decide)).trans hc_267
  have hc_268 : cf_85 268 = .inl (cy 12, 8, .inl (upd (upd (upd (upd (upd (upd (upd (upd (fun _ => 0) 0 (-1)) 1 0) 2 1) 3 0) 4 (-1)) 5 1) 6 1) 7 (-1))) := by rw [e_cf_85]; exact (vu_ne (by decide)).trans hc_268
  have hc_272 : cf_85 272 = .inl (cy 12, 8, .inl (fun _ => 0)) := by rw [e_cf_85]; exact vu_at
  have hdone : ∀ i, 237 < i → i < 273 → i ≠ 267 → i ≠ 268 → i ≠ 272 → cf_85 i = ce (GB D bs cy tD tR) (s0 i) i := fun i h1 h2 p_267 p_268 p_272 => by rw [e_cf_85]; exact (vu_ne (by omega)).trans (hdone i h1 (by omega) p_267 p_268)
  have hdone : ∀ i, 237 < i → i < 273 → i ≠ 267 → i ≠ 268 → cf_85 i = ce (GB D bs cy tD tR) (s0 i) i := fun i h1 h2 p_267 p_268 => by
    by_cases p_272 : i = 272
    · subst p_272; exact hc_272.trans rfl
    · exact hdone i h1 h2 p_267 p_268 p_272
  have hw : CW D cy bs 273 [(cy 12, .int), (cy 13, .boolean)] cf_85 s H _ 35 := k_tys [0, 1] hw rfl
  refine W.eq (g2 := F0 m 355 ls [.ref (bs + 272), .ref (bs + 237)]) rfl ?_
  refine k_putF (ci := 11) (n := 56) (k := 38) (v := .ref (bs + 272)) (ty := .array (.int)) nty11 X hw (by decide) hc_237 ni11 nk11 nn11 rfl (by decide) tb_944 rfl rfl hin rfl (by decide +kernel) rfl rfl (Nat.le_of_ble_eq_true rfl) d_X11_init_355 (fun H locs hw => ?_)
  have hw : CW D cy bs 273 [(cy 12, .int), (cy 13, .boolean)] (va_up cf_85 237 (.inr (11, [.ref (bs + 238), .ref (bs + 239), .ref (bs + 240), .ref (bs + 241), .ref (bs + 242), .ref (bs + 243), .ref (bs + 244), .ref (bs + 245), .ref (bs + 246), .ref (bs + 247), .ref (bs + 248), .ref (bs + 249), .ref (bs + 250), .ref (bs + 251), .ref (bs + 252), .ref (bs + 253), .ref (bs + 254), .ref (bs + 255), .ref (bs + 256), .int 0, .int 0, .int 0, .int 0, .ref (bs + 257), .ref (bs + 258), .ref (bs + 259), .ref (bs + 260), .ref (bs + 261), .ref (bs + 262), .ref (bs + 263), .ref (bs + 264), .ref (bs + 265), .ref (bs + 266), .ref (bs + 267), .ref (bs + 268), .ref (bs + 269), .ref (bs + 270), .ref (bs + 271), .ref (bs + 272), .int 0, .null, .int 0, .int 0, .null, .null, .int 0, .int 0, .int 0, .int 0, .int 0, .int 0, .int 0, .int 0, .null, .null, .null]))) s H _ 35 := hw
  obtain ⟨cf_86, e_cf_86⟩ : ∃ z : Nat → va_E, z = va_up cf_85 237 (.inr (11, [.ref (bs + 238), .ref (bs + 239), .ref (bs + 240), .ref (bs + 241), .ref (bs + 242), .ref (bs + 243), .ref (bs + 244), .ref (bs + 245), .ref (bs + 246), .ref (bs + 247), .ref (bs + 248), .ref (bs + 249), .ref (bs + 250), .ref (bs + 251), .ref (bs + 252), .ref (bs + 253), .ref (bs + 254), .ref (bs + 255), .ref (bs + 256), .int 0, .int 0, .int 0, .int 0, .ref (bs + 257), .ref (bs + 258), .ref (bs + 259), .ref (bs + 260), .ref (bs + 261), .ref (bs + 262), .ref (bs + 263), .ref (bs + 264), .ref (bs + 265), .ref (bs + 266), .ref (bs + 267), .ref (bs + 268), .ref (bs + 269), .ref (bs + 270), .ref (bs + 271), .ref (bs + 272), .int 0, .null, .int 0, .int 0, .null, .null, .int 0, .int 0, .int 0, .int 0, .int 0, .int 0, .int 0, .int 0, .null, .null, .null])) := ⟨_, rfl⟩
  rw [← e_cf_86] at hw
  have hlow : ∀ i, i < 237 → cf_86 i = cf i := fun i h => by rw [e_cf_86]; exact (vu_ne (by omega)).trans (hlow i h)
  have hc_237 : cf_86 237 = .inr (11, [.ref (bs + 238), .ref (bs + 239), .ref (bs + 240), .ref (bs + 241), .ref (bs + 242), .ref (bs + 243), .ref (bs + 244), .ref (bs + 245), .ref (bs + 246), .ref (bs + 247), .ref (bs + 248), .ref (bs + 249), .ref (bs + 250), .ref (bs + 251), .ref (bs + 252), .ref (bs + 253), .ref (bs + 254), .ref (bs + 255), .ref (bs + 256), .int 0, .int 0, .int 0, .int 0, .ref (bs + 257), .ref (bs + 258), .ref (bs + 259), .ref (bs + 260), .ref (bs + 261), .ref (bs + 262), .ref (bs + 263), .ref (bs + 264), .ref (bs + 265), .ref (bs + 266), .ref (bs + 267), .ref (bs + 268), .ref (bs + 269), .ref (bs + 270), .ref (bs + 271), .ref (bs + 272), .int 0, .null, .int 0, .int 0, .null, .null, .int 0, .int 0, .int 0, .int 0, .int 0, .int 0, .int 0, .int 0, .null, .null, .null]) := by rw [e_cf_86]; exact vu_at
  have hc_267 : cf_86 267 = .inl (cy 12, 8, .inl (upd (upd (upd (upd (upd (upd (upd (upd (fun _ => 0) 0 0) 1 1) 2 0) 3 (-1)) 4 1) 5 1) 6 (-1)) 7 (-1))) := by rw [e_cf_86]; exact (vu_ne (by decide)).trans hc_267
  have hc_268 : cf_86 268 = .inl (cy 12, 8, .inl (upd (upd (upd (upd (upd (upd (upd (upd (fun _ => 0) 0 (-1)) 1 0) 2 1) 3 0) 4 (-1)) 5 1) 6 1) 7 (-1))) := by rw [e_cf_86]; exact (vu_ne (by decide)).trans hc_268
  have hdone : ∀ i, 237 < i → i < 273 → i ≠ 267 → i ≠ 268 → cf_86 i = ce (GB D bs cy tD tR) (s0 i) i := fun i h1 h2 p_267 p_268 => by rw [e_cf_86]; exact (vu_ne (by omega)).trans (hdone i h1 h2 p_267 p_268)
  refine lv_aload_n X.1 X.2.1 d_X11_init_358 rfl (lv_at hl 0 rfl) ?_
  refine lv_bipush (v := 60) X.1 X.2.1 d_X11_init_359 (by decide) ?_
  refine k_newI (N' := 60) X hw (by decide) (by decide) (by decide) (Nat.le_of_ble_eq_true rfl) (Nat.le_of_ble_eq_true rfl) d_X11_init_361 (fun H hw => ?_)
  have hw : CW D cy bs 274 ([(cy 12, .int), (cy 13, .boolean)] ++ [(cy 12, .int)]) _ s H _ 36 := hw
  obtain ⟨cf_87, e_cf_87⟩ : ∃ z : Nat → va_E, z = va_up cf_86 273 (.inl (cy 12, 60, .inl (fun _ => 0))) := ⟨_, rfl⟩
  rw [← e_cf_87] at hw
  have hlow : ∀ i, i < 237 → cf_87 i = cf i := fun i h => by rw [e_cf_87]; exact (vu_ne (by omega)).trans (hlow i h)
  have hc_237 : cf_87 237 = .inr (11, [.ref (bs + 238), .ref (bs + 239), .ref (bs + 240), .ref (bs + 241), .ref (bs + 242), .ref (bs + 243), .ref (bs + 244), .ref (bs + 245), .ref (bs + 246), .ref (bs + 247), .ref (bs + 248), .ref (bs + 249), .ref (bs + 250), .ref (bs + 251), .ref (bs + 252), .ref (bs + 253), .ref (bs + 254), .ref (bs + 255), .ref (bs + 256), .int 0, .int 0, .int 0, .int 0, .ref (bs + 257), .ref (bs + 258), .ref (bs + 259), .ref (bs + 260), .ref (bs + 261), .ref (bs + 262), .ref (bs + 263), .ref (bs + 264), .ref (bs + 265), .ref (bs + 266), .ref (bs + 267), .ref (bs + 268), .ref (bs + 269), .ref (bs + 270), .ref (bs + 271), .ref (bs + 272), .int 0, .null, .int 0, .int 0, .null, .null, .int 0, .int 0, .int 0, .int 0, .int 0, .int 0, .int 0, .int 0, .null, .null, .null]) := by rw [e_cf_87]; exact (vu_ne (by decide)).trans hc_237
  have hc_267 : cf_87 267 = .inl (cy 12, 8, .inl (upd (upd (upd (upd (upd (upd (upd (upd (fun _ => 0) 0 0) 1 1) 2 0) 3 (-1)) 4 1) 5 1) 6 (-1)) 7 (-1))) := by rw [e_cf_87]; exact (vu_ne (by decide)).trans hc_267
  have hc_268 : cf_87 268 = .inl (cy 12, 8, .inl (upd (upd (upd (upd (upd (upd (upd (upd (fun _ => 0) 0 (-1)) 1 0) 2 1) 3 0) 4 (-1)) 5 1) 6 1) 7 (-1))) := by rw [e_cf_87]; exact (vu_ne (by decide)).trans hc_268
  have hc_273 : cf_87 273 = .inl (cy 12, 60, .inl (fun _ => 0)) := by rw [e_cf_87]; exact vu_at
  have hdone : ∀ i, 237 < i → i < 274 → i ≠ 267 → i ≠ 268 → i ≠ 273 → cf_87 i = ce (GB D bs cy tD tR) (s0 i) i := fun i h1 h2 p_267 p_268 p_273 => by rw [e_cf_87]; exact (vu_ne (by omega)).trans (hdone i h1 (by omega) p_267 p_268)
  have hdone : ∀ i, 237 < i → i < 274 → i ≠ 267 → i ≠ 268 → cf_87 i = ce (GB D bs cy tD tR) (s0 i) i := fun i h1 h2 p_267 p_268 => by
    by_cases p_273 : i = 273
    · subst p_273; exact hc_273.trans rfl
    · exact hdone i h1 h2 p_267 p_268 p_273
  have hw : CW D cy bs 274 [(cy 12, .int), (cy 13, .boolean)] cf_87 s H _ 36 := k_tys [0, 1] hw rfl
  refine W.eq (g2 := F0 m 363 ls [.ref (bs + 273), .ref (bs + 237)]) rfl ?_
  refine k_putF (ci := 11) (n := 56) (k := 40) (v := .ref (bs + 273)) (ty := .array (.int)) nty11 X hw (by decide) hc_237 ni11 nk11 nn11 rfl (by decide) tb_946 rfl rfl hin rfl (by decide +kernel) rfl rfl (Nat.le_of_ble_eq_true rfl) d_X11_init_363 (fun H locs hw => ?_)
  have hw : CW D cy bs 274 [(cy 12, .int), (cy 13, .boolean)] (va_up cf_87 237 (.inr (11, [.ref (bs + 238), .ref (bs + 239), .ref (bs + 240), .ref (bs + 241), .ref (bs + 242), .ref (bs + 243), .ref (bs + 244), .ref (bs + 245), .ref (bs + 246), .ref (bs + 247), .ref (bs + 248), .ref (bs + 249), .ref (bs + 250), .ref (bs + 251), .ref (bs + 252), .ref (bs + 253), .ref (bs + 254), .ref (bs + 255), .ref (bs + 256), .int 0, .int 0, .int 0, .int 0, .ref (bs + 257), .ref (bs + 258), .ref (bs + 259), .ref (bs + 260), .ref (bs + 261), .ref (bs + 262), .ref (bs + 263), .ref (bs + 264), .ref (bs + 265), .ref (bs + 266), .ref (bs + 267), .ref (bs + 268), .ref (bs + 269), .ref (bs + 270), .ref (bs + 271), .ref (bs + 272), .int 0, .ref (bs + 273), .int 0, .int 0, .null, .null, .int 0, .int 0, .int 0, .int 0, .int 0, .int 0, .int 0, .int 0, .null, .null, .null]))) s H _ 36 := hw
  obtain ⟨cf_88, e_cf_88⟩ : ∃ z : Nat → va_E, z = va_up cf_87 237 (.inr (11, [.ref (bs + 238), .ref (bs + 239), .ref (bs + 240), .ref (bs + 241), .ref (bs + 242), .ref (bs + 243), .ref (bs + 244), .ref (bs + 245), .ref (bs + 246), .ref (bs + 247), .ref (bs + 248), .ref (bs + 249), .ref (bs + 250), .ref (bs + 251), .ref (bs + 252), .ref (bs + 253), .ref (bs + 254), .ref (bs + 255), .ref (bs + 256), .int 0, .int 0, .int 0, .int 0, .ref (bs + 257), .ref (bs + 258), .ref (bs + 259), .ref (bs + 260), .ref (bs + 261), .ref (bs + 262), .ref (bs + 263), .ref (bs + 264), .ref (bs + 265), .ref (bs + 266), .ref (bs + 267), .ref (bs + 268), .ref (bs + 269), .ref (bs + 270), .ref (bs + 271), .ref (bs + 272), .int 0, .ref (bs + 273), .int 0, .int 0, .null, .null, .int 0, .int 0, .int 0, .int 0, .int 0, .int 0, .int 0, .int 0, .null, .null, .null])) := ⟨_, rfl⟩
  rw [← e_cf_88] at hw
  have hlow : ∀ i, i < 237 → cf_88 i = cf i := fun i h => by rw [e_cf_88]; exact (vu_ne (by omega)).trans (hlow i h)
  have hc_237 : cf_88 237 = .inr (11, [.ref (bs + 238), .ref (bs + 239), .ref (bs + 240), .ref (bs + 241), .ref (bs + 242), .ref (bs + 243), .ref (bs + 244), .ref (bs + 245), .ref (bs + 246), .ref (bs + 247), .ref (bs + 248), .ref (bs + 249), .ref (bs + 250), .ref (bs + 251), .ref (bs + 252), .ref (bs + 253), .ref (bs + 254), .ref (bs + 255), .ref (bs + 256), .int 0, .int 0, .int 0, .int 0, .ref (bs + 257), .ref (bs + 258), .ref (bs + 259), .ref (bs + 260), .ref (bs + 261), .ref (bs + 262), .ref (bs + 263), .ref (bs + 264), .ref (bs + 265), .ref (bs + 266), .ref (bs + 267), .ref (bs + 268), .ref (bs + 269), .ref (bs + 270), .ref (bs + 271), .ref (bs + 272), .int 0, .ref (bs + 273), .int 0, .int 0, .null, .null, .int 0, .int 0, .int 0, .int 0, .int 0, .int 0, .int 0, .int 0, .null, .null, .null]) := by rw [e_cf_88]; exact vu_at
  have hc_267 : cf_88 267 = .inl (cy 12, 8, .inl (upd (upd (upd (upd (upd (upd (upd (upd (fun _ => 0) 0 0) 1 1) 2 0) 3 (-1)) 4 1) 5 1) 6 (-1)) 7 (-1))) := by rw [e_cf_88]; exact (vu_ne (by decide)).trans hc_267
  have hc_268 : cf_88 268 = .inl (cy 12, 8, .inl (upd (upd (upd (upd (upd (upd (upd (upd (fun _ => 0) 0 (-1)) 1 0) 2 1) 3 0) 4 (-1)) 5 1) 6 1) 7 (-1))) := by rw [e_cf_88]; exact (vu_ne (by decide)).trans hc_268
  have hdone : ∀ i, 237 < i → i < 274 → i ≠ 267 → i ≠ 268 → cf_88 i = ce (GB D bs cy tD tR) (s0 i) i := fun i h1 h2 p_267 p_268 => by rw [e_cf_88]; exact (vu_ne (by omega)).trans (hdone i h1 h2 p_267 p_268)
  refine lv_aload_n X.1 X.2.1 d_X11_init_366 rfl (lv_at hl 0 rfl) ?_
  refine lv_iconst (v := (-1)) X.1 X.2.1 d_X11_init_367 (by decide) ?_
  refine k_put (ci := 11) (n := 56) (k := 41) (v := .int (-1)) (ty := .int) nty11 X hw (by decide) hc_237 ni11 nk11 nn11 rfl (by decide) tb_947 rfl rfl (by decide +kernel) rfl rfl (Nat.le_of_ble_eq_true rfl) d_X11_init_368 (fun H locs hw => ?_)
  have hw : CW D cy bs 274 [(cy 12, .int), (cy 13, .boolean)] (va_up cf_88 237 (.inr (11, [.ref (bs + 238), .ref (bs + 239), .ref (bs + 240), .ref (bs + 241), .ref (bs + 242), .ref (bs + 243), .ref (bs + 244), .ref (bs + 245), .ref (bs + 246), .ref (bs + 247), .ref (bs + 248), .ref (bs + 249), .ref (bs + 250), .ref (bs + 251), .ref (bs + 252), .ref (bs + 253), .ref (bs + 254), .ref (bs + 255), .ref (bs + 256), .int 0, .int 0, .int 0, .int 0, .ref (bs + 257), .ref (bs + 258), .ref (bs + 259), .ref (bs + 260), .ref (bs + 261), .ref (bs + 262), .ref (bs + 263), .ref (bs + 264), .ref (bs + 265), .ref (bs + 266), .ref (bs + 267), .ref (bs + 268), .ref (bs + 269), .ref (bs + 270), .ref (bs + 271), .ref (bs + 272), .int 0, .ref (bs + 273), .int (-1), .int 0, .null, .null, .int 0, .int 0, .int 0, .int 0, .int 0, .int 0, .int 0, .int 0, .null, .null, .null]))) s H _ 36 := hw
  obtain ⟨cf_89, e_cf_89⟩ : ∃ z : Nat → va_E, z = va_up cf_88 237 (.inr (11, [.ref (bs + 238), .ref (bs + 239), .ref (bs + 240), .ref (bs + 241), .ref (bs + 242), .ref (bs + 243), .ref (bs + 244), .ref (bs + 245), .ref (bs + 246), .ref (bs + 247), .ref (bs + 248), .ref (bs + 249), .ref (bs + 250), .ref (bs + 251), .ref (bs + 252), .ref (bs + 253), .ref (bs + 254), .ref (bs + 255), .ref (bs + 256), .int 0, .int 0, .int 0, .int 0, .ref (bs + 257), .ref (bs + 258), .ref (bs + 259), .ref (bs + 260), .ref (bs + 261), .ref (bs + 262), .ref (bs + 263), .ref (bs + 264), .ref (bs + 265), .ref (bs + 266), .ref (bs + 267), .ref (bs + 268), .ref (bs + 269), .ref (bs + 270), .ref (bs + 271), .ref (bs + 272), .int 0, .ref (bs + 273), .int (-1), .int 0, .null, .null, .int 0, .int 0, .int 0, .int 0, .int 0, .int 0, .int 0, .int 0, .null, .null, .null])) := ⟨_, rfl⟩
  rw [← e_cf_89] at hw
  have hlow : ∀ i, i < 237 → cf_89 i = cf i := fun i h => by rw [e_cf_89]; exact (vu_ne (by omega)).trans (hlow i h)
  have hc_237 : cf_89 237 = .inr (11, [.ref (bs + 238), .ref (bs + 239), .ref (bs + 240), .ref (bs + 241), .ref (bs + 242), .ref (bs + 243), .ref (bs + 244), .ref (bs + 245), .ref (bs + 246), .ref (bs + 247), .ref (bs + 248), .ref (bs + 249), .ref (bs + 250), .ref (bs + 251), .ref (bs + 252), .ref (bs + 253), .ref (bs + 254), .ref (bs + 255), .ref (bs + 256), .int 0, .int 0, .int 0, .int 0, .ref (bs + 257), .ref (bs + 258), .ref (bs + 259), .ref (bs + 260), .ref (bs + 261), .ref (bs + 262), .ref (bs + 263), .ref (bs + 264), .ref (bs + 265), .ref (bs + 266), .ref (bs + 267), .ref (bs + 268), .ref (bs + 269), .ref (bs + 270), .ref (bs + 271), .ref (bs + 272), .int 0, .ref (bs + 273), .int (-1), .int 0, .null, .null, .int 0, .int 0, .int 0, .int 0, .int 0, .int 0, .int 0, .int 0, .null, .null, .null]) := by rw [e_cf_89]; exact vu_at
  have hc_267 : cf_89 267 = .inl (cy 12, 8, .inl (upd (upd (upd (upd (upd (upd (upd (upd (fun _ => 0) 0 0) 1 1) 2 0) 3 (-1)) 4 1) 5 1) 6 (-1)) 7 (-1))) := by rw [e_cf_89]; exact (vu_ne (by decide)).trans hc_267
  have hc_268 : cf_89 268 = .inl (cy 12, 8, .inl (upd (upd (upd (upd (upd (upd (upd (upd (fun _ => 0) 0 (-1)) 1 0) 2 1) 3 0) 4 (-1)) 5 1) 6 1) 7 (-1))) := by rw [e_cf_89]; exact (vu_ne (by decide)).trans hc_268
  have hdone : ∀ i, 237 < i → i < 274 → i ≠ 267 → i ≠ 268 → cf_89 i = ce (GB D bs cy tD tR) (s0 i) i := fun i h1 h2 p_267 p_268 => by rw [e_cf_89]; exact (vu_ne (by omega)).trans (hdone i h1 h2 p_267 p_268)
  refine lv_aload_n X.1 X.2.1 d_X11_init_371 rfl (lv_at hl 0 rfl) ?_
  refine lv_bipush (v := 6) X.1 X.2.1 d_X11_init_372 (by decide) ?_
  refine k_newI (N' := 6) X hw (by decide) (by decide) (by decide) (Nat.le_of_ble_eq_true rfl) (Nat.le_of_ble_eq_true rfl) d_X11_init_374 (fun H hw => ?_)
  have hw : CW D cy bs 275 ([(cy 12, .int), (cy 13, .boolean)] ++ [(cy 12, .int)]) _ s H _ 37 := hw
  obtain ⟨cf_90, e_cf_90⟩ : ∃ z : Nat → va_E, z = va_up cf_89 274 (.inl (cy 12, 6, .inl (fun _ => 0))) := ⟨_, rfl⟩
  rw [← e_cf_90] at hw
  have hlow : ∀ i, i < 237 → cf_90 i = cf i := fun i h => by rw [e_cf_90]; exact (vu_ne (by omega)).trans (hlow i h)
  have hc_237 : cf_90 237 = .inr (11, [.ref (bs + 238), .ref (bs + 239), .ref (bs + 240), .ref (bs + 241), .ref (bs + 242), .ref (bs + 243), .ref (bs + 244), .ref (bs + 245), .ref (bs + 246), .ref (bs + 247), .ref (bs + 248), .ref (bs + 249), .ref (bs + 250), .ref (bs + 251), .ref (bs + 252), .ref (bs + 253), .ref (bs + 254), .ref (bs + 255), .ref (bs + 256), .int 0, .int 0, .int 0, .int 0, .ref (bs + 257), .ref (bs + 258), .ref (bs + 259), .ref (bs + 260), .ref (bs + 261), .ref (bs + 262), .ref (bs + 263), .ref (bs + 264), .ref (bs + 265), .ref (bs + 266), .ref (bs + 267), .ref (bs + 268), .ref (bs + 269), .ref (bs + 270), .ref (bs + 271), .ref (bs + 272), .int 0, .ref (bs + 273), .int (-1), .int 0, .null, .null, .int 0, .int 0, .int 0, .int 0, .int 0, .int 0, .int 0, .int 0, .null, .null, .null]) := by rw [e_cf_90]; exact (vu_ne (by decide)).trans hc_237
  have hc_267 : cf_90 267 = .inl (cy 12, 8, .inl (upd (upd (upd (upd (upd (upd (upd (upd (fun _ => 0) 0 0) 1 1) 2 0) 3 (-1)) 4 1) 5 1) 6 (-1)) 7 (-1))) := by rw [e_cf_90]; exact (vu_ne (by decide)).trans hc_267
  have hc_268 : cf_90 268 = .inl (cy 12, 8, .inl (upd (upd (upd (upd (upd (upd (upd (upd (fun _ => 0) 0 (-1)) 1 0) 2 1) 3 0) 4 (-1)) 5 1) 6 1) 7 (-1))) := by rw [e_cf_90]; exact (vu_ne (by decide)).trans hc_268
  have hc_274 : cf_90 274 = .inl (cy 12, 6, .inl (fun _ => 0)) := by rw [e_cf_90]; exact vu_at
  have hdone : ∀ i, 237 < i → i < 275 → i ≠ 267 → i ≠ 268 → i ≠ 274 → cf_90 i = ce (GB D bs cy tD tR) (s0 i) i := fun i h1 h2 p_267 p_268 p_274 => by rw [e_cf_90]; exact (vu_ne (by omega)).trans (hdone i h1 (by omega) p_267 p_268)
  have hdone : ∀ i, 237 < i → i < 275 → i ≠ 267 → i ≠ 268 → cf_90 i = ce (GB D bs cy tD tR) (s0 i) i := fun i h1 h2 p_267 p_268 => by
    by_cases p_274 : i = 274
    · subst p_274; exact hc_274.trans rfl
    · exact hdone i h1 h2 p_267 p_268 p_274
  have hw : CW D cy bs 275 [(cy 12, .int), (cy 13, .boolean)] cf_90 s H _ 37 := k_tys [0, 1] hw rfl
  refine W.eq (g2 := F0 m 376 ls [.ref (bs + 274), .ref (bs + 237)]) rfl ?_
  refine k_putF (ci := 11) (n := 56) (k := 43) (v := .ref (bs + 274)) (ty := .array (.int)) nty11 X hw (by decide) hc_237 ni11 nk11 nn11 rfl (by decide) tb_949 rfl rfl hin rfl (by decide +kernel) rfl rfl (Nat.le_of_ble_eq_true rfl) d_X11_init_376 (fun H locs hw => ?_)
  have hw : CW D cy bs 275 [(cy 12, .int), (cy 13, .boolean)] (va_up cf_90 237 (.inr (11, [.ref (bs + 238), .ref (bs + 239), .ref (bs + 240), .ref (bs + 241), .ref (bs + 242), .ref (bs + 243), .ref (bs + 244), .ref (bs + 245), .ref (bs + 246), .ref (bs + 247), .ref (bs + 248), .ref (bs + 249), .ref (bs + 250), .ref (bs + 251), .ref (bs + 252), .ref (bs + 253), .ref (bs + 254), .ref (bs + 255), .ref (bs + 256), .int 0, .int 0, .int 0, .int 0, .ref (bs + 257), .ref (bs + 258), .ref (bs + 259), .ref (bs + 260), .ref (bs + 261), .ref (bs + 262), .ref (bs + 263), .ref (bs + 264), .ref (bs + 265), .ref (bs + 266), .ref (bs + 267), .ref (bs + 268), .ref (bs + 269), .ref (bs + 270), .ref (bs + 271), .ref (bs + 272), .int 0, .ref (bs + 273), .int (-1), .int 0, .ref (bs + 274), .null, .int 0, .int 0, .int 0, .int 0, .int 0, .int 0, .int 0, .int 0, .null, .null, .null]))) s H _ 37 := hw
  obtain ⟨cf_91, e_cf_91⟩ : ∃ z : Nat → va_E, z = va_up cf_90 237 (.inr (11, [.ref (bs + 238), .ref (bs + 239), .ref (bs + 240), .ref (bs + 241), .ref (bs + 242), .ref (bs + 243), .ref (bs + 244), .ref (bs + 245), .ref (bs + 246), .ref (bs + 247), .ref (bs + 248), .ref (bs + 249), .ref (bs + 250), .ref (bs + 251), .ref (bs + 252), .ref (bs + 253), .ref (bs + 254), .ref (bs + 255), .ref (bs + 256), .int 0, .int 0, .int 0, .int 0, .ref (bs + 257), .ref (bs + 258), .ref (bs + 259), .ref (bs + 260), .ref (bs + 261), .ref (bs + 262), .ref (bs + 263), .ref (bs + 264), .ref (bs + 265), .ref (bs + 266), .ref (bs + 267), .ref (bs + 268), .ref (bs + 269), .ref (bs + 270), .ref (bs + 271), .ref (bs + 272), .int 0, .ref (bs + 273), .int (-1), .int 0, .ref (bs + 274), .null, .int 0, .int 0, .int 0, .int 0, .int 0, .int 0, .int 0, .int 0, .null, .null, .null])) := ⟨_, rfl⟩
  rw [← e_cf_91] at hw
  have hlow : ∀ i, i < 237 → cf_91 i = cf i := fun i h => by rw [e_cf_91]; exact (vu_ne (by omega)).trans (hlow i h)
  have hc_237 : cf_91 237 = .inr (11, [.ref (bs + 238), .ref (bs + 239), .ref (bs + 240), .ref (bs + 241), .ref (bs + 242), .ref (bs + 243), .ref (bs + 244), .ref (bs + 245), .ref (bs + 246), .ref (bs + 247), .ref (bs + 248), .ref (bs + 249), .ref (bs + 250), .ref (bs + 251), .ref (bs + 252), .ref (bs + 253), .ref (bs + 254), .ref (bs + 255), .ref (bs + 256), .int 0, .int 0, .int 0, .int 0, .ref (bs + 257), .ref (bs + 258), .ref (bs + 259), .ref (bs + 260), .ref (bs + 261), .ref (bs + 262), .ref (bs + 263), .ref (bs + 264), .ref (bs + 265), .ref (bs + 266), .ref (bs + 267), .ref (bs + 268), .ref (bs + 269), .ref (bs + 270), .ref (bs + 271), .ref (bs + 272), .int 0, .ref (bs + 273), .int (-1), .int 0, .ref (bs + 274), .null, .int 0, .int 0, .int 0, .int 0, .int 0, .int 0, .int 0, .int 0, .null, .null, .null]) := by rw [e_cf_91]; exact vu_at
  have hc_267 : cf_91 267 = .inl (cy 12, 8, .inl (upd (upd (upd (upd (upd (upd (upd (upd (fun _ => 0) 0 0) 1 1) 2 0) 3 (-1)) 4 1) 5 1) 6 (-1)) 7 (-1))) := by rw [e_cf_91]; exact (vu_ne (by decide)).trans hc_267
  have hc_268 : cf_91 268 = .inl (cy 12, 8, .inl (upd (upd (upd (upd (upd (upd (upd (upd (fun _ => 0) 0 (-1)) 1 0) 2 1) 3 0) 4 (-1)) 5 1) 6 1) 7 (-1))) := by rw [e_cf_91]; exact (vu_ne (by decide)).trans hc_268
  have hdone : ∀ i, 237 < i → i < 275 → i ≠ 267 → i ≠ 268 → cf_91 i = ce (GB D bs cy tD tR) (s0 i) i := fun i h1 h2 p_267 p_268 => by rw [e_cf_91]; exact (vu_ne (by omega)).trans (hdone i h1 h2 p_267 p_268)
  refine lv_aload_n X.1 X.2.1 d_X11_init_379 rfl (lv_at hl 0 rfl) ?_
  refine lv_bipush (v := 6) X.1 X.2.1 d_X11_init_380 (by decide) ?_
  refine k_newI (N' := 6) X hw (by decide) (by decide) (by decide) (Nat.le_of_ble_eq_true rfl) (Nat.le_of_ble_eq_true rfl) d_X11_init_382 (fun H hw => ?_)
  have hw : CW D cy bs 276 ([(cy 12, .int), (cy 13, .boolean)] ++ [(cy 12, .int)]) _ s H _ 38 := hw
  obtain ⟨cf_92, e_cf_92⟩ : ∃ z : Nat → va_E, z = va_up cf_91 275 (.inl (cy 12, 6, .inl (fun _ => 0))) := ⟨_, rfl⟩
  rw [← e_cf_92] at hw
  have hlow : ∀ i, i < 237 → cf_92 i = cf i := fun i h => by rw [e_cf_92]; exact (vu_ne (by omega)).trans (hlow i h)
  have hc_237 : cf_92 237 = .inr (11, [.ref (bs + 238), .ref (bs + 239), .ref (bs + 240), .ref (bs + 241), .ref (bs + 242), .ref (bs + 243), .ref (bs + 244), .ref (bs + 245), .ref (bs + 246), .ref (bs + 247), .ref (bs + 248), .ref (bs + 249), .ref (bs + 250), .ref (bs + 251), .ref (bs + 252), .ref (bs + 253), .ref (bs + 254), .ref (bs + 255), .ref (bs + 256), .int 0, .int 0, .int 0, .int 0, .ref (bs + 257), .ref (bs + 258), .ref (bs + 259), .ref (bs + 260), .ref (bs + 261), .ref (bs + 262), .ref (bs + 263), .ref (bs + 264), .ref (bs + 265), .ref (bs + 266), .ref (bs + 267), .ref (bs + 268), .ref (bs + 269), .ref (bs + 270), .ref (bs + 271), .ref (bs + 272), .int 0, .ref (bs + 273), .int (-1), .int 0, .ref (bs + 274), .null, .int 0, .int 0, .int 0, .int 0, .int 0, .int 0, .int 0, .int 0, .null, .null, .null]) := by rw [e_cf_92]; exact (vu_ne (by decide)).trans hc_237
  have hc_267 : cf_92 267 = .inl (cy 12, 8, .inl (upd (upd (upd (upd (upd (upd (upd (upd (fun _ => 0) 0 0) 1 1) 2 0) 3 (-1)) 4 1) 5 1) 6 (-1)) 7 (-1))) := by rw [e_cf_92]; exact (vu_ne (by decide)).trans hc_267
  have hc_268 : cf_92 268 = .inl (cy 12, 8, .inl (upd (upd (upd (upd (upd (upd (upd (upd (fun _ => 0) 0 (-1)) 1 0) 2 1) 3 0) 4 (-1)) 5 1) 6 1) 7 (-1))) := by rw [e_cf_92]; exact (vu_ne (by decide)).trans hc_268
  have hc_275 : cf_92 275 = .inl (cy 12, 6, .inl (fun _ => 0)) := by rw [e_cf_92]; exact vu_at
  have hdone : ∀ i, 237 < i → i < 276 → i ≠ 267 → i ≠ 268 → i ≠ 275 → cf_92 i = ce (GB D bs cy tD tR) (s0 i) i := fun i h1 h2 p_267 p_268 p_275 => by rw [e_cf_92]; exact (vu_ne (by omega)).trans (hdone i h1 (by omega) p_267 p_268)
  have hdone : ∀ i, 237 < i → i < 276 → i ≠ 267 → i ≠ 268 → cf_92 i = ce (GB D bs cy tD tR) (s0 i) i := fun i h1 h2 p_267 p_268 => by
    by_cases p_275 : i = 275
    · subst p_275; exact hc_275.trans rfl
    · exact hdone i h1 h2 p_267 p_268 p_275
  have hw : CW D cy bs 276 [(cy 12, .int), (cy 13, .boolean)] cf_92 s H _ 38 := k_tys [0, 1] hw rfl
  refine W.eq (g2 := F0 m 384 ls [.ref (bs + 275), .ref (bs + 237)]) rfl ?_
  refine k_putF (ci := 11) (n := 56) (k := 44) (v := .ref (bs + 275)) (ty := .array (.int)) nty11 X hw (by decide) hc_237 ni11 nk11 nn11 rfl (by decide) tb_950 rfl rfl hin rfl (by decide +kernel) rfl rfl (Nat.le_of_ble_eq_true rfl) d_X11_init_384 (fun H locs hw => ?_)
  have hw : CW D cy bs 276 [(cy 12, .int), (cy 13, .boolean)] (va_up cf_92 237 (.inr (11, [.ref (bs + 238), .ref (bs + 239), .ref (bs + 240), .ref (bs + 241), .ref (bs + 242), .ref (bs + 243), .ref (bs + 244), .ref (bs + 245), .ref (bs + 246), .ref (bs + 247), .ref (bs + 248), .ref (bs + 249), .ref (bs + 250), .ref (bs + 251), .ref (bs + 252), .ref (bs + 253), .ref (bs + 254), .ref (bs + 255), .ref (bs + 256), .int 0, .int 0, .int 0, .int 0, .ref (bs + 257), .ref (bs + 258), .ref (bs + 259), .ref (bs + 260), .ref (bs + 261), .ref (bs + 262), .ref (bs + 263), .ref (bs + 264), .ref (bs + 265), .ref (bs + 266), .ref (bs + 267), .ref (bs + 268), .ref (bs + 269), .ref (bs + 270), .ref (bs + 271), .ref (bs + 272), .int 0, .ref (bs + 273), .int (-1), .int 0, .ref (bs + 274), .ref (bs + 275), .int 0, .int 0, .int 0, .int 0, .int 0, .int 0, .int 0, .int 0, .null, .null, .null]))) s H _ 38 := hw
  obtain ⟨cf_93, e_cf_93⟩ : ∃ z : Nat → va_E, z = va_up cf_92 237 (.inr (11, [.ref (bs + 238), .ref (bs + 239), .ref (bs + 240), .ref (bs + 241), .ref (bs + 242), .ref (bs + 243), .ref (bs + 244), .ref (bs + 245), .ref (bs + 246), .ref (bs + 247), .ref (bs + 248), .ref (bs + 249), .ref (bs + 250), .ref (bs + 251), .ref (bs + 252), .ref (bs + 253), .ref (bs + 254), .ref (bs + 255), .ref (bs + 256), .int 0, .int 0, .int 0, .int 0, .ref (bs + 257), .ref (bs + 258), .ref (bs + 259), .ref (bs + 260), .ref (bs + 261), .ref (bs + 262), .ref (bs + 263), .ref (bs + 264), .ref (bs + 265), .ref (bs + 266), .ref (bs + 267), .ref (bs + 268), .ref (bs + 269), .ref (bs + 270), .ref (bs + 271), .ref (bs + 272), .int 0, .ref (bs + 273), .int (-1), .int 0, .ref (bs + 274), .ref (bs + 275), .int 0, .int 0, .int 0, .int 0, .int 0, .int 0, .int 0, .int 0, .null, .null, .null])) := ⟨_, rfl⟩
  rw [← e_cf_93] at hw
  have hlow : ∀ i, i < 237 → cf_93 i = cf i := fun i h => by rw [e_cf_93]; exact (vu_ne (by omega)).trans (hlow i h)
  have hc_237 : cf_93 237 = .inr (11, [.ref (bs + 238), .ref (bs + 239), .ref (bs + 240), .ref (bs + 241), .ref (bs + 242), .ref (bs + 243), .ref (bs + 244), .ref (bs + 245), .ref (bs + 246), .ref (bs + 247), .ref (bs + 248), .ref (bs + 249), .ref (bs + 250), .ref (bs + 251), .ref (bs + 252), .ref (bs + 253), .ref (bs + 254), .ref (bs + 255), .ref (bs + 256), .int 0, .int 0, .int 0, .int 0, .ref (bs + 257), .ref (bs + 258), .ref (bs + 259), .ref (bs + 260), .ref (bs + 261), .ref (bs + 262), .ref (bs + 263), .ref (bs + 264), .ref (bs + 265), .ref (bs + 266), .ref (bs + 267), .ref (bs + 268), .ref (bs + 269), .ref (bs + 270), .ref (bs + 271), .ref (bs + 272), .int 0, .ref (bs + 273), .int (-1), .int 0, .ref (bs + 274), .ref (bs + 275), .int 0, .int 0, .int 0, .int 0, .int 0, .int 0, .int 0, .int 0, .null, .null, .null]) := by rw [e_cf_93]; exact vu_at
  have hc_267 : cf_93 267 = .inl (cy 12, 8, .inl (upd (upd (upd (upd (upd (upd (upd (upd (fun _ => 0) 0 0) 1 1) 2 0) 3 (-1)) 4 1) 5 1) 6 (-1)) 7 (-1))) := by rw [e_cf_93]; exact (vu_ne (by decide)).trans hc_267
  have hc_268 : cf_93 268 = .inl (cy 12, 8, .inl (upd (upd (upd (upd (upd (upd (upd (upd (fun _ => 0) 0 (-1)) 1 0) 2 1) 3 0) 4 (-1)) 5 1) 6 1) 7 (-1))) := by rw [e_cf_93]; exact (vu_ne (by decide)).trans hc_268
  have hdone : ∀ i, 237 < i → i < 276 → i ≠ 267 → i ≠ 268 → cf_93 i = ce (GB D bs cy tD tR) (s0 i) i := fun i h1 h2 p_267 p_268 => by rw [e_cf_93]; exact (vu_ne (by omega)).trans (hdone i h1 h2 p_267 p_268)
  refine lv_aload_n X.1 X.2.1 d_X11_init_387 rfl (lv_at hl 0 rfl) ?_
  refine lv_bipush (v := 8) X.1 X.2.1 d_X11_init_388 (by decide) ?_
  refine k_newI (N' := 8) X hw (by decide) (by decide) (by decide) (Nat.le_of_ble_eq_true rfl) (Nat.le_of_ble_eq_true rfl) d_X11_init_390 (fun H hw => ?_)
  have hw : CW D cy bs 277 ([(cy 12, .int), (cy 13, .boolean)] ++ [(cy 12, .int)]) _ s H _ 39 := hw
  obtain ⟨cf_94, e_cf_94⟩ : ∃ z : Nat → va_E, z = va_up cf_93 276 (.inl (cy 12, 8, .inl (fun _ => 0))) := ⟨_, rfl⟩
  rw [← e_cf_94] at hw
  have hlow : ∀ i, i < 237 → cf_94 i = cf i := fun i h => by rw [e_cf_94]; exact (vu_ne (by omega)).trans (hlow i h)
  have hc_237 : cf_94 237 = .inr (11, [.ref (bs + 238), .ref (bs + 239), .ref (bs + 240), .ref (bs + 241), .ref (bs + 242), .ref (bs + 243), .ref (bs + 244), .ref (bs + 245), .ref (bs + 246), .ref (bs + 247), .ref (bs + 248), .ref (bs + 249), .ref (bs + 250), .ref (bs + 251), .ref (bs + 252), .ref (bs + 253), .ref (bs + 254), .ref (bs + 255), .ref (bs + 256), .int 0, .int 0, .int 0, .int 0, .ref (bs + 257), .ref (bs + 258), .ref (bs + 259), .ref (bs + 260), .ref (bs + 261), .ref (bs + 262), .ref (bs + 263), .ref (bs + 264), .ref (bs + 265), .ref (bs + 266), .ref (bs + 267), .ref (bs + 268), .ref (bs + 269), .ref (bs + 270), .ref (bs + 271), .ref (bs + 272), .int 0, .ref (bs + 273), .int (-1), .int 0, .ref (bs + 274), .ref (bs + 275), .int 0, .int 0, .int 0, .int 0, .int 0, .int 0, .int 0, .int 0, .null, .null, .null]) := by rw [e_cf_94]; exact (vu_ne (by decide)).trans hc_237
  have hc_267 : cf_94 267 = .inl (cy 12, 8, .inl (upd (upd (upd (upd (upd (upd (upd (upd (fun _ => 0) 0 0) 1 1) 2 0) 3 (-1)) 4 1) 5 1) 6 (-1)) 7 (-1))) := by rw [e_cf_94]; exact (vu_ne (by decide)).trans hc_267
  have hc_268 : cf_94 268 = .inl (cy 12, 8, .inl (upd (upd (upd (upd (upd (upd (upd (upd (fun _ => 0) 0 (-1)) 1 0) 2 1) 3 0) 4 (-1)) 5 1) 6 1) 7 (-1))) := by rw [e_cf_94]; exact (vu_ne (by decide)).trans hc_268
  have hc_276 : cf_94 276 = .inl (cy 12, 8, .inl (fun _ => 0)) := by rw [e_cf_94]; exact vu_at
  have hdone : ∀ i, 237 < i → i < 277 → i ≠ 267 → i ≠ 268 → i ≠ 276 → cf_94 i = ce (GB D bs cy tD tR) (s0 i) i := fun i h1 h2 p_267 p_268 p_276 => by rw [e_cf_94]; exact (vu_ne (by omega)).trans (hdone i h1 (by omega) p_267 p_268)
  have hdone : ∀ i, 237 < i → i < 277 → i ≠ 267 → i ≠ 268 → cf_94 i = ce (GB D bs cy tD tR) (s0 i) i := fun i h1 h2 p_267 p_268 => by
    by_cases p_276 : i = 276
    · subst p_276; exact hc_276.trans rfl
    · exact hdone i h1 h2 p_267 p_268 p_276
  have hw : CW D cy bs 277 [(cy 12, .int), (cy 13, .boolean)] cf_94 s H _ 39 := k_tys [0, 1] hw rfl
  refine W.eq (g2 := F0 m 392 ls [.ref (bs + 276), .ref (bs + 237)]) rfl ?_
  refine k_putF (ci := 11) (n := 56) (k := 53) (v := .ref (bs + 276)) (ty := .array (.int)) nty11 X hw (by decide) hc_237 ni11 nk11 nn11 rfl (by decide) tb_959 rfl rfl hin rfl (by decide +kernel) rfl rfl (Nat.le_of_ble_eq_true rfl) d_X11_init_392 (fun H locs hw => ?_)
  have hw : CW D cy bs 277 [(cy 12, .int), (cy 13, .boolean)] (va_up cf_94 237 (.inr (11, [.ref (bs + 238), .ref (bs + 239), .ref (bs + 240), .ref (bs + 241), .ref (bs + 242), .ref (bs + 243), .ref (bs + 244), .ref (bs + 245), .ref (bs + 246), .ref (bs + 247), .ref (bs + 248), .ref (bs + 249), .ref (bs + 250), .ref (bs + 251), .ref (bs + 252), .ref (bs + 253), .ref (bs + 254), .ref (bs + 255), .ref (bs + 256), .int 0, .int 0, .int 0, .int 0, .ref (bs + 257), .ref (bs + 258), .ref (bs + 259), .ref (bs + 260), .ref (bs + 261), .ref (bs + 262), .ref (bs + 263), .ref (bs + 264), .ref (bs + 265), .ref (bs + 266), .ref (bs + 267), .ref (bs + 268), .ref (bs + 269), .ref (bs + 270), .ref (bs + 271), .ref (bs + 272), .int 0, .ref (bs + 273), .int (-1), .int 0, .ref (bs + 274), .ref (bs + 275), .int 0, .int 0, .int 0, .int 0, .int 0, .int 0, .int 0, .int 0, .ref (bs + 276), .null, .null]))) s H _ 39 := hw
  obtain ⟨cf_95, e_cf_95⟩ : ∃ z : Nat → va_E, z = va_up cf_94 237 (.inr (11, [.ref (bs + 238), .ref (bs + 239), .ref (bs + 240), .ref (bs + 241), .ref (bs + 242), .ref (bs + 243), .ref (bs + 244), .ref (bs + 245), .ref (bs + 246), .ref (bs + 247), .ref (bs + 248), .ref (bs + 249), .ref (bs + 250), .ref (bs + 251), .ref (bs + 252), .ref (bs + 253), .ref (bs + 254), .ref (bs + 255), .ref (bs + 256), .int 0, .int 0, .int 0, .int 0, .ref (bs + 257), .ref (bs + 258), .ref (bs + 259), .ref (bs + 260), .ref (bs + 261), .ref (bs + 262), .ref (bs + 263), .ref (bs + 264), .ref (bs + 265), .ref (bs + 266), .ref (bs + 267), .ref (bs + 268), .ref (bs + 269), .ref (bs + 270), .ref (bs + 271), .ref (bs + 272), .int 0, .ref (bs + 273), .int (-1), .int 0, .ref (bs + 274), .ref (bs + 275), .int 0, .int 0, .int 0, .int 0, .int 0, .int 0, .int 0, .int 0, .ref (bs + 276), .null, .null])) := ⟨_, rfl⟩
  rw [← e_cf_95] at hw
  have hlow : ∀ i, i < 237 → cf_95 i = cf i := fun i h => by rw [e_cf_95]; exact (vu_ne (by omega)).trans (hlow i h)
  have hc_237 : cf_95 237 = .inr (11, [.ref (bs + 238), .ref (bs + 239), .ref (bs + 240), .ref (bs + 241), .ref (bs + 242), .ref (bs + 243), .ref (bs + 244), .ref (bs + 245), .ref (bs + 246), .ref (bs + 247), .ref (bs + 248), .ref (bs + 249), .ref (bs + 250), .ref (bs + 251), .ref (bs + 252), .ref (bs + 253), .ref (bs + 254), .ref (bs + 255), .ref (bs + 256), .int 0, .int 0, .int 0, .int 0, .ref (bs + 257), .ref (bs + 258), .ref (bs + 259), .ref (bs + 260), .ref (bs + 261), .ref (bs + 262), .ref (bs + 263), .ref (bs + 264), .ref (bs + 265), .ref (bs + 266), .ref (bs + 267), .ref (bs + 268), .ref (bs + 269), .ref (bs + 270), .ref (bs + 271), .ref (bs + 272), .int 0, .ref (bs + 273), .int (-1), .int 0, .ref (bs + 274), .ref (bs + 275), .int 0, .int 0, .int 0, .int 0, .int 0, .int 0, .int 0, .int 0, .ref (bs + 276), .null, .null]) := by rw [e_cf_95]; exact vu_at
  have hc_267 : cf_95 267 = .inl (cy 12, 8, .inl (upd (upd (upd (upd (upd (upd (upd (upd (fun _ => 0) 0 0) 1 1) 2 0) 3 (-1)) 4 1) 5 1) 6 (-1)) 7 (-1))) := by rw [e_cf_95]; exact (vu_ne (by decide)).trans hc_267
  have hc_268 : cf_95 268 = .inl (cy 12, 8, .inl (upd (upd (upd (upd (upd (upd (upd (upd (fun _ => 0) 0 (-1)) 1 0) 2 1) 3 0) 4 (-1)) 5 1) 6 1) 7 (-1))) := by rw [e_cf_95]; exact (vu_ne (by decide)).trans hc_268
  have hdone : ∀ i, 237 < i → i < 277 → i ≠ 267 → i ≠ 268 → cf_95 i = ce (GB D bs cy tD tR) (s0 i) i := fun i h1 h2 p_267 p_268 => by rw [e_cf_95]; exact (vu_ne (by omega)).trans (hdone i h1 h2 p_267 p_268)
  refine lv_aload_n X.1 X.2.1 d_X11_init_395 rfl (lv_at hl 0 rfl) ?_
  refine lv_bipush (v := 17) X.1 X.2.1 d_X11_init_396 (by decide) ?_
  refine k_newI (N' := 17) X hw (by decide) (by decide) (by decide) (Nat.le_of_ble_eq_true rfl) (Nat.le_of_ble_eq_true rfl) d_X11_init_398 (fun H hw => ?_)
  have hw : CW D cy bs 278 ([(cy 12, .int), (cy 13, .boolean)] ++ [(cy 12, .int)]) _ s H _ 40 := hw
  obtain ⟨cf_96, e_cf_96⟩ : ∃ z : Nat → va_E, z = va_up cf_95 277 (.inl (cy 12, 17, .inl (fun _ => 0))) := ⟨_, rfl⟩
  rw [← e_cf_96] at hw
  have hlow : ∀ i, i < 237 → cf_96 i = cf i := fun i h => by rw [e_cf_96]; exact (vu_ne (by omega)).trans (hlow i h)
  have hc_237 : cf_96 237 = .inr (11, [.ref (bs + 238), .ref (bs + 239), .ref (bs + 240), .ref (bs + 241), .ref (bs + 242), .ref (bs + 243), .ref (bs + 244), .ref (bs + 245), .ref (bs + 246), .ref (bs + 247), .ref (bs + 248), .ref (bs + 249), .ref (bs + 250), .ref (bs + 251), .ref (bs + 252), .ref (bs + 253), .ref (bs + 254), .ref (bs + 255), .ref (bs + 256), .int 0, .int 0, .int 0, .int 0, .ref (bs + 257), .ref (bs + 258), .ref (bs + 259), .ref (bs + 260), .ref (bs + 261), .ref (bs + 262), .ref (bs + 263), .ref (bs + 264), .ref (bs + 265), .ref (bs + 266), .ref (bs + 267), .ref (bs + 268), .ref (bs + 269), .ref (bs + 270), .ref (bs + 271), .ref (bs + 272), .int 0, .ref (bs + 273), .int (-1), .int 0, .ref (bs + 274), .ref (bs + 275), .int 0, .int 0, .int 0, .int 0, .int 0, .int 0, .int 0, .int 0, .ref (bs + 276), .null, .null]) := by rw [e_cf_96]; exact (vu_ne (by decide)).trans hc_237
  have hc_267 : cf_96 267 = .inl (cy 12, 8, .inl (upd (upd (upd (upd (upd (upd (upd (upd (fun _ => 0) 0 0) 1 1) 2 0) 3 (-1)) 4 1) 5 1) 6 (-1)) 7 (-1))) := by rw [e_cf_96]; exact (vu_ne (by decide)).trans hc_267
  have hc_268 : cf_96 268 = .inl (cy 12, 8, .inl (upd (upd (upd (upd (upd (upd (upd (upd (fun _ => 0) 0 (-1)) 1 0) 2 1) 3 0) 4 (-1)) 5 1) 6 1) 7 (-1))) := by rw [e_cf_96]; exact (vu_ne (by decide)).trans hc_268
  have hc_277 : cf_96 277 = .inl (cy 12, 17, .inl (fun _ => 0)) := by rw [e_cf_96]; exact vu_at
  have hdone : ∀ i, 237 < i → i < 278 → i ≠ 267 → i ≠ 268 → i ≠ 277 → cf_96 i = ce (GB D bs cy tD tR) (s0 i) i := fun i h1 h2 p_267 p_268 p_277 => by rw [e_cf_96]; exact (vu_ne (by omega)).trans (hdone i h1 (by omega) p_267 p_268)
  have hw : CW D cy bs 278 [(cy 12, .int), (cy 13, .boolean)] cf_96 s H _ 40 := k_tys [0, 1] hw rfl
  refine W.eq (g2 := F0 m 400 ls [.ref (bs + 277), .ref (bs + 237)]) rfl ?_
  refine k_putF (ci := 11) (n := 56) (k := 54) (v := .ref (bs + 277)) (ty := .array (.int)) nty11 X hw (by decide) hc_237 ni11 nk11 nn11 rfl (by decide) tb_960 rfl rfl hin rfl (by decide +kernel) rfl rfl (Nat.le_of_ble_eq_true rfl) d_X11_init_400 (fun H locs hw => ?_)
  have hw : CW D cy bs 278 [(cy 12, .int), (cy 13, .boolean)] (va_up cf_96 237 (.inr (11, [.ref (bs + 238), .ref (bs + 239), .ref (bs + 240), .ref (bs + 241), .ref (bs + 242), .ref (bs + 243), .ref (bs + 244), .ref (bs + 245), .ref (bs + 246), .ref (bs + 247), .ref (bs + 248), .ref (bs + 249), .ref (bs + 250), .ref (bs + 251), .ref (bs + 252), .ref (bs + 253), .ref (bs + 254), .ref (bs + 255), .ref (bs + 256), .int 0, .int 0, .int 0, .int 0, .ref (bs + 257), .ref (bs + 258), .ref (bs + 259), .ref (bs + 260), .ref (bs + 261), .ref (bs + 262), .ref (bs + 263), .ref (bs + 264), .ref (bs + 265), .ref (bs + 266), .ref (bs + 267), .ref (bs + 268), .ref (bs + 269), .ref (bs + 270), .ref (bs + 271), .ref (bs + 272), .int 0, .ref (bs + 273), .int (-1), .int 0, .ref (bs + 274), .ref (bs + 275), .int 0, .int 0, .int 0, .int 0, .int 0, .int 0, .int 0, .int 0, .ref (bs + 276), .ref (bs + 277), .null]))) s H _ 40 := hw
  obtain ⟨cf_97, e_cf_97⟩ : ∃ z : Nat → va_E, z = va_up cf_96 237 (.inr (11, [.ref (bs + 238), .ref (bs + 239), .ref (bs + 240), .ref (bs + 241), .ref (bs + 242), .ref (bs + 243), .ref (bs + 244), .ref (bs + 245), .ref (bs + 246), .ref (bs + 247), .ref (bs + 248), .ref (bs + 249), .ref (bs + 250), .ref (bs + 251), .ref (bs + 252), .ref (bs + 253), .ref (bs + 254), .ref (bs + 255), .ref (bs + 256), .int 0, .int 0, .int 0, .int 0, .ref (bs + 257), .ref (bs + 258), .ref (bs + 259), .ref (bs + 260), .ref (bs + 261), .ref (bs + 262), .ref (bs + 263), .ref (bs + 264), .ref (bs + 265), .ref (bs + 266), .ref (bs + 267), .ref (bs + 268), .ref (bs + 269), .ref (bs + 270), .ref (bs + 271), .ref (bs + 272), .int 0, .ref (bs + 273), .int (-1), .int 0, .ref (bs + 274), .ref (bs + 275), .int 0, .int 0, .int 0, .int 0, .int 0, .int 0, .int 0, .int 0, .ref (bs + 276), .ref (bs + 277), .null])) := ⟨_, rfl⟩
  rw [← e_cf_97] at hw
  have hlow : ∀ i, i < 237 → cf_97 i = cf i := fun i h => by rw [e_cf_97]; exact (vu_ne (by omega)).trans (hlow i h)
  have hc_237 : cf_97 237 = .inr (11, [.ref (bs + 238), .ref (bs + 239), .ref (bs + 240), .ref (bs + 241), .ref (bs + 242), .ref (bs + 243), .ref (bs + 244), .ref (bs + 245), .ref (bs + 246), .ref (bs + 247), .ref (bs + 248), .ref (bs + 249), .ref (bs + 250), .ref (bs + 251), .ref (bs + 252), .ref (bs + 253), .ref (bs + 254), .ref (bs + 255), .ref (bs + 256), .int 0, .int 0, .int 0, .int 0, .ref (bs + 257), .ref (bs + 258), .ref (bs + 259), .ref (bs + 260), .ref (bs + 261), .ref (bs + 262), .ref (bs + 263), .ref (bs + 264), .ref (bs + 265), .ref (bs + 266), .ref (bs + 267), .ref (bs + 268), .ref (bs + 269), .ref (bs + 270), .ref (bs + 271), .ref (bs + 272), .int 0, .ref (bs + 273), .int (-1), .int 0, .ref (bs + 274), .ref (bs + 275), .int 0, .int 0, .int 0, .int 0, .int 0, .int 0, .int 0, .int 0, .ref (bs + 276), .ref (bs + 277), .null]) := by rw [e_cf_97]; exact vu_at
  have hc_267 : cf_97 267 = .inl (cy 12, 8, .inl (upd (upd (upd (upd (upd (upd (upd (upd (fun _ => 0) 0 0) 1 1) 2 0) 3 (-1)) 4 1) 5 1) 6 (-1)) 7 (-1))) := by rw [e_cf_97]; exact (vu_ne (by decide)).trans hc_267
  have hc_268 : cf_97 268 = .inl (cy 12, 8, .inl (upd (upd (upd (upd (upd (upd (upd (upd (fun _ => 0) 0 (-1)) 1 0) 2 1) 3 0) 4 (-1)) 5 1) 6 1) 7 (-1))) := by rw [e_cf_97]; exact (vu_ne (by decide)).trans hc_268
  have hc_277 : cf_97 277 = .inl (cy 12, 17, .inl (fun _ => 0)) := by rw [e_cf_97]; exact (vu_ne (by decide)).trans hc_277
  have hdone : ∀ i, 237 < i → i < 278 → i ≠ 267 → i ≠ 268 → i ≠ 277 → cf_97 i = ce (GB D bs cy tD tR) (s0 i) i := fun i h1 h2 p_267 p_268 p_277 => by rw [e_cf_97]; exact (vu_ne (by omega)).trans (hdone i h1 h2 p_267 p_268 p_277)
  refine lv_aload_n X.1 X.2.1 d_X11_init_403 rfl (lv_at hl 0 rfl) ?_
  refine lv_bipush (v := 17) X.1 X.2.1 d_X11_init_404 (by decide) ?_
  refine k_newI (N' := 17) X hw (by decide) (by decide) (by decide) (Nat.le_of_ble_eq_true rfl) (Nat.le_of_ble_eq_true rfl) d_X11_init_406 (fun H hw => ?_)
  have hw : CW D cy bs 279 ([(cy 12, .int), (cy 13, .boolean)] ++ [(cy 12, .int)]) _ s H _ 41 := hw
  obtain ⟨cf_98, e_cf_98⟩ : ∃ z : Nat → va_E, z = va_up cf_97 278 (.inl (cy 12, 17, .inl (fun _ => 0))) := ⟨_, rfl⟩
  rw [← e_cf_98] at hw
  have hlow : ∀ i, i < 237 → cf_98 i = cf i := fun i h => by rw [e_cf_98]; exact (vu_ne (by omega)).trans (hlow i h)
  have hc_237 : cf_98 237 = .inr (11, [.ref (bs + 238), .ref (bs + 239), .ref (bs + 240), .ref (bs + 241), .ref (bs + 242), .ref (bs + 243), .ref (bs + 244), .ref (bs + 245), .ref (bs + 246), .ref (bs + 247), .ref (bs + 248), .ref (bs + 249), .ref (bs + 250), .ref (bs + 251), .ref (bs + 252), .ref (bs + 253), .ref (bs + 254), .ref (bs + 255), .ref (bs + 256), .int 0, .int 0, .int 0, .int 0, .ref (bs + 257), .ref (bs + 258), .ref (bs + 259), .ref (bs + 260), .ref (bs + 261), .ref (bs + 262), .ref (bs + 263), .ref (bs + 264), .ref (bs + 265), .ref (bs + 266), .ref (bs + 267), .ref (bs + 268), .ref (bs + 269), .ref (bs + 270), .ref (bs + 271), .ref (bs + 272), .int 0, .ref (bs + 273), .int (-1), .int 0, .ref (bs + 274), .ref (bs + 275), .int 0, .int 0, .int 0, .int 0, .int 0, .int 0, .int 0, .int 0, .ref (bs + 276), .ref (bs + 277), .null]) := by rw [e_cf_98]; exact (vu_ne (by decide)).trans hc_237
  have hc_267 : cf_98 267 = .inl (cy 12, 8, .inl (upd (upd (upd (upd (upd (upd (upd (upd (fun _ => 0) 0 0) 1 1) 2 0) 3 (-1)) 4 1) 5 1) 6 (-1)) 7 (-1))) := by rw [e_cf_98]; exact (vu_ne (by decide)).trans hc_267
  have hc_268 : cf_98 268 = .inl (cy 12, 8, .inl (upd (upd (upd (upd (upd (upd (upd (upd (fun _ => 0) 0 (-1)) 1 0) 2 1) 3 0) 4 (-1)) 5 1) 6 1) 7 (-1))) := by rw [e_cf_98]; exact (vu_ne (by decide)).trans hc_268
  have hc_277 : cf_98 277 = .inl (cy 12, 17, .inl (fun _ => 0)) := by rw [e_cf_98]; exact (vu_ne (by decide)).trans hc_277
  have hc_278 : cf_98 278 = .inl (cy 12, 17, .inl (fun _ => 0)) := by rw [e_cf_98]; exact vu_at
  have hdone : ∀ i, 237 < i → i < 279 → i ≠ 267 → i ≠ 268 → i ≠ 277 → i ≠ 278 → cf_98 i = ce (GB D bs cy tD tR) (s0 i) i := fun i h1 h2 p_267 p_268 p_277 p_278 => by rw [e_cf_98]; exact (vu_ne (by omega)).trans (hdone i h1 (by omega) p_267 p_268 p_277)
  have hdone : ∀ i, 237 < i → i < 279 → i ≠ 267 → i ≠ 268 → i ≠ 277 → cf_98 i = ce (GB D bs cy tD tR) (s0 i) i := fun i h1 h2 p_267 p_268 p_277 => by
    by_cases p_278 : i = 278
    · subst p_278; exact hc_278.trans rfl
    · exact hdone i h1 h2 p_267 p_268 p_277 p_278
  have hw : CW D cy bs 279 [(cy 12, .int), (cy 13, .boolean)] cf_98 s H _ 41 := k_tys [0, 1] hw rfl
  refine W.eq (g2 := F0 m 408 ls [.ref (bs + 278), .ref (bs + 237)]) rfl ?_
  refine k_putF (ci := 11) (n := 56) (k := 55) (v := .ref (bs + 278)) (ty := .array (.int)) nty11 X hw (by decide) hc_237 ni11 nk11 nn11 rfl (by decide) tb_961 rfl rfl hin rfl (by decide +kernel) rfl rfl (Nat.le_of_ble_eq_true rfl) d_X11_init_408 (fun H locs hw => ?_)
  have hw : CW D cy bs 279 [(cy 12, .int), (cy 13, .boolean)] (va_up cf_98 237 (.inr (11, [.ref (bs + 238), .ref (bs + 239), .ref (bs + 240), .ref (bs + 241), .ref (bs + 242), .ref (bs + 243), .ref (bs + 244), .ref (bs + 245), .ref (bs + 246), .ref (bs + 247), .ref (bs + 248), .ref (bs + 249), .ref (bs + 250), .ref (bs + 251), .ref (bs + 252), .ref (bs + 253), .ref (bs + 254), .ref (bs + 255), .ref (bs + 256), .int 0, .int 0, .int 0, .int 0, .ref (bs + 257), .ref (bs + 258), .ref (bs + 259), .ref (bs + 260), .ref (bs + 261), .ref (bs + 262), .ref (bs + 263), .ref (bs + 264), .ref (bs + 265), .ref (bs + 266), .ref (bs + 267), .ref (bs + 268), .ref (bs + 269), .ref (bs + 270), .ref (bs + 271), .ref (bs + 272), .int 0, .ref (bs + 273), .int (-1), .int 0, .ref (bs + 274), .ref (bs + 275), .int 0, .int 0, .int 0, .int 0, .int 0, .int 0, .int 0, .int 0, .ref (bs + 276), .ref (bs + 277), .ref (bs + 278)]))) s H _ 41 := hw
  obtain ⟨cf_99, e_cf_99⟩ : ∃ z : Nat → va_E, z = va_up cf_98 237 (.inr (11, [.ref (bs + 238), .ref (bs + 239), .ref (bs + 240), .ref (bs + 241), .ref (bs + 242), .ref (bs + 243), .ref (bs + 244), .ref (bs + 245), .ref (bs + 246), .ref (bs + 247), .ref (bs + 248), .ref (bs + 249), .ref (bs + 250), .ref (bs + 251), .ref (bs + 252), .ref (bs + 253), .ref (bs + 254), .ref (bs + 255), .ref (bs + 256), .int 0, .int 0, .int 0, .int 0, .ref (bs + 257), .ref (bs + 258), .ref (bs + 259), .ref (bs + 260), .ref (bs + 261), .ref (bs + 262), .ref (bs + 263), .ref (bs + 264), .ref (bs + 265), .ref (bs + 266), .ref (bs + 267), .ref (bs + 268), .ref (bs + 269), .ref (bs + 270), .ref (bs + 271), .ref (bs + 272), .int 0, .ref (bs + 273), .int (-1), .int 0, .ref (bs + 274), .ref (bs + 275), .int 0, .int 0, .int 0, .int 0, .int 0, .int 0, .int 0, .int 0, .ref (bs + 276), .ref (bs + 277), .ref (bs + 278)])) := ⟨_, rfl⟩
  rw [← e_cf_99] at hw
  have hlow : ∀ i, i < 237 → cf_99 i = cf i := fun i h => by rw [e_cf_99]; exact (vu_ne (by omega)).trans (hlow i h)
  have hc_237 : cf_99 237 = .inr (11, [.ref (bs + 238), .ref (bs + 239), .ref (bs + 240), .ref (bs + 241), .ref (bs + 242), .ref (bs + 243), .ref (bs + 244), .ref (bs + 245), .ref (bs + 246), .ref (bs + 247), .ref (bs + 248), .ref (bs + 249), .ref (bs + 250), .ref (bs + 251), .ref (bs + 252), .ref (bs + 253), .ref (bs + 254), .ref (bs + 255), .ref (bs + 256), .int 0, .int 0, .int 0, .int 0, .ref (bs + 257), .ref (bs + 258), .ref (bs + 259), .ref (bs + 260), .ref (bs + 261), .ref (bs + 262), .ref (bs + 263), .ref (bs + 264), .ref (bs + 265), .ref (bs + 266), .ref (bs + 267), .ref (bs + 268), .ref (bs + 269), .ref (bs + 270), .ref (bs + 271), .ref (bs + 272), .int 0, .ref (bs + 273), .int (-1), .int 0, .ref (bs + 274), .ref (bs + 275), .int 0, .int 0, .int 0, .int 0, .int 0, .int 0, .int 0, .int 0, .ref (bs + 276), .ref (bs + 277), .ref (bs + 278)]) := by rw [e_cf_99]; exact vu_at
  have hc_267 : cf_99 267 = .inl (cy 12, 8, .inl (upd (upd (upd (upd (upd (upd (upd (upd (fun _ => 0) 0 0) 1 1) 2 0) 3 (-1)) 4 1) 5 1) 6 (-1)) 7 (-1))) := by rw [e_cf_99]; exact (vu_ne (by decide)).trans hc_267
  have hc_268 : cf_99 268 = .inl (cy 12, 8, .inl (upd (upd (upd (upd (upd (upd (upd (upd (fun _ => 0) 0 (-1)) 1 0) 2 1) 3 0) 4 (-1)) 5 1) 6 1) 7 (-1))) := by rw [e_cf_99]; exact (vu_ne (by decide)).trans hc_268
  have hc_277 : cf_99 277 = .inl (cy 12, 17, .inl (fun _ => 0)) := by rw [e_cf_99]; exact (vu_ne (by decide)).trans hc_277
  have hdone : ∀ i, 237 < i → i < 279 → i ≠ 267 → i ≠ 268 → i ≠ 277 → cf_99 i = ce (GB D bs cy tD tR) (s0 i) i := fun i h1 h2 p_267 p_268 p_277 => by rw [e_cf_99]; exact (vu_ne (by omega)).trans (hdone i h1 h2 p_267 p_268 p_277)
  refine lv_iconst (v := 0) X.1 X.2.1 d_X11_init_411 (by decide) ?_
  refine lv_istore_n (lv' := [(1, .int 0), (0, .ref (bs + 237))]) X.1 X.2.1 d_X11_init_412 rfl hl (by decide) rfl (fun ls hl => ?_)
  refine lv_iload_n X.1 X.2.1 d_X11_init_413 rfl (lv_at hl 0 rfl) ?_
  refine lv_bipush (v := 17) X.1 X.2.1 d_X11_init_414 (by decide) ?_
  refine lv_icmp_ge (tgt := 433) X.1 X.2.1 d_X11_init_416 (by decide) (fun q9 => ?_) (fun q9 => ?_)
  · exact absurd q9 (by decide)
  refine lv_aload_n X.1 X.2.1 d_X11_init_419 rfl (lv_at hl 1 rfl) ?_
  refine k_get (ci := 11) (n := 56) (k := 54) (v := .ref (bs + 277)) X hw (by decide) hc_237 ni11 rfl (by decide) tb_960 rfl rfl d_X11_init_420 ?_
  refine lv_iload_n X.1 X.2.1 d_X11_init_423 rfl (lv_at hl 0 rfl) ?_
  refine lv_bipush (v := (-9)) X.1 X.2.1 d_X11_init_424 (by decide) ?_
  refine k_iast 0 X hw (by decide) hc_277 rfl (by unfold vp_in; decide) d_X11_init_426 (fun H locs hw => ?_)
  have hw : CW D cy bs 279 [(cy 12, .int), (cy 13, .boolean)] (va_up cf_99 277 (.inl (cy 12, 17, .inl (upd (fun _ => 0) 0 (-9))))) s H _ 41 := hw
  obtain ⟨cf_100, e_cf_100⟩ : ∃ z : Nat → va_E, z = va_up cf_99 277 (.inl (cy 12, 17, .inl (upd (fun _ => 0) 0 (-9)))) := ⟨_, rfl⟩
  rw [← e_cf_100] at hw
  have hlow : ∀ i, i < 237 → cf_100 i = cf i := fun i h => by rw [e_cf_100]; exact (vu_ne (by omega)).trans (hlow i h)
  have hc_237 : cf_100 237 = .inr (11, [.ref (bs + 238), .ref (bs + 239), .ref (bs + 240), .ref (bs + 241), .ref (bs + 242), .ref (bs + 243), .ref (bs + 244), .ref (bs + 245), .ref (bs + 246), .ref (bs + 247), .ref (bs + 248), .ref (bs + 249), .ref (bs + 250), .ref (bs + 251), .ref (bs + 252), .ref (bs + 253), .ref (bs + 254), .ref (bs + 255), .ref (bs + 256), .int 0, .int 0, .int 0, .int 0, .ref (bs + 257), .ref (bs + 258), .ref (bs + 259), .ref (bs + 260), .ref (bs + 261), .ref (bs + 262), .ref (bs + 263), .ref (bs + 264), .ref (bs + 265), .ref (bs + 266), .ref (bs + 267), .ref (bs + 268), .ref (bs + 269), .ref (bs + 270), .ref (bs + 271), .ref (bs + 272), .int 0, .ref (bs + 273), .int (-1), .int 0, .ref (bs + 274), .ref (bs + 275), .int 0, .int 0, .int 0, .int 0, .int 0, .int 0, .int 0, .int 0, .ref (bs + 276), .ref (bs + 277), .ref (bs + 278)]) := by rw [e_cf_100]; exact (vu_ne (by decide)).trans hc_237
  have hc_267 : cf_100 267 = .inl (cy 12, 8, .inl (upd (upd (upd (upd (upd (upd (upd (upd (fun _ => 0) 0 0) 1 1) 2 0) 3 (-1)) 4 1) 5 1) 6 (-1)) 7 (-1))) := by rw [e_cf_100]; exact (vu_ne (by decide)).trans hc_267
  have hc_268 : cf_100 268 = .inl (cy 12, 8, .inl (upd (upd (upd (upd (upd (upd (upd (upd (fun _ => 0) 0 (-1)) 1 0) 2 1) 3 0) 4 (-1)) 5 1) 6 1) 7 (-1))) := by rw [e_cf_100]; exact (vu_ne (by decide)).trans hc_268
  have hc_277 : cf_100 277 = .inl (cy 12, 17, .inl (upd (fun _ => 0) 0 (-9))) := by rw [e_cf_100]; exact vu_at
  have hdone : ∀ i, 237 < i → i < 279 → i ≠ 267 → i ≠ 268 → i ≠ 277 → cf_100 i = ce (GB D bs cy tD tR) (s0 i) i := fun i h1 h2 p_267 p_268 p_277 => by rw [e_cf_100]; exact (vu_ne (by omega)).trans (hdone i h1 h2 p_267 p_268 p_277)
  refine lv_iinc (v := 1) (lv' := [(1, .int 1), (0, .ref (bs + 237))]) X.1 X.2.1 d_X11_init_427 hl (k := 0) rfl (by decide) (by decide) rfl (fun ls hl => ?_)
  refine lv_goto (tgt := 413) X.1 X.2.1 d_X11_init_430 (by decide) ?_
  refine lv_iload_n X.1 X.2.1 d_X11_init_413 rfl (lv_at hl 0 rfl) ?_
  refine lv_bipush (v := 17) X.1 X.2.1 d_X11_init_414 (by decide) ?_
  refine lv_icmp_ge (tgt := 433) X.1 X.2.1 d_X11_init_416 (by decide) (fun q9 => ?_) (fun q9 => ?_)
  · exact absurd q9 (by decide)
  refine lv_aload_n X.1 X.2.1 d_X11_init_419 rfl (lv_at hl 1 rfl) ?_
  refine k_get (ci := 11) (n := 56) (k := 54) (v := .ref (bs + 277)) X hw (by decide) hc_237 ni11 rfl (by decide) tb_960 rfl rfl d_X11_init_420 ?_
  refine lv_iload_n X.1 X.2.1 d_X11_init_423 rfl (lv_at hl 0 rfl) ?_
  refine lv_bipush (v := (-9)) X.1 X.2.1 d_X11_init_424 (by decide) ?_
  refine k_iast 0 X hw (by decide) hc_277 rfl (by unfold vp_in; decide) d_X11_init_426 (fun H locs hw => ?_)
  have hw : CW D cy bs 279 [(cy 12, .int), (cy 13, .boolean)] (va_up cf_100 277 (.inl (cy 12, 17, .inl (upd (upd (fun _ => 0) 0 (-9)) 1 (-9))))) s H _ 41 := hw
  obtain ⟨cf_101, e_cf_101⟩ : ∃ z : Nat → va_E, z = va_up cf_100 277 (.inl (cy 12, 17, .inl (upd (upd (fun _ => 0) 0 (-9)) 1 (-9)))) := ⟨_, rfl⟩
  rw [← e_cf_101] at hw
  have hlow : ∀ i, i < 237 → cf_101 i = cf i := fun i h => by rw [e_cf_101]; exact (vu_ne (by omega)).trans (hlow i h)
  have hc_237 : cf_101 237 = .inr (11, [.ref (bs + 238), .ref (bs + 239), .ref (bs + 240), .ref (bs + 241), .ref (bs + 242), .ref (bs + 243), .ref (bs + 244), .ref (bs + 245), .ref (bs + 246), .ref (bs + 247), .ref (bs + 248), .ref (bs + 249), .ref (bs + 250), .ref (bs + 251), .ref (bs + 252), .ref (bs + 253), .ref (bs + 254), .ref (bs + 255), .ref (bs + 256), .int 0, .int 0, .int 0, .int 0, .ref (bs + 257), .ref (bs + 258), .ref (bs + 259), .ref (bs + 260), .ref (bs + 261), .ref (bs + 262), .ref (bs + 263), .ref (bs + 264), .ref (bs + 265), .ref (bs + 266), .ref (bs + 267), .ref (bs + 268), .ref (bs + 269), .ref (bs + 270), .ref (bs + 271), .ref (bs + 272), .int 0, .ref (bs + 273), .int (-1), .int 0, .ref (bs + 274), .ref (bs + 275), .int 0, .int 0, .int 0, .int 0, .int 0, .int 0, .int 0, .int 0, .ref (bs + 276), .ref (bs + 277), .ref (bs + 278)]) := by rw [e_cf_101]; exact (vu_ne (by decide)).trans hc_237
  have hc_267 : cf_101 267 = .inl (cy 12, 8, .inl (upd (upd (upd (upd (upd (upd (upd (upd (fun _ => 0) 0 0) 1 1) 2 0) 3 (-1)) 4 1) 5 1) 6 (-1)) 7 (-1))) := by rw [e_cf_101]; exact (vu_ne (by decide)).trans hc_267
  have hc_268 : cf_101 268 = .inl (cy 12, 8, .inl (upd (upd (upd (upd (upd (upd (upd (upd (fun _ => 0) 0 (-1)) 1 0) 2 1) 3 0) 4 (-1)) 5 1) 6 1) 7 (-1))) := by rw [e_cf_101]; exact (vu_ne (by decide)).trans hc_268
  have hc_277 : cf_101 277 = .inl (cy 12, 17, .inl (upd (upd (fun _ => 0) 0 (-9)) 1 (-9))) := by rw [e_cf_101]; exact vu_at
  have hdone : ∀ i, 237 < i → i < 279 → i ≠ 267 → i ≠ 268 → i ≠ 277 → cf_101 i = ce (GB D bs cy tD tR) (s0 i) i := fun i h1 h2 p_267 p_268 p_277 => by rw [e_cf_101]; exact (vu_ne (by omega)).trans (hdone i h1 h2 p_267 p_268 p_277)
  refine lv_iinc (v := 2) (lv' := [(1, .int 2), (0, .ref (bs + 237))]) X.1 X.2.1 d_X11_init_427 hl (k := 0) rfl (by decide) (by decide) rfl (fun ls hl => ?_)
  refine lv_goto (tgt := 413) X.1 X.2.1 d_X11_init_430 (by decide) ?_
  refine lv_iload_n X.1 X.2.1 d_X11_init_413 rfl (lv_at hl 0 rfl) ?_
  refine lv_bipush (v := 17) X.1 X.2.1 d_X11_init_414 (by decide) ?_
  refine lv_icmp_ge (tgt := 433) X.1 X.2.1 d_X11_init_416 (by decide) (fun q9 => ?_) (fun q9 => ?_)
  · exact absurd q9 (by decide)
  refine lv_aload_n X.1 X.2.1 d_X11_init_419 rfl (lv_at hl 1 rfl) ?_
  refine k_get (ci := 11) (n := 56) (k := 54) (v := .ref (bs + 277)) X hw (by decide) hc_237 ni11 rfl (by decide) tb_960 rfl rfl d_X11_init_420 ?_
  refine lv_iload_n X.1 X.2.1 d_X11_init_423 rfl (lv_at hl 0 rfl) ?_
  refine lv_bipush (v := (-9)) X.1 X.2.1 d_X11_init_424 (by decide) ?_
  refine k_iast 0 X hw (by decide) hc_277 rfl (by unfold vp_in; decide) d_X11_init_426 (fun H locs hw => ?_)
  have hw : CW D cy bs 279 [(cy 12, .int), (cy 13, .boolean)] (va_up cf_101 277 (.inl (cy 12, 17, .inl (upd (upd (upd (fun _ => 0) 0 (-9)) 1 (-9)) 2 (-9))))) s H _ 41 := hw
  obtain ⟨cf_102, e_cf_102⟩ : ∃ z : Nat → va_E, z = va_up cf_101 277 (.inl (cy 12, 17, .inl (upd (upd (upd (fun _ => 0) 0 (-9)) 1 (-9)) 2 (-9)))) := ⟨_, rfl⟩
  rw [← e_cf_102] at hw
  have hlow : ∀ i, i < 237 → cf_102 i = cf i := fun i h => by rw [e_cf_102]; exact (vu_ne (by omega)).trans (hlow i h)
  have hc_237 : cf_102 237 = .inr (11, [.ref (bs + 238), .ref (bs + 239), .ref (bs + 240), .ref (bs + 241), .ref (bs + 242), .ref (bs + 243), .ref (bs + 244), .ref (bs + 245), .ref (bs + 246), .ref (bs + 247), .ref (bs + 248), .ref (bs + 249), .ref (bs + 250), .ref (bs + 251), .ref (bs + 252), .ref (bs + 253), .ref (bs + 254), .ref (bs + 255), .ref (bs + 256), .int 0, .int 0, .int 0, .int 0, .ref (bs + 257), .ref (bs + 258), .ref (bs + 259), .ref (bs + 260), .ref (bs + 261), .ref (bs + 262), .ref (bs + 263), .ref (bs + 264), .ref (bs + 265), .ref (bs + 266), .ref (bs + 267), .ref (bs + 268), .ref (bs + 269), .ref (bs + 270), .ref (bs + 271), .ref (bs + 272), .int 0, .ref (bs + 273), .int (-1), .int 0, .ref (bs + 274), .ref (bs + 275), .int 0, .int 0, .int 0, .int 0, .int 0, .int 0, .int 0, .int 0, .ref (bs + 276), .ref (bs + 277), .ref (bs + 278)]) := by rw [e_cf_102]; exact (vu_ne (by decide)).trans hc_237
  have hc_267 : cf_102 267 = .inl (cy 12, 8, .inl (upd (upd (upd (upd (upd (upd (upd (upd (fun _ => 0) 0 0) 1 1) 2 0) 3 (-1)) 4 1) 5 1) 6 (-1)) 7 (-1))) := by rw [e_cf_102]; exact (vu_ne (by decide)).trans hc_267
  have hc_268 : cf_102 268 = .inl (cy 12, 8, .inl (upd (upd (upd (upd (upd (upd (upd (upd (fun _ => 0) 0 (-1)) 1 0) 2 1) 3 0) 4 (-1)) 5 1) 6 1) 7 (-1))) := by rw [e_cf_102]; exact (vu_ne (by decide)).trans hc_268
  have hc_277 : cf_102 277 = .inl (cy 12, 17, .inl (upd (upd (upd (fun _ => 0) 0 (-9)) 1 (-9)) 2 (-9))) := by rw [e_cf_102]; exact vu_at
  have hdone : ∀ i, 237 < i → i < 279 → i ≠ 267 → i ≠ 268 → i ≠ 277 → cf_102 i = ce (GB D bs cy tD tR) (s0 i) i := fun i h1 h2 p_267 p_268 p_277 => by rw [e_cf_102]; exact (vu_ne (by omega)).trans (hdone i h1 h2 p_267 p_268 p_277)
  refine lv_iinc (v := 3) (lv' := [(1, .int 3), (0, .ref (bs + 237))]) X.1 X.2.1 d_X11_init_427 hl (k := 0) rfl (by decide) (by decide) rfl (fun ls hl => ?_)
  refine lv_goto (tgt := 413) X.1 X.2.1 d_X11_init_430 (by decide) ?_
  refine lv_iload_n X.1 X.2.1 d_X11_init_413 rfl (lv_at hl 0 rfl) ?_
  refine lv_bipush (v := 17) X.1 X.2.1 d_X11_init_414 (by decide) ?_
  refine lv_icmp_ge (tgt := 433) X.1 X.2.1 d_X11_init_416 (by decide) (fun q9 => ?_) (fun q9 => ?_)
  · exact absurd q9 (by decide)
  refine lv_aload_n X.1 X.2.1 d_X11_init_419 rfl (lv_at hl 1 rfl) ?_
  refine k_get (ci := 11) (n := 56) (k := 54) (v := .ref (bs + 277)) X hw (by decide) hc_237 ni11 rfl (by decide) tb_960 rfl rfl d_X11_init_420 ?_
  refine lv_iload_n X.1 X.2.1 d_X11_init_423 rfl (lv_at hl 0 rfl) ?_
  refine lv_bipush (v := (-9)) X.1 X.2.1 d_X11_init_424 (by decide) ?_
  refine k_iast 0 X hw (by decide) hc_277 rfl (by unfold vp_in; decide) d_X11_init_426 (fun H locs hw => ?_)
  have hw : CW D cy bs 279 [(cy 12, .int), (cy 13, .boolean)] (va_up cf_102 277 (.inl (cy 12, 17, .inl (upd (upd (upd (upd (fun _ => 0) 0 (-9)) 1 (-9)) 2 (-9)) 3 (-9))))) s H _ 41 := hw
  obtain ⟨cf_103, e_cf_103⟩ : ∃ z : Nat → va_E, z = va_up cf_102 277 (.inl (cy 12, 17, .inl (upd (upd (upd (upd (fun _ => 0) 0 (-9)) 1 (-9)) 2 (-9)) 3 (-9)))) := ⟨_, rfl⟩
  rw [← e_cf_103] at hw
  have hlow : ∀ i, i < 237 → cf_103 i = cf i := fun i h => by rw [e_cf_103]; exact (vu_ne (by omega)).trans (hlow i h)
  have hc_237 : cf_103 237 = .inr (11, [.ref (bs + 238), .ref (bs + 239), .ref (bs + 240), .ref (bs + 241), .ref (bs + 242), .ref (bs + 243), .ref (bs + 244), .ref (bs + 245), .ref (bs + 246), .ref (bs + 247), .ref (bs + 248), .ref (bs + 249), .ref (bs + 250), .ref (bs + 251), .ref (bs + 252), .ref (bs + 253), .ref (bs + 254), .ref (bs + 255), .ref (bs + 256), .int 0, .int 0, .int 0, .int 0, .ref (bs + 257), .ref (bs + 258), .ref (bs + 259), .ref (bs + 260), .ref (bs + 261), .ref (bs + 262), .ref (bs + 263), .ref (bs + 264), .ref (bs + 265), .ref (bs + 266), .ref (bs + 267), .ref (bs + 268), .ref (bs + 269), .ref (bs + 270), .ref (bs + 271), .ref (bs + 272), .int 0, .ref (bs + 273), .int (-1), .int 0, .ref (bs + 274), .ref (bs + 275), .int 0, .int 0, .int 0, .int 0, .int 0, .int 0, .int 0, .int 0, .ref (bs + 276), .ref (bs + 277), .ref (bs + 278)]) := by rw [e_cf_103]; exact (vu_ne (by decide)).trans hc_237
  have hc_267 : cf_103 267 = .inl (cy 12, 8, .inl (upd (upd (upd (upd (upd (upd (upd (upd (fun _ => 0) 0 0) 1 1) 2 0) 3 (-1)) 4 1) 5 1) 6 (-1)) 7 (-1))) := by rw [e_cf_103]; exact (vu_ne (by decide)).trans hc_267
  have hc_268 : cf_103 268 = .inl (cy 12, 8, .inl (upd (upd (upd (upd (upd (upd (upd (upd (fun _ => 0) 0 (-1)) 1 0) 2 1) 3 0) 4 (-1)) 5 1) 6 1) 7 (-1))) := by rw [e_cf_103]; exact (vu_ne (by decide)).trans hc_268
  have hc_277 : cf_103 277 = .inl (cy 12, 17, .inl (upd (upd (upd (upd (fun _ => 0) 0 (-9)) 1 (-9)) 2 (-9)) 3 (-9))) := by rw [e_cf_103]; exact vu_at
  have hdone : ∀ i, 237 < i → i < 279 → i ≠ 267 → i ≠ 268 → i ≠ 277 → cf_103 i = ce (GB D bs cy tD tR) (s0 i) i := fun i h1 h2 p_267 p_268 p_277 => by rw [e_cf_103]; exact (vu_ne (by omega)).trans (hdone i h1 h2 p_267 p_268 p_277)
  refine lv_iinc (v := 4) (lv' := [(1, .int 4), (0, .ref (bs + 237))]) X.1 X.2.1 d_X11_init_427 hl (k := 0) rfl (by decide) (by decide) rfl (fun ls hl => ?_)
  refine lv_goto (tgt := 413) X.1 X.2.1 d_X11_init_430 (by decide) ?_
  refine lv_iload_n X.1 X.2.1 d_X11_init_413 rfl (lv_at hl 0 rfl) ?_
  refine lv_bipush (v := 17) X.1 X.2.1 d_X11_init_414 (by decide) ?_
  refine lv_icmp_ge (tgt := 433) X.1 X.2.1 d_X11_init_416 (by decide) (fun q9 => ?_) (fun q9 => ?_)
  · exact absurd q9 (by decide)
  refine lv_aload_n X.1 X.2.1 d_X11_init_419 rfl (lv_at hl 1 rfl) ?_
  refine k_get (ci := 11) (n := 56) (k := 54) (v := .ref (bs + 277)) X hw (by decide) hc_237 ni11 rfl (by decide) tb_960 rfl rfl d_X11_init_420 ?_
  refine lv_iload_n X.1 X.2.1 d_X11_init_423 rfl (lv_at hl 0 rfl) ?_
  refine lv_bipush (v := (-9)) X.1 X.2.1 d_X11_init_424 (by decide) ?_
  refine k_iast 0 X hw (by decide) hc_277 rfl (by unfold vp_in; decide) d_X11_init_426 (fun H locs hw => ?_)
  have hw : CW D cy bs 279 [(cy 12, .int), (cy 13, .boolean)] (va_up cf_103 277 (.inl (cy 12, 17, .inl (upd (upd (upd (upd (upd (fun _ => 0) 0 (-9)) 1 (-9)) 2 (-9)) 3 (-9)) 4 (-9))))) s H _ 41 := hw
  obtain ⟨cf_104, e_cf_104⟩ : ∃ z : Nat → va_E, z = va_up cf_103 277 (.inl (cy 12, 17, .inl (upd (upd (upd (upd (upd (fun _ => 0) 0 (-9)) 1 (-9)) 2 (-9)) 3 (-9)) 4 (-9)))) := ⟨_, rfl⟩
  rw [← e_cf_104] at hw
  have hlow : ∀ i, i < 237 → cf_104 i = cf i := fun i h => by rw [e_cf_104]; exact (vu_ne (by omega)).trans (hlow i h)
  have hc_237 : cf_104 237 = .inr (11, [.ref (bs + 238), .ref (bs + 239), .ref (bs + 240), .ref (bs + 241), .ref (bs + 242), .ref (bs + 243), .ref (bs + 244), .ref (bs + 245), .ref (bs + 246), .ref (bs + 247), .ref (bs + 248), .ref (bs + 249), .ref (bs + 250), .ref (bs + 251), .ref (bs + 252), .ref (bs + 253), .ref (bs + 254), .ref (bs + 255), .ref (bs + 256), .int 0, .int 0, .int 0, .int 0, .ref (bs + 257), .ref (bs + 258), .ref (bs + 259), .ref (bs + 260), .ref (bs + 261), .ref (bs + 262), .ref (bs + 263), .ref (bs + 264), .ref (bs + 265), .ref (bs + 266), .ref (bs + 267), .ref (bs + 268), .ref (bs + 269), .ref (bs + 270), .ref (bs + 271), .ref (bs + 272), .int 0, .ref (bs + 273), .int (-1), .int 0, .ref (bs + 274), .ref (bs + 275), .int 0, .int 0, .int 0, .int 0, .int 0, .int 0, .int 0, .int 0, .ref (bs + 276), .ref (bs + 277), .ref (bs + 278)]) := by rw [e_cf_104]; exact (vu_ne (by decide)).trans hc_237
  have hc_267 : cf_104 267 = .inl (cy 12, 8, .inl (upd (upd (upd (upd (upd (upd (upd (upd (fun _ => 0) 0 0) 1 1) 2 0) 3 (-1)) 4 1) 5 1) 6 (-1)) 7 (-1))) := by rw [e_cf_104]; exact (vu_ne (by decide)).trans hc_267
  have hc_268 : cf_104 268 = .inl (cy 12, 8, .inl (upd (upd (upd (upd (upd (upd (upd (upd (fun _ => 0) 0 (-1)) 1 0) 2 1) 3 0) 4 (-1)) 5 1) 6 1) 7 (-1))) := by rw [e_cf_104]; exact (vu_ne (by decide)).trans hc_268
  have hc_277 : cf_104 277 = .inl (cy 12, 17, .inl (upd (upd (upd (upd (upd (fun _ => 0) 0 (-9)) 1 (-9)) 2 (-9)) 3 (-9)) 4 (-9))) := by rw [e_cf_104]; exact vu_at
  have hdone : ∀ i, 237 < i → i < 279 → i ≠ 267 → i ≠ 268 → i ≠ 277 → cf_104 i = ce (GB D bs cy tD tR) (s0 i) i := fun i h1 h2 p_267 p_268 p_277 => by rw [e_cf_104]; exact (vu_ne (by omega)).trans (hdone i h1 h2 p_267 p_268 p_277)
  refine lv_iinc (v := 5) (lv' := [(1, .int 5), (0, .ref (bs + 237))]) X.1 X.2.1 d_X11_init_427 hl (k := 0) rfl (by decide) (by decide) rfl (fun ls hl => ?_)
  refine lv_goto (tgt := 413) X.1 X.2.1 d_X11_init_430 (by decide) ?_
  refine lv_iload_n X.1 X.2.1 d_X11_init_413 rfl (lv_at hl 0 rfl) ?_
  refine lv_bipush (v := 17) X.1 X.2.1 d_X11_init_414 (by decide) ?_
  refine lv_icmp_ge (tgt := 433) X.1 X.2.1 d_X11_init_416 (by decide) (fun q9 => ?_) (fun q9 => ?_)
  · exact absurd q9 (by decide)
  refine lv_aload_n X.1 X.2.1 d_X11_init_419 rfl (lv_at hl 1 rfl) ?_
  refine k_get (ci := 11) (n := 56) (k := 54) (v := .ref (bs + 277)) X hw (by decide) hc_237 ni11 rfl (by decide) tb_960 rfl rfl d_X11_init_420 ?_
  refine lv_iload_n X.1 X.2.1 d_X11_init_423 rfl (lv_at hl 0 rfl) ?_
  refine lv_bipush (v := (-9)) X.1 X.2.1 d_X11_init_424 (by decide) ?_
  refine k_iast 0 X hw (by decide) hc_277 rfl (by unfold vp_in; decide) d_X11_init_426 (fun H locs hw => ?_)
  have hw : CW D cy bs 279 [(cy 12, .int), (cy 13, .boolean)] (va_up cf_104 277 (.inl (cy 12, 17, .inl (upd (upd (upd (upd (upd (upd (fun _ => 0) 0 (-9)) 1 (-9)) 2 (-9)) 3 (-9)) 4 (-9)) 5 (-9))))) s H _ 41 := hw
  obtain ⟨cf_105, e_cf_105⟩ : ∃ z : Nat → va_E, z = va_up cf_104 277 (.inl (cy 12, 17, .inl (upd (upd (upd (upd (upd (upd (fun _ => 0) 0 (-9)) 1 (-9)) 2 (-9)) 3 (-9)) 4 (-9)) 5 (-9)))) := ⟨_, rfl⟩
  rw [← e_cf_105] at hw
  have hlow : ∀ i, i < 237 → cf_105 i = cf i := fun i h => by rw [e_cf_105]; exact (vu_ne (by omega)).trans (hlow i h)
  have hc_237 : cf_105 237 = .inr (11, [.ref (bs + 238), .ref (bs + 239), .ref (bs + 240), .ref (bs + 241), .ref (bs + 242), .ref (bs + 243), .ref (bs + 244), .ref (bs + 245), .ref (bs + 246), .ref (bs + 247), .ref (bs + 248), .ref (bs + 249), .ref (bs + 250), .ref (bs + 251), .ref (bs + 252), .ref (bs + 253), .ref (bs + 254), .ref (bs + 255), .ref (bs + 256), .int 0, .int 0, .int 0, .int 0, .ref (bs + 257), .ref (bs + 258), .ref (bs + 259), .ref (bs + 260), .ref (bs + 261), .ref (bs + 262), .ref (bs + 263), .ref (bs + 264), .ref (bs + 265), .ref (bs + 266), .ref (bs + 267), .ref (bs + 268), .ref (bs + 269), .ref (bs + 270), .ref (bs + 271), .ref (bs + 272), .int 0, .ref (bs + 273), .int (-1), .int 0, .ref (bs + 274), .ref (bs + 275), .int 0, .int 0, .int 0, .int 0, .int 0, .int 0, .int 0, .int 0, .ref (bs + 276), .ref (bs + 277), .ref (bs + 278)]) := by rw [e_cf_105]; exact (vu_ne (by decide)).trans hc_237
  have hc_267 : cf_105 267 = .inl (cy 12, 8, .inl (upd (upd (upd (upd (upd (upd (upd (upd (fun _ => 0) 0 0) 1 1) 2 0) 3 (-1)) 4 1) 5 1) 6 (-1)) 7 (-1))) := by rw [e_cf_105]; exact (vu_ne (by decide)).trans hc_267
  have hc_268 : cf_105 268 = .inl (cy 12, 8, .inl (upd (upd (upd (upd (upd (upd (upd (upd (fun _ => 0) 0 (-1)) 1 0) 2 1) 3 0) 4 (-1)) 5 1) 6 1) 7 (-1))) := by rw [e_cf_105]; exact (vu_ne (by decide)).trans hc_268
  have hc_277 : cf_105 277 = .inl (cy 12, 17, .inl (upd (upd (upd (upd (upd (upd (fun _ => 0) 0 (-9)) 1 (-9)) 2 (-9)) 3 (-9)) 4 (-9)) 5 (-9))) := by rw [e_cf_105]; exact vu_at
  have hdone : ∀ i, 237 < i → i < 279 → i ≠ 267 → i ≠ 268 → i ≠ 277 → cf_105 i = ce (GB D bs cy tD tR) (s0 i) i := fun i h1 h2 p_267 p_268 p_277 => by rw [e_cf_105]; exact (vu_ne (by omega)).trans (hdone i h1 h2 p_267 p_268 p_277)
  refine lv_iinc (v := 6) (lv' := [(1, .int 6), (0, .ref (bs + 237))]) X.1 X.2.1 d_X11_init_427 hl (k := 0) rfl (by decide) (by decide) rfl (fun ls hl => ?_)
  refine lv_goto (tgt := 413) X.1 X.2.1 d_X11_init_430 (by decide) ?_
  refine lv_iload_n X.1 X.2.1 d_X11_init_413 rfl (lv_at hl 0 rfl) ?_
  refine lv_bipush (v := 17) X.1 X.2.1 d_X11_init_414 (by decide) ?_
  refine lv_icmp_ge (tgt := 433) X.1 X.2.1 d_X11_init_416 (by decide) (fun q9 => ?_) (fun q9 => ?_)
  · exact absurd q9 (by decide)
  refine lv_aload_n X.1 X.2.1 d_X11_init_419 rfl (lv_at hl 1 rfl) ?_
  refine k_get (ci := 11) (n := 56) (k := 54) (v := .ref (bs + 277)) X hw (by decide) hc_237 ni11 rfl (by decide) tb_960 rfl rfl d_X11_init_420 ?_
  refine lv_iload_n X.1 X.2.1 d_X11_init_423 rfl (lv_at hl 0 rfl) ?_
  refine lv_bipush (v := (-9)) X.1 X.2.1 d_X11_init_424 (by decide) ?_
  refine k_iast 0 X hw (by decide) hc_277 rfl (by unfold vp_in; decide) d_X11_init_426 (fun H locs hw => ?_)
  have hw : CW D cy bs 279 [(cy 12, .int), (cy 13, .boolean)] (va_up cf_105 277 (.inl (cy 12, 17, .inl (upd (upd (upd (upd (upd (upd (upd (fun _ => 0) 0 (-9)) 1 (-9)) 2 (-9)) 3 (-9)) 4 (-9)) 5 (-9)) 6 (-9))))) s H _ 41 := hw
  obtain ⟨cf_106, e_cf_106⟩ : ∃ z : Nat → va_E, z = va_up cf_105 277 (.inl (cy 12, 17, .inl (upd (upd (upd (upd (upd (upd (upd (fun _ => 0) 0 (-9)) 1 (-9)) 2 (-9)) 3 (-9)) 4 (-9)) 5 (-9)) 6 (-9)))) := ⟨_, rfl⟩
  rw [← e_cf_106] at hw
  have hlow : ∀ i, i < 237 → cf_106 i = cf i := fun i h => by rw [e_cf_106]; exact (vu_ne (by omega)).trans (hlow i h)
  have hc_237 : cf_106 237 = .inr (11, [.ref (bs + 238), .ref (bs + 239), .ref (bs + 240), .ref (bs + 241), .ref (bs + 242), .ref (bs + 243), .ref (bs + 244), .ref (bs + 245), .ref (bs + 246), .ref (bs + 247), .ref (bs + 248), .ref (bs + 249), .ref (bs + 250), .ref (bs + 251), .ref (bs + 252), .ref (bs + 253), .ref (bs + 254), .ref (bs + 255), .ref (bs + 256), .int 0, .int 0, .int 0, .int 0, .ref (bs + 257), .ref (bs + 258), .ref (bs + 259), .ref (bs + 260), .ref (bs + 261), .ref (bs + 262), .ref (bs + 263), .ref (bs + 264), .ref (bs + 265), .ref (bs + 266), .ref (bs + 267), .ref (bs + 268), .ref (bs + 269), .ref (bs + 270), .ref (bs + 271), .ref (bs + 272), .int 0, .ref (bs + 273), .int (-1), .int 0, .ref (bs + 274), .ref (bs + 275), .int 0, .int 0, .int 0, .int 0, .int 0, .int 0, .int 0, .int 0, .ref (bs + 276), .ref (bs + 277), .ref (bs + 278)]) := by rw [e_cf_106]; exact (vu_ne (by decide)).trans hc_237
  have hc_267 : cf_106 267 = .inl (cy 12, 8, .inl (upd (upd (upd (upd (upd (upd (upd (upd (fun _ => 0) 0 0) 1 1) 2 0) 3 (-1)) 4 1) 5 1) 6 (-1)) 7 (-1))) := by rw [e_cf_106]; exact (vu_ne (by decide)).trans hc_267
  have hc_268 : cf_106 268 = .inl (cy 12, 8, .inl (upd (upd (upd (upd (upd (upd (upd (upd (fun _ => 0) 0 (-1)) 1 0) 2 1) 3 0) 4 (-1)) 5 1) 6 1) 7 (-1))) := by rw [e_cf_106]; exact (vu_ne (by decide)).trans hc_268
  have hc_277 : cf_106 277 = .inl (cy 12, 17, .inl (upd (upd (upd (upd (upd (upd (upd (fun _ => 0) 0 (-9)) 1 (-9)) 2 (-9)) 3 (-9)) 4 (-9)) 5 (-9)) 6 (-9))) := by rw [e_cf_106]; exact vu_at
  have hdone : ∀ i, 237 < i → i < 279 → i ≠ 267 → i ≠ 268 → i ≠ 277 → cf_106 i = ce (GB D bs cy tD tR) (s0 i) i := fun i h1 h2 p_267 p_268 p_277 => by rw [e_cf_106]; exact (vu_ne (by omega)).trans (hdone i h1 h2 p_267 p_268 p_277)
  refine lv_iinc (v := 7) (lv' := [(1, .int 7), (0, .ref (bs + 237))]) X.1 X.2.1 d_X11_init_427 hl (k := 0) rfl (by decide) (by decide) rfl (fun ls hl => ?_)
  refine lv_goto (tgt := 413) X.1 X.2.1 d_X11_init_430 (by decide) ?_
  refine lv_iload_n X.1 X.2.1 d_X11_init_413 rfl (lv_at hl 0 rfl) ?_
  refine lv_bipush (v := 17) X.1 X.2.1 d_X11_init_414 (by decide) ?_
  refine lv_icmp_ge (tgt := 433) X.1 X.2.1 d_X11_init_416 (by decide) (fun q9 => ?_) (fun q9 => ?_)
  · exact absurd q9 (by decide)
  refine lv_aload_n X.1 X.2.1 d_X11_init_419 rfl (lv_at hl 1 rfl) ?_
  refine k_get (ci := 11) (n := 56) (k := 54) (v := .ref (bs + 277)) X hw (by decide) hc_237 ni11 rfl (by decide) tb_960 rfl rfl d_X11_init_420 ?_
  refine lv_iload_n X.1 X.2.1 d_X11_init_423 rfl (lv_at hl 0 rfl) ?_
  refine lv_bipush (v := (-9)) X.1 X.2.1 d_X11_init_424 (by decide) ?_
  refine k_iast 0 X hw (by decide) hc_277 rfl (by unfold vp_in; decide) d_X11_init_426 (fun H locs hw => ?_)
  have hw : CW D cy bs 279 [(cy 12, .int), (cy 13, .boolean)] (va_up cf_106 277 (.inl (cy 12, 17, .inl (upd (upd (upd (upd (upd (upd (upd (upd (fun _ => 0) 0 (-9)) 1 (-9)) 2 (-9)) 3 (-9)) 4 (-9)) 5 (-9)) 6 (-9)) 7 (-9))))) s H _ 41 := hw
  obtain ⟨cf_107, e_cf_107⟩ : ∃ z : Nat → va_E, z = va_up cf_106 277 (.inl (cy 12, 17, .inl (upd (upd (upd (upd (upd (upd (upd (upd (fun _ => 0) 0 (-9)) 1 (-9)) 2 (-9)) 3 (-9)) 4 (-9)) 5 (-9)) 6 (-9)) 7 (-9)))) := ⟨_, rfl⟩
  rw [← e_cf_107] at hw
  have hlow : ∀ i, i < 237 → cf_107 i = cf i := fun i h => by rw [e_cf_107]; exact (vu_ne (by omega)).trans (hlow i h)
  have hc_237 : cf_107 237 = .inr (11, [.ref (bs + 238), .ref (bs + 239), .ref (bs + 240), .ref (bs + 241), .ref (bs + 242), .ref (bs + 243), .ref (bs + 244), .ref (bs + 245), .ref (bs + 246), .ref (bs + 247), .ref (bs + 248), .ref (bs + 249), .ref (bs + 250), .ref (bs + 251), .ref (bs + 252), .ref (bs + 253), .ref (bs + 254), .ref (bs + 255), .ref (bs + 256), .int 0, .int 0, .int 0, .int 0, .ref (bs + 257), .ref (bs + 258), .ref (bs + 259), .ref (bs + 260), .ref (bs + 261), .ref (bs + 262), .ref (bs + 263), .ref (bs + 264), .ref (bs + 265), .ref (bs + 266), .ref (bs + 267), .ref (bs + 268), .ref (bs + 269), .ref (bs + 270), .ref (bs + 271), .ref (bs + 272), .int 0, .ref (bs + 273), .int (-1), .int 0, .ref (bs + 274), .ref (bs + 275), .int 0, .int 0, .int 0, .int 0, .int 0, .int 0, .int 0, .int 0, .ref (bs + 276), .ref (bs + 277), .ref (bs + 278)]) := by rw [e_cf_107]; exact (vu_ne (by decide)).trans hc_237
  have hc_267 : cf_107 267 = .inl (cy 12, 8, .inl (upd (upd (upd (upd (upd (upd (upd (upd (fun _ => 0) 0 0) 1 1) 2 0) 3 (-1)) 4 1) 5 1) 6 (-1)) 7 (-1))) := by rw [e_cf_107]; exact (vu_ne (by decide)).trans hc_267
  have hc_268 : cf_107 268 = .inl (cy 12, 8, .inl (upd (upd (upd (upd (upd (upd (upd (upd (fun _ => 0) 0 (-1)) 1 0) 2 1) 3 0) 4 (-1)) 5 1) 6 1) 7 (-1))) := by rw [e_cf_107]; exact (vu_ne (by decide)).trans hc_268
  have hc_277 : cf_107 277 = .inl (cy 12, 17, .inl (upd (upd (upd (upd (upd (upd (upd (upd (fun _ => 0) 0 (-9)) 1 (-9)) 2 (-9)) 3 (-9)) 4 (-9)) 5 (-9)) 6 (-9)) 7 (-9))) := by rw [e_cf_107]; exact vu_at
  have hdone : ∀ i, 237 < i → i < 279 → i ≠ 267 → i ≠ 268 → i ≠ 277 → cf_107 i = ce (GB D bs cy tD tR) (s0 i) i := fun i h1 h2 p_267 p_268 p_277 => by rw [e_cf_107]; exact (vu_ne (by omega)).trans (hdone i h1 h2 p_267 p_268 p_277)
  refine lv_iinc (v := 8) (lv' := [(1, .int 8), (0, .ref (bs + 237))]) X.1 X.2.1 d_X11_init_427 hl (k := 0) rfl (by decide) (by decide) rfl (fun ls hl => ?_)
  refine lv_goto (tgt := 413) X.1 X.2.1 d_X11_init_430 (by decide) ?_
  refine lv_iload_n X.1 X.2.1 d_X11_init_413 rfl (lv_at hl 0 rfl) ?_
  refine lv_bipush (v := 17) X.1 X.2.1 d_X11_init_414 (by decide) ?_
  refine lv_icmp_ge (tgt := 433) X.1 X.2.1 d_X11_init_416 (by decide) (fun q9 => ?_) (fun q9 => ?_)
  · exact absurd q9 (by decide)
  refine lv_aload_n X.1 X.2.1 d_X11_init_419 rfl (lv_at hl 1 rfl) ?_
  refine k_get (ci := 11) (n := 56) (k := 54) (v := .ref (bs + 277)) X hw (by decide) hc_237 ni11 rfl (by decide) tb_960 rfl rfl d_X11_init_420 ?_
  refine lv_iload_n X.1 X.2.1 d_X11_init_423 rfl (lv_at hl 0 rfl) ?_
  refine lv_bipush (v := (-9)) X.1 X.2.1 d_X11_init_424 (by decide) ?_
  refine k_iast 0 X hw (by decide) hc_277 rfl (by unfold vp_in; decide) d_X11_init_426 (fun H locs hw => ?_)
  have hw : CW D cy bs 279 [(cy 12, .int), (cy 13, .boolean)] (va_up cf_107 277 (.inl (cy 12, 17, .inl (upd (upd (upd (upd (upd (upd (upd (upd (upd (fun _ => 0) 0 (-9)) 1 (-9)) 2 (-9)) 3 (-9)) 4 (-9)) 5 (-9)) 6 (-9)) 7 (-9)) 8 (-9))))) s H _ 41 := hw
  obtain ⟨cf_108, e_cf_108⟩ : ∃ z : Nat → va_E, z = va_up cf_107 277 (.inl (cy 12, 17, .inl (upd (upd (upd (upd (upd (upd (upd (upd (upd (fun _ => 0) 0 (-9)) 1 (-9)) 2 (-9)) 3 (-9)) 4 (-9)) 5 (-9)) 6 (-9)) 7 (-9)) 8 (-9)))) := ⟨_, rfl⟩
  rw [← e_cf_108] at hw
  have hlow : ∀ i, i < 237 → cf_108 i = cf i := fun i h => by rw [e_cf_108]; exact (vu_ne (by omega)).trans (hlow i h)
  have hc_237 : cf_108 237 = .inr (11, [.ref (bs + 238), .ref (bs + 239), .ref (bs + 240), .ref (bs + 241), .ref (bs + 242), .ref (bs + 243), .ref (bs + 244), .ref (bs + 245), .ref (bs + 246), .ref (bs + 247), .ref (bs + 248), .ref (bs + 249), .ref (bs + 250), .ref (bs + 251), .ref (bs + 252), .ref (bs + 253), .ref (bs + 254), .ref (bs + 255), .ref (bs + 256), .int 0, .int 0, .int 0, .int 0, .ref (bs + 257), .ref (bs + 258), .ref (bs + 259), .ref (bs + 260), .ref (bs + 261), .ref (bs + 262), .ref (bs + 263), .ref (bs + 264), .ref (bs + 265), .ref (bs + 266), .ref (bs + 267), .ref (bs + 268), .ref (bs + 269), .ref (bs + 270), .ref (bs + 271), .ref (bs + 272), .int 0, .ref (bs + 273), .int (-1), .int 0, .ref (bs + 274), .ref (bs + 275), .int 0, .int 0, .int 0, .int 0, .int 0, .int 0, .int 0, .int 0, .ref (bs + 276), .ref (bs + 277), .ref (bs + 278)]) := by rw [e_cf_108]; exact (vu_ne (by decide)).trans hc_237
  have hc_267 : cf_108 267 = .inl (cy 12, 8, .inl (upd (upd (upd (upd (upd (upd (upd (upd (fun _ => 0) 0 0) 1 1) 2 0) 3 (-1)) 4 1) 5 1) 6 (-1)) 7 (-1))) := by rw [e_cf_108]; exact (vu_ne (by decide)).trans hc_267
  have hc_268 : cf_108 268 = .inl (cy 12, 8, .inl (upd (upd (upd (upd (upd (upd (upd (upd (fun _ => 0) 0 (-1)) 1 0) 2 1) 3 0) 4 (-1)) 5 1) 6 1) 7 (-1))) := by rw [e_cf_108]; exact (vu_ne (by decide)).trans hc_268
  have hc_277 : cf_108 277 = .inl (cy 12, 17, .inl (upd (upd (upd (upd (upd (upd (upd (upd (upd (fun _ => 0) 0 (-9)) 1 (-9)) 2 (-9)) 3 (-9)) 4 (-9)) 5 (-9)) 6 (-9)) 7 (-9)) 8 (-9))) := by rw [e_cf_108]; exact vu_at
  have hdone : ∀ i, 237 < i → i < 279 → i ≠ 267 → i ≠ 268 → i ≠ 277 → cf_108 i = ce (GB D bs cy tD tR) (s0 i) i := fun i h1 h2 p_267 p_268 p_277 => by rw [e_cf_108]; exact (vu_ne (by omega)).trans (hdone i h1 h2 p_267 p_268 p_277)
  refine lv_iinc (v := 9) (lv' := [(1, .int 9), (0, .ref (bs + 237))]) X.1 X.2.1 d_X11_init_427 hl (k := 0) rfl (by decide) (by decide) rfl (fun ls hl => ?_)
  refine lv_goto (tgt := 413) X.1 X.2.1 d_X11_init_430 (by decide) ?_
  refine lv_iload_n X.1 X.2.1 d_X11_init_413 rfl (lv_at hl 0 rfl) ?_
  refine lv_bipush (v := 17) X.1 X.2.1 d_X11_init_414 (by decide) ?_
  refine lv_icmp_ge (tgt := 433) X.1 X.2.1 d_X11_init_416 (by decide) (fun q9 => ?_) (fun q9 => ?_)
  · exact absurd q9 (by decide)
  refine lv_aload_n X.1 X.2.1 d_X11_init_419 rfl (lv_at hl 1 rfl) ?_
  refine k_get (ci := 11) (n := 56) (k := 54) (v := .ref (bs + 277)) X hw (by decide) hc_237 ni11 rfl (by decide) tb_960 rfl rfl d_X11_init_420 ?_
  refine lv_iload_n X.1 X.2.1 d_X11_init_423 rfl (lv_at hl 0 rfl) ?_
  refine lv_bipush (v := (-9)) X.1 X.2.1 d_X11_init_424 (by decide) ?_
  refine k_iast 0 X hw (by decide) hc_277 rfl (by unfold vp_in; decide) d_X11_init_426 (fun H locs hw => ?_)
  have hw : CW D cy bs 279 [(cy 12, .int), (cy 13, .boolean)] (va_up cf_108 277 (.inl (cy 12, 17, .inl (upd (upd (upd (upd (upd (upd (upd (upd (upd (upd (fun _ => 0) 0 (-9)) 1 (-9)) 2 (-9)) 3 (-9)) 4 (-9)) 5 (-9)) 6 (-9)) 7 (-9)) 8 (-9)) 9 (-9))))) s H _ 41 := hw
  obtain ⟨cf_109, e_cf_109⟩ : ∃ z : Nat → va_E, z = va_up cf_108 277 (.inl (cy 12, 17, .inl (upd (upd (upd (upd (upd (upd (upd (upd (upd (upd (fun _ => 0) 0 (-9)) 1 (-9)) 2 (-9)) 3 (-9)) 4 (-9)) 5 (-9)) 6 (-9)) 7 (-9)) 8 (-9)) 9 (-9)))) := ⟨_, rfl⟩
  rw [← e_cf_109] at hw
  have hlow : ∀ i, i < 237 → cf_109 i = cf i := fun i h => by rw [e_cf_109]; exact (vu_ne (by omega)).trans (hlow i h)
  have hc_237 : cf_109 237 = .inr (11, [.ref (bs + 238), .ref (bs + 239), .ref (bs + 240), .ref (bs + 241), .ref (bs + 242), .ref (bs + 243), .ref (bs + 244), .ref (bs + 245), .ref (bs + 246), .ref (bs + 247), .ref (bs + 248), .ref (bs + 249), .ref (bs + 250), .ref (bs + 251), .ref (bs + 252), .ref (bs + 253), .ref (bs + 254), .ref (bs + 255), .ref (bs + 256), .int 0, .int 0, .int 0, .int 0, .ref (bs + 257), .ref (bs + 258), .ref (bs + 259), .ref (bs + 260), .ref (bs + 261), .ref (bs + 262), .ref (bs + 263), .ref (bs + 264), .ref (bs + 265), .ref (bs + 266), .ref (bs + 267), .ref (bs + 268), .ref (bs + 269), .ref (bs + 270), .ref (bs + 271), .ref (bs + 272), .int 0, .ref (bs + 273), .int (-1), .int 0, .ref (bs + 274), .ref (bs + 275), .int 0, .int 0, .int 0, .int 0, .int 0, .int 0, .int 0, .int 0, .ref (bs + 276), .ref (bs + 277), .ref (bs + 278)]) := by rw [e_cf_109]; exact (vu_ne (by decide)).trans hc_237
  have hc_267 : cf_109 267 = .inl (cy 12, 8, .inl (upd (upd (upd (upd (upd (upd (upd (upd (fun _ => 0) 0 0) 1 1) 2 0) 3 (-1)) 4 1) 5 1) 6 (-1)) 7 (-1))) := by rw [e_cf_109]; exact (vu_ne (by decide)).trans hc_267
  have hc_268 : cf_109 268 = .inl (cy 12, 8, .inl (upd (upd (upd (upd (upd (upd (upd (upd (fun _ => 0) 0 (-1)) 1 0) 2 1) 3 0) 4 (-1)) 5 1) 6 1) 7 (-1))) := by rw [e_cf_109]; exact (vu_ne (by decide)).trans hc_268
  have hc_277 : cf_109 277 = .inl (cy 12, 17, .inl (upd (upd (upd (upd (upd (upd (upd (upd (upd (upd (fun _ => 0) 0 (-9)) 1 (-9)) 2 (-9)) 3 (-9)) 4 (-9)) 5 (-9)) 6 (-9)) 7 (-9)) 8 (-9)) 9 (-9))) := by rw [e_cf_109]; exact vu_at
  have hdone : ∀ i, 237 < i → i < 279 → i ≠ 267 → i ≠ 268 → i ≠ 277 → cf_109 i = ce (GB D bs cy tD tR) (s0 i) i := fun i h1 h2 p_267 p_268 p_277 => by rw [e_cf_109]; exact (vu_ne (by omega)).trans (hdone i h1 h2 p_267 p_268 p_277)
  refine lv_iinc (v := 10) (lv' := [(1, .int 10), (0, .ref (bs + 237))]) X.1 X.2.1 d_X11_init_427 hl (k := 0) rfl (by decide) (by decide) rfl (fun ls hl => ?_)
  refine lv_goto (tgt := 413) X.1 X.2.1 d_X11_init_430 (by decide) ?_
  refine lv_iload_n X.1 X.2.1 d_X11_init_413 rfl (lv_at hl 0 rfl) ?_
  refine lv_bipush (v := 17) X.1 X.2.1 d_X11_init_414 (by decide) ?_
  refine lv_icmp_ge (tgt := 433) X.1 X.2.1 d_X11_init_416 (by decide) (fun q9 => ?_) (fun q9 => ?_)
  · exact absurd q9 (by decide)
  refine lv_aload_n X.1 X.2.1 d_X11_init_419 rfl (lv_at hl 1 rfl) ?_
  refine k_get (ci := 11) (n := 56) (k := 54) (v := .ref (bs + 277)) X hw (by decide) hc_237 ni11 rfl (by decide) tb_960 rfl rfl d_X11_init_420 ?_
  refine lv_iload_n X.1 X.2.1 d_X11_init_423 rfl (lv_at hl 0 rfl) ?_
  refine lv_bipush (v := (-9)) X.1 X.2.1 d_X11_init_424 (by decide) ?_
  refine k_iast 0 X hw (by decide) hc_277 rfl (by unfold vp_in; decide) d_X11_init_426 (fun H locs hw => ?_)
  have hw : CW D cy bs 279 [(cy 12, .int), (cy 13, .boolean)] (va_up cf_109 277 (.inl (cy 12, 17, .inl (upd (upd (upd (upd (upd (upd (upd (upd (upd (upd (upd (fun _ => 0) 0 (-9)) 1 (-9)) 2 (-9)) 3 (-9)) 4 (-9)) 5 (-9)) 6 (-9)) 7 (-9)) 8 (-9)) 9 (-9)) 10 (-9))))) s H _ 41 := hw
  obtain ⟨cf_110, e_cf_110⟩ : ∃ z : Nat → va_E, z = va_up cf_109 277 (.inl (cy 12, 17, .inl (upd (upd (upd (upd (upd (upd (upd (upd (upd (upd (upd (fun _ => 0) 0 (-9)) 1 (-9)) 2 (-9)) 3 (-9)) 4 (-9)) 5 (-9)) 6 (-9)) 7 (-9)) 8 (-9)) 9 (-9)) 10 (-9)))) := ⟨_, rfl⟩
  rw [← e_cf_110] at hw
  have hlow : ∀ i, i < 237 → cf_110 i = cf i := fun i h => by rw [e_cf_110]; exact (vu_ne (by omega)).trans (hlow i h)
  have hc_237 : cf_110 237 = .inr (11, [.ref (bs + 238), .ref (bs + 239), .ref (bs + 240), .ref (bs + 241), .ref (bs + 242), .ref (bs + 243), .ref (bs + 244), .ref (bs + 245), .ref (bs + 246), .ref (bs + 247), .ref (bs + 248), .ref (bs + 249), .ref (bs + 250), .ref (bs + 251), .ref (bs + 252), .ref (bs + 253), .ref (bs + 254), .ref (bs + 255), .ref (bs + 256), .int 0, .int 0, .int 0, .int 0, .ref (bs + 257), .ref (bs + 258), .ref (bs + 259), .ref (bs + 260), .ref (bs + 261), .ref (bs + 262), .ref (bs + 263), .ref (bs + 264), .ref (bs + 265), .ref (bs + 266), .ref (bs + 267), .ref (bs + 268), .ref (bs + 269), .ref (bs + 270), .ref (bs + 271), .ref (bs + 272), .int 0, .ref (bs + 273), .int (-1), .int 0, .ref (bs + 274), .ref (bs + 275), .int 0, .int 0, .int 0, .int 0, .int 0, .int 0, .int 0, .int 0, .ref (bs + 276), .ref (bs + 277), .ref (bs + 278)]) := by rw [e_cf_110]; exact (vu_ne (by decide)).trans hc_237
  have hc_267 : cf_110 267 = .inl (cy 12, 8, .inl (upd (upd (upd (upd (upd (upd (upd (upd (fun _ => 0) 0 0) 1 1) 2 0) 3 (-1)) 4 1) 5 1) 6 (-1)) 7 (-1))) := by rw [e_cf_110]; exact (vu_ne (by decide)).trans hc_267
  have hc_268 : cf_110 268 = .inl (cy 12, 8, .inl (upd (upd (upd (upd (upd (upd (upd (upd (fun _ => 0) 0 (-1)) 1 0) 2 1) 3 0) 4 (-1)) 5 1) 6 1) 7 (-1))) := by rw [e_cf_110]; exact (vu_ne (by decide)).trans hc_268
  have hc_277 : cf_110 277 = .inl (cy 12, 17, .inl (upd (upd (upd (upd (upd (upd (upd (upd (upd (upd (upd (fun _ => 0) 0 (-9)) 1 (-9)) 2 (-9)) 3 (-9)) 4 (-9)) 5 (-9)) 6 (-9)) 7 (-9)) 8 (-9)) 9 (-9)) 10 (-9))) := by rw [e_cf_110]; exact vu_at
  have hdone : ∀ i, 237 < i → i < 279 → i ≠ 267 → i ≠ 268 → i ≠ 277 → cf_110 i = ce (GB D bs cy tD tR) (s0 i) i := fun i h1 h2 p_267 p_268 p_277 => by rw [e_cf_110]; exact (vu_ne (by omega)).trans (hdone i h1 h2 p_267 p_268 p_277)
  refine lv_iinc (v := 11) (lv' := [(1, .int 11), (0, .ref (bs + 237))]) X.1 X.2.1 d_X11_init_427 hl (k := 0) rfl (by decide) (by decide) rfl (fun ls hl => ?_)
  refine lv_goto (tgt := 413) X.1 X.2.1 d_X11_init_430 (by decide) ?_
  refine lv_iload_n X.1 X.2.1 d_X11_init_413 rfl (lv_at hl 0 rfl) ?_
  refine lv_bipush (v := 17) X.1 X.2.1 d_X11_init_414 (by decide) ?_
  refine lv_icmp_ge (tgt := 433) X.1 X.2.1 d_X11_init_416 (by decide) (fun q9 => ?_) (fun q9 => ?_)
  · exact absurd q9 (by decide)
  refine lv_aload_n X.1 X.2.1 d_X11_init_419 rfl (lv_at hl 1 rfl) ?_
  refine k_get (ci := 11) (n := 56) (k := 54) (v := .ref (bs + 277)) X hw (by decide) hc_237 ni11 rfl (by decide) tb_960 rfl rfl d_X11_init_420 ?_
  refine lv_iload_n X.1 X.2.1 d_X11_init_423 rfl (lv_at hl 0 rfl) ?_
  refine lv_bipush (v := (-9)) X.1 X.2.1 d_X11_init_424 (by decide) ?_
  refine k_iast 0 X hw (by decide) hc_277 rfl (by unfold vp_in; decide) d_X11_init_426 (fun H locs hw => ?_)
  have hw : CW D cy bs 279 [(cy 12, .int), (cy 13, .boolean)] (va_up cf_110 277 (.inl (cy 12, 17, .inl (upd (upd (upd (upd (upd (upd (upd (upd (upd (upd (upd (upd (fun _ => 0) 0 (-9)) 1 (-9)) 2 (-9)) 3 (-9)) 4 (-9)) 5 (-9)) 6 (-9)) 7 (-9)) 8 (-9)) 9 (-9)) 10 (-9)) 11 (-9))))) s H _ 41 := hw
  obtain ⟨cf_111, e_cf_111⟩ : ∃ z : Nat → va_E, z = va_up cf_110 277 (.inl (cy 12, 17, .inl (upd (upd (upd (upd (upd (upd (upd (upd (upd (upd (upd (upd (fun _ => 0) 0 (-9)) 1 (-9)) 2 (-9)) 3 (-9)) 4 (-9)) 5 (-9)) 6 (-9)) 7 (-9)) 8 (-9)) 9 (-9)) 10 (-9)) 11 (-9)))) := ⟨_, rfl⟩
  rw [← e_cf_111] at hw
  have hlow : ∀ i, i < 237 → cf_111 i = cf i := fun i h => by rw [e_cf_111]; exact (vu_ne (by omega)).trans (hlow i h)
  have hc_237 : cf_111 237 = .inr (11, [.ref (bs + 238), .ref (bs + 239), .ref (bs + 240), .ref (bs + 241), .ref (bs + 242), .ref (bs + 243), .ref (bs + 244), .ref (bs + 245), .ref (bs + 246), .ref (bs + 247), .ref (bs + 248), .ref (bs + 249), .ref (bs + 250), .ref (bs + 251), .ref (bs + 252), .ref (bs + 253), .ref (bs + 254), .ref (bs + 255), .ref (bs + 256), .int 0, .int 0, .int 0, .int 0, .ref (bs + 257), .ref (bs + 258), .ref (bs + 259), .ref (bs + 260), .ref (bs + 261), .ref (bs + 262), .ref (bs + 263), .ref (bs + 264), .ref (bs + 265), .ref (bs + 266), .ref (bs + 267), .ref (bs + 268), .ref (bs + 269), .ref (bs + 270), .ref (bs + 271), .ref (bs + 272), .int 0, .ref (bs + 273), .int (-1), .int 0, .ref (bs + 274), .ref (bs + 275), .int 0, .int 0, .int 0, .int 0, .int 0, .int 0, .int 0, .int 0, .ref (bs + 276), .ref (bs + 277), .ref (bs + 278)]) := by rw [e_cf_111]; exact (vu_ne (by decide)).trans hc_237
  have hc_267 : cf_111 267 = .inl (cy 12, 8, .inl (upd (upd (upd (upd (upd (upd (upd (upd (fun _ => 0) 0 0) 1 1) 2 0) 3 (-1)) 4 1) 5 1) 6 (-1)) 7 (-1))) := by rw [e_cf_111]; exact (vu_ne (by decide)).trans hc_267
  have hc_268 : cf_111 268 = .inl (cy 12, 8, .inl (upd (upd (upd (upd (upd (upd (upd (upd (fun _ => 0) 0 (-1)) 1 0) 2 1) 3 0) 4 (-1)) 5 1) 6 1) 7 (-1))) := by rw [e_cf_111]; exact (vu_ne (by decide)).trans hc_268
  have hc_277 : cf_111 277 = .inl (cy 12, 17, .inl (upd (upd (upd (upd (upd (upd (upd (upd (upd (upd (upd (upd (fun _ => 0) 0 (-9)) 1 (-9)) 2 (-9)) 3 (-9)) 4 (-9)) 5 (-9)) 6 (-9)) 7 (-9)) 8 (-9)) 9 (-9)) 10 (-9)) 11 (-9))) := by rw [e_cf_111]; exact vu_at
  have hdone : ∀ i, 237 < i → i < 279 → i ≠ 267 → i ≠ 268 → i ≠ 277 → cf_111 i = ce (GB D bs cy tD tR) (s0 i) i := fun i h1 h2 p_267 p_268 p_277 => by rw [e_cf_111]; exact (vu_ne (by omega)).trans (hdone i h1 h2 p_267 p_268 p_277)
  refine lv_iinc (v := 12) (lv' := [(1, .int 12), (0, .ref (bs + 237))]) X.1 X.2.1 d_X11_init_427 hl (k := 0) rfl (by decide) (by decide) rfl (fun ls hl => ?_)
  refine lv_goto (tgt := 413) X.1 X.2.1 d_X11_init_430 (by decide) ?_
  refine lv_iload_n X.1 X.2.1 d_X11_init_413 rfl (lv_at hl 0 rfl) ?_
  refine lv_bipush (v := 17) X.1 X.2.1 d_X11_init_414 (by decide) ?_
  refine lv_icmp_ge (tgt := 433) X.1 X.2.1 d_X11_init_416 (by decide) (fun q9 => ?_) (fun q9 => ?_)
  · exact absurd q9 (by decide)
  refine lv_aload_n X.1 X.2.1 d_X11_init_419 rfl (lv_at hl 1 rfl) ?_
  refine k_get (ci := 11) (n := 56) (k := 54) (v := .ref (bs + 277)) X hw (by decide) hc_237 ni11 rfl (by decide) tb_960 rfl rfl d_X11_init_420 ?_
  refine lv_iload_n X.1 X.2.1 d_X11_init_423 rfl (lv_at hl 0 rfl) ?_
  refine lv_bipush (v := (-9)) X.1 X.2.1 d_X11_init_424 (by decide) ?_
  refine k_iast 0 X hw (by decide) hc_277 rfl (by unfold vp_in; decide) d_X11_init_426 (fun H locs hw => ?_)
  have hw : CW D cy bs 279 [(cy 12, .int), (cy 13, .boolean)] (va_up cf_111 277 (.inl (cy 12, 17, .inl (upd (upd (upd (upd (upd (upd (upd (upd (upd (upd (upd (upd (upd (fun _ => 0) 0 (-9)) 1 (-9)) 2 (-9)) 3 (-9)) 4 (-9)) 5 (-9)) 6 (-9)) 7 (-9)) 8 (-9)) 9 (-9)) 10 (-9)) 11 (-9)) 12 (-9))))) s H _ 41 := hw
  obtain ⟨cf_112, e_cf_112⟩ : ∃ z : Nat → va_E, z = va_up cf_111 277 (.inl (cy 12, 17, .inl (upd (upd (upd (upd (upd (upd (upd (upd (upd (upd (upd (upd (upd (fun _ => 0) 0 (-9)) 1 (-9)) 2 (-9)) 3 (-9)) 4 (-9)) 5 (-9)) 6 (-9)) 7 (-9)) 8 (-9)) 9 (-9)) 10 (-9)) 11 (-9)) 12 (-9)))) := ⟨_, rfl⟩
  rw [← e_cf_112] at hw
  have hlow : ∀ i, i < 237 → cf_112 i = cf i := fun i h => by rw [e_cf_112]; exact (vu_ne (by omega)).trans (hlow i h)
  have hc_237 : cf_112 237 = .inr (11, [.ref (bs + 238), .ref (bs + 239), .ref (bs + 240), .ref (bs + 241), .ref (bs + 242), .ref (bs + 243), .ref (bs + 244), .ref (bs + 245), .ref (bs + 246), .ref (bs + 247), .ref (bs + 248), .ref (bs + 249), .ref (bs + 250), .ref (bs + 251), .ref (bs + 252), .ref (bs + 253), .ref (bs + 254), .ref (bs + 255), .ref (bs + 256), .int 0, .int 0, .int 0, .int 0, .ref (bs + 257), .ref (bs + 258), .ref (bs + 259), .ref (bs + 260), .ref (bs + 261), .ref (bs + 262), .ref (bs + 263), .ref (bs + 264), .ref (bs + 265), .ref (bs + 266), .ref (bs + 267), .ref (bs + 268), .ref (bs + 269), .ref (bs + 270), .ref (bs + 271), .ref (bs + 272), .int 0, .ref (bs + 273), .int (-1), .int 0, .ref (bs + 274), .ref (bs + 275), .int 0, .int 0, .int 0, .int 0, .int 0, .int 0, .int 0, .int 0, .ref (bs + 276), .ref (bs + 277), .ref (bs + 278)]) := by rw [e_cf_112]; exact (vu_ne (by decide)).trans hc_237
  have hc_267 : cf_112 267 = .inl (cy 12, 8, .inl (upd (upd (upd (upd (upd (upd (upd (upd (fun _ => 0) 0 0) 1 1) 2 0) 3 (-1)) 4 1) 5 1) 6 (-1)) 7 (-1))) := by rw [e_cf_112]; exact (vu_ne (by decide)).trans hc_267
  have hc_268 : cf_112 268 = .inl (cy 12, 8, .inl (upd (upd (upd (upd (upd (upd (upd (upd (fun _ => 0) 0 (-1)) 1 0) 2 1) 3 0) 4 (-1)) 5 1) 6 1) 7 (-1))) := by rw [e_cf_112]; exact (vu_ne (by decide)).trans hc_268
  have hc_277 : cf_112 277 = .inl (cy 12, 17, .inl (upd (upd (upd (upd (upd (upd (upd (upd (upd (upd (upd (upd (upd (fun _ => 0) 0 (-9)) 1 (-9)) 2 (-9)) 3 (-9)) 4 (-9)) 5 (-9)) 6 (-9)) 7 (-9)) 8 (-9)) 9 (-9)) 10 (-9)) 11 (-9)) 12 (-9))) := by rw [e_cf_112]; exact vu_at
  have hdone : ∀ i, 237 < i → i < 279 → i ≠ 267 → i ≠ 268 → i ≠ 277 → cf_112 i = ce (GB D bs cy tD tR) (s0 i) i := fun i h1 h2 p_267 p_268 p_277 => by rw [e_cf_112]; exact (vu_ne (by omega)).trans (hdone i h1 h2 p_267 p_268 p_277)
  refine lv_iinc (v := 13) (lv' := [(1, .int 13), (0, .ref (bs + 237))]) X.1 X.2.1 d_X11_init_427 hl (k := 0) rfl (by decide) (by decide) rfl (fun ls hl => ?_)
  refine lv_goto (tgt := 413) X.1 X.2.1 d_X11_init_430 (by decide) ?_
  refine lv_iload_n X.1 X.2.1 d_X11_init_413 rfl (lv_at hl 0 rfl) ?_
  refine lv_bipush (v := 17) X.1 X.2.1 d_X11_init_414 (by decide) ?_
  refine lv_icmp_ge (tgt := 433) X.1 X.2.1 d_X11_init_416 (by decide) (fun q9 => ?_) (fun q9 => ?_)
  · exact absurd q9 (by decide)
  refine lv_aload_n X.1 X.2.1 d_X11_init_419 rfl (lv_at hl 1 rfl) ?_
  refine k_get (ci := 11) (n := 56) (k := 54) (v := .ref (bs + 277)) X hw (by decide) hc_237 ni11 rfl (by decide) tb_960 rfl rfl d_X11_init_420 ?_
  refine lv_iload_n X.1 X.2.1 d_X11_init_423 rfl (lv_at hl 0 rfl) ?_
  refine lv_bipush (v := (-9)) X.1 X.2.1 d_X11_init_424 (by decide) ?_
  refine k_iast 0 X hw (by decide) hc_277 rfl (by unfold vp_in; decide) d_X11_init_426 (fun H locs hw => ?_)
  have hw : CW D cy bs 279 [(cy 12, .int), (cy 13, .boolean)] (va_up cf_112 277 (.inl (cy 12, 17, .inl (upd (upd (upd (upd (upd (upd (upd (upd (upd (upd (upd (upd (upd (upd (fun _ => 0) 0 (-9)) 1 (-9)) 2 (-9)) 3 (-9)) 4 (-9)) 5 (-9)) 6 (-9)) 7 (-9)) 8 (-9)) 9 (-9)) 10 (-9)) 11 (-9)) 12 (-9)) 13 (-9))))) s H _ 41 := hw
  obtain ⟨cf_113, e_cf_113⟩ : ∃ z : Nat → va_E, z = va_up cf_112 277 (.inl (cy 12, 17, .inl (upd (upd (upd (upd (upd (upd (upd (upd (upd (upd (upd (upd (upd (upd (fun _ => 0) 0 (-9)) 1 (-9)) 2 (-9)) 3 (-9)) 4 (-9)) 5 (-9)) 6 (-9)) 7 (-9)) 8 (-9)) 9 (-9)) 10 (-9)) 11 (-9)) 12 (-9)) 13 (-9)))) := ⟨_, rfl⟩
  rw [← e_cf_113] at hw
  have hlow : ∀ i, i < 237 → cf_113 i = cf i := fun i h => by rw [e_cf_113]; exact (vu_ne (by omega)).trans (hlow i h)
  have hc_237 : cf_113 237 = .inr (11, [.ref (bs + 238), .ref (bs + 239), .ref (bs + 240), .ref (bs + 241), .ref (bs + 242), .ref (bs + 243), .ref (bs + 244), .ref (bs + 245), .ref (bs + 246), .ref (bs + 247), .ref (bs + 248), .ref (bs + 249), .ref (bs + 250), .ref (bs + 251), .ref (bs + 252), .ref (bs + 253), .ref (bs + 254), .ref (bs + 255), .ref (bs + 256), .int 0, .int 0, .int 0, .int 0, .ref (bs + 257), .ref (bs + 258), .ref (bs + 259), .ref (bs + 260), .ref (bs + 261), .ref (bs + 262), .ref (bs + 263), .ref (bs + 264), .ref (bs + 265), .ref (bs + 266), .ref (bs + 267), .ref (bs + 268), .ref (bs + 269), .ref (bs + 270), .ref (bs + 271), .ref (bs + 272), .int 0, .ref (bs + 273), .int (-1), .int 0, .ref (bs + 274), .ref (bs + 275), .int 0, .int 0, .int 0, .int 0, .int 0, .int 0, .int 0, .int 0, .ref (bs + 276), .ref (bs + 277), .ref (bs + 278)]) := by rw [e_cf_113]; exact (vu_ne (by decide)).trans hc_237
  have hc_267 : cf_113 267 = .inl (cy 12, 8, .inl (upd (upd (upd (upd (upd (upd (upd (upd (fun _ => 0) 0 0) 1 1) 2 0) 3 (-1)) 4 1) 5 1) 6 (-1)) 7 (-1))) := by rw [e_cf_113]; exact (vu_ne (by decide)).trans hc_267
  have hc_268 : cf_113 268 = .inl (cy 12, 8, .inl (upd (upd (upd (upd (upd (upd (upd (upd (fun _ => 0) 0 (-1)) 1 0) 2 1) 3 0) 4 (-1)) 5 1) 6 1) 7 (-1))) := by rw [e_cf_113]; exact (vu_ne (by decide)).trans hc_268
  have hc_277 : cf_113 277 = .inl (cy 12, 17, .inl (upd (upd (upd (upd (upd (upd (upd (upd (upd (upd (upd (upd (upd (upd (fun _ => 0) 0 (-9)) 1 (-9)) 2 (-9)) 3 (-9)) 4 (-9)) 5 (-9)) 6 (-9)) 7 (-9)) 8 (-9)) 9 (-9)) 10 (-9)) 11 (-9)) 12 (-9)) 13 (-9))) := by rw [e_cf_113]; exact vu_at
  have hdone : ∀ i, 237 < i → i < 279 → i ≠ 267 → i ≠ 268 → i ≠ 277 → cf_113 i = ce (GB D bs cy tD tR) (s0 i) i := fun i h1 h2 p_267 p_268 p_277 => by rw [e_cf_113]; exact (vu_ne (by omega)).trans (hdone i h1 h2 p_267 p_268 p_277)
  refine lv_iinc (v := 14) (lv' := [(1, .int 14), (0, .ref (bs + 237))]) X.1 X.2.1 d_X11_init_427 hl (k := 0) rfl (by decide) (by decide) rfl (fun ls hl => ?_)
  refine lv_goto (tgt := 413) X.1 X.2.1 d_X11_init_430 (by decide) ?_
  refine lv_iload_n X.1 X.2.1 d_X11_init_413 rfl (lv_at hl 0 rfl) ?_
  refine lv_bipush (v := 17) X.1 X.2.1 d_X11_init_414 (by decide) ?_
  refine lv_icmp_ge (tgt := 433) X.1 X.2.1 d_X11_init_416 (by decide) (fun q9 => ?_) (fun q9 => ?_)
  · exact absurd q9 (by decide)
  refine lv_aload_n X.1 X.2.1 d_X11_init_419 rfl (lv_at hl 1 rfl) ?_
  refine k_get (ci := 11) (n := 56) (k := 54) (v := .ref (bs + 277)) X hw (by decide) hc_237 ni11 rfl (by decide) tb_960 rfl rfl d_X11_init_420 ?_
  refine lv_iload_n X.1 X.2.1 d_X11_init_423 rfl (lv_at hl 0 rfl) ?_
  refine lv_bipush (v := (-9)) X.1 X.2.1 d_X11_init_424 (by decide) ?_
  refine k_iast 0 X hw (by decide) hc_277 rfl (by unfold vp_in; decide) d_X11_init_426 (fun H locs hw => ?_)
  have hw : CW D cy bs 279 [(cy 12, .int), (cy 13, .boolean)] (va_up cf_113 277 (.inl (cy 12, 17, .inl (upd (upd (upd (upd (upd (upd (upd (upd (upd (upd (upd (upd (upd (upd (upd (fun _ => 0) 0 (-9)) 1 (-9)) 2 (-9)) 3 (-9)) 4 (-9)) 5 (-9)) 6 (-9)) 7 (-9)) 8 (-9)) 9 (-9)) 10 (-9)) 11 (-9)) 12 (-9)) 13 (-9)) 14 (-9))))) s H _ 41 := hw
  obtain ⟨cf_114, e_cf_114⟩ : ∃ z : Nat → va_E, z = va_up cf_113 277 (.inl (cy 12, 17, .inl (upd (upd (upd (upd (upd (upd (upd (upd (upd (upd (upd (upd (upd (upd (upd (fun _ => 0) 0 (-9)) 1 (-9)) 2 (-9)) 3 (-9)) 4 (-9)) 5 (-9)) 6 (-9)) 7 (-9)) 8 (-9)) 9 (-9)) 10 (-9)) 11 (-9)) 12 (-9)) 13 (-9)) 14 (-9)))) := ⟨_, rfl⟩
  rw [← e_cf_114] at hw
  have hlow : ∀ i, i < 237 → cf_114 i = cf i := fun i h => by rw [e_cf_114]; exact (vu_ne (by omega)).trans (hlow i h)
  have hc_237 : cf_114 237 = .inr (11, [.ref (bs + 238), .ref (bs + 239), .ref (bs + 240), .ref (bs + 241), .ref (bs + 242), .ref (bs + 243), .ref (bs + 244), .ref (bs + 245), .ref (bs + 246), .ref (bs + 247), .ref (bs + 248), .ref (bs + 249), .ref (bs + 250), .ref (bs + 251), .ref (bs + 252), .ref (bs + 253), .ref (bs + 254), .ref (bs + 255), .ref (bs + 256), .int 0, .int 0, .int 0, .int 0, .ref (bs + 257), .ref (bs + 258), .ref (bs + 259), .ref (bs + 260), .ref (bs + 261), .ref (bs + 262), .ref (bs + 263), .ref (bs + 264), .ref (bs + 265), .ref (bs + 266), .ref (bs + 267), .ref (bs + 268), .ref (bs + 269), .ref (bs + 270), .ref (bs + 271), .ref (bs + 272), .int 0, .ref (bs + 273), .int (-1), .int 0, .ref (bs + 274), .ref (bs + 275), .int 0, .int 0, .int 0, .int 0, .int 0, .int 0, .int 0, .int 0, .ref (bs + 276), .ref (bs + 277), .ref (bs + 278)]) := by rw [e_cf_114]; exact (vu_ne (by decide)).trans hc_237
  have hc_267 : cf_114 267 = .inl (cy 12, 8, .inl (upd (upd (upd (upd (upd (upd (upd (upd (fun _ => 0) 0 0) 1 1) 2 0) 3 (-1)) 4 1) 5 1) 6 (-1)) 7 (-1))) := by rw [e_cf_114]; exact (vu_ne (by decide)).trans hc_267
  have hc_268 : cf_114 268 = .inl (cy 12, 8, .inl (upd (upd (upd (upd (upd (upd (upd (upd (fun _ => 0) 0 (-1)) 1 0) 2 1) 3 0) 4 (-1)) 5 1) 6 1) 7 (-1))) := by rw [e_cf_114]; exact (vu_ne (by decide)).trans hc_268
  have hc_277 : cf_114 277 = .inl (cy 12, 17, .inl (upd (upd (upd (upd (upd (upd (upd (upd (upd (upd (upd (upd (upd (upd (upd (fun _ => 0) 0 (-9)) 1 (-9)) 2 (-9)) 3 (-9)) 4 (-9)) 5 (-9)) 6 (-9)) 7 (-9)) 8 (-9)) 9 (-9)) 10 (-9)) 11 (-9)) 12 (-9)) 13 (-9)) 14 (-9))) := by rw [e_cf_114]; exact vu_at
  have hdone : ∀ i, 237 < i → i < 279 → i ≠ 267 → i ≠ 268 → i ≠ 277 → cf_114 i = ce (GB D bs cy tD tR) (s0 i) i := fun i h1 h2 p_267 p_268 p_277 => by rw [e_cf_114]; exact (vu_ne (by omega)).trans (hdone i h1 h2 p_267 p_268 p_277)
  refine lv_iinc (v := 15) (lv' := [(1, .int 15), (0, .ref (bs + 237))]) X.1 X.2.1 d_X11_init_427 hl (k := 0) rfl (by decide) (by decide) rfl (fun ls hl => ?_)
  refine lv_goto (tgt := 413) X.1 X.2.1 d_X11_init_430 (by decide) ?_
  refine lv_iload_n X.1 X.2.1 d_X11_init_413 rfl (lv_at hl 0 rfl) ?_
  refine lv_bipush (v := 17) X.1 X.2.1 d_X11_init_414 (by decide) ?_
  refine lv_icmp_ge (tgt := 433) X.1 X.2.1 d_X11_init_416 (by decide) (fun q9 => ?_) (fun q9 => ?_)
  · exact absurd q9 (by decide)
  refine lv_aload_n X.1 X.2.1 d_X11_init_419 rfl (lv_at hl 1 rfl) ?_
  refine k_get (ci := 11) (n := 56) (k := 54) (v := .ref (bs + 277)) X hw (by decide) hc_237 ni11 rfl (by decide) tb_960 rfl rfl d_X11_init_420 ?_
  refine lv_iload_n X.1 X.2.1 d_X11_init_423 rfl (lv_at hl 0 rfl) ?_
  refine lv_bipush (v := (-9)) X.1 X.2.1 d_X11_init_424 (by decide) ?_
  refine k_iast 0 X hw (by decide) hc_277 rfl (by unfold vp_in; decide) d_X11_init_426 (fun H locs hw => ?_)
  have hw : CW D cy bs 279 [(cy 12, .int), (cy 13, .boolean)] (va_up cf_114 277 (.inl (cy 12, 17, .inl (upd (upd (upd (upd (upd (upd (upd (upd (upd (upd (upd (upd (upd (upd (upd (upd (fun _ => 0) 0 (-9)) 1 (-9)) 2 (-9)) 3 (-9)) 4 (-9)) 5 (-9)) 6 (-9)) 7 (-9)) 8 (-9)) 9 (-9)) 10 (-9)) 11 (-9)) 12 (-9)) 13 (-9)) 14 (-9)) 15 (-9))))) s H _ 41 := hw
  obtain ⟨cf_115, e_cf_115⟩ : ∃ z : Nat → va_E, z = va_up cf_114 277 (.inl (cy 12, 17, .inl (upd (upd (upd (upd (upd (upd (upd (upd (upd (upd (upd (upd (upd (upd (upd (upd (fun _ => 0) 0 (-9)) 1 (-9)) 2 (-9)) 3 (-9)) 4 (-9)) 5 (-9)) 6 (-9)) 7 (-9)) 8 (-9)) 9 (-9)) 10 (-9)) 11 (-9)) 12 (-9)) 13 (-9)) 14 (-9)) 15 (-9)))) := ⟨_, rfl⟩
  rw [← e_cf_115] at hw
  have hlow : ∀ i, i < 237 → cf_115 i = cf i := fun i h => by rw [e_cf_115]; exact (vu_ne (by omega)).trans (hlow i h)
  have hc_237 : cf_115 237 = .inr (11, [.ref (bs + 238), .ref (bs + 239), .ref (bs + 240), .ref (bs + 241), .ref (bs + 242), .ref (bs + 243), .ref (bs + 244), .ref (bs + 245), .ref (bs + 246), .ref (bs + 247), .ref (bs + 248), .ref (bs + 249), .ref (bs + 250), .ref (bs + 251), .ref (bs + 252), .ref (bs + 253), .ref (bs + 254), .ref (bs + 255), .ref (bs + 256), .int 0, .int 0, .int 0, .int 0, .ref (bs + 257), .ref (bs + 258), .ref (bs + 259), .ref (bs + 260), .ref (bs + 261), .ref (bs + 262), .ref (bs + 263), .ref (bs + 264), .ref (bs + 265), .ref (bs + 266), .ref (bs + 267), .ref (bs + 268), .ref (bs + 269), .ref (bs + 270), .ref (bs + 271), .ref (bs + 272), .int 0, .ref (bs + 273), .int (-1), .int 0, .ref (bs + 274), .ref (bs + 275), .int 0, .int 0, .int 0, .int 0, .int 0, .int 0, .int 0, .int 0, .ref (bs + 276), .ref (bs + 277), .ref (bs + 278)]) := by rw [e_cf_115]; exact (vu_ne (by decide)).trans hc_237
  have hc_267 : cf_115 267 = .inl (cy 12, 8, .inl (upd (upd (upd (upd (upd (upd (upd (upd (fun _ => 0) 0 0) 1 1) 2 0) 3 (-1)) 4 1) 5 1) 6 (-1)) 7 (-1))) := by rw [e_cf_115]; exact (vu_ne (by decide)).trans hc_267
  have hc_268 : cf_115 268 = .inl (cy 12, 8, .inl (upd (upd (upd (upd (upd (upd (upd (upd (fun _ => 0) 0 (-1)) 1 0) 2 1) 3 0) 4 (-1)) 5 1) 6 1) 7 (-1))) := by rw [e_cf_115]; exact (vu_ne (by decide)).trans hc_268
  have hc_277 : cf_115 277 = .inl (cy 12, 17, .inl (upd (upd (upd (upd (upd (upd (upd (upd (upd (upd (upd (upd (upd (upd (upd (upd (fun _ => 0) 0 (-9)) 1 (-9)) 2 (-9)) 3 (-9)) 4 (-9)) 5 (-9)) 6 (-9)) 7 (-9)) 8 (-9)) 9 (-9)) 10 (-9)) 11 (-9)) 12 (-9)) 13 (-9)) 14 (-9)) 15 (-9))) := by rw [e_cf_115]; exact vu_at
  have hdone : ∀ i, 237 < i → i < 279 → i ≠ 267 → i ≠ 268 → i ≠ 277 → cf_115 i = ce (GB D bs cy tD tR) (s0 i) i := fun i h1 h2 p_267 p_268 p_277 => by rw [e_cf_115]; exact (vu_ne (by omega)).trans (hdone i h1 h2 p_267 p_268 p_277)
  refine lv_iinc (v := 16) (lv' := [(1, .int 16), (0, .ref (bs + 237))]) X.1 X.2.1 d_X11_init_427 hl (k := 0) rfl (by decide) (by decide) rfl (fun ls hl => ?_)
  refine lv_goto (tgt := 413) X.1 X.2.1 d_X11_init_430 (by decide) ?_
  refine lv_iload_n X.1 X.2.1 d_X11_init_413 rfl (lv_at hl 0 rfl) ?_
  refine lv_bipush (v := 17) X.1 X.2.1 d_X11_init_414 (by decide) ?_
  refine lv_icmp_ge (tgt := 433) X.1 X.2.1 d_X11_init_416 (by decide) (fun q9 => ?_) (fun q9 => ?_)
  · exact absurd q9 (by decide)
  refine lv_aload_n X.1 X.2.1 d_X11_init_419 rfl (lv_at hl 1 rfl) ?_
  refine k_get (ci := 11) (n := 56) (k := 54) (v := .ref (bs + 277)) X hw (by decide) hc_237 ni11 rfl (by decide) tb_960 rfl rfl d_X11_init_420 ?_
  refine lv_iload_n X.1 X.2.1 d_X11_init_423 rfl (lv_at hl 0 rfl) ?_
  refine lv_bipush (v := (-9)) X.1 X.2.1 d_X11_init_424 (by decide) ?_
  refine k_iast 0 X hw (by decide) hc_277 rfl (by unfold vp_in; decide) d_X11_init_426 (fun H locs hw => ?_)
  have hw : CW D cy bs 279 [(cy 12, .int), (cy 13, .boolean)] (va_up cf_115 277 (.inl (cy 12, 17, .inl (upd (upd (upd (upd (upd (upd (upd (upd (upd (upd (upd (upd (upd (upd (upd (upd (upd (fun _ => 0) 0 (-9)) 1 (-9)) 2 (-9)) 3 (-9)) 4 (-9)) 5 (-9)) 6 (-9)) 7 (-9)) 8 (-9)) 9 (-9)) 10 (-9)) 11 (-9)) 12 (-9)) 13 (-9)) 14 (-9)) 15 (-9)) 16 (-9))))) s H _ 41 := hw
  obtain ⟨cf_116, e_cf_116⟩ : ∃ z : Nat → va_E, z = va_up cf_115 277 (.inl (cy 12, 17, .inl (upd (upd (upd (upd (upd (upd (upd (upd (upd (upd (upd (upd (upd (upd (upd (upd (upd (fun _ => 0) 0 (-9)) 1 (-9)) 2 (-9)) 3 (-9)) 4 (-9)) 5 (-9)) 6 (-9)) 7 (-9)) 8 (-9)) 9 (-9)) 10 (-9)) 11 (-9)) 12 (-9)) 13 (-9)) 14 (-9)) 15 (-9)) 16 (-9)))) := ⟨_, rfl⟩
  rw [← e_cf_116] at hw
  have hlow : ∀ i, i < 237 → cf_116 i = cf i := fun i h => by rw [e_cf_116]; exact (vu_ne (by omega)).trans (hlow i h)
  have hc_237 : cf_116 237 = .inr (11, [.ref (bs + 238), .ref (bs + 239), .ref (bs + 240), .ref (bs + 241), .ref (bs + 242), .ref (bs + 243), .ref (bs + 244), .ref (bs + 245), .ref (bs + 246), .ref (bs + 247), .ref (bs + 248), .ref (bs + 249), .ref (bs + 250), .ref (bs + 251), .ref (bs + 252), .ref (bs + 253), .ref (bs + 254), .ref (bs + 255), .ref (bs + 256), .int 0, .int 0, .int 0, .int 0, .ref (bs + 257), .ref (bs + 258), .ref (bs + 259), .ref (bs + 260), .ref (bs + 261), .ref (bs + 262), .ref (bs + 263), .ref (bs + 264), .ref (bs + 265), .ref (bs + 266), .ref (bs + 267), .ref (bs + 268), .ref (bs + 269), .ref (bs + 270), .ref (bs + 271), .ref (bs + 272), .int 0, .ref (bs + 273), .int (-1), .int 0, .ref (bs + 274), .ref (bs + 275), .int 0, .int 0, .int 0, .int 0, .int 0, .int 0, .int 0, .int 0, .ref (bs + 276), .ref (bs + 277), .ref (bs + 278)]) := by rw [e_cf_116]; exact (vu_ne (by decide)).trans hc_237
  have hc_267 : cf_116 267 = .inl (cy 12, 8, .inl (upd (upd (upd (upd (upd (upd (upd (upd (fun _ => 0) 0 0) 1 1) 2 0) 3 (-1)) 4 1) 5 1) 6 (-1)) 7 (-1))) := by rw [e_cf_116]; exact (vu_ne (by decide)).trans hc_267
  have hc_268 : cf_116 268 = .inl (cy 12, 8, .inl (upd (upd (upd (upd (upd (upd (upd (upd (fun _ => 0) 0 (-1)) 1 0) 2 1) 3 0) 4 (-1)) 5 1) 6 1) 7 (-1))) := by rw [e_cf_116]; exact (vu_ne (by decide)).trans hc_268
  have hc_277 : cf_116 277 = .inl (cy 12, 17, .inl (upd (upd (upd (upd (upd (upd (upd (upd (upd (upd (upd (upd (upd (upd (upd (upd (upd (fun _ => 0) 0 (-9)) 1 (-9)) 2 (-9)) 3 (-9)) 4 (-9)) 5 (-9)) 6 (-9)) 7 (-9)) 8 (-9)) 9 (-9)) 10 (-9)) 11 (-9)) 12 (-9)) 13 (-9)) 14 (-9)) 15 (-9)) 16 (-9))) := by rw [e_cf_116]; exact vu_at
  have hdone : ∀ i, 237 < i → i < 279 → i ≠ 267 → i ≠ 268 → i ≠ 277 → cf_116 i = ce (GB D bs cy tD tR) (s0 i) i := fun i h1 h2 p_267 p_268 p_277 => by rw [e_cf_116]; exact (vu_ne (by omega)).trans (hdone i h1 h2 p_267 p_268 p_277)
  refine lv_iinc (v := 17) (lv' := [(1, .int 17), (0, .ref (bs + 237))]) X.1 X.2.1 d_X11_init_427 hl (k := 0) rfl (by decide) (by decide) rfl (fun ls hl => ?_)
  refine lv_goto (tgt := 413) X.1 X.2.1 d_X11_init_430 (by decide) ?_
  refine lv_iload_n X.1 X.2.1 d_X11_init_413 rfl (lv_at hl 0 rfl) ?_
  refine lv_bipush (v := 17) X.1 X.2.1 d_X11_init_414 (by decide) ?_
  refine lv_icmp_ge (tgt := 433) X.1 X.2.1 d_X11_init_416 (by decide) (fun q9 => ?_) (fun q9 => ?_)
  rotate_left
  · exact absurd (by decide) q9
  refine k_vret X hr hlk hw ⟨hlow, fun i h1 h2 => ?_⟩ d_X11_init_433
  rcases Nat.eq_or_lt_of_le h1 with h3 | h3
  · subst h3; exact hc_237.trans rfl
  by_cases p_267 : i = 267
  · subst p_267; exact hc_267.trans (ca_267 _ _ _ _ _)
  by_cases p_268 : i = 268
  · subst p_268; exact hc_268.trans (ca_268 _ _ _ _ _)
  by_cases p_277 : i = 277
  · subst p_277; exact hc_277.trans (ca_277 _ _ _ _ _)
  exact hdone i h3 h2 p_267 p_268 p_277
