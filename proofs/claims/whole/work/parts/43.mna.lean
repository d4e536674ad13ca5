/-- the heap S when i rows of 'new int[7][256]' stand: all that stood before, the array of rows at h0, its first i rows behind it -/
def mnRow (cA cI : ClassId) (h0 : Nat) (H : Heap) (i : Nat) (S : Heap) : Prop :=
  S.size = h0 + 1 + i ∧ (∀ x : Nat, x < h0 → S[x]? = H[x]?) ∧ S[h0]? = some (arrV cA 7 (fun j => va_rf (if j < i then some (h0 + 1 + j) else none))) ∧ ∀ j : Nat, j < i → S[h0 + 1 + j]? = some (arrV cI 256 (fun _ => .int 0))
section GML
variable {p : Program} {l : Launch} {e : Env} {R : Room} {s T : State} {m : MethodId} {args : Array Value} {below : List Frame} {meth : Method} {c : Code} {locs : List Loc} {cells slots : Nat} {rest : List Value} {own : String} {idx : Nat} {g : JFrame}
theorem mn_law (X : Stand p l e R s m args below meth c T locs cells slots) (hexec : p.tables.exec = Jvm.exec) (hown : s.vm.findClass own = some m.cls) (h1 : (Cond.classLink own idx "[[I").before args s = true) (h2 : (Cond.arrayOver (.array .int)).before args s = true) (h3 : (Cond.arrayClass .int).before args s = true) (hg : g.method = m) (hdg : decode c.code g.pc = .ok (.multianewarray idx 2, 4)) (hst : g.stack = .int 256 :: .int 7 :: rest) (hc : cells + 8 ≤ R.cells) (hs : slots + 1799 ≤ R.slots) :
    ∃ (cA cI : ClassId) (F : State), s.vm.findClass "[[I" = some cA ∧ s.vm.findClass "[I" = some cI ∧ (∃ (k : Class) (cm : ClassId), s.vm.classes[cA]? = some k ∧ k.kind = .array cm (.array .int)) ∧ mnRow cA cI T.heap.size T.heap 7 F.heap ∧
      Stand p l e R s m args below meth c F locs (cells + 8) (slots + 1799) ∧
      ∀ target, Steps p.tables e below (F.setTop { g with pc := g.pc + 4, stack := .ref T.heap.size :: rest }) target → Steps p.tables e below (T.setTop g) target := by
  sorry
end GML
def mnaF (cy : Nat → ClassId) (bs N : Nat) (cf : Nat → va_E) : Nat → va_E := fun i => if i < N then cf i else if i = N then .inl (cy 16, 7, .inr (.inr (.inr (.inr (fun j => if j < 7 then some (bs + (N + 1 + j)) else none))))) else .inl (cy 12, 256, .inl (fun _ => 0))
section GMN
variable {p : Program} {l : Launch} {e : Env} {R : Room} {s : State} {m : MethodId} {args : Array Value} {below : List Frame} {meth : Method} {c : Code} {H : Heap} {locs : List Loc} {cells slots : Nat} {Q : State → Prop} {cc : ByteArray} {pc nL : Nat} {ls : Array Slot} {rest : List Value} {own : String} {idx : Nat} {D : va_G} {cy : Nat → ClassId} {bs N : Nat} {tys : List (ClassId × FieldType)} {cf : Nat → va_E}
theorem k_mna (X : CallFix p m c cc nL s args lw_us own) (hw : CW D cy bs N tys cf s H locs cells) (hao : va_Nw (.arrayOver (.array .int)) s) (h1 : Cond.classLink own idx "[[I" ∈ lw_us) (h2 : Cond.arrayClass .int ∈ lw_us) (hc : cells + 8 ≤ R.cells) (hs : slots + 1799 ≤ R.slots) (hdg : decode cc pc = .ok (.multianewarray idx 2, 4)) (kk : ∀ H1 : Heap, CW D cy bs (N + 8) (tys ++ [(cy 16, .array .int)]) (mnaF cy bs N cf) s H1 locs (cells + 8) → W p l e R s m args below meth c H1 locs (cells + 8) (slots + 1799) Q (F0 m (pc + 4) ls (.ref (bs + N) :: rest))) : W p l e R s m args below meth c H locs cells slots Q (F0 m pc ls (.int 256 :: .int 7 :: rest)) := by
  refine W_size fun hz => ?_
  have hsz := hw.size hz
  intro T hT Xs
  obtain ⟨cA, cI, F, fA, fC, ⟨k9, cm9, hk9, hkk9⟩, ⟨f1, hold, f2, hrow⟩, X2, step⟩ := mn_law Xs X.1 (own := own) (idx := idx) X.2.2.2.1 (X.2.2.2.2 _ h1) hao (X.2.2.2.2 _ h2) (g := F0 m pc ls (.int 256 :: .int 7 :: rest)) rfl (by rw [X.2.1]; exact hdg) (rest := rest) rfl hc hs
  have ecA := hw.2.2.2.2.1.2.2.2.2 cA fA
  have ecC := hw.2.2.2.2.1.1 cI fC
  subst ecA
  subst ecC
  rw [hT] at f1 hold f2 hrow
  have hrow : ∀ j : Nat, j < 7 → F.heap[H.size + 1 + j]? = some (vp_cell (cy 12) (256, .inl (fun _ => 0))) := fun j hj => by rw [hrow j hj, vp_cell_i]
  have f2 : F.heap[H.size]? = some (vp_cell (cy 16) (7, .inr (.inr (.inr (.inr (fun i => if i < 7 then some (H.size + 1 + i) else none)))))) := by rw [f2, vp_cell_q]
  have hS := hw.2.2.2.1
  have hP : va_P D clW (wsC bs (mnaF cy bs N cf) (N + 8)) F.heap := by
    intro k q hk
    obtain ⟨h3, rfl⟩ := wsC_inv hk
    rcases Nat.lt_or_ge k N with h4 | h4
    · have := (hw.2.2.1 k _ (wsC_get h4 rfl)).kept (H1 := F.heap) (hold _ (by rw [hsz]; show bs + k < bs + N; omega))
      rw [show mnaF cy bs N cf k = cf k from if_pos h4]
      exact this
    · rcases Nat.eq_or_lt_of_le h4 with h5 | h5
      · subst h5
        rw [show mnaF cy bs N cf N = .inl (cy 16, 7, .inr (.inr (.inr (.inr (fun j => if j < 7 then some (bs + (N + 1 + j)) else none))))) by simp [mnaF]]
        show F.heap[bs + N]? = _
        rw [← hsz, f2, hsz]
        simp only [Nat.add_assoc]
      · rw [show mnaF cy bs N cf k = .inl (cy 12, 256, .inl (fun _ => 0)) by simp [mnaF, show ¬ k < N by omega, show ¬ k = N by omega]]
        show F.heap[bs + k]? = _
        have := hrow (k - N - 1) (by omega)
        rw [show H.size + 1 + (k - N - 1) = bs + k by omega] at this
        exact this
  have hAr : ArrOfT s (cy 16) (.array .int) := fun N9 z9 => by
    exact ⟨(fun q hq => by cases hq), k9, hk9, cm9, hkk9⟩
  have hK : va_K D clW (tys ++ [(cy 16, .array .int)]) s := ⟨hw.1.1, fun j x hx => by
    by_cases hl : j < tys.length
    · rw [List.getElem?_append_left hl] at hx
      exact hw.1.2 j x hx
    · rw [List.getElem?_append_right (by omega)] at hx
      have hz : j - tys.length < 1 := (List.getElem?_eq_some_iff.mp hx).1
      rw [show j - tys.length = 0 by omega] at hx
      cases hx
      exact ⟨hAr, fA⟩⟩
  obtain ⟨t, a1, b1⟩ := kk F.heap ⟨hK, by have := hw.2.1; omega, hP, ⟨by rw [f1]; have := hS.1; omega, fun x h3 h4 => (hold x (Nat.lt_of_lt_of_le h3 hS.1)).trans (hS.2.1 x h3 h4), hS.2.2⟩, hw.2.2.2.2⟩ F rfl X2
  refine ⟨t, step t ?_, b1⟩
  rw [hT, hsz]
  exact a1
end GMN

set_option maxRecDepth 100000 in
set_option maxHeartbeats 4000000 in
theorem kc_X3_init_29 (l : Launch) (D : va_G) (cy : Nat → ClassId) (bs tD tR : Nat) (cf : Nat → va_E) (hc_29 : cf 29 = .inr (3, [.null, .int 0, .null])) : MC l ym_X3_init cm_X3_init 1 { frames := 1, cells := 9, slots := 1806, locals := 20 } D cy bs 30 cf [.ref (bs + 29)] 39 [(cy 12, .int), (cy 16, .array .int)] (Pd D cy bs tD tR cf 29 39) 9 1806 := by
  refine met_c (by decide) (by decide) (Nat.le_of_ble_eq_true rfl) ?_
  intro p e s m args below meth c X hr hlk hin hw ls hl
  have hl : lv_has ls 1 [(0, .ref (bs + 29))] := hl
  have hlow : ∀ i, i < 29 → cf i = cf i := fun _ _ => rfl
  have hdone : ∀ i, 29 < i → i < 30 → cf i = ce (GB D bs cy tD tR) (s0 i) i := fun i h1 h2 => by omega
  refine lv_aload_n X.1 X.2.1 d_X3_init_0 rfl (lv_at hl 0 rfl) ?_
  refine W.objInit X.1 X.2.1 X.2.2.2.1 (X.2.2.2.2 _ tb_210) (X.2.2.2.2 _ tb_22) (X.2.2.2.2 _ tb_23) rfl (by rw [X.2.2.1]; exact hl.1) rfl d_X3_init_1 (Nat.le_of_ble_eq_true rfl) (Nat.le_of_ble_eq_true rfl) ?_
  refine W.eq (g2 := F0 m 4 ls []) rfl ?_
  refine lv_aload_n X.1 X.2.1 d_X3_init_4 rfl (lv_at hl 0 rfl) ?_
  refine lv_bipush (v := 7) X.1 X.2.1 d_X3_init_5 (by decide) ?_
  refine k_newI (N' := 7) X hw (by decide) (by decide) (by decide) (Nat.le_of_ble_eq_true rfl) (Nat.le_of_ble_eq_true rfl) d_X3_init_7 (fun H hw => ?_)
  have hw : CW D cy bs 31 ([] ++ [(cy 12, .int)]) _ s H _ 1 := hw
  obtain ⟨cf_1, e_cf_1⟩ : ∃ z : Nat → va_E, z = va_up cf 30 (.inl (cy 12, 7, .inl (fun _ => 0))) := ⟨_, rfl⟩
  rw [← e_cf_1] at hw
  have hlow : ∀ i, i < 29 → cf_1 i = cf i := fun i h => by rw [e_cf_1]; exact (vu_ne (by omega)).trans (hlow i h)
  have hc_29 : cf_1 29 = .inr (3, [.null, .int 0, .null]) := by rw [e_cf_1]; exact (vu_ne (by decide)).trans hc_29
  have hc_30 : cf_1 30 = .inl (cy 12, 7, .inl (fun _ => 0)) := by rw [e_cf_1]; exact vu_at
  have hdone : ∀ i, 29 < i → i < 31 → i ≠ 30 → cf_1 i = ce (GB D bs cy tD tR) (s0 i) i := fun i h1 h2 p_30 => by rw [e_cf_1]; exact (vu_ne (by omega)).trans (hdone i h1 (by omega) )
  have hdone : ∀ i, 29 < i → i < 31 → cf_1 i = ce (GB D bs cy tD tR) (s0 i) i := fun i h1 h2  => by
    by_cases p_30 : i = 30
    · subst p_30; exact hc_30.trans rfl
    · exact hdone i h1 h2 p_30
  have hw : CW D cy bs 31 [(cy 12, .int)] cf_1 s H _ 1 := k_tys [0] hw rfl
  refine W.eq (g2 := F0 m 9 ls [.ref (bs + 30), .ref (bs + 29)]) rfl ?_
  refine k_putF (ci := 3) (n := 3) (k := 0) (v := .ref (bs + 30)) (ty := .array (.int)) nty3 X hw (by decide) hc_29 ni3 nk3 nn3 rfl (by decide) tb_213 rfl rfl hin rfl (by decide +kernel) rfl rfl (Nat.le_of_ble_eq_true rfl) d_X3_init_9 (fun H locs hw => ?_)
  have hw : CW D cy bs 31 [(cy 12, .int)] (va_up cf_1 29 (.inr (3, [.ref (bs + 30), .int 0, .null]))) s H _ 1 := hw
  obtain ⟨cf_2, e_cf_2⟩ : ∃ z : Nat → va_E, z = va_up cf_1 29 (.inr (3, [.ref (bs + 30), .int 0, .null])) := ⟨_, rfl⟩
  rw [← e_cf_2] at hw
  have hlow : ∀ i, i < 29 → cf_2 i = cf i := fun i h => by rw [e_cf_2]; exact (vu_ne (by omega)).trans (hlow i h)
  have hc_29 : cf_2 29 = .inr (3, [.ref (bs + 30), .int 0, .null]) := by rw [e_cf_2]; exact vu_at
  have hdone : ∀ i, 29 < i → i < 31 → cf_2 i = ce (GB D bs cy tD tR) (s0 i) i := fun i h1 h2  => by rw [e_cf_2]; exact (vu_ne (by omega)).trans (hdone i h1 h2 )
  refine lv_aload_n X.1 X.2.1 d_X3_init_12 rfl (lv_at hl 0 rfl) ?_
  refine lv_bipush (v := 7) X.1 X.2.1 d_X3_init_13 (by decide) ?_
  refine lv_sipush (v := 256) X.1 X.2.1 d_X3_init_15 (by decide) ?_
  refine k_mna X hw hw.2.2.2.2.2.1.2.2.2.2.2.2.2.2.2.2.2.2 tb_211 tb_41 (Nat.le_of_ble_eq_true rfl) (Nat.le_of_ble_eq_true rfl) d_X3_init_18 (fun H hw => ?_)
  obtain ⟨cf_3, e_cf_3⟩ : ∃ z : Nat → va_E, z = mnaF cy bs 31 cf_2 := ⟨_, rfl⟩
  rw [← e_cf_3] at hw
  have hc_29 : cf_3 29 = .inr (3, [.ref (bs + 30), .int 0, .null]) := by rw [e_cf_3]; exact (if_pos (by decide)).trans hc_29
  have hlow : ∀ i, i < 29 → cf_3 i = cf i := fun i h => by rw [e_cf_3]; exact (if_pos (by omega)).trans (hlow i h)
  have hdone : ∀ i, 29 < i → i < 39 → cf_3 i = ce (GB D bs cy tD tR) (s0 i) i := fun i h1 h2  => by
    rcases Nat.lt_or_ge i 31 with h3 | h3
    · rw [e_cf_3]; exact (if_pos h3).trans (hdone i h1 h3 )
    · rw [e_cf_3]; rcases (show i = 31 ∨ i = 32 ∨ i = 33 ∨ i = 34 ∨ i = 35 ∨ i = 36 ∨ i = 37 ∨ i = 38 by omega) with rfl | rfl | rfl | rfl | rfl | rfl | rfl | rfl <;> rfl
  have hw : CW D cy bs 39 ([(cy 12, .int)] ++ [(cy 16, .array .int)]) cf_3 s H _ 9 := hw
  have hw : CW D cy bs 39 [(cy 12, .int), (cy 16, .array .int)] cf_3 s H _ 9 := k_tys [0, 1] hw rfl
  refine W.eq (g2 := F0 m 22 ls [.ref (bs + 31), .ref (bs + 29)]) rfl ?_
  refine k_putF (ci := 3) (n := 3) (k := 2) (v := .ref (bs + 31)) (ty := .array (.array (.int))) nty3 X hw (by decide) hc_29 ni3 nk3 nn3 rfl (by decide) tb_217 rfl rfl hin rfl (by decide +kernel) rfl rfl (Nat.le_of_ble_eq_true rfl) d_X3_init_22 (fun H locs hw => ?_)
  have hw : CW D cy bs 39 [(cy 12, .int), (cy 16, .array .int)] (va_up cf_3 29 (.inr (3, [.ref (bs + 30), .int 0, .ref (bs + 31)]))) s H _ 9 := hw
  obtain ⟨cf_4, e_cf_4⟩ : ∃ z : Nat → va_E, z = va_up cf_3 29 (.inr (3, [.ref (bs + 30), .int 0, .ref (bs + 31)])) := ⟨_, rfl⟩
  rw [← e_cf_4] at hw
  have hlow : ∀ i, i < 29 → cf_4 i = cf i := fun i h => by rw [e_cf_4]; exact (vu_ne (by omega)).trans (hlow i h)
  have hc_29 : cf_4 29 = .inr (3, [.ref (bs + 30), .int 0, .ref (bs + 31)]) := by rw [e_cf_4]; exact vu_at
  have hdone : ∀ i, 29 < i → i < 39 → cf_4 i = ce (GB D bs cy tD tR) (s0 i) i := fun i h1 h2  => by rw [e_cf_4]; exact (vu_ne (by omega)).trans (hdone i h1 h2 )
  refine k_vret X hr hlk hw ⟨hlow, fun i h1 h2 => ?_⟩ d_X3_init_25
  rcases Nat.eq_or_lt_of_le h1 with h3 | h3
  · subst h3; exact hc_29.trans rfl
  exact hdone i h3 h2 
