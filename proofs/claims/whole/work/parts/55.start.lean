set_option maxRecDepth 100000 in
set_option maxHeartbeats 8000000 in
theorem ws_start (Inv : GSt → Prop) (hops : Ops Inv) (h0 : Inv s0) {p : Program} {e : Env} {s : State} {m : MethodId} {below : List Frame} {meth : Method} {c : Code} (l : Launch) {b L : Nat} {xs : Nat → Int32} (hL : L ≤ 3072) (C0 : lw_At p s m meth c b L xs) : W p l e room_1 s m #[Value.ref b] below meth c s.heap [] 0 0 (lw_Z below #[Value.ref b] s) (entryFrame m ([Value.ref b] : List Value).toArray 4) := by
  obtain ⟨hx, hb, hr, hml, hown, hts0, hX, hbl, hlocks, hgv⟩ := id C0
  have hts : ∀ w ∈ lw_us, w.before #[Value.ref b] s = true := fun w h => hts0 w (List.mem_filter.mp h).1
  obtain ⟨c0, i0, k0⟩ := u_known (C := "GameLoom$Board") (T := nT0) (N := 12) (n := 12) hts ni0 (hts _ tb_68)
  obtain ⟨c1, i1, k1⟩ := u_known (C := "GameLoom$Game") (T := nT1) (N := 10) (n := 10) hts ni1 (hts _ tb_60)
  obtain ⟨c2, i2, k2⟩ := u_known (C := "GameLoom$Judge") (T := nT2) (N := 4) (n := 4) hts ni2 (hts _ tb_322)
  obtain ⟨c3, i3, k3⟩ := u_known (C := "GameLoom$Looker") (T := nT3) (N := 3) (n := 3) hts ni3 (hts _ tb_206)
  obtain ⟨c4, i4, k4⟩ := u_known (C := "GameLoom$Play") (T := nT4) (N := 6) (n := 6) hts ni4 (hts _ tb_343)
  obtain ⟨c5, i5, k5⟩ := u_known (C := "GameLoom$Position") (T := nT5) (N := 7) (n := 7) hts ni5 (hts _ tb_232)
  obtain ⟨c6, i6, k6⟩ := u_known (C := "GameLoom$Reader") (T := nT6) (N := 3) (n := 3) hts ni6 (hts _ tb_43)
  obtain ⟨c7, i7, k7⟩ := u_known (C := "GameLoom$Rule") (T := nT7) (N := 6) (n := 6) hts ni7 (hts _ tb_121)
  obtain ⟨c8, i8, k8⟩ := u_known (C := "GameLoom$Tally") (T := nT8) (N := 12) (n := 12) hts ni8 (hts _ tb_226)
  obtain ⟨c9, i9, k9⟩ := u_known (C := "GameLoom$Text") (T := nT9) (N := 2) (n := 2) hts ni9 (hts _ tb_25)
  obtain ⟨c10, i10, k10⟩ := u_known (C := "GameLoom") (T := nT10) (N := 14) (n := 14) hts ni10 (hts _ tb_17)
  obtain ⟨c11, i11, k11⟩ := u_known (C := "GameLoomModel") (T := nT11) (N := 56) (n := 56) hts ni11 (hts _ tb_901)
  obtain ⟨dC, dI, hKc⟩ : ∃ (dC : Nat → ClassId) (dI : Nat → Nat → Nat), ∀ (k : Nat) (q : vw_C), clW[k]? = some q → u_Kn s q.1 q.2.1 q.2.2 (dC k) (dI k) := by
    refine ⟨fun k => match k with | 0 => c0 | 1 => c1 | 2 => c2 | 3 => c3 | 4 => c4 | 5 => c5 | 6 => c6 | 7 => c7 | 8 => c8 | 9 => c9 | 10 => c10 | _ => c11, fun k => match k with | 0 => i0 | 1 => i1 | 2 => i2 | 3 => i3 | 4 => i4 | 5 => i5 | 6 => i6 | 7 => i7 | 8 => i8 | 9 => i9 | 10 => i10 | _ => i11, ?_⟩
    intro k q hq
    match k, hq with
    | 0, hq => cases hq; exact k0
    | 1, hq => cases hq; exact k1
    | 2, hq => cases hq; exact k2
    | 3, hq => cases hq; exact k3
    | 4, hq => cases hq; exact k4
    | 5, hq => cases hq; exact k5
    | 6, hq => cases hq; exact k6
    | 7, hq => cases hq; exact k7
    | 8, hq => cases hq; exact k8
    | 9, hq => cases hq; exact k9
    | 10, hq => cases hq; exact k10
    | 11, hq => cases hq; exact k11
    | k + 12, hq => simp [clW] at hq
  obtain ⟨cy, hcy⟩ : ∃ cy : Nat → ClassId, CyK cy s := by
    refine ⟨fun k => match k with | 12 => (s.vm.findClass ("[" ++ FieldType.int.toString)).getD 0 | 13 => (s.vm.findClass ("[" ++ FieldType.boolean.toString)).getD 0 | 14 => (s.vm.findClass ("[" ++ (FieldType.object "GameLoom$Game").toString)).getD 0 | 15 => (s.vm.findClass ("[" ++ (FieldType.object "GameLoom$Rule").toString)).getD 0 | _ => (s.vm.findClass ("[" ++ (FieldType.array .int).toString)).getD 0, ?_⟩
    refine ⟨fun c h => ?_, fun c h => ?_, fun c h => ?_, fun c h => ?_, fun c h => ?_⟩ <;> (dsimp only; rw [h]; rfl)
  have hNs : NsC s := ⟨va_Nw.of rfl (hts0 _ tn_26), va_Nw.of rfl (hts0 _ tn_44), va_Nw.of rfl (hts0 _ tn_66), va_Nw.of rfl (hts0 _ tn_69), va_Nw.of rfl (hts0 _ tn_122), va_Nw.of rfl (hts0 _ tn_207), va_Nw.of rfl (hts0 _ tn_233), va_Nw.of rfl (hts0 _ tn_328), va_Nw.of rfl (hts0 _ tn_344), va_Nw.of rfl (hts0 _ tn_349), va_AO.of (hts0 _ tn_59), va_AO.of (hts0 _ tn_120), hts0 _ tn_212⟩
  have hNt : Nst s := ⟨va_Nw.of rfl (hts0 _ tn_468), va_Nw.of rfl (hts0 _ tn_470), va_Nw.of rfl (hts0 _ tn_735), va_Nw.of rfl (hts0 _ tn_739), va_Nw.of rfl (hts0 _ tn_861), va_Nw.of rfl (hts0 _ tn_862)⟩
  have hgs := flat_of_before _ hgv
  obtain ⟨tD, eD, hTD⟩ := va_Tof (args := #[Value.ref b]) (s := s) (tm := .static "GameLoom" "DOWN" "[I") (ty := .int) (N := 8) (f := fun j => .int (downF j)) (A := fun q => s.heap.size ≤ q) (by decide) (hgs _ (by decide +kernel)) (va_eqt (hgs _ (by decide +kernel))) (fun j hj => by
    rcases (show j = 0 ∨ j = 1 ∨ j = 2 ∨ j = 3 ∨ j = 4 ∨ j = 5 ∨ j = 6 ∨ j = 7 by omega) with rfl | rfl | rfl | rfl | rfl | rfl | rfl | rfl <;> exact va_eqt (hgs _ (by decide +kernel))) (fun a h => Nat.not_le.mpr h)
  have hZD := va_Zref (A := fun q => s.heap.size ≤ q) (hts0 (.laysStatic "GameLoom" "DOWN" "[I") (List.mem_append_right _ (List.mem_append_right _ (List.mem_append_left _ (List.mem_of_getElem? (i := 229) rfl))))) (hts _ tb_1) eD (fun a h => Nat.not_le.mpr h)
  obtain ⟨tR, eR, hTR⟩ := va_Tof (args := #[Value.ref b]) (s := s) (tm := .static "GameLoom" "RIGHT" "[I") (ty := .int) (N := 8) (f := fun j => .int (rightF j)) (A := fun q => s.heap.size ≤ q) (by decide) (hgs _ (by decide +kernel)) (va_eqt (hgs _ (by decide +kernel))) (fun j hj => by
    rcases (show j = 0 ∨ j = 1 ∨ j = 2 ∨ j = 3 ∨ j = 4 ∨ j = 5 ∨ j = 6 ∨ j = 7 by omega) with rfl | rfl | rfl | rfl | rfl | rfl | rfl | rfl <;> exact va_eqt (hgs _ (by decide +kernel))) (fun a h => Nat.not_le.mpr h)
  have hZR := va_Zref (A := fun q => s.heap.size ≤ q) (hts0 (.laysStatic "GameLoom" "RIGHT" "[I") (List.mem_append_right _ (List.mem_append_right _ (List.mem_append_left _ (List.mem_of_getElem? (i := 231) rfl))))) (hts _ tb_1) eR (fun a h => Nat.not_le.mpr h)
  obtain ⟨bs, ebs⟩ : ∃ z, z = s.heap.size := ⟨_, rfl⟩
  have hw : CW (dC, dI) cy bs 0 [] (fun _ => .inr (0, [])) s s.heap [] 0 := ⟨⟨hKc, fun k q h => by simp at h⟩, by omega, fun k q h => by simp [wsC] at h, va_S.rf, hcy, hNs, by omega⟩
  have X : CallFix p m c code 4 s #[Value.ref b] lw_us "GameLoomLaw" := ⟨hx, hb, hml, hown, hts⟩
  have hl := lv_entry ([.ref b]) (n := 4) (Nat.le_of_ble_eq_true rfl)
  rw [lg_entry_eq]
  generalize (lg_sl ([.ref b]) ++ List.replicate (4 - (lg_sl ([.ref b])).length) Slot.unset).toArray = ls at hl ⊢
  have hl : lv_has ls 4 [(0, .ref b)] := hl
  refine k_new (ci := 10) (n := 14) (fs := [.null, .null, .null, .null, .int 0, .null, .null, .null, .null, .null, .null, .null, .null, .null]) nty10 X hw ni10 nk10 rfl tb_16 tb_17 tb_1 (by intro j hj; have : j < 14 := hj; rcases (show j = 0 ∨ j = 1 ∨ j = 2 ∨ j = 3 ∨ j = 4 ∨ j = 5 ∨ j = 6 ∨ j = 7 ∨ j = 8 ∨ j = 9 ∨ j = 10 ∨ j = 11 ∨ j = 12 ∨ j = 13 by omega) with rfl | rfl | rfl | rfl | rfl | rfl | rfl | rfl | rfl | rfl | rfl | rfl | rfl | rfl <;> rfl) (Nat.le_of_ble_eq_true rfl) (Nat.le_of_ble_eq_true rfl) d_law_0 (fun H hw => ?_)
  obtain ⟨v1, ev1⟩ : ∃ z : Nat → va_E, z = va_up (fun _ => .inr (0, [])) 0 (.inr (10, [.null, .null, .null, .null, .int 0, .null, .null, .null, .null, .null, .null, .null, .null, .null])) := ⟨_, rfl⟩
  rw [← ev1] at hw
  have hc_0 : v1 0 = .inr (10, [.null, .null, .null, .null, .int 0, .null, .null, .null, .null, .null, .null, .null, .null, .null]) := by rw [ev1]; exact vu_at
  have hw : CW (dC, dI) cy bs 1 [] v1 s H [] 1 := hw
  refine W.eq (g2 := F0 m 3 ls [.ref (bs + 0)]) rfl ?_
  refine lv_dup hx hb d_law_3 rfl ?_
  refine k_call (rest := [.ref (bs + 0)]) (As := []) X hw (kc_X10_init_0 l (dC, dI) cy bs tD tR v1 hc_0) rfl tb_18 tb_19 tb_1 tb_20 rfl hdc_X10_init ⟨rfl, rfl⟩ ⟨Nat.le_of_ble_eq_true rfl, Nat.le_of_ble_eq_true rfl⟩ rfl hl.1 rfl (Nat.le_of_ble_eq_true rfl) ⟨Nat.le_of_ble_eq_true rfl, Nat.le_of_ble_eq_true rfl⟩ d_law_4 (fun v2 H locs hv2 hw => ?_)
  have hw : CW (dC, dI) cy bs 237 [(cy 12, .int), (cy 14, .object "GameLoom$Game"), (cy 15, .object "GameLoom$Rule"), (cy 16, .array .int)] v2 s H locs 237 := hw
  refine W.eq (g2 := F0 m 7 ls [.ref (bs + 0)]) rfl ?_
  refine lv_astore_n (lv' := [(1, .ref (bs + 0)), (0, .ref b)]) hx hb d_law_7 rfl hl (by decide) rfl (fun ls hl => ?_)
  refine k_new (ci := 11) (n := 56) (fs := [.null, .null, .null, .null, .null, .null, .null, .null, .null, .null, .null, .null, .null, .null, .null, .null, .null, .null, .null, .int 0, .int 0, .int 0, .int 0, .null, .null, .null, .null, .null, .null, .null, .null, .null, .null, .null, .null, .null, .null, .null, .null, .int 0, .null, .int 0, .int 0, .null, .null, .int 0, .int 0, .int 0, .int 0, .int 0, .int 0, .int 0, .int 0, .null, .null, .null]) nty11 X hw ni11 nk11 rfl tb_900 tb_901 tb_12 (by intro j hj; have : j < 56 := hj; rcases (show j = 0 ∨ j = 1 ∨ j = 2 ∨ j = 3 ∨ j = 4 ∨ j = 5 ∨ j = 6 ∨ j = 7 ∨ j = 8 ∨ j = 9 ∨ j = 10 ∨ j = 11 ∨ j = 12 ∨ j = 13 ∨ j = 14 ∨ j = 15 ∨ j = 16 ∨ j = 17 ∨ j = 18 ∨ j = 19 ∨ j = 20 ∨ j = 21 ∨ j = 22 ∨ j = 23 ∨ j = 24 ∨ j = 25 ∨ j = 26 ∨ j = 27 ∨ j = 28 ∨ j = 29 ∨ j = 30 ∨ j = 31 ∨ j = 32 ∨ j = 33 ∨ j = 34 ∨ j = 35 ∨ j = 36 ∨ j = 37 ∨ j = 38 ∨ j = 39 ∨ j = 40 ∨ j = 41 ∨ j = 42 ∨ j = 43 ∨ j = 44 ∨ j = 45 ∨ j = 46 ∨ j = 47 ∨ j = 48 ∨ j = 49 ∨ j = 50 ∨ j = 51 ∨ j = 52 ∨ j = 53 ∨ j = 54 ∨ j = 55 by omega) with rfl | rfl | rfl | rfl | rfl | rfl | rfl | rfl | rfl | rfl | rfl | rfl | rfl | rfl | rfl | rfl | rfl | rfl | rfl | rfl | rfl | rfl | rfl | rfl | rfl | rfl | rfl | rfl | rfl | rfl | rfl | rfl | rfl | rfl | rfl | rfl | rfl | rfl | rfl | rfl | rfl | rfl | rfl | rfl | rfl | rfl | rfl | rfl | rfl | rfl | rfl | rfl | rfl | rfl | rfl | rfl <;> rfl) (Nat.le_of_ble_eq_true rfl) (Nat.le_of_ble_eq_true rfl) d_law_8 (fun H hw => ?_)
  obtain ⟨v3, ev3⟩ : ∃ z : Nat → va_E, z = va_up v2 237 (.inr (11, [.null, .null, .null, .null, .null, .null, .null, .null, .null, .null, .null, .null, .null, .null, .null, .null, .null, .null, .null, .int 0, .int 0, .int 0, .int 0, .null, .null, .null, .null, .null, .null, .null, .null, .null, .null, .null, .null, .null, .null, .null, .null, .int 0, .null, .int 0, .int 0, .null, .null, .int 0, .int 0, .int 0, .int 0, .int 0, .int 0, .int 0, .int 0, .null, .null, .null])) := ⟨_, rfl⟩
  rw [← ev3] at hw
  have hc_237 : v3 237 = .inr (11, [.null, .null, .null, .null, .null, .null, .null, .null, .null, .null, .null, .null, .null, .null, .null, .null, .null, .null, .null, .int 0, .int 0, .int 0, .int 0, .null, .null, .null, .null, .null, .null, .null, .null, .null, .null, .null, .null, .null, .null, .null, .null, .int 0, .null, .int 0, .int 0, .null, .null, .int 0, .int 0, .int 0, .int 0, .int 0, .int 0, .int 0, .int 0, .null, .null, .null]) := by rw [ev3]; exact vu_at
  have hw : CW (dC, dI) cy bs 238 [(cy 12, .int), (cy 14, .object "GameLoom$Game"), (cy 15, .object "GameLoom$Rule"), (cy 16, .array .int)] v3 s H locs 238 := hw
  refine W.eq (g2 := F0 m 11 ls [.ref (bs + 237)]) rfl ?_
  refine lv_dup hx hb d_law_11 rfl ?_
  refine k_call (rest := [.ref (bs + 237)]) (As := []) X hw (kc_X11_init_237 l (dC, dI) cy bs tD tR v3 hc_237) rfl tb_902 tb_903 tb_12 tb_904 rfl hdc_X11_init ⟨rfl, rfl⟩ ⟨Nat.le_of_ble_eq_true rfl, Nat.le_of_ble_eq_true rfl⟩ rfl hl.1 rfl (Nat.le_of_ble_eq_true rfl) ⟨Nat.le_of_ble_eq_true rfl, Nat.le_of_ble_eq_true rfl⟩ d_law_12 (fun v4 H locs hv4 hw => ?_)
  have hw : CW (dC, dI) cy bs 279 ([(cy 12, .int), (cy 14, .object "GameLoom$Game"), (cy 15, .object "GameLoom$Rule"), (cy 16, .array .int)] ++ [(cy 12, .int), (cy 13, .boolean)]) v4 s H locs 279 := hw
  have hw : CW (dC, dI) cy bs 279 (tyW (GB (dC, dI) bs cy tD tR)) v4 s H locs 279 := k_tys [0, 5, 1, 2, 3] hw rfl
  refine W.eq (g2 := F0 m 15 ls [.ref (bs + 237)]) rfl ?_
  refine lv_astore_n (lv' := [(2, .ref (bs + 237)), (1, .ref (bs + 0)), (0, .ref b)]) hx hb d_law_15 rfl hl (by decide) rfl (fun ls hl => ?_)
  refine lv_iconst (v := 0) hx hb d_law_16 (by decide) ?_
  refine lv_istore_n (lv' := [(3, .int 0), (2, .ref (bs + 237)), (1, .ref (bs + 0)), (0, .ref b)]) hx hb d_law_17 rfl hl (by decide) rfl (fun ls hl => ?_)
  obtain ⟨G, eG⟩ : ∃ z : GC, z = GB (dC, dI) bs cy tD tR := ⟨_, rfl⟩
  have hAw : ∀ q, Aw G q → s.heap.size ≤ q := fun q h => by
    obtain ⟨i, hi, e⟩ := h
    rw [e, eG, ← ebs]
    exact Nat.le_add_right _ _
  have hcells : ∀ i, i < 279 → v4 i = ce G (s0 i) i := fun i h => by
    rw [eG]
    rcases Nat.lt_or_ge i 237 with h1 | h1
    · exact (hv4.1 i h1).trans ((by rw [ev3]; exact vu_ne (by omega) : v3 i = v2 i).trans (hv2.2 i (Nat.zero_le _) h1))
    · exact hv4.2 i h1 h
  have hws : wsW G s0 = wsC bs v4 279 := by
    unfold wsW wsC
    refine List.map_congr_left fun i hi => ?_
    rw [hcells i (List.mem_range.mp hi)]
    rw [eG]
    rfl
  have hS := hw.2.2.2.1
  refine va_forget (fun q hq => by have := hS.2.2 q hq; rw [← ebs]; exact this) ?_
  have hWo : Wo G s H [] s0 := by
    refine ⟨by rw [eG]; exact hw.1, by rw [hws, eG]; exact hw.2.2.1, ?_, ⟨hS.1, fun q h1 h2 => hS.2.1 q h1 (fun h => by have h3 : bs ≤ q := h; omega), fun _ h => by cases h⟩, ?_, hNt⟩
    · rw [hws]
      refine ⟨wsC_D.1, fun k q h => ?_⟩
      obtain ⟨h1, h2⟩ := wsC_inv h
      exact ⟨k, h1, by rw [h2, eG]; rfl⟩
    · have hn : ∀ q, Aw G q → (fun q => s.heap.size ≤ q) q := hAw
      have e1 : G.2.2.2.1 = tD := by rw [eG]; rfl
      have e2 : G.2.2.2.2 = tR := by rw [eG]; rfl
      unfold Sta
      rw [e1, e2]
      exact ⟨hZD.narrow hn, hZR.narrow hn, hTD.narrow hn, hTR.narrow hn⟩
  have hl : lv_has ls 4 [(3, .int 0), (2, .ref (G.2.1 237)), (1, .ref (G.2.1 0)), (0, .ref b)] := by rw [eG]; exact hl
  exact law_loop Inv ⟨Nat.le_of_ble_eq_true rfl, Nat.le_of_ble_eq_true rfl⟩ hx hb hml hown hts hX hbl (fun h => absurd (hAw b h) (by omega)) hr hlocks hL hAw hops (L + 6) 0 (by omega) (by omega) 0 nI_0.symm s0 H [] ls h0 hWo (lv_sub hl [3, 2, 1, 0] rfl)
