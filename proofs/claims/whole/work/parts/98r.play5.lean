theorem PlM.hi {σ σ' : GSt} {Gs : Nat → GM} {pl : Option (Nat × List Nat)} (h : PlM σ Gs pl) (hr : ∀ a, 237 ≤ a → σ' a = σ a) : PlM σ' Gs pl := by
  cases pl with
  | none => exact (congrFun (hr 237 (by decide)) 41).trans h
  | some y =>
    obtain ⟨g, ms⟩ := y
    obtain ⟨h1, h2, h3, h4, h5, h6, h7⟩ := h
    refine ⟨h1, h2, ?_, (congrFun (hr 237 (by decide)) 41).trans h4, (congrFun (hr 237 (by decide)) 42).trans h5, h6, fun k i hk => by rw [hr 273 (by decide)]; exact h7 k i hk⟩
    unfold MG0 MvM EnM at *
    rw [hr 242 (by decide), hr 243 (by decide), hr 248 (by decide), hr 253 (by decide), hr 245 (by decide), hr 246 (by decide), hr 247 (by decide), hr 256 (by decide), hr 249 (by decide), hr 250 (by decide), hr 251 (by decide), hr 252 (by decide), hr 267 (by decide), hr 268 (by decide), hr 244 (by decide)]
    exact h3
theorem PlOK.push {G : GM} {ms : List Nat} {j : Nat} (h : PlOK G ms) (hj : j < (mvl G (rpl G ms)).length) : PlOK G (ms ++ [j]) := by
  intro k i hk
  rcases Nat.lt_or_ge k ms.length with z | z
  · rw [List.getElem?_append_left z] at hk
    rw [List.take_append_of_le_length (Nat.le_of_lt z)]
    exact h k i hk
  · have hk2 := (List.getElem?_eq_some_iff.mp hk).1
    rw [List.length_append, List.length_singleton] at hk2
    have : k = ms.length := by omega
    subst this
    rw [List.getElem?_append_right (Nat.le_refl _), Nat.sub_self] at hk
    have e : j = i := Option.some.inj hk
    rw [List.take_append_of_le_length (Nat.le_refl _), List.take_length, ← e]
    exact hj
theorem op_play : Op_play InvA := by
  intro x1 σ hI
  obtain ⟨ng, Gs, Ls, tp, pl, h⟩ := id hI
  have n8 := h.1.1
  have ref3 : (∀ g ms, pl = some (g, ms) → ¬ psS (rpl (Gs g) ms) = 0) → D_X10_refuse (-3) σ (fun r1 σ1 => D_X11_play x1 σ1 (fun r2 σ2 => r1 = r2 ∧ InvA σ2)) := by
    intro hno
    refine refuse_ok rf_3 ?_
    unfold D_X11_play D_X11_play_0
    refine stands_ok h.plm.rf (fun _ => ⟨fun _ => no_ok rf_3 ⟨rfl, hI.rf rf_3⟩, fun y => absurd rfl y⟩) (fun g ms σ1 e hL hF => ⟨fun y => absurd y (by decide), fun _ => ⟨fun y => ?_, fun _ => no_ok rf_3 ⟨rfl, no2 hI rf_3 (SF.ofPF hF)⟩⟩⟩)
    rw [e] at h
    have s3 := h.cls.2.2.1.2.2.1
    rw [show Int32.toNatClampNeg 0 = 0 by decide, hL.2.2.1.2.2.1] at y
    exact absurd ((nI_eq (b := 0) (by omega) (by decide)).mp y) (hno g ms e)
  unfold D_X10_play D_X10_play_0 D_X4_goesOn D_X4_goesOn_0
  cases pl with
  | none =>
    have e3 := (no3 h).1 rfl
    exact ⟨fun _ => ⟨fun z => absurd rfl z, fun _ => ref3 (fun _ _ e => absurd e (by simp))⟩, fun z => absurd e3 z⟩
  | some y =>
    obtain ⟨g, ms⟩ := y
    have e3 := (no3 h).2 g ms rfl
    obtain ⟨g8, hG, hV, hD, hP, hB, e2, hR, hlen⟩ := h.cls
    have s3 := hV.2.2.1
    rw [hP.2.1]
    refine ⟨fun z => absurd z e3, fun _ => ⟨fun z => ⟨fun y => absurd rfl y, fun _ => ref3 (fun g' ms' e => ?_)⟩, fun z => ⟨fun _ => ?_, fun y => absurd y (by decide)⟩⟩⟩
    · obtain ⟨eg, em⟩ := Prod.mk.inj (Option.some.inj e)
      subst eg em
      exact fun y => z (by rw [y]; rfl)
    · have z0 := (nI_eq (b := 0) (by omega) (by decide)).mp z
      obtain ⟨d60, -, -, hne⟩ := hV.2.2.2.2 z0
      have l1 : 1 ≤ (mvl (Gs g) (rpl (Gs g) ms)).length := List.length_pos_iff.mpr hne
      -- the reference, at a state of its own
      have mod : ∀ (σ0 : GSt) (r : Int32), PlM σ0 Gs (some (g, ms)) → (x1 < 0 → ∀ σ1 : GSt, PF σ0 σ1 → D_X11_no (-4) σ1 (fun r2 σ2 => r = r2 ∧ InvA σ2)) → (nI (mvl (Gs g) (rpl (Gs g) ms)).length ≤ x1 → ¬ x1 < 0 → ∀ σ1 : GSt, PF σ0 σ1 → D_X11_no (-6) σ1 (fun r2 σ2 => r = r2 ∧ InvA σ2)) → (¬ x1 < 0 → ¬ nI (mvl (Gs g) (rpl (Gs g) ms)).length ≤ x1 → ∀ (σ1 s1 s2 : GSt), PF σ0 σ1 → s1 = up2 σ1 273 ms.length x1 → s2 = up2 s1 237 42 (nI (ms.length + 1)) → r = nI (ms.length + 1) ∧ InvA s2) → D_X11_play x1 σ0 (fun r2 σ2 => r = r2 ∧ InvA σ2) := by
        intro σ0 r hM k4 k6 k0
        unfold D_X11_play D_X11_play_0
        refine stands_ok hM (fun e => absurd e (by simp)) (fun g' ms' σ1 e hL hF => ⟨fun y => absurd y (by decide), fun _ => ⟨fun y => ?_, fun y => ?_⟩⟩)
        · obtain ⟨eg, em⟩ := Prod.mk.inj (Option.some.inj e)
          subst eg em
          refine moves_ok hV hL ?_
          have e42 : σ1 237 42 = nI ms.length := (hF.2 42 (by decide) (by decide)).trans hM.2.2.2.2.1
          refine out_ok (lo := 0) (hi := nI ((mvl (Gs g) (rpl (Gs g) ms)).length - 1)) (by decide) (congrArg Int32.toInt64 (pk_sub (b := 1) l1)) (fun q => ⟨fun w => absurd w (by decide), fun _ => k4 q σ1 hF⟩) (fun q q2 => ⟨fun w => absurd w (by decide), fun _ => k6 ?_ q σ1 hF⟩) (fun q q2 => ⟨fun _ => ?_, fun w => absurd rfl w⟩)
          · obtain ⟨c, hc, ec⟩ := nI_of q
            rw [ec] at q2 ⊢
            have := (nI_ltI (by omega) hc).mp q2
            exact nI_le (by omega) hc
          · rw [e42, nI_clamp (show ms.length < 2 ^ 31 by omega)]
            refine ⟨vp_in_nI (by omega) (by decide), fun s1 es1 s2 es2 => ?_⟩
            have e42' : s1 237 42 = nI ms.length := by rw [es1, up2_ne (by decide), e42]
            rw [e42', nI_1] at es2
            have v : s2 237 42 = nI (ms.length + 1) := by rw [es2, up2_at, pk_us]
            show r = s2 237 42 ∧ InvA s2
            rw [v]
            refine k0 q ?_ σ1 s1 s2 hF es1 es2
            intro w
            obtain ⟨c, hc, ec⟩ := nI_of q
            rw [ec] at w q2
            have a := (nI_leI (by omega) hc).mp w
            exact q2 (nI_lt (by omega) hc)
        · obtain ⟨eg, em⟩ := Prod.mk.inj (Option.some.inj e)
          subst eg em
          rw [show Int32.toNatClampNeg 0 = 0 by decide, hL.2.2.1.2.2.1, z0] at y
          exact absurd rfl y
      rw [e2]
      refine ⟨fun q0 => ⟨fun q1 => ?_, fun q1 => refuse_ok rf_6 (mod _ _ h.plm.rf (fun w => absurd w (Int32.not_lt.mpr q0)) (fun _ _ σ1 hF => no_ok rf_6 ⟨rfl, no2 hI rf_6 (SF.ofPF hF)⟩) (fun _ w => absurd (Int32.not_lt.mp q1) w))⟩, fun q0 => refuse_ok rf_4 (mod _ _ h.plm.rf (fun _ σ1 hF => no_ok rf_4 ⟨rfl, no2 hI rf_4 (SF.ofPF hF)⟩) (fun _ w => absurd (Int32.not_le.mp q0) w) (fun w => absurd (Int32.not_le.mp q0) w))⟩
      obtain ⟨j, hj, ej⟩ := nI_of (Int32.not_lt.mpr q0)
      subst ej
      have jl := (nI_ltI hj (by omega)).mp q1
      obtain ⟨m, hm⟩ : ∃ m, (mvl (Gs g) (rpl (Gs g) ms))[j]? = some m := ⟨_, List.getElem?_eq_getElem jl⟩
      intro x2 ex2
      rw [hP.1.2.2.2.2.1] at ex2
      rw [ex2, e2, nI_clamp (show psD (rpl (Gs g) ms) < 2 ^ 31 by omega), nI_clamp hj]
      refine ⟨fun w => absurd w (Int32.not_lt.mpr q0), fun _ => ⟨fun w => absurd w (nI_ge jl (by omega)), fun _ => pk_lt (psD (rpl (Gs g) ms)) 60 (fun _ => ?_) (fun w => by omega)⟩⟩
      refine ⟨vp_in_nI d60 (by decide), fun s2 es2 => ⟨vp_in_nI d60 (by decide), fun s3 es3 => ⟨vp_in_nI (by omega) (by decide), ?_⟩⟩⟩
      have r3 : ∀ a, a ≠ 56 → a ≠ 57 → s3 a = σ a := fun a p q => by rw [es3, up2_ne q, es2, up2_ne p]
      have cbr : ∀ s : GSt, (∀ a, 61 ≤ a → s a = σ a) → ClB s (61 + 22 * g) (Gs g) := fun s hs => ((h.2.1 g h.2.2.2.2.2.1.1).row (by omega) (fun a p q => hs a (by omega)) (fun a j p q _ => by rw [hs a (by omega)])).cb
      rw [r3 55 (by decide) (by decide), hR j m hm]
      refine make_ok hG hV (List.mem_of_getElem? hm) (by omega) (hP.row (r3 54 (by decide) (by decide))) (cbr s3 (fun a p => r3 a (by omega) (by omega))) (fun s4 hP4 f4 => ?_)
      have hV4 := stp_PV hG hV (List.mem_of_getElem? hm)
      refine listC_ok hG hV4 (by decide +kernel) (by decide) (by omega) hP4 (cbr s4 (fun a p => by rw [f4 a (by omega), r3 a (by omega) (by omega)])) (fun s5 hR5 f5 s7 es7 => ?_)
      have r7 : ∀ a, a ≠ 53 → a ≠ 54 → a ≠ 55 → a ≠ 56 → a ≠ 57 → s7 a = σ a := fun a p1 p2 p3 p4 p5 => by rw [es7, up2_ne p1, f5 a p3, f4 a p2, r3 a p4 p5]
      have v54 : s7 54 = s4 54 := by rw [es7, up2_ne (by decide), f5 54 (by decide)]
      have v55 : s7 55 = s5 55 := by rw [es7, up2_ne (by decide)]
      have v56 : s7 56 = upd (σ 56) ms.length (mask (pc (psP (rpl (Gs g) ms)) 1)) := by rw [es7, up2_ne (by decide), f5 56 (by decide), f4 56 (by decide), es3, up2_ne (by decide), es2, up2_at, hD, hP.1.2.2.1]
      have v57 : s7 57 = upd (σ 57) ms.length (mask (pc (psP (rpl (Gs g) ms)) 2)) := by rw [es7, up2_ne (by decide), f5 57 (by decide), f4 57 (by decide), es3, up2_at, es2, up2_ne (by decide), up2_ne (by decide), hD, hP.1.2.2.2.1]
      have v2 : s7 53 2 = nI (mvl (Gs g) (stp (Gs g) (rpl (Gs g) ms) m)).length := by rw [es7, up2_at, pk_us]
      have v3 : s7 53 3 = 1 := by rw [es7, up2_at, pk_un (by decide), f5 53 (by decide), f4 53 (by decide), r3 53 (by decide) (by decide)]; exact h.2.2.2.2.2.1.2.1
      have er : rpl (Gs g) (ms ++ [j]) = stp (Gs g) (rpl (Gs g) ms) m := by
        rw [rpl_s]
        unfold nx
        rw [hm]
      show D_X11_play (nI j) s7 (fun r2 σ2 => s7 54 3 = r2 ∧ InvA σ2)
      rw [v54, hP4.1.2.2.2.2.1]
      have hM7 : PlM s7 Gs (some (g, ms)) := by
        exact h.plm.hi (fun a p => r7 a (by omega) (by omega) (by omega) (by omega) (by omega))
      refine mod s7 _ hM7 (fun w => absurd w (Int32.not_lt.mpr q0)) (fun w => absurd w (nI_ge jl (by omega))) (fun _ _ σ1 t1 t2 hF et1 et2 => ⟨?_, ng, Gs, Ls, tp, some (g, ms ++ [j]), ?_⟩)
      · show nI (psD (rpl (Gs g) ms) + 1) = nI (ms.length + 1)
        rw [hD]
      · have u : ∀ a, a < 237 → t2 a = s7 a := fun a p => by rw [et2, up2_ne (by omega), et1, up2_ne (by omega), hF.1 a (by omega) (by omega)]
        have u2 : ∀ a, 237 < a → a ≠ 273 → (a < 257 ∨ a = 267 ∨ a = 268 ∨ 272 < a) → t2 a = σ a := fun a p p2 q => by rw [et2, up2_ne (by omega), et1, up2_ne p2, hF.1 a (by omega) q, r7 a (by omega) (by omega) (by omega) (by omega) (by omega)]
        have u7 : ∀ k, k ≠ 42 → k ≠ 22 → k ≠ 39 → t2 237 k = σ 237 k := fun k p q r => by rw [et2, up2_at, pk_un p, et1, up2_ne (by decide), hF.2 k q r, r7 237 (by decide) (by decide) (by decide) (by decide) (by decide)]
        refine h.play ⟨fun a p => ?_, fun k p => u7 k (by omega) (by omega) (by omega), fun a p => u2 a (by omega) (by omega) (by omega), fun a j p q _ => by rw [u2 a (by omega) (by omega) (by omega)]⟩ ?_
        · rw [u a (by omega), r7 a (by omega) (by omega) (by omega) (by omega) (by omega)]
        · obtain ⟨⟨a1, a2, a3, a4⟩, b, c, -, e⟩ := h.2.2.2.2.2
          refine ⟨⟨a1, ?_, ?_, ?_⟩, b.push jl, fun k i hk => ?_, ⟨?_, ?_, ?_⟩, fun k hk => ?_⟩
          · rw [u 53 (by decide), v3]
          · rw [u7 41 (by decide) (by decide) (by decide), a3]
          · rw [et2, up2_at, pk_us, List.length_append, List.length_singleton]
          · have t273 : t2 273 = upd (σ 273) ms.length (nI j) := by rw [et2, up2_ne (by decide), et1, up2_at, hF.1 273 (by decide) (by decide), r7 273 (by decide) (by decide) (by decide) (by decide) (by decide)]
            rw [t273]
            rcases Nat.lt_or_ge k ms.length with w | w
            · rw [List.getElem?_append_left w] at hk
              rw [pk_un (by omega)]
              exact c k i hk
            · have hk2 := (List.getElem?_eq_some_iff.mp hk).1
              rw [List.length_append, List.length_singleton] at hk2
              have ek : k = ms.length := by omega
              rw [ek, List.getElem?_append_right (Nat.le_refl _), Nat.sub_self] at hk
              rw [ek, pk_us, Option.some.inj hk]
          · rw [er]; exact hP4.row (by rw [u 54 (by decide), v54])
          · rw [er, u 53 (by decide), v2]
          · rw [er]; exact hR5.row (by rw [u 55 (by decide), v55])
          · rw [List.length_append, List.length_singleton] at hk
            rw [u 56 (by decide), u 57 (by decide), v56, v57, List.take_append_of_le_length (show k ≤ ms.length by omega)]
            rcases Nat.lt_or_ge k ms.length with w | w
            · rw [pk_un (by omega), pk_un (by omega)]
              exact e k w
            · have ek : k = ms.length := by omega
              rw [ek, pk_us, pk_us, List.take_length]
              exact ⟨rfl, rfl⟩
theorem op_back : Op_back InvA := by
  intro σ hI
  obtain ⟨ng, Gs, Ls, tp, pl, h⟩ := id hI
  have n8 := h.1.1
  unfold D_X10_back D_X10_back_0
  cases pl with
  | none =>
    have e3 := (no3 h).1 rfl
    refine ⟨fun _ => refuse_ok rf_3 ?_, fun z => absurd e3 z⟩
    show D_X11_back (rfC σ (-3)) (fun r2 σ2 => -3 = r2 ∧ InvA σ2)
    unfold D_X11_back D_X11_back_0
    rw [rfC_ne (a := 237) (by decide), show σ 237 41 = -1 from h.2.2.2.2.2.2]
    exact ⟨fun _ => no_ok rf_3 ⟨rfl, hI.rf rf_3⟩, fun z => absurd (by decide) z⟩
  | some y =>
    obtain ⟨g, ms⟩ := y
    have e3 := (no3 h).2 g ms rfl
    obtain ⟨g8, hG, hV, hD, hP, hB, e2, hR, hlen⟩ := h.cls
    have d60 := hV.2.1
    obtain ⟨⟨a1, a2, a3, a4⟩, b, c, -, e⟩ := h.2.2.2.2.2
    rw [hP.1.2.2.2.2.1, hD]
    refine ⟨fun z => absurd z e3, fun _ => pk_le 1 ms.length (fun q => ?_) (fun q => refuse_ok rf_3 ?_)⟩
    · intro x1 ex1
      rw [hP.1.2.2.2.2.1, hD, show nI ms.length - 1 = nI (ms.length - 1) from pk_sub (b := 1) q] at ex1
      rw [ex1, nI_clamp (show ms.length - 1 < 2 ^ 31 by omega), (e _ (show ms.length - 1 < ms.length by omega)).1, (e _ (show ms.length - 1 < ms.length by omega)).2]
      obtain ⟨hV1, -, hD1⟩ := rpl_PV hG b (ms.length - 1) (by omega)
      have bl : (ms.take (ms.length - 1)).length = ms.length - 1 := by rw [List.length_take]; omega
      obtain ⟨i, hi⟩ : ∃ i, ms[ms.length - 1]? = some i := ⟨_, List.getElem?_eq_getElem (by omega)⟩
      have il := b _ _ hi
      have z0 : psS (rpl (Gs g) (ms.take (ms.length - 1))) = 0 := by
        apply Classical.byContradiction
        intro z
        unfold mvl at il
        rw [if_neg z] at il
        exact absurd il (Nat.not_lt_zero _)
      refine ⟨fun _ => ⟨vp_in_nI (by omega) (by decide), vp_in_nI (by omega) (by decide), ?_⟩, fun z => absurd (nI_pos' (by omega)) z⟩
      refine unmake_ok (ps := rpl (Gs g) (ms.take (ms.length - 1))) z0 (hV1.2.2.2.2 z0).2.2.1 (kdg g8) hP.1.2.1 hP.1.2.2.2.2.1 (by omega) (by omega) rfl rfl (fun s2 hP2 f2 => ?_)
      have cbr : ∀ s : GSt, (∀ a, 61 ≤ a → s a = σ a) → ClB s (61 + 22 * g) (Gs g) := fun s hs => ((h.2.1 g h.2.2.2.2.2.1.1).row (by omega) (fun a p q => hs a (by omega)) (fun a j p q _ => by rw [hs a (by omega)])).cb
      refine listC_ok hG hV1 (by decide +kernel) (by decide) (by omega) hP2 (cbr s2 (fun a p => f2 a (by omega))) (fun s3 hR3 f3 s4 es4 => ?_)
      have r4 : ∀ a, a ≠ 53 → a ≠ 54 → a ≠ 55 → s4 a = σ a := fun a p1 p2 p3 => by rw [es4, up2_ne p1, f3 a p3, f2 a p2]
      have v54 : s4 54 = s2 54 := by rw [es4, up2_ne (by decide), f3 54 (by decide)]
      have v2 : s4 53 2 = nI (mvl (Gs g) (rpl (Gs g) (ms.take (ms.length - 1)))).length := by rw [es4, up2_at, pk_us]
      have v3 : s4 53 3 = 1 := by rw [es4, up2_at, pk_un (by decide), f3 53 (by decide), f2 53 (by decide)]; exact a2
      show D_X11_back s4 (fun r2 σ2 => s4 54 3 = r2 ∧ InvA σ2)
      rw [v54, hP2.1.2.2.2.2.1, hD1]
      unfold D_X11_back D_X11_back_0
      have e7 := r4 237 (by decide) (by decide) (by decide)
      rw [e7, a3, a4]
      refine ⟨fun z => absurd z (nI_pos (by omega)), fun _ => ⟨fun _ s5 es5 => ?_, fun z => absurd z (nI_ne0 (by omega) (by omega))⟩⟩
      rw [show nI ms.length - 1 = nI (ms.length - 1) from pk_sub (b := 1) q] at es5
      have v42 : s5 237 42 = nI (ms.length - 1) := by rw [es5, up2_at, pk_us]
      have u : ∀ a, a ≠ 237 → s5 a = s4 a := fun a p => by rw [es5, up2_ne p]
      refine ⟨v42.symm, ng, Gs, Ls, tp, some (g, ms.take (ms.length - 1)), ?_⟩
      refine h.play ⟨fun a p => ?_, fun k p => ?_, fun a p => ?_, fun a j p q _ => ?_⟩ ?_
      · rw [u a (by omega), r4 a (by omega) (by omega) (by omega)]
      · rw [es5, up2_at, pk_un (by omega), e7]
      · rw [u a (by omega), r4 a (by omega) (by omega) (by omega)]
      · rw [u a (by omega), r4 a (by omega) (by omega) (by omega)]
      · refine ⟨⟨a1, ?_, ?_, ?_⟩, fun k i hk => ?_, fun k i hk => ?_, ⟨?_, ?_, ?_⟩, fun k hk => ?_⟩
        · rw [u 53 (by decide), v3]
        · rw [es5, up2_at, pk_un (by decide), e7, a3]
        · rw [v42, bl]
        · have hk2 := (List.getElem?_eq_some_iff.mp hk).1
          rw [bl] at hk2
          rw [List.getElem?_take_of_lt hk2] at hk
          rw [List.take_take, Nat.min_eq_left (by omega)]
          exact b k i hk
        · have hk2 := (List.getElem?_eq_some_iff.mp hk).1
          rw [bl] at hk2
          rw [List.getElem?_take_of_lt hk2] at hk
          rw [u 273 (by decide), r4 273 (by decide) (by decide) (by decide)]
          exact c k i hk
        · exact hP2.row (by rw [u 54 (by decide), v54])
        · rw [u 53 (by decide), v2]
        · exact hR3.row (by rw [u 55 (by decide), es4, up2_ne (by decide)])
        · rw [bl] at hk
          rw [List.take_take, Nat.min_eq_left (by omega), u 56 (by decide), u 57 (by decide), r4 56 (by decide) (by decide) (by decide), r4 57 (by decide) (by decide) (by decide)]
          exact e k (by omega)
    · have l0 : ms.length = 0 := by omega
      show D_X11_back (rfC σ (-3)) (fun r2 σ2 => -3 = r2 ∧ InvA σ2)
      unfold D_X11_back D_X11_back_0
      rw [rfC_ne (a := 237) (by decide), a3, a4, l0]
      exact ⟨fun z => absurd z (nI_pos (by omega)), fun _ => ⟨fun z => absurd rfl z, fun _ => no_ok rf_3 ⟨rfl, hI.rf rf_3⟩⟩⟩
