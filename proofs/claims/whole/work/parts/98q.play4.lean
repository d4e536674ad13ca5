theorem op_best : Op_best InvA := by
  intro x1 σ hI
  obtain ⟨ng, Gs, Ls, tp, pl, h⟩ := id hI
  unfold D_X10_best D_X10_best_0
  refine refLook_ok (lo := 1) h (by decide) (fun hno => ⟨fun y => absurd y (by decide), fun _ => refuse_ok rf_3 ?_⟩) (fun g ms σ1 r epl z hr h1 => ⟨fun e => ?_, fun e => refuse_ok (hr.rf e) ?_⟩)
  · unfold D_X11_best D_X11_best_0
    refine stands_ok h.plm.rf (fun _ => ⟨fun _ => no_ok rf_3 ⟨rfl, hI.rf rf_3⟩, fun y => absurd rfl y⟩) (fun g ms σ1 e hL hF => ⟨fun y => absurd y (by decide), fun _ => ⟨fun y => ?_, fun _ => no_ok rf_3 ⟨rfl, no2 hI rf_3 (SF.ofPF hF)⟩⟩⟩)
    rw [e] at h
    have s3 := h.cls.2.2.1.2.2.1
    rw [show Int32.toNatClampNeg 0 = 0 by decide, hL.2.2.1.2.2.1] at y
    exact absurd ((nI_eq (b := 0) (by omega) (by decide)).mp y) (hno g ms e)
  · subst epl
    obtain ⟨n, en, n1, n6⟩ : ∃ n, x1 = nI n ∧ 1 ≤ n ∧ n ≤ 6 := by
      rcases hr with ⟨_, w⟩ | ⟨_, _, w⟩ | ⟨n, w, w1, w2, _⟩
      · rw [e] at w; exact absurd w (by decide)
      · rw [e] at w; exact absurd w (by decide)
      · exact ⟨n, w, w1, w2⟩
    obtain ⟨g8, hG, hV, hD, hP, hB, e2, hR, hlen⟩ := h1.cls
    rw [en] at hr ⊢
    refine bestOf_ok hG (by decide +kernel) (kdg g8) n1 n6 hV z hP hB (fun σ2 hP2 f2 => ?_)
    have h2 := h1.pos (fun a p _ _ q => f2 a p q) hP2
    unfold D_X11_best D_X11_best_0
    refine stands_ok h2.plm (fun e => absurd e (by simp)) (fun g' ms' σ3 e3 hL hF => ⟨fun y => absurd y (by decide), fun _ => ⟨fun _ => ?_, fun y => ?_⟩⟩)
    · obtain ⟨eg, em⟩ := Prod.mk.inj (Option.some.inj e3)
      subst eg em
      refine outLook_ok (lo := 1) (K := D_X11_best_49 _ (nI n)) hG hV hL (by decide) (by decide) (fun σ4 r4 hr4 f4 hL4 _ => ?_)
      have : r4 = 0 := (hr4.one (by decide) hr).trans e
      rw [this]
      refine ⟨fun _ => ?_, fun y => absurd rfl y⟩
      refine bestAt_ok hG n1 (by omega) hV z hL4 (fun σ5 f5 hL5 => ⟨rfl, _, _, _, _, _, h2.keep (KP.ofSF ((SF.ofPF hF).trans ((SF.ofLG f4).trans (SF.ofPF f5))))⟩)
    · obtain ⟨eg, em⟩ := Prod.mk.inj (Option.some.inj e3)
      subst eg em
      rw [show Int32.toNatClampNeg 0 = 0 by decide, hL.2.2.1.2.2.1, z] at y
      exact absurd rfl y
  · subst epl
    have hI1 : InvA σ1 := ⟨_, _, _, _, _, h1⟩
    obtain ⟨g8, hG, hV, hD, hP, hB, e2, hR, hlen⟩ := h1.cls
    unfold D_X11_best D_X11_best_0
    refine stands_ok h1.plm.rf (fun e => absurd e (by simp)) (fun g' ms' σ3 e3 hL hF => ⟨fun y => absurd y (by decide), fun _ => ⟨fun _ => ?_, fun y => ?_⟩⟩)
    · obtain ⟨eg, em⟩ := Prod.mk.inj (Option.some.inj e3)
      subst eg em
      refine outLook_ok (lo := 1) (K := D_X11_best_49 _ x1) hG hV hL (by decide) (by decide) (fun σ4 r4 hr4 f4 hL4 _ => ?_)
      have : r4 = r := hr4.one (by decide) hr
      rw [this]
      exact ⟨fun y => absurd y e, fun _ => no_ok (hr.rf e) ⟨rfl, no2 hI1 (hr.rf e) ((SF.ofPF hF).trans (SF.ofLG f4))⟩⟩
    · obtain ⟨eg, em⟩ := Prod.mk.inj (Option.some.inj e3)
      subst eg em
      rw [show Int32.toNatClampNeg 0 = 0 by decide, hL.2.2.1.2.2.1, z] at y
      exact absurd rfl y
theorem op_ways : Op_ways InvA := by
  intro x1 σ hI
  obtain ⟨ng, Gs, Ls, tp, pl, h⟩ := id hI
  unfold D_X10_ways D_X10_ways_0
  cases pl with
  | none =>
    have h3 := (no3 h).1 rfl
    refine ⟨fun z => absurd h3 z, fun _ => refuse_ok rf_3 ?_⟩
    unfold D_X11_ways D_X11_ways_0
    exact stands_ok h.plm.rf (fun _ => ⟨fun z => absurd rfl z, fun _ => no_ok rf_3 ⟨rfl, hI.rf rf_3⟩⟩) (fun _ _ _ e => absurd e (by simp))
  | some y =>
    obtain ⟨g, ms⟩ := y
    have h3 := (no3 h).2 g ms rfl
    obtain ⟨g8, hG, hV, hD, -⟩ := h.cls
    -- the class refuses with r at σ1
    have ref : ∀ (σ1 : GSt) (r : Int32), IA σ1 ng Gs Ls tp (some (g, ms)) → ¬ r = 0 → Rsl (Gs g) (rpl (Gs g) ms) x1 1 r → D_X10_refuse r σ1 (fun r1 σ1 => D_X11_ways x1 σ1 (fun r2 σ2 => r1 = r2 ∧ InvA σ2)) := by
      intro σ1 r h1 e hr
      refine refuse_ok (hr.rf e) ?_
      have hI1 : InvA σ1 := ⟨_, _, _, _, _, h1⟩
      unfold D_X11_ways D_X11_ways_0
      refine stands_ok h1.plm.rf (fun e => absurd e (by simp)) (fun g' ms' σ3 e3 hL hF => ⟨fun _ => ?_, fun y => absurd y (by decide)⟩)
      obtain ⟨eg, em⟩ := Prod.mk.inj (Option.some.inj e3)
      subst eg em
      refine outLook_ok (lo := 1) (K := D_X11_ways_40 _ x1) hG hV hL (by decide) (by decide) (fun σ4 r4 hr4 f4 hL4 _ => ?_)
      have : r4 = r := hr4.one (by decide) hr
      rw [this]
      exact ⟨fun y => absurd y e, fun _ => no_ok (hr.rf e) ⟨rfl, no2 hI1 (hr.rf e) ((SF.ofPF hF).trans (SF.ofLG f4))⟩⟩
    refine ⟨fun _ => ⟨fun q1 => ⟨fun q2 => ?_, fun q2 => ref σ _ h (by decide) (Or.inr (Or.inl ⟨Int32.not_lt.mpr q1, Int32.not_le.mp q2, rfl⟩))⟩, fun q1 => ref σ _ h (by decide) (Or.inl ⟨Int32.not_le.mp q1, rfl⟩)⟩, fun z => absurd z h3⟩
    obtain ⟨n, hn, en⟩ := nI_of2 (n := 6) (by decide) (Int32.not_lt.mpr (Int32.le_trans (by decide) q1)) q2
    have n1 : 1 ≤ n := by rw [en] at q1; exact (nI_leI (a := 1) (by decide) (by omega)).mp q1
    subst en
    refine spentI h hn (fun σ' a b => ⟨fun y => absurd y (by decide), fun _ => ref σ' _ b (by decide) (Or.inr (Or.inr ⟨n, rfl, n1, hn, Or.inl ⟨a, rfl⟩⟩))⟩) (fun σ' a b c => ⟨fun _ => ⟨vp_in_nI (by omega) (by decide), ?_⟩, fun y => absurd rfl y⟩)
    rw [nI_clamp (show n < 2 ^ 31 by omega), c n (by omega)]
    unfold D_X11_ways D_X11_ways_0
    refine stands_ok b.plm (fun e => absurd e (by simp)) (fun g' ms' σ3 e3 hL hF => ⟨fun _ => ?_, fun y => absurd y (by decide)⟩)
    obtain ⟨eg, em⟩ := Prod.mk.inj (Option.some.inj e3)
    subst eg em
    refine outLook_ok (lo := 1) (K := D_X11_ways_40 _ (nI n)) hG hV hL (by decide) (by decide) (fun σ4 r4 hr4 f4 hL4 w4 => ?_)
    have : r4 = 0 := hr4.one (by decide) (Or.inr (Or.inr ⟨n, rfl, n1, hn, Or.inr ⟨a, rfl⟩⟩))
    have w := w4 n rfl hn this n (by omega)
    rw [this]
    unfold D_X11_ways_40
    rw [nI_clamp (show n < 2 ^ 31 by omega), w]
    exact ⟨fun _ => ⟨vp_in_nI (by omega) (by decide), rfl, _, _, _, _, _, b.keep (KP.ofSF ((SF.ofPF hF).trans (SF.ofLG f4)))⟩, fun y => absurd rfl y⟩
