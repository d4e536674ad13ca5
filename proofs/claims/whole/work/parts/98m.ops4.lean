theorem jabs_neg (x : Int32) {σ : GSt} {Q : Int32 → GSt → Prop} (hQ : Q (jabs x) σ) : D_X11_away x σ Q := by
  unfold jabs at hQ
  refine ⟨fun z => ?_, fun z => ?_⟩
  · rw [if_pos z] at hQ; exact hQ
  · rw [if_neg z, Int32.zero_sub] at hQ; exact hQ
theorem op_distance : Op_distance InvA := by
  intro x1 x2 x3 σ hI
  obtain ⟨ng, Gs, Ls, tp, pl, h⟩ := id hI
  have n8 := h.1.1
  have ref : (∀ i, i < ng → x1 ≠ nI i) ∨ (∀ i, i < ng → x2 ≠ nI i) → D_X10_distance_16 (fun r1 σ1 => D_X11_distance x1 x2 x3 σ1 (fun r2 σ2 => r1 = r2 ∧ InvA σ2)) σ := by
    intro hr
    refine refuse_ok rf_1 ?_
    have fin : D_X11_distance_26 (fun r2 σ2 => -1 = r2 ∧ InvA σ2) (rfC σ (-1)) := no_ok rf_1 ⟨rfl, hI.rf rf_1⟩
    unfold D_X11_distance D_X11_distance_0
    refine isGame_ok n8 (by rw [rfC_ne (by decide)]; exact h.1.2.2) (fun _ => ⟨fun _ => fin, fun z => absurd rfl z⟩) (fun i hi e => ⟨fun z => absurd z (by decide), fun _ => ?_⟩)
    refine isGame_ok n8 (by rw [rfC_ne (by decide)]; exact h.1.2.2) (fun _ => ⟨fun _ => fin, fun z => absurd rfl z⟩) (fun j hj e2 => ?_)
    rcases hr with hr | hr
    · exact absurd e (hr i hi)
    · exact absurd e2 (hr j hj)
  unfold D_X10_distance D_X10_distance_0
  refine noGame_ok n8 h.1.2.1 (fun hno => ⟨fun _ => ref (Or.inl hno), fun z => absurd z (by decide)⟩) (fun i hi e => ⟨fun z => absurd rfl z, fun _ => ?_⟩)
  refine noGame_ok n8 h.1.2.1 (fun hno => ⟨fun z => absurd z (by decide), fun _ => ref (Or.inr hno)⟩) (fun j hj e2 => ⟨fun _ => ?_, fun z => absurd rfl z⟩)
  rw [e, e2, nI_clamp (show i < 2 ^ 31 by omega), nI_clamp (show j < 2 ^ 31 by omega)]
  refine ⟨vp_in_nI (by omega) (by decide), ?_⟩
  refine runI (n := 10) (a := 0) (b := 0) h hi (by decide +kernel) (by decide) (by decide) (by decide) (fun σ1 t1 p1 c1 h1 => ⟨vp_in_nI (by omega) (by decide), ?_⟩)
  refine runI (n := 10) (a := 0) (b := 0) h1 hj (by decide +kernel) (by decide) (by decide) (by decide) (fun σ2 t2 p2 c2 h2 => ?_)
  unfold D_X8_farFrom D_X8_farFrom_0
  rw [c2 39 (by decide) (by decide) (by decide) (by decide), t1.1.2.1, t1.1.2.2.1, t1.1.2.2.2, t2.1.2.1, t2.1.2.2.1, t2.1.2.2.2]
  unfold D_X11_distance D_X11_distance_0
  refine isGame_ok n8 h2.1.2.2 (fun hno => absurd rfl (hno i hi)) (fun _ _ _ => ⟨fun z => absurd z (by decide), fun _ => ?_⟩)
  refine isGame_ok n8 h2.1.2.2 (fun hno => absurd rfl (hno j hj)) (fun _ _ _ => ⟨fun z => absurd z (by decide), fun _ => ?_⟩)
  unfold D_X11_far D_X11_far_0
  refine mesI (n := 10) (a := 0) (b := 0) h2 hi (by decide) (by decide) (by decide) (fun σ3 t3 p3 c3 h3 => ?_)
  rw [t3.1.1, t3.1.2.1, t3.1.2.2.2]
  intro y4 e4 y5 e5 y6 e6
  rw [e4, e5, e6]
  refine mesI (n := 10) (a := 0) (b := 0) h3 hj (by decide) (by decide) (by decide) (fun σ4 t4 p4 c4 h4 => ?_)
  rw [t4.1.1]
  refine jabs_neg _ ?_
  rw [t4.1.2.1]
  refine jabs_neg _ ?_
  rw [t4.1.2.2.2]
  exact jabs_neg _ ⟨rfl, _, _, _, _, _, h4⟩
theorem IA.niche {σ σ' : GSt} {ng : Nat} {Gs : Nat → GM} {Ls : Nat → List Int32} {tp : List Int32} {pl : Option (Nat × List Nat)} (h : IA σ ng Gs Ls tp pl) (k : ∀ a, a ≠ 58 → a ≠ 59 → a ≠ 277 → a ≠ 278 → σ' a = σ a) (hN : InvN σ') : IA σ' ng Gs Ls tp pl := by
  obtain ⟨⟨n8, c0, c1⟩, hg, ⟨hR, -⟩, ⟨t1, t2, t3, t4⟩, he, hp⟩ := h
  refine ⟨⟨n8, by rw [k 0 (by decide) (by decide) (by decide) (by decide)]; exact c0, by rw [k 237 (by decide) (by decide) (by decide) (by decide)]; exact c1⟩, fun i hi => (hg i hi).row (by omega) (fun a p q => k a (by omega) (by omega) (by omega) (by omega)) (fun a j p q _ => by rw [k a (by omega) (by omega) (by omega) (by omega)]), ⟨fun j hj => by rw [k 60 (by decide) (by decide) (by decide) (by decide), k 238 (by decide) (by decide) (by decide) (by decide)]; exact hR j hj, hN⟩, ⟨t1, by rw [k 1 (by decide) (by decide) (by decide) (by decide)]; exact t2, by rw [k 237 (by decide) (by decide) (by decide) (by decide)]; exact t3, fun j e hj => by rw [k 2 (by decide) (by decide) (by decide) (by decide), k 239 (by decide) (by decide) (by decide) (by decide)]; exact t4 j e hj⟩, fun y hy => by rw [k 267 (by decide) (by decide) (by decide) (by decide), k 268 (by decide) (by decide) (by decide) (by decide)]; exact he y hy, hp.row (fun a p q => k a (by omega) (by omega) (by omega) (by omega)) ⟨by rw [k 237 (by decide) (by decide) (by decide) (by decide)], by rw [k 237 (by decide) (by decide) (by decide) (by decide)]⟩ (k 273 (by decide) (by decide) (by decide) (by decide))⟩
theorem op_keep : Op_keep InvA := by
  intro x1 x2 σ hI
  obtain ⟨ng, Gs, Ls, tp, pl, h⟩ := id hI
  have n8 := h.1.1
  unfold D_X10_keep D_X10_keep_0
  refine noGame_ok n8 h.1.2.1 (fun hno => ⟨fun z => absurd z (by decide), fun _ => ?_⟩) (fun i hi e => ⟨fun _ => ⟨e ▸ vp_in_nI (by omega) (by decide), ?_⟩, fun z => absurd rfl z⟩)
  · refine refuse_ok rf_1 ?_
    unfold D_X11_keep D_X11_keep_0
    exact isGame_ok n8 (by rw [rfC_ne (by decide)]; exact h.1.2.2) (fun _ => ⟨fun z => absurd rfl z, fun _ => no_ok rf_1 ⟨rfl, hI.rf rf_1⟩⟩) (fun i hi e => absurd e (hno i hi))
  · subst e
    have hg := h.2.1 i hi
    obtain ⟨hG, -⟩ := hg.ok
    obtain ⟨w2, w4, h2, h4⟩ := hG.1
    have vi : vp_in (nI i) 9 := vp_in_nI (by omega) (by decide)
    have wh : gW (Gs i) * gH (Gs i) < 17 := by
      have := Nat.mul_le_mul w4 h4
      omega
    rw [nI_clamp (show i < 2 ^ 31 by omega)]
    intro x3 e3
    rw [show σ (61 + 22 * i + 3) 2 = nI (gW (Gs i) * gH (Gs i)) from hg.2.1.1.1.2.2] at e3
    rw [e3]
    refine ⟨vp_in_nI (by omega) (by decide), ?_⟩
    refine runI (n := 10) (a := 0) (b := 0) h hi (by decide +kernel) (by decide) (by decide) (by decide) (fun σ1 t1 p1 c1 h1 => ?_)
    unfold D_X8_worth D_X8_worth_0
    rw [t1.1.2.1, t1.1.2.2.1, t1.1.2.2.2]
    generalize hwr : (10 : Int32) * jmin (nI (tA (meas (Gs i) 0 0 x2 10))) (nI (tB (meas (Gs i) 0 0 x2 10))) + tM (meas (Gs i) 0 0 x2 10) / 10 = wr
    have vw : vp_in (nI (gW (Gs i) * gH (Gs i))) 17 := vp_in_nI wh (by decide)
    generalize hq : gW (Gs i) * gH (Gs i) = q at *
    rw [nI_clamp (show q < 2 ^ 31 by omega)]
    -- the reference, when the class has put (or not put) the game at q
    have model : ∀ (b : Bool) (σ1' : GSt), (b = true ↔ σ1 58 q = -9 ∨ ¬ wr ≤ σ1 59 q) → σ1' = (if b then up2 (up2 σ1 58 q (nI i)) 59 q wr else σ1) → D_X11_keep (nI i) x2 σ1' (fun r2 σ2 => σ1' 58 q = r2 ∧ InvA σ2) := by
      intro b σ1' hb e1
      have r1 : ∀ a, a ≠ 58 → a ≠ 59 → σ1' a = σ1 a := by
        intro a p q
        rw [e1]
        cases b
        · rfl
        · exact (up2_ne q).trans (up2_ne p)
      have g1 : MG0 σ1' i (Gs i) := ((h1.2.1 i hi).row (by omega) (fun a p q => r1 a (by omega) (by omega)) (fun a j p q _ => by rw [r1 a (by omega) (by omega)])).mg (by omega) (fun y hy => by rw [r1 267 (by decide) (by decide), r1 268 (by decide) (by decide)]; exact h1.2.2.2.2.1 y hy)
      unfold D_X11_keep D_X11_keep_0
      refine isGame_ok n8 (by rw [r1 237 (by decide) (by decide)]; exact h1.1.2.2) (fun hno => absurd rfl (hno i hi)) (fun _ _ _ => ⟨fun _ => ?_, fun z => absurd z (by decide)⟩)
      refine measures_ok (n := 10) (a := 0) (b := 0) hG (by decide) (by decide) (by decide) g1 (fun σ2 t2 _ s2 => ?_)
      rw [t2.1.1, t2.1.2.1]
      have r2 : ∀ a, a ≠ 237 → (a < 257 ∨ a = 267 ∨ a = 268 ∨ a = 273 ∨ 277 ≤ a) → σ2 a = σ1' a := s2.1
      have e242 : σ2 242 i * σ2 243 i = nI q := by
        rw [r2 242 (by decide) (by decide), r1 242 (by decide) (by decide), r2 243 (by decide) (by decide), r1 243 (by decide) (by decide), (h1.2.1 i hi).2.2.1.1.1, (h1.2.1 i hi).2.2.1.1.2.1, pk_mul, hq]
      have hN1 := h1.2.2.1.2 q wh
      have e277 : σ2 277 q = σ1 58 q := by rw [r2 277 (by decide) (by decide), r1 277 (by decide) (by decide), ← hN1.1]
      have e278 : σ2 278 q = σ1 59 q := by rw [r2 278 (by decide) (by decide), r1 278 (by decide) (by decide), ← hN1.2]
      have e58 : σ2 58 = σ1' 58 := r2 58 (by decide) (by decide)
      have e59 : σ2 59 = σ1' 59 := r2 59 (by decide) (by decide)
      have hI1 : IA σ2 ng Gs Ls tp pl ∨ b = true := by
        cases b
        · left
          rw [e1] at s2
          exact h1.keep (KP.ofSF s2)
        · exact Or.inr rfl
      have s48 : ∀ s1 : Int32, s1 = jmin (nI (tA (meas (Gs i) 0 0 x2 10))) (nI (tB (meas (Gs i) 0 0 x2 10))) → D_X11_keep_48 (fun r2 σ2 => σ1' 58 q = r2 ∧ InvA σ2) (nI i) 10 s1 σ2 := by
        intro s1 es y ey
        rw [t2.1.2.2.2, es, hwr] at ey
        rw [ey, nI_clamp (show i < 2 ^ 31 by omega)]
        refine ⟨vi, vi, fun y4 ey4 => ?_⟩
        rw [e242] at ey4
        rw [ey4, nI_clamp (show q < 2 ^ 31 by omega), e277, e278]
        have put : b = true → D_X11_keep_96 (fun r2 σ2 => σ1' 58 q = r2 ∧ InvA σ2) (nI i) wr (nI q) σ2 := by
          intro hb1
          unfold D_X11_keep_96 D_X11_keep_112
          rw [nI_clamp (show q < 2 ^ 31 by omega)]
          refine ⟨vw, fun s3 e3 => ⟨vw, fun s4 e4 => ⟨vw, ?_, ?_⟩⟩⟩
          · rw [e4, up2_ne (by decide), e3, up2_at, pk_us, e1, hb1]
            show up2 (up2 σ1 58 q (nI i)) 59 q wr 58 q = nI i
            rw [up2_ne (by decide), up2_at, pk_us]
          · rw [hb1] at e1
            have e1' : σ1' = up2 (up2 σ1 58 q (nI i)) 59 q wr := e1
            have f58 : s4 58 = upd (σ1 58) q (nI i) := by rw [e4, up2_ne (by decide), e3, up2_ne (by decide), e58, e1', up2_ne (by decide), up2_at]
            have f59 : s4 59 = upd (σ1 59) q wr := by rw [e4, up2_ne (by decide), e3, up2_ne (by decide), e59, e1', up2_at, up2_ne (by decide)]
            have f277 : s4 277 = upd (σ1 277) q (nI i) := by rw [e4, up2_ne (by decide), e3, up2_at, r2 277 (by decide) (by decide), r1 277 (by decide) (by decide)]
            have f278 : s4 278 = upd (σ1 278) q wr := by rw [e4, up2_at, e3, up2_ne (by decide), r2 278 (by decide) (by decide), r1 278 (by decide) (by decide)]
            -- first without the niches
            have hI2 : IA (fun a => if a = 58 then σ1 58 else if a = 59 then σ1 59 else σ2 a) ng Gs Ls tp pl := by
              refine h1.keep ⟨fun a p => ?_, fun k p => ?_, fun a p => ?_, fun a j p p2 _ => ?_⟩
              · show (if a = 58 then σ1 58 else if a = 59 then σ1 59 else σ2 a) = σ1 a
                split
                · rename_i z; rw [z]
                · split
                  · rename_i z; rw [z]
                  · rw [r2 a (by omega) (by omega), r1 a (by omega) (by omega)]
              · show (if 237 = 58 then σ1 58 else if 237 = 59 then σ1 59 else σ2 237) k = σ1 237 k
                rw [if_neg (by decide), if_neg (by decide), s2.2 k p, r1 237 (by decide) (by decide)]
              · show (if a = 58 then σ1 58 else if a = 59 then σ1 59 else σ2 a) = σ1 a
                rw [if_neg (by omega), if_neg (by omega), r2 a (by omega) (by omega), r1 a (by omega) (by omega)]
              · show (if a = 58 then σ1 58 else if a = 59 then σ1 59 else σ2 a) j = σ1 a j
                rw [if_neg (by omega), if_neg (by omega), r2 a (by omega) (by omega), r1 a (by omega) (by omega)]
            refine ⟨_, _, _, _, _, hI2.niche (fun a p1 p2 p3 p4 => ?_) (fun k hk => ?_)⟩
            · show s4 a = if a = 58 then σ1 58 else if a = 59 then σ1 59 else σ2 a
              rw [if_neg p1, if_neg p2, e4, up2_ne p4, e3, up2_ne p3]
            · rw [f58, f59, f277, f278]
              have := h1.2.2.1.2 k hk
              rcases Decidable.em (k = q) with z | z
              · rw [z, pk_us, pk_us, pk_us, pk_us]; exact ⟨rfl, rfl⟩
              · rw [pk_un z, pk_un z, pk_un z, pk_un z]; exact this
        refine ⟨vw, fun z => put (hb.mpr (Or.inl z)), fun z => ⟨vw, fun z2 => ?_, fun z2 => put (hb.mpr (Or.inr z2))⟩⟩
        have hb0 : ¬ b = true := fun y => (hb.mp y).elim (fun w => z w) (fun w => w z2)
        unfold D_X11_keep_112
        rw [nI_clamp (show q < 2 ^ 31 by omega), e277]
        refine ⟨vw, ?_, _, _, _, _, _, hI1.resolve_right hb0⟩
        rw [e1, if_neg hb0]
      unfold jmin at s48
      refine ⟨fun z => ?_, fun z => ?_⟩
      · refine s48 _ ?_
        split
        · rfl
        · rename_i y
          exact Int32.le_antisymm z (Int32.not_lt.mp y)
      · refine s48 _ ?_
        rw [if_neg (fun y => z (Int32.le_of_lt y))]
    have put : (σ1 58 q = -9 ∨ ¬ wr ≤ σ1 59 q) → D_X10_keep_76 (fun r1 σ1 => D_X11_keep (nI i) x2 σ1 (fun r2 σ2 => r1 = r2 ∧ InvA σ2)) (nI i) (nI q) wr σ1 := by
      intro hb
      unfold D_X10_keep_76 D_X10_keep_91
      rw [nI_clamp (show q < 2 ^ 31 by omega)]
      refine ⟨vw, fun s2 e2 => ⟨vw, fun s3 e3' => ⟨vw, ?_⟩⟩⟩
      exact model true s3 ⟨fun _ => hb, fun _ => rfl⟩ (by rw [e3', e2]; rfl)
    refine ⟨vw, fun z => put (Or.inl z), fun z => ⟨vw, fun z2 => ?_, fun z2 => put (Or.inr z2)⟩⟩
    unfold D_X10_keep_91
    rw [nI_clamp (show q < 2 ^ 31 by omega)]
    exact ⟨vw, model false σ1 ⟨fun y => absurd y (by decide), fun y => y.elim (fun w => absurd w z) (fun w => absurd z2 w)⟩ rfl⟩
