theorem nlin (k g p : Nat) : nI k * nI g + nI p = nI (k * g + p) := by rw [pk_mul, nI_add]
/-- the reference reads its text of game g (n bytes t), at place p -/
def RdM (g n : Nat) (t : Nat → Int32) (p : Nat) (σ : GSt) : Prop := (σ 237 22 = nI g ∧ σ 237 21 = nI p) ∧ (σ 241 g = nI n ∧ ∀ j, j < n → σ 240 (90 * g + j) = t j) ∧ g < 9 ∧ n ≤ 90 ∧ p ≤ n
theorem RdM.vp {g n p : Nat} {t : Nat → Int32} {σ : GSt} (h : RdM g n t p σ) : vp_in (σ 237 22) 9 := by
  rw [h.1.1]
  exact vp_in_nI h.2.2.1 (by decide)
theorem RdM.gi {g n p : Nat} {t : Nat → Int32} {σ : GSt} (h : RdM g n t p σ) : (σ 237 22).toNatClampNeg = g := by
  rw [h.1.1, nI_clamp (by have := h.2.2.1; omega)]
theorem signM_ok {g n p : Nat} {t : Nat → Int32} {σ : GSt} {Q : Int32 → GSt → Prop} (h : RdM g n t p σ) (hQ : Q (ch t n p) σ) : D_X11_sign σ Q := by
  obtain ⟨⟨h1, h2⟩, ⟨h3, h4⟩, h5, h6, h7⟩ := h
  unfold D_X11_sign D_X11_sign_0
  rw [h1, h2, nI_clamp (show g < 2 ^ 31 by omega), h3, show (90 : Int32) * nI g + nI p = nI (90 * g + p) from nlin 90 g p, nI_clamp (show 90 * g + p < 2 ^ 31 by omega)]
  refine ⟨vp_in_nI h5 (by decide), pk_le n p (fun q => ?_) (fun q => ⟨vp_in_nI (by omega) (by decide), ?_⟩)⟩
  · unfold ch at hQ
    rw [if_neg (by omega)] at hQ
    exact hQ
  · unfold ch at hQ
    rw [if_pos q] at hQ
    rw [h4 p q]
    exact hQ
def mw (a : Nat) : Nat := if a = 244 then 16 else if a = 245 ∨ a = 246 ∨ a = 247 ∨ a = 249 ∨ a = 250 ∨ a = 251 ∨ a = 252 ∨ a = 256 then 6 else 1
theorem RdM.step {g n p : Nat} {t : Nat → Int32} {σ : GSt} (h : RdM g n t p σ) (hp : p < n) : RdM g n t (p + 1) (up2 σ 237 21 (nI (p + 1))) := by
  obtain ⟨⟨h1, h2⟩, ⟨h3, h4⟩, h5, h6, h7⟩ := h
  exact ⟨⟨by simp [up2_app, h1], by simp [up2_app]⟩, ⟨by rw [up2_ne (by decide)]; exact h3, fun j hj => by rw [up2_ne (by decide)]; exact h4 j hj⟩, h5, h6, hp⟩
theorem RdM.put {g n p : Nat} {t : Nat → Int32} {σ : GSt} (h : RdM g n t p σ) {a j : Nat} {v : Int32} (h1 : 242 ≤ a) : RdM g n t p (up2 σ a j v) := by
  unfold RdM at *
  rw [up2_ne (by omega), up2_ne (by omega), up2_ne (by omega)]
  exact h
theorem takesM_ok {g n p : Nat} {t : Nat → Int32} {σ : GSt} {c : Int32} {Q : Int32 → GSt → Prop} (h : RdM g n t p σ) (hc : c ≠ -1) (h1 : ch t n p = c → p < n → Q 1 (up2 σ 237 21 (nI (p + 1)))) (h0 : ¬ ch t n p = c → Q 0 σ) : D_X11_takes c σ Q := by
  unfold D_X11_takes D_X11_takes_0
  refine signM_ok h ⟨fun q s e => ?_, h0⟩
  subst e
  rw [h.1.2, nI_1 p]
  exact h1 q (ch_lt q hc)
theorem digitM_ok {g n p : Nat} {t : Nat → Int32} {σ : GSt} {lo hi : Int32} {Q : Int32 → GSt → Prop} (h : RdM g n t p σ) (hlo : 0 ≤ lo) (h1 : dg t n p lo hi → p < n → Q (ch t n p - 48) (up2 σ 237 21 (nI (p + 1)))) (h0 : ¬ dg t n p lo hi → Q (-1) σ) : D_X11_digit lo hi σ Q := by
  unfold D_X11_digit D_X11_digit_0
  refine signM_ok h (fun x ex => ?_)
  subst ex
  refine isIn_ok rfl rfl (fun a b => ⟨fun _ s e => ?_, fun z => absurd z (by decide)⟩) (fun a => ⟨fun z => absurd rfl z, fun _ => h0 a⟩)
  subst e
  rw [h.1.2, nI_1 p]
  refine h1 ⟨a, b⟩ ?_
  rcases Nat.lt_or_ge p n with q | q
  · exact q
  · exfalso
    have e : ch t n p = -1 := if_neg (by omega)
    rw [e] at a
    have q3 := i32_le.mp hlo
    have q4 := i32_le.mp a
    have e1 : ((-1 : Int32) - 48).toInt = -49 := rfl
    have e0 : (0 : Int32).toInt = 0 := rfl
    omega
/-- what reading game g leaves alone -/
def MFr (g : Nat) (σ σ' : GSt) : Prop := (∀ a, a ≠ 237 → (a < 242 ∨ 256 < a) → σ' a = σ a) ∧ (∀ k, k ≠ 21 → k ≠ 22 → σ' 237 k = σ 237 k) ∧ ∀ a j, 242 ≤ a → a ≤ 256 → (j < mw a * g ∨ mw a * (g + 1) ≤ j) → σ' a j = σ a j
theorem MFr.rf {g : Nat} {σ : GSt} : MFr g σ σ := ⟨fun _ _ _ => rfl, fun _ _ _ => rfl, fun _ _ _ _ _ => rfl⟩
theorem MFr.trans {g : Nat} {σ σ' σ'' : GSt} (h : MFr g σ σ') (h2 : MFr g σ' σ'') : MFr g σ σ'' := ⟨fun a p q => (h2.1 a p q).trans (h.1 a p q), fun k p q => (h2.2.1 k p q).trans (h.2.1 k p q), fun a j p q r => (h2.2.2 a j p q r).trans (h.2.2 a j p q r)⟩
theorem MFr.place {g : Nat} {σ σ' : GSt} {k : Nat} {v : Int32} (h : MFr g σ σ') (hk : k = 21 ∨ k = 22) : MFr g σ (up2 σ' 237 k v) := ⟨fun a p q => (up2_ne p).trans (h.1 a p q), fun k p q => by rw [up2_app, if_neg (by omega)]; exact h.2.1 k p q, fun a j p q r => by rw [up2_ne (by omega)]; exact h.2.2 a j p q r⟩
theorem MFr.put {g : Nat} {σ σ' : GSt} {a j : Nat} {v : Int32} (h : MFr g σ σ') (h1 : 242 ≤ a) (h2 : a ≤ 256) (h3 : mw a * g ≤ j) (h4 : j < mw a * (g + 1)) : MFr g σ (up2 σ' a j v) := ⟨fun b p q => (up2_ne (by omega)).trans (h.1 b p q), fun k p q => by rw [up2_ne (by omega)]; exact h.2.1 k p q, fun b i p q r => by
  rw [up2_app, if_neg (fun e => by obtain ⟨e1, e2⟩ := e; subst e1; subst e2; omega)]
  exact h.2.2 b i p q r⟩
theorem boardM_ok {g n : Nat} {t : Nat → Int32} {σ : GSt} {Q : Int32 → GSt → Prop} (h : RdM g n t 0 σ)
    (hs : ∀ (σ' : GSt) (w hh : Nat), pBd t n = .inr (w, hh) → 2 ≤ w → w ≤ 4 → 2 ≤ hh → hh ≤ 4 → RdM g n t 4 σ' → MFr g σ σ' → σ' 242 g = nI w → σ' 243 g = nI hh → σ' 248 = σ 248 → σ' 253 = σ 253 → Q 1 σ')
    (hf : ∀ (σ' : GSt) (z : Nat), pBd t n = .inl z → RdM g n t z σ' → MFr g σ σ' → Q 0 σ') : D_X11_board σ Q := by
  unfold D_X11_board D_X11_board_0
  refine takesM_ok h (by decide) (fun q0 p0 => ⟨fun _ => ?_, fun z => absurd z (by decide)⟩) (fun q0 => ⟨fun z => absurd rfl z, fun _ => hf σ 0 (if_neg q0) h MFr.rf⟩)
  have h1 := h.step p0
  have F1 : MFr g σ (up2 σ 237 21 (nI (0 + 1))) := MFr.rf.place (Or.inl rfl)
  have e242 : mw 242 = 1 := by decide
  have e243 : mw 243 = 1 := by decide
  refine digitM_ok h1 (by decide) (fun q1 p1 => ⟨h1.vp, fun s5 e5 => ?_⟩) (fun q1 => ⟨h1.vp, fun s5 e5 => ?_⟩)
  · rw [h1.gi] at e5
    obtain ⟨w, w2, w4, ew⟩ := dg_nat (lo := 2) (hi := 4) (by decide) q1 (by decide)
    rw [ew] at e5
    have h5 : RdM g n t 2 s5 := by rw [e5]; exact (h1.step p1).put (by decide)
    have F5 : MFr g σ s5 := by rw [e5]; exact (F1.place (Or.inl rfl)).put (by decide) (by decide) (by rw [e242]; omega) (by rw [e242]; omega)
    have v5 : s5 242 g = nI w := by rw [e5]; simp [up2_app]
    have a5 : s5 248 = σ 248 := by rw [e5, up2_ne (by decide), up2_ne (by decide), up2_ne (by decide)]
    have b5 : s5 253 = σ 253 := by rw [e5, up2_ne (by decide), up2_ne (by decide), up2_ne (by decide)]
    refine ⟨h5.vp, ?_⟩
    rw [h5.gi, v5]
    refine ⟨fun _ => ?_, fun z => absurd (nI_pos' (by omega)) z⟩
    refine digitM_ok h5 (by decide) (fun q2 p2 => ⟨h5.vp, fun s8 e8 => ?_⟩) (fun q2 => ⟨h5.vp, fun s8 e8 => ?_⟩)
    · obtain ⟨y, y2, y4, ey⟩ := dg_nat (lo := 2) (hi := 4) (by decide) q2 (by decide)
      rw [ey] at e8
      have h8 : RdM g n t 3 s8 := by rw [e8]; exact (h5.step p2).put (by decide)
      have F8 : MFr g σ s8 := by rw [e8]; exact (F5.place (Or.inl rfl)).put (by decide) (by decide) (by rw [e243]; omega) (by rw [e243]; omega)
      have v8 : s8 243 g = nI y := by rw [e8]; simp [up2_app]
      have w8 : s8 242 g = nI w := by rw [e8, up2_ne (by decide), up2_ne (by decide)]; exact v5
      have a8 : s8 248 = σ 248 := by rw [e8, up2_ne (by decide), up2_ne (by decide)]; exact a5
      have b8 : s8 253 = σ 253 := by rw [e8, up2_ne (by decide), up2_ne (by decide)]; exact b5
      refine ⟨h8.vp, ?_⟩
      rw [h8.gi, v8]
      refine ⟨fun z => absurd z (nI_nle (by omega) (by omega)), fun _ => ?_⟩
      refine takesM_ok h8 (by decide) (fun q3 p3 => ⟨fun z => absurd z (by decide), fun _ => ?_⟩) (fun q3 => ⟨fun _ => ?_, fun z => absurd rfl z⟩)
      · refine hs _ w y ?_ w2 w4 y2 y4 (h8.step p3) (F8.place (Or.inl rfl)) (by rw [up2_ne (by decide)]; exact w8) (by rw [up2_ne (by decide)]; exact v8) (by rw [up2_ne (by decide)]; exact a8) (by rw [up2_ne (by decide)]; exact b8)
        have e : pBd t n = .inr ((ch t n 1 - 48).toNatClampNeg, (ch t n 2 - 48).toNatClampNeg) := (if_pos q0).trans ((if_pos q1).trans ((if_pos q2).trans (if_pos q3)))
        have ew' : ch t n 1 - 48 = nI w := ew
        have ey' : ch t n 2 - 48 = nI y := ey
        rw [e, ew', ey', nI_clamp (by omega), nI_clamp (by omega)]
      · exact hf _ 3 ((if_pos q0).trans ((if_pos q1).trans ((if_pos q2).trans (if_neg q3)))) h8 F8
    · have h8 : RdM g n t 2 s8 := by rw [e8]; exact h5.put (by decide)
      have F8 : MFr g σ s8 := by rw [e8]; exact F5.put (by decide) (by decide) (by rw [e243]; omega) (by rw [e243]; omega)
      have v8 : s8 243 g = -1 := by rw [e8]; simp [up2_app]
      refine ⟨h8.vp, ?_⟩
      rw [h8.gi, v8]
      exact ⟨fun _ => hf _ 2 ((if_pos q0).trans ((if_pos q1).trans (if_neg q2))) h8 F8, fun z => absurd (by decide) z⟩
  · rw [h1.gi] at e5
    have h5 : RdM g n t 1 s5 := by rw [e5]; exact h1.put (by decide)
    have F5 : MFr g σ s5 := by rw [e5]; exact F1.put (by decide) (by decide) (by rw [e242]; omega) (by rw [e242]; omega)
    have v5 : s5 242 g = -1 := by rw [e5]; simp [up2_app]
    refine ⟨h5.vp, ?_⟩
    rw [h5.gi, v5]
    exact ⟨fun z => absurd z (by decide), fun _ => hf _ 1 ((if_pos q0).trans (if_neg q1)) h5 F5⟩
/-- what stands on the cell c, by the pieces of both -/
def cv (a b : Int32) (c : Nat) : Int32 := if bt a c then 1 else if bt b c then 2 else 0
theorem beginsM_loop {g n w h : Nat} {t : Nat → Int32} {σ0 : GSt} {Q : Int32 → GSt → Prop} (h16 : w * h ≤ 16) : ∀ (d c p : Nat) (a b : Int32) (σ : GSt), c + d = w * h → RdM g n t p σ → MFr g σ0 σ → (∀ j, j < 16 → σ 244 (16 * g + j) = cv a b j) → (∀ j, c ≤ j → j < 32 → bt a j = false ∧ bt b j = false) → σ 242 g = nI w → σ 243 g = nI h → σ 248 = σ0 248 → σ 253 = σ0 253 →
    (∀ (σ' : GSt) (z : Nat) (a' b' : Int32), pBgs t n d c p a b = .inr (z, a', b') → RdM g n t z σ' → MFr g σ0 σ' → (∀ j, j < 16 → σ' 244 (16 * g + j) = cv a' b' j) → σ' 242 g = nI w → σ' 243 g = nI h → σ' 248 = σ0 248 → σ' 253 = σ0 253 → Q 1 σ') →
    (∀ (σ' : GSt) (z : Nat), pBgs t n d c p a b = .inl z → RdM g n t z σ' → MFr g σ0 σ' → Q 0 σ') → L_X11_begins_42 Q (d + 1) (nI c) σ := by
  intro d
  induction d with
  | zero =>
    intro c p a b σ hc hR hF hcell hz hw hh h8 h3 hs hf
    unfold L_X11_begins_42 D_X11_begins_42
    rw [hR.gi, hw, hh, show nI w * nI h = nI (w * h) from pk_mul w h]
    refine ⟨hR.vp, hR.vp, fun _ => ?_, fun z => absurd (nI_le (by omega) (by omega)) z⟩
    refine takesM_ok hR (by decide) (fun q hp => ⟨Or.inr rfl, ?_⟩) (fun q => ⟨Or.inl rfl, ?_⟩)
    · exact hs _ (p + 1) a b (if_pos q) (hR.step hp) (hF.place (Or.inl rfl)) (fun j hj => by rw [up2_ne (by decide)]; exact hcell j hj) (by rw [up2_ne (by decide)]; exact hw) (by rw [up2_ne (by decide)]; exact hh) (by rw [up2_ne (by decide)]; exact h8) (by rw [up2_ne (by decide)]; exact h3)
    · exact hf _ p (if_neg q) hR hF
  | succ d ih =>
    intro c p a b σ hc hR hF hcell hz hw hh h8 h3 hs hf
    unfold L_X11_begins_42 D_X11_begins_42
    rw [hR.gi, hw, hh, show nI w * nI h = nI (w * h) from pk_mul w h]
    refine ⟨hR.vp, hR.vp, fun z => absurd z (nI_ge (by omega) (by omega)), fun _ => ?_⟩
    have g9 := hR.2.2.1
    have hix : (16 : Int32) * σ 237 22 + nI c = nI (16 * g + c) := by rw [hR.1.1]; exact nlin 16 g c
    have e244 : mw 244 = 16 := by decide
    -- one sign more
    have one : ∀ (v a' b' : Int32), p < n → (∀ j, j < 16 → (if j = c then v else cv a b j) = cv a' b' j) → (∀ j, c + 1 ≤ j → j < 32 → bt a' j = false ∧ bt b' j = false) → pBgs t n (d + 1) c p a b = pBgs t n d (c + 1) (p + 1) a' b' → D_X11_begins_124 (L_X11_begins_42 Q (d + 1)) Q (nI c) 244 ((16 * (σ 237 22)) + nI c) v σ := by
      intro v a' b' hp hv hz' hpb
      unfold D_X11_begins_124
      rw [hix, nI_clamp (by omega)]
      refine ⟨?_, fun s1 e1 s2 e2 x ex => ?_⟩
      · rw [ly_11_6.2]
        exact vp_in_nI (by omega) (by decide)
      · subst ex
        have hR1 : RdM g n t p s1 := by rw [e1]; exact hR.put (by decide)
        rw [hR1.1.2, nI_1 p] at e2
        rw [nI_1 c]
        have hR2 : RdM g n t (p + 1) s2 := by rw [e2]; exact hR1.step hp
        refine ih (c + 1) (p + 1) a' b' s2 (by omega) hR2 ?_ ?_ hz' ?_ ?_ ?_ ?_ (fun σ' z a2 b2 hz2 => hs σ' z a2 b2 (hpb.trans hz2)) (fun σ' z hz2 => hf σ' z (hpb.trans hz2))
        · rw [e2, e1]
          exact (hF.put (by decide) (by decide) (by rw [e244]; omega) (by rw [e244]; omega)).place (Or.inl rfl)
        · intro j hj
          rw [e2, up2_ne (by decide), e1, up2_app, ← hv j hj, ← hcell j hj]
          by_cases q : j = c
          · rw [if_pos ⟨rfl, by omega⟩, if_pos q]
          · rw [if_neg (by omega), if_neg q]
        · rw [e2, up2_ne (by decide), e1, up2_ne (by decide)]; exact hw
        · rw [e2, up2_ne (by decide), e1, up2_ne (by decide)]; exact hh
        · rw [e2, up2_ne (by decide), e1, up2_ne (by decide)]; exact h8
        · rw [e2, up2_ne (by decide), e1, up2_ne (by decide)]; exact h3
    have hb1 : ∀ j, j < 32 → bt (jshl 1 (nI c)) j = decide (j = c) := fun j hj => bt_sh1 (by omega) hj
    refine signM_ok hR ⟨fun q => ?_, fun q => ⟨fun q2 => ?_, fun q2 => ⟨fun q3 => ?_, fun q3 => ?_⟩⟩⟩
    · refine ⟨fun z => absurd q z, fun _ => one 1 (a ||| jshl 1 (nI c)) b (ch_lt q (by decide)) (fun j hj => ?_) (fun j h1 h2 => ?_) (if_pos q)⟩
      · unfold cv
        rw [bt_or, hb1 j (by omega)]
        by_cases e : j = c
        · subst e; simp
        · simp [e]
      · rw [bt_or, hb1 j h2, (hz j (by omega) h2).1, (hz j (by omega) h2).2]
        simp
        omega
    · refine ⟨fun _ => ⟨fun z => absurd q2 z, fun _ => one 2 a (b ||| jshl 1 (nI c)) (ch_lt q2 (by decide)) (fun j hj => ?_) (fun j h1 h2 => ?_) ((if_neg q).trans (if_pos q2))⟩, fun z => absurd z q⟩
      · unfold cv
        rw [bt_or, hb1 j (by omega)]
        by_cases e : j = c
        · subst e; simp [(hz j (Nat.le_refl _) (by omega)).1]
        · simp [e]
      · rw [bt_or, hb1 j h2, (hz j (by omega) h2).1, (hz j (by omega) h2).2]
        simp
        omega
    · refine ⟨fun _ => ⟨fun _ => one 0 a b (ch_lt q3 (by decide)) (fun j hj => ?_) (fun j h1 h2 => hz j (by omega) h2) ((if_neg q).trans ((if_neg q2).trans (if_pos q3))), fun z => absurd z q2⟩, fun z => absurd z q⟩
      by_cases e : j = c
      · subst e
        simp [cv, (hz j (Nat.le_refl _) (by omega)).1, (hz j (Nat.le_refl _) (by omega)).2]
      · simp [e]
    · exact hf _ p ((if_neg q).trans ((if_neg q2).trans (if_neg q3))) hR hF
theorem beginsM_ok {g n w h p : Nat} {t : Nat → Int32} {σ : GSt} {Q : Int32 → GSt → Prop} (h16 : w * h ≤ 16) (hR : RdM g n t p σ) (hw : σ 242 g = nI w) (hh : σ 243 g = nI h)
    (hs : ∀ (σ' : GSt) (z : Nat) (a b : Int32), pBg t n (w * h) p = .inr (z, a, b) → RdM g n t z σ' → MFr g σ σ' → (∀ j, j < 16 → σ' 244 (16 * g + j) = cv a b j) → σ' 242 g = nI w → σ' 243 g = nI h → σ' 248 = σ 248 → σ' 253 = σ 253 → Q 1 σ')
    (hf : ∀ (σ' : GSt) (z : Nat), pBg t n (w * h) p = .inl z → RdM g n t z σ' → MFr g σ σ' → Q 0 σ') : D_X11_begins σ Q := by
  refine ⟨17, ?_⟩
  have g9 := hR.2.2.1
  have e244 : mw 244 = 16 := by decide
  have key : ∀ (d c : Nat) (σ' : GSt), c + d = 16 → RdM g n t p σ' → MFr g σ σ' → (∀ j, j < c → σ' 244 (16 * g + j) = 0) → σ' 242 g = nI w → σ' 243 g = nI h → σ' 248 = σ 248 → σ' 253 = σ 253 → L_X11_begins_2 Q (d + 1) (nI c) σ' := by
    intro d
    induction d with
    | zero =>
      intro c σ' hc hR' hF hz hw' hh' h8 h3
      refine ⟨fun _ => ?_, fun z => absurd ?_ z⟩
      · have hcell : ∀ τ : GSt, τ 244 = σ' 244 → ∀ j, j < 16 → τ 244 (16 * g + j) = cv 0 0 j := fun τ e j hj => by
          rw [e, hz j (by omega)]
          simp [cv, bt_0]
        refine takesM_ok hR' (by decide) (fun q hp => ⟨fun _ => ⟨w * h + 1, ?_⟩, fun z => absurd z (by decide)⟩) (fun q => ⟨fun z => absurd rfl z, fun _ => ?_⟩)
        · exact beginsM_loop (σ0 := σ) (w := w) (h := h) h16 (w * h) 0 (p + 1) 0 0 _ (by omega) (hR'.step hp) (hF.place (Or.inl rfl)) (hcell _ (up2_ne (by decide))) (fun j _ _ => ⟨bt_0 j, bt_0 j⟩) (by rw [up2_ne (by decide)]; exact hw') (by rw [up2_ne (by decide)]; exact hh') (by rw [up2_ne (by decide)]; exact h8) (by rw [up2_ne (by decide)]; exact h3) (fun σ2 z a b hz2 => hs σ2 z a b ((if_pos q).trans hz2)) (fun σ2 z hz2 => hf σ2 z ((if_pos q).trans hz2))
        · exact hs _ p 0 0 (if_neg q) hR' hF (hcell _ rfl) hw' hh' h8 h3
      · rw [show c = 16 by omega]
        decide
    | succ d ih =>
      intro c σ' hc hR' hF hz hw' hh' h8 h3
      unfold L_X11_begins_2 D_X11_begins_2
      have hix : (16 : Int32) * σ' 237 22 + nI c = nI (16 * g + c) := by rw [hR'.1.1]; exact nlin 16 g c
      rw [hix, nI_clamp (show 16 * g + c < 2 ^ 31 by omega)]
      refine ⟨fun z => absurd z (nI_ge (b := 16) (by omega) (by decide)), fun _ => ⟨vp_in_nI (by omega) (by decide), fun s e x ex => ?_⟩⟩
      subst ex
      rw [nI_1 c, e]
      refine ih (c + 1) _ (by omega) (hR'.put (by decide)) (hF.put (by decide) (by decide) (by rw [e244]; omega) (by rw [e244]; omega)) (fun j hj => ?_) (by rw [up2_ne (by decide)]; exact hw') (by rw [up2_ne (by decide)]; exact hh') (by rw [up2_ne (by decide)]; exact h8) (by rw [up2_ne (by decide)]; exact h3)
      rw [up2_app]
      by_cases q : j = c
      · rw [if_pos ⟨rfl, by omega⟩]
      · rw [if_neg (by omega)]
        exact hz j (by omega)
  exact key 16 0 σ rfl hR MFr.rf (fun j hj => absurd hj (Nat.not_lt_zero _)) hw hh rfl rfl
