def EFm (g m : Nat) (σ σ' : GSt) : Prop := (∀ a, a ≠ 237 → a ≠ 249 → a ≠ 250 → a ≠ 251 → a ≠ 252 → a ≠ 253 → σ' a = σ a) ∧ (∀ k, k ≠ 21 → σ' 237 k = σ 237 k) ∧ (∀ a j, a ≠ 237 → a ≠ 253 → (j < 6 * g + m ∨ 6 * g + 6 ≤ j) → σ' a j = σ a j) ∧ ∀ j, j ≠ g → σ' 253 j = σ 253 j
theorem EFm.rf {g m : Nat} {σ : GSt} : EFm g m σ σ := ⟨fun _ _ _ _ _ _ _ => rfl, fun _ _ => rfl, fun _ _ _ _ _ => rfl, fun _ _ => rfl⟩
theorem EFm.trans {g m m' : Nat} {σ σ' σ'' : GSt} (h : EFm g m σ σ') (h2 : EFm g m' σ' σ'') (hm : m ≤ m') : EFm g m σ σ'' := ⟨fun a p1 p2 p3 p4 p5 p6 => (h2.1 a p1 p2 p3 p4 p5 p6).trans (h.1 a p1 p2 p3 p4 p5 p6), fun k p => (h2.2.1 k p).trans (h.2.1 k p), fun a j p1 p2 p3 => (h2.2.2.1 a j p1 p2 (by omega)).trans (h.2.2.1 a j p1 p2 p3), fun j p => (h2.2.2.2 j p).trans (h.2.2.2 j p)⟩
theorem EFm.place {g m : Nat} {σ σ' : GSt} {v : Int32} (h : EFm g m σ σ') : EFm g m σ (up2 σ' 237 21 v) := ⟨fun a p1 p2 p3 p4 p5 p6 => (up2_ne p1).trans (h.1 a p1 p2 p3 p4 p5 p6), fun k p => by rw [up2_app, if_neg (by omega)]; exact h.2.1 k p, fun a j p1 p2 p3 => by rw [up2_ne p1]; exact h.2.2.1 a j p1 p2 p3, fun j p => by rw [up2_ne (by decide)]; exact h.2.2.2 j p⟩
theorem EFm.put {g m j : Nat} {a : Nat} {σ σ' : GSt} {v : Int32} (h : EFm g m σ σ') (ha : 249 ≤ a ∧ a ≤ 252) (hj : 6 * g + m ≤ j) (hj2 : j < 6 * g + 6) : EFm g m σ (up2 σ' a j v) := ⟨fun b p1 p2 p3 p4 p5 p6 => (up2_ne (by omega)).trans (h.1 b p1 p2 p3 p4 p5 p6), fun k p => by rw [up2_ne (by omega)]; exact h.2.1 k p, fun b i p1 p2 p3 => by rw [up2_app, if_neg (by omega)]; exact h.2.2.1 b i p1 p2 p3, fun i p => by rw [up2_ne (by omega)]; exact h.2.2.2 i p⟩
theorem EFm.count {g m : Nat} {σ σ' : GSt} {v : Int32} (h : EFm g m σ σ') : EFm g m σ (up2 σ' 253 g v) := ⟨fun b p1 p2 p3 p4 p5 p6 => (up2_ne p6).trans (h.1 b p1 p2 p3 p4 p5 p6), fun k p => by rw [up2_ne (by decide)]; exact h.2.1 k p, fun b i p1 p2 p3 => by rw [up2_ne p2]; exact h.2.2.1 b i p1 p2 p3, fun i p => by rw [up2_app, if_neg (by omega)]; exact h.2.2.2 i p⟩
theorem pOut_cases (t : Nat → Int32) (n p : Nat) : (ch t n p = 119 ∧ pOut t n p = 0) ∨ (ch t n p ≠ 119 ∧ ch t n p = 108 ∧ pOut t n p = 1) ∨ (ch t n p ≠ 119 ∧ ch t n p ≠ 108 ∧ ch t n p = 100 ∧ pOut t n p = 2) ∨ (ch t n p ≠ 119 ∧ ch t n p ≠ 108 ∧ ch t n p ≠ 100 ∧ pOut t n p = -1) := by
  by_cases c : ch t n p = 119
  · exact Or.inl ⟨c, by simp [pOut, c]⟩
  · by_cases c2 : ch t n p = 108
    · exact Or.inr (Or.inl ⟨c, c2, by simp [pOut, c2]⟩)
    · by_cases c3 : ch t n p = 100
      · exact Or.inr (Or.inr (Or.inl ⟨c, c2, c3, by simp [pOut, c3]⟩))
      · exact Or.inr (Or.inr (Or.inr ⟨c, c2, c3, by simp [pOut, c, c2, c3]⟩))
theorem oneEnd_ok {g n p m : Nat} {t : Nat → Int32} {σ : GSt} {Q : Int32 → GSt → Prop} (h : RdM g n t p σ) (hm : σ 253 g = nI m) (hm6 : m ≤ 6)
    (h6 : m = 6 → Q 0 σ)
    (hf : ∀ (σ' : GSt) (q : Nat), m < 6 → pEn t n p = .inl q → RdM g n t q σ' → EFm g m σ σ' → Q 0 σ')
    (hs : ∀ (σ' : GSt) (q : Nat) (kind num out : Int32), m < 6 → pEn t n p = .inr (q, kind, num, out) → RdM g n t q σ' → EFm g m σ σ' → EnM σ' (6 * g + m) (p, q, kind, num, out) → σ' 253 g = nI (m + 1) → Q 1 σ') : D_X11_oneEnd σ Q := by
  have g9 := h.2.2.1
  unfold D_X11_oneEnd D_X11_oneEnd_0
  rw [h.gi, hm, h.1.1, show (6 : Int32) * nI g + nI m = nI (6 * g + m) from nlin 6 g m]
  refine ⟨vp_in_nI g9 (by decide), fun x ex => ?_⟩
  subst ex
  refine signM_ok h ⟨h.vp, ?_⟩
  rw [h.gi, hm]
  refine pk_eq m 6 (fun e => h6 e) (fun e => ?_)
  have lt6 : m < 6 := by omega
  have hk : vp_in (nI (6 * g + m)) 54 := vp_in_nI (by omega) (by decide)
  obtain ⟨k, ek⟩ : ∃ k, k = 6 * g + m := ⟨_, rfl⟩
  rw [← ek] at hk ⊢
  have kc : (nI k).toNatClampNeg = k := nI_clamp (by omega)
  have inc : ∀ (σ4 : GSt) (q : Nat) (kind num out : Int32), pEn t n p = .inr (q, kind, num, out) → RdM g n t q σ4 → EFm g m σ σ4 → σ4 249 k = eL kind → σ4 250 k = num → σ4 251 k = oL out → σ4 252 k = nI p → σ4 253 g = nI m → D_X11_oneEnd_271 Q σ4 := by
    intro σ4 q kind num out hpe hR hF v9 v0 v1 v2 v3
    refine ⟨hR.vp, hR.vp, fun s e => ?_⟩
    rw [hR.gi, v3, nI_1 m] at e
    refine hs s q kind num out lt6 hpe (by rw [e]; exact hR.put (by decide)) (by rw [e]; exact hF.count) ?_ (by rw [e]; simp [up2_app])
    rw [← ek, e]
    refine ⟨?_, ?_, ?_, ?_⟩
    · rw [up2_ne (by decide)]; exact v9
    · rw [up2_ne (by decide)]; exact v0
    · rw [up2_ne (by decide)]; exact v1
    · rw [up2_ne (by decide)]; exact v2
  have rest : ∀ (σ4 : GSt) (q : Nat) (kind num : Int32), ¬ ch t n p = 109 → pEn t n p = pRest t n q kind num → RdM g n t q σ4 → EFm g m σ σ4 → σ4 249 k = eL kind → σ4 250 k = num → σ4 252 k = nI p → σ4 253 g = nI m → D_X11_oneEnd_189 Q (nI k) (ch t n p) σ4 := by
    intro σ4 q kind num h109 hpe hR hF v9 v0 v2 v3
    refine ⟨fun _ => ?_, fun z => absurd z h109⟩
    have go : ∀ out : Int32, pOut t n q = out → ¬ out < 0 → oL out = ch t n q → q < n → D_X11_oneEnd_254 Q (nI k) (ch t n q) σ4 := by
      intro out eo o0 hol hq
      refine ⟨hk, fun s1 e1 s2 e2 => ?_⟩
      rw [kc] at e1
      have hR1 : RdM g n t q s1 := by rw [e1]; exact hR.put (by decide)
      rw [hR1.1.2, nI_1 q] at e2
      refine inc s2 (q + 1) kind num out ?_ (by rw [e2]; exact hR1.step hq) ?_ ?_ ?_ ?_ ?_ ?_
      · rw [hpe]
        unfold pRest
        rw [eo, if_neg o0]
      · rw [e2, e1]; exact (hF.put (by decide) (by omega) (by omega)).place
      · rw [e2, up2_ne (by decide), e1, up2_ne (by decide)]; exact v9
      · rw [e2, up2_ne (by decide), e1, up2_ne (by decide)]; exact v0
      · rw [e2, up2_ne (by decide), e1, hol]; simp [up2_app]
      · rw [e2, up2_ne (by decide), e1, up2_ne (by decide)]; exact v2
      · rw [e2, up2_ne (by decide), e1, up2_ne (by decide)]; exact v3
    refine signM_ok hR ?_
    rcases pOut_cases t n q with ⟨c, o⟩ | ⟨c, c2, o⟩ | ⟨c, c2, c3, o⟩ | ⟨c, c2, c3, o⟩
    · exact ⟨fun _ => go 0 o (by decide) (by rw [c]; rfl) (ch_lt c (by decide)), fun z => absurd c z⟩
    · exact ⟨fun z => absurd z c, fun _ => ⟨fun _ => go 1 o (by decide) (by rw [c2]; rfl) (ch_lt c2 (by decide)), fun z => absurd c2 z⟩⟩
    · exact ⟨fun z => absurd z c, fun _ => ⟨fun z => absurd z c2, fun _ => ⟨fun _ => go 2 o (by decide) (by rw [c3]; rfl) (ch_lt c3 (by decide)), fun z => absurd c3 z⟩⟩⟩
    · refine ⟨fun z => absurd z c, fun _ => ⟨fun z => absurd z c2, fun _ => ⟨fun z => absurd z c3, fun _ => ?_⟩⟩⟩
      refine hf σ4 q lt6 ?_ hR hF
      rw [hpe]
      unfold pRest
      rw [o]
      rfl
  -- the state behind the letter
  obtain ⟨s5, e5⟩ : ∃ s, s = up2 (up2 (up2 (up2 (up2 σ 249 k (ch t n p)) 252 k (nI p)) 250 k 0) 251 k 100) 237 21 (nI (p + 1)) := ⟨_, rfl⟩
  have hF5 : EFm g m σ s5 := by
    rw [e5]
    exact ((((EFm.rf.put (by decide) (by omega) (by omega)).put (by decide) (by omega) (by omega)).put (by decide) (by omega) (by omega)).put (by decide) (by omega) (by omega)).place
  have v9 : s5 249 k = ch t n p := by rw [e5]; simp [up2_app]
  have v0 : s5 250 k = 0 := by rw [e5]; simp [up2_app]
  have v1 : s5 251 k = 100 := by rw [e5]; simp [up2_app]
  have v2 : s5 252 k = nI p := by rw [e5]; simp [up2_app]
  have v3 : s5 253 g = nI m := by rw [e5, up2_ne (by decide), up2_ne (by decide), up2_ne (by decide), up2_ne (by decide), up2_ne (by decide)]; exact hm
  have hR5 : p < n → RdM g n t (p + 1) s5 := by
    intro hp
    rw [e5]
    exact ((((h.put (by decide)).put (by decide)).put (by decide)).put (by decide)).step hp
  have start : (D_X11_oneEnd_135 Q (nI k) (ch t n p) s5 ∧ (ch t n p = 114 ∨ ch t n p = 107 ∨ ch t n p = 109)) ∨ (D_X11_oneEnd_189 Q (nI k) (ch t n p) s5 ∧ ch t n p ≠ 114 ∧ ch t n p ≠ 107 ∧ ch t n p ≠ 109) → p < n → D_X11_oneEnd_75 Q (nI k) (ch t n p) σ := by
    intro hD hp
    refine ⟨hk, fun s1 e1 => ⟨hk, fun s2 e2 => ⟨hk, fun s3 e3 => ⟨hk, fun s4 e4 s e => ?_⟩⟩⟩⟩
    rw [kc] at e1 e2 e3 e4
    have hR1 : RdM g n t p s1 := by rw [e1]; exact h.put (by decide)
    rw [hR1.1.2] at e2
    have hR4 : RdM g n t p s4 := by rw [e4, e3, e2]; exact ((hR1.put (by decide)).put (by decide)).put (by decide)
    rw [hR4.1.2, nI_1 p, e4, e3, e2, e1, ← e5] at e
    rw [e]
    rcases hD with ⟨hD, hc⟩ | ⟨hD, c1, c2, c3⟩
    · refine ⟨fun _ => hD, fun c1 => ⟨fun _ => hD, fun c2 => ⟨fun c3 => absurd (hc.resolve_left c1 |>.resolve_left c2) c3, fun _ => hD⟩⟩⟩
    · exact ⟨fun z => absurd z c1, fun _ => ⟨fun z => absurd z c2, fun _ => ⟨fun _ => hD, fun z => absurd z c3⟩⟩⟩
  have dig : ∀ (lo hi : Int32) (kind : Int32), 0 ≤ lo → p < n → ¬ ch t n p = 109 → eL kind = ch t n p → pEn t n p = (if lo ≤ ch t n (p + 1) - 48 ∧ ch t n (p + 1) - 48 ≤ hi then pRest t n (p + 2) kind (ch t n (p + 1) - 48) else .inl (p + 1)) → D_X11_oneEnd_174 Q (nI k) (ch t n p) 250 (nI k) lo hi s5 := by
    intro lo hi kind hlo hp h109 hel hpe
    have hR := hR5 hp
    have lnv : vp_in (nI k) (ln 250) := by rw [ly_11_12.2]; exact hk
    refine digitM_ok hR hlo (fun d hp1 => ⟨lnv, fun s e => ⟨hk, ?_⟩⟩) (fun d => ⟨lnv, fun s e => ⟨hk, ?_⟩⟩)
    · rw [kc] at e ⊢
      have w0 : s 250 k = ch t n (p + 1) - 48 := by rw [e]; simp [up2_app]
      rw [w0]
      refine ⟨fun _ => ?_, fun z => absurd (Int32.le_trans hlo d.1) z⟩
      refine rest s (p + 2) kind (ch t n (p + 1) - 48) h109 (hpe.trans (if_pos d)) (by rw [e]; exact (hR.step hp1).put (by decide)) (by rw [e]; exact hF5.place.put (by decide) (by omega) (by omega)) ?_ w0 ?_ ?_
      · rw [e, up2_ne (by decide), up2_ne (by decide), hel]; exact v9
      · rw [e, up2_ne (by decide), up2_ne (by decide)]; exact v2
      · rw [e, up2_ne (by decide), up2_ne (by decide)]; exact v3
    · rw [kc] at e ⊢
      have w0 : s 250 k = -1 := by rw [e]; simp [up2_app]
      rw [w0]
      exact ⟨fun z => absurd z (by decide), fun _ => hf s (p + 1) lt6 (hpe.trans (if_neg d)) (by rw [e]; exact hR.put (by decide)) (by rw [e]; exact hF5.put (by decide) (by omega) (by omega))⟩
  have plain : ∀ (kind : Int32), p < n → ¬ ch t n p = 109 → eL kind = ch t n p → pEn t n p = pRest t n (p + 1) kind 0 → D_X11_oneEnd_189 Q (nI k) (ch t n p) s5 := fun kind hp h109 hel hpe => rest s5 (p + 1) kind 0 h109 hpe (hR5 hp) hF5 (v9.trans hel.symm) v0 v2 v3
  refine ⟨fun c => ?_, fun c => ⟨fun c2 => ?_, fun c2 => ⟨fun c3 => ?_, fun c3 => ⟨fun c4 => ?_, fun c4 => ⟨fun c5 => ?_, fun c5 => ⟨fun c6 => ?_, fun c6 => ?_⟩⟩⟩⟩⟩⟩
  · have hp : p < n := ch_lt c (by decide)
    refine start (Or.inl ⟨⟨fun z => absurd c z, fun _ => ⟨fun z => absurd c z, fun _ => ?_⟩⟩, Or.inl c⟩) hp
    exact dig 2 4 0 (by decide) hp (by rw [c]; decide) (by rw [c]; rfl) (by unfold pEn; rw [if_neg (by rw [c]; decide), if_pos c])
  · have hp : p < n := ch_lt c2 (by decide)
    refine start (Or.inr ⟨plain 1 hp (by rw [c2]; decide) (by rw [c2]; rfl) ?_, c, by rw [c2]; decide, by rw [c2]; decide⟩) hp
    unfold pEn
    rw [if_neg (by rw [c2]; decide), if_neg c, if_neg (by rw [c2]; decide), if_pos c2]
  · have hp : p < n := ch_lt c3 (by decide)
    refine start (Or.inr ⟨plain 2 hp (by rw [c3]; decide) (by rw [c3]; rfl) ?_, c, by rw [c3]; decide, by rw [c3]; decide⟩) hp
    unfold pEn
    rw [if_neg (by rw [c3]; decide), if_neg c, if_neg (by rw [c3]; decide), if_neg c2, if_pos c3]
  · have hp : p < n := ch_lt c4 (by decide)
    refine start (Or.inr ⟨plain 3 hp (by rw [c4]; decide) (by rw [c4]; rfl) ?_, c, by rw [c4]; decide, by rw [c4]; decide⟩) hp
    unfold pEn
    rw [if_neg (by rw [c4]; decide), if_neg c, if_neg (by rw [c4]; decide), if_neg c2, if_neg c3, if_pos c4]
  · have hp : p < n := ch_lt c5 (by decide)
    refine start (Or.inl ⟨⟨fun _ => ⟨fun z => absurd c5 z, fun _ => ⟨fun _ => ?_, fun z => absurd z c⟩⟩, fun z => absurd z c⟩, Or.inr (Or.inl c5)⟩) hp
    exact dig 1 9 4 (by decide) hp (by rw [c5]; decide) (by rw [c5]; rfl) (by unfold pEn; rw [if_neg (by rw [c5]; decide), if_neg c, if_pos c5])
  · have hp : p < n := ch_lt c6 (by decide)
    have hR := hR5 hp
    have lnv : vp_in (nI k) (ln 250) := by rw [ly_11_12.2]; exact hk
    refine start (Or.inl ⟨⟨fun _ => ⟨fun _ => ⟨fun _ => ?_, fun z => absurd z c⟩, fun z => absurd z c5⟩, fun z => absurd z c⟩, Or.inr (Or.inr c6)⟩) hp
    refine digitM_ok hR (by decide) (fun d hp1 => ⟨lnv, fun s e => ⟨hk, ?_⟩⟩) (fun d => ⟨lnv, fun s e => ⟨hk, ?_⟩⟩)
    · rw [kc] at e ⊢
      have w0 : s 250 k = ch t n (p + 1) - 48 := by rw [e]; simp [up2_app]
      rw [w0]
      have hRs : RdM g n t (p + 2) s := by rw [e]; exact (hR.step hp1).put (by decide)
      have hFs : EFm g m σ s := by rw [e]; exact hF5.place.put (by decide) (by omega) (by omega)
      refine ⟨fun _ => ⟨fun z => absurd c6 z, fun _ => ?_⟩, fun z => absurd d.1 z⟩
      refine digitM_ok hRs (by decide) (fun d2 hp2 => ⟨fun _ => ⟨hk, hk, fun s' e' => ?_⟩, fun z => absurd d2.1 z⟩) (fun d2 => ⟨fun z => absurd z (by decide), fun _ => ?_⟩)
      · rw [kc, up2_ne (show (250 : Nat) ≠ 237 by decide), w0] at e'
        refine inc s' (p + 3) 5 (10 * (ch t n (p + 1) - 48) + (ch t n (p + 2) - 48)) 2 ?_ (by rw [e']; exact (hRs.step hp2).put (by decide)) (by rw [e']; exact hFs.place.put (by decide) (by omega) (by omega)) ?_ ?_ ?_ ?_ ?_
        · unfold pEn
          rw [if_pos c6]
          exact (if_pos d).trans (if_pos d2)
        · rw [e', up2_ne (by decide), up2_ne (by decide), e, up2_ne (by decide), up2_ne (by decide), v9, c6]; rfl
        · rw [e']; simp [up2_app]
        · rw [e', up2_ne (by decide), up2_ne (by decide), e, up2_ne (by decide), up2_ne (by decide), v1]; rfl
        · rw [e', up2_ne (by decide), up2_ne (by decide), e, up2_ne (by decide), up2_ne (by decide), v2]
        · rw [e', up2_ne (by decide), up2_ne (by decide), e, up2_ne (by decide), up2_ne (by decide), v3]
      · refine hf s (p + 2) lt6 ?_ hRs hFs
        unfold pEn
        rw [if_pos c6]
        exact (if_pos d).trans (if_neg d2)
    · rw [kc] at e ⊢
      have w0 : s 250 k = -1 := by rw [e]; simp [up2_app]
      rw [w0]
      refine ⟨fun z => absurd z (by decide), fun _ => hf s (p + 1) lt6 ?_ (by rw [e]; exact hR.put (by decide)) (by rw [e]; exact hF5.put (by decide) (by omega) (by omega))⟩
      unfold pEn
      rw [if_pos c6]
      exact if_neg d
  · refine hf σ p lt6 ?_ h EFm.rf
    unfold pEn pRest
    rw [if_neg c6, if_neg c, if_neg c5, if_neg c2, if_neg c3, if_neg c4]
