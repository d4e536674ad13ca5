def pBgs (t : Nat → Int32) (n : Nat) : Nat → Nat → Nat → Int32 → Int32 → Nat ⊕ (Nat × Int32 × Int32)
  | 0, _, p, a, b => if ch t n p = 59 then .inr (p + 1, a, b) else .inl p
  | d + 1, c, p, a, b => if ch t n p = 97 then pBgs t n d (c + 1) (p + 1) (a ||| jshl 1 (nI c)) b else if ch t n p = 98 then pBgs t n d (c + 1) (p + 1) a (b ||| jshl 1 (nI c)) else if ch t n p = 120 then pBgs t n d (c + 1) (p + 1) a b else .inl p
/-- BEGIN at p on a board of so many cells: the place where it can't go on, or the place behind it and the pieces of both -/
def pBg (t : Nat → Int32) (n cells p : Nat) : Nat ⊕ (Nat × Int32 × Int32) := if ch t n p = 105 then pBgs t n cells 0 (p + 1) 0 0 else .inr (p, 0, 0)
def BF (i : Nat) (σ σ' : GSt) : Prop := (∀ a, a ≠ 5 → a ≠ i → σ' a = σ a) ∧ ∀ j, j ≠ 2 → j ≠ 3 → σ' i j = σ i j
theorem BF.rf {i : Nat} {σ : GSt} : BF i σ σ := ⟨fun _ _ _ => rfl, fun _ _ _ => rfl⟩
theorem BF.place {i : Nat} {σ σ' : GSt} {v : Int32} (h : BF i σ σ') (hi : i ≠ 5) : BF i σ (up2 σ' 5 2 v) := ⟨fun a h5 h6 => (up2_ne h5).trans (h.1 a h5 h6), fun j h2 h3 => by rw [up2_ne hi]; exact h.2 j h2 h3⟩
theorem BF.slot {i k : Nat} {σ σ' : GSt} {v : Int32} (h : BF i σ σ') (hk : k = 2 ∨ k = 3) : BF i σ (up2 σ' i k v) := ⟨fun a h5 h6 => (up2_ne h6).trans (h.1 a h5 h6), fun j h2 h3 => by rw [up2_app, if_neg (by omega)]; exact h.2 j h2 h3⟩
theorem readBegin_loop {f i n cells : Nat} {t : Nat → Int32} {σ0 : GSt} {Q : Int32 → GSt → Prop} (hi5 : i ≠ 5) (hc16 : cells ≤ 16) (hcells : σ0 (i + 3) 2 = nI cells) : ∀ (d c p : Nat) (a b : Int32) (σ : GSt), c + d = cells → Rd f i n t p σ → BF i σ0 σ → σ i 2 = a → σ i 3 = b →
    (∀ (σ' : GSt) (z : Nat) (a' b' : Int32), pBgs t n d c p a b = .inr (z, a', b') → Rd f i n t z σ' → BF i σ0 σ' → σ' i 2 = a' → σ' i 3 = b' → Q 1 σ') →
    (∀ (σ' : GSt) (z : Nat), pBgs t n d c p a b = .inl z → Rd f i n t z σ' → BF i σ0 σ' → Q 0 σ') → L_X6_readBegin_29 Q (d + 1) (nI c) σ := by
  intro d
  induction d with
  | zero =>
    intro c p a b σ hc h hB ha hb hs hf
    refine ⟨h.gref.1, ?_⟩
    rw [h.gref.2, hB.1 (i + 3) (by have := (h.2.2.2 (i + 3) (by omega) (by omega)).2.2; exact this) (by omega), hcells]
    refine ⟨fun _ => ?_, fun z => absurd (nI_le (by omega) (by omega)) z⟩
    refine takes_ok h (by decide) (fun q hp => ⟨Or.inr rfl, ?_⟩) (fun q => ⟨Or.inl rfl, ?_⟩)
    · exact hs _ (p + 1) a b (if_pos q) (h.step hp) (hB.place hi5) (by rw [up2_ne hi5]; exact ha) (by rw [up2_ne hi5]; exact hb)
    · exact hf _ p (if_neg q) h hB
  | succ d ih =>
    intro c p a b σ hc h hB ha hb hs hf
    refine ⟨h.gref.1, ?_⟩
    rw [h.gref.2, hB.1 (i + 3) (by have := (h.2.2.2 (i + 3) (by omega) (by omega)).2.2; exact this) (by omega), hcells]
    refine ⟨fun z => absurd z (nI_ge (by omega) (by omega)), fun _ => ?_⟩
    refine takes_ok h (by decide) (fun q hp => ⟨fun z => absurd z (by decide), fun _ => ?_⟩) (fun q => ⟨fun _ => ?_, fun z => absurd rfl z⟩)
    · have hR := h.step hp
      refine ⟨hR.gref.1, ?_⟩
      rw [hR.gref.2, up2_ne hi5, ha]
      intro s e x ex
      subst e
      subst ex
      rw [nI_1 c]
      refine ih (c + 1) (p + 1) (a ||| jshl 1 (nI c)) b _ (by omega) (hR.put (Nat.le_refl _) (by omega)) ((hB.place hi5).slot (Or.inl rfl)) (by simp [up2_app]) (by rw [up2_app, if_neg (by omega), up2_ne hi5]; exact hb) (fun σ' z a' b' hz => hs σ' z a' b' ((if_pos q).trans hz)) (fun σ' z hz => hf σ' z ((if_pos q).trans hz))
    · refine takes_ok h (by decide) (fun q2 hp => ⟨fun z => absurd z (by decide), fun _ => ?_⟩) (fun q2 => ⟨fun _ => ?_, fun z => absurd rfl z⟩)
      · have hR := h.step hp
        refine ⟨hR.gref.1, ?_⟩
        rw [hR.gref.2, up2_ne hi5, hb]
        intro s e x ex
        subst e
        subst ex
        rw [nI_1 c]
        refine ih (c + 1) (p + 1) a (b ||| jshl 1 (nI c)) _ (by omega) (hR.put (Nat.le_refl _) (by omega)) ((hB.place hi5).slot (Or.inr rfl)) (by rw [up2_app, if_neg (by omega), up2_ne hi5]; exact ha) (by simp [up2_app]) (fun σ' z a' b' hz => hs σ' z a' b' ((if_neg q).trans ((if_pos q2).trans hz))) (fun σ' z hz => hf σ' z ((if_neg q).trans ((if_pos q2).trans hz)))
      · refine takes_ok h (by decide) (fun q3 hp => ⟨fun _ => ?_, fun z => absurd z (by decide)⟩) (fun q3 => ⟨fun z => absurd rfl z, fun _ => ?_⟩)
        · intro x ex
          subst ex
          rw [nI_1 c]
          exact ih (c + 1) (p + 1) a b _ (by omega) (h.step hp) (hB.place hi5) (by rw [up2_ne hi5]; exact ha) (by rw [up2_ne hi5]; exact hb) (fun σ' z a' b' hz => hs σ' z a' b' ((if_neg q).trans ((if_neg q2).trans ((if_pos q3).trans hz)))) (fun σ' z hz => hf σ' z ((if_neg q).trans ((if_neg q2).trans ((if_pos q3).trans hz))))
        · exact hf _ p ((if_neg q).trans ((if_neg q2).trans (if_neg q3))) h hB
theorem readBegin_ok {f i n cells p : Nat} {t : Nat → Int32} {σ : GSt} {Q : Int32 → GSt → Prop} (hi5 : i ≠ 5) (hc16 : cells ≤ 16) (hcells : σ (i + 3) 2 = nI cells) (h : Rd f i n t p σ)
    (hs : ∀ (σ' : GSt) (z : Nat) (a b : Int32), pBg t n cells p = .inr (z, a, b) → Rd f i n t z σ' → BF i σ σ' → σ' i 2 = a → σ' i 3 = b → Q 1 σ') (hf : ∀ (σ' : GSt) (z : Nat), pBg t n cells p = .inl z → Rd f i n t z σ' → BF i σ σ' → Q 0 σ') : D_X6_readBegin σ Q := by
  refine ⟨h.gref.1, ?_⟩
  rw [h.gref.2]
  intro s1 e1
  have hR1 := h.put (a := i) (j := 2) (v := 0) (Nat.le_refl _) (by omega)
  rw [← e1] at hR1
  refine ⟨hR1.gref.1, ?_⟩
  rw [hR1.gref.2]
  intro s2 e2
  have hR2 := hR1.put (a := i) (j := 3) (v := 0) (Nat.le_refl _) (by omega)
  rw [← e2] at hR2
  have hB : BF i σ s2 := by
    rw [e2, e1]
    exact (BF.rf.slot (Or.inl rfl)).slot (Or.inr rfl)
  have ha : s2 i 2 = 0 := by rw [e2, e1]; simp [up2_app]
  have hb : s2 i 3 = 0 := by rw [e2]; simp [up2_app]
  refine takes_ok hR2 (by decide) (fun q hp => ⟨fun _ => ⟨cells + 1, ?_⟩, fun z => absurd z (by decide)⟩) (fun q => ⟨fun z => absurd rfl z, fun _ => ?_⟩)
  · exact readBegin_loop (σ0 := σ) hi5 hc16 hcells cells 0 (p + 1) 0 0 _ (by omega) (hR2.step hp) (hB.place hi5) (by rw [up2_ne hi5]; exact ha) (by rw [up2_ne hi5]; exact hb) (fun σ' z a b hz => hs σ' z a b ((if_pos q).trans hz)) (fun σ' z hz => hf σ' z ((if_pos q).trans hz))
  · exact hs _ p 0 0 (if_neg q) hR2 hB ha hb
theorem readMoves_ok {f i n p : Nat} {t : Nat → Int32} {σ : GSt} {Q : Int32 → GSt → Prop} (hi5 : i ≠ 5) (h : Rd f i n t p σ)
    (hs : ∀ (σ' : GSt) (z : Nat) (l : List (Nat × Nat × Int32 × Int32 × Int32)), pMvs t n 6 p = .inr (z, l) → Rd f i n t z σ' → MF i 0 (up2 σ i 8 (nI p)) σ' → (∀ j e, l[j]? = some e → MvIs σ' (i + 10 + 2 * j) e) → σ' i 5 = nI l.length → Q 1 σ') (hf : ∀ (σ' : GSt) (z : Nat), pMvs t n 6 p = .inl z → Rd f i n t z σ' → MF i 0 (up2 σ i 8 (nI p)) σ' → Q 0 σ') : D_X6_readMoves σ Q := by
  refine ⟨h.gref.1, ?_⟩
  rw [h.gref.2, h.1.2.2]
  intro s1 e1
  have hR1 := h.put (a := i) (j := 8) (v := nI p) (Nat.le_refl _) (by omega)
  rw [← e1] at hR1
  refine ⟨hR1.gref.1, ?_⟩
  rw [hR1.gref.2]
  intro s2 e2
  have hR2 := hR1.put (a := i) (j := 5) (v := 0) (Nat.le_refl _) (by omega)
  rw [← e2] at hR2
  have hM : MF i 0 (up2 σ i 8 (nI p)) s2 := by
    rw [e2, e1]
    exact MF.rf.count
  refine ⟨7, readMoves_loop hi5 6 0 p s2 rfl hR2 (fun σ' z l hz hRz hMz hl hc => hs σ' z l hz hRz (hM.trans hMz (Nat.le_refl _)) (fun j e he => by have := hl j e he; rw [Nat.zero_add] at this; exact this) (by rw [hc, Nat.zero_add])) (fun σ' z hz hRz hMz => hf σ' z hz hRz (hM.trans hMz (Nat.le_refl _)))⟩
theorem readEnds_ok {f i n p : Nat} {t : Nat → Int32} {σ : GSt} {Q : Int32 → GSt → Prop} (hi5 : i ≠ 5) (h : Rd f i n t p σ)
    (hs : ∀ (σ' : GSt) (z : Nat) (l : List (Nat × Nat × Int32 × Int32 × Int32)), pEns t n 6 p = .inr (z, l) → Rd f i n t z σ' → EF i 0 (up2 σ i 9 (nI p)) σ' → (∀ j e, l[j]? = some e → EnIs σ' (i + 11 + 2 * j) e) → σ' i 7 = nI l.length → Q 1 σ') (hf : ∀ (σ' : GSt) (z : Nat), pEns t n 6 p = .inl z → Rd f i n t z σ' → EF i 0 (up2 σ i 9 (nI p)) σ' → Q 0 σ') : D_X6_readEnds σ Q := by
  refine ⟨h.gref.1, ?_⟩
  rw [h.gref.2, h.1.2.2]
  intro s1 e1
  have hR1 := h.put (a := i) (j := 9) (v := nI p) (Nat.le_refl _) (by omega)
  rw [← e1] at hR1
  refine ⟨hR1.gref.1, ?_⟩
  rw [hR1.gref.2]
  intro s2 e2
  have hR2 := hR1.put (a := i) (j := 7) (v := 0) (Nat.le_refl _) (by omega)
  rw [← e2] at hR2
  have hM : EF i 0 (up2 σ i 9 (nI p)) s2 := by
    rw [e2, e1]
    exact EF.rf.count
  refine ⟨7, readEnds_loop hi5 6 0 p s2 rfl hR2 (fun σ' z l hz hRz hMz hl hc => hs σ' z l hz hRz (hM.trans hMz (Nat.le_refl _)) (fun j e he => by have := hl j e he; rw [Nat.zero_add] at this; exact this) (by rw [hc, Nat.zero_add])) (fun σ' z hz hRz hMz => hf σ' z hz hRz (hM.trans hMz (Nat.le_refl _)))⟩
