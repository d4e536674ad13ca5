/-- ENDS from p on, r of them at most: the place where it can't go on, or the place behind "." and the rules (first, behind, kind, number, outcome) -/
def pEns (t : Nat → Int32) (n : Nat) : Nat → Nat → Nat ⊕ (Nat × List (Nat × Nat × Int32 × Int32 × Int32))
  | 0, p => .inl p
  | r + 1, p => match pEn t n p with
    | .inl q => .inl q
    | .inr (q, kind, num, out) =>
      if ch t n q = 46 then .inr (q + 1, [(p, q, kind, num, out)])
      else if ch t n q = 44 then (match pEns t n r (q + 1) with
        | .inl z => .inl z
        | .inr (z, l) => .inr (z, (p, q, kind, num, out) :: l))
      else .inl q
def EnIs (σ : GSt) (r : Nat) (e : Nat × Nat × Int32 × Int32 × Int32) : Prop := σ r 4 = nI e.1 ∧ σ r 5 = nI e.2.1 ∧ σ r 0 = e.2.2.1 ∧ σ r 1 = e.2.2.2.1 ∧ σ r 2 = e.2.2.2.2
theorem EnIs.row {σ σ' : GSt} {r : Nat} {e : Nat × Nat × Int32 × Int32 × Int32} (h : EnIs σ r e) (hr : σ' r = σ r) : EnIs σ' r e := by
  unfold EnIs at *
  rw [hr]
  exact h
/-- what reading ENDS from the k-th on leaves alone -/
def EF (i k : Nat) (σ σ' : GSt) : Prop := (∀ a, a ≠ 5 → a ≠ i → (∀ j, k ≤ j → j < 6 → a ≠ i + 11 + 2 * j) → σ' a = σ a) ∧ ∀ j, j ≠ 7 → σ' i j = σ i j
theorem EF.rf {i k : Nat} {σ : GSt} : EF i k σ σ := ⟨fun _ _ _ _ => rfl, fun _ _ => rfl⟩
theorem EF.trans {i k k' : Nat} {σ σ' σ'' : GSt} (h : EF i k σ σ') (h2 : EF i k' σ' σ'') (hk : k ≤ k') : EF i k σ σ'' := ⟨fun a h5 hi hj => (h2.1 a h5 hi (fun j h3 h4 => hj j (by omega) h4)).trans (h.1 a h5 hi hj), fun j hj => (h2.2 j hj).trans (h.2 j hj)⟩
theorem EF.place {i k : Nat} {σ σ' : GSt} {v : Int32} (h : EF i k σ σ') (hi : i ≠ 5) : EF i k σ (up2 σ' 5 2 v) := ⟨fun a h5 h6 hj => (up2_ne h5).trans (h.1 a h5 h6 hj), fun j hj => by rw [up2_ne hi]; exact h.2 j hj⟩
theorem EF.rule {i k m j : Nat} {σ σ' : GSt} {v : Int32} (h : EF i k σ σ') (hk : k ≤ m) (hm : m < 6) : EF i k σ (up2 σ' (i + 11 + 2 * m) j v) := ⟨fun a h5 h6 hj => (up2_ne (hj m hk hm)).trans (h.1 a h5 h6 hj), fun j hj => by rw [up2_ne (by omega)]; exact h.2 j hj⟩
theorem EF.count {i k : Nat} {σ σ' : GSt} {v : Int32} (h : EF i k σ σ') : EF i k σ (up2 σ' i 7 v) := ⟨fun a h5 h6 hj => (up2_ne h6).trans (h.1 a h5 h6 hj), fun j hj => by rw [up2_app, if_neg (by omega)]; exact h.2 j hj⟩
theorem EF.ofRF {i k m : Nat} {σ σ1 σ2 : GSt} (h : EF i k σ σ1) (hk : k ≤ m) (hm : m < 6) (h2 : RF (i + 11 + 2 * m) σ1 σ2) (hi : i ≠ 5) : EF i k σ σ2 := ⟨fun a h5 h6 hj => (h2.1 a h5 (hj m hk hm)).trans (h.1 a h5 h6 hj), fun j hj => by rw [h2.1 i hi (by omega)]; exact h.2 j hj⟩
theorem readEnds_loop {f i n : Nat} {t : Nat → Int32} {Q : Int32 → GSt → Prop} (hi5 : i ≠ 5) : ∀ (d k p : Nat) (σ : GSt), k + d = 6 → Rd f i n t p σ →
    (∀ (σ' : GSt) (z : Nat) (l : List (Nat × Nat × Int32 × Int32 × Int32)), pEns t n d p = .inr (z, l) → Rd f i n t z σ' → EF i k σ σ' → (∀ j e, l[j]? = some e → EnIs σ' (i + 11 + 2 * (k + j)) e) → σ' i 7 = nI (k + l.length) → Q 1 σ') →
    (∀ (σ' : GSt) (z : Nat), pEns t n d p = .inl z → Rd f i n t z σ' → EF i k σ σ' → Q 0 σ') → L_X6_readEnds_21 Q (d + 1) (nI k) σ := by
  intro d
  induction d with
  | zero =>
    intro k p σ hk h hs hf
    refine ⟨fun _ => hf σ p rfl h EF.rf, fun z => absurd ?_ z⟩
    rw [show k = 6 by omega]
    decide
  | succ d ih =>
    intro k p σ hk h hs hf
    refine ⟨fun z => absurd z (nI_ge (b := 6) (by omega) (by decide)), fun _ => ⟨h.gref.1, vp_in_nI (by omega) (by decide), ?_⟩⟩
    intro s1 e1
    have hrid : ((((σ 5 1).toNatClampNeg) + 9) + 2 + 2 * Int32.toNatClampNeg (nI k)) = i + 11 + 2 * k := by rw [h.gref.2, nI_clamp (by omega)]
    rw [hrid, h.1.2.2] at e1
    rw [hrid]
    obtain ⟨r, er⟩ : ∃ z, z = i + 11 + 2 * k := ⟨_, rfl⟩
    rw [← er] at e1 ⊢
    have hr1 : i ≤ r := by omega
    have hr2 : r < i + 22 := by omega
    have hri : r ≠ i := by omega
    have r5 : r ≠ 5 := (h.2.2.2 r hr1 hr2).2.2
    subst e1
    have hR1 := h.put (j := 4) (v := nI p) hr1 hr2
    have hM1 : EF i k σ (up2 σ r 4 (nI p)) := by rw [er]; exact EF.rf.rule (Nat.le_refl _) (by omega)
    refine readEnd_ok hR1 hr1 hr2 (fun σ2 q kind num out hpm hR2 hF2 hk0 hk1 hk2 => ⟨fun _ => ?_, fun z => absurd z (by decide)⟩) (fun σ2 q hpm hR2 hF2 => ⟨fun z => absurd rfl z, fun _ => ?_⟩)
    · have hM2 : EF i k σ σ2 := hM1.ofRF (m := k) (Nat.le_refl _) (by omega) (by rw [← er]; exact hF2) hi5
      have h4 : σ2 r 4 = nI p := by rw [hF2.2 4 (by decide) (by decide) (by decide), up2_app, if_pos ⟨rfl, rfl⟩]
      intro s7 e7
      subst e7
      rw [hR2.1.2.2]
      have hR7 := hR2.put (j := 5) (v := nI q) hr1 hr2
      refine ⟨hR7.gref.1, ?_⟩
      rw [hR7.gref.2, nI_1 k]
      intro s8 e8
      have hR8 := hR7.put (a := i) (j := 7) (v := nI (k + 1)) (Nat.le_refl _) (by omega)
      rw [← e8] at hR8
      have hM8 : EF i k σ s8 := by
        rw [e8, er]
        exact (hM2.rule (Nat.le_refl _) (by omega)).count
      have hIs : EnIs s8 r (p, q, kind, num, out) := by
        rw [e8]
        refine ⟨?_, ?_, ?_, ?_, ?_⟩ <;> simp [up2_app, hri, h4, hk0, hk1, hk2]
      have hc8 : s8 i 7 = nI (k + 1) := by rw [e8, up2_app, if_pos ⟨rfl, rfl⟩]
      refine takes_ok hR8 (by decide) (fun c hp => ⟨fun z => absurd z (by decide), fun _ => ?_⟩) (fun c => ⟨fun _ => ?_, fun z => absurd rfl z⟩)
      · refine hs _ (q + 1) [(p, q, kind, num, out)] ?_ (hR8.step hp) (hM8.place hi5) ?_ ?_
        · simp only [pEns, hpm]
          rw [if_pos c]
        · intro j e he
          have hj : j < 1 := (List.getElem?_eq_some_iff.mp he).1
          rw [show j = 0 by omega] at he
          cases he
          rw [show i + 11 + 2 * (k + j) = r by omega]
          exact hIs.row (up2_ne r5)
        · rw [up2_ne hi5, hc8]
          rfl
      · refine takes_ok hR8 (by decide) (fun c2 hp => ⟨fun _ => ?_, fun z => absurd z (by decide)⟩) (fun c2 => ⟨fun z => absurd rfl z, fun _ => ?_⟩)
        · intro x ex
          subst ex
          refine ih (k + 1) (q + 1) _ (by omega) (hR8.step hp) (fun σ' z l hz hRz hMz hl hc => ?_) (fun σ' z hz hRz hMz => ?_)
          · refine hs σ' z ((p, q, kind, num, out) :: l) ?_ hRz ((hM8.place hi5).trans hMz (by omega)) ?_ ?_
            · simp only [pEns, hpm]
              rw [if_neg c, if_pos c2, hz]
            · intro j e he
              cases j with
              | zero =>
                cases he
                rw [show i + 11 + 2 * (k + 0) = r by omega]
                refine hIs.row ((hMz.1 r r5 hri (fun j h1 h2 => by omega)).trans (up2_ne r5))
              | succ j =>
                have := hl j e he
                rw [show i + 11 + 2 * (k + (j + 1)) = i + 11 + 2 * (k + 1 + j) by omega]
                exact this
            · rw [hc]
              congr 1
              simp only [List.length_cons]
              omega
          · refine hf σ' z ?_ hRz ((hM8.place hi5).trans hMz (by omega))
            simp only [pEns, hpm]
            rw [if_neg c, if_pos c2, hz]
        · refine hf _ q ?_ hR8 hM8
          simp only [pEns, hpm]
          rw [if_neg c, if_neg c2]
    · have hM2 : EF i k σ σ2 := hM1.ofRF (m := k) (Nat.le_refl _) (by omega) (by rw [← er]; exact hF2) hi5
      refine hf σ2 q ?_ hR2 hM2
      simp only [pEns, hpm]
