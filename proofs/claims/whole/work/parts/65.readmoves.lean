/-- MOVES from p on, r of them at most: the place where it can't go on, or the place behind ";" and the rules (first, behind, kind, number, must) -/
def pMvs (t : Nat → Int32) (n : Nat) : Nat → Nat → Nat ⊕ (Nat × List (Nat × Nat × Int32 × Int32 × Int32))
  | 0, p => .inl p
  | r + 1, p => match pMv t n p with
    | .inl q => .inl q
    | .inr (q, kind, num) =>
      if ch t n (if ch t n q = 33 then q + 1 else q) = 59 then .inr ((if ch t n q = 33 then q + 1 else q) + 1, [(p, (if ch t n q = 33 then q + 1 else q), kind, num, (if ch t n q = 33 then 1 else 0))])
      else if ch t n (if ch t n q = 33 then q + 1 else q) = 44 then (match pMvs t n r ((if ch t n q = 33 then q + 1 else q) + 1) with
        | .inl z => .inl z
        | .inr (z, l) => .inr (z, (p, (if ch t n q = 33 then q + 1 else q), kind, num, (if ch t n q = 33 then 1 else 0)) :: l))
      else .inl (if ch t n q = 33 then q + 1 else q)
def MvIs (σ : GSt) (r : Nat) (e : Nat × Nat × Int32 × Int32 × Int32) : Prop := σ r 4 = nI e.1 ∧ σ r 5 = nI e.2.1 ∧ σ r 0 = e.2.2.1 ∧ σ r 1 = e.2.2.2.1 ∧ σ r 3 = e.2.2.2.2
theorem MvIs.row {σ σ' : GSt} {r : Nat} {e : Nat × Nat × Int32 × Int32 × Int32} (h : MvIs σ r e) (hr : σ' r = σ r) : MvIs σ' r e := by
  unfold MvIs at *
  rw [hr]
  exact h
/-- what reading MOVES from the k-th on leaves alone -/
def MF (i k : Nat) (σ σ' : GSt) : Prop := (∀ a, a ≠ 5 → a ≠ i → (∀ j, k ≤ j → j < 6 → a ≠ i + 10 + 2 * j) → σ' a = σ a) ∧ ∀ j, j ≠ 5 → σ' i j = σ i j
theorem MF.rf {i k : Nat} {σ : GSt} : MF i k σ σ := ⟨fun _ _ _ _ => rfl, fun _ _ => rfl⟩
theorem MF.trans {i k k' : Nat} {σ σ' σ'' : GSt} (h : MF i k σ σ') (h2 : MF i k' σ' σ'') (hk : k ≤ k') : MF i k σ σ'' := ⟨fun a h5 hi hj => (h2.1 a h5 hi (fun j h3 h4 => hj j (by omega) h4)).trans (h.1 a h5 hi hj), fun j hj => (h2.2 j hj).trans (h.2 j hj)⟩
theorem MF.place {i k : Nat} {σ σ' : GSt} {v : Int32} (h : MF i k σ σ') (hi : i ≠ 5) : MF i k σ (up2 σ' 5 2 v) := ⟨fun a h5 h6 hj => (up2_ne h5).trans (h.1 a h5 h6 hj), fun j hj => by rw [up2_ne hi]; exact h.2 j hj⟩
theorem MF.rule {i k m j : Nat} {σ σ' : GSt} {v : Int32} (h : MF i k σ σ') (hk : k ≤ m) (hm : m < 6) : MF i k σ (up2 σ' (i + 10 + 2 * m) j v) := ⟨fun a h5 h6 hj => (up2_ne (hj m hk hm)).trans (h.1 a h5 h6 hj), fun j hj => by rw [up2_ne (by omega)]; exact h.2 j hj⟩
theorem MF.count {i k : Nat} {σ σ' : GSt} {v : Int32} (h : MF i k σ σ') : MF i k σ (up2 σ' i 5 v) := ⟨fun a h5 h6 hj => (up2_ne h6).trans (h.1 a h5 h6 hj), fun j hj => by rw [up2_app, if_neg (by omega)]; exact h.2 j hj⟩
theorem MF.ofRF {i k m : Nat} {σ σ1 σ2 : GSt} (h : MF i k σ σ1) (hk : k ≤ m) (hm : m < 6) (h2 : RF (i + 10 + 2 * m) σ1 σ2) (hi : i ≠ 5) : MF i k σ σ2 := ⟨fun a h5 h6 hj => (h2.1 a h5 (hj m hk hm)).trans (h.1 a h5 h6 hj), fun j hj => by rw [h2.1 i hi (by omega)]; exact h.2 j hj⟩
theorem readMoves_loop {f i n : Nat} {t : Nat → Int32} {Q : Int32 → GSt → Prop} (hi5 : i ≠ 5) : ∀ (d k p : Nat) (σ : GSt), k + d = 6 → Rd f i n t p σ →
    (∀ (σ' : GSt) (z : Nat) (l : List (Nat × Nat × Int32 × Int32 × Int32)), pMvs t n d p = .inr (z, l) → Rd f i n t z σ' → MF i k σ σ' → (∀ j e, l[j]? = some e → MvIs σ' (i + 10 + 2 * (k + j)) e) → σ' i 5 = nI (k + l.length) → Q 1 σ') →
    (∀ (σ' : GSt) (z : Nat), pMvs t n d p = .inl z → Rd f i n t z σ' → MF i k σ σ' → Q 0 σ') → L_X6_readMoves_21 Q (d + 1) (nI k) σ := by
  intro d
  induction d with
  | zero =>
    intro k p σ hk h hs hf
    refine ⟨fun _ => hf σ p rfl h MF.rf, fun z => absurd ?_ z⟩
    rw [show k = 6 by omega]
    decide
  | succ d ih =>
    intro k p σ hk h hs hf
    refine ⟨fun z => absurd z (nI_ge (b := 6) (by omega) (by decide)), fun _ => ⟨h.gref.1, vp_in_nI (by omega) (by decide), ?_⟩⟩
    intro s1 e1
    have hrid : ((((σ 5 1).toNatClampNeg) + 8) + 2 + 2 * Int32.toNatClampNeg (nI k)) = i + 10 + 2 * k := by rw [h.gref.2, nI_clamp (by omega)]
    rw [hrid, h.1.2.2] at e1
    rw [hrid]
    obtain ⟨r, er⟩ : ∃ z, z = i + 10 + 2 * k := ⟨_, rfl⟩
    rw [← er] at e1 ⊢
    have hr1 : i ≤ r := by omega
    have hr2 : r < i + 22 := by omega
    have hri : r ≠ i := by omega
    have r5 : r ≠ 5 := (h.2.2.2 r hr1 hr2).2.2
    subst e1
    have hR1 := h.put (j := 4) (v := nI p) hr1 hr2
    have hM1 : MF i k σ (up2 σ r 4 (nI p)) := by rw [er]; exact MF.rf.rule (Nat.le_refl _) (by omega)
    refine readMove_ok hR1 hr1 hr2 (fun σ2 q kind num hpm hR2 hF2 hk0 hk1 => ⟨fun _ => ?_, fun z => absurd z (by decide)⟩) (fun σ2 q hpm hR2 hF2 => ⟨fun z => absurd rfl z, fun _ => ?_⟩)
    · have hM2 : MF i k σ σ2 := hM1.ofRF (m := k) (Nat.le_refl _) (by omega) (by rw [← er]; exact hF2) hi5
      have h4 : σ2 r 4 = nI p := by rw [hF2.2 4 (by decide) (by decide) (by decide), up2_app, if_pos ⟨rfl, rfl⟩]
      -- behind "!" or not
      have fin : ∀ (σ3 : GSt) (q2 : Nat) (m : Int32), (m = 0 ∨ m = 1) → q2 = (if ch t n q = 33 then q + 1 else q) → m = (if ch t n q = 33 then 1 else 0) → Rd f i n t q2 σ3 → MF i k σ σ3 → σ3 r = σ2 r → ((m = 0 ∨ m = 1) ∧ (∀ σ_6 : GSt, σ_6 = up2 σ3 r 3 m → (∀ σ_7 : GSt, σ_7 = up2 σ_6 r 5 (σ_6 5 2) → ((¬ σ_7 5 1 < 0 ∧ kd (σ_7 5 1).toNatClampNeg = 1) ∧ (∀ σ_8 : GSt, σ_8 = up2 σ_7 ((σ_7 5 1).toNatClampNeg) 5 (nI k + 1) → (D_X6_takes 59 σ_8 (fun r_9 σ_10 => (r_9 = 0 → D_X6_takes 44 σ_10 (fun r_11 σ_12 => (¬ r_11 = 0 → ∀ x1_13 : Int32, x1_13 = nI k + 1 → (L_X6_readMoves_21 Q (d + 1) x1_13 σ_12)) ∧ (r_11 = 0 → Q 0 σ_12))) ∧ (¬ r_9 = 0 → Q 1 σ_10)))))))) := by
        intro σ3 q2 m hm eq2 em hR3 hM3 hrow
        refine ⟨hm, ?_⟩
        intro s6 e6 s7 e7
        subst e6
        subst e7
        have hR6 := hR3.put (j := 3) (v := m) hr1 hr2
        rw [hR6.1.2.2]
        have hR7 := hR6.put (j := 5) (v := nI q2) hr1 hr2
        refine ⟨hR7.gref.1, ?_⟩
        rw [hR7.gref.2, nI_1 k]
        intro s8 e8
        have hR8 := hR7.put (a := i) (j := 5) (v := nI (k + 1)) (Nat.le_refl _) (by omega)
        rw [← e8] at hR8
        have hM8 : MF i k σ s8 := by
          rw [e8, er]
          exact ((hM3.rule (Nat.le_refl _) (by omega)).rule (Nat.le_refl _) (by omega)).count
        have hIs : MvIs s8 r (p, q2, kind, num, m) := by
          rw [e8]
          refine ⟨?_, ?_, ?_, ?_, ?_⟩ <;> simp [up2_app, hri, hrow, h4, hk0, hk1]
        have hc8 : s8 i 5 = nI (k + 1) := by rw [e8, up2_app, if_pos ⟨rfl, rfl⟩]
        refine takes_ok hR8 (by decide) (fun c hp => ⟨fun z => absurd z (by decide), fun _ => ?_⟩) (fun c => ⟨fun _ => ?_, fun z => absurd rfl z⟩)
        · refine hs _ (q2 + 1) [(p, q2, kind, num, m)] ?_ (hR8.step hp) (hM8.place hi5) ?_ ?_
          · simp only [pMvs, hpm]
            rw [← eq2, ← em, if_pos c]
          · intro j e he
            have hj : j < 1 := (List.getElem?_eq_some_iff.mp he).1
            rw [show j = 0 by omega] at he
            cases he
            rw [show i + 10 + 2 * (k + j) = r by omega]
            exact hIs.row (up2_ne r5)
          · rw [up2_ne hi5, hc8]
            rfl
        · refine takes_ok hR8 (by decide) (fun c2 hp => ⟨fun _ => ?_, fun z => absurd z (by decide)⟩) (fun c2 => ⟨fun z => absurd rfl z, fun _ => ?_⟩)
          · intro x ex
            subst ex
            refine ih (k + 1) (q2 + 1) _ (by omega) (hR8.step hp) (fun σ' z l hz hRz hMz hl hc => ?_) (fun σ' z hz hRz hMz => ?_)
            · refine hs σ' z ((p, q2, kind, num, m) :: l) ?_ hRz ((hM8.place hi5).trans hMz (by omega)) ?_ ?_
              · simp only [pMvs, hpm]
                rw [← eq2, ← em, if_neg c, if_pos c2, hz]
              · intro j e he
                cases j with
                | zero =>
                  cases he
                  rw [show i + 10 + 2 * (k + 0) = r by omega]
                  refine hIs.row ((hMz.1 r r5 hri (fun j h1 h2 => by omega)).trans (up2_ne r5))
                | succ j =>
                  have := hl j e he
                  rw [show i + 10 + 2 * (k + (j + 1)) = i + 10 + 2 * (k + 1 + j) by omega]
                  exact this
              · rw [hc]
                congr 1
                simp only [List.length_cons]
                omega
            · refine hf σ' z ?_ hRz ((hM8.place hi5).trans hMz (by omega))
              simp only [pMvs, hpm]
              rw [← eq2, if_neg c, if_pos c2, hz]
          · refine hf _ q2 ?_ hR8 hM8
            simp only [pMvs, hpm]
            rw [← eq2, if_neg c, if_neg c2]
      refine takes_ok hR2 (by decide) (fun c hp => ?_) (fun c => ?_)
      · exact fin _ (q + 1) 1 (Or.inr rfl) (by rw [if_pos c]) (by rw [if_pos c]) (hR2.step hp) (hM2.place hi5) (up2_ne r5)
      · exact fin _ q 0 (Or.inl rfl) (by rw [if_neg c]) (by rw [if_neg c]) hR2 hM2 rfl
    · have hM2 : MF i k σ σ2 := hM1.ofRF (m := k) (Nat.le_refl _) (by omega) (by rw [← er]; exact hF2) hi5
      refine hf σ2 q ?_ hR2 hM2
      simp only [pMvs, hpm]
