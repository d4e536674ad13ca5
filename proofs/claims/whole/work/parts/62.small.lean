/-- how many of f k, f (k+1) .. (d of them) hold -/
def cntF (f : Nat → Bool) : Nat → Nat → Nat
  | 0, _ => 0
  | d + 1, k => (if f k then 1 else 0) + cntF f d (k + 1)
theorem cntF_congr {f g : Nat → Bool} : ∀ (d k : Nat), (∀ j, k ≤ j → j < k + d → f j = g j) → cntF f d k = cntF g d k
  | 0, _, _ => rfl
  | d + 1, k, h => by
    unfold cntF
    rw [h k (Nat.le_refl _) (by omega), cntF_congr d (k + 1) (fun j h1 h2 => h j (by omega) (by omega))]
theorem taken_ok {σ : GSt} {Q : Int32 → GSt → Prop} (h : Q (nI (cntF (fun k => decide (¬ σ 58 k = -9)) 13 4)) σ) : D_X10_nichesTaken σ Q := by
  refine ⟨14, ?_⟩
  have key : ∀ (d k t : Nat), k + d = 17 → (Q (nI (t + cntF (fun k => decide (¬ σ 58 k = -9)) d k)) σ) → L_X10_nichesTaken_4 Q (d + 1) (nI t) (nI k) σ := by
    intro d
    induction d with
    | zero =>
      intro k t hk hQ
      refine ⟨fun _ => hQ, fun q => absurd ?_ q⟩
      rw [show k = 17 by omega]
      decide
    | succ d ih =>
      intro k t hk hQ
      refine ⟨fun q => absurd q (nI_nlt (a := 16) (by omega) (by decide)), fun _ => ⟨vp_in_nI (by omega) (by decide), fun q => ?_, fun q => ?_⟩⟩
      · intro x ex
        subst ex
        rw [nI_1 k]
        rw [nI_clamp (by omega)] at q
        refine ih (k + 1) t (by omega) ?_
        unfold cntF at hQ
        simp only [q, not_true_eq_false, decide_false, Bool.false_eq_true, if_false, Nat.zero_add] at hQ
        exact hQ
      · intro y ey
        subst ey
        intro x ex
        subst ex
        rw [nI_1 k, nI_1 t]
        rw [nI_clamp (by omega)] at q
        refine ih (k + 1) (t + 1) (by omega) ?_
        unfold cntF at hQ
        simp only [q, not_false_eq_true, decide_true, if_true] at hQ
        rw [show t + 1 + cntF (fun k => decide (¬ σ 58 k = -9)) d (k + 1) = t + (1 + cntF (fun k => decide (¬ σ 58 k = -9)) d (k + 1)) by omega]
        exact hQ
  exact key 13 4 0 rfl (by rw [Nat.zero_add]; exact h)
theorem takenM_ok {σ : GSt} {Q : Int32 → GSt → Prop} (h : Q (nI (cntF (fun k => decide (¬ σ 277 k = -9)) 13 4)) σ) : ∃ n : Nat, L_X11_count_85 Q n 0 4 σ := by
  refine ⟨14, ?_⟩
  have key : ∀ (d k t : Nat), k + d = 17 → (Q (nI (t + cntF (fun k => decide (¬ σ 277 k = -9)) d k)) σ) → L_X11_count_85 Q (d + 1) (nI t) (nI k) σ := by
    intro d
    induction d with
    | zero =>
      intro k t hk hQ
      refine ⟨fun _ => hQ, fun q => absurd ?_ q⟩
      rw [show k = 17 by omega]
      decide
    | succ d ih =>
      intro k t hk hQ
      refine ⟨fun q => absurd q (nI_ge (b := 17) (by omega) (by decide)), fun _ => ⟨vp_in_nI (by omega) (by decide), fun q => ?_, fun q => ?_⟩⟩
      · intro y ey
        subst ey
        intro x ex
        subst ex
        rw [nI_1 k, nI_1 t]
        rw [nI_clamp (by omega)] at q
        refine ih (k + 1) (t + 1) (by omega) ?_
        unfold cntF at hQ
        simp only [q, not_false_eq_true, decide_true, if_true] at hQ
        rw [show t + 1 + cntF (fun k => decide (¬ σ 277 k = -9)) d (k + 1) = t + (1 + cntF (fun k => decide (¬ σ 277 k = -9)) d (k + 1)) by omega]
        exact hQ
      · intro y ey
        subst ey
        intro x ex
        subst ex
        rw [nI_1 k, show nI t + 0 = nI t by simp]
        rw [nI_clamp (by omega)] at q
        refine ih (k + 1) t (by omega) ?_
        unfold cntF at hQ
        simp only [q, not_true_eq_false, decide_false, Bool.false_eq_true, if_false, Nat.zero_add] at hQ
        exact hQ
  exact key 13 4 0 rfl (by rw [Nat.zero_add]; exact h)
theorem count_step {σ : GSt} {x1 : Int32} {Inv : GSt → Prop} (hN : InvN σ) (hR : InvR σ) (hg : σ 0 4 = σ 237 20) (ht : σ 1 1 = σ 237 19) (hp0 : σ 53 3 = 0 ↔ ¬ 0 ≤ σ 237 41) (hp1 : ¬ σ 53 3 = 0 → σ 54 3 = σ 237 42) (hI : Inv σ) : D_X10_count x1 σ (fun r1 σ1 => D_X11_count x1 σ1 (fun r2 σ2 => r1 = r2 ∧ Inv σ2)) := by
  unfold D_X10_count D_X10_count_0 D_X11_count D_X11_count_0
  have small : ¬ (11 ≤ x1 ∧ x1 ≤ 16) → D_X10_count_22 (fun r1 σ1 => D_X11_isIn (Int32.toInt64 x1) 11 16 σ1 (fun r_1 σ_2 => (r_1 = 0 → ((x1 < 0 ∨ 3 < x1) → (fun r2 σ2 => r1 = r2 ∧ Inv σ2) (-9) σ_2) ∧ (x1 = 0 → (fun r2 σ2 => r1 = r2 ∧ Inv σ2) (σ_2 237 20) σ_2) ∧ (x1 = 1 → (fun r2 σ2 => r1 = r2 ∧ Inv σ2) (σ_2 237 19) σ_2) ∧ (x1 = 2 → (0 ≤ (σ_2 237 41) → (fun r2 σ2 => r1 = r2 ∧ Inv σ2) (σ_2 237 42) σ_2) ∧ (¬ 0 ≤ (σ_2 237 41) → (fun r2 σ2 => r1 = r2 ∧ Inv σ2) (-9) σ_2)) ∧ (x1 = 3 → ∃ n : Nat, L_X11_count_85 (fun r2 σ2 => r1 = r2 ∧ Inv σ2) n 0 4 σ_2)) ∧ (¬ r_1 = 0 → vp_in (x1 - 10) 7 ∧ ((fun r2 σ2 => r1 = r2 ∧ Inv σ2) (σ_2 238 (Int32.toNatClampNeg (x1 - 10))) σ_2)))) x1 σ := by
    intro hs
    refine ⟨fun q => ?_, fun q => ?_, fun q => ?_, fun q => ⟨fun r => ?_, fun r => ?_⟩, fun q => ?_⟩
    · refine isIn_ok (lo := 11) (hi := 16) rfl rfl (fun a b => absurd ⟨a, b⟩ hs) (fun _ => ⟨fun _ => ⟨fun _ => ⟨rfl, hI⟩, fun t => ?_, fun t => ?_, fun t => ?_, fun t => ?_⟩, fun t => absurd rfl t⟩) <;> (subst t; exact absurd q (by decide))
    · subst q
      refine isIn_ok (lo := 11) (hi := 16) rfl rfl (fun a b => absurd ⟨a, b⟩ hs) (fun _ => ⟨fun _ => ⟨fun t => absurd t (by decide), fun _ => ⟨hg, hI⟩, fun t => absurd t (by decide), fun t => absurd t (by decide), fun t => absurd t (by decide)⟩, fun t => absurd rfl t⟩)
    · subst q
      refine isIn_ok (lo := 11) (hi := 16) rfl rfl (fun a b => absurd ⟨a, b⟩ hs) (fun _ => ⟨fun _ => ⟨fun t => absurd t (by decide), fun t => absurd t (by decide), fun _ => ⟨ht, hI⟩, fun t => absurd t (by decide), fun t => absurd t (by decide)⟩, fun t => absurd rfl t⟩)
    · subst q
      refine isIn_ok (lo := 11) (hi := 16) rfl rfl (fun a b => absurd ⟨a, b⟩ hs) (fun _ => ⟨fun _ => ⟨fun t => absurd t (by decide), fun t => absurd t (by decide), fun t => absurd t (by decide), fun _ => ⟨fun t => absurd t (hp0.mp r), fun _ => ⟨rfl, hI⟩⟩, fun t => absurd t (by decide)⟩, fun t => absurd rfl t⟩)
    · subst q
      refine isIn_ok (lo := 11) (hi := 16) rfl rfl (fun a b => absurd ⟨a, b⟩ hs) (fun _ => ⟨fun _ => ⟨fun t => absurd t (by decide), fun t => absurd t (by decide), fun t => absurd t (by decide), fun _ => ⟨fun _ => ⟨hp1 r, hI⟩, fun t => absurd (hp0.mpr t) r⟩, fun t => absurd t (by decide)⟩, fun t => absurd rfl t⟩)
    · subst q
      refine taken_ok ?_
      refine isIn_ok (lo := 11) (hi := 16) rfl rfl (fun a b => absurd ⟨a, b⟩ hs) (fun _ => ⟨fun _ => ⟨fun t => absurd t (by decide), fun t => absurd t (by decide), fun t => absurd t (by decide), fun t => absurd t (by decide), fun _ => takenM_ok ⟨?_, hI⟩⟩, fun t => absurd rfl t⟩)
      congr 1
      exact cntF_congr 13 4 (fun j h1 h2 => by rw [(hN j (by omega)).1])
  refine ⟨fun q => small (fun t => absurd t.1 (Int32.not_le.mpr q)), fun q => ⟨fun r => small (fun t => absurd t.2 (Int32.not_le.mpr r)), fun r => ?_⟩⟩
  have h11 := i32_nlt q
  have h16 := i32_nlt r
  obtain ⟨k, hk, rfl⟩ := i32_of (n := 16) (by decide) (by rw [i32_le] at *; have e : (11 : Int32).toInt = 11 := rfl; have e2 : (0 : Int32).toInt = 0 := rfl; omega) h16
  have hk11 : 11 ≤ k := by
    rcases Nat.lt_or_ge k 11 with h | h
    · exact absurd h11 (nI_ge (b := 11) h (by decide))
    · exact h
  have e10 : nI k - 10 = nI (k - 10) := pk_sub (a := k) (b := 10) (by omega)
  have hv : vp_in (nI k - 10) 7 := by rw [e10]; exact vp_in_nI (by omega) (by decide)
  refine ⟨hv, isIn_ok (lo := 11) (hi := 16) rfl rfl (fun _ _ => ⟨fun t => absurd t (by decide), fun _ => ⟨hv, ?_, hI⟩⟩) (fun t => absurd ⟨h11, h16⟩ t)⟩
  rw [e10, nI_clamp (by omega)]
  exact hR _ (by omega)
