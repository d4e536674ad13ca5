theorem lnF_row {σ : GSt} {o w h c a : Nat} (h1 : a ≠ o + 1) (h2 : a ≠ o + 2) : lnF σ o w h c a = σ a := by
  unfold lnF
  rw [up2_ne h2, up2_ne h2, up2_ne h2, lnS_row h1]
theorem lnF_nx {σ : GSt} {o w h c : Nat} (j : Nat) : lnF σ o w h c (o + 1) j = if 8 * c ≤ j ∧ j < 8 * c + 8 then nbI w h c (j - 8 * c) else σ (o + 1) j := by
  unfold lnF
  rw [up2_ne (by omega), up2_ne (by omega), up2_ne (by omega), lnS_at]
theorem lnF_nr {σ : GSt} {o w h c : Nat} (j : Nat) : lnF σ o w h c (o + 2) j = if j = 48 + c then strM w h c 8 ||| aslM w h c 8 else if j = 32 + c then aslM w h c 8 else if j = 16 + c then strM w h c 8 else σ (o + 2) j := by
  unfold lnF
  simp only [up2_app, true_and]
  rw [lnS_row (by omega)]
def lnAll (σ : GSt) (o w h : Nat) : Nat → GSt
  | 0 => σ
  | c + 1 => lnF (lnAll σ o w h c) o w h c
theorem lnAll_row {σ : GSt} {o w h a : Nat} (h1 : a ≠ o + 1) (h2 : a ≠ o + 2) : ∀ k, lnAll σ o w h k a = σ a
  | 0 => rfl
  | k + 1 => (lnF_row h1 h2).trans (lnAll_row h1 h2 k)
theorem lnAll_nx {σ : GSt} {o w h : Nat} : ∀ k c, c < k → ∀ d, d < 8 → lnAll σ o w h k (o + 1) (8 * c + d) = nbI w h c d
  | 0, _, hc, _, _ => absurd hc (Nat.not_lt_zero _)
  | k + 1, c, hc, d, hd => by
    show lnF (lnAll σ o w h k) o w h k (o + 1) (8 * c + d) = _
    rw [lnF_nx]
    by_cases e : c = k
    · subst e
      rw [if_pos (by omega), show 8 * c + d - 8 * c = d by omega]
    · rw [if_neg (by omega)]
      exact lnAll_nx k c (by omega) d hd
theorem lnAll_nr {σ : GSt} {o w h : Nat} : ∀ k, k ≤ 16 → ∀ c, c < k → lnAll σ o w h k (o + 2) (16 + c) = strM w h c 8 ∧ lnAll σ o w h k (o + 2) (32 + c) = aslM w h c 8 ∧ lnAll σ o w h k (o + 2) (48 + c) = strM w h c 8 ||| aslM w h c 8
  | 0, _, _, hc => absurd hc (Nat.not_lt_zero _)
  | k + 1, hk, c, hc => by
    show lnF (lnAll σ o w h k) o w h k (o + 2) (16 + c) = _ ∧ lnF (lnAll σ o w h k) o w h k (o + 2) (32 + c) = _ ∧ lnF (lnAll σ o w h k) o w h k (o + 2) (48 + c) = _
    rw [lnF_nr, lnF_nr, lnF_nr]
    by_cases e : c = k
    · subst e
      refine ⟨?_, ?_, ?_⟩
      · rw [if_neg (by omega), if_neg (by omega), if_pos rfl]
      · rw [if_neg (by omega), if_pos rfl]
      · rw [if_pos rfl]
    · have := lnAll_nr (σ := σ) (o := o) (w := w) (h := h) k (by omega) c (by omega)
      refine ⟨?_, ?_, ?_⟩
      · rw [if_neg (by omega), if_neg (by omega), if_neg (by omega)]
        exact this.1
      · rw [if_neg (by omega), if_neg (by omega), if_neg (by omega)]
        exact this.2.1
      · rw [if_neg (by omega), if_neg (by omega), if_neg (by omega)]
        exact this.2.2
