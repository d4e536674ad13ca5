theorem inv_s0 : InvA s0 := by
  refine ⟨0, fun _ => ((0, 0, 0, 0, 0, 0, [], []) : GM), fun _ => [], [], none, ⟨by decide, by decide +kernel, by decide +kernel⟩, fun i hi => absurd hi (Nat.not_lt_zero _), ⟨?_, ?_⟩, ⟨by decide, by decide +kernel, by decide +kernel, fun j e hj => absurd hj (by simp)⟩, ?_, ⟨by decide +kernel, by decide +kernel⟩⟩
  · have : ∀ k, k < 7 → s0 60 k = s0 238 k := by decide +kernel
    exact this
  · have : ∀ k, k < 17 → s0 58 k = s0 277 k ∧ s0 59 k = s0 278 k := by decide +kernel
    exact this
  · have : ∀ y, y < 8 → s0 267 y = eastF y ∧ s0 268 y = southF y := by decide +kernel
    exact this
