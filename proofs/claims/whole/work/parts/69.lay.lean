/-- the cell next to c in direction d on a board of w times h; -1 beyond the edge -/
def nbI (w h c d : Nat) : Int32 := if nI c / nI w + downF d < 0 ∨ nI h ≤ nI c / nI w + downF d ∨ jrem (nI c) (nI w) + rightF d < 0 ∨ nI w ≤ jrem (nI c) (nI w) + rightF d then -1 else (nI c / nI w + downF d) * nI w + (jrem (nI c) (nI w) + rightF d)
theorem neighbour_ok {o w h c d : Nat} {σ : GSt} {Q : Int32 → GSt → Prop} (hw : σ o 0 = nI w) (hh : σ o 1 = nI h) (w1 : 1 ≤ w) (w2 : w ≤ 4) (hd : d < 8) (hQ : Q (nbI w h c d) σ) : D_X0_neighbour o (nI c) (nI d) σ Q := by
  unfold D_X0_neighbour D_X0_neighbour_0
  rw [hw, hh, nI_clamp (show d < 2 ^ 31 by omega)]
  have w0 : ¬ nI w = 0 := nI_ne0 w1 (by omega)
  have hv : vp_in (nI d) 8 := vp_in_nI hd (by decide)
  refine ⟨fun _ => ⟨w0, hv, ?_⟩, fun z => absurd (nI_le (a := 1) w1 (by omega)) z⟩
  intro r er
  refine ⟨w0, hv, ?_⟩
  intro q eq
  unfold nbI at hQ
  rw [← er, ← eq] at hQ
  refine ⟨fun z => ⟨fun _ => ?_, fun z => absurd rfl z⟩, fun z1 => ⟨fun z => ⟨fun _ => ?_, fun z => absurd rfl z⟩, fun z2 => ⟨fun z => ⟨fun _ => ?_, fun z => absurd rfl z⟩, fun z3 => ⟨fun z => ⟨fun _ => ?_, fun z => absurd rfl z⟩, fun z4 => ⟨fun z => absurd z (by decide), fun _ => ?_⟩⟩⟩⟩⟩
  · rw [if_pos (Or.inl z)] at hQ
    exact hQ
  · rw [if_pos (Or.inr (Or.inl z))] at hQ
    exact hQ
  · rw [if_pos (Or.inr (Or.inr (Or.inl z)))] at hQ
    exact hQ
  · rw [if_pos (Or.inr (Or.inr (Or.inr z)))] at hQ
    exact hQ
  · rw [if_neg (by intro t; rcases t with t | t | t | t; exacts [z1 t, z2 t, z3 t, z4 t])] at hQ
    rw [hw]
    exact hQ
def nbit (w h c d : Nat) : Int32 := if 0 ≤ nbI w h c d then jshl 1 (nbI w h c d) else 0
def strM (w h c : Nat) : Nat → Int32
  | 0 => 0
  | d + 1 => if downF d = 0 ∨ rightF d = 0 then strM w h c d ||| nbit w h c d else strM w h c d
def aslM (w h c : Nat) : Nat → Int32
  | 0 => 0
  | d + 1 => if downF d = 0 ∨ rightF d = 0 then aslM w h c d else aslM w h c d ||| nbit w h c d
def lnS (σ : GSt) (o w h c : Nat) : Nat → GSt
  | 0 => σ
  | d + 1 => up2 (lnS σ o w h c d) (o + 1) (8 * c + d) (nbI w h c d)
theorem lnS_row {σ : GSt} {o w h c a : Nat} (ha : a ≠ o + 1) : ∀ d, lnS σ o w h c d a = σ a
  | 0 => rfl
  | d + 1 => (up2_ne ha).trans (lnS_row ha d)
theorem lnS_at {σ : GSt} {o w h c : Nat} (j : Nat) : ∀ d, lnS σ o w h c d (o + 1) j = if 8 * c ≤ j ∧ j < 8 * c + d then nbI w h c (j - 8 * c) else σ (o + 1) j
  | 0 => by rw [if_neg (by omega)]; rfl
  | d + 1 => by
    show up2 (lnS σ o w h c d) (o + 1) (8 * c + d) (nbI w h c d) (o + 1) j = _
    rw [up2_app, lnS_at j d]
    by_cases e : j = 8 * c + d
    · subst e
      rw [if_pos ⟨rfl, rfl⟩, if_pos (by omega)]
      congr 1
      omega
    · rw [if_neg (by omega)]
      by_cases e2 : 8 * c ≤ j ∧ j < 8 * c + d
      · rw [if_pos e2, if_pos (by omega)]
      · rw [if_neg e2, if_neg (by omega)]
/-- what layNear of the cell c leaves -/
def lnF (σ : GSt) (o w h c : Nat) : GSt := up2 (up2 (up2 (lnS σ o w h c 8) (o + 2) (16 + c) (strM w h c 8)) (o + 2) (32 + c) (aslM w h c 8)) (o + 2) (48 + c) (strM w h c 8 ||| aslM w h c 8)
theorem layNear_ok {o w h c : Nat} {σ : GSt} {Q : GSt → Prop} (hw : σ o 0 = nI w) (hh : σ o 1 = nI h) (w1 : 1 ≤ w) (w2 : w ≤ 4) (hc : c < 16) (hQ : Q (lnF σ o w h c)) : D_X0_layNear o (nI c) σ Q := by
  refine ⟨9, ?_⟩
  have key : ∀ (e d : Nat), d + e = 8 → L_X0_layNear_7 Q o (e + 1) (nI c) (strM w h c d) (aslM w h c d) (nI d) (lnS σ o w h c d) := by
    intro e
    induction e with
    | zero =>
      intro d hd
      rw [show d = 8 by omega]
      refine ⟨fun _ => ?_, fun z => absurd (by decide) z⟩
      have e16 : (16 : Int32) + nI c = nI (16 + c) := nI_add 16 c
      have e32 : (32 : Int32) + nI c = nI (32 + c) := nI_add 32 c
      have e48 : (48 : Int32) + nI c = nI (48 + c) := nI_add 48 c
      rw [e16, e32, e48]
      refine ⟨vp_in_nI (by omega) (by decide), fun s1 q1 => ⟨vp_in_nI (by omega) (by decide), fun s2 q2 => ⟨vp_in_nI (by omega) (by decide), fun s3 q3 => ?_⟩⟩⟩
      rw [nI_clamp (by omega)] at q1 q2 q3
      subst q1
      subst q2
      subst q3
      exact hQ
    | succ e ih =>
      intro d hd
      refine ⟨fun z => absurd z (nI_ge (b := 8) (by omega) (by decide)), fun _ => ?_⟩
      have hrow : lnS σ o w h c d o = σ o := lnS_row (by omega) d
      refine neighbour_ok (w := w) (h := h) (by rw [hrow]; exact hw) (by rw [hrow]; exact hh) w1 w2 (by omega) ?_
      have e8 : (8 : Int32) * nI c + nI d = nI (8 * c + d) := by rw [show (8 : Int32) * nI c = nI (8 * c) from pk_mul 8 c]; exact nI_add _ _
      have go : ∀ b : Int32, b = nbit w h c d → D_X0_layNear_36 (L_X0_layNear_7 Q o (e + 1)) Q o (nI c) (strM w h c d) (aslM w h c d) (nI d) (nbI w h c d) b (lnS σ o w h c d) := by
        intro b eb
        unfold D_X0_layNear_36
        rw [e8, nI_clamp (show 8 * c + d < 2 ^ 31 by omega), nI_clamp (show d < 2 ^ 31 by omega)]
        refine ⟨vp_in_nI (by omega) (by decide), fun s q => ⟨vp_in_nI (by omega) (by decide), fun z => ?_, fun z => ⟨vp_in_nI (by omega) (by decide), fun z2 => ?_, fun z2 => ?_⟩⟩⟩
        · subst q
          intro x ex y ey
          subst ex
          subst ey
          have := ih (d + 1) (by omega)
          rw [show strM w h c (d + 1) = strM w h c d ||| nbit w h c d from if_pos (Or.inl z), show aslM w h c (d + 1) = aslM w h c d from if_pos (Or.inl z)] at this
          rw [eb, nI_1 d]
          exact this
        · subst q
          intro x ex y ey
          subst ex
          subst ey
          have := ih (d + 1) (by omega)
          have nz : ¬ (downF d = 0 ∨ rightF d = 0) := fun t => t.elim z z2
          rw [show strM w h c (d + 1) = strM w h c d from if_neg nz, show aslM w h c (d + 1) = aslM w h c d ||| nbit w h c d from if_neg nz] at this
          rw [eb, nI_1 d]
          exact this
        · subst q
          intro x ex y ey
          subst ex
          subst ey
          have := ih (d + 1) (by omega)
          rw [show strM w h c (d + 1) = strM w h c d ||| nbit w h c d from if_pos (Or.inr z2), show aslM w h c (d + 1) = aslM w h c d from if_pos (Or.inr z2)] at this
          rw [eb, nI_1 d]
          exact this
      exact ⟨fun z => go _ (by unfold nbit; rw [if_pos z]), fun z => go _ (by unfold nbit; rw [if_neg z])⟩
  exact key 8 0 rfl
