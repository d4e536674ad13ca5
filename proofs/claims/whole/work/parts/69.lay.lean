/-- the cell next to c in direction d on a board of w times h; -1 beyond the edge -/
def nbI (w h c d : Nat) : Int32 := if nI c / nI w + downF d < 0 ∨ nI h ≤ nI c / nI w + downF d ∨ jrem (nI c) (nI w) + rightF d < 0 ∨ nI w ≤ jrem (nI c) (nI w) + rightF d then -1 else (nI c / nI w + downF d) * nI w + (jrem (nI c) (nI w) + rightF d)
theorem neighbour_ok {o w h c d : Nat} {σ : GSt} {Q : Int32 → GSt → Prop} (hw : σ o 0 = nI w) (hh : σ o 1 = nI h) (w1 : 1 ≤ w) (w2 : w ≤ 4) (hd : d < 8) (hQ : Q (nbI w h c d) σ) : D_X0_neighbour o (nI c) (nI d) σ Q := by
  unfold D_X0_neighbour D_X0_neighbour_0
  rw [hw, hh, nI_clamp (show d < 2 ^ 31 by omega)]
  have w0 : ¬ nI w = 0 := nI_ne0 w1 (by omega)
  have hv : vp_in (nI d) 8 := vp_in_nI hd (by decide)
  refine ⟨fun _ => ⟨w0, hv, ?_⟩, fun z => absurd (nI_le (a := 1) w1 (by omega)) z⟩
  intro r er
  refine ⟨w0, hv, ?_⟩
  intro q eq
  unfold nbI at hQ
  rw [← er, ← eq] at hQ
  refine ⟨fun z => ⟨fun _ => ?_, fun z => absurd rfl z⟩, fun z1 => ⟨fun z => ⟨fun _ => ?_, fun z => absurd rfl z⟩, fun z2 => ⟨fun z => ⟨fun _ => ?_, fun z => absurd rfl z⟩, fun z3 => ⟨fun z => ⟨fun _ => ?_, fun z => absurd rfl z⟩, fun z4 => ⟨fun z => absurd z (by decide), fun _ => ?_⟩⟩⟩⟩⟩
  · rw [if_pos (Or.inl z)] at hQ
    exact hQ
  · rw [if_pos (Or.inr (Or.inl z))] at hQ
    exact hQ
  · rw [if_pos (Or.inr (Or.inr (Or.inl z)))] at hQ
    exact hQ
  · rw [if_pos (Or.inr (Or.inr (Or.inr z)))] at hQ
    exact hQ
  · rw [if_neg (fun t => t.elim z1 (fun t => t.elim z2 (fun t => t.elim z3 z4)))] at hQ
    rw [hw]
    exact hQ
def nbit (w h c d : Nat) : Int32 := if 0 ≤ nbI w h c d then jshl 1 (nbI w h c d) else 0
def strM (w h c : Nat) : Nat → Int32
  | 0 => 0
  | d + 1 => if downF d = 0 ∨ rightF d = 0 then strM w h c d ||| nbit w h c d else strM w h c d
def aslM (w h c : Nat) : Nat → Int32
  | 0 => 0
  | d + 1 => if downF d = 0 ∨ rightF d = 0 then aslM w h c d else aslM w h c d ||| nbit w h c d
def lnS (σ : GSt) (o w h c : Nat) : Nat → GSt
  | 0 => σ
  | d + 1 => up2 (lnS σ o w h c d) (o + 1) (8 * c + d) (nbI w h c d)
theorem lnS_row {σ : GSt} {o w h c a : Nat} (ha : a ≠ o + 1) : ∀ d, lnS σ o w h c d a = σ a
  | 0 => rfl
  | d + 1 => (up2_ne ha).trans (lnS_row ha d)
theorem lnS_at {σ : GSt} {o w h c : Nat} (j : Nat) : ∀ d, lnS σ o w h c d (o + 1) j = if 8 * c ≤ j ∧ j < 8 * c + d then nbI w h c (j - 8 * c) else σ (o + 1) j
  | 0 => by rw [if_neg (by omega)]; rfl
  | d + 1 => by
    show up2 (lnS σ o w h c d) (o + 1) (8 * c + d) (nbI w h c d) (o + 1) j = _
    rw [up2_app, lnS_at j d]
    by_cases e : j = 8 * c + d
    · subst e
      rw [if_pos ⟨rfl, rfl⟩, if_pos (by omega)]
      congr 1
      omega
    · rw [if_neg (by omega)]
      by_cases e2 : 8 * c ≤ j ∧ j < 8 * c + d
      · rw [if_pos e2, if_pos (by omega)]
      · rw [if_neg e2, if_neg (by omega)]
/-- what layNear of the cell c leaves -/
def lnF (σ : GSt) (o w h c : Nat) : GSt := up2 (up2 (up2 (lnS σ o w h c 8) (o + 2) (16 + c) (strM w h c 8)) (o + 2) (32 + c) (aslM w h c 8)) (o + 2) (48 + c) (strM w h c 8 ||| aslM w h c 8)
theorem layNear_ok {o w h c : Nat} {σ : GSt} {Q : GSt → Prop} (hw : σ o 0 = nI w) (hh : σ o 1 = nI h) (w1 : 1 ≤ w) (w2 : w ≤ 4) (hc : c < 16) (hQ : Q (lnF σ o w h c)) : D_X0_layNear o (nI c) σ Q := by
  refine ⟨9, ?_⟩
  have key : ∀ (e d : Nat), d + e = 8 → L_X0_layNear_7 Q o (e + 1) (nI c) (strM w h c d) (aslM w h c d) (nI d) (lnS σ o w h c d) := by
    intro e
    induction e with
    | zero =>
      intro d hd
      rw [show d = 8 by omega]
      refine ⟨fun _ => ?_, fun z => absurd (by decide) z⟩
      have e16 : (16 : Int32) + nI c = nI (16 + c) := nI_add 16 c
      have e32 : (32 : Int32) + nI c = nI (32 + c) := nI_add 32 c
      have e48 : (48 : Int32) + nI c = nI (48 + c) := nI_add 48 c
      rw [e16, e32, e48]
      refine ⟨vp_in_nI (by omega) (by decide), fun s1 q1 => ⟨vp_in_nI (by omega) (by decide), fun s2 q2 => ⟨vp_in_nI (by omega) (by decide), fun s3 q3 => ?_⟩⟩⟩
      rw [nI_clamp (by omega)] at q1 q2 q3
      subst q1
      subst q2
      subst q3
      exact hQ
    | succ e ih =>
      intro d hd
      refine ⟨fun z => absurd z (nI_ge (b := 8) (by omega) (by decide)), fun _ => ?_⟩
      have hrow : lnS σ o w h c d o = σ o := lnS_row (by omega) d
      refine neighbour_ok (w := w) (h := h) (by rw [hrow]; exact hw) (by rw [hrow]; exact hh) w1 w2 (by omega) ?_
      have e8 : (8 : Int32) * nI c + nI d = nI (8 * c + d) := by rw [show (8 : Int32) * nI c = nI (8 * c) from pk_mul 8 c]; exact nI_add _ _
      have go : ∀ b : Int32, b = nbit w h c d → D_X0_layNear_36 (L_X0_layNear_7 Q o (e + 1)) Q o (nI c) (strM w h c d) (aslM w h c d) (nI d) (nbI w h c d) b (lnS σ o w h c d) := by
        intro b eb
        unfold D_X0_layNear_36
        rw [e8, nI_clamp (show 8 * c + d < 2 ^ 31 by omega), nI_clamp (show d < 2 ^ 31 by omega)]
        refine ⟨vp_in_nI (by omega) (by decide), fun s q => ⟨vp_in_nI (by omega) (by decide), fun z => ?_, fun z => ⟨vp_in_nI (by omega) (by decide), fun z2 => ?_, fun z2 => ?_⟩⟩⟩
        · subst q
          intro x ex y ey
          subst ex
          subst ey
          have := ih (d + 1) (by omega)
          rw [show strM w h c (d + 1) = strM w h c d ||| nbit w h c d from if_pos (Or.inl z), show aslM w h c (d + 1) = aslM w h c d from if_pos (Or.inl z)] at this
          rw [eb, nI_1 d]
          exact this
        · subst q
          intro x ex y ey
          subst ex
          subst ey
          have := ih (d + 1) (by omega)
          have nz : ¬ (downF d = 0 ∨ rightF d = 0) := fun t => t.elim z z2
          rw [show strM w h c (d + 1) = strM w h c d from if_neg nz, show aslM w h c (d + 1) = aslM w h c d ||| nbit w h c d from if_neg nz] at this
          rw [eb, nI_1 d]
          exact this
        · subst q
          intro x ex y ey
          subst ex
          subst ey
          have := ih (d + 1) (by omega)
          rw [show strM w h c (d + 1) = strM w h c d ||| nbit w h c d from if_pos (Or.inr z2), show aslM w h c (d + 1) = aslM w h c d from if_pos (Or.inr z2)] at this
          rw [eb, nI_1 d]
          exact this
      exact ⟨fun z => go _ (by unfold nbit; rw [if_pos z]), fun z => go _ (by unfold nbit; rw [if_neg z])⟩
  exact key 8 0 rfl
/-- the left edge, r rows of it -/
def lftM (w : Nat) : Nat → Int32
  | 0 => 0
  | r + 1 => lftM w r ||| jshl 1 (nI (r * w))
/-- what layEdges leaves -/
def leF (σ : GSt) (o w h : Nat) : GSt := up2 (up2 (up2 (up2 (up2 σ o 7 (jshl 1 (nI (w * h)) - 1)) o 8 (jshl 1 (nI w) - 1)) o 9 (jshl (jshl 1 (nI w) - 1) (nI (w * h) - nI w))) o 10 (lftM w h)) o 11 (jshl (lftM w h) (nI w - 1))
theorem up2_up2 (σ : GSt) (o k : Nat) (v u : Int32) : up2 (up2 σ o k v) o k u = up2 σ o k u := by
  funext a j
  simp only [up2_app]
  by_cases h : a = o ∧ j = k
  · rw [if_pos h, if_pos h]
  · rw [if_neg h, if_neg h, if_neg h]
theorem layEdges_ok {o w h : Nat} {σ : GSt} {Q : GSt → Prop} (hw : σ o 0 = nI w) (hh : σ o 1 = nI h) (hc : σ o 2 = nI (w * h)) (hh4 : h ≤ 4) (hw4 : w ≤ 4) (hQ : Q (leF σ o w h)) : D_X0_layEdges o σ Q := by
  unfold D_X0_layEdges D_X0_layEdges_0
  intro s1 e1 s2 e2 s3 e3 s4 e4
  have a0 : s1 o 0 = nI w := by rw [e1, up2_app, if_neg (by omega)]; exact hw
  have b0 : s2 o 0 = nI w := by rw [e2, up2_app, if_neg (by omega)]; exact a0
  have b2 : s2 o 2 = nI (w * h) := by rw [e2, up2_app, if_neg (by omega), e1, up2_app, if_neg (by omega)]; exact hc
  have b8 : s2 o 8 = jshl 1 (nI w) - 1 := by rw [e2, up2_app, if_pos ⟨rfl, rfl⟩, a0]
  rw [hc] at e1
  rw [a0] at e2
  rw [b8, b2, b0] at e3
  obtain ⟨τ, eτ⟩ : ∃ z, z = s3 := ⟨_, rfl⟩
  have t0 : τ o 0 = nI w := by rw [eτ, e3, up2_app, if_neg (by omega)]; exact b0
  have t1 : τ o 1 = nI h := by rw [eτ, e3, up2_app, if_neg (by omega), e2, up2_app, if_neg (by omega), e1, up2_app, if_neg (by omega)]; exact hh
  refine ⟨h + 1, ?_⟩
  have key : ∀ (e r : Nat), r + e = h → L_X0_layEdges_49 Q o (e + 1) (nI r) (up2 τ o 10 (lftM w r)) := by
    intro e
    induction e with
    | zero =>
      intro r hr
      unfold L_X0_layEdges_49 D_X0_layEdges_49
      rw [show up2 τ o 10 (lftM w r) o 1 = nI h by rw [up2_app, if_neg (by omega)]; exact t1, show up2 τ o 10 (lftM w r) o 0 = nI w by rw [up2_app, if_neg (by omega)]; exact t0, show up2 τ o 10 (lftM w r) o 10 = lftM w r by rw [up2_app, if_pos ⟨rfl, rfl⟩]]
      refine ⟨fun _ s es => ?_, fun z => absurd (nI_le (by omega) (by omega)) z⟩
      rw [es, show r = h by omega, eτ, e3, e2, e1]
      exact hQ
    | succ e ih =>
      intro r hr
      unfold L_X0_layEdges_49 D_X0_layEdges_49
      rw [show up2 τ o 10 (lftM w r) o 1 = nI h by rw [up2_app, if_neg (by omega)]; exact t1, show up2 τ o 10 (lftM w r) o 0 = nI w by rw [up2_app, if_neg (by omega)]; exact t0, show up2 τ o 10 (lftM w r) o 10 = lftM w r by rw [up2_app, if_pos ⟨rfl, rfl⟩]]
      refine ⟨fun z => absurd z (nI_ge (by omega) (by omega)), fun _ s es x ex => ?_⟩
      rw [es, ex, nI_1 r, up2_up2, show nI r * nI w = nI (r * w) from pk_mul r w]
      exact ih (r + 1) (by omega)
  have := key h 0 (by omega)
  rw [e4, ← eτ]
  exact this
