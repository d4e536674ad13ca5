def nbOk (w h c d : Nat) : Bool := decide (nbI w h c d = -1) || (decide ((nbI w h c d).toNatClampNeg < w * h) && decide (nbI w h c d = nI (nbI w h c d).toNatClampNeg))
theorem nb_all : ((List.range 5).all fun w => (List.range 5).all fun h => (List.range 16).all fun c => (List.range 8).all fun d => !(decide (2 ≤ w) && decide (2 ≤ h) && decide (c < w * h)) || nbOk w h c d) = true := by decide +kernel
theorem nb_rng0 (w : Nat) (w5 : w < 5) (h : Nat) (h5 : h < 5) (c : Nat) (c16 : c < 16) (d : Nat) (d8 : d < 8) (w2 : 2 ≤ w) (h2 : 2 ≤ h) (hc : c < w * h) : nbI w h c d = -1 ∨ ((nbI w h c d).toNatClampNeg < w * h ∧ nbI w h c d = nI (nbI w h c d).toNatClampNeg) := by
  have h1 := List.all_eq_true.mp (List.all_eq_true.mp (List.all_eq_true.mp (List.all_eq_true.mp nb_all w (List.mem_range.mpr w5)) h (List.mem_range.mpr h5)) c (List.mem_range.mpr c16)) d (List.mem_range.mpr d8)
  simpa [nbOk, w2, h2, hc] using h1
theorem nb_rng {w h c d : Nat} (w2 : 2 ≤ w) (w4 : w ≤ 4) (h2 : 2 ≤ h) (h4 : h ≤ 4) (hc : c < w * h) (hd : d < 8) : nbI w h c d = -1 ∨ ∃ k, k < w * h ∧ nbI w h c d = nI k := by
  have h16 : w * h ≤ 16 := Nat.mul_le_mul w4 h4
  rcases nb_rng0 w (by omega) h (by omega) c (by omega) d hd w2 h2 hc with q | q
  · exact Or.inl q
  · exact Or.inr ⟨_, q.1, q.2⟩
def NxtOK (σ : GSt) (o w h : Nat) : Prop := ∀ c, c < w * h → ∀ d, d < 8 → σ (o + 1) (8 * c + d) = nbI w h c d
/-- k more cells in direction d from 'at' on, as bits; 0 if the board ends ahead -/
def rowR (w h d : Nat) : Nat → Int32 → Int32 → Int32
  | 0, _, row => row
  | k + 1, at_, row => if 0 ≤ at_ then rowR w h d k (nbI w h at_.toNatClampNeg d) (row ||| jshl 1 at_) else 0
theorem rowOf_ok {o w h n c d : Nat} {σ : GSt} {Q : Int32 → GSt → Prop} (w2 : 2 ≤ w) (w4 : w ≤ 4) (h2 : 2 ≤ h) (h4 : h ≤ 4) (hN : NxtOK σ o w h) (hn : n ≤ 4) (hc : c < w * h) (hd : d < 8) (hQ : Q (rowR w h d n (nI c) 0) σ) : D_X0_rowOf o (nI n) (nI c) (nI d) σ Q := by
  have h16 : w * h ≤ 16 := Nat.mul_le_mul w4 h4
  refine ⟨n + 1, ?_⟩
  have key : ∀ (k i : Nat) (at_ row : Int32), i + k = n → (at_ = -1 ∨ ∃ a, a < w * h ∧ at_ = nI a) → Q (rowR w h d k at_ row) σ → L_X0_rowOf_9 Q o (k + 1) (nI n) (nI d) row at_ (nI i) σ := by
    intro k
    induction k with
    | zero =>
      intro i at_ row hi ha hq
      exact ⟨fun _ => hq, fun z => absurd (nI_le (by omega) (by omega)) z⟩
    | succ k ih =>
      intro i at_ row hi ha hq
      refine ⟨fun z => absurd z (nI_ge (by omega) (by omega)), fun _ => ⟨fun z => ?_, fun z => ?_⟩⟩
      · rcases ha with ha | ⟨a, ha, rfl⟩
        · subst ha
          exact absurd z (by decide)
        · have e8 : (8 : Int32) * nI a + nI d = nI (8 * a + d) := by rw [show (8 : Int32) * nI a = nI (8 * a) from pk_mul 8 a]; exact nI_add _ _
          rw [e8, nI_clamp (show 8 * a + d < 2 ^ 31 by omega), hN a ha d hd]
          intro x ex
          refine ⟨vp_in_nI (by omega) (by decide), ?_⟩
          intro y ey v ev
          subst ex
          subst ey
          subst ev
          rw [nI_1 i]
          refine ih (i + 1) _ _ (by omega) (nb_rng w2 w4 h2 h4 ha hd) ?_
          have : rowR w h d (k + 1) (nI a) row = rowR w h d k (nbI w h a d) (row ||| jshl 1 (nI a)) := by
            show (if 0 ≤ nI a then rowR w h d k (nbI w h (nI a).toNatClampNeg d) (row ||| jshl 1 (nI a)) else 0) = _
            rw [if_pos z, nI_clamp (by omega)]
          rw [this] at hq
          exact hq
      · have : rowR w h d (k + 1) at_ row = 0 := if_neg z
        rw [this] at hq
        exact hq
  exact key n 0 (nI c) 0 (by omega) (Or.inr ⟨c, hc, rfl⟩) hQ
/-- the numbers of a list written from a place on into the cell o + 3 -/
def wrL (o : Nat) : GSt → Nat → List Int32 → GSt
  | σ, _, [] => σ
  | σ, b, x :: l => wrL o (up2 σ (o + 3) b x) (b + 1) l
theorem wrL_row {o a : Nat} (ha : a ≠ o + 3) : ∀ (l : List Int32) (σ : GSt) (b : Nat), wrL o σ b l a = σ a
  | [], _, _ => rfl
  | _ :: l, _, b => (wrL_row ha l _ (b + 1)).trans (up2_ne ha)
theorem wrL_app {o : Nat} : ∀ (l l' : List Int32) (σ : GSt) (b : Nat), wrL o σ b (l ++ l') = wrL o (wrL o σ b l) (b + l.length) l'
  | [], _, _, _ => rfl
  | x :: l, l', σ, b => by
    show wrL o (up2 σ (o + 3) b x) (b + 1) (l ++ l') = wrL o (wrL o (up2 σ (o + 3) b x) (b + 1) l) (b + (l.length + 1)) l'
    rw [wrL_app l l' _ (b + 1), show b + 1 + l.length = b + (l.length + 1) by omega]
theorem wrL_at {o : Nat} (j : Nat) : ∀ (l : List Int32) (σ : GSt) (b : Nat), wrL o σ b l (o + 3) j = if b ≤ j ∧ j < b + l.length then l.getD (j - b) 0 else σ (o + 3) j
  | [], _, b => by rw [if_neg (by simp only [List.length_nil]; omega)]; rfl
  | x :: l, σ, b => by
    show wrL o (up2 σ (o + 3) b x) (b + 1) l (o + 3) j = _
    rw [wrL_at j l _ (b + 1)]
    simp only [List.length_cons]
    by_cases e : j = b
    · subst e
      rw [if_neg (by omega), if_pos (by omega), up2_app, if_pos ⟨rfl, rfl⟩, Nat.sub_self]
      rfl
    · by_cases e2 : b + 1 ≤ j ∧ j < b + 1 + l.length
      · rw [if_pos e2, if_pos (by omega), show j - b = (j - (b + 1)) + 1 by omega]
        rfl
      · rw [if_neg e2, if_neg (by omega), up2_app, if_neg (by omega)]
/-- the rows of n from the cell c on, k directions left -/
def rowsD (w h n c : Nat) : Nat → List Int32
  | 0 => []
  | k + 1 => if rowR w h (7 - k) n (nI c) 0 = 0 then rowsD w h n c k else rowR w h (7 - k) n (nI c) 0 :: rowsD w h n c k
/-- all rows of n, k cells left -/
def rowsC (w h n : Nat) : Nat → List Int32
  | 0 => []
  | k + 1 => rowsD w h n (w * h - (k + 1)) 4 ++ rowsC w h n k
theorem layRows_ok {o w h n b : Nat} {σ : GSt} {Q : Int32 → GSt → Prop} (w2 : 2 ≤ w) (w4 : w ≤ 4) (h2 : 2 ≤ h) (h4 : h ≤ 4) (hl : ln (o + 3) = 76) (hN : NxtOK σ o w h) (hc : σ o 2 = nI (w * h)) (hn : n ≤ 4) (hb : b + (rowsC w h n (w * h)).length ≤ 76) (hQ : Q (nI (b + (rowsC w h n (w * h)).length)) (wrL o σ b (rowsC w h n (w * h)))) : D_X0_layRows o (nI n) (nI b) σ Q := by
  have h16 : w * h ≤ 16 := Nat.mul_le_mul w4 h4
  refine ⟨w * h + 1, ?_⟩
  -- the inner loop
  have inner : ∀ (K : Int32 → Int32 → Int32 → GSt → Prop) (k c b : Nat) (σ : GSt), k ≤ 4 → c < w * h → NxtOK σ o w h → b + (rowsD w h n c k).length ≤ 76 → K (nI n) (nI (b + (rowsD w h n c k).length)) (nI (c + 1)) (wrL o σ b (rowsD w h n c k)) → L_X0_layRows_17 K Q o (k + 1) (nI n) (nI b) (nI c) (nI (8 - k)) σ := by
    intro K k
    induction k with
    | zero =>
      intro c b σ hk hcc hN hb hK
      refine ⟨fun _ x ex => ?_, fun z => absurd (by decide) z⟩
      subst ex
      rw [nI_1 c]
      exact hK
    | succ k ih =>
      intro c b σ hk hcc hN hb hK
      refine ⟨fun z => absurd z (nI_ge (b := 8) (by omega) (by decide)), fun _ => ?_⟩
      refine rowOf_ok w2 w4 h2 h4 hN hn hcc (by omega) ?_
      rw [show 8 - (k + 1) = 7 - k by omega] at *
      have nxt : ∀ (b' : Nat) (σ' : GSt), NxtOK σ' o w h → b' + (rowsD w h n c k).length ≤ 76 → K (nI n) (nI (b' + (rowsD w h n c k).length)) (nI (c + 1)) (wrL o σ' b' (rowsD w h n c k)) → D_X0_layRows_60 K (L_X0_layRows_17 K Q o (k + 1)) Q o (nI n) (nI b') (nI c) (nI (7 - k)) σ' := by
        intro b' σ' hN' hb' hK' x ex
        subst ex
        rw [nI_1 (7 - k), show 7 - k + 1 = 8 - k by omega]
        exact ih c b' σ' (by omega) hcc hN' hb' hK'
      refine ⟨fun z => ?_, fun z => ⟨fun z2 => ?_, fun z2 => ?_⟩⟩
      · have e : rowsD w h n c (k + 1) = rowsD w h n c k := if_pos z
        rw [e] at hK hb
        exact nxt b σ hN hb hK
      · have e : rowsD w h n c (k + 1) = rowR w h (7 - k) n (nI c) 0 :: rowsD w h n c k := if_neg z
        rw [e, List.length_cons] at hb
        rw [hl] at z2
        exact absurd z2 (nI_ge (by omega) (by omega))
      · have e : rowsD w h n c (k + 1) = rowR w h (7 - k) n (nI c) 0 :: rowsD w h n c k := if_neg z
        rw [e, List.length_cons] at hb hK
        refine ⟨vp_in_nI (by omega) (by decide), ?_⟩
        intro s es x ex
        subst es
        subst ex
        rw [nI_clamp (by omega), nI_1 b]
        refine nxt (b + 1) _ (fun c' hc' d' hd' => by rw [up2_ne (by omega)]; exact hN c' hc' d' hd') (by omega) ?_
        rw [show b + 1 + (rowsD w h n c k).length = b + ((rowsD w h n c k).length + 1) by omega]
        exact hK
  have outer : ∀ (k b : Nat) (σ : GSt), k ≤ w * h → NxtOK σ o w h → σ o 2 = nI (w * h) → b + (rowsC w h n k).length ≤ 76 → Q (nI (b + (rowsC w h n k).length)) (wrL o σ b (rowsC w h n k)) → L_X0_layRows_5 Q o (k + 1) (nI n) (nI b) (nI (w * h - k)) σ := by
    intro k
    induction k with
    | zero =>
      intro b σ hk hN hc hb hQ
      unfold L_X0_layRows_5 D_X0_layRows_5
      rw [hc]
      exact ⟨fun _ => hQ, fun z => absurd (nI_le (by omega) (by omega)) z⟩
    | succ k ih =>
      intro b σ hk hN hc hb hQ
      unfold L_X0_layRows_5 D_X0_layRows_5
      rw [hc]
      refine ⟨fun z => absurd z (nI_ge (by omega) (by omega)), fun _ => ⟨5, ?_⟩⟩
      have e : rowsC w h n (k + 1) = rowsD w h n (w * h - (k + 1)) 4 ++ rowsC w h n k := rfl
      rw [e, List.length_append] at hb hQ
      refine inner _ 4 (w * h - (k + 1)) b σ (Nat.le_refl _) (by omega) hN (by omega) ?_
      rw [show w * h - (k + 1) + 1 = w * h - k by omega]
      refine ih _ _ (by omega) (fun c' hc' d' hd' => by rw [wrL_row (by omega)]; exact hN c' hc' d' hd') (by rw [wrL_row (by omega)]; exact hc) (by omega) ?_
      rw [wrL_app, ← Nat.add_assoc] at hQ
      exact hQ
  have := outer (w * h) b σ (Nat.le_refl _) hN hc hb hQ
  rw [Nat.sub_self] at this
  exact this
