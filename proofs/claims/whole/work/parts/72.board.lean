def rlen (w h n : Nat) : Nat := (rowsC w h n (w * h)).length
def rbase (w h : Nat) : Nat → Nat
  | 0 => 0
  | 1 => 0
  | 2 => 0
  | n + 1 => rbase w h n + rlen w h n
theorem rlen_all : ((List.range 5).all fun w => (List.range 5).all fun h => !(decide (2 ≤ w) && decide (2 ≤ h)) || decide (rlen w h 2 + rlen w h 3 + rlen w h 4 ≤ 76)) = true := by decide +kernel
theorem rlen_le {w h : Nat} (w2 : 2 ≤ w) (w4 : w ≤ 4) (h2 : 2 ≤ h) (h4 : h ≤ 4) : rlen w h 2 + rlen w h 3 + rlen w h 4 ≤ 76 := by
  have h1 := List.all_eq_true.mp (List.all_eq_true.mp rlen_all w (List.mem_range.mpr (by omega))) h (List.mem_range.mpr (by omega))
  simpa [w2, h2] using h1
theorem rb_2 {w h : Nat} : rbase w h 2 = 0 := rfl
theorem rb_s {w h n : Nat} (hn : 2 ≤ n) : rbase w h (n + 1) = rbase w h n + rlen w h n := by
  match n, hn with
  | n + 2, _ => rfl
/-- the rows of a board, as lay writes them -/
def rwS (o : Nat) (τ : GSt) (w h : Nat) : GSt := up2 (wrL o (up2 (wrL o (up2 (wrL o (up2 τ (o + 4) 2 (nI (rbase w h 2))) (rbase w h 2) (rowsC w h 2 (w * h))) (o + 4) 3 (nI (rbase w h 3))) (rbase w h 3) (rowsC w h 3 (w * h))) (o + 4) 4 (nI (rbase w h 4))) (rbase w h 4) (rowsC w h 4 (w * h))) (o + 4) 5 (nI (rbase w h 5))
theorem rwS_row {o a w h : Nat} {τ : GSt} (h3 : a ≠ o + 3) (h4 : a ≠ o + 4) : rwS o τ w h a = τ a := by
  unfold rwS
  rw [up2_ne h4, wrL_row h3, up2_ne h4, wrL_row h3, up2_ne h4, wrL_row h3, up2_ne h4]
theorem rwS_from {o w h : Nat} {τ : GSt} (n : Nat) (h2 : 2 ≤ n) (h5 : n ≤ 5) : rwS o τ w h (o + 4) n = nI (rbase w h n) := by
  have e : ∀ l σ b, wrL o σ b l (o + 4) = σ (o + 4) := fun l σ b => wrL_row (by omega) l σ b
  have hn : n = 2 ∨ n = 3 ∨ n = 4 ∨ n = 5 := by omega
  rcases hn with rfl | rfl | rfl | rfl <;> simp [rwS, up2_app, e]
theorem rwS_at {o w h : Nat} {τ : GSt} (x : Nat) : rwS o τ w h (o + 3) x = if rbase w h 4 ≤ x ∧ x < rbase w h 4 + rlen w h 4 then (rowsC w h 4 (w * h)).getD (x - rbase w h 4) 0 else if rbase w h 3 ≤ x ∧ x < rbase w h 3 + rlen w h 3 then (rowsC w h 3 (w * h)).getD (x - rbase w h 3) 0 else if rbase w h 2 ≤ x ∧ x < rbase w h 2 + rlen w h 2 then (rowsC w h 2 (w * h)).getD (x - rbase w h 2) 0 else τ (o + 3) x := by
  have e : o + 3 ≠ o + 4 := by omega
  unfold rwS rlen
  rw [up2_ne e, wrL_at, up2_ne e, wrL_at, up2_ne e, wrL_at, up2_ne e]
/-- the tables of a board of w times h -/
def BoardOK (σ : GSt) (o w h : Nat) : Prop := (σ o 0 = nI w ∧ σ o 1 = nI h ∧ σ o 2 = nI (w * h)) ∧ (σ o 7 = jshl 1 (nI (w * h)) - 1 ∧ σ o 8 = jshl 1 (nI w) - 1 ∧ σ o 9 = jshl (jshl 1 (nI w) - 1) (nI (w * h) - nI w) ∧ σ o 10 = lftM w h ∧ σ o 11 = jshl (lftM w h) (nI w - 1)) ∧ NxtOK σ o w h ∧ (∀ c, c < w * h → σ (o + 2) (16 + c) = strM w h c 8 ∧ σ (o + 2) (32 + c) = aslM w h c 8 ∧ σ (o + 2) (48 + c) = strM w h c 8 ||| aslM w h c 8) ∧ (∀ n, 2 ≤ n → n ≤ 5 → σ (o + 4) n = nI (rbase w h n)) ∧ (∀ n, 2 ≤ n → n ≤ 4 → ∀ j, j < rlen w h n → σ (o + 3) (rbase w h n + j) = (rowsC w h n (w * h)).getD j 0)
theorem BoardOK.row {σ σ' : GSt} {o w h : Nat} (hB : BoardOK σ o w h) (hr : ∀ a, o ≤ a → a < o + 5 → σ' a = σ a) : BoardOK σ' o w h := by
  unfold BoardOK NxtOK at *
  rw [hr o (by omega) (by omega), hr (o + 1) (by omega) (by omega), hr (o + 2) (by omega) (by omega), hr (o + 3) (by omega) (by omega), hr (o + 4) (by omega) (by omega)]
  exact hB
theorem lay_ok {o w h : Nat} {σ : GSt} {Q : GSt → Prop} (ho : kd o = 0) (w2 : 2 ≤ w) (w4 : w ≤ 4) (h2 : 2 ≤ h) (h4 : h ≤ 4) (hQ : ∀ σ' : GSt, BoardOK σ' o w h → (∀ a, a < o ∨ o + 5 ≤ a → σ' a = σ a) → Q σ') : D_X0_lay o (nI w) (nI h) σ Q := by
  have h16 : w * h ≤ 16 := Nat.mul_le_mul w4 h4
  have hl : ln (o + 3) = 76 := (ly_0_5 ho).2
  have hb := rlen_le w2 w4 h2 h4
  have hb3 : rbase w h 3 = rbase w h 2 + rlen w h 2 := rb_s (by decide)
  have hb4 : rbase w h 4 = rbase w h 3 + rlen w h 3 := rb_s (by decide)
  have hb5 : rbase w h 5 = rbase w h 4 + rlen w h 4 := rb_s (by decide)
  have hb2 : rbase w h 2 = 0 := rfl
  unfold D_X0_lay D_X0_lay_0
  intro s1 e1 s2 e2 s3 e3
  rw [show nI w * nI h = nI (w * h) from pk_mul w h] at e3
  have a0 : s3 o 0 = nI w := by rw [e3, up2_app, if_neg (by omega), e2, up2_app, if_neg (by omega), e1, up2_app, if_pos ⟨rfl, rfl⟩]
  have a1 : s3 o 1 = nI h := by rw [e3, up2_app, if_neg (by omega), e2, up2_app, if_pos ⟨rfl, rfl⟩]
  have a2 : s3 o 2 = nI (w * h) := by rw [e3, up2_app, if_pos ⟨rfl, rfl⟩]
  have afr : ∀ a, a < o ∨ o + 5 ≤ a → s3 a = σ a := fun a ha => by rw [e3, up2_ne (by omega), e2, up2_ne (by omega), e1, up2_ne (by omega)]
  -- the rows, n by n
  have step : ∀ (n : Nat) (τ : GSt) (K : Int32 → Int32 → GSt → Prop), 2 ≤ n → n ≤ 4 → rbase w h n + rlen w h n ≤ 76 → τ o 2 = nI (w * h) → NxtOK τ o w h → K (nI (rbase w h (n + 1))) (nI (n + 1)) (wrL o (up2 τ (o + 4) n (nI (rbase w h n))) (rbase w h n) (rowsC w h n (w * h))) → D_X0_lay_47 K Q o (nI (rbase w h n)) (nI n) τ := by
    intro n τ K hn2 hn4 hbn t2 tN hK
    refine ⟨fun z => absurd z (nI_nlt (a := 4) (b := n) hn4 (by decide)), fun _ => ⟨vp_in_nI (by omega) (by decide), fun s es => ?_⟩⟩
    rw [nI_clamp (by omega)] at es
    subst es
    refine layRows_ok w2 w4 h2 h4 hl (fun c hc d hd => by rw [up2_ne (by omega)]; exact tN c hc d hd) (by rw [up2_ne (by omega)]; exact t2) hn4 hbn ?_
    intro x ex
    subst ex
    rw [nI_1 n]
    rw [rb_s hn2] at hK
    exact hK
  have rows : ∀ (τ : GSt), τ o 2 = nI (w * h) → NxtOK τ o w h → Q (rwS o τ w h) → ∃ n : Nat, L_X0_lay_47 Q o n 0 2 τ := by
    intro τ t2 tN hq
    refine ⟨4, ?_⟩
    have N1 : ∀ (τ : GSt) n v b l, NxtOK τ o w h → NxtOK (wrL o (up2 τ (o + 4) n v) b l) o w h := fun τ n v b l hN c hc d hd => by rw [wrL_row (by omega), up2_ne (by omega)]; exact hN c hc d hd
    have T1 : ∀ (τ : GSt) n v b l, τ o 2 = nI (w * h) → wrL o (up2 τ (o + 4) n v) b l o 2 = nI (w * h) := fun τ n v b l hN => by rw [wrL_row (by omega), up2_ne (by omega)]; exact hN
    refine step 2 τ _ (by decide) (by decide) (by omega) t2 tN ?_
    refine step 3 _ _ (by decide) (by decide) (by omega) (T1 _ _ _ _ _ t2) (N1 _ _ _ _ _ tN) ?_
    refine step 4 _ _ (by decide) (by decide) (by omega) (T1 _ _ _ _ _ (T1 _ _ _ _ _ t2)) (N1 _ _ _ _ _ (N1 _ _ _ _ _ tN)) ?_
    refine ⟨fun _ s es => ?_, fun z => absurd (by decide) z⟩
    subst es
    exact hq
  have fin : Q (rwS o (leF (lnAll s3 o w h (w * h)) o w h) w h) := by
    have r0 : ∀ k, lnAll s3 o w h (w * h) o k = s3 o k := fun k => by rw [lnAll_row (by omega) (by omega)]
    have l1 : ∀ a, a ≠ o → leF (lnAll s3 o w h (w * h)) o w h a = lnAll s3 o w h (w * h) a := fun a ha => by
      unfold leF
      rw [up2_ne ha, up2_ne ha, up2_ne ha, up2_ne ha, up2_ne ha]
    refine hQ _ ⟨⟨?_, ?_, ?_⟩, ⟨?_, ?_, ?_, ?_, ?_⟩, ?_, ?_, ?_, ?_⟩ ?_
    · rw [rwS_row (by omega) (by omega)]; simp [leF, up2_app, r0, a0]
    · rw [rwS_row (by omega) (by omega)]; simp [leF, up2_app, r0, a1]
    · rw [rwS_row (by omega) (by omega)]; simp [leF, up2_app, r0, a2]
    · rw [rwS_row (by omega) (by omega)]; simp [leF, up2_app]
    · rw [rwS_row (by omega) (by omega)]; simp [leF, up2_app]
    · rw [rwS_row (by omega) (by omega)]; simp [leF, up2_app]
    · rw [rwS_row (by omega) (by omega)]; simp [leF, up2_app]
    · rw [rwS_row (by omega) (by omega)]; simp [leF, up2_app]
    · intro c hc d hd
      rw [rwS_row (by omega) (by omega), l1 _ (by omega)]
      exact lnAll_nx _ c hc d hd
    · intro c hc
      rw [rwS_row (by omega) (by omega), l1 _ (by omega)]
      exact lnAll_nr _ h16 c hc
    · intro n hn2 hn5
      exact rwS_from n hn2 hn5
    · intro n hn2 hn4 j hj
      rw [rwS_at]
      have hn : n = 2 ∨ n = 3 ∨ n = 4 := by omega
      rcases hn with rfl | rfl | rfl
      · rw [if_neg (by omega), if_neg (by omega), if_pos (by omega), Nat.add_sub_cancel_left]
      · rw [if_neg (by omega), if_pos (by omega), Nat.add_sub_cancel_left]
      · rw [if_pos (by omega), Nat.add_sub_cancel_left]
    · intro a ha
      rw [rwS_row (by omega) (by omega), l1 _ (by omega), lnAll_row (by omega) (by omega)]
      exact afr a ha
  refine ⟨w * h + 1, ?_⟩
  have key : ∀ (e c : Nat), c + e = w * h → L_X0_lay_19 Q o (e + 1) (nI c) (lnAll s3 o w h c) := by
    intro e
    induction e with
    | zero =>
      intro c hc
      have hr : lnAll s3 o w h c o = s3 o := lnAll_row (by omega) (by omega) c
      unfold L_X0_lay_19 D_X0_lay_19
      rw [hr, a2]
      refine ⟨fun _ => ?_, fun z => absurd (nI_le (by omega) (by omega)) z⟩
      have hc' : c = w * h := by omega
      subst hc'
      refine layEdges_ok (w := w) (h := h) (by rw [hr]; exact a0) (by rw [hr]; exact a1) (by rw [hr]; exact a2) h4 w4 ?_
      have l1 : leF (lnAll s3 o w h (w * h)) o w h (o + 1) = lnAll s3 o w h (w * h) (o + 1) := by
        unfold leF
        rw [up2_ne (by omega), up2_ne (by omega), up2_ne (by omega), up2_ne (by omega), up2_ne (by omega)]
      refine rows _ ?_ ?_ fin
      · simp [leF, up2_app, hr, a2]
      · intro c hc d hd
        rw [l1]
        exact lnAll_nx _ c hc d hd
    | succ e ih =>
      intro c hc
      have hr : lnAll s3 o w h c o = s3 o := lnAll_row (by omega) (by omega) c
      unfold L_X0_lay_19 D_X0_lay_19
      rw [hr, a2]
      refine ⟨fun z => absurd z (nI_ge (by omega) (by omega)), fun _ => ?_⟩
      refine layNear_ok (by rw [hr]; exact a0) (by rw [hr]; exact a1) (by omega) w4 (by omega) ?_
      intro x ex
      subst ex
      rw [nI_1 c]
      exact ih (c + 1) (by omega)
  exact key (w * h) 0 (by omega)
