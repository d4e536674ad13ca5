theorem bitBehind_ok {o w h c x d0 : Nat} {σ : GSt} {Q : Int32 → GSt → Prop} (w2 : 2 ≤ w) (w4 : w ≤ 4) (h2 : 2 ≤ h) (h4 : h ≤ 4) (hc : c < w * h) (hd : d0 < 8) (hN : NxtOK σ o w h) (hx : nbO w h c d0 = some x) (hQ0 : nbO w h x d0 = none → Q 0 σ) (hQ1 : ∀ y, nbO w h x d0 = some y → Q (jshl 1 (nI y)) σ) : D_X0_bitBehind o (nI c) (nI x) σ Q := by
  have h16 : w * h ≤ 16 := Nat.mul_le_mul w4 h4
  obtain ⟨xl, ex⟩ := nbO_lt w2 w4 h2 h4 hc hd hx
  refine ⟨d0 + 1, ?_⟩
  have key : ∀ (e d : Nat), d + e = d0 → L_X0_bitBehind_2 Q o (e + 1) (nI c) (nI x) (nI d) σ := by
    intro e
    induction e with
    | zero =>
      intro d hd'
      have : d = d0 := by omega
      subst this
      unfold L_X0_bitBehind_2 D_X0_bitBehind_2
      rw [show (8 : Int32) * nI c + nI d = nI (8 * c + d) from nlin 8 c d, show (8 : Int32) * nI x + nI d = nI (8 * x + d) from nlin 8 x d, nI_clamp (show 8 * c + d < 2 ^ 31 by omega), nI_clamp (show 8 * x + d < 2 ^ 31 by omega), hN c hc d hd, hN x xl d hd]
      refine ⟨fun z => absurd z (nI_ge (b := 8) hd (by decide)), fun _ => ⟨vp_in_nI (by omega) (by decide), fun z => absurd ex z, fun _ => ⟨vp_in_nI (by omega) (by decide), fun x4 e4 => ?_⟩⟩⟩
      cases hy : nbO w h x d with
      | none =>
        rw [nbO_none w2 w4 h2 h4 xl hd hy] at e4
        subst e4
        exact ⟨fun z => absurd z (by decide), fun _ => hQ0 hy⟩
      | some y =>
        obtain ⟨yl, ey⟩ := nbO_lt w2 w4 h2 h4 xl hd hy
        rw [ey] at e4
        subst e4
        exact ⟨fun _ => hQ1 y hy, fun z => absurd (nI_pos' (by omega)) z⟩
    | succ e ih =>
      intro d hd'
      have d8 : d < 8 := by omega
      unfold L_X0_bitBehind_2 D_X0_bitBehind_2
      rw [show (8 : Int32) * nI c + nI d = nI (8 * c + d) from nlin 8 c d, nI_clamp (show 8 * c + d < 2 ^ 31 by omega), hN c hc d d8]
      refine ⟨fun z => absurd z (nI_ge (b := 8) d8 (by decide)), fun _ => ⟨vp_in_nI (by omega) (by decide), fun _ y ey => ?_, fun z => ?_⟩⟩
      · subst ey
        rw [nI_1 d]
        exact ih (d + 1) (by omega)
      · exfalso
        have : nbO w h c d = some x := by
          unfold nbO
          rw [z, if_neg (nI_pos (by omega)), nI_clamp (by omega)]
        have := nb_inj w2 w4 h2 h4 hc d8 hd this hx
        omega
  exact key d0 0 (by omega)
/-- whether the pieces f hold a row of n -/
def rowB (w h n : Nat) (f : Nat → Bool) : Bool := (rowsC w h n (w * h)).any fun row => mask f &&& row == row
theorem hasRow_ok {o w h n : Nat} {f : Nat → Bool} {σ : GSt} {Q : Int32 → GSt → Prop} (w2 : 2 ≤ w) (w4 : w ≤ 4) (h2 : 2 ≤ h) (h4 : h ≤ 4) (n2 : 2 ≤ n) (n4 : n ≤ 4) (hB : BoardOK σ o w h) (h1 : rowB w h n f = true → Q 1 σ) (h0 : rowB w h n f = false → Q 0 σ) : D_X0_hasRow o (mask f) (nI n) σ Q := by
  have hb := rlen_le w2 w4 h2 h4
  have hb3 : rbase w h 3 = rbase w h 2 + rlen w h 2 := rb_s (by decide)
  have hb4 : rbase w h 4 = rbase w h 3 + rlen w h 3 := rb_s (by decide)
  have hb5 : rbase w h 5 = rbase w h 4 + rlen w h 4 := rb_s (by decide)
  have hb2 : rbase w h 2 = 0 := rfl
  have hle : rbase w h n + rlen w h n ≤ 76 := by
    have hn : n = 2 ∨ n = 3 ∨ n = 4 := by omega
    rcases hn with rfl | rfl | rfl <;> omega
  have key : ∀ (d j : Nat), j + d = rlen w h n → (((rowsC w h n (w * h)).drop j).any (fun row => mask f &&& row == row) = true → Q 1 σ) → (((rowsC w h n (w * h)).drop j).any (fun row => mask f &&& row == row) = false → Q 0 σ) → L_X0_hasRow_19 Q o (d + 1) (mask f) (nI n) (nI (rbase w h n + j)) σ := by
    intro d
    induction d with
    | zero =>
      intro j hj h1 h0
      unfold L_X0_hasRow_19 D_X0_hasRow_19
      rw [nI_1 n, nI_clamp (show n + 1 < 2 ^ 31 by omega), hB.2.2.2.2.1 (n + 1) (by omega) (by omega), rb_s n2]
      rw [List.drop_of_length_le (by have : rlen w h n = (rowsC w h n (w * h)).length := rfl; omega)] at h0
      exact ⟨vp_in_nI (by omega) (by decide), fun _ => h0 rfl, fun z => absurd (nI_le (by omega) (by omega)) z⟩
    | succ d ih =>
      intro j hj h1 h0
      unfold L_X0_hasRow_19 D_X0_hasRow_19
      rw [nI_1 n, nI_clamp (show n + 1 < 2 ^ 31 by omega), hB.2.2.2.2.1 (n + 1) (by omega) (by omega), rb_s n2, nI_clamp (show rbase w h n + j < 2 ^ 31 by omega), hB.2.2.2.2.2 n n2 n4 j (by omega)]
      have hl : j < (rowsC w h n (w * h)).length := by have : rlen w h n = (rowsC w h n (w * h)).length := rfl; omega
      obtain ⟨row, hr⟩ : ∃ r, (rowsC w h n (w * h))[j]? = some r := ⟨_, List.getElem?_eq_getElem hl⟩
      have hg : (rowsC w h n (w * h)).getD j 0 = row := by rw [List.getD_eq_getElem?_getD, hr]; rfl
      rw [hg]
      rw [drop_cons hr, List.any_cons] at h1 h0
      refine ⟨vp_in_nI (by omega) (by decide), fun z => absurd z (nI_ge (by omega) (by omega)), fun _ => ⟨vp_in_nI (by omega) (by decide), vp_in_nI (by omega) (by decide), fun q x ex => ?_, fun q => h1 (by simp [q])⟩⟩
      subst ex
      rw [nI_1]
      have qf : (mask f &&& row == row) = false := by simpa using q
      rw [qf, Bool.false_or] at h1 h0
      exact ih (j + 1) (by omega) h1 h0
  refine ⟨fun z => absurd z (nI_nlt (b := 2) n2 (by omega)), fun _ => ⟨fun _ => ⟨vp_in_nI (by omega) (by decide), fun x3 e3 => ⟨rlen w h n + 1, ?_⟩⟩, fun z => absurd (nI_le (b := 4) n4 (by decide)) z⟩⟩
  rw [nI_clamp (by omega), hB.2.2.2.2.1 n n2 (by omega)] at e3
  subst e3
  exact key (rlen w h n) 0 (by omega) (by rw [List.drop_zero]; exact h1) (by rw [List.drop_zero]; exact h0)
theorem shl_all : ∀ k, k < 32 → ((nI k &&& 31).toBitVec.smod 32).toNat = k := by decide +kernel
theorem bt_shl {x : Int32} {k c : Nat} (hk : k < 32) (hc : c < 32) : bt (jshl x (nI k)) c = (decide (k ≤ c) && bt x (c - k)) := by
  have e := pk_shl x (nI k &&& 31) k (shl_all k hk)
  show (jshl x (nI k)).toBitVec.toNat.testBit c = (decide (k ≤ c) && x.toBitVec.toNat.testBit (c - k))
  unfold jshl
  rw [e, Nat.testBit_mod_two_pow, decide_eq_true hc, Bool.true_and, Nat.testBit_mul_two_pow]
/-- one step of the ways: the pieces f that lie beside those reached -/
def gr (w : Nat) (f R : Nat → Bool) (c : Nat) : Bool := f c && (R c || (decide (c % w ≠ 0) && R (c - 1)) || (decide (c % w ≠ w - 1) && R (c + 1)) || (decide (w ≤ c) && R (c - w)) || R (c + w))
def itR (w : Nat) (f R : Nat → Bool) : Nat → Nat → Bool
  | 0 => R
  | n + 1 => gr w f (itR w f R n)
theorem mods0 : ((List.range 5).all fun w => (List.range 5).all fun h => (List.range 16).all fun c => !(decide (2 ≤ w) && decide (2 ≤ h) && decide (c < w * h)) || ((decide (1 ≤ c) && !decide (c - 1 < w * h ∧ (c - 1) % w = w - 1)) == decide (c % w ≠ 0) && (!(decide (c + 1 < w * h)) || (!decide (c + 1 < w * h ∧ (c + 1) % w = 0)) == decide (c % w ≠ w - 1)))) = true := by decide +kernel
theorem mods {w h c : Nat} (w2 : 2 ≤ w) (w4 : w ≤ 4) (h2 : 2 ≤ h) (h4 : h ≤ 4) (hc : c < w * h) : (decide (1 ≤ c) && !decide (c - 1 < w * h ∧ (c - 1) % w = w - 1)) = decide (c % w ≠ 0) ∧ (c + 1 < w * h → (!decide (c + 1 < w * h ∧ (c + 1) % w = 0)) = decide (c % w ≠ w - 1)) := by
  have h16 : w * h ≤ 16 := Nat.mul_le_mul w4 h4
  have q := List.all_eq_true.mp (List.all_eq_true.mp (List.all_eq_true.mp mods0 w (List.mem_range.mpr (by omega))) h (List.mem_range.mpr (by omega))) c (List.mem_range.mpr (by omega))
  simp only [w2, h2, hc, decide_true, Bool.and_self, Bool.not_true, Bool.false_or, Bool.and_eq_true, beq_iff_eq, Bool.or_eq_true] at q
  refine ⟨q.1, fun hh => ?_⟩
  rcases q.2 with z | z
  · rw [decide_eq_true hh] at z
    exact absurd z (by decide)
  · exact z
theorem gr_mask {w h : Nat} {f R : Nat → Bool} (w2 : 2 ≤ w) (w4 : w ≤ 4) (h2 : 2 ≤ h) (h4 : h ≤ 4) (hf : ∀ c, w * h ≤ c → f c = false) (hR : ∀ c, w * h ≤ c → R c = false) : mask f &&& (((mask R ||| ((jshl (mask R &&& (mask (fun c => decide (c < w * h ∧ c % w = w - 1)) ^^^ (-1))) 1) ||| (jushr (mask R &&& (mask (fun c => decide (c < w * h ∧ c % w = 0)) ^^^ (-1))) 1))) ||| (jshl (mask R) (nI w))) ||| (jushr (mask R) (nI w))) = mask (gr w f R) := by
  have h16 : w * h ≤ 16 := Nat.mul_le_mul w4 h4
  refine bt_ext (fun c hc => ?_)
  rw [mask_andn, mask_andn, bt_and, bt_or, bt_or, bt_or, bt_or, show (1 : Int32) = nI 1 from rfl, bt_shl (by decide) hc, bt_ush (by decide), bt_shl (by omega) hc, bt_ush (by omega)]
  by_cases c16 : c < w * h
  · rw [bt_mask hc, bt_mask hc, bt_mask hc, decide_eq_true (show c < 16 by omega), Bool.true_and, Bool.true_and, Bool.true_and]
    obtain ⟨m1, m2⟩ := mods w2 w4 h2 h4 c16
    have e1 : (decide (1 ≤ c) && bt (mask fun c => R c && !decide (c < w * h ∧ c % w = w - 1)) (c - 1)) = (decide (c % w ≠ 0) && R (c - 1)) := by
      rw [bt_mask (by omega), decide_eq_true (show c - 1 < 16 by omega), Bool.true_and, ← m1]
      cases decide (1 ≤ c) <;> simp [Bool.and_comm]
    have e2 : bt (mask fun c => R c && !decide (c < w * h ∧ c % w = 0)) (c + 1) = (decide (c % w ≠ w - 1) && R (c + 1)) := by
      by_cases q : c + 1 < w * h
      · rw [bt_mask (by omega), decide_eq_true (show c + 1 < 16 by omega), Bool.true_and, m2 q, Bool.and_comm]
      · rw [bt_mask (by omega), hR (c + 1) (by omega)]
        simp
    have e3 : (decide (w ≤ c) && bt (mask R) (c - w)) = (decide (w ≤ c) && R (c - w)) := by
      rw [bt_mask (by omega), decide_eq_true (show c - w < 16 by omega), Bool.true_and]
    have e4 : bt (mask R) (c + w) = R (c + w) := by
      rw [bt_mask (by omega)]
      by_cases q : c + w < 16
      · rw [decide_eq_true q, Bool.true_and]
      · rw [hR (c + w) (by omega), Bool.and_false]
    rw [e1, e2, e3, e4]
    unfold gr
    rw [← Bool.or_assoc (R c)]
  · rw [bt_mask hc, bt_mask (f := gr w f R) hc, hf c (by omega)]
    unfold gr
    rw [hf c (by omega)]
    simp
theorem itR_out {w h : Nat} {f R : Nat → Bool} (hf : ∀ c, w * h ≤ c → f c = false) (hR : ∀ c, w * h ≤ c → R c = false) : ∀ n c, w * h ≤ c → itR w f R n c = false
  | 0, c, hc => hR c hc
  | n + 1, c, hc => by
    show gr w f _ c = false
    unfold gr
    rw [hf c hc]
    rfl
theorem itR_fix {w : Nat} {f R : Nat → Bool} {j : Nat} (h : itR w f R (j + 1) = itR w f R j) : ∀ m, itR w f R (j + m) = itR w f R j
  | 0 => rfl
  | m + 1 => by
    show gr w f (itR w f R (j + m)) = _
    rw [itR_fix h m]
    exact h
/-- whether the pieces f join both edges: from the highest row to the lowest (v), from the left to the right (not v) -/
def ed0 (w h : Nat) (v : Bool) (c : Nat) : Bool := if v then decide (c < w * h ∧ c / w = 0) else decide (c < w * h ∧ c % w = 0)
def ed1 (w h : Nat) (v : Bool) (c : Nat) : Bool := if v then decide (c < w * h ∧ c / w = h - 1) else decide (c < w * h ∧ c % w = w - 1)
def wayB (w h : Nat) (f : Nat → Bool) (v : Bool) : Bool := (List.range 16).any fun c => itR w f (fun c => f c && ed0 w h v c) (w * h) c && ed1 w h v c
theorem hasWay_ok {o w h : Nat} {f : Nat → Bool} {v : Bool} {x2 : Int32} {σ : GSt} {Q : Int32 → GSt → Prop} (w2 : 2 ≤ w) (w4 : w ≤ 4) (h2 : 2 ≤ h) (h4 : h ≤ 4) (hf : ∀ c, w * h ≤ c → f c = false) (hB : BoardOK σ o w h) (hv : x2 = if v then 0 else 1) (h1 : wayB w h f v = true → Q 1 σ) (h0 : wayB w h f v = false → Q 0 σ) : D_X0_hasWay o (mask f) x2 σ Q := by
  have h16 : w * h ≤ 16 := Nat.mul_le_mul w4 h4
  obtain ⟨k1, k2, k3, k4, k5⟩ := edges_ok w2 w4 h2 h4
  have hR0 : ∀ c, w * h ≤ c → (f c && ed0 w h v c) = false := fun c hc => by rw [hf c hc]; rfl
  have fin : ∀ R : Nat → Bool, (∀ c, R c = itR w f (fun c => f c && ed0 w h v c) (w * h) c) → D_X0_hasWay_120 Q o (mask (ed1 w h v)) (mask R) σ := by
    intro R hR
    unfold D_X0_hasWay_120
    rw [mask_and, mask_eq0]
    refine ⟨fun q => h0 ?_, fun q => h1 ?_⟩
    · unfold wayB
      rw [List.any_eq_false]
      intro c hc
      rw [← hR c, q c (List.mem_range.mp hc)]
      decide
    · cases hw : wayB w h f v
      · exfalso
        apply q
        intro c hc
        unfold wayB at hw
        rw [List.any_eq_false] at hw
        have := hw c (List.mem_range.mpr hc)
        rw [← hR c] at this
        simpa using this
      · rfl
  have key : ∀ (d j : Nat), j + d = w * h → L_X0_hasWay_41 Q o (d + 1) (mask f) (mask (ed1 w h v)) (mask (itR w f (fun c => f c && ed0 w h v c) j)) (nI j) σ := by
    intro d
    induction d with
    | zero =>
      intro j hj
      unfold L_X0_hasWay_41 D_X0_hasWay_41
      rw [hB.1.2.2]
      refine ⟨fun _ => fin _ (fun c => by rw [show j = w * h by omega]), fun z => absurd (nI_le (by omega) (by omega)) z⟩
    | succ d ih =>
      intro j hj
      unfold L_X0_hasWay_41 D_X0_hasWay_41
      rw [hB.1.2.2, hB.2.1.2.2.2.1, hB.2.1.2.2.2.2, hB.1.1, k5, k4]
      refine ⟨fun z => absurd z (nI_ge (by omega) (by omega)), fun _ x7 e7 x8 e8 => ?_⟩
      rw [e7, gr_mask w2 w4 h2 h4 hf (itR_out hf hR0 j)] at e8
      subst e8
      refine ⟨fun _ x ex => ?_, fun q => ?_⟩
      · subst ex
        rw [nI_1 j]
        exact ih (j + 1) (by omega)
      · have e : itR w f (fun c => f c && ed0 w h v c) (j + 1) = itR w f (fun c => f c && ed0 w h v c) j := by
          funext c
          by_cases c16 : c < 16
          · have := congrArg (fun m => bt m c) q
            rw [bt_mask (by omega), bt_mask (by omega), decide_eq_true c16, Bool.true_and, Bool.true_and] at this
            exact this
          · rw [itR_out hf hR0 (j + 1) c (by omega), itR_out hf hR0 j c (by omega)]
        refine fin _ (fun c => ?_)
        rw [← itR_fix e (w * h - j), show j + (w * h - j) = w * h by omega]
  have go : ∃ n : Nat, L_X0_hasWay_41 Q o n (mask f) (mask (ed1 w h v)) (mask (fun c => f c && ed0 w h v c)) 0 σ := ⟨w * h + 1, key (w * h) 0 (by omega)⟩
  unfold D_X0_hasWay D_X0_hasWay_0
  rw [hB.2.1.2.1, hB.2.1.2.2.2.1, k2, k4]
  cases v with
  | true =>
    subst hv
    refine ⟨fun z => absurd rfl z, fun _ => ⟨fun z => absurd rfl z, fun _ x5 e5 => ?_⟩⟩
    rw [mask_and] at e5
    subst e5
    rw [hB.2.1.2.2.1, k3]
    exact go
  | false =>
    subst hv
    refine ⟨fun _ => ⟨fun _ x5 e5 => ?_, fun z => absurd z (by decide)⟩, fun z => absurd z (by decide)⟩
    rw [mask_and] at e5
    subst e5
    rw [hB.2.1.2.2.2.2, k5]
    exact go
