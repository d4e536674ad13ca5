theorem up2_app (σ : GSt) (o k : Nat) (v : Int32) (a j : Nat) : up2 σ o k v a j = if a = o ∧ j = k then v else σ a j := by
  unfold up2 upd
  by_cases h : a = o
  · subst h
    by_cases h2 : j = k <;> simp [h2]
  · simp [h]
theorem vp_lt {i : Int32} {n : Nat} (h : vp_in i n) : i.toNatClampNeg < n := Nat.not_le.mp fun q => h (Or.inr q)
theorem i32_lt {x y : Int32} : x < y ↔ x.toInt < y.toInt := Int32.lt_iff_toInt_lt
theorem i32_le {x y : Int32} : x ≤ y ↔ x.toInt ≤ y.toInt := Int32.le_iff_toInt_le
theorem i32_eq {x y : Int32} : x = y ↔ x.toInt = y.toInt := Int32.toInt_inj.symm
theorem i32_nlt {x y : Int32} (h : ¬ x < y) : y ≤ x := Int32.not_lt.mp h
theorem i32_nle {x y : Int32} (h : ¬ x ≤ y) : y < x := Int32.not_le.mp h
theorem wide_lt {x y : Int32} : x.toInt64 < y.toInt64 ↔ x < y := by
  rw [Int64.lt_iff_toInt_lt, Int32.lt_iff_toInt_lt, Int32.toInt_toInt64, Int32.toInt_toInt64]
theorem wide_le {x y : Int32} : x.toInt64 ≤ y.toInt64 ↔ x ≤ y := by
  rw [Int64.le_iff_toInt_le, Int32.le_iff_toInt_le, Int32.toInt_toInt64, Int32.toInt_toInt64]
/-- a number between told bounds is a small natural -/
theorem i32_of {x : Int32} {n : Nat} (hn : n < 2 ^ 31) (h0 : 0 ≤ x) (h1 : x ≤ nI n) : ∃ k : Nat, k ≤ n ∧ x = nI k := nI_of2 (M := nI n) (nI_toInt hn) (fun q => absurd (i32_lt.mp q) (by have := i32_le.mp h0; have e : (0 : Int32).toInt = 0 := rfl; omega)) h1
def isRf (x : Int32) : Prop := x = -1 ∨ x = -2 ∨ x = -3 ∨ x = -4 ∨ x = -5 ∨ x = -6
theorem isRf.vp {x : Int32} (h : isRf x) : vp_in (-x) 7 := by
  rcases h with rfl | rfl | rfl | rfl | rfl | rfl <;> (unfold vp_in; decide)
def rfC (σ : GSt) (x : Int32) : GSt := up2 σ 60 (Int32.toNatClampNeg (-x)) (σ 60 (Int32.toNatClampNeg (-x)) + 1)
def rfM (σ : GSt) (x : Int32) : GSt := up2 σ 238 (Int32.toNatClampNeg (-x)) (σ 238 (Int32.toNatClampNeg (-x)) + 1)
theorem refuse_ok {x : Int32} {σ : GSt} {Q : Int32 → GSt → Prop} (hx : isRf x) (h : Q x (rfC σ x)) : D_X10_refuse x σ Q := ⟨hx.vp, hx.vp, fun _ e => e ▸ h⟩
theorem no_ok {x : Int32} {σ : GSt} {Q : Int32 → GSt → Prop} (hx : isRf x) (h : Q x (rfM σ x)) : D_X11_no x σ Q := ⟨hx.vp, hx.vp, fun _ e => e ▸ h⟩
theorem out_ok {x lo hi : Int32} {l h : Int64} {σ : GSt} {Q : Int32 → GSt → Prop} (el : l = lo.toInt64) (eh : h = hi.toInt64) (h1 : x < lo → Q (-4) σ) (h2 : ¬ x < lo → hi < x → Q (-6) σ) (h3 : ¬ x < lo → ¬ hi < x → Q 0 σ) : D_X11_out x.toInt64 l h σ Q := by
  subst el
  subst eh
  refine ⟨fun q => ⟨fun r => ?_, fun r => ?_⟩, fun q => ?_⟩
  · rw [lg_cmp_ge, wide_le] at q
    rw [lg_cmp_le, wide_le] at r
    exact h3 (Int32.not_lt.mpr q) (Int32.not_lt.mpr r)
  · rw [lg_cmp_ge, wide_le] at q
    rw [lg_cmp_le, wide_le] at r
    exact h2 (Int32.not_lt.mpr q) (i32_nle r)
  · rw [lg_cmp_ge, wide_le] at q
    exact h1 (i32_nle q)
theorem isIn_ok {x lo hi : Int32} {l h : Int64} {σ : GSt} {Q : Int32 → GSt → Prop} (el : l = lo.toInt64) (eh : h = hi.toInt64) (h1 : lo ≤ x → x ≤ hi → Q 1 σ) (h2 : ¬ (lo ≤ x ∧ x ≤ hi) → Q 0 σ) : D_X11_isIn x.toInt64 l h σ Q := by
  subst el
  subst eh
  refine ⟨fun q => ?_, fun q => ⟨fun r => ?_, fun r => ?_⟩⟩
  · rw [lg_cmp_lt, wide_lt] at q
    exact h2 (fun t => absurd q (Int32.not_lt.mpr t.1))
  · rw [lg_cmp_gt, wide_lt] at r
    exact h2 (fun t => absurd r (Int32.not_lt.mpr t.2))
  · rw [lg_cmp_lt, wide_lt] at q
    rw [lg_cmp_gt, wide_lt] at r
    exact h1 (i32_nlt q) (i32_nlt r)
def InvR (σ : GSt) : Prop := ∀ k, k < 7 → σ 60 k = σ 238 k
def InvN (σ : GSt) : Prop := ∀ k, k < 17 → σ 58 k = σ 277 k ∧ σ 59 k = σ 278 k
theorem rf_row (σ : GSt) (x : Int32) (a : Nat) (h1 : a ≠ 60) (h2 : a ≠ 238) : rfM (rfC σ x) x a = σ a := by
  funext j
  simp [rfM, rfC, up2_app, h1, h2]
theorem InvR.rf {σ : GSt} {x : Int32} (h : InvR σ) (hx : isRf x) : InvR (rfM (rfC σ x) x) := by
  intro k hk
  have h0 := h _ (vp_lt hx.vp)
  have h1 := h k hk
  by_cases e : k = Int32.toNatClampNeg (-x)
  · subst e
    simp [rfM, rfC, up2_app, h0]
  · simp [rfM, rfC, up2_app, e, h1]
theorem InvN.rf {σ : GSt} {x : Int32} (h : InvN σ) : InvN (rfM (rfC σ x) x) := by
  intro k hk
  rw [rf_row _ _ _ (by decide) (by decide), rf_row _ _ _ (by decide) (by decide), rf_row _ _ _ (by decide) (by decide), rf_row _ _ _ (by decide) (by decide)]
  exact h k hk
theorem niche_step {σ : GSt} {x1 : Int32} {Inv : GSt → Prop} (hN : InvN σ) (hI : Inv σ) (hrf : ∀ x, isRf x → Inv (rfM (rfC σ x) x)) : D_X10_niche x1 σ (fun r1 σ1 => D_X11_niche x1 σ1 (fun r2 σ2 => r1 = r2 ∧ Inv σ2)) := by
  unfold D_X10_niche D_X10_niche_0 D_X11_niche D_X11_niche_0
  refine ⟨fun q => ⟨fun r => ?_, fun r => ?_⟩, fun q => ?_⟩
  · obtain ⟨k, hk, rfl⟩ := i32_of (n := 16) (by decide) (by rw [i32_le] at *; have e : (4 : Int32).toInt = 4 := rfl; have e2 : (0 : Int32).toInt = 0 := rfl; omega) r
    have hv : vp_in (nI k) 17 := vp_in_nI (by omega) (by decide)
    refine ⟨hv, ?_⟩
    refine out_ok (lo := 4) (hi := 16) rfl rfl (fun t => absurd q (Int32.not_le.mpr t)) (fun _ t => absurd r (Int32.not_le.mpr t)) (fun _ _ => ⟨fun _ => ⟨hv, ?_, hI⟩, fun t => absurd rfl t⟩)
    rw [nI_clamp (by omega)]
    exact (hN k (by omega)).1
  · refine refuse_ok (by simp [isRf]) ?_
    refine out_ok (lo := 4) (hi := 16) rfl rfl (fun t => absurd q (Int32.not_le.mpr t)) (fun _ t => ⟨fun t => absurd t (by decide), fun _ => no_ok (by simp [isRf]) ⟨rfl, hrf _ (by simp [isRf])⟩⟩) (fun _ t => absurd (i32_nle r) t)
  · refine refuse_ok (by simp [isRf]) ?_
    refine out_ok (lo := 4) (hi := 16) rfl rfl (fun t => ⟨fun t => absurd t (by decide), fun _ => no_ok (by simp [isRf]) ⟨rfl, hrf _ (by simp [isRf])⟩⟩) (fun t => absurd (i32_nle q) t) (fun t => absurd (i32_nle q) t)
