/-- the cell next to c in direction d -/
def nbO (w h c d : Nat) : Option Nat := if nbI w h c d < 0 then none else some (nbI w h c d).toNatClampNeg
theorem nbO_lt {w h c d k : Nat} (w2 : 2 ≤ w) (w4 : w ≤ 4) (h2 : 2 ≤ h) (h4 : h ≤ 4) (hc : c < w * h) (hd : d < 8) (e : nbO w h c d = some k) : k < w * h ∧ nbI w h c d = nI k := by
  have h16 : w * h ≤ 16 := Nat.mul_le_mul w4 h4
  rcases nb_rng w2 w4 h2 h4 hc hd with q | ⟨j, hj, q⟩
  · unfold nbO at e
    rw [q, if_pos (by decide)] at e
    exact absurd e (by simp)
  · unfold nbO at e
    rw [q, if_neg (nI_pos (by omega)), nI_clamp (by omega)] at e
    have e' : j = k := Option.some.inj e
    subst e'
    exact ⟨hj, q⟩
theorem nbO_none {w h c d : Nat} (w2 : 2 ≤ w) (w4 : w ≤ 4) (h2 : 2 ≤ h) (h4 : h ≤ 4) (hc : c < w * h) (hd : d < 8) (e : nbO w h c d = none) : nbI w h c d = -1 := by
  have h16 : w * h ≤ 16 := Nat.mul_le_mul w4 h4
  rcases nb_rng w2 w4 h2 h4 hc hd with q | ⟨j, hj, q⟩
  · exact q
  · unfold nbO at e
    rw [q, if_neg (nI_pos (by omega))] at e
    exact absurd e (by simp)
def strD (d : Nat) : Bool := d == 1 || d == 3 || d == 4 || d == 6
/-- whether a MOVE of that number has the direction d -/
def dOk (num : Int32) (d : Nat) : Bool := num == 3 || (num == 1 && strD d) || (num == 2 && !strD d)
def nearM (w h c : Nat) (num : Nat) : Int32 := if num = 1 then strM w h c 8 else if num = 2 then aslM w h c 8 else strM w h c 8 ||| aslM w h c 8
def nearB (w h c : Nat) (num : Int32) (x : Nat) : Bool := (List.range 8).any fun d => dOk num d && nbO w h c d == some x
theorem near_all : ((List.range 5).all fun w => (List.range 5).all fun h => (List.range 16).all fun c => [1, 2, 3].all fun num => !(decide (2 ≤ w) && decide (2 ≤ h) && decide (c < w * h)) || nearM w h c num == mask (nearB w h c (nI num))) = true := by decide +kernel
theorem near_ok {w h c num : Nat} (w2 : 2 ≤ w) (w4 : w ≤ 4) (h2 : 2 ≤ h) (h4 : h ≤ 4) (hc : c < w * h) (hn : num = 1 ∨ num = 2 ∨ num = 3) : nearM w h c num = mask (nearB w h c (nI num)) := by
  have h16 : w * h ≤ 16 := Nat.mul_le_mul w4 h4
  have h1 := List.all_eq_true.mp (List.all_eq_true.mp (List.all_eq_true.mp (List.all_eq_true.mp near_all w (List.mem_range.mpr (by omega))) h (List.mem_range.mpr (by omega))) c (List.mem_range.mpr (by omega))) num (by simp; omega)
  simpa [w2, h2, hc] using h1
theorem all_ok0 : ((List.range 5).all fun w => (List.range 5).all fun h => !(decide (2 ≤ w) && decide (2 ≤ h)) || (jshl 1 (nI (w * h)) - 1 == mask (fun c => decide (c < w * h)) && jshl 1 (nI w) - 1 == mask (fun c => decide (c < w * h ∧ c / w = 0)) && jshl (jshl 1 (nI w) - 1) (nI (w * h) - nI w) == mask (fun c => decide (c < w * h ∧ c / w = h - 1)) && lftM w h == mask (fun c => decide (c < w * h ∧ c % w = 0)) && jshl (lftM w h) (nI w - 1) == mask (fun c => decide (c < w * h ∧ c % w = w - 1)))) = true := by decide +kernel
theorem edges_ok {w h : Nat} (w2 : 2 ≤ w) (w4 : w ≤ 4) (h2 : 2 ≤ h) (h4 : h ≤ 4) : jshl 1 (nI (w * h)) - 1 = mask (fun c => decide (c < w * h)) ∧ jshl 1 (nI w) - 1 = mask (fun c => decide (c < w * h ∧ c / w = 0)) ∧ jshl (jshl 1 (nI w) - 1) (nI (w * h) - nI w) = mask (fun c => decide (c < w * h ∧ c / w = h - 1)) ∧ lftM w h = mask (fun c => decide (c < w * h ∧ c % w = 0)) ∧ jshl (lftM w h) (nI w - 1) = mask (fun c => decide (c < w * h ∧ c % w = w - 1)) := by
  have h1 := List.all_eq_true.mp (List.all_eq_true.mp all_ok0 w (List.mem_range.mpr (by omega))) h (List.mem_range.mpr (by omega))
  simp only [w2, h2, decide_true, Bool.and_self, Bool.not_true, Bool.false_or, Bool.and_eq_true, beq_iff_eq] at h1
  obtain ⟨⟨⟨⟨k1, k2⟩, k3⟩, k4⟩, k5⟩ := h1
  exact ⟨k1, k2, k3, k4, k5⟩
/-- different directions lead to different cells; and back -/
theorem nb_inj0 : ((List.range 5).all fun w => (List.range 5).all fun h => (List.range 16).all fun c => (List.range 8).all fun d => (List.range 8).all fun e => !(decide (2 ≤ w) && decide (2 ≤ h) && decide (c < w * h)) || (d == e || nbO w h c d == none || nbO w h c d != nbO w h c e)) = true := by decide +kernel
theorem nb_inj {w h c d e x : Nat} (w2 : 2 ≤ w) (w4 : w ≤ 4) (h2 : 2 ≤ h) (h4 : h ≤ 4) (hc : c < w * h) (hd : d < 8) (he : e < 8) (h1 : nbO w h c d = some x) (h2' : nbO w h c e = some x) : d = e := by
  have h16 : w * h ≤ 16 := Nat.mul_le_mul w4 h4
  have q := List.all_eq_true.mp (List.all_eq_true.mp (List.all_eq_true.mp (List.all_eq_true.mp (List.all_eq_true.mp nb_inj0 w (List.mem_range.mpr (by omega))) h (List.mem_range.mpr (by omega))) c (List.mem_range.mpr (by omega))) d (List.mem_range.mpr hd)) e (List.mem_range.mpr he)
  simpa [w2, h2, hc, h1, h2'] using q
/-- two steps in different directions lead to different cells -/
def nbO2 (w h c d : Nat) : Option Nat := match nbO w h c d with
  | none => none
  | some x => nbO w h x d
theorem nb2_inj0 : ((List.range 5).all fun w => (List.range 5).all fun h => (List.range 16).all fun c => (List.range 8).all fun d => (List.range 8).all fun e => !(decide (2 ≤ w) && decide (2 ≤ h) && decide (c < w * h)) || (d == e || nbO2 w h c d == none || nbO2 w h c d != nbO2 w h c e)) = true := by decide +kernel
theorem nb2_inj {w h c d e x : Nat} (w2 : 2 ≤ w) (w4 : w ≤ 4) (h2 : 2 ≤ h) (h4 : h ≤ 4) (hc : c < w * h) (hd : d < 8) (he : e < 8) (h1 : nbO2 w h c d = some x) (h2' : nbO2 w h c e = some x) : d = e := by
  have h16 : w * h ≤ 16 := Nat.mul_le_mul w4 h4
  have q := List.all_eq_true.mp (List.all_eq_true.mp (List.all_eq_true.mp (List.all_eq_true.mp (List.all_eq_true.mp nb2_inj0 w (List.mem_range.mpr (by omega))) h (List.mem_range.mpr (by omega))) c (List.mem_range.mpr (by omega))) d (List.mem_range.mpr hd)) e (List.mem_range.mpr he)
  simpa [w2, h2, hc, h1, h2'] using q
/-- the cells c with f c among c .. c + d - 1, rising -/
def fl (f : Nat → Bool) : Nat → Nat → List Nat
  | 0, _ => []
  | d + 1, c => if f c then c :: fl f d (c + 1) else fl f d (c + 1)
theorem fl_nil {f : Nat → Bool} : ∀ d c, (∀ j, c ≤ j → j < c + d → f j = false) → fl f d c = []
  | 0, _, _ => rfl
  | d + 1, c, h => by
    unfold fl
    rw [h c (Nat.le_refl _) (by omega)]
    exact fl_nil d (c + 1) (fun j h1 h2 => h j (by omega) (by omega))
theorem fl_congr {f g : Nat → Bool} : ∀ d c, (∀ j, c ≤ j → j < c + d → f j = g j) → fl f d c = fl g d c
  | 0, _, _ => rfl
  | d + 1, c, h => by
    unfold fl
    rw [h c (Nat.le_refl _) (by omega), fl_congr d (c + 1) (fun j h1 h2 => h j (by omega) (by omega))]
theorem fl_len {f : Nat → Bool} : ∀ d c, (fl f d c).length = cntF f d c
  | 0, _ => rfl
  | d + 1, c => by
    unfold fl cntF
    have := fl_len (f := f) d (c + 1)
    split <;> simp <;> omega
theorem fl_mem {f : Nat → Bool} {x : Nat} : ∀ d c, x ∈ fl f d c ↔ (c ≤ x ∧ x < c + d ∧ f x = true)
  | 0, c => by
    simp only [fl, List.not_mem_nil, false_iff]
    omega
  | d + 1, c => by
    have ih := fl_mem (f := f) (x := x) d (c + 1)
    unfold fl
    by_cases hf : f c = true
    · rw [if_pos hf, List.mem_cons, ih]
      constructor
      · rintro (rfl | ⟨h1, h2, h3⟩)
        · exact ⟨Nat.le_refl _, by omega, hf⟩
        · exact ⟨by omega, by omega, h3⟩
      · rintro ⟨h1, h2, h3⟩
        by_cases e : x = c
        · exact Or.inl e
        · exact Or.inr ⟨by omega, by omega, h3⟩
    · rw [if_neg hf, ih]
      constructor
      · rintro ⟨h1, h2, h3⟩
        exact ⟨by omega, by omega, h3⟩
      · rintro ⟨h1, h2, h3⟩
        have e : x ≠ c := fun e => hf (e ▸ h3)
        exact ⟨by omega, by omega, h3⟩
theorem fl_s {f : Nat → Bool} (d c : Nat) : fl f (d + 1) c = if f c then c :: fl f d (c + 1) else fl f d (c + 1) := rfl
theorem fl_app {f : Nat → Bool} : ∀ d e c, fl f (d + e) c = fl f d c ++ fl f e (c + d)
  | 0, e, c => by simp [fl]
  | d + 1, e, c => by
    have ih := fl_app (f := f) d e (c + 1)
    rw [show d + 1 + e = (d + e) + 1 by omega, fl_s, fl_s, ih, show c + 1 + d = c + (d + 1) by omega]
    split <;> simp
/-- one cell more -/
theorem fl_ins {f : Nat → Bool} {x : Nat} (hx : x < 16) (hf : f x = false) : fl f 16 0 = fl f x 0 ++ fl f (15 - x) (x + 1) ∧ fl (fun c => f c || decide (c = x)) 16 0 = fl f x 0 ++ x :: fl f (15 - x) (x + 1) := by
  have e : 16 = x + ((15 - x) + 1) := by omega
  constructor
  · rw [e, fl_app, Nat.zero_add]
    congr 1
    conv => lhs; unfold fl
    rw [hf]
    rfl
  · rw [e, fl_app, Nat.zero_add]
    congr 1
    · exact fl_congr _ _ (fun j h1 h2 => by simp; omega)
    · conv => lhs; unfold fl
      simp only [decide_true, Bool.or_true, if_true]
      congr 1
      exact fl_congr _ _ (fun j h1 h2 => by simp; omega)
theorem cnt_ins {f : Nat → Bool} {x : Nat} : ∀ d c, cntF (fun j => f j || decide (j = x)) d c ≤ cntF f d c + (if c ≤ x then 1 else 0)
  | 0, _ => by simp [cntF]
  | d + 1, c => by
    have ih := cnt_ins (f := f) (x := x) d (c + 1)
    unfold cntF
    by_cases e : c = x
    · subst e
      rw [if_neg (show ¬ c + 1 ≤ c by omega)] at ih
      simp only [decide_true, Bool.or_true, if_true, Nat.le_refl]
      split <;> omega
    · simp only [decide_eq_false e, Bool.or_false]
      have : (if c + 1 ≤ x then 1 else 0) ≤ (if c ≤ x then 1 else 0) := by split <;> split <;> omega
      omega
