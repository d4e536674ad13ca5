def anyF (f : Nat → Bool) : Nat → Nat → Bool
  | 0, _ => false
  | d + 1, c => f c || anyF f d (c + 1)
theorem anyF_iff {f : Nat → Bool} : ∀ d c, anyF f d c = true ↔ ∃ j, c ≤ j ∧ j < c + d ∧ f j = true
  | 0, c => by
    simp only [anyF, Bool.false_eq_true, false_iff]
    rintro ⟨j, h1, h2, -⟩
    omega
  | d + 1, c => by
    unfold anyF
    rw [Bool.or_eq_true, anyF_iff d (c + 1)]
    constructor
    · rintro (h | ⟨j, h1, h2, h3⟩)
      · exact ⟨c, Nat.le_refl _, by omega, h⟩
      · exact ⟨j, by omega, by omega, h3⟩
    · rintro ⟨j, h1, h2, h3⟩
      by_cases e : j = c
      · subst e; exact Or.inl h3
      · exact Or.inr ⟨j, by omega, by omega, h3⟩
/-- the k-th cell from c on along the way y -/
def lnC (w h c y k : Nat) : Option Nat := loc w h (jrem (nI c) (nI w) + nI k * eastF y) (nI c / nI w + nI k * southF y)
def lnA (w h : Nat) (P : Nat → Nat) (s c y : Nat) : Nat → Nat → Bool
  | 0, _ => true
  | r + 1, k => (cA P (lnC w h c y k) == nI s) && lnA w h P s c y r (k + 1)
def rowM (w h n : Nat) (P : Nat → Nat) (s : Nat) : Bool := anyF (fun c => anyF (fun y => lnA w h P s c y n 0) 8 0) (w * h) 0
theorem hasRowM_ok {σ : GSt} {g dd s n : Nat} {G : GM} {P : Nat → Nat} {Q : Int32 → GSt → Prop} (hG : GOK G) (h : MB σ g G) (d9 : dd < 9) (hn : n ≤ 4) (hC : CL σ dd P) (h1 : rowM (gW G) (gH G) n P s = true → Q 1 σ) (h0 : rowM (gW G) (gH G) n P s = false → Q 0 σ) : D_X11_hasRow (nI dd) (nI n) (nI s) σ Q := by
  obtain ⟨⟨w2, w4, h2, h4⟩, -⟩ := id hG
  have h16 : gW G * gH G ≤ 16 := Nat.mul_le_mul w4 h4
  have w0 : ¬ nI (gW G) = 0 := nI_ne0 (by omega) (by omega)
  refine ⟨gW G * gH G + 1, ?_⟩
  have key : ∀ (d c : Nat), c + d = gW G * gH G → (anyF (fun c => anyF (fun y => lnA (gW G) (gH G) P s c y n 0) 8 0) d c = true → Q 1 σ) → (anyF (fun c => anyF (fun y => lnA (gW G) (gH G) P s c y n 0) 8 0) d c = false → Q 0 σ) → L_X11_hasRow_3 Q (d + 1) (nI dd) (nI n) (nI s) (nI c) σ := by
    intro d
    induction d with
    | zero =>
      intro c hc h1 h0
      unfold L_X11_hasRow_3 D_X11_hasRow_3
      exact cells_ok h ⟨fun _ => h0 rfl, fun z => absurd (nI_le (by omega) (by omega)) z⟩
    | succ d ih =>
      intro c hc h1 h0
      unfold L_X11_hasRow_3 D_X11_hasRow_3
      refine cells_ok h ⟨fun z => absurd z (nI_ge (by omega) (by omega)), fun _ => ⟨9, ?_⟩⟩
      have way : ∀ (r y : Nat), y + r = 8 → ((anyF (fun y => lnA (gW G) (gH G) P s c y n 0) r y || anyF (fun c => anyF (fun y => lnA (gW G) (gH G) P s c y n 0) 8 0) d (c + 1)) = true → Q 1 σ) → ((anyF (fun y => lnA (gW G) (gH G) P s c y n 0) r y || anyF (fun c => anyF (fun y => lnA (gW G) (gH G) P s c y n 0) 8 0) d (c + 1)) = false → Q 0 σ) → L_X11_hasRow_15 (L_X11_hasRow_3 Q (d + 1)) Q (r + 1) (nI dd) (nI n) (nI s) (nI c) (nI y) σ := by
        intro r
        induction r with
        | zero =>
          intro y hy g1 g0
          refine ⟨fun _ x ex => ?_, fun z => absurd (nI_le (a := 8) (by omega) (by omega)) z⟩
          rw [ex, nI_1 c]
          exact ih (c + 1) (by omega) g1 g0
        | succ r ihr =>
          intro y hy g1 g0
          have y8 : y < 8 := by omega
          refine ⟨fun z => absurd z (nI_ge (b := 8) y8 (by decide)), fun _ => ⟨n + 1, ?_⟩⟩
          obtain ⟨ve, vs⟩ := h.2.2.2.2.2 y y8
          have vy : vp_in (nI y) 8 := vp_in_nI y8 (by decide)
          have line : ∀ (u k : Nat), k + u = n → (((lnA (gW G) (gH G) P s c y u k || anyF (fun y => lnA (gW G) (gH G) P s c y n 0) r (y + 1)) || anyF (fun c => anyF (fun y => lnA (gW G) (gH G) P s c y n 0) 8 0) d (c + 1)) = true → Q 1 σ) → (((lnA (gW G) (gH G) P s c y u k || anyF (fun y => lnA (gW G) (gH G) P s c y n 0) r (y + 1)) || anyF (fun c => anyF (fun y => lnA (gW G) (gH G) P s c y n 0) 8 0) d (c + 1)) = false → Q 0 σ) → L_X11_hasRow_25 (L_X11_hasRow_3 Q (d + 1)) (L_X11_hasRow_15 (L_X11_hasRow_3 Q (d + 1)) Q (r + 1)) Q (u + 1) (nI dd) (nI n) (nI s) (nI c) (nI y) (nI k) σ := by
            intro u
            induction u with
            | zero =>
              intro k hk f1 f0
              refine ⟨fun _ => ⟨fun z => absurd (show nI k = nI n by rw [show k = n by omega]) z, fun _ => f1 rfl⟩, fun z => absurd (nI_le (by omega) (by omega)) z⟩
            | succ u ihu =>
              intro k hk f1 f0
              unfold L_X11_hasRow_25 D_X11_hasRow_25
              rw [h.gi, h.2.1.1, nI_clamp (show y < 2 ^ 31 by omega), ve, vs]
              refine ⟨fun z => absurd z (nI_ge (by omega) (by omega)), fun _ => ⟨h.vp, w0, vy, h.vp, w0, vy, cellAt_ok hG h d9 hC ?_⟩⟩
              have eb : lnA (gW G) (gH G) P s c y (u + 1) k = ((cA P (lnC (gW G) (gH G) c y k) == nI s) && lnA (gW G) (gH G) P s c y u (k + 1)) := rfl
              rw [eb] at f1 f0
              refine ⟨fun q => ⟨fun _ x ex => ?_, fun z => absurd ((nI_eq (by omega) (by omega)).mp z) (by omega)⟩, fun q x ex => ?_⟩
              · have q' : (cA P (lnC (gW G) (gH G) c y k) == nI s) = false := beq_eq_false_iff_ne.mpr q
                rw [q', Bool.false_and, Bool.false_or] at f1 f0
                rw [ex, nI_1 y]
                exact ihr (y + 1) (by omega) f1 f0
              · have q' : (cA P (lnC (gW G) (gH G) c y k) == nI s) = true := beq_iff_eq.mpr q
                rw [q', Bool.true_and] at f1 f0
                rw [ex, nI_1 k]
                exact ihu (k + 1) (by omega) f1 f0
          exact line n 0 (by omega) g1 g0
      exact way 8 0 rfl h1 h0
  exact key (gW G * gH G) 0 (by omega) h1 h0
theorem rowsD_mem {w h n c : Nat} {row : Int32} : ∀ k, k ≤ 4 → (row ∈ rowsD w h n c k ↔ ∃ d, 8 - k ≤ d ∧ d < 8 ∧ row = rowR w h d n (nI c) 0 ∧ row ≠ 0)
  | 0, _ => by
    simp only [rowsD, List.not_mem_nil, false_iff]
    rintro ⟨d, h1, h2, -⟩
    omega
  | k + 1, hk => by
    have ih := rowsD_mem (w := w) (h := h) (n := n) (c := c) (row := row) k (by omega)
    unfold rowsD
    by_cases z : rowR w h (7 - k) n (nI c) 0 = 0
    · rw [if_pos z, ih]
      constructor
      · rintro ⟨d, h1, h2, h3⟩
        exact ⟨d, by omega, h2, h3⟩
      · rintro ⟨d, h1, h2, h3, h5⟩
        by_cases e : d = 7 - k
        · rw [e, z] at h3
          exact absurd h3 h5
        · exact ⟨d, by omega, h2, h3, h5⟩
    · rw [if_neg z, List.mem_cons, ih]
      constructor
      · rintro (h1 | ⟨d, h1, h2, h3⟩)
        · exact ⟨7 - k, by omega, by omega, h1, by rw [h1]; exact z⟩
        · exact ⟨d, by omega, h2, h3⟩
      · rintro ⟨d, h1, h2, h3, h5⟩
        by_cases e : d = 7 - k
        · rw [e] at h3
          exact Or.inl h3
        · exact Or.inr ⟨d, by omega, h2, h3, h5⟩
theorem rowsC_mem {w h n : Nat} {row : Int32} : ∀ k, k ≤ w * h → (row ∈ rowsC w h n k ↔ ∃ c d, w * h - k ≤ c ∧ c < w * h ∧ 4 ≤ d ∧ d < 8 ∧ row = rowR w h d n (nI c) 0 ∧ row ≠ 0)
  | 0, _ => by
    simp only [rowsC, List.not_mem_nil, false_iff]
    rintro ⟨c, d, h1, h2, -⟩
    omega
  | k + 1, hk => by
    have ih := rowsC_mem (w := w) (h := h) (n := n) (row := row) k (by omega)
    have e : rowsC w h n (k + 1) = rowsD w h n (w * h - (k + 1)) 4 ++ rowsC w h n k := rfl
    rw [e, List.mem_append, ih, rowsD_mem 4 (Nat.le_refl _)]
    constructor
    · rintro (⟨d, h1, h2, h3⟩ | ⟨c, d, h1, h2, h3⟩)
      · exact ⟨w * h - (k + 1), d, by omega, by omega, by omega, h2, h3⟩
      · exact ⟨c, d, by omega, h2, h3⟩
    · rintro ⟨c, d, h1, h2, h3, h5, h6⟩
      by_cases e : c = w * h - (k + 1)
      · subst e
        exact Or.inl ⟨d, by omega, h5, h6⟩
      · exact Or.inr ⟨c, d, by omega, h2, h3, h5, h6⟩
/-- the line of n cells from c on along the way y, as bits -/
def lnM (w h c y n : Nat) : Option Int32 := if (List.range n).all (fun k => (lnC w h c y k).isSome) then some (mask fun z => (List.range n).any fun k => lnC w h c y k == some z) else none
def piI (d : Nat) : Nat := [7, 0, 4, 3, 1, 6, 2, 5].getD d 0
theorem ln_all : ((List.range 5).all fun w => (List.range 5).all fun h => (List.range 16).all fun c => !(decide (2 ≤ w) && decide (2 ≤ h) && decide (c < w * h)) || (List.range 8).all fun y => [2, 3, 4].all fun n => (List.range 4).all (fun k => match lnC w h c y k with | none => true | some z => decide (z < w * h)) && (if 4 ≤ piD y then rowR w h (piD y) n (nI c) 0 == (lnM w h c y n).getD 0 && lnM w h c y n != some 0 else match lnM w h c y n with | none => true | some m => match lnC w h c y (n - 1) with | none => false | some x => rowR w h (7 - piD y) n (nI x) 0 == m && m != 0)) = true := by decide +kernel
theorem ln_ok {w h c y n : Nat} (w2 : 2 ≤ w) (w4 : w ≤ 4) (h2 : 2 ≤ h) (h4 : h ≤ 4) (hc : c < w * h) (hy : y < 8) (hn : n = 2 ∨ n = 3 ∨ n = 4) : (∀ k z, k < 4 → lnC w h c y k = some z → z < w * h) ∧ (4 ≤ piD y → rowR w h (piD y) n (nI c) 0 = (lnM w h c y n).getD 0 ∧ lnM w h c y n ≠ some 0) ∧ (¬ 4 ≤ piD y → ∀ m, lnM w h c y n = some m → ∃ x, lnC w h c y (n - 1) = some x ∧ rowR w h (7 - piD y) n (nI x) 0 = m ∧ m ≠ 0) := by
  have h16 : w * h ≤ 16 := Nat.mul_le_mul w4 h4
  have q := List.all_eq_true.mp (List.all_eq_true.mp (List.all_eq_true.mp ln_all w (List.mem_range.mpr (by omega))) h (List.mem_range.mpr (by omega))) c (List.mem_range.mpr (by omega))
  simp only [w2, h2, hc, decide_true, Bool.and_self, Bool.not_true, Bool.false_or] at q
  have q2 := List.all_eq_true.mp (List.all_eq_true.mp q y (List.mem_range.mpr hy)) n (by simp; omega)
  rw [Bool.and_eq_true] at q2
  refine ⟨fun k z hk hz => ?_, fun h4 => ?_, fun h4 m hm => ?_⟩
  · have := List.all_eq_true.mp q2.1 k (List.mem_range.mpr hk)
    rw [hz] at this
    exact of_decide_eq_true this
  · have := q2.2
    rw [if_pos h4, Bool.and_eq_true, beq_iff_eq, bne_iff_ne] at this
    exact this
  · have := q2.2
    rw [if_neg h4, hm] at this
    simp only at this
    cases hx : lnC w h c y (n - 1) with
    | none => rw [hx] at this; simp at this
    | some x =>
      rw [hx] at this
      simp only [Bool.and_eq_true, beq_iff_eq, bne_iff_ne] at this
      exact ⟨x, rfl, this⟩
theorem lnA_iff {w h : Nat} {P : Nat → Nat} {s c y : Nat} : ∀ r k, lnA w h P s c y r k = true ↔ ∀ j, k ≤ j → j < k + r → cA P (lnC w h c y j) = nI s
  | 0, k => by
    simp only [lnA, true_iff]
    intro j h1 h2
    omega
  | r + 1, k => by
    unfold lnA
    rw [Bool.and_eq_true, beq_iff_eq, lnA_iff r (k + 1)]
    constructor
    · rintro ⟨h1, h2⟩ j h3 h5
      by_cases e : j = k
      · rw [e]; exact h1
      · exact h2 j (by omega) (by omega)
    · intro h1
      exact ⟨h1 k (Nat.le_refl _) (by omega), fun j h2 h3 => h1 j (by omega) (by omega)⟩
theorem cA_iff {P : Nat → Nat} {s : Nat} {o : Option Nat} (hs : s < 100) (hP : ∀ c, P c ≤ 2) : cA P o = nI s ↔ ∃ z, o = some z ∧ P z = s := by
  cases o with
  | none =>
    constructor
    · intro h
      exfalso
      have h' : (-1 : Int32) = nI s := h
      have := congrArg Int32.toInt h'
      rw [nI_toInt (by omega)] at this
      have e1 : ((-1 : Int32)).toInt = -1 := rfl
      omega
    · rintro ⟨z, h, -⟩
      exact absurd h (by simp)
  | some c =>
    have := hP c
    constructor
    · intro h
      exact ⟨c, rfl, (nI_eq (by omega) (by omega)).mp h⟩
    · rintro ⟨z, h, h2⟩
      have : c = z := Option.some.inj h
      subst this
      show nI (P c) = nI s
      rw [h2]
theorem mask_sub {f g : Nat → Bool} : mask f &&& mask g = mask g ↔ ∀ c, c < 16 → g c = true → f c = true := by
  rw [mask_and]
  constructor
  · intro h c hc hg
    have := congrArg (fun m => bt m c) h
    rw [bt_mask (by omega), bt_mask (by omega), decide_eq_true hc, Bool.true_and, Bool.true_and, hg, Bool.and_true] at this
    exact this
  · intro h
    refine mask_congr (fun c hc => ?_)
    cases hg : g c
    · rw [Bool.and_false]
    · rw [h c hc hg]
      rfl
/-- the line holds pieces of s alone -/
theorem lnM_iff {w h : Nat} {P : Nat → Nat} {s c y n : Nat} {m : Int32} (hs : s < 100) (hP : ∀ c, P c ≤ 2) (w4 : w * h ≤ 16) (hb : ∀ k z, k < n → lnC w h c y k = some z → z < w * h) (hm : lnM w h c y n = some m) : lnA w h P s c y n 0 = true ↔ mask (pc P s) &&& m = m := by
  unfold lnM at hm
  split at hm
  · rename_i hall
    have hm' := Option.some.inj hm
    rw [← hm', mask_sub, lnA_iff]
    constructor
    · intro h1 z hz hg
      rw [List.any_eq_true] at hg
      obtain ⟨k, hk, e⟩ := hg
      have e' := eq_of_beq e
      obtain ⟨z', h3, h5⟩ := (cA_iff hs hP).mp (h1 k (Nat.zero_le _) (by have := List.mem_range.mp hk; omega))
      rw [e'] at h3
      have := Option.some.inj h3
      rw [this]
      exact decide_eq_true h5
    · intro h1 j h3 h5
      have := List.all_eq_true.mp hall j (List.mem_range.mpr (by omega))
      cases hz : lnC w h c y j with
      | none => rw [hz] at this; exact absurd this (by decide)
      | some z =>
        have zl := hb j z (by omega) hz
        have hp := h1 z (by omega) (by
          rw [List.any_eq_true]
          exact ⟨j, List.mem_range.mpr (by omega), by rw [hz]; exact beq_self_eq_true _⟩)
        have hp' : P z = s := of_decide_eq_true hp
        show nI (P z) = nI s
        rw [hp']
  · exact absurd hm (by simp)
theorem lnM_none {w h : Nat} {P : Nat → Nat} {s c y n : Nat} (hs : s < 100) (hP : ∀ c, P c ≤ 2) (hm : lnM w h c y n = none) : lnA w h P s c y n 0 = false := by
  cases hl : lnA w h P s c y n 0
  · rfl
  · exfalso
    rw [lnA_iff] at hl
    unfold lnM at hm
    split at hm
    · exact absurd hm (by simp)
    · rename_i hall
      apply hall
      rw [List.all_eq_true]
      intro k hk
      obtain ⟨z, h3, -⟩ := (cA_iff hs hP).mp (hl k (Nat.zero_le _) (by have := List.mem_range.mp hk; omega))
      rw [h3]
      rfl
theorem piI_ok : ∀ d, d < 8 → piI d < 8 ∧ piD (piI d) = d := by decide
theorem rowM_eq {w h : Nat} {P : Nat → Nat} {s n : Nat} (w2 : 2 ≤ w) (w4 : w ≤ 4) (h2 : 2 ≤ h) (h4 : h ≤ 4) (hs : s < 100) (hn : n = 2 ∨ n = 3 ∨ n = 4) (hP : ∀ c, P c ≤ 2) : rowM w h n P s = rowB w h n (pc P s) := by
  have h16 : w * h ≤ 16 := Nat.mul_le_mul w4 h4
  rw [Bool.eq_iff_iff]
  unfold rowM rowB
  rw [anyF_iff, List.any_eq_true]
  constructor
  · rintro ⟨c, -, hc, hy⟩
    rw [anyF_iff] at hy
    obtain ⟨y, -, hy8, hl⟩ := hy
    obtain ⟨l1, l2, l3⟩ := ln_ok (n := n) w2 w4 h2 h4 (by omega : c < w * h) (by omega : y < 8) hn
    cases hm : lnM w h c y n with
    | none =>
      rw [lnM_none hs hP hm] at hl
      exact absurd hl (by decide)
    | some m =>
      have hsub := (lnM_iff hs hP h16 (fun k z hk hz => l1 k z (by omega) hz) hm).mp hl
      refine ⟨m, ?_, by rw [hsub]; exact beq_self_eq_true _⟩
      rw [rowsC_mem _ (Nat.le_refl _)]
      have p8 := piD_lt y (by omega)
      by_cases q : 4 ≤ piD y
      · obtain ⟨a, b⟩ := l2 q
        rw [hm] at a b
        exact ⟨c, piD y, by omega, by omega, q, p8, a.symm, fun z => b (by rw [z])⟩
      · obtain ⟨x, hx, a, b⟩ := l3 q m hm
        have xl := l1 (n - 1) x (by omega) hx
        exact ⟨x, 7 - piD y, by omega, xl, by omega, by omega, a.symm, b⟩
  · rintro ⟨row, hr, hsub⟩
    rw [rowsC_mem _ (Nat.le_refl _)] at hr
    obtain ⟨c, d, -, hc, hd4, hd8, e, ne⟩ := hr
    obtain ⟨y8, ey⟩ := piI_ok d hd8
    obtain ⟨l1, l2, -⟩ := ln_ok (n := n) w2 w4 h2 h4 hc y8 hn
    rw [ey] at l2
    obtain ⟨a, b⟩ := l2 hd4
    cases hm : lnM w h c (piI d) n with
    | none =>
      rw [hm] at a
      rw [a] at e
      exact absurd e ne
    | some m =>
      rw [hm] at a
      have em : row = m := e.trans a
      refine ⟨c, Nat.zero_le _, by omega, ?_⟩
      rw [anyF_iff]
      refine ⟨piI d, Nat.zero_le _, by omega, ?_⟩
      rw [lnM_iff hs hP h16 (fun k z hk hz => l1 k z (by omega) hz) hm, ← em]
      exact eq_of_beq hsub
