theorem enc_all : ((List.range 6).all fun k => (List.range 100).all fun f => !(decide (f < 16) || f == 99) || (List.range 16).all fun t => jushr (enc (k, f, t)) 16 == nI k && (jushr (enc (k, f, t)) 8 &&& 255) == nI f && (enc (k, f, t) &&& 255) == nI t && 10000 * jushr (enc (k, f, t)) 16 + 100 * (jushr (enc (k, f, t)) 8 &&& 255) + (enc (k, f, t) &&& 255) == nI (10000 * k + 100 * f + t)) = true := by decide +kernel
theorem enc_ok {k f t : Nat} (hk : k < 6) (hf : f < 16 ∨ f = 99) (ht : t < 16) : jushr (enc (k, f, t)) 16 = nI k ∧ (jushr (enc (k, f, t)) 8 &&& 255) = nI f ∧ (enc (k, f, t) &&& 255) = nI t ∧ 10000 * jushr (enc (k, f, t)) 16 + 100 * (jushr (enc (k, f, t)) 8 &&& 255) + (enc (k, f, t) &&& 255) = nI (10000 * k + 100 * f + t) := by
  have q := List.all_eq_true.mp (List.all_eq_true.mp enc_all k (List.mem_range.mpr hk)) f (List.mem_range.mpr (by omega))
  have hq : (!(decide (f < 16) || f == 99)) = false := by
    rcases hf with z | z
    · simp [z]
    · simp [z]
  rw [hq, Bool.false_or] at q
  have q2 := List.all_eq_true.mp q t (List.mem_range.mpr ht)
  simp only [Bool.and_eq_true, beq_iff_eq] at q2
  exact ⟨q2.1.1.1, q2.1.1.2, q2.1.2, q2.2⟩
theorem own_mask {w h : Nat} {P : Nat → Nat} {s : Nat} {kind : Int32} {f t : Nat} (w2 : 2 ≤ w) (w4 : w ≤ 4) (h2 : 2 ≤ h) (h4 : h ≤ 4) (hs : 1 ≤ s ∧ s ≤ 2) (hL : LM w h P s kind f t) (k0 : kind ≠ 0) : mask (fun c => (pc P s c || decide (c = t)) && !decide (c = f)) = mask (pc (mvP w h P s kind f t) s) := by
  obtain ⟨fl', pf, tl, tf, d, hd, hc⟩ := LM_dir w2 w4 h2 h4 hs hL k0
  refine mask_congr (fun c hc16 => ?_)
  unfold pc mvP
  by_cases e1 : c = t
  · subst e1
    rw [if_pos rfl]
    simp [tf]
  · rw [if_neg e1]
    by_cases e2 : c = f
    · subst e2
      rw [if_pos ⟨k0, rfl⟩]
      simp
      omega
    · rw [if_neg (fun z => e2 z.2)]
      simp only [decide_eq_false e1, decide_eq_false e2, Bool.or_false, Bool.not_false, Bool.and_true]
      rcases hc with ⟨k, -⟩ | ⟨k, -⟩ | ⟨k, -, -, hb, hy⟩ | ⟨k, x, -, -, px, -, -, hm, -⟩
      · rw [if_neg (by rw [k]; exact fun z => absurd z.1 (by decide)), if_neg (by rw [k]; exact fun z => absurd z.1 (by decide))]
      · rw [if_neg (by rw [k]; exact fun z => absurd z.1 (by decide)), if_neg (by rw [k]; exact fun z => absurd z.1 (by decide))]
      · rw [if_neg (by rw [k]; exact fun z => absurd z.1 (by decide))]
        split
        · rename_i z
          have := (hy c (hb ▸ z.2)).1
          rw [this]
          apply decide_eq_decide.mpr
          omega
        · rfl
      · rw [hm]
        split
        · rename_i z
          rw [z.2, px]
          apply decide_eq_decide.mpr
          omega
        · rw [if_neg (by rw [k]; exact fun z => absurd z.1 (by decide))]
theorem oth_mask {w h : Nat} {P : Nat → Nat} {s : Nat} {kind : Int32} {f t : Nat} (w2 : 2 ≤ w) (w4 : w ≤ 4) (h2 : 2 ≤ h) (h4 : h ≤ 4) (hs : 1 ≤ s ∧ s ≤ 2) (hL : LM w h P s kind f t) (g : Nat → Bool)
    (hg : ∀ c, g c = if kind = 2 then (pc P (3 - s) c && !decide (c = (f + t) / 2)) else if kind = 3 then (pc P (3 - s) c && !decide (c = t)) else if kind = 4 then ((pc P (3 - s) c && !decide (c = t)) || decide (bhO w h f t = some c)) else pc P (3 - s) c) : mask g = mask (pc (mvP w h P s kind f t) (3 - s)) := by
  refine mask_congr (fun c hc16 => ?_)
  rw [hg c]
  by_cases k0 : kind = 0
  · rcases hL with ⟨-, ef, tl, pt⟩ | ⟨z, -⟩
    · unfold pc mvP
      rw [k0, if_neg (by decide), if_neg (by decide), if_neg (by decide), if_neg (show ¬ (((0 : Int32) ≠ 0) ∧ c = f) from fun z => z.1 rfl), if_neg (show ¬ ((0 : Int32) = 2 ∧ c = (f + t) / 2) from fun z => absurd z.1 (by decide)), if_neg (show ¬ ((0 : Int32) = 4 ∧ bhO w h f t = some c) from fun z => absurd z.1 (by decide))]
      by_cases e1 : c = t
      · subst e1
        rw [if_pos rfl, pt]
        apply decide_eq_decide.mpr
        omega
      · rw [if_neg e1]
    · rw [k0] at z
      exact absurd z (by decide)
  · obtain ⟨fl', pf, tl, tf, d, hd, hc⟩ := LM_dir w2 w4 h2 h4 hs hL k0
    unfold pc mvP
    rcases hc with ⟨k, -, pt⟩ | ⟨k, -, pt⟩ | ⟨k, -, pt, hb, hy⟩ | ⟨k, x, -, -, px, -, pt, hm, xf, xt⟩
    · subst k
      rw [if_neg (by decide), if_neg (by decide), if_neg (by decide), if_neg (show ¬ ((1 : Int32) = 2 ∧ c = (f + t) / 2) from fun z => absurd z.1 (by decide)), if_neg (show ¬ ((1 : Int32) = 4 ∧ bhO w h f t = some c) from fun z => absurd z.1 (by decide))]
      apply decide_eq_decide.mpr
      by_cases e1 : c = t
      · rw [if_pos e1, e1, pt]; omega
      · rw [if_neg e1]
        by_cases e2 : c = f
        · rw [if_pos ⟨k0, e2⟩, e2, pf]; omega
        · rw [if_neg (fun z => e2 z.2)]
    · subst k
      rw [if_neg (by decide), if_pos rfl, if_neg (show ¬ ((3 : Int32) = 2 ∧ c = (f + t) / 2) from fun z => absurd z.1 (by decide)), if_neg (show ¬ ((3 : Int32) = 4 ∧ bhO w h f t = some c) from fun z => absurd z.1 (by decide))]
      by_cases e1 : c = t
      · rw [if_pos e1, decide_eq_true e1, Bool.not_true, Bool.and_false]
        symm
        apply decide_eq_false
        omega
      · rw [if_neg e1, decide_eq_false e1, Bool.not_false, Bool.and_true]
        apply decide_eq_decide.mpr
        by_cases e2 : c = f
        · rw [if_pos ⟨k0, e2⟩, e2, pf]; omega
        · rw [if_neg (fun z => e2 z.2)]
    · subst k
      rw [if_neg (by decide), if_neg (by decide), if_pos rfl, if_neg (show ¬ ((4 : Int32) = 2 ∧ c = (f + t) / 2) from fun z => absurd z.1 (by decide))]
      by_cases e1 : c = t
      · have nb : ¬ bhO w h f t = some c := fun z => (hy c (hb ▸ z)).2.2.2 e1
        rw [if_pos e1, decide_eq_true e1, Bool.not_true, Bool.and_false, decide_eq_false nb]
        symm
        apply decide_eq_false
        omega
      · rw [if_neg e1, decide_eq_false e1, Bool.not_false, Bool.and_true]
        by_cases e2 : c = f
        · have nb : ¬ bhO w h f t = some c := fun z => (hy c (hb ▸ z)).2.2.1 e2
          rw [if_pos ⟨k0, e2⟩, decide_eq_false nb, Bool.or_false]
          apply decide_eq_decide.mpr
          rw [e2, pf]; omega
        · rw [if_neg (fun z => e2 z.2)]
          by_cases e3 : bhO w h f t = some c
          · rw [if_pos ⟨rfl, e3⟩, decide_eq_true e3, Bool.or_true]
            simp
          · rw [if_neg (fun z => e3 z.2), decide_eq_false e3, Bool.or_false]
    · subst k
      rw [if_pos rfl, if_neg (show ¬ ((2 : Int32) = 4 ∧ bhO w h f t = some c) from fun z => absurd z.1 (by decide)), hm]
      by_cases e1 : c = t
      · rw [if_pos e1, e1, pt]
        have : ¬ (0 = 3 - s) := by omega
        rw [decide_eq_false this, Bool.false_and]
        symm
        apply decide_eq_false
        omega
      · rw [if_neg e1]
        by_cases e2 : c = f
        · rw [if_pos ⟨k0, e2⟩, e2, pf]
          have : ¬ (s = 3 - s) := by omega
          rw [decide_eq_false this, Bool.false_and]
          symm
          apply decide_eq_false
          omega
        · rw [if_neg (fun z => e2 z.2)]
          by_cases e3 : c = x
          · rw [if_pos ⟨rfl, e3⟩, decide_eq_true e3, Bool.not_true, Bool.and_false]
            symm
            apply decide_eq_false
            omega
          · rw [if_neg (fun z => e3 z.2), decide_eq_false e3, Bool.not_false, Bool.and_true]
theorem shift_ok {w h o i k f t : Nat} {P : Nat → Nat} {dn : Nat} {mv : List RuT} {e : RuT} {σ : GSt} {Q : GSt → Prop} (w2 : 2 ≤ w) (w4 : w ≤ 4) (h2 : 2 ≤ h) (h4 : h ≤ 4) (h6 : mv.length ≤ 6) (hP : CP σ o i P dn) (hB : CB σ i w h mv) (he : mv[k]? = some e) (hL : LM w h P (sd dn) e.2.2.1 f t) (hQ : Q (up2 (up2 σ o 1 (mask (pc (mvP w h P (sd dn) e.2.2.1 f t) 1))) o 2 (mask (pc (mvP w h P (sd dn) e.2.2.1 f t) 2)))) : D_X5_shift o (enc (k, f, t)) σ Q := by
  have h16 : w * h ≤ 16 := Nat.mul_le_mul w4 h4
  have hsd : 1 ≤ sd dn ∧ sd dn ≤ 2 := by unfold sd; omega
  have hk : k < mv.length := (List.getElem?_eq_some_iff.mp he).1
  obtain ⟨kind, hkind⟩ : ∃ x, x = e.2.2.1 := ⟨_, rfl⟩
  have hr0 : σ (i + 10 + 2 * k) 0 = kind := by rw [hkind]; exact (hB.2.2 k e he).2.2.1
  rw [← hkind] at hL hQ
  have ft : (f < 16 ∨ f = 99) ∧ t < 16 := by
    by_cases k0 : kind = 0
    · rcases hL with ⟨-, z, z2, -⟩ | ⟨z, -⟩
      · exact ⟨Or.inr z, by omega⟩
      · rw [k0] at z; exact absurd z (by decide)
    · obtain ⟨z1, -, z2, -⟩ := LM_dir w2 w4 h2 h4 hsd hL k0
      exact ⟨Or.inl (by omega), by omega⟩
  obtain ⟨d1, d2, d3, -⟩ := enc_ok (k := k) (by omega) ft.1 ft.2
  -- the end of it
  have fin : D_X5_shift_173 Q o (if dn % 2 = 0 then 1 else 0) (mask (pc (mvP w h P (sd dn) kind f t) (sd dn))) (mask (pc (mvP w h P (sd dn) kind f t) (3 - sd dn))) σ := by
    rcases sd_cases dn with ⟨m0, s1, s2⟩ | ⟨m1, s1, s2⟩
    · rw [if_pos m0]
      rw [s1] at hQ ⊢
      refine ⟨fun z => absurd z (by decide), fun _ a ea => ⟨fun z => absurd z (by decide), fun _ b eb => ?_⟩⟩
      subst ea
      subst eb
      exact hQ
    · rw [if_neg (by omega)]
      rw [s1] at hQ ⊢
      refine ⟨fun _ a ea => ⟨fun _ b eb => ?_, fun z => absurd rfl z⟩, fun z => absurd rfl z⟩
      subst ea
      subst eb
      exact hQ
  -- the other's pieces
  have oth : D_X5_shift_105 Q o (nI f) (nI t) kind (if dn % 2 = 0 then 1 else 0) (mask (pc (mvP w h P (sd dn) kind f t) (sd dn))) (mask (pc P (3 - sd dn))) σ := by
    refine ⟨fun n2 => ⟨fun k3 => ?_, fun n3 => ⟨fun n4 => ?_, fun k4 => ?_⟩⟩, fun k2 => ?_⟩
    · intro x7 e7
      rw [mask_clr ft.2] at e7
      refine ⟨fun _ => ?_, fun z => absurd (k3 ▸ z) (by decide)⟩
      rw [e7.trans (oth_mask w2 w4 h2 h4 hsd hL _ (fun c => by rw [if_neg n2, if_pos k3]))]
      exact fin
    · refine ⟨fun _ => ?_, fun z => absurd z n4⟩
      rw [oth_mask w2 w4 h2 h4 hsd hL (pc P (3 - sd dn)) (fun c => by rw [if_neg n2, if_neg n3, if_neg n4])]
      exact fin
    · intro x7 e7
      rw [mask_clr ft.2] at e7
      refine ⟨fun z => absurd k4 z, fun _ => ⟨hP.ref.1, ?_⟩⟩
      rw [hP.ref.2]
      obtain ⟨fl', pf, tl, tf, d, hd, hc⟩ := LM_dir w2 w4 h2 h4 hsd hL (by rw [k4]; decide)
      rcases hc with ⟨z, -⟩ | ⟨z, -⟩ | ⟨-, hx, pt, hb, hy⟩ | ⟨z, -⟩
      · rw [k4] at z; exact absurd z (by decide)
      · rw [k4] at z; exact absurd z (by decide)
      · refine bitBehind_ok w2 w4 h2 h4 fl' hd hB.1.2.2.1 hx (fun hn x ex => ?_) (fun y hn x ex => ?_)
        · rw [e7, Int32.or_zero] at ex
          rw [ex.trans (oth_mask w2 w4 h2 h4 hsd hL _ (fun c => by rw [if_neg n2, if_neg n3, if_pos k4, hb, hn]; simp))]
          exact fin
        · have y16 : y < 16 := by have := (hy y hn).2.1; omega
          rw [e7, mask_set y16] at ex
          rw [ex.trans (oth_mask w2 w4 h2 h4 hsd hL _ (fun c => by
            rw [if_neg n2, if_neg n3, if_pos k4, hb, hn]
            have ed : decide (c = y) = decide (some y = some c) := decide_eq_decide.mpr ⟨fun z => by rw [z], fun z => (Option.some.inj z).symm⟩
            rw [ed]))]
          exact fin
      · rw [k4] at z; exact absurd z (by decide)
    · intro x7 e7
      obtain ⟨fl', pf, tl, tf, d, hd, hc⟩ := LM_dir w2 w4 h2 h4 hsd hL (by rw [k2]; decide)
      have em : (nI f + nI t) / 2 = nI ((f + t) / 2) := by rw [nI_add, show (2 : Int32) = nI 2 from rfl, pk_div (by omega) (by decide) (by decide)]
      rw [em, mask_clr (by omega)] at e7
      refine ⟨fun _ => ?_, fun z => absurd (k2 ▸ z) (by decide)⟩
      rw [e7.trans (oth_mask w2 w4 h2 h4 hsd hL _ (fun c => by rw [if_pos k2]))]
      exact fin
  have own : D_X5_shift_80 Q o (nI f) (nI t) kind (if dn % 2 = 0 then 1 else 0) (mask (pc P (sd dn))) (mask (pc P (3 - sd dn))) σ := by
    intro x6 e6
    rw [mask_set ft.2] at e6
    refine ⟨fun k0 => ?_, fun k0 y ey => ?_⟩
    · have e : (mask fun c => pc P (sd dn) c || decide (c = t)) = mask (pc (mvP w h P (sd dn) kind f t) (sd dn)) := by
        refine mask_congr (fun c _ => ?_)
        unfold pc mvP
        by_cases e1 : c = t
        · rw [if_pos e1]
          simp [e1]
        · rw [if_neg e1, k0, if_neg (show ¬ (((0 : Int32) ≠ 0) ∧ c = f) from fun z => z.1 rfl), if_neg (show ¬ ((0 : Int32) = 2 ∧ c = (f + t) / 2) from fun z => absurd z.1 (by decide)), if_neg (show ¬ ((0 : Int32) = 4 ∧ bhO w h f t = some c) from fun z => absurd z.1 (by decide))]
          simp [e1]
      rw [e6, e]
      exact oth
    · obtain ⟨fl', -⟩ := LM_dir w2 w4 h2 h4 hsd hL k0
      rw [e6, mask_clr (show f < 16 by omega), own_mask w2 w4 h2 h4 hsd hL k0] at ey
      rw [ey]
      exact oth
  intro a ea b eb
  rw [d2] at ea
  rw [d3] at eb
  subst ea
  subst eb
  rw [d1, hP.ref.2, nI_clamp (show k < 2 ^ 31 by omega), show i + 8 + 2 + 2 * k = i + 10 + 2 * k by omega]
  refine ⟨⟨hP.ref.1.1, hP.1⟩, vp_in_nI (by omega) (by decide), fun x4 e4 => ?_⟩
  rw [hr0] at e4
  subst e4
  show (¬ (σ o 3 &&& 1) = 0 → _) ∧ _
  rw [hP.odd]
  rcases sd_cases dn with ⟨m0, s1, s2⟩ | ⟨m1, s1, s2⟩
  · rw [m0]
    rw [if_pos m0, s2, s1] at own
    refine ⟨fun z => absurd rfl z, fun _ => ⟨fun z => absurd z (by decide), fun _ => ⟨fun z => absurd z (by decide), fun _ => ?_⟩⟩⟩
    rw [hP.2.2.1, hP.2.2.2.1]
    exact own
  · rw [m1]
    rw [if_neg (by omega), s2, s1] at own
    refine ⟨fun _ => ⟨fun _ => ⟨fun _ => ?_, fun z => absurd rfl z⟩, fun z => absurd rfl z⟩, fun z => absurd z (by decide)⟩
    rw [hP.2.2.1, hP.2.2.2.1]
    exact own
