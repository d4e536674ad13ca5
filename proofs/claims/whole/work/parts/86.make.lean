/-- the cell behind t, seen from f -/
def dirO (w h f t : Nat) : Option Nat := (List.range 8).find? (fun d => nbO w h f d == some t)
def bhO (w h f t : Nat) : Option Nat := (dirO w h f t).bind (nbO w h t)
theorem dirO_eq {w h f t d : Nat} (w2 : 2 ≤ w) (w4 : w ≤ 4) (h2 : 2 ≤ h) (h4 : h ≤ 4) (hf : f < w * h) (hd : d < 8) (hx : nbO w h f d = some t) : dirO w h f t = some d := by
  have key : ∀ r, dirO w h f t = r → r = some d := by
    intro r hr
    cases r with
    | none =>
      have := List.find?_eq_none.mp hr d (List.mem_range.mpr hd)
      rw [hx] at this
      exact absurd (beq_self_eq_true _) this
    | some e =>
      have h1 := List.find?_some hr
      have h3 := List.mem_range.mp (List.mem_of_find?_eq_some hr)
      have h5 : nbO w h f e = some t := eq_of_beq h1
      rw [nb_inj w2 w4 h2 h4 hf hd h3 hx h5]
  exact key _ rfl
theorem bhO_eq {w h f t d : Nat} (w2 : 2 ≤ w) (w4 : w ≤ 4) (h2 : 2 ≤ h) (h4 : h ≤ 4) (hf : f < w * h) (hd : d < 8) (hx : nbO w h f d = some t) : bhO w h f t = nbO w h t d := by
  unfold bhO
  rw [dirO_eq w2 w4 h2 h4 hf hd hx, Option.bind_some]
/-- the pieces behind a move -/
def mvP (w h : Nat) (P : Nat → Nat) (s : Nat) (kind : Int32) (f t : Nat) : Nat → Nat := fun c => if c = t then s else if kind ≠ 0 ∧ c = f then 0 else if kind = 2 ∧ c = (f + t) / 2 then 0 else if kind = 4 ∧ bhO w h f t = some c then 3 - s else P c
/-- a move that may be made -/
def LM (w h : Nat) (P : Nat → Nat) (s : Nat) (kind : Int32) (f t : Nat) : Prop := (kind = 0 ∧ f = 99 ∧ t < w * h ∧ P t = 0) ∨ ((kind = 1 ∨ kind = 2 ∨ kind = 3 ∨ kind = 4) ∧ f < w * h ∧ P f = s ∧ ∃ d, d < 8 ∧ tgd w h P s kind f d = some t)
theorem mid0 : ((List.range 5).all fun w => (List.range 5).all fun h => (List.range 16).all fun c => (List.range 8).all fun d => !(decide (2 ≤ w) && decide (2 ≤ h) && decide (c < w * h)) || (match nbO w h c d with | none => true | some x => x != c && (match nbO w h x d with | none => true | some y => (c + y) / 2 == x && y != c && y != x))) = true := by decide +kernel
theorem mid_ok {w h c d x : Nat} (w2 : 2 ≤ w) (w4 : w ≤ 4) (h2 : 2 ≤ h) (h4 : h ≤ 4) (hc : c < w * h) (hd : d < 8) (hx : nbO w h c d = some x) : x ≠ c ∧ ∀ y, nbO w h x d = some y → (c + y) / 2 = x ∧ y ≠ c ∧ y ≠ x := by
  have h16 : w * h ≤ 16 := Nat.mul_le_mul w4 h4
  have q := List.all_eq_true.mp (List.all_eq_true.mp (List.all_eq_true.mp (List.all_eq_true.mp mid0 w (List.mem_range.mpr (by omega))) h (List.mem_range.mpr (by omega))) c (List.mem_range.mpr (by omega))) d (List.mem_range.mpr hd)
  simp only [w2, h2, hc, hx, decide_true, Bool.and_self, Bool.not_true, Bool.false_or, Bool.and_eq_true, bne_iff_ne, ne_eq] at q
  refine ⟨q.1, fun y hy => ?_⟩
  have q2 := q.2
  rw [hy] at q2
  simp only [Bool.and_eq_true, beq_iff_eq, bne_iff_ne, ne_eq] at q2
  exact ⟨q2.1.1, q2.1.2, q2.2⟩
/-- what a move of a piece is, by its direction -/
theorem LM_dir {w h : Nat} {P : Nat → Nat} {s : Nat} {kind : Int32} {f t : Nat} (w2 : 2 ≤ w) (w4 : w ≤ 4) (h2 : 2 ≤ h) (h4 : h ≤ 4) (hs : 1 ≤ s ∧ s ≤ 2) (hL : LM w h P s kind f t) (k0 : kind ≠ 0) : f < w * h ∧ P f = s ∧ t < w * h ∧ t ≠ f ∧ ∃ d, d < 8 ∧ ((kind = 1 ∧ nbO w h f d = some t ∧ P t = 0) ∨ (kind = 3 ∧ nbO w h f d = some t ∧ P t = 3 - s) ∨ (kind = 4 ∧ nbO w h f d = some t ∧ P t = 3 - s ∧ bhO w h f t = nbO w h t d ∧ ∀ y, nbO w h t d = some y → P y = 0 ∧ y < w * h ∧ y ≠ f ∧ y ≠ t) ∨ (kind = 2 ∧ ∃ x, nbO w h f d = some x ∧ x < w * h ∧ P x = 3 - s ∧ nbO w h x d = some t ∧ P t = 0 ∧ (f + t) / 2 = x ∧ x ≠ f ∧ x ≠ t)) := by
  have h16 : w * h ≤ 16 := Nat.mul_le_mul w4 h4
  rcases hL with ⟨z, -⟩ | ⟨hk, hf, hpf, d, hd, ht⟩
  · exact absurd z k0
  unfold tgd at ht
  cases hx : nbO w h f d with
  | none => rw [hx] at ht; simp at ht
  | some x =>
    rw [hx] at ht
    simp only at ht
    obtain ⟨xl, -⟩ := nbO_lt w2 w4 h2 h4 hf hd hx
    obtain ⟨xf, hmid⟩ := mid_ok w2 w4 h2 h4 hf hd hx
    by_cases k1 : kind = 1
    · rw [if_pos k1] at ht
      by_cases p0 : P x = 0
      · rw [if_pos p0] at ht
        have := Option.some.inj ht
        subst this
        exact ⟨hf, hpf, xl, xf, d, hd, Or.inl ⟨k1, hx, p0⟩⟩
      · rw [if_neg p0] at ht; simp at ht
    · rw [if_neg k1] at ht
      by_cases pe : P x = 3 - s
      · rw [if_pos pe] at ht
        by_cases k3 : kind = 3
        · rw [if_pos k3] at ht
          have := Option.some.inj ht
          subst this
          exact ⟨hf, hpf, xl, xf, d, hd, Or.inr (Or.inl ⟨k3, hx, pe⟩)⟩
        · rw [if_neg k3] at ht
          cases hy : nbO w h x d with
          | none =>
            rw [hy] at ht
            simp only at ht
            by_cases k2 : kind = 2
            · rw [if_pos k2] at ht; simp at ht
            · rw [if_neg k2] at ht
              have := Option.some.inj ht
              subst this
              have k4 : kind = 4 := by
                rcases hk with z | z | z | z
                · exact absurd z k1
                · exact absurd z k2
                · exact absurd z k3
                · exact z
              exact ⟨hf, hpf, xl, xf, d, hd, Or.inr (Or.inr (Or.inl ⟨k4, hx, pe, bhO_eq w2 w4 h2 h4 hf hd hx, fun y e => by rw [hy] at e; simp at e⟩))⟩
          | some y =>
            rw [hy] at ht
            simp only at ht
            obtain ⟨yl, -⟩ := nbO_lt w2 w4 h2 h4 xl hd hy
            obtain ⟨m1, m2, m3⟩ := hmid y hy
            by_cases p0 : P y = 0
            · rw [if_pos p0] at ht
              by_cases k2 : kind = 2
              · rw [if_pos k2] at ht
                have := Option.some.inj ht
                subst this
                exact ⟨hf, hpf, yl, m2, d, hd, Or.inr (Or.inr (Or.inr ⟨k2, x, hx, xl, pe, hy, p0, m1, xf, fun e => m3 e.symm⟩))⟩
              · rw [if_neg k2] at ht
                have := Option.some.inj ht
                subst this
                have k4 : kind = 4 := by
                  rcases hk with z | z | z | z
                  · exact absurd z k1
                  · exact absurd z k2
                  · exact absurd z k3
                  · exact z
                refine ⟨hf, hpf, xl, xf, d, hd, Or.inr (Or.inr (Or.inl ⟨k4, hx, pe, bhO_eq w2 w4 h2 h4 hf hd hx, fun y' e => ?_⟩))⟩
                rw [hy] at e
                have := Option.some.inj e
                subst this
                exact ⟨p0, yl, m2, m3⟩
            · rw [if_neg p0] at ht; simp at ht
      · rw [if_neg pe] at ht; simp at ht
theorem mvP_VP {w h : Nat} {P : Nat → Nat} {s : Nat} {kind : Int32} {f t : Nat} (w2 : 2 ≤ w) (w4 : w ≤ 4) (h2 : 2 ≤ h) (h4 : h ≤ 4) (hs : 1 ≤ s ∧ s ≤ 2) (hV : VP w h P) (hL : LM w h P s kind f t) : VP w h (mvP w h P s kind f t) := by
  intro c
  have hv := hV c
  have tl : t < w * h := by
    by_cases k0 : kind = 0
    · rcases hL with ⟨-, -, z, -⟩ | ⟨z, -⟩
      · exact z
      · rw [k0] at z; exact absurd z (by decide)
    · exact (LM_dir w2 w4 h2 h4 hs hL k0).2.2.1
  unfold mvP
  split
  · exact ⟨hs.2, fun z => by omega⟩
  · split
    · exact ⟨by decide, fun _ => rfl⟩
    · split
      · exact ⟨by decide, fun _ => rfl⟩
      · split
        · rename_i hb
          refine ⟨by omega, fun z => ?_⟩
          obtain ⟨-, -, -, -, d, hd, hc⟩ := LM_dir w2 w4 h2 h4 hs hL (by rw [hb.1]; decide)
          rcases hc with ⟨z1, -⟩ | ⟨z1, -⟩ | ⟨-, -, -, hbe, hy⟩ | ⟨z1, -⟩
          · rw [hb.1] at z1; exact absurd z1 (by decide)
          · rw [hb.1] at z1; exact absurd z1 (by decide)
          · rw [hbe] at hb
            have := (hy c hb.2).2.1
            omega
          · rw [hb.1] at z1; exact absurd z1 (by decide)
        · exact hv
theorem mem_fl16 {f : Nat → Bool} {x : Nat} : x ∈ fl f 16 0 ↔ x < 16 ∧ f x = true := by
  rw [fl_mem]
  constructor
  · rintro ⟨-, a, b⟩
    exact ⟨by omega, b⟩
  · rintro ⟨a, b⟩
    exact ⟨Nat.zero_le _, by omega, b⟩
theorem flm_mem {α : Type} {f : Nat → Bool} {g : Nat → List α} {x : α} : ∀ d c, x ∈ flm f g d c → ∃ j, c ≤ j ∧ j < c + d ∧ f j = true ∧ x ∈ g j
  | 0, _, h => absurd h List.not_mem_nil
  | d + 1, c, h => by
    rw [flm_s, List.mem_append] at h
    rcases h with h | h
    · by_cases q : f c = true
      · rw [if_pos q] at h
        exact ⟨c, Nat.le_refl _, by omega, q, h⟩
      · rw [if_neg q] at h
        exact absurd h List.not_mem_nil
    · obtain ⟨j, h1, h2, h3, h4⟩ := flm_mem d (c + 1) h
      exact ⟨j, by omega, by omega, h3, h4⟩
theorem mvs1_LM {w h : Nat} {P : Nat → Nat} {s k : Nat} {kind num : Int32} {m : Nat × Nat × Nat} (w2 : 2 ≤ w) (w4 : w ≤ 4) (h2 : 2 ≤ h) (h4 : h ≤ 4) (hs : 1 ≤ s ∧ s ≤ 2) (hV : VP w h P) (hR : RuOK kind num) (hm : m ∈ mvs1 w h P s k kind num) : m.1 = k ∧ LM w h P s kind m.2.1 m.2.2 := by
  unfold mvs1 at hm
  by_cases k0 : kind = 0
  · rw [if_pos k0] at hm
    split at hm
    · obtain ⟨t, ht, e⟩ := List.mem_map.mp hm
      rw [mem_fl16] at ht
      simp only [Bool.and_eq_true, decide_eq_true_eq, Bool.not_eq_true', Bool.or_eq_false_iff, pc, decide_eq_false_iff_not] at ht
      have := (hV t).1
      have p0 : P t = 0 := by omega
      rw [← e]
      exact ⟨rfl, Or.inl ⟨k0, rfl, ht.2.1, p0⟩⟩
    · exact absurd hm List.not_mem_nil
  · rw [if_neg k0] at hm
    obtain ⟨j, -, -, hj, hg⟩ := flm_mem 16 0 hm
    obtain ⟨t, ht, e⟩ := List.mem_map.mp hg
    rw [mem_fl16] at ht
    have hpj : P j = s := of_decide_eq_true hj
    have jl : j < w * h := by
      rcases Nat.lt_or_ge j (w * h) with z | z
      · exact z
      · have := (hV j).2 z
        omega
    obtain ⟨-, ht2⟩ := ht
    unfold tgB at ht2
    rw [List.any_eq_true] at ht2
    obtain ⟨d, hd, q⟩ := ht2
    simp only [Bool.and_eq_true, beq_iff_eq] at q
    rcases hR with ⟨z, -⟩ | ⟨z, -⟩
    · exact absurd z k0
    · rw [← e]
      exact ⟨rfl, Or.inr ⟨z, jl, hpj, d, List.mem_range.mp hd, q.2⟩⟩
theorem mlP_mem {w h : Nat} {P : Nat → Nat} {s : Nat} {mu : Int32} {m : Nat × Nat × Nat} (w2 : 2 ≤ w) (w4 : w ≤ 4) (h2 : 2 ≤ h) (h4 : h ≤ 4) (hs : 1 ≤ s ∧ s ≤ 2) (hV : VP w h P) : ∀ (l : List RuT) (k : Nat), MusOK l → m ∈ mlP w h P s mu l k → ∃ e, k ≤ m.1 ∧ l[m.1 - k]? = some e ∧ LM w h P s e.2.2.1 m.2.1 m.2.2
  | [], _, _, h => absurd h List.not_mem_nil
  | e :: es, k, hM, hm => by
    unfold mlP at hm
    rw [List.mem_append] at hm
    rcases hm with hm | hm
    · split at hm
      · obtain ⟨e1, e2⟩ := mvs1_LM w2 w4 h2 h4 hs hV (hM e List.mem_cons_self).1 hm
        exact ⟨e, by omega, by rw [e1, Nat.sub_self]; rfl, e2⟩
      · exact absurd hm List.not_mem_nil
    · obtain ⟨x, h1, h3, h5⟩ := mlP_mem w2 w4 h2 h4 hs hV es (k + 1) (fun y hy => hM y (List.mem_cons_of_mem _ hy)) hm
      refine ⟨x, by omega, ?_, h5⟩
      rw [show m.1 - k = (m.1 - (k + 1)) + 1 by omega]
      exact h3
theorem ML_mem {w h : Nat} {P : Nat → Nat} {s : Nat} {mv : List RuT} {m : Nat × Nat × Nat} (w2 : 2 ≤ w) (w4 : w ≤ 4) (h2 : 2 ≤ h) (h4 : h ≤ 4) (hs : 1 ≤ s ∧ s ≤ 2) (hV : VP w h P) (hM : MusOK mv) (hm : m ∈ ML w h mv P s) : ∃ e, mv[m.1]? = some e ∧ LM w h P s e.2.2.1 m.2.1 m.2.2 := by
  unfold ML at hm
  split at hm
  · obtain ⟨e, -, h1, h3⟩ := mlP_mem w2 w4 h2 h4 hs hV mv 0 hM hm
    exact ⟨e, h1, h3⟩
  · obtain ⟨e, -, h1, h3⟩ := mlP_mem w2 w4 h2 h4 hs hV mv 0 hM hm
    exact ⟨e, h1, h3⟩
