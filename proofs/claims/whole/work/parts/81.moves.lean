/-- l written into the row o from b on -/
def wr (o : Nat) : GSt → Nat → List Int32 → GSt
  | σ, _, [] => σ
  | σ, b, x :: l => wr o (up2 σ o b x) (b + 1) l
theorem wr_row {o a : Nat} (ha : a ≠ o) : ∀ (l : List Int32) (σ : GSt) (b : Nat), wr o σ b l a = σ a
  | [], _, _ => rfl
  | _ :: l, _, b => (wr_row ha l _ (b + 1)).trans (up2_ne ha)
theorem wr_app {o : Nat} : ∀ (l l' : List Int32) (σ : GSt) (b : Nat), wr o σ b (l ++ l') = wr o (wr o σ b l) (b + l.length) l'
  | [], _, _, _ => rfl
  | x :: l, l', σ, b => by
    show wr o (up2 σ o b x) (b + 1) (l ++ l') = wr o (wr o (up2 σ o b x) (b + 1) l) (b + (l.length + 1)) l'
    rw [wr_app l l' _ (b + 1), show b + 1 + l.length = b + (l.length + 1) by omega]
theorem wr_at {o : Nat} (j : Nat) : ∀ (l : List Int32) (σ : GSt) (b : Nat), wr o σ b l o j = if b ≤ j ∧ j < b + l.length then l.getD (j - b) 0 else σ o j
  | [], _, b => by rw [if_neg (by simp only [List.length_nil]; omega)]; rfl
  | x :: l, σ, b => by
    show wr o (up2 σ o b x) (b + 1) l o j = _
    rw [wr_at j l _ (b + 1)]
    simp only [List.length_cons]
    by_cases e : j = b
    · subst e
      rw [if_neg (by omega), if_pos (by omega), up2_app, if_pos ⟨rfl, rfl⟩, Nat.sub_self]
      rfl
    · by_cases e2 : b + 1 ≤ j ∧ j < b + 1 + l.length
      · rw [if_pos e2, if_pos (by omega), show j - b = (j - (b + 1)) + 1 by omega]
        rfl
      · rw [if_neg e2, if_neg (by omega), up2_app, if_neg (by omega)]
def pc (P : Nat → Nat) (s : Nat) : Nat → Bool := fun c => decide (P c = s)
def VP (w h : Nat) (P : Nat → Nat) : Prop := ∀ c, P c ≤ 2 ∧ (w * h ≤ c → P c = 0)
/-- the cell to which a piece of side s on c goes in direction d by a MOVE of that kind -/
def tgd (w h : Nat) (P : Nat → Nat) (s : Nat) (kind : Int32) (c d : Nat) : Option Nat :=
  match nbO w h c d with
  | none => none
  | some x => if kind = 1 then (if P x = 0 then some x else none)
    else if P x = 3 - s then
      (if kind = 3 then some x else match nbO w h x d with
        | none => if kind = 2 then none else some x
        | some y => if P y = 0 then (if kind = 2 then some y else some x) else none)
    else none
def tgB (w h : Nat) (P : Nat → Nat) (s : Nat) (kind num : Int32) (c j to : Nat) : Bool := (List.range j).any fun d => dOk num d && tgd w h P s kind c d == some to
theorem tgB_s {w h : Nat} {P : Nat → Nat} {s : Nat} {kind num : Int32} {c j to : Nat} : tgB w h P s kind num c (j + 1) to = (tgB w h P s kind num c j to || (dOk num j && tgd w h P s kind c j == some to)) := by
  unfold tgB
  rw [List.range_succ, List.any_append]
  simp
/-- the position o stands on the game i with the pieces P, dn moves done -/
def CP (σ : GSt) (o i : Nat) (P : Nat → Nat) (dn : Nat) : Prop := kd i = 1 ∧ σ o 0 = nI i ∧ σ o 1 = mask (pc P 1) ∧ σ o 2 = mask (pc P 2) ∧ σ o 3 = nI dn ∧ dn ≤ 61
theorem CP.ref {σ : GSt} {o i : Nat} {P : Nat → Nat} {dn : Nat} (h : CP σ o i P dn) : (¬ σ o 0 < 0 ∧ kd (σ o 0).toNatClampNeg = 1) ∧ (σ o 0).toNatClampNeg = i := by
  have hi := kd_lt h.1 (by decide)
  rw [h.2.1, nI_clamp (by omega)]
  exact ⟨⟨nI_pos (by omega), h.1⟩, rfl⟩
theorem CP.row {σ σ' : GSt} {o i : Nat} {P : Nat → Nat} {dn : Nat} (h : CP σ o i P dn) (hr : σ' o = σ o) : CP σ' o i P dn := by
  unfold CP at *
  rw [hr]
  exact h
theorem CP.odd {σ : GSt} {o i : Nat} {P : Nat → Nat} {dn : Nat} (h : CP σ o i P dn) : σ o 3 &&& 1 = nI (dn % 2) := by
  rw [h.2.2.2.2.1]
  exact pk_andN (by have := h.2.2.2.2.2; omega) 1 (by decide)
/-- the side to move: 1 or 2 -/
def sd (dn : Nat) : Nat := dn % 2 + 1
theorem sd_cases (dn : Nat) : (dn % 2 = 0 ∧ sd dn = 1 ∧ 3 - sd dn = 2) ∨ (dn % 2 = 1 ∧ sd dn = 2 ∧ 3 - sd dn = 1) := by
  unfold sd
  omega
theorem bt_pc {P : Nat → Nat} {s c : Nat} (hc : c < 16) : bt (mask (pc P s)) c = decide (P c = s) := by
  rw [bt_mask (by omega), decide_eq_true hc, Bool.true_and]
  rfl
theorem any_dOk {w h c : Nat} {num : Int32} {d x : Nat} (hd : d < 8) (hk : dOk num d = true) (hx : nbO w h c d = some x) : nearB w h c num x = true := by
  unfold nearB
  rw [List.any_eq_true]
  exact ⟨d, List.mem_range.mpr hd, by simp [hk, hx]⟩
theorem dOk_of {w h c : Nat} {num : Int32} {d x : Nat} (w2 : 2 ≤ w) (w4 : w ≤ 4) (h2 : 2 ≤ h) (h4 : h ≤ 4) (hc : c < w * h) (hd : d < 8) (hx : nbO w h c d = some x) (hn : nearB w h c num x = true) : dOk num d = true := by
  unfold nearB at hn
  rw [List.any_eq_true] at hn
  obtain ⟨e, he, hk⟩ := hn
  simp only [Bool.and_eq_true, beq_iff_eq] at hk
  have := nb_inj w2 w4 h2 h4 hc hd (List.mem_range.mp he) hx hk.2
  rw [this]
  exact hk.1
theorem targets_loop {w h c num o i r : Nat} {P : Nat → Nat} {dn : Nat} {kind : Int32} {σ : GSt} {Q : Int32 → GSt → Prop} (w2 : 2 ≤ w) (w4 : w ≤ 4) (h2 : 2 ≤ h) (h4 : h ≤ 4) (hc : c < w * h) (hV : VP w h P) (hP : CP σ o i P dn) (hN : NxtOK σ (i + 3) w h) (hk : σ r 0 = kind) (k1 : kind ≠ 1) (k3 : kind ≠ 3) (hl : ln (i + 3 + 1) = 128)
    (hQ : Q (mask (tgB w h P (sd dn) kind (nI num) c 8)) σ) : ∀ (e d : Nat), d + e = 8 → L_X5_targets_101 Q o (e + 1) r (nI c) (mask (fun x => nearB w h c (nI num) x && pc P (3 - sd dn) x)) (i + 3 + 1) (mask (tgB w h P (sd dn) kind (nI num) c d)) (nI d) σ := by
  have h16 : w * h ≤ 16 := Nat.mul_le_mul w4 h4
  intro e
  induction e with
  | zero =>
    intro d hd
    rw [show d = 8 by omega]
    exact ⟨fun _ => hQ, fun z => absurd (by decide) z⟩
  | succ e ih =>
    intro d hd
    have d8 : d < 8 := by omega
    have nxt : ∀ f' : Int32, f' = mask (tgB w h P (sd dn) kind (nI num) c (d + 1)) → D_X5_targets_229 (L_X5_targets_101 Q o (e + 1)) Q o r (nI c) (mask (fun x => nearB w h c (nI num) x && pc P (3 - sd dn) x)) (i + 3 + 1) f' (nI d) σ := by
      intro f' ef x ex
      subst ex
      rw [nI_1 d, ef]
      exact ih (d + 1) (by omega)
    have same : tgd w h P (sd dn) kind c d = none ∨ dOk (nI num) d = false → mask (tgB w h P (sd dn) kind (nI num) c d) = mask (tgB w h P (sd dn) kind (nI num) c (d + 1)) := by
      intro hn
      refine mask_congr (fun to hto => ?_)
      rw [tgB_s]
      rcases hn with hn | hn <;> simp [hn]
    have more : ∀ z, z < 16 → tgd w h P (sd dn) kind c d = some z → dOk (nI num) d = true → mask (tgB w h P (sd dn) kind (nI num) c d) ||| jshl 1 (nI z) = mask (tgB w h P (sd dn) kind (nI num) c (d + 1)) := by
      intro z hz ht hk
      rw [mask_set hz]
      refine mask_congr (fun to hto => ?_)
      rw [tgB_s, ht, hk]
      simp only [Bool.true_and, Option.some_beq_some]
      congr 1
      by_cases q : to = z
      · subst q; simp
      · rw [decide_eq_false q]
        simp
        omega
    unfold L_X5_targets_101 D_X5_targets_101
    have eix : (8 : Int32) * nI c + nI d = nI (8 * c + d) := nlin 8 c d
    rw [eix, nI_clamp (show 8 * c + d < 2 ^ 31 by omega), hN c hc d d8, hl]
    refine ⟨fun z => absurd z (nI_ge (b := 8) d8 (by decide)), fun _ => ⟨vp_in_nI (by omega) (by decide), fun x8 e8 => ?_⟩⟩
    cases hx : nbO w h c d with
    | none =>
      rw [nbO_none w2 w4 h2 h4 hc d8 hx] at e8
      subst e8
      exact ⟨fun _ => nxt _ (same (Or.inl (by unfold tgd; rw [hx]))), fun z => absurd (by decide) z⟩
    | some x =>
      obtain ⟨xl, ex⟩ := nbO_lt w2 w4 h2 h4 hc d8 hx
      rw [ex] at e8
      subst e8
      refine ⟨fun z => absurd z (nI_pos (by omega)), fun _ => ?_⟩
      rw [ush_and1_0 (by omega), bt_mask (by omega), decide_eq_true (show x < 16 by omega), Bool.true_and]
      refine ⟨fun q => nxt _ (same ?_), fun q => ?_⟩
      · cases hk' : dOk (nI num) d
        · exact Or.inr rfl
        · left
          rw [any_dOk d8 hk' hx, Bool.true_and] at q
          have : ¬ P x = 3 - sd dn := of_decide_eq_false q
          unfold tgd
          rw [hx]
          simp [k1, this]
      · rw [Bool.not_eq_false, Bool.and_eq_true] at q
        have hdk := dOk_of w2 w4 h2 h4 hc d8 hx q.1
        have hpx : P x = 3 - sd dn := of_decide_eq_true q.2
        have eix2 : (8 : Int32) * nI x + nI d = nI (8 * x + d) := nlin 8 x d
        rw [eix2, nI_clamp (show 8 * x + d < 2 ^ 31 by omega), hN x xl d d8]
        refine ⟨vp_in_nI (by omega) (by decide), fun x9 e9 => ?_⟩
        cases hy : nbO w h x d with
        | none =>
          rw [nbO_none w2 w4 h2 h4 xl d8 hy] at e9
          subst e9
          refine ⟨fun _ => ?_, fun z => absurd (by decide) z⟩
          unfold D_X5_targets_174 D_X5_targets_175
          rw [hk]
          refine ⟨fun k2 => ⟨fun z => absurd rfl z, fun _ => ⟨fun z => absurd z (by decide), fun _ f' ef => nxt f' ?_⟩⟩, fun k2 => ⟨fun _ f' ef => nxt f' ?_, fun z => absurd rfl z⟩⟩
          · rw [ef]
            exact more x (by omega) (by unfold tgd; rw [hx]; simp only [hy]; simp [k1, k2, k3, hpx]) hdk
          · rw [ef, Int32.or_zero]
            exact same (Or.inl (by unfold tgd; rw [hx]; simp only [hy]; simp [k1, k2, k3, hpx]))
        | some y =>
          obtain ⟨yl, ey⟩ := nbO_lt w2 w4 h2 h4 xl d8 hy
          rw [ey] at e9
          subst e9
          refine ⟨fun z => absurd z (nI_pos (by omega)), fun _ => ?_⟩
          rw [hP.2.2.1, hP.2.2.2.1, ush_and1_0 (by omega), bt_or, bt_pc (by omega), bt_pc (by omega)]
          have hv := (hV y).1
          refine ⟨fun q2 => ?_, fun q2 => ?_⟩
          · have py : ¬ P y = 0 := by
              intro z
              rw [z] at q2
              exact q2 (by decide)
            unfold D_X5_targets_174 D_X5_targets_175
            rw [hk]
            have tn : tgd w h P (sd dn) kind c d = none := by unfold tgd; rw [hx]; simp only [hy]; simp [k1, k3, hpx, py]
            exact ⟨fun k2 => ⟨fun z => absurd rfl z, fun _ => ⟨fun _ f' ef => nxt f' (by rw [ef, Int32.or_zero]; exact same (Or.inl tn)), fun z => absurd (nI_pos' (by omega)) z⟩⟩, fun k2 => ⟨fun _ f' ef => nxt f' (by rw [ef, Int32.or_zero]; exact same (Or.inl tn)), fun z => absurd rfl z⟩⟩
          · have py : P y = 0 := by
              rw [Bool.or_eq_false_iff] at q2
              have z1 := of_decide_eq_false q2.1
              have z2 := of_decide_eq_false q2.2
              omega
            unfold D_X5_targets_175
            rw [hk]
            refine ⟨fun k2 => ⟨fun _ f' ef => nxt f' ?_, fun z => absurd z (by decide)⟩, fun k2 => ⟨fun z => absurd z (by decide), fun _ f' ef => nxt f' ?_⟩⟩
            · rw [ef]
              exact more x (by omega) (by unfold tgd; rw [hx]; simp only [hy]; simp [k1, k2, k3, hpx, py]) hdk
            · rw [ef]
              exact more y (by omega) (by unfold tgd; rw [hx]; simp only [hy]; simp [k2, hpx, py]) hdk
theorem near_at {σ : GSt} {i w h c num : Nat} (hB : BoardOK σ (i + 3) w h) (hc : c < w * h) (hn : num = 1 ∨ num = 2 ∨ num = 3) : σ (i + 3 + 2) (num * 16 + c) = nearM w h c num := by
  have k := hB.2.2.2.1 c hc
  unfold nearM
  rcases hn with rfl | rfl | rfl
  · rw [if_pos rfl, show 1 * 16 + c = 16 + c by omega]
    exact k.1
  · rw [if_neg (by decide), if_pos rfl, show 2 * 16 + c = 32 + c by omega]
    exact k.2.1
  · rw [if_neg (by decide), if_neg (by decide), show 3 * 16 + c = 48 + c by omega]
    exact k.2.2
theorem targets_ok {w h c num o i r : Nat} {P : Nat → Nat} {dn : Nat} {kind : Int32} {σ : GSt} {Q : Int32 → GSt → Prop} (w2 : 2 ≤ w) (w4 : w ≤ 4) (h2 : 2 ≤ h) (h4 : h ≤ 4) (hc : c < w * h) (hV : VP w h P) (hP : CP σ o i P dn) (hB : BoardOK σ (i + 3) w h) (hk : σ r 0 = kind) (hr : σ r 1 = nI num) (hn : num = 1 ∨ num = 2 ∨ num = 3) (hQ : Q (mask (tgB w h P (sd dn) kind (nI num) c 8)) σ) : D_X5_targets o r (nI c) σ Q := by
  have h16 : w * h ≤ 16 := Nat.mul_le_mul w4 h4
  unfold D_X5_targets D_X5_targets_0
  have eix : nI num * 16 + nI c = nI (num * 16 + c) := by rw [show (16 : Int32) = nI 16 from rfl, pk_mul, nI_add]
  rw [hr, eix, nI_clamp (show num * 16 + c < 2 ^ 31 by omega), hP.ref.2, near_at hB hc hn, near_ok w2 w4 h2 h4 hc hn, hP.odd, hk, hP.2.2.1, hP.2.2.2.1]
  refine ⟨⟨hP.ref.1.1, hP.1⟩, vp_in_nI (by omega) (by decide), fun x3 e3 => ?_⟩
  subst e3
  have foe : kind ≠ 1 → D_X5_targets_64 Q o r (nI c) (mask (nearB w h c (nI num))) (mask (pc P (3 - sd dn))) σ := by
    intro k1 x4 e4
    subst e4
    rw [mask_and]
    have inn : ∀ to, to < 16 → kind = 3 → (nearB w h c (nI num) to && pc P (3 - sd dn) to) = tgB w h P (sd dn) kind (nI num) c 8 to := by
      intro to _ k3
      unfold nearB tgB
      rw [Bool.eq_iff_iff, Bool.and_eq_true, List.any_eq_true, List.any_eq_true]
      constructor
      · rintro ⟨⟨d, hd, q⟩, hp⟩
        simp only [Bool.and_eq_true, beq_iff_eq] at q
        have hp' : P to = 3 - sd dn := of_decide_eq_true hp
        exact ⟨d, hd, by simp [q.1, tgd, q.2, k1, k3, hp']⟩
      · rintro ⟨d, hd, q⟩
        simp only [Bool.and_eq_true, beq_iff_eq] at q
        unfold tgd at q
        cases hx : nbO w h c d with
        | none => rw [hx] at q; simp at q
        | some x =>
          rw [hx] at q
          by_cases hp : P x = 3 - sd dn
          · simp [k1, k3, hp] at q
            rw [q.2] at hx hp
            exact ⟨⟨d, hd, by simp [q.1, hx]⟩, by simp [pc, hp]⟩
          · simp [k1, hp] at q
    refine ⟨fun k3 => ?_, fun k3 => ⟨fun q => ⟨hP.ref.1, ?_⟩, fun q => ?_⟩⟩
    · rw [hk] at k3
      rw [mask_congr (fun to hto => inn to hto k3)]
      exact hQ
    · rw [hk] at k3
      rw [hP.ref.2]
      have e0 : (0 : Int32) = mask (tgB w h P (sd dn) kind (nI num) c 0) := (mask_eq0.mpr (fun _ _ => rfl)).symm
      refine ⟨9, ?_⟩
      have := targets_loop w2 w4 h2 h4 hc hV hP hB.2.2.1 hk k1 k3 (ly_0_3 (ly_1_1 hP.1)).2 hQ 8 0 rfl
      rw [← e0] at this
      exact this
    · rw [hk] at k3
      have z := mask_eq0.mp q
      have e : mask (tgB w h P (sd dn) kind (nI num) c 8) = 0 := by
        refine mask_eq0.mpr (fun to hto => ?_)
        unfold tgB
        rw [List.any_eq_false]
        intro d hd hh
        simp only [Bool.and_eq_true, beq_iff_eq] at hh
        have d8 := List.mem_range.mp hd
        unfold tgd at hh
        cases hx : nbO w h c d with
        | none => rw [hx] at hh; simp at hh
        | some x =>
          obtain ⟨xl, -⟩ := nbO_lt w2 w4 h2 h4 hc d8 hx
          rw [hx] at hh
          have zx := z x (by omega)
          rw [any_dOk d8 hh.1 hx, Bool.true_and] at zx
          have zx' : ¬ P x = 3 - sd dn := of_decide_eq_false zx
          simp [k1, zx'] at hh
      rw [q, ← e]
      exact hQ
  refine ⟨fun k1 => ?_, fun k1 => ?_⟩
  · rcases sd_cases dn with ⟨m0, s1, s2⟩ | ⟨m1, s1, s2⟩
    · rw [m0]
      have := foe k1
      rw [s2] at this
      exact ⟨fun z => absurd rfl z, fun _ => this⟩
    · rw [m1]
      have := foe k1
      rw [s2] at this
      exact ⟨fun _ => this, fun z => absurd z (by decide)⟩
  · rw [mask_or, mask_andn]
    have e : mask (fun x => nearB w h c (nI num) x && !(pc P 1 x || pc P 2 x)) = mask (tgB w h P (sd dn) kind (nI num) c 8) := by
      refine mask_congr (fun to hto => ?_)
      unfold nearB tgB
      have hv := (hV to).1
      rw [Bool.eq_iff_iff, Bool.and_eq_true, List.any_eq_true, List.any_eq_true]
      constructor
      · rintro ⟨⟨d, hd, q⟩, hp⟩
        simp only [Bool.and_eq_true, beq_iff_eq] at q
        have hp' : P to = 0 := by
          simp only [pc, Bool.not_eq_true', Bool.or_eq_false_iff, decide_eq_false_iff_not] at hp
          omega
        exact ⟨d, hd, by simp [q.1, tgd, q.2, k1, hp']⟩
      · rintro ⟨d, hd, q⟩
        simp only [Bool.and_eq_true, beq_iff_eq] at q
        unfold tgd at q
        cases hx : nbO w h c d with
        | none => rw [hx] at q; simp at q
        | some x =>
          rw [hx] at q
          by_cases hp : P x = 0
          · simp [k1, hp] at q
            rw [q.2] at hx hp
            exact ⟨⟨d, hd, by simp [q.1, hx]⟩, by simp [pc, hp]⟩
          · simp [k1, hp] at q
    rw [e]
    exact hQ
