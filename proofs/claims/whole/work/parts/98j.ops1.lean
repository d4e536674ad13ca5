theorem rfC_ne {σ : GSt} {x : Int32} {a : Nat} (h : a ≠ 60) : rfC σ x a = σ a := up2_ne h
theorem rf_1 : isRf (-1) := Or.inl rfl
theorem rf_2 : isRf (-2) := Or.inr (Or.inl rfl)
theorem rf_3 : isRf (-3) := Or.inr (Or.inr (Or.inl rfl))
theorem rf_4 : isRf (-4) := Or.inr (Or.inr (Or.inr (Or.inl rfl)))
theorem rf_5 : isRf (-5) := Or.inr (Or.inr (Or.inr (Or.inr (Or.inl rfl))))
theorem rf_6 : isRf (-6) := Or.inr (Or.inr (Or.inr (Or.inr (Or.inr rfl))))
theorem op_niche : Op_niche InvA := by
  intro x σ hI
  obtain ⟨ng, Gs, Ls, tp, pl, h⟩ := id hI
  exact niche_step h.2.2.1.2 hI (fun x hx => hI.rf hx)
theorem op_count : Op_count InvA := by
  intro x σ hI
  obtain ⟨ng, Gs, Ls, tp, pl, h⟩ := id hI
  have hp := h.2.2.2.2.2
  refine count_step h.2.2.1.2 h.2.2.1.1 (h.1.2.1.trans h.1.2.2.symm) (h.2.2.2.1.2.1.trans h.2.2.2.1.2.2.1.symm) ?_ ?_ hI
  · cases pl with
    | none => rw [hp.1, hp.2]; decide
    | some y =>
      obtain ⟨g, ms⟩ := y
      have g8 : g < 8 := by have := hp.1.1; have := h.1.1; omega
      rw [hp.1.2.1, hp.1.2.2.1]
      exact ⟨fun z => absurd z (by decide), fun z => absurd (nI_pos' (by omega)) z⟩
  · cases pl with
    | none => rw [hp.1]; exact fun z => absurd rfl z
    | some y =>
      obtain ⟨g, ms⟩ := y
      intro _
      have hG := (h.2.1 g hp.1.1).ok.1
      have := (rpl_PV hG hp.2.1 ms.length (Nat.le_refl _)).2.2
      rw [List.take_length] at this
      rw [hp.2.2.2.1.1.1.2.2.2.2.1, this, hp.1.2.2.2]
def bI (b : Bool) : Int32 := if b then 1 else 0
theorem bI_0 {b : Bool} : bI b = 0 ↔ b = false := on0
/-- what becomes of a game's sum, by the kinds of its MOVES -/
def fall1 (p : Bool × Bool) (e : RuT) : Bool × Bool := (p.1 && (e.2.2.1 == 0), p.2 && (e.2.2.1 == 2 || e.2.2.1 == 3))
def fallR (p : Bool × Bool) : Int32 := if p.1 then 0 else if p.2 then 1 else -9
theorem falls_ok {σ : GSt} {i w h : Nat} {mv : List RuT} {Q : Int32 → GSt → Prop} (h6 : mv.length ≤ 6) (hB : CB σ i w h mv) (hQ : Q (fallR (mv.foldl fall1 (true, true))) σ) : D_X1_falls i σ Q := by
  refine ⟨mv.length + 1, ?_⟩
  have key : ∀ (d k : Nat) (p : Bool × Bool), k + d = mv.length → mv.foldl fall1 (true, true) = (mv.drop k).foldl fall1 p → L_X1_falls_6 Q i (d + 1) (bI p.1) (bI p.2) (nI k) σ := by
    intro d
    induction d with
    | zero =>
      intro k p hk hf
      rw [List.drop_of_length_le (by omega)] at hf
      rw [hf] at hQ
      unfold L_X1_falls_6 D_X1_falls_6
      rw [hB.2.1, bI_0, bI_0]
      refine ⟨fun _ => ⟨fun q => ⟨fun q2 => ?_, fun q2 => ?_⟩, fun q => ?_⟩, fun z => absurd (nI_le (by omega) (by omega)) z⟩
      · show Q (-9) σ
        have : fallR p = -9 := by unfold fallR; rw [q, q2]; rfl
        rw [← this]; exact hQ
      · have : fallR p = 1 := by unfold fallR; rw [q]; rw [Bool.not_eq_false] at q2; rw [q2]; rfl
        rw [← this]; exact hQ
      · have : fallR p = 0 := by unfold fallR; rw [Bool.not_eq_false] at q; rw [q]; rfl
        rw [← this]; exact hQ
    | succ d ih =>
      intro k p hk hf
      obtain ⟨e, he⟩ : ∃ e, mv[k]? = some e := ⟨_, List.getElem?_eq_getElem (by omega)⟩
      rw [drop_cons he, List.foldl_cons] at hf
      have hmi := hB.2.2 k e he
      unfold L_X1_falls_6 D_X1_falls_6
      rw [hB.2.1, nI_clamp (show k < 2 ^ 31 by omega), show i + 8 + 2 + 2 * k = i + 10 + 2 * k by omega, hmi.2.2.1]
      refine ⟨fun z => absurd z (nI_ge (by omega) (by omega)), fun _ => ⟨vp_in_nI (by omega) (by decide), fun x4 e4 => ?_⟩⟩
      have fin : ∀ (s0 : Int32), s0 = bI (fall1 p e).1 → D_X1_falls_39 (L_X1_falls_6 Q i (d + 1)) Q i (bI p.2) (nI k) x4 s0 σ := by
        intro s0 es
        have nxt : ∀ s1 : Int32, s1 = bI (fall1 p e).2 → D_X1_falls_61 (L_X1_falls_6 Q i (d + 1)) Q i s0 (nI k) s1 σ := by
          intro s1 e1 y ey
          rw [ey, nI_1 k, es, e1]
          exact ih (k + 1) (fall1 p e) (by omega) hf
        unfold D_X1_falls_39
        rw [bI_0, e4]
        refine ⟨fun q => nxt 0 ?_, fun q => ⟨fun q2 => nxt 1 ?_, fun q2 => ⟨fun q3 => nxt 0 ?_, fun q3 => nxt 1 ?_⟩⟩⟩
        · unfold fall1; rw [q]; rfl
        · rw [Bool.not_eq_false] at q; unfold fall1; rw [q, q2]; rfl
        · rw [Bool.not_eq_false] at q
          unfold fall1
          rw [q]
          have a : (e.2.2.1 == 2) = false := beq_eq_false_iff_ne.mpr q2
          have b : (e.2.2.1 == 3) = false := beq_eq_false_iff_ne.mpr q3
          rw [a, b]; rfl
        · rw [Bool.not_eq_false] at q; unfold fall1; rw [q, q3]; rfl
      rw [bI_0, e4] at *
      refine ⟨fun q => fin 0 ?_, fun q => ⟨fun q2 => fin 0 ?_, fun q2 => fin 1 ?_⟩⟩
      · unfold fall1; rw [q]; rfl
      · have a : (e.2.2.1 == 0) = false := beq_eq_false_iff_ne.mpr q2
        unfold fall1; rw [a, Bool.and_false]; rfl
      · rw [Bool.not_eq_false] at q
        unfold fall1; rw [q, q2]; rfl
  exact key mv.length 0 (true, true) (by omega) (by rw [List.drop_zero])
theorem kL_0 {e : RuT} (h : RuOK e.2.2.1 e.2.2.2.1) : (kL e.2.2.1 = 112 ↔ e.2.2.1 = 0) ∧ (kL e.2.2.1 = 104 ↔ e.2.2.1 = 2) ∧ (kL e.2.2.1 = 116 ↔ e.2.2.1 = 3) := by
  rcases h with ⟨k, -⟩ | ⟨k, -⟩
  · rw [k]; decide
  · rcases k with k | k | k | k <;> (rw [k]; decide)
theorem fallsM_ok {σ : GSt} {g : Nat} {G : GM} {t : Nat → Int32} {n : Nat} {Q : Int32 → GSt → Prop} (hG : GOK G) (g8 : g < 9) (hM : MdG σ g G t n) (hQ : Q (fallR ((gMv G).foldl fall1 (true, true))) σ) : D_X11_falls (nI g) σ Q := by
  obtain ⟨-, ⟨m6, -, hMu⟩, -⟩ := hG
  have vg : vp_in (nI g) 9 := vp_in_nI g8 (by decide)
  intro x4 e4
  rw [show (6 : Int32) * nI g = nI (6 * g) from pk_mul 6 g] at e4
  subst e4
  refine ⟨(gMv G).length + 1, ?_⟩
  have key : ∀ (d k : Nat) (p : Bool × Bool), k + d = (gMv G).length → (gMv G).foldl fall1 (true, true) = ((gMv G).drop k).foldl fall1 p → L_X11_falls_10 Q (d + 1) (nI g) (bI p.1) (bI p.2) (nI (6 * g + k)) σ := by
    intro d
    induction d with
    | zero =>
      intro k p hk hf
      rw [List.drop_of_length_le (by omega)] at hf
      rw [hf] at hQ
      unfold L_X11_falls_10 D_X11_falls_10
      rw [nI_clamp (show g < 2 ^ 31 by omega), hM.2.1.1, show (6 : Int32) * nI g + nI (gMv G).length = nI (6 * g + (gMv G).length) from nlin 6 g _, bI_0, bI_0]
      refine ⟨vg, fun _ => ⟨fun q => ⟨fun q2 => ?_, fun q2 => ?_⟩, fun q => ?_⟩, fun z => absurd (nI_le (by omega) (by omega)) z⟩
      · have : fallR p = -9 := by unfold fallR; rw [q, q2]; rfl
        rw [← this]; exact hQ
      · have : fallR p = 1 := by unfold fallR; rw [q]; rw [Bool.not_eq_false] at q2; rw [q2]; rfl
        rw [← this]; exact hQ
      · have : fallR p = 0 := by unfold fallR; rw [Bool.not_eq_false] at q; rw [q]; rfl
        rw [← this]; exact hQ
    | succ d ih =>
      intro k p hk hf
      obtain ⟨e, he⟩ : ∃ e, (gMv G)[k]? = some e := ⟨_, List.getElem?_eq_getElem (by omega)⟩
      rw [drop_cons he, List.foldl_cons] at hf
      obtain ⟨v5, -⟩ := hM.2.2.1 k e he
      obtain ⟨l0, l2, l3⟩ := kL_0 (hMu e (List.mem_of_getElem? he)).1
      have vk : vp_in (nI (6 * g + k)) 54 := vp_in_nI (by omega) (by decide)
      unfold L_X11_falls_10 D_X11_falls_10
      rw [nI_clamp (show g < 2 ^ 31 by omega), hM.2.1.1, show (6 : Int32) * nI g + nI (gMv G).length = nI (6 * g + (gMv G).length) from nlin 6 g _, bI_0, nI_clamp (show 6 * g + k < 2 ^ 31 by omega), v5, l0]
      refine ⟨vg, fun z => absurd z (nI_ge (by omega) (by omega)), fun _ => ?_⟩
      have fin : ∀ (s0 : Int32), s0 = bI (fall1 p e).1 → D_X11_falls_47 (L_X11_falls_10 Q (d + 1)) Q (nI g) (bI p.2) (nI (6 * g + k)) s0 σ := by
        intro s0 es
        have nxt : ∀ s1 : Int32, s1 = bI (fall1 p e).2 → D_X11_falls_81 (L_X11_falls_10 Q (d + 1)) Q (nI g) s0 (nI (6 * g + k)) s1 σ := by
          intro s1 e1 y ey
          rw [ey, nI_1, es, e1, Nat.add_assoc]
          exact ih (k + 1) (fall1 p e) (by omega) hf
        unfold D_X11_falls_47
        rw [bI_0, nI_clamp (show 6 * g + k < 2 ^ 31 by omega), v5, l2, l3]
        refine ⟨fun q => nxt 0 ?_, fun q => ⟨vk, fun q2 => nxt 1 ?_, fun q2 => ⟨vk, fun q3 => nxt 0 ?_, fun q3 => nxt 1 ?_⟩⟩⟩
        · unfold fall1; rw [q]; rfl
        · rw [Bool.not_eq_false] at q; unfold fall1; rw [q, q2]; rfl
        · rw [Bool.not_eq_false] at q
          unfold fall1
          rw [q]
          have a : (e.2.2.1 == 2) = false := beq_eq_false_iff_ne.mpr q2
          have b : (e.2.2.1 == 3) = false := beq_eq_false_iff_ne.mpr q3
          rw [a, b]; rfl
        · rw [Bool.not_eq_false] at q; unfold fall1; rw [q, q3]; rfl
      refine ⟨fun q => fin 0 ?_, fun q => ⟨vk, fun q2 => fin 0 ?_, fun q2 => fin 1 ?_⟩⟩
      · unfold fall1; rw [q]; rfl
      · have a : (e.2.2.1 == 0) = false := beq_eq_false_iff_ne.mpr q2
        unfold fall1; rw [a, Bool.and_false]; rfl
      · rw [Bool.not_eq_false] at q
        unfold fall1; rw [q, q2]; rfl
  exact key (gMv G).length 0 (true, true) (by omega) (by rw [List.drop_zero])
theorem op_of : Op_of InvA := by
  intro x1 x2 σ hI
  obtain ⟨ng, Gs, Ls, tp, pl, h⟩ := id hI
  have n8 := h.1.1
  unfold D_X10_of D_X10_of_0
  refine noGame_ok n8 h.1.2.1 (fun hno => ⟨fun z => absurd z (by decide), fun _ => ?_⟩) (fun i hi e => ⟨fun _ => ?_, fun z => absurd rfl z⟩)
  · refine refuse_ok rf_1 ?_
    unfold D_X11_of D_X11_of_0
    exact isGame_ok n8 (by rw [rfC_ne (by decide)]; exact h.1.2.2) (fun _ => ⟨fun z => absurd rfl z, fun _ => no_ok rf_1 ⟨rfl, hI.rf rf_1⟩⟩) (fun i hi e => absurd e (hno i hi))
  · subst e
    have hg := h.2.1 i hi
    obtain ⟨hG, -⟩ := hg.ok
    have vi : vp_in (nI i) 9 := vp_in_nI (by omega) (by decide)
    have model : ∀ (σ1 : GSt) (r : Int32), σ1 237 = σ 237 → (x2 < 0 ∨ 5 < x2 → D_X11_no (-2) σ1 (fun r2 σ2 => r = r2 ∧ InvA σ2)) → (x2 = 0 → r = σ1 242 i ∧ InvA σ1) → (x2 = 1 → r = σ1 243 i ∧ InvA σ1) → (x2 = 2 → r = σ1 248 i ∧ InvA σ1) → (x2 = 3 → r = σ1 253 i ∧ InvA σ1) → (x2 = 4 → r = σ1 241 i ∧ InvA σ1) → (x2 = 5 → D_X11_falls (nI i) σ1 (fun r2 σ2 => r = r2 ∧ InvA σ2)) → D_X11_of (nI i) x2 σ1 (fun r2 σ2 => r = r2 ∧ InvA σ2) := by
      intro σ1 r h237 k1 k2 k3 k4 k5 k6 k7
      unfold D_X11_of D_X11_of_0
      refine isGame_ok n8 (by rw [h237]; exact h.1.2.2) (fun hno => absurd rfl (hno i hi)) (fun j hj e => ⟨fun _ => ?_, fun z => absurd z (by decide)⟩)
      rw [nI_clamp (show i < 2 ^ 31 by omega)]
      exact ⟨k1, fun z => ⟨vi, k2 z⟩, fun z => ⟨vi, k3 z⟩, fun z => ⟨vi, k4 z⟩, fun z => ⟨vi, k5 z⟩, fun z => ⟨vi, k6 z⟩, k7⟩
    rw [nI_clamp (show i < 2 ^ 31 by omega)]
    refine ⟨vp_in_nI (by omega) (by decide), fun q => ?_, fun q => ?_, fun q => ?_, fun q => ?_, fun q => ?_, fun q => ?_, fun q => ?_⟩
    · refine refuse_ok rf_2 (model _ _ (rfC_ne (by decide)) (fun _ => no_ok rf_2 ⟨rfl, hI.rf rf_2⟩) ?_ ?_ ?_ ?_ ?_ ?_) <;> (intro z; rw [z] at q; exact absurd q (by decide))
    · refine model σ _ rfl ?_ (fun _ => ⟨hg.2.1.1.1.1.trans hg.2.2.1.1.1.symm, hI⟩) ?_ ?_ ?_ ?_ ?_ <;> (intro z; rw [q] at z; exact absurd z (by decide))
    · refine model σ _ rfl ?_ ?_ (fun _ => ⟨hg.2.1.1.1.2.1.trans hg.2.2.1.1.2.1.symm, hI⟩) ?_ ?_ ?_ ?_ <;> (intro z; rw [q] at z; exact absurd z (by decide))
    · refine model σ _ rfl ?_ ?_ ?_ (fun _ => ⟨hg.2.1.2.1.2.2.1.trans hg.2.2.1.2.1.1.symm, hI⟩) ?_ ?_ ?_ <;> (intro z; rw [q] at z; exact absurd z (by decide))
    · refine model σ _ rfl ?_ ?_ ?_ ?_ (fun _ => ⟨hg.2.1.2.1.2.2.2.1.trans hg.2.2.1.2.1.2.1.symm, hI⟩) ?_ ?_ <;> (intro z; rw [q] at z; exact absurd z (by decide))
    · refine model σ _ rfl ?_ ?_ ?_ ?_ ?_ (fun _ => ⟨hg.2.1.2.2.2.2.1.trans hg.2.2.1.2.2.2.2.1.symm, hI⟩) ?_ <;> (intro z; rw [q] at z; exact absurd z (by decide))
    · refine falls_ok hG.2.1.1 hg.cb.1 (model σ _ rfl ?_ ?_ ?_ ?_ ?_ ?_ (fun _ => fallsM_ok hG (by omega) hg.2.2.1 ⟨rfl, hI⟩)) <;> (intro z; rw [q] at z; exact absurd z (by decide))
theorem op_letter : Op_letter InvA := by
  intro x1 x2 σ hI
  obtain ⟨ng, Gs, Ls, tp, pl, h⟩ := id hI
  have n8 := h.1.1
  unfold D_X10_letter D_X10_letter_0
  refine noGame_ok n8 h.1.2.1 (fun hno => ⟨fun z => absurd z (by decide), fun _ => ?_⟩) (fun i hi e => ⟨fun _ => ?_, fun z => absurd rfl z⟩)
  · refine refuse_ok rf_1 ?_
    unfold D_X11_letter D_X11_letter_0
    exact isGame_ok n8 (by rw [rfC_ne (by decide)]; exact h.1.2.2) (fun _ => ⟨fun z => absurd rfl z, fun _ => no_ok rf_1 ⟨rfl, hI.rf rf_1⟩⟩) (fun i hi e => absurd e (hno i hi))
  · subst e
    have hg := h.2.1 i hi
    obtain ⟨hG, l1, l2, l3, -⟩ := hg.ok
    have vi : vp_in (nI i) 9 := vp_in_nI (by omega) (by decide)
    rw [nI_clamp (show i < 2 ^ 31 by omega)]
    refine ⟨fun q => ⟨vp_in_nI (by omega) (by decide), ?_⟩, fun q => ?_⟩
    · obtain ⟨j, hj, e⟩ := nI_of (Int32.not_lt.mpr q)
      subst e
      have model : ∀ r : Int32, ((Ls i).length ≤ j → r = -9) → (j < (Ls i).length → r = tl (Ls i) j) → D_X11_letter (nI i) (nI j) σ (fun r2 σ2 => r = r2 ∧ InvA σ2) := by
        intro r k1 k2
        unfold D_X11_letter D_X11_letter_0
        refine isGame_ok n8 h.1.2.2 (fun hno => absurd rfl (hno i hi)) (fun _ _ _ => ⟨fun _ => ⟨fun _ => ⟨vi, ?_⟩, fun z => absurd q z⟩, fun z => absurd z (by decide)⟩)
        rw [nI_clamp (show i < 2 ^ 31 by omega), hg.2.2.1.2.2.2.2.1, show (90 : Int32) * nI i + nI j = nI (90 * i + j) from nlin 90 i j]
        refine pk_le (Ls i).length j (fun z => ⟨k1 z, hI⟩) (fun z => ⟨vp_in_nI (by omega) (by decide), ?_, hI⟩)
        rw [nI_clamp (show 90 * i + j < 2 ^ 31 by omega), hg.2.2.1.2.2.2.2.2 j z]
        exact k2 z
      rcases Nat.lt_or_ge j (Ls i).length with z | z
      · refine at_ok hg.2.1.2.2.2.2.1 (by omega) (by omega) hg.2.1.2.2.2.2.2 ?_
        have ec : ch (tl (Ls i)) (Ls i).length j = tl (Ls i) j := if_pos z
        rw [ec]
        obtain ⟨e, he⟩ : ∃ e, (Ls i)[j]? = some e := ⟨_, List.getElem?_eq_getElem z⟩
        have h0 := hg.2.2.2 e (List.mem_of_getElem? he)
        rw [← tl_at he] at h0
        exact ⟨fun _ => model _ (fun y => by omega) (fun _ => rfl), fun y => absurd h0 y⟩
      · -- behind its end
        unfold D_X9_at D_X9_at_0
        rw [hg.2.1.2.2.2.2.1]
        refine ⟨fun y => absurd y (Int32.not_lt.mpr q), fun _ => ⟨fun _ => ⟨fun y => absurd y (by decide), fun _ => model _ (fun _ => rfl) (fun y => by omega)⟩, fun y => absurd (nI_le z hj) y⟩⟩
    · refine refuse_ok rf_4 ?_
      unfold D_X11_letter D_X11_letter_0
      exact isGame_ok n8 (by rw [rfC_ne (by decide)]; exact h.1.2.2) (fun hno => absurd rfl (hno i hi)) (fun _ _ _ => ⟨fun _ => ⟨fun z => absurd z q, fun _ => no_ok rf_4 ⟨rfl, hI.rf rf_4⟩⟩, fun z => absurd z (by decide)⟩)
