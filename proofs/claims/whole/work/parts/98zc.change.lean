def isD (c : Int32) : Bool := decide (¬ c < 48) && decide (¬ 57 < c)
/-- the place of the digit behind k digits -/
def dgF (t : Nat → Int32) : Nat → Nat → Nat → Option Nat
  | 0, _, _ => none
  | d + 1, p, k => if isD (t p) then (if k = 0 then some p else dgF t d (p + 1) (k - 1)) else dgF t d (p + 1) k
theorem dgF_s {t : Nat → Int32} {d p k : Nat} : dgF t (d + 1) p k = if isD (t p) then (if k = 0 then some p else dgF t d (p + 1) (k - 1)) else dgF t d (p + 1) k := rfl
def oI : Option Nat → Int32
  | some p => nI p
  | none => -1
theorem placeC_ok {σ : GSt} {o k : Nat} {L : List Int32} {Q : Int32 → GSt → Prop} (hk : k < 2 ^ 31) (l90 : L.length ≤ 90) (hT : TxC σ o L) (hQ : Q (oI (dgF (tl L) L.length 0 k)) σ) : D_X9_placeOfDigit o (nI k) σ Q := by
  refine ⟨L.length + 1, ?_⟩
  have key : ∀ (d p k : Nat), p + d = L.length → k < 2 ^ 31 → Q (oI (dgF (tl L) d p k)) σ → L_X9_placeOfDigit_4 Q o (d + 1) (nI k) (nI p) σ := by
    intro d
    induction d with
    | zero =>
      intro p k hp hk hq
      unfold L_X9_placeOfDigit_4 D_X9_placeOfDigit_4
      rw [hT.1]
      exact ⟨fun _ => hq, fun z => absurd (nI_le (by omega) (by omega)) z⟩
    | succ d ih =>
      intro p k hp hk hq
      rw [dgF_s] at hq
      have v : vp_in (nI p) 90 := vp_in_nI (by omega) (by decide)
      have go : isD (tl L p) = false → D_X9_placeOfDigit_47 (L_X9_placeOfDigit_4 Q o (d + 1)) Q o (nI k) (nI p) σ := by
        intro hb y ey
        rw [hb] at hq
        rw [ey, nI_1]
        exact ih (p + 1) k (by omega) hk hq
      unfold L_X9_placeOfDigit_4 D_X9_placeOfDigit_4
      rw [hT.1, nI_clamp (show p < 2 ^ 31 by omega), hT.2 p (by omega)]
      refine ⟨fun z => absurd z (nI_ge (by omega) (by omega)), fun _ => ⟨fun z => absurd z (nI_pos hk), fun _ => ⟨v, fun z => go ?_, fun z => ⟨v, fun z2 => go ?_, fun z2 => ?_⟩⟩⟩⟩
      · unfold isD; rw [decide_eq_false (fun y => y z)]; rfl
      · unfold isD; rw [show decide (¬ 57 < tl L p) = false from decide_eq_false (fun y => y z2), Bool.and_false]
      · have hb : isD (tl L p) = true := by unfold isD; rw [decide_eq_true z, decide_eq_true z2]; rfl
        rw [if_pos hb] at hq
        refine ⟨fun y w ew u eu => ?_, fun y => ?_⟩
        · have k0 : ¬ k = 0 := fun q => y (by rw [q]; rfl)
          rw [if_neg k0] at hq
          rw [eu, ew, nI_1, show nI k + (-1) = nI (k - 1) by rw [show k = (k - 1) + 1 by omega, pk_m1]; rfl]
          exact ih (p + 1) (k - 1) (by omega) (by omega) hq
        · rw [if_pos ((nI_eq (b := 0) hk (by decide)).mp y)] at hq
          exact hq
  exact key L.length 0 k (by omega) hk hQ
theorem placeM_ok {σ : GSt} {g k : Nat} {L : List Int32} {x3 : Int32} {Q : Int32 → GSt → Prop} (g8 : g < 8) (hk : k < 2 ^ 31) (l90 : L.length ≤ 90) (h241 : σ 241 g = nI L.length) (hM : ∀ j, j < L.length → σ 240 (90 * g + j) = tl L j) (hQ : ∀ x4 : Int32, x4 = oI (dgF (tl L) L.length 0 k) → (0 ≤ x4 → D_X11_out (Int32.toInt64 x3) 0 9 σ (fun r_1 σ_2 => (¬ r_1 = 0 → D_X11_change_125 Q (nI g) x3 x4 r_1 σ_2) ∧ (r_1 = 0 → (¬ (σ_2 237 20) = 8 → D_X11_change_125 Q (nI g) x3 x4 r_1 σ_2) ∧ ((σ_2 237 20) = 8 → D_X11_change_125 Q (nI g) x3 x4 (-6) σ_2)))) ∧ (¬ 0 ≤ x4 → D_X11_no (-1) σ (fun r_3 σ_4 => Q r_3 σ_4))) : ∃ f : Nat, L_X11_change_27 Q f (nI g) (nI k) x3 (-1) 0 0 σ := by
  refine ⟨L.length + 1, ?_⟩
  have vg : vp_in (nI g) 9 := vp_in_nI (by omega) (by decide)
  have key : ∀ (d p c : Nat) (x4 : Int32), p + d = L.length → c ≤ p → ((c ≤ k ∧ x4 = -1 ∧ oI (dgF (tl L) L.length 0 k) = oI (dgF (tl L) d p (k - c))) ∨ (k < c ∧ x4 = oI (dgF (tl L) L.length 0 k))) → L_X11_change_27 Q (d + 1) (nI g) (nI k) x3 x4 (nI c) (nI p) σ := by
    intro d
    induction d with
    | zero =>
      intro p c x4 hp cp hs
      have e4 : x4 = oI (dgF (tl L) L.length 0 k) := by
        rcases hs with ⟨_, e, e2⟩ | ⟨_, e⟩
        · rw [e, e2]; rfl
        · exact e
      unfold L_X11_change_27 D_X11_change_27
      rw [nI_clamp (show g < 2 ^ 31 by omega), h241]
      exact ⟨vg, fun _ => hQ x4 e4, fun z => absurd (nI_le (by omega) (by omega)) z⟩
    | succ d ih =>
      intro p c x4 hp cp hs
      unfold L_X11_change_27 D_X11_change_27
      rw [nI_clamp (show g < 2 ^ 31 by omega), h241, show (90 : Int32) * nI g + nI p = nI (90 * g + p) from nlin 90 g p, nI_clamp (show 90 * g + p < 2 ^ 31 by omega), hM p (by omega)]
      refine ⟨vg, fun z => absurd z (nI_ge (by omega) (by omega)), fun _ => ⟨vp_in_nI (by omega) (by decide), ?_⟩⟩
      rw [dgF_s] at hs
      refine isIn_ok (lo := 48) (hi := 57) (by decide) (by decide) (fun q q2 => ⟨fun _ => ?_, fun z => absurd z (by decide)⟩) (fun q => ⟨fun z => absurd rfl z, fun _ y ey => ?_⟩)
      · have hb : isD (tl L p) = true := by unfold isD; rw [decide_eq_true (Int32.not_lt.mpr q), decide_eq_true (Int32.not_lt.mpr q2)]; rfl
        rw [if_pos hb] at hs
        refine ⟨fun y w ew u eu => ?_, fun y w ew u eu => ?_⟩
        · have ck : ¬ c = k := fun e => y (by rw [e])
          rw [eu, ew, nI_1, nI_1]
          refine ih (p + 1) (c + 1) x4 (by omega) (by omega) ?_
          rcases hs with ⟨a, b, e⟩ | ⟨a, b⟩
          · rw [if_neg (show ¬ k - c = 0 by omega), Nat.sub_sub] at e
            exact Or.inl ⟨by omega, b, e⟩
          · exact Or.inr ⟨by omega, b⟩
        · have ck : c = k := (nI_eq (by omega) hk).mp y
          rw [eu, ew, nI_1, nI_1]
          refine ih (p + 1) (c + 1) (nI p) (by omega) (by omega) (Or.inr ⟨by omega, ?_⟩)
          rcases hs with ⟨a, b, e⟩ | ⟨a, b⟩
          · rw [if_pos (show k - c = 0 by omega)] at e
            rw [e]; rfl
          · omega
      · have hb : isD (tl L p) = false := by
          apply Bool.eq_false_iff.mpr
          intro w
          unfold isD at w
          rw [Bool.and_eq_true, decide_eq_true_eq, decide_eq_true_eq] at w
          exact q ⟨Int32.not_lt.mp w.1, Int32.not_lt.mp w.2⟩
        rw [hb] at hs
        rw [ey, nI_1]
        exact ih (p + 1) c x4 (by omega) (by omega) hs
  exact key L.length 0 0 (-1) (by omega) (Nat.le_refl _) (Or.inl ⟨Nat.zero_le _, rfl, rfl⟩)
theorem dgF_lt {t : Nat → Int32} : ∀ (d p k q : Nat), dgF t d p k = some q → p ≤ q ∧ q < p + d
  | 0, _, _, _, h => absurd h (by simp [dgF])
  | d + 1, p, k, q, h => by
    rw [dgF_s] at h
    split at h
    · split at h
      · have := Option.some.inj h
        omega
      · have := dgF_lt d (p + 1) (k - 1) q h
        omega
    · have := dgF_lt d (p + 1) k q h
      omega
theorem seg_all {L : List Int32} : seg L 0 L.length = L := by
  apply List.ext_getElem?
  intro i
  unfold seg
  rw [Nat.sub_zero, List.getElem?_map]
  rcases Nat.lt_or_ge i L.length with z | z
  · rw [List.getElem?_range z]
    show some (tl L (0 + i)) = _
    rw [Nat.zero_add, List.getElem?_eq_getElem z]
    unfold tl
    rw [List.getD_eq_getElem?_getD, List.getElem?_eq_getElem z]
    rfl
  · rw [List.getElem?_eq_none (by rw [List.length_range]; exact z), List.getElem?_eq_none z]
    rfl
theorem tl_set {L : List Int32} {p j : Nat} {v : Int32} (h : p < L.length) : tl (L.set p v) j = if j = p then v else tl L j := by
  unfold tl
  rw [List.getD_eq_getElem?_getD, List.getD_eq_getElem?_getD]
  split
  · rename_i z
    rw [z, List.getElem?_set_self h]
    rfl
  · rename_i z
    rw [List.getElem?_set_ne (fun y => z y.symm)]
theorem op_change : Op_change InvA := by
  intro x1 x2 x3 σ hI
  obtain ⟨ng, Gs, Ls, tp, pl, h⟩ := id hI
  have n8 := h.1.1
  have c20 : ∀ x : Int32, rfC σ x 237 20 = nI ng := fun x => by rw [rfC_ne (by decide)]; exact h.1.2.2
  unfold D_X10_change D_X10_change_0
  refine noGame_ok n8 h.1.2.1 (fun hno => ⟨fun z => absurd z (by decide), fun _ => refuse_ok rf_1 ?_⟩) (fun i hi e => ⟨fun _ => ⟨e ▸ vp_in_nI (by omega) (by decide), ?_⟩, fun z => absurd rfl z⟩)
  · unfold D_X11_change D_X11_change_0
    exact isGame_ok n8 (c20 _) (fun _ => ⟨fun _ => no_ok rf_1 ⟨rfl, hI.rf rf_1⟩, fun z => absurd rfl z⟩) (fun i hi e => absurd e (hno i hi))
  · subst e
    have hg := h.2.1 i hi
    obtain ⟨hG, a1, a2, a3, a4, a5⟩ := hg.ok
    rw [nI_clamp (show i < 2 ^ 31 by omega)]
    have hT : TxC σ (61 + 22 * i + 1) (Ls i) := ⟨hg.2.1.2.2.2.2.1, hg.2.1.2.2.2.2.2⟩
    -- a negative number of a digit
    rcases Decidable.em (x2 < 0) with z | z
    · unfold D_X9_placeOfDigit D_X9_placeOfDigit_0
      refine ⟨1, ?_⟩
      have fin : (0 ≤ (-1 : Int32) → False) ∧ D_X10_refuse (-1) σ (fun r1 σ1 => D_X11_change (nI i) x2 x3 σ1 (fun r2 σ2 => r1 = r2 ∧ InvA σ2)) := by
        refine ⟨by decide, refuse_ok rf_1 ?_⟩
        unfold D_X11_change D_X11_change_0
        exact isGame_ok n8 (c20 _) (fun hno => absurd rfl (hno i hi)) (fun _ _ _ => ⟨fun w => absurd w (by decide), fun _ => ⟨fun w => absurd z (Int32.not_lt.mpr w), fun _ => no_ok rf_1 ⟨rfl, hI.rf rf_1⟩⟩⟩)
      unfold L_X9_placeOfDigit_4 D_X9_placeOfDigit_4
      rw [hT.1]
      exact ⟨fun _ => ⟨fun w => (fin.1 w).elim, fun _ => fin.2⟩, fun _ => ⟨fun _ => ⟨fun w => (fin.1 w).elim, fun _ => fin.2⟩, fun w => absurd z w⟩⟩
    · obtain ⟨k, hk, ek⟩ := nI_of z
      subst ek
      -- the reference at a state with the same rows
      have mod : ∀ (σ0 : GSt) (r : Int32), (∀ a, 237 ≤ a → σ0 a = σ a) → (∀ x4 : Int32, x4 = oI (dgF (tl (Ls i)) (Ls i).length 0 k) → (0 ≤ x4 → D_X11_out (Int32.toInt64 x3) 0 9 σ0 (fun r_1 σ_2 => (¬ r_1 = 0 → D_X11_change_125 (fun r2 σ2 => r = r2 ∧ InvA σ2) (nI i) x3 x4 r_1 σ_2) ∧ (r_1 = 0 → (¬ (σ_2 237 20) = 8 → D_X11_change_125 (fun r2 σ2 => r = r2 ∧ InvA σ2) (nI i) x3 x4 r_1 σ_2) ∧ ((σ_2 237 20) = 8 → D_X11_change_125 (fun r2 σ2 => r = r2 ∧ InvA σ2) (nI i) x3 x4 (-6) σ_2)))) ∧ (¬ 0 ≤ x4 → D_X11_no (-1) σ0 (fun r2 σ2 => r = r2 ∧ InvA σ2))) → D_X11_change (nI i) (nI k) x3 σ0 (fun r2 σ2 => r = r2 ∧ InvA σ2) := by
        intro σ0 r e0 kk
        unfold D_X11_change D_X11_change_0
        refine isGame_ok n8 (by rw [e0 237 (by decide)]; exact h.1.2.2) (fun hno => absurd rfl (hno i hi)) (fun _ _ _ => ⟨fun w => absurd w (by decide), fun _ => ⟨fun _ => ?_, fun w => absurd (Int32.not_lt.mp z) w⟩⟩)
        exact placeM_ok (L := Ls i) (by omega) hk (by omega) (by rw [e0 241 (by decide)]; exact hg.2.2.1.2.2.2.2.1) (fun j hj => by rw [e0 240 (by decide)]; exact hg.2.2.1.2.2.2.2.2 j hj) kk
      have rc : ∀ x : Int32, ∀ a, 237 ≤ a → rfC σ x a = σ a := fun x a p => rfC_ne (by omega)
      refine placeC_ok hk (by omega) hT ?_
      cases hd : dgF (tl (Ls i)) (Ls i).length 0 k with
      | none =>
        refine ⟨fun w => absurd w (by decide), fun _ => refuse_ok rf_1 (mod _ _ (rc _) (fun x4 e4 => ?_))⟩
        rw [hd] at e4
        rw [e4]
        exact ⟨fun w => absurd w (by decide), fun _ => no_ok rf_1 ⟨rfl, hI.rf rf_1⟩⟩
      | some p =>
        have hp := (dgF_lt _ _ _ _ hd).2
        rw [Nat.zero_add] at hp
        have p0 : 0 ≤ nI p := nI_pos' (by omega)
        have rout : ∀ (x : Int32), isRf x → (x3 < 0 → x = -4) → (¬ x3 < 0 → 9 < x3 → x = -6) → (¬ x3 < 0 → ¬ 9 < x3 → x = -6 ∧ ng = 8) → D_X11_change (nI i) (nI k) x3 (rfC σ x) (fun r2 σ2 => x = r2 ∧ InvA σ2) := by
          intro x hx k4 k6 k8
          refine mod _ _ (rc _) (fun x4 e4 => ?_)
          rw [hd] at e4
          rw [e4]
          refine ⟨fun _ => ?_, fun w => absurd p0 w⟩
          refine out_ok (lo := 0) (hi := 9) (by decide) (by decide) (fun y => ⟨fun _ => ⟨fun w => absurd w (by decide), fun _ => ?_⟩, fun w => absurd w (by decide)⟩) (fun y y2 => ⟨fun _ => ⟨fun w => absurd w (by decide), fun _ => ?_⟩, fun w => absurd w (by decide)⟩) (fun y y2 => ⟨fun w => absurd rfl w, fun _ => ⟨fun w => ?_, fun _ => ⟨fun w => absurd w (by decide), fun _ => ?_⟩⟩⟩)
          · rw [k4 y]; exact no_ok rf_4 ⟨rfl, hI.rf rf_4⟩
          · rw [k6 y y2]; exact no_ok rf_6 ⟨rfl, hI.rf rf_6⟩
          · rw [c20, (k8 y y2).2] at w
            exact absurd rfl w
          · rw [(k8 y y2).1]; exact no_ok rf_6 ⟨rfl, hI.rf rf_6⟩
        rw [show oI (some p) = nI p from rfl, h.1.2.1]
        refine ⟨fun _ => ⟨fun q => ⟨fun q2 => refuse_ok rf_6 (rout _ rf_6 (fun y => absurd y (Int32.not_lt.mpr q)) (fun _ _ => rfl) (fun _ y => absurd q2 y)), fun q2 => pk_lt ng 8 (fun n8' => ⟨vp_in_nI (by omega) (by decide), ?_⟩) (fun w => refuse_ok rf_6 (rout _ rf_6 (fun y => absurd y (Int32.not_lt.mpr q)) (fun _ y => absurd y q2) (fun _ _ => ⟨rfl, by omega⟩)))⟩, fun q => refuse_ok rf_4 (rout _ rf_4 (fun _ => rfl) (fun y => absurd (Int32.not_le.mp q) y) (fun y => absurd (Int32.not_le.mp q) y))⟩, fun w => absurd p0 w⟩
        obtain ⟨c, hc, ec⟩ := nI_of2 (n := 9) (by decide) (Int32.not_lt.mpr q) (Int32.not_lt.mp q2)
        refine copyOf_ok (by omega) (by omega) (by omega) (by omega) hT.1 (by omega) (fun s5 e5 b5 f5 => ⟨vp_in_nI (by omega) (by decide), fun s6 e6 => ?_⟩)
        rw [nI_clamp (show p < 2 ^ 31 by omega)] at e6
        have x6 : TxC s6 3 ((Ls i).set p (48 + x3)) := ⟨by rw [List.length_set, e6, up2_ne (by decide)]; exact e5, fun j hj => by
          rw [List.length_set] at hj
          rw [tl_set hp, e6]
          show up2 s5 (3 + 1) p (48 + x3) (3 + 1) j = _
          rw [up2_at]
          split
          · rename_i w; rw [w, pk_us]
          · rename_i w
            rw [pk_un w, b5 j hj]
            exact hT.2 j hj⟩
        refine edit_ok h n8' (by rw [List.length_set]; omega) ?_ (fun a p q => by rw [e6, up2_ne q, f5 a p q]) x6 (fun r s7 e7 hgr => ?_)
        · intro e he
          rcases List.mem_or_eq_of_mem_set he with w | w
          · exact hg.2.2.2 e w
          · rw [w, ec, show (48 : Int32) + nI c = nI (48 + c) from nI_add 48 c]
            exact nI_pos' (by omega)
        · refine mod s7 r e7 (fun x4 e4 => ?_)
          rw [hd] at e4
          rw [e4]
          refine ⟨fun _ => ?_, fun w => absurd p0 w⟩
          refine out_ok (lo := 0) (hi := 9) (by decide) (by decide) (fun y => absurd y (Int32.not_lt.mpr q)) (fun _ y => absurd y q2) (fun _ _ => ⟨fun w => absurd rfl w, fun _ => ⟨fun _ => ⟨fun _ => ?_, fun w => absurd rfl w⟩, fun w => ?_⟩⟩)
          · refine starts_ok (fun s8 f8 x8 => ⟨vp_in_nI (by omega) (by decide), ?_⟩)
            rw [nI_clamp (show i < 2 ^ 31 by omega), f8.2.2 i (by omega), e7 241 (by decide), hg.2.2.1.2.2.2.2.1]
            refine addsFromM (f := 0) (M := Ls i) (by omega) x8 (fun j hj => by rw [f8.2.1 _ (by omega), e7 240 (by decide)]; exact hg.2.2.1.2.2.2.2.2 j hj) (by omega) (by omega) (Nat.le_refl _) (by rw [List.length_nil]; omega) (fun s9 x9 f9 => ?_)
            rw [seg_all, List.nil_append] at x9
            rw [show oI (some p) = nI p from rfl, show (720 : Int32) + nI p = nI (720 + p) from nI_add 720 p, nI_clamp (show 720 + p < 2 ^ 31 by omega)]
            refine ⟨vp_in_nI (by omega) (by decide), fun t1 et1 => ?_⟩
            refine hgr t1 (f8.trans (f9.trans ⟨fun a p q => by rw [et1, up2_ne p], fun j hj => by rw [et1, up2_at, pk_un (by omega)], fun j _ => by rw [et1, up2_ne (by decide)]⟩)) ⟨by rw [List.length_set, et1, up2_ne (by decide)]; exact x9.1, fun j hj => ?_⟩
            rw [List.length_set] at hj
            rw [tl_set hp, et1, up2_at]
            split
            · rename_i w; rw [w, pk_us]
            · rename_i w
              rw [pk_un (by omega)]
              exact x9.2 j hj
          · rw [e7 237 (by decide), h.1.2.2] at w
            exact absurd ((nI_eq (b := 8) (by omega) (by decide)).mp w) (by omega)
