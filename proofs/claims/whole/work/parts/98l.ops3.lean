def hzB (t : Nat → Int32) (m : Nat) : Bool := (List.range m).any (fun k => t k == 0)
theorem hzB_s {t : Nat → Int32} {m : Nat} : hzB t (m + 1) = (hzB t m || t m == 0) := by
  unfold hzB
  rw [List.range_succ, List.any_append]
  simp
theorem hzB_yes {t : Nat → Int32} {m k : Nat} (h : k < m) (h0 : t k = 0) : hzB t m = true := by
  unfold hzB
  rw [List.any_eq_true]
  exact ⟨k, List.mem_range.mpr h, by rw [h0]; rfl⟩
theorem hasNought_ok {σ : GSt} {r m : Nat} {t : Nat → Int32} {Q : Int32 → GSt → Prop} (m6 : m ≤ 6) (hl : ln r = 6) (ht : ∀ k, k < 6 → σ r k = t k) (hQ : Q (bI (hzB t m)) σ) : D_X8_hasNought r (nI m) σ Q := by
  refine ⟨m + 1, ?_⟩
  have key : ∀ (d k : Nat), k + d = m → hzB t k = false → L_X8_hasNought_2 Q (d + 1) r (nI m) (nI k) σ := by
    intro d
    induction d with
    | zero =>
      intro k hk h0
      rw [show m = k by omega, h0] at hQ
      refine ⟨fun _ => hQ, fun z => absurd (nI_le (by omega) (by omega)) z⟩
    | succ d ih =>
      intro k hk h0
      unfold L_X8_hasNought_2 D_X8_hasNought_2
      rw [hl, nI_clamp (show k < 2 ^ 31 by omega), ht k (by omega)]
      refine ⟨fun z => absurd z (nI_ge (by omega) (by omega)), fun _ => ⟨fun z => absurd z (nI_ge (by omega) (by omega)), fun _ => ⟨vp_in_nI (by omega) (by decide), fun z y ey => ?_, fun z => ?_⟩⟩⟩
      · rw [ey, nI_1]
        refine ih (k + 1) (by omega) ?_
        rw [hzB_s, h0]
        exact beq_eq_false_iff_ne.mpr z
      · rw [hzB_yes (k := k) (by omega) z] at hQ
        exact hQ
  exact key m 0 (by omega) rfl
/-- the faults of a GAME, by its tally -/
def fB1 (t : TL) : Bool := decide (4 * tA t < tA t + tB t) || decide (3 * (tA t + tB t) < 4 * tA t)
def fB2 (t : TL) : Bool := decide (¬ tS t ≤ 0)
def fB4 (t : TL) : Bool := decide (¬ 48 ≤ tM t)
def fI (b : Bool) (w : Int32) : Int32 := if b then w else 0
def flt (t : TL) (m e : Nat) : Int32 := fI (fB1 t) 1 + fI (fB2 t) 2 + fI (hzB (tU t) m) 4 + fI (fB4 t) 8 + fI (hzB (tE t) e) 16
theorem faults_ok {σ : GSt} {o i m e : Nat} {t : TL} {ps : PS} {Q : Int32 → GSt → Prop} (ho : kd o = 8) (m6 : m ≤ 6) (e6 : e ≤ 6) (hm : σ i 5 = nI m) (he : σ i 7 = nI e) (hT : TlC σ o t) (hA : tA t + tB t ≤ 20) (hP : PosC σ (o + 1) i ps) (hQ : Q (flt t m e) σ) : D_X8_faults o σ Q := by
  obtain ⟨⟨t1, t2, t3, t4⟩, ⟨t5, t6, t7⟩, t8⟩ := hT
  have oK := kd8 ho
  have l3 : ln (o + 3) = 6 := by rcases oK with z | z <;> (rw [z]; decide +kernel)
  have l4 : ln (o + 4) = 6 := by rcases oK with z | z <;> (rw [z]; decide +kernel)
  obtain ⟨hr, er⟩ := hP.1.ref
  unfold flt at hQ
  have s103 : ∀ s0 s1 : Int32, s0 + s1 = fI (fB1 t) 1 + fI (fB2 t) 2 + fI (hzB (tU t) m) 4 + fI (fB4 t) 8 → D_X8_faults_103 Q o i s0 s1 σ := by
    intro s0 s1 es
    unfold D_X8_faults_103
    rw [he]
    refine hasNought_ok e6 l4 (fun k hk => (t8 k hk).2) ?_
    rw [es, bI_0]
    refine ⟨fun z => ?_, fun z => ?_⟩
    · rw [z] at hQ; exact hQ
    · rw [Bool.not_eq_false] at z; rw [z] at hQ; exact hQ
  have s87 : ∀ s0 s1 : Int32, s0 + s1 = fI (fB1 t) 1 + fI (fB2 t) 2 + fI (hzB (tU t) m) 4 → D_X8_faults_87 Q o i s0 s1 σ := by
    intro s0 s1 es
    unfold D_X8_faults_87
    rw [t2]
    refine ⟨fun z => s103 _ _ ?_, fun z => s103 _ _ ?_⟩
    · rw [es, show fB4 t = false from decide_eq_false (fun y => y z)]; rfl
    · rw [es, show fB4 t = true from decide_eq_true z]; rfl
  have s67 : ∀ s0 s1 : Int32, s0 + s1 = fI (fB1 t) 1 + fI (fB2 t) 2 → D_X8_faults_67 Q o i s0 s1 σ := by
    intro s0 s1 es
    unfold D_X8_faults_67
    rw [hm]
    refine hasNought_ok m6 l3 (fun k hk => (t8 k hk).1) ?_
    rw [bI_0]
    refine ⟨fun z => s87 _ _ ?_, fun z => s87 _ _ ?_⟩
    · rw [es, z]; rfl
    · rw [Bool.not_eq_false] at z; rw [es, z]; rfl
  have s55 : ∀ s0 : Int32, s0 = fI (fB1 t) 1 → D_X8_faults_55 Q o i s0 σ := by
    intro s0 es
    unfold D_X8_faults_55
    rw [t5]
    refine ⟨fun z => s67 _ _ ?_, fun z => s67 _ _ ?_⟩
    · rw [es, show fB2 t = false from decide_eq_false (fun y => y z)]; rfl
    · rw [es, show fB2 t = true from decide_eq_true z]; rfl
  refine ⟨hr, ?_⟩
  rw [er]
  intro x2 e2
  rw [t3, t4, nI_add] at e2
  rw [t3, e2, show (4 : Int32) * nI (tA t) = nI (4 * tA t) from pk_mul 4 _, show (3 : Int32) * nI (tA t + tB t) = nI (3 * (tA t + tB t)) from pk_mul 3 _]
  have yes : fB1 t = true → D_X8_faults_40 Q o i σ := fun z => ⟨fun y => absurd y (by decide), fun _ => s55 1 (by rw [z]; rfl)⟩
  refine pk_lt (4 * tA t) (tA t + tB t) (fun z => yes ?_) (fun z => pk_le (4 * tA t) (3 * (tA t + tB t)) (fun z2 => ⟨fun _ => s55 0 ?_, fun y => absurd rfl y⟩) (fun z2 => yes ?_))
  · unfold fB1; rw [decide_eq_true z]; rfl
  · unfold fB1; rw [decide_eq_false (by omega), decide_eq_false (by omega)]; rfl
  · unfold fB1; rw [decide_eq_true z2, Bool.or_true]
theorem fI_or {a b c d e : Bool} : (((fI a 1 ||| fI b 2) ||| fI c 4) ||| fI d 8) ||| fI e 16 = fI a 1 + fI b 2 + fI c 4 + fI d 8 + fI e 16 := by
  cases a <;> cases b <;> cases c <;> cases d <;> cases e <;> decide
theorem fI_w {b c : Bool} {w : Int32} : fI b w ||| fI c w = fI (b || c) w := by
  cases b <;> cases c <;> simp [fI]
theorem meas_le {G : GM} {a b : Nat} {z : Int32} (hG : GOK G) (n : Nat) : tA (meas G a b z n) + tB (meas G a b z n) ≤ n := by
  have := meas_sum (a := a) (b := b) (z := z) hG n
  omega
theorem op_verdicts : Op_verdicts InvA := by
  intro x1 x2 σ hI
  obtain ⟨ng, Gs, Ls, tp, pl, h⟩ := id hI
  have n8 := h.1.1
  unfold D_X10_verdicts D_X10_verdicts_0
  refine noGame_ok n8 h.1.2.1 (fun hno => ⟨fun z => absurd z (by decide), fun _ => ?_⟩) (fun i hi e => ⟨fun _ => ⟨e ▸ vp_in_nI (by omega) (by decide), ?_⟩, fun z => absurd rfl z⟩)
  · refine refuse_ok rf_1 ?_
    unfold D_X11_verdicts D_X11_verdicts_0
    exact isGame_ok n8 (by rw [rfC_ne (by decide)]; exact h.1.2.2) (fun _ => ⟨fun z => absurd rfl z, fun _ => no_ok rf_1 ⟨rfl, hI.rf rf_1⟩⟩) (fun i hi e => absurd e (hno i hi))
  · subst e
    obtain ⟨hG, -⟩ := (h.2.1 i hi).ok
    have m6 := hG.2.1.1
    have e6 := hG.2.2.1.1
    have vi : vp_in (nI i) 9 := vp_in_nI (by omega) (by decide)
    have hA := meas_le (a := 0) (b := 0) (z := x2) hG 12
    rw [nI_clamp (show i < 2 ^ 31 by omega)]
    refine runI (n := 12) (a := 0) (b := 0) h hi (by decide +kernel) (by decide) (by decide) (by decide) (fun σ1 t1 p1 c1 h1 => ?_)
    have hg1 := h1.2.1 i hi
    refine faults_ok (by decide +kernel) m6 e6 hg1.2.1.2.1.2.2.1 hg1.2.1.2.1.2.2.2.1 t1 (by omega) (p1 (by decide)) ?_
    unfold D_X11_verdicts D_X11_verdicts_0
    refine isGame_ok n8 h1.1.2.2 (fun hno => absurd rfl (hno i hi)) (fun _ _ _ => ⟨fun _ => ?_, fun z => absurd z (by decide)⟩)
    refine mesI (n := 12) (a := 0) (b := 0) h1 hi (by decide) (by decide) (by decide) (fun σ2 t2 p2 c2 h2 => ?_)
    have hg2 := h2.2.1 i hi
    have em : σ2 248 i = nI (gMv (Gs i)).length := hg2.2.2.1.2.1.1
    have ee : σ2 253 i = nI (gEn (Gs i)).length := hg2.2.2.1.2.1.2.1
    have hInv : InvA σ2 := ⟨_, _, _, _, _, h2⟩
    generalize meas (Gs i) 0 0 x2 12 = t at t2 hA
    obtain ⟨⟨t3, t4, t5, t6⟩, ⟨t7, t8, t9⟩, t10⟩ := t2
    unfold flt
    rw [← fI_or]
    -- the loops, last first
    have l147 : ∀ b : Int32, b = ((fI (fB1 t) 1 ||| fI (fB2 t) 2) ||| fI (hzB (tU t) (gMv (Gs i)).length) 4) ||| fI (fB4 t) 8 → ∀ (d k : Nat), k + d = (gEn (Gs i)).length → L_X11_verdicts_147 (fun r2 σ2 => b ||| fI (hzB (tE t) (gEn (Gs i)).length) 16 = r2 ∧ InvA σ2) (d + 1) (nI i) (b ||| fI (hzB (tE t) k) 16) (nI k) σ2 := by
      intro b eb d
      induction d with
      | zero =>
        intro k hk
        unfold L_X11_verdicts_147 D_X11_verdicts_147
        rw [nI_clamp (show i < 2 ^ 31 by omega), ee, show (gEn (Gs i)).length = k by omega]
        exact ⟨vi, fun _ => ⟨rfl, hInv⟩, fun z => absurd (nI_le (Nat.le_refl _) (by omega)) z⟩
      | succ d ih =>
        intro k hk
        unfold L_X11_verdicts_147 D_X11_verdicts_147
        rw [nI_clamp (show i < 2 ^ 31 by omega), ee, nI_clamp (show k < 2 ^ 31 by omega), (t10 k (by omega)).2]
        refine ⟨vi, fun z => absurd z (nI_ge (by omega) (by omega)), fun _ => ⟨vp_in_nI (by omega) (by decide), fun z y ey w ew => ?_, fun z y ey w ew => ?_⟩⟩
        · have := ih (k + 1) (by omega)
          rw [hzB_s, show (tE t k == 0) = false from beq_eq_false_iff_ne.mpr z, Bool.or_false] at this
          rw [ew, ey, nI_1, Int32.or_zero]
          exact this
        · have := ih (k + 1) (by omega)
          rw [hzB_s, show (tE t k == 0) = true by rw [z]; rfl, ← fI_w, ← Int32.or_assoc] at this
          rw [ew, ey, nI_1]
          exact this
    have s141 : ∀ s0 s1 : Int32, s0 ||| s1 = ((fI (fB1 t) 1 ||| fI (fB2 t) 2) ||| fI (hzB (tU t) (gMv (Gs i)).length) 4) ||| fI (fB4 t) 8 → D_X11_verdicts_141 (fun r2 σ2 => (((fI (fB1 t) 1 ||| fI (fB2 t) 2) ||| fI (hzB (tU t) (gMv (Gs i)).length) 4) ||| fI (fB4 t) 8) ||| fI (hzB (tE t) (gEn (Gs i)).length) 16 = r2 ∧ InvA σ2) (nI i) s0 s1 σ2 := by
      intro s0 s1 es y ey
      refine ⟨(gEn (Gs i)).length + 1, ?_⟩
      have := l147 _ rfl (gEn (Gs i)).length 0 (by omega)
      rw [ey, es]
      rw [show hzB (tE t) 0 = false from rfl, show fI false 16 = 0 from rfl, Int32.or_zero] at this
      exact this
    have l87 : ∀ b : Int32, b = fI (fB1 t) 1 ||| fI (fB2 t) 2 → ∀ (d k : Nat), k + d = (gMv (Gs i)).length → L_X11_verdicts_87 (fun r2 σ2 => (((fI (fB1 t) 1 ||| fI (fB2 t) 2) ||| fI (hzB (tU t) (gMv (Gs i)).length) 4) ||| fI (fB4 t) 8) ||| fI (hzB (tE t) (gEn (Gs i)).length) 16 = r2 ∧ InvA σ2) (d + 1) (nI i) (b ||| fI (hzB (tU t) k) 4) (nI k) σ2 := by
      intro b eb d
      induction d with
      | zero =>
        intro k hk
        unfold L_X11_verdicts_87 D_X11_verdicts_87
        rw [nI_clamp (show i < 2 ^ 31 by omega), em, t6, show k = (gMv (Gs i)).length by omega, eb]
        refine ⟨vi, fun _ => ⟨fun z => s141 _ _ ?_, fun z => s141 _ _ ?_⟩, fun z => absurd (nI_le (Nat.le_refl _) (by omega)) z⟩
        · rw [show fB4 t = false from decide_eq_false (fun y => y z)]; rfl
        · rw [show fB4 t = true from decide_eq_true z]; rfl
      | succ d ih =>
        intro k hk
        unfold L_X11_verdicts_87 D_X11_verdicts_87
        rw [nI_clamp (show i < 2 ^ 31 by omega), em, nI_clamp (show k < 2 ^ 31 by omega), (t10 k (by omega)).1]
        refine ⟨vi, fun z => absurd z (nI_ge (by omega) (by omega)), fun _ => ⟨vp_in_nI (by omega) (by decide), fun z y ey w ew => ?_, fun z y ey w ew => ?_⟩⟩
        · have := ih (k + 1) (by omega)
          rw [hzB_s, show (tU t k == 0) = false from beq_eq_false_iff_ne.mpr z, Bool.or_false] at this
          rw [ew, ey, nI_1, Int32.or_zero]
          exact this
        · have := ih (k + 1) (by omega)
          rw [hzB_s, show (tU t k == 0) = true by rw [z]; rfl, ← fI_w, ← Int32.or_assoc] at this
          rw [ew, ey, nI_1]
          exact this
    have s65 : ∀ s0 : Int32, s0 = fI (fB1 t) 1 → D_X11_verdicts_65 (fun r2 σ2 => (((fI (fB1 t) 1 ||| fI (fB2 t) 2) ||| fI (hzB (tU t) (gMv (Gs i)).length) 4) ||| fI (fB4 t) 8) ||| fI (hzB (tE t) (gEn (Gs i)).length) 16 = r2 ∧ InvA σ2) (nI i) s0 σ2 := by
      intro s0 es
      have s81 : ∀ s1 : Int32, s0 ||| s1 = fI (fB1 t) 1 ||| fI (fB2 t) 2 → D_X11_verdicts_81 (fun r2 σ2 => (((fI (fB1 t) 1 ||| fI (fB2 t) 2) ||| fI (hzB (tU t) (gMv (Gs i)).length) 4) ||| fI (fB4 t) 8) ||| fI (hzB (tE t) (gEn (Gs i)).length) 16 = r2 ∧ InvA σ2) (nI i) s0 s1 σ2 := by
        intro s1 e1 y ey
        refine ⟨(gMv (Gs i)).length + 1, ?_⟩
        have := l87 _ rfl (gMv (Gs i)).length 0 (by omega)
        rw [ey, e1]
        rw [show hzB (tU t) 0 = false from rfl, show fI false 4 = 0 from rfl, Int32.or_zero] at this
        exact this
      unfold D_X11_verdicts_65
      rw [t7]
      refine ⟨fun z => s81 _ ?_, fun z => s81 _ ?_⟩
      · rw [es, show fB2 t = false from decide_eq_false (fun y => y z)]; rfl
      · rw [es, show fB2 t = true from decide_eq_true z]; rfl
    intro x3 e3
    rw [t3, t4, nI_add] at e3
    rw [t3, e3, show (4 : Int32) * nI (tA t) = nI (4 * tA t) from pk_mul 4 _, show (3 : Int32) * nI (tA t + tB t) = nI (3 * (tA t + tB t)) from pk_mul 3 _]
    have yes : fB1 t = true → D_X11_verdicts_60 (fun r2 σ2 => (((fI (fB1 t) 1 ||| fI (fB2 t) 2) ||| fI (hzB (tU t) (gMv (Gs i)).length) 4) ||| fI (fB4 t) 8) ||| fI (hzB (tE t) (gEn (Gs i)).length) 16 = r2 ∧ InvA σ2) (nI i) σ2 := fun z => s65 1 (by rw [z]; rfl)
    have no : fB1 t = false → D_X11_verdicts_64 (fun r2 σ2 => (((fI (fB1 t) 1 ||| fI (fB2 t) 2) ||| fI (hzB (tU t) (gMv (Gs i)).length) 4) ||| fI (fB4 t) 8) ||| fI (hzB (tE t) (gEn (Gs i)).length) 16 = r2 ∧ InvA σ2) (nI i) σ2 := fun z => s65 0 (by rw [z]; rfl)
    refine pk_le (tA t + tB t) 0 (fun z => no ?_) (fun z => pk_lt (4 * tA t) (tA t + tB t) (fun z => yes ?_) (fun z => pk_le (4 * tA t) (3 * (tA t + tB t)) (fun z2 => no ?_) (fun z2 => yes ?_)))
    · unfold fB1; rw [decide_eq_false (by omega), decide_eq_false (by omega)]; rfl
    · unfold fB1; rw [decide_eq_true z]; rfl
    · unfold fB1; rw [decide_eq_false (by omega), decide_eq_false (by omega)]; rfl
    · unfold fB1; rw [decide_eq_true z2, Bool.or_true]
