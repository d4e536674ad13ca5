/-- the cell that a turned board shows at row r, column k -/
def tcr (w h t r k : Nat) : Nat := if t / 4 % 2 = 1 then (if t / 2 % 2 = 1 then w - 1 - k else k) * w + (if t % 2 = 1 then h - 1 - r else r) else (if t % 2 = 1 then h - 1 - r else r) * w + (if t / 2 % 2 = 1 then w - 1 - k else k)
def cdF (w h : Nat) (P : Nat → Nat) (t : Nat) : Nat → Int32 → Int32
  | 0, a => a
  | n + 1, a => cdF w h P t n (3 * a + nI (P (tcr w h t (n / w) (n % w))))
def cdv (w h : Nat) (P : Nat → Nat) (t : Nat) : Int32 := cdF w h P t (w * h) 0
theorem tcr_lt {w h t r k : Nat} (w4 : w ≤ 4) (h4 : h ≤ 4) (hr : r < h) (hk : k < w) : tcr w h t r k < 16 := by
  unfold tcr
  have r3 : (if t % 2 = 1 then h - 1 - r else r) ≤ 3 := by split <;> omega
  have k3 : (if t / 2 % 2 = 1 then w - 1 - k else k) ≤ 3 := by split <;> omega
  generalize (if t % 2 = 1 then h - 1 - r else r) = a at *
  generalize (if t / 2 % 2 = 1 then w - 1 - k else k) = b at *
  have m1 : a * w ≤ 12 := Nat.mul_le_mul r3 w4
  have m2 : b * w ≤ 12 := Nat.mul_le_mul k3 w4
  split <;> omega
theorem bits8 : ∀ t, t < 8 → ((nI t &&& 1 = 0) ↔ ¬ t % 2 = 1) ∧ ((nI t &&& 2 = 0) ↔ ¬ t / 2 % 2 = 1) ∧ ((nI t &&& 4 = 0) ↔ ¬ t / 4 % 2 = 1) ∧ ((nI t &&& 1 = 1) ↔ t % 2 = 1) ∧ ((nI t &&& 2 = 2) ↔ t / 2 % 2 = 1) ∧ ((nI t &&& 4 = 4) ↔ t / 4 % 2 = 1) := by decide
theorem m1_0 : nI 0 + (-1) < 0 := by decide
theorem codeT_ok {σ : GSt} {o i t w h : Nat} {P : Nat → Nat} {dn : Nat} {Q : Int32 → GSt → Prop} (w2 : 2 ≤ w) (w4 : w ≤ 4) (h2 : 2 ≤ h) (h4 : h ≤ 4) (ht : t < 8) (hV : VP w h P) (hP : CP σ o i P dn) (ew : σ (i + 3) 0 = nI w) (eh : σ (i + 3) 1 = nI h) (hQ : Q (cdv w h P t) σ) : D_X5_codeTurned o (nI t) σ Q := by
  obtain ⟨hr, er⟩ := hP.ref
  obtain ⟨b1, b2, b4, -⟩ := bits8 t ht
  refine ⟨hr, fun x2 e2 => ⟨hr, fun x3 e3 x5 e5 => ⟨h + 1, ?_⟩⟩⟩
  rw [er, ew] at e2
  rw [er, eh] at e3
  rw [e3, Int32.sub_eq_add_neg] at e5
  rw [e2, e3, e5]
  have outer : ∀ (R : Nat) (a : Int32), R ≤ h → cdF w h P t (R * w) a = cdv w h P t → L_X5_codeTurned_30 Q o (R + 1) (nI t) (nI w) (nI h) a (nI R + (-1)) σ := by
    intro R
    induction R with
    | zero =>
      intro a _ hf
      rw [Nat.zero_mul] at hf
      refine ⟨fun _ => ?_, fun z => absurd m1_0 z⟩
      rw [show a = cdv w h P t from hf]
      exact hQ
    | succ R ih =>
      intro a hR hf
      rw [pk_m1]
      refine ⟨fun z => absurd z (nI_pos (by omega)), fun _ x6 e6 => ⟨w + 1, ?_⟩⟩
      rw [e6, Int32.sub_eq_add_neg]
      have inner : ∀ (k : Nat) (a : Int32), k ≤ w → cdF w h P t (R * w + k) a = cdv w h P t → L_X5_codeTurned_40 (L_X5_codeTurned_30 Q o (R + 1)) Q o (k + 1) (nI t) (nI w) (nI h) a (nI R) (nI k + (-1)) σ := by
        intro k
        induction k with
        | zero =>
          intro a _ hf
          refine ⟨fun _ y ey => ?_, fun z => absurd m1_0 z⟩
          rw [ey]
          exact ih a (by omega) hf
        | succ k ik =>
          intro a hk hf
          rw [pk_m1]
          have hdm : (R * w + k) / w = R ∧ (R * w + k) % w = k := by
            rw [Nat.mul_comm R w]
            exact ⟨by rw [Nat.mul_add_div (by omega), Nat.div_eq_of_lt (by omega), Nat.add_zero], by rw [Nat.mul_add_mod, Nat.mod_eq_of_lt (by omega)]⟩
          have hf2 : cdF w h P t (R * w + k) (3 * a + nI (P (tcr w h t R k))) = cdv w h P t := by
            have : cdF w h P t (R * w + k + 1) a = cdF w h P t (R * w + k) (3 * a + nI (P (tcr w h t ((R * w + k) / w) ((R * w + k) % w)))) := rfl
            rw [hdm.1, hdm.2] at this
            rw [← this]
            exact hf
          have lt := tcr_lt (t := t) w4 h4 (show R < h by omega) (show k < w by omega)
          have s111 : ∀ s2 : Int32, s2 = nI (tcr w h t R k) → D_X5_codeTurned_111 (L_X5_codeTurned_30 Q o (R + 1)) (L_X5_codeTurned_40 (L_X5_codeTurned_30 Q o (R + 1)) Q o (k + 1)) Q o (nI t) (nI w) (nI h) (nI R) (nI k) (3 * a) o s2 σ := by
            intro s2 es
            unfold D_X5_codeTurned_111 D_X5_pieceOn D_X5_pieceOn_0
            rw [es, hP.2.2.1, hP.2.2.2.1, piece_ok lt (hV _).1]
            intro y ey z ez
            rw [ey, ez]
            exact ik _ (by omega) hf2
          have s81 : ∀ s0 x7 : Int32, s0 = nI (if t / 2 % 2 = 1 then w - 1 - k else k) → x7 = nI (if t % 2 = 1 then h - 1 - R else R) → D_X5_codeTurned_81 (L_X5_codeTurned_30 Q o (R + 1)) (L_X5_codeTurned_40 (L_X5_codeTurned_30 Q o (R + 1)) Q o (k + 1)) Q o (nI t) (nI w) (nI h) a (nI R) (nI k) x7 s0 σ := by
            intro s0 x7 es e7
            unfold D_X5_codeTurned_81
            rw [b4]
            refine ⟨fun z => s111 _ ?_, fun z => s111 _ ?_⟩
            · rw [es, e7, pk_mul, nI_add]
              unfold tcr
              rw [if_neg z]
            · rw [es, e7, pk_mul, nI_add]
              unfold tcr
              rw [if_pos (Decidable.not_not.mp z)]
          have s62 : ∀ s0 : Int32, s0 = nI (if t % 2 = 1 then h - 1 - R else R) → D_X5_codeTurned_62 (L_X5_codeTurned_30 Q o (R + 1)) (L_X5_codeTurned_40 (L_X5_codeTurned_30 Q o (R + 1)) Q o (k + 1)) Q o (nI t) (nI w) (nI h) a (nI R) (nI k) s0 σ := by
            intro s0 es
            unfold D_X5_codeTurned_62
            rw [b2]
            refine ⟨fun z => s81 _ _ ?_ es, fun z => s81 _ _ ?_ es⟩
            · rw [if_neg z]
            · rw [if_pos (Decidable.not_not.mp z), show nI w - 1 = nI (w - 1) from pk_sub (b := 1) (by omega), pk_sub (by omega)]
          refine ⟨fun z => absurd z (nI_pos (by omega)), fun _ => ?_⟩
          rw [b1]
          refine ⟨fun z => s62 _ ?_, fun z => s62 _ ?_⟩
          · rw [if_neg z]
          · rw [if_pos (Decidable.not_not.mp z), show nI h - 1 = nI (h - 1) from pk_sub (b := 1) (by omega), pk_sub (by omega)]
      refine inner w a (Nat.le_refl _) ?_
      rw [← hf, Nat.succ_mul]
  exact outer h 0 (Nat.le_refl _) (by rw [Nat.mul_comm h w]; rfl)
def sw (t : Nat) : Nat := t / 2 % 2 + 2 * (t % 2) + 4 * (t / 4 % 2)
theorem sw_8 : ∀ t, t < 8 → sw t % 2 = t / 2 % 2 ∧ sw t / 2 % 2 = t % 2 ∧ sw t / 4 % 2 = t / 4 % 2 := by decide
theorem codeM_ok {σ : GSt} {g t : Nat} {G : GM} {ps : PS} {Q : Int32 → GSt → Prop} (hG : GOK G) (ht : t < 8) (hL : Lv σ g 0 G ps) (hQ : Q (cdv (gW G) (gH G) (psP ps) (sw t)) σ) : D_X11_code (nI t) σ Q := by
  obtain ⟨⟨w2, w4, h2, h4⟩, -⟩ := hG
  obtain ⟨⟨g9, eg⟩, ⟨ew, eh⟩, -⟩ := hL.1
  obtain ⟨-, -, -, b1, b2, b4⟩ := bits8 t ht
  obtain ⟨s1, s2, s4⟩ := sw_8 t ht
  have vg : vp_in (nI g) 9 := vp_in_nI g9 (by decide)
  have wh : gW G * gH G ≤ 16 := Nat.mul_le_mul w4 h4
  unfold D_X11_code D_X11_code_0 D_X11_cells D_X11_cells_0
  rw [eg, nI_clamp (show g < 2 ^ 31 by omega), ew, eh, pk_mul]
  refine ⟨vg, fun x3 e3 => ⟨vg, fun x4 e4 => ⟨vg, vg, fun x5 e5 => ⟨gW G * gH G + 1, ?_⟩⟩⟩⟩
  rw [e3, e4, e5, Int32.sub_eq_add_neg]
  generalize hw : gW G = w at *
  generalize hh : gH G = h at *
  have key : ∀ (n : Nat) (a : Int32), n ≤ w * h → cdF w h (psP ps) (sw t) n a = cdv w h (psP ps) (sw t) → L_X11_code_31 Q (n + 1) (nI t) a (nI w) (nI h) (nI n + (-1)) σ := by
    intro n
    induction n with
    | zero =>
      intro a _ hf
      refine ⟨fun _ => ?_, fun z => absurd m1_0 z⟩
      rw [show a = cdv w h (psP ps) (sw t) from hf]
      exact hQ
    | succ n ih =>
      intro a hn hf
      rw [pk_m1]
      have nw : ¬ nI w = 0 := nI_ne0 (by omega) (by omega)
      have rh : n / w < h := by
        rw [Nat.div_lt_iff_lt_mul (by omega), Nat.mul_comm]
        omega
      have kw : n % w < w := Nat.mod_lt _ (by omega)
      have lt := tcr_lt (t := sw t) w4 h4 rh kw
      have v1 : ∀ x : Int32, x = nI (tcr w h (sw t) (n / w) (n % w)) → vp_in x 144 ∧ D_X11_code_126 (L_X11_code_31 Q (n + 1)) Q (nI t) (nI w) (nI h) (nI n) (3 * a) (σ 257 x.toNatClampNeg) σ := by
        intro x ex
        rw [ex]
        refine ⟨vp_in_nI (by omega) (by decide), ?_⟩
        have := hL.2.1 _ lt
        rw [Nat.mul_zero, Nat.zero_add] at this
        rw [nI_clamp (show tcr w h (sw t) (n / w) (n % w) < 2 ^ 31 by omega), this]
        intro y ey z ez
        rw [ey, ez]
        exact ih _ (by omega) hf
      have s87 : ∀ x8 s0 : Int32, x8 = nI (if sw t / 2 % 2 = 1 then w - 1 - n % w else n % w) → s0 = nI (if sw t % 2 = 1 then h - 1 - n / w else n / w) → D_X11_code_87 (L_X11_code_31 Q (n + 1)) Q (nI t) a (nI w) (nI h) (nI n) x8 s0 σ := by
        intro x8 s0 e8 e0
        unfold D_X11_code_87
        rw [b4, ← s4]
        refine ⟨fun z => v1 _ ?_, fun z => v1 _ ?_⟩
        · rw [e8, e0, pk_mul, nI_add, Nat.mul_comm w]
          unfold tcr
          rw [if_neg z]
        · rw [e8, e0, pk_mul, nI_add, Nat.mul_comm w]
          unfold tcr
          rw [if_pos z]
      have s66 : ∀ s0 : Int32, s0 = nI (if sw t / 2 % 2 = 1 then w - 1 - n % w else n % w) → D_X11_code_66 (L_X11_code_31 Q (n + 1)) Q (nI t) a (nI w) (nI h) (nI n) (nI (n / w)) s0 σ := by
        intro s0 es
        unfold D_X11_code_66
        rw [b2, ← s1]
        refine ⟨fun z => s87 _ _ es ?_, fun z => s87 _ _ es ?_⟩
        · rw [if_neg z]
        · rw [if_pos z, show nI h - 1 = nI (h - 1) from pk_sub (b := 1) (by omega), pk_sub (by omega)]
      refine ⟨fun z => absurd z (nI_pos (by omega)), fun _ => ⟨nw, fun x6 e6 => ⟨nw, fun x7 e7 => ?_⟩⟩⟩
      rw [show jrem (nI n) (nI w) = nI (n % w) from pk_rem (by omega) (by omega) (by omega)] at e6
      rw [pk_div (by omega) (by omega) (by omega)] at e7
      rw [e6, e7, b1, ← s2]
      refine ⟨fun z => s66 _ ?_, fun z => s66 _ ?_⟩
      · rw [if_neg z]
      · rw [if_pos z, show nI w - 1 = nI (w - 1) from pk_sub (b := 1) (by omega), pk_sub (by omega)]
  exact key (w * h) 0 (Nat.le_refl _) rfl
def nmF (f : Nat → Int32) : Nat → Nat → Int32 → Int32
  | 0, _, a => a
  | d + 1, t, a => nmF f d (t + 1) (jmin a (f t))
theorem jmin_rc (a b c : Int32) : jmin (jmin a b) c = jmin (jmin a c) b := by
  unfold jmin
  apply Int32.toInt_inj.mp
  repeat' split
  all_goals (simp only [Int32.lt_iff_toInt_lt] at *; try omega)
def nmB (w h : Nat) : Nat := if w = h then 8 else 4
theorem nm_eq {f : Nat → Int32} {w h : Nat} : nmF (fun t => f (sw t)) (nmB w h - 1) 1 (f 0) = nmF f (nmB w h - 1) 1 (f 0) := by
  unfold nmB
  split
  · show jmin (jmin (jmin (jmin (jmin (jmin (jmin (f 0) (f 2)) (f 1)) (f 3)) (f 4)) (f 6)) (f 5)) (f 7) = jmin (jmin (jmin (jmin (jmin (jmin (jmin (f 0) (f 1)) (f 2)) (f 3)) (f 4)) (f 5)) (f 6)) (f 7)
    rw [jmin_rc (f 0) (f 2) (f 1), jmin_rc _ (f 6) (f 5)]
  · show jmin (jmin (jmin (f 0) (f 2)) (f 1)) (f 3) = jmin (jmin (jmin (f 0) (f 1)) (f 2)) (f 3)
    rw [jmin_rc (f 0) (f 2) (f 1)]
theorem nameC_ok {σ : GSt} {o i w h : Nat} {P : Nat → Nat} {dn : Nat} {Q : Int32 → GSt → Prop} (w2 : 2 ≤ w) (w4 : w ≤ 4) (h2 : 2 ≤ h) (h4 : h ≤ 4) (hV : VP w h P) (hP : CP σ o i P dn) (ew : σ (i + 3) 0 = nI w) (eh : σ (i + 3) 1 = nI h) (hQ : Q (nmF (cdv w h P) (nmB w h - 1) 1 (cdv w h P 0)) σ) : D_X5_name o σ Q := by
  obtain ⟨hr, er⟩ := hP.ref
  refine codeT_ok (t := 0) w2 w4 h2 h4 (by decide) hV hP ew eh ?_
  have key : ∀ (m : Nat), m ≤ 8 → ∀ (d t : Nat) (a : Int32), 1 ≤ t → t + d = m → Q (nmF (cdv w h P) d t a) σ → L_X5_name_38 Q o (d + 1) a (nI m) (nI t) σ := by
    intro m m8 d
    induction d with
    | zero =>
      intro t a t1 ht hq
      exact ⟨fun _ => hq, fun z => absurd (nI_le (by omega) (by omega)) z⟩
    | succ d ih =>
      intro t a t1 ht hq
      refine ⟨fun z => absurd z (nI_ge (by omega) (by omega)), fun _ => ?_⟩
      refine codeT_ok w2 w4 h2 h4 (by omega) hV hP ew eh (fun y ey z ez => ?_)
      rw [ey, ez, nI_1]
      exact ih (t + 1) _ (by omega) (by omega) hq
  refine ⟨hr, hr, ?_⟩
  rw [er, ew, eh]
  unfold nmB at hQ
  refine ⟨fun z => ⟨4, ?_⟩, fun z => ⟨8, ?_⟩⟩
  · rw [if_neg (fun y => z (by rw [y]))] at hQ
    exact key 4 (by decide) 3 1 _ (by decide) (by decide) hQ
  · rw [if_pos ((nI_eq (by omega) (by omega)).mp z)] at hQ
    exact key 8 (by decide) 7 1 _ (by decide) (by decide) hQ
theorem nameM_ok {σ : GSt} {g : Nat} {G : GM} {ps : PS} {Q : Int32 → GSt → Prop} (hG : GOK G) (hL : Lv σ g 0 G ps) (hQ : Q (nmF (cdv (gW G) (gH G) (psP ps)) (nmB (gW G) (gH G) - 1) 1 (cdv (gW G) (gH G) (psP ps) 0)) σ) : D_X11_name σ Q := by
  obtain ⟨⟨w2, w4, h2, h4⟩, -⟩ := id hG
  obtain ⟨⟨g9, eg⟩, ⟨ew, eh⟩, -⟩ := hL.1
  have vg : vp_in (nI g) 9 := vp_in_nI g9 (by decide)
  rw [← nm_eq] at hQ
  unfold D_X11_name D_X11_name_0
  refine codeM_ok (t := 0) hG (by decide) hL ⟨nmB (gW G) (gH G), ?_⟩
  have m8 : 4 ≤ nmB (gW G) (gH G) ∧ nmB (gW G) (gH G) ≤ 8 := by unfold nmB; split <;> decide
  have key : ∀ (d t : Nat) (a : Int32), 1 ≤ t → t + d = nmB (gW G) (gH G) → Q (nmF (fun t => cdv (gW G) (gH G) (psP ps) (sw t)) d t a) σ → L_X11_name_8 Q (d + 1) a (nI t) σ := by
    intro d
    induction d with
    | zero =>
      intro t a t1 ht hq
      unfold L_X11_name_8 D_X11_name_8
      rw [eg, nI_clamp (show g < 2 ^ 31 by omega), ew, eh]
      unfold nmB at ht
      refine ⟨vg, vg, fun z => ⟨fun _ => hq, fun y => ?_⟩, fun z => ⟨fun _ => hq, fun y => ?_⟩⟩
      · rw [if_neg (fun y => z (by rw [y]))] at ht
        exact absurd (nI_le (a := 4) (b := t) (by omega) (by omega)) y
      · rw [if_pos ((nI_eq (by omega) (by omega)).mp z)] at ht
        exact absurd (nI_le (a := 8) (b := t) (by omega) (by omega)) y
    | succ d ih =>
      intro t a t1 ht hq
      have go : D_X11_code (nI t) σ (fun r_1 σ_2 => (a ≤ r_1 → D_X11_name_57 (L_X11_name_8 Q (d + 1)) Q (nI t) a σ_2) ∧ (¬ a ≤ r_1 → D_X11_code (nI t) σ_2 (fun r_3 σ_4 => D_X11_name_57 (L_X11_name_8 Q (d + 1)) Q (nI t) r_3 σ_4))) := by
        have hq2 : Q (nmF (fun t => cdv (gW G) (gH G) (psP ps) (sw t)) d (t + 1) (jmin a (cdv (gW G) (gH G) (psP ps) (sw t)))) σ := hq
        unfold jmin at hq2
        refine codeM_ok hG (by omega) hL ⟨fun z y ey => ?_, fun z => codeM_ok hG (by omega) hL (fun y ey => ?_)⟩
        · rw [if_neg (Int32.not_lt.mpr z)] at hq2
          rw [ey, nI_1]
          exact ih (t + 1) _ (by omega) (by omega) hq2
        · rw [if_pos (Int32.not_le.mp z)] at hq2
          rw [ey, nI_1]
          exact ih (t + 1) _ (by omega) (by omega) hq2
      unfold L_X11_name_8 D_X11_name_8
      rw [eg, nI_clamp (show g < 2 ^ 31 by omega), ew, eh]
      unfold nmB at ht
      refine ⟨vg, vg, fun z => ⟨fun y => ?_, fun _ => go⟩, fun z => ⟨fun y => ?_, fun _ => go⟩⟩
      · rw [if_neg (fun y => z (by rw [y]))] at ht
        exact absurd y (nI_ge (a := t) (b := 4) (by omega) (by decide))
      · rw [if_pos ((nI_eq (by omega) (by omega)).mp z)] at ht
        exact absurd y (nI_ge (a := t) (b := 8) (by omega) (by decide))
  have := key (nmB (gW G) (gH G) - 1) 1 _ (by decide) (by omega) hQ
  rw [show nmB (gW G) (gH G) - 1 + 1 = nmB (gW G) (gH G) by omega] at this
  exact this
theorem op_state : Op_state InvA := by
  intro x1 σ hI
  obtain ⟨ng, Gs, Ls, tp, pl, h⟩ := id hI
  unfold D_X10_state D_X10_state_0
  cases pl with
  | none =>
    have h3 := (no3 h).1 rfl
    refine ⟨fun z => absurd h3 z, fun _ => refuse_ok rf_3 ?_⟩
    unfold D_X11_state D_X11_state_0
    exact stands_ok h.plm.rf (fun _ => ⟨fun z => absurd rfl z, fun _ => no_ok rf_3 ⟨rfl, hI.rf rf_3⟩⟩) (fun _ _ _ e => absurd e (by simp))
  | some y =>
    obtain ⟨g, ms⟩ := y
    have h3 := (no3 h).2 g ms rfl
    obtain ⟨g8, hG, hV, hD, hP, hB, e2, hR, hlen⟩ := h.cls
    obtain ⟨⟨w2, w4, h2, h4⟩, -⟩ := id hG
    have s3 := hV.2.2.1
    have hw2 := hV.2.2.2.1
    have bw : σ (61 + 22 * g + 3) 0 = nI (gW (Gs g)) ∧ σ (61 + 22 * g + 3) 1 = nI (gH (Gs g)) := ⟨(h.2.1 g h.2.2.2.2.2.1.1).2.1.1.1.1, (h.2.1 g h.2.2.2.2.2.1.1).2.1.1.1.2.1⟩
    have mod : ∀ (r : Int32), ¬ (x1 < 0 ∨ 8 < x1) → (∀ (σ1 : GSt), Lv σ1 g 0 (Gs g) (rpl (Gs g) ms) → InvA σ1 → (x1 = 0 → r = nI (psD (rpl (Gs g) ms))) ∧ (x1 = 1 → r = nI (psD (rpl (Gs g) ms) % 2)) ∧ (x1 = 2 → r = nI (psS (rpl (Gs g) ms))) ∧ (x1 = 3 → r = wC (psS (rpl (Gs g) ms)) (psW (rpl (Gs g) ms))) ∧ (x1 = 4 → r = psE (rpl (Gs g) ms)) ∧ (x1 = 5 → r = cdv (gW (Gs g)) (gH (Gs g)) (psP (rpl (Gs g) ms)) 0) ∧ (x1 = 6 → r = nmF (cdv (gW (Gs g)) (gH (Gs g)) (psP (rpl (Gs g) ms))) (nmB (gW (Gs g)) (gH (Gs g)) - 1) 1 (cdv (gW (Gs g)) (gH (Gs g)) (psP (rpl (Gs g) ms)) 0)) ∧ (x1 = 7 → r = nI (cntF (pc (psP (rpl (Gs g) ms)) 1) 16 0)) ∧ (x1 = 8 → r = nI (cntF (pc (psP (rpl (Gs g) ms)) 2) 16 0))) → D_X11_state x1 σ (fun r2 σ2 => r = r2 ∧ InvA σ2) := by
      intro r hx k
      unfold D_X11_state D_X11_state_0
      refine stands_ok h.plm (fun e => absurd e (by simp)) (fun g' ms' σ1 e hL hF => ⟨fun _ => ?_, fun z => absurd z (by decide)⟩)
      obtain ⟨eg, em⟩ := Prod.mk.inj (Option.some.inj e)
      subst eg em
      have hI1 : InvA σ1 := ⟨_, _, _, _, _, h.keep (KP.ofSF (SF.ofPF hF))⟩
      obtain ⟨k0, k1, k2, k3, k4, k5, k6, k7, k8⟩ := k σ1 hL hI1
      rw [show Int32.toNatClampNeg 0 = 0 by decide, hL.2.2.1.1, hL.2.2.1.2.1, hL.2.2.1.2.2.1, hL.2.2.1.2.2.2.1, hL.2.2.1.2.2.2.2]
      refine ⟨fun z => absurd z hx, fun z => ⟨k0 z, hI1⟩, fun z => ⟨?_, hI1⟩, fun z => ⟨k2 z, hI1⟩, fun z => ⟨fun q => ⟨fun q2 => ⟨?_, hI1⟩, fun q2 => ⟨?_, hI1⟩⟩, fun q => ⟨?_, hI1⟩⟩, fun z => ⟨k4 z, hI1⟩, fun z => codeM_ok (t := 0) hG (by decide) hL ⟨k5 z, hI1⟩, fun z => nameM_ok hG hL ⟨k6 z, hI1⟩, fun z => ?_, fun z => ?_⟩
      · rw [k1 z]
        unfold sd
        rw [show (1 : Int32) = nI 1 from rfl, pk_sub (by omega), Nat.add_sub_cancel]
      · rw [k3 z]
        unfold wC
        rw [if_neg (fun y => q (by rw [y]; rfl)), if_neg (fun y => q2 (by rw [y]; rfl)), show (1 : Int32) = nI 1 from rfl, pk_sub]
        have : ¬ psW (rpl (Gs g) ms) = 0 := fun y => q2 (by rw [y]; rfl)
        omega
      · rw [k3 z]
        unfold wC
        rw [if_neg (fun y => q (by rw [y]; rfl)), if_pos ((nI_eq (b := 0) (by omega) (by decide)).mp q2)]
      · rw [k3 z]
        unfold wC
        rw [if_pos ((nI_eq (b := 0) (by omega) (by decide)).mp q)]
      · rw [z, show (7 : Int32) - 6 = nI 1 by decide]
        exact pieces_ok (dd := 0) hG hL.1 (by decide) (by decide) hV.1 hL.2.1 ⟨k7 z, hI1⟩
      · rw [z, show (8 : Int32) - 6 = nI 2 by decide]
        exact pieces_ok (dd := 0) hG hL.1 (by decide) (by decide) hV.1 hL.2.1 ⟨k8 z, hI1⟩
    have no : ∀ (a b : Int32) {A : Prop}, ¬ a = b → x1 = a → x1 = b → A := fun a b A hne e1 e2 => absurd (e1.symm.trans e2) hne
    have inr : ∀ a : Int32, ¬ (a < 0 ∨ 8 < a) → x1 = a → ¬ (x1 < 0 ∨ 8 < x1) := fun a ha e => e ▸ ha
    refine ⟨fun _ => ⟨fun z => refuse_ok rf_2 ?_, fun z => ?_, fun z => ?_, fun z => ?_, fun z => ?_, fun z => ?_, fun z => ?_, fun z => ?_, fun z => ?_, fun z => ?_⟩, fun z => absurd z h3⟩
    · unfold D_X11_state D_X11_state_0
      refine stands_ok h.plm.rf (fun e => absurd e (by simp)) (fun g' ms' σ1 e hL hF => ⟨fun _ => ?_, fun w => absurd w (by decide)⟩)
      have ne : ∀ a : Int32, ¬ (a < 0 ∨ 8 < a) → ∀ {A : Prop}, x1 = a → A := fun a ha A e => absurd (e ▸ z) ha
      exact ⟨fun _ => no_ok rf_2 ⟨rfl, no2 hI rf_2 (SF.ofPF hF)⟩, ne 0 (by decide), ne 1 (by decide), ne 2 (by decide), ne 3 (by decide), ne 4 (by decide), ne 5 (by decide), ne 6 (by decide), ne 7 (by decide), ne 8 (by decide)⟩
    · rw [hP.1.2.2.2.2.1]
      exact mod _ (inr 0 (by decide) z) (fun σ1 _ _ => ⟨fun _ => rfl, no 0 1 (by decide) z, no 0 2 (by decide) z, no 0 3 (by decide) z, no 0 4 (by decide) z, no 0 5 (by decide) z, no 0 6 (by decide) z, no 0 7 (by decide) z, no 0 8 (by decide) z⟩)
    · unfold D_X5_side D_X5_side_0
      rw [hP.1.odd]
      exact mod _ (inr 1 (by decide) z) (fun σ1 _ _ => ⟨no 1 0 (by decide) z, fun _ => rfl, no 1 2 (by decide) z, no 1 3 (by decide) z, no 1 4 (by decide) z, no 1 5 (by decide) z, no 1 6 (by decide) z, no 1 7 (by decide) z, no 1 8 (by decide) z⟩)
    · rw [hP.2.1]
      exact mod _ (inr 2 (by decide) z) (fun σ1 _ _ => ⟨no 2 0 (by decide) z, no 2 1 (by decide) z, fun _ => rfl, no 2 3 (by decide) z, no 2 4 (by decide) z, no 2 5 (by decide) z, no 2 6 (by decide) z, no 2 7 (by decide) z, no 2 8 (by decide) z⟩)
    · rw [hP.2.2.1]
      exact mod _ (inr 3 (by decide) z) (fun σ1 _ _ => ⟨no 3 0 (by decide) z, no 3 1 (by decide) z, no 3 2 (by decide) z, fun _ => rfl, no 3 4 (by decide) z, no 3 5 (by decide) z, no 3 6 (by decide) z, no 3 7 (by decide) z, no 3 8 (by decide) z⟩)
    · rw [hP.2.2.2]
      exact mod _ (inr 4 (by decide) z) (fun σ1 _ _ => ⟨no 4 0 (by decide) z, no 4 1 (by decide) z, no 4 2 (by decide) z, no 4 3 (by decide) z, fun _ => rfl, no 4 5 (by decide) z, no 4 6 (by decide) z, no 4 7 (by decide) z, no 4 8 (by decide) z⟩)
    · refine codeT_ok (t := 0) w2 w4 h2 h4 (by decide) hV.1 hP.1 bw.1 bw.2 ?_
      exact mod _ (inr 5 (by decide) z) (fun σ1 _ _ => ⟨no 5 0 (by decide) z, no 5 1 (by decide) z, no 5 2 (by decide) z, no 5 3 (by decide) z, no 5 4 (by decide) z, fun _ => rfl, no 5 6 (by decide) z, no 5 7 (by decide) z, no 5 8 (by decide) z⟩)
    · refine nameC_ok w2 w4 h2 h4 hV.1 hP.1 bw.1 bw.2 ?_
      exact mod _ (inr 6 (by decide) z) (fun σ1 _ _ => ⟨no 6 0 (by decide) z, no 6 1 (by decide) z, no 6 2 (by decide) z, no 6 3 (by decide) z, no 6 4 (by decide) z, no 6 5 (by decide) z, fun _ => rfl, no 6 7 (by decide) z, no 6 8 (by decide) z⟩)
    · rw [hP.1.2.2.1]
      refine bitCount_ok ?_
      exact mod _ (inr 7 (by decide) z) (fun σ1 _ _ => ⟨no 7 0 (by decide) z, no 7 1 (by decide) z, no 7 2 (by decide) z, no 7 3 (by decide) z, no 7 4 (by decide) z, no 7 5 (by decide) z, no 7 6 (by decide) z, fun _ => rfl, no 7 8 (by decide) z⟩)
    · rw [hP.1.2.2.2.1]
      refine bitCount_ok ?_
      exact mod _ (inr 8 (by decide) z) (fun σ1 _ _ => ⟨no 8 0 (by decide) z, no 8 1 (by decide) z, no 8 2 (by decide) z, no 8 3 (by decide) z, no 8 4 (by decide) z, no 8 5 (by decide) z, no 8 6 (by decide) z, no 8 7 (by decide) z, fun _ => rfl⟩)
