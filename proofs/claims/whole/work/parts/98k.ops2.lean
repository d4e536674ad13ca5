theorem runI {σ : GSt} {ng : Nat} {Gs : Nat → GM} {Ls : Nat → List Int32} {tp : List Int32} {pl : Option (Nat × List Nat)} {o i a b n : Nat} {z : Int32} {Q : GSt → Prop} (h : IA σ ng Gs Ls tp pl) (hi : i < ng) (ho : kd o = 8) (a3 : a ≤ 3) (b3 : b ≤ 3) (hn : n ≤ 20) (hQ : ∀ σ' : GSt, TlC σ' o (meas (Gs i) a b z n) → (1 ≤ n → PosC σ' (o + 1) (61 + 22 * i) (lastP (Gs i) a b z (n - 1))) → CFr o σ σ' → IA σ' ng Gs Ls tp pl → Q σ') : D_X8_run o (61 + 22 * i) (nI n) z (nI a) (nI b) σ Q := by
  have hg := h.2.1 i hi
  have n8 := h.1.1
  have oK := kd8 ho
  exact run_ok hg.ok.1 ho (kdg (by omega)) a3 b3 hn hg.cb (fun σ' h1 h2 h3 => hQ σ' h1 h2 h3 (h.keep (KP.ofC (fun a p => h3 a (by omega) (by omega) (by omega) (by omega)))))
theorem mesI {σ : GSt} {ng : Nat} {Gs : Nat → GM} {Ls : Nat → List Int32} {tp : List Int32} {pl : Option (Nat × List Nat)} {i a b n : Nat} {z : Int32} {Q : GSt → Prop} (h : IA σ ng Gs Ls tp pl) (hi : i < ng) (a3 : a ≤ 3) (b3 : b ≤ 3) (hn : n ≤ 20) (hQ : ∀ σ' : GSt, TlM σ' (meas (Gs i) a b z n) → (1 ≤ n → Lv σ' i 0 (Gs i) (lastP (Gs i) a b z (n - 1))) → SF σ σ' → IA σ' ng Gs Ls tp pl → Q σ') : D_X11_measures (nI i) (nI n) z (nI a) (nI b) σ Q := by
  have hg := h.2.1 i hi
  have n8 := h.1.1
  exact measures_ok hg.ok.1 a3 b3 hn (hg.mg (by omega) h.2.2.2.2.1) (fun σ' h1 h2 h3 => hQ σ' h1 h2 h3 (h.keep (KP.ofSF h3)))
theorem noPlayer_ok {x : Int32} {σ : GSt} {Q : Int32 → GSt → Prop} (h1 : ¬ (0 ≤ x ∧ x ≤ 3) → Q 1 σ) (h0 : ∀ a, a ≤ 3 → x = nI a → Q 0 σ) : D_X10_isNoPlayer x σ Q := by
  refine ⟨fun q => h1 (fun z => absurd q (Int32.not_lt.mpr z.1)), fun q => ⟨fun r => ?_, fun r => h1 (fun z => r z.2)⟩⟩
  obtain ⟨j, hj, e⟩ := nI_of2 (n := 3) (by decide) q r
  exact h0 j hj e
theorem op_match : Op_match InvA := by
  intro x1 x2 x3 x4 σ hI
  obtain ⟨ng, Gs, Ls, tp, pl, h⟩ := id hI
  have n8 := h.1.1
  have l0 : (0 : Int64) = (0 : Int32).toInt64 := by decide
  have l3 : (3 : Int64) = (3 : Int32).toInt64 := by decide
  unfold D_X10_match D_X10_match_0
  refine noGame_ok n8 h.1.2.1 (fun hno => ⟨fun z => absurd z (by decide), fun _ => ?_⟩) (fun i hi e => ⟨fun _ => ?_, fun z => absurd rfl z⟩)
  · refine refuse_ok rf_1 ?_
    unfold D_X11_match D_X11_match_0
    exact isGame_ok n8 (by rw [rfC_ne (by decide)]; exact h.1.2.2) (fun _ => ⟨fun z => absurd rfl z, fun _ => no_ok rf_1 ⟨rfl, hI.rf rf_1⟩⟩) (fun i hi e => absurd e (hno i hi))
  · subst e
    have ref : ¬ (0 ≤ x2 ∧ x2 ≤ 3) ∨ ¬ (0 ≤ x3 ∧ x3 ≤ 3) → D_X10_match_28 (fun r1 σ1 => D_X11_match (nI i) x2 x3 x4 σ1 (fun r2 σ2 => r1 = r2 ∧ InvA σ2)) σ := by
      intro hr
      refine refuse_ok rf_2 ?_
      have fin : D_X11_match_38 (fun r2 σ2 => -2 = r2 ∧ InvA σ2) (rfC σ (-2)) := no_ok rf_2 ⟨rfl, hI.rf rf_2⟩
      unfold D_X11_match D_X11_match_0
      refine isGame_ok n8 (by rw [rfC_ne (by decide)]; exact h.1.2.2) (fun hno => absurd rfl (hno i hi)) (fun _ _ _ => ⟨fun _ => ?_, fun z => absurd z (by decide)⟩)
      refine isIn_ok l0 l3 (fun p q => ⟨fun z => absurd z (by decide), fun _ => ?_⟩) (fun _ => ⟨fun _ => fin, fun z => absurd rfl z⟩)
      refine isIn_ok l0 l3 (fun p2 q2 => ?_) (fun _ => ⟨fun z => absurd rfl z, fun _ => fin⟩)
      rcases hr with hr | hr
      · exact absurd ⟨p, q⟩ hr
      · exact absurd ⟨p2, q2⟩ hr
    refine noPlayer_ok (fun hn => ⟨fun _ => ref (Or.inl hn), fun z => absurd z (by decide)⟩) (fun a a3 ea => ⟨fun z => absurd rfl z, fun _ => ?_⟩)
    refine noPlayer_ok (fun hn => ⟨fun z => absurd z (by decide), fun _ => ref (Or.inr hn)⟩) (fun b b3 eb => ⟨fun _ => ⟨vp_in_nI (by omega) (by decide), ?_⟩, fun z => absurd rfl z⟩)
    rw [ea, eb, nI_clamp (show i < 2 ^ 31 by omega)]
    refine runI (n := 1) h hi (by decide +kernel) a3 b3 (by decide) (fun σ1 t1 p1 c1 h1 => ?_)
    have hV := mPo_PV (a := a) (b := b) (z := x4 + nI 0) (t := meas (Gs i) a b x4 0) (h.2.1 i hi).ok.1
    have eM : tM (meas (Gs i) a b x4 1) = nI (psD (lastP (Gs i) a b x4 0)) := by
      show (0 : Int32) + nI (psD (lastP (Gs i) a b x4 0)) = _
      rw [Int32.zero_add]
    rw [t1.1.2.1, eM, (p1 (by decide)).2.2.1]
    unfold D_X11_match D_X11_match_0
    refine isGame_ok n8 h1.1.2.2 (fun hno => absurd rfl (hno i hi)) (fun _ _ _ => ⟨fun _ => ?_, fun z => absurd z (by decide)⟩)
    refine isIn_ok l0 l3 (fun p q => ⟨fun z => absurd z (by decide), fun _ => ?_⟩) (fun z => absurd ⟨nI_pos' (by omega), nI_le (a := a) (b := 3) a3 (by decide)⟩ z)
    refine isIn_ok l0 l3 (fun p q => ⟨fun _ => ?_, fun z => absurd z (by decide)⟩) (fun z => absurd ⟨nI_pos' (by omega), nI_le (a := b) (b := 3) b3 (by decide)⟩ z)
    refine mesI (n := 1) h1 hi a3 b3 (by decide) (fun σ2 t2 p2 c2 h2 => ?_)
    have v2 := (p2 (by decide)).2.2.1
    have w2 := hV.1.2.2.2.1
    rw [show Int32.toNatClampNeg 0 = 0 by decide, v2.2.1, v2.2.2.2.1]
    have ew : wC (psS (lastP (Gs i) a b x4 (1 - 1))) (psW (lastP (Gs i) a b x4 (1 - 1))) = if psW (lastP (Gs i) a b x4 (1 - 1)) = 0 then 2 else nI (psW (lastP (Gs i) a b x4 (1 - 1)) - 1) := by
      exact if_neg hV.2.2
    have w3 : psW (lastP (Gs i) a b x4 (1 - 1)) ≤ 2 := w2
    rw [ew]
    refine ⟨fun z => ⟨?_, _, _, _, _, _, h2⟩, fun z => ⟨?_, _, _, _, _, _, h2⟩⟩
    · have z0 : ¬ psW (lastP (Gs i) a b x4 (1 - 1)) = 0 := fun y => z (by rw [y]; rfl)
      rw [if_neg z0]
      have := pk_sub (a := psW (lastP (Gs i) a b x4 (1 - 1))) (b := 1) (by omega)
      rw [show (1 : Int32) = nI 1 from rfl, this]
    · rw [if_pos ((nI_eq (b := 0) (by omega) (by decide)).mp z)]
theorem plr_neg {x : Int32} (h : x < 0) (h1 : 0 ≤ x / 10) : jrem x 10 < 0 := by
  have hx := Int32.lt_iff_toInt_lt.mp h
  have h2 := Int32.le_iff_toInt_le.mp h1
  have e : (x / 10).toInt = x.toInt.tdiv 10 := Int32.toInt_div_of_ne_right x 10 (by decide)
  rw [show (0 : Int32).toInt = 0 by decide] at hx h2
  rw [e] at h2
  have e0 : x / 10 = 0 := by
    apply Int32.toInt_inj.mp
    rw [e, show (0 : Int32).toInt = 0 by decide]
    have : x.toInt.tdiv 10 ≤ 0 := by
      have := Int.tdiv_nonneg (a := -x.toInt) (b := 10) (by omega) (by decide)
      rw [Int.neg_tdiv] at this
      omega
    omega
  unfold jrem
  rw [e0, Int32.zero_mul, Int32.sub_zero]
  exact h
/-- the measures that a GAME of m MOVES and e ENDS has -/
def Ms (x : Int32) (m e : Nat) : Prop := (∃ k, k ≤ 6 ∧ x = nI k) ∨ (∃ k, k < m ∧ x = nI (10 + k)) ∨ ∃ k, k < e ∧ x = nI (20 + k)
theorem isMeasured_ok {σ : GSt} {o m e : Nat} {x : Int32} {Q : Int32 → GSt → Prop} (m6 : m ≤ 6) (e6 : e ≤ 6) (hm : σ o 5 = nI m) (he : σ o 7 = nI e) (h1 : Ms x m e → Q 1 σ) (h0 : ¬ Ms x m e → Q 0 σ) : D_X1_isMeasured o x σ Q := by
  rcases Decidable.em (x < 0) with z | z
  · have no : ¬ Ms x m e := by
      rintro (⟨k, hk, e⟩ | ⟨k, hk, e⟩ | ⟨k, hk, e⟩) <;> exact absurd (e ▸ z) (nI_pos (by omega))
    have big : ∀ y : Int32, 0 ≤ y → x < y := fun y hy => Int32.lt_of_lt_of_le z hy
    exact ⟨fun _ => ⟨fun _ => ⟨fun _ => h0 no, fun y => absurd (big 20 (by decide)) y⟩, fun y => absurd (big 10 (by decide)) y⟩, fun y => absurd z y⟩
  · obtain ⟨k, hk, ek⟩ := nI_of z
    subst ek
    have ms : Ms (nI k) m e ↔ k ≤ 6 ∨ (10 ≤ k ∧ k < 10 + m) ∨ (20 ≤ k ∧ k < 20 + e) := by
      constructor
      · rintro (⟨j, hj, e⟩ | ⟨j, hj, e⟩ | ⟨j, hj, e⟩) <;> (rw [nI_eq hk (by omega)] at e; omega)
      · rintro (p | p | p)
        · exact Or.inl ⟨k, p, rfl⟩
        · exact Or.inr (Or.inl ⟨k - 10, by omega, by rw [show 10 + (k - 10) = k by omega]⟩)
        · exact Or.inr (Or.inr ⟨k - 20, by omega, by rw [show 20 + (k - 20) = k by omega]⟩)
    rw [ms] at h1 h0
    have f27 : ¬ k ≤ 6 → ¬ (10 ≤ k ∧ k < 10 + m) → D_X1_isMeasured_27 Q o (nI k) σ := by
      intro p q
      unfold D_X1_isMeasured_27
      rw [he, show (20 : Int32) + nI e = nI (20 + e) from nI_add 20 e]
      refine pk_lt k 20 (fun r => h0 (by omega)) (fun r => pk_le (20 + e) k (fun s => h0 (by omega)) (fun s => h1 (by omega)))
    refine pk_lt k 0 (fun r => by omega) (fun _ => pk_le k 6 (fun r => h1 (Or.inl r)) (fun r => ?_))
    unfold D_X1_isMeasured_10
    rw [hm, show (10 : Int32) + nI m = nI (10 + m) from nI_add 10 m]
    exact pk_lt k 10 (fun r2 => f27 (by omega) (by omega)) (fun r2 => pk_lt k (10 + m) (fun r3 => h1 (by omega)) (fun r3 => f27 (by omega) (by omega)))
theorem out_mono {l0 l2 l4 : Int64} {σ : GSt} {Q Q' : Int32 → GSt → Prop} (h : D_X11_out l0 l2 l4 σ Q) (k : ∀ r s, Q r s → Q' r s) : D_X11_out l0 l2 l4 σ Q' := ⟨fun a => ⟨fun b => k _ _ ((h.1 a).1 b), fun b => k _ _ ((h.1 a).2 b)⟩, fun a => k _ _ (h.2 a)⟩
def mv5 (t : TL) (x : Int32) : Int32 := if x = 0 then nI (tA t) else if x = 1 then nI (tB t) else if x = 2 then nI (tD t) else if x = 3 then tM t else if x = 4 then tS t else if x = 5 then tK t else tL t
theorem mv5_L {t : TL} {x : Int32} (h : x < 0 ∨ 5 < x) : mv5 t x = tL t := by
  have ne : ∀ y : Int32, ¬ (y < 0 ∨ 5 < y) → ¬ x = y := fun y hy e => hy (e ▸ h)
  unfold mv5
  rw [if_neg (ne 0 (by decide)), if_neg (ne 1 (by decide)), if_neg (ne 2 (by decide)), if_neg (ne 3 (by decide)), if_neg (ne 4 (by decide)), if_neg (ne 5 (by decide))]
/-- what a measure tells -/
def tv (t : TL) (k : Nat) : Int32 := if k ≤ 6 then mv5 t (nI k) else if k < 20 then tU t (k - 10) else tE t (k - 20)
theorem told_ok {σ : GSt} {o m e k : Nat} {t : TL} {Q : Int32 → GSt → Prop} (m6 : m ≤ 6) (e6 : e ≤ 6) (hk : k ≤ 6 ∨ (10 ≤ k ∧ k < 10 + m) ∨ (20 ≤ k ∧ k < 20 + e)) (hT : TlC σ o t) (hQ : Q (tv t k) σ) : D_X8_told o (nI k) σ Q := by
  obtain ⟨⟨t1, t2, t3, t4⟩, ⟨t5, t6, t7⟩, t8⟩ := hT
  unfold tv at hQ
  rcases hk with hk | hk | hk
  · rw [if_pos hk] at hQ
    refine pk_lt k 20 (fun _ => pk_lt k 10 (fun _ => ?_) (fun z => by omega)) (fun z => by omega)
    unfold D_X8_told_44
    rw [t1, t2, t3, t4, t5, t6, t7]
    refine ⟨fun z => ?_, fun z => ?_, fun z => ?_, fun z => ?_, fun z => ?_, fun z => ?_, fun z => ?_⟩
    · rw [mv5_L z] at hQ
      exact hQ
    · rw [z] at hQ; exact hQ
    · rw [z] at hQ; exact hQ
    · rw [z] at hQ
      rw [pk_sub (a := tA t + tB t + tD t) (b := tA t) (by omega), pk_sub (a := tA t + tB t + tD t - tA t) (b := tB t) (by omega), show tA t + tB t + tD t - tA t - tB t = tD t by omega]
      exact hQ
    · rw [z] at hQ; exact hQ
    · rw [z] at hQ; exact hQ
    · rw [z] at hQ; exact hQ
  · rw [if_neg (by omega), if_pos (by omega)] at hQ
    refine pk_lt k 20 (fun _ => pk_lt k 10 (fun z => by omega) (fun _ => pk_le 16 k (fun z => by omega) (fun _ => ?_))) (fun z => by omega)
    rw [show nI k - 10 = nI (k - 10) from pk_sub (a := k) (b := 10) (by omega)]
    refine ⟨vp_in_nI (by omega) (by decide), ?_⟩
    rw [nI_clamp (show k - 10 < 2 ^ 31 by omega), (t8 _ (by omega)).1]
    exact hQ
  · rw [if_neg (by omega), if_neg (by omega)] at hQ
    refine pk_lt k 20 (fun z => by omega) (fun _ => pk_le 26 k (fun z => by omega) (fun _ => ?_))
    rw [show nI k - 20 = nI (k - 20) from pk_sub (a := k) (b := 20) (by omega)]
    refine ⟨vp_in_nI (by omega) (by decide), ?_⟩
    rw [nI_clamp (show k - 20 < 2 ^ 31 by omega), (t8 _ (by omega)).2]
    exact hQ
theorem measM_ok {σ : GSt} {ng : Nat} {Gs : Nat → GM} {Ls : Nat → List Int32} {tp : List Int32} {pl : Option (Nat × List Nat)} {i : Nat} {x2 x3 x4 x5 r : Int32} (n8 : ng ≤ 8) (h20 : σ 237 20 = nI ng) (hg : GmI σ i (Gs i) (Ls i)) (hi : i < ng) (h1 : ¬ (0 ≤ x4 / 10 ∧ x4 / 10 ≤ 3 ∧ 0 ≤ jrem x4 10 ∧ jrem x4 10 ≤ 3) ∨ ¬ Ms x5 (gMv (Gs i)).length (gEn (Gs i)).length → D_X11_measure_106 (fun r2 σ2 => r = r2 ∧ InvA σ2) σ) (h2 : ∀ a b, a ≤ 3 → b ≤ 3 → x4 / 10 = nI a → jrem x4 10 = nI b → Ms x5 (gMv (Gs i)).length (gEn (Gs i)).length → D_X11_out x2.toInt64 1 20 σ (fun r_1 σ_2 => (r_1 = 0 → ∃ n k, 1 ≤ n ∧ n ≤ 20 ∧ x2 = nI n ∧ x5 = nI k ∧ (k ≤ 6 ∨ (10 ≤ k ∧ k < 10 + (gMv (Gs i)).length) ∨ (20 ≤ k ∧ k < 20 + (gEn (Gs i)).length)) ∧ IA σ_2 ng Gs Ls tp pl ∧ r = tv (meas (Gs i) a b x3 n) k) ∧ (¬ r_1 = 0 → D_X11_no r_1 σ_2 (fun r2 σ2 => r = r2 ∧ InvA σ2)))) : D_X11_measure (nI i) x2 x3 x4 x5 σ (fun r2 σ2 => r = r2 ∧ InvA σ2) := by
  obtain ⟨hG, -⟩ := hg.ok
  have m6 := hG.2.1.1
  have e6 := hG.2.2.1.1
  have vi : vp_in (nI i) 9 := vp_in_nI (by omega) (by decide)
  have s76 : ∀ s0 : Int32, (s0 = 0 ↔ ¬ Ms x5 (gMv (Gs i)).length (gEn (Gs i)).length) → D_X11_measure_76 (fun r2 σ2 => r = r2 ∧ InvA σ2) (nI i) x2 x3 x4 x5 s0 σ := by
    intro s0 hs
    refine ⟨fun z => h1 (Or.inl (fun y => absurd (plr_neg z y.1) (Int32.not_lt.mpr y.2.2.1))), fun z => ⟨fun q => h1 (Or.inl (fun y => absurd q (Int32.not_lt.mpr y.2.1))), fun q => ⟨fun q2 => h1 (Or.inl (fun y => absurd q2 (Int32.not_lt.mpr y.2.2.2))), fun q2 => ⟨fun q3 => ?_, fun q3 => h1 (Or.inr (hs.mp q3))⟩⟩⟩⟩
    obtain ⟨k4, hk4, e4⟩ := nI_of z
    have d1 : x4 / 10 = nI (k4 / 10) := by rw [e4]; exact pk_div (d := 10) hk4 (by decide) (by decide)
    have d2 : jrem x4 10 = nI (k4 % 10) := by rw [e4]; exact pk_rem (d := 10) hk4 (by decide) (by decide)
    have a3 : k4 / 10 ≤ 3 := by
      rw [d1] at q
      have := (nI_leI (a := k4 / 10) (b := 3) (by omega) (by decide)).mp (Int32.not_lt.mp q)
      exact this
    have b3 : k4 % 10 ≤ 3 := by
      rw [d2] at q2
      exact (nI_leI (a := k4 % 10) (b := 3) (by omega) (by decide)).mp (Int32.not_lt.mp q2)
    have hMs : Ms x5 (gMv (Gs i)).length (gEn (Gs i)).length := Classical.byContradiction (fun y => q3 (hs.mpr y))
    have := h2 _ _ a3 b3 d1 d2 hMs
    rw [d1, d2]
    refine out_mono this (fun r_1 σ_2 hh => ⟨fun y => ?_, hh.2⟩)
    obtain ⟨n, k, n1, n20, en, ek, hk, hI2, er⟩ := hh.1 y
    rw [en]
    refine mesI hI2 hi a3 b3 n20 (fun σ3 t3 _ _ h3 => ?_)
    obtain ⟨⟨t1, t2, t3', t4⟩, ⟨t5, t6, t7⟩, t8⟩ := t3
    have hInv : InvA σ3 := ⟨_, _, _, _, _, h3⟩
    unfold tv at er
    rw [ek]
    rcases hk with hk | hk | hk
    · rw [if_pos hk] at er
      refine pk_le k 9 (fun _ => ?_) (fun z => by omega)
      rw [t1, t2, t3', t4, t5, t6, t7]
      refine ⟨fun z => ⟨by rw [er, mv5_L z], hInv⟩, fun z => ⟨?_, hInv⟩, fun z => ⟨?_, hInv⟩, fun z => ⟨?_, hInv⟩, fun z => ⟨?_, hInv⟩, fun z => ⟨?_, hInv⟩, fun z => ⟨?_, hInv⟩⟩ <;> (rw [er, z]; rfl)
    · rw [if_neg (by omega), if_pos (by omega)] at er
      refine pk_le k 9 (fun _ => by omega) (fun _ => pk_le 20 k (fun z => by omega) (fun _ => ?_))
      rw [show nI k - 10 = nI (k - 10) from pk_sub (a := k) (b := 10) (by omega)]
      refine ⟨vp_in_nI (by omega) (by decide), ?_, hInv⟩
      rw [nI_clamp (show k - 10 < 2 ^ 31 by omega), (t8 _ (by omega)).1]
      exact er
    · rw [if_neg (by omega), if_neg (by omega)] at er
      refine pk_le k 9 (fun _ => by omega) (fun _ => pk_le 20 k (fun _ => ?_) (fun z => by omega))
      rw [show nI k - 20 = nI (k - 20) from pk_sub (a := k) (b := 20) (by omega)]
      refine ⟨vp_in_nI (by omega) (by decide), ?_, hInv⟩
      rw [nI_clamp (show k - 20 < 2 ^ 31 by omega), (t8 _ (by omega)).2]
      exact er
  unfold D_X11_measure D_X11_measure_0
  refine isGame_ok n8 h20 (fun hno => absurd rfl (hno i hi)) (fun _ _ _ => ⟨fun _ => ?_, fun z => absurd z (by decide)⟩)
  have yes : Ms x5 (gMv (Gs i)).length (gEn (Gs i)).length → D_X11_measure_71 (fun r2 σ2 => r = r2 ∧ InvA σ2) (nI i) x2 x3 x4 x5 σ := fun y => s76 1 ⟨fun z => absurd z (by decide), fun z => absurd y z⟩
  refine isIn_ok (lo := 0) (hi := 6) (by decide) (by decide) (fun p q => ⟨fun _ => yes (Or.inl ?_), fun z => absurd z (by decide)⟩) (fun n1 => ⟨fun z => absurd rfl z, fun _ => ⟨vi, ?_⟩⟩)
  · obtain ⟨k, hk, e⟩ := nI_of2 (n := 6) (by decide) (Int32.not_lt.mpr p) q
    exact ⟨k, hk, e⟩
  rw [nI_clamp (show i < 2 ^ 31 by omega), hg.2.2.1.2.1.1, show (9 : Int32) + nI (gMv (Gs i)).length = nI (9 + (gMv (Gs i)).length) from nI_add 9 _]
  refine isIn_ok (lo := 10) (by decide) rfl (fun p q => ⟨fun _ => yes (Or.inr (Or.inl ?_)), fun z => absurd z (by decide)⟩) (fun n2 => ⟨fun z => absurd rfl z, fun _ => ⟨vi, ?_⟩⟩)
  · obtain ⟨k, hk, e⟩ := nI_of2 (n := 9 + (gMv (Gs i)).length) (nI_toInt (by omega)) (Int32.not_lt.mpr (Int32.le_trans (by decide) p)) q
    have : 10 ≤ k := by rw [e] at p; exact (nI_leI (a := 10) (by decide) (by omega)).mp p
    exact ⟨k - 10, by omega, by rw [e, show 10 + (k - 10) = k by omega]⟩
  rw [hg.2.2.1.2.1.2.1, show (19 : Int32) + nI (gEn (Gs i)).length = nI (19 + (gEn (Gs i)).length) from nI_add 19 _]
  refine isIn_ok (lo := 20) (by decide) rfl (fun p q => ⟨fun z => absurd z (by decide), fun _ => yes (Or.inr (Or.inr ?_))⟩) (fun n3 => ⟨fun _ => s76 0 ⟨fun _ => ?_, fun _ => rfl⟩, fun z => absurd rfl z⟩)
  · obtain ⟨k, hk, e⟩ := nI_of2 (n := 19 + (gEn (Gs i)).length) (nI_toInt (by omega)) (Int32.not_lt.mpr (Int32.le_trans (by decide) p)) q
    have : 20 ≤ k := by rw [e] at p; exact (nI_leI (a := 20) (by decide) (by omega)).mp p
    exact ⟨k - 20, by omega, by rw [e, show 20 + (k - 20) = k by omega]⟩
  · rintro (⟨k, hk, e⟩ | ⟨k, hk, e⟩ | ⟨k, hk, e⟩)
    · exact n1 ⟨by rw [e]; exact nI_pos' (by omega), by rw [e]; exact nI_le (b := 6) hk (by decide)⟩
    · exact n2 ⟨by rw [e]; exact nI_le (a := 10) (by omega) (by omega), by rw [e]; exact nI_le (by omega) (by omega)⟩
    · exact n3 ⟨by rw [e]; exact nI_le (a := 20) (by omega) (by omega), by rw [e]; exact nI_le (by omega) (by omega)⟩
theorem op_measure : Op_measure InvA := by
  intro x1 x2 x3 x4 x5 σ hI
  obtain ⟨ng, Gs, Ls, tp, pl, h⟩ := id hI
  have n8 := h.1.1
  unfold D_X10_measure D_X10_measure_0
  refine noGame_ok n8 h.1.2.1 (fun hno => ⟨fun z => absurd z (by decide), fun _ => ?_⟩) (fun i hi e => ⟨fun _ => ?_, fun z => absurd rfl z⟩)
  · refine refuse_ok rf_1 ?_
    unfold D_X11_measure D_X11_measure_0
    exact isGame_ok n8 (by rw [rfC_ne (by decide)]; exact h.1.2.2) (fun _ => ⟨fun z => absurd rfl z, fun _ => no_ok rf_1 ⟨rfl, hI.rf rf_1⟩⟩) (fun i hi e => absurd e (hno i hi))
  · subst e
    have hg := h.2.1 i hi
    obtain ⟨hG, -⟩ := hg.ok
    have m6 := hG.2.1.1
    have e6 := hG.2.2.1.1
    -- the reference's state behind a refusal of the class: all but cell 60 stands
    have out : ∀ (x : Int32), isRf x → (¬ (0 ≤ x4 / 10 ∧ x4 / 10 ≤ 3 ∧ 0 ≤ jrem x4 10 ∧ jrem x4 10 ≤ 3) ∨ ¬ Ms x5 (gMv (Gs i)).length (gEn (Gs i)).length → x = -2) → ((0 ≤ x4 / 10 ∧ x4 / 10 ≤ 3 ∧ 0 ≤ jrem x4 10 ∧ jrem x4 10 ≤ 3) ∧ Ms x5 (gMv (Gs i)).length (gEn (Gs i)).length → (x2 < 1 ∧ x = -4) ∨ (¬ x2 < 1 ∧ 20 < x2 ∧ x = -6)) → D_X11_measure (nI i) x2 x3 x4 x5 (rfC σ x) (fun r2 σ2 => x = r2 ∧ InvA σ2) := by
      intro x hx k1 k2
      refine measM_ok (tp := tp) (pl := pl) n8 (by rw [rfC_ne (by decide)]; exact h.1.2.2) (hg.row (by omega) (fun a p q => rfC_ne (by omega)) (fun a j p q _ => by rw [rfC_ne (by omega)])) hi (fun q => by rw [k1 q]; exact no_ok rf_2 ⟨rfl, hI.rf rf_2⟩) (fun a b a3 b3 ea eb hM => ?_)
      have pOK : 0 ≤ x4 / 10 ∧ x4 / 10 ≤ 3 ∧ 0 ≤ jrem x4 10 ∧ jrem x4 10 ≤ 3 := by
        rw [ea, eb]
        exact ⟨nI_pos' (by omega), nI_le (b := 3) a3 (by decide), nI_pos' (by omega), nI_le (b := 3) b3 (by decide)⟩
      refine out_ok (lo := 1) (hi := 20) (by decide) (by decide) (fun y => ⟨fun z => absurd z (by decide), fun _ => ?_⟩) (fun y1 y => ⟨fun z => absurd z (by decide), fun _ => ?_⟩) (fun y1 y2 => ?_)
      · rcases k2 ⟨pOK, hM⟩ with ⟨_, e⟩ | ⟨z, _⟩
        · rw [e]; exact no_ok rf_4 ⟨rfl, hI.rf rf_4⟩
        · exact absurd y z
      · rcases k2 ⟨pOK, hM⟩ with ⟨z, _⟩ | ⟨_, _, e⟩
        · exact absurd z y1
        · rw [e]; exact no_ok rf_6 ⟨rfl, hI.rf rf_6⟩
      · rcases k2 ⟨pOK, hM⟩ with ⟨z, _⟩ | ⟨_, z, _⟩
        · exact absurd z y1
        · exact absurd z y2
    refine ⟨vp_in_nI (by omega) (by decide), ?_⟩
    rw [nI_clamp (show i < 2 ^ 31 by omega)]
    intro x7 e7 x8 e8
    rw [e7, e8]
    have r2 : ¬ (0 ≤ x4 / 10 ∧ x4 / 10 ≤ 3 ∧ 0 ≤ jrem x4 10 ∧ jrem x4 10 ≤ 3) ∨ ¬ Ms x5 (gMv (Gs i)).length (gEn (Gs i)).length → D_X10_measure_62 (fun r1 σ1 => D_X11_measure (nI i) x2 x3 x4 x5 σ1 (fun r2 σ2 => r1 = r2 ∧ InvA σ2)) σ := fun q => refuse_ok rf_2 (out _ rf_2 (fun _ => rfl) (fun y => q.elim (fun z => absurd y.1 z) (fun z => absurd y.2 z)))
    refine noPlayer_ok (fun z => ⟨fun _ => r2 (Or.inl (fun y => z ⟨y.1, y.2.1⟩)), fun y => absurd y (by decide)⟩) (fun a a3 ea => ⟨fun y => absurd rfl y, fun _ => ?_⟩)
    refine noPlayer_ok (fun z => ⟨fun _ => r2 (Or.inl (fun y => z ⟨y.2.2.1, y.2.2.2⟩)), fun y => absurd y (by decide)⟩) (fun b b3 eb => ⟨fun y => absurd rfl y, fun _ => ?_⟩)
    have pOK : 0 ≤ x4 / 10 ∧ x4 / 10 ≤ 3 ∧ 0 ≤ jrem x4 10 ∧ jrem x4 10 ≤ 3 := by
      rw [ea, eb]
      exact ⟨nI_pos' (by omega), nI_le (b := 3) a3 (by decide), nI_pos' (by omega), nI_le (b := 3) b3 (by decide)⟩
    refine isMeasured_ok m6 e6 hg.2.1.2.1.2.2.1 hg.2.1.2.1.2.2.2.1 (fun hM => ⟨fun _ => ⟨fun q1 => ⟨fun q2 => ?_, fun q2 => ?_⟩, fun q1 => ?_⟩, fun y => absurd y (by decide)⟩) (fun hM => ⟨fun y => absurd rfl y, fun _ => r2 (Or.inr hM)⟩)
    · obtain ⟨n, hn, en⟩ := nI_of2 (n := 20) (by decide) (Int32.not_lt.mpr (Int32.le_trans (by decide) q1)) q2
      have n1 : 1 ≤ n := by rw [en] at q1; exact (nI_leI (a := 1) (by decide) (by omega)).mp q1
      obtain ⟨k, ek, hk⟩ : ∃ k, x5 = nI k ∧ (k ≤ 6 ∨ (10 ≤ k ∧ k < 10 + (gMv (Gs i)).length) ∨ (20 ≤ k ∧ k < 20 + (gEn (Gs i)).length)) := by
        rcases hM with ⟨k, hk, e⟩ | ⟨k, hk, e⟩ | ⟨k, hk, e⟩
        · exact ⟨k, e, Or.inl hk⟩
        · exact ⟨_, e, Or.inr (Or.inl ⟨by omega, by omega⟩)⟩
        · exact ⟨_, e, Or.inr (Or.inr ⟨by omega, by omega⟩)⟩
      rw [en, ea, eb, ek]
      refine runI h hi (by decide +kernel) a3 b3 hn (fun σ1 t1 _ _ h1 => told_ok m6 e6 hk t1 ?_)
      refine measM_ok (tp := tp) (pl := pl) n8 h1.1.2.2 (h1.2.1 i hi) hi (fun z => ?_) (fun a' b' a3' b3' ea' eb' hM' => ?_)
      · rcases z with z | z
        · exact absurd pOK z
        · exact absurd (ek ▸ hM) z
      · have eA : a' = a := by rw [ea] at ea'; exact ((nI_eq (by omega) (by omega)).mp ea').symm
        have eB : b' = b := by rw [eb] at eb'; exact ((nI_eq (by omega) (by omega)).mp eb').symm
        rw [eA, eB]
        refine out_ok (lo := 1) (hi := 20) (by decide) (by decide) (fun y => absurd y (nI_nlt (b := 1) n1 (by omega))) (fun _ y => absurd y (nI_nlt (a := 20) hn (by omega))) (fun _ _ => ⟨fun _ => ⟨n, k, n1, hn, rfl, rfl, hk, h1, rfl⟩, fun y => absurd rfl y⟩)
    · refine refuse_ok rf_6 (out _ rf_6 (fun q => q.elim (fun z => absurd pOK z) (fun z => absurd hM z)) (fun _ => Or.inr ⟨Int32.not_lt.mpr q1, Int32.not_le.mp q2, rfl⟩))
    · refine refuse_ok rf_4 (out _ rf_4 (fun q => q.elim (fun z => absurd pOK z) (fun z => absurd hM z)) (fun _ => Or.inl ⟨Int32.not_le.mp q1, rfl⟩))
