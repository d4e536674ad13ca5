theorem cnt_mono {f g : Nat → Bool} (h : ∀ x, f x = true → g x = true) : ∀ d c, cntF f d c ≤ cntF g d c
  | 0, _ => Nat.le_refl _
  | d + 1, c => by
    have ih := cnt_mono h d (c + 1)
    have hc := h c
    unfold cntF
    cases hf : f c
    · simp
      split <;> omega
    · rw [hc hf]
      simp
      omega
theorem cnt_lt {f g : Nat → Bool} (h : ∀ x, f x = true → g x = true) : ∀ d c j, c ≤ j → j < c + d → f j = false → g j = true → cntF f d c < cntF g d c
  | 0, c, j, h1, h2, _, _ => by omega
  | d + 1, c, j, h1, h2, h3, h4 => by
    have hc := h c
    unfold cntF
    by_cases e : j = c
    · subst e
      have := cnt_mono h d (j + 1)
      rw [h3, h4]
      simp
      omega
    · have ih := cnt_lt h d (c + 1) j (by omega) (by omega) h3 h4
      cases hf : f c
      · simp
        split <;> omega
      · rw [hc hf]
        simp
        omega
theorem gr_f {w : Nat} {f R : Nat → Bool} {c : Nat} (h : gr w f R c = true) : f c = true := by
  unfold gr at h
  rw [Bool.and_eq_true] at h
  exact h.1
theorem gr_mono {w : Nat} {f R S : Nat → Bool} (h : ∀ x, R x = true → S x = true) (c : Nat) (hc : gr w f R c = true) : gr w f S c = true := by
  unfold gr at *
  simp only [Bool.and_eq_true, Bool.or_eq_true] at *
  refine ⟨hc.1, ?_⟩
  rcases hc.2 with (((q | q) | q) | q) | q
  · exact Or.inl (Or.inl (Or.inl (Or.inl (h _ q))))
  · exact Or.inl (Or.inl (Or.inl (Or.inr ⟨q.1, h _ q.2⟩)))
  · exact Or.inl (Or.inl (Or.inr ⟨q.1, h _ q.2⟩))
  · exact Or.inl (Or.inr ⟨q.1, h _ q.2⟩)
  · exact Or.inr (h _ q)
theorem gr_self {w : Nat} {f R : Nat → Bool} {c : Nat} (hf : f c = true) (hR : R c = true) : gr w f R c = true := by
  unfold gr
  rw [hf, hR]
  rfl
theorem itR_f {w : Nat} {f R : Nat → Bool} (h0 : ∀ c, R c = true → f c = true) : ∀ n c, itR w f R n c = true → f c = true
  | 0, c, h => h0 c h
  | _ + 1, _, h => gr_f h
theorem itR_up {w : Nat} {f R : Nat → Bool} (h0 : ∀ c, R c = true → f c = true) (n c : Nat) (h : itR w f R n c = true) : itR w f R (n + 1) c = true := gr_self (itR_f h0 n c h) h
theorem itR_closed {w N : Nat} {f R : Nat → Bool} (hN : N ≤ 16) (hf : ∀ c, N ≤ c → f c = false) (h0 : ∀ c, R c = true → f c = true) : itR w f R (N + 1) = itR w f R N := by
  have cnt : ∀ n, cntF (itR w f R n) 16 0 ≤ N := fun n => by
    rw [cnt_trim hN (fun c hc => by
      cases h : itR w f R n c
      · rfl
      · have := itR_f h0 n c h
        rw [hf c hc] at this
        exact absurd this (by decide))]
    exact cntF_le _ _ _
  have step : ∀ n, itR w f R (n + 1) = itR w f R n ∨ cntF (itR w f R n) 16 0 < cntF (itR w f R (n + 1)) 16 0 := by
    intro n
    by_cases q : ∃ c, c < 16 ∧ itR w f R n c = false ∧ itR w f R (n + 1) c = true
    · obtain ⟨c, c16, q1, q2⟩ := q
      exact Or.inr (cnt_lt (itR_up h0 n) 16 0 c (Nat.zero_le _) (by omega) q1 q2)
    · left
      funext c
      cases h1 : itR w f R n c
      · cases h2 : itR w f R (n + 1) c
        · rfl
        · exfalso
          refine q ⟨c, ?_, h1, h2⟩
          have := itR_f h0 (n + 1) c h2
          rcases Nat.lt_or_ge c 16 with z | z
          · exact z
          · rw [hf c (by omega)] at this
            exact absurd this (by decide)
      · exact itR_up h0 n c h1
  have key : ∀ n, (∃ j, j ≤ n ∧ itR w f R (j + 1) = itR w f R j) ∨ n + 1 ≤ cntF (itR w f R (n + 1)) 16 0 := by
    intro n
    induction n with
    | zero =>
      rcases step 0 with h | h
      · exact Or.inl ⟨0, Nat.le_refl _, h⟩
      · right; omega
    | succ n ih =>
      rcases ih with ⟨j, hj, h⟩ | h
      · exact Or.inl ⟨j, by omega, h⟩
      · rcases step (n + 1) with h2 | h2
        · exact Or.inl ⟨n + 1, Nat.le_refl _, h2⟩
        · right; omega
  rcases key N with ⟨j, hj, h⟩ | h
  · have e1 := itR_fix h (N - j)
    have e2 := itR_fix h (N + 1 - j)
    rw [show j + (N - j) = N by omega] at e1
    rw [show j + (N + 1 - j) = N + 1 by omega] at e2
    rw [e1, e2]
  · have := cnt (N + 1)
    omega
/-- what lies beside c -/
def bsd (w N : Nat) (R : Nat → Bool) (c : Nat) : Bool := (decide (0 < c % w) && R (c - 1)) || ((decide (c % w < w - 1) && R (c + 1)) || ((decide (w ≤ c) && R (c - w)) || (decide (c + w < N) && R (c + w))))
theorem gr_bsd {w N : Nat} {f R : Nat → Bool} {c : Nat} (hR : ∀ x, N ≤ x → R x = false) (w1 : 1 ≤ w) : gr w f R c = (f c && (R c || bsd w N R c)) := by
  have hm : c % w < w := Nat.mod_lt _ w1
  unfold gr bsd
  have e1 : decide (c % w ≠ 0) = decide (0 < c % w) := decide_eq_decide.mpr (by omega)
  have e2 : decide (c % w ≠ w - 1) = decide (c % w < w - 1) := decide_eq_decide.mpr (by omega)
  have e3 : R (c + w) = (decide (c + w < N) && R (c + w)) := by
    by_cases q : c + w < N
    · rw [decide_eq_true q, Bool.true_and]
    · rw [hR _ (by omega), Bool.and_false]
  rw [e1, e2, ← e3]
  simp only [Bool.or_assoc]
/-- the reference's isOn -/
def On (σ : GSt) (N : Nat) (R : Nat → Bool) : Prop := ∀ c, c < N → σ 269 c = if R c then 1 else 0
theorem on0 {b : Bool} : (if b then (1 : Int32) else 0) = 0 ↔ b = false := by cases b <;> decide
theorem hasWayM_ok {σ : GSt} {g dd s : Nat} {G : GM} {P : Nat → Nat} {Q : Int32 → GSt → Prop} (hG : GOK G) (h : MB σ g G) (d9 : dd < 9) (hs : s = 1 ∨ s = 2) (hV : VP (gW G) (gH G) P) (hC : CL σ dd P)
    (hQ : ∀ (σ' : GSt) (b : Bool), b = wayB (gW G) (gH G) (pc P s) (decide (s = 1)) → (∀ a, a ≠ 269 → σ' a = σ a) → Q (if b then 1 else 0) σ') : D_X11_hasWay (nI dd) (nI s) σ Q := by
  obtain ⟨⟨w2, w4, h2, h4⟩, -⟩ := id hG
  have h16 : gW G * gH G ≤ 16 := Nat.mul_le_mul w4 h4
  obtain ⟨w, hw⟩ : ∃ w, w = gW G := ⟨_, rfl⟩
  obtain ⟨N, hN⟩ : ∃ N, N = gW G * gH G := ⟨_, rfl⟩
  rw [← hw] at w2 w4
  rw [← hN] at h16
  have w0 : ¬ nI w = 0 := nI_ne0 (by omega) (by omega)
  have l16 : ln 269 = 16 := by decide +kernel
  obtain ⟨f, hf⟩ : ∃ f, f = pc P s := ⟨_, rfl⟩
  obtain ⟨v, hv⟩ : ∃ v, v = decide (s = 1) := ⟨_, rfl⟩
  obtain ⟨R0, hR0⟩ : ∃ R0 : Nat → Bool, R0 = fun c => f c && ed0 (gW G) (gH G) v c := ⟨_, rfl⟩
  have fout : ∀ c, N ≤ c → f c = false := by rw [hf, hN]; exact pc_out hV (by omega)
  have r0f : ∀ c, R0 c = true → f c = true := fun c hc => by rw [hR0] at hc; exact (Bool.and_eq_true _ _ ▸ hc).1
  have r0out : ∀ c, N ≤ c → R0 c = false := fun c hc => by rw [hR0]; simp only; rw [fout c hc]; rfl
  have hclosed := itR_closed (w := w) h16 fout r0f
  have fr : ∀ τ : GSt, (∀ a, a ≠ 269 → τ a = σ a) → MB τ g G := fun τ ht => h.row (fun a ha => ht a (by omega))
  have frC : ∀ τ : GSt, (∀ a, a ≠ 269 → τ a = σ a) → CL τ dd P := fun τ ht c hc => by rw [ht 257 (by decide)]; exact hC c hc
  have eC : ∀ c, c < 16 → (16 : Int32) * nI dd + nI c = nI (16 * dd + c) := fun c _ => nlin 16 dd c
  have cellv : ∀ τ : GSt, (∀ a, a ≠ 269 → τ a = σ a) → ∀ c, c < 16 → (τ 257 (Int32.toNatClampNeg ((16 : Int32) * nI dd + nI c)) = nI s ↔ f c = true) := by
    intro τ ht c hc
    rw [eC c hc, nI_clamp (show 16 * dd + c < 2 ^ 31 by omega), frC τ ht c hc, hf]
    have := (hV c).1
    rw [nI_eq (by omega) (by omega)]
    exact decide_eq_true_iff.symm
  have vpc : ∀ c, c < 16 → vp_in ((16 : Int32) * nI dd + nI c) 144 := fun c hc => by rw [eC c hc]; exact vp_in_nI (by omega) (by decide)
  have erem : ∀ c, c < 16 → jrem (nI c) (nI w) = nI (c % w) := fun c hc => pk_rem (by omega) (by omega) (by omega)
  have ediv : ∀ c, c < 16 → nI c / nI w = nI (c / w) := fun c hc => pk_div (by omega) (by omega) (by omega)
  -- the last look
  have last : ∀ (d c : Nat) (τ : GSt), c + d = N → (∀ a, a ≠ 269 → τ a = σ a) → On τ N (itR w f R0 N) → (∀ b : Bool, b = wayB (gW G) (gH G) f v → b = anyF (fun c => itR w f R0 N c && ed1 (gW G) (gH G) v c) d c) → L_X11_hasWay_235 Q (d + 1) (nI s) (nI w) (nI c) τ := by
    intro d
    induction d with
    | zero =>
      intro c τ hc ht hOn hb
      unfold L_X11_hasWay_235 D_X11_hasWay_235
      refine cells_ok (fr τ ht) ⟨fun _ => ?_, fun z => absurd (nI_le (by omega) (by omega)) z⟩
      have := hQ τ _ rfl ht
      rw [← hf, ← hv, hb _ rfl] at this
      exact this
    | succ d ih =>
      intro c τ hc ht hOn hb
      have ht' := fr τ ht
      unfold L_X11_hasWay_235 D_X11_hasWay_235
      refine cells_ok ht' ⟨fun z => absurd z (nI_ge (by omega) (by omega)), fun _ => ?_⟩
      rw [nI_clamp (show c < 2 ^ 31 by omega), hOn c (by omega), on0, erem c (by omega), ediv c (by omega), ht'.gi, ht'.2.1.2]
      have hb' : ∀ b : Bool, b = wayB (gW G) (gH G) f v → b = ((itR w f R0 N c && ed1 (gW G) (gH G) v c) || anyF (fun c => itR w f R0 N c && ed1 (gW G) (gH G) v c) d (c + 1)) := hb
      have nxt : (itR w f R0 N c && ed1 (gW G) (gH G) v c) = false → D_X11_hasWay_292 (L_X11_hasWay_235 Q (d + 1)) Q (nI s) (nI w) (nI c) τ := by
        intro hz x ex
        rw [ex, nI_1 c]
        refine ih (c + 1) τ (by omega) ht hOn (fun b eb => ?_)
        have := hb' b eb
        rw [hz, Bool.false_or] at this
        exact this
      have yes : (itR w f R0 N c && ed1 (gW G) (gH G) v c) = true → Q 1 τ := by
        intro hz
        have := hQ τ _ rfl ht
        rw [← hf, ← hv, hb' _ rfl, hz] at this
        exact this
      have cl : c < gW G * gH G := by omega
      refine ⟨vp_in_nI (by omega) (by decide), fun z => nxt (by rw [z]; rfl), fun z => ?_⟩
      rw [Bool.not_eq_false] at z
      rw [z, Bool.true_and] at nxt yes
      rw [show nI w - 1 = nI (w - 1) from pk_sub (b := 1) (by omega), show nI (gH G) - 1 = nI (gH G - 1) from pk_sub (b := 1) (by omega)]
      have ml : c % w < w := Nat.mod_lt _ (by omega)
      have dl : c / w ≤ c := Nat.div_le_self _ _
      rcases hs with rfl | rfl
      · have ev : v = true := hv
        have ee : ed1 (gW G) (gH G) v c = decide (c / w = gH G - 1) := by
          unfold ed1
          rw [ev, ← hw]
          simp only [if_true]
          apply decide_eq_decide.mpr
          rw [hw]
          exact ⟨fun t => t.2, fun t => ⟨cl, t⟩⟩
        rw [ee] at nxt yes
        refine ⟨fun z => absurd rfl z, fun _ => ⟨w0, ht'.vp, fun q => nxt (decide_eq_false (fun t => q (by rw [t]))), fun q => yes (decide_eq_true ((nI_eq (by omega) (by omega)).mp q))⟩⟩
      · have ev : v = false := hv
        have ee : ed1 (gW G) (gH G) v c = decide (c % w = w - 1) := by
          unfold ed1
          rw [ev, ← hw]
          simp only [Bool.false_eq_true, if_false]
          apply decide_eq_decide.mpr
          rw [hw]
          exact ⟨fun t => t.2, fun t => ⟨cl, t⟩⟩
        rw [ee] at nxt yes
        refine ⟨fun _ => ⟨w0, fun q => nxt (decide_eq_false (fun t => q (by rw [t]))), fun q => yes (decide_eq_true ((nI_eq (by omega) (by omega)).mp q))⟩, fun z => absurd z (by decide)⟩
  -- the rounds
  have rounds : ∀ (d j : Nat) (τ : GSt) (R : Nat → Bool), j + d = N → (∀ a, a ≠ 269 → τ a = σ a) → On τ N R → (∀ c, R c = true → itR w f R0 N c = true) → (∀ c, itR w f R0 j c = true → R c = true) → L_X11_hasWay_81 Q (d + 1) (nI dd) (nI s) (nI w) (nI j) τ := by
    intro d
    induction d with
    | zero =>
      intro j τ R hj ht hOn h1 h3
      unfold L_X11_hasWay_81 D_X11_hasWay_81
      refine cells_ok (fr τ ht) ⟨fun _ => ⟨N + 1, ?_⟩, fun z => absurd (nI_le (by omega) (by omega)) z⟩
      have eR : R = itR w f R0 N := by
        funext c
        cases q : R c
        · cases q2 : itR w f R0 N c
          · rfl
          · have := h3 c (by rw [show j = N by omega]; exact q2)
            rw [q] at this
            exact absurd this (by decide)
        · rw [h1 c q]
      rw [eR] at hOn
      refine last N 0 τ (by omega) ht hOn (fun b eb => ?_)
      rw [eb, Bool.eq_iff_iff, anyF_iff]
      have eI : itR (gW G) f (fun c => f c && ed0 (gW G) (gH G) v c) (gW G * gH G) = itR w f R0 N := by rw [hR0, hN, hw]
      unfold wayB
      rw [List.any_eq_true, eI]
      constructor
      · rintro ⟨c, hc, q⟩
        refine ⟨c, Nat.zero_le _, ?_, q⟩
        rcases Nat.lt_or_ge c N with z | z
        · omega
        · rw [Bool.and_eq_true] at q
          have := itR_f r0f N c q.1
          rw [fout c z] at this
          exact absurd this (by decide)
      · rintro ⟨c, -, hc, q⟩
        exact ⟨c, List.mem_range.mpr (by omega), q⟩
    | succ d ih =>
      intro j τ R hj ht hOn h1 h3
      unfold L_X11_hasWay_81 D_X11_hasWay_81
      refine cells_ok (fr τ ht) ⟨fun z => absurd z (nI_ge (by omega) (by omega)), fun _ => ⟨N + 1, ?_⟩⟩
      have sweep : ∀ (e c : Nat) (τ : GSt) (R : Nat → Bool), c + e = N → (∀ a, a ≠ 269 → τ a = σ a) → On τ N R → (∀ c, R c = true → itR w f R0 N c = true) → (∀ z, itR w f R0 j z = true → R z = true) → (∀ z, z < c → itR w f R0 (j + 1) z = true → R z = true) → L_X11_hasWay_93 (L_X11_hasWay_81 Q (d + 1)) Q (e + 1) (nI dd) (nI s) (nI w) (nI j) (nI c) τ := by
        intro e
        induction e with
        | zero =>
          intro c τ R hc ht hOn h1 h3 h5
          unfold L_X11_hasWay_93 D_X11_hasWay_93
          refine cells_ok (fr τ ht) ⟨fun _ x ex => ?_, fun z => absurd (nI_le (by omega) (by omega)) z⟩
          rw [ex, nI_1 j]
          refine ih (j + 1) τ R (by omega) ht hOn h1 (fun z hz => ?_)
          rcases Nat.lt_or_ge z c with q | q
          · exact h5 z q hz
          · have := itR_f r0f (j + 1) z hz
            rw [fout z (by omega)] at this
            exact absurd this (by decide)
        | succ e ihe =>
          intro c τ R hc ht hOn h1 h3 h5
          have ht' := fr τ ht
          have c16 : c < 16 := by omega
          have Rout : ∀ x, N ≤ x → R x = false := fun x hx => by
            cases q : R x
            · rfl
            · have := itR_f r0f N x (h1 x q)
              rw [fout x hx] at this
              exact absurd this (by decide)
          -- the next cell
          have nxt : ∀ (τ' : GSt) (R' : Nat → Bool), (∀ a, a ≠ 269 → τ' a = σ a) → On τ' N R' → (∀ c, R' c = true → itR w f R0 N c = true) → (∀ z, R z = true → R' z = true) → (itR w f R0 (j + 1) c = true → R' c = true) → D_X11_hasWay_220 (L_X11_hasWay_81 Q (d + 1)) (L_X11_hasWay_93 (L_X11_hasWay_81 Q (d + 1)) Q (e + 1)) Q (nI dd) (nI s) (nI w) (nI j) (nI c) τ' := by
            intro τ' R' ht2 hOn2 g1 g2 g3 x ex
            rw [ex, nI_1 c]
            refine ihe (c + 1) τ' R' (by omega) ht2 hOn2 g1 (fun z hz => g2 z (h3 z hz)) (fun z hz hz2 => ?_)
            by_cases q : z = c
            · rw [q] at hz2 ⊢; exact g3 hz2
            · exact g2 z (h5 z (by omega) hz2)
          have fin : ∀ b : Bool, b = bsd w N R c → D_X11_hasWay_189 (L_X11_hasWay_81 Q (d + 1)) (L_X11_hasWay_93 (L_X11_hasWay_81 Q (d + 1)) Q (e + 1)) Q (nI dd) (nI s) (nI w) (nI j) (nI c) (if b then 1 else 0) τ := by
            intro b eb
            unfold D_X11_hasWay_189
            rw [cellv τ ht c c16, nI_clamp (show c < 2 ^ 31 by omega)]
            have ginto : itR w f R0 (j + 1) c = true → (f c && (R c || bsd w N R c)) = true := fun hz => by
              rw [← gr_bsd Rout (by omega)]
              exact gr_mono h3 c hz
            refine ⟨vpc c c16, fun q => nxt τ R ht hOn h1 (fun _ z => z) (fun hz => absurd (itR_f r0f (j + 1) c hz) q), fun q => ⟨fun z => nxt τ R ht hOn h1 (fun _ z => z) (fun hz => ?_), fun z => ⟨vp_in_nI c16 (by decide), fun s1 e1 => ?_⟩⟩⟩
            · rw [on0] at z
              have := ginto hz
              rw [← eb, z, Bool.or_false, q, Bool.true_and] at this
              exact this
            · rw [on0, Bool.not_eq_false] at z
              refine nxt s1 (fun y => R y || decide (y = c)) (fun a ha => by rw [e1, up2_ne ha]; exact ht a ha) (fun y hy => ?_) (fun y hy => ?_) (fun y hy => by rw [hy]; rfl) (fun _ => by simp)
              · rw [e1, up2_app]
                by_cases t : y = c
                · rw [if_pos ⟨rfl, t⟩, t]
                  simp
                · rw [if_neg (by omega), hOn y hy]
                  simp [t]
              · rw [Bool.or_eq_true, decide_eq_true_eq] at hy
                rcases hy with hy | hy
                · exact h1 y hy
                · rw [hy, ← hclosed]
                  show gr w f (itR w f R0 N) c = true
                  refine gr_mono h1 c ?_
                  rw [gr_bsd Rout (by omega), q, ← eb, z]
                  simp
          have f1 : bsd w N R c = true → D_X11_hasWay_184 (L_X11_hasWay_81 Q (d + 1)) (L_X11_hasWay_93 (L_X11_hasWay_81 Q (d + 1)) Q (e + 1)) Q (nI dd) (nI s) (nI w) (nI j) (nI c) τ := fun hb => fin true hb.symm
          have f0 : bsd w N R c = false → D_X11_hasWay_188 (L_X11_hasWay_81 Q (d + 1)) (L_X11_hasWay_93 (L_X11_hasWay_81 Q (d + 1)) Q (e + 1)) Q (nI dd) (nI s) (nI w) (nI j) (nI c) τ := fun hb => fin false hb.symm
          unfold bsd at f1 f0
          have ml : c % w < w := Nat.mod_lt _ (by omega)
          have d161 : ((decide (0 < c % w) && R (c - 1)) = false) → ((decide (c % w < w - 1) && R (c + 1)) = false) → ((decide (w ≤ c) && R (c - w)) = false) → D_X11_hasWay_161 (L_X11_hasWay_81 Q (d + 1)) (L_X11_hasWay_93 (L_X11_hasWay_81 Q (d + 1)) Q (e + 1)) Q (nI dd) (nI s) (nI w) (nI j) (nI c) τ := by
            intro z1 z2 z3
            rw [z1, z2, z3, Bool.false_or, Bool.false_or, Bool.false_or] at f1 f0
            unfold D_X11_hasWay_161
            rw [nI_add]
            refine cells_ok ht' ?_
            rw [← hN]
            refine pk_le N (c + w) (fun q => f0 (by rw [decide_eq_false (by omega)]; rfl)) (fun q => ⟨vp_in_nI (by omega) (by decide), ?_⟩)
            rw [nI_clamp (show c + w < 2 ^ 31 by omega), hOn (c + w) q, on0]
            rw [decide_eq_true q, Bool.true_and] at f1 f0
            exact ⟨fun t => f0 t, fun t => f1 (by rw [Bool.not_eq_false] at t; exact t)⟩
          have d143 : ((decide (0 < c % w) && R (c - 1)) = false) → ((decide (c % w < w - 1) && R (c + 1)) = false) → D_X11_hasWay_143 (L_X11_hasWay_81 Q (d + 1)) (L_X11_hasWay_93 (L_X11_hasWay_81 Q (d + 1)) Q (e + 1)) Q (nI dd) (nI s) (nI w) (nI j) (nI c) τ := by
            intro z1 z2
            refine pk_lt c w (fun q => d161 z1 z2 (by rw [decide_eq_false (by omega)]; rfl)) (fun q => ?_)
            rw [pk_sub q, nI_clamp (show c - w < 2 ^ 31 by omega), hOn (c - w) (by omega), on0]
            refine ⟨vp_in_nI (by omega) (by decide), fun t => ?_, fun t => d161 z1 z2 (by rw [t, Bool.and_false])⟩
            rw [Bool.not_eq_false] at t
            exact f1 (by rw [decide_eq_true q, t]; simp)
          have d121 : ((decide (0 < c % w) && R (c - 1)) = false) → D_X11_hasWay_121 (L_X11_hasWay_81 Q (d + 1)) (L_X11_hasWay_93 (L_X11_hasWay_81 Q (d + 1)) Q (e + 1)) Q (nI dd) (nI s) (nI w) (nI j) (nI c) τ := by
            intro z1
            unfold D_X11_hasWay_121
            rw [erem c c16, show nI w - 1 = nI (w - 1) from pk_sub (b := 1) (by omega), nI_1 c]
            refine ⟨w0, pk_le (w - 1) (c % w) (fun q => d143 z1 (by rw [decide_eq_false (by omega)]; rfl)) (fun q => ?_)⟩
            have c1 : c + 1 < N := by
              rcases Nat.lt_or_ge (c + 1) N with t | t
              · exact t
              · exfalso
                have hcN : c + 1 = N := by omega
                have : (c + 1) % w = 0 := by rw [hcN, hN, hw]; exact Nat.mul_mod_right _ _
                rcases (show w = 2 ∨ w = 3 ∨ w = 4 by omega) with t2 | t2 | t2 <;> rw [t2] at q this <;> omega
            rw [nI_clamp (show c + 1 < 2 ^ 31 by omega), hOn (c + 1) c1, on0]
            refine ⟨vp_in_nI (by omega) (by decide), fun t => ?_, fun t => d143 z1 (by rw [t, Bool.and_false])⟩
            rw [Bool.not_eq_false] at t
            exact f1 (by rw [decide_eq_true q, t]; simp)
          unfold L_X11_hasWay_93 D_X11_hasWay_93
          refine cells_ok ht' ⟨fun z => absurd z (nI_ge (by omega) (by omega)), fun _ => ?_⟩
          rw [erem c c16]
          refine ⟨w0, pk_le (c % w) 0 (fun q => d121 (by rw [decide_eq_false (by omega)]; rfl)) (fun q => ?_)⟩
          have c1 : 1 ≤ c := by
            rcases Nat.eq_zero_or_pos c with t | t
            · rw [t, Nat.zero_mod] at q
              exact absurd q (by decide)
            · exact t
          rw [show nI c - 1 = nI (c - 1) from pk_sub (b := 1) c1, nI_clamp (show c - 1 < 2 ^ 31 by omega), hOn (c - 1) (by omega), on0]
          refine ⟨vp_in_nI (by omega) (by decide), fun t => ?_, fun t => d121 (by rw [t, Bool.and_false])⟩
          rw [Bool.not_eq_false] at t
          exact f1 (by rw [decide_eq_true q, t]; simp)
      exact sweep N 0 τ R (by omega) ht hOn h1 h3 (fun z hz => absurd hz (Nat.not_lt_zero _))
  -- the beginning
  unfold D_X11_hasWay D_X11_hasWay_0
  rw [h.gi, h.2.1.1, ← hw]
  refine ⟨h.vp, fun x3 e3 => ⟨N + 1, ?_⟩⟩
  subst e3
  have init : ∀ (d c : Nat) (τ : GSt), c + d = N → (∀ a, a ≠ 269 → τ a = σ a) → On τ c R0 → L_X11_hasWay_13 Q (d + 1) (nI dd) (nI s) (nI w) (nI c) τ := by
    intro d
    induction d with
    | zero =>
      intro c τ hc ht hOn
      unfold L_X11_hasWay_13 D_X11_hasWay_13
      refine cells_ok (fr τ ht) ⟨fun _ => ⟨N + 1, ?_⟩, fun z => absurd (nI_le (by omega) (by omega)) z⟩
      rw [show c = N by omega] at hOn
      have up : ∀ n z, R0 z = true → itR w f R0 n z = true := by
        intro n
        induction n with
        | zero => exact fun z hz => hz
        | succ n ihn => exact fun z hz => itR_up r0f n z (ihn z hz)
      exact rounds N 0 τ R0 (by omega) ht hOn (up N) (fun z hz => hz)
    | succ d ih =>
      intro c τ hc ht hOn
      have ht' := fr τ ht
      have c16 : c < 16 := by omega
      have cl : c < gW G * gH G := by omega
      unfold L_X11_hasWay_13 D_X11_hasWay_13
      refine cells_ok ht' ⟨fun z => absurd z (nI_ge (by omega) (by omega)), fun _ => ⟨vpc c c16, ?_⟩⟩
      rw [cellv τ ht c c16, erem c c16, ediv c c16]
      have put : ∀ b : Bool, b = R0 c → D_X11_hasWay_71 (L_X11_hasWay_13 Q (d + 1)) Q (nI dd) (nI s) (nI w) (nI c) 269 (nI c) (if b then 1 else 0) τ := by
        intro b eb
        unfold D_X11_hasWay_71
        rw [l16, nI_clamp (show c < 2 ^ 31 by omega)]
        refine ⟨vp_in_nI c16 (by decide), by cases b <;> simp, fun s1 e1 x ex => ?_⟩
        rw [ex, nI_1 c]
        refine ih (c + 1) s1 (by omega) (fun a ha => by rw [e1, up2_ne ha]; exact ht a ha) (fun y hy => ?_)
        rw [e1, up2_app]
        by_cases t : y = c
        · rw [if_pos ⟨rfl, t⟩, eb, t]
        · rw [if_neg (by omega)]
          exact hOn y (by omega)
      have no : R0 c = false → D_X11_hasWay_70 (L_X11_hasWay_13 Q (d + 1)) Q (nI dd) (nI s) (nI w) (nI c) 269 (nI c) τ := fun hz => put false hz.symm
      have yes : R0 c = true → D_X11_hasWay_66 (L_X11_hasWay_13 Q (d + 1)) Q (nI dd) (nI s) (nI w) (nI c) 269 (nI c) τ := fun hz => put true hz.symm
      have er : R0 c = (f c && ed0 (gW G) (gH G) v c) := by rw [hR0]
      rw [er] at no yes
      refine ⟨fun q => no (by rw [Bool.not_eq_true] at q; rw [q]; rfl), fun q => ?_⟩
      rw [q, Bool.true_and] at no yes
      have ml : c % w < w := Nat.mod_lt _ (by omega)
      have dl : c / w ≤ c := Nat.div_le_self _ _
      rcases hs with rfl | rfl
      · have ev : v = true := hv
        have ee : ed0 (gW G) (gH G) v c = decide (c / w = 0) := by
          unfold ed0
          rw [ev, ← hw]
          simp only [if_true]
          apply decide_eq_decide.mpr
          rw [hw]
          exact ⟨fun t => t.2, fun t => ⟨cl, t⟩⟩
        rw [ee] at no yes
        exact ⟨fun z => absurd rfl z, fun _ => ⟨w0, fun t => no (decide_eq_false (fun y => t (by rw [y]; rfl))), fun t => yes (decide_eq_true ((nI_eq (b := 0) (by omega) (by decide)).mp t))⟩⟩
      · have ev : v = false := hv
        have ee : ed0 (gW G) (gH G) v c = decide (c % w = 0) := by
          unfold ed0
          rw [ev, ← hw]
          simp only [Bool.false_eq_true, if_false]
          apply decide_eq_decide.mpr
          rw [hw]
          exact ⟨fun t => t.2, fun t => ⟨cl, t⟩⟩
        rw [ee] at no yes
        exact ⟨fun _ => ⟨w0, fun t => no (decide_eq_false (fun y => t (by rw [y]; rfl))), fun t => yes (decide_eq_true ((nI_eq (b := 0) (by omega) (by decide)).mp t))⟩, fun z => absurd z (by decide)⟩
  exact init N 0 σ (by omega) (fun _ _ => rfl) (fun y hy => absurd hy (Nat.not_lt_zero _))
