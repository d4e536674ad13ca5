theorem MdG.rowN {σ σ' : GSt} {i N : Nat} {G : GM} {t : Nat → Int32} {n : Nat} (h : MdG σ i G t n) (hG : GOK G) (hn : n ≤ 90) (hi : i < N) (k : ∀ a j, 240 ≤ a → a ≤ 256 → j < mw2 a * N → σ' a j = σ a j) : MdG σ' i G t n := by
  have m6 := hG.2.1.1
  have e6 := hG.2.2.1.1
  obtain ⟨⟨h1, h2, h3⟩, ⟨h4, h5, h6, h7⟩, h8, h9, h10, h11⟩ := h
  have w1 : ∀ a, a = 241 ∨ a = 242 ∨ a = 243 ∨ a = 248 ∨ a = 253 ∨ a = 254 ∨ a = 255 → mw2 a = 1 := by
    intro a ha
    rcases ha with rfl | rfl | rfl | rfl | rfl | rfl | rfl <;> decide
  have w6 : ∀ a, a = 245 ∨ a = 246 ∨ a = 247 ∨ a = 249 ∨ a = 250 ∨ a = 251 ∨ a = 252 ∨ a = 256 → mw2 a = 6 := by
    intro a ha
    rcases ha with rfl | rfl | rfl | rfl | rfl | rfl | rfl | rfl <;> decide
  have w16 : mw2 244 = 16 := by decide
  have w90 : mw2 240 = 90 := by decide
  have k1 : ∀ a, a = 241 ∨ a = 242 ∨ a = 243 ∨ a = 248 ∨ a = 253 ∨ a = 254 ∨ a = 255 → σ' a i = σ a i := fun a ha => k a i (by omega) (by omega) (by rw [w1 a ha]; omega)
  have k6 : ∀ a j, a = 245 ∨ a = 246 ∨ a = 247 ∨ a = 249 ∨ a = 250 ∨ a = 251 ∨ a = 252 ∨ a = 256 → j < 6 → σ' a (6 * i + j) = σ a (6 * i + j) := fun a j ha hj => k a _ (by omega) (by omega) (by rw [w6 a ha]; omega)
  refine ⟨⟨?_, ?_, fun c hc => ?_⟩, ⟨?_, ?_, ?_, ?_⟩, fun j e he => ?_, fun j e he => ?_, ?_, fun j hj => ?_⟩
  · rw [k1 242 (by decide)]; exact h1
  · rw [k1 243 (by decide)]; exact h2
  · rw [k 244 _ (by decide) (by decide) (by rw [w16]; omega)]; exact h3 c hc
  · rw [k1 248 (by decide)]; exact h4
  · rw [k1 253 (by decide)]; exact h5
  · rw [k1 254 (by decide)]; exact h6
  · rw [k1 255 (by decide)]; exact h7
  · have := (List.getElem?_eq_some_iff.mp he).1
    exact (h8 j e he).row (k6 245 j (by decide) (by omega)) (k6 246 j (by decide) (by omega)) (k6 247 j (by decide) (by omega)) (k6 256 j (by decide) (by omega))
  · have := (List.getElem?_eq_some_iff.mp he).1
    exact (h9 j e he).row (k6 249 j (by decide) (by omega)) (k6 250 j (by decide) (by omega)) (k6 251 j (by decide) (by omega)) (k6 252 j (by decide) (by omega))
  · rw [k1 241 (by decide)]; exact h10
  · rw [k 240 _ (by decide) (by decide) (by rw [w90]; omega)]; exact h11 j hj
theorem GmI.rowN {σ σ' : GSt} {i N : Nat} {G : GM} {L : List Int32} (h : GmI σ i G L) (hi : i < N) (k1 : ∀ a, 61 + 22 * i ≤ a → a < 61 + 22 * i + 22 → σ' a = σ a) (k2 : ∀ a j, 240 ≤ a → a ≤ 256 → j < mw2 a * N → σ' a j = σ a j) : GmI σ' i G L := by
  obtain ⟨hG, l1, l2, l3, -⟩ := h.ok
  exact ⟨h.1, h.2.1.row hG k1, h.2.2.1.rowN hG (by omega) hi k2, h.2.2.2⟩
/-- the tape of both -/
def Tp (σ : GSt) (tp : List Int32) : Prop := tp.length ≤ 90 ∧ σ 1 1 = nI tp.length ∧ σ 237 19 = nI tp.length ∧ ∀ j e, tp[j]? = some e → σ 2 j = e ∧ σ 239 j = e ∧ 0 ≤ e
/-- what a text operation keeps, of ng games -/
def RK (ng : Nat) (σ σ' : GSt) : Prop := (∀ a, 53 ≤ a → a < 61 + 22 * ng → σ' a = σ a) ∧ (∀ k, k = 41 ∨ k = 42 → σ' 237 k = σ 237 k) ∧ (∀ a, a = 238 ∨ a = 267 ∨ a = 268 ∨ a = 273 ∨ 277 ≤ a → σ' a = σ a) ∧ ∀ a j, 240 ≤ a → a ≤ 256 → j < mw2 a * ng → σ' a j = σ a j
theorem IA.rk {σ σ' : GSt} {ng : Nat} {Gs : Nat → GM} {Ls : Nat → List Int32} {tp tp' : List Int32} {pl : Option (Nat × List Nat)} (h : IA σ ng Gs Ls tp pl) (k : RK ng σ σ') (ht : Tp σ' tp') (c0 : σ' 0 4 = nI ng) (c1 : σ' 237 20 = nI ng) : IA σ' ng Gs Ls tp' pl := by
  obtain ⟨⟨n8, -, -⟩, hg, ⟨hR, hN⟩, -, he, hp⟩ := h
  exact ⟨⟨n8, c0, c1⟩, fun i hi => (hg i hi).rowN hi (fun a p q => k.1 a (by omega) (by omega)) k.2.2.2, ⟨fun j hj => by rw [k.1 60 (by decide) (by omega), k.2.2.1 238 (by decide)]; exact hR j hj, fun j hj => by rw [k.1 58 (by decide) (by omega), k.1 59 (by decide) (by omega), k.2.2.1 277 (by decide), k.2.2.1 278 (by decide)]; exact hN j hj⟩, ht, fun y hy => by rw [k.2.2.1 267 (by decide), k.2.2.1 268 (by decide)]; exact he y hy, hp.row (fun a p q => k.1 a (by omega) (by omega)) ⟨k.2.1 41 (by decide), k.2.1 42 (by decide)⟩ (k.2.2.1 273 (by decide))⟩
theorem Pl.ng' {σ : GSt} {ng : Nat} {Gs Gs' : Nat → GM} {pl : Option (Nat × List Nat)} (e : ∀ g, g < ng → Gs' g = Gs g) (h : Pl σ ng Gs pl) : Pl σ (ng + 1) Gs' pl := by
  cases pl with
  | none => exact h
  | some x =>
    obtain ⟨g, ms⟩ := x
    obtain ⟨⟨a1, a2, a3, a4⟩, r⟩ := h
    refine ⟨⟨by omega, a2, a3, a4⟩, ?_⟩
    rw [e g a1]
    exact r
theorem Pl.ng {σ : GSt} {ng : Nat} {Gs : Nat → GM} {G : GM} {pl : Option (Nat × List Nat)} (h : Pl σ ng Gs pl) : Pl σ (ng + 1) (fun i => if i = ng then G else Gs i) pl := h.ng' (fun g hg => if_neg (by omega))
theorem IA.new {σ σ' : GSt} {ng : Nat} {Gs : Nat → GM} {Ls : Nat → List Int32} {tp tp' L : List Int32} {G : GM} {pl : Option (Nat × List Nat)} (h : IA σ ng Gs Ls tp pl) (n8 : ng < 8) (k : RK ng σ σ') (ht : Tp σ' tp') (c0 : σ' 0 4 = nI (ng + 1)) (c1 : σ' 237 20 = nI (ng + 1)) (hn : GmI σ' ng G L) : IA σ' (ng + 1) (fun i => if i = ng then G else Gs i) (fun i => if i = ng then L else Ls i) tp' pl := by
  obtain ⟨-, hg, ⟨hR, hN⟩, -, he, hp⟩ := h
  refine ⟨⟨by omega, c0, c1⟩, fun i hi => ?_, ⟨fun j hj => by rw [k.1 60 (by decide) (by omega), k.2.2.1 238 (by decide)]; exact hR j hj, fun j hj => by rw [k.1 58 (by decide) (by omega), k.1 59 (by decide) (by omega), k.2.2.1 277 (by decide), k.2.2.1 278 (by decide)]; exact hN j hj⟩, ht, fun y hy => by rw [k.2.2.1 267 (by decide), k.2.2.1 268 (by decide)]; exact he y hy, (hp.row (fun a p q => k.1 a (by omega) (by omega)) ⟨k.2.1 41 (by decide), k.2.1 42 (by decide)⟩ (k.2.2.1 273 (by decide))).ng⟩
  rcases Decidable.em (i = ng) with z | z
  · show GmI σ' i (if i = ng then G else Gs i) (if i = ng then L else Ls i)
    rw [if_pos z, if_pos z, z]
    exact hn
  · show GmI σ' i (if i = ng then G else Gs i) (if i = ng then L else Ls i)
    rw [if_neg z, if_neg z]
    exact (hg i (by omega)).rowN (N := ng) (by omega) (fun a p q => k.1 a (by omega) (by omega)) k.2.2.2
/-- a text of the class, and the reference's text at 8 -/
def TxC (σ : GSt) (f : Nat) (L : List Int32) : Prop := σ f 1 = nI L.length ∧ ∀ j, j < L.length → σ (f + 1) j = tl L j
def TxM (σ : GSt) (L : List Int32) : Prop := σ 241 8 = nI L.length ∧ ∀ j, j < L.length → σ 240 (720 + j) = tl L j
theorem admit_ok {σ : GSt} {f ng : Nat} {L : List Int32} {Q : Int32 → GSt → Prop} (kf : kd f = 9) (f3 : f ≤ 3) (n8 : ng < 8) (h4 : σ 0 4 = nI ng) (hl : L.length ≤ 90) (hT : TxC σ f L)
    (hs : ∀ (σ' : GSt) (G : GM), pAll (tl L) L.length = .inr G → ClG σ' (61 + 22 * ng) G (tl L) L.length → σ' 0 4 = nI (ng + 1) → (∀ a, a ≠ 0 → a ≠ 5 → (a < 61 + 22 * ng ∨ 61 + 22 * ng + 22 ≤ a) → σ' a = σ a) → Q (nI ng) σ')
    (hf : ∀ (σ' : GSt) (z : Nat), pAll (tl L) L.length = .inl z → (∀ a, a ≠ 5 → (a < 61 + 22 * ng ∨ 61 + 22 * ng + 22 ≤ a) → σ' a = σ a) → Q (-20 - nI z) σ') : D_X10_admit f σ Q := by
  unfold D_X10_admit D_X10_admit_0
  rw [h4, nI_clamp (show ng < 2 ^ 31 by omega)]
  refine ⟨vp_in_nI n8 (by decide), read_ok kf (kdg n8) (fun a p q => ⟨by omega, by omega, by omega⟩) hl hT.1 hT.2 (fun s2 G hp hC fr => ⟨fun _ s3 e3 => ?_, fun z => absurd (by decide) z⟩) (fun s2 z hp hz fr => ⟨fun y => absurd y (nI_pos (by omega)), fun _ => hf s2 z hp fr⟩)⟩
  rw [fr 0 (by decide) (by omega), h4, nI_1] at e3
  have e04 : s3 0 4 = nI (ng + 1) := by rw [e3, up2_at, pk_us]
  have r3 : ∀ a, a ≠ 0 → s3 a = s2 a := fun a p => by rw [e3, up2_ne p]
  rw [e04, nI_pred]
  obtain ⟨hG, -⟩ := pAll_ok hp
  exact hs s3 G hp (hC.row hG (fun a p q => r3 a (by omega))) e04 (fun a p q r => by rw [r3 a p, fr a q r])
/-- what the reference's growing leaves -/
def GF (ng : Nat) (σ σ' : GSt) : Prop := (∀ a, a ≠ 237 → (a < 240 ∨ 256 < a) → σ' a = σ a) ∧ (∀ k, k ≠ 20 → k ≠ 21 → k ≠ 22 → σ' 237 k = σ 237 k) ∧ ∀ a j, 240 ≤ a → a ≤ 256 → j < mw2 a * ng → σ' a j = σ a j
theorem mw2_mw {a : Nat} (h : a ≠ 240) : mw2 a = mw a := if_neg h
theorem mw_pos {a : Nat} : 1 ≤ mw a := by unfold mw; split; decide; split <;> decide
theorem GF.ofM {g ng : Nat} {σ σ' : GSt} (h : MFr g σ σ') (hg : ng ≤ g) : GF ng σ σ' := ⟨fun a p q => h.1 a p (by omega), fun k p q r => h.2.1 k q r, fun a j p q r => by
  rcases Decidable.em (a < 242) with z | z
  · rw [h.1 a (by omega) (by omega)]
  · rw [mw2_mw (by omega)] at r
    exact h.2.2 a j (by omega) q (Or.inl (Nat.lt_of_lt_of_le r (Nat.mul_le_mul_left _ hg)))⟩
theorem GF.trans {ng : Nat} {σ σ' σ'' : GSt} (h : GF ng σ σ') (k : GF ng σ' σ'') : GF ng σ σ'' := ⟨fun a p q => (k.1 a p q).trans (h.1 a p q), fun j p q r => (k.2.1 j p q r).trans (h.2.1 j p q r), fun a j p q r => (k.2.2 a j p q r).trans (h.2.2 a j p q r)⟩
theorem grown_ok {σ : GSt} {ng : Nat} {L : List Int32} {Q : Int32 → GSt → Prop} (n8 : ng < 8) (h20 : σ 237 20 = nI ng) (hl : L.length ≤ 90) (hT : TxM σ L)
    (hs : ∀ (σ' : GSt) (G : GM), pAll (tl L) L.length = .inr G → MdG σ' ng G (tl L) L.length → σ' 237 20 = nI (ng + 1) → GF ng σ σ' → Q (nI ng) σ')
    (hf : ∀ (σ' : GSt) (z : Nat), pAll (tl L) L.length = .inl z → σ' 237 20 = nI ng → GF ng σ σ' → Q (-20 - nI z) σ') : D_X11_grown σ Q := by
  have c8 : Int32.toNatClampNeg 8 = 8 := by decide
  unfold D_X11_grown D_X11_grown_0
  refine reads_ok (g := 8) (by decide) hl hT.1 (fun j hj => hT.2 j hj) (fun s2 G hp hM fr e22 => ⟨fun _ => ?_, fun z => absurd z (by decide)⟩) (fun s2 z hp hz e21 fr => ⟨fun y => absurd rfl y, fun _ => ?_⟩)
  · have e20 : s2 237 20 = nI ng := by rw [fr.2.1 20 (by decide) (by decide), h20]
    rw [e20, nI_clamp (show ng < 2 ^ 31 by omega), c8, hM.2.2.2.2.1]
    refine ⟨vp_in_nI (by omega) (by decide), fun s3 e3 => ⟨91, ?_⟩⟩
    have key : ∀ (d k : Nat) (s : GSt), k + d = 90 → (∀ a, a ≠ 240 → s a = s3 a) → (∀ j, (j < 90 * ng ∨ 90 * ng + k ≤ j) → s 240 j = s3 240 j) → (∀ j, j < k → s 240 (90 * ng + j) = s3 240 (720 + j)) → L_X11_grown_35 Q (d + 1) (nI k) s := by
      intro d
      induction d with
      | zero =>
        intro k s hk h1 h2 h3
        have s20 : s 237 20 = nI ng := by rw [h1 237 (by decide), e3, up2_ne (by decide), e20]
        unfold L_X11_grown_35 D_X11_grown_35
        rw [s20]
        refine ⟨fun _ => ?_, fun z => absurd (nI_le (a := 90) (by omega) (by omega)) z⟩
        have F : GF ng σ s := by
          refine (GF.ofM fr (by omega)).trans ⟨fun a p q => by rw [h1 a (by omega), e3, up2_ne (by omega)], fun j p q r => by rw [h1 237 (by decide), e3, up2_ne (by decide)], fun a j p q r => ?_⟩
          rcases Decidable.em (a = 240) with z | z
          · subst z
            rw [show mw2 240 = 90 by decide] at r
            rw [h2 j (Or.inl r), e3, up2_ne (by decide)]
          · rw [h1 a z, e3]
            rcases Decidable.em (a = 241) with y | y
            · subst y
              rw [show mw2 241 = 1 by decide] at r
              rw [up2_at, pk_un (by omega)]
            · rw [up2_ne y]
        refine reads_ok (g := ng) (t := tl L) (by omega) hl (by rw [h1 241 (by decide), e3, up2_at, pk_us]) (fun j hj => ?_) (fun s4 G' hp' hM' fr' _ s5 e5 => ?_) (fun s4 z hp' => ?_)
        · rw [h3 j (by omega), e3, up2_ne (by decide)]
          exact hM.2.2.2.2.2 j hj
        · have s420 : s4 237 20 = nI ng := by rw [fr'.2.1 20 (by decide) (by decide), s20]
          rw [s420, nI_1] at e5
          have v20 : s5 237 20 = nI (ng + 1) := by rw [e5, up2_at, pk_us]
          refine ⟨fun z => absurd z (by decide), fun _ => ?_⟩
          rw [v20, nI_pred]
          obtain ⟨hG', -⟩ := pAll_ok hp'
          refine hs s5 G' hp' (hM'.rowN hG' hl (show ng < ng + 1 by omega) (fun a j p q r => by rw [e5, up2_ne (by omega)])) v20 (F.trans ((GF.ofM fr' (Nat.le_refl _)).trans ⟨fun a p q => by rw [e5, up2_ne p], fun j p q r => by rw [e5, up2_at, pk_un p], fun a j p q r => by rw [e5, up2_ne (by omega)]⟩))
        · rw [hp] at hp'
          exact absurd hp' (by simp)
      | succ d ih =>
        intro k s hk h1 h2 h3
        have s20 : s 237 20 = nI ng := by rw [h1 237 (by decide), e3, up2_ne (by decide), e20]
        unfold L_X11_grown_35 D_X11_grown_35
        rw [s20, show (720 : Int32) + nI k = nI (720 + k) from nI_add 720 k, show (90 : Int32) * nI ng + nI k = nI (90 * ng + k) from nlin 90 ng k, nI_clamp (show 720 + k < 2 ^ 31 by omega), nI_clamp (show 90 * ng + k < 2 ^ 31 by omega)]
        refine ⟨fun z => absurd z (nI_ge (b := 90) (by omega) (by decide)), fun _ => ⟨vp_in_nI (by omega) (by decide), vp_in_nI (by omega) (by decide), fun s5 e5 y ey => ?_⟩⟩
        rw [ey, nI_1]
        refine ih (k + 1) s5 (by omega) (fun a p => by rw [e5, up2_ne p, h1 a p]) (fun j hj => ?_) (fun j hj => ?_)
        · rw [e5, up2_at, pk_un (by omega)]
          exact h2 j (by omega)
        · rw [e5, up2_at]
          rcases Decidable.em (j = k) with z | z
          · rw [z, pk_us, h2 (720 + k) (by omega)]
          · rw [pk_un (by omega)]
            exact h3 j (by omega)
    exact key 90 0 s3 (by omega) (fun _ _ => rfl) (fun _ _ => rfl) (fun j hj => absurd hj (Nat.not_lt_zero _))
  · rw [e21]
    exact hf s2 z hp (by rw [fr.2.1 20 (by decide) (by decide), h20]) (GF.ofM fr (by omega))
