theorem SF.ofPF {σ σ' : GSt} (h : PF σ σ') : SF σ σ' := ⟨fun a p q => h.1 a p (by omega), fun k q => h.2 k (by omega) (by omega)⟩
theorem SF.ofLG {σ σ' : GSt} {d : Nat} (h : LG d σ σ') : SF σ σ' := ⟨fun a _ q => h.1 a (by omega), fun k _ => by rw [h.1 237 (by decide)]⟩
theorem SF.no {σ σ' : GSt} {x : Int32} (h : SF σ σ') : SF (rfM σ x) (rfM σ' x) := by
  refine ⟨fun a p q => ?_, fun k q => ?_⟩
  · unfold rfM
    rcases Decidable.em (a = 238) with z | z
    · rw [z, up2_at, up2_at, h.1 238 (by decide) (by decide)]
    · rw [up2_ne z, up2_ne z, h.1 a p q]
  · unfold rfM
    rw [up2_ne (by decide), up2_ne (by decide), h.2 k q]
theorem no2 {σ σ' : GSt} {x : Int32} (hI : InvA σ) (hx : isRf x) (s : SF (rfC σ x) σ') : InvA (rfM σ' x) := by
  obtain ⟨ng, Gs, Ls, tp, pl, h⟩ := hI.rf hx
  exact ⟨ng, Gs, Ls, tp, pl, h.keep (KP.ofSF s.no)⟩
/-- the PLAY, as the reference holds it -/
def PlM (σ : GSt) (Gs : Nat → GM) : Option (Nat × List Nat) → Prop
  | none => σ 237 41 = -1
  | some (g, ms) => g < 8 ∧ GOK (Gs g) ∧ MG0 σ g (Gs g) ∧ σ 237 41 = nI g ∧ σ 237 42 = nI ms.length ∧ PlOK (Gs g) ms ∧ ∀ k i, ms[k]? = some i → σ 273 k = nI i
theorem PlM.row {σ σ' : GSt} {Gs : Nat → GM} {pl : Option (Nat × List Nat)} (h : PlM σ Gs pl) (hr : SF σ σ') : PlM σ' Gs pl := by
  cases pl with
  | none => exact (hr.2 41 (by decide)).trans h
  | some x =>
    obtain ⟨g, ms⟩ := x
    obtain ⟨h1, h2, h3, h4, h5, h6, h7⟩ := h
    exact ⟨h1, h2, h3.row hr, (hr.2 41 (by decide)).trans h4, (hr.2 42 (by decide)).trans h5, h6, fun k i hk => by rw [hr.1 273 (by decide) (by decide)]; exact h7 k i hk⟩
theorem IA.plm {σ : GSt} {ng : Nat} {Gs : Nat → GM} {Ls : Nat → List Int32} {tp : List Int32} {pl : Option (Nat × List Nat)} (h : IA σ ng Gs Ls tp pl) : PlM σ Gs pl := by
  have hp := h.2.2.2.2.2
  have n8 := h.1.1
  cases pl with
  | none => exact hp.2
  | some x =>
    obtain ⟨g, ms⟩ := x
    have hg := h.2.1 g hp.1.1
    have := hp.1.1
    exact ⟨by omega, hg.ok.1, hg.mg (by omega) h.2.2.2.2.1, hp.1.2.2.1, hp.1.2.2.2, hp.2.1, hp.2.2.1⟩
theorem PlM.rf {σ : GSt} {Gs : Nat → GM} {pl : Option (Nat × List Nat)} {x : Int32} (h : PlM σ Gs pl) : PlM (rfC σ x) Gs pl := by
  cases pl with
  | none => exact (congrFun (rfC_ne (by decide)) 41).trans h
  | some y =>
    obtain ⟨g, ms⟩ := y
    obtain ⟨h1, h2, h3, h4, h5, h6, h7⟩ := h
    refine ⟨h1, h2, ?_, (congrFun (rfC_ne (by decide)) 41).trans h4, (congrFun (rfC_ne (by decide)) 42).trans h5, h6, fun k i hk => by rw [rfC_ne (by decide)]; exact h7 k i hk⟩
    unfold MG0 MvM EnM at *
    rw [rfC_ne (a := 242) (by decide), rfC_ne (a := 243) (by decide), rfC_ne (a := 248) (by decide), rfC_ne (a := 253) (by decide), rfC_ne (a := 245) (by decide), rfC_ne (a := 246) (by decide), rfC_ne (a := 247) (by decide), rfC_ne (a := 256) (by decide), rfC_ne (a := 249) (by decide), rfC_ne (a := 250) (by decide), rfC_ne (a := 251) (by decide), rfC_ne (a := 252) (by decide), rfC_ne (a := 267) (by decide), rfC_ne (a := 268) (by decide), rfC_ne (a := 244) (by decide)]
    exact h3
theorem rpl_len {G : GM} {ms : List Nat} (hG : GOK G) (h : PlOK G ms) : PV G (rpl G ms) ∧ PE (rpl G ms) ∧ psD (rpl G ms) = ms.length := by
  have := rpl_PV hG h ms.length (Nat.le_refl _)
  rw [List.take_length] at this
  exact this
theorem stands_ok {σ : GSt} {Gs : Nat → GM} {pl : Option (Nat × List Nat)} {Q : Int32 → GSt → Prop} (h : PlM σ Gs pl) (h0 : pl = none → Q 0 σ) (h1 : ∀ g ms (σ' : GSt), pl = some (g, ms) → Lv σ' g 0 (Gs g) (rpl (Gs g) ms) → PF σ σ' → Q 1 σ') : D_X11_stands σ Q := by
  cases pl with
  | none =>
    have h' : σ 237 41 = -1 := h
    unfold D_X11_stands D_X11_stands_0
    rw [h']
    exact ⟨fun z => absurd z (by decide), fun _ => h0 rfl⟩
  | some x =>
    obtain ⟨g, ms⟩ := x
    obtain ⟨g8, hG, hM, e41, e42, hP, e273⟩ := h
    have l60 : ms.length ≤ 60 := by
      obtain ⟨a, _, b⟩ := rpl_len hG hP
      have := a.2.1
      omega
    unfold D_X11_stands D_X11_stands_0
    rw [e41]
    refine ⟨fun _ => ?_, fun z => absurd (nI_pos' (by omega)) z⟩
    refine opens_ok hG hM (fun σ1 hL hF => ⟨ms.length + 1, ?_⟩)
    have key : ∀ (d k : Nat) (σ1 : GSt), k + d = ms.length → Lv σ1 g 0 (Gs g) (rpl (Gs g) (ms.take k)) → PF σ σ1 → L_X11_stands_19 Q (d + 1) (nI k) σ1 := by
      intro d
      induction d with
      | zero =>
        intro k σ1 hk hL hF
        rw [List.take_of_length_le (by omega)] at hL
        unfold L_X11_stands_19 D_X11_stands_19
        rw [hF.2 42 (by decide) (by decide), e42]
        exact ⟨fun _ => h1 g ms σ1 rfl hL hF, fun z => absurd (nI_le (by omega) (by omega)) z⟩
      | succ d ih =>
        intro k σ1 hk hL hF
        obtain ⟨i, hi⟩ : ∃ i, ms[k]? = some i := ⟨_, List.getElem?_eq_getElem (by omega)⟩
        obtain ⟨m, hm⟩ : ∃ m, (mvl (Gs g) (rpl (Gs g) (ms.take k)))[i]? = some m := ⟨_, List.getElem?_eq_getElem (hP k i hi)⟩
        have hV := (rpl_PV hG hP k (by omega)).1
        unfold L_X11_stands_19 D_X11_stands_19
        rw [hF.2 42 (by decide) (by decide), e42, nI_clamp (show k < 2 ^ 31 by omega), hF.1 273 (by decide) (by decide), e273 k i hi]
        refine ⟨fun z => absurd z (nI_ge (by omega) (by omega)), fun _ => ⟨vp_in_nI (by omega) (by decide), ?_⟩⟩
        refine goesOn_ok hG hV hL hm (fun σ2 hL2 hF2 y ey => ?_)
        rw [ey, nI_1]
        refine ih (k + 1) σ2 (by omega) ?_ (hF.trans hF2)
        have e : rpl (Gs g) (ms.take (k + 1)) = stp (Gs g) (rpl (Gs g) (ms.take k)) m := by
          rw [take_s hi, rpl_s]
          unfold nx
          rw [hm]
        rw [e]
        exact hL2
    exact key ms.length 0 σ1 (by omega) hL hF
/-- all but the PLAY stands -/
def KQ (σ σ' : GSt) : Prop := (∀ a, a = 0 ∨ a = 1 ∨ a = 2 ∨ (58 ≤ a ∧ a < 237) → σ' a = σ a) ∧ (∀ k, (k < 21 ∨ (22 < k ∧ k < 39) ∨ (42 < k ∧ k < 45) ∨ 52 < k) → σ' 237 k = σ 237 k) ∧ (∀ a, a = 238 ∨ a = 239 ∨ a = 267 ∨ a = 268 ∨ 277 ≤ a → σ' a = σ a) ∧ ∀ a j, 240 ≤ a → a ≤ 256 → j < mw2 a * 8 → σ' a j = σ a j
theorem IA.play {σ σ' : GSt} {ng : Nat} {Gs : Nat → GM} {Ls : Nat → List Int32} {tp : List Int32} {pl pl' : Option (Nat × List Nat)} (h : IA σ ng Gs Ls tp pl) (k : KQ σ σ') (hp : Pl σ' ng Gs pl') : IA σ' ng Gs Ls tp pl' := by
  obtain ⟨⟨n8, c0, c1⟩, hg, ⟨hR, hN⟩, ⟨t1, t2, t3, t4⟩, he, -⟩ := h
  exact ⟨⟨n8, by rw [k.1 0 (by decide)]; exact c0, by rw [k.2.1 20 (by decide)]; exact c1⟩, fun i hi => (hg i hi).row (by omega) (fun a p q => k.1 a (by omega)) k.2.2.2, ⟨fun j hj => by rw [k.1 60 (by decide), k.2.2.1 238 (by decide)]; exact hR j hj, fun j hj => by rw [k.1 58 (by decide), k.1 59 (by decide), k.2.2.1 277 (by decide), k.2.2.1 278 (by decide)]; exact hN j hj⟩, ⟨t1, by rw [k.1 1 (by decide)]; exact t2, by rw [k.2.1 19 (by decide)]; exact t3, fun j e hj => by rw [k.1 2 (by decide), k.2.2.1 239 (by decide)]; exact t4 j e hj⟩, fun y hy => by rw [k.2.2.1 267 (by decide), k.2.2.1 268 (by decide)]; exact he y hy, hp⟩
theorem op_start : Op_start InvA := by
  intro x1 σ hI
  obtain ⟨ng, Gs, Ls, tp, pl, h⟩ := id hI
  have n8 := h.1.1
  unfold D_X10_start D_X10_start_0
  refine noGame_ok n8 h.1.2.1 (fun hno => ⟨fun z => absurd z (by decide), fun _ => ?_⟩) (fun i hi e => ⟨fun _ => ⟨e ▸ vp_in_nI (by omega) (by decide), ?_⟩, fun z => absurd rfl z⟩)
  · refine refuse_ok rf_1 ?_
    unfold D_X11_start D_X11_start_0
    exact isGame_ok n8 (by rw [rfC_ne (by decide)]; exact h.1.2.2) (fun _ => ⟨fun z => absurd rfl z, fun _ => no_ok rf_1 ⟨rfl, hI.rf rf_1⟩⟩) (fun i hi e => absurd e (hno i hi))
  · subst e
    have hg := h.2.1 i hi
    obtain ⟨hG, -⟩ := hg.ok
    rw [nI_clamp (show i < 2 ^ 31 by omega)]
    intro s1 e1
    have cb1 : ClB s1 (61 + 22 * i) (Gs i) := (hg.row (by omega) (fun a p q => by rw [e1]; exact up2_ne (by omega)) (fun a j p q _ => by rw [e1, up2_ne (by omega)])).cb
    refine begin_ok hG (kdg (by omega)) (by omega) cb1 (fun s2 hP2 f2 => ?_)
    have cb2 : ClB s2 (61 + 22 * i) (Gs i) := (hg.row (by omega) (fun a p q => by rw [f2 a (by omega), e1]; exact up2_ne (by omega)) (fun a j p q _ => by rw [f2 a (by omega), e1, up2_ne (by omega)])).cb
    refine listC_ok hG (beg_PV hG) (by decide +kernel) (by decide) (by omega) hP2 cb2 (fun s3 hR3 f3 s4 e4 => ?_)
    have r4 : ∀ a, a ≠ 53 → a ≠ 54 → a ≠ 55 → s4 a = σ a := fun a p q r => by rw [e4, up2_ne p, f3 a r, f2 a q, e1, up2_ne p]
    have v2 : s4 53 2 = nI (mvl (Gs i) (beg (Gs i))).length := by rw [e4, up2_at, pk_us]
    have v3 : s4 53 3 = 1 := by rw [e4, up2_at, pk_un (by decide), f3 53 (by decide), f2 53 (by decide), e1, up2_at, pk_us]
    have v54 : s4 54 = s2 54 := by rw [e4, up2_ne (by decide), f3 54 (by decide)]
    have v55 : s4 55 = s3 55 := by rw [e4, up2_ne (by decide)]
    show D_X11_start (nI i) s4 (fun r2 σ2 => s4 53 2 = r2 ∧ InvA σ2)
    rw [v2]
    unfold D_X11_start D_X11_start_0
    refine isGame_ok n8 (by rw [r4 237 (by decide) (by decide) (by decide)]; exact h.1.2.2) (fun hno => absurd rfl (hno i hi)) (fun _ _ _ => ⟨fun _ s5 e5 s6 e6 => ?_, fun z => absurd z (by decide)⟩)
    have r6 : ∀ a, a ≠ 53 → a ≠ 54 → a ≠ 55 → a ≠ 237 → s6 a = σ a := fun a p q r s => by rw [e6, up2_ne s, e5, up2_ne s, r4 a p q r]
    have r7 : ∀ k, k ≠ 41 → k ≠ 42 → s6 237 k = σ 237 k := fun k p q => by rw [e6, up2_at, pk_un q, e5, up2_at, pk_un p, r4 237 (by decide) (by decide) (by decide)]
    have g6 := hg.row (σ' := s6) (by omega) (fun a p q => r6 a (by omega) (by omega) (by omega) (by omega)) (fun a j p q _ => by rw [r6 a (by omega) (by omega) (by omega) (by omega)])
    refine opens_ok hG (g6.mg (by omega) (fun y hy => by rw [r6 267 (by decide) (by decide) (by decide) (by decide), r6 268 (by decide) (by decide) (by decide) (by decide)]; exact h.2.2.2.2.1 y hy)) (fun s8 hL8 f8 => ?_)
    have em : (mvl (Gs i) (beg (Gs i))).length = (ML (gW (Gs i)) (gH (Gs i)) (gMv (Gs i)) (psP (beg (Gs i))) (sd (psD (beg (Gs i))))).length := by
      unfold mvl
      split
      · rfl
      · rename_i z
        have : ML (gW (Gs i)) (gH (Gs i)) (gMv (Gs i)) (psP (beg (Gs i))) (sd (psD (beg (Gs i)))) = [] := Classical.byContradiction (fun y => z (show psS (beg (Gs i)) = 0 from if_neg y))
        rw [this]
    rw [show Int32.toNatClampNeg 0 = 0 by decide, hL8.2.2.2.1]
    refine ⟨by rw [em], ng, Gs, Ls, tp, some (i, []), ?_⟩
    refine h.play ⟨fun a p => ?_, fun k p => ?_, fun a p => ?_, fun a j p q _ => ?_⟩ ?_
    · rw [f8.1 a (by omega) (by omega), r6 a (by omega) (by omega) (by omega) (by omega)]
    · rw [f8.2 k (by omega) (by omega), r7 k (by omega) (by omega)]
    · rw [f8.1 a (by omega) (by omega), r6 a (by omega) (by omega) (by omega) (by omega)]
    · rw [f8.1 a (by omega) (by omega), r6 a (by omega) (by omega) (by omega) (by omega)]
    · have u : ∀ a, 53 ≤ a → a ≤ 57 → s8 a = s4 a := fun a p q => by rw [f8.1 a (by omega) (by omega), e6, up2_ne (by omega), e5, up2_ne (by omega)]
      refine ⟨⟨hi, ?_, ?_, ?_⟩, fun k j hk => absurd hk (by simp), fun k j hk => absurd hk (by simp), ⟨?_, ?_, ?_⟩, fun k hk => absurd hk (by simp)⟩
      · rw [u 53 (by decide) (by decide), v3]
      · rw [f8.2 41 (by decide) (by decide), e6, up2_at, pk_un (by decide), e5, up2_at, pk_us]
      · rw [f8.2 42 (by decide) (by decide), e6, up2_at, pk_us]
        rfl
      · exact hP2.row (by rw [u 54 (by decide) (by decide), v54])
      · rw [u 53 (by decide) (by decide)]; exact v2
      · exact hR3.row (by rw [u 55 (by decide) (by decide), v55])
