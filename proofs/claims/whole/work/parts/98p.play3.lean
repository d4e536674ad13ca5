theorem IA.pos {σ σ' : GSt} {ng : Nat} {Gs : Nat → GM} {Ls : Nat → List Int32} {tp : List Int32} {g : Nat} {ms : List Nat} (h : IA σ ng Gs Ls tp (some (g, ms))) (f : ∀ a, a ≠ 54 → a ≠ 29 → a ≠ 30 → (a < 32 ∨ 38 < a) → σ' a = σ a) (hP : PosC σ' 54 (61 + 22 * g) (rpl (Gs g) ms)) : IA σ' ng Gs Ls tp (some (g, ms)) := by
  have r : ∀ a, a ≤ 2 ∨ a = 53 ∨ 55 ≤ a → σ' a = σ a := fun a p => f a (by omega) (by omega) (by omega) (by omega)
  refine h.play ⟨fun a p => r a (by omega), fun k _ => by rw [r 237 (by decide)], fun a p => r a (by omega), fun a j p q _ => by rw [r a (by omega)]⟩ ?_
  obtain ⟨⟨a1, a2, a3, a4⟩, b, c, ⟨d1, d2, d3⟩, e⟩ := h.2.2.2.2.2
  exact ⟨⟨a1, by rw [r 53 (by decide)]; exact a2, by rw [r 237 (by decide)]; exact a3, by rw [r 237 (by decide)]; exact a4⟩, b, fun k i hk => by rw [r 273 (by decide)]; exact c k i hk, ⟨hP, by rw [r 53 (by decide)]; exact d2, d3.row (r 55 (by decide))⟩, fun k hk => by rw [r 56 (by decide), r 57 (by decide)]; exact e k hk⟩
/-- what a look at this depth answers before it looks -/
def Rsl (G : GM) (ps : PS) (x1 : Int32) (lo : Nat) (r : Int32) : Prop := (x1 < nI lo ∧ r = -4) ∨ (¬ x1 < nI lo ∧ 6 < x1 ∧ r = -6) ∨ ∃ n, x1 = nI n ∧ lo ≤ n ∧ n ≤ 6 ∧ ((3000 < tot G n ps ∧ r = -5) ∨ (tot G n ps ≤ 3000 ∧ r = 0))
theorem Rsl.one {G : GM} {ps : PS} {x1 : Int32} {lo : Nat} {r r' : Int32} (hl : lo ≤ 1) (h : Rsl G ps x1 lo r) (h' : Rsl G ps x1 lo r') : r = r' := by
  have no : ∀ n, lo ≤ n → n ≤ 6 → ¬ nI n < nI lo ∧ ¬ 6 < nI n := fun n p q => ⟨nI_nlt p (by omega), nI_nlt (a := 6) q (by decide)⟩
  rcases h with ⟨a, e⟩ | ⟨a, b, e⟩ | ⟨n, en, n1, n6, k⟩ <;> rcases h' with ⟨a', e'⟩ | ⟨a', b', e'⟩ | ⟨n', en', n1', n6', k'⟩
  · rw [e, e']
  · exact absurd a a'
  · rw [en'] at a; exact absurd a (no n' n1' n6').1
  · exact absurd a' a
  · rw [e, e']
  · rw [en'] at b; exact absurd b (no n' n1' n6').2
  · rw [en] at a'; exact absurd a' (no n n1 n6).1
  · rw [en] at b'; exact absurd b' (no n n1 n6).2
  · have : n = n' := (nI_eq (by omega) (by omega)).mp (en.symm.trans en')
    subst this
    rcases k with ⟨p, e⟩ | ⟨p, e⟩ <;> rcases k' with ⟨p', e'⟩ | ⟨p', e'⟩
    · rw [e, e']
    · omega
    · omega
    · rw [e, e']
theorem Rsl.rf {G : GM} {ps : PS} {x1 : Int32} {lo : Nat} {r : Int32} (h : Rsl G ps x1 lo r) (h0 : ¬ r = 0) : isRf r := by
  rcases h with ⟨a, e⟩ | ⟨a, b, e⟩ | ⟨n, en, n1, n6, ⟨p, e⟩ | ⟨p, e⟩⟩
  · rw [e]; exact rf_4
  · rw [e]; exact rf_6
  · rw [e]; exact rf_5
  · exact absurd e h0
/-- the class's looks, where a PLAY goes on -/
theorem spentI {σ : GSt} {ng : Nat} {Gs : Nat → GM} {Ls : Nat → List Int32} {tp : List Int32} {g n : Nat} {ms : List Nat} {Q : Int32 → GSt → Prop} (h : IA σ ng Gs Ls tp (some (g, ms))) (hn : n ≤ 6) (h1 : ∀ σ' : GSt, 3000 < tot (Gs g) n (rpl (Gs g) ms) → IA σ' ng Gs Ls tp (some (g, ms)) → Q 1 σ') (h0 : ∀ σ' : GSt, tot (Gs g) n (rpl (Gs g) ms) ≤ 3000 → IA σ' ng Gs Ls tp (some (g, ms)) → (∀ j, j < 7 → σ' 30 j = nI (wys (Gs g) n (rpl (Gs g) ms) j)) → Q 0 σ') : D_X3_isSpent 54 (nI n) σ Q := by
  obtain ⟨g8, hG, hV, hD, hP, hB, e2, hR, hlen⟩ := h.cls
  exact isSpentC_ok hG (by decide +kernel) (kdg g8) hn hV hP hB (fun σ' a b c => h1 σ' a (h.pos c b)) (fun σ' a b c d => h0 σ' a (h.pos c b) d)
theorem refLook_ok {σ : GSt} {ng : Nat} {Gs : Nat → GM} {Ls : Nat → List Int32} {tp : List Int32} {pl : Option (Nat × List Nat)} {lo : Nat} {x1 : Int32} {Q : Int32 → GSt → Prop} (h : IA σ ng Gs Ls tp pl) (hl : lo ≤ 1) (h3 : (∀ g ms, pl = some (g, ms) → ¬ psS (rpl (Gs g) ms) = 0) → Q (-3) σ) (h1 : ∀ g ms (σ' : GSt) r, pl = some (g, ms) → psS (rpl (Gs g) ms) = 0 → Rsl (Gs g) (rpl (Gs g) ms) x1 lo r → IA σ' ng Gs Ls tp pl → Q r σ') : D_X10_refusalOfLook x1 (nI lo) σ Q := by
  cases pl with
  | none =>
    have e3 := (no3 h).1 rfl
    exact ⟨fun _ => ⟨fun z => absurd rfl z, fun _ => h3 (fun _ _ e => absurd e (by simp))⟩, fun z => absurd e3 z⟩
  | some y =>
    obtain ⟨g, ms⟩ := y
    have e3 := (no3 h).2 g ms rfl
    obtain ⟨g8, hG, hV, hD, hP, hB, e2, hR, hlen⟩ := h.cls
    have s3 := hV.2.2.1
    unfold D_X10_refusalOfLook D_X10_refusalOfLook_0 D_X4_goesOn D_X4_goesOn_0
    rw [hP.2.1]
    refine ⟨fun z => absurd z e3, fun _ => ⟨fun z => ⟨fun y => absurd rfl y, fun _ => h3 (fun g' ms' e => ?_)⟩, fun z => ⟨fun _ => ?_, fun y => absurd y (by decide)⟩⟩⟩
    · obtain ⟨eg, em⟩ := Prod.mk.inj (Option.some.inj e)
      subst eg em
      exact fun y => z (by rw [y]; rfl)
    · have z0 := (nI_eq (b := 0) (by omega) (by decide)).mp z
      refine ⟨fun q1 => ⟨fun q2 => ?_, fun q2 => ?_⟩, fun q1 => ?_⟩
      · obtain ⟨n, hn, en⟩ := nI_of2 (n := 6) (by decide) (Int32.not_lt.mpr (Int32.le_trans (nI_pos' (by omega)) q1)) q2
        have n1 : lo ≤ n := by rw [en] at q1; exact (nI_leI (by omega) (by omega)).mp q1
        rw [en]
        refine spentI h hn (fun σ' a b => ⟨fun y => absurd y (by decide), fun _ => ?_⟩) (fun σ' a b _ => ⟨fun _ => ?_, fun y => absurd rfl y⟩)
        · exact h1 g ms σ' _ rfl z0 (Or.inr (Or.inr ⟨n, en, n1, hn, Or.inl ⟨a, rfl⟩⟩)) b
        · exact h1 g ms σ' _ rfl z0 (Or.inr (Or.inr ⟨n, en, n1, hn, Or.inr ⟨a, rfl⟩⟩)) b
      · exact h1 g ms σ _ rfl z0 (Or.inr (Or.inl ⟨Int32.not_lt.mpr q1, Int32.not_le.mp q2, rfl⟩)) h
      · exact h1 g ms σ _ rfl z0 (Or.inl ⟨Int32.not_le.mp q1, rfl⟩) h
/-- the reference's, up to its own look -/
theorem outLook_ok {σ : GSt} {G : GM} {ps : PS} {g lo : Nat} {l : Int64} {x1 : Int32} {K : Int32 → GSt → Prop} (hG : GOK G) (hV : PV G ps) (hL : Lv σ g 0 G ps) (hl : lo ≤ 1) (el : l = (nI lo).toInt64) (hK : ∀ (σ' : GSt) (r : Int32), Rsl G ps x1 lo r → LG 0 σ σ' → Lv σ' g 0 G ps → (∀ n, x1 = nI n → n ≤ 6 → r = 0 → ∀ k, k < 8 → σ' 272 k = nI (wys G n ps k)) → K r σ') : D_X11_out x1.toInt64 l 6 σ (fun r_3 σ_4 => (¬ r_3 = 0 → K r_3 σ_4) ∧ (r_3 = 0 → D_X11_isSpent 0 x1 σ_4 (fun r_5 σ_6 => (r_5 = 0 → K r_3 σ_6) ∧ (¬ r_5 = 0 → K (-5) σ_6)))) := by
  refine out_ok (hi := 6) el (by decide) (fun q => ⟨fun _ => ?_, fun y => absurd y (by decide)⟩) (fun q q2 => ⟨fun _ => ?_, fun y => absurd y (by decide)⟩) (fun q q2 => ⟨fun y => absurd rfl y, fun _ => ?_⟩)
  · exact hK σ _ (Or.inl ⟨q, rfl⟩) LG.rf hL (fun n _ _ e => absurd e (by decide))
  · exact hK σ _ (Or.inr (Or.inl ⟨q, q2, rfl⟩)) LG.rf hL (fun n _ _ e => absurd e (by decide))
  · obtain ⟨n, hn, en⟩ := nI_of2 (n := 6) (by decide) (Int32.not_lt.mpr (Int32.le_trans (nI_pos' (by omega)) (Int32.not_lt.mp q))) (Int32.not_lt.mp q2)
    have n1 : lo ≤ n := by rw [en] at q; exact (nI_leI (by omega) (by omega)).mp (Int32.not_lt.mp q)
    rw [en]
    refine isSpentM_ok (d := 0) hG (by omega) (by omega) hV hL (fun σ' a b c => ⟨fun y => absurd y (by decide), fun _ => ?_⟩) (fun σ' a b c d => ⟨fun _ => ?_, fun y => absurd rfl y⟩)
    · exact hK σ' _ (Or.inr (Or.inr ⟨n, en, n1, hn, Or.inl ⟨a, rfl⟩⟩)) b c (fun n _ _ e => absurd e (by decide))
    · refine hK σ' _ (Or.inr (Or.inr ⟨n, en, n1, hn, Or.inr ⟨a, rfl⟩⟩)) b c (fun n' e' n6' _ => ?_)
      have : n = n' := (nI_eq (by omega) (by omega)).mp (en.symm.trans e')
      rw [← this]
      exact d
theorem op_look : Op_look InvA := by
  intro x1 σ hI
  obtain ⟨ng, Gs, Ls, tp, pl, h⟩ := id hI
  unfold D_X10_look D_X10_look_0
  refine refLook_ok (lo := 0) h (by decide) (fun hno => ⟨fun y => absurd y (by decide), fun _ => refuse_ok rf_3 ?_⟩) (fun g ms σ1 r epl z hr h1 => ⟨fun e => ?_, fun e => refuse_ok (hr.rf e) ?_⟩)
  · unfold D_X11_look D_X11_look_0
    refine stands_ok h.plm.rf (fun _ => ⟨fun _ => no_ok rf_3 ⟨rfl, hI.rf rf_3⟩, fun y => absurd rfl y⟩) (fun g ms σ1 e hL hF => ⟨fun y => absurd y (by decide), fun _ => ⟨fun y => ?_, fun _ => no_ok rf_3 ⟨rfl, no2 hI rf_3 (SF.ofPF hF)⟩⟩⟩)
    rw [e] at h
    have s3 := h.cls.2.2.1.2.2.1
    rw [show Int32.toNatClampNeg 0 = 0 by decide, hL.2.2.1.2.2.1] at y
    exact absurd ((nI_eq (b := 0) (by omega) (by decide)).mp y) (hno g ms e)
  · subst epl
    obtain ⟨n, en, n6⟩ : ∃ n, x1 = nI n ∧ n ≤ 6 := by
      rcases hr with ⟨_, w⟩ | ⟨_, _, w⟩ | ⟨n, w, _, w2, _⟩
      · rw [e] at w; exact absurd w (by decide)
      · rw [e] at w; exact absurd w (by decide)
      · exact ⟨n, w, w2⟩
    obtain ⟨g8, hG, hV, hD, hP, hB, e2, hR, hlen⟩ := h1.cls
    rw [en] at hr ⊢
    refine valueOf_ok hG (by decide +kernel) (kdg g8) n _ σ1 _ n6 hV hP hB (fun σ2 hP2 f2 => ?_)
    have h2 := h1.pos (fun a p _ _ q => f2 a p (by omega)) hP2
    unfold D_X11_look D_X11_look_0
    refine stands_ok h2.plm (fun e => absurd e (by simp)) (fun g' ms' σ3 e3 hL hF => ⟨fun y => absurd y (by decide), fun _ => ⟨fun _ => ?_, fun y => ?_⟩⟩)
    · obtain ⟨eg, em⟩ := Prod.mk.inj (Option.some.inj e3)
      subst eg em
      refine outLook_ok (lo := 0) (K := D_X11_look_49 _ (nI n)) hG hV hL (by decide) (by decide) (fun σ4 r4 hr4 f4 hL4 _ => ?_)
      have : r4 = 0 := (hr4.one (by decide) hr).trans e
      rw [this]
      refine ⟨fun _ => ?_, fun y => absurd rfl y⟩
      refine lookAt_ok (d := 0) hG (by omega) hV hL4 (fun σ5 f5 hL5 => ⟨rfl, _, _, _, _, _, h2.keep (KP.ofSF ((SF.ofPF hF).trans ((SF.ofLG f4).trans (SF.ofLG f5))))⟩)
    · obtain ⟨eg, em⟩ := Prod.mk.inj (Option.some.inj e3)
      subst eg em
      rw [show Int32.toNatClampNeg 0 = 0 by decide, hL.2.2.1.2.2.1, z] at y
      exact absurd rfl y
  · subst epl
    have hI1 : InvA σ1 := ⟨_, _, _, _, _, h1⟩
    obtain ⟨g8, hG, hV, hD, hP, hB, e2, hR, hlen⟩ := h1.cls
    unfold D_X11_look D_X11_look_0
    refine stands_ok h1.plm.rf (fun e => absurd e (by simp)) (fun g' ms' σ3 e3 hL hF => ⟨fun y => absurd y (by decide), fun _ => ⟨fun _ => ?_, fun y => ?_⟩⟩)
    · obtain ⟨eg, em⟩ := Prod.mk.inj (Option.some.inj e3)
      subst eg em
      refine outLook_ok (lo := 0) (K := D_X11_look_49 _ x1) hG hV hL (by decide) (by decide) (fun σ4 r4 hr4 f4 hL4 _ => ?_)
      have : r4 = r := hr4.one (by decide) hr
      rw [this]
      exact ⟨fun y => absurd y e, fun _ => no_ok (hr.rf e) ⟨rfl, no2 hI1 (hr.rf e) ((SF.ofPF hF).trans (SF.ofLG f4))⟩⟩
    · obtain ⟨eg, em⟩ := Prod.mk.inj (Option.some.inj e3)
      subst eg em
      rw [show Int32.toNatClampNeg 0 = 0 by decide, hL.2.2.1.2.2.1, z] at y
      exact absurd rfl y
