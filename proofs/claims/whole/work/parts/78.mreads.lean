theorem mw6 {a : Nat} (h : a = 245 ∨ a = 246 ∨ a = 247 ∨ a = 249 ∨ a = 250 ∨ a = 251 ∨ a = 252 ∨ a = 256) : mw a = 6 := by
  rcases h with rfl | rfl | rfl | rfl | rfl | rfl | rfl | rfl <;> decide
theorem MFr.ofM {g m : Nat} {σ σ1 σ2 : GSt} (h : MFr g σ σ1) (h2 : MFm g m σ1 σ2) : MFr g σ σ2 := by
  refine ⟨fun a p q => ?_, fun k p q => (h2.2.1 k p).trans (h.2.1 k p q), fun a j p q r => ?_⟩
  · exact (h2.1 a p (by omega) (by omega) (by omega) (by omega) (by omega)).trans (h.1 a p q)
  · refine Eq.trans ?_ (h.2.2 a j p q r)
    by_cases e : a = 248
    · subst e
      rw [show mw 248 = 1 by decide] at r
      exact h2.2.2.2 j (by omega)
    · by_cases e2 : a = 245 ∨ a = 246 ∨ a = 247 ∨ a = 256
      · have := mw6 (a := a) (by omega)
        rw [this] at r
        exact h2.2.2.1 a j (by omega) e (by omega)
      · rw [h2.1 a (by omega) (by omega) (by omega) (by omega) e (by omega)]
theorem MFr.ofE {g m : Nat} {σ σ1 σ2 : GSt} (h : MFr g σ σ1) (h2 : EFm g m σ1 σ2) : MFr g σ σ2 := by
  refine ⟨fun a p q => ?_, fun k p q => (h2.2.1 k p).trans (h.2.1 k p q), fun a j p q r => ?_⟩
  · exact (h2.1 a p (by omega) (by omega) (by omega) (by omega) (by omega)).trans (h.1 a p q)
  · refine Eq.trans ?_ (h.2.2 a j p q r)
    by_cases e : a = 253
    · subst e
      rw [show mw 253 = 1 by decide] at r
      exact h2.2.2.2 j (by omega)
    · by_cases e2 : a = 249 ∨ a = 250 ∨ a = 251 ∨ a = 252
      · have := mw6 (a := a) (by omega)
        rw [this] at r
        exact h2.2.2.1 a j (by omega) e (by omega)
      · rw [h2.1 a (by omega) (by omega) (by omega) (by omega) (by omega) e]
theorem MvM.row {σ σ' : GSt} {k : Nat} {e : Nat × Nat × Int32 × Int32 × Int32} (h : MvM σ k e) (h5 : σ' 245 k = σ 245 k) (h6 : σ' 246 k = σ 246 k) (h7 : σ' 247 k = σ 247 k) (h8 : σ' 256 k = σ 256 k) : MvM σ' k e := by
  unfold MvM at *
  rw [h5, h6, h7, h8]
  exact h
theorem EnM.row {σ σ' : GSt} {k : Nat} {e : Nat × Nat × Int32 × Int32 × Int32} (h : EnM σ k e) (h5 : σ' 249 k = σ 249 k) (h6 : σ' 250 k = σ 250 k) (h7 : σ' 251 k = σ 251 k) (h8 : σ' 252 k = σ 252 k) : EnM σ' k e := by
  unfold EnM at *
  rw [h5, h6, h7, h8]
  exact h
theorem movesM_loop {g n : Nat} {t : Nat → Int32} {Q : Int32 → GSt → Prop} : ∀ (d m p : Nat) (σ : GSt), m + d = 6 → RdM g n t p σ → σ 248 g = nI m →
    (∀ (σ' : GSt) (z : Nat) (l : List (Nat × Nat × Int32 × Int32 × Int32)), pMvs t n d p = .inr (z, l) → RdM g n t z σ' → MFm g m σ σ' → (∀ j e, l[j]? = some e → MvM σ' (6 * g + (m + j)) e) → σ' 248 g = nI (m + l.length) → ∀ s, s = up2 σ' 255 g (nI z) → ∃ k : Nat, L_X11_reads_110 Q k 1 s) →
    (∀ (σ' : GSt) (z : Nat), pMvs t n d p = .inl z → RdM g n t z σ' → MFm g m σ σ' → Q 0 σ') → L_X11_reads_61 Q (d + 2) 1 σ := by
  intro d
  induction d with
  | zero =>
    intro m p σ hm hR h8 hs hf
    refine ⟨fun z => absurd z (by decide), fun _ => ?_⟩
    refine oneMove_ok hR h8 (by omega) (fun _ => ⟨fun z => absurd rfl z, fun _ => hf σ p rfl hR MFm.rf⟩) (fun _ _ z => by omega) (fun _ _ _ _ z => by omega)
  | succ d ih =>
    intro m p σ hm hR h8 hs hf
    refine ⟨fun z => absurd z (by decide), fun _ => ?_⟩
    refine oneMove_ok hR h8 (by omega) (fun e => by omega) (fun σ1 q _ hpm hR1 hF1 => ⟨fun z => absurd rfl z, fun _ => hf σ1 q (by simp only [pMvs, hpm]) hR1 hF1⟩) (fun σ1 q kind num _ hpm hR1 hF1 hM1 h81 => ⟨fun _ => ?_, fun z => absurd z (by decide)⟩)
    obtain ⟨q2, e2⟩ : ∃ z, z = (pMust t n q).1 := ⟨_, rfl⟩
    obtain ⟨mu, em⟩ : ∃ z, z = (pMust t n q).2 := ⟨_, rfl⟩
    rw [← e2] at hR1
    rw [← e2, ← em] at hM1
    have eq2 : q2 = (if ch t n q = 33 then q + 1 else q) := e2
    have eqm : mu = (if ch t n q = 33 then 1 else 0) := em
    refine takesM_ok hR1 (by decide) (fun c hp => ?_) (fun c => ?_)
    · have nc : ¬ ch t n q2 = 59 := by rw [c]; decide
      refine ih (m + 1) (q2 + 1) _ (by omega) (hR1.step hp) (by rw [up2_ne (by decide)]; exact h81) (fun σ' z l hz hRz hMz hl hc => ?_) (fun σ' z hz hRz hMz => ?_)
      · refine hs σ' z ((p, q2, kind, num, mu) :: l) ?_ hRz (hF1.place.trans hMz (by omega)) ?_ ?_
        · simp only [pMvs, hpm]
          rw [← eq2, ← eqm, if_neg nc, if_pos c, hz]
        · intro j e he
          cases j with
          | zero =>
            cases he
            have lk : ∀ a, a ≠ 237 → a ≠ 248 → σ' a (6 * g + (m + 0)) = σ1 a (6 * g + m) := fun a ha hb => by
              rw [Nat.add_zero, hMz.2.2.1 a _ ha hb (by omega), up2_ne ha]
            exact MvM.row (σ := σ1) hM1 (lk 245 (by decide) (by decide)) (lk 246 (by decide) (by decide)) (lk 247 (by decide) (by decide)) (lk 256 (by decide) (by decide))
          | succ j =>
            have := hl j e he
            rw [show m + (j + 1) = m + 1 + j by omega]
            exact this
        · rw [hc]
          congr 1
          simp only [List.length_cons]
          omega
      · refine hf σ' z ?_ hRz (hF1.place.trans hMz (by omega))
        simp only [pMvs, hpm]
        rw [← eq2, if_neg nc, if_pos c, hz]
    · refine ⟨fun _ => ?_, fun z => absurd rfl z⟩
      refine takesM_ok hR1 (by decide) (fun c2 hp => ⟨fun _ => ?_, fun z => absurd z (by decide)⟩) (fun c2 => ⟨fun z => absurd rfl z, fun _ => ?_⟩)
      · have hR2 := hR1.step hp
        refine ⟨hR2.vp, fun s es => ?_⟩
        rw [hR2.gi, hR2.1.2] at es
        refine hs _ (q2 + 1) [(p, q2, kind, num, mu)] ?_ hR2 hF1.place ?_ ?_ s es
        · simp only [pMvs, hpm]
          rw [← eq2, ← eqm, if_pos c2]
        · intro j e he
          have hj : j < 1 := (List.getElem?_eq_some_iff.mp he).1
          rw [show j = 0 by omega] at he ⊢
          cases he
          exact MvM.row (σ := σ1) hM1 (by rw [up2_ne (by decide)]) (by rw [up2_ne (by decide)]) (by rw [up2_ne (by decide)]) (by rw [up2_ne (by decide)])
        · rw [up2_ne (by decide), h81]
          rfl
      · refine hf _ q2 ?_ hR1 hF1
        simp only [pMvs, hpm]
        rw [← eq2, if_neg c2, if_neg c]
theorem endsM_loop {g n : Nat} {t : Nat → Int32} {Q : Int32 → GSt → Prop} : ∀ (d m p : Nat) (σ : GSt), m + d = 6 → RdM g n t p σ → σ 253 g = nI m →
    (∀ (σ' : GSt) (z : Nat) (l : List (Nat × Nat × Int32 × Int32 × Int32)), pEns t n d p = .inr (z, l) → RdM g n t z σ' → EFm g m σ σ' → (∀ j e, l[j]? = some e → EnM σ' (6 * g + (m + j)) e) → σ' 253 g = nI (m + l.length) → (z = n → Q 1 σ') ∧ (z ≠ n → Q 0 σ')) →
    (∀ (σ' : GSt) (z : Nat), pEns t n d p = .inl z → RdM g n t z σ' → EFm g m σ σ' → Q 0 σ') → L_X11_reads_110 Q (d + 2) 1 σ := by
  intro d
  induction d with
  | zero =>
    intro m p σ hm hR h8 hs hf
    refine ⟨fun z => absurd z (by decide), fun _ => ?_⟩
    refine oneEnd_ok hR h8 (by omega) (fun _ => ⟨fun z => absurd rfl z, fun _ => hf σ p rfl hR EFm.rf⟩) (fun _ _ z => by omega) (fun _ _ _ _ _ z => by omega)
  | succ d ih =>
    intro m p σ hm hR h8 hs hf
    refine ⟨fun z => absurd z (by decide), fun _ => ?_⟩
    refine oneEnd_ok hR h8 (by omega) (fun e => by omega) (fun σ1 q _ hpm hR1 hF1 => ⟨fun z => absurd rfl z, fun _ => hf σ1 q (by simp only [pEns, hpm]) hR1 hF1⟩) (fun σ1 q kind num out _ hpm hR1 hF1 hM1 h81 => ⟨fun _ => ?_, fun z => absurd z (by decide)⟩)
    refine takesM_ok hR1 (by decide) (fun c hp => ?_) (fun c => ?_)
    · have nc : ¬ ch t n q = 46 := by rw [c]; decide
      refine ih (m + 1) (q + 1) _ (by omega) (hR1.step hp) (by rw [up2_ne (by decide)]; exact h81) (fun σ' z l hz hRz hMz hl hc => ?_) (fun σ' z hz hRz hMz => ?_)
      · refine hs σ' z ((p, q, kind, num, out) :: l) ?_ hRz (hF1.place.trans hMz (by omega)) ?_ ?_
        · simp only [pEns, hpm]
          rw [if_neg nc, if_pos c, hz]
        · intro j e he
          cases j with
          | zero =>
            cases he
            have lk : ∀ a, a ≠ 237 → a ≠ 253 → σ' a (6 * g + (m + 0)) = σ1 a (6 * g + m) := fun a ha hb => by
              rw [Nat.add_zero, hMz.2.2.1 a _ ha hb (by omega), up2_ne ha]
            exact EnM.row (σ := σ1) hM1 (lk 249 (by decide) (by decide)) (lk 250 (by decide) (by decide)) (lk 251 (by decide) (by decide)) (lk 252 (by decide) (by decide))
          | succ j =>
            have := hl j e he
            rw [show m + (j + 1) = m + 1 + j by omega]
            exact this
        · rw [hc]
          congr 1
          simp only [List.length_cons]
          omega
      · refine hf σ' z ?_ hRz (hF1.place.trans hMz (by omega))
        simp only [pEns, hpm]
        rw [if_neg nc, if_pos c, hz]
    · refine ⟨fun _ => ?_, fun z => absurd rfl z⟩
      refine takesM_ok hR1 (by decide) (fun c2 hp => ⟨fun z => absurd z (by decide), fun _ => ?_⟩) (fun c2 => ⟨fun _ => ?_, fun z => absurd rfl z⟩)
      · have hR2 := hR1.step hp
        refine ⟨hR2.vp, ?_⟩
        rw [hR2.gi, hR2.1.2, hR2.2.1.1]
        have n90 := hR2.2.2.2.1
        have hq := hs _ (q + 1) [(p, q, kind, num, out)] (by simp only [pEns, hpm]; rw [if_pos c2]) hR2 hF1.place (by
          intro j e he
          have hj : j < 1 := (List.getElem?_eq_some_iff.mp he).1
          rw [show j = 0 by omega] at he ⊢
          cases he
          exact EnM.row (σ := σ1) hM1 (by rw [up2_ne (by decide)]) (by rw [up2_ne (by decide)]) (by rw [up2_ne (by decide)]) (by rw [up2_ne (by decide)])) (by
          rw [up2_ne (by decide), h81]
          rfl)
        refine ⟨fun z => hq.2 (fun e => z (by rw [e])), fun z => hq.1 ((nI_eq (by omega) (by omega)).mp z)⟩
      · refine hf _ q ?_ hR1 hF1
        simp only [pEns, hpm]
        rw [if_neg c2, if_neg c]
/-- the reference's game g is G, its text n bytes t -/
def MdG (σ : GSt) (g : Nat) (G : GM) (t : Nat → Int32) (n : Nat) : Prop := (σ 242 g = nI (gW G) ∧ σ 243 g = nI (gH G) ∧ ∀ c, c < 16 → σ 244 (16 * g + c) = cv (gA G) (gB G) c) ∧ (σ 248 g = nI (gMv G).length ∧ σ 253 g = nI (gEn G).length ∧ σ 254 g = nI (gMF G) ∧ σ 255 g = nI (gEF G)) ∧ (∀ j e, (gMv G)[j]? = some e → MvM σ (6 * g + j) e) ∧ (∀ j e, (gEn G)[j]? = some e → EnM σ (6 * g + j) e) ∧ σ 241 g = nI n ∧ ∀ j, j < n → σ 240 (90 * g + j) = t j
theorem reads_ok {g n : Nat} {t : Nat → Int32} {σ : GSt} {Q : Int32 → GSt → Prop} (g9 : g < 9) (hn : n ≤ 90) (hl : σ 241 g = nI n) (ht : ∀ j, j < n → σ 240 (90 * g + j) = t j)
    (hs : ∀ (σ' : GSt) (G : GM), pAll t n = .inr G → MdG σ' g G t n → MFr g σ σ' → σ' 237 22 = nI g → Q 1 σ')
    (hf : ∀ (σ' : GSt) (z : Nat), pAll t n = .inl z → z ≤ n → σ' 237 21 = nI z → MFr g σ σ' → Q 0 σ') : D_X11_reads (nI g) σ Q := by
  intro s1 e1 s2 e2
  have hR2 : RdM g n t 0 s2 := by
    refine ⟨⟨?_, ?_⟩, ⟨?_, ?_⟩, g9, hn, Nat.zero_le _⟩
    · rw [e2, e1]; simp [up2_app]
    · rw [e2]; simp [up2_app, nI_0]
    · rw [e2, up2_ne (by decide), e1, up2_ne (by decide)]; exact hl
    · intro j hj
      rw [e2, up2_ne (by decide), e1, up2_ne (by decide)]; exact ht j hj
  have F2 : MFr g σ s2 := by rw [e2, e1]; exact (MFr.rf.place (Or.inr rfl)).place (Or.inl rfl)
  have m8 : mw 248 = 1 := by decide
  have m3 : mw 253 = 1 := by decide
  have m4 : mw 254 = 1 := by decide
  have m5 : mw 255 = 1 := by decide
  refine ⟨hR2.vp, fun s3 e3 => ?_⟩
  rw [hR2.gi] at e3
  have hR3 : RdM g n t 0 s3 := by rw [e3]; exact hR2.put (by decide)
  have F3 : MFr g σ s3 := by rw [e3]; exact F2.put (by decide) (by decide) (by rw [m8]; omega) (by rw [m8]; omega)
  refine ⟨hR3.vp, fun s4 e4 => ?_⟩
  rw [hR3.gi] at e4
  have hR4 : RdM g n t 0 s4 := by rw [e4]; exact hR3.put (by decide)
  have F4 : MFr g σ s4 := by rw [e4]; exact F3.put (by decide) (by decide) (by rw [m3]; omega) (by rw [m3]; omega)
  have z8 : s4 248 g = nI 0 := by rw [e4, up2_ne (by decide), e3]; simp [up2_app, nI_0]
  have z3 : s4 253 g = nI 0 := by rw [e4]; simp [up2_app, nI_0]
  have bad : ∀ (σ' : GSt) (z : Nat), pAll t n = .inl z → RdM g n t z σ' → MFr g σ σ' → Q 0 σ' := fun σ' z hz hR hF => hf σ' z hz hR.2.2.2.2 hR.1.2 hF
  refine boardM_ok hR4 (fun s6 w y hb w2 w4 y2 y4 hR6 F6 vw vy a8 a3 => ⟨fun z => absurd z (by decide), fun _ => ?_⟩) (fun s6 z hb hR6 F6 => ⟨fun _ => bad s6 z (by unfold pAll; rw [hb]) hR6 (F4.trans F6), fun z => absurd rfl z⟩)
  have h16 : w * y ≤ 16 := Nat.mul_le_mul w4 y4
  refine beginsM_ok h16 hR6 vw vy (fun s8 p1 a b hbg hR8 F8 hcell vw8 vy8 b8 b3 => ⟨fun _ => ?_, fun z => absurd z (by decide)⟩) (fun s8 z hbg hR8 F8 => ⟨fun z => absurd rfl z, fun _ => bad s8 z (by unfold pAll; rw [hb]; simp only; rw [hbg]) hR8 ((F4.trans F6).trans F8)⟩)
  have G8 : MFr g σ s8 := (F4.trans F6).trans F8
  refine ⟨hR8.vp, fun s9 e9 => ⟨8, ?_⟩⟩
  rw [hR8.gi, hR8.1.2] at e9
  have hR9 : RdM g n t p1 s9 := by rw [e9]; exact hR8.put (by decide)
  have F9 : MFr g σ s9 := by rw [e9]; exact G8.put (by decide) (by decide) (by rw [m4]; omega) (by rw [m4]; omega)
  have z9 : s9 248 g = nI 0 := by rw [e9, up2_ne (by decide), b8, a8]; exact z8
  refine movesM_loop 6 0 p1 s9 rfl hR9 z9 (fun s11 p2 mv hmv hR11 M11 hmv11 c11 s12 e12 => ⟨8, ?_⟩) (fun s11 z hmv hR11 M11 => bad s11 z (by unfold pAll; rw [hb]; simp only; rw [hbg]; simp only; rw [hmv]) hR11 (F9.ofM M11))
  have hR12 : RdM g n t p2 s12 := by rw [e12]; exact hR11.put (by decide)
  have F12 : MFr g σ s12 := by rw [e12]; exact (F9.ofM M11).put (by decide) (by decide) (by rw [m5]; omega) (by rw [m5]; omega)
  have z12 : s12 253 g = nI 0 := by
    rw [e12, up2_ne (by decide), M11.1 253 (by decide) (by decide) (by decide) (by decide) (by decide) (by decide), e9, up2_ne (by decide), b3, a3]
    exact z3
  refine endsM_loop 6 0 p2 s12 rfl hR12 z12 (fun s14 p3 en hen hR14 E14 hen14 c14 => ⟨fun e => ?_, fun e => ?_⟩) (fun s14 z hen hR14 E14 => bad s14 z (by unfold pAll; rw [hb]; simp only; rw [hbg]; simp only; rw [hmv]; simp only; rw [hen]) hR14 (F12.ofE E14))
  · refine hs s14 (w, y, a, b, p1, p2, mv, en) ?_ ?_ (F12.ofE E14) hR14.1.1
    · unfold pAll
      rw [hb]; simp only; rw [hbg]; simp only; rw [hmv]; simp only; rw [hen]; simp only
      rw [if_pos e]
    · have lm := pMvs_len _ _ _ _ hmv
      have lk : ∀ x, x ≠ 237 → x ≠ 245 → x ≠ 246 → x ≠ 247 → x ≠ 248 → x ≠ 249 → x ≠ 250 → x ≠ 251 → x ≠ 252 → x ≠ 253 → x ≠ 254 → x ≠ 255 → x ≠ 256 → s14 x = s8 x := fun x q1 q2 q3 q4 q5 q6 q7 q8 q9 q10 q11 q12 q13 => by
        rw [E14.1 x q1 q6 q7 q8 q9 q10, e12, up2_ne q12, M11.1 x q1 q2 q3 q4 q5 q13, e9, up2_ne q11]
      refine ⟨⟨?_, ?_, ?_⟩, ⟨?_, ?_, ?_, ?_⟩, ?_, ?_, hR14.2.1.1, hR14.2.1.2⟩
      · rw [lk 242 (by decide) (by decide) (by decide) (by decide) (by decide) (by decide) (by decide) (by decide) (by decide) (by decide) (by decide) (by decide) (by decide)]; exact vw8
      · rw [lk 243 (by decide) (by decide) (by decide) (by decide) (by decide) (by decide) (by decide) (by decide) (by decide) (by decide) (by decide) (by decide) (by decide)]; exact vy8
      · intro c hc
        rw [lk 244 (by decide) (by decide) (by decide) (by decide) (by decide) (by decide) (by decide) (by decide) (by decide) (by decide) (by decide) (by decide) (by decide)]; exact hcell c hc
      · rw [E14.1 248 (by decide) (by decide) (by decide) (by decide) (by decide) (by decide), e12, up2_ne (by decide), c11, Nat.zero_add]; rfl
      · rw [c14, Nat.zero_add]; rfl
      · rw [E14.1 254 (by decide) (by decide) (by decide) (by decide) (by decide) (by decide), e12, up2_ne (by decide), M11.1 254 (by decide) (by decide) (by decide) (by decide) (by decide) (by decide), e9]
        simp [up2_app, gMF]
      · rw [E14.1 255 (by decide) (by decide) (by decide) (by decide) (by decide) (by decide), e12]
        simp [up2_app, gEF]
      · intro j x hx
        have := hmv11 j x hx
        rw [Nat.zero_add] at this
        exact MvM.row this (by rw [E14.1 245 (by decide) (by decide) (by decide) (by decide) (by decide) (by decide), e12, up2_ne (by decide)]) (by rw [E14.1 246 (by decide) (by decide) (by decide) (by decide) (by decide) (by decide), e12, up2_ne (by decide)]) (by rw [E14.1 247 (by decide) (by decide) (by decide) (by decide) (by decide) (by decide), e12, up2_ne (by decide)]) (by rw [E14.1 256 (by decide) (by decide) (by decide) (by decide) (by decide) (by decide), e12, up2_ne (by decide)])
      · intro j x hx
        have := hen14 j x hx
        rw [Nat.zero_add] at this
        exact this
  · refine bad s14 p3 ?_ hR14 (F12.ofE E14)
    unfold pAll
    rw [hb]; simp only; rw [hbg]; simp only; rw [hmv]; simp only; rw [hen]; simp only
    rw [if_neg e]
