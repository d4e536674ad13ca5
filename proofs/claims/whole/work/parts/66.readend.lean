def pOut (t : Nat → Int32) (n p : Nat) : Int32 := if ch t n p = 119 then 0 else if ch t n p = 108 then 1 else if ch t n p = 100 then 2 else -1
theorem ro41_ok {r : Nat} {v : Int32} {σ : GSt} {Q : Int32 → GSt → Prop} (h0 : v < 0 → Q 0 (up2 σ r 2 v)) (h1 : ¬ v < 0 → Q 1 (up2 σ r 2 v)) : D_X6_readOutcome_41 Q r r v σ := by
  intro s e
  subst e
  have e2 : up2 σ r 2 v r 2 = v := by simp [up2_app]
  rw [e2]
  exact ⟨h0, h1⟩
theorem readOutcome_ok {f i n p r : Nat} {t : Nat → Int32} {σ : GSt} {Q : Int32 → GSt → Prop} (h : Rd f i n t p σ) (hs : ¬ pOut t n p < 0 → p < n → Q 1 (up2 (up2 σ 5 2 (nI (p + 1))) r 2 (pOut t n p))) (hf : pOut t n p < 0 → Q 0 (up2 σ r 2 (-1))) : D_X6_readOutcome r σ Q := by
  refine takes_ok h (by decide) (fun q hp => ⟨fun z => absurd z (by decide), fun _ => ro41_ok (fun z => absurd z (by decide)) (fun _ => ?_)⟩) (fun q => ⟨fun _ => ?_, fun z => absurd rfl z⟩)
  · have e : pOut t n p = 0 := by unfold pOut; rw [if_pos q]
    rw [e] at hs
    exact hs (by decide) hp
  · refine takes_ok h (by decide) (fun q2 hp => ⟨fun z => absurd z (by decide), fun _ => ro41_ok (fun z => absurd z (by decide)) (fun _ => ?_)⟩) (fun q2 => ⟨fun _ => ?_, fun z => absurd rfl z⟩)
    · have e : pOut t n p = 1 := by unfold pOut; rw [if_neg q, if_pos q2]
      rw [e] at hs
      exact hs (by decide) hp
    · refine takes_ok h (by decide) (fun q3 hp => ⟨fun z => absurd z (by decide), fun _ => ro41_ok (fun z => absurd z (by decide)) (fun _ => ?_)⟩) (fun q3 => ⟨fun _ => ro41_ok (fun _ => ?_) (fun z => absurd (by decide) z), fun z => absurd rfl z⟩)
      · have e : pOut t n p = 2 := by unfold pOut; rw [if_neg q, if_neg q2, if_pos q3]
        rw [e] at hs
        exact hs (by decide) hp
      · exact hf (by unfold pOut; rw [if_neg q, if_neg q2, if_neg q3]; decide)
/-- the rest of an END that tells who wins: from p on, kind and number known -/
def pRest (t : Nat → Int32) (n p : Nat) (kind num : Int32) : Nat ⊕ (Nat × Int32 × Int32 × Int32) := if pOut t n p < 0 then .inl p else .inr (p + 1, kind, num, pOut t n p)
/-- one END at p: the place where it can't go on, or its end, kind, number and outcome -/
def pEn (t : Nat → Int32) (n p : Nat) : Nat ⊕ (Nat × Int32 × Int32 × Int32) :=
  if ch t n p = 109 then (if 0 ≤ ch t n (p + 1) - 48 ∧ ch t n (p + 1) - 48 ≤ 9 then (if 0 ≤ ch t n (p + 2) - 48 ∧ ch t n (p + 2) - 48 ≤ 9 then .inr (p + 3, 5, 10 * (ch t n (p + 1) - 48) + (ch t n (p + 2) - 48), 2) else .inl (p + 2)) else .inl (p + 1))
  else if ch t n p = 114 then (if 2 ≤ ch t n (p + 1) - 48 ∧ ch t n (p + 1) - 48 ≤ 4 then pRest t n (p + 2) 0 (ch t n (p + 1) - 48) else .inl (p + 1))
  else if ch t n p = 107 then (if 1 ≤ ch t n (p + 1) - 48 ∧ ch t n (p + 1) - 48 ≤ 9 then pRest t n (p + 2) 4 (ch t n (p + 1) - 48) else .inl (p + 1))
  else if ch t n p = 110 then pRest t n (p + 1) 1 0
  else if ch t n p = 103 then pRest t n (p + 1) 2 0
  else if ch t n p = 121 then pRest t n (p + 1) 3 0
  else .inl p
theorem readEnd_ok {f i n p r : Nat} {t : Nat → Int32} {σ : GSt} {Q : Int32 → GSt → Prop} (h : Rd f i n t p σ) (hr1 : i ≤ r) (hr2 : r < i + 22) (hs : ∀ (σ' : GSt) (q : Nat) (kind num out : Int32), pEn t n p = .inr (q, kind, num, out) → Rd f i n t q σ' → RF r σ σ' → σ' r 0 = kind → σ' r 1 = num → σ' r 2 = out → Q 1 σ') (hf : ∀ (σ' : GSt) (q : Nat), pEn t n p = .inl q → Rd f i n t q σ' → RF r σ σ' → Q 0 σ') : D_X6_readEnd r σ Q := by
  have r5 : r ≠ 5 := (h.2.2.2 r hr1 hr2).2.2
  -- the rest of it
  have rest : ∀ (σ2 : GSt) (q : Nat) (kind num : Int32), Rd f i n t q σ2 → RF r σ σ2 → σ2 r 0 = kind → σ2 r 1 = num → ¬ num < 0 → pEn t n p = pRest t n q kind num → D_X6_readEnd_133 Q r σ2 := by
    intro σ2 q kind num hR hF h0 h1 hn he
    refine ⟨fun z => absurd (h1 ▸ z) hn, fun _ => ?_⟩
    refine readOutcome_ok hR (fun d hp => ⟨fun z => absurd z (by decide), fun _ => ?_⟩) (fun d => ⟨fun _ => ?_, fun z => absurd rfl z⟩)
    · refine hs _ (q + 1) kind num (pOut t n q) (he.trans (if_neg d)) ((hR.step hp).put hr1 hr2) ((hF.place r5).slot (by decide)) ?_ ?_ (by simp [up2_app])
      · rw [up2_app, if_neg (by omega), up2_ne r5, h0]
      · rw [up2_app, if_neg (by omega), up2_ne r5, h1]
    · exact hf _ q (he.trans (if_pos d)) (hR.put hr1 hr2) (hF.slot (by decide))
  -- a number that is wanting
  have none_ : ∀ (σ2 : GSt) (q : Nat), Rd f i n t q σ2 → RF r σ σ2 → σ2 r 1 = -1 → pEn t n p = .inl q → D_X6_readEnd_133 Q r σ2 := by
    intro σ2 q hR hF h1 he
    refine ⟨fun _ => hf _ q he hR hF, fun z => absurd ?_ z⟩
    rw [h1]
    decide
  intro s0 e0
  subst e0
  have hR0 := h.put (j := 1) (v := 0) hr1 hr2
  have hF0 : RF r σ (up2 σ r 1 0) := RF.rf.slot (by decide)
  have h01 : up2 σ r 1 0 r 1 = 0 := by simp [up2_app]
  obtain ⟨τ, eτ⟩ : ∃ z, z = up2 σ r 1 0 := ⟨_, rfl⟩
  rw [← eτ] at hR0 hF0 h01 ⊢
  -- those without a number
  have plain : ∀ (k : Int32), p < n → pEn t n p = pRest t n (p + 1) k 0 → D_X6_readEnd_133 Q r (up2 (up2 τ 5 2 (nI (p + 1))) r 0 k) := by
    intro k hp he
    refine rest _ (p + 1) k 0 ((hR0.step hp).put hr1 hr2) ((hF0.place r5).slot (by decide)) (by simp [up2_app]) ?_ (by decide) he
    rw [up2_app, if_neg (by omega), up2_ne r5, h01]
  -- those with one
  have numd : ∀ (k lo hi : Int32), p < n → 0 ≤ lo → (dg t n (p + 1) lo hi → pEn t n p = pRest t n (p + 2) k (ch t n (p + 1) - 48)) → (¬ dg t n (p + 1) lo hi → pEn t n p = .inl (p + 1)) → D_X6_digit lo hi (up2 (up2 τ 5 2 (nI (p + 1))) r 0 k) (fun r_18 σ_19 => ∀ σ_20 : GSt, σ_20 = up2 σ_19 r 1 r_18 → (D_X6_readEnd_133 Q r σ_20)) := by
    intro k lo hi hp hlo he1 he0
    have hR := (hR0.step hp).put (j := 0) (v := k) hr1 hr2
    have hF : RF r σ (up2 (up2 τ 5 2 (nI (p + 1))) r 0 k) := (hF0.place r5).slot (by decide)
    refine digit_ok hR hlo (fun d hp2 => ?_) (fun d => ?_)
    · intro s e
      subst e
      refine rest _ (p + 2) k (ch t n (p + 1) - 48) ((hR.step hp2).put hr1 hr2) ((hF.place r5).slot (by decide)) ?_ (by simp [up2_app]) ?_ (he1 d)
      · rw [up2_app, if_neg (by omega), up2_ne r5, up2_app, if_pos ⟨rfl, rfl⟩]
      · have a1 := i32_le.mp hlo
        have a2 := i32_le.mp d.1
        rw [i32_lt]
        omega
    · intro s e
      subst e
      exact none_ _ (p + 1) (hR.put hr1 hr2) (hF.slot (by decide)) (by simp [up2_app]) (he0 d)
  refine takes_ok hR0 (by decide) (fun q hp => ⟨fun z => absurd z (by decide), fun _ => ?_⟩) (fun q => ⟨fun _ => ?_, fun z => absurd rfl z⟩)
  · intro s e
    subst e
    have hR := (hR0.step hp).put (j := 0) (v := 5) hr1 hr2
    have hF : RF r σ (up2 (up2 τ 5 2 (nI (p + 1))) r 0 5) := (hF0.place r5).slot (by decide)
    unfold D_X6_readLength D_X6_readLength_0
    refine digit_ok hR (by decide) (fun d hp2 => ⟨fun _ => ?_, fun z => absurd d.1 z⟩) (fun d => ⟨fun z => absurd z (by decide), fun _ => ⟨Or.inl rfl, ?_⟩⟩)
    · have hR2 := hR.step hp2
      have hF2 := hF.place (v := nI (p + 1 + 1)) r5
      refine digit_ok hR2 (by decide) (fun d2 hp3 => ?_) (fun d2 => ?_)
      · intro s1 e1 s2 e2
        subst e1
        subst e2
        refine ⟨fun z => absurd d2.1 (Int32.not_le.mpr z), fun _ => ⟨Or.inr rfl, ?_⟩⟩
        refine hs _ (p + 3) 5 (10 * (ch t n (p + 1) - 48) + (ch t n (p + 2) - 48)) 2 ?_ (((hR2.step hp3).put hr1 hr2).put hr1 hr2) (((hF2.place r5).slot (by decide)).slot (by decide)) ?_ ?_ (by simp [up2_app])
        · unfold pEn
          exact (if_pos q).trans ((if_pos d).trans (if_pos d2))
        · rw [up2_app, if_neg (by omega), up2_app, if_neg (by omega), up2_ne r5, up2_ne r5, up2_app, if_pos ⟨rfl, rfl⟩]
        · rw [up2_app, if_neg (by omega), up2_app, if_pos ⟨rfl, rfl⟩]
      · intro s1 e1 s2 e2
        subst e1
        subst e2
        refine ⟨fun _ => ⟨Or.inl rfl, ?_⟩, fun z => absurd (by decide) z⟩
        refine hf _ (p + 2) ?_ ((hR2.put hr1 hr2).put hr1 hr2) ((hF2.slot (by decide)).slot (by decide))
        unfold pEn
        exact (if_pos q).trans ((if_pos d).trans (if_neg d2))
    · refine hf _ (p + 1) ?_ hR hF
      unfold pEn
      exact (if_pos q).trans (if_neg d)
  · refine takes_ok hR0 (by decide) (fun q2 hp => ⟨fun z => absurd z (by decide), fun _ s e => e ▸ numd 0 2 4 hp (by decide) (fun d => ?_) (fun d => ?_)⟩) (fun q2 => ⟨fun _ => ?_, fun z => absurd rfl z⟩)
    · unfold pEn
      exact (if_neg q).trans ((if_pos q2).trans (if_pos d))
    · unfold pEn
      exact (if_neg q).trans ((if_pos q2).trans (if_neg d))
    refine takes_ok hR0 (by decide) (fun q3 hp => ⟨fun z => absurd z (by decide), fun _ s e => e ▸ numd 4 1 9 hp (by decide) (fun d => ?_) (fun d => ?_)⟩) (fun q3 => ⟨fun _ => ?_, fun z => absurd rfl z⟩)
    · unfold pEn
      exact (if_neg q).trans ((if_neg q2).trans ((if_pos q3).trans (if_pos d)))
    · unfold pEn
      exact (if_neg q).trans ((if_neg q2).trans ((if_pos q3).trans (if_neg d)))
    refine takes_ok hR0 (by decide) (fun q4 hp => ⟨fun z => absurd z (by decide), fun _ s e => e ▸ plain 1 hp (by unfold pEn; rw [if_neg q, if_neg q2, if_neg q3, if_pos q4])⟩) (fun q4 => ⟨fun _ => ?_, fun z => absurd rfl z⟩)
    refine takes_ok hR0 (by decide) (fun q5 hp => ⟨fun z => absurd z (by decide), fun _ s e => e ▸ plain 2 hp (by unfold pEn; rw [if_neg q, if_neg q2, if_neg q3, if_neg q4, if_pos q5])⟩) (fun q5 => ⟨fun _ => ?_, fun z => absurd rfl z⟩)
    refine takes_ok hR0 (by decide) (fun q6 hp => ⟨fun z => absurd z (by decide), fun _ s e => e ▸ plain 3 hp (by unfold pEn; rw [if_neg q, if_neg q2, if_neg q3, if_neg q4, if_neg q5, if_pos q6])⟩) (fun q6 => ⟨fun _ => ?_, fun z => absurd rfl z⟩)
    refine hf _ p ?_ hR0 hF0
    unfold pEn
    rw [if_neg q, if_neg q2, if_neg q3, if_neg q4, if_neg q5, if_neg q6]
