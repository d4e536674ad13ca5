theorem rm149_ok {r : Nat} {v : Int32} {σ : GSt} {Q : Int32 → GSt → Prop} (h0 : v = 0 → Q 0 (up2 σ r 1 v)) (h1 : ¬ v = 0 → Q 1 (up2 σ r 1 v)) : D_X6_readMove_149 Q r r v σ := by
  intro s e
  subst e
  have e2 : up2 σ r 1 v r 1 = v := by simp [up2_app]
  rw [e2]
  exact ⟨h0, h1⟩
/-- the direction of a MOVE -/
def pDir (t : Nat → Int32) (n p : Nat) : Int32 := if ch t n p = 111 then 1 else if ch t n p = 100 then 2 else if ch t n p = 113 then 3 else 0
theorem rm108_ok {f i n p r : Nat} {t : Nat → Int32} {σ : GSt} {Q : Int32 → GSt → Prop} (h : Rd f i n t p σ) (hs : ¬ pDir t n p = 0 → p < n → Q 1 (up2 (up2 σ 5 2 (nI (p + 1))) r 1 (pDir t n p))) (hf : pDir t n p = 0 → Q 0 (up2 σ r 1 0)) : D_X6_readMove_108 Q r σ := by
  refine takes_ok h (by decide) (fun q hp => ⟨fun z => absurd z (by decide), fun _ => rm149_ok (fun z => absurd z (by decide)) (fun _ => ?_)⟩) (fun q => ⟨fun _ => ?_, fun z => absurd rfl z⟩)
  · have e : pDir t n p = 1 := by unfold pDir; rw [if_pos q]
    rw [e] at hs
    exact hs (by decide) hp
  · refine takes_ok h (by decide) (fun q2 hp => ⟨fun z => absurd z (by decide), fun _ => rm149_ok (fun z => absurd z (by decide)) (fun _ => ?_)⟩) (fun q2 => ⟨fun _ => ?_, fun z => absurd rfl z⟩)
    · have e : pDir t n p = 2 := by unfold pDir; rw [if_neg q, if_pos q2]
      rw [e] at hs
      exact hs (by decide) hp
    · refine takes_ok h (by decide) (fun q3 hp => ⟨fun z => absurd z (by decide), fun _ => rm149_ok (fun z => absurd z (by decide)) (fun _ => ?_)⟩) (fun q3 => ⟨fun _ => rm149_ok (fun _ => ?_) (fun z => absurd rfl z), fun z => absurd rfl z⟩)
      · have e : pDir t n p = 3 := by unfold pDir; rw [if_neg q, if_neg q2, if_pos q3]
        rw [e] at hs
        exact hs (by decide) hp
      · exact hf (by unfold pDir; rw [if_neg q, if_neg q2, if_neg q3])
/-- the kind of a MOVE that is no PUT; 0: none of them -/
def pKind (t : Nat → Int32) (n p : Nat) : Int32 := if ch t n p = 115 then 1 else if ch t n p = 104 then 2 else if ch t n p = 116 then 3 else if ch t n p = 117 then 4 else 0
/-- one MOVE at p: the place where it can't go on, or its end, kind and number -/
def pMv (t : Nat → Int32) (n p : Nat) : Nat ⊕ (Nat × Int32 × Int32) :=
  if ch t n p = 112 then (if 0 ≤ ch t n (p + 1) - 48 ∧ ch t n (p + 1) - 48 ≤ 9 then .inr (p + 2, 0, ch t n (p + 1) - 48) else .inl (p + 1))
  else if pKind t n p = 0 then .inl p else if pDir t n (p + 1) = 0 then .inl (p + 1) else .inr (p + 2, pKind t n p, pDir t n (p + 1))
theorem readMove_ok {f i n p r : Nat} {t : Nat → Int32} {σ : GSt} {Q : Int32 → GSt → Prop} (h : Rd f i n t p σ) (hr1 : i ≤ r) (hr2 : r < i + 22) (hs : ∀ (σ' : GSt) (q : Nat) (kind num : Int32), pMv t n p = .inr (q, kind, num) → Rd f i n t q σ' → RF r σ σ' → σ' r 0 = kind → σ' r 1 = num → Q 1 σ') (hf : ∀ (σ' : GSt) (q : Nat), pMv t n p = .inl q → Rd f i n t q σ' → RF r σ σ' → Q 0 σ') : D_X6_readMove r σ Q := by
  have r5 : r ≠ 5 := (h.2.2.2 r hr1 hr2).2.2
  have dir : ∀ k : Int32, pKind t n p = k → ¬ k = 0 → ¬ ch t n p = 112 → p < n → D_X6_readMove_108 Q r (up2 (up2 σ 5 2 (nI (p + 1))) r 0 k) := by
    intro k ek k0 h112 hp
    have hR := (h.step hp).put (j := 0) (v := k) hr1 hr2
    have hF : RF r σ (up2 (up2 σ 5 2 (nI (p + 1))) r 0 k) := (RF.rf.place r5).slot (by decide)
    refine rm108_ok hR (fun d hp2 => ?_) (fun d => ?_)
    · refine hs _ (p + 2) k (pDir t n (p + 1)) ?_ ((hR.step hp2).put hr1 hr2) ((hF.place r5).slot (by decide)) ?_ (by simp [up2_app])
      · unfold pMv
        rw [if_neg h112, ek, if_neg k0, if_neg d]
      · rw [up2_app, if_neg (by omega), up2_ne r5, up2_app, if_pos ⟨rfl, rfl⟩]
    · refine hf _ (p + 1) ?_ (hR.put hr1 hr2) (hF.slot (by decide))
      unfold pMv
      rw [if_neg h112, ek, if_neg k0, if_pos d]
  refine takes_ok h (by decide) (fun q hp => ⟨fun z => absurd z (by decide), fun _ => ?_⟩) (fun q => ⟨fun _ => ?_, fun z => absurd rfl z⟩)
  · intro s1 e1
    subst e1
    have hR := (h.step hp).put (j := 0) (v := 0) hr1 hr2
    have hF : RF r σ (up2 (up2 σ 5 2 (nI (p + 1))) r 0 0) := (RF.rf.place r5).slot (by decide)
    refine digit_ok hR (by decide) (fun d hp2 => ?_) (fun d => ?_)
    · intro s2 e2
      subst e2
      have e3 : up2 (up2 (up2 (up2 σ 5 2 (nI (p + 1))) r 0 0) 5 2 (nI (p + 1 + 1))) r 1 (ch t n (p + 1) - 48) r 1 = ch t n (p + 1) - 48 := by simp [up2_app]
      rw [e3]
      refine ⟨fun z => absurd z (Int32.not_lt.mpr d.1), fun _ => ?_⟩
      refine hs _ (p + 2) 0 (ch t n (p + 1) - 48) ?_ ((hR.step hp2).put hr1 hr2) ((hF.place r5).slot (by decide)) ?_ e3
      · unfold pMv
        exact (if_pos q).trans (if_pos d)
      · rw [up2_app, if_neg (by omega), up2_ne r5, up2_app, if_pos ⟨rfl, rfl⟩]
    · intro s2 e2
      subst e2
      have e3 : up2 (up2 (up2 σ 5 2 (nI (p + 1))) r 0 0) r 1 (-1) r 1 = -1 := by simp [up2_app]
      rw [e3]
      refine ⟨fun _ => ?_, fun z => absurd (by decide) z⟩
      refine hf _ (p + 1) ?_ (hR.put hr1 hr2) (hF.slot (by decide))
      unfold pMv
      exact (if_pos q).trans (if_neg d)
  · refine takes_ok h (by decide) (fun q2 hp => ⟨fun z => absurd z (by decide), fun _ s1 e1 => e1 ▸ dir 1 (by unfold pKind; rw [if_pos q2]) (by decide) q hp⟩) (fun q2 => ⟨fun _ => ?_, fun z => absurd rfl z⟩)
    refine takes_ok h (by decide) (fun q3 hp => ⟨fun z => absurd z (by decide), fun _ s1 e1 => e1 ▸ dir 2 (by unfold pKind; rw [if_neg q2, if_pos q3]) (by decide) q hp⟩) (fun q3 => ⟨fun _ => ?_, fun z => absurd rfl z⟩)
    refine takes_ok h (by decide) (fun q4 hp => ⟨fun z => absurd z (by decide), fun _ s1 e1 => e1 ▸ dir 3 (by unfold pKind; rw [if_neg q2, if_neg q3, if_pos q4]) (by decide) q hp⟩) (fun q4 => ⟨fun _ => ?_, fun z => absurd rfl z⟩)
    refine takes_ok h (by decide) (fun q5 hp => ⟨fun z => absurd z (by decide), fun _ s1 e1 => e1 ▸ dir 4 (by unfold pKind; rw [if_neg q2, if_neg q3, if_neg q4, if_pos q5]) (by decide) q hp⟩) (fun q5 => ⟨fun _ => ?_, fun z => absurd rfl z⟩)
    refine hf _ p ?_ h RF.rf
    unfold pMv
    rw [if_neg q, if_pos (by unfold pKind; rw [if_neg q2, if_neg q3, if_neg q4, if_neg q5])]
