/-- the byte at a place of a text of n bytes; -1 behind its end -/
def ch (t : Nat → Int32) (n p : Nat) : Int32 := if p < n then t p else -1
theorem ch_lt {t : Nat → Int32} {n p : Nat} {c : Int32} (h : ch t n p = c) (hc : c ≠ -1) : p < n := by
  unfold ch at h
  rcases Nat.lt_or_ge p n with q | q
  · exact q
  · rw [if_neg (by omega)] at h
    exact absurd h.symm hc
/-- the reader (cell 5) stands at place p of the Text f, which holds n bytes t; it reads into the Game i -/
def Rd (f i n : Nat) (t : Nat → Int32) (p : Nat) (σ : GSt) : Prop := (σ 5 0 = nI f ∧ σ 5 1 = nI i ∧ σ 5 2 = nI p) ∧ (σ f 1 = nI n ∧ ∀ j, j < n → σ (f + 1) j = t j) ∧ (kd f = 9 ∧ kd i = 1 ∧ n ≤ 90 ∧ p ≤ n) ∧ (∀ a, i ≤ a → a < i + 22 → a ≠ f ∧ a ≠ f + 1 ∧ a ≠ 5)
theorem kd9_ne5 {f : Nat} (h : kd f = 9) : f ≠ 5 ∧ f + 1 ≠ 5 ∧ f < 300 := ⟨fun e => by subst e; revert h; decide +kernel, kd_all (P := fun f => f + 1 ≠ 5) (by decide) (by decide +kernel) h, by have := kd_lt h (by decide); omega⟩
theorem at_ok {o n p : Nat} {t : Nat → Int32} {σ : GSt} {Q : Int32 → GSt → Prop} (hl : σ o 1 = nI n) (hn : n ≤ 90) (hp : p ≤ 90) (ht : ∀ j, j < n → σ (o + 1) j = t j) (h : Q (ch t n p) σ) : D_X9_at o (nI p) σ Q := by
  refine ⟨fun q => absurd q (nI_pos (by omega)), fun _ => ⟨fun q => ?_, fun q => ⟨?_, ?_⟩⟩⟩
  · rw [hl] at q
    have : ¬ p < n := fun r => absurd q (nI_ge r (by omega))
    unfold ch at h
    rw [if_neg this] at h
    exact h
  · rw [hl] at q
    have : p < n := by
      rcases Nat.lt_or_ge p n with r | r
      · exact r
      · exact absurd (nI_le r (by omega)) q
    exact vp_in_nI (by omega) (by decide)
  · rw [hl] at q
    have hpn : p < n := by
      rcases Nat.lt_or_ge p n with r | r
      · exact r
      · exact absurd (nI_le r (by omega)) q
    rw [nI_clamp (by omega), ht p hpn]
    unfold ch at h
    rw [if_pos hpn] at h
    exact h
theorem Rd.step {f i n p : Nat} {t : Nat → Int32} {σ : GSt} (h : Rd f i n t p σ) (hp : p < n) : Rd f i n t (p + 1) (up2 σ 5 2 (nI (p + 1))) := by
  obtain ⟨⟨h1, h2, h3⟩, ⟨h4, h5⟩, ⟨h6, h7, h8, h9⟩, h10⟩ := h
  obtain ⟨n1, n2, -⟩ := kd9_ne5 h6
  refine ⟨⟨by simp [up2_app, h1], by simp [up2_app, h2], by simp [up2_app]⟩, ⟨by rw [up2_ne n1]; exact h4, fun j hj => by rw [up2_ne n2]; exact h5 j hj⟩, ⟨h6, h7, h8, hp⟩, h10⟩
/-- a write into the game's own cells -/
theorem Rd.put {f i n p : Nat} {t : Nat → Int32} {σ : GSt} (h : Rd f i n t p σ) {a j : Nat} {v : Int32} (h1 : i ≤ a) (h2 : a < i + 22) : Rd f i n t p (up2 σ a j v) := by
  obtain ⟨⟨k1, k2, k3⟩, ⟨k4, k5⟩, k6, k10⟩ := h
  obtain ⟨n1, n2, n3⟩ := k10 a h1 h2
  exact ⟨⟨by rw [up2_ne (Ne.symm n3)]; exact k1, by rw [up2_ne (Ne.symm n3)]; exact k2, by rw [up2_ne (Ne.symm n3)]; exact k3⟩, ⟨by rw [up2_ne (Ne.symm n1)]; exact k4, fun j hj => by rw [up2_ne (Ne.symm n2)]; exact k5 j hj⟩, k6, k10⟩
theorem Rd.ref {f i n p : Nat} {t : Nat → Int32} {σ : GSt} (h : Rd f i n t p σ) : (¬ σ 5 0 < 0 ∧ kd (σ 5 0).toNatClampNeg = 9) ∧ (σ 5 0).toNatClampNeg = f := by
  have hf := (kd9_ne5 h.2.2.1.1).2.2
  rw [h.1.1, nI_clamp (by omega)]
  exact ⟨⟨nI_pos (by omega), h.2.2.1.1⟩, rfl⟩
theorem Rd.gref {f i n p : Nat} {t : Nat → Int32} {σ : GSt} (h : Rd f i n t p σ) : (¬ σ 5 1 < 0 ∧ kd (σ 5 1).toNatClampNeg = 1) ∧ (σ 5 1).toNatClampNeg = i := by
  have hi := kd_lt h.2.2.1.2.1 (by decide)
  rw [h.1.2.1, nI_clamp (by omega)]
  exact ⟨⟨nI_pos (by omega), h.2.2.1.2.1⟩, rfl⟩
theorem takes_ok {f i n p : Nat} {t : Nat → Int32} {σ : GSt} {c : Int32} {Q : Int32 → GSt → Prop} (h : Rd f i n t p σ) (hc : c ≠ -1) (h1 : ch t n p = c → p < n → Q 1 (up2 σ 5 2 (nI (p + 1)))) (h0 : ¬ ch t n p = c → Q 0 σ) : D_X6_takes c σ Q := by
  unfold D_X6_takes D_X6_takes_0
  refine ⟨h.ref.1, ?_⟩
  rw [h.ref.2, h.1.2.2]
  refine at_ok h.2.1.1 h.2.2.1.2.2.1 (by have := h.2.2.1.2.2; omega) h.2.1.2 ?_
  refine ⟨fun q => ?_, fun q => ?_⟩
  · exact ⟨fun _ => ⟨Or.inl rfl, h0 q⟩, fun r => absurd rfl r⟩
  · refine ⟨fun r => absurd r (by decide), fun _ s1 e1 => ⟨Or.inr rfl, ?_⟩⟩
    subst e1
    rw [h.1.2.2, nI_1 p]
    exact h1 q (ch_lt q hc)
/-- a digit of lo .. hi at p: its value -/
def dg (t : Nat → Int32) (n p : Nat) (lo hi : Int32) : Prop := lo ≤ ch t n p - 48 ∧ ch t n p - 48 ≤ hi
theorem digit_ok {f i n p : Nat} {t : Nat → Int32} {σ : GSt} {lo hi : Int32} {Q : Int32 → GSt → Prop} (h : Rd f i n t p σ) (hlo : 0 ≤ lo) (h1 : dg t n p lo hi → p < n → Q (ch t n p - 48) (up2 σ 5 2 (nI (p + 1)))) (h0 : ¬ dg t n p lo hi → Q (-1) σ) : D_X6_digit lo hi σ Q := by
  unfold D_X6_digit D_X6_digit_0
  refine ⟨h.ref.1, ?_⟩
  rw [h.ref.2, h.1.2.2]
  refine at_ok h.2.1.1 h.2.2.1.2.2.1 (by have := h.2.2.1.2.2; omega) h.2.1.2 ?_
  intro x ex
  subst ex
  refine ⟨fun q => h0 (fun r => absurd q (Int32.not_lt.mpr r.1)), fun q => ⟨fun r => ?_, fun r => h0 (fun s => absurd s.2 r)⟩⟩
  intro s1 e1
  subst e1
  rw [h.1.2.2, nI_1 p]
  refine h1 ⟨i32_nlt q, r⟩ ?_
  rcases Nat.lt_or_ge p n with g | g
  · exact g
  · exfalso
    have e : ch t n p = -1 := if_neg (by omega)
    rw [e] at q
    have q2 := i32_nlt q
    have q3 := i32_le.mp hlo
    have q4 := i32_le.mp q2
    have e1 : ((-1 : Int32) - 48).toInt = -49 := rfl
    have e0 : (0 : Int32).toInt = 0 := rfl
    omega
/-- one MOVE at p: Sum.inl the place where it can't go on, or its end, kind and number -/
def pMove (t : Nat → Int32) (n p : Nat) : Nat ⊕ (Nat × Int32 × Int32) :=
  if ch t n p = 112 then (if 0 ≤ ch t n (p + 1) - 48 ∧ ch t n (p + 1) - 48 ≤ 9 then .inr (p + 2, 0, ch t n (p + 1) - 48) else .inl (p + 1))
  else if ch t n p = 115 ∨ ch t n p = 104 ∨ ch t n p = 116 ∨ ch t n p = 117 then
    (if ch t n (p + 1) = 111 then .inr (p + 2, (if ch t n p = 115 then 1 else if ch t n p = 104 then 2 else if ch t n p = 116 then 3 else 4), 1)
     else if ch t n (p + 1) = 100 then .inr (p + 2, (if ch t n p = 115 then 1 else if ch t n p = 104 then 2 else if ch t n p = 116 then 3 else 4), 2)
     else if ch t n (p + 1) = 113 then .inr (p + 2, (if ch t n p = 115 then 1 else if ch t n p = 104 then 2 else if ch t n p = 116 then 3 else 4), 3)
     else .inl (p + 1))
  else .inl p
/-- what reading a rule r leaves alone -/
def RF (r : Nat) (σ σ' : GSt) : Prop := (∀ a, a ≠ 5 → a ≠ r → σ' a = σ a) ∧ ∀ j, j ≠ 0 → j ≠ 1 → j ≠ 2 → σ' r j = σ r j
theorem RF.rf {r : Nat} {σ : GSt} : RF r σ σ := ⟨fun _ _ _ => rfl, fun _ _ _ _ => rfl⟩
theorem RF.place {r : Nat} {σ σ' : GSt} {v : Int32} (h : RF r σ σ') (hr : r ≠ 5) : RF r σ (up2 σ' 5 2 v) := ⟨fun a h1 h2 => (up2_ne h1).trans (h.1 a h1 h2), fun j h0 h1 h2 => by rw [up2_ne hr]; exact h.2 j h0 h1 h2⟩
theorem RF.slot {r : Nat} {σ σ' : GSt} {k : Nat} {v : Int32} (h : RF r σ σ') (hk : k < 3) : RF r σ (up2 σ' r k v) := ⟨fun a h1 h2 => (up2_ne h2).trans (h.1 a h1 h2), fun j h0 h1 h2 => by rw [up2_app, if_neg (by omega)]; exact h.2 j h0 h1 h2⟩
