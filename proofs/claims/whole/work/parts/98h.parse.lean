theorem pMv_ok {t : Nat → Int32} {n p q : Nat} {kind num : Int32} (h : pMv t n p = .inr (q, kind, num)) : q = p + 2 ∧ RuOK kind num ∧ p + 1 < n := by
  unfold pMv at h
  split at h
  · split at h
    · rename_i h1 h2
      simp only [Sum.inr.injEq, Prod.mk.injEq] at h
      obtain ⟨m, m0, m9, em⟩ := dg_nat (lo := 0) (hi := 9) (by decide) (show dg t n (p + 1) (nI 0) (nI 9) from h2) (by decide)
      refine ⟨h.1.symm, Or.inl ⟨h.2.1.symm, m, m9, ?_⟩, ?_⟩
      · rw [← h.2.2]; exact em
      · rcases Nat.lt_or_ge (p + 1) n with z | z
        · exact z
        · exfalso
          have e : ch t n (p + 1) = -1 := if_neg (by omega)
          rw [e] at h2
          exact absurd h2.1 (by decide)
    · exact absurd h (by simp)
  · split at h
    · exact absurd h (by simp)
    · split at h
      · exact absurd h (by simp)
      · rename_i h1 h2 h3
        simp only [Sum.inr.injEq, Prod.mk.injEq] at h
        refine ⟨h.1.symm, Or.inr ⟨?_, ?_⟩, ?_⟩
        · rw [← h.2.1]
          unfold pKind at h2 ⊢
          split
          · exact Or.inl rfl
          · split
            · exact Or.inr (Or.inl rfl)
            · split
              · exact Or.inr (Or.inr (Or.inl rfl))
              · split
                · exact Or.inr (Or.inr (Or.inr rfl))
                · rename_i q1 q2 q3 q4
                  rw [if_neg q1, if_neg q2, if_neg q3, if_neg q4] at h2
                  exact absurd rfl h2
        · rw [← h.2.2]
          unfold pDir at h3 ⊢
          split
          · exact ⟨1, by decide, rfl⟩
          · split
            · exact ⟨2, by decide, rfl⟩
            · split
              · exact ⟨3, by decide, rfl⟩
              · rename_i q1 q2 q3
                rw [if_neg q1, if_neg q2, if_neg q3] at h3
                exact absurd rfl h3
        · rcases Nat.lt_or_ge (p + 1) n with z | z
          · exact z
          · exfalso
            have e : ch t n (p + 1) = -1 := if_neg (by omega)
            unfold pDir at h3
            rw [e] at h3
            exact h3 (by decide)
/-- rules that stand one behind another from p on, "," between them, c behind the last, which ends at z - 1 -/
def Chn (t : Nat → Int32) (n : Nat) (c : Int32) : List RuT → Nat → Nat → Prop
  | [], _, _ => False
  | [e], p, z => e.1 = p ∧ p < e.2.1 ∧ e.2.1 ≤ p + 3 ∧ e.2.1 < n ∧ t e.2.1 = c ∧ z = e.2.1 + 1
  | e :: e' :: l, p, z => e.1 = p ∧ p < e.2.1 ∧ e.2.1 ≤ p + 3 ∧ e.2.1 < n ∧ t e.2.1 = 44 ∧ Chn t n c (e' :: l) (e.2.1 + 1) z
theorem ch_at {t : Nat → Int32} {n p : Nat} {c : Int32} (h : ch t n p = c) (hc : c ≠ -1) : p < n ∧ t p = c := by
  have hp := ch_lt h hc
  unfold ch at h
  rw [if_pos hp] at h
  exact ⟨hp, h⟩
theorem pMvs_ok {t : Nat → Int32} {n : Nat} : ∀ (r p z : Nat) (l : List RuT), pMvs t n r p = .inr (z, l) → MusOK l ∧ Chn t n 59 l p z := by
  intro r
  induction r with
  | zero => intro p z l h; simp [pMvs] at h
  | succ r ih =>
    intro p z l h
    simp only [pMvs] at h
    cases hm : pMv t n p with
    | inl q => rw [hm] at h; simp at h
    | inr x =>
      obtain ⟨q, kind, num⟩ := x
      obtain ⟨eq, hR, -⟩ := pMv_ok hm
      rw [hm] at h
      simp only at h
      have hq2 : (if ch t n q = 33 then q + 1 else q) = q ∨ (if ch t n q = 33 then q + 1 else q) = q + 1 := by split <;> simp
      have hmu : (if ch t n q = 33 then (1 : Int32) else 0) = 0 ∨ (if ch t n q = 33 then (1 : Int32) else 0) = 1 := by split <;> simp
      generalize (if ch t n q = 33 then q + 1 else q) = q2 at h hq2
      generalize (if ch t n q = 33 then (1 : Int32) else 0) = mu at h hmu
      split at h
      · rename_i hc
        obtain ⟨hl, hv⟩ := ch_at hc (by decide)
        simp only [Sum.inr.injEq, Prod.mk.injEq] at h
        rw [← h.1, ← h.2]
        refine ⟨fun e he => ?_, rfl, by simp only; omega, by simp only; omega, hl, hv, rfl⟩
        rw [List.mem_singleton.mp he]
        exact ⟨hR, hmu⟩
      · split at h
        · rename_i hc
          obtain ⟨hl, hv⟩ := ch_at hc (by decide)
          cases hz : pMvs t n r (q2 + 1) with
          | inl y => rw [hz] at h; simp at h
          | inr y =>
            obtain ⟨z', l'⟩ := y
            rw [hz] at h
            simp only [Sum.inr.injEq, Prod.mk.injEq] at h
            obtain ⟨h1, h2⟩ := ih _ _ _ hz
            rw [← h.1, ← h.2]
            cases l' with
            | nil => exact absurd h2 (by simp [Chn])
            | cons e' l'' =>
              refine ⟨fun e he => ?_, rfl, by simp only; omega, by simp only; omega, hl, hv, h2⟩
              rcases List.mem_cons.mp he with he | he
              · rw [he]; exact ⟨hR, hmu⟩
              · exact h1 e he
        · exact absurd h (by simp)
theorem pRest_ok {t : Nat → Int32} {n p q : Nat} {k0 n0 kind num out : Int32} (h : pRest t n p k0 n0 = .inr (q, kind, num, out)) : q = p + 1 ∧ kind = k0 ∧ num = n0 ∧ (out = 0 ∨ out = 1 ∨ out = 2) := by
  unfold pRest at h
  split at h
  · exact absurd h (by simp)
  · rename_i hn
    simp only [Sum.inr.injEq, Prod.mk.injEq] at h
    refine ⟨h.1.symm, h.2.1.symm, h.2.2.1.symm, ?_⟩
    rw [← h.2.2.2]
    rcases pOut_cases t n p with ⟨-, o⟩ | ⟨-, -, o⟩ | ⟨-, -, -, o⟩ | ⟨-, -, -, o⟩
    · exact Or.inl o
    · exact Or.inr (Or.inl o)
    · exact Or.inr (Or.inr o)
    · rw [o] at hn; exact absurd (by decide) hn
theorem pEn_ok {t : Nat → Int32} {n p q : Nat} {kind num out : Int32} (h : pEn t n p = .inr (q, kind, num, out)) : p < q ∧ q ≤ p + 3 ∧ EnOK kind num out := by
  unfold pEn at h
  split at h
  · split at h
    · rename_i h1 h2
      split at h
      · rename_i h3
        simp only [Sum.inr.injEq, Prod.mk.injEq] at h
        obtain ⟨a, -, a9, ea⟩ := dg_nat (lo := 0) (hi := 9) (by decide) (show dg t n (p + 1) (nI 0) (nI 9) from h2) (by decide)
        obtain ⟨b, -, b9, eb⟩ := dg_nat (lo := 0) (hi := 9) (by decide) (show dg t n (p + 2) (nI 0) (nI 9) from h3) (by decide)
        refine ⟨by omega, by omega, Or.inr (Or.inr (Or.inr (Or.inr (Or.inr ⟨h.2.1.symm, 10 * a + b, by omega, ?_⟩)))), Or.inr (Or.inr h.2.2.2.symm)⟩
        rw [← h.2.2.1, ea, eb, show (10 : Int32) = nI 10 from rfl, pk_mul, nI_add]
      · exact absurd h (by simp)
    · exact absurd h (by simp)
  · split at h
    · split at h
      · rename_i h2
        obtain ⟨a, b, c, d⟩ := pRest_ok h
        obtain ⟨m, m2, m4, em⟩ := dg_nat (lo := 2) (hi := 4) (by decide) (show dg t n (p + 1) (nI 2) (nI 4) from h2) (by decide)
        exact ⟨by omega, by omega, Or.inl ⟨b, m, m2, m4, c.trans em⟩, d⟩
      · exact absurd h (by simp)
    · split at h
      · split at h
        · rename_i h2
          obtain ⟨a, b, c, d⟩ := pRest_ok h
          obtain ⟨m, -, m9, em⟩ := dg_nat (lo := 1) (hi := 9) (by decide) (show dg t n (p + 1) (nI 1) (nI 9) from h2) (by decide)
          exact ⟨by omega, by omega, Or.inr (Or.inr (Or.inr (Or.inr (Or.inl ⟨b, m, m9, c.trans em⟩)))), d⟩
        · exact absurd h (by simp)
      · split at h
        · obtain ⟨a, b, c, d⟩ := pRest_ok h
          exact ⟨by omega, by omega, Or.inr (Or.inl b), d⟩
        · split at h
          · obtain ⟨a, b, c, d⟩ := pRest_ok h
            exact ⟨by omega, by omega, Or.inr (Or.inr (Or.inl b)), d⟩
          · split at h
            · obtain ⟨a, b, c, d⟩ := pRest_ok h
              exact ⟨by omega, by omega, Or.inr (Or.inr (Or.inr (Or.inl b))), d⟩
            · exact absurd h (by simp)
theorem pEns_ok {t : Nat → Int32} {n : Nat} : ∀ (r p z : Nat) (l : List RuT), pEns t n r p = .inr (z, l) → EnsOK l ∧ Chn t n 46 l p z := by
  intro r
  induction r with
  | zero => intro p z l h; simp [pEns] at h
  | succ r ih =>
    intro p z l h
    simp only [pEns] at h
    cases hm : pEn t n p with
    | inl q => rw [hm] at h; simp at h
    | inr x =>
      obtain ⟨q, kind, num, out⟩ := x
      obtain ⟨q1, q2, hE⟩ := pEn_ok hm
      rw [hm] at h
      simp only at h
      split at h
      · rename_i hc
        obtain ⟨hl, hv⟩ := ch_at hc (by decide)
        simp only [Sum.inr.injEq, Prod.mk.injEq] at h
        rw [← h.1, ← h.2]
        refine ⟨fun e he => ?_, rfl, q1, q2, hl, hv, rfl⟩
        rw [List.mem_singleton.mp he]
        exact hE
      · split at h
        · rename_i hc
          obtain ⟨hl, hv⟩ := ch_at hc (by decide)
          cases hz : pEns t n r (q + 1) with
          | inl y => rw [hz] at h; simp at h
          | inr y =>
            obtain ⟨z', l'⟩ := y
            rw [hz] at h
            simp only [Sum.inr.injEq, Prod.mk.injEq] at h
            obtain ⟨h1, h2⟩ := ih _ _ _ hz
            rw [← h.1, ← h.2]
            cases l' with
            | nil => exact absurd h2 (by simp [Chn])
            | cons e' l'' =>
              refine ⟨fun e he => ?_, rfl, q1, q2, hl, hv, h2⟩
              rcases List.mem_cons.mp he with he | he
              · rw [he]; exact hE
              · exact h1 e he
        · exact absurd h (by simp)
theorem Chn_len {t : Nat → Int32} {n : Nat} {c : Int32} : ∀ (l : List RuT) (p z : Nat), Chn t n c l p z → p + 1 < z ∧ z ≤ p + 4 * l.length ∧ z ≤ n
  | [], _, _, h => absurd h (by simp [Chn])
  | [e], p, z, h => by
    obtain ⟨h1, h2, h3, h4, h5, h6⟩ := h
    simp only [List.length_cons, List.length_nil]
    omega
  | e :: e' :: l, p, z, h => by
    obtain ⟨h1, h2, h3, h4, h5, h6⟩ := h
    have := Chn_len (e' :: l) (e.2.1 + 1) z h6
    simp only [List.length_cons] at *
    omega
theorem pBgs_ok {t : Nat → Int32} {n : Nat} : ∀ (d c p : Nat) (a b : Int32) (z : Nat) (a' b' : Int32), c + d ≤ 16 → (∀ j, j < 32 → c ≤ j → bt a j = false ∧ bt b j = false) → (∀ j, bt a j = true → bt b j = false) → pBgs t n d c p a b = .inr (z, a', b') → (∀ j, j < 32 → c + d ≤ j → bt a' j = false ∧ bt b' j = false) ∧ (∀ j, bt a' j = true → bt b' j = false) ∧ z = p + d + 1 ∧ z ≤ n
  | 0, c, p, a, b, z, a', b', hc, h1, h2, h => by
    unfold pBgs at h
    split at h
    · rename_i hc
      have := ch_lt hc (by decide)
      simp only [Sum.inr.injEq, Prod.mk.injEq] at h
      rw [← h.2.1, ← h.2.2]
      exact ⟨fun j hj hc => h1 j hj (by omega), h2, by omega, by omega⟩
    · exact absurd h (by simp)
  | d + 1, c, p, a, b, z, a', b', hc, h1, h2, h => by
    have hb1 : ∀ j, j < 32 → bt (jshl 1 (nI c)) j = decide (j = c) := fun j hj => bt_sh1 (by omega) hj
    unfold pBgs at h
    split at h
    · obtain ⟨r1, r2, r3, r4⟩ := pBgs_ok d (c + 1) (p + 1) _ b z a' b' (by omega) (fun j hj hcj => by
        rw [bt_or, hb1 j hj, (h1 j hj (by omega)).1, (h1 j hj (by omega)).2]
        simp
        omega) (fun j hj => by
        rcases Nat.lt_or_ge j 32 with z | z
        · rw [bt_or, hb1 j z, Bool.or_eq_true, decide_eq_true_eq] at hj
          rcases hj with hj | hj
          · exact h2 j hj
          · rw [hj]; exact (h1 c (by omega) (Nat.le_refl _)).2
        · exact bt_hi z) h
      exact ⟨fun j hj hc => r1 j hj (by omega), r2, by omega, r4⟩
    · split at h
      · obtain ⟨r1, r2, r3, r4⟩ := pBgs_ok d (c + 1) (p + 1) a _ z a' b' (by omega) (fun j hj hcj => by
          rw [bt_or, hb1 j hj, (h1 j hj (by omega)).1, (h1 j hj (by omega)).2]
          simp
          omega) (fun j hj => by
          rcases Nat.lt_or_ge j 32 with z | z
          · rw [bt_or, hb1 j z, h2 j hj, Bool.false_or]
            apply decide_eq_false
            intro e
            rw [e, (h1 c (by omega) (Nat.le_refl _)).1] at hj
            exact absurd hj (by decide)
          · exact bt_hi z) h
        exact ⟨fun j hj hc => r1 j hj (by omega), r2, by omega, r4⟩
      · split at h
        · obtain ⟨r1, r2, r3, r4⟩ := pBgs_ok d (c + 1) (p + 1) a b z a' b' (by omega) (fun j hj hcj => h1 j hj (by omega)) h2 h
          exact ⟨fun j hj hc => r1 j hj (by omega), r2, by omega, r4⟩
        · exact absurd h (by simp)
/-- what a text without a FAULT gives -/
theorem pAll_ok {t : Nat → Int32} {n : Nat} {G : GM} (h : pAll t n = .inr G) : GOK G ∧ Chn t n 59 (gMv G) (gMF G) (gEF G) ∧ Chn t n 46 (gEn G) (gEF G) n ∧ 4 ≤ gMF G ∧ gMF G ≤ 22 ∧ pBd t n = .inr (gW G, gH G) ∧ pBg t n (gW G * gH G) 4 = .inr (gMF G, gA G, gB G) ∧ pMvs t n 6 (gMF G) = .inr (gEF G, gMv G) ∧ pEns t n 6 (gEF G) = .inr (n, gEn G) := by
  unfold pAll at h
  cases hb : pBd t n with
  | inl z => rw [hb] at h; simp at h
  | inr x =>
    obtain ⟨w, y⟩ := x
    rw [hb] at h
    simp only at h
    have hwy : (2 ≤ w ∧ w ≤ 4) ∧ (2 ≤ y ∧ y ≤ 4) := by
      unfold pBd at hb
      split at hb
      · split at hb
        · rename_i d1
          split at hb
          · rename_i d2
            split at hb
            · obtain ⟨a, a2, a4, ea⟩ := dg_nat (lo := 2) (hi := 4) (by decide) (show dg t n 1 (nI 2) (nI 4) from d1) (by decide)
              obtain ⟨b, b2, b4, eb⟩ := dg_nat (lo := 2) (hi := 4) (by decide) (show dg t n 2 (nI 2) (nI 4) from d2) (by decide)
              simp only [Sum.inr.injEq, Prod.mk.injEq] at hb
              rw [ea, eb, nI_clamp (by omega), nI_clamp (by omega)] at hb
              omega
            · exact absurd hb (by simp)
          · exact absurd hb (by simp)
        · exact absurd hb (by simp)
      · exact absurd hb (by simp)
    obtain ⟨⟨w2, w4⟩, y2, y4⟩ := hwy
    have h16 : w * y ≤ 16 := Nat.mul_le_mul w4 y4
    cases hg : pBg t n (w * y) 4 with
    | inl z => rw [hg] at h; simp at h
    | inr x =>
      obtain ⟨p1, a, b⟩ := x
      rw [hg] at h
      simp only at h
      cases hm : pMvs t n 6 p1 with
      | inl z => rw [hm] at h; simp at h
      | inr x =>
        obtain ⟨p2, mv⟩ := x
        rw [hm] at h
        simp only at h
        cases he : pEns t n 6 p2 with
        | inl z => rw [he] at h; simp at h
        | inr x =>
          obtain ⟨p3, en⟩ := x
          rw [he] at h
          simp only at h
          split at h
          · rename_i e3
            have eG := Sum.inr.inj h
            rw [← eG]
            obtain ⟨m1, m2⟩ := pMvs_ok _ _ _ _ hm
            obtain ⟨n1, n2⟩ := pEns_ok _ _ _ _ he
            have lm := pMvs_len _ _ _ _ hm
            have le := pEns_len _ _ _ _ he
            have bg : (∀ j, j < 32 → w * y ≤ j → bt a j = false ∧ bt b j = false) ∧ (∀ j, bt a j = true → bt b j = false) ∧ 4 ≤ p1 ∧ p1 ≤ 22 := by
              unfold pBg at hg
              split at hg
              · obtain ⟨r1, r2, r3, r4⟩ := pBgs_ok (w * y) 0 5 0 0 p1 a b (by omega) (fun j _ _ => ⟨bt_0 j, bt_0 j⟩) (fun j hj => by rw [bt_0] at hj; exact absurd hj (by decide)) hg
                exact ⟨fun j hj hc => r1 j hj (by omega), r2, by omega, by omega⟩
              · simp only [Sum.inr.injEq, Prod.mk.injEq] at hg
                rw [← hg.2.1, ← hg.2.2, ← hg.1]
                exact ⟨fun j _ _ => ⟨bt_0 j, bt_0 j⟩, fun j hj => by rw [bt_0] at hj; exact absurd hj (by decide), by decide, by decide⟩
            obtain ⟨g1, g2, g3, g4⟩ := bg
            rw [e3] at he n2
            refine ⟨⟨⟨w2, w4, y2, y4⟩, ⟨lm.1, lm.2, m1⟩, ⟨le.1, le.2, n1⟩, ?_, ?_, ?_⟩, m2, n2, g3, g4, rfl, hg, hm, he⟩
            · intro c
              refine ⟨?_, fun hc => ?_⟩
              · show (if bt a c then 1 else if bt b c then 2 else 0) ≤ 2
                split
                · decide
                · split <;> decide
              · show (if bt a c then 1 else if bt b c then 2 else 0) = 0
                have hc' : w * y ≤ c := hc
                rcases Nat.lt_or_ge c 32 with z | z
                · rw [(g1 c z hc').1, (g1 c z hc').2]; rfl
                · rw [bt_hi z, bt_hi z]; rfl
            · refine mask_of (fun c hc => ?_) (fun c hc hc2 => (g1 c hc2 (by omega)).1)
              rw [Bool.eq_iff_iff]
              unfold pc
              rw [decide_eq_true_eq]
              show bt a c = true ↔ (if bt a c then 1 else if bt b c then 2 else 0) = 1
              by_cases ha : bt a c = true
              · simp [ha]
              · by_cases hb2 : bt b c = true <;> simp [ha, hb2]
            · refine mask_of (fun c hc => ?_) (fun c hc hc2 => (g1 c hc2 (by omega)).2)
              have := g2 c
              rw [Bool.eq_iff_iff]
              unfold pc
              rw [decide_eq_true_eq]
              show bt b c = true ↔ (if bt a c then 1 else if bt b c then 2 else 0) = 2
              by_cases ha : bt a c = true
              · simp [ha, this ha]
              · by_cases hb2 : bt b c = true <;> simp [ha, hb2]
          · exact absurd h (by simp)
