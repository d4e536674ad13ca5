theorem note_ok {o i : Nat} {G : GM} {ps : PS} {t : TL} {u : Nat → Int32} {σ : GSt} {Q : GSt → Prop} (ho : kd o = 8) (hV : PV G ps) (hE : PE ps) (hz : psS ps ≠ 0) (hP : PosC σ (o + 1) i ps) (ht : (σ o 4 = nI (tA t + tB t + tD t) ∧ σ o 1 = tM t ∧ σ o 5 = nI (tA t) ∧ σ o 6 = nI (tB t)) ∧ (σ o 7 = tS t ∧ σ o 8 = tK t ∧ σ o 9 = tL t)) (hu : ∀ k, k < 6 → σ (o + 3) k = u k) (he : ∀ k, k < 6 → σ (o + 4) k = tE t k) (hQ : ∀ σ' : GSt, TlC σ' o (noteT t ps u) → (∀ a, a ≠ o → a ≠ o + 4 → σ' a = σ a) → Q σ') : D_X8_note o σ Q := by
  have oK := kd8 ho
  have hw := hV.2.2.2.1
  have h3 := hV.2.2.1
  have w5 : σ (o + 1) 5 = if psW ps = 0 then 2 else nI (psW ps - 1) := by rw [hP.2.2.1]; unfold wC; rw [if_neg hz]
  -- the END
  have last : ∀ τ : GSt, (∀ a, a ≠ o → τ a = σ a) → τ o 4 = nI (tA (noteT t ps u) + tB (noteT t ps u) + tD (noteT t ps u)) → τ o 1 = tM (noteT t ps u) → τ o 5 = nI (tA (noteT t ps u)) → τ o 6 = nI (tB (noteT t ps u)) → τ o 7 = tS (noteT t ps u) → τ o 8 = tK (noteT t ps u) → τ o 9 = tL (noteT t ps u) → D_X8_note_133 Q o τ := by
    intro τ hf c4 c1 c5 c6 c7 c8 c9
    unfold D_X8_note_133
    rw [hf (o + 1) (by omega), hP.2.2.2]
    by_cases e1 : psS ps = 1
    · obtain ⟨k, k6, ek⟩ := hE.1 e1
      rw [ek, nI_clamp (show k < 2 ^ 31 by omega), hf (o + 4) (by omega), he k k6]
      have vk : vp_in (nI k) 6 := vp_in_nI k6 (by decide)
      refine ⟨fun q => absurd q (nI_pos (by omega)), fun _ => ⟨fun q => absurd q (nI_ge (b := 6) k6 (by decide)), fun _ => ⟨vk, vk, fun s e => ?_⟩⟩⟩
      have g : ∀ a, a ≠ o + 4 → s a = τ a := fun a ha => by rw [e, up2_ne ha]
      refine hQ s ⟨⟨?_, ?_, ?_, ?_⟩, ⟨?_, ?_, ?_⟩, fun j hj => ⟨?_, ?_⟩⟩ (fun a h1 h2 => by rw [g a h2, hf a h1])
      · rw [g o (by omega)]; exact c4
      · rw [g o (by omega)]; exact c1
      · rw [g o (by omega)]; exact c5
      · rw [g o (by omega)]; exact c6
      · rw [g o (by omega)]; exact c7
      · rw [g o (by omega)]; exact c8
      · rw [g o (by omega)]; exact c9
      · rw [g (o + 3) (by omega), hf (o + 3) (by omega)]; exact hu j hj
      · show s (o + 4) j = (if psS ps = 1 then upd (tE t) (psE ps).toNatClampNeg (tE t (psE ps).toNatClampNeg + 1) else tE t) j
        rw [if_pos e1, ek, nI_clamp (show k < 2 ^ 31 by omega), e, up2_app]
        unfold upd
        by_cases q : j = k
        · rw [if_pos ⟨rfl, q⟩, if_pos q]
        · rw [if_neg (by omega), if_neg q, hf (o + 4) (by omega)]
          exact he j hj
    · rw [hE.2 e1]
      refine ⟨fun _ => hQ τ ⟨⟨c4, c1, c5, c6⟩, ⟨c7, c8, c9⟩, fun j hj => ⟨?_, ?_⟩⟩ (fun a h1 _ => hf a h1), fun q => absurd (by decide) q⟩
      · rw [hf (o + 3) (by omega)]; exact hu j hj
      · show τ (o + 4) j = (if psS ps = 1 then upd (tE t) (psE ps).toNatClampNeg (tE t (psE ps).toNatClampNeg + 1) else tE t) j
        rw [if_neg e1, hf (o + 4) (by omega)]
        exact he j hj
  -- how it ended
  have mid : ∀ τ : GSt, (∀ a, a ≠ o → τ a = σ a) → τ o 4 = nI (tA (noteT t ps u) + tB (noteT t ps u) + tD (noteT t ps u)) → τ o 1 = tM (noteT t ps u) → τ o 5 = nI (tA (noteT t ps u)) → τ o 6 = nI (tB (noteT t ps u)) → τ o 7 = tS t → τ o 8 = tK t → τ o 9 = tL (noteT t ps u) → D_X8_note_88 Q o τ := by
    intro τ hf c4 c1 c5 c6 c7 c8 c9
    unfold D_X8_note_88
    rw [hf (o + 1) (by omega), hP.2.1, c7, c8]
    have e3 : nI (psS ps) = 3 ↔ psS ps = 3 := nI_eq (b := 3) (by omega) (by decide)
    have e2 : nI (psS ps) = 2 ↔ psS ps = 2 := nI_eq (b := 2) (by omega) (by decide)
    have vS : tS (noteT t ps u) = tS t + (if psS ps = 3 then 1 else 0) := rfl
    have vK : tK (noteT t ps u) = tK t + (if psS ps = 2 then 1 else 0) := rfl
    refine ⟨fun q => ⟨fun q2 => ?_, fun q2 s e => ?_⟩, fun q s e => ?_⟩
    · refine last τ hf c4 c1 c5 c6 ?_ ?_ c9
      · rw [vS, if_neg (fun y => q (e3.mpr y)), Int32.add_zero]; exact c7
      · rw [vK, if_neg (fun y => q2 (e2.mpr y)), Int32.add_zero]; exact c8
    · refine last s (fun a ha => by rw [e, up2_ne ha]; exact hf a ha) ?_ ?_ ?_ ?_ ?_ ?_ ?_
      · rw [e, up2_app, if_neg (by omega)]; exact c4
      · rw [e, up2_app, if_neg (by omega)]; exact c1
      · rw [e, up2_app, if_neg (by omega)]; exact c5
      · rw [e, up2_app, if_neg (by omega)]; exact c6
      · rw [vS, if_neg (fun y => q (e3.mpr y)), Int32.add_zero, e, up2_app, if_neg (by omega)]; exact c7
      · rw [vK, if_pos (e2.mp q2), e, up2_app, if_pos ⟨rfl, rfl⟩]
      · rw [e, up2_app, if_neg (by omega)]; exact c9
    · refine last s (fun a ha => by rw [e, up2_ne ha]; exact hf a ha) ?_ ?_ ?_ ?_ ?_ ?_ ?_
      · rw [e, up2_app, if_neg (by omega)]; exact c4
      · rw [e, up2_app, if_neg (by omega)]; exact c1
      · rw [e, up2_app, if_neg (by omega)]; exact c5
      · rw [e, up2_app, if_neg (by omega)]; exact c6
      · rw [vS, if_pos (e3.mp q), e, up2_app, if_pos ⟨rfl, rfl⟩]
      · rw [vK, if_neg (fun y => by have := e3.mp q; omega), Int32.add_zero, e, up2_app, if_neg (by omega)]; exact c8
      · rw [e, up2_app, if_neg (by omega)]; exact c9
  intro s1 e1 s2 e2 s3 e3
  obtain ⟨⟨a4, a1, a5, a6⟩, a7, a8, a9⟩ := ht
  rw [a4, nI_1] at e1
  have b1 : s1 o 1 = tM t := by rw [e1, up2_app, if_neg (by omega)]; exact a1
  have b3 : s1 (o + 1) 3 = nI (psD ps) := by rw [e1, up2_ne (by omega)]; exact hP.1.2.2.2.2.1
  rw [b1, b3] at e2
  have b9 : s2 o 9 = tL t := by rw [e2, up2_app, if_neg (by omega), e1, up2_app, if_neg (by omega)]; exact a9
  have b3' : s2 (o + 1) 3 = nI (psD ps) := by rw [e2, up2_ne (by omega)]; exact b3
  rw [b9, b3'] at e3
  have hf3 : ∀ a, a ≠ o → s3 a = σ a := fun a ha => by rw [e3, up2_ne ha, e2, up2_ne ha, e1, up2_ne ha]
  have d4 : s3 o 4 = nI (tA t + tB t + tD t + 1) := by rw [e3, up2_app, if_neg (by omega), e2, up2_app, if_neg (by omega), e1, up2_app, if_pos ⟨rfl, rfl⟩]
  have d1 : s3 o 1 = tM t + nI (psD ps) := by rw [e3, up2_app, if_neg (by omega), e2, up2_app, if_pos ⟨rfl, rfl⟩]
  have d9 : s3 o 9 = jmax (tL t) (nI (psD ps)) := by rw [e3, up2_app, if_pos ⟨rfl, rfl⟩]
  have dk : ∀ k, k ≠ 4 → k ≠ 1 → k ≠ 9 → s3 o k = σ o k := fun k h1 h2 h3 => by rw [e3, up2_app, if_neg (by omega), e2, up2_app, if_neg (by omega), e1, up2_app, if_neg (by omega)]
  have vA : tA (noteT t ps u) = tA t + (if psW ps = 1 then 1 else 0) := rfl
  have vB : tB (noteT t ps u) = tB t + (if psW ps = 2 then 1 else 0) := rfl
  have vD : tD (noteT t ps u) = tD t + (if psW ps = 0 then 1 else 0) := rfl
  have sum : tA (noteT t ps u) + tB (noteT t ps u) + tD (noteT t ps u) = tA t + tB t + tD t + 1 := by
    rw [vA, vB, vD]
    have : psW ps = 0 ∨ psW ps = 1 ∨ psW ps = 2 := by omega
    rcases this with h | h | h <;> rw [h] <;> simp <;> omega
  rw [← sum] at d4
  rw [hf3 (o + 1) (by omega), w5]
  have hw3 : psW ps = 0 ∨ psW ps = 1 ∨ psW ps = 2 := by omega
  rcases hw3 with h | h | h
  · rw [h] at vA vB ⊢
    refine ⟨fun _ => ⟨fun _ => mid s3 hf3 d4 d1 ?_ ?_ ?_ ?_ d9, fun q => absurd q (by decide)⟩, fun q => absurd q (by decide)⟩
    · rw [dk 5 (by decide) (by decide) (by decide), vA]; exact a5
    · rw [dk 6 (by decide) (by decide) (by decide), vB]; exact a6
    · rw [dk 7 (by decide) (by decide) (by decide)]; exact a7
    · rw [dk 8 (by decide) (by decide) (by decide)]; exact a8
  · rw [h] at vA vB ⊢
    refine ⟨fun q => absurd rfl q, fun _ s5 e5 => mid s5 (fun a ha => by rw [e5, up2_ne ha]; exact hf3 a ha) ?_ ?_ ?_ ?_ ?_ ?_ ?_⟩
    · rw [e5, up2_app, if_neg (by omega)]; exact d4
    · rw [e5, up2_app, if_neg (by omega)]; exact d1
    · rw [e5, up2_app, if_pos ⟨rfl, rfl⟩, dk 5 (by decide) (by decide) (by decide), a5, nI_1, vA]; rfl
    · rw [e5, up2_app, if_neg (by omega), dk 6 (by decide) (by decide) (by decide), vB]; exact a6
    · rw [e5, up2_app, if_neg (by omega), dk 7 (by decide) (by decide) (by decide)]; exact a7
    · rw [e5, up2_app, if_neg (by omega), dk 8 (by decide) (by decide) (by decide)]; exact a8
    · rw [e5, up2_app, if_neg (by omega)]; exact d9
  · rw [h] at vA vB ⊢
    refine ⟨fun _ => ⟨fun q => absurd rfl q, fun _ s5 e5 => mid s5 (fun a ha => by rw [e5, up2_ne ha]; exact hf3 a ha) ?_ ?_ ?_ ?_ ?_ ?_ ?_⟩, fun q => absurd q (by decide)⟩
    · rw [e5, up2_app, if_neg (by omega)]; exact d4
    · rw [e5, up2_app, if_neg (by omega)]; exact d1
    · rw [e5, up2_app, if_neg (by omega), dk 5 (by decide) (by decide) (by decide), vA]; exact a5
    · rw [e5, up2_app, if_pos ⟨rfl, rfl⟩, dk 6 (by decide) (by decide) (by decide), a6, nI_1, vB]; rfl
    · rw [e5, up2_app, if_neg (by omega), dk 7 (by decide) (by decide) (by decide)]; exact a7
    · rw [e5, up2_app, if_neg (by omega), dk 8 (by decide) (by decide) (by decide)]; exact a8
    · rw [e5, up2_app, if_neg (by omega)]; exact d9
theorem run_ok {o i a b n : Nat} {G : GM} {z : Int32} {σ : GSt} {Q : GSt → Prop} (hG : GOK G) (ho : kd o = 8) (hi : kd i = 1) (a3 : a ≤ 3) (b3 : b ≤ 3) (hn : n ≤ 20) (hB : ClB σ i G) (hQ : ∀ σ' : GSt, TlC σ' o (meas G a b z n) → (1 ≤ n → PosC σ' (o + 1) i (lastP G a b z (n - 1))) → CFr o σ σ' → Q σ') : D_X8_run o i (nI n) z (nI a) (nI b) σ Q := by
  have oK := kd8 ho
  have iK := kd1 hi
  intro s1 e1 s2 e2 s3 e3 s4 e4 s5 e5 s6 e6 s7 e7
  have hf7 : ∀ x, x ≠ o → s7 x = σ x := fun x hx => by rw [e7, up2_ne hx, e6, up2_ne hx, e5, up2_ne hx, e4, up2_ne hx, e3, up2_ne hx, e2, up2_ne hx, e1, up2_ne hx]
  have v7 : (s7 o 4 = 0 ∧ s7 o 1 = 0 ∧ s7 o 5 = 0 ∧ s7 o 6 = 0) ∧ (s7 o 7 = 0 ∧ s7 o 8 = 0 ∧ s7 o 9 = 0) := by
    rw [e7, e6, e5, e4, e3, e2, e1]
    simp [up2_app]
  refine ⟨7, ?_⟩
  have clr : ∀ (d k : Nat) (τ : GSt), k + d = 6 → (∀ x, x ≠ o + 3 → x ≠ o + 4 → τ x = s7 x) → (∀ j, j < k → τ (o + 3) j = 0 ∧ τ (o + 4) j = 0) → L_X8_clear_37 (fun σ_1 => ∃ m : Nat, L_X8_run_7 Q o m i (nI n) z (nI a) (nI b) 0 σ_1) o (d + 1) (nI k) τ := by
    intro d
    induction d with
    | zero =>
      intro k τ hk hf hz
      refine ⟨fun _ => ⟨n + 1, ?_⟩, fun q => absurd (nI_le (a := 6) (by omega) (by omega)) q⟩
      have key : ∀ (r j : Nat) (τ : GSt), j + r = n → TlC τ o (meas G a b z j) → (1 ≤ j → PosC τ (o + 1) i (lastP G a b z (j - 1))) → CFr o σ τ → L_X8_run_7 Q o (r + 1) i (nI n) z (nI a) (nI b) (nI j) τ := by
        intro r
        induction r with
        | zero =>
          intro j τ hj hT hP hF
          refine ⟨fun _ => ?_, fun q => absurd (nI_le (by omega) (by omega)) q⟩
          rw [show j = n by omega] at hT hP
          exact hQ τ hT hP hF
        | succ r ih =>
          intro j τ hj hT hP hF
          have Bt : ClB τ i G := hB.row hG (fun x h1 h2 => hF x (by omega) (by omega) (by omega) (by omega))
          refine ⟨fun q => absurd q (nI_ge (by omega) (by omega)), fun _ => ?_⟩
          refine playOut_ok (u := tU (meas G a b z j)) hG ho hi a3 b3 Bt (fun k hk => (hT.2.2 k hk).1) (fun s8 P8 u8 c1 c2 F8 => ?_)
          obtain ⟨hV, hE, hz⟩ := mPo_PV (a := a) (b := b) (z := z + nI j) (t := meas G a b z j) hG
          refine note_ok (t := meas G a b z j) (ps := (mPo G a b (z + nI j) (meas G a b z j)).1) (u := (mPo G a b (z + nI j) (meas G a b z j)).2) ho hV hE hz P8 (by rw [c1]; exact ⟨hT.1, hT.2.1⟩) u8 (fun k hk => by rw [c2]; exact (hT.2.2 k hk).2) (fun s9 T9 f9 x ex => ?_)
          rw [ex, nI_1 j]
          refine ih (j + 1) s9 (by omega) T9 (fun _ => P8.row (f9 _ (by omega) (by omega))) (fun x h1 h2 h3 h4 => ?_)
          rw [f9 x (by omega) (by omega), F8 x h1 h2 h3 h4]
          exact hF x h1 h2 h3 h4
      refine key n 0 τ (by omega) ⟨⟨?_, ?_, ?_, ?_⟩, ⟨?_, ?_, ?_⟩, fun j hj => hz j (by omega)⟩ (fun q => absurd q (by decide)) (fun x h1 h2 h3 h4 => by rw [hf x (by omega) (by omega)]; exact hf7 x (by omega))
      · rw [hf o (by omega) (by omega)]; exact v7.1.1
      · rw [hf o (by omega) (by omega)]; exact v7.1.2.1
      · rw [hf o (by omega) (by omega)]; exact v7.1.2.2.1
      · rw [hf o (by omega) (by omega)]; exact v7.1.2.2.2
      · rw [hf o (by omega) (by omega)]; exact v7.2.1
      · rw [hf o (by omega) (by omega)]; exact v7.2.2.1
      · rw [hf o (by omega) (by omega)]; exact v7.2.2.2
    | succ d ih =>
      intro k τ hk hf hz
      have vk : vp_in (nI k) 6 := vp_in_nI (by omega) (by decide)
      refine ⟨fun q => absurd q (nI_ge (b := 6) (by omega) (by decide)), fun _ => ⟨vk, fun t1 g1 => ⟨vk, fun t2 g2 x ex => ?_⟩⟩⟩
      rw [nI_clamp (by omega)] at g1 g2
      rw [ex, nI_1 k]
      refine ih (k + 1) t2 (by omega) (fun x h1 h2 => by rw [g2, up2_ne h2, g1, up2_ne h1]; exact hf x h1 h2) (fun j hj => ?_)
      by_cases q : j = k
      · subst q
        exact ⟨by rw [g2, up2_ne (by omega), g1]; simp [up2_app], by rw [g2]; simp [up2_app]⟩
      · exact ⟨by rw [g2, up2_ne (by omega), g1, up2_app, if_neg (by omega)]; exact (hz j (by omega)).1, by rw [g2, up2_app, if_neg (by omega), g1, up2_ne (by omega)]; exact (hz j (by omega)).2⟩
  exact clr 6 0 s7 rfl (fun _ _ _ => rfl) (fun j hj => absurd hj (Nat.not_lt_zero _))
