theorem jmax_le {x y : Int32} : (if y ≤ x then x else y) = jmax x y := by
  unfold jmax
  by_cases h : y ≤ x
  · rw [if_pos h, if_neg (Int32.not_lt.mpr h)]
  · rw [if_neg h, if_pos (i32_nle h)]
theorem br2 {c : Prop} [Decidable c] {x y : Int32} {f : Int32 → Prop} (h : f (if c then x else y)) : (c → f x) ∧ (¬ c → f y) := ⟨fun q => by rw [if_pos q] at h; exact h, fun q => by rw [if_neg q] at h; exact h⟩
theorem measures_ok {σ : GSt} {g a b n : Nat} {G : GM} {z : Int32} {Q : GSt → Prop} (hG : GOK G) (a3 : a ≤ 3) (b3 : b ≤ 3) (hn : n ≤ 20) (hM : MG0 σ g G) (hQ : ∀ σ' : GSt, TlM σ' (meas G a b z n) → (1 ≤ n → Lv σ' g 0 G (lastP G a b z (n - 1))) → SF σ σ' → Q σ') : D_X11_measures (nI g) (nI n) z (nI a) (nI b) σ Q := by
  have c0 : Int32.toNatClampNeg 0 = 0 := by decide
  intro s1 e1 s2 e2 s3 e3 s4 e4 s5 e5 s6 e6 s7 e7
  have E7 : s7 = up2 (up2 (up2 (up2 (up2 (up2 (up2 σ 237 46 0) 237 47 0) 237 48 0) 237 49 0) 237 50 0) 237 51 0) 237 52 0 := by rw [e7, e6, e5, e4, e3, e2, e1]
  have F7 : SF σ s7 := by rw [E7]; exact ((((((SF.rf.slot (by decide)).slot (by decide)).slot (by decide)).slot (by decide)).slot (by decide)).slot (by decide)).slot (by decide)
  have V7 : (s7 237 46 = 0 ∧ s7 237 47 = 0 ∧ s7 237 48 = 0 ∧ s7 237 49 = 0) ∧ (s7 237 50 = 0 ∧ s7 237 51 = 0 ∧ s7 237 52 = 0) := by rw [E7]; simp [up2_app]
  refine ⟨7, ?_⟩
  have clr : ∀ (d k : Nat) (τ : GSt), k + d = 6 → SF σ τ → τ 237 = s7 237 → (∀ j, j < k → τ 274 j = 0 ∧ τ 275 j = 0) → L_X11_measures_38 Q (d + 1) (nI g) (nI n) z (nI a) (nI b) (nI k) τ := by
    intro d
    induction d with
    | zero =>
      intro k τ hk hF h7 hz
      refine ⟨fun _ => ⟨n + 1, ?_⟩, fun q => absurd (nI_le (a := 6) (by omega) (by omega)) q⟩
      have key : ∀ (r j : Nat) (τ : GSt), j + r = n → TlM τ (meas G a b z j) → (1 ≤ j → Lv τ g 0 G (lastP G a b z (j - 1))) → SF σ τ → L_X11_measures_70 Q (r + 1) (nI g) (nI n) z (nI a) (nI b) (nI j) τ := by
        intro r
        induction r with
        | zero =>
          intro j τ hj hT hP hF
          refine ⟨fun _ => ?_, fun q => absurd (nI_le (by omega) (by omega)) q⟩
          rw [show j = n by omega] at hT hP
          exact hQ τ hT hP hF
        | succ r ih =>
          intro j τ hj hT hP hF
          refine ⟨fun q => absurd q (nI_ge (by omega) (by omega)), fun _ => ?_⟩
          refine plays_ok (u := tU (meas G a b z j)) (en := tE (meas G a b z j)) hG a3 b3 (hM.row hF) (fun k hk => (hT.2.2 k hk).1) (fun k hk => (hT.2.2 k hk).2) (fun x L u8 e8 F8 => ?_)
          obtain ⟨hV, hE, hz⟩ := mPo_PV (a := a) (b := b) (z := z + nI j) (t := meas G a b z j) hG
          have hw := hV.2.2.2.1
          have h3 := hV.2.2.1
          obtain ⟨ps, hps⟩ : ∃ ps, ps = (mPo G a b (z + nI j) (meas G a b z j)).1 := ⟨_, rfl⟩
          obtain ⟨us, hus⟩ : ∃ us, us = (mPo G a b (z + nI j) (meas G a b z j)).2 := ⟨_, rfl⟩
          have hps' : (po G a b 60 (beg G) (z + nI j) (tU (meas G a b z j))).1 = ps := hps.symm
          have hus' : (po G a b 60 (beg G) (z + nI j) (tU (meas G a b z j))).2 = us := hus.symm
          rw [hps'] at L
          rw [hus'] at u8
          rw [hps'] at e8
          rw [← hps] at hw h3 hz
          have eN : meas G a b z (j + 1) = noteT (meas G a b z j) ps us := by rw [hps, hus]; rfl
          obtain ⟨t, ht⟩ : ∃ t, t = meas G a b z j := ⟨_, rfl⟩
          rw [← ht] at hT e8 eN
          obtain ⟨⟨a6, a7, a8, a9⟩, ⟨a0, a1, a2⟩, -⟩ := hT
          have k6 : x 237 46 = nI (tA t) := by rw [F8.2 46 (by decide) (by decide) (by decide)]; exact a6
          have k7 : x 237 47 = nI (tB t) := by rw [F8.2 47 (by decide) (by decide) (by decide)]; exact a7
          have k8 : x 237 48 = nI (tD t) := by rw [F8.2 48 (by decide) (by decide) (by decide)]; exact a8
          have k9 : x 237 49 = tM t := by rw [F8.2 49 (by decide) (by decide) (by decide)]; exact a9
          have k0 : x 237 50 = tS t := by rw [F8.2 50 (by decide) (by decide) (by decide)]; exact a0
          have k1 : x 237 51 = tK t := by rw [F8.2 51 (by decide) (by decide) (by decide)]; exact a1
          have k2 : x 237 52 = tL t := by rw [F8.2 52 (by decide) (by decide) (by decide)]; exact a2
          obtain ⟨-, p9, p0, p1, -⟩ := L.2.2.1
          rw [c0]
          refine br (c := x 261 0 = 1) (f := fun v => D_X11_measures_109 (L_X11_measures_70 Q (r + 1)) Q (nI g) (nI n) z (nI a) (nI b) (nI j) (x 237 46) v x) ?_
          intro x1 g1
          rw [c0]
          have q1 : ∀ w, w ≠ 237 → x1 w = x w := fun w hw => by rw [g1, up2_ne hw]
          refine br (c := x1 261 0 = 2) (f := fun v => D_X11_measures_133 (L_X11_measures_70 Q (r + 1)) Q (nI g) (nI n) z (nI a) (nI b) (nI j) (x1 237 47) v x1) ?_
          intro x2 g2
          rw [c0]
          have q2 : ∀ w, w ≠ 237 → x2 w = x w := fun w hw => by rw [g2, up2_ne hw, q1 w hw]
          refine br (c := x2 261 0 = 0) (f := fun v => D_X11_measures_156 (L_X11_measures_70 Q (r + 1)) Q (nI g) (nI n) z (nI a) (nI b) (nI j) (x2 237 48) v x2) ?_
          intro x3 g3 x4 g4
          rw [c0] at g4
          rw [c0]
          have q4 : ∀ w, w ≠ 237 → x4 w = x w := fun w hw => by rw [g4, up2_ne hw, g3, up2_ne hw, q2 w hw]
          refine br (c := x4 260 0 = 3) (f := fun v => D_X11_measures_195 (L_X11_measures_70 Q (r + 1)) Q (nI g) (nI n) z (nI a) (nI b) (nI j) (x4 237 50) v x4) ?_
          intro x5 g5
          rw [c0]
          have q5 : ∀ w, w ≠ 237 → x5 w = x w := fun w hw => by rw [g5, up2_ne hw, q4 w hw]
          refine br (c := x5 260 0 = 2) (f := fun v => D_X11_measures_219 (L_X11_measures_70 Q (r + 1)) Q (nI g) (nI n) z (nI a) (nI b) (nI j) (x5 237 51) v x5) ?_
          intro x6 g6
          rw [c0]
          have q6 : ∀ w, w ≠ 237 → x6 w = x w := fun w hw => by rw [g6, up2_ne hw, q5 w hw]
          refine br2 (c := x6 259 0 ≤ x6 237 52) (f := fun v => D_X11_measures_250 (L_X11_measures_70 Q (r + 1)) Q (nI g) (nI n) z (nI a) (nI b) (nI j) v x6) ?_
          intro x7 g7 y ey
          rw [ey, nI_1 j]
          have q7 : ∀ w, w ≠ 237 → x7 w = x w := fun w hw => by rw [g7, up2_ne hw, q6 w hw]
          rw [k6, p1] at g1
          rw [q1 261 (by decide), p1, show x1 237 47 = nI (tB t) by rw [g1, up2_app, if_neg (by decide)]; exact k7] at g2
          rw [q2 261 (by decide), p1, show x2 237 48 = nI (tD t) by rw [g2, up2_app, if_neg (by decide), g1, up2_app, if_neg (by decide)]; exact k8] at g3
          rw [show x3 237 49 = tM t by rw [g3, up2_app, if_neg (by decide), g2, up2_app, if_neg (by decide), g1, up2_app, if_neg (by decide)]; exact k9, show x3 259 0 = nI (psD ps) by rw [g3, up2_ne (by decide), q2 259 (by decide)]; exact p9] at g4
          rw [q4 260 (by decide), p0, show x4 237 50 = tS t by rw [g4, up2_app, if_neg (by decide), g3, up2_app, if_neg (by decide), g2, up2_app, if_neg (by decide), g1, up2_app, if_neg (by decide)]; exact k0] at g5
          rw [q5 260 (by decide), p0, show x5 237 51 = tK t by rw [g5, up2_app, if_neg (by decide), g4, up2_app, if_neg (by decide), g3, up2_app, if_neg (by decide), g2, up2_app, if_neg (by decide), g1, up2_app, if_neg (by decide)]; exact k1] at g6
          rw [q6 259 (by decide), p9, show x6 237 52 = tL t by rw [g6, up2_app, if_neg (by decide), g5, up2_app, if_neg (by decide), g4, up2_app, if_neg (by decide), g3, up2_app, if_neg (by decide), g2, up2_app, if_neg (by decide), g1, up2_app, if_neg (by decide)]; exact k2, jmax_le] at g7
          have E : x7 = up2 (up2 (up2 (up2 (up2 (up2 (up2 x 237 46 (nI (tA t) + if nI (psW ps) = 1 then 1 else 0)) 237 47 (nI (tB t) + if nI (psW ps) = 2 then 1 else 0)) 237 48 (nI (tD t) + if nI (psW ps) = 0 then 1 else 0)) 237 49 (tM t + nI (psD ps))) 237 50 (tS t + if nI (psS ps) = 3 then 1 else 0)) 237 51 (tK t + if nI (psS ps) = 2 then 1 else 0)) 237 52 (jmax (tL t) (nI (psD ps))) := by rw [g7, g6, g5, g4, g3, g2, g1]
          have i1 : nI (psW ps) = 1 ↔ psW ps = 1 := nI_eq (b := 1) (by omega) (by decide)
          have i2 : nI (psW ps) = 2 ↔ psW ps = 2 := nI_eq (b := 2) (by omega) (by decide)
          have i0 : nI (psW ps) = 0 ↔ psW ps = 0 := nI_eq (b := 0) (by omega) (by decide)
          have j3 : nI (psS ps) = 3 ↔ psS ps = 3 := nI_eq (b := 3) (by omega) (by decide)
          have j2 : nI (psS ps) = 2 ↔ psS ps = 2 := nI_eq (b := 2) (by omega) (by decide)
          have add : ∀ (n : Nat) (c : Prop) [Decidable c], nI n + (if c then (1 : Int32) else 0) = nI (n + if c then 1 else 0) := fun n c _ => by
            split
            · exact nI_1 n
            · rw [Int32.add_zero]; rfl
          simp only [i1, i2, i0, j3, j2, add] at E
          refine ih (j + 1) x7 (by omega) ?_ (fun _ => ?_) ?_
          · rw [eN]
            refine ⟨⟨?_, ?_, ?_, ?_⟩, ⟨?_, ?_, ?_⟩, fun k hk => ⟨?_, ?_⟩⟩
            · rw [E]; simp [up2_app]; rfl
            · rw [E]; simp [up2_app]; rfl
            · rw [E]; simp [up2_app]; rfl
            · rw [E]; simp [up2_app]; rfl
            · rw [E]; simp [up2_app]; rfl
            · rw [E]; simp [up2_app]; rfl
            · rw [E]; simp [up2_app]; rfl
            · rw [q7 274 (by decide)]; exact u8 k hk
            · rw [q7 275 (by decide)]; exact e8 k hk
          · show Lv x7 g 0 G (mPo G a b (z + nI j) (meas G a b z j)).1
            rw [← hps]
            exact L.keep (fun w h1 h2 => q7 w (by omega)) (by rw [E]; simp [up2_app])
          · refine hF.trans ⟨fun w h1 h2 => ?_, fun k hk => ?_⟩
            · rw [q7 w h1]; exact F8.1 w h1 (by omega)
            · rw [E, up2_app, if_neg (by omega), up2_app, if_neg (by omega), up2_app, if_neg (by omega), up2_app, if_neg (by omega), up2_app, if_neg (by omega), up2_app, if_neg (by omega), up2_app, if_neg (by omega)]
              exact F8.2 k (by omega) (by omega) (by omega)
      refine key n 0 τ (by omega) ?_ (fun q => absurd q (by decide)) hF
      refine ⟨?_, ?_, fun j hj => hz j (by omega)⟩
      · rw [h7]; exact V7.1
      · rw [h7]; exact V7.2
    | succ d ih =>
      intro k τ hk hF h7 hz
      have vk : vp_in (nI k) 6 := vp_in_nI (by omega) (by decide)
      refine ⟨fun q => absurd q (nI_ge (b := 6) (by omega) (by decide)), fun _ => ⟨vk, fun t1 g1 => ⟨vk, fun t2 g2 x ex => ?_⟩⟩⟩
      rw [nI_clamp (by omega)] at g1 g2
      rw [ex, nI_1 k]
      refine ih (k + 1) t2 (by omega) (by rw [g2, g1]; exact (hF.put (by decide)).put (by decide)) (by rw [g2, up2_ne (by decide), g1, up2_ne (by decide)]; exact h7) (fun j hj => ?_)
      by_cases q : j = k
      · subst q
        exact ⟨by rw [g2, up2_ne (by decide), g1]; simp [up2_app], by rw [g2]; simp [up2_app]⟩
      · exact ⟨by rw [g2, up2_ne (by decide), g1, up2_app, if_neg (by omega)]; exact (hz j (by omega)).1, by rw [g2, up2_app, if_neg (by omega), g1, up2_ne (by decide)]; exact (hz j (by omega)).2⟩
  exact clr 6 0 s7 rfl F7 rfl (fun j hj => absurd hj (Nat.not_lt_zero _))
