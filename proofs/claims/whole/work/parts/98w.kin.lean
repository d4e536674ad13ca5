def kinB (f h : Nat → Int32) (n : Nat) : Bool := (List.range n).all fun j => f (j + 1) == h (j + 1)
theorem kinB_s {f h : Nat → Int32} {n : Nat} : kinB f h (n + 1) = (kinB f h n && f (n + 1) == h (n + 1)) := by
  unfold kinB
  rw [List.range_succ, List.all_append]
  simp
theorem kinB_no {f h : Nat → Int32} {n k : Nat} (hk : k < n) (hne : ¬ f (k + 1) = h (k + 1)) : kinB f h n = false := by
  unfold kinB
  rw [List.all_eq_false]
  exact ⟨k, List.mem_range.mpr hk, by simpa using hne⟩
/-- two GAMES of as many ways, or the look was too wide -/
def kinR (G H : GM) (n : Nat) : Int32 := if 3000 < tot G n (beg G) ∨ 3000 < tot H n (beg H) then -5 else bI (kinB (fun j => nI (wys H n (beg H) j)) (fun j => nI (wys G n (beg G) j)) n)
theorem kinC_ok {σ : GSt} {i j n : Nat} {G H : GM} {Q : Int32 → GSt → Prop} (hG : GOK G) (hH : GOK H) (hi : kd i = 1) (hj : kd j = 1) (i53 : 53 ≤ i) (j53 : 53 ≤ j) (hn : n ≤ 6) (hB : ClB σ i G) (hC : ClB σ j H) (hQ : ∀ σ' : GSt, JF σ σ' → Q (kinR G H n) σ') : D_X2_sameWays i j (nI n) σ Q := by
  refine begin_ok hG hi (by omega) hB (fun s1 hP1 f1 => ?_)
  refine isSpentC_ok hG (by decide +kernel) hi hn (beg_PV hG) hP1 (hB.row hG (fun a p q => f1 a (by omega))) (fun s2 ht hP2 f2 => ⟨fun y => absurd y (by decide), fun _ => ?_⟩) (fun s2 ht hP2 f2 w2 => ⟨fun _ s3 e3 => ?_, fun y => absurd rfl y⟩)
  · have := hQ s2 (fun a p => by rw [f2 a (by omega) (by omega) (by omega) (by omega), f1 a (by omega)])
    unfold kinR at this
    rw [if_pos (Or.inl ht)] at this
    exact this
  · have r3 : ∀ a, a ≠ 52 → s3 a = s2 a := fun a p => by rw [e3]; exact if_neg p
    have v52 : ∀ j, j < 7 → s3 52 j = nI (wys G n (beg G) j) := by
      intro j hj
      rw [e3]
      show (if (52 : Nat) = 52 then va_cpy (s2 30) (s2 52) 0 0 7 else s2 52) j = _
      rw [if_pos rfl, pk_cpy_in (by omega) (by omega), Nat.zero_add, Nat.sub_zero]
      exact w2 j hj
    have F3 : ∀ a, 53 ≤ a ∨ a ≤ 2 → s3 a = σ a := fun a p => by rw [r3 a (by omega), f2 a (by omega) (by omega) (by omega) (by omega), f1 a (by omega)]
    refine begin_ok hH hj (by omega) (hC.row hH (fun a p q => F3 a (by omega))) (fun s4 hP4 f4 => ?_)
    refine isSpentC_ok hH (by decide +kernel) hj hn (beg_PV hH) hP4 (hC.row hH (fun a p q => by rw [f4 a (by omega), F3 a (by omega)])) (fun s5 ht5 hP5 f5 => ⟨fun y => absurd y (by decide), fun _ => ?_⟩) (fun s5 ht5 hP5 f5 w5 => ⟨fun _ => ⟨n + 1, ?_⟩, fun y => absurd rfl y⟩)
    · have := hQ s5 (fun a p => by rw [f5 a (by omega) (by omega) (by omega) (by omega), f4 a (by omega), F3 a (by omega)])
      unfold kinR at this
      rw [if_pos (Or.inr ht5)] at this
      exact this
    · have fin := hQ s5 (fun a p => by rw [f5 a (by omega) (by omega) (by omega) (by omega), f4 a (by omega), F3 a (by omega)])
      unfold kinR at fin
      rw [if_neg (by omega)] at fin
      have key : ∀ (d k : Nat), k + d = n → kinB (fun j => nI (wys H n (beg H) j)) (fun j => nI (wys G n (beg G) j)) k = true → L_X2_sameWays_73 Q (d + 1) (nI n) (nI (k + 1)) s5 := by
        intro d
        induction d with
        | zero =>
          intro k hk hb
          have en : k = n := by omega
          rw [en] at hb
          rw [hb] at fin
          rw [en]
          exact ⟨fun _ => fin, fun z => absurd (nI_lt (by omega) (by omega)) z⟩
        | succ d ih =>
          intro k hk hb
          unfold L_X2_sameWays_73 D_X2_sameWays_73
          rw [nI_clamp (show k + 1 < 2 ^ 31 by omega), w5 (k + 1) (by omega), f5 52 (by decide) (by decide) (by decide) (by decide), f4 52 (by decide), v52 (k + 1) (by omega)]
          have v : vp_in (nI (k + 1)) 7 := vp_in_nI (by omega) (by decide)
          refine ⟨fun z => absurd z (nI_nlt (by omega) (by omega)), fun _ => ⟨fun z => absurd z (nI_nlt (a := 6) (by omega) (by omega)), fun _ => ⟨v, v, fun z y ey => ?_, fun z => ?_⟩⟩⟩
          · rw [ey, nI_1]
            refine ih (k + 1) (by omega) ?_
            rw [kinB_s, hb]
            show (true && (nI (wys H n (beg H) (k + 1)) == nI (wys G n (beg G) (k + 1)))) = true
            rw [z]
            simp
          · rw [kinB_no (k := k) (by omega) z] at fin
            exact fin
      exact key n 0 (by omega) rfl
theorem kinM_ok {σ : GSt} {g h n : Nat} {G H : GM} {r : Int32} (hG : GOK G) (hH : GOK H) (hn : n ≤ 6) (hM : MG0 σ g G) (hN : MG0 σ h H) (h5 : kinR G H n = -5 → ∀ σ' : GSt, SF σ σ' → D_X11_no (-5) σ' (fun r2 σ2 => r = r2 ∧ InvA σ2)) (hQ : ¬ kinR G H n = -5 → ∀ σ' : GSt, SF σ σ' → r = kinR G H n ∧ InvA σ') : D_X11_opens (nI g) σ (fun σ_7 => D_X11_isSpent 0 (nI n) σ_7 (fun r_8 σ_9 => (r_8 = 0 → ∃ f : Nat, L_X11_kin_69 (fun r2 σ2 => r = r2 ∧ InvA σ2) f (nI h) (nI n) 0 σ_9) ∧ (¬ r_8 = 0 → D_X11_no (-5) σ_9 (fun r_10 σ_11 => r = r_10 ∧ InvA σ_11)))) := by
  refine opens_ok hG hM (fun s1 hL1 f1 => ?_)
  refine isSpentM_ok (d := 0) hG (by omega) (by omega) (beg_PV hG) hL1 (fun s2 ht f2 hL2 => ⟨fun y => absurd y (by decide), fun _ => ?_⟩) (fun s2 ht f2 hL2 w2 => ⟨fun _ => ⟨9, ?_⟩, fun y => absurd rfl y⟩)
  · exact h5 (if_pos (Or.inl ht)) s2 ((SF.ofPF f1).trans (SF.ofLG f2))
  · have tail : ∀ s3 : GSt, SF σ s3 → (∀ k, k < 8 → s3 276 k = nI (wys G n (beg G) k)) → D_X11_opens (nI h) s3 (fun σ_1 => D_X11_isSpent 0 (nI n) σ_1 (fun r_2 σ_3 => (r_2 = 0 → ∃ f : Nat, L_X11_kin_123 (fun r2 σ2 => r = r2 ∧ InvA σ2) f (nI n) 1 1 σ_3) ∧ (¬ r_2 = 0 → D_X11_no (-5) σ_3 (fun r_4 σ_5 => r = r_4 ∧ InvA σ_5)))) := by
      intro s3 F3 w3
      refine opens_ok hH (hN.row F3) (fun s4 hL4 f4 => ?_)
      refine isSpentM_ok (d := 0) hH (by omega) (by omega) (beg_PV hH) hL4 (fun s5 ht5 f5 hL5 => ⟨fun y => absurd y (by decide), fun _ => ?_⟩) (fun s5 ht5 f5 hL5 w5 => ⟨fun _ => ⟨n + 1, ?_⟩, fun y => absurd rfl y⟩)
      · exact h5 (if_pos (Or.inr ht5)) s5 (F3.trans ((SF.ofPF f4).trans (SF.ofLG f5)))
      · have eR : kinR G H n = bI (kinB (fun j => nI (wys H n (beg H) j)) (fun j => nI (wys G n (beg G) j)) n) := if_neg (by omega)
        have fin := hQ (by rw [eR]; unfold bI; split <;> decide) s5 (F3.trans ((SF.ofPF f4).trans (SF.ofLG f5)))
        rw [eR] at fin
        have e276 : ∀ k, k < 8 → s5 276 k = nI (wys G n (beg G) k) := fun k hk => by rw [f5.1 276 (by decide), f4.1 276 (by decide) (by decide)]; exact w3 k hk
        have key : ∀ (d k : Nat), k + d = n → L_X11_kin_123 (fun r2 σ2 => r = r2 ∧ InvA σ2) (d + 1) (nI n) (bI (kinB (fun j => nI (wys H n (beg H) j)) (fun j => nI (wys G n (beg G) j)) k)) (nI (k + 1)) s5 := by
          intro d
          induction d with
          | zero =>
            intro k hk
            have en : k = n := by omega
            rw [en]
            exact ⟨fun _ => fin, fun z => absurd (nI_lt (by omega) (by omega)) z⟩
          | succ d ih =>
            intro k hk
            have v : vp_in (nI (k + 1)) 8 := vp_in_nI (by omega) (by decide)
            have := ih (k + 1) (by omega)
            rw [kinB_s] at this
            unfold L_X11_kin_123 D_X11_kin_123
            rw [nI_clamp (show k + 1 < 2 ^ 31 by omega), e276 (k + 1) (by omega), w5 (k + 1) (by omega)]
            refine ⟨fun z => absurd z (nI_nlt (by omega) (by omega)), fun _ => ⟨v, v, fun z y ey => ?_, fun z y ey => ?_⟩⟩
            · rw [ey, nI_1]
              rw [show (nI (wys H n (beg H) (k + 1)) == nI (wys G n (beg G) (k + 1))) = false from beq_eq_false_iff_ne.mpr (fun w => z w.symm), Bool.and_false] at this
              exact this
            · rw [ey, nI_1]
              rw [show (nI (wys H n (beg H) (k + 1)) == nI (wys G n (beg G) (k + 1))) = true from beq_iff_eq.mpr z.symm, Bool.and_true] at this
              exact this
        exact key n 0 (by omega)
    have key : ∀ (d k : Nat) (s : GSt), k + d = 8 → SF s2 s → s 272 = s2 272 → (∀ j, j < k → s 276 j = nI (wys G n (beg G) j)) → L_X11_kin_69 (fun r2 σ2 => r = r2 ∧ InvA σ2) (d + 1) (nI h) (nI n) (nI k) s := by
      intro d
      induction d with
      | zero =>
        intro k s hk hf e272 hw
        refine ⟨fun _ => tail s ((SF.ofPF f1).trans ((SF.ofLG f2).trans hf)) (fun j hj => hw j (by omega)), fun z => absurd (nI_le (a := 8) (by omega) (by omega)) z⟩
      | succ d ih =>
        intro k s hk hf e272 hw
        have v : vp_in (nI k) 8 := vp_in_nI (by omega) (by decide)
        unfold L_X11_kin_69 D_X11_kin_69
        rw [nI_clamp (show k < 2 ^ 31 by omega), e272, w2 k (by omega)]
        refine ⟨fun z => absurd z (nI_ge (b := 8) (by omega) (by decide)), fun _ => ⟨v, v, fun s6 e6 y ey => ?_⟩⟩
        rw [ey, nI_1]
        refine ih (k + 1) s6 (by omega) (hf.trans ⟨fun a p q => by rw [e6, up2_ne (by omega)], fun j p => by rw [e6, up2_ne (by decide)]⟩) (by rw [e6, up2_ne (by decide), e272]) (fun j hj => ?_)
        rw [e6, up2_at]
        rcases Decidable.em (j = k) with z | z
        · rw [z, pk_us]
        · rw [pk_un z]; exact hw j (by omega)
    exact key 8 0 s2 (by omega) SF.rf rfl (fun j hj => absurd hj (Nat.not_lt_zero _))
theorem op_kin : Op_kin InvA := by
  intro x1 x2 x3 σ hI
  obtain ⟨ng, Gs, Ls, tp, pl, h⟩ := id hI
  have n8 := h.1.1
  have c20 : ∀ (σ1 : GSt) (x : Int32), σ1 237 20 = nI ng → rfC σ1 x 237 20 = nI ng := fun σ1 x e => by rw [rfC_ne (by decide)]; exact e
  have ref : (∀ i, i < ng → x1 ≠ nI i) ∨ (∀ i, i < ng → x2 ≠ nI i) → D_X10_kin_16 (fun r1 σ1 => D_X11_kin x1 x2 x3 σ1 (fun r2 σ2 => r1 = r2 ∧ InvA σ2)) σ := by
    intro hr
    refine refuse_ok rf_1 ?_
    have fin : D_X11_kin_16 (fun r2 σ2 => -1 = r2 ∧ InvA σ2) (rfC σ (-1)) := no_ok rf_1 ⟨rfl, hI.rf rf_1⟩
    unfold D_X11_kin D_X11_kin_0
    refine isGame_ok n8 (c20 _ _ h.1.2.2) (fun _ => ⟨fun _ => fin, fun z => absurd rfl z⟩) (fun i hi e => ⟨fun z => absurd z (by decide), fun _ => ?_⟩)
    refine isGame_ok n8 (c20 _ _ h.1.2.2) (fun _ => ⟨fun z => absurd rfl z, fun _ => fin⟩) (fun j hj e2 => ?_)
    rcases hr with hr | hr
    · exact absurd e (hr i hi)
    · exact absurd e2 (hr j hj)
  unfold D_X10_kin D_X10_kin_0
  refine noGame_ok n8 h.1.2.1 (fun hno => ⟨fun _ => ref (Or.inl hno), fun z => absurd z (by decide)⟩) (fun i hi e => ⟨fun z => absurd rfl z, fun _ => ?_⟩)
  refine noGame_ok n8 h.1.2.1 (fun hno => ⟨fun z => absurd z (by decide), fun _ => ref (Or.inr hno)⟩) (fun j hj e2 => ⟨fun _ => ?_, fun z => absurd rfl z⟩)
  subst e
  subst e2
  obtain ⟨hG, -⟩ := (h.2.1 i hi).ok
  obtain ⟨hH, -⟩ := (h.2.1 j hj).ok
  refine ⟨fun q => ⟨fun q2 => ⟨vp_in_nI (by omega) (by decide), vp_in_nI (by omega) (by decide), ?_⟩, fun q2 => refuse_ok rf_6 ?_⟩, fun q => refuse_ok rf_4 ?_⟩
  · obtain ⟨n, hn, en⟩ := nI_of2 (n := 6) (by decide) (Int32.not_lt.mpr (Int32.le_trans (by decide) q)) q2
    have n1 : 1 ≤ n := by rw [en] at q; exact (nI_leI (a := 1) (by decide) (by omega)).mp q
    rw [nI_clamp (show i < 2 ^ 31 by omega), nI_clamp (show j < 2 ^ 31 by omega), en]
    refine kinC_ok hG hH (kdg (by omega)) (kdg (by omega)) (by omega) (by omega) hn (h.2.1 i hi).cb (h.2.1 j hj).cb (fun s1 f1 => ?_)
    have h1 := h.keep (KP.ofC f1)
    have hI1 : InvA s1 := ⟨_, _, _, _, _, h1⟩
    refine ⟨fun w => ?_, fun w => refuse_ok rf_5 ?_⟩
    · unfold D_X11_kin D_X11_kin_0
      refine isGame_ok n8 h1.1.2.2 (fun hno => absurd rfl (hno i hi)) (fun _ _ _ => ⟨fun z => absurd z (by decide), fun _ => ?_⟩)
      refine isGame_ok n8 h1.1.2.2 (fun hno => absurd rfl (hno j hj)) (fun _ _ _ => ⟨fun _ => ?_, fun z => absurd z (by decide)⟩)
      refine out_ok (lo := 1) (hi := 6) (by decide) (by decide) (fun y => absurd y (nI_nlt (b := 1) n1 (by omega))) (fun _ y => absurd y (nI_nlt (a := 6) hn (by omega))) (fun _ _ => ⟨fun _ => ?_, fun y => absurd rfl y⟩)
      exact kinM_ok hG hH hn (h1.mgr hi) (h1.mgr hj) (fun y => absurd y w) (fun _ s2 f2 => ⟨rfl, _, _, _, _, _, h1.keep (KP.ofSF f2)⟩)
    · unfold D_X11_kin D_X11_kin_0
      refine isGame_ok n8 (c20 _ _ h1.1.2.2) (fun hno => absurd rfl (hno i hi)) (fun _ _ _ => ⟨fun z => absurd z (by decide), fun _ => ?_⟩)
      refine isGame_ok n8 (c20 _ _ h1.1.2.2) (fun hno => absurd rfl (hno j hj)) (fun _ _ _ => ⟨fun _ => ?_, fun z => absurd z (by decide)⟩)
      refine out_ok (lo := 1) (hi := 6) (by decide) (by decide) (fun y => absurd y (nI_nlt (b := 1) n1 (by omega))) (fun _ y => absurd y (nI_nlt (a := 6) hn (by omega))) (fun _ _ => ⟨fun _ => ?_, fun y => absurd rfl y⟩)
      exact kinM_ok hG hH hn (h1.mgC hi) (h1.mgC hj) (fun _ s2 f2 => no_ok rf_5 ⟨rfl, no2 hI1 rf_5 f2⟩) (fun y => absurd w y)
  · unfold D_X11_kin D_X11_kin_0
    refine isGame_ok n8 (c20 _ _ h.1.2.2) (fun hno => absurd rfl (hno i hi)) (fun _ _ _ => ⟨fun z => absurd z (by decide), fun _ => ?_⟩)
    refine isGame_ok n8 (c20 _ _ h.1.2.2) (fun hno => absurd rfl (hno j hj)) (fun _ _ _ => ⟨fun _ => ?_, fun z => absurd z (by decide)⟩)
    exact out_ok (lo := 1) (hi := 6) (by decide) (by decide) (fun y => absurd y (Int32.not_lt.mpr q)) (fun _ y => ⟨fun w => absurd w (by decide), fun _ => no_ok rf_6 ⟨rfl, hI.rf rf_6⟩⟩) (fun _ y => absurd (Int32.not_le.mp q2) y)
  · unfold D_X11_kin D_X11_kin_0
    refine isGame_ok n8 (c20 _ _ h.1.2.2) (fun hno => absurd rfl (hno i hi)) (fun _ _ _ => ⟨fun z => absurd z (by decide), fun _ => ?_⟩)
    refine isGame_ok n8 (c20 _ _ h.1.2.2) (fun hno => absurd rfl (hno j hj)) (fun _ _ _ => ⟨fun _ => ?_, fun z => absurd z (by decide)⟩)
    exact out_ok (lo := 1) (hi := 6) (by decide) (by decide) (fun y => ⟨fun w => absurd w (by decide), fun _ => no_ok rf_4 ⟨rfl, hI.rf rf_4⟩⟩) (fun y _ => absurd (Int32.not_le.mp q) y) (fun y _ => absurd (Int32.not_le.mp q) y)
