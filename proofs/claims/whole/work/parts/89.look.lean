theorem kd1 {i : Nat} (h : kd i = 1) : i = 7 ∨ 61 ≤ i := kd_all (P := fun i => i = 7 ∨ 61 ≤ i) (by decide) (by decide +kernel) h
theorem kd5 {o : Nat} (h : kd o = 5) : o = 40 ∨ o = 45 ∨ o = 50 ∨ o = 54 := kd_all (P := fun o => o = 40 ∨ o = 45 ∨ o = 50 ∨ o = 54) (by decide) (by decide +kernel) h
theorem rows256 : ∀ r, 32 ≤ r → r ≤ 38 → ln r = 256 := by
  intro r h1 h2
  have : r = 32 ∨ r = 33 ∨ r = 34 ∨ r = 35 ∨ r = 36 ∨ r = 37 ∨ r = 38 := by omega
  rcases this with rfl | rfl | rfl | rfl | rfl | rfl | rfl <;> decide +kernel
/-- the row r holds the moves l -/
def RowIs (σ : GSt) (r : Nat) (l : List (Nat × Nat × Nat)) : Prop := ∀ j m, l[j]? = some m → σ r j = enc m
theorem RowIs.row {σ σ' : GSt} {r : Nat} {l : List (Nat × Nat × Nat)} (h : RowIs σ r l) (hr : σ' r = σ r) : RowIs σ' r l := fun j m hm => by rw [hr]; exact h j m hm
theorem wr_is {σ : GSt} {r : Nat} {l : List (Nat × Nat × Nat)} : RowIs (wr r σ 0 (l.map enc)) r l := fun j m hm => by
  have hj := (List.getElem?_eq_some_iff.mp hm).1
  rw [wr_at, if_pos (by rw [List.length_map]; omega), Nat.sub_zero, List.getD_eq_getElem?_getD, List.getElem?_map, hm]
  rfl
theorem mvl_len {G : GM} {ps : PS} (hG : GOK G) (hV : PV G ps) : (mvl G ps).length ≤ 252 := by
  obtain ⟨⟨w2, w4, h2, h4⟩, ⟨m6, -, hM⟩, -⟩ := hG
  unfold mvl
  split
  · exact ML_len w2 w4 h2 h4 (by unfold sd; omega) hV.1 m6
  · exact Nat.zero_le _
theorem listC_ok {o i r : Nat} {G : GM} {ps : PS} {σ : GSt} {Q : Int32 → GSt → Prop} (hG : GOK G) (hV : PV G ps) (hl : ln r = 256) (ro : o ≠ r) (ri : r < i ∨ i + 22 ≤ r) (hP : PosC σ o i ps) (hB : ClB σ i G) (hQ : ∀ σ' : GSt, RowIs σ' r (mvl G ps) → (∀ a, a ≠ r → σ' a = σ a) → Q (nI (mvl G ps).length) σ') : D_X5_listMoves o r σ Q := by
  obtain ⟨⟨w2, w4, h2, h4⟩, ⟨m6, -, hM⟩, -⟩ := hG
  by_cases z : psS ps = 0
  · refine listMoves_ok w2 w4 h2 h4 hV.1 hl ro ri m6 hM hP.1 hB.1 (by rw [hP.2.1, z]; rfl) ?_
    have e : ML (gW G) (gH G) (gMv G) (psP ps) (sd (psD ps)) = mvl G ps := by unfold mvl; rw [if_pos z]
    rw [e]
    exact hQ _ wr_is (fun a ha => wr_row ha _ _ _)
  · have e : mvl G ps = [] := by unfold mvl; rw [if_neg z]
    rw [e] at hQ
    refine ⟨fun y => ?_, fun _ => hQ σ (fun j m hm => by simp at hm) (fun _ _ => rfl)⟩
    rw [hP.2.1] at y
    have h3 := hV.2.2.1
    exact absurd ((nI_eq (b := 0) (by omega) (by decide)).mp y) z
theorem unmake_ok {o i : Nat} {ps : PS} {dn : Nat} {x1 x2 : Int32} {σ : GSt} {Q : GSt → Prop} (z : psS ps = 0) (ek : psE ps = -9) (hi : kd i = 1) (h0 : σ o 0 = nI i) (h3 : σ o 3 = nI dn) (hdn : dn = psD ps + 1) (hle : psD ps ≤ 61) (e1 : x1 = mask (pc (psP ps) 1)) (e2 : x2 = mask (pc (psP ps) 2)) (hQ : ∀ σ' : GSt, PosC σ' o i ps → (∀ a, a ≠ o → σ' a = σ a) → Q σ') : D_X5_unmake o x1 x2 σ Q := by
  intro s1 q1 s2 q2 s3 q3 s4 q4 s5 q5 s6 q6
  rw [h3, hdn, nI_pred] at q1
  have e : s6 = up2 (up2 (up2 (up2 (up2 (up2 σ o 3 (nI (psD ps))) o 1 x1) o 2 x2) o 4 0) o 5 (-9)) o 6 (-9) := by rw [q6, q5, q4, q3, q2, q1]
  rw [e]
  refine hQ _ ⟨⟨hi, ?_, ?_, ?_, ?_, hle⟩, ?_, ?_, ?_⟩ (fun a ha => by rw [up2_ne ha, up2_ne ha, up2_ne ha, up2_ne ha, up2_ne ha, up2_ne ha])
  · simp [up2_app, h0]
  · simp [up2_app, e1]
  · simp [up2_app, e2]
  · simp [up2_app]
  · simp [up2_app, z, nI_0]
  · simp [up2_app, wC, z]
  · simp [up2_app, ek]
def beg (G : GM) : PS := (P0 G, 0, (if ML (gW G) (gH G) (gMv G) (P0 G) 1 = [] then 2 else 0), 0, -9)
theorem beg_PV {G : GM} (hG : GOK G) : PV G (beg G) := by
  refine ⟨hG.2.2.2.1, by show (0 : Nat) ≤ 60; decide, ?_, by show (0 : Nat) ≤ 2; decide, fun z => ⟨by show (0 : Nat) < 60; decide, rfl, rfl, ?_⟩⟩
  · show (if _ then 2 else 0) ≤ 3
    split <;> decide
  · unfold mvl
    rw [if_pos z]
    intro y
    have y' : ML (gW G) (gH G) (gMv G) (P0 G) 1 = [] := y
    have z' : (if ML (gW G) (gH G) (gMv G) (P0 G) 1 = [] then 2 else 0) = 0 := z
    rw [if_pos y'] at z'
    exact absurd z' (by decide)
theorem begin_ok {o i : Nat} {G : GM} {σ : GSt} {Q : GSt → Prop} (hG : GOK G) (hi : kd i = 1) (oi : o < i ∨ i + 22 ≤ o) (hB : ClB σ i G) (hQ : ∀ σ' : GSt, PosC σ' o i (beg G) → (∀ a, a ≠ o → σ' a = σ a) → Q σ') : D_X5_begin o i σ Q := by
  obtain ⟨⟨w2, w4, h2, h4⟩, ⟨m6, -, hM⟩, -, hV, ga, gb⟩ := id hG
  intro s1 q1 s2 q2 s3 q3 s4 q4 s5 q5 s6 q6 s7 q7
  have hio : i ≠ o := by omega
  have v2 : s2 i 2 = mask (pc (P0 G) 1) := by rw [q2, up2_ne hio, q1, up2_ne hio, hB.2.1.1]; exact ga
  have v3 : s2 i 3 = mask (pc (P0 G) 2) := by rw [q2, up2_ne hio, q1, up2_ne hio, hB.2.1.2]; exact gb
  rw [v2] at q3
  rw [v3] at q4
  have e : s7 = up2 (up2 (up2 (up2 (up2 (up2 (up2 σ o 0 (nI i)) o 3 0) o 1 (mask (pc (P0 G) 1))) o 2 (mask (pc (P0 G) 2))) o 4 0) o 5 (-9)) o 6 (-9) := by rw [q7, q6, q5, q4, q3, q2, q1]
  have fr : ∀ a, a ≠ o → s7 a = σ a := fun a ha => by rw [e, up2_ne ha, up2_ne ha, up2_ne ha, up2_ne ha, up2_ne ha, up2_ne ha, up2_ne ha]
  have C7 : CP s7 o i (P0 G) 0 := by
    rw [e]
    exact ⟨hi, by simp [up2_app], by simp [up2_app], by simp [up2_app], by simp [up2_app, nI_0], by decide⟩
  have B7 : ClB s7 i G := hB.row hG (fun a h1 h2 => fr a (by omega))
  refine hasMove_ok w2 w4 h2 h4 hV m6 hM C7 B7.1 (fun hne => ⟨fun _ => ?_, fun y => absurd y (by decide)⟩) (fun hnil => ⟨fun y => absurd rfl y, fun _ => ?_⟩)
  · have hne' : ML (gW G) (gH G) (gMv G) (P0 G) 1 ≠ [] := hne
    refine hQ s7 ⟨C7, ?_, ?_, ?_⟩ fr
    · show s7 o 4 = nI (if _ then 2 else 0)
      rw [if_neg hne', e]
      simp [up2_app, nI_0]
    · show s7 o 5 = wC (if _ then 2 else 0) 0
      rw [if_neg hne', e]
      simp [up2_app, wC]
    · show s7 o 6 = -9
      rw [e]
      simp [up2_app]
  · have hnil' : ML (gW G) (gH G) (gMv G) (P0 G) 1 = [] := hnil
    refine close_ok (hQ _ ⟨?_, ?_, ?_, ?_⟩ (fun a ha => by rw [up2_ne ha, up2_ne ha, up2_ne ha]; exact fr a ha))
    · exact ⟨hi, by simp [up2_app, C7.2.1], by simp [up2_app, C7.2.2.1]; rfl, by simp [up2_app, C7.2.2.2.1]; rfl, by simp [up2_app, C7.2.2.2.2.1]; rfl, by show (0 : Nat) ≤ 61; decide⟩
    · show _ = nI (if _ then 2 else 0)
      rw [if_pos hnil']
      simp [up2_app]
      rfl
    · show _ = wC (if _ then 2 else 0) 0
      rw [if_pos hnil']
      simp [up2_app, wC]
    · show _ = (-9 : Int32)
      simp [up2_app]
def asE (ps : PS) : Nat := if psW ps = 0 then 1 else if psW ps = sd (psD ps) then 2 else 0
def vfold (G : GM) (f : PS → Nat) (ps : PS) : List (Nat × Nat × Nat) → Nat → Nat
  | [], g => g
  | m :: l, g => if 2 ≤ g then g else vfold G f ps l (max g (2 - f (stp G ps m)))
/-- LOOK n -/
def val (G : GM) : Nat → PS → Nat
  | 0, ps => if psS ps = 0 then 1 else asE ps
  | n + 1, ps => if psS ps = 0 then vfold G (val G n) ps (mvl G ps) 0 else asE ps
theorem vfold_le {G : GM} {f : PS → Nat} {ps : PS} : ∀ (l : List (Nat × Nat × Nat)) (g : Nat), g ≤ 2 → vfold G f ps l g ≤ 2
  | [], g, h => h
  | m :: l, g, h => by
    unfold vfold
    split
    · exact h
    · exact vfold_le l _ (by omega)
theorem val_le {G : GM} (n : Nat) (ps : PS) : val G n ps ≤ 2 := by
  have ha : asE ps ≤ 2 := by
    unfold asE
    split
    · decide
    · split <;> decide
  cases n with
  | zero =>
    unfold val
    split
    · decide
    · exact ha
  | succ n =>
    unfold val
    split
    · exact vfold_le _ _ (by decide)
    · exact ha
theorem jmax_nI {g v : Nat} (hg : g ≤ 2) (hv : v ≤ 2) : jmax (nI g) (2 - nI v) = nI (max g (2 - v)) := by
  have h1 : g = 0 ∨ g = 1 ∨ g = 2 := by omega
  have h2 : v = 0 ∨ v = 1 ∨ v = 2 := by omega
  rcases h1 with rfl | rfl | rfl <;> rcases h2 with rfl | rfl | rfl <;> decide
theorem asE_ok {o i : Nat} {G : GM} {ps : PS} {σ : GSt} {Q : Int32 → GSt → Prop} (hV : PV G ps) (hP : PosC σ o i ps) (z : psS ps ≠ 0) (hQ : Q (nI (asE ps)) σ) : (¬ (σ o 5) = 2 → D_X5_side o σ (fun r_5 σ_6 => (¬ (σ o 5) = r_5 → Q 0 σ_6) ∧ ((σ o 5) = r_5 → Q 2 σ_6))) ∧ ((σ o 5) = 2 → Q 1 σ) := by
  have hw := hV.2.2.2.1
  have e5 : σ o 5 = if psW ps = 0 then 2 else nI (psW ps - 1) := by
    rw [hP.2.2.1]
    unfold wC
    rw [if_neg z]
  unfold asE at hQ
  refine ⟨fun q => ?_, fun q => ?_⟩
  · have w0 : psW ps ≠ 0 := fun y => q (by rw [e5, if_pos y])
    rw [if_neg w0] at e5 hQ
    show (¬ σ o 5 = (σ o 3 &&& 1) → Q 0 σ) ∧ (σ o 5 = (σ o 3 &&& 1) → Q 2 σ)
    rw [e5, hP.1.odd]
    refine ⟨fun y => ?_, fun y => ?_⟩
    · rw [if_neg (fun t => y (by rw [t]; rfl))] at hQ
      exact hQ
    · have := (nI_eq (by omega) (by omega)).mp y
      rw [if_pos (by unfold sd; omega)] at hQ
      exact hQ
  · by_cases w0 : psW ps = 0
    · rw [if_pos w0] at hQ
      exact hQ
    · rw [if_neg w0] at e5
      rw [e5] at q
      have := (nI_eq (b := 2) (by omega) (by decide)).mp q
      omega
theorem deepen_ok {o i : Nat} {G : GM} (hG : GOK G) (ho : kd o = 5) (hi : kd i = 1) : ∀ (n F : Nat) (ps : PS) (σ : GSt) (Q : Int32 → GSt → Prop), n ≤ 6 → n < F → PV G ps → PosC σ o i ps → ClB σ i G → (∀ σ' : GSt, PosC σ' o i ps → (∀ a, a ≠ o → (a < 32 ∨ 32 + n < a) → σ' a = σ a) → Q (nI (val G n ps)) σ') → D_X3_deepen F o (nI n) σ Q := by
  have oK := kd5 ho
  have iK := kd1 hi
  intro n
  induction n with
  | zero =>
    intro F ps σ Q _ hF hV hP hB hQ
    obtain ⟨F, rfl⟩ : ∃ f, F = f + 1 := ⟨F - 1, by omega⟩
    refine ⟨fun q => ⟨fun _ => ?_, fun y => absurd (by decide) y⟩, fun q => ?_⟩
    · have z : psS ps = 0 := by
        rw [hP.2.1] at q
        exact (nI_eq (b := 0) (by have := hV.2.2.1; omega) (by decide)).mp q
      have := hQ σ hP (fun _ _ _ => rfl)
      unfold val at this
      rw [if_pos z] at this
      exact this
    · have z : psS ps ≠ 0 := fun y => q (by rw [hP.2.1, y]; rfl)
      refine asE_ok hV hP z ?_
      have := hQ σ hP (fun _ _ _ => rfl)
      unfold val at this
      rw [if_neg z] at this
      exact this
  | succ n ih =>
    intro F ps σ Q hn hF hV hP hB hQ
    obtain ⟨F, rfl⟩ : ∃ f, F = f + 1 := ⟨F - 1, by omega⟩
    refine ⟨fun q => ⟨fun y => absurd y (nI_nlt (b := 1) (by omega) (by omega)), fun _ => ⟨fun _ => ⟨vp_in_nI (by omega) (by decide), ?_⟩, fun y => absurd (nI_le (b := 6) (by omega) (by decide)) y⟩⟩, fun q => ?_⟩
    · have z : psS ps = 0 := by
        rw [hP.2.1] at q
        exact (nI_eq (b := 0) (by have := hV.2.2.1; omega) (by decide)).mp q
      obtain ⟨-, w0, ek0, -⟩ := hV.2.2.2.2 z
      rw [nI_clamp (show n + 1 < 2 ^ 31 by omega), show 31 + 1 + (n + 1) = 33 + n by omega]
      have hlen := mvl_len hG hV
      refine listC_ok hG hV (rows256 _ (by omega) (by omega)) (by omega) (by omega) hP hB (fun s2 hRow hfr => ?_)
      intro xa ea xb eb
      have P2 : PosC s2 o i ps := hP.row (hfr o (by omega))
      rw [P2.1.2.2.1] at ea
      rw [P2.1.2.2.2.1] at eb
      have ev : val G (n + 1) ps = vfold G (val G n) ps (mvl G ps) 0 := by
        conv => lhs; unfold val
        rw [if_pos z]
      rw [ev] at hQ
      refine ⟨(mvl G ps).length + 1, ?_⟩
      have key : ∀ (d j g : Nat) (τ : GSt), j + d = (mvl G ps).length → g ≤ 2 → PosC τ o i ps → RowIs τ (33 + n) (mvl G ps) → (∀ a, a ≠ o → (a < 32 ∨ 33 + n < a) → τ a = σ a) → vfold G (val G n) ps (mvl G ps) 0 = vfold G (val G n) ps ((mvl G ps).drop j) g → L_X3_deepen_81 (D_X3_deepen F) Q (d + 1) o (nI (n + 1)) (33 + n) (nI (mvl G ps).length) xa xb (nI g) (nI j) τ := by
        intro d
        induction d with
        | zero =>
          intro j g τ hj hg hPt hRt hft hv
          rw [List.drop_of_length_le (by omega)] at hv
          refine ⟨fun _ => ?_, fun y => absurd (nI_le (by omega) (by omega)) y⟩
          rw [hv] at hQ
          exact hQ τ hPt (fun a h1 h2 => hft a h1 (by omega))
        | succ d ihd =>
          intro j g τ hj hg hPt hRt hft hv
          obtain ⟨m, hm⟩ : ∃ m, (mvl G ps)[j]? = some m := ⟨_, List.getElem?_eq_getElem (by omega)⟩
          have hmem : m ∈ mvl G ps := List.mem_of_getElem? hm
          rw [drop_cons hm] at hv
          refine ⟨fun y => absurd y (nI_ge (by omega) (by omega)), fun _ => ⟨fun y => ?_, fun y => ⟨?_, ?_⟩⟩⟩
          · have g2 : 2 ≤ g := (nI_leI (a := 2) (by decide) (by omega)).mp y
            have : vfold G (val G n) ps (m :: (mvl G ps).drop (j + 1)) g = g := by
              unfold vfold
              rw [if_pos g2]
            rw [hv, this] at hQ
            exact hQ τ hPt (fun a h1 h2 => hft a h1 (by omega))
          · rw [rows256 _ (by omega) (by omega)]
            exact vp_in_nI (by omega) (by decide)
          · have g2 : ¬ 2 ≤ g := fun t => y (nI_le (a := 2) t (by omega))
            rw [nI_clamp (by omega), hRt j m hm]
            have Bt : ClB τ i G := hB.row hG (fun a h1 h2 => hft a (by omega) (by omega))
            refine make_ok hG hV hmem (by omega) hPt Bt (fun s3 P3 f3 => ?_)
            have B3 : ClB s3 i G := Bt.row hG (fun a h1 h2 => f3 a (by omega))
            rw [nI_pred]
            refine ih F (stp G ps m) s3 _ (by omega) (by omega) (stp_PV hG hV hmem) P3 B3 (fun s4 P4 f4 => ?_)
            intro x7 e7
            rw [jmax_nI hg (val_le n _)] at e7
            refine unmake_ok (ps := ps) (dn := psD ps + 1) z ek0 hi P4.1.2.1 P4.1.2.2.2.2.1 rfl (by have := hV.2.1; omega) ea eb (fun s5 P5 f5 => ?_)
            intro x8 e8
            rw [e8, e7, nI_1 j]
            refine ihd (j + 1) _ s5 (by omega) (by omega) P5 (hRt.row ?_) (fun a h1 h2 => ?_) ?_
            · rw [f5 _ (by omega), f4 _ (by omega) (by omega), f3 _ (by omega)]
            · rw [f5 a h1, f4 a h1 (by omega), f3 a h1]
              exact hft a h1 h2
            · rw [hv]
              conv => lhs; unfold vfold
              rw [if_neg g2]
      exact key (mvl G ps).length 0 0 s2 (by omega) (by decide) P2 hRow (fun a h1 h2 => hfr a (by omega)) (by rw [List.drop_zero])
    · have z : psS ps ≠ 0 := fun y => q (by rw [hP.2.1, y]; rfl)
      refine asE_ok hV hP z ?_
      have := hQ σ hP (fun _ _ _ => rfl)
      unfold val at this
      rw [if_neg z] at this
      exact this
theorem valueOf_ok {o i : Nat} {G : GM} (hG : GOK G) (ho : kd o = 5) (hi : kd i = 1) (n : Nat) (ps : PS) (σ : GSt) (Q : Int32 → GSt → Prop) (hn : n ≤ 6) (hV : PV G ps) (hP : PosC σ o i ps) (hB : ClB σ i G) (hQ : ∀ σ' : GSt, PosC σ' o i ps → (∀ a, a ≠ o → (a < 32 ∨ 32 + n < a) → σ' a = σ a) → Q (nI (val G n ps)) σ') : D_X3_valueOf o (nI n) σ Q :=
  deepen_ok hG ho hi n 8 ps σ _ hn (by omega) hV hP hB hQ
