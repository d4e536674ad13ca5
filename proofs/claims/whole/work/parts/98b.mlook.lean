/-- only levels above x change (and the rows next, best, wayMany) -/
def LG (x : Nat) (σ σ' : GSt) : Prop := (∀ a, a < 257 ∨ a = 267 ∨ a = 268 ∨ 272 < a → σ' a = σ a) ∧ (∀ a j, 258 ≤ a → a ≤ 262 → j ≤ x → σ' a j = σ a j) ∧ (∀ j, j ≤ x → σ' 266 j = σ 266 j) ∧ (∀ j, j < 16 * x + 16 → σ' 257 j = σ 257 j) ∧ ∀ a j, 263 ≤ a → a ≤ 265 → j < 800 * x + 800 → σ' a j = σ a j
theorem LG.rf {x : Nat} {σ : GSt} : LG x σ σ := ⟨fun _ _ => rfl, fun _ _ _ _ _ => rfl, fun _ _ => rfl, fun _ _ => rfl, fun _ _ _ _ _ => rfl⟩
theorem LG.trans {x y : Nat} {σ σ' σ'' : GSt} (h : LG x σ σ') (k : LG y σ' σ'') (hxy : x ≤ y) : LG x σ σ'' := ⟨fun a p => (k.1 a p).trans (h.1 a p), fun a j p q r => (k.2.1 a j p q (by omega)).trans (h.2.1 a j p q r), fun j p => (k.2.2.1 j (by omega)).trans (h.2.2.1 j p), fun j p => (k.2.2.2.1 j (by omega)).trans (h.2.2.2.1 j p), fun a j p q r => (k.2.2.2.2 a j p q (by omega)).trans (h.2.2.2.2 a j p q r)⟩
theorem LG.ofLF {x e : Nat} {σ σ' : GSt} (k : LF e σ σ') (hxe : x < e) : LG x σ σ' := ⟨fun a p => k.1 a (by omega), fun a j p q r => k.2.1 a j p q (by omega), fun j p => k.2.2.1 j (by omega), fun j p => k.2.2.2.1 j (by omega), fun a j p q r => k.2.2.2.2 a j p q (by omega)⟩
theorem LG.put {x a j : Nat} {σ σ' : GSt} {v : Int32} (h : LG x σ σ') (ha : 270 ≤ a ∧ a ≤ 272) : LG x σ (up2 σ' a j v) := ⟨fun b p => (up2_ne (by omega)).trans (h.1 b p), fun b i p q r => by rw [up2_ne (by omega)]; exact h.2.1 b i p q r, fun i p => by rw [up2_ne (by omega)]; exact h.2.2.1 i p, fun i p => by rw [up2_ne (by omega)]; exact h.2.2.2.1 i p, fun b i p q r => by rw [up2_ne (by omega)]; exact h.2.2.2.2 b i p q r⟩
theorem LG.sf {x : Nat} {σ σ' : GSt} (k : LG x σ σ') : SF σ σ' := ⟨fun a _ q => k.1 a (by omega), fun j _ => by rw [k.1 237 (by decide)]⟩
theorem LG.pf {x : Nat} {σ σ' : GSt} (k : LG x σ σ') : PF σ σ' := ⟨fun a _ q => k.1 a (by omega), fun j _ _ => by rw [k.1 237 (by decide)]⟩
theorem Lv.low {σ σ' : GSt} {g dd x : Nat} {G : GM} {ps : PS} (hG : GOK G) (hV : PV G ps) (h : Lv σ g dd G ps) (hx : dd ≤ x) (k : LG x σ σ') : Lv σ' g dd G ps := by
  obtain ⟨⟨w2, w4, h2, h4⟩, ⟨m6, -, hM⟩, -⟩ := id hG
  have hlen := ML_len (s := sd (psD ps)) w2 w4 h2 h4 (by unfold sd; omega) hV.1 m6
  refine ⟨h.1.row (fun a ha => k.1 a (by omega)), fun c hc => ?_, ⟨?_, ?_, ?_, ?_, ?_⟩, ?_⟩
  · rw [k.2.2.2.1 _ (by omega)]; exact h.2.1 c hc
  · rw [k.2.1 258 dd (by decide) (by decide) hx]; exact h.2.2.1.1
  · rw [k.2.1 259 dd (by decide) (by decide) hx]; exact h.2.2.1.2.1
  · rw [k.2.1 260 dd (by decide) (by decide) hx]; exact h.2.2.1.2.2.1
  · rw [k.2.1 261 dd (by decide) (by decide) hx]; exact h.2.2.1.2.2.2.1
  · rw [k.2.1 262 dd (by decide) (by decide) hx]; exact h.2.2.1.2.2.2.2
  · exact h.2.2.2.low (by omega) (k.2.2.1 dd hx) (fun a j p q r t => k.2.2.2.2 a j p q (by omega))
theorem ML_mvl {G : GM} {ps : PS} (z : psS ps = 0) : ML (gW G) (gH G) (gMv G) (psP ps) (sd (psD ps)) = mvl G ps := by unfold mvl; rw [if_pos z]
theorem asEnded_ok {σ : GSt} {g d : Nat} {G : GM} {ps : PS} {Q : Int32 → GSt → Prop} (d9 : d < 9) (hV : PV G ps) (hL : Lv σ g d G ps) (hQ : Q (nI (asE ps)) σ) : D_X11_asEnded (nI d) σ Q := by
  have hw := hV.2.2.2.1
  have vd : vp_in (nI d) 9 := vp_in_nI d9 (by decide)
  have hsd : 1 ≤ sd (psD ps) ∧ sd (psD ps) ≤ 2 := by unfold sd; omega
  unfold D_X11_asEnded D_X11_asEnded_0
  rw [nI_clamp (show d < 2 ^ 31 by omega), hL.2.2.1.2.2.2.1, hL.2.2.1.1]
  unfold asE at hQ
  have e0 : nI (psW ps) = 0 ↔ psW ps = 0 := nI_eq (b := 0) (by omega) (by decide)
  have e1 : nI (psW ps) = nI (sd (psD ps)) ↔ psW ps = sd (psD ps) := nI_eq (by omega) (by omega)
  refine ⟨vd, fun q => ⟨vd, vd, fun q2 => ?_, fun q2 => ?_⟩, fun q => ?_⟩
  · rw [if_neg (fun y => q (e0.mpr y)), if_neg (fun y => q2 (e1.mpr y))] at hQ
    exact hQ
  · rw [if_neg (fun y => q (e0.mpr y)), if_pos (e1.mp q2)] at hQ
    exact hQ
  · rw [if_pos (e0.mp q)] at hQ
    exact hQ
/-- how many turns the loop takes over the moves l -/
def stF (G : GM) : Nat → PS → List (Nat × Nat × Nat) → Nat → Nat
  | 0, _, _, _ => 0
  | r + 1, ps, l, b => match l with
    | [] => 0
    | m :: l => if 2 ≤ b then 0 else 1 + (if psS (stp G ps m) = 0 ∧ r ≠ 0 then stF G r (stp G ps m) (mvl G (stp G ps m)) 0 + 1 else 0) + stF G (r + 1) ps l (max b (2 - val G r (stp G ps m)))
theorem look_run {g d n : Nat} {G : GM} {Q : Int32 → GSt → Prop} (hG : GOK G) (hdn : d + n ≤ 8) : ∀ (r : Nat) (x : Nat) (ps : PS) (l : List (Nat × Nat × Nat)) (j b F0 : Nat) (τ : GSt), d ≤ x → x + (r + 1) = d + n → PV G ps → psS ps = 0 → l = (mvl G ps).drop j → j ≤ (mvl G ps).length → b ≤ 2 → Lv τ g x G ps → τ 270 x = nI j → τ 271 x = nI b → (∀ (τ' : GSt) (j' : Nat), LG x τ τ' → Lv τ' g x G ps → (∀ y, y < x → τ' 270 y = τ 270 y ∧ τ' 271 y = τ 271 y) → τ' 270 x = nI j' → j' ≤ (mvl G ps).length → τ' 271 x = nI (vfold G (val G r) ps l b) → ((mvl G ps).length ≤ j' ∨ 2 ≤ vfold G (val G r) ps l b) → L_X11_lookAt_37 Q (F0 + 1) (nI d) (nI n) (nI x) τ') → L_X11_lookAt_37 Q (stF G (r + 1) ps l b + F0 + 1) (nI d) (nI n) (nI x) τ := by
  intro r
  induction r with
  | zero =>
    intro x ps l
    induction l with
    | nil =>
      intro j b F0 τ hx hr hV z hl hj hb hL hn hbst hK
      have hj2 : (mvl G ps).length ≤ j := by
        have := congrArg List.length hl
        rw [List.length_drop, List.length_nil] at this
        omega
      have : stF G (0 + 1) ps [] b + F0 + 1 = F0 + 1 := by simp [stF]
      rw [this]
      exact hK τ j LG.rf hL (fun _ _ => ⟨rfl, rfl⟩) hn hj hbst (Or.inl hj2)
    | cons m l ihl =>
      intro j b F0 τ hx hr hV z hl hj hb hL hn hbst hK
      by_cases b2 : 2 ≤ b
      · have : stF G (0 + 1) ps (m :: l) b + F0 + 1 = F0 + 1 := by simp [stF, b2]
        rw [this]
        have ev : vfold G (val G 0) ps (m :: l) b = b := by unfold vfold; rw [if_pos b2]
        rw [ev] at hK
        exact hK τ j LG.rf hL (fun _ _ => ⟨rfl, rfl⟩) hn hj hbst (Or.inr b2)
      · have hlen := mvl_len hG hV
        have jl : j < (mvl G ps).length := by
          have := congrArg List.length hl
          rw [List.length_drop, List.length_cons] at this
          omega
        obtain ⟨m', hm⟩ : ∃ m', (mvl G ps)[j]? = some m' := ⟨_, List.getElem?_eq_getElem jl⟩
        rw [drop_cons hm] at hl
        obtain ⟨rfl, hl'⟩ := List.cons.inj hl
        have hmem := List.mem_of_getElem? hm
        have hVs := stp_PV hG hV hmem
        have vx : vp_in (nI x) 9 := vp_in_nI (by omega) (by decide)
        have vx1 : vp_in (nI (x + 1)) 9 := vp_in_nI (by omega) (by decide)
        have ev : vfold G (val G 0) ps (m :: l) b = vfold G (val G 0) ps l (max b (2 - val G 0 (stp G ps m))) := by
          conv => lhs; unfold vfold
          rw [if_neg b2]
        have es : stF G (0 + 1) ps (m :: l) b + F0 + 1 = (stF G (0 + 1) ps l (max b (2 - val G 0 (stp G ps m))) + F0 + 1) + 1 := by
          conv => lhs; unfold stF
          simp only [b2, if_false, ne_eq, not_true_eq_false, and_false]
          omega
        rw [es]
        unfold L_X11_lookAt_37 D_X11_lookAt_37
        rw [nI_clamp (show x < 2 ^ 31 by omega), hL.2.2.2.1, ML_mvl z, hn, hbst]
        refine ⟨vx, vx, fun y => absurd y (nI_ge jl (by omega)), fun _ => ⟨vx, fun y => absurd y (nI_ge (b := 2) (by omega) (by decide)), fun _ => ⟨vx, ?_⟩⟩⟩
        refine does_ok hG hV (by omega) hL hm (fun s1 L1 F1 => ⟨vx, vx, fun s2 e2 x4 e4 => ?_⟩)
        have G1 : LG x τ s1 := LG.ofLF F1 (by omega)
        rw [F1.1 270 (by decide), hn, nI_1] at e2
        rw [nI_1] at e4
        subst e4
        have G2 : LG x τ s2 := by rw [e2]; exact G1.put (by decide)
        have Lx := hL.low hG hV (Nat.le_refl _) G2
        have L2 : Lv s2 g (x + 1) G (stp G ps m) := L1.low hG hVs (Nat.le_refl _) (by rw [e2]; exact LG.rf.put (by decide))
        have n2 : s2 270 x = nI (j + 1) := by rw [e2]; simp [up2_app]
        have b2' : s2 271 x = nI b := by rw [e2, up2_ne (by decide), F1.1 271 (by decide)]; exact hbst
        have o2 : ∀ y, y < x → s2 270 y = τ 270 y ∧ s2 271 y = τ 271 y := fun y hy => ⟨by rw [e2, up2_app, if_neg (by omega), F1.1 270 (by decide)], by rw [e2, up2_ne (by decide), F1.1 271 (by decide)]⟩
        have v2 := val_le (G := G) 0 (stp G ps m)
        -- what comes of the move
        have comb : ∀ v : Nat, v = 2 - val G 0 (stp G ps m) → D_X11_lookAt_128 (L_X11_lookAt_37 Q (stF G (0 + 1) ps l (max b (2 - val G 0 (stp G ps m))) + F0 + 1)) Q (nI d) (nI n) (nI x) (nI v) s2 := by
          intro v hv
          unfold D_X11_lookAt_128
          rw [nI_clamp (show x < 2 ^ 31 by omega), b2']
          have go : ∀ s3 : GSt, LG x τ s3 → s3 270 x = nI (j + 1) → s3 271 x = nI (max b (2 - val G 0 (stp G ps m))) → (∀ y, y < x → s3 270 y = τ 270 y ∧ s3 271 y = τ 271 y) → L_X11_lookAt_37 Q (stF G (0 + 1) ps l (max b (2 - val G 0 (stp G ps m))) + F0 + 1) (nI d) (nI n) (nI x) s3 := by
            intro s3 G3 c1 c2 c3
            refine ihl (j + 1) _ F0 s3 hx hr hV z hl' (by omega) (by omega) (hL.low hG hV (Nat.le_refl _) G3) c1 c2 (fun τ' j' k1 k2 k3 k4 k5 k6 k7 => ?_)
            rw [ev] at hK
            exact hK τ' j' (G3.trans k1 (Nat.le_refl _)) k2 (fun y hy => ⟨(k3 y hy).1.trans (c3 y hy).1, (k3 y hy).2.trans (c3 y hy).2⟩) k4 k5 k6 k7
          refine ⟨vx, pk_le v b (fun y => ?_) (fun y => ⟨vx, fun s3 e3 => ?_⟩)⟩
          · exact go s2 G2 n2 (by rw [b2']; congr 1; omega) o2
          · refine go s3 (by rw [e3]; exact G2.put (by decide)) (by rw [e3, up2_ne (by decide)]; exact n2) (by rw [e3]; simp [up2_app]; congr 1; omega) (fun y hy => ⟨by rw [e3, up2_ne (by decide)]; exact (o2 y hy).1, by rw [e3, up2_app, if_neg (by omega)]; exact (o2 y hy).2⟩)
        have h106 : D_X11_lookAt_106 (L_X11_lookAt_37 Q (stF G (0 + 1) ps l (max b (2 - val G 0 (stp G ps m))) + F0 + 1)) Q (nI d) (nI n) (nI x) (nI (x + 1)) s2 := by
          unfold D_X11_lookAt_106
          rw [nI_clamp (show x + 1 < 2 ^ 31 by omega), L2.2.2.1.2.2.1]
          have h3 := hVs.2.2.1
          refine ⟨vx1, fun y => ?_, fun y => ?_⟩
          · have z' := (nI_eq (b := 0) (by omega) (by decide)).mp y
            refine comb 1 ?_
            unfold val
            rw [if_pos z']
          · have z' : psS (stp G ps m) ≠ 0 := fun t => y (by rw [t]; rfl)
            have ea : val G 0 (stp G ps m) = asE (stp G ps m) := by unfold val; rw [if_neg z']
            refine asEnded_ok (by omega) hVs L2 ?_
            rw [show (2 : Int32) - nI (asE (stp G ps m)) = nI (2 - asE (stp G ps m)) from pk_sub (a := 2) (by omega)]
            exact comb _ (by rw [ea])
        rw [nI_clamp (show x + 1 < 2 ^ 31 by omega)]
        refine ⟨vx1, fun _ => h106, fun _ => ⟨fun y => absurd ?_ y, fun _ => h106⟩⟩
        rw [pk_sub (by omega)]
        congr 1
        omega
  | succ r ihr =>
    intro x ps l
    induction l with
    | nil =>
      intro j b F0 τ hx hr hV z hl hj hb hL hn hbst hK
      have hj2 : (mvl G ps).length ≤ j := by
        have := congrArg List.length hl
        rw [List.length_drop, List.length_nil] at this
        omega
      have : stF G (r + 1 + 1) ps [] b + F0 + 1 = F0 + 1 := by simp [stF]
      rw [this]
      exact hK τ j LG.rf hL (fun _ _ => ⟨rfl, rfl⟩) hn hj hbst (Or.inl hj2)
    | cons m l ihl =>
      intro j b F0 τ hx hr hV z hl hj hb hL hn hbst hK
      by_cases b2 : 2 ≤ b
      · have : stF G (r + 1 + 1) ps (m :: l) b + F0 + 1 = F0 + 1 := by simp [stF, b2]
        rw [this]
        have ev : vfold G (val G (r + 1)) ps (m :: l) b = b := by unfold vfold; rw [if_pos b2]
        rw [ev] at hK
        exact hK τ j LG.rf hL (fun _ _ => ⟨rfl, rfl⟩) hn hj hbst (Or.inr b2)
      · have hlen := mvl_len hG hV
        have jl : j < (mvl G ps).length := by
          have := congrArg List.length hl
          rw [List.length_drop, List.length_cons] at this
          omega
        obtain ⟨m', hm⟩ : ∃ m', (mvl G ps)[j]? = some m' := ⟨_, List.getElem?_eq_getElem jl⟩
        rw [drop_cons hm] at hl
        obtain ⟨rfl, hl'⟩ := List.cons.inj hl
        have hmem := List.mem_of_getElem? hm
        have hVs := stp_PV hG hV hmem
        have vx : vp_in (nI x) 9 := vp_in_nI (by omega) (by decide)
        have vx1 : vp_in (nI (x + 1)) 9 := vp_in_nI (by omega) (by decide)
        have v2 := val_le (G := G) (r + 1) (stp G ps m)
        have ev : vfold G (val G (r + 1)) ps (m :: l) b = vfold G (val G (r + 1)) ps l (max b (2 - val G (r + 1) (stp G ps m))) := by
          conv => lhs; unfold vfold
          rw [if_neg b2]
        obtain ⟨N, hN⟩ : ∃ N, N = stF G (r + 1 + 1) ps l (max b (2 - val G (r + 1) (stp G ps m))) + F0 + 1 := ⟨_, rfl⟩
        have es : stF G (r + 1 + 1) ps (m :: l) b + F0 + 1 = ((if psS (stp G ps m) = 0 then stF G (r + 1) (stp G ps m) (mvl G (stp G ps m)) 0 + 1 else 0) + N) + 1 := by
          rw [hN]
          conv => lhs; unfold stF
          simp only [b2, if_false, ne_eq, Nat.add_one_ne_zero, not_false_eq_true, and_true]
          omega
        rw [es]
        unfold L_X11_lookAt_37 D_X11_lookAt_37
        rw [nI_clamp (show x < 2 ^ 31 by omega), hL.2.2.2.1, ML_mvl z, hn, hbst]
        refine ⟨vx, vx, fun y => absurd y (nI_ge jl (by omega)), fun _ => ⟨vx, fun y => absurd y (nI_ge (b := 2) (by omega) (by decide)), fun _ => ⟨vx, ?_⟩⟩⟩
        refine does_ok hG hV (by omega) hL hm (fun s1 L1 F1 => ⟨vx, vx, fun s2 e2 x4 e4 => ?_⟩)
        have G1 : LG x τ s1 := LG.ofLF F1 (by omega)
        rw [F1.1 270 (by decide), hn, nI_1] at e2
        rw [nI_1] at e4
        subst e4
        have G2 : LG x τ s2 := by rw [e2]; exact G1.put (by decide)
        have L2 : Lv s2 g (x + 1) G (stp G ps m) := L1.low hG hVs (Nat.le_refl _) (by rw [e2]; exact LG.rf.put (by decide))
        have n2 : s2 270 x = nI (j + 1) := by rw [e2]; simp [up2_app]
        have b2' : s2 271 x = nI b := by rw [e2, up2_ne (by decide), F1.1 271 (by decide)]; exact hbst
        have o2 : ∀ y, y < x → s2 270 y = τ 270 y ∧ s2 271 y = τ 271 y := fun y hy => ⟨by rw [e2, up2_app, if_neg (by omega), F1.1 270 (by decide)], by rw [e2, up2_ne (by decide), F1.1 271 (by decide)]⟩
        have go : ∀ s3 : GSt, LG x τ s3 → s3 270 x = nI (j + 1) → s3 271 x = nI (max b (2 - val G (r + 1) (stp G ps m))) → (∀ y, y < x → s3 270 y = τ 270 y ∧ s3 271 y = τ 271 y) → L_X11_lookAt_37 Q N (nI d) (nI n) (nI x) s3 := by
          intro s3 G3 c1 c2 c3
          rw [hN]
          refine ihl (j + 1) _ F0 s3 hx hr hV z hl' (by omega) (by omega) (hL.low hG hV (Nat.le_refl _) G3) c1 c2 (fun τ' j' k1 k2 k3 k4 k5 k6 k7 => ?_)
          rw [ev] at hK
          exact hK τ' j' (G3.trans k1 (Nat.le_refl _)) k2 (fun y hy => ⟨(k3 y hy).1.trans (c3 y hy).1, (k3 y hy).2.trans (c3 y hy).2⟩) k4 k5 k6 k7
        have h3 := hVs.2.2.1
        rw [nI_clamp (show x + 1 < 2 ^ 31 by omega), L2.2.2.1.2.2.1]
        refine ⟨vx1, fun y => ?_, fun y => ?_⟩
        · have z' : psS (stp G ps m) ≠ 0 := fun t => y (by rw [t]; rfl)
          have ea : val G (r + 1) (stp G ps m) = asE (stp G ps m) := by unfold val; rw [if_neg z']
          rw [if_neg z', Nat.zero_add]
          unfold D_X11_lookAt_106
          rw [nI_clamp (show x + 1 < 2 ^ 31 by omega), L2.2.2.1.2.2.1]
          refine ⟨vx1, fun t => absurd t y, fun _ => asEnded_ok (by omega) hVs L2 ?_⟩
          rw [show (2 : Int32) - nI (asE (stp G ps m)) = nI (2 - asE (stp G ps m)) from pk_sub (a := 2) (by omega)]
          unfold D_X11_lookAt_128
          rw [nI_clamp (show x < 2 ^ 31 by omega), b2']
          refine ⟨vx, pk_le (2 - asE (stp G ps m)) b (fun y => ?_) (fun y => ⟨vx, fun s3 e3 => ?_⟩)⟩
          · exact go s2 G2 n2 (by rw [b2']; congr 1; omega) o2
          · refine go s3 (by rw [e3]; exact G2.put (by decide)) (by rw [e3, up2_ne (by decide)]; exact n2) (by rw [e3]; simp [up2_app]; congr 1; omega) (fun y hy => ⟨by rw [e3, up2_ne (by decide)]; exact (o2 y hy).1, by rw [e3, up2_app, if_neg (by omega)]; exact (o2 y hy).2⟩)
        · have z' := (nI_eq (b := 0) (by omega) (by decide)).mp y
          rw [if_pos z']
          refine ⟨fun _ => ⟨vx1, fun s4 e4 => ⟨vx1, fun s5 e5 => ?_⟩⟩, fun t => ?_⟩
          · have G5 : LG x τ s5 := by rw [e5, e4]; exact (G2.put (by decide)).put (by decide)
            have G5' : LG (x + 1) s2 s5 := by rw [e5, e4]; exact (LG.rf.put (by decide)).put (by decide)
            have L5 : Lv s5 g (x + 1) G (stp G ps m) := L2.low hG hVs (Nat.le_refl _) G5'
            have o5 : ∀ y, y ≤ x → s5 270 y = s2 270 y ∧ s5 271 y = s2 271 y := fun y hy => ⟨by rw [e5, up2_ne (by decide), e4, up2_app, if_neg (by omega)], by rw [e5, up2_app, if_neg (by omega), e4, up2_ne (by decide)]⟩
            have ef : stF G (r + 1) (stp G ps m) (mvl G (stp G ps m)) 0 + 1 + N = stF G (r + 1) (stp G ps m) (mvl G (stp G ps m)) 0 + N + 1 := by omega
            rw [ef]
            refine ihr (x + 1) (stp G ps m) (mvl G (stp G ps m)) 0 0 N s5 (by omega) (by omega) hVs z' (by rw [List.drop_zero]) (Nat.zero_le _) (by decide) L5 (by rw [e5, up2_ne (by decide), e4]; simp [up2_app, nI_0]) (by rw [e5]; simp [up2_app, nI_0]) (fun τ' j' k1 k2 k3 k4 k5 k6 k7 => ?_)
            have ea : val G (r + 1) (stp G ps m) = vfold G (val G r) (stp G ps m) (mvl G (stp G ps m)) 0 := by
              conv => lhs; unfold val
              rw [if_pos z']
            rw [← ea] at k6 k7
            have hlen2 := mvl_len hG hVs
            -- the loop of the level above is over
            have h172 : D_X11_lookAt_172 (L_X11_lookAt_37 Q N) Q (nI d) (nI n) (nI (x + 1)) τ' := by
              refine ⟨fun _ x3 e3 => ?_, fun t => absurd ((nI_eq (by omega) (by omega)).mp t) (by omega)⟩
              rw [pk_m1] at e3
              subst e3
              rw [nI_1, nI_clamp (show x < 2 ^ 31 by omega), nI_clamp (show x + 1 < 2 ^ 31 by omega), k6, (k3 x (by omega)).2, (o5 x (Nat.le_refl _)).2, b2', show (2 : Int32) - nI (val G (r + 1) (stp G ps m)) = nI (2 - val G (r + 1) (stp G ps m)) from pk_sub (a := 2) (by omega)]
              have GT : LG x τ τ' := G5.trans k1 (by omega)
              have nT : τ' 270 x = nI (j + 1) := by rw [(k3 x (by omega)).1, (o5 x (Nat.le_refl _)).1]; exact n2
              have oT : ∀ y, y < x → τ' 270 y = τ 270 y ∧ τ' 271 y = τ 271 y := fun y hy => ⟨((k3 y (by omega)).1.trans (o5 y (by omega)).1).trans (o2 y hy).1, ((k3 y (by omega)).2.trans (o5 y (by omega)).2).trans (o2 y hy).2⟩
              refine ⟨vx1, vx, pk_le (2 - val G (r + 1) (stp G ps m)) b (fun y => ?_) (fun y => ⟨vx1, vx, fun s6 e6 => ?_⟩)⟩
              · exact go τ' GT nT (by rw [(k3 x (by omega)).2, (o5 x (Nat.le_refl _)).2, b2']; congr 1; omega) oT
              · exact go s6 (by rw [e6]; exact GT.put (by decide)) (by rw [e6, up2_ne (by decide)]; exact nT) (by rw [e6]; simp [up2_app]; congr 1; omega) (fun y hy => ⟨by rw [e6, up2_ne (by decide)]; exact (oT y hy).1, by rw [e6, up2_app, if_neg (by omega)]; exact (oT y hy).2⟩)
            unfold L_X11_lookAt_37 D_X11_lookAt_37
            rw [nI_clamp (show x + 1 < 2 ^ 31 by omega), k2.2.2.2.1, ML_mvl z', k4, k6]
            refine ⟨vx1, vx1, fun _ => h172, fun y => ⟨vx1, fun _ => h172, fun y2 => ?_⟩⟩
            exfalso
            rcases k7 with k7 | k7
            · exact y (nI_le k7 (by omega))
            · exact y2 (nI_le (a := 2) k7 (by omega))
          · exfalso
            rw [pk_sub (by omega)] at t
            have := (nI_eq (by omega) (by omega)).mp t
            omega
theorem lookAt_ok {σ : GSt} {g d n : Nat} {G : GM} {ps : PS} {Q : Int32 → GSt → Prop} (hG : GOK G) (hdn : d + n ≤ 8) (hV : PV G ps) (hL : Lv σ g d G ps) (hQ : ∀ σ' : GSt, LG d σ σ' → Lv σ' g d G ps → Q (nI (val G n ps)) σ') : D_X11_lookAt (nI d) (nI n) σ Q := by
  have vd : vp_in (nI d) 9 := vp_in_nI (by omega) (by decide)
  have h3 := hV.2.2.1
  have hlen := mvl_len hG hV
  unfold D_X11_lookAt D_X11_lookAt_0
  rw [nI_clamp (show d < 2 ^ 31 by omega), hL.2.2.1.2.2.1]
  refine ⟨vd, fun q => ⟨fun n0 => ?_, fun n0 => ?_⟩, fun q => ?_⟩
  · have z := (nI_eq (b := 0) (by omega) (by decide)).mp q
    obtain ⟨r, rfl⟩ : ∃ r, n = r + 1 := ⟨n - 1, by
      rcases Nat.eq_zero_or_pos n with t | t
      · rw [t] at n0; exact absurd rfl n0
      · omega⟩
    refine ⟨vd, fun s1 e1 => ⟨vd, fun s2 e2 => ⟨stF G (r + 1) ps (mvl G ps) 0 + 0 + 1, ?_⟩⟩⟩
    have G2 : LG d σ s2 := by rw [e2, e1]; exact (LG.rf.put (by decide)).put (by decide)
    refine look_run hG hdn r d ps (mvl G ps) 0 0 0 s2 (Nat.le_refl _) (by omega) hV z (by rw [List.drop_zero]) (Nat.zero_le _) (by decide) (hL.low hG hV (Nat.le_refl _) G2) (by rw [e2, up2_ne (by decide), e1]; simp [up2_app, nI_0]) (by rw [e2]; simp [up2_app, nI_0]) (fun τ' j' k1 k2 k3 k4 k5 k6 k7 => ?_)
    have ea : val G (r + 1) ps = vfold G (val G r) ps (mvl G ps) 0 := by
      conv => lhs; unfold val
      rw [if_pos z]
    rw [← ea] at k6 k7
    have v2 := val_le (G := G) (r + 1) ps
    have h172 : D_X11_lookAt_172 (L_X11_lookAt_37 Q 0) Q (nI d) (nI (r + 1)) (nI d) τ' := by
      refine ⟨fun t => absurd rfl t, fun _ => ⟨vd, ?_⟩⟩
      rw [nI_clamp (show d < 2 ^ 31 by omega), k6]
      exact hQ τ' (G2.trans k1 (Nat.le_refl _)) k2
    unfold L_X11_lookAt_37 D_X11_lookAt_37
    rw [nI_clamp (show d < 2 ^ 31 by omega), k2.2.2.2.1, ML_mvl z, k4, k6]
    refine ⟨vd, vd, fun _ => h172, fun y => ⟨vd, fun _ => h172, fun y2 => ?_⟩⟩
    exfalso
    rcases k7 with k7 | k7
    · exact y (nI_le k7 (by omega))
    · exact y2 (nI_le (a := 2) k7 (by omega))
  · have z := (nI_eq (b := 0) (by omega) (by decide)).mp q
    have n0' : n = 0 := (nI_eq (b := 0) (by omega) (by decide)).mp n0
    have := hQ σ LG.rf hL
    rw [n0'] at this
    unfold val at this
    rw [if_pos z] at this
    exact this
  · have z : psS ps ≠ 0 := fun t => q (by rw [t]; rfl)
    have ea : val G n ps = asE ps := by
      cases n with
      | zero => unfold val; rw [if_neg z]
      | succ n => unfold val; rw [if_neg z]
    refine asEnded_ok (by omega) hV hL ?_
    have := hQ σ LG.rf hL
    rw [ea] at this
    exact this
