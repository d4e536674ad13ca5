/-- turns of the loop over the moves l, r + 1 moves deep -/
def spF (G : GM) : Nat → PS → List (Nat × Nat × Nat) → Nat
  | 0, _, _ => 0
  | r + 1, ps, l => match l with
    | [] => 0
    | m :: l => 1 + (if psS (stp G ps m) = 0 ∧ r ≠ 0 then spF G r (stp G ps m) (mvl G (stp G ps m)) + 1 else 0) + spF G (r + 1) ps l
def totL (G : GM) (r : Nat) (ps : PS) (l : List (Nat × Nat × Nat)) : Nat := sumL (l.map fun m => 1 + tot G r (stp G ps m))
def wyL (G : GM) (r : Nat) (ps : PS) (l : List (Nat × Nat × Nat)) (u k : Nat) : Nat := sumL (l.map fun m => (if k = u then 1 else 0) + wys G r (stp G ps m) (k - u))
theorem sumL_add {α : Type} {f h : α → Nat} : ∀ l : List α, sumL (l.map fun x => f x + h x) = sumL (l.map f) + sumL (l.map h)
  | [] => rfl
  | x :: l => by
    rw [List.map_cons, List.map_cons, List.map_cons, sumL_cons, sumL_cons, sumL_cons, sumL_add l]
    omega
theorem sumL_const {α : Type} {c : Nat} : ∀ l : List α, sumL (l.map fun _ => c) = l.length * c
  | [] => by simp [sumL]
  | x :: l => by
    rw [List.map_cons, sumL_cons, sumL_const l, List.length_cons, Nat.add_mul]
    omega
theorem totL_all {G : GM} {r : Nat} {ps : PS} : totL G r ps (mvl G ps) = tot G (r + 1) ps := by
  unfold totL
  rw [sumL_add, sumL_const, Nat.mul_one, tot_s]
theorem mvl_end {G : GM} {ps : PS} (z : psS ps ≠ 0) : mvl G ps = [] := by unfold mvl; rw [if_neg z]
theorem tot_end {G : GM} {n : Nat} {ps : PS} (z : psS ps ≠ 0) : tot G n ps = 0 := by
  cases n with
  | zero => rfl
  | succ n => rw [tot_s, mvl_end z]; rfl
theorem wys_end {G : GM} {n k : Nat} {ps : PS} (z : psS ps ≠ 0) : wys G n ps k = 0 := by
  cases n with
  | zero => rfl
  | succ n =>
    rw [wys_s, mvl_end z]
    split
    · rfl
    · split <;> rfl
theorem wyL_all {G : GM} {r : Nat} {ps : PS} {k : Nat} : wyL G r ps (mvl G ps) 1 k = wys G (r + 1) ps k := by
  unfold wyL
  rw [sumL_add, sumL_const, wys_s]
  by_cases k0 : k = 0
  · rw [if_pos k0, if_neg (by omega), k0, sum0 (fun m => wys_0 r _)]
    omega
  · rw [if_neg k0]
    by_cases k1 : k = 1
    · rw [if_pos k1, if_pos k1, k1, sum0 (fun m => wys_0 r _)]
      omega
    · rw [if_neg k1, if_neg k1]
      omega
/-- one level up: moves of a child, seen from below -/
theorem wyL_up {G : GM} {r : Nat} {ps : PS} {u k : Nat} (z : psS ps = 0) : wyL G r ps (mvl G ps) (u + 1) k = wys G (r + 1) ps (k - u) := by
  unfold wyL
  rw [sumL_add, sumL_const, wys_s]
  by_cases k0 : k - u = 0
  · rw [if_pos k0, if_neg (by omega), show k - (u + 1) = 0 by omega, sum0 (fun m => wys_0 r _)]
    omega
  · rw [if_neg k0]
    by_cases k1 : k - u = 1
    · rw [if_pos k1, if_pos (by omega), show k - (u + 1) = 0 by omega, sum0 (fun m => wys_0 r _)]
      omega
    · rw [if_neg k1, if_neg (by omega), show k - (u + 1) = k - u - 1 by omega]
      omega
theorem spent_run {g d n : Nat} {G : GM} {Q : Int32 → GSt → Prop} (hG : GOK G) (hdn : d + n ≤ 8) (hn7 : n ≤ 7) : ∀ (r : Nat) (x : Nat) (ps : PS) (l : List (Nat × Nat × Nat)) (j A F0 : Nat) (W : Nat → Nat) (τ : GSt), d ≤ x → x + (r + 1) = d + n → PV G ps → psS ps = 0 → l = (mvl G ps).drop j → j ≤ (mvl G ps).length → A ≤ 3000 → Lv τ g x G ps → τ 270 x = nI j → (∀ k, k < 8 → τ 272 k = nI (W k)) → (∀ (τ' : GSt), LG x τ τ' → Lv τ' g x G ps → (∀ y, y < x → τ' 270 y = τ 270 y) → τ' 270 x = nI (mvl G ps).length → A + totL G r ps l ≤ 3000 → (∀ k, k < 8 → τ' 272 k = nI (W k + wyL G r ps l (x - d + 1) k)) → L_X11_isSpent_48 Q (F0 + 1) (nI d) (nI n) (nI (A + totL G r ps l)) (nI x) τ') → (∀ τ' : GSt, 3000 < A + totL G r ps l → LG x τ τ' → Q 1 τ') → L_X11_isSpent_48 Q (spF G (r + 1) ps l + F0 + 1) (nI d) (nI n) (nI A) (nI x) τ := by
  intro r
  induction r with
  | zero =>
    intro x ps l
    induction l with
    | nil =>
      intro j A F0 W τ hx hr hV z hl hj hA hL hn hW hK hS
      have hj2 : (mvl G ps).length ≤ j := by
        have := congrArg List.length hl
        rw [List.length_drop, List.length_nil] at this
        omega
      have e1 : spF G (0 + 1) ps [] + F0 + 1 = F0 + 1 := by simp [spF]
      rw [e1]
      have := hK τ LG.rf hL (fun _ _ => rfl) (by rw [hn, show j = (mvl G ps).length by omega]) (by unfold totL; simp [sumL]; exact hA) (fun k hk => by rw [hW k hk]; unfold wyL; simp [sumL])
      rw [show totL G 0 ps [] = 0 from rfl, Nat.add_zero] at this
      exact this
    | cons m l ihl =>
      intro j A F0 W τ hx hr hV z hl hj hA hL hn hW hK hS
      have hlen := mvl_len hG hV
      have jl : j < (mvl G ps).length := by
        have := congrArg List.length hl
        rw [List.length_drop, List.length_cons] at this
        omega
      obtain ⟨m', hm⟩ : ∃ m', (mvl G ps)[j]? = some m' := ⟨_, List.getElem?_eq_getElem jl⟩
      rw [drop_cons hm] at hl
      obtain ⟨rfl, hl'⟩ := List.cons.inj hl
      have vx : vp_in (nI x) 9 := vp_in_nI (by omega) (by decide)
      have eu : nI x - nI d + 1 = nI (x - d + 1) := by rw [pk_sub hx, nI_1]
      have vu : vp_in (nI (x - d + 1)) 8 := vp_in_nI (by omega) (by decide)
      have et : totL G 0 ps (m :: l) = 1 + totL G 0 ps l := by
        unfold totL
        rw [List.map_cons, sumL_cons]
        rfl
      have es : spF G (0 + 1) ps (m :: l) + F0 + 1 = (spF G (0 + 1) ps l + F0 + 1) + 1 := by
        conv => lhs; unfold spF
        simp only [ne_eq, not_true_eq_false, and_false, if_false]
        omega
      rw [es]
      unfold L_X11_isSpent_48 D_X11_isSpent_48
      rw [eu, nI_clamp (show x < 2 ^ 31 by omega), nI_clamp (show x - d + 1 < 2 ^ 31 by omega), hL.2.2.2.1, ML_mvl z, hn]
      refine ⟨fun y => absurd y (nI_nlt hx (by omega)), fun _ => ⟨vx, vx, fun _ => ⟨vx, vx, fun s1 e1 => ⟨vu, vu, fun s2 e2 x3 e3 => ?_⟩⟩, fun y => absurd ((nI_eq (by omega) (by omega)).mp y) (by omega)⟩⟩
      rw [nI_1] at e1
      rw [nI_1] at e3
      subst e3
      have w1 : s1 272 (x - d + 1) = nI (W (x - d + 1)) := by rw [e1, up2_ne (by decide)]; exact hW _ (by omega)
      rw [w1, nI_1] at e2
      have G2 : LG x τ s2 := by rw [e2, e1]; exact (LG.rf.put (by decide)).put (by decide)
      refine pk_le (A + 1) 3000 (fun y => ⟨fun t => absurd (show nI (x - d + 1) = nI n by congr 1; omega) t, fun _ => ?_⟩) (fun y => hS s2 (by rw [et]; omega) G2)
      refine ihl (j + 1) (A + 1) F0 (fun k => W k + if k = x - d + 1 then 1 else 0) s2 hx hr hV z hl' (by omega) y (hL.low hG hV (Nat.le_refl _) G2) (by rw [e2, up2_ne (by decide), e1]; simp [up2_app]) (fun k hk => ?_) (fun τ' k1 k2 k3 k4 k5 k6 => ?_) (fun τ' k1 k2 => hS τ' (by rw [et]; omega) (G2.trans k2 (Nat.le_refl _)))
      · rw [e2, up2_app]
        by_cases q : k = x - d + 1
        · rw [if_pos ⟨rfl, q⟩, if_pos q, q]
        · rw [if_neg (by omega), if_neg q, Nat.add_zero, e1, up2_ne (by decide)]
          exact hW k hk
      · have := hK τ' (G2.trans k1 (Nat.le_refl _)) k2 (fun y hy => by rw [k3 y hy, e2, up2_ne (by decide), e1, up2_app, if_neg (by omega)]) k4 (by rw [et]; omega) (fun k hk => by
          rw [k6 k hk]
          congr 1
          unfold wyL
          rw [List.map_cons, sumL_cons, show wys G 0 (stp G ps m) (k - (x - d + 1)) = 0 from rfl]
          omega)
        rw [et, ← Nat.add_assoc] at this
        exact this
  | succ r ihr =>
    intro x ps l
    induction l with
    | nil =>
      intro j A F0 W τ hx hr hV z hl hj hA hL hn hW hK hS
      have hj2 : (mvl G ps).length ≤ j := by
        have := congrArg List.length hl
        rw [List.length_drop, List.length_nil] at this
        omega
      have e1 : spF G (r + 1 + 1) ps [] + F0 + 1 = F0 + 1 := by simp [spF]
      rw [e1]
      have := hK τ LG.rf hL (fun _ _ => rfl) (by rw [hn, show j = (mvl G ps).length by omega]) (by unfold totL; simp [sumL]; exact hA) (fun k hk => by rw [hW k hk]; unfold wyL; simp [sumL])
      rw [show totL G (r + 1) ps [] = 0 from rfl, Nat.add_zero] at this
      exact this
    | cons m l ihl =>
      intro j A F0 W τ hx hr hV z hl hj hA hL hn hW hK hS
      have hlen := mvl_len hG hV
      have jl : j < (mvl G ps).length := by
        have := congrArg List.length hl
        rw [List.length_drop, List.length_cons] at this
        omega
      obtain ⟨m', hm⟩ : ∃ m', (mvl G ps)[j]? = some m' := ⟨_, List.getElem?_eq_getElem jl⟩
      rw [drop_cons hm] at hl
      obtain ⟨rfl, hl'⟩ := List.cons.inj hl
      have hmem := List.mem_of_getElem? hm
      have hVs := stp_PV hG hV hmem
      have h3 := hVs.2.2.1
      have vx : vp_in (nI x) 9 := vp_in_nI (by omega) (by decide)
      have vx1 : vp_in (nI (x + 1)) 9 := vp_in_nI (by omega) (by decide)
      have eu : nI x - nI d + 1 = nI (x - d + 1) := by rw [pk_sub hx, nI_1]
      have vu : vp_in (nI (x - d + 1)) 8 := vp_in_nI (by omega) (by decide)
      have et : totL G (r + 1) ps (m :: l) = 1 + tot G (r + 1) (stp G ps m) + totL G (r + 1) ps l := by
        unfold totL
        rw [List.map_cons, sumL_cons]
      have ew : ∀ k, wyL G (r + 1) ps (m :: l) (x - d + 1) k = ((if k = x - d + 1 then 1 else 0) + wys G (r + 1) (stp G ps m) (k - (x - d + 1))) + wyL G (r + 1) ps l (x - d + 1) k := by
        intro k
        unfold wyL
        rw [List.map_cons, sumL_cons]
      obtain ⟨N, hN⟩ : ∃ N, N = spF G (r + 1 + 1) ps l + F0 + 1 := ⟨_, rfl⟩
      have es : spF G (r + 1 + 1) ps (m :: l) + F0 + 1 = ((if psS (stp G ps m) = 0 then spF G (r + 1) (stp G ps m) (mvl G (stp G ps m)) + 1 else 0) + N) + 1 := by
        rw [hN]
        conv => lhs; unfold spF
        simp only [ne_eq, Nat.add_one_ne_zero, not_false_eq_true, and_true]
        omega
      rw [es]
      unfold L_X11_isSpent_48 D_X11_isSpent_48
      rw [eu, nI_clamp (show x < 2 ^ 31 by omega), nI_clamp (show x - d + 1 < 2 ^ 31 by omega), hL.2.2.2.1, ML_mvl z, hn]
      refine ⟨fun y => absurd y (nI_nlt hx (by omega)), fun _ => ⟨vx, vx, fun _ => ⟨vx, vx, fun s1 e1 => ⟨vu, vu, fun s2 e2 x3 e3 => ?_⟩⟩, fun y => absurd ((nI_eq (by omega) (by omega)).mp y) (by omega)⟩⟩
      rw [nI_1] at e1
      rw [nI_1] at e3
      subst e3
      have w1 : s1 272 (x - d + 1) = nI (W (x - d + 1)) := by rw [e1, up2_ne (by decide)]; exact hW _ (by omega)
      rw [w1, nI_1] at e2
      have G2 : LG x τ s2 := by rw [e2, e1]; exact (LG.rf.put (by decide)).put (by decide)
      have n2 : s2 270 x = nI (j + 1) := by rw [e2, up2_ne (by decide), e1]; simp [up2_app]
      have o2 : ∀ y, y < x → s2 270 y = τ 270 y := fun y hy => by rw [e2, up2_ne (by decide), e1, up2_app, if_neg (by omega)]
      have W2 : ∀ k, k < 8 → s2 272 k = nI (W k + if k = x - d + 1 then 1 else 0) := by
        intro k hk
        rw [e2, up2_app]
        by_cases q : k = x - d + 1
        · rw [if_pos ⟨rfl, q⟩, if_pos q, q]
        · rw [if_neg (by omega), if_neg q, Nat.add_zero, e1, up2_ne (by decide)]
          exact hW k hk
      refine pk_le (A + 1) 3000 (fun y => ⟨fun _ => ⟨vx, ?_⟩, fun t => absurd ((nI_eq (by omega) (by omega)).mp t) (by omega)⟩) (fun y => hS s2 (by rw [et]; omega) G2)
      rw [n2, nI_pred]
      -- the other moves
      have go : ∀ (s3 : GSt), LG x τ s3 → s3 270 x = nI (j + 1) → (∀ y, y < x → s3 270 y = τ 270 y) → (∀ k, k < 8 → s3 272 k = nI (W k + ((if k = x - d + 1 then 1 else 0) + wys G (r + 1) (stp G ps m) (k - (x - d + 1))))) → A + 1 + tot G (r + 1) (stp G ps m) ≤ 3000 → L_X11_isSpent_48 Q N (nI d) (nI n) (nI (A + 1 + tot G (r + 1) (stp G ps m))) (nI x) s3 := by
        intro s3 G3 c1 c2 c3 c4
        rw [hN]
        refine ihl (j + 1) _ F0 _ s3 hx hr hV z hl' (by omega) c4 (hL.low hG hV (Nat.le_refl _) G3) c1 c3 (fun τ' k1 k2 k3 k4 k5 k6 => ?_) (fun τ' k1 k2 => hS τ' (by rw [et]; omega) (G3.trans k2 (Nat.le_refl _)))
        have := hK τ' (G3.trans k1 (Nat.le_refl _)) k2 (fun y hy => by rw [k3 y hy]; exact c2 y hy) k4 (by rw [et]; omega) (fun k hk => by
          rw [k6 k hk, ew k]
          congr 1
          omega)
        rw [et, show A + (1 + tot G (r + 1) (stp G ps m) + totL G (r + 1) ps l) = A + 1 + tot G (r + 1) (stp G ps m) + totL G (r + 1) ps l by omega] at this
        exact this
      refine does_ok hG hV (by omega) (hL.low hG hV (Nat.le_refl _) G2) hm (fun s4 L4 F4 => ?_)
      have G4 : LG x τ s4 := G2.trans (LG.ofLF F4 (by omega)) (Nat.le_refl _)
      rw [nI_1, nI_clamp (show x + 1 < 2 ^ 31 by omega), L4.2.2.1.2.2.1]
      refine ⟨vx1, fun q x4 e4 => ?_, fun q => ?_⟩
      · have z' := (nI_eq (b := 0) (by omega) (by decide)).mp q
        subst e4
        rw [if_pos z']
        refine ⟨vx1, fun s6 e6 => ?_⟩
        rw [nI_clamp (show x + 1 < 2 ^ 31 by omega)] at e6
        have G6 : LG x τ s6 := by rw [e6]; exact G4.put (by decide)
        have L6 : Lv s6 g (x + 1) G (stp G ps m) := L4.low hG hVs (Nat.le_refl _) (by rw [e6]; exact LG.rf.put (by decide))
        have o6 : ∀ y, y < x + 1 → s6 270 y = s2 270 y := fun y hy => by rw [e6, up2_app, if_neg (by omega), F4.1 270 (by decide)]
        have ef : spF G (r + 1) (stp G ps m) (mvl G (stp G ps m)) + 1 + N = spF G (r + 1) (stp G ps m) (mvl G (stp G ps m)) + N + 1 := by omega
        rw [ef]
        refine ihr (x + 1) (stp G ps m) (mvl G (stp G ps m)) 0 (A + 1) N (fun k => W k + if k = x - d + 1 then 1 else 0) s6 (by omega) (by omega) hVs z' (by rw [List.drop_zero]) (Nat.zero_le _) y L6 (by rw [e6]; simp [up2_app, nI_0]) (fun k hk => by rw [e6, up2_ne (by decide), F4.1 272 (by decide)]; exact W2 k hk) (fun τ' k1 k2 k3 k4 k5 k6 => ?_) (fun τ' k1 k2 => hS τ' (by rw [et]; rw [totL_all] at k1; omega) (G6.trans k2 (by omega)))
        rw [totL_all] at k5 ⊢
        have hlen2 := mvl_len hG hVs
        unfold L_X11_isSpent_48 D_X11_isSpent_48
        rw [nI_clamp (show x + 1 < 2 ^ 31 by omega), k2.2.2.2.1, ML_mvl z', k4]
        refine ⟨fun y => absurd y (nI_nlt (by omega) (by omega)), fun _ => ⟨vx1, vx1, fun t => absurd rfl t, fun _ x4 e4 => ?_⟩⟩
        rw [pk_m1] at e4
        subst e4
        refine go τ' (G6.trans k1 (by omega)) (by rw [k3 x (by omega), o6 x (by omega)]; exact n2) (fun y hy => by rw [k3 y (by omega), o6 y (by omega)]; exact o2 y hy) (fun k hk => ?_) k5
        rw [k6 k hk, show x + 1 - d + 1 = (x - d + 1) + 1 by omega, wyL_up z']
        congr 1
        omega
      · have z' : psS (stp G ps m) ≠ 0 := fun t => q (by rw [t]; rfl)
        rw [if_neg z', Nat.zero_add]
        have := go s4 G4 (by rw [F4.1 270 (by decide)]; exact n2) (fun y hy => by rw [F4.1 270 (by decide)]; exact o2 y hy) (fun k hk => by rw [F4.1 272 (by decide), W2 k hk, wys_end z']; rfl) (by rw [tot_end z']; omega)
        rw [tot_end z', Nat.add_zero] at this
        exact this
theorem isSpentM_ok {σ : GSt} {g d n : Nat} {G : GM} {ps : PS} {Q : Int32 → GSt → Prop} (hG : GOK G) (hdn : d + n ≤ 8) (hn7 : n ≤ 7) (hV : PV G ps) (hL : Lv σ g d G ps)
    (h1 : ∀ σ' : GSt, 3000 < tot G n ps → LG d σ σ' → Lv σ' g d G ps → Q 1 σ')
    (h0 : ∀ σ' : GSt, tot G n ps ≤ 3000 → LG d σ σ' → Lv σ' g d G ps → (∀ k, k < 8 → σ' 272 k = nI (wys G n ps k)) → Q 0 σ') : D_X11_isSpent (nI d) (nI n) σ Q := by
  have vd : vp_in (nI d) 9 := vp_in_nI (by omega) (by decide)
  have h3 := hV.2.2.1
  have hlen := mvl_len hG hV
  refine ⟨9, ?_⟩
  have key : ∀ (u k : Nat) (τ : GSt), k + u = 8 → LG d σ τ → (∀ j, j < k → τ 272 j = 0) → L_X11_isSpent_2 Q (u + 1) (nI d) (nI n) (nI k) τ := by
    intro u
    induction u with
    | zero =>
      intro k τ hk hF hz
      have Lt := hL.low hG hV (Nat.le_refl _) hF
      refine ⟨fun _ => ⟨fun n0 => ?_, fun n0 => ⟨vd, fun q => ?_, fun q => ?_⟩⟩, fun y => absurd (nI_le (a := 8) (by omega) (by omega)) y⟩
      · have n0' : n = 0 := (nI_eq (b := 0) (by omega) (by decide)).mp n0
        rw [n0'] at h0
        exact h0 τ (Nat.zero_le _) hF Lt (fun j hj => by rw [hz j (by omega)]; rfl)
      · rw [nI_clamp (show d < 2 ^ 31 by omega), Lt.2.2.1.2.2.1] at q
        have z := (nI_eq (b := 0) (by omega) (by decide)).mp q
        obtain ⟨r, rfl⟩ : ∃ r, n = r + 1 := ⟨n - 1, by
          rcases Nat.eq_zero_or_pos n with t | t
          · rw [t] at n0; exact absurd rfl n0
          · omega⟩
        refine ⟨vd, fun s1 e1 => ⟨spF G (r + 1) ps (mvl G ps) + 1 + 1, ?_⟩⟩
        rw [nI_clamp (show d < 2 ^ 31 by omega)] at e1
        have G1 : LG d σ s1 := by rw [e1]; exact hF.put (by decide)
        refine spent_run hG hdn hn7 r d ps (mvl G ps) 0 0 1 (fun _ => 0) s1 (Nat.le_refl _) (by omega) hV z (by rw [List.drop_zero]) (Nat.zero_le _) (by decide) (hL.low hG hV (Nat.le_refl _) G1) (by rw [e1]; simp [up2_app, nI_0]) (fun k hk => by rw [e1, up2_ne (by decide), hz k (by omega)]; rfl) (fun τ' k1 k2 k3 k4 k5 k6 => ?_) (fun τ' k1 k2 => ?_)
        · rw [totL_all, Nat.zero_add] at k5 ⊢
          unfold L_X11_isSpent_48 D_X11_isSpent_48
          rw [nI_clamp (show d < 2 ^ 31 by omega), k2.2.2.2.1, ML_mvl z, k4]
          refine ⟨fun y => absurd y (nI_nlt (Nat.le_refl _) (by omega)), fun _ => ⟨vd, vd, fun t => absurd rfl t, fun _ x4 e4 => ?_⟩⟩
          have lt : x4 < nI d := by
            rw [e4]
            rcases Nat.eq_zero_or_pos d with t | t
            · rw [t]; decide
            · obtain ⟨d', rfl⟩ : ∃ d', d = d' + 1 := ⟨d - 1, by omega⟩
              rw [pk_m1]
              exact nI_lt (by omega) (by omega)
          refine ⟨fun _ => h0 τ' k5 (G1.trans k1 (Nat.le_refl _)) k2 (fun k hk => ?_), fun y => absurd lt y⟩
          rw [k6 k hk, Nat.zero_add, Nat.sub_self, Nat.zero_add, wyL_all]
        · rw [totL_all, Nat.zero_add] at k1
          have GT := G1.trans k2 (Nat.le_refl _)
          exact h1 τ' k1 GT (hL.low hG hV (Nat.le_refl _) GT)
      · rw [nI_clamp (show d < 2 ^ 31 by omega), Lt.2.2.1.2.2.1] at q
        have z : psS ps ≠ 0 := fun t => q (by rw [t]; rfl)
        exact h0 τ (by rw [tot_end z]; omega) hF Lt (fun j hj => by rw [hz j (by omega), wys_end z]; rfl)
    | succ u ih =>
      intro k τ hk hF hz
      refine ⟨fun y => absurd y (nI_ge (b := 8) (by omega) (by decide)), fun _ => ⟨vp_in_nI (by omega) (by decide), fun s e x ex => ?_⟩⟩
      rw [nI_clamp (by omega)] at e
      rw [ex, nI_1 k]
      refine ih (k + 1) s (by omega) (by rw [e]; exact hF.put (by decide)) (fun j hj => ?_)
      rw [e, up2_app]
      by_cases q : j = k
      · rw [if_pos ⟨rfl, q⟩]
      · rw [if_neg (by omega)]
        exact hz j (by omega)
  exact key 8 0 σ rfl LG.rf (fun j hj => absurd hj (Nat.not_lt_zero _))
theorem bestAt_ok {σ : GSt} {g n : Nat} {G : GM} {ps : PS} {Q : Int32 → GSt → Prop} (hG : GOK G) (n1 : 1 ≤ n) (hn : n ≤ 7) (hV : PV G ps) (z : psS ps = 0) (hL : Lv σ g 0 G ps) (hQ : ∀ σ' : GSt, PF σ σ' → Lv σ' g 0 G ps → Q (nI (bst G n ps)) σ') : D_X11_bestAt (nI n) σ Q := by
  have hlen := mvl_len hG hV
  have hne := (hV.2.2.2.2 z).2.2.2
  have hpos : 0 < (mvl G ps).length := List.length_pos_iff.mpr hne
  intro s1 e1
  have g0 : s1 237 22 = nI g := by rw [e1, up2_app, if_neg (by decide)]; exact hL.1.1.2
  have M1 : MB s1 g G := by
    have : PF σ s1 := by rw [e1]; exact PF.rf.slot (by decide)
    refine ⟨⟨hL.1.1.1, g0⟩, ?_⟩
    have hr : ∀ a, a ≠ 237 → s1 a = σ a := fun a ha => by rw [e1, up2_ne ha]
    unfold MvM EnM
    rw [hr 242 (by decide), hr 243 (by decide), hr 248 (by decide), hr 253 (by decide), hr 245 (by decide), hr 246 (by decide), hr 247 (by decide), hr 256 (by decide), hr 249 (by decide), hr 250 (by decide), hr 251 (by decide), hr 252 (by decide), hr 267 (by decide), hr 268 (by decide)]
    exact hL.1.2
  have F1 : PF σ s1 := by rw [e1]; exact PF.rf.slot (by decide)
  have L1 : Lv s1 g 0 G ps := by
    have hr : ∀ a, a ≠ 237 → s1 a = σ a := fun a ha => by rw [e1, up2_ne ha]
    refine ⟨M1, fun c hc => by rw [hr 257 (by decide)]; exact hL.2.1 c hc, ?_, ?_⟩
    · rw [hr 258 (by decide), hr 259 (by decide), hr 260 (by decide), hr 261 (by decide), hr 262 (by decide)]; exact hL.2.2.1
    · unfold MLs R3
      rw [hr 266 (by decide), hr 263 (by decide), hr 264 (by decide), hr 265 (by decide)]
      exact hL.2.2.2
  have c0 : Int32.toNatClampNeg 0 = 0 := by decide
  unfold bst at hQ
  refine ⟨(mvl G ps).length + 1, ?_⟩
  have key : ∀ (d j b least : Nat) (fd : Int32) (τ : GSt), j + d = (mvl G ps).length → least ≤ 3 → ((j = 0 ∧ least = 3) ∨ fd = nI b) → PF σ τ → Lv τ g 0 G ps → τ 237 39 = nI least → bfold G (val G (n - 1)) ps (mvl G ps) 0 0 3 = bfold G (val G (n - 1)) ps ((mvl G ps).drop j) j b least → L_X11_bestAt_10 Q (d + 1) (nI n) fd (nI j) τ := by
    intro d
    induction d with
    | zero =>
      intro j b least fd τ hj hl hfd hF hLt h39 hv
      rw [List.drop_of_length_le (by omega)] at hv
      unfold L_X11_bestAt_10 D_X11_bestAt_10
      rw [c0, hLt.2.2.2.1, ML_mvl z]
      refine ⟨fun _ => ?_, fun y => absurd (nI_le (by omega) (by omega)) y⟩
      rcases hfd with ⟨t, -⟩ | hfd
      · omega
      · rw [hv] at hQ
        rw [hfd]
        exact hQ τ hF hLt
    | succ d ih =>
      intro j b least fd τ hj hl hfd hF hLt h39 hv
      obtain ⟨m, hm⟩ : ∃ m, (mvl G ps)[j]? = some m := ⟨_, List.getElem?_eq_getElem (by omega)⟩
      have hmem : m ∈ mvl G ps := List.mem_of_getElem? hm
      have hVs := stp_PV hG hV hmem
      rw [drop_cons hm] at hv
      have hv' : bfold G (val G (n - 1)) ps (mvl G ps) 0 0 3 = if val G (n - 1) (stp G ps m) < least then bfold G (val G (n - 1)) ps ((mvl G ps).drop (j + 1)) (j + 1) j (val G (n - 1) (stp G ps m)) else bfold G (val G (n - 1)) ps ((mvl G ps).drop (j + 1)) (j + 1) b least := hv
      have vl := val_le (G := G) (n - 1) (stp G ps m)
      unfold L_X11_bestAt_10 D_X11_bestAt_10
      rw [c0, hLt.2.2.2.1, ML_mvl z]
      refine ⟨fun y => absurd y (nI_ge (by omega) (by omega)), fun _ => ?_⟩
      refine does_ok (d := 0) hG hV (by decide) hLt hm (fun s2 L2 F2 => ?_)
      rw [show nI n - 1 = nI (n - 1) from pk_sub (b := 1) n1]
      refine lookAt_ok (d := 1) hG (by omega) hVs L2 (fun s3 G3 L3 => ?_)
      have F3 : PF σ s3 := (hF.trans (PF.ofLF F2)).trans G3.pf
      have L0 : Lv s3 g 0 G ps := (hLt.other hG hV (by decide) F2).low hG hV (by decide : 0 ≤ 1) G3
      have v39 : s3 237 39 = nI least := by rw [G3.1 237 (by decide), F2.1 237 (by decide)]; exact h39
      rw [v39]
      refine pk_lt (val G (n - 1) (stp G ps m)) least (fun q => ?_) (fun q x ex => ?_)
      · rw [if_pos q] at hv'
        intro s4 e4 y ey
        rw [ey, nI_1 j]
        have F4 : PF σ s4 := by rw [e4]; exact F3.slot (by decide)
        have hr : ∀ a, a ≠ 237 → s4 a = s3 a := fun a ha => by rw [e4, up2_ne ha]
        have L4 : Lv s4 g 0 G ps := by
          refine ⟨⟨⟨L0.1.1.1, by rw [e4, up2_app, if_neg (by decide)]; exact L0.1.1.2⟩, ?_⟩, fun c hc => by rw [hr 257 (by decide)]; exact L0.2.1 c hc, ?_, ?_⟩
          · unfold MvM EnM
            rw [hr 242 (by decide), hr 243 (by decide), hr 248 (by decide), hr 253 (by decide), hr 245 (by decide), hr 246 (by decide), hr 247 (by decide), hr 256 (by decide), hr 249 (by decide), hr 250 (by decide), hr 251 (by decide), hr 252 (by decide), hr 267 (by decide), hr 268 (by decide)]
            exact L0.1.2
          · rw [hr 258 (by decide), hr 259 (by decide), hr 260 (by decide), hr 261 (by decide), hr 262 (by decide)]; exact L0.2.2.1
          · unfold MLs R3
            rw [hr 266 (by decide), hr 263 (by decide), hr 264 (by decide), hr 265 (by decide)]
            exact L0.2.2.2
        exact ih (j + 1) j _ (nI j) s4 (by omega) (by omega) (Or.inr rfl) F4 L4 (by rw [e4]; simp [up2_app]) hv'
      · rw [ex, nI_1 j]
        rw [if_neg (by omega)] at hv'
        refine ih (j + 1) b least fd s3 (by omega) hl ?_ F3 L0 v39 hv'
        rcases hfd with ⟨-, t⟩ | t
        · omega
        · exact Or.inr t
  exact key (mvl G ps).length 0 0 3 (-9) s1 (by omega) (by decide) (Or.inl ⟨rfl, rfl⟩) F1 L1 (by rw [e1]; simp [up2_app]; rfl) (by rw [List.drop_zero])
