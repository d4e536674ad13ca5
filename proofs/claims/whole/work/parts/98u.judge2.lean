theorem lot_ok {σ : GSt} {g : Nat} {G : GM} {ps : PS} {z : Int32} {Q : Int32 → GSt → Prop} (hG : GOK G) (hV : PV G ps) (hz : psS ps = 0) (hL : Lv σ g 0 G ps) (h45 : σ 237 45 = z) (hQ : ∀ σ' : GSt, Lv σ' g 0 G ps → σ' 237 45 = lotN z → SF σ σ' → Q (nI (drw (lotN z) (mvl G ps).length)) σ') : D_X11_lot σ Q := by
  intro s1 e1
  have l1 : 1 ≤ (mvl G ps).length := List.length_pos_iff.mpr (hV.2.2.2.2 hz).2.2.2
  have l2 := mvl_len hG hV
  have eL : (mvl G ps) = ML (gW G) (gH G) (gMv G) (psP ps) (sd (psD ps)) := if_pos hz
  have v45 : s1 237 45 = lotN z := by rw [e1, up2_at, pk_us, h45]; rfl
  have r : ∀ a, a ≠ 237 → s1 a = σ a := fun a p => by rw [e1, up2_ne p]
  have r7 : ∀ k, k ≠ 45 → s1 237 k = σ 237 k := fun k p => by rw [e1, up2_at, pk_un p]
  rw [v45, r 266 (by decide), show Int32.toNatClampNeg 0 = 0 by decide, hL.2.2.2.1, ← eL, (drw_ok (lotN z) l1 (by omega)).1]
  exact ⟨nI_ne0 l1 (by omega), hQ s1 (hL.keep (fun a p q => r a (by omega)) (r7 22 (by decide))) v45 ⟨fun a p _ => r a p, fun k p => r7 k (by omega)⟩⟩
/-- the moves that win within n plies -/
def wnF (G : GM) (n : Nat) (ps : PS) : List (Nat × Nat × Nat) → Nat → Nat
  | [], c => c
  | m :: l, c => wnF G n ps l (c + if val G (n - 1) (stp G ps m) = 0 then 1 else 0)
theorem wnF_ge {G : GM} {n : Nat} {ps : PS} : ∀ (l : List (Nat × Nat × Nat)) (c : Nat), c ≤ wnF G n ps l c
  | [], _ => Nat.le_refl _
  | m :: l, c => Nat.le_trans (Nat.le_add_right _ _) (wnF_ge l _)
/-- the frame of a judging step of the class -/
def J5 (σ σ' : GSt) : Prop := ∀ a, a ≠ 50 → a ≠ 29 → a ≠ 30 → (a < 32 ∨ 38 < a) → σ' a = σ a
theorem winnersC_ok {σ : GSt} {i n : Nat} {G : GM} {ps : PS} {Q : Int32 → GSt → Prop} (hG : GOK G) (hi : kd i = 1) (i53 : 53 ≤ i) (n1 : 1 ≤ n) (hn : n ≤ 4) (hV : PV G ps) (hz : psS ps = 0) (hB : ClB σ i G) (hP : PosC σ 50 i ps) (hR : RowIs σ 51 (mvl G ps)) (hQ : ∀ (σ' : GSt) (r : Int32), J5 σ σ' → PosC σ' 50 i ps → (r = 1 ↔ wnF G n ps (mvl G ps) 0 = 1) → Q r σ') : D_X2_winners (nI (mvl G ps).length) (nI n) σ Q := by
  have hlen := mvl_len hG hV
  intro x3 e3 x4 e4
  refine ⟨(mvl G ps).length + 1, ?_⟩
  rw [hP.1.2.2.1] at e3
  rw [hP.1.2.2.2.1] at e4
  have key : ∀ (l : List (Nat × Nat × Nat)) (k c : Nat) (s : GSt), c ≤ k → (mvl G ps).drop k = l → k + l.length = (mvl G ps).length → PosC s 50 i ps → J5 σ s → wnF G n ps (mvl G ps) 0 = wnF G n ps l c → L_X2_winners_23 Q (l.length + 1) (nI (mvl G ps).length) (nI n) x3 x4 (nI c) (nI k) s := by
    intro l
    induction l with
    | nil =>
      intro k c s ck hd hk hP hf he
      rw [List.length_nil] at hk
      refine ⟨fun _ => hQ s _ hf hP ?_, fun z => absurd (nI_le (by omega) (by omega)) z⟩
      rw [he]
      exact nI_eq (b := 1) (by omega) (by decide)
    | cons m l ih =>
      intro k c s ck hd hk hP hf he
      rw [List.length_cons] at hk
      have hm : (mvl G ps)[k]? = some m := by
        have : ((mvl G ps).drop k)[0]? = some m := by rw [hd]; rfl
        rw [List.getElem?_drop, Nat.add_zero] at this
        exact this
      have hmem := List.mem_of_getElem? hm
      have hB3 : ∀ s', (∀ a, 53 ≤ a → s' a = s a) → ClB s' i G := fun s' h' => hB.row hG (fun a p q => by rw [h' a (by omega), hf a (by omega) (by omega) (by omega) (by omega)])
      have he2 : wnF G n ps (mvl G ps) 0 = wnF G n ps l (c + if val G (n - 1) (stp G ps m) = 0 then 1 else 0) := he
      unfold L_X2_winners_23 D_X2_winners_23
      rw [nI_clamp (show k < 2 ^ 31 by omega), hf 51 (by decide) (by decide) (by decide) (by decide), hR k m hm]
      refine ⟨fun z => absurd z (nI_ge (by omega) (by omega)), fun _ => pk_le 2 c (fun c2 => hQ s _ hf hP ?_) (fun _ => ⟨vp_in_nI (by omega) (by decide), ?_⟩)⟩
      · have := wnF_ge (G := G) (n := n) (ps := ps) (m :: l) c
        rw [he]
        show nI c = nI 1 ↔ _
        rw [nI_eq (a := c) (b := 1) (by omega) (by decide)]
        omega
      refine make_ok hG hV hmem (by omega) hP (hB3 s (fun _ _ => rfl)) (fun s3 hP3 f3 => ?_)
      have hV3 := stp_PV hG hV hmem
      have v2 := val_le (G := G) (n - 1) (stp G ps m)
      rw [show nI n - 1 = nI (n - 1) from pk_sub (b := 1) n1]
      refine valueOf_ok hG (by decide +kernel) hi (n - 1) _ s3 _ (by omega) hV3 hP3 (hB3 s3 (fun a p => f3 a (by omega))) (fun s5 hP5 f5 => ?_)
      have fin : ∀ c' : Nat, c' = (c + if val G (n - 1) (stp G ps m) = 0 then 1 else 0) → D_X2_winners_69 (L_X2_winners_23 Q (l.length + 1)) Q (nI (mvl G ps).length) (nI n) x3 x4 (nI c') (nI k) s5 := by
        intro c' ec
        refine unmake_ok (ps := ps) hz (hV.2.2.2.2 hz).2.2.1 hi hP5.1.2.1 hP5.1.2.2.2.2.1 rfl (by have := hV.2.1; omega) e3 e4 (fun s6 hP6 f6 y ey => ?_)
        rw [ey, nI_1]
        refine ih (k + 1) c' s6 (by rw [ec]; split <;> omega) ?_ (by omega) hP6 (fun a p1 p2 p3 p4 => ?_) (by rw [ec]; exact he2)
        · rw [← List.drop_drop, hd]; rfl
        · rw [f6 a p1, f5 a p1 (by omega), f3 a p1, hf a p1 p2 p3 p4]
      refine ⟨fun z => fin c ?_, fun z y ey => ?_⟩
      · rw [if_neg (fun y => z (by rw [y]; rfl)), Nat.add_zero]
      · rw [ey, nI_1]
        exact fin (c + 1) (by rw [if_pos ((nI_eq (b := 0) (by omega) (by decide)).mp z)])
  exact key _ 0 0 σ (Nat.le_refl _) (List.drop_zero) (by omega) hP (fun _ _ _ _ _ => rfl) rfl
theorem winning_ok {σ : GSt} {g n : Nat} {G : GM} {ps : PS} {Q : Int32 → GSt → Prop} (hG : GOK G) (n1 : 1 ≤ n) (hn : n ≤ 4) (hV : PV G ps) (hz : psS ps = 0) (hL : Lv σ g 0 G ps) (hQ : ∀ (σ' : GSt) (r : Int32), σ' 237 = σ 237 → SF σ σ' → Lv σ' g 0 G ps → (r = 1 ↔ wnF G n ps (mvl G ps) 0 = 1) → Q r σ') : D_X11_winning (nI n) σ Q := by
  have hlen := mvl_len hG hV
  have eL : (mvl G ps) = ML (gW G) (gH G) (gMv G) (psP ps) (sd (psD ps)) := if_pos hz
  refine ⟨(mvl G ps).length + 1, ?_⟩
  have key : ∀ (l : List (Nat × Nat × Nat)) (k c : Nat) (s : GSt), c ≤ k → (mvl G ps).drop k = l → k + l.length = (mvl G ps).length → Lv s g 0 G ps → SF σ s → s 237 = σ 237 → wnF G n ps (mvl G ps) 0 = wnF G n ps l c → L_X11_winning_4 Q (l.length + 1) (nI n) (nI c) (nI k) s := by
    intro l
    induction l with
    | nil =>
      intro k c s ck hd hk hL hf h7 he
      rw [List.length_nil] at hk
      unfold L_X11_winning_4 D_X11_winning_4
      rw [show Int32.toNatClampNeg 0 = 0 by decide, hL.2.2.2.1, ← eL]
      refine ⟨fun _ => hQ s _ h7 hf hL ?_, fun z => absurd (nI_le (by omega) (by omega)) z⟩
      rw [he]
      exact nI_eq (b := 1) (by omega) (by decide)
    | cons m l ih =>
      intro k c s ck hd hk hL hf h7 he
      rw [List.length_cons] at hk
      have hm : (mvl G ps)[k]? = some m := by
        have : ((mvl G ps).drop k)[0]? = some m := by rw [hd]; rfl
        rw [List.getElem?_drop, Nat.add_zero] at this
        exact this
      have hV3 := stp_PV hG hV (List.mem_of_getElem? hm)
      have v2 := val_le (G := G) (n - 1) (stp G ps m)
      have he2 : wnF G n ps (mvl G ps) 0 = wnF G n ps l (c + if val G (n - 1) (stp G ps m) = 0 then 1 else 0) := he
      unfold L_X11_winning_4 D_X11_winning_4
      rw [show Int32.toNatClampNeg 0 = 0 by decide, hL.2.2.2.1, ← eL, show nI n - 1 = nI (n - 1) from pk_sub (b := 1) n1]
      refine ⟨fun z => absurd z (nI_ge (by omega) (by omega)), fun _ => ?_⟩
      refine does_ok (d := 0) hG hV (by decide) hL hm (fun s1 hL1 f1 => ?_)
      have hL01 := hL.other hG hV (by decide) f1
      refine lookAt_ok (d := 1) hG (by omega) hV3 hL1 (fun s4 f4 hL4 => ?_)
      have hL04 := hL01.low hG hV (by decide) f4
      have F : SF σ s4 := hf.trans ((SF.ofPF (PF.ofLF f1)).trans (SF.ofLG f4))
      have F7 : s4 237 = σ 237 := by rw [f4.1 237 (by decide), f1.1 237 (by decide), h7]
      have fin : ∀ (s1' : Int32) (c' : Nat), s1' = nI c' → c + c' = (c + if val G (n - 1) (stp G ps m) = 0 then 1 else 0) → D_X11_winning_37 (L_X11_winning_4 Q (l.length + 1)) Q (nI n) (nI k) (nI c) s1' s4 := by
        intro s1' c' es ec y ey w ew
        rw [ey, ew, es, nI_add, nI_1]
        refine ih (k + 1) _ s4 (by rw [ec]; split <;> omega) ?_ (by omega) hL04 F F7 (by rw [ec]; exact he2)
        rw [← List.drop_drop, hd]; rfl
      refine ⟨fun z => fin 0 0 rfl ?_, fun z => fin 1 1 rfl ?_⟩
      · rw [if_neg (fun y => z (by rw [y]; rfl))]
      · rw [if_pos ((nI_eq (b := 0) (by omega) (by decide)).mp z)]
  exact key _ 0 0 σ (Nat.le_refl _) (List.drop_zero) (by omega) hL SF.rf rfl rfl
/-- the move that a lot draws -/
def mvD (G : GM) (ps : PS) (z : Int32) : Option (Nat × Nat × Nat) := (mvl G ps)[drw (lotN z) (mvl G ps).length]?
def pzB (G : GM) (n : Nat) (ps : PS) : Bool := decide (1 < (mvl G ps).length) && decide (tot G n ps ≤ 3000) && decide (wnF G n ps (mvl G ps) 0 = 1)
def pzl (G : GM) (n : Nat) : Nat → PS → Int32 → Int32
  | 0, _, _ => -9
  | f + 1, ps, z => if psS ps = 0 then (if pzB G n ps then nI (psD ps) else match mvD G ps z with
    | some m => pzl G n f (stp G ps m) (lotN z)
    | none => -9) else -9
theorem pzl_s {G : GM} {n f : Nat} {ps : PS} {z : Int32} {m : Nat × Nat × Nat} (hz : psS ps = 0) (hb : pzB G n ps = false) (hm : mvD G ps z = some m) : pzl G n (f + 1) ps z = pzl G n f (stp G ps m) (lotN z) := by
  show (if psS ps = 0 then (if pzB G n ps then nI (psD ps) else match mvD G ps z with
    | some m => pzl G n f (stp G ps m) (lotN z)
    | none => -9) else -9) = _
  rw [if_pos hz, hb, hm]
  rfl
theorem pzl_y {G : GM} {n f : Nat} {ps : PS} {z : Int32} (hz : psS ps = 0) (hb : pzB G n ps = true) : pzl G n (f + 1) ps z = nI (psD ps) := by
  show (if psS ps = 0 then (if pzB G n ps then nI (psD ps) else match mvD G ps z with
    | some m => pzl G n f (stp G ps m) (lotN z)
    | none => -9) else -9) = _
  rw [if_pos hz, hb]
  rfl
theorem pzl_n {G : GM} {n f : Nat} {ps : PS} {z : Int32} (hz : ¬ psS ps = 0) : pzl G n (f + 1) ps z = -9 := if_neg hz
theorem pzlC_ok {σ : GSt} {i n : Nat} {G : GM} {z : Int32} {Q : Int32 → GSt → Prop} (hG : GOK G) (hi : kd i = 1) (i53 : 53 ≤ i) (n1 : 1 ≤ n) (hn : n ≤ 4) (hB : ClB σ i G) (hQ : ∀ σ' : GSt, JF σ σ' → Q (pzl G n 61 (beg G) z) σ') : D_X2_firstPuzzle i z (nI n) σ Q := by
  refine begin_ok hG hi (by omega) hB (fun s1 hP1 f1 => ⟨61, ?_⟩)
  have key : ∀ (f : Nat) (ps : PS) (z' : Int32) (s : GSt), psD ps + f = 60 → PV G ps → PosC s 50 i ps → JF σ s → pzl G n 61 (beg G) z = pzl G n (f + 1) ps z' → L_X2_firstPuzzle_14 Q (f + 1) (nI n) z' (nI (psD ps)) s := by
    intro f
    induction f with
    | zero =>
      intro ps z' s hf hV hP hJ he
      have nz : ¬ psS ps = 0 := fun y => by have := (hV.2.2.2.2 y).1; omega
      rw [pzl_n nz] at he
      have := hQ s hJ
      rw [he] at this
      exact ⟨fun _ => this, fun y => absurd (nI_le (a := 60) (by omega) (by omega)) y⟩
    | succ f ih =>
      intro ps z' s hf hV hP hJ he
      have s3 := hV.2.2.1
      have hlen := mvl_len hG hV
      have hBs : ∀ s', (∀ a, 53 ≤ a → s' a = s a) → ClB s' i G := fun s' h' => hB.row hG (fun a p q => by rw [h' a (by omega), hJ a (by omega)])
      unfold L_X2_firstPuzzle_14 D_X2_firstPuzzle_14
      rw [hP.2.1]
      refine ⟨fun y => absurd y (nI_ge (b := 60) (by omega) (by decide)), fun _ => ⟨fun y => ?_, fun y => ?_⟩⟩
      · have := hQ s hJ
        rw [he, pzl_n (fun w => y (by rw [w]; rfl))] at this
        exact this
      · have hz := (nI_eq (b := 0) (by omega) (by decide)).mp y
        have l1 : 1 ≤ (mvl G ps).length := List.length_pos_iff.mpr (hV.2.2.2.2 hz).2.2.2
        refine listC_ok hG hV (by decide +kernel) (by decide) (by omega) hP (hBs s (fun _ _ => rfl)) (fun s2 hR2 f2 => ?_)
        have hP2 : PosC s2 50 i ps := hP.row (f2 50 (by decide))
        have hB2 := hBs s2 (fun a p => f2 a (by omega))
        have next : pzB G n ps = false → ∀ s4 : GSt, J5 s2 s4 → PosC s4 50 i ps → D_X2_firstPuzzle_79 (L_X2_firstPuzzle_14 Q (f + 1)) Q (nI n) z' (nI (psD ps)) (nI (mvl G ps).length) s4 := by
          intro hb s4 f4 hP4
          refine nextLot_ok (drawn_ok l1 (by omega) ?_)
          obtain ⟨d1, d2⟩ := drw_ok (lotN z') l1 (by omega)
          obtain ⟨m, hm⟩ : ∃ m, (mvl G ps)[drw (lotN z') (mvl G ps).length]? = some m := ⟨_, List.getElem?_eq_getElem d2⟩
          have hmem := List.mem_of_getElem? hm
          refine ⟨vp_in_nI (by omega) (by decide), ?_⟩
          rw [nI_clamp (show drw (lotN z') (mvl G ps).length < 2 ^ 31 by omega), f4 51 (by decide) (by decide) (by decide) (by decide), hR2 _ m hm]
          refine make_ok hG hV hmem (by omega) hP4 (hBs s4 (fun a p => by rw [f4 a (by omega) (by omega) (by omega) (by omega), f2 a (by omega)])) (fun s5 hP5 f5 w ew => ?_)
          rw [ew, nI_1]
          refine ih (stp G ps m) (lotN z') s5 (show psD ps + 1 + f = 60 by omega) (stp_PV hG hV hmem) hP5 (fun a p => by rw [f5 a (by omega), f4 a (by omega) (by omega) (by omega) (by omega), f2 a (by omega), hJ a p]) ?_
          rw [he, pzl_s hz hb hm]
        refine pk_le (mvl G ps).length 1 (fun w => next ?_ s2 (fun _ _ _ _ _ => rfl) hP2) (fun w => ?_)
        · unfold pzB; rw [decide_eq_false (show ¬ 1 < (mvl G ps).length by omega)]; rfl
        · refine isSpentC_ok hG (by decide +kernel) hi (by omega) hV hP2 hB2 (fun s4 ht hP4 f4 => ⟨fun _ => next ?_ s4 f4 hP4, fun w => absurd w (by decide)⟩) (fun s4 ht hP4 f4 _ => ⟨fun w => absurd rfl w, fun _ => ?_⟩)
          · unfold pzB; rw [decide_eq_false (show ¬ tot G n ps ≤ 3000 by omega), Bool.and_false]; rfl
          · refine winnersC_ok hG hi i53 n1 hn hV hz (hBs s4 (fun a p => by rw [f4 a (by omega) (by omega) (by omega) (by omega), f2 a (by omega)])) hP4 (hR2.row (f4 51 (by decide) (by decide) (by decide) (by decide))) (fun s6 r f6 hP6 hr => ⟨fun q => next ?_ s6 (fun a p1 p2 p3 p4 => by rw [f6 a p1 p2 p3 p4, f4 a p1 p2 p3 p4]) hP6, fun q => ?_⟩)
            · unfold pzB; rw [decide_eq_false (fun w => q (hr.mpr w)), Bool.and_false]
            · have := hQ s6 (fun a p => by rw [f6 a (by omega) (by omega) (by omega) (by omega), f4 a (by omega) (by omega) (by omega) (by omega), f2 a (by omega), hJ a p])
              rw [he, pzl_y hz (by unfold pzB; rw [decide_eq_true w, decide_eq_true ht, decide_eq_true (hr.mp q)]; rfl)] at this
              exact this
  exact key 60 (beg G) z s1 rfl (beg_PV hG) hP1 (fun a p => f1 a (by omega)) rfl
theorem pzlM_ok {σ : GSt} {g n : Nat} {G : GM} {z : Int32} {Q : Int32 → GSt → Prop} (hG : GOK G) (n1 : 1 ≤ n) (hn : n ≤ 4) (hL : Lv σ g 0 G (beg G)) (h45 : σ 237 45 = z) (hQ : ∀ σ' : GSt, SF σ σ' → Q (pzl G n 61 (beg G) z) σ') : ∃ f : Nat, L_X11_puzzle_47 Q f (nI n) σ := by
  refine ⟨61, ?_⟩
  have key : ∀ (f : Nat) (ps : PS) (z' : Int32) (s : GSt), psD ps + f = 60 → PV G ps → Lv s g 0 G ps → s 237 45 = z' → SF σ s → pzl G n 61 (beg G) z = pzl G n (f + 1) ps z' → L_X11_puzzle_47 Q (f + 1) (nI n) s := by
    intro f
    induction f with
    | zero =>
      intro ps z' s hf hV hL h45 hJ he
      have s3 := hV.2.2.1
      have nz : ¬ psS ps = 0 := fun y => by have := (hV.2.2.2.2 y).1; omega
      rw [pzl_n nz] at he
      have := hQ s hJ
      rw [he] at this
      unfold L_X11_puzzle_47 D_X11_puzzle_47
      rw [show Int32.toNatClampNeg 0 = 0 by decide, hL.2.2.1.2.2.1]
      exact ⟨fun _ => this, fun y => absurd ((nI_eq (b := 0) (by omega) (by decide)).mp y) nz⟩
    | succ f ih =>
      intro ps z' s hf hV hL h45 hJ he
      have s3 := hV.2.2.1
      have hlen := mvl_len hG hV
      unfold L_X11_puzzle_47 D_X11_puzzle_47
      rw [show Int32.toNatClampNeg 0 = 0 by decide, hL.2.2.1.2.2.1]
      refine ⟨fun y => ?_, fun y => ?_⟩
      · have := hQ s hJ
        rw [he, pzl_n (fun w => y (by rw [w]; rfl))] at this
        exact this
      · have hz := (nI_eq (b := 0) (by omega) (by decide)).mp y
        have l1 : 1 ≤ (mvl G ps).length := List.length_pos_iff.mpr (hV.2.2.2.2 hz).2.2.2
        have eL : (mvl G ps) = ML (gW G) (gH G) (gMv G) (psP ps) (sd (psD ps)) := if_pos hz
        have next : pzB G n ps = false → ∀ s4 : GSt, SF s s4 → Lv s4 g 0 G ps → s4 237 45 = z' → D_X11_puzzle_91 (L_X11_puzzle_47 Q (f + 1)) Q (nI n) s4 := by
          intro hb s4 f4 hL4 h45'
          unfold D_X11_puzzle_91
          refine lot_ok hG hV hz hL4 h45' (fun s5 hL5 e5 f5 => ?_)
          obtain ⟨d1, d2⟩ := drw_ok (lotN z') l1 (by omega)
          obtain ⟨m, hm⟩ : ∃ m, (mvl G ps)[drw (lotN z') (mvl G ps).length]? = some m := ⟨_, List.getElem?_eq_getElem d2⟩
          refine goesOn_ok hG hV hL5 hm (fun s6 hL6 f6 => ?_)
          refine ih (stp G ps m) (lotN z') s6 (show psD ps + 1 + f = 60 by omega) (stp_PV hG hV (List.mem_of_getElem? hm)) hL6 ?_ (hJ.trans (f4.trans (f5.trans (SF.ofPF f6)))) ?_
          · rw [f6.2 45 (by decide) (by decide), e5]
          · rw [he, pzl_s hz hb hm]
        rw [hL.2.2.2.1, ← eL]
        refine pk_le (mvl G ps).length 1 (fun w => next ?_ s SF.rf hL h45) (fun w => ?_)
        · unfold pzB; rw [decide_eq_false (show ¬ 1 < (mvl G ps).length by omega)]; rfl
        · refine isSpentM_ok (d := 0) hG (by omega) (by omega) hV hL (fun s4 ht f4 hL4 => ⟨fun _ => next ?_ s4 (SF.ofLG f4) hL4 (by rw [f4.1 237 (by decide)]; exact h45), fun w => absurd w (by decide)⟩) (fun s4 ht f4 hL4 _ => ⟨fun w => absurd rfl w, fun _ => ?_⟩)
          · unfold pzB; rw [decide_eq_false (show ¬ tot G n ps ≤ 3000 by omega), Bool.and_false]; rfl
          · refine winning_ok hG n1 hn hV hz hL4 (fun s6 r e6 f6 hL6 hr => ⟨fun q => next ?_ s6 ((SF.ofLG f4).trans f6) hL6 (by rw [e6, f4.1 237 (by decide)]; exact h45), fun q => ?_⟩)
            · unfold pzB; rw [decide_eq_false (fun w => q (hr.mpr w)), Bool.and_false]
            · have := hQ s6 (hJ.trans ((SF.ofLG f4).trans f6))
              rw [he, pzl_y hz (by unfold pzB; rw [decide_eq_true w, decide_eq_true ht, decide_eq_true (hr.mp q)]; rfl)] at this
              rw [hL6.2.2.1.2.1]
              exact this
  exact key 60 (beg G) z σ rfl (beg_PV hG) hL h45 SF.rf rfl
