def blB (G : GM) (n : Nat) (ps : PS) (m : Nat × Nat × Nat) : Bool := decide (tot G n ps ≤ 3000) && decide (val G n ps = 2) && decide (0 < val G (n - 1) (stp G ps m))
def bld (G : GM) (n : Nat) : Nat → PS → Int32 → Int32
  | 0, _, _ => -9
  | f + 1, ps, z => if psS ps = 0 then (match mvD G ps z with
    | some m => if blB G n ps m then nI (psD ps) else bld G n f (stp G ps m) (lotN z)
    | none => -9) else -9
theorem bld_s {G : GM} {n f : Nat} {ps : PS} {z : Int32} {m : Nat × Nat × Nat} (hz : psS ps = 0) (hm : mvD G ps z = some m) : bld G n (f + 1) ps z = if blB G n ps m then nI (psD ps) else bld G n f (stp G ps m) (lotN z) := by
  show (if psS ps = 0 then (match mvD G ps z with
    | some m => if blB G n ps m then nI (psD ps) else bld G n f (stp G ps m) (lotN z)
    | none => -9) else -9) = _
  rw [if_pos hz, hm]
theorem bld_n {G : GM} {n f : Nat} {ps : PS} {z : Int32} (hz : ¬ psS ps = 0) : bld G n (f + 1) ps z = -9 := if_neg hz
theorem bldC_ok {σ : GSt} {i n : Nat} {G : GM} {z : Int32} {Q : Int32 → GSt → Prop} (hG : GOK G) (hi : kd i = 1) (i53 : 53 ≤ i) (n1 : 1 ≤ n) (hn : n ≤ 4) (hB : ClB σ i G) (hQ : ∀ σ' : GSt, JF σ σ' → Q (bld G n 61 (beg G) z) σ') : D_X2_firstBlunder i z (nI n) σ Q := by
  refine begin_ok hG hi (by omega) hB (fun s1 hP1 f1 => ⟨61, ?_⟩)
  have key : ∀ (f : Nat) (ps : PS) (z' : Int32) (s : GSt), psD ps + f = 60 → PV G ps → PosC s 50 i ps → JF σ s → bld G n 61 (beg G) z = bld G n (f + 1) ps z' → L_X2_firstBlunder_14 Q (f + 1) (nI n) z' (nI (psD ps)) s := by
    intro f
    induction f with
    | zero =>
      intro ps z' s hf hV hP hJ he
      have nz : ¬ psS ps = 0 := fun y => by have := (hV.2.2.2.2 y).1; omega
      rw [bld_n nz] at he
      have := hQ s hJ
      rw [he] at this
      exact ⟨fun _ => this, fun y => absurd (nI_le (a := 60) (by omega) (by omega)) y⟩
    | succ f ih =>
      intro ps z' s hf hV hP hJ he
      have s3 := hV.2.2.1
      have hlen := mvl_len hG hV
      have hBs : ∀ s', (∀ a, 53 ≤ a → s' a = s a) → ClB s' i G := fun s' h' => hB.row hG (fun a p q => by rw [h' a (by omega), hJ a (by omega)])
      unfold L_X2_firstBlunder_14 D_X2_firstBlunder_14
      rw [hP.2.1]
      refine ⟨fun y => absurd y (nI_ge (b := 60) (by omega) (by decide)), fun _ => ⟨fun y => ?_, fun y => ?_⟩⟩
      · have := hQ s hJ
        rw [he, bld_n (fun w => y (by rw [w]; rfl))] at this
        exact this
      · have hz := (nI_eq (b := 0) (by omega) (by decide)).mp y
        have l1 : 1 ≤ (mvl G ps).length := List.length_pos_iff.mpr (hV.2.2.2.2 hz).2.2.2
        obtain ⟨d1, d2⟩ := drw_ok (lotN z') l1 (by omega)
        obtain ⟨m, hm⟩ : ∃ m, (mvl G ps)[drw (lotN z') (mvl G ps).length]? = some m := ⟨_, List.getElem?_eq_getElem d2⟩
        have hmem := List.mem_of_getElem? hm
        have hV5 := stp_PV hG hV hmem
        rw [bld_s hz hm] at he
        have s67 : ∀ (b : Bool) (s0 : Int32), (s0 = 0 ↔ b = false) → (b = (decide (tot G n ps ≤ 3000) && decide (val G n ps = 2))) → ∀ s4 : GSt, (∀ a, 53 ≤ a ∨ a ≤ 2 → s4 a = s a) → PosC s4 50 i ps → D_X2_firstBlunder_67 (L_X2_firstBlunder_14 Q (f + 1)) Q (nI n) z' (nI (psD ps)) s0 s4 := by
          intro b s0 hs hb s4 f4 hP4
          refine listC_ok hG hV (by decide +kernel) (by decide) (by omega) hP4 (hBs s4 (fun a p => f4 a (by omega))) (fun s5 hR5 f5 => ?_)
          refine nextLot_ok (drawn_ok l1 (by omega) ⟨vp_in_nI (by omega) (by decide), ?_⟩)
          rw [nI_clamp (show drw (lotN z') (mvl G ps).length < 2 ^ 31 by omega), hR5 _ m hm]
          refine make_ok hG hV hmem (by omega) (hP4.row (f5 50 (by decide))) (hBs s5 (fun a p => by rw [f5 a (by omega), f4 a (by omega)])) (fun s6 hP6 f6 => ?_)
          have next : blB G n ps m = false → ∀ s7 : GSt, (∀ a, 53 ≤ a ∨ a ≤ 2 → s7 a = s a) → PosC s7 50 i (stp G ps m) → D_X2_firstBlunder_133 (L_X2_firstBlunder_14 Q (f + 1)) Q (nI n) (lotN z') (nI (psD ps)) s7 := by
            intro hb s7 f7 hP7 w ew
            rw [ew, nI_1]
            rw [hb] at he
            exact ih (stp G ps m) (lotN z') s7 (show psD ps + 1 + f = 60 by omega) hV5 hP7 (fun a p => by rw [f7 a (by omega), hJ a p]) he
          have f6' : ∀ a, 53 ≤ a ∨ a ≤ 2 → s6 a = s a := fun a p => by rw [f6 a (by omega), f5 a (by omega), f4 a p]
          refine ⟨fun w => next ?_ s6 f6' hP6, fun w => ?_⟩
          · unfold blB; rw [← hb, hs.mp w]; rfl
          · have hbt : b = true := by rw [← Bool.not_eq_false]; exact fun q => w (hs.mpr q)
            have v2 := val_le (G := G) (n - 1) (stp G ps m)
            rw [show nI n - 1 = nI (n - 1) from pk_sub (b := 1) n1]
            refine valueOf_ok hG (by decide +kernel) hi (n - 1) _ s6 _ (by omega) hV5 hP6 (hBs s6 (fun a p => f6' a (by omega))) (fun s7 hP7 f7 => pk_le (val G (n - 1) (stp G ps m)) 0 (fun q => next ?_ s7 (fun a p => by rw [f7 a (by omega) (by omega), f6' a p]) hP7) (fun q => ?_))
            · unfold blB; rw [decide_eq_false (show ¬ 0 < val G (n - 1) (stp G ps m) by omega), Bool.and_false]
            · have := hQ s7 (fun a p => by rw [f7 a (by omega) (by omega), f6' a (by omega), hJ a p])
              rw [he, if_pos (by unfold blB; rw [← hb, hbt, decide_eq_true q]; rfl)] at this
              exact this
        refine isSpentC_ok hG (by decide +kernel) hi (by omega) hV hP (hBs s (fun _ _ => rfl)) (fun s4 ht hP4 f4 => ⟨fun _ => s67 false 0 ⟨fun _ => rfl, fun _ => rfl⟩ ?_ s4 (fun a p => f4 a (by omega) (by omega) (by omega) (by omega)) hP4, fun w => absurd w (by decide)⟩) (fun s4 ht hP4 f4 _ => ⟨fun w => absurd rfl w, fun _ => ?_⟩)
        · rw [decide_eq_false (show ¬ tot G n ps ≤ 3000 by omega)]; rfl
        · have v2 := val_le (G := G) n ps
          refine valueOf_ok hG (by decide +kernel) hi n _ s4 _ (by omega) hV hP4 (hBs s4 (fun a p => f4 a (by omega) (by omega) (by omega) (by omega))) (fun s7 hP7 f7 => ⟨fun q => ?_, fun q => ?_⟩)
          · refine s67 false 0 ⟨fun _ => rfl, fun _ => rfl⟩ ?_ s7 (fun a p => by rw [f7 a (by omega) (by omega), f4 a (by omega) (by omega) (by omega) (by omega)]) hP7
            rw [decide_eq_false (show ¬ val G n ps = 2 from fun w => q (by rw [w]; rfl)), Bool.and_false]
          · refine s67 true 1 ⟨fun w => absurd w (by decide), fun w => absurd w (by decide)⟩ ?_ s7 (fun a p => by rw [f7 a (by omega) (by omega), f4 a (by omega) (by omega) (by omega) (by omega)]) hP7
            rw [decide_eq_true ht, decide_eq_true ((nI_eq (b := 2) (by omega) (by decide)).mp q)]; rfl
  exact key 60 (beg G) z s1 rfl (beg_PV hG) hP1 (fun a p => f1 a (by omega)) rfl
theorem bldM_ok {σ : GSt} {g n : Nat} {G : GM} {z : Int32} {Q : Int32 → GSt → Prop} (hG : GOK G) (n1 : 1 ≤ n) (hn : n ≤ 4) (hL : Lv σ g 0 G (beg G)) (h45 : σ 237 45 = z) (hQ : ∀ σ' : GSt, SF σ σ' → Q (bld G n 61 (beg G) z) σ') : ∃ f : Nat, L_X11_blunder_47 Q f (nI n) σ := by
  refine ⟨61, ?_⟩
  have key : ∀ (f : Nat) (ps : PS) (z' : Int32) (s : GSt), psD ps + f = 60 → PV G ps → Lv s g 0 G ps → s 237 45 = z' → SF σ s → bld G n 61 (beg G) z = bld G n (f + 1) ps z' → L_X11_blunder_47 Q (f + 1) (nI n) s := by
    intro f
    induction f with
    | zero =>
      intro ps z' s hf hV hL h45 hJ he
      have s3 := hV.2.2.1
      have nz : ¬ psS ps = 0 := fun y => by have := (hV.2.2.2.2 y).1; omega
      rw [bld_n nz] at he
      have := hQ s hJ
      rw [he] at this
      unfold L_X11_blunder_47 D_X11_blunder_47
      rw [show Int32.toNatClampNeg 0 = 0 by decide, hL.2.2.1.2.2.1]
      exact ⟨fun _ => this, fun y => absurd ((nI_eq (b := 0) (by omega) (by decide)).mp y) nz⟩
    | succ f ih =>
      intro ps z' s hf hV hL h45 hJ he
      have s3 := hV.2.2.1
      have hlen := mvl_len hG hV
      unfold L_X11_blunder_47 D_X11_blunder_47
      rw [show Int32.toNatClampNeg 0 = 0 by decide, hL.2.2.1.2.2.1]
      refine ⟨fun y => ?_, fun y => ?_⟩
      · have := hQ s hJ
        rw [he, bld_n (fun w => y (by rw [w]; rfl))] at this
        exact this
      · have hz := (nI_eq (b := 0) (by omega) (by decide)).mp y
        have l1 : 1 ≤ (mvl G ps).length := List.length_pos_iff.mpr (hV.2.2.2.2 hz).2.2.2
        obtain ⟨d1, d2⟩ := drw_ok (lotN z') l1 (by omega)
        obtain ⟨m, hm⟩ : ∃ m, (mvl G ps)[drw (lotN z') (mvl G ps).length]? = some m := ⟨_, List.getElem?_eq_getElem d2⟩
        have hV5 := stp_PV hG hV (List.mem_of_getElem? hm)
        rw [bld_s hz hm] at he
        refine lot_ok hG hV hz hL h45 (fun s1 hL1 e1 f1 => ?_)
        have next : blB G n ps m = false → ∀ s4 : GSt, SF s s4 → Lv s4 g 0 G ps → s4 237 45 = lotN z' → D_X11_blunder_106 (L_X11_blunder_47 Q (f + 1)) Q (nI n) (nI (drw (lotN z') (mvl G ps).length)) s4 := by
          intro hb s4 f4 hL4 h45'
          unfold D_X11_blunder_106
          rw [hb] at he
          refine goesOn_ok hG hV hL4 hm (fun s6 hL6 f6 => ?_)
          exact ih (stp G ps m) (lotN z') s6 (show psD ps + 1 + f = 60 by omega) hV5 hL6 (by rw [f6.2 45 (by decide) (by decide), h45']) (hJ.trans (f4.trans (SF.ofPF f6))) he
        refine isSpentM_ok (d := 0) hG (by omega) (by omega) hV hL1 (fun s4 ht f4 hL4 => ⟨fun _ => next ?_ s4 (f1.trans (SF.ofLG f4)) hL4 (by rw [f4.1 237 (by decide), e1]), fun w => absurd w (by decide)⟩) (fun s4 ht f4 hL4 _ => ⟨fun w => absurd rfl w, fun _ => ?_⟩)
        · unfold blB; rw [decide_eq_false (show ¬ tot G n ps ≤ 3000 by omega)]; rfl
        · have v2 := val_le (G := G) n ps
          refine lookAt_ok (d := 0) hG (by omega) hV hL4 (fun s5 f5 hL5 => ⟨fun q => next ?_ s5 (f1.trans ((SF.ofLG f4).trans (SF.ofLG f5))) hL5 (by rw [f5.1 237 (by decide), f4.1 237 (by decide), e1]), fun q => ?_⟩)
          · unfold blB; rw [decide_eq_false (show ¬ val G n ps = 2 from fun w => q (by rw [w]; rfl)), Bool.and_false]; rfl
          · refine does_ok (d := 0) hG hV (by decide) hL5 hm (fun s6 hL6 f6 => ?_)
            have hL06 := hL5.other hG hV (by decide) f6
            have v3 := val_le (G := G) (n - 1) (stp G ps m)
            rw [show nI n - 1 = nI (n - 1) from pk_sub (b := 1) n1]
            refine lookAt_ok (d := 1) hG (by omega) hV5 hL6 (fun s7 f7 hL7 => ?_)
            have hL07 := hL06.low hG hV (by decide) f7
            have F7 : SF s s7 := f1.trans ((SF.ofLG f4).trans ((SF.ofLG f5).trans ((SF.ofPF (PF.ofLF f6)).trans (SF.ofLG f7))))
            refine pk_le (val G (n - 1) (stp G ps m)) 0 (fun w => next ?_ s7 F7 hL07 (by rw [f7.1 237 (by decide), f6.1 237 (by decide), f5.1 237 (by decide), f4.1 237 (by decide), e1])) (fun w => ?_)
            · unfold blB; rw [decide_eq_false (show ¬ 0 < val G (n - 1) (stp G ps m) by omega), Bool.and_false]
            · have := hQ s7 (hJ.trans F7)
              rw [he, if_pos (by unfold blB; rw [decide_eq_true ht, decide_eq_true ((nI_eq (b := 2) (by omega) (by decide)).mp q), decide_eq_true w]; rfl)] at this
              show Q (s7 259 0) s7
              rw [hL07.2.2.1.2.1]
              exact this
  exact key 60 (beg G) z σ rfl (beg_PV hG) hL h45 SF.rf rfl
theorem op_puzzle : Op_puzzle InvA := by
  intro x1 x2 x3 σ hI
  obtain ⟨ng, Gs, Ls, tp, pl, h⟩ := id hI
  have n8 := h.1.1
  have c20 : ∀ x : Int32, rfC σ x 237 20 = nI ng := fun x => by rw [rfC_ne (by decide)]; exact h.1.2.2
  unfold D_X10_puzzle D_X10_puzzle_0 D_X10_refusalOfJudging D_X10_refusalOfJudging_0
  refine noGame_ok n8 h.1.2.1 (fun hno => ⟨fun z => absurd z (by decide), fun _ => ⟨fun z => absurd z (by decide), fun _ => refuse_ok rf_1 ?_⟩⟩) (fun i hi e => ⟨fun _ => ⟨fun q => ⟨fun q2 => ⟨fun _ => ?_, fun y => absurd rfl y⟩, fun q2 => ⟨fun y => absurd y (by decide), fun _ => refuse_ok rf_6 ?_⟩⟩, fun q => ⟨fun y => absurd y (by decide), fun _ => refuse_ok rf_4 ?_⟩⟩, fun z => absurd rfl z⟩)
  · unfold D_X11_puzzle D_X11_puzzle_0
    exact isGame_ok n8 (c20 _) (fun _ => ⟨fun z => absurd rfl z, fun _ => no_ok rf_1 ⟨rfl, hI.rf rf_1⟩⟩) (fun i hi e => absurd e (hno i hi))
  · subst e
    obtain ⟨hG, -⟩ := (h.2.1 i hi).ok
    obtain ⟨n, hn, en⟩ := nI_of2 (n := 4) (by decide) (Int32.not_lt.mpr (Int32.le_trans (by decide) q)) q2
    have n1 : 1 ≤ n := by rw [en] at q; exact (nI_leI (a := 1) (by decide) (by omega)).mp q
    rw [nI_clamp (show i < 2 ^ 31 by omega), en]
    refine ⟨vp_in_nI (by omega) (by decide), pzlC_ok hG (kdg (by omega)) (by omega) n1 hn (h.2.1 i hi).cb (fun s1 f1 => ?_)⟩
    have h1 := h.keep (KP.ofC f1)
    unfold D_X11_puzzle D_X11_puzzle_0
    refine isGame_ok n8 h1.1.2.2 (fun hno => absurd rfl (hno i hi)) (fun _ _ _ => ⟨fun _ => ?_, fun z => absurd z (by decide)⟩)
    refine out_ok (lo := 1) (hi := 4) (by decide) (by decide) (fun y => absurd y (nI_nlt (b := 1) n1 (by omega))) (fun _ y => absurd y (nI_nlt (a := 4) hn (by omega))) (fun _ _ => ⟨fun _ => ?_, fun y => absurd rfl y⟩)
    refine opens_ok hG (h1.mgr hi) (fun s2 hL2 f2 s3 e3 => ?_)
    have hL3 : Lv s3 i 0 (Gs i) (beg (Gs i)) := hL2.keep (fun a p q => by rw [e3, up2_ne (by omega)]) (by rw [e3, up2_at, pk_un (by decide)])
    have f3 : SF s2 s3 := ⟨fun a p _ => by rw [e3, up2_ne p], fun k p => by rw [e3, up2_at, pk_un (by omega)]⟩
    exact pzlM_ok hG n1 hn hL3 (by rw [e3, up2_at, pk_us]) (fun s4 f4 => ⟨rfl, _, _, _, _, _, h1.keep (KP.ofSF ((SF.ofPF f2).trans (f3.trans f4)))⟩)
  · subst e
    unfold D_X11_puzzle D_X11_puzzle_0
    refine isGame_ok n8 (c20 _) (fun hno => absurd rfl (hno i hi)) (fun _ _ _ => ⟨fun _ => ?_, fun z => absurd z (by decide)⟩)
    exact out_ok (lo := 1) (hi := 4) (by decide) (by decide) (fun y => absurd y (Int32.not_lt.mpr q)) (fun _ y => ⟨fun w => absurd w (by decide), fun _ => no_ok rf_6 ⟨rfl, hI.rf rf_6⟩⟩) (fun _ y => absurd (Int32.not_le.mp q2) y)
  · subst e
    unfold D_X11_puzzle D_X11_puzzle_0
    refine isGame_ok n8 (c20 _) (fun hno => absurd rfl (hno i hi)) (fun _ _ _ => ⟨fun _ => ?_, fun z => absurd z (by decide)⟩)
    exact out_ok (lo := 1) (hi := 4) (by decide) (by decide) (fun y => ⟨fun w => absurd w (by decide), fun _ => no_ok rf_4 ⟨rfl, hI.rf rf_4⟩⟩) (fun y _ => absurd (Int32.not_le.mp q) y) (fun y _ => absurd (Int32.not_le.mp q) y)
theorem op_blunder : Op_blunder InvA := by
  intro x1 x2 x3 σ hI
  obtain ⟨ng, Gs, Ls, tp, pl, h⟩ := id hI
  have n8 := h.1.1
  have c20 : ∀ x : Int32, rfC σ x 237 20 = nI ng := fun x => by rw [rfC_ne (by decide)]; exact h.1.2.2
  unfold D_X10_blunder D_X10_blunder_0 D_X10_refusalOfJudging D_X10_refusalOfJudging_0
  refine noGame_ok n8 h.1.2.1 (fun hno => ⟨fun z => absurd z (by decide), fun _ => ⟨fun z => absurd z (by decide), fun _ => refuse_ok rf_1 ?_⟩⟩) (fun i hi e => ⟨fun _ => ⟨fun q => ⟨fun q2 => ⟨fun _ => ?_, fun y => absurd rfl y⟩, fun q2 => ⟨fun y => absurd y (by decide), fun _ => refuse_ok rf_6 ?_⟩⟩, fun q => ⟨fun y => absurd y (by decide), fun _ => refuse_ok rf_4 ?_⟩⟩, fun z => absurd rfl z⟩)
  · unfold D_X11_blunder D_X11_blunder_0
    exact isGame_ok n8 (c20 _) (fun _ => ⟨fun z => absurd rfl z, fun _ => no_ok rf_1 ⟨rfl, hI.rf rf_1⟩⟩) (fun i hi e => absurd e (hno i hi))
  · subst e
    obtain ⟨hG, -⟩ := (h.2.1 i hi).ok
    obtain ⟨n, hn, en⟩ := nI_of2 (n := 4) (by decide) (Int32.not_lt.mpr (Int32.le_trans (by decide) q)) q2
    have n1 : 1 ≤ n := by rw [en] at q; exact (nI_leI (a := 1) (by decide) (by omega)).mp q
    rw [nI_clamp (show i < 2 ^ 31 by omega), en]
    refine ⟨vp_in_nI (by omega) (by decide), bldC_ok hG (kdg (by omega)) (by omega) n1 hn (h.2.1 i hi).cb (fun s1 f1 => ?_)⟩
    have h1 := h.keep (KP.ofC f1)
    unfold D_X11_blunder D_X11_blunder_0
    refine isGame_ok n8 h1.1.2.2 (fun hno => absurd rfl (hno i hi)) (fun _ _ _ => ⟨fun _ => ?_, fun z => absurd z (by decide)⟩)
    refine out_ok (lo := 1) (hi := 4) (by decide) (by decide) (fun y => absurd y (nI_nlt (b := 1) n1 (by omega))) (fun _ y => absurd y (nI_nlt (a := 4) hn (by omega))) (fun _ _ => ⟨fun _ => ?_, fun y => absurd rfl y⟩)
    refine opens_ok hG (h1.mgr hi) (fun s2 hL2 f2 s3 e3 => ?_)
    have hL3 : Lv s3 i 0 (Gs i) (beg (Gs i)) := hL2.keep (fun a p q => by rw [e3, up2_ne (by omega)]) (by rw [e3, up2_at, pk_un (by decide)])
    have f3 : SF s2 s3 := ⟨fun a p _ => by rw [e3, up2_ne p], fun k p => by rw [e3, up2_at, pk_un (by omega)]⟩
    exact bldM_ok hG n1 hn hL3 (by rw [e3, up2_at, pk_us]) (fun s4 f4 => ⟨rfl, _, _, _, _, _, h1.keep (KP.ofSF ((SF.ofPF f2).trans (f3.trans f4)))⟩)
  · subst e
    unfold D_X11_blunder D_X11_blunder_0
    refine isGame_ok n8 (c20 _) (fun hno => absurd rfl (hno i hi)) (fun _ _ _ => ⟨fun _ => ?_, fun z => absurd z (by decide)⟩)
    exact out_ok (lo := 1) (hi := 4) (by decide) (by decide) (fun y => absurd y (Int32.not_lt.mpr q)) (fun _ y => ⟨fun w => absurd w (by decide), fun _ => no_ok rf_6 ⟨rfl, hI.rf rf_6⟩⟩) (fun _ y => absurd (Int32.not_le.mp q2) y)
  · subst e
    unfold D_X11_blunder D_X11_blunder_0
    refine isGame_ok n8 (c20 _) (fun hno => absurd rfl (hno i hi)) (fun _ _ _ => ⟨fun _ => ?_, fun z => absurd z (by decide)⟩)
    exact out_ok (lo := 1) (hi := 4) (by decide) (by decide) (fun y => ⟨fun w => absurd w (by decide), fun _ => no_ok rf_4 ⟨rfl, hI.rf rf_4⟩⟩) (fun y _ => absurd (Int32.not_le.mp q) y) (fun y _ => absurd (Int32.not_le.mp q) y)
