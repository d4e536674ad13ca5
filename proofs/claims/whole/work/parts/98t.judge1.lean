theorem IA.mgr {σ : GSt} {ng : Nat} {Gs : Nat → GM} {Ls : Nat → List Int32} {tp : List Int32} {pl : Option (Nat × List Nat)} {i : Nat} (h : IA σ ng Gs Ls tp pl) (hi : i < ng) : MG0 σ i (Gs i) := (h.2.1 i hi).mg (by have := h.1.1; omega) h.2.2.2.2.1
theorem IA.mgC {σ : GSt} {ng : Nat} {Gs : Nat → GM} {Ls : Nat → List Int32} {tp : List Int32} {pl : Option (Nat × List Nat)} {i : Nat} {x : Int32} (h : IA σ ng Gs Ls tp pl) (hi : i < ng) : MG0 (rfC σ x) i (Gs i) := ((h.2.1 i hi).row (σ' := rfC σ x) (by have := h.1.1; omega) (fun a p q => rfC_ne (by omega)) (fun a j p q _ => by rw [rfC_ne (by omega)])).mg (by have := h.1.1; omega) (fun y hy => by rw [rfC_ne (by decide), rfC_ne (by decide)]; exact h.2.2.2.2.1 y hy)
/-- what the class's judge leaves alone -/
def JF (σ σ' : GSt) : Prop := ∀ a, a = 0 ∨ a = 1 ∨ a = 2 ∨ 53 ≤ a → σ' a = σ a
theorem JF.trans {σ σ' σ'' : GSt} (h : JF σ σ') (k : JF σ' σ'') : JF σ σ'' := fun a p => (k a p).trans (h a p)
theorem ML_beg {G : GM} : (mvl G (beg G)).length = (ML (gW G) (gH G) (gMv G) (psP (beg G)) (sd (psD (beg G)))).length := by
  unfold mvl
  split
  · rfl
  · rename_i z
    have : ML (gW G) (gH G) (gMv G) (psP (beg G)) (sd (psD (beg G))) = [] := Classical.byContradiction (fun y => z (show psS (beg G) = 0 from if_neg y))
    rw [this]
/-- as many first moves after which a look at n answers x -/
def pieF (G : GM) (n : Nat) (x : Int32) (ps : PS) : List (Nat × Nat × Nat) → Nat → Int32
  | [], c => nI c
  | m :: l, c => if 3000 < tot G n (stp G ps m) then -5 else pieF G n x ps l (c + if nI (val G n (stp G ps m)) = x then 1 else 0)
theorem pieF_c {G : GM} {n : Nat} {x : Int32} {ps : PS} {m : Nat × Nat × Nat} {l : List (Nat × Nat × Nat)} {c : Nat} : pieF G n x ps (m :: l) c = if 3000 < tot G n (stp G ps m) then -5 else pieF G n x ps l (c + if nI (val G n (stp G ps m)) = x then 1 else 0) := rfl
theorem pieC_ok {σ : GSt} {i n : Nat} {G : GM} {x : Int32} {Q : Int32 → GSt → Prop} (hG : GOK G) (hi : kd i = 1) (i53 : 53 ≤ i) (hn : n ≤ 6) (hB : ClB σ i G) (hQ : ∀ σ' : GSt, JF σ σ' → Q (pieF G n x (beg G) (mvl G (beg G)) 0) σ') : D_X2_firstMovesWith i (nI n) x σ Q := by
  have hV := beg_PV hG
  have hlen := mvl_len hG hV
  refine begin_ok hG hi (by omega) hB (fun s1 hP1 f1 => ?_)
  have hB1 : ClB s1 i G := hB.row hG (fun a p q => f1 a (by omega))
  refine listC_ok hG hV (by decide +kernel) (by decide) (by omega) hP1 hB1 (fun s2 hR2 f2 x5 e5 x6 e6 => ⟨(mvl G (beg G)).length + 1, ?_⟩)
  have hP2 : PosC s2 50 i (beg G) := hP1.row (f2 50 (by decide))
  rw [hP2.1.2.2.1] at e5
  rw [hP2.1.2.2.2.1] at e6
  have key : ∀ (l : List (Nat × Nat × Nat)) (k c : Nat) (s : GSt), (mvl G (beg G)).drop k = l → k + l.length = (mvl G (beg G)).length → PosC s 50 i (beg G) → (∀ a, a ≠ 50 → a ≠ 29 → a ≠ 30 → (a < 32 ∨ 38 < a) → s a = s2 a) → pieF G n x (beg G) (mvl G (beg G)) 0 = pieF G n x (beg G) l c → L_X2_firstMovesWith_45 Q (l.length + 1) (nI n) x (nI (mvl G (beg G)).length) x5 x6 (nI c) (nI k) s := by
    intro l
    induction l with
    | nil =>
      intro k c s hd hk hP hf he
      refine ⟨fun _ => ?_, fun z => absurd (nI_le (by rw [List.length_nil] at hk; omega) (by omega)) z⟩
      have := hQ s (fun a p => by rw [hf a (by omega) (by omega) (by omega) (by omega), f2 a (by omega), f1 a (by omega)])
      rw [he] at this
      exact this
    | cons m l ih =>
      intro k c s hd hk hP hf he
      rw [List.length_cons] at hk
      have hm : (mvl G (beg G))[k]? = some m := by
        have : ((mvl G (beg G)).drop k)[0]? = some m := by rw [hd]; rfl
        rw [List.getElem?_drop, Nat.add_zero] at this
        exact this
      have hmem := List.mem_of_getElem? hm
      have hB3 : ∀ s', (∀ a, 53 ≤ a → s' a = s a) → ClB s' i G := fun s' h' => hB.row hG (fun a p q => by rw [h' a (by omega), hf a (by omega) (by omega) (by omega) (by omega), f2 a (by omega), f1 a (by omega)])
      have z0 : psS (beg G) = 0 := by
        apply Classical.byContradiction
        intro z
        unfold mvl at hm
        rw [if_neg z] at hm
        exact absurd hm (by simp)
      rw [pieF_c] at he
      unfold L_X2_firstMovesWith_45 D_X2_firstMovesWith_45
      rw [nI_clamp (show k < 2 ^ 31 by omega), hf 51 (by decide) (by decide) (by decide) (by decide), hR2 k m hm]
      refine ⟨fun z => absurd z (nI_ge (by omega) (by omega)), fun _ => ⟨vp_in_nI (by omega) (by decide), ?_⟩⟩
      refine make_ok hG hV hmem (by omega) hP (hB3 s (fun _ _ => rfl)) (fun s3 hP3 f3 => ?_)
      have hV3 := stp_PV hG hV hmem
      refine isSpentC_ok hG (by decide +kernel) hi hn hV3 hP3 (hB3 s3 (fun a p => f3 a (by omega))) (fun s4 ht hP4 f4 => ⟨fun y => absurd y (by decide), fun _ => ?_⟩) (fun s4 ht hP4 f4 _ => ⟨fun _ => ?_, fun y => absurd rfl y⟩)
      · have := hQ s4 (fun a p => by rw [f4 a (by omega) (by omega) (by omega) (by omega), f3 a (by omega), hf a (by omega) (by omega) (by omega) (by omega), f2 a (by omega), f1 a (by omega)])
        rw [he, if_pos ht] at this
        exact this
      · rw [if_neg (by omega)] at he
        refine valueOf_ok hG (by decide +kernel) hi n _ s4 _ hn hV3 hP4 (hB3 s4 (fun a p => by rw [f4 a (by omega) (by omega) (by omega) (by omega), f3 a (by omega)])) (fun s5 hP5 f5 => ?_)
        have fin : ∀ c' : Nat, c' = (c + if nI (val G n (stp G (beg G) m)) = x then 1 else 0) → D_X2_firstMovesWith_103 (L_X2_firstMovesWith_45 Q (l.length + 1)) Q (nI n) x (nI (mvl G (beg G)).length) x5 x6 (nI c') (nI k) s5 := by
          intro c' ec
          refine unmake_ok (ps := beg G) z0 rfl hi hP5.1.2.1 hP5.1.2.2.2.2.1 rfl (show (0 : Nat) ≤ 61 by decide) e5 e6 (fun s6 hP6 f6 y ey => ?_)
          rw [ey, nI_1]
          refine ih (k + 1) c' s6 ?_ (by omega) hP6 (fun a p1 p2 p3 p4 => ?_) (by rw [ec]; exact he)
          · rw [← List.drop_drop, hd]; rfl
          · rw [f6 a p1, f5 a p1 (by omega), f4 a p1 p2 p3 p4, f3 a p1, hf a p1 p2 p3 p4]
        refine ⟨fun z => fin c ?_, fun z y ey => ?_⟩
        · rw [if_neg z, Nat.add_zero]
        · rw [ey, nI_1]
          exact fin (c + 1) (by rw [if_pos z])
  exact key _ 0 0 s2 (List.drop_zero) (by omega) hP2 (fun _ _ _ _ _ => rfl) rfl
theorem pieM_ok {σ : GSt} {g n : Nat} {G : GM} {x : Int32} {Q : Int32 → GSt → Prop} (hG : GOK G) (hn : n ≤ 6) (hL : Lv σ g 0 G (beg G)) (h5 : pieF G n x (beg G) (mvl G (beg G)) 0 = -5 → ∀ σ' : GSt, SF σ σ' → D_X11_no (-5) σ' Q) (hQ : ¬ pieF G n x (beg G) (mvl G (beg G)) 0 = -5 → ∀ σ' : GSt, SF σ σ' → Q (pieF G n x (beg G) (mvl G (beg G)) 0) σ') : ∃ f : Nat, L_X11_pie_67 Q f (nI n) x 0 0 σ := by
  have hV := beg_PV hG
  have hlen := mvl_len hG hV
  refine ⟨(mvl G (beg G)).length + 1, ?_⟩
  have key : ∀ (l : List (Nat × Nat × Nat)) (k c : Nat) (s : GSt), c ≤ k → (mvl G (beg G)).drop k = l → k + l.length = (mvl G (beg G)).length → Lv s g 0 G (beg G) → SF σ s → pieF G n x (beg G) (mvl G (beg G)) 0 = pieF G n x (beg G) l c → L_X11_pie_67 Q (l.length + 1) (nI n) x (nI c) (nI k) s := by
    intro l
    induction l with
    | nil =>
      intro k c s ck hd hk hL hf he
      unfold L_X11_pie_67 D_X11_pie_67
      rw [show Int32.toNatClampNeg 0 = 0 by decide, hL.2.2.2.1, ← ML_beg]
      refine ⟨fun _ => ?_, fun z => absurd (nI_le (by rw [List.length_nil] at hk; omega) (by omega)) z⟩
      have ne : ¬ pieF G n x (beg G) (mvl G (beg G)) 0 = -5 := by
        rw [he]
        intro y
        have y2 : nI c = -5 := y
        exact absurd (y2 ▸ (by decide : (-5 : Int32) < 0)) (nI_pos (by rw [List.length_nil] at hk; omega))
      have := hQ ne s hf
      rw [he] at this
      exact this
    | cons m l ih =>
      intro k c s ck hd hk hL hf he
      rw [List.length_cons] at hk
      have hm : (mvl G (beg G))[k]? = some m := by
        have : ((mvl G (beg G)).drop k)[0]? = some m := by rw [hd]; rfl
        rw [List.getElem?_drop, Nat.add_zero] at this
        exact this
      have hV3 := stp_PV hG hV (List.mem_of_getElem? hm)
      rw [pieF_c] at he
      unfold L_X11_pie_67 D_X11_pie_67
      rw [show Int32.toNatClampNeg 0 = 0 by decide, hL.2.2.2.1, ← ML_beg]
      refine ⟨fun z => absurd z (nI_ge (by omega) (by omega)), fun _ => ?_⟩
      refine does_ok (d := 0) hG hV (by decide) hL hm (fun s1 hL1 f1 => ?_)
      have hL01 := hL.other hG hV (by decide) f1
      refine isSpentM_ok (d := 1) hG (by omega) (by omega) hV3 hL1 (fun s2 ht f2 hL2 => ⟨fun y => absurd y (by decide), fun _ => ?_⟩) (fun s2 ht f2 hL2 _ => ⟨fun _ => ?_, fun y => absurd rfl y⟩)
      · rw [if_pos ht] at he
        exact h5 he s2 (hf.trans ((SF.ofPF (PF.ofLF f1)).trans (SF.ofLG f2)))
      · rw [if_neg (by omega)] at he
        have hL02 := hL01.low hG hV (by decide) f2
        refine does_ok (d := 0) hG hV (by decide) hL02 hm (fun s3 hL3 f3 => ?_)
        have hL03 := hL02.other hG hV (by decide) f3
        refine lookAt_ok (d := 1) hG (by omega) hV3 hL3 (fun s4 f4 hL4 => ?_)
        have hL04 := hL03.low hG hV (by decide) f4
        have F : SF σ s4 := hf.trans ((SF.ofPF (PF.ofLF f1)).trans ((SF.ofLG f2).trans ((SF.ofPF (PF.ofLF f3)).trans (SF.ofLG f4))))
        have fin : ∀ (s1' : Int32) (c' : Nat), s1' = nI c' → c + c' = (c + if nI (val G n (stp G (beg G) m)) = x then 1 else 0) → D_X11_pie_125 (L_X11_pie_67 Q (l.length + 1)) Q (nI n) x (nI k) (nI c) s1' s4 := by
          intro s1' c' es ec y ey w ew
          rw [ey, ew, es, nI_add, nI_1]
          refine ih (k + 1) _ s4 (by rw [ec]; split <;> omega) ?_ (by omega) hL04 F (by rw [ec]; exact he)
          rw [← List.drop_drop, hd]; rfl
        refine ⟨fun z => fin 0 0 rfl ?_, fun z => fin 1 1 rfl ?_⟩
        · rw [if_neg z]
        · rw [if_pos z]
  exact key _ 0 0 σ (Nat.le_refl _) (List.drop_zero) (by omega) hL SF.rf rfl
theorem op_pie : Op_pie InvA := by
  intro x1 x2 x3 σ hI
  obtain ⟨ng, Gs, Ls, tp, pl, h⟩ := id hI
  have n8 := h.1.1
  unfold D_X10_pie D_X10_pie_0
  refine noGame_ok n8 h.1.2.1 (fun hno => ⟨fun z => absurd z (by decide), fun _ => refuse_ok rf_1 ?_⟩) (fun i hi e => ⟨fun _ => ?_, fun z => absurd rfl z⟩)
  · unfold D_X11_pie D_X11_pie_0
    exact isGame_ok n8 (by rw [rfC_ne (by decide)]; exact h.1.2.2) (fun _ => ⟨fun z => absurd rfl z, fun _ => no_ok rf_1 ⟨rfl, hI.rf rf_1⟩⟩) (fun i hi e => absurd e (hno i hi))
  · subst e
    obtain ⟨hG, -⟩ := (h.2.1 i hi).ok
    have nI5 : ∀ n, ¬ pieF (Gs i) n x3 (beg (Gs i)) (mvl (Gs i) (beg (Gs i))) 0 = -5 ∨ pieF (Gs i) n x3 (beg (Gs i)) (mvl (Gs i) (beg (Gs i))) 0 = -5 := fun n => (Classical.em _).symm
    -- the reference
    have mod : ∀ (σ0 : GSt) (r : Int32), σ0 237 20 = nI ng → MG0 σ0 i (Gs i) → (¬ (0 ≤ x3 ∧ x3 ≤ 2) → D_X11_no (-2) σ0 (fun r2 σ2 => r = r2 ∧ InvA σ2)) → (0 ≤ x3 ∧ x3 ≤ 2 → x2 < 0 → D_X11_no (-4) σ0 (fun r2 σ2 => r = r2 ∧ InvA σ2)) → (0 ≤ x3 ∧ x3 ≤ 2 → ¬ x2 < 0 → 4 < x2 → D_X11_no (-6) σ0 (fun r2 σ2 => r = r2 ∧ InvA σ2)) → (0 ≤ x3 ∧ x3 ≤ 2 → ∀ n, n ≤ 4 → x2 = nI n → (pieF (Gs i) n x3 (beg (Gs i)) (mvl (Gs i) (beg (Gs i))) 0 = -5 → ∀ σ1 : GSt, SF σ0 σ1 → D_X11_no (-5) σ1 (fun r2 σ2 => r = r2 ∧ InvA σ2)) ∧ (¬ pieF (Gs i) n x3 (beg (Gs i)) (mvl (Gs i) (beg (Gs i))) 0 = -5 → ∀ σ1 : GSt, SF σ0 σ1 → r = pieF (Gs i) n x3 (beg (Gs i)) (mvl (Gs i) (beg (Gs i))) 0 ∧ InvA σ1)) → D_X11_pie (nI i) x2 x3 σ0 (fun r2 σ2 => r = r2 ∧ InvA σ2) := by
      intro σ0 r h20 hM k2 k4 k6 k0
      unfold D_X11_pie D_X11_pie_0
      refine isGame_ok n8 h20 (fun hno => absurd rfl (hno i hi)) (fun _ _ _ => ⟨fun _ => ?_, fun z => absurd z (by decide)⟩)
      refine isIn_ok (lo := 0) (hi := 2) (by decide) (by decide) (fun p q => ⟨fun _ => ?_, fun z => absurd z (by decide)⟩) (fun z => ⟨fun y => absurd rfl y, fun _ => k2 z⟩)
      refine out_ok (lo := 0) (hi := 4) (by decide) (by decide) (fun z => ⟨fun y => absurd y (by decide), fun _ => k4 ⟨p, q⟩ z⟩) (fun z z2 => ⟨fun y => absurd y (by decide), fun _ => k6 ⟨p, q⟩ z z2⟩) (fun z z2 => ⟨fun _ => ?_, fun y => absurd rfl y⟩)
      obtain ⟨n, hn, en⟩ := nI_of2 (n := 4) (by decide) z (Int32.not_lt.mp z2)
      obtain ⟨k5, kr⟩ := k0 ⟨p, q⟩ n hn en
      rw [en]
      refine opens_ok hG hM (fun s1 hL1 f1 => ?_)
      exact pieM_ok hG (by omega) hL1 (fun e s2 f2 => k5 e s2 ((SF.ofPF f1).trans f2)) (fun e s2 f2 => kr e s2 ((SF.ofPF f1).trans f2))
    have ref2 : ¬ (0 ≤ x3 ∧ x3 ≤ 2) → D_X10_pie_23 (fun r1 σ1 => D_X11_pie (nI i) x2 x3 σ1 (fun r2 σ2 => r1 = r2 ∧ InvA σ2)) σ := fun z => refuse_ok rf_2 (mod _ _ (by rw [rfC_ne (by decide)]; exact h.1.2.2) (h.mgC hi) (fun _ => no_ok rf_2 ⟨rfl, hI.rf rf_2⟩) (fun y => absurd y z) (fun y => absurd y z) (fun y => absurd y z))
    refine ⟨fun z => ref2 (fun y => absurd z (Int32.not_lt.mpr y.1)), fun p => ⟨fun q => ⟨fun z => ⟨fun z2 => ⟨vp_in_nI (by omega) (by decide), ?_⟩, fun z2 => refuse_ok rf_6 (mod _ _ (by rw [rfC_ne (by decide)]; exact h.1.2.2) (h.mgC hi) (fun y => absurd ⟨Int32.not_lt.mp p, q⟩ y) (fun _ y => absurd y (Int32.not_lt.mpr z)) (fun _ _ _ => no_ok rf_6 ⟨rfl, hI.rf rf_6⟩) (fun _ n hn en => absurd (en ▸ nI_le (b := 4) hn (by decide)) z2))⟩, fun z => refuse_ok rf_4 (mod _ _ (by rw [rfC_ne (by decide)]; exact h.1.2.2) (h.mgC hi) (fun y => absurd ⟨Int32.not_lt.mp p, q⟩ y) (fun _ _ => no_ok rf_4 ⟨rfl, hI.rf rf_4⟩) (fun _ y => absurd (Int32.not_le.mp z) y) (fun _ n hn en => absurd (en ▸ nI_pos' (show n < 2 ^ 31 by omega)) z))⟩, fun q => ref2 (fun y => q y.2)⟩⟩
    obtain ⟨n, hn, en⟩ := nI_of2 (n := 4) (by decide) (Int32.not_lt.mpr z) z2
    rw [nI_clamp (show i < 2 ^ 31 by omega), en]
    refine pieC_ok hG (kdg (by omega)) (by omega) (by omega) (h.2.1 i hi).cb (fun s1 f1 => ?_)
    have h1 := h.keep (KP.ofC f1)
    have hI1 : InvA s1 := ⟨_, _, _, _, _, h1⟩
    have pq : 0 ≤ x3 ∧ x3 ≤ 2 := ⟨Int32.not_lt.mp p, q⟩
    have nn : ∀ m, x2 = nI m → m ≤ 4 → m = n := fun m e4 m4 => (nI_eq (by omega) (by omega)).mp (e4.symm.trans en)
    refine ⟨fun w => ?_, fun w => ?_⟩
    · rw [← en]
      refine mod s1 _ h1.1.2.2 (h1.mgr hi) (fun y => absurd pq y) (fun _ y => absurd y (Int32.not_lt.mpr z)) (fun _ _ y => absurd z2 (Int32.not_le.mpr y)) (fun _ m m4 em => ?_)
      rw [nn m em m4]
      exact ⟨fun y => absurd y w, fun _ s2 f2 => ⟨rfl, _, _, _, _, _, h1.keep (KP.ofSF f2)⟩⟩
    · refine refuse_ok rf_5 ?_
      rw [← en]
      refine mod _ _ (by rw [rfC_ne (by decide)]; exact h1.1.2.2) (h1.mgC hi) (fun y => absurd pq y) (fun _ y => absurd y (Int32.not_lt.mpr z)) (fun _ _ y => absurd z2 (Int32.not_le.mpr y)) (fun _ m m4 em => ?_)
      rw [nn m em m4]
      exact ⟨fun _ s2 f2 => no_ok rf_5 ⟨rfl, no2 hI1 rf_5 f2⟩, fun y => absurd w y⟩
