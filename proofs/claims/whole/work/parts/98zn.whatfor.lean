theorem KP.ofAF {σ σ' : GSt} (h : AF σ σ') : KP σ σ' := ⟨fun a p => h.1 a (by omega) (by omega), fun k _ => by rw [h.1 237 (by decide) (by decide)], fun a p => h.1 a (by omega) (by omega), fun a j p q r => (h.gf (ng := 8) (Nat.le_refl _)).2.2 a j p q r⟩
theorem KP.ofMFr {σ σ' : GSt} (h : MFr 8 σ σ') : KP σ σ' := ⟨fun a p => h.1 a (by omega) (by omega), fun k p => h.2.1 k (by omega) (by omega), fun a p => h.1 a (by omega) (by omega), fun a j p q r => by
  rcases Nat.lt_or_ge a 242 with z | z
  · rw [h.1 a (by omega) (by omega)]
  · refine h.2.2 a j z q (Or.inl ?_)
    unfold mw2 at r
    rw [if_neg (by omega)] at r
    exact r⟩
theorem op_whatFor : Op_whatFor InvA := by
  intro x1 x2 x3 σ hI
  obtain ⟨ng, Gs, Ls, tp, pl, h⟩ := id hI
  have n8 := h.1.1
  have c20 : ∀ x : Int32, rfC σ x 237 20 = nI ng := fun x => by rw [rfC_ne (by decide)]; exact h.1.2.2
  have rf1 : D_X11_whatFor_26 (fun r2 σ2 => -1 = r2 ∧ InvA σ2) (rfC σ (-1)) := no_ok rf_1 ⟨rfl, hI.rf rf_1⟩
  unfold D_X10_whatFor D_X10_whatFor_0
  refine noGame_ok n8 h.1.2.1 (fun hno => ⟨fun _ => refuse_ok rf_1 ?_, fun z => absurd z (by decide)⟩) (fun i hi e => ⟨fun z => absurd rfl z, fun _ => ?_⟩)
  · unfold D_X11_whatFor D_X11_whatFor_0
    exact isGame_ok n8 (c20 _) (fun _ => ⟨fun _ => rf1, fun z => absurd rfl z⟩) (fun i hi e => absurd e (hno i hi))
  · subst e
    have hg := h.2.1 i hi
    obtain ⟨hG, a1, a2, a3, a4, a5⟩ := hg.ok
    obtain ⟨-, hC, hD, -, -⟩ := pAll_ok hg.1
    have vi : vp_in (nI i) 8 := vp_in_nI (by omega) (by decide)
    have vi9 : vp_in (nI i) 9 := vp_in_nI (by omega) (by decide)
    obtain ⟨c, ec⟩ : ∃ c, c = (gMv (Gs i)).length := ⟨_, rfl⟩
    have c1 : 1 ≤ c := by rw [ec]; exact hG.2.1.2.1
    have c6 : c ≤ 6 := by rw [ec]; exact hG.2.1.1
    have mod : ∀ (s : GSt) (Q : Int32 → GSt → Prop), (∀ a, 237 ≤ a → s a = σ a) → ((¬ ∃ x, x < c ∧ x2 = nI x) → D_X11_whatFor_26 Q s) → (∀ x, x < c → x2 = nI x → c = 1 → Q (-9) s) → (∀ x, x < c → x2 = nI x → 1 < c → D_X11_without (nI i) x2 (-1) s (fun σ_5 => D_X11_reads 8 σ_5 (fun r_6 σ_7 => (r_6 = 0 → Q (-9) σ_7) ∧ (¬ r_6 = 0 → D_X11_far (nI i) 8 x3 σ_7 (fun r_8 σ_9 => Q r_8 σ_9))))) → D_X11_whatFor (nI i) x2 x3 s Q := by
      intro s Q e4 q1 q2 q3
      have e248 : s 248 i = nI c := by rw [e4 248 (by decide), ec]; exact hg.2.2.1.2.1.1
      unfold D_X11_whatFor D_X11_whatFor_0
      refine isGame_ok n8 (by rw [e4 237 (by decide)]; exact h.1.2.2) (fun hno => absurd rfl (hno i hi)) (fun _ _ _ => ⟨fun z => absurd z (by decide), fun _ => ⟨vi9, ?_⟩⟩)
      rw [nI_clamp (show i < 2 ^ 31 by omega), e248]
      have ep : nI c - 1 = nI (c - 1) := pk_sub (b := 1) (by omega)
      refine isIn_ok (lo := 0) (hi := nI c - 1) rfl rfl (fun a b => ⟨fun _ => ⟨vi9, ?_⟩, fun z => absurd z (by decide)⟩) (fun n => ⟨fun z => absurd rfl z, fun _ => q1 (fun w => n ?_)⟩)
      · rw [ep] at b
        obtain ⟨x, hx, ex⟩ := (inR c1 c6).mp ⟨a, b⟩
        rw [e248]
        refine ⟨fun z => q3 x hx ex ?_, fun z => q2 x hx ex ((nI_eq (b := 1) (by omega) (by decide)).mp z)⟩
        have : ¬ c = 1 := fun q => z (by rw [q]; rfl)
        omega
      · rw [ep]
        exact (inR c1 c6).mpr w
    have no1 : (¬ ∃ x, x < c ∧ x2 = nI x) → D_X10_whatFor_25 (fun r1 σ1 => D_X11_whatFor (nI i) x2 x3 σ1 (fun r2 σ2 => r1 = r2 ∧ InvA σ2)) σ := by
      intro w
      exact refuse_ok rf_1 (mod _ _ (fun a p => rfC_ne (by omega)) (fun _ => rf1) (fun x hx ex _ => absurd ⟨x, hx, ex⟩ w) (fun x hx ex _ => absurd ⟨x, hx, ex⟩ w))
    rw [nI_clamp (show i < 2 ^ 31 by omega), hg.2.1.2.1.2.2.1, ← ec]
    refine ⟨fun z => no1 (fun w => ?_), fun z0 => ⟨vi, fun z1 => ⟨vi, ?_⟩, fun z => no1 (fun w => ?_)⟩⟩
    · obtain ⟨x, hx, ex⟩ := w
      rw [ex] at z
      exact nI_pos (by omega) z
    · obtain ⟨x, hx, ex⟩ : ∃ x, x < c ∧ x2 = nI x := by
        obtain ⟨k, hk, e⟩ := i32_of (x := x2) (n := c) (by omega) (i32_le.mpr (by have := mt i32_lt.mpr z0; omega)) (i32_le.mpr (by have := i32_lt.mp z1; omega))
        refine ⟨k, ?_, e⟩
        rw [e] at z1
        have : ¬ k = c := fun q => by rw [q] at z1; exact absurd z1 (by rw [i32_lt]; omega)
        omega
      subst ex
      refine pk_le 2 c (fun c2 => ?_) (fun w => ?_)
      · have W90 := wtx_len (x := x) hC hG.2.1.1 a1 a3
        obtain ⟨G', hp⟩ := cut_parse (x := x) hg.1 (by omega)
        obtain ⟨hG', -⟩ := pAll_ok hp
        refine wMove_ok hg (by omega) (fun s1 t1 f1 => ?_)
        refine read_ok (n := (wtx (Ls i) (Gs i) x).length) (t := tl (wtx (Ls i) (Gs i) x)) (by decide +kernel) (by decide +kernel) (fun a p q => ⟨by omega, by omega, by omega⟩) W90 t1.1 t1.2 (fun s2 G2 hp2 hB2 f2 => ?_) (fun s2 z hp2 _ _ => absurd (hp.symm.trans hp2) (by simp))
        have eG : G' = G2 := Sum.inr.inj (hp.symm.trans hp2)
        subst eG
        have h2 := h.keep (KP.ofC (σ' := s2) (fun a p => by rw [f2 a (by omega) (by omega), f1 a (by omega) (by omega)]))
        refine runI (n := 10) (a := 0) (b := 0) h2 hi (by decide +kernel) (by decide) (by decide) (by decide) (fun s3 t3 p3 c3 h3 => ?_)
        have B3 : ClB s3 7 G' := ClB.row hG' (σ := s2) ⟨⟨hB2.1, hB2.2.1.2.2.1, hB2.2.2.1⟩, ⟨hB2.2.1.1, hB2.2.1.2.1⟩, hB2.2.1.2.2.2.1, hB2.2.2.2.1⟩ (fun a p q => c3 a (by omega) (by omega) (by omega) (by omega))
        refine run_ok (n := 10) (a := 0) (b := 0) hG' (by decide +kernel) (by decide +kernel) (by decide) (by decide) (by decide) B3 (fun s4 t4 p4 c4 => ?_)
        have h4 := h3.keep (KP.ofC (σ' := s4) (fun a p => c4 a (by omega) (by omega) (by omega) (by omega)))
        unfold D_X8_farFrom D_X8_farFrom_0
        rw [c4 39 (by decide) (by decide) (by decide) (by decide), t3.1.2.1, t3.1.2.2.1, t3.1.2.2.2, t4.1.2.1, t4.1.2.2.1, t4.1.2.2.2]
        have e4 : ∀ a, 237 ≤ a → s4 a = σ a := fun a p => by rw [c4 a (by omega) (by omega) (by omega) (by omega), c3 a (by omega) (by omega) (by omega) (by omega), f2 a (by omega) (by omega), f1 a (by omega) (by omega)]
        refine mod s4 _ e4 (fun w => absurd ⟨x, hx, rfl⟩ w) (fun _ _ _ w => absurd w (by omega)) (fun _ _ _ _ => ?_)
        refine moveM_ok (by omega) hg (by omega) e4 (fun s5 t5 f5 => ?_)
        refine reads_ok (g := 8) (n := (wtx (Ls i) (Gs i) x).length) (t := tl (wtx (Ls i) (Gs i) x)) (by decide) W90 t5.1 t5.2 (fun s6 G2 hp3 hM6 f6 _ => ⟨fun z => absurd z (by decide), fun _ => ?_⟩) (fun s6 z hp3 _ _ _ => absurd (hp.symm.trans hp3) (by simp))
        have eG2 : G' = G2 := Sum.inr.inj (hp.symm.trans hp3)
        subst eG2
        have h6 := (h4.keep (KP.ofAF f5)).keep (KP.ofMFr f6)
        unfold D_X11_far D_X11_far_0
        refine mesI (n := 10) (a := 0) (b := 0) h6 hi (by decide) (by decide) (by decide) (fun s7 t7 p7 c7 h7 => ?_)
        rw [t7.1.1, t7.1.2.1, t7.1.2.2.2]
        intro y4 e4' y5 e5' y6 e6'
        rw [e4', e5', e6']
        have M7 : MG0 s7 8 G' := by
          have r7 : ∀ a, 240 ≤ a → a ≤ 256 → s7 a = s6 a := fun a p q => c7.1 a (by omega) (by omega)
          have hM7 := hM6.rowN (σ' := s7) (N := 9) hG' W90 (by decide) (fun a j p q _ => by rw [r7 a p q])
          exact ⟨by decide, ⟨hM7.1.1, hM7.1.2.1⟩, ⟨hM7.2.1.1, hM7.2.1.2.1⟩, hM7.2.2.1, hM7.2.2.2.1, h7.2.2.2.2.1, fun c hc => by rw [hM7.1.2.2 c hc]; exact cv_P0⟩
        refine measures_ok (g := 8) (n := 10) (a := 0) (b := 0) hG' (by decide) (by decide) (by decide) M7 (fun s8 t8 p8 c8 => ?_)
        have h8 := h7.keep (KP.ofSF c8)
        rw [t8.1.1]
        refine jabs_neg _ ?_
        rw [t8.1.2.1]
        refine jabs_neg _ ?_
        rw [t8.1.2.2.2]
        exact jabs_neg _ ⟨rfl, _, _, _, _, _, h8⟩
      · refine mod σ _ (fun _ _ => rfl) (fun w2 => absurd ⟨x, hx, rfl⟩ w2) (fun _ _ _ _ => ⟨rfl, hI⟩) (fun _ _ _ w2 => absurd w2 (by omega))
    · obtain ⟨x, hx, ex⟩ := w
      rw [ex] at z
      exact z (by rw [i32_lt, nI_toInt (by omega), nI_toInt (by omega)]; omega)
