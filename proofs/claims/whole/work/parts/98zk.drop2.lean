theorem inR {x : Int32} {c : Nat} (c1 : 1 ≤ c) (c6 : c ≤ 6) : (0 ≤ x ∧ x ≤ nI (c - 1)) ↔ ∃ k, k < c ∧ x = nI k := by
  refine ⟨fun h => ?_, fun h => ?_⟩
  · obtain ⟨k, hk, e⟩ := i32_of (n := c - 1) (by omega) h.1 h.2
    exact ⟨k, by omega, e⟩
  · obtain ⟨k, hk, e⟩ := h
    rw [e]
    exact ⟨nI_pos' (by omega), nI_le (by omega) (by omega)⟩
/-- the class's text without MOVE x -/
def wtx (L : List Int32) (G : GM) (x : Nat) : List Int32 := (jn ([] ++ seg L 0 (gMF G)) L (gMv G) x (gMv G).length).1 ++ seg L (gEF G - 1) L.length
/-- the class's text without END x -/
def etx (L : List Int32) (G : GM) (x : Nat) : List Int32 := (jn ([] ++ seg L 0 (gEF G)) L (gEn G) x (gEn G).length).1 ++ [46]
theorem wMove_ok {σ : GSt} {i x : Nat} {G : GM} {L : List Int32} {Q : GSt → Prop} (hg : GmI σ i G L) (x31 : x < 2 ^ 31) (hQ : ∀ σ' : GSt, TxC σ' 3 (wtx L G x) → (∀ a, a ≠ 3 → a ≠ 4 → σ' a = σ a) → Q σ') : D_X1_writeWithoutMove (61 + 22 * i) (nI x) 3 σ Q := by
  obtain ⟨hG, a1, a2, a3, a4, a5⟩ := hg.ok
  obtain ⟨-, hC, -, -, -⟩ := pAll_ok hg.1
  have m6 := hG.2.1.1
  intro s1 e1
  have r1 : ∀ a, a ≠ 3 → s1 a = σ a := fun a p => by rw [e1, up2_ne p]
  have txt : ∀ s : GSt, (∀ a, a ≠ 3 → a ≠ 4 → s a = σ a) → TxC s (61 + 22 * i + 1) L := fun s hs => ⟨by rw [hs _ (by omega) (by omega)]; exact hg.2.1.2.2.2.2.1, fun j hj => by rw [hs _ (by omega) (by omega)]; exact hg.2.1.2.2.2.2.2 j hj⟩
  rw [r1 (61 + 22 * i) (by omega), hg.2.1.2.1.2.2.2.2.1]
  refine addPartC (f := 0) (L := []) (M := L) (by omega) (by omega) (by omega) (by omega) ⟨by rw [e1, up2_at, pk_us]; rfl, fun j hj => absurd hj (Nat.not_lt_zero _)⟩ (txt s1 (fun a p _ => r1 a p)) (by omega) (by omega) (by omega) (by rw [List.length_nil]; omega) (fun s2 x2 f2 => ?_)
  have r2 : ∀ a, a ≠ 3 → a ≠ 4 → s2 a = σ a := fun a p q => by rw [f2 a p q, r1 a p]
  refine dropMoves_ok (G := G) (L := L) (by omega) (by omega) m6 x31 hC (by rw [r2 _ (by omega) (by omega)]; exact hg.2.1.2.1.2.2.1) (by rw [r2 _ (by omega) (by omega)]; exact hg.2.1.2.1.2.2.2.2.2) (fun j e he => ?_) (txt s2 r2) (by rw [List.nil_append, seg_len]; omega) (by omega) (by omega) (by omega) (by rw [List.nil_append, seg_len]; omega) x2 (fun s3 x3 f3 => hQ s3 x3 (fun a p q => by rw [f3 a p q, r2 a p q]))
  have := hg.2.1.2.2.1 j e he
  exact this.row (r2 _ (by omega) (by omega))
theorem wEnd_ok {σ : GSt} {i x : Nat} {G : GM} {L : List Int32} {Q : GSt → Prop} (hg : GmI σ i G L) (x31 : x < 2 ^ 31) (hQ : ∀ σ' : GSt, TxC σ' 3 (etx L G x) → (∀ a, a ≠ 3 → a ≠ 4 → σ' a = σ a) → Q σ') : D_X1_writeWithoutEnd (61 + 22 * i) (nI x) 3 σ Q := by
  obtain ⟨hG, a1, a2, a3, a4, a5⟩ := hg.ok
  obtain ⟨-, -, hD, -, -⟩ := pAll_ok hg.1
  have m6 := hG.2.2.1.1
  intro s1 e1
  have r1 : ∀ a, a ≠ 3 → s1 a = σ a := fun a p => by rw [e1, up2_ne p]
  have txt : ∀ s : GSt, (∀ a, a ≠ 3 → a ≠ 4 → s a = σ a) → TxC s (61 + 22 * i + 1) L := fun s hs => ⟨by rw [hs _ (by omega) (by omega)]; exact hg.2.1.2.2.2.2.1, fun j hj => by rw [hs _ (by omega) (by omega)]; exact hg.2.1.2.2.2.2.2 j hj⟩
  rw [r1 (61 + 22 * i) (by omega), hg.2.1.2.1.2.2.2.2.2]
  refine addPartC (f := 0) (L := []) (M := L) (by omega) (by omega) (by omega) (by omega) ⟨by rw [e1, up2_at, pk_us]; rfl, fun j hj => absurd hj (Nat.not_lt_zero _)⟩ (txt s1 (fun a p _ => r1 a p)) (by omega) (by omega) (by omega) (by rw [List.length_nil]; omega) (fun s2 x2 f2 => ?_)
  have r2 : ∀ a, a ≠ 3 → a ≠ 4 → s2 a = σ a := fun a p q => by rw [f2 a p q, r1 a p]
  refine dropEnds_ok (G := G) (L := L) (by omega) (by omega) m6 x31 hD (by rw [r2 _ (by omega) (by omega)]; exact hg.2.1.2.1.2.2.2.1) (fun j e he => ?_) (txt s2 r2) (by rw [List.nil_append, seg_len]; omega) x2 (fun s3 x3 f3 => hQ s3 x3 (fun a p q => by rw [f3 a p q, r2 a p q]))
  have := hg.2.1.2.2.2.1 j e he
  exact this.row (r2 _ (by omega) (by omega))
/-- the reference's text without MOVE x -/
theorem moveM_ok {σ s : GSt} {i x : Nat} {G : GM} {L : List Int32} {Q : GSt → Prop} (i8 : i < 8) (hg : GmI σ i G L) (hx : x < 6) (e4 : ∀ a, 237 ≤ a → s a = σ a) (hQ : ∀ s' : GSt, TxM s' (wtx L G x) → AF s s' → Q s') : D_X11_without (nI i) (nI x) (-1) s Q := by
  obtain ⟨hG, a1, a2, a3, a4, a5⟩ := hg.ok
  obtain ⟨-, hC, hD, -, -⟩ := pAll_ok hg.1
  refine without_ok (x := x) (y := 99) (G := G) (L := L) i8 (by omega) hG.2.1.1 hG.2.2.1.1 (fun k hk => nI_eq (by omega) (by omega)) (fun k hk => ⟨fun z => absurd (show nI k < 0 by rw [z]; decide) (nI_pos (by omega)), fun z => absurd z (by omega)⟩) hC hD (by omega) (by omega) (fun s5 F => hg.2.2.1.rowN (N := 8) hG (by omega) (by omega) (fun a j p q r => by rw [(F.gf (ng := 8) (Nat.le_refl _)).2.2 a j p q r, e4 a (by omega)])) (fun s5 y5 F => hQ s5 ?_ F)
  rw [drop_move_eq (x := x) hG hC hD] at y5
  exact y5
theorem endM_ok {σ s : GSt} {i x : Nat} {G : GM} {L : List Int32} {Q : GSt → Prop} (i8 : i < 8) (hg : GmI σ i G L) (hx : x < 6) (e4 : ∀ a, 237 ≤ a → s a = σ a) (hQ : ∀ s' : GSt, TxM s' (etx L G x) → AF s s' → Q s') : D_X11_without (nI i) (-1) (nI x) s Q := by
  obtain ⟨hG, a1, a2, a3, a4, a5⟩ := hg.ok
  obtain ⟨-, hC, hD, -, -⟩ := pAll_ok hg.1
  refine without_ok (x := 99) (y := x) (G := G) (L := L) i8 (by omega) hG.2.1.1 hG.2.2.1.1 (fun k hk => ⟨fun z => absurd (show nI k < 0 by rw [z]; decide) (nI_pos (by omega)), fun z => absurd z (by omega)⟩) (fun k hk => nI_eq (by omega) (by omega)) hC hD (by omega) (by omega) (fun s5 F => hg.2.2.1.rowN (N := 8) hG (by omega) (by omega) (fun a j p q r => by rw [(F.gf (ng := 8) (Nat.le_refl _)).2.2 a j p q r, e4 a (by omega)])) (fun s5 y5 F => hQ s5 ?_ F)
  rw [drop_end_eq hG hC] at y5
  exact y5
theorem wtx_len {L : List Int32} {G : GM} {x : Nat} (hC : Chn (tl L) L.length 59 (gMv G) (gMF G) (gEF G)) (m6 : (gMv G).length ≤ 6) (hm : gMF G ≤ 22) (hn : L.length ≤ gEF G + 24) : (wtx L G x).length ≤ 90 := by
  unfold wtx
  have := (jn_len (B := [] ++ seg L 0 (gMF G)) (L := L) (x := x) hC (gMv G).length).1
  rw [List.nil_append, seg_len] at this
  rw [List.length_append, List.nil_append, seg_len]
  omega
theorem etx_len {L : List Int32} {G : GM} {x : Nat} (hD : Chn (tl L) L.length 46 (gEn G) (gEF G) L.length) (m6 : (gEn G).length ≤ 6) (hm : gEF G ≤ 46) : (etx L G x).length ≤ 90 := by
  unfold etx
  have := (jn_len (B := [] ++ seg L 0 (gEF G)) (L := L) (x := x) hD (gEn G).length).1
  rw [List.nil_append, seg_len] at this
  rw [List.length_append, List.nil_append, List.length_singleton]
  omega
theorem wtx_nn {L : List Int32} {G : GM} {x : Nat} (h : ∀ e ∈ L, 0 ≤ e) : ∀ e ∈ wtx L G x, 0 ≤ e := by
  intro e he
  rcases List.mem_append.mp he with w | w
  · exact jn_nn (fun e he => by rw [List.nil_append] at he; exact seg_nn h e he) h _ e w
  · exact seg_nn h e w
theorem etx_nn {L : List Int32} {G : GM} {x : Nat} (h : ∀ e ∈ L, 0 ≤ e) : ∀ e ∈ etx L G x, 0 ≤ e := by
  intro e he
  rcases List.mem_append.mp he with w | w
  · exact jn_nn (fun e he => by rw [List.nil_append] at he; exact seg_nn h e he) h _ e w
  · rw [List.mem_singleton.mp w]; decide
theorem dropM {s : GSt} {i c : Nat} {G : GM} {x2 x3 : Int32} {Q : Int32 → GSt → Prop} (i8 : i < 8) (cm : x3 = 0 → (gMv G).length = c) (ce : ¬ x3 = 0 → (gEn G).length = c) (c1 : 1 ≤ c) (c6 : c ≤ 6) (h248 : s 248 i = nI (gMv G).length) (h253 : s 253 i = nI (gEn G).length) (hno : (¬ ∃ x, x < c ∧ x2 = nI x) ∨ c = 1 → D_X11_drop_62 Q s) (hgo : ∀ x, x < c → x2 = nI x → 1 < c → (¬ (s 237 20) = 8 → (x3 = 0 → D_X11_drop_95 Q x2 x3 (nI i) x2 s) ∧ (¬ x3 = 0 → D_X11_drop_95 Q x2 x3 (nI i) (-1) s)) ∧ ((s 237 20) = 8 → D_X11_no (-6) s (fun r_1 σ_2 => Q r_1 σ_2))) : (x3 = 0 → vp_in (nI i) 9 ∧ (D_X11_drop_30 Q (nI i) x2 x3 (Int32.toInt64 x2) 0 (s 248 (Int32.toNatClampNeg (nI i))) s)) ∧ (¬ x3 = 0 → vp_in (nI i) 9 ∧ (D_X11_drop_30 Q (nI i) x2 x3 (Int32.toInt64 x2) 0 (s 253 (Int32.toNatClampNeg (nI i))) s)) := by
  have vi : vp_in (nI i) 9 := vp_in_nI (by omega) (by decide)
  have g58 : ∀ x, x < c → x2 = nI x → D_X11_drop_58 Q (nI i) x2 x3 (nI c) s := by
    intro x hx ex
    unfold D_X11_drop_58
    refine ⟨fun z => hgo x hx ex ?_, fun z => hno (Or.inr ((nI_eq (b := 1) (by omega) (by decide)).mp z))⟩
    have : ¬ c = 1 := fun q => z (by rw [q]; rfl)
    omega
  have go : D_X11_drop_30 Q (nI i) x2 x3 (Int32.toInt64 x2) 0 (nI c) s := by
    unfold D_X11_drop_30
    refine isIn_ok (lo := 0) (hi := nI c - 1) rfl rfl (fun a b => ⟨fun z => absurd z (by decide), fun _ => ?_⟩) (fun n => ⟨fun _ => hno (Or.inl fun w => n ?_), fun z => absurd rfl z⟩)
    · rw [show nI c - 1 = nI (c - 1) from pk_sub (b := 1) (by omega)] at b
      obtain ⟨x, hx, ex⟩ := (inR c1 c6).mp ⟨a, b⟩
      rw [nI_clamp (show i < 2 ^ 31 by omega), h248, h253]
      refine ⟨fun z => ⟨vi, ?_⟩, fun z => ⟨vi, ?_⟩⟩
      · rw [cm z]; exact g58 x hx ex
      · rw [ce z]; exact g58 x hx ex
    · rw [show nI c - 1 = nI (c - 1) from pk_sub (b := 1) (by omega)]
      exact (inR c1 c6).mpr w
  rw [nI_clamp (show i < 2 ^ 31 by omega), h248, h253]
  exact ⟨fun z => ⟨vi, by rw [cm z]; exact go⟩, fun z => ⟨vi, by rw [ce z]; exact go⟩⟩
theorem op_drop : Op_drop InvA := by
  intro x1 x2 x3 σ hx3 hI
  obtain ⟨ng, Gs, Ls, tp, pl, h⟩ := id hI
  have n8 := h.1.1
  have c20 : ∀ x : Int32, rfC σ x 237 20 = nI ng := fun x => by rw [rfC_ne (by decide)]; exact h.1.2.2
  have rf1 : D_X11_drop_62 (fun r2 σ2 => -1 = r2 ∧ InvA σ2) (rfC σ (-1)) := no_ok rf_1 ⟨rfl, hI.rf rf_1⟩
  unfold D_X10_drop D_X10_drop_0
  refine noGame_ok n8 h.1.2.1 (fun hno => ⟨fun z => absurd z (by decide), fun _ => refuse_ok rf_1 ?_⟩) (fun i hi e => ⟨fun _ => ?_, fun z => absurd rfl z⟩)
  · unfold D_X11_drop D_X11_drop_0
    exact isGame_ok n8 (c20 _) (fun _ => ⟨fun _ => rf1, fun z => absurd rfl z⟩) (fun i hi e => absurd e (hno i hi))
  · subst e
    have hg := h.2.1 i hi
    obtain ⟨hG, a1, a2, a3, a4, a5⟩ := hg.ok
    obtain ⟨-, hC, hD, -, -⟩ := pAll_ok hg.1
    have vi : vp_in (nI i) 8 := vp_in_nI (by omega) (by decide)
    obtain ⟨c, cm, ce, c1, c6⟩ : ∃ c, (x3 = 0 → (gMv (Gs i)).length = c) ∧ (¬ x3 = 0 → (gEn (Gs i)).length = c) ∧ 1 ≤ c ∧ c ≤ 6 := by
      rcases hx3 with q | q
      · exact ⟨_, fun _ => rfl, fun z => absurd q z, hG.2.1.2.1, hG.2.1.1⟩
      · exact ⟨_, fun z => absurd (q.symm.trans z) (by decide), fun _ => rfl, hG.2.2.1.2.1, hG.2.2.1.1⟩
    have mod : ∀ (s : GSt) (Q : Int32 → GSt → Prop), (∀ a, 237 ≤ a → s a = σ a) → ((¬ ∃ x, x < c ∧ x2 = nI x) ∨ c = 1 → D_X11_drop_62 Q s) → (∀ x, x < c → x2 = nI x → 1 < c → (¬ (s 237 20) = 8 → (x3 = 0 → D_X11_drop_95 Q x2 x3 (nI i) x2 s) ∧ (¬ x3 = 0 → D_X11_drop_95 Q x2 x3 (nI i) (-1) s)) ∧ ((s 237 20) = 8 → D_X11_no (-6) s (fun r_1 σ_2 => Q r_1 σ_2))) → D_X11_drop (nI i) x2 x3 s Q := by
      intro s Q e4 q1 q2
      unfold D_X11_drop D_X11_drop_0
      refine isGame_ok n8 (by rw [e4 237 (by decide)]; exact h.1.2.2) (fun hno => absurd rfl (hno i hi)) (fun _ _ _ => ⟨fun z => absurd z (by decide), fun _ => ?_⟩)
      exact dropM (G := Gs i) (by omega) cm ce c1 c6 (by rw [e4 248 (by decide)]; exact hg.2.2.1.2.1.1) (by rw [e4 253 (by decide)]; exact hg.2.2.1.2.1.2.1) q1 q2
    have no1 : (¬ ∃ x, x < c ∧ x2 = nI x) ∨ c = 1 → D_X10_drop_57 (fun r1 σ1 => D_X11_drop (nI i) x2 x3 σ1 (fun r2 σ2 => r1 = r2 ∧ InvA σ2)) σ := by
      intro w
      refine refuse_ok rf_1 (mod _ _ (fun a p => rfC_ne (by omega)) (fun _ => rf1) (fun x hx ex hc => ?_))
      rcases w with w | w
      · exact absurd ⟨x, hx, ex⟩ w
      · omega
    have key : D_X10_drop_39 (fun r1 σ1 => D_X11_drop (nI i) x2 x3 σ1 (fun r2 σ2 => r1 = r2 ∧ InvA σ2)) (nI i) x2 x3 (nI c) σ := by
      unfold D_X10_drop_39
      refine ⟨fun z => no1 (Or.inl fun w => ?_), fun z0 => ⟨fun z => no1 (Or.inl fun w => ?_), fun z1 => ?_⟩⟩
      · obtain ⟨x, hx, ex⟩ := w
        rw [ex] at z
        exact nI_pos (by omega) z
      · obtain ⟨x, hx, ex⟩ := w
        rw [ex] at z
        exact absurd z (nI_ge (by omega) (by omega))
      · obtain ⟨x, hx, ex⟩ : ∃ x, x < c ∧ x2 = nI x := by
          obtain ⟨k, hk, e⟩ := i32_of (x := x2) (n := c) (by omega) (i32_le.mpr (by have := mt i32_lt.mpr z0; omega)) (i32_le.mpr (by have := mt i32_le.mpr z1; omega))
          refine ⟨k, ?_, e⟩
          rw [e] at z1
          have : ¬ k = c := fun q => z1 (by rw [q]; exact nI_le (Nat.le_refl _) (by omega))
          omega
        subst ex
        refine pk_le 2 c (fun c2 => ?_) (fun w => no1 (Or.inr (by omega)))
        rw [h.1.2.1]
        refine pk_lt ng 8 (fun n8' => ?_) (fun w => refuse_ok rf_6 ?_)
        · rw [nI_clamp (show i < 2 ^ 31 by omega)]
          refine ⟨fun z => ⟨vi, wMove_ok hg (by omega) (fun s1 t1 f1 => ?_)⟩, fun z => ⟨vi, wEnd_ok hg (by omega) (fun s1 t1 f1 => ?_)⟩⟩
          · refine edit_ok h n8' (wtx_len hC hG.2.1.1 a1 a3) (wtx_nn hg.2.2.2) f1 t1 (fun r s4 e4 hgr => ?_)
            refine mod s4 _ e4 (fun w => ?_) (fun y hy ey hc => ⟨fun _ => ⟨fun _ => ⟨fun _ => ?_, fun w => absurd z w⟩, fun w => absurd z w⟩, fun w => ?_⟩)
            · rcases w with w | w
              · exact absurd ⟨x, hx, rfl⟩ w
              · omega
            · unfold D_X11_drop_104
              exact moveM_ok (by omega) hg (by omega) e4 (fun s5 t5 f5 => hgr s5 f5 t5)
            · rw [e4 237 (by decide), h.1.2.2] at w
              exact absurd ((nI_eq (b := 8) (by omega) (by decide)).mp w) (by omega)
          · refine edit_ok h n8' (etx_len hD hG.2.2.1.1 (by omega)) (etx_nn hg.2.2.2) f1 t1 (fun r s4 e4 hgr => ?_)
            refine mod s4 _ e4 (fun w => ?_) (fun y hy ey hc => ⟨fun _ => ⟨fun w => absurd w z, fun _ => ⟨fun w => absurd w z, fun _ => ?_⟩⟩, fun w => ?_⟩)
            · rcases w with w | w
              · exact absurd ⟨x, hx, rfl⟩ w
              · omega
            · unfold D_X11_drop_104
              exact endM_ok (by omega) hg (by omega) e4 (fun s5 t5 f5 => hgr s5 f5 t5)
            · rw [e4 237 (by decide), h.1.2.2] at w
              exact absurd ((nI_eq (b := 8) (by omega) (by decide)).mp w) (by omega)
        · refine mod _ _ (fun a p => rfC_ne (by omega)) (fun w => ?_) (fun y hy ey hc => ⟨fun w2 => ?_, fun _ => no_ok rf_6 ⟨rfl, hI.rf rf_6⟩⟩)
          · rcases w with w | w
            · exact absurd ⟨x, hx, rfl⟩ w
            · omega
          · rw [c20, show ng = 8 by omega] at w2
            exact absurd rfl w2
    rw [nI_clamp (show i < 2 ^ 31 by omega), hg.2.1.2.1.2.2.1, hg.2.1.2.1.2.2.2.1]
    exact ⟨fun z => ⟨vi, by rw [cm z]; exact key⟩, fun z => ⟨vi, by rw [ce z]; exact key⟩⟩
