theorem moves_ok {σ : GSt} {g : Nat} {G : GM} {ps : PS} {Q : Int32 → GSt → Prop} (hV : PV G ps) (hL : Lv σ g 0 G ps) (hQ : Q (nI (mvl G ps).length) σ) : D_X11_moves σ Q := by
  have h3 := hV.2.2.1
  unfold D_X11_moves D_X11_moves_0
  rw [show Int32.toNatClampNeg 0 = 0 by decide, hL.2.2.1.2.2.1, hL.2.2.2.1]
  unfold mvl at hQ
  refine ⟨fun z => ?_, fun z => ?_⟩
  · rw [if_pos ((nI_eq (b := 0) (by omega) (by decide)).mp z)] at hQ
    exact hQ
  · rw [if_neg (fun y => z (by rw [y]; rfl))] at hQ
    exact hQ
theorem IA.cls {σ : GSt} {ng : Nat} {Gs : Nat → GM} {Ls : Nat → List Int32} {tp : List Int32} {g : Nat} {ms : List Nat} (h : IA σ ng Gs Ls tp (some (g, ms))) : g < 8 ∧ GOK (Gs g) ∧ PV (Gs g) (rpl (Gs g) ms) ∧ psD (rpl (Gs g) ms) = ms.length ∧ PosC σ 54 (61 + 22 * g) (rpl (Gs g) ms) ∧ ClB σ (61 + 22 * g) (Gs g) ∧ σ 53 2 = nI (mvl (Gs g) (rpl (Gs g) ms)).length ∧ RowIs σ 55 (mvl (Gs g) (rpl (Gs g) ms)) ∧ (mvl (Gs g) (rpl (Gs g) ms)).length ≤ 252 := by
  have hp := h.2.2.2.2.2
  have n8 := h.1.1
  have g1 := hp.1.1
  have hg := h.2.1 g g1
  obtain ⟨hG, -⟩ := hg.ok
  obtain ⟨hV, -, hD⟩ := rpl_len hG hp.2.1
  have hlen := ML_len (s := sd (psD (rpl (Gs g) ms))) hG.1.1 hG.1.2.1 hG.1.2.2.1 hG.1.2.2.2 (by unfold sd; omega) hV.1 hG.2.1.1
  refine ⟨by omega, hG, hV, hD, hp.2.2.2.1.1, hg.cb, hp.2.2.2.1.2.1, hp.2.2.2.1.2.2, ?_⟩
  unfold mvl
  split
  · exact hlen
  · exact Nat.zero_le _
/-- a refusal -3, where no PLAY stands -/
theorem no3 {σ : GSt} {ng : Nat} {Gs : Nat → GM} {Ls : Nat → List Int32} {tp : List Int32} {pl : Option (Nat × List Nat)} (h : IA σ ng Gs Ls tp pl) : (pl = none → σ 53 3 = 0) ∧ (∀ g ms, pl = some (g, ms) → ¬ σ 53 3 = 0) := by
  have hp := h.2.2.2.2.2
  refine ⟨fun e => ?_, fun g ms e => ?_⟩
  · rw [e] at hp; exact hp.1
  · rw [e] at hp; rw [hp.1.2.1]; decide
theorem op_move : Op_move InvA := by
  intro x1 σ hI
  obtain ⟨ng, Gs, Ls, tp, pl, h⟩ := id hI
  have n8 := h.1.1
  unfold D_X10_move D_X10_move_0
  cases pl with
  | none =>
    have h3 := (no3 h).1 rfl
    refine ⟨fun z => absurd h3 z, fun _ => refuse_ok rf_3 ?_⟩
    unfold D_X11_move D_X11_move_0
    exact stands_ok h.plm.rf (fun _ => ⟨fun z => absurd rfl z, fun _ => no_ok rf_3 ⟨rfl, hI.rf rf_3⟩⟩) (fun _ _ _ e => absurd e (by simp))
  | some y =>
    obtain ⟨g, ms⟩ := y
    have h3 := (no3 h).2 g ms rfl
    obtain ⟨g8, hG, hV, hD, hP, hB, e2, hR, hlen⟩ := h.cls
    refine ⟨fun _ => ⟨fun q => ⟨fun q1 => ?_, fun q1 => ?_⟩, fun q => refuse_ok rf_4 ?_⟩, fun z => absurd z h3⟩
    · have q0 : ¬ x1 < 0 := by
        intro z
        have a := Int32.lt_iff_toInt_lt.mp z
        have b := Int32.le_iff_toInt_le.mp q
        rw [show (0 : Int32).toInt = 0 by decide] at a
        rw [show (-1 : Int32).toInt = -1 by decide] at b
        exact q1 (Int32.toInt_inj.mp (by rw [show (-1 : Int32).toInt = -1 by decide]; omega))
      obtain ⟨j, hj, ej⟩ := nI_of q0
      subst ej
      have model : ∀ r : Int32, ((mvl (Gs g) (rpl (Gs g) ms)).length ≤ j → r = -9) → (∀ m, (mvl (Gs g) (rpl (Gs g) ms))[j]? = some m → r = nI (10000 * m.1 + 100 * m.2.1 + m.2.2)) → D_X11_move (nI j) σ (fun r2 σ2 => r = r2 ∧ InvA σ2) := by
        intro r k1 k2
        unfold D_X11_move D_X11_move_0
        refine stands_ok h.plm (fun e => absurd e (by simp)) (fun g' ms' σ1 e hL hF => ⟨fun _ => ⟨fun _ => ⟨fun _ => ?_, fun z => absurd (Int32.not_lt.mp q0) z⟩, fun z => absurd q z⟩, fun z => absurd z (by decide)⟩)
        obtain ⟨eg, em⟩ := Prod.mk.inj (Option.some.inj e)
        subst eg em
        have hI1 : InvA σ1 := ⟨_, _, _, _, _, h.keep (KP.ofSF (SF.ofPF hF))⟩
        refine moves_ok hV hL (pk_le (mvl (Gs g) (rpl (Gs g) ms)).length j (fun z => ⟨k1 z, hI1⟩) (fun z => ?_))
        have vj : vp_in (nI j) 7200 := vp_in_nI (by omega) (by decide)
        obtain ⟨m, hm⟩ : ∃ m, (mvl (Gs g) (rpl (Gs g) ms))[j]? = some m := ⟨_, List.getElem?_eq_getElem z⟩
        have hm2 := hm
        unfold mvl at hm2
        split at hm2
        · have r3 := hL.2.2.2.2 j m hm2
          rw [Nat.mul_zero, Nat.zero_add] at r3
          rw [nI_clamp hj, r3.1, r3.2.1, r3.2.2]
          refine ⟨vj, vj, vj, ?_, hI1⟩
          rw [k2 m hm, show (10000 : Int32) * nI m.1 = nI (10000 * m.1) from pk_mul 10000 _, show (100 : Int32) * nI m.2.1 = nI (100 * m.2.1) from pk_mul 100 _, nI_add, nI_add]
        · exact absurd hm2 (by simp)
      rw [e2]
      refine pk_le (mvl (Gs g) (rpl (Gs g) ms)).length j (fun z => model _ (fun _ => rfl) (fun m hm => ?_)) (fun z => ⟨vp_in_nI (by omega) (by decide), ?_⟩)
      · have := (List.getElem?_eq_some_iff.mp hm).1
        omega
      · obtain ⟨m, hm⟩ : ∃ m, (mvl (Gs g) (rpl (Gs g) ms))[j]? = some m := ⟨_, List.getElem?_eq_getElem z⟩
        obtain ⟨b1, b2, b3⟩ := move_bd hG hV (List.mem_of_getElem? hm)
        unfold D_X10_told D_X10_told_0
        rw [nI_clamp hj, hR j m hm, show m = (m.1, m.2.1, m.2.2) from rfl, (enc_ok b1 b2 b3).2.2.2]
        refine model _ (fun y => by omega) (fun m' hm' => ?_)
        rw [hm] at hm'
        rw [← Option.some.inj hm']
    · subst q1
      rw [e2]
      unfold D_X11_move D_X11_move_0
      refine stands_ok h.plm (fun e => absurd e (by simp)) (fun g' ms' σ1 e hL hF => ⟨fun _ => ⟨fun _ => ⟨fun z => absurd z (by decide), fun _ => ?_⟩, fun z => absurd q z⟩, fun z => absurd z (by decide)⟩)
      obtain ⟨eg, em⟩ := Prod.mk.inj (Option.some.inj e)
      subst eg em
      exact moves_ok hV hL ⟨rfl, _, _, _, _, _, h.keep (KP.ofSF (SF.ofPF hF))⟩
    · unfold D_X11_move D_X11_move_0
      refine stands_ok h.plm.rf (fun e => absurd e (by simp)) (fun g' ms' σ1 e hL hF => ⟨fun _ => ⟨fun z => absurd z q, fun _ => no_ok rf_4 ⟨rfl, no2 hI rf_4 (SF.ofPF hF)⟩⟩, fun z => absurd z (by decide)⟩)
theorem piece_ok {P : Nat → Nat} {c : Nat} (hc : c < 16) (h2 : P c ≤ 2) : (jushr (mask (pc P 1)) (nI c) &&& 1) + 2 * (jushr (mask (pc P 2)) (nI c) &&& 1) = nI (P c) := by
  rw [ush_and1 (show c < 32 by omega), ush_and1 (show c < 32 by omega), bt_mask (show c < 32 by omega), bt_mask (show c < 32 by omega), decide_eq_true hc, Bool.true_and, Bool.true_and]
  unfold pc
  have : P c = 0 ∨ P c = 1 ∨ P c = 2 := by omega
  rcases this with z | z | z <;> (rw [z]; decide)
theorem op_cell : Op_cell InvA := by
  intro x1 σ hI
  obtain ⟨ng, Gs, Ls, tp, pl, h⟩ := id hI
  have n8 := h.1.1
  unfold D_X10_cell D_X10_cell_0
  cases pl with
  | none =>
    have h3 := (no3 h).1 rfl
    refine ⟨fun z => absurd h3 z, fun _ => refuse_ok rf_3 ?_⟩
    unfold D_X11_cell D_X11_cell_0
    exact stands_ok h.plm.rf (fun _ => ⟨fun z => absurd rfl z, fun _ => no_ok rf_3 ⟨rfl, hI.rf rf_3⟩⟩) (fun _ _ _ e => absurd e (by simp))
  | some y =>
    obtain ⟨g, ms⟩ := y
    have h3 := (no3 h).2 g ms rfl
    obtain ⟨g8, hG, hV, hD, hP, hB, e2, hR, hlen⟩ := h.cls
    obtain ⟨⟨w2, w4⟩, h2, h4⟩ : (2 ≤ gW (Gs g) ∧ gW (Gs g) ≤ 4) ∧ 2 ≤ gH (Gs g) ∧ gH (Gs g) ≤ 4 := ⟨⟨hG.1.1, hG.1.2.1⟩, hG.1.2.2.1, hG.1.2.2.2⟩
    have wh : gW (Gs g) * gH (Gs g) ≤ 16 := Nat.mul_le_mul w4 h4
    have wh1 : 1 ≤ gW (Gs g) * gH (Gs g) := Nat.mul_le_mul (show 1 ≤ gW (Gs g) by omega) (show 1 ≤ gH (Gs g) by omega)
    obtain ⟨cr, ce⟩ := hP.1.ref
    have mod : ∀ (σ0 : GSt) (r : Int32), PlM σ0 Gs (some (g, ms)) → (∀ σ1 : GSt, PF σ0 σ1 → ¬ (0 ≤ x1 ∧ x1 ≤ nI (gW (Gs g) * gH (Gs g) - 1)) → D_X11_no (-1) σ1 (fun r2 σ2 => r = r2 ∧ InvA σ2)) → (∀ (σ1 : GSt) (c : Nat), c < gW (Gs g) * gH (Gs g) → x1 = nI c → PF σ0 σ1 → r = nI (psP (rpl (Gs g) ms) c) ∧ InvA σ1) → D_X11_cell x1 σ0 (fun r2 σ2 => r = r2 ∧ InvA σ2) := by
      intro σ0 r hM k1 k2
      unfold D_X11_cell D_X11_cell_0
      refine stands_ok hM (fun e => absurd e (by simp)) (fun g' ms' σ1 e hL hF => ⟨fun _ => ?_, fun z => absurd z (by decide)⟩)
      obtain ⟨eg, em⟩ := Prod.mk.inj (Option.some.inj e)
      subst eg em
      unfold D_X11_cells D_X11_cells_0
      rw [hL.1.1.2, nI_clamp (show g < 2 ^ 31 by omega), hL.1.2.1.1, hL.1.2.1.2, pk_mul]
      have vg : vp_in (nI g) 9 := vp_in_nI (by omega) (by decide)
      refine ⟨vg, vg, ?_⟩
      refine isIn_ok (lo := 0) (hi := nI (gW (Gs g) * gH (Gs g) - 1)) (by decide) (congrArg Int32.toInt64 (pk_sub (b := 1) wh1)) (fun p q => ⟨fun z => absurd z (by decide), fun _ => ?_⟩) (fun z => ⟨fun _ => k1 σ1 hF z, fun z => absurd rfl z⟩)
      obtain ⟨c, hc, ec⟩ := nI_of2 (n := gW (Gs g) * gH (Gs g) - 1) (nI_toInt (by omega)) (Int32.not_lt.mpr p) q
      have := hL.2.1 c (by omega)
      rw [Nat.mul_zero, Nat.zero_add] at this
      rw [ec, nI_clamp (show c < 2 ^ 31 by omega), this]
      exact ⟨vp_in_nI (by omega) (by decide), k2 σ1 c (by omega) ec hF⟩
    have ref : ¬ (0 ≤ x1 ∧ x1 ≤ nI (gW (Gs g) * gH (Gs g) - 1)) → D_X10_cell_41 (fun r1 σ1 => D_X11_cell x1 σ1 (fun r2 σ2 => r1 = r2 ∧ InvA σ2)) σ := by
      intro hr
      refine refuse_ok rf_1 (mod _ _ h.plm.rf (fun σ1 hF _ => no_ok rf_1 ⟨rfl, no2 hI rf_1 (SF.ofPF hF)⟩) (fun σ1 c hc ec _ => ?_))
      exact absurd ⟨by rw [ec]; exact nI_pos' (by omega), by rw [ec]; exact nI_le (by omega) (by omega)⟩ hr
    refine ⟨fun _ => ⟨fun q => ref (fun y => absurd q (Int32.not_lt.mpr y.1)), fun q => ⟨cr, ?_⟩⟩, fun z => absurd z h3⟩
    obtain ⟨c, hc, ec⟩ := nI_of q
    subst ec
    rw [ce, show σ (61 + 22 * g + 3) 2 = nI (gW (Gs g) * gH (Gs g)) from (h.2.1 g h.2.2.2.2.2.1.1).2.1.1.1.2.2]
    refine pk_lt c (gW (Gs g) * gH (Gs g)) (fun z => ?_) (fun z => ref (fun y => ?_))
    · unfold D_X5_pieceOn D_X5_pieceOn_0
      rw [hP.1.2.2.1, hP.1.2.2.2.1, piece_ok (P := psP (rpl (Gs g) ms)) (by omega) (hV.1 c).1]
      exact mod _ _ h.plm (fun σ1 _ hr => absurd ⟨nI_pos' hc, nI_le (by omega) (by omega)⟩ hr) (fun σ1 c' hc' ec' hF => ⟨by rw [(nI_eq hc (by omega)).mp ec'], _, _, _, _, _, h.keep (KP.ofSF (SF.ofPF hF))⟩)
    · have := (nI_leI hc (by omega)).mp y.2
      omega
