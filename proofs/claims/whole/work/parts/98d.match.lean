def lotN (z : Int32) : Int32 := z * 1103515245 + 12345
def drw (z : Int32) (n : Nat) : Nat := (jushr z 8).toNatClampNeg % n
theorem ush8 (z : Int32) : ∃ k : Nat, k < 2 ^ 24 ∧ jushr z 8 = nI k := by
  have e := pk_ushr z (nI 8) 8 (ush_all 8 (by decide))
  have hz := z.toBitVec.isLt
  refine ⟨z.toBitVec.toNat / 2 ^ 8, by omega, Int32.toBitVec.inj (BitVec.eq_of_toNat_eq ?_)⟩
  show (jushr z (nI 8)).toBitVec.toNat = _
  unfold jushr
  rw [e]
  have : (nI (z.toBitVec.toNat / 2 ^ 8)).toBitVec.toNat = z.toBitVec.toNat / 2 ^ 8 := pk_tn (by omega)
  rw [this]
theorem drw_ok (z : Int32) {n : Nat} (h0 : 0 < n) (hn : n < 2 ^ 31) : jrem (jushr z 8) (nI n) = nI (drw z n) ∧ drw z n < n := by
  obtain ⟨k, hk, e⟩ := ush8 z
  unfold drw
  rw [e, nI_clamp (by omega)]
  exact ⟨pk_rem (by omega) h0 hn, Nat.mod_lt _ h0⟩
/-- the move that player p chooses, and the lot behind it -/
def chs (G : GM) (ps : PS) (z : Int32) (p : Nat) : Nat := if p = 0 then drw (lotN z) (mvl G ps).length else if 3000 < tot G p ps then 0 else bst G p ps
def chz (z : Int32) (p : Nat) : Int32 := if p = 0 then lotN z else z
def plr (a b : Nat) (ps : PS) : Nat := if psD ps % 2 = 0 then a else b
/-- a MATCH played out: the last position, and how often each MOVE was used -/
def po (G : GM) (a b : Nat) : Nat → PS → Int32 → (Nat → Int32) → PS × (Nat → Int32)
  | 0, ps, _, u => (ps, u)
  | f + 1, ps, z, u => if psS ps = 0 then (match (mvl G ps)[chs G ps z (plr a b ps)]? with
      | none => (ps, u)
      | some m => po G a b f (stp G ps m) (chz z (plr a b ps)) (upd u m.1 (u m.1 + 1))) else (ps, u)
theorem chs_lt {G : GM} {ps : PS} {z : Int32} {p : Nat} (hG : GOK G) (hV : PV G ps) (hz : psS ps = 0) : chs G ps z p < (mvl G ps).length := by
  have hne := (hV.2.2.2.2 hz).2.2.2
  have hpos : 0 < (mvl G ps).length := List.length_pos_iff.mpr hne
  have hlen := mvl_len hG hV
  unfold chs
  split
  · exact (drw_ok _ hpos (by omega)).2
  · split
    · exact hpos
    · exact bst_lt hne
theorem po_s {G : GM} {a b f : Nat} {ps : PS} {z : Int32} {u : Nat → Int32} {m : Nat × Nat × Nat} (hz : psS ps = 0) (hm : (mvl G ps)[chs G ps z (plr a b ps)]? = some m) : po G a b (f + 1) ps z u = po G a b f (stp G ps m) (chz z (plr a b ps)) (upd u m.1 (u m.1 + 1)) := by
  conv => lhs; unfold po
  rw [if_pos hz, hm]
theorem po_e {G : GM} {a b f : Nat} {ps : PS} {z : Int32} {u : Nat → Int32} (hz : psS ps ≠ 0) : po G a b f ps z u = (ps, u) := by
  cases f with
  | zero => rfl
  | succ f => unfold po; rw [if_neg hz]
/-- by which END a position is over -/
def PE (ps : PS) : Prop := (psS ps = 1 → ∃ k : Nat, k < 6 ∧ psE ps = nI k) ∧ (psS ps ≠ 1 → psE ps = -9)
theorem endF_lt {w h : Nat} {P : Nat → Nat} {s dn : Nat} {lack : Bool} : ∀ (l : List RuT) (k j : Nat) (o : Int32), endF w h P s dn lack l k = some (j, o) → j < k + l.length
  | [], _, _, _, h => by simp [endF] at h
  | e :: es, k, j, o, h => by
    rw [endF_cons] at h
    split at h
    · have := congrArg Prod.fst (Option.some.inj h)
      simp only at this
      rw [← this, List.length_cons]
      omega
    · have := endF_lt es (k + 1) j o h
      rw [List.length_cons]
      omega
theorem stp_PE {G : GM} {ps : PS} {m : Nat × Nat × Nat} (hG : GOK G) : PE (stp G ps m) := by
  have h6 := hG.2.2.1.1
  unfold PE stp psS psE finS
  simp only
  cases hf : endF (gW G) (gH G) (stP G ps m) (sd (psD ps)) (psD ps + 1) (lackB G (stP G ps m) (psD ps + 1)) (gEn G) 0 with
  | some x =>
    obtain ⟨k, o⟩ := x
    have := endF_lt _ _ _ _ hf
    exact ⟨fun _ => ⟨k, by omega, rfl⟩, fun y => absurd rfl y⟩
  | none =>
    simp only
    split
    · exact ⟨fun y => absurd y (by decide), fun _ => rfl⟩
    · split
      · exact ⟨fun y => absurd y (by decide), fun _ => rfl⟩
      · exact ⟨fun y => absurd y (by decide), fun _ => rfl⟩
theorem beg_PE {G : GM} : PE (beg G) := by
  refine ⟨fun y => ?_, fun _ => rfl⟩
  have y' : (if ML (gW G) (gH G) (gMv G) (P0 G) 1 = [] then 2 else 0) = 1 := y
  split at y' <;> exact absurd y' (by decide)
theorem po_PV {G : GM} {a b : Nat} (hG : GOK G) : ∀ (f : Nat) (ps : PS) (z : Int32) (u : Nat → Int32), PV G ps → PE ps → psD ps + f = 60 → PV G (po G a b f ps z u).1 ∧ PE (po G a b f ps z u).1 ∧ psS (po G a b f ps z u).1 ≠ 0
  | 0, ps, z, u, hV, hE, hd => ⟨hV, hE, fun y => by have := (hV.2.2.2.2 y).1; omega⟩
  | f + 1, ps, z, u, hV, hE, hd => by
    by_cases hz : psS ps = 0
    · have hc := chs_lt (z := z) (p := plr a b ps) hG hV hz
      obtain ⟨m, hm⟩ : ∃ m, (mvl G ps)[chs G ps z (plr a b ps)]? = some m := ⟨_, List.getElem?_eq_getElem hc⟩
      rw [po_s hz hm]
      exact po_PV hG f _ _ _ (stp_PV hG hV (List.mem_of_getElem? hm)) (stp_PE hG) (by show psD ps + 1 + f = 60; omega)
    · rw [po_e hz]
      exact ⟨hV, hE, hz⟩
/-- what a tally holds: MOVES used, ENDS used, won by A, by B, drawn, moves, stopped, stuck, longest -/
abbrev TL : Type := (Nat → Int32) × (Nat → Int32) × Nat × Nat × Nat × Int32 × Int32 × Int32 × Int32
def tU (t : TL) : Nat → Int32 := t.1
def tE (t : TL) : Nat → Int32 := t.2.1
def tA (t : TL) : Nat := t.2.2.1
def tB (t : TL) : Nat := t.2.2.2.1
def tD (t : TL) : Nat := t.2.2.2.2.1
def tM (t : TL) : Int32 := t.2.2.2.2.2.1
def tS (t : TL) : Int32 := t.2.2.2.2.2.2.1
def tK (t : TL) : Int32 := t.2.2.2.2.2.2.2.1
def tL (t : TL) : Int32 := t.2.2.2.2.2.2.2.2
def TlC (σ : GSt) (o : Nat) (t : TL) : Prop := (σ o 4 = nI (tA t + tB t + tD t) ∧ σ o 1 = tM t ∧ σ o 5 = nI (tA t) ∧ σ o 6 = nI (tB t)) ∧ (σ o 7 = tS t ∧ σ o 8 = tK t ∧ σ o 9 = tL t) ∧ ∀ k, k < 6 → σ (o + 3) k = tU t k ∧ σ (o + 4) k = tE t k
def TlM (σ : GSt) (t : TL) : Prop := (σ 237 46 = nI (tA t) ∧ σ 237 47 = nI (tB t) ∧ σ 237 48 = nI (tD t) ∧ σ 237 49 = tM t) ∧ (σ 237 50 = tS t ∧ σ 237 51 = tK t ∧ σ 237 52 = tL t) ∧ ∀ k, k < 6 → σ 274 k = tU t k ∧ σ 275 k = tE t k
def t0 : TL := (fun _ => 0, fun _ => 0, 0, 0, 0, 0, 0, 0, 0)
/-- one MATCH more -/
def noteT (t : TL) (ps : PS) (u : Nat → Int32) : TL := (u, (if psS ps = 1 then upd (tE t) (psE ps).toNatClampNeg (tE t (psE ps).toNatClampNeg + 1) else tE t), tA t + (if psW ps = 1 then 1 else 0), tB t + (if psW ps = 2 then 1 else 0), tD t + (if psW ps = 0 then 1 else 0), tM t + nI (psD ps), tS t + (if psS ps = 3 then 1 else 0), tK t + (if psS ps = 2 then 1 else 0), jmax (tL t) (nI (psD ps)))
def mPo (G : GM) (a b : Nat) (z : Int32) (t : TL) : PS × (Nat → Int32) := po G a b 60 (beg G) z (tU t)
/-- n MATCHES with the seeds z, z + 1 .. -/
def meas (G : GM) (a b : Nat) (z : Int32) : Nat → TL
  | 0 => t0
  | n + 1 => noteT (meas G a b z n) (mPo G a b (z + nI n) (meas G a b z n)).1 (mPo G a b (z + nI n) (meas G a b z n)).2
def lastP (G : GM) (a b : Nat) (z : Int32) (n : Nat) : PS := (mPo G a b (z + nI n) (meas G a b z n)).1
theorem mPo_PV {G : GM} {a b : Nat} {z : Int32} {t : TL} (hG : GOK G) : PV G (mPo G a b z t).1 ∧ PE (mPo G a b z t).1 ∧ psS (mPo G a b z t).1 ≠ 0 := po_PV hG 60 (beg G) z (tU t) (beg_PV hG) beg_PE rfl
theorem meas_sum {G : GM} {a b : Nat} {z : Int32} (hG : GOK G) : ∀ n, tA (meas G a b z n) + tB (meas G a b z n) + tD (meas G a b z n) = n
  | 0 => rfl
  | n + 1 => by
    have ih := meas_sum (a := a) (b := b) (z := z) hG n
    have hw := (mPo_PV (a := a) (b := b) (z := z + nI n) (t := meas G a b z n) hG).1.2.2.2.1
    show (tA (meas G a b z n) + (if _ = 1 then 1 else 0)) + (tB (meas G a b z n) + (if _ = 2 then 1 else 0)) + (tD (meas G a b z n) + (if _ = 0 then 1 else 0)) = n + 1
    have h3 : psW (mPo G a b (z + nI n) (meas G a b z n)).1 = 0 ∨ psW (mPo G a b (z + nI n) (meas G a b z n)).1 = 1 ∨ psW (mPo G a b (z + nI n) (meas G a b z n)).1 = 2 := by omega
    rcases h3 with h | h | h <;> rw [h] <;> simp <;> omega
/-- what a match of the tally o leaves alone -/
def CFr (o : Nat) (σ σ' : GSt) : Prop := ∀ a, a ≠ 29 → a ≠ 30 → (a < 32 ∨ 38 < a) → (a < o ∨ o + 4 < a) → σ' a = σ a
theorem kd8 {o : Nat} (h : kd o = 8) : o = 39 ∨ o = 44 := kd_all (P := fun o => o = 39 ∨ o = 44) (by decide) (by decide +kernel) h
theorem nextLot_ok {z : Int32} {σ : GSt} {Q : Int32 → GSt → Prop} (hQ : Q (lotN z) σ) : D_X10_nextLot z σ Q := hQ
theorem drawn_ok {z : Int32} {n : Nat} {σ : GSt} {Q : Int32 → GSt → Prop} (h0 : 0 < n) (hn : n < 2 ^ 31) (hQ : Q (nI (drw z n)) σ) : D_X10_drawnFrom z (nI n) σ Q := by
  refine ⟨fun _ => ⟨nI_ne0 h0 hn, ?_⟩, fun y => absurd (nI_le (a := 1) h0 hn) y⟩
  rw [(drw_ok z h0 hn).1]
  exact hQ
theorem move_bd {G : GM} {ps : PS} {m : Nat × Nat × Nat} (hG : GOK G) (hV : PV G ps) (hm : m ∈ mvl G ps) : m.1 < 6 ∧ (m.2.1 < 16 ∨ m.2.1 = 99) ∧ m.2.2 < 16 := by
  obtain ⟨z, e, he, hk, hL⟩ := mvl_mem hG hV hm
  obtain ⟨⟨w2, w4, h2, h4⟩, ⟨m6, -, -⟩, -⟩ := hG
  have h16 : gW G * gH G ≤ 16 := Nat.mul_le_mul w4 h4
  have hk := (List.getElem?_eq_some_iff.mp he).1
  refine ⟨by omega, ?_⟩
  by_cases k0 : e.2.2.1 = 0
  · rcases hL with ⟨-, z, z2, -⟩ | ⟨z, -⟩
    · exact ⟨Or.inr z, by omega⟩
    · rw [k0] at z; exact absurd z (by decide)
  · obtain ⟨z1, -, z2, -⟩ := LM_dir w2 w4 h2 h4 (by unfold sd; omega) hL k0
    exact ⟨Or.inl (by omega), by omega⟩
theorem playOut_ok {o i a b : Nat} {G : GM} {z : Int32} {u : Nat → Int32} {σ : GSt} {Q : GSt → Prop} (hG : GOK G) (ho : kd o = 8) (hi : kd i = 1) (a3 : a ≤ 3) (b3 : b ≤ 3) (hB : ClB σ i G) (hu : ∀ k, k < 6 → σ (o + 3) k = u k) (hQ : ∀ σ' : GSt, PosC σ' (o + 1) i (po G a b 60 (beg G) z u).1 → (∀ k, k < 6 → σ' (o + 3) k = (po G a b 60 (beg G) z u).2 k) → σ' o = σ o → σ' (o + 4) = σ (o + 4) → CFr o σ σ' → Q σ') : D_X8_playOut o i z (nI a) (nI b) σ Q := by
  have oK := kd8 ho
  have iK := kd1 hi
  have ho5 : kd (o + 1) = 5 := ly_8_0 ho
  have l2 : ln (o + 2) = 256 := (ly_8_3 ho).2
  unfold D_X8_playOut D_X8_playOut_0
  refine begin_ok hG hi (by omega) hB (fun s1 P1 f1 => ⟨61, ?_⟩)
  have key : ∀ (f : Nat) (ps : PS) (y : Int32) (v : Nat → Int32) (τ : GSt), psD ps + f = 60 → PV G ps → PosC τ (o + 1) i ps → (∀ k, k < 6 → τ (o + 3) k = v k) → τ o = σ o → τ (o + 4) = σ (o + 4) → CFr o σ τ → po G a b 60 (beg G) z u = po G a b f ps y v → L_X8_playOut_14 Q o (f + 1) (nI a) (nI b) y (nI (psD ps)) τ := by
    intro f
    induction f with
    | zero =>
      intro ps y v τ hd hV hP hv c1 c2 hF he
      refine ⟨fun _ => ?_, fun q => absurd (nI_le (a := 60) (by omega) (by omega)) q⟩
      rw [he] at hQ
      exact hQ τ hP hv c1 c2 hF
    | succ f ih =>
      intro ps y v τ hd hV hP hv c1 c2 hF he
      have h3 := hV.2.2.1
      refine ⟨fun q => absurd q (nI_ge (b := 60) (by omega) (by decide)), fun _ => ⟨fun q => ?_, fun q => ?_⟩⟩
      · have hz : psS ps ≠ 0 := fun t => q (by rw [hP.2.1, t]; rfl)
        rw [he, po_e hz] at hQ
        exact hQ τ hP hv c1 c2 hF
      · rw [hP.2.1] at q
        have hz := (nI_eq (b := 0) (by omega) (by decide)).mp q
        have hlen := mvl_len hG hV
        have hne := (hV.2.2.2.2 hz).2.2.2
        have hpos : 0 < (mvl G ps).length := List.length_pos_iff.mpr hne
        have Bt : ClB τ i G := hB.row hG (fun x h1 h2 => hF x (by omega) (by omega) (by omega) (by omega))
        have hc := chs_lt (z := y) (p := plr a b ps) hG hV hz
        obtain ⟨m, hm⟩ : ∃ m, (mvl G ps)[chs G ps y (plr a b ps)]? = some m := ⟨_, List.getElem?_eq_getElem hc⟩
        have hmem := List.mem_of_getElem? hm
        rw [po_s hz hm] at he
        obtain ⟨mb1, mb2, mb3⟩ := move_bd hG hV hmem
        refine listC_ok hG hV l2 (by omega) (by omega) hP Bt (fun s2 R2 f2 => ?_)
        -- the move
        have go : ∀ (s4 : GSt), (∀ x, x ≠ 29 → x ≠ 30 → (x < 32 ∨ 38 < x) → x ≠ o + 1 → s4 x = s2 x) → PosC s4 (o + 1) i ps → D_X8_playOut_120 (L_X8_playOut_14 Q o (f + 1)) Q o (nI a) (nI b) (chz y (plr a b ps)) (nI (psD ps)) (nI (chs G ps y (plr a b ps))) s4 := by
          intro s4 f4 P4
          unfold D_X8_playOut_120
          have r4 : s4 (o + 2) (chs G ps y (plr a b ps)) = enc m := by rw [f4 (o + 2) (by omega) (by omega) (by omega) (by omega)]; exact R2 _ m hm
          obtain ⟨d1, -⟩ := enc_ok (k := m.1) (f := m.2.1) (t := m.2.2) mb1 mb2 mb3
          have d1' : jushr (enc m) 16 = nI m.1 := d1
          rw [nI_clamp (show chs G ps y (plr a b ps) < 2 ^ 31 by omega), r4, d1', nI_clamp (show m.1 < 2 ^ 31 by omega)]
          have v6 : vp_in (nI m.1) 6 := vp_in_nI mb1 (by decide)
          have v256 : vp_in (nI (chs G ps y (plr a b ps))) 256 := vp_in_nI (by omega) (by decide)
          have u4 : s4 (o + 3) m.1 = v m.1 := by rw [f4 (o + 3) (by omega) (by omega) (by omega) (by omega), f2 (o + 3) (by omega)]; exact hv m.1 mb1
          rw [u4]
          refine ⟨v256, v6, v6, fun s5 e5 => ⟨v256, ?_⟩⟩
          have r5 : s5 (o + 2) (chs G ps y (plr a b ps)) = enc m := by rw [e5, up2_ne (by omega)]; exact r4
          rw [r5]
          have P5 : PosC s5 (o + 1) i ps := P4.row (by rw [e5, up2_ne (by omega)])
          have B5 : ClB s5 i G := hB.row hG (fun x h1 h2 => by rw [e5, up2_ne (by omega), f4 x (by omega) (by omega) (by omega) (by omega), f2 x (by omega)]; exact hF x (by omega) (by omega) (by omega) (by omega))
          refine make_ok hG hV hmem (by omega) P5 B5 (fun s6 P6 f6 x6 e6 => ?_)
          rw [e6, nI_1]
          refine ih (stp G ps m) (chz y (plr a b ps)) (upd v m.1 (v m.1 + 1)) s6 (by show psD ps + 1 + f = 60; omega) (stp_PV hG hV hmem) P6 (fun k hk => ?_) ?_ ?_ (fun x h1 h2 h3 h4 => ?_) he
          · rw [f6 (o + 3) (by omega), e5, up2_app]
            unfold upd
            by_cases t : k = m.1
            · rw [if_pos ⟨rfl, t⟩, if_pos t]
            · rw [if_neg (by omega), if_neg t, f4 (o + 3) (by omega) (by omega) (by omega) (by omega), f2 (o + 3) (by omega)]
              exact hv k hk
          · rw [f6 o (by omega), e5, up2_ne (by omega), f4 o (by omega) (by omega) (by omega) (by omega), f2 o (by omega)]; exact c1
          · rw [f6 (o + 4) (by omega), e5, up2_ne (by omega), f4 (o + 4) (by omega) (by omega) (by omega) (by omega), f2 (o + 4) (by omega)]; exact c2
          · rw [f6 x (by omega), e5, up2_ne (by omega), f4 x h1 h2 h3 (by omega), f2 x (by omega)]; exact hF x h1 h2 h3 h4
        have P2 : PosC s2 (o + 1) i ps := hP.row (f2 _ (by omega))
        have B2 : ClB s2 i G := Bt.row hG (fun x h1 h2 => f2 x (by omega))
        have pl : ∀ p : Nat, p = plr a b ps → D_X8_playOut_60 (L_X8_playOut_14 Q o (f + 1)) Q o (nI a) (nI b) y (nI (psD ps)) (nI (mvl G ps).length) (nI p) s2 := by
          intro p ep
          have p3 : p ≤ 3 := by rw [ep]; unfold plr; split <;> omega
          rw [← ep] at go
          refine ⟨fun p0 => ?_, fun p0 => ?_⟩
          · have p0' : p ≠ 0 := fun t => p0 (by rw [t]; rfl)
            have ez : chz y p = y := by unfold chz; rw [if_neg p0']
            rw [ez] at go
            refine isSpentC_ok hG ho5 hi (by omega) hV P2 B2 (fun s3 hsp P3 f3 => ⟨fun _ => ?_, fun q => absurd q (by decide)⟩) (fun s3 hsp P3 f3 _ => ⟨fun q => absurd rfl q, fun _ => ?_⟩)
            · have ec : chs G ps y p = 0 := by unfold chs; rw [if_neg p0', if_pos hsp]
              rw [ec] at go
              exact go s3 (fun x h1 h2 h3 h4 => f3 x h4 h1 h2 h3) P3
            · have ec : chs G ps y p = bst G p ps := by unfold chs; rw [if_neg p0', if_neg (by omega)]
              rw [ec] at go
              have B3 : ClB s3 i G := B2.row hG (fun x h1 h2 => f3 x (by omega) (by omega) (by omega) (by omega))
              refine bestOf_ok hG ho5 hi (by omega) (by omega) hV hz P3 B3 (fun s4 P4 f4 => ?_)
              exact go s4 (fun x h1 h2 h3 h4 => by rw [f4 x h4 h3]; exact f3 x h4 h1 h2 h3) P4
          · have p0' : p = 0 := (nI_eq (b := 0) (by omega) (by decide)).mp p0
            have ez : chz y p = lotN y := by unfold chz; rw [if_pos p0']
            have ec : chs G ps y p = drw (lotN y) (mvl G ps).length := by unfold chs; rw [if_pos p0']
            rw [ez, ec] at go
            exact nextLot_ok (drawn_ok hpos (by omega) (go s2 (fun _ _ _ _ _ => rfl) P2))
        show (¬ (s2 (o + 1) 3 &&& 1) = 0 → _) ∧ ((s2 (o + 1) 3 &&& 1) = 0 → _)
        rw [P2.1.odd]
        refine ⟨fun q => pl b ?_, fun q => pl a ?_⟩
        · unfold plr
          rw [if_neg (fun t => q (by rw [t]; rfl))]
        · unfold plr
          rw [if_pos ((nI_eq (b := 0) (by omega) (by decide)).mp q)]
  exact key 60 (beg G) z u s1 rfl (beg_PV hG) P1 (fun k hk => by rw [f1 (o + 3) (by omega)]; exact hu k hk) (f1 o (by omega)) (f1 (o + 4) (by omega)) (fun x h1 h2 h3 h4 => f1 x (by omega)) rfl
