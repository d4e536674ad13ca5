theorem Lv.keep {σ σ' : GSt} {g dd : Nat} {G : GM} {ps : PS} (h : Lv σ g dd G ps) (hr : ∀ a, 242 ≤ a → a ≤ 268 → σ' a = σ a) (h22 : σ' 237 22 = σ 237 22) : Lv σ' g dd G ps := by
  unfold Lv MB CL MLs R3 MvM EnM at *
  rw [h22, hr 242 (by decide) (by decide), hr 243 (by decide) (by decide), hr 248 (by decide) (by decide), hr 253 (by decide) (by decide), hr 245 (by decide) (by decide), hr 246 (by decide) (by decide), hr 247 (by decide) (by decide), hr 256 (by decide) (by decide), hr 249 (by decide) (by decide), hr 250 (by decide) (by decide), hr 251 (by decide) (by decide), hr 252 (by decide) (by decide), hr 267 (by decide) (by decide), hr 268 (by decide) (by decide), hr 257 (by decide) (by decide), hr 258 (by decide) (by decide), hr 259 (by decide) (by decide), hr 260 (by decide) (by decide), hr 261 (by decide) (by decide), hr 262 (by decide) (by decide), hr 263 (by decide) (by decide), hr 264 (by decide) (by decide), hr 265 (by decide) (by decide), hr 266 (by decide) (by decide)]
  exact h
theorem br {c : Prop} [Decidable c] {f : Int32 → Prop} (h : f (if c then 1 else 0)) : (¬ c → f 0) ∧ (c → f 1) := ⟨fun q => by rw [if_neg q] at h; exact h, fun q => by rw [if_pos q] at h; exact h⟩
theorem chosen_ok {σ : GSt} {g p : Nat} {G : GM} {ps : PS} {z : Int32} {Q : Int32 → GSt → Prop} (hG : GOK G) (p3 : p ≤ 3) (hV : PV G ps) (hz : psS ps = 0) (hL : Lv σ g 0 G ps) (h45 : σ 237 45 = z) (hQ : ∀ σ' : GSt, Lv σ' g 0 G ps → σ' 237 45 = chz z p → (∀ a, a ≠ 237 → (a < 257 ∨ a = 267 ∨ a = 268 ∨ 272 < a) → σ' a = σ a) → (∀ k, k ≠ 22 → k ≠ 39 → k ≠ 45 → σ' 237 k = σ 237 k) → Q (nI (chs G ps z p)) σ') : D_X11_chosen (nI p) σ Q := by
  have hlen := mvl_len hG hV
  have hne := (hV.2.2.2.2 hz).2.2.2
  have hpos : 0 < (mvl G ps).length := List.length_pos_iff.mpr hne
  have c0 : Int32.toNatClampNeg 0 = 0 := by decide
  refine ⟨fun q s1 e1 => ?_, fun q => ?_⟩
  · have p0 : p = 0 := by
      have := (nI_leI (b := 0) (by omega) (by decide)).mp q
      omega
    rw [h45] at e1
    have l0 : s1 266 0 = nI (mvl G ps).length := by rw [e1, up2_ne (by decide), hL.2.2.2.1, ML_mvl hz]
    have z0 : s1 237 45 = lotN z := by rw [e1]; simp [up2_app]; rfl
    rw [c0, l0, z0, (drw_ok (lotN z) hpos (by omega)).1]
    have ec : chs G ps z p = drw (lotN z) (mvl G ps).length := by unfold chs; rw [if_pos p0]
    have ez : chz z p = lotN z := by unfold chz; rw [if_pos p0]
    rw [ec, ez] at hQ
    exact ⟨nI_ne0 hpos (by omega), hQ s1 (hL.keep (fun a h1 h2 => by rw [e1, up2_ne (by omega)]) (by rw [e1, up2_app, if_neg (by decide)])) z0 (fun a h1 _ => by rw [e1, up2_ne h1]) (fun k h1 h2 h3 => by rw [e1, up2_app, if_neg (by omega)])⟩
  · have p0 : p ≠ 0 := fun t => q (by rw [t]; decide)
    have ez : chz z p = z := by unfold chz; rw [if_neg p0]
    rw [ez] at hQ
    refine isSpentM_ok (d := 0) hG (by omega) (by omega) hV hL (fun s1 hsp G1 L1 => ⟨fun y => absurd y (by decide), fun _ => ?_⟩) (fun s1 hsp G1 L1 _ => ⟨fun _ => ?_, fun y => absurd rfl y⟩)
    · have ec : chs G ps z p = 0 := by unfold chs; rw [if_neg p0, if_pos hsp]
      rw [ec] at hQ
      exact hQ s1 L1 (by rw [G1.1 237 (by decide)]; exact h45) G1.pf.1 (fun k h1 h2 _ => G1.pf.2 k h1 h2)
    · have ec : chs G ps z p = bst G p ps := by unfold chs; rw [if_neg p0, if_neg (by omega)]
      rw [ec] at hQ
      refine bestAt_ok hG (by omega) (by omega) hV hz L1 (fun s2 F2 L2 => ?_)
      have F : PF σ s2 := G1.pf.trans F2
      exact hQ s2 L2 (by rw [F.2 45 (by decide) (by decide)]; exact h45) F.1 (fun k h1 h2 _ => F.2 k h1 h2)
/-- what a match of the reference leaves alone -/
def QF (σ σ' : GSt) : Prop := (∀ a, a ≠ 237 → (a < 257 ∨ a = 267 ∨ a = 268 ∨ (272 < a ∧ a ≠ 274 ∧ a ≠ 275)) → σ' a = σ a) ∧ ∀ k, k ≠ 22 → k ≠ 39 → k ≠ 45 → σ' 237 k = σ 237 k
theorem QF.trans {σ σ' σ'' : GSt} (h : QF σ σ') (k : QF σ' σ'') : QF σ σ'' := ⟨fun a p q => (k.1 a p q).trans (h.1 a p q), fun j p q r => (k.2 j p q r).trans (h.2 j p q r)⟩
theorem QF.ofPF {σ σ' : GSt} (h : PF σ σ') : QF σ σ' := ⟨fun a p q => h.1 a p (by omega), fun k p q _ => h.2 k p q⟩
theorem QF.put {σ σ' : GSt} {a j : Nat} {v : Int32} (h : QF σ σ') (ha : a = 274 ∨ a = 275) : QF σ (up2 σ' a j v) := ⟨fun b p q => (up2_ne (by omega)).trans (h.1 b p q), fun k p q r => by rw [up2_ne (by omega)]; exact h.2 k p q r⟩
theorem plays_ok {σ : GSt} {g a b : Nat} {G : GM} {z : Int32} {u en : Nat → Int32} {Q : GSt → Prop} (hG : GOK G) (a3 : a ≤ 3) (b3 : b ≤ 3) (hM : MG0 σ g G) (hu : ∀ k, k < 6 → σ 274 k = u k) (he : ∀ k, k < 6 → σ 275 k = en k) (hQ : ∀ σ' : GSt, Lv σ' g 0 G (po G a b 60 (beg G) z u).1 → (∀ k, k < 6 → σ' 274 k = (po G a b 60 (beg G) z u).2 k) → (∀ k, k < 6 → σ' 275 k = (if psS (po G a b 60 (beg G) z u).1 = 1 then upd en (psE (po G a b 60 (beg G) z u).1).toNatClampNeg (en (psE (po G a b 60 (beg G) z u).1).toNatClampNeg + 1) else en) k) → QF σ σ' → Q σ') : D_X11_plays (nI g) (nI a) (nI b) z σ Q := by
  have c0 : Int32.toNatClampNeg 0 = 0 := by decide
  obtain ⟨rV, rE, rz⟩ := po_PV (a := a) (b := b) hG 60 (beg G) z u (beg_PV hG) beg_PE rfl
  unfold D_X11_plays D_X11_plays_0
  refine opens_ok hG hM (fun s1 L1 F1 s2 e2 => ⟨61, ?_⟩)
  have Q2 : QF σ s2 := by
    have := QF.ofPF F1
    rw [e2]
    exact ⟨fun x p q => (up2_ne p).trans (this.1 x p q), fun k p q r => by rw [up2_app, if_neg (by omega)]; exact this.2 k p q r⟩
  have L2 : Lv s2 g 0 G (beg G) := L1.keep (fun a h1 h2 => by rw [e2, up2_ne (by omega)]) (by rw [e2, up2_app, if_neg (by decide)])
  have key : ∀ (f : Nat) (ps : PS) (y : Int32) (v : Nat → Int32) (τ : GSt), psD ps + f = 60 → PV G ps → PE ps → Lv τ g 0 G ps → τ 237 45 = y → (∀ k, k < 6 → τ 274 k = v k) → (∀ k, k < 6 → τ 275 k = en k) → QF σ τ → po G a b 60 (beg G) z u = po G a b f ps y v → L_X11_plays_11 Q (f + 1) (nI a) (nI b) τ := by
    intro f
    induction f with
    | zero =>
      intro ps y v τ hd hV hE hL h45 hv hen hF hp
      have hz : psS ps ≠ 0 := fun t => by have := (hV.2.2.2.2 t).1; omega
      have h3 := hV.2.2.1
      have hp' : po G a b 60 (beg G) z u = (ps, v) := hp
      rw [hp'] at hQ
      simp only at hQ
      unfold L_X11_plays_11 D_X11_plays_11
      rw [c0, hL.2.2.1.2.2.1, hL.2.2.1.2.2.2.2]
      have e1 : nI (psS ps) = 1 ↔ psS ps = 1 := nI_eq (b := 1) (by omega) (by decide)
      refine ⟨fun _ => ⟨fun q => ?_, fun q => ?_⟩, fun q => absurd ((nI_eq (b := 0) (by omega) (by decide)).mp q) hz⟩
      · rw [if_neg (fun t => q (e1.mpr t))] at hQ
        exact hQ τ hL hv hen hF
      · obtain ⟨k, k6, ek⟩ := hE.1 (e1.mp q)
        rw [ek, nI_clamp (show k < 2 ^ 31 by omega), hen k k6]
        rw [if_pos (e1.mp q), ek, nI_clamp (show k < 2 ^ 31 by omega)] at hQ
        have vk : vp_in (nI k) 6 := vp_in_nI k6 (by decide)
        refine ⟨vk, vk, fun s e => hQ s (hL.keep (fun a h1 h2 => by rw [e, up2_ne (by omega)]) (by rw [e, up2_ne (by decide)])) (fun j hj => by rw [e, up2_ne (by decide)]; exact hv j hj) (fun j hj => ?_) (by rw [e]; exact hF.put (Or.inr rfl))⟩
        rw [e, up2_app]
        unfold upd
        by_cases t : j = k
        · rw [if_pos ⟨rfl, t⟩, if_pos t]
        · rw [if_neg (by omega), if_neg t]
          exact hen j hj
    | succ f ih =>
      intro ps y v τ hd hV hE hL h45 hv hen hF hp
      have h3 := hV.2.2.1
      unfold L_X11_plays_11 D_X11_plays_11
      rw [c0, hL.2.2.1.2.2.1, hL.2.2.1.2.2.2.2, hL.2.2.1.1]
      have e1 : nI (psS ps) = 1 ↔ psS ps = 1 := nI_eq (b := 1) (by omega) (by decide)
      refine ⟨fun q0 => ?_, fun q0 => ?_⟩
      · have hz : psS ps ≠ 0 := fun t => q0 (by rw [t]; rfl)
        rw [hp, po_e hz] at hQ
        simp only at hQ
        refine ⟨fun q => ?_, fun q => ?_⟩
        · rw [if_neg (fun t => q (e1.mpr t))] at hQ
          exact hQ τ hL hv hen hF
        · obtain ⟨k, k6, ek⟩ := hE.1 (e1.mp q)
          rw [ek, nI_clamp (show k < 2 ^ 31 by omega), hen k k6]
          rw [if_pos (e1.mp q), ek, nI_clamp (show k < 2 ^ 31 by omega)] at hQ
          have vk : vp_in (nI k) 6 := vp_in_nI k6 (by decide)
          refine ⟨vk, vk, fun s e => hQ s (hL.keep (fun a h1 h2 => by rw [e, up2_ne (by omega)]) (by rw [e, up2_ne (by decide)])) (fun j hj => by rw [e, up2_ne (by decide)]; exact hv j hj) (fun j hj => ?_) (by rw [e]; exact hF.put (Or.inr rfl))⟩
          rw [e, up2_app]
          unfold upd
          by_cases t : j = k
          · rw [if_pos ⟨rfl, t⟩, if_pos t]
          · rw [if_neg (by omega), if_neg t]
            exact hen j hj
      · have hz := (nI_eq (b := 0) (by omega) (by decide)).mp q0
        have hlen := mvl_len hG hV
        have hc := chs_lt (z := y) (p := plr a b ps) hG hV hz
        obtain ⟨m, hm⟩ : ∃ m, (mvl G ps)[chs G ps y (plr a b ps)]? = some m := ⟨_, List.getElem?_eq_getElem hc⟩
        have hmem := List.mem_of_getElem? hm
        rw [po_s hz hm] at hp
        obtain ⟨mb1, -, -⟩ := move_bd hG hV hmem
        have pl : ∀ p : Nat, p = plr a b ps → D_X11_plays_36 (L_X11_plays_11 Q (f + 1)) Q (nI a) (nI b) (nI p) τ := by
          intro p ep
          have p3 : p ≤ 3 := by rw [ep]; unfold plr; split <;> omega
          unfold D_X11_plays_36
          refine chosen_ok hG p3 hV hz hL h45 (fun s3 L3 h3' F3 K3 => ?_)
          rw [ep] at h3' ⊢
          obtain ⟨r1, -, -⟩ := L3.2.2.2.2 (chs G ps y (plr a b ps)) m (by rw [ML_mvl hz]; exact hm)
          rw [Nat.mul_zero, Nat.zero_add] at r1
          rw [nI_clamp (show chs G ps y (plr a b ps) < 2 ^ 31 by omega), r1, nI_clamp (show m.1 < 2 ^ 31 by omega), F3 274 (by decide) (by decide), hv m.1 mb1]
          have v6 : vp_in (nI m.1) 6 := vp_in_nI mb1 (by decide)
          refine ⟨vp_in_nI (by omega) (by decide), v6, v6, fun s4 e4 => ?_⟩
          have L4 : Lv s4 g 0 G ps := L3.keep (fun a h1 h2 => by rw [e4, up2_ne (by omega)]) (by rw [e4, up2_ne (by decide)])
          refine goesOn_ok hG hV L4 hm (fun s5 L5 F5 => ?_)
          refine ih (stp G ps m) (chz y (plr a b ps)) (upd v m.1 (v m.1 + 1)) s5 (by show psD ps + 1 + f = 60; omega) (stp_PV hG hV hmem) (stp_PE hG) L5 ?_ (fun k hk => ?_) (fun k hk => ?_) ?_ hp
          · rw [F5.2 45 (by decide) (by decide), e4, up2_ne (by decide)]; exact h3'
          · rw [F5.1 274 (by decide) (by decide), e4, up2_app]
            unfold upd
            by_cases t : k = m.1
            · rw [if_pos ⟨rfl, t⟩, if_pos t]
            · rw [if_neg (by omega), if_neg t, F3 274 (by decide) (by decide)]
              exact hv k hk
          · rw [F5.1 275 (by decide) (by decide), e4, up2_ne (by decide), F3 275 (by decide) (by decide)]
            exact hen k hk
          · refine (QF.trans ?_ (QF.ofPF F5))
            rw [e4]
            exact (hF.trans ⟨fun x p q => F3 x p (by omega), K3⟩).put (Or.inl rfl)
        refine ⟨fun q => pl b ?_, fun q => pl a ?_⟩
        · unfold plr
          rw [if_neg (fun t => q (by unfold sd; rw [t]; rfl))]
        · unfold plr
          have := (nI_eq (b := 1) (by unfold sd; omega) (by decide)).mp q
          unfold sd at this
          rw [if_pos (by omega)]
  exact key 60 (beg G) z u s2 rfl (beg_PV hG) beg_PE L2 (by rw [e2]; simp [up2_app]) (fun k hk => by rw [e2, up2_ne (by decide), F1.1 274 (by decide) (by decide)]; exact hu k hk) (fun k hk => by rw [e2, up2_ne (by decide), F1.1 275 (by decide) (by decide)]; exact he k hk) Q2 rfl
