def dX (w f t : Nat) : Int32 := jrem (nI t) (nI w) - jrem (nI f) (nI w)
def dY (w f t : Nat) : Int32 := nI t / nI w - nI f / nI w
theorem does_all : ((List.range 5).all fun w => (List.range 5).all fun h => (List.range 16).all fun f => !(decide (2 ≤ w) && decide (2 ≤ h) && decide (f < w * h)) || (List.range 8).all fun d => match nbO w h f d with | none => true | some t => loc w h (jrem (nI t) (nI w) + dX w f t) (nI t / nI w + dY w f t) == nbO w h t d && (match nbO w h t d with | none => true | some y => nI w * (nI t / nI w + dY w f t) + (jrem (nI t) (nI w) + dX w f t) == nI y && nI f + nI w * (dY w f y / 2) + dX w f y / 2 == nI t)) = true := by decide +kernel
theorem does_geo {w h f d t : Nat} (w2 : 2 ≤ w) (w4 : w ≤ 4) (h2 : 2 ≤ h) (h4 : h ≤ 4) (hf : f < w * h) (hd : d < 8) (ht : nbO w h f d = some t) : loc w h (jrem (nI t) (nI w) + dX w f t) (nI t / nI w + dY w f t) = nbO w h t d ∧ ∀ y, nbO w h t d = some y → nI w * (nI t / nI w + dY w f t) + (jrem (nI t) (nI w) + dX w f t) = nI y ∧ nI f + nI w * (dY w f y / 2) + dX w f y / 2 = nI t := by
  have h16 : w * h ≤ 16 := Nat.mul_le_mul w4 h4
  have q := List.all_eq_true.mp (List.all_eq_true.mp (List.all_eq_true.mp does_all w (List.mem_range.mpr (by omega))) h (List.mem_range.mpr (by omega))) f (List.mem_range.mpr (by omega))
  simp only [w2, h2, hf, decide_true, Bool.and_self, Bool.not_true, Bool.false_or] at q
  have q2 := List.all_eq_true.mp q d (List.mem_range.mpr hd)
  rw [ht] at q2
  simp only [Bool.and_eq_true, beq_iff_eq] at q2
  refine ⟨q2.1, fun y hy => ?_⟩
  have q3 := q2.2
  rw [hy] at q3
  simp only [Bool.and_eq_true, beq_iff_eq] at q3
  exact q3
theorem CL.put {σ : GSt} {e x v : Nat} {P : Nat → Nat} (h : CL σ e P) (hx : x < 16) : CL (up2 σ 257 (16 * e + x) (nI v)) e (fun c => if c = x then v else P c) := by
  intro c hc
  show _ = nI (if c = x then v else P c)
  rw [up2_app]
  by_cases q : c = x
  · rw [if_pos ⟨rfl, by omega⟩, if_pos q]
  · rw [if_neg (by omega), if_neg q]
    exact h c hc
theorem CL.congr {σ : GSt} {e : Nat} {P P' : Nat → Nat} (h : CL σ e P) (hp : ∀ c, c < 16 → P c = P' c) : CL σ e P' := fun c hc => by rw [← hp c hc]; exact h c hc
theorem does_ok {σ : GSt} {g d i : Nat} {G : GM} {ps : PS} {m : Nat × Nat × Nat} {Q : GSt → Prop} (hG : GOK G) (hV : PV G ps) (d8 : d < 8) (hL : Lv σ g d G ps) (hm : (mvl G ps)[i]? = some m) (hQ : ∀ σ' : GSt, Lv σ' g (d + 1) G (stp G ps m) → LF (d + 1) σ σ' → Q σ') : D_X11_does (nI d) (nI i) σ Q := by
  have hmem : m ∈ mvl G ps := List.mem_of_getElem? hm
  have hVs := stp_PV hG hV hmem
  obtain ⟨z, e, he, hk, hLM⟩ := mvl_mem hG hV hmem
  obtain ⟨⟨w2, w4, h2, h4⟩, ⟨m6, -, hM⟩, -⟩ := id hG
  obtain ⟨h60, -, -, -⟩ := hV.2.2.2.2 z
  have h16 : gW G * gH G ≤ 16 := Nat.mul_le_mul w4 h4
  have hlen := mvl_len hG hV
  have il := (List.getElem?_eq_some_iff.mp hm).1
  have hsd : 1 ≤ sd (psD ps) ∧ sd (psD ps) ≤ 2 := by unfold sd; omega
  have hsd' : sd (psD ps + 1) = 3 - sd (psD ps) := by unfold sd; omega
  have hkl := (List.getElem?_eq_some_iff.mp he).1
  have g9 := hL.1.1.1
  have em : ML (gW G) (gH G) (gMv G) (psP ps) (sd (psD ps)) = mvl G ps := by unfold mvl; rw [if_pos z]
  have hrow := hL.2.2.2.2 i m (by rw [em]; exact hm)
  obtain ⟨k, f, t⟩ := m
  obtain ⟨r1, r2, r3⟩ := hrow
  simp only at r1 r2 r3 he hk hLM
  obtain ⟨kind, hkind⟩ : ∃ y, e.2.2.1 = y := ⟨_, rfl⟩
  rw [hkind] at hk hLM
  obtain ⟨s, hs⟩ : ∃ s, s = sd (psD ps) := ⟨_, rfl⟩
  rw [← hs] at hLM hsd hsd'
  obtain ⟨P, hP⟩ : ∃ P, P = psP ps := ⟨_, rfl⟩
  rw [← hP] at hLM
  have eP : stP G ps (k, f, t) = mvP (gW G) (gH G) P s kind f t := by unfold stP; rw [hk, hP, hs]
  have tl : t < gW G * gH G := by
    by_cases k0 : kind = 0
    · rcases hLM with ⟨-, -, q, -⟩ | ⟨q, -⟩
      · exact q
      · rw [k0] at q; exact absurd q (by decide)
    · exact (LM_dir w2 w4 h2 h4 hsd hLM k0).2.2.1
  have vd : vp_in (nI d) 9 := vp_in_nI (by omega) (by decide)
  have vd1 : vp_in (nI (d + 1)) 9 := vp_in_nI (by omega) (by decide)
  -- the end of it
  have last : ∀ (τ : GSt) (P1 : Nat → Nat), LF (d + 1) σ τ → CL τ (d + 1) P1 → (∀ c, c < 16 → (if c = t then s else P1 c) = stP G ps (k, f, t) c) → D_X11_does_294 Q (nI d) (nI (d + 1)) (nI t) τ := by
    intro τ P1 hF hC hp
    have Ld := hL.other hG hV (by omega) hF
    unfold D_X11_does_294
    rw [show (16 : Int32) * nI (d + 1) + nI t = nI (16 * (d + 1) + t) from nlin 16 (d + 1) t, nI_clamp (show 16 * (d + 1) + t < 2 ^ 31 by omega), nI_clamp (show d < 2 ^ 31 by omega), nI_clamp (show d + 1 < 2 ^ 31 by omega), Ld.2.2.1.1, ← hs]
    refine ⟨vd, vp_in_nI (by omega) (by decide), fun s1 e1 => ⟨vd, vd1, fun s2 e2 => ⟨vd, vd1, fun s3 e3 => ?_⟩⟩⟩
    have v1 : s1 258 d = nI s := by rw [e1, up2_ne (by decide), Ld.2.2.1.1, ← hs]
    rw [v1, show (3 : Int32) - nI s = nI (3 - s) from pk_sub (a := 3) (by omega)] at e2
    have v2 : s2 259 d = nI (psD ps) := by rw [e2, up2_ne (by decide), e1, up2_ne (by decide)]; exact Ld.2.2.1.2.1
    rw [v2, nI_1] at e3
    have F3 : LF (d + 1) σ s3 := by rw [e3, e2, e1]; exact ((hF.cell (by omega)).slot (by decide)).slot (by decide)
    have C3 : CL s3 (d + 1) (stP G ps (k, f, t)) := by
      have := (hC.put (x := t) (v := s) (by omega)).congr hp
      intro c hc
      rw [e3, up2_ne (by decide), e2, up2_ne (by decide), e1]
      exact this c hc
    have M3 : MB s3 g G := hL.1.row (fun a ha => F3.1 a (by omega))
    have s8 : s3 258 (d + 1) = nI (3 - s) := by rw [e3, up2_ne (by decide), e2]; simp [up2_app]
    have s9 : s3 259 (d + 1) = nI (psD ps + 1) := by rw [e3]; simp [up2_app]
    have V3 : VP (gW G) (gH G) (stP G ps (k, f, t)) := hVs.1
    refine findMoves_ok hG (by omega) (by omega) V3 ⟨M3, C3, s8⟩ (fun s4 M4 F4 => ?_)
    have L4 : LvP s4 g (d + 1) G (stP G ps (k, f, t)) (3 - s) := LvP.row ⟨M3, C3, s8⟩ F4
    refine ends_ok hG L4.1 (by omega) (by omega) hsd' (by omega) V3 L4.2.1 L4.2.2 (by rw [F4.1 259 (by decide)]; exact s9) M4 (fun s5 F5 L5 => ?_)
    refine hQ s5 ?_ ((F3.ofFM F4).trans F5)
    have : stp G ps (k, f, t) = (stP G ps (k, f, t), psD ps + 1, finS G (stP G ps (k, f, t)) (psD ps + 1) s) := by rw [hs]; rfl
    rw [this]
    exact L5
  -- behind the pieces that are gone
  have push : ∀ (τ : GSt) (P1 : Nat → Nat), kind ≠ 0 → LF (d + 1) σ τ → CL τ (d + 1) P1 → (∀ c, P1 c = if c = f then 0 else if kind = 2 ∧ c = (f + t) / 2 then 0 else P c) → D_X11_does_207 Q (nI d) (nI (d + 1)) (kL kind) (nI t) (dX (gW G) f t) (dY (gW G) f t) τ := by
    intro τ P1 k0 hF hC hp1
    have Ld := hL.other hG hV (by omega) hF
    obtain ⟨fl', pf, -, tf, dr, hdr, hc⟩ := LM_dir w2 w4 h2 h4 hsd hLM k0
    have w0 : ¬ nI (gW G) = 0 := nI_ne0 (by omega) (by omega)
    unfold D_X11_does_207
    rw [Ld.1.gi, Ld.1.2.1.1]
    refine ⟨Ld.1.vp, w0, fun x10 e10 => ⟨Ld.1.vp, w0, fun x11 e11 => ⟨fun k4 => ?_, fun k4 => ?_⟩⟩⟩
    · refine last τ P1 hF hC (fun c hc16 => ?_)
      rw [eP, hp1 c]
      unfold mvP
      have nk : kind ≠ 4 := fun y => k4 (by rw [y]; rfl)
      split
      · rfl
      · by_cases q : c = f
        · rw [if_pos q, if_pos ⟨k0, q⟩]
        · rw [if_neg q, if_neg (show ¬ (kind ≠ 0 ∧ c = f) from fun y => q y.2)]
          by_cases q2 : kind = 2 ∧ c = (f + t) / 2
          · rw [if_pos q2, if_pos q2]
          · rw [if_neg q2, if_neg q2, if_neg (show ¬ (kind = 4 ∧ bhO (gW G) (gH G) f t = some c) from fun y => nk y.1)]
    · have kk : kind = 4 := by
        rcases hc with ⟨y, -⟩ | ⟨y, -⟩ | ⟨y, -⟩ | ⟨y, -⟩
        · rw [y] at k4; exact absurd k4 (by decide)
        · rw [y] at k4; exact absurd k4 (by decide)
        · exact y
        · rw [y] at k4; exact absurd k4 (by decide)
      rcases hc with ⟨y, -⟩ | ⟨y, -⟩ | ⟨-, hx, pt, hb, hy⟩ | ⟨y, -⟩
      · rw [kk] at y; exact absurd y (by decide)
      · rw [kk] at y; exact absurd y (by decide)
      · obtain ⟨g1, g2⟩ := does_geo w2 w4 h2 h4 fl' hdr hx
        refine cellAt_ok hG Ld.1 (by omega) Ld.2.1 ?_
        rw [e10, e11, g1]
        cases hn : nbO (gW G) (gH G) t dr with
        | none =>
          refine ⟨fun _ => last τ P1 hF hC (fun c hc16 => ?_), fun y => absurd (show (-1 : Int32) = 0 from y) (by decide)⟩
          rw [eP, hp1 c]
          unfold mvP
          rw [hb, hn]
          split
          · rfl
          · by_cases q : c = f
            · rw [if_pos q, if_pos ⟨k0, q⟩]
            · rw [if_neg q, if_neg (show ¬ (kind ≠ 0 ∧ c = f) from fun y => q y.2)]
              simp [kk]
        | some y =>
          obtain ⟨py, yl, yf, yt⟩ := hy y hn
          obtain ⟨gy, -⟩ := g2 y hn
          have hcell : cA (psP ps) (some y) = 0 := by show nI (psP ps y) = 0; rw [← hP, py]; rfl
          rw [hcell]
          refine ⟨fun q => absurd rfl q, fun _ => ?_⟩
          rw [Ld.1.gi, Ld.1.2.1.1, nI_clamp (show d < 2 ^ 31 by omega), Ld.2.2.1.1, ← hs]
          have ei : (16 : Int32) * nI (d + 1) + nI (gW G) * (nI t / nI (gW G) + dY (gW G) f t) + (jrem (nI t) (nI (gW G)) + dX (gW G) f t) = nI (16 * (d + 1) + y) := by
            rw [Int32.add_assoc, gy]
            exact nlin 16 (d + 1) y
          rw [ei, nI_clamp (show 16 * (d + 1) + y < 2 ^ 31 by omega), show (3 : Int32) - nI s = nI (3 - s) from pk_sub (a := 3) (by omega)]
          refine ⟨Ld.1.vp, vd, vp_in_nI (by omega) (by decide), fun s5 e5 => ?_⟩
          refine last s5 (fun c => if c = y then 3 - s else P1 c) (by rw [e5]; exact hF.cell (by omega)) (by rw [e5]; exact hC.put (by omega)) (fun c hc16 => ?_)
          rw [eP]
          show (if c = t then s else if c = y then 3 - s else P1 c) = _
          rw [hp1 c]
          unfold mvP
          rw [hb, hn]
          split
          · rfl
          · by_cases q : c = f
            · rw [if_neg (fun u => yf (by rw [← u, q])), if_pos q, if_pos ⟨k0, q⟩]
            · rw [if_neg (fun u : kind ≠ 0 ∧ c = f => q u.2), if_neg q]
              have n2 : ¬ (kind = 2 ∧ c = (f + t) / 2) := fun u => absurd (kk ▸ u.1) (by decide)
              rw [if_neg n2, if_neg n2]
              by_cases q2 : c = y
              · rw [if_pos q2, if_pos ⟨kk, by rw [q2]⟩]
              · rw [if_neg q2, if_neg (fun u => q2 (Option.some.inj u.2).symm)]
      · rw [kk] at y; exact absurd y (by decide)
  intro x3 e3 x4 e4
  rw [show (800 : Int32) * nI d + nI i = nI (800 * d + i) from nlin 800 d i] at e3
  rw [nI_1] at e4
  subst e3
  subst e4
  refine ⟨17, ?_⟩
  have copy : ∀ (u c : Nat) (τ : GSt), c + u = 16 → LF (d + 1) σ τ → (∀ j, j < c → τ 257 (16 * (d + 1) + j) = nI (P j)) → L_X11_does_16 Q (u + 1) (nI d) (nI (800 * d + i)) (nI (d + 1)) (nI c) τ := by
    intro u
    induction u with
    | zero =>
      intro c τ hc hF hcp
      have Ld := hL.other hG hV (by omega) hF
      have C0 : CL τ (d + 1) P := fun c' hc' => hcp c' (by omega)
      have R := Ld.2.2.2.2 i (k, f, t) (by rw [em]; exact hm)
      obtain ⟨r1, r2, r3⟩ := R
      obtain ⟨v5, -⟩ := Ld.1.2.2.2.1 k e he
      rw [hkind] at v5
      unfold L_X11_does_16 D_X11_does_16
      rw [nI_clamp (show 800 * d + i < 2 ^ 31 by omega), r1, r2, r3]
      simp only
      rw [Ld.1.1.2, show (6 : Int32) * nI g + nI k = nI (6 * g + k) from nlin 6 g k, nI_clamp (show 6 * g + k < 2 ^ 31 by omega), v5, nI_clamp (show g < 2 ^ 31 by omega), Ld.1.2.1.1]
      have vx : vp_in (nI (800 * d + i)) 7200 := vp_in_nI (by omega) (by decide)
      have vg : vp_in (nI g) 9 := vp_in_nI g9 (by decide)
      have w0 : ¬ nI (gW G) = 0 := nI_ne0 (by omega) (by omega)
      refine ⟨fun _ => ⟨vx, vp_in_nI (by omega) (by decide), fun xk ek => ⟨vx, fun xt et => ⟨vx, fun xf ef => ⟨fun q => ?_, fun q => ?_⟩⟩⟩⟩, fun q => absurd (nI_le (a := 16) (by omega) (by omega)) q⟩
      · rw [et]
        have k0 : kind = 0 := by
          rcases hLM with ⟨y, -⟩ | ⟨y, -⟩
          · exact y
          · rw [ek] at q
            rcases y with y | y | y | y <;> (rw [y] at q; exact absurd q (by decide))
        refine last τ P hF C0 (fun c hc16 => ?_)
        rw [eP]
        unfold mvP
        split
        · rfl
        · rw [if_neg (fun y => y.1 k0), if_neg (fun y => absurd (k0 ▸ y.1) (by decide)), if_neg (fun y => absurd (k0 ▸ y.1) (by decide))]
      · have k0 : kind ≠ 0 := fun y => q (by rw [ek, y]; rfl)
        obtain ⟨fl', pf, -, tf, dr, hdr, hc'⟩ := LM_dir w2 w4 h2 h4 hsd hLM k0
        rw [et, ef, ek]
        refine ⟨vg, w0, vg, w0, fun x8 e8 => ⟨vg, w0, vg, w0, fun x9 e9 => ?_⟩⟩
        have e8' : x8 = dX (gW G) f t := e8
        have e9' : x9 = dY (gW G) f t := e9
        rw [e8', e9']
        rw [show (16 : Int32) * nI (d + 1) + nI f = nI (16 * (d + 1) + f) from nlin 16 (d + 1) f, nI_clamp (show 16 * (d + 1) + f < 2 ^ 31 by omega)]
        refine ⟨vp_in_nI (by omega) (by decide), fun s6 e6 => ?_⟩
        have F6 : LF (d + 1) σ s6 := by rw [e6]; exact hF.cell (by omega)
        have C6 : CL s6 (d + 1) (fun c => if c = f then 0 else P c) := by rw [e6]; exact C0.put (v := 0) (by omega)
        have L6 := hL.other hG hV (by omega) F6
        rw [L6.1.gi, L6.1.2.1.1]
        refine ⟨fun n2 => ?_, fun y2 => ?_⟩
        · have nk : kind ≠ 2 := fun y => n2 (by rw [y]; rfl)
          exact push s6 _ k0 F6 C6 (fun c => by
            split
            · rfl
            · rw [if_neg (fun y => nk y.1)])
        · have kk : kind = 2 := by
            rcases hc' with ⟨y, -⟩ | ⟨y, -⟩ | ⟨y, -⟩ | ⟨y, -⟩
            · rw [y] at y2; exact absurd y2 (by decide)
            · rw [y] at y2; exact absurd y2 (by decide)
            · rw [y] at y2; exact absurd y2 (by decide)
            · exact y
          rcases hc' with ⟨y, -⟩ | ⟨y, -⟩ | ⟨y, -⟩ | ⟨-, x, hx, xl, px, hxt, pt, hmid, xf, xt⟩
          · rw [kk] at y; exact absurd y (by decide)
          · rw [kk] at y; exact absurd y (by decide)
          · rw [kk] at y; exact absurd y (by decide)
          · obtain ⟨-, g2⟩ := does_geo w2 w4 h2 h4 fl' hdr hx
            obtain ⟨-, gx⟩ := g2 t hxt
            have ei : nI (16 * (d + 1) + f) + nI (gW G) * (dY (gW G) f t / 2) + dX (gW G) f t / 2 = nI (16 * (d + 1) + x) := by
              rw [← nI_add, Int32.add_assoc, Int32.add_assoc, ← Int32.add_assoc (nI f), gx, nI_add]
            rw [ei, nI_clamp (show 16 * (d + 1) + x < 2 ^ 31 by omega)]
            refine ⟨vp_in_nI g9 (by decide) |> fun _ => L6.1.vp, vp_in_nI (by omega) (by decide), fun s7 e7 => ?_⟩
            refine push s7 (fun c => if c = x then 0 else if c = f then 0 else P c) k0 (by rw [e7]; exact F6.cell (by omega)) (by rw [e7]; exact C6.put (v := 0) (by omega)) (fun c => ?_)
            rw [hmid]
            by_cases q1 : c = x
            · rw [if_pos q1]
              split
              · rfl
              · rw [if_pos ⟨kk, q1⟩]
            · rw [if_neg q1]
              split
              · rfl
              · rw [if_neg (fun y => q1 y.2)]
    | succ u ih =>
      intro c τ hc hF hcp
      have Ld := hL.other hG hV (by omega) hF
      unfold L_X11_does_16 D_X11_does_16
      rw [show (16 : Int32) * nI d + nI c = nI (16 * d + c) from nlin 16 d c, show (16 : Int32) * nI (d + 1) + nI c = nI (16 * (d + 1) + c) from nlin 16 (d + 1) c, nI_clamp (show 16 * d + c < 2 ^ 31 by omega), nI_clamp (show 16 * (d + 1) + c < 2 ^ 31 by omega), Ld.2.1 c (by omega), ← hP]
      refine ⟨fun q => absurd q (nI_ge (b := 16) (by omega) (by decide)), fun _ => ⟨vp_in_nI (by omega) (by decide), vp_in_nI (by omega) (by decide), fun s8 e8 x ex => ?_⟩⟩
      rw [ex, nI_1 c]
      refine ih (c + 1) s8 (by omega) (by rw [e8]; exact hF.cell (by omega)) (fun j hj => ?_)
      rw [e8, up2_app]
      by_cases q : j = c
      · rw [if_pos ⟨rfl, by omega⟩, q]
      · rw [if_neg (by omega)]
        exact hcp j (by omega)
  exact copy 16 0 σ rfl LF.rf (fun j hj => absurd hj (Nat.not_lt_zero _))
