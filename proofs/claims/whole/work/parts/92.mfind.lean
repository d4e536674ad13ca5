theorem cntF_app {f : Nat → Bool} : ∀ d e c, cntF f (d + e) c = cntF f d c + cntF f e (c + d)
  | 0, e, c => by simp [cntF]
  | d + 1, e, c => by
    have ih := cntF_app (f := f) d e (c + 1)
    rw [show d + 1 + e = (d + e) + 1 by omega]
    show (if f c then 1 else 0) + cntF f (d + e) (c + 1) = ((if f c then 1 else 0) + cntF f d (c + 1)) + _
    rw [ih, show c + 1 + d = c + (d + 1) by omega]
    omega
theorem cntF_0 {f : Nat → Bool} : ∀ d c, (∀ j, c ≤ j → f j = false) → cntF f d c = 0
  | 0, _, _ => rfl
  | d + 1, c, h => by
    unfold cntF
    rw [h c (Nat.le_refl _), cntF_0 d (c + 1) (fun j hj => h j (by omega))]
    rfl
theorem cnt_trim {f : Nat → Bool} {n : Nat} (hn : n ≤ 16) (h : ∀ c, n ≤ c → f c = false) : cntF f 16 0 = cntF f n 0 := by
  have := cntF_app (f := f) n (16 - n) 0
  rw [show n + (16 - n) = 16 by omega, Nat.zero_add, cntF_0 (16 - n) n h] at this
  omega
theorem fl_trim {f : Nat → Bool} {n : Nat} (hn : n ≤ 16) (h : ∀ c, n ≤ c → f c = false) : fl f 16 0 = fl f n 0 := by
  have := fl_app (f := f) n (16 - n) 0
  rw [show n + (16 - n) = 16 by omega, Nat.zero_add, fl_nil (16 - n) n (fun j h1 _ => h j h1), List.append_nil] at this
  exact this
theorem pc_out {w h : Nat} {P : Nat → Nat} {s : Nat} (hV : VP w h P) (hs : 1 ≤ s) : ∀ c, w * h ≤ c → pc P s c = false := fun c hc => by
  have := (hV c).2 hc
  unfold pc
  rw [this]
  apply decide_eq_false
  omega
theorem pieces_ok {σ : GSt} {g dd s : Nat} {G : GM} {P : Nat → Nat} {Q : Int32 → GSt → Prop} (hG : GOK G) (h : MB σ g G) (d9 : dd < 9) (hs : 1 ≤ s ∧ s ≤ 2) (hV : VP (gW G) (gH G) P) (hC : CL σ dd P) (hQ : Q (nI (cntF (pc P s) 16 0)) σ) : D_X11_pieces (nI dd) (nI s) σ Q := by
  obtain ⟨⟨w2, w4, h2, h4⟩, -⟩ := id hG
  have h16 : gW G * gH G ≤ 16 := Nat.mul_le_mul w4 h4
  rw [cnt_trim h16 (pc_out hV hs.1)] at hQ
  refine ⟨gW G * gH G + 1, ?_⟩
  have key : ∀ (d c t : Nat), c + d = gW G * gH G → Q (nI (t + cntF (pc P s) d c)) σ → L_X11_pieces_5 Q (d + 1) (nI dd) (nI s) (nI t) (nI c) σ := by
    intro d
    induction d with
    | zero =>
      intro c t hc hQ
      unfold L_X11_pieces_5 D_X11_pieces_5
      refine cells_ok h ⟨fun _ => hQ, fun z => absurd (nI_le (by omega) (by omega)) z⟩
    | succ d ih =>
      intro c t hc hQ
      unfold L_X11_pieces_5 D_X11_pieces_5
      refine cells_ok h ⟨fun z => absurd z (nI_ge (by omega) (by omega)), fun _ => ?_⟩
      rw [show (16 : Int32) * nI dd + nI c = nI (16 * dd + c) from nlin 16 dd c, nI_clamp (show 16 * dd + c < 2 ^ 31 by omega), hC c (by omega)]
      have hv := (hV c).1
      have e : cntF (pc P s) (d + 1) c = (if pc P s c then 1 else 0) + cntF (pc P s) d (c + 1) := rfl
      rw [e] at hQ
      refine ⟨vp_in_nI (by omega) (by decide), fun q x ex y ey => ?_, fun q x ex y ey => ?_⟩
      · have : pc P s c = false := decide_eq_false (fun z => q (by rw [z]))
        rw [this] at hQ
        simp only [Bool.false_eq_true, if_false, Nat.zero_add] at hQ
        rw [ex, ey, nI_1 c, Int32.add_zero]
        exact ih (c + 1) t (by omega) hQ
      · have : pc P s c = true := decide_eq_true ((nI_eq (by omega) (by omega)).mp q)
        rw [this] at hQ
        simp only [if_true] at hQ
        rw [ex, ey, nI_1 c, nI_1 t]
        refine ih (c + 1) (t + 1) (by omega) ?_
        rw [Nat.add_assoc]
        exact hQ
  exact key (gW G * gH G) 0 0 (by omega) (by rw [Nat.zero_add]; exact hQ)
/-- the state of a level, whose rows are being found -/
def LvP (σ : GSt) (g dd : Nat) (G : GM) (P : Nat → Nat) (s : Nat) : Prop := MB σ g G ∧ CL σ dd P ∧ σ 258 dd = nI s
theorem LvP.row {σ σ' : GSt} {g dd : Nat} {G : GM} {P : Nat → Nat} {s : Nat} (h : LvP σ g dd G P s) (hF : FM dd σ σ') : LvP σ' g dd G P s := ⟨h.1.row (fun a ha => hF.1 a (by omega)), fun c hc => by rw [hF.1 257 (by omega)]; exact h.2.1 c hc, by rw [hF.1 258 (by omega)]; exact h.2.2⟩
def BdM (A : List (Nat × Nat × Nat)) : Prop := ∀ m ∈ A, m.1 < 6 ∧ m.2.1 < 100 ∧ m.2.2 < 16
theorem findPuts_ok {σ : GSt} {g dd k s : Nat} {G : GM} {P : Nat → Nat} {e : RuT} {A : List (Nat × Nat × Nat)} {Q : GSt → Prop} (hG : GOK G) (d9 : dd < 9) (hs : 1 ≤ s ∧ s ≤ 2) (hV : VP (gW G) (gH G) P) (he : (gMv G)[k]? = some e) (k0 : e.2.2.1 = 0) (hL : LvP σ g dd G P s) (hA : BdM A) (hAk : ∀ m ∈ A, m.1 ≠ k) (hl : A.length ≤ 700) (hM : MLs σ dd A) (hQ : ∀ σ' : GSt, MLs σ' dd (A ++ mvs1 (gW G) (gH G) P s k e.2.2.1 e.2.2.2.1) → FM dd σ σ' → Q σ') : D_X11_findPuts (nI dd) (nI k) σ Q := by
  obtain ⟨⟨w2, w4, h2, h4⟩, ⟨m6, -, hMu⟩, -⟩ := id hG
  have h16 : gW G * gH G ≤ 16 := Nat.mul_le_mul w4 h4
  have hk : k < (gMv G).length := (List.getElem?_eq_some_iff.mp he).1
  have g9 := hL.1.1.1
  obtain ⟨-, v6, -, -⟩ := hL.1.2.2.2.1 k e he
  have num_ok : ∃ m : Nat, m ≤ 9 ∧ e.2.2.2.1 = nI m := by
    rcases (hMu e (List.mem_of_getElem? he)).1 with ⟨-, q⟩ | ⟨q, -⟩
    · exact q
    · rw [k0] at q; exact absurd q (by decide)
  obtain ⟨nm, nm9, enm⟩ := num_ok
  obtain ⟨emp, hemp⟩ : ∃ f : Nat → Bool, f = fun c => decide (c < gW G * gH G) && !(pc P 1 c || pc P 2 c) := ⟨_, rfl⟩
  have go : (e.2.2.2.1 = 0 ∨ nI (cntF (pc P s) 16 0) < e.2.2.2.1) → D_X11_findPuts_35 Q (nI dd) (nI k) σ := by
    intro hyes
    have em : mvs1 (gW G) (gH G) P s k e.2.2.1 e.2.2.2.1 = (fl emp 16 0).map (fun t => (k, 99, t)) := by
      unfold mvs1
      rw [if_pos k0, if_pos hyes, hemp]
    rw [em, fl_trim (n := gW G * gH G) h16 (fun c hc => by rw [hemp]; simp; omega)] at hQ
    refine ⟨gW G * gH G + 1, ?_⟩
    have key : ∀ (d c : Nat) (τ : GSt), c + d = gW G * gH G → FM dd σ τ → MLs τ dd (A ++ (fl emp c 0).map (fun t => (k, 99, t))) → L_X11_findPuts_38 Q (d + 1) (nI dd) (nI k) (nI c) τ := by
      intro d
      induction d with
      | zero =>
        intro c τ hc hF hMt
        unfold L_X11_findPuts_38 D_X11_findPuts_38
        refine cells_ok (hL.row hF).1 ⟨fun _ => ?_, fun z => absurd (nI_le (by omega) (by omega)) z⟩
        rw [show c = gW G * gH G by omega] at hMt
        exact hQ τ hMt hF
      | succ d ih =>
        intro c τ hc hF hMt
        have Lt := hL.row hF
        have hv := (hV c).1
        unfold L_X11_findPuts_38 D_X11_findPuts_38
        refine cells_ok Lt.1 ⟨fun z => absurd z (nI_ge (by omega) (by omega)), fun _ => ?_⟩
        rw [show (16 : Int32) * nI dd + nI c = nI (16 * dd + c) from nlin 16 dd c, nI_clamp (show 16 * dd + c < 2 ^ 31 by omega), Lt.2.1 c (by omega)]
        have sp : fl emp (c + 1) 0 = fl emp c 0 ++ (if emp c then [c] else []) := by
          rw [fl_app c 1 0, Nat.zero_add]
          rfl
        refine ⟨vp_in_nI (by omega) (by decide), fun q x ex => ?_, fun q => ?_⟩
        · have : emp c = false := by
            rw [hemp]
            have hp : P c ≠ 0 := fun z => q (by rw [z]; rfl)
            simp only [pc, Bool.and_eq_false_iff, Bool.not_eq_false', Bool.or_eq_true, decide_eq_true_eq]
            right
            omega
          rw [this] at sp
          rw [ex, nI_1 c]
          refine ih (c + 1) τ (by omega) hF ?_
          rw [sp]
          simpa using hMt
        · have hp : P c = 0 := (nI_eq (b := 0) (by omega) (by decide)).mp q
          have : emp c = true := by
            rw [hemp]
            simp [pc, hp]
            omega
          rw [this] at sp
          have lenb : (fl emp c 0).length ≤ 16 := by
            rw [fl_len]
            have := cntF_le emp c 0
            omega
          refine tells_ok (f := 99) (t := c) (A := A ++ (fl emp c 0).map (fun t => (k, 99, t))) (B := []) d9 (by omega) (by decide) (by omega) (by rw [List.length_append, List.length_map, List.length_nil]; omega) (fun m hm => ?_) (fun x hx => absurd hx List.not_mem_nil) (by simpa using hMt) (fun s2 hM2 hF2 x ex => ?_)
          · rcases List.mem_append.mp hm with hm | hm
            · have := hA m hm
              exact ⟨by omega, fun z => hAk m hm z.1⟩
            · obtain ⟨t, ht, e1⟩ := List.mem_map.mp hm
              have := (fl_mem c 0).mp ht
              rw [← e1]
              simp only
              omega
          · rw [ex, nI_1 c]
            refine ih (c + 1) s2 (by omega) (hF.trans hF2) ?_
            rw [sp]
            simpa using hM2
    exact key (gW G * gH G) 0 σ (by omega) FM.rf (by simpa [fl] using hM)
  unfold D_X11_findPuts D_X11_findPuts_0
  rw [hL.1.1.2, show (6 : Int32) * nI g + nI k = nI (6 * g + k) from nlin 6 g k, nI_clamp (show 6 * g + k < 2 ^ 31 by omega), v6, nI_clamp (show dd < 2 ^ 31 by omega), hL.2.2, show byL e.2.2.1 e.2.2.2.1 = e.2.2.2.1 by unfold byL; rw [if_pos k0]]
  refine ⟨vp_in_nI (by omega) (by decide), fun x3 e3 => ?_⟩
  subst e3
  refine ⟨fun z => go (Or.inl ?_), fun z => ⟨vp_in_nI d9 (by decide), pieces_ok hG hL.1 d9 hs hV hL.2.1 ⟨fun q => go (Or.inr q), fun q => ?_⟩⟩⟩
  · rw [enm] at z ⊢
    have := (nI_leI (b := 0) (by omega) (by decide)).mp z
    rw [show nm = 0 by omega]
    rfl
  · have em : mvs1 (gW G) (gH G) P s k e.2.2.1 e.2.2.2.1 = [] := by
      unfold mvs1
      rw [if_pos k0, if_neg (fun y => y.elim (fun y => z (by rw [y]; decide)) (fun y => q y))]
    rw [em, List.append_nil] at hQ
    exact hQ σ hM FM.rf
theorem tgd_to {w h : Nat} {P : Nat → Nat} {s : Nat} {kind : Int32} {c d t : Nat} (ht : tgd w h P s kind c d = some t) : (kind ≠ 2 ∧ nbO w h c d = some t) ∨ (kind = 2 ∧ nbO2 w h c d = some t) := by
  unfold tgd at ht
  cases hx : nbO w h c d with
  | none => rw [hx] at ht; simp at ht
  | some x =>
    rw [hx] at ht
    simp only at ht
    by_cases k1 : kind = 1
    · rw [if_pos k1] at ht
      split at ht
      · left; exact ⟨by rw [k1]; decide, by rw [← ht]⟩
      · simp at ht
    · rw [if_neg k1] at ht
      split at ht
      · by_cases k3 : kind = 3
        · rw [if_pos k3] at ht
          left; exact ⟨by rw [k3]; decide, by rw [← ht]⟩
        · rw [if_neg k3] at ht
          cases hy : nbO w h x d with
          | none =>
            rw [hy] at ht
            simp only at ht
            by_cases k2 : kind = 2
            · rw [if_pos k2] at ht; simp at ht
            · rw [if_neg k2] at ht
              left; exact ⟨k2, by rw [← ht]⟩
          | some y =>
            rw [hy] at ht
            simp only at ht
            split at ht
            · by_cases k2 : kind = 2
              · rw [if_pos k2] at ht
                right
                refine ⟨k2, ?_⟩
                unfold nbO2
                rw [hx]
                simp only
                rw [hy, ← ht]
              · rw [if_neg k2] at ht
                left; exact ⟨k2, by rw [← ht]⟩
            · simp at ht
      · simp at ht
theorem tgd_inj {w h : Nat} {P : Nat → Nat} {s : Nat} {kind : Int32} {c d e t : Nat} (w2 : 2 ≤ w) (w4 : w ≤ 4) (h2 : 2 ≤ h) (h4 : h ≤ 4) (hc : c < w * h) (hd : d < 8) (he : e < 8) (h1 : tgd w h P s kind c d = some t) (h3 : tgd w h P s kind c e = some t) : d = e := by
  rcases tgd_to h1 with ⟨k, a⟩ | ⟨k, a⟩
  · rcases tgd_to h3 with ⟨k', b⟩ | ⟨k', b⟩
    · exact nb_inj w2 w4 h2 h4 hc hd he a b
    · exact absurd k' k
  · rcases tgd_to h3 with ⟨k', b⟩ | ⟨k', b⟩
    · exact absurd k k'
    · exact nb2_inj w2 w4 h2 h4 hc hd he a b
theorem tgd_lt {w h : Nat} {P : Nat → Nat} {s : Nat} {kind : Int32} {c d t : Nat} (w2 : 2 ≤ w) (w4 : w ≤ 4) (h2 : 2 ≤ h) (h4 : h ≤ 4) (hc : c < w * h) (hd : d < 8) (h1 : tgd w h P s kind c d = some t) : t < w * h := by
  rcases tgd_to h1 with ⟨-, a⟩ | ⟨-, a⟩
  · exact (nbO_lt w2 w4 h2 h4 hc hd a).1
  · unfold nbO2 at a
    cases hx : nbO w h c d with
    | none => rw [hx] at a; simp at a
    | some x =>
      rw [hx] at a
      exact (nbO_lt w2 w4 h2 h4 (nbO_lt w2 w4 h2 h4 hc hd hx).1 hd a).1
theorem findMove_ok {σ : GSt} {g dd k s c y : Nat} {G : GM} {P : Nat → Nat} {e : RuT} {A : List (Nat × Nat × Nat)} {fT : Nat → Bool} {Q : GSt → Prop} (hG : GOK G) (d9 : dd < 9) (hs : 1 ≤ s ∧ s ≤ 2) (hV : VP (gW G) (gH G) P) (he : (gMv G)[k]? = some e) (k0 : e.2.2.1 ≠ 0) (hc : c < gW G * gH G) (hy : y < 8) (hL : LvP σ g dd G P s) (hA : BdM A) (hAk : ∀ m ∈ A, ¬ (m.1 = k ∧ m.2.1 = c)) (hl : A.length ≤ 700) (hM : MLs σ dd (A ++ (fl fT 16 0).map fun t => (k, c, t))) (h0 : tgd (gW G) (gH G) P s e.2.2.1 c (piD y) = none → Q σ) (h1 : ∀ (σ' : GSt) (t : Nat), tgd (gW G) (gH G) P s e.2.2.1 c (piD y) = some t → fT t = false → MLs σ' dd (A ++ (fl (fun z => fT z || decide (z = t)) 16 0).map fun t => (k, c, t)) → FM dd σ σ' → Q σ') (hnew : ∀ t, tgd (gW G) (gH G) P s e.2.2.1 c (piD y) = some t → fT t = false) : D_X11_findMove (nI dd) (nI k) (nI c) (nI y) σ Q := by
  obtain ⟨⟨w2, w4, h2, h4⟩, ⟨m6, -, hMu⟩, -⟩ := id hG
  have h16 : gW G * gH G ≤ 16 := Nat.mul_le_mul w4 h4
  have hk : k < (gMv G).length := (List.getElem?_eq_some_iff.mp he).1
  have g9 := hL.1.1.1
  have py := piD_lt y hy
  obtain ⟨v5, -, -, -⟩ := hL.1.2.2.2.1 k e he
  obtain ⟨ve, vs⟩ := hL.1.2.2.2.2.2 y hy
  obtain ⟨lo1, lo2⟩ := loc_ok w2 w4 h2 h4 hc hy
  have kk : e.2.2.1 = 1 ∨ e.2.2.1 = 2 ∨ e.2.2.1 = 3 ∨ e.2.2.1 = 4 := by
    rcases (hMu e (List.mem_of_getElem? he)).1 with ⟨q, -⟩ | ⟨q, -⟩
    · exact absurd q k0
    · exact q
  obtain ⟨kind, hkind⟩ : ∃ x, e.2.2.1 = x := ⟨_, rfl⟩
  rw [hkind] at k0 h0 kk v5
  simp only [hkind] at h1 hnew
  -- telling a move
  have tell : ∀ (t : Nat) (Q' : GSt → Prop), tgd (gW G) (gH G) P s kind c (piD y) = some t → (∀ σ', FM dd σ σ' → Q σ' → Q' σ') → D_X11_tells (nI dd) (nI k) (nI c) (nI t) σ Q' := by
    intro t Q' ht hQ'
    have tl := tgd_lt w2 w4 h2 h4 hc py ht
    have hf := hnew t ht
    obtain ⟨i1, i2⟩ := fl_ins (f := fT) (x := t) (by omega) hf
    rw [i1, List.map_append, ← List.append_assoc] at hM
    have lenb : (fl fT t 0).length + (fl fT (15 - t) (t + 1)).length ≤ 16 := by
      rw [fl_len, fl_len]
      have := cntF_le fT t 0
      have := cntF_le fT (15 - t) (t + 1)
      omega
    refine tells_ok d9 (by omega) (by omega) (by omega) (by rw [List.length_append, List.length_map]; omega) (fun m hm => ?_) (fun x hx => ?_) hM (fun s2 hM2 hF2 => hQ' s2 hF2 (h1 s2 t ht hf ?_ hF2))
    · rcases List.mem_append.mp hm with hm | hm
      · have := hA m hm
        exact ⟨by omega, fun z => hAk m hm ⟨z.1, z.2.1⟩⟩
      · obtain ⟨x, hx, e1⟩ := List.mem_map.mp hm
        have := (fl_mem t 0).mp hx
        rw [← e1]
        simp only
        omega
    · have := (fl_mem _ _).mp hx
      omega
    · rw [i2, List.map_append, List.map_cons, ← List.append_assoc]
      exact hM2
  unfold D_X11_findMove D_X11_findMove_0
  rw [hL.1.gi, hL.1.2.1.1, nI_clamp (show y < 2 ^ 31 by omega), ve, vs]
  have w0 : ¬ nI (gW G) = 0 := nI_ne0 (by omega) (by omega)
  have vy : vp_in (nI y) 8 := vp_in_nI hy (by decide)
  refine ⟨hL.1.vp, w0, vy, fun x5 e5 => ⟨hL.1.vp, w0, vy, fun x6 e6 => ?_⟩⟩
  have e5' : x5 = stX (gW G) c y := e5
  have e6' : x6 = stY (gW G) c y := e6
  subst e5'
  subst e6'
  refine cellAt_ok hG hL.1 d9 hL.2.1 ⟨vy, vy, ?_⟩
  rw [ve, vs]
  refine cellAt_ok hG hL.1 d9 hL.2.1 ⟨vp_in_nI d9 (by decide), fun x9 e9 => ?_⟩
  rw [nI_clamp (show dd < 2 ^ 31 by omega), hL.2.2, show (3 : Int32) - nI s = nI (3 - s) from pk_sub (a := 3) (by omega)] at e9
  rw [hL.1.1.2, show (6 : Int32) * nI g + nI k = nI (6 * g + k) from nlin 6 g k, nI_clamp (show 6 * g + k < 2 ^ 31 by omega), v5]
  refine ⟨vp_in_nI (by omega) (by decide), fun x10 e10 => ⟨vp_in_nI g9 (by decide), fun x11 e11 => ?_⟩⟩
  rw [nI_clamp (show g < 2 ^ 31 by omega), hL.1.2.1.1] at e11
  rw [lo1]
  have tg : tgd (gW G) (gH G) P s kind c (piD y) = match nbO (gW G) (gH G) c (piD y) with
    | none => none
    | some x => if kind = 1 then (if P x = 0 then some x else none) else if P x = 3 - s then (if kind = 3 then some x else match nbO (gW G) (gH G) x (piD y) with
        | none => if kind = 2 then none else some x
        | some z => if P z = 0 then (if kind = 2 then some z else some x) else none) else none := rfl
  rw [e10]
  cases hx : nbO (gW G) (gH G) c (piD y) with
  | none =>
    rw [hx] at tg
    have q0 : Q σ := h0 tg
    have n9 : ¬ (-1 : Int32) = x9 := by
      rw [e9]
      intro z
      have := congrArg Int32.toInt z
      rw [nI_toInt (by omega)] at this
      have e1 : ((-1 : Int32)).toInt = -1 := rfl
      omega
    have d177 : ∀ x8, D_X11_findMove_177 Q (nI dd) (nI k) (nI c) (nI y) (-1) x8 x9 (kL kind) x11 σ := fun x8 => ⟨fun _ => q0, fun _ => ⟨fun _ => q0, fun z => absurd z n9⟩⟩
    have d149 : ∀ x8, D_X11_findMove_149 Q (nI dd) (nI k) (nI c) (nI y) (-1) x8 x9 (kL kind) x11 σ := fun x8 => ⟨fun _ => d177 x8, fun _ => ⟨fun _ => d177 x8, fun z => absurd z n9⟩⟩
    have d135 : ∀ x8, D_X11_findMove_135 Q (nI dd) (nI k) (nI c) (nI y) (-1) x8 x9 (kL kind) x11 σ := fun x8 => ⟨fun _ => d149 x8, fun _ => ⟨fun z => absurd z n9, fun _ => d149 x8⟩⟩
    exact ⟨fun _ => d135 _, fun _ => ⟨fun z => absurd (show (-1 : Int32) = 0 from z) (by decide), fun _ => d135 _⟩⟩
  | some x =>
    obtain ⟨xl, -⟩ := nbO_lt w2 w4 h2 h4 hc py hx
    obtain ⟨lx, l2, l3⟩ := lo2 x hx
    rw [l2]
    rw [lx] at e11
    rw [hx] at tg
    simp only at tg
    have hvx := (hV x).1
    show (¬ kL kind = 115 → D_X11_findMove_135 Q (nI dd) (nI k) (nI c) (nI y) (nI (P x)) _ x9 (kL kind) x11 σ) ∧ (kL kind = 115 → (nI (P x) = 0 → D_X11_findMove_168 Q (nI dd) (nI k) (nI c) (nI y) (nI (P x)) _ x9 (kL kind) x11 σ) ∧ (¬ nI (P x) = 0 → D_X11_findMove_135 Q (nI dd) (nI k) (nI c) (nI y) (nI (P x)) _ x9 (kL kind) x11 σ))
    have p0 : nI (P x) = 0 ↔ P x = 0 := nI_eq (b := 0) (by omega) (by decide)
    have p9 : nI (P x) = x9 ↔ P x = 3 - s := by rw [e9]; exact nI_eq (by omega) (by omega)
    rcases kk with k1 | k2 | k3 | k4
    · rw [k1] at tg
      simp only [if_true] at tg
      have ek : kL kind = 115 := by rw [k1]; rfl
      rw [ek]
      refine ⟨fun z => absurd rfl z, fun _ => ⟨fun z => ?_, fun z => ?_⟩⟩
      · rw [if_pos (p0.mp z), ← k1] at tg
        rw [e11]
        exact tell x _ tg (fun σ' _ hq => ⟨fun _ => hq, fun z => absurd z (by decide)⟩)
      · rw [if_neg (fun y => z (p0.mpr y)), ← k1] at tg
        have q0 := h0 tg
        exact ⟨fun _ => ⟨fun _ => ⟨fun _ => q0, fun z => absurd z (by decide)⟩, fun z => absurd z (by decide)⟩, fun z => absurd z (by decide)⟩
    · have ek : kL kind = 104 := by rw [k2]; rfl
      rw [ek]
      rw [if_neg (by rw [k2]; decide)] at tg
      have d177 : D_X11_findMove_177 Q (nI dd) (nI k) (nI c) (nI y) (nI (P x)) (cA P (nbO (gW G) (gH G) x (piD y))) x9 104 x11 σ := by
        refine ⟨fun z => absurd rfl z, fun _ => ⟨fun z => h0 ?_, fun z => ⟨fun z2 => h0 ?_, fun z2 => ?_⟩⟩⟩
        · rw [if_neg (fun y => z (p9.mpr y))] at tg
          exact tg
        · rw [if_pos (p9.mp z), if_neg (by rw [k2]; decide)] at tg
          rw [tg]
          cases hz : nbO (gW G) (gH G) x (piD y) with
          | none => simp [k2]
          | some q =>
            rw [hz] at z2
            have : ¬ P q = 0 := fun y => z2 (by show nI (P q) = 0; rw [y]; rfl)
            simp [this]
        · rw [if_pos (p9.mp z), if_neg (by rw [k2]; decide)] at tg
          cases hz : nbO (gW G) (gH G) x (piD y) with
          | none => rw [hz] at z2; exact absurd (show (-1 : Int32) = 0 from z2) (by decide)
          | some q =>
            obtain ⟨ql, -⟩ := nbO_lt w2 w4 h2 h4 xl py hz
            rw [hz] at z2 tg
            have hvq := (hV q).1
            have pq : P q = 0 := (nI_eq (b := 0) (by omega) (by decide)).mp z2
            simp only [pq, if_true, k2] at tg
            rw [← k2] at tg
            have l3' := l3 q hz
            rw [lx] at l3'
            rw [hL.1.gi, hL.1.2.1.1, nI_clamp (show y < 2 ^ 31 by omega), ve, vs, e11, l3']
            exact ⟨hL.1.vp, vy, vy, tell q _ tg (fun σ' _ hq => hq)⟩
      exact ⟨fun _ => ⟨fun _ => ⟨fun _ => d177, fun z => absurd z (by decide)⟩, fun z => absurd z (by decide)⟩, fun z => absurd z (by decide)⟩
    · have ek : kL kind = 116 := by rw [k3]; rfl
      rw [ek]
      rw [if_neg (by rw [k3]; decide)] at tg
      refine ⟨fun _ => ⟨fun z => absurd rfl z, fun _ => ⟨fun z => ?_, fun z => ?_⟩⟩, fun z => absurd z (by decide)⟩
      · rw [if_pos (p9.mp z), if_pos k3] at tg
        rw [e11]
        exact tell x _ tg (fun σ' _ hq => ⟨fun _ => hq, fun z => absurd z (by decide)⟩)
      · rw [if_neg (fun y => z (p9.mpr y))] at tg
        have q0 := h0 tg
        exact ⟨fun _ => ⟨fun _ => q0, fun z => absurd z (by decide)⟩, fun z => absurd z (by decide)⟩
    · have ek : kL kind = 117 := by rw [k4]; rfl
      rw [ek]
      rw [if_neg (by rw [k4]; decide)] at tg
      have no : Q σ → D_X11_findMove_177 Q (nI dd) (nI k) (nI c) (nI y) (nI (P x)) (cA P (nbO (gW G) (gH G) x (piD y))) x9 117 x11 σ := fun q0 => ⟨fun _ => q0, fun z => absurd z (by decide)⟩
      refine ⟨fun _ => ⟨fun _ => ⟨fun z => absurd rfl z, fun _ => ⟨fun z => no (h0 ?_), fun z => ⟨fun z2 => no (h0 ?_), fun z2 => ?_⟩⟩⟩, fun z => absurd z (by decide)⟩, fun z => absurd z (by decide)⟩
      · rw [if_neg (fun y => z (p9.mpr y))] at tg
        exact tg
      · rw [if_pos (p9.mp z), if_neg (by rw [k4]; decide)] at tg
        rw [tg]
        cases hz : nbO (gW G) (gH G) x (piD y) with
        | none => rw [hz] at z2; exact absurd (show (0 : Int32) < -1 from z2) (by decide)
        | some q =>
          rw [hz] at z2
          have : ¬ P q = 0 := fun y => by
            have z2' : (0 : Int32) < nI (P q) := z2
            rw [y] at z2'
            exact absurd z2' (by decide)
          simp [this]
      · rw [if_pos (p9.mp z), if_neg (by rw [k4]; decide)] at tg
        have ht : tgd (gW G) (gH G) P s kind c (piD y) = some x := by
          rw [tg]
          cases hz : nbO (gW G) (gH G) x (piD y) with
          | none => simp [k4]
          | some q =>
            rw [hz] at z2
            have hvq := (hV q).1
            have pq : P q = 0 := by
              rcases Nat.eq_zero_or_pos (P q) with y | y
              · exact y
              · exact absurd (show (0 : Int32) < nI (P q) from nI_lt (a := 0) y (by omega)) z2
            simp [pq, k4]
        rw [e11]
        exact tell x _ ht (fun σ' _ hq => ⟨fun _ => hq, fun z => absurd z (by decide)⟩)
