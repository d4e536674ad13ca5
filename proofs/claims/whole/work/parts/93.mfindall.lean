/-- the cells that the ways ys, ys + 1 .. (n of them) reach -/
def tgW (w h : Nat) (P : Nat → Nat) (s : Nat) (kind : Int32) (c ys n to : Nat) : Bool := (List.range n).any fun j => tgd w h P s kind c (piD (ys + j)) == some to
theorem tgW_s {w h : Nat} {P : Nat → Nat} {s : Nat} {kind : Int32} {c ys n to : Nat} : tgW w h P s kind c ys (n + 1) to = (tgW w h P s kind c ys n to || tgd w h P s kind c (piD (ys + n)) == some to) := by
  unfold tgW
  rw [List.range_succ, List.any_append]
  simp
def yS (m : Nat) : Nat := if m = 2 then 4 else 0
def yN (m : Nat) : Nat := if m = 3 then 8 else 4
theorem ways_all : [1, 2, 3].all (fun m => (List.range (yN m)).all (fun j => dOk (nI m) (piD (yS m + j)) && decide (yS m + j < 8)) && (List.range 8).all (fun d => !dOk (nI m) d || (List.range (yN m)).any fun j => piD (yS m + j) == d)) = true := by decide +kernel
theorem ways_ok {m : Nat} (hm : m = 1 ∨ m = 2 ∨ m = 3) : (∀ j, j < yN m → dOk (nI m) (piD (yS m + j)) = true ∧ yS m + j < 8) ∧ ∀ d, d < 8 → dOk (nI m) d = true → ∃ j, j < yN m ∧ piD (yS m + j) = d := by
  have q := List.all_eq_true.mp ways_all m (by simp; omega)
  rw [Bool.and_eq_true] at q
  refine ⟨fun j hj => ?_, fun d hd hk => ?_⟩
  · have := List.all_eq_true.mp q.1 j (List.mem_range.mpr hj)
    rw [Bool.and_eq_true, decide_eq_true_eq] at this
    exact this
  · have := List.all_eq_true.mp q.2 d (List.mem_range.mpr hd)
    rw [hk, Bool.not_true, Bool.false_or, List.any_eq_true] at this
    obtain ⟨j, hj, e⟩ := this
    exact ⟨j, List.mem_range.mp hj, eq_of_beq e⟩
theorem tgW_full {w h : Nat} {P : Nat → Nat} {s : Nat} {kind : Int32} {c m to : Nat} (hm : m = 1 ∨ m = 2 ∨ m = 3) : tgW w h P s kind c (yS m) (yN m) to = tgB w h P s kind (nI m) c 8 to := by
  obtain ⟨h1, h2⟩ := ways_ok hm
  unfold tgW tgB
  rw [Bool.eq_iff_iff, List.any_eq_true, List.any_eq_true]
  constructor
  · rintro ⟨j, hj, q⟩
    obtain ⟨a, b⟩ := h1 j (List.mem_range.mp hj)
    exact ⟨piD (yS m + j), List.mem_range.mpr (piD_lt _ b), by rw [a, q]; rfl⟩
  · rintro ⟨d, hd, q⟩
    rw [Bool.and_eq_true] at q
    obtain ⟨j, hj, e⟩ := h2 d (List.mem_range.mp hd) q.1
    exact ⟨j, List.mem_range.mpr hj, by rw [e]; exact q.2⟩
theorem mvs1_bd {w h : Nat} {P : Nat → Nat} {s k : Nat} {kind num : Int32} {m : Nat × Nat × Nat} (hk : k < 6) (hm : m ∈ mvs1 w h P s k kind num) : m.1 = k ∧ m.2.1 < 100 ∧ m.2.2 < 16 := by
  unfold mvs1 at hm
  split at hm
  · split at hm
    · obtain ⟨t, ht, e⟩ := List.mem_map.mp hm
      rw [mem_fl16] at ht
      rw [← e]
      exact ⟨rfl, show (99 : Nat) < 100 by decide, ht.1⟩
    · exact absurd hm List.not_mem_nil
  · obtain ⟨j, -, hj2, hj, hg⟩ := flm_mem 16 0 hm
    obtain ⟨t, ht, e⟩ := List.mem_map.mp hg
    rw [mem_fl16] at ht
    rw [← e]
    exact ⟨rfl, by simp only; omega, ht.1⟩
theorem flm_app {α : Type} {f : Nat → Bool} {g : Nat → List α} : ∀ d e c, flm f g (d + e) c = flm f g d c ++ flm f g e (c + d)
  | 0, e, c => by simp [flm]
  | d + 1, e, c => by
    have ih := flm_app (f := f) (g := g) d e (c + 1)
    rw [show d + 1 + e = (d + e) + 1 by omega, flm_s, flm_s, ih, show c + 1 + d = c + (d + 1) by omega, List.append_assoc]
theorem flm_congr {α : Type} {f : Nat → Bool} {g g' : Nat → List α} : ∀ d c, (∀ j, g j = g' j) → flm f g d c = flm f g' d c
  | 0, _, _ => rfl
  | d + 1, c, h => by rw [flm_s, flm_s, h, flm_congr d (c + 1) h]
theorem findOf_ok {σ : GSt} {g dd k s : Nat} {G : GM} {P : Nat → Nat} {e : RuT} {A : List (Nat × Nat × Nat)} {Q : GSt → Prop} (hG : GOK G) (d9 : dd < 9) (hs : 1 ≤ s ∧ s ≤ 2) (hV : VP (gW G) (gH G) P) (he : (gMv G)[k]? = some e) (hL : LvP σ g dd G P s) (hA : BdM A) (hAk : ∀ m ∈ A, m.1 ≠ k) (hl : A.length ≤ 300) (hM : MLs σ dd A) (hQ : ∀ σ' : GSt, MLs σ' dd (A ++ mvs1 (gW G) (gH G) P s k e.2.2.1 e.2.2.2.1) → FM dd σ σ' → Q σ') : D_X11_findOf (nI dd) (nI k) σ Q := by
  obtain ⟨⟨w2, w4, h2, h4⟩, ⟨m6, -, hMu⟩, -⟩ := id hG
  have h16 : gW G * gH G ≤ 16 := Nat.mul_le_mul w4 h4
  have hk : k < (gMv G).length := (List.getElem?_eq_some_iff.mp he).1
  have g9 := hL.1.1.1
  obtain ⟨v5, v6, -, -⟩ := hL.1.2.2.2.1 k e he
  have hR := (hMu e (List.mem_of_getElem? he)).1
  unfold D_X11_findOf D_X11_findOf_0
  rw [hL.1.1.2, show (6 : Int32) * nI g + nI k = nI (6 * g + k) from nlin 6 g k, nI_clamp (show 6 * g + k < 2 ^ 31 by omega), v5, v6]
  have vk : vp_in (nI (6 * g + k)) 54 := vp_in_nI (by omega) (by decide)
  refine ⟨vk, fun q => ⟨vk, fun x3 e3 => ?_⟩, fun q => ?_⟩
  · have k0 : e.2.2.1 ≠ 0 := fun z => q (by rw [z]; rfl)
    obtain ⟨-, m, hm, em⟩ : (e.2.2.1 = 1 ∨ e.2.2.1 = 2 ∨ e.2.2.1 = 3 ∨ e.2.2.1 = 4) ∧ ∃ m : Nat, (m = 1 ∨ m = 2 ∨ m = 3) ∧ e.2.2.2.1 = nI m := hR.resolve_left (fun z => k0 z.1)
    have ex3 : x3 = if m = 1 then 111 else if m = 2 then 100 else 113 := by
      rw [e3, em]
      unfold byL
      rw [if_neg k0]
      rcases hm with rfl | rfl | rfl <;> rfl
    obtain ⟨wy1, -⟩ := ways_ok hm
    have emv : mvs1 (gW G) (gH G) P s k e.2.2.1 e.2.2.2.1 = flm (pc P s) (fun c => (fl (tgB (gW G) (gH G) P s e.2.2.1 (nI m) c 8) 16 0).map (fun t => (k, c, t))) (gW G * gH G) 0 := by
      unfold mvs1
      rw [if_neg k0, em]
      have := flm_app (f := pc P s) (g := fun c => (fl (tgB (gW G) (gH G) P s e.2.2.1 (nI m) c 8) 16 0).map (fun t => (k, c, t))) (gW G * gH G) (16 - gW G * gH G) 0
      rw [show gW G * gH G + (16 - gW G * gH G) = 16 by omega] at this
      rw [this, Nat.zero_add, flm_nil (16 - gW G * gH G) (gW G * gH G) (fun j h1 _ => pc_out hV hs.1 j h1), List.append_nil]
    rw [emv] at hQ
    obtain ⟨Lc, hLc⟩ : ∃ f : Nat → List (Nat × Nat × Nat), f = fun c => flm (pc P s) (fun c => (fl (tgB (gW G) (gH G) P s e.2.2.1 (nI m) c 8) 16 0).map (fun t => (k, c, t))) c 0 := ⟨_, rfl⟩
    have Lbd : ∀ c, c ≤ 16 → ∀ x ∈ Lc c, x.1 = k ∧ x.2.1 < c ∧ x.2.2 < 16 := by
      intro c hc x hx
      rw [hLc] at hx
      obtain ⟨j, -, hj2, hj, hg⟩ := flm_mem c 0 hx
      obtain ⟨t, ht, e1⟩ := List.mem_map.mp hg
      rw [mem_fl16] at ht
      rw [← e1]
      exact ⟨rfl, by simp only; omega, ht.1⟩
    have Llen : ∀ c, c ≤ 16 → (Lc c).length ≤ 256 := by
      intro c hc
      rw [hLc]
      have : ∀ d c, (flm (pc P s) (fun c => (fl (tgB (gW G) (gH G) P s e.2.2.1 (nI m) c 8) 16 0).map (fun t => (k, c, t))) d c).length ≤ 16 * d := by
        intro d
        induction d with
        | zero => intro c; exact Nat.le_refl _
        | succ d ih =>
          intro c
          have := ih (c + 1)
          rw [flm_s, List.length_append]
          split
          · rw [List.length_map, fl_len]
            have := cntF_le (tgB (gW G) (gH G) P s e.2.2.1 (nI m) c 8) 16 0
            omega
          · simp only [List.length_nil]; omega
      exact Nat.le_trans (this c 0) (by omega)
    have Ls : ∀ c, Lc (c + 1) = Lc c ++ (if pc P s c then (fl (tgB (gW G) (gH G) P s e.2.2.1 (nI m) c 8) 16 0).map (fun t => (k, c, t)) else []) := by
      intro c
      rw [hLc]
      simp only
      rw [flm_app c 1 0, Nat.zero_add, flm_s]
      simp [flm]
    refine ⟨gW G * gH G + 1, ?_⟩
    have outer : ∀ (d c : Nat) (τ : GSt), c + d = gW G * gH G → FM dd σ τ → MLs τ dd (A ++ Lc c) → L_X11_findOf_44 Q (d + 1) (nI dd) (nI k) x3 (nI c) τ := by
      intro d
      induction d with
      | zero =>
        intro c τ hc hF hMt
        unfold L_X11_findOf_44 D_X11_findOf_44
        refine cells_ok (hL.row hF).1 ⟨fun _ => ?_, fun z => absurd (nI_le (by omega) (by omega)) z⟩
        rw [show c = gW G * gH G by omega, hLc] at hMt
        exact hQ τ hMt hF
      | succ d ih =>
        intro c τ hc hF hMt
        unfold L_X11_findOf_44 D_X11_findOf_44
        refine cells_ok (hL.row hF).1 ⟨fun z => absurd z (nI_ge (by omega) (by omega)), fun _ => ?_⟩
        have hAc : BdM (A ++ Lc c) := by
          intro x hx
          rcases List.mem_append.mp hx with hx | hx
          · exact hA x hx
          · have := Lbd c (by omega) x hx
            omega
        have hAkc : ∀ x ∈ A ++ Lc c, ¬ (x.1 = k ∧ x.2.1 = c) := by
          intro x hx
          rcases List.mem_append.mp hx with hx | hx
          · exact fun z => hAk x hx z.1
          · have := Lbd c (by omega) x hx
            omega
        have hlc : (A ++ Lc c).length ≤ 700 := by
          rw [List.length_append]
          have := Llen c (by omega)
          omega
        have hv := (hV c).1
        have nxt : ∀ (τ' : GSt), FM dd σ τ' → MLs τ' dd (A ++ Lc (c + 1)) → D_X11_findOf_120 (L_X11_findOf_44 Q (d + 1)) Q (nI dd) (nI k) x3 (nI c) τ' := by
          intro τ' hF' hM' x ex
          rw [ex, nI_1 c]
          exact ih (c + 1) τ' (by omega) hF' hM'
        have inner : ∀ (r n : Nat) (τ' : GSt), n + r = yN m → FM dd σ τ' → (pc P s c = true ∨ n = 0) → MLs τ' dd ((A ++ Lc c) ++ (fl (tgW (gW G) (gH G) P s e.2.2.1 c (yS m) n) 16 0).map (fun t => (k, c, t))) → L_X11_findOf_66 (L_X11_findOf_44 Q (d + 1)) Q (r + 1) (nI dd) (nI k) x3 (nI c) (nI (yS m + n)) τ' := by
          intro r
          induction r with
          | zero =>
            intro n τ' hn hF' hp hM'
            have yn : yN m ≠ 0 := by unfold yN; split <;> decide
            have hpc := hp.resolve_right (by omega)
            have fin : D_X11_findOf_120 (L_X11_findOf_44 Q (d + 1)) Q (nI dd) (nI k) x3 (nI c) τ' := by
              refine nxt τ' hF' ?_
              rw [Ls, if_pos hpc, ← List.append_assoc]
              rw [show n = yN m by omega] at hM'
              rw [fl_congr (g := tgB (gW G) (gH G) P s e.2.2.1 (nI m) c 8) 16 0 (fun j _ _ => tgW_full hm)] at hM'
              exact hM'
            unfold L_X11_findOf_66 D_X11_findOf_66
            rw [ex3, show n = yN m by omega]
            rcases hm with rfl | rfl | rfl
            · exact ⟨fun z => absurd rfl z, fun _ => ⟨fun _ => (show D_X11_findOf_120 _ Q (nI dd) (nI k) (if (1 : Nat) = 1 then 111 else if (1 : Nat) = 2 then 100 else 113) (nI c) τ' from ex3 ▸ fin), fun z => absurd (by decide) z⟩⟩
            · exact ⟨fun _ => ⟨fun _ => (show D_X11_findOf_120 _ Q (nI dd) (nI k) (if (2 : Nat) = 1 then 111 else if (2 : Nat) = 2 then 100 else 113) (nI c) τ' from ex3 ▸ fin), fun z => absurd (by decide) z⟩, fun z => absurd z (by decide)⟩
            · exact ⟨fun _ => ⟨fun _ => (show D_X11_findOf_120 _ Q (nI dd) (nI k) (if (3 : Nat) = 1 then 111 else if (3 : Nat) = 2 then 100 else 113) (nI c) τ' from ex3 ▸ fin), fun z => absurd (by decide) z⟩, fun z => absurd z (by decide)⟩
          | succ r ihr =>
            intro n τ' hn hF' hp hM'
            obtain ⟨-, y8⟩ := wy1 n (by omega)
            have Lt := hL.row hF'
            have body : D_X11_findOf_80 (L_X11_findOf_44 Q (d + 1)) (L_X11_findOf_66 (L_X11_findOf_44 Q (d + 1)) Q (r + 1)) Q (nI dd) (nI k) x3 (nI c) (nI (yS m + n)) (nI (yS m + n)) (nI (yS m + yN m)) τ' := by
              unfold D_X11_findOf_80
              rw [show (16 : Int32) * nI dd + nI c = nI (16 * dd + c) from nlin 16 dd c, nI_clamp (show 16 * dd + c < 2 ^ 31 by omega), nI_clamp (show dd < 2 ^ 31 by omega), Lt.2.1 c (by omega), Lt.2.2]
              have y88 : yS m + yN m ≤ 8 := by
                rcases hm with rfl | rfl | rfl <;> decide
              refine ⟨fun z => absurd z (nI_ge (by omega) (by omega)), fun _ => ⟨vp_in_nI (by omega) (by decide), vp_in_nI d9 (by decide), fun z => ?_, fun z => ?_⟩⟩
              · have hpc : pc P s c = false := decide_eq_false (fun y => z (by rw [y]))
                have n0 : n = 0 := by
                  rcases hp with y | y
                  · rw [hpc] at y; exact absurd y (by decide)
                  · exact y
                refine nxt τ' hF' ?_
                rw [Ls, hpc]
                rw [n0] at hM'
                have : fl (tgW (gW G) (gH G) P s e.2.2.1 c (yS m) 0) 16 0 = [] := fl_nil 16 0 (fun _ _ _ => rfl)
                rw [this, List.map_nil, List.append_nil] at hM'
                simpa using hM'
              · have hpc : pc P s c = true := decide_eq_true ((nI_eq (by omega) (by omega)).mp z)
                refine findMove_ok hG d9 hs hV he k0 (by omega) y8 Lt hAc hAkc hlc hM' (fun ht x ex => ?_) (fun s2 t ht hf hM2 hF2 x ex => ?_) (fun t ht => ?_)
                · rw [ex, nI_1, Nat.add_assoc]
                  refine ihr (n + 1) τ' (by omega) hF' (Or.inl hpc) ?_
                  rw [fl_congr (g := tgW (gW G) (gH G) P s e.2.2.1 c (yS m) n) 16 0 (fun j _ _ => by rw [tgW_s, ht]; simp)]
                  exact hM'
                · rw [ex, nI_1, Nat.add_assoc]
                  refine ihr (n + 1) s2 (by omega) (hF'.trans hF2) (Or.inl hpc) ?_
                  rw [fl_congr (g := fun z => tgW (gW G) (gH G) P s e.2.2.1 c (yS m) n z || decide (z = t)) 16 0 (fun j _ _ => by
                    rw [tgW_s, ht]
                    congr 1
                    by_cases q : j = t
                    · subst q; simp
                    · rw [decide_eq_false q]
                      simp
                      omega)]
                  exact hM2
                · cases hq : tgW (gW G) (gH G) P s e.2.2.1 c (yS m) n t
                  · rfl
                  · exfalso
                    unfold tgW at hq
                    rw [List.any_eq_true] at hq
                    obtain ⟨j, hj, hje⟩ := hq
                    have hj' := List.mem_range.mp hj
                    obtain ⟨-, yj⟩ := wy1 j (by omega)
                    have := tgd_inj w2 w4 h2 h4 (by omega) (piD_lt _ yj) (piD_lt _ y8) (eq_of_beq hje) ht
                    have inj : ∀ a, a < 8 → ∀ b, b < 8 → piD a = piD b → a = b := by decide
                    have := inj _ yj _ y8 this
                    omega
            unfold L_X11_findOf_66 D_X11_findOf_66
            rw [ex3] at body ⊢
            rcases hm with rfl | rfl | rfl
            · exact ⟨fun z => absurd rfl z, fun _ => body⟩
            · exact ⟨fun _ => body, fun z => absurd z (by decide)⟩
            · exact ⟨fun _ => body, fun z => absurd z (by decide)⟩
        have st : D_X11_findOf_64 (L_X11_findOf_44 Q (d + 1)) Q (nI dd) (nI k) x3 (nI c) (nI (yS m)) τ := by
          refine ⟨yN m + 1, ?_⟩
          have := inner (yN m) 0 τ (by omega) hF (Or.inr rfl) (by
            have z : fl (tgW (gW G) (gH G) P s e.2.2.1 c (yS m) 0) 16 0 = [] := fl_nil 16 0 (fun _ _ _ => rfl)
            rw [z, List.map_nil, List.append_nil]
            exact hMt)
          exact this
        rw [ex3] at st ⊢
        rcases hm with rfl | rfl | rfl
        · exact ⟨fun _ => st, fun z => absurd z (by decide)⟩
        · exact ⟨fun z => absurd rfl z, fun _ => st⟩
        · exact ⟨fun _ => st, fun z => absurd z (by decide)⟩
    refine outer (gW G * gH G) 0 σ (by omega) FM.rf ?_
    rw [hLc]
    simpa [flm] using hM
  · have k0 : e.2.2.1 = 0 := by
      rcases hR with ⟨z, -⟩ | ⟨z, -⟩
      · exact z
      · rcases z with z | z | z | z <;> (rw [z] at q; exact absurd q (by decide))
    exact findPuts_ok hG d9 hs hV he k0 hL hA hAk (by omega) hM hQ
theorem mlP_cons {w h : Nat} {P : Nat → Nat} {s : Nat} {mu : Int32} {e : RuT} {es : List RuT} {k : Nat} : mlP w h P s mu (e :: es) k = (if e.2.2.2.2 = mu then mvs1 w h P s k e.2.2.1 e.2.2.2.1 else []) ++ mlP w h P s mu es (k + 1) := rfl
theorem findMoves_ok {σ : GSt} {g dd s : Nat} {G : GM} {P : Nat → Nat} {Q : GSt → Prop} (hG : GOK G) (d9 : dd < 9) (hs : 1 ≤ s ∧ s ≤ 2) (hV : VP (gW G) (gH G) P) (hL : LvP σ g dd G P s) (hQ : ∀ σ' : GSt, MLs σ' dd (ML (gW G) (gH G) (gMv G) P s) → FM dd σ σ' → Q σ') : D_X11_findMoves (nI dd) σ Q := by
  obtain ⟨⟨w2, w4, h2, h4⟩, ⟨m6, -, hMu⟩, -⟩ := id hG
  have g9 := hL.1.1.1
  unfold D_X11_findMoves D_X11_findMoves_0
  rw [nI_clamp (show dd < 2 ^ 31 by omega)]
  refine ⟨vp_in_nI d9 (by decide), fun s1 e1 => ⟨3, ?_⟩⟩
  have F1 : FM dd σ s1 := by rw [e1]; exact FM.rf.count
  have M1 : MLs s1 dd [] := ⟨by rw [e1]; simp [up2_app, nI_0], fun j m hm => by simp at hm⟩
  -- one pass
  have pass : ∀ (ps : Nat) (mu : Int32) (A : List (Nat × Nat × Nat)) (K : Int32 → Int32 → GSt → Prop), ps < 2 → mu = (if ps = 0 then 1 else 0) → A = [] → ∀ (d k : Nat) (τ : GSt) (L : List (Nat × Nat × Nat)), k + d = (gMv G).length → FM dd σ τ → MLs τ dd L → L.length ≤ 42 * k → (∀ m ∈ L, m.1 < k ∧ m.2.1 < 100 ∧ m.2.2 < 16) → mlP (gW G) (gH G) P s mu (gMv G) 0 = L ++ mlP (gW G) (gH G) P s mu ((gMv G).drop k) k → (∀ τ' : GSt, FM dd σ τ' → MLs τ' dd (mlP (gW G) (gH G) P s mu (gMv G) 0) → (ps = 0 ∧ mlP (gW G) (gH G) P s mu (gMv G) 0 ≠ [] → Q τ') ∧ (¬ (ps = 0 ∧ mlP (gW G) (gH G) P s mu (gMv G) 0 ≠ []) → K (nI dd) (nI (ps + 1)) τ')) → L_X11_findMoves_19 K Q (d + 1) (nI dd) (nI ps) (nI k) τ := by
    intro ps mu A K hps hmu _ d
    induction d with
    | zero =>
      intro k τ L hk hF hMt hlen hbd hE hK
      rw [List.drop_of_length_le (by omega)] at hE
      have hE' : mlP (gW G) (gH G) P s mu (gMv G) 0 = L := by rw [hE]; simp [mlP]
      have hK' := hK τ hF (by rw [hE']; exact hMt)
      have Lt := hL.row hF
      unfold L_X11_findMoves_19 D_X11_findMoves_19
      rw [Lt.1.gi, Lt.1.2.2.1.1, nI_clamp (show dd < 2 ^ 31 by omega), hMt.1]
      refine ⟨Lt.1.vp, fun _ => ⟨vp_in_nI d9 (by decide), fun z => ?_, fun z => ⟨fun y => ?_, fun y => ?_⟩⟩, fun z => absurd (nI_le (by omega) (by omega)) z⟩
      · have l0 : L = [] := by
          have := (nI_leI (b := 0) (by omega) (by decide)).mp z
          exact List.length_eq_zero_iff.mp (by omega)
        refine ⟨fun _ x ex => ?_, fun z => absurd rfl z⟩
        rw [ex, nI_1 ps]
        exact hK'.2 (fun t => t.2 (by rw [hE', l0]))
      · refine ⟨fun _ x ex => ?_, fun z => absurd rfl z⟩
        rw [ex, nI_1 ps]
        exact hK'.2 (fun t => y (by rw [t.1]; rfl))
      · refine ⟨fun z => absurd z (by decide), fun _ => hK'.1 ⟨?_, fun t => z ?_⟩⟩
        · exact (nI_eq (b := 0) (by omega) (by decide)).mp y
        · rw [hE'] at t
          rw [t]
          decide
    | succ d ih =>
      intro k τ L hk hF hMt hlen hbd hE hK
      have Lt := hL.row hF
      obtain ⟨e, he⟩ : ∃ e, (gMv G)[k]? = some e := ⟨_, List.getElem?_eq_getElem (by omega)⟩
      obtain ⟨-, -, -, v8⟩ := Lt.1.2.2.2.1 k e he
      unfold L_X11_findMoves_19 D_X11_findMoves_19
      rw [Lt.1.gi, Lt.1.2.2.1.1, Lt.1.1.2, show (6 : Int32) * nI g + nI k = nI (6 * g + k) from nlin 6 g k, nI_clamp (show 6 * g + k < 2 ^ 31 by omega), v8]
      refine ⟨vp_in_nI g9 (by decide), fun z => absurd z (nI_ge (by omega) (by omega)), fun _ => ⟨vp_in_nI (by omega) (by decide), ?_⟩⟩
      rw [drop_cons he] at hE
      have go : D_X11_findMoves_57 K (L_X11_findMoves_19 K Q (d + 1)) Q (nI dd) (nI ps) (nI k) e.2.2.2.2 mu τ := by
        rw [mlP_cons] at hE
        refine ⟨fun q x ex => ?_, fun q => ?_⟩
        · rw [ex, nI_1 k]
          have hE2 : mlP (gW G) (gH G) P s mu (gMv G) 0 = L ++ mlP (gW G) (gH G) P s mu ((gMv G).drop (k + 1)) (k + 1) := by
            have := hE
            rw [if_neg q, List.nil_append] at this
            exact this
          exact ih (k + 1) τ L (by omega) hF hMt (by omega) (fun m hm => by have := hbd m hm; omega) hE2 hK
        · have l42 := mvs1_len (k := k) (kind := e.2.2.1) (num := e.2.2.2.1) w2 w4 h2 h4 hs hV
          refine findOf_ok hG d9 hs hV he Lt (fun m hm => by have := hbd m hm; omega) (fun m hm => by have := hbd m hm; omega) (by omega) hMt (fun s2 hM2 hF2 x ex => ?_)
          rw [ex, nI_1 k]
          have hE2 : mlP (gW G) (gH G) P s mu (gMv G) 0 = (L ++ mvs1 (gW G) (gH G) P s k e.2.2.1 e.2.2.2.1) ++ mlP (gW G) (gH G) P s mu ((gMv G).drop (k + 1)) (k + 1) := by
            have := hE
            rw [if_pos q] at this
            rw [List.append_assoc]
            exact this
          refine ih (k + 1) s2 _ (by omega) (hF.trans hF2) hM2 (by rw [List.length_append]; omega) (fun m hm => ?_) hE2 hK
          rcases List.mem_append.mp hm with hm | hm
          · have := hbd m hm; omega
          · have := mvs1_bd (by omega) hm; omega
      have hp : ps = 0 ∨ ps = 1 := by omega
      rcases hp with rfl | rfl
      · rw [hmu] at go
        exact ⟨fun z => absurd rfl z, fun _ => go⟩
      · rw [hmu] at go
        exact ⟨fun _ => go, fun z => absurd z (by decide)⟩
  refine ⟨fun z => absurd z (by decide), fun _ => ⟨(gMv G).length + 1, ?_⟩⟩
  refine pass 0 1 [] _ (by decide) rfl rfl (gMv G).length 0 s1 [] (by omega) F1 M1 (by simp) (fun m hm => absurd hm List.not_mem_nil) (by simp) (fun t Ft Mt => ⟨fun q => ?_, fun q => ?_⟩)
  · refine hQ t ?_ Ft
    unfold ML
    rw [if_neg q.2]
    exact Mt
  · have hnil : mlP (gW G) (gH G) P s 1 (gMv G) 0 = [] := by
      cases hl : mlP (gW G) (gH G) P s 1 (gMv G) 0 with
      | nil => rfl
      | cons a b => exact absurd ⟨rfl, by rw [hl]; simp⟩ q
    rw [hnil] at Mt
    refine ⟨fun z => absurd z (by decide), fun _ => ⟨(gMv G).length + 1, ?_⟩⟩
    refine pass 1 0 [] _ (by decide) rfl rfl (gMv G).length 0 t [] (by omega) Ft Mt (by simp) (fun m hm => absurd hm List.not_mem_nil) (by simp) (fun t2 Ft2 Mt2 => ⟨fun q => absurd q.1 (by decide), fun _ => ⟨fun _ => hQ t2 ?_ Ft2, fun z => absurd (by decide) z⟩⟩)
    unfold ML
    rw [if_pos hnil]
    exact Mt2
