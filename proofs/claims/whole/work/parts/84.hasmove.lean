theorem mask0_fl {f : Nat → Bool} : mask f = 0 ↔ fl f 16 0 = [] := by
  rw [mask_eq0]
  constructor
  · intro h
    exact fl_nil 16 0 (fun j _ h2 => h j (by omega))
  · intro h c hc
    cases hf : f c
    · rfl
    · have := (fl_mem (f := f) (x := c) 16 0).mpr ⟨Nat.zero_le _, by omega, hf⟩
      rw [h] at this
      exact absurd this List.not_mem_nil
theorem hasMove_loop {w h o i k ru num : Nat} {P : Nat → Nat} {dn : Nat} {kind : Int32} {σ : GSt} {Q : Int32 → GSt → Prop} {K23 : Int32 → Int32 → GSt → Prop} {x2 : Int32} (w2 : 2 ≤ w) (w4 : w ≤ 4) (h2 : 2 ≤ h) (h4 : h ≤ 4) (hV : VP w h P) (hn : num = 1 ∨ num = 2 ∨ num = 3) (hP : CP σ o i P dn) (hB : BoardOK σ (i + 3) w h) (hk : σ ru 0 = kind) (hr : σ ru 1 = nI num) : ∀ (d c : Nat), c + d = 16 → (flm (pc P (sd dn)) (fun c => (fl (tgB w h P (sd dn) kind (nI num) c 8) 16 0).map (fun t => (k, c, t))) d c ≠ [] → Q 1 σ) → (flm (pc P (sd dn)) (fun c => (fl (tgB w h P (sd dn) kind (nI num) c 8) 16 0).map (fun t => (k, c, t))) d c = [] → D_X5_hasMove_152 K23 Q o (mask (pc P (sd dn))) x2 σ) → L_X5_hasMove_111 K23 Q o (d + 1) (mask (pc P (sd dn))) x2 ru (nI c) σ := by
  have h16 : w * h ≤ 16 := Nat.mul_le_mul w4 h4
  intro d
  induction d with
  | zero =>
    intro c hc h1 h0
    refine ⟨fun _ => h0 rfl, fun _ => ⟨fun _ => h0 rfl, fun z => absurd ?_ z⟩⟩
    rw [show c = 16 by omega]
    decide
  | succ d ih =>
    intro c hc h1 h0
    refine ⟨fun z => ?_, fun _ => ⟨fun z => absurd z (nI_ge (b := 16) (by omega) (by decide)), fun _ => ?_⟩⟩
    · have e := (ush_0 (by omega)).mp z
      exact h0 (flm_nil (d + 1) c (fun j h1 h2 => by
        have := e j h1
        rw [bt_mask (by omega), decide_eq_true (show j < 16 by omega), Bool.true_and] at this
        exact this))
    · rw [ush_and1_0 (by omega), bt_pc (by omega)]
      rw [flm_s] at h1 h0
      have nxt : ((if pc P (sd dn) c then (fl (tgB w h P (sd dn) kind (nI num) c 8) 16 0).map (fun t => (k, c, t)) else []) = []) → D_X5_hasMove_146 K23 (L_X5_hasMove_111 K23 Q o (d + 1)) Q o (mask (pc P (sd dn))) x2 ru (nI c) σ := by
        intro hn x ex
        subst ex
        rw [nI_1 c]
        rw [hn, List.nil_append] at h1 h0
        exact ih (c + 1) (by omega) h1 h0
      refine ⟨fun q => nxt (by rw [show pc P (sd dn) c = false from q]; rfl), fun q => ?_⟩
      rw [Bool.not_eq_false] at q
      have hpc : P c = sd dn := of_decide_eq_true q
      have hcl : c < w * h := by
        rcases Nat.lt_or_ge c (w * h) with z | z
        · exact z
        · have := (hV c).2 z
          unfold sd at hpc
          omega
      refine targets_ok w2 w4 h2 h4 hcl hV hP hB hk hr hn ?_
      rw [mask0_fl]
      refine ⟨fun z => nxt (by rw [if_pos (show pc P (sd dn) c = true from q), z]; rfl), fun z => h1 (fun y => z ?_)⟩
      rw [if_pos (show pc P (sd dn) c = true from q)] at y
      exact List.map_eq_nil_iff.mp (List.append_eq_nil_iff.mp y).1
theorem hasMove_ok {w h o i : Nat} {P : Nat → Nat} {dn : Nat} {mv : List RuT} {σ : GSt} {Q : Int32 → GSt → Prop} (w2 : 2 ≤ w) (w4 : w ≤ 4) (h2 : 2 ≤ h) (h4 : h ≤ 4) (hV : VP w h P) (h6 : mv.length ≤ 6) (hM : MusOK mv) (hP : CP σ o i P dn) (hB : CB σ i w h mv) (h1 : ML w h mv P (sd dn) ≠ [] → Q 1 σ) (h0 : ML w h mv P (sd dn) = [] → Q 0 σ) : D_X5_hasMove o σ Q := by
  have key : ∀ (d k : Nat), k + d = mv.length → (hmL w h P (sd dn) (mv.drop k) k = true → Q 1 σ) → (hmL w h P (sd dn) (mv.drop k) k = false → Q 0 σ) → L_X5_hasMove_23 Q o (d + 1) (mask (pc P (sd dn))) (nI k) σ := by
    intro d
    induction d with
    | zero =>
      intro k hk h1 h0
      unfold L_X5_hasMove_23 D_X5_hasMove_23
      rw [hP.ref.2, hB.2.1]
      rw [List.drop_of_length_le (by omega)] at h0
      exact ⟨⟨hP.ref.1.1, hP.1⟩, fun _ => h0 rfl, fun z => absurd (nI_le (by omega) (by omega)) z⟩
    | succ d ih =>
      intro k hk h1 h0
      unfold L_X5_hasMove_23 D_X5_hasMove_23
      rw [hP.ref.2, hB.2.1, nI_clamp (show k < 2 ^ 31 by omega), show i + 8 + 2 + 2 * k = i + 10 + 2 * k by omega]
      refine ⟨⟨hP.ref.1.1, hP.1⟩, fun z => absurd z (nI_ge (by omega) (by omega)), fun _ => ⟨⟨hP.ref.1.1, hP.1⟩, vp_in_nI (by omega) (by decide), ?_⟩⟩
      obtain ⟨e, he⟩ : ∃ e, mv[k]? = some e := ⟨_, List.getElem?_eq_getElem (by omega)⟩
      have hmi := hB.2.2 k e he
      have hR := (hM e (List.mem_of_getElem? he)).1
      rw [drop_cons he] at h1 h0
      unfold hmL at h1 h0
      have yes : mvs1 w h P (sd dn) k e.2.2.1 e.2.2.2.1 ≠ [] → Q 1 σ := fun hne => h1 (by
        rw [Bool.or_eq_true]
        left
        cases hl : mvs1 w h P (sd dn) k e.2.2.1 e.2.2.2.1 with
        | nil => exact absurd hl hne
        | cons a b => rfl)
      have no : mvs1 w h P (sd dn) k e.2.2.1 e.2.2.2.1 = [] → D_X5_hasMove_152 (L_X5_hasMove_23 Q o (d + 1)) Q o (mask (pc P (sd dn))) (nI k) σ := by
        intro hn x ex
        subst ex
        rw [nI_1 k]
        rw [hn] at h1 h0
        exact ih (k + 1) (by omega) h1 h0
      obtain ⟨-, -, v0, v1, -⟩ := hmi
      rw [v0, v1]
      have put : e.2.2.1 = 0 → ∀ (s0 : Int32), (s0 = 0 → ¬ (e.2.2.2.1 = 0 ∨ nI (cntF (pc P (sd dn)) 16 0) < e.2.2.2.1)) → (s0 ≠ 0 → e.2.2.2.1 = 0 ∨ nI (cntF (pc P (sd dn)) 16 0) < e.2.2.2.1) → D_X5_hasMove_74 (L_X5_hasMove_23 Q o (d + 1)) Q o (mask (pc P (sd dn))) (nI k) s0 σ := by
        intro k0 s0 hz hnz
        unfold D_X5_hasMove_74
        rw [hP.ref.2, hP.2.2.1, hP.2.2.2.1, hB.1.2.1.1, (edges_ok w2 w4 h2 h4).1, mask_or, mask_andn, mask0_fl]
        refine ⟨fun z => no (by unfold mvs1; rw [if_pos k0, if_neg (hz z)]), fun z => ⟨⟨hP.ref.1.1, hP.1⟩, fun y => no ?_, fun y => yes ?_⟩⟩
        · unfold mvs1
          rw [if_pos k0, if_pos (hnz z), y]
          rfl
        · unfold mvs1
          rw [if_pos k0, if_pos (hnz z)]
          exact fun t => y (List.map_eq_nil_iff.mp t)
      refine ⟨fun k0 => ?_, fun k0 => ⟨fun n0 => put k0 1 (fun z => absurd z (by decide)) (fun _ => Or.inl n0), fun n0 => ?_⟩⟩
      · rcases hR with ⟨z, -⟩ | ⟨-, m, hm, em⟩
        · exact absurd z k0
        · refine ⟨17, hasMove_loop (k := k) w2 w4 h2 h4 hV hm hP hB.1 v0 (by rw [v1, em]) 16 0 rfl (fun q => yes ?_) (fun q => no ?_)⟩
          · unfold mvs1
            rw [if_neg k0, em]
            exact q
          · unfold mvs1
            rw [if_neg k0, em]
            exact q
      · refine bitCount_ok ?_
        rw [v1]
        refine ⟨fun z => put k0 0 (fun _ q => ?_) (fun q => absurd rfl q), fun z => put k0 1 (fun q => absurd q (by decide)) (fun _ => Or.inr (i32_nle z))⟩
        rcases q with q | q
        · exact n0 q
        · exact absurd z (Int32.not_le.mpr q)
  have fin : D_X5_hasMove_20 Q o (mask (pc P (sd dn))) σ := by
    refine ⟨mv.length + 1, key mv.length 0 (by omega) (fun q => h1 (fun z => ?_)) (fun q => h0 ((ML_nil hM).mpr q))⟩
    rw [ML_nil hM] at z
    rw [List.drop_zero, z] at q
    exact absurd q (by decide)
  unfold D_X5_hasMove D_X5_hasMove_0
  rw [hP.odd, hP.2.2.1, hP.2.2.2.1]
  rcases sd_cases dn with ⟨m0, s1, -⟩ | ⟨m1, s1, -⟩
  · rw [m0]
    rw [s1] at fin
    exact ⟨fun z => absurd rfl z, fun _ => fin⟩
  · rw [m1]
    rw [s1] at fin
    exact ⟨fun _ => fin, fun z => absurd z (by decide)⟩
