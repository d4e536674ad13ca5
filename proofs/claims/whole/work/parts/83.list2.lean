/-- no more moves of one MOVE than pairs of cells next to each other -/
def prs (w h : Nat) : List (Nat × Nat) := (List.range 16).flatMap fun c => if c < w * h then (List.range 8).filterMap fun d => (nbO w h c d).map fun x => (c, x) else []
def prU (w h : Nat) : List (Nat × Nat) := (prs w h).filter fun p => decide (p.1 < p.2)
theorem prs_all : ((List.range 5).all fun w => (List.range 5).all fun h => !(decide (2 ≤ w) && decide (2 ≤ h)) || ((prs w h).isPerm (prU w h ++ (prU w h).map fun p => (p.2, p.1)) && decide ((prU w h).length ≤ 42))) = true := by decide +kernel
theorem prs_ok {w h : Nat} (w2 : 2 ≤ w) (w4 : w ≤ 4) (h2 : 2 ≤ h) (h4 : h ≤ 4) : List.Perm (prs w h) (prU w h ++ (prU w h).map fun p => (p.2, p.1)) ∧ (prU w h).length ≤ 42 := by
  have h1 := List.all_eq_true.mp (List.all_eq_true.mp prs_all w (List.mem_range.mpr (by omega))) h (List.mem_range.mpr (by omega))
  simp only [w2, h2, decide_true, Bool.and_self, Bool.not_true, Bool.false_or, Bool.and_eq_true, decide_eq_true_eq] at h1
  exact ⟨List.isPerm_iff.mp h1.1, h1.2⟩
theorem cut_le (p : Nat → Bool) : ∀ (l : List (Nat × Nat)), l.countP (fun e => p e.1 && !p e.2) + (l.map fun e => (e.2, e.1)).countP (fun e => p e.1 && !p e.2) ≤ l.length
  | [] => by simp
  | e :: l => by
    have ih := cut_le p l
    simp only [List.countP_cons, List.map_cons, List.length_cons]
    cases p e.1 <;> cases p e.2 <;> simp only [Bool.not_false, Bool.not_true, Bool.and_true, Bool.and_false, Bool.and_self, Bool.false_eq_true, if_true, if_false] <;> omega
theorem cut_42 {w h : Nat} (w2 : 2 ≤ w) (w4 : w ≤ 4) (h2 : 2 ≤ h) (h4 : h ≤ 4) (p : Nat → Bool) : (prs w h).countP (fun e => p e.1 && !p e.2) ≤ 42 := by
  obtain ⟨hp, hl⟩ := prs_ok w2 w4 h2 h4
  rw [hp.countP_eq, List.countP_append]
  exact Nat.le_trans (cut_le p _) hl
theorem tgB_cnt {w h : Nat} {P : Nat → Nat} {s : Nat} {kind num : Int32} {c : Nat} (w2 : 2 ≤ w) (w4 : w ≤ 4) (h2 : 2 ≤ h) (h4 : h ≤ 4) (hs : 1 ≤ s ∧ s ≤ 2) (hc : c < w * h) (hpc : P c = s) : ∀ j, j ≤ 8 → cntF (tgB w h P s kind num c j) 16 0 ≤ ((List.range j).filterMap fun d => (nbO w h c d).map fun x => (c, x)).countP (fun e => pc P s e.1 && !pc P s e.2)
  | 0, _ => by
    have : ∀ d k, cntF (tgB w h P s kind num c 0) d k = 0 := by
      intro d
      induction d with
      | zero => intro k; rfl
      | succ d ih => intro k; unfold cntF; rw [ih]; rfl
    rw [this]
    exact Nat.zero_le _
  | j + 1, hj => by
    have ih := tgB_cnt (num := num) (kind := kind) w2 w4 h2 h4 hs hc hpc j (by omega)
    rw [List.range_succ, List.filterMap_append, List.countP_append]
    cases ht : tgd w h P s kind c j with
    | none =>
      have e : cntF (tgB w h P s kind num c (j + 1)) 16 0 = cntF (tgB w h P s kind num c j) 16 0 := cntF_congr 16 0 (fun to _ _ => by rw [tgB_s, ht]; simp)
      omega
    | some z =>
      have e1 : cntF (tgB w h P s kind num c (j + 1)) 16 0 ≤ cntF (fun to => tgB w h P s kind num c j to || decide (to = z)) 16 0 := by
        have mono : ∀ (f g : Nat → Bool), (∀ x, f x = true → g x = true) → ∀ d k, cntF f d k ≤ cntF g d k := by
          intro f g hfg d
          induction d with
          | zero => intro k; exact Nat.le_refl _
          | succ d ihd =>
            intro k
            have := ihd (k + 1)
            have hk := hfg k
            unfold cntF
            cases hf : f k
            · simp; split <;> omega
            · rw [hk hf]; simp; omega
        refine mono _ _ (fun x hx => ?_) 16 0
        rw [tgB_s, ht] at hx
        simp only [Bool.or_eq_true, Bool.and_eq_true, beq_iff_eq, Option.some.injEq, decide_eq_true_eq] at hx ⊢
        rcases hx with hx | hx
        · exact Or.inl hx
        · exact Or.inr hx.2.symm
      have e2 := cnt_ins (f := tgB w h P s kind num c j) (x := z) 16 0
      have e3 : 1 ≤ ([j].filterMap fun d => (nbO w h c d).map fun x => (c, x)).countP (fun e => pc P s e.1 && !pc P s e.2) := by
        unfold tgd at ht
        cases hx : nbO w h c j with
        | none => rw [hx] at ht; simp at ht
        | some x =>
          rw [hx] at ht
          simp only at ht
          have hne : P x ≠ s := by
            by_cases k1 : kind = 1
            · rw [if_pos k1] at ht
              by_cases q : P x = 0
              · omega
              · rw [if_neg q] at ht; simp at ht
            · rw [if_neg k1] at ht
              by_cases q : P x = 3 - s
              · omega
              · rw [if_neg q] at ht; simp at ht
          simp [hx, pc, hpc, hne]
      simp only [Nat.zero_le, if_true] at e2
      omega
theorem mvs1_len {w h : Nat} {P : Nat → Nat} {s k : Nat} {kind num : Int32} (w2 : 2 ≤ w) (w4 : w ≤ 4) (h2 : 2 ≤ h) (h4 : h ≤ 4) (hs : 1 ≤ s ∧ s ≤ 2) (hV : VP w h P) : (mvs1 w h P s k kind num).length ≤ 42 := by
  have h16 : w * h ≤ 16 := Nat.mul_le_mul w4 h4
  unfold mvs1
  split
  · split
    · rw [List.length_map, fl_len]
      exact Nat.le_trans (cntF_le _ _ _) (by decide)
    · exact Nat.zero_le _
  · refine Nat.le_trans ?_ (cut_42 w2 w4 h2 h4 (pc P s))
    have key : ∀ (d c : Nat), (flm (pc P s) (fun c => (fl (tgB w h P s kind num c 8) 16 0).map (fun t => (k, c, t))) d c).length ≤ ((List.range' c d).flatMap fun c => if c < w * h then (List.range 8).filterMap fun d => (nbO w h c d).map fun x => (c, x) else []).countP (fun e => pc P s e.1 && !pc P s e.2) := by
      intro d
      induction d with
      | zero => intro c; exact Nat.zero_le _
      | succ d ih =>
        intro c
        have := ih (c + 1)
        rw [flm_s, List.length_append, List.range'_succ, List.flatMap_cons, List.countP_append]
        refine Nat.add_le_add ?_ this
        by_cases q : pc P s c = true
        · have hpc : P c = s := of_decide_eq_true q
          have hcl : c < w * h := by
            rcases Nat.lt_or_ge c (w * h) with z | z
            · exact z
            · have := (hV c).2 z
              omega
          rw [if_pos q, if_pos hcl, List.length_map, fl_len]
          exact tgB_cnt w2 w4 h2 h4 hs hcl hpc 8 (Nat.le_refl _)
        · rw [if_neg q]
          exact Nat.zero_le _
    have := key 16 0
    rw [← List.range_eq_range'] at this
    exact this
theorem mlP_len {w h : Nat} {P : Nat → Nat} {s : Nat} {mu : Int32} (w2 : 2 ≤ w) (w4 : w ≤ 4) (h2 : 2 ≤ h) (h4 : h ≤ 4) (hs : 1 ≤ s ∧ s ≤ 2) (hV : VP w h P) : ∀ (l : List RuT) (k : Nat), (mlP w h P s mu l k).length ≤ 42 * l.length
  | [], _ => Nat.le_refl _
  | e :: es, k => by
    have ih := mlP_len (mu := mu) w2 w4 h2 h4 hs hV es (k + 1)
    have h1 := mvs1_len (k := k) (kind := e.2.2.1) (num := e.2.2.2.1) w2 w4 h2 h4 hs hV
    unfold mlP
    rw [List.length_append, List.length_cons]
    split
    · omega
    · simp only [List.length_nil]; omega
theorem ML_len {w h : Nat} {P : Nat → Nat} {s : Nat} {mv : List RuT} (w2 : 2 ≤ w) (w4 : w ≤ 4) (h2 : 2 ≤ h) (h4 : h ≤ 4) (hs : 1 ≤ s ∧ s ≤ 2) (hV : VP w h P) (hm : mv.length ≤ 6) : (ML w h mv P s).length ≤ 252 := by
  have a := mlP_len (mu := 0) w2 w4 h2 h4 hs hV mv 0
  have b := mlP_len (mu := 1) w2 w4 h2 h4 hs hV mv 0
  unfold ML
  split <;> omega
/-- what a look at the class's game needs -/
def CB (σ : GSt) (i w h : Nat) (mv : List RuT) : Prop := BoardOK σ (i + 3) w h ∧ σ i 5 = nI mv.length ∧ (∀ j e, mv[j]? = some e → MvIs σ (i + 10 + 2 * j) e)
theorem CB.row {σ σ' : GSt} {i w h : Nat} {mv : List RuT} (hB : CB σ i w h mv) (h6 : mv.length ≤ 6) (hr : ∀ a, i ≤ a → a < i + 22 → σ' a = σ a) : CB σ' i w h mv := by
  refine ⟨hB.1.row (fun a h1 h2 => hr a (by omega) (by omega)), by rw [hr i (by omega) (by omega)]; exact hB.2.1, fun j e he => (hB.2.2 j e he).row (hr _ (by omega) ?_)⟩
  have := (List.getElem?_eq_some_iff.mp he).1
  omega
theorem drop_cons {α : Type} {l : List α} {k : Nat} {e : α} (h : l[k]? = some e) : l.drop k = e :: l.drop (k + 1) := by
  obtain ⟨hk, he⟩ := List.getElem?_eq_some_iff.mp h
  rw [List.drop_eq_getElem_cons hk, he]
theorem list25 {w h o i r : Nat} {P : Nat → Nat} {dn : Nat} {mv : List RuT} {Q : Int32 → GSt → Prop} {K13 : Nat → Int32 → Int32 → GSt → Prop} (w2 : 2 ≤ w) (w4 : w ≤ 4) (h2 : 2 ≤ h) (h4 : h ≤ 4) (hV : VP w h P) (hl : ln r = 256) (ro : o ≠ r) (ri : r < i ∨ i + 22 ≤ r) (h6 : mv.length ≤ 6) (hM : MusOK mv) (ps : Nat) (hps : ps < 2) : ∀ (d k b : Nat) (σ : GSt), k + d = mv.length → CP σ o i P dn → CB σ i w h mv → b + (mlP w h P (sd dn) (if ps = 0 then 1 else 0) (mv.drop k) k).length ≤ 256 → K13 r (nI (b + (mlP w h P (sd dn) (if ps = 0 then 1 else 0) (mv.drop k) k).length)) (nI (ps + 1)) (wr r σ b ((mlP w h P (sd dn) (if ps = 0 then 1 else 0) (mv.drop k) k).map enc)) → L_X5_listMoves_25 K13 Q o (d + 1) r (nI b) (nI ps) (nI k) σ := by
  intro d
  induction d with
  | zero =>
    intro k b σ hk hP hB hb hK
    unfold L_X5_listMoves_25 D_X5_listMoves_25
    rw [hP.ref.2, hB.2.1]
    rw [List.drop_of_length_le (by omega)] at hK
    refine ⟨⟨hP.ref.1.1, hP.1⟩, fun _ x ex => ?_, fun z => absurd (nI_le (by omega) (by omega)) z⟩
    subst ex
    rw [nI_1 ps]
    exact hK
  | succ d ih =>
    intro k b σ hk hP hB hb hK
    unfold L_X5_listMoves_25 D_X5_listMoves_25
    rw [hP.ref.2, hB.2.1, nI_clamp (show k < 2 ^ 31 by omega), show i + 8 + 2 + 2 * k = i + 10 + 2 * k by omega]
    refine ⟨⟨hP.ref.1.1, hP.1⟩, fun z => absurd z (nI_ge (by omega) (by omega)), fun _ => ⟨⟨hP.ref.1.1, hP.1⟩, vp_in_nI (by omega) (by decide), ?_⟩⟩
    obtain ⟨e, he⟩ : ∃ e, mv[k]? = some e := ⟨_, List.getElem?_eq_getElem (by omega)⟩
    have hmi := hB.2.2 k e he
    have hmem : e ∈ mv := List.mem_of_getElem? he
    rw [hmi.2.2.2.2]
    rw [drop_cons he] at hK hb
    have go : ∀ s1 : Int32, s1 = (if ps = 0 then 1 else 0) → D_X5_listMoves_59 K13 (L_X5_listMoves_25 K13 Q o (d + 1)) Q o r (nI b) (nI ps) (nI k) e.2.2.2.2 s1 σ := by
      intro s1 es1
      unfold mlP at hK hb
      rw [← es1] at hK hb
      refine ⟨fun q => ?_, fun q => ?_⟩
      · rw [if_neg q, List.nil_append] at hK hb
        intro x ex
        subst ex
        rw [nI_1 k]
        refine ih (k + 1) b σ (by omega) hP hB ?_ ?_
        · rw [← es1]; exact hb
        · rw [← es1]; exact hK
      · rw [if_pos q, List.length_append] at hK hb
        refine addMoves_ok w2 w4 h2 h4 hV hl ro ri (by omega) hP hB.1 hmi.2.2.1 hmi.2.2.2.1 (hM e hmem).1 (by omega) ?_
        intro x ex
        subst ex
        rw [nI_1 k]
        obtain ⟨hP', -, hfr⟩ := wr_keep (b := b) (l := (mvs1 w h P (sd dn) k e.2.2.1 e.2.2.2.1).map enc) ro ri hP hB.1
        refine ih (k + 1) _ _ (by omega) hP' (hB.row h6 hfr) ?_ ?_
        · rw [← es1]; omega
        · rw [← es1]
          rw [List.map_append, wr_app, List.length_map, ← Nat.add_assoc] at hK
          exact hK
    have hp : ps = 0 ∨ ps = 1 := by omega
    rcases hp with rfl | rfl
    · exact ⟨fun z => absurd rfl z, fun _ => go 1 rfl⟩
    · exact ⟨fun _ => go 0 rfl, fun z => absurd z (by decide)⟩
theorem listMoves_ok {w h o i r : Nat} {P : Nat → Nat} {dn : Nat} {mv : List RuT} {σ : GSt} {Q : Int32 → GSt → Prop} (w2 : 2 ≤ w) (w4 : w ≤ 4) (h2 : 2 ≤ h) (h4 : h ≤ 4) (hV : VP w h P) (hl : ln r = 256) (ro : o ≠ r) (ri : r < i ∨ i + 22 ≤ r) (h6 : mv.length ≤ 6) (hM : MusOK mv) (hP : CP σ o i P dn) (hB : CB σ i w h mv) (h0 : σ o 4 = 0) (hQ : Q (nI (ML w h mv P (sd dn)).length) (wr r σ 0 ((ML w h mv P (sd dn)).map enc))) : D_X5_listMoves o r σ Q := by
  have hsd : 1 ≤ sd dn ∧ sd dn ≤ 2 := by unfold sd; omega
  have a0 := mlP_len (mu := 0) w2 w4 h2 h4 hsd hV mv 0
  have a1 := mlP_len (mu := 1) w2 w4 h2 h4 hsd hV mv 0
  refine ⟨fun _ => ⟨3, ?_⟩, fun z => absurd h0 z⟩
  refine ⟨fun z => absurd z (by decide), fun _ => ⟨fun z => absurd rfl z, fun _ => ⟨mv.length + 1, ?_⟩⟩⟩
  refine list25 w2 w4 h2 h4 hV hl ro ri h6 hM 0 (by decide) mv.length 0 0 σ (by omega) hP hB (by simp only [List.drop_zero, if_true]; omega) ?_
  simp only [List.drop_zero, if_true, Nat.zero_add]
  refine ⟨fun z => absurd z (by decide), fun _ => ⟨fun q => ?_, fun q => ?_⟩⟩
  · have hne : mlP w h P (sd dn) 1 mv 0 ≠ [] := fun z => q (by rw [z]; rfl)
    unfold ML at hQ
    rw [if_neg hne] at hQ
    exact hQ
  · have hnil : mlP w h P (sd dn) 1 mv 0 = [] := by
      have := (nI_eq (a := (mlP w h P (sd dn) 1 mv 0).length) (b := 0) (by omega) (by decide)).mp q
      exact List.length_eq_zero_iff.mp this
    rw [hnil]
    unfold ML at hQ
    rw [if_pos hnil] at hQ
    refine ⟨mv.length + 1, ?_⟩
    refine list25 w2 w4 h2 h4 hV hl ro ri h6 hM 1 (by decide) mv.length 0 0 σ (by omega) hP hB (by simp only [List.drop_zero, show ¬ ((1 : Nat) = 0) by decide, if_false]; omega) ?_
    simp only [List.drop_zero, show ¬ ((1 : Nat) = 0) by decide, if_false, Nat.zero_add]
    exact ⟨fun _ => hQ, fun z => absurd (by decide) z⟩
