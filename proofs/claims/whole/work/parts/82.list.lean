/-- a move as the class holds it -/
def enc (m : Nat × Nat × Nat) : Int32 := (jshl (nI m.1) 16 ||| jshl (nI m.2.1) 8) ||| nI m.2.2
theorem addEach_ok {r b : Nat} {mv : Int32} {f : Nat → Bool} {σ : GSt} {Q : Int32 → GSt → Prop} (hl : ln r = 256) (hb : b + (fl f 16 0).length ≤ 256) (hQ : Q (nI (b + (fl f 16 0).length)) (wr r σ b ((fl f 16 0).map fun t => mv ||| nI t))) : D_X5_addEach mv (mask f) r (nI b) σ Q := by
  refine ⟨17, ?_⟩
  have key : ∀ (d c b : Nat) (σ : GSt), c + d = 16 → b + (fl f d c).length ≤ 256 → Q (nI (b + (fl f d c).length)) (wr r σ b ((fl f d c).map fun t => mv ||| nI t)) → L_X5_addEach_6 Q (d + 1) mv (mask f) r (nI b) (nI c) σ := by
    intro d
    induction d with
    | zero =>
      intro c b σ hc hb hQ
      refine ⟨fun _ => hQ, fun _ => ⟨fun _ => hQ, fun z => absurd ?_ z⟩⟩
      rw [show c = 16 by omega]
      decide
    | succ d ih =>
      intro c b σ hc hb hQ
      refine ⟨fun z => ?_, fun _ => ⟨fun z => absurd z (nI_ge (b := 16) (by omega) (by decide)), fun _ => ?_⟩⟩
      · have e := (ush_0 (by omega)).mp z
        have en : fl f (d + 1) c = [] := fl_nil _ _ (fun j h1 h2 => by
          have := e j h1
          rw [bt_mask (by omega), decide_eq_true (show j < 16 by omega), Bool.true_and] at this
          exact this)
        rw [en] at hQ
        exact hQ
      · rw [ush_and1_0 (by omega), bt_mask (by omega), decide_eq_true (show c < 16 by omega), Bool.true_and]
        have nxt : ∀ (b : Nat) (σ : GSt), b + (fl f d (c + 1)).length ≤ 256 → Q (nI (b + (fl f d (c + 1)).length)) (wr r σ b ((fl f d (c + 1)).map fun t => mv ||| nI t)) → D_X5_addEach_47 (L_X5_addEach_6 Q (d + 1)) Q mv (mask f) r (nI b) (nI c) σ := by
          intro b σ hb hQ x ex
          subst ex
          rw [nI_1 c]
          exact ih (c + 1) b σ (by omega) hb hQ
        refine ⟨fun q => ?_, fun q => ⟨fun z => ?_, fun _ => ⟨?_, fun s es x ex => ?_⟩⟩⟩
        · rw [fl_s, q] at hQ hb
          exact nxt b σ hb hQ
        · rw [Bool.not_eq_false] at q
          rw [fl_s, if_pos q, List.length_cons] at hb
          rw [hl] at z
          exact absurd z (nI_ge (by omega) (by omega))
        · rw [Bool.not_eq_false] at q
          rw [fl_s, if_pos q, List.length_cons] at hb
          rw [hl]
          exact vp_in_nI (by omega) (by decide)
        · rw [Bool.not_eq_false] at q
          rw [fl_s, if_pos q, List.length_cons] at hb hQ
          subst ex
          rw [nI_clamp (by omega)] at es
          rw [nI_1 b, es]
          refine nxt (b + 1) _ (by omega) ?_
          rw [show b + 1 + (fl f d (c + 1)).length = b + ((fl f d (c + 1)).length + 1) by omega]
          exact hQ
  exact key 16 0 b σ rfl hb hQ
def flm {α : Type} (f : Nat → Bool) (g : Nat → List α) : Nat → Nat → List α
  | 0, _ => []
  | d + 1, c => (if f c then g c else []) ++ flm f g d (c + 1)
theorem flm_nil {α : Type} {f : Nat → Bool} {g : Nat → List α} : ∀ d c, (∀ j, c ≤ j → j < c + d → f j = false) → flm f g d c = []
  | 0, _, _ => rfl
  | d + 1, c, h => by
    unfold flm
    rw [h c (Nat.le_refl _) (by omega), flm_nil d (c + 1) (fun j h1 h2 => h j (by omega) (by omega))]
    rfl
theorem flm_s {α : Type} {f : Nat → Bool} {g : Nat → List α} (d c : Nat) : flm f g (d + 1) c = (if f c then g c else []) ++ flm f g d (c + 1) := rfl
/-- the moves of one MOVE (its number k, kind, number) of side s -/
def mvs1 (w h : Nat) (P : Nat → Nat) (s k : Nat) (kind num : Int32) : List (Nat × Nat × Nat) :=
  if kind = 0 then (if num = 0 ∨ nI (cntF (pc P s) 16 0) < num then (fl (fun c => decide (c < w * h) && !(pc P 1 c || pc P 2 c)) 16 0).map (fun t => (k, 99, t)) else [])
  else flm (pc P s) (fun c => (fl (tgB w h P s kind num c 8) 16 0).map (fun t => (k, c, t))) 16 0
/-- the numbers that a MOVE can have -/
def RuOK (kind num : Int32) : Prop := (kind = 0 ∧ ∃ m : Nat, m ≤ 9 ∧ num = nI m) ∨ ((kind = 1 ∨ kind = 2 ∨ kind = 3 ∨ kind = 4) ∧ ∃ m : Nat, (m = 1 ∨ m = 2 ∨ m = 3) ∧ num = nI m)
theorem sh99 : jshl (nI 99) 8 = 25344 := by decide
theorem wr_keep {r o w h i : Nat} {P : Nat → Nat} {dn : Nat} {σ : GSt} {b : Nat} {l : List Int32} (ro : o ≠ r) (ri : r < i ∨ i + 22 ≤ r) (hP : CP σ o i P dn) (hB : BoardOK σ (i + 3) w h) : CP (wr r σ b l) o i P dn ∧ BoardOK (wr r σ b l) (i + 3) w h ∧ ∀ a, i ≤ a → a < i + 22 → wr r σ b l a = σ a :=
  ⟨hP.row (wr_row ro l σ b), hB.row (fun a h1 h2 => wr_row (by omega) l σ b), fun a h1 h2 => wr_row (by omega) l σ b⟩
theorem addMoves_loop {w h o i r k ru num : Nat} {P : Nat → Nat} {dn : Nat} {kind : Int32} {Q : Int32 → GSt → Prop} (w2 : 2 ≤ w) (w4 : w ≤ 4) (h2 : 2 ≤ h) (h4 : h ≤ 4) (hV : VP w h P) (hl : ln r = 256) (ro : o ≠ r) (ri : r < i ∨ i + 22 ≤ r) (ru1 : i ≤ ru) (ru2 : ru < i + 22) (hn : num = 1 ∨ num = 2 ∨ num = 3) : ∀ (d c b : Nat) (σ : GSt), c + d = 16 → CP σ o i P dn → BoardOK σ (i + 3) w h → σ ru 0 = kind → σ ru 1 = nI num → b + (flm (pc P (sd dn)) (fun c => (fl (tgB w h P (sd dn) kind (nI num) c 8) 16 0).map (fun t => (k, c, t))) d c).length ≤ 256 → Q (nI (b + (flm (pc P (sd dn)) (fun c => (fl (tgB w h P (sd dn) kind (nI num) c 8) 16 0).map (fun t => (k, c, t))) d c).length)) (wr r σ b ((flm (pc P (sd dn)) (fun c => (fl (tgB w h P (sd dn) kind (nI num) c 8) 16 0).map (fun t => (k, c, t))) d c).map enc)) → L_X5_addMoves_126 Q o (d + 1) (nI k) r ru (nI b) (mask (pc P (sd dn))) (nI c) σ := by
  have h16 : w * h ≤ 16 := Nat.mul_le_mul w4 h4
  intro d
  induction d with
  | zero =>
    intro c b σ hc hP hB hk hr hb hQ
    refine ⟨fun _ => hQ, fun _ => ⟨fun _ => hQ, fun z => absurd ?_ z⟩⟩
    rw [show c = 16 by omega]
    decide
  | succ d ih =>
    intro c b σ hc hP hB hk hr hb hQ
    refine ⟨fun z => ?_, fun _ => ⟨fun z => absurd z (nI_ge (b := 16) (by omega) (by decide)), fun _ => ?_⟩⟩
    · have e := (ush_0 (by omega)).mp z
      rw [flm_nil (d + 1) c (fun j h1 h2 => by
        have := e j h1
        rw [bt_mask (by omega), decide_eq_true (show j < 16 by omega), Bool.true_and] at this
        exact this)] at hQ
      exact hQ
    · rw [ush_and1_0 (by omega), bt_pc (by omega)]
      refine ⟨fun q => ?_, fun q => ?_⟩
      · rw [flm_s, show pc P (sd dn) c = false from q] at hQ hb
        intro x ex
        subst ex
        rw [nI_1 c]
        exact ih (c + 1) b σ (by omega) hP hB hk hr hb hQ
      · rw [Bool.not_eq_false] at q
        rw [flm_s, if_pos (show pc P (sd dn) c = true from q), List.length_append, List.length_map] at hQ hb
        have hpc : P c = sd dn := of_decide_eq_true q
        have hcl : c < w * h := by
          rcases Nat.lt_or_ge c (w * h) with z | z
          · exact z
          · have := (hV c).2 z
            unfold sd at hpc
            omega
        refine targets_ok w2 w4 h2 h4 hcl hV hP hB hk hr hn ?_
        refine addEach_ok hl (by omega) ?_
        intro x ex
        subst ex
        rw [nI_1 c]
        obtain ⟨hP', hB', hfr⟩ := wr_keep (b := b) (l := (fl (tgB w h P (sd dn) kind (nI num) c 8) 16 0).map fun t => (jshl (nI k) 16 ||| jshl (nI c) 8) ||| nI t) ro ri hP hB
        refine ih (c + 1) _ _ (by omega) hP' hB' (by rw [hfr ru ru1 ru2]; exact hk) (by rw [hfr ru ru1 ru2]; exact hr) (by omega) ?_
        rw [List.map_append, wr_app, List.map_map, List.length_map, ← Nat.add_assoc] at hQ
        exact hQ
theorem addMoves_ok {w h o i r k b : Nat} {P : Nat → Nat} {dn : Nat} {kind num : Int32} {σ : GSt} {Q : Int32 → GSt → Prop} (w2 : 2 ≤ w) (w4 : w ≤ 4) (h2 : 2 ≤ h) (h4 : h ≤ 4) (hV : VP w h P) (hl : ln r = 256) (ro : o ≠ r) (ri : r < i ∨ i + 22 ≤ r) (hk6 : k < 6) (hP : CP σ o i P dn) (hB : BoardOK σ (i + 3) w h) (hk : σ (i + 10 + 2 * k) 0 = kind) (hr : σ (i + 10 + 2 * k) 1 = num) (hR : RuOK kind num) (hb : b + (mvs1 w h P (sd dn) k kind num).length ≤ 256) (hQ : Q (nI (b + (mvs1 w h P (sd dn) k kind num).length)) (wr r σ b ((mvs1 w h P (sd dn) k kind num).map enc))) : D_X5_addMoves o (nI k) r (nI b) σ Q := by
  unfold D_X5_addMoves D_X5_addMoves_0
  rw [hP.ref.2, nI_clamp (show k < 2 ^ 31 by omega), hP.odd, hP.2.2.1, hP.2.2.2.1, show i + 8 + 2 + 2 * k = i + 10 + 2 * k by omega]
  refine ⟨⟨hP.ref.1.1, hP.1⟩, vp_in_nI hk6 (by decide), ?_⟩
  have body : D_X5_addMoves_34 Q o (nI k) r (i + 10 + 2 * k) (nI b) (mask (pc P (sd dn))) σ := by
    unfold D_X5_addMoves_34
    rw [hk, hr]
    have put : kind = 0 → ∀ (s0 : Int32), (s0 = 0 → ¬ (num = 0 ∨ nI (cntF (pc P (sd dn)) 16 0) < num)) → (s0 ≠ 0 → num = 0 ∨ nI (cntF (pc P (sd dn)) 16 0) < num) → D_X5_addMoves_70 Q o (nI k) r (nI b) s0 σ := by
      intro k0 s0 h0 h1
      unfold D_X5_addMoves_70
      rw [hP.ref.2, hP.2.2.1, hP.2.2.2.1, hB.2.1.1, (edges_ok w2 w4 h2 h4).1, mask_or, mask_andn]
      refine ⟨⟨hP.ref.1.1, hP.1⟩, fun x8 e8 => ⟨fun z => ?_, fun z => ?_⟩⟩
      · unfold mvs1 at hQ
        rw [if_pos k0, if_neg (h0 z)] at hQ
        exact hQ
      · subst e8
        unfold mvs1 at hQ hb
        rw [if_pos k0, if_pos (h1 z), List.length_map] at hQ hb
        refine addEach_ok hl hb ?_
        rw [List.map_map] at hQ
        rw [← sh99]
        exact hQ
    refine ⟨fun k0 => ?_, fun k0 => ⟨fun n0 => put k0 1 (fun z => absurd z (by decide)) (fun _ => Or.inl n0), fun n0 => ?_⟩⟩
    · rcases hR with ⟨z, -⟩ | ⟨-, m, hm, em⟩
      · exact absurd z k0
      · refine ⟨17, ?_⟩
        unfold mvs1 at hQ hb
        rw [if_neg k0, em] at hQ hb
        exact addMoves_loop w2 w4 h2 h4 hV hl ro ri (by omega) (by omega) hm 16 0 b σ rfl hP hB hk (by rw [hr, em]) hb hQ
    · refine bitCount_ok ?_
      rw [hr]
      refine ⟨fun z => put k0 0 (fun _ q => ?_) (fun q => absurd rfl q), fun z => put k0 1 (fun q => absurd q (by decide)) (fun _ => Or.inr (i32_nle z))⟩
      rcases q with q | q
      · exact n0 q
      · exact absurd z (Int32.not_le.mpr q)
  rcases sd_cases dn with ⟨m0, s1, -⟩ | ⟨m1, s1, -⟩
  · rw [m0]
    rw [s1] at body
    exact ⟨fun z => absurd rfl z, fun _ => body⟩
  · rw [m1]
    rw [s1] at body
    exact ⟨fun _ => body, fun z => absurd z (by decide)⟩
abbrev RuT : Type := Nat × Nat × Int32 × Int32 × Int32
/-- the moves of the MOVES that have must = mu, from the k-th on -/
def mlP (w h : Nat) (P : Nat → Nat) (s : Nat) (mu : Int32) : List RuT → Nat → List (Nat × Nat × Nat)
  | [], _ => []
  | e :: es, k => (if e.2.2.2.2 = mu then mvs1 w h P s k e.2.2.1 e.2.2.2.1 else []) ++ mlP w h P s mu es (k + 1)
/-- the moves in their order -/
def ML (w h : Nat) (mv : List RuT) (P : Nat → Nat) (s : Nat) : List (Nat × Nat × Nat) := if mlP w h P s 1 mv 0 = [] then mlP w h P s 0 mv 0 else mlP w h P s 1 mv 0
/-- whether there is one -/
def hmL (w h : Nat) (P : Nat → Nat) (s : Nat) : List RuT → Nat → Bool
  | [], _ => false
  | e :: es, k => !(mvs1 w h P s k e.2.2.1 e.2.2.2.1).isEmpty || hmL w h P s es (k + 1)
def MusOK (l : List RuT) : Prop := ∀ e ∈ l, RuOK e.2.2.1 e.2.2.2.1 ∧ (e.2.2.2.2 = 0 ∨ e.2.2.2.2 = 1)
theorem hmL_iff {w h : Nat} {P : Nat → Nat} {s : Nat} : ∀ (l : List RuT) (k : Nat), MusOK l → (hmL w h P s l k = false ↔ mlP w h P s 1 l k = [] ∧ mlP w h P s 0 l k = [])
  | [], _, _ => by simp [hmL, mlP]
  | e :: es, k, hm => by
    have ih := hmL_iff (w := w) (h := h) (P := P) (s := s) es (k + 1) (fun x hx => hm x (List.mem_cons_of_mem _ hx))
    have he := (hm e List.mem_cons_self).2
    unfold hmL mlP
    rw [Bool.or_eq_false_iff, ih]
    rcases he with z | z
    · rw [z]
      simp only [Bool.not_eq_false', List.isEmpty_iff, show ¬ ((0 : Int32) = 1) by decide, if_false, if_true, List.nil_append, List.append_eq_nil_iff]
      constructor
      · rintro ⟨a, b, c⟩
        exact ⟨b, a, c⟩
      · rintro ⟨b, a, c⟩
        exact ⟨a, b, c⟩
    · rw [z]
      simp only [Bool.not_eq_false', List.isEmpty_iff, show ¬ ((1 : Int32) = 0) by decide, if_false, if_true, List.nil_append, List.append_eq_nil_iff]
      constructor
      · rintro ⟨a, b, c⟩
        exact ⟨⟨a, b⟩, c⟩
      · rintro ⟨⟨a, b⟩, c⟩
        exact ⟨a, b, c⟩
theorem ML_nil {w h : Nat} {P : Nat → Nat} {s : Nat} {mv : List RuT} (hm : MusOK mv) : ML w h mv P s = [] ↔ hmL w h P s mv 0 = false := by
  rw [hmL_iff mv 0 hm]
  unfold ML
  constructor
  · intro h
    split at h
    · exact ⟨by assumption, h⟩
    · exact absurd h (by assumption)
  · rintro ⟨a, b⟩
    rw [if_pos a]
    exact b
