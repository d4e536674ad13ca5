/-- the class's direction of the reference's way -/
def piD (y : Nat) : Nat := [1, 4, 6, 3, 2, 7, 5, 0].getD y 0
def eastF (y : Nat) : Int32 := rightF (piD y)
def southF (y : Nat) : Int32 := downF (piD y)
/-- the reference looks at its game g, which is G -/
def MB (σ : GSt) (g : Nat) (G : GM) : Prop := (g < 9 ∧ σ 237 22 = nI g) ∧ (σ 242 g = nI (gW G) ∧ σ 243 g = nI (gH G)) ∧ (σ 248 g = nI (gMv G).length ∧ σ 253 g = nI (gEn G).length) ∧ (∀ j e, (gMv G)[j]? = some e → MvM σ (6 * g + j) e) ∧ (∀ j e, (gEn G)[j]? = some e → EnM σ (6 * g + j) e) ∧ ∀ y, y < 8 → σ 267 y = eastF y ∧ σ 268 y = southF y
theorem MB.row {σ σ' : GSt} {g : Nat} {G : GM} (h : MB σ g G) (hr : ∀ a, a < 257 ∨ a = 267 ∨ a = 268 → σ' a = σ a) : MB σ' g G := by
  unfold MB MvM EnM at *
  rw [hr 237 (by omega), hr 242 (by omega), hr 243 (by omega), hr 248 (by omega), hr 253 (by omega), hr 245 (by omega), hr 246 (by omega), hr 247 (by omega), hr 256 (by omega), hr 249 (by omega), hr 250 (by omega), hr 251 (by omega), hr 252 (by omega), hr 267 (by omega), hr 268 (by omega)]
  exact h
theorem MB.vp {σ : GSt} {g : Nat} {G : GM} (h : MB σ g G) : vp_in (σ 237 22) 9 := by
  rw [h.1.2]
  exact vp_in_nI h.1.1 (by decide)
theorem MB.gi {σ : GSt} {g : Nat} {G : GM} (h : MB σ g G) : (σ 237 22).toNatClampNeg = g := by
  rw [h.1.2, nI_clamp (by have := h.1.1; omega)]
def CL (σ : GSt) (dd : Nat) (P : Nat → Nat) : Prop := ∀ c, c < 16 → σ 257 (16 * dd + c) = nI (P c)
def loc (w h : Nat) (x y : Int32) : Option Nat := if (0 ≤ x ∧ x ≤ nI w - 1) ∧ (0 ≤ y ∧ y ≤ nI h - 1) then some (nI w * y + x).toNatClampNeg else none
def cA (P : Nat → Nat) : Option Nat → Int32
  | none => -1
  | some c => nI (P c)
theorem cells_ok {σ : GSt} {g : Nat} {G : GM} {Q : Int32 → GSt → Prop} (h : MB σ g G) (hQ : Q (nI (gW G * gH G)) σ) : D_X11_cells σ Q := by
  unfold D_X11_cells D_X11_cells_0
  rw [h.gi, h.2.1.1, h.2.1.2, pk_mul]
  exact ⟨h.vp, h.vp, hQ⟩
theorem cellAt_ok {σ : GSt} {g dd : Nat} {G : GM} {P : Nat → Nat} {x y : Int32} {Q : Int32 → GSt → Prop} (hG : GOK G) (h : MB σ g G) (d9 : dd < 9) (hC : CL σ dd P) (hQ : Q (cA P (loc (gW G) (gH G) x y)) σ) : D_X11_cellAt (nI dd) x y σ Q := by
  obtain ⟨⟨w2, w4, h2, h4⟩, -⟩ := hG
  have h16 : gW G * gH G ≤ 16 := Nat.mul_le_mul w4 h4
  unfold D_X11_cellAt D_X11_cellAt_0
  rw [h.gi, h.2.1.1]
  refine ⟨h.vp, isIn_ok (lo := 0) rfl rfl (fun x0 x1 => ⟨fun z => absurd z (by decide), fun _ => ?_⟩) (fun nx => ⟨fun _ => ?_, fun z => absurd rfl z⟩)⟩
  · rw [h.gi, h.2.1.2]
    refine ⟨h.vp, isIn_ok (lo := 0) rfl rfl (fun y0 y1 => ⟨fun z => absurd z (by decide), fun _ => ?_⟩) (fun ny => ⟨fun _ => ?_, fun z => absurd rfl z⟩)⟩
    · rw [h.gi, h.2.1.1]
      have eo : loc (gW G) (gH G) x y = some (nI (gW G) * y + x).toNatClampNeg := if_pos ⟨⟨x0, x1⟩, ⟨y0, y1⟩⟩
      rw [eo] at hQ
      rw [show nI (gW G) - 1 = nI (gW G - 1) from pk_sub (b := 1) (by omega)] at x1
      rw [show nI (gH G) - 1 = nI (gH G - 1) from pk_sub (b := 1) (by omega)] at y1
      obtain ⟨a, ha, rfl⟩ := i32_of (by omega) x0 x1
      obtain ⟨b, hb, rfl⟩ := i32_of (by omega) y0 y1
      have hlt : gW G * b + a < gW G * gH G := by
        have : gW G * b + gW G ≤ gW G * gH G := by
          rw [← Nat.mul_succ]
          exact Nat.mul_le_mul_left _ (by omega)
        omega
      have e1 : nI (gW G) * nI b + nI a = nI (gW G * b + a) := nlin _ _ _
      have e2 : (16 : Int32) * nI dd + nI (gW G) * nI b + nI a = nI (16 * dd + (gW G * b + a)) := by
        rw [show (16 : Int32) = nI 16 from rfl, pk_mul, pk_mul, nI_add, nI_add, Nat.add_assoc]
      rw [e1, nI_clamp (by omega)] at hQ
      rw [e2, nI_clamp (show 16 * dd + (gW G * b + a) < 2 ^ 31 by omega), hC _ (by omega)]
      exact ⟨h.vp, vp_in_nI (by omega) (by decide), hQ⟩
    · have eo : loc (gW G) (gH G) x y = none := if_neg (fun z => ny z.2)
      rw [eo] at hQ
      exact hQ
  · have eo : loc (gW G) (gH G) x y = none := if_neg (fun z => nx z.1)
    rw [eo] at hQ
    exact hQ
/-- one step, two steps by coordinates -/
def stX (w c y : Nat) : Int32 := jrem (nI c) (nI w) + eastF y
def stY (w c y : Nat) : Int32 := nI c / nI w + southF y
theorem loc_all : ((List.range 5).all fun w => (List.range 5).all fun h => (List.range 16).all fun c => (List.range 8).all fun y => !(decide (2 ≤ w) && decide (2 ≤ h) && decide (c < w * h)) || (loc w h (stX w c y) (stY w c y) == nbO w h c (piD y) && (match nbO w h c (piD y) with | none => true | some x => nI w * stY w c y + stX w c y == nI x && loc w h (stX w c y + eastF y) (stY w c y + southF y) == nbO w h x (piD y) && (match nbO w h x (piD y) with | none => true | some z => (nI w * stY w c y + stX w c y) + nI w * southF y + eastF y == nI z)))) = true := by decide +kernel
theorem loc_ok {w h c y : Nat} (w2 : 2 ≤ w) (w4 : w ≤ 4) (h2 : 2 ≤ h) (h4 : h ≤ 4) (hc : c < w * h) (hy : y < 8) : loc w h (stX w c y) (stY w c y) = nbO w h c (piD y) ∧ ∀ x, nbO w h c (piD y) = some x → nI w * stY w c y + stX w c y = nI x ∧ loc w h (stX w c y + eastF y) (stY w c y + southF y) = nbO w h x (piD y) ∧ ∀ z, nbO w h x (piD y) = some z → (nI w * stY w c y + stX w c y) + nI w * southF y + eastF y = nI z := by
  have h16 : w * h ≤ 16 := Nat.mul_le_mul w4 h4
  have q := List.all_eq_true.mp (List.all_eq_true.mp (List.all_eq_true.mp (List.all_eq_true.mp loc_all w (List.mem_range.mpr (by omega))) h (List.mem_range.mpr (by omega))) c (List.mem_range.mpr (by omega))) y (List.mem_range.mpr hy)
  simp only [w2, h2, hc, decide_true, Bool.and_self, Bool.not_true, Bool.false_or, Bool.and_eq_true, beq_iff_eq] at q
  refine ⟨q.1, fun x hx => ?_⟩
  have q2 := q.2
  rw [hx] at q2
  simp only [Bool.and_eq_true, beq_iff_eq] at q2
  refine ⟨q2.1.1, q2.1.2, fun z hz => ?_⟩
  have q3 := q2.2
  rw [hz] at q3
  simp only [beq_iff_eq] at q3
  exact q3
theorem piD_lt : ∀ y, y < 8 → piD y < 8 := by decide
/-- one move of the reference's rows -/
def R3 (σ : GSt) (x : Nat) (m : Nat × Nat × Nat) : Prop := σ 263 x = nI m.1 ∧ σ 264 x = nI m.2.1 ∧ σ 265 x = nI m.2.2
def MLs (σ : GSt) (dd : Nat) (l : List (Nat × Nat × Nat)) : Prop := σ 266 dd = nI l.length ∧ ∀ j m, l[j]? = some m → R3 σ (800 * dd + j) m
/-- what changes of the rows at level dd -/
def FM (dd : Nat) (σ σ' : GSt) : Prop := (∀ a, a < 263 ∨ 266 < a → σ' a = σ a) ∧ (∀ a j, a < 266 → (j < 800 * dd ∨ 800 * dd + 800 ≤ j) → σ' a j = σ a j) ∧ ∀ j, j ≠ dd → σ' 266 j = σ 266 j
theorem FM.rf {dd : Nat} {σ : GSt} : FM dd σ σ := ⟨fun _ _ => rfl, fun _ _ _ _ => rfl, fun _ _ => rfl⟩
theorem FM.trans {dd : Nat} {σ σ' σ'' : GSt} (h : FM dd σ σ') (h2 : FM dd σ' σ'') : FM dd σ σ'' := ⟨fun a p => (h2.1 a p).trans (h.1 a p), fun a j p q => (h2.2.1 a j p q).trans (h.2.1 a j p q), fun j p => (h2.2.2 j p).trans (h.2.2 j p)⟩
theorem FM.put {dd : Nat} {σ σ' : GSt} {a j : Nat} {v : Int32} (h : FM dd σ σ') (ha : 263 ≤ a ∧ a ≤ 265) (hj : 800 * dd ≤ j ∧ j < 800 * dd + 800) : FM dd σ (up2 σ' a j v) := ⟨fun b p => (up2_ne (by omega)).trans (h.1 b p), fun b i p q => by rw [up2_app, if_neg (by omega)]; exact h.2.1 b i p q, fun i p => by rw [up2_ne (by omega)]; exact h.2.2 i p⟩
theorem FM.count {dd : Nat} {σ σ' : GSt} {v : Int32} (h : FM dd σ σ') : FM dd σ (up2 σ' 266 dd v) := ⟨fun b p => (up2_ne (by omega)).trans (h.1 b p), fun b i p q => by rw [up2_ne (by omega)]; exact h.2.1 b i p q, fun i p => by rw [up2_app, if_neg (by omega)]; exact h.2.2 i p⟩
theorem R3.put {σ : GSt} {x y : Nat} {m n : Nat × Nat × Nat} (h : R3 σ x m) (hxy : x ≠ y) {a : Nat} {v : Int32} : R3 (up2 σ a y v) x m := by
  unfold R3 at *
  simp only [up2_app, hxy, and_false, if_false]
  exact h
theorem tells_ok {σ : GSt} {dd k f t : Nat} {A : List (Nat × Nat × Nat)} {B : List Nat} {Q : GSt → Prop} (d9 : dd < 9) (hk : k < 100) (hf : f < 200) (ht : t < 100) (hl : A.length + B.length < 800) (hA : ∀ m ∈ A, (m.1 < 100 ∧ m.2.1 < 200 ∧ m.2.2 < 100) ∧ ¬ (m.1 = k ∧ m.2.1 = f ∧ t < m.2.2)) (hB : ∀ x ∈ B, t < x ∧ x < 100) (hL : MLs σ dd (A ++ B.map fun x => (k, f, x))) (hQ : ∀ σ' : GSt, MLs σ' dd (A ++ (k, f, t) :: B.map fun x => (k, f, x)) → FM dd σ σ' → Q σ') : D_X11_tells (nI dd) (nI k) (nI f) (nI t) σ Q := by
  unfold D_X11_tells D_X11_tells_0
  rw [nI_clamp (show dd < 2 ^ 31 by omega), hL.1, show (800 : Int32) * nI dd + nI (A ++ B.map fun x => (k, f, x)).length = nI (800 * dd + (A ++ B.map fun x => (k, f, x)).length) from nlin 800 dd _]
  refine ⟨vp_in_nI d9 (by decide), fun x5 e5 => ⟨B.length + 1, ?_⟩⟩
  rw [List.length_append, List.length_map] at e5
  subst e5
  have e800 : (800 : Int32) * nI dd = nI (800 * dd) := pk_mul 800 dd
  have key : ∀ (i : Nat) (τ : GSt), i ≤ B.length → FM dd σ τ → (∀ j m, A[j]? = some m → R3 τ (800 * dd + j) m) → (∀ j x, j < i → B[j]? = some x → R3 τ (800 * dd + A.length + j) (k, f, x)) → (∀ j x, i ≤ j → B[j]? = some x → R3 τ (800 * dd + A.length + j + 1) (k, f, x)) → τ 266 dd = nI (A.length + B.length) → L_X11_tells_18 Q (i + 1) (nI dd) (nI k) (nI f) (nI t) (nI (800 * dd + (A.length + i))) τ := by
    intro i
    induction i with
    | zero =>
      intro τ hi hF hRA hRB hRC h6
      have fin : D_X11_tells_122 Q (nI dd) (nI k) (nI f) (nI t) (nI (800 * dd + (A.length + 0))) τ := by
        unfold D_X11_tells_122
        rw [nI_clamp (show 800 * dd + (A.length + 0) < 2 ^ 31 by omega), nI_clamp (show dd < 2 ^ 31 by omega), Nat.add_zero]
        have vp : vp_in (nI (800 * dd + A.length)) 7200 := vp_in_nI (by omega) (by decide)
        refine ⟨vp, fun s1 e1 => ⟨vp, fun s2 e2 => ⟨vp, fun s3 e3 => ⟨vp_in_nI d9 (by decide), vp_in_nI d9 (by decide), fun s4 e4 => ?_⟩⟩⟩⟩
        have v6 : s3 266 dd = nI (A.length + B.length) := by rw [e3, e2, e1, up2_ne (by decide), up2_ne (by decide), up2_ne (by decide)]; exact h6
        rw [v6, nI_1] at e4
        have keep : ∀ x m, x ≠ 800 * dd + A.length → R3 τ x m → R3 s4 x m := by
          intro x m hx hr
          rw [e4, e3, e2, e1]
          have : R3 (up2 (up2 (up2 τ 263 (800 * dd + A.length) (nI k)) 264 (800 * dd + A.length) (nI f)) 265 (800 * dd + A.length) (nI t)) x m := ((hr.put (n := m) hx).put (n := m) hx).put (n := m) hx
          unfold R3 at *
          rw [up2_ne (by decide), up2_ne (by decide), up2_ne (by decide)]
          exact this
        refine hQ s4 ⟨?_, fun j m hm => ?_⟩ ?_
        · rw [e4, List.length_append, List.length_cons, List.length_map]
          simp [up2_app]
          congr 1
        · rcases Nat.lt_trichotomy j A.length with q | q | q
          · rw [List.getElem?_append_left q] at hm
            exact keep _ _ (by omega) (hRA j m hm)
          · subst q
            rw [List.getElem?_append_right (Nat.le_refl _), Nat.sub_self] at hm
            have : (k, f, t) = m := by simpa using hm
            rw [← this, e4, e3, e2, e1]
            unfold R3
            simp [up2_app]
          · rw [List.getElem?_append_right (by omega), show j - A.length = (j - A.length - 1) + 1 by omega, List.getElem?_cons_succ, List.getElem?_map] at hm
            cases hx : B[j - A.length - 1]? with
            | none => rw [hx] at hm; simp at hm
            | some x =>
              rw [hx] at hm
              have : (k, f, x) = m := by simpa using hm
              rw [← this]
              have := hRC (j - A.length - 1) x (by omega) hx
              rw [show 800 * dd + A.length + (j - A.length - 1) + 1 = 800 * dd + j by omega] at this
              exact keep _ _ (by omega) this
        · rw [e4, e3, e2, e1]
          exact (((hF.put (by decide) (by omega)).put (by decide) (by omega)).put (by decide) (by omega)).count
      unfold L_X11_tells_18 D_X11_tells_18
      rw [e800]
      refine pk_le (800 * dd + (A.length + 0)) (800 * dd) (fun _ => fin) (fun q => ?_)
      have hpos : 0 < A.length := by omega
      rw [show nI (800 * dd + (A.length + 0)) - 1 = nI (800 * dd + (A.length - 1)) by rw [show (1 : Int32) = nI 1 from rfl, pk_sub (by omega)]; congr 1; omega, nI_clamp (show 800 * dd + (A.length - 1) < 2 ^ 31 by omega)]
      obtain ⟨m, hm⟩ : ∃ m, A[A.length - 1]? = some m := ⟨_, List.getElem?_eq_getElem (by omega)⟩
      obtain ⟨r1, r2, r3⟩ := hRA _ m hm
      obtain ⟨⟨b1, b2, b3⟩, hblk⟩ := hA m (List.mem_of_getElem? hm)
      rw [r1, r2, r3]
      have vp : vp_in (nI (800 * dd + (A.length - 1))) 7200 := vp_in_nI (by omega) (by decide)
      refine ⟨vp, fun _ => fin, fun y1 => ⟨vp, fun _ => fin, fun y2 => ⟨vp, fun _ => fin, fun y3 => ?_⟩⟩⟩
      exfalso
      have z1 := (nI_eq (by omega) (by omega)).mp y1
      have z2 := (nI_eq (by omega) (by omega)).mp y2
      exact hblk ⟨z1, z2, by
        rcases Nat.lt_or_ge t m.2.2 with z | z
        · exact z
        · exact absurd (nI_le z (by omega)) y3⟩
    | succ i ih =>
      intro τ hi hF hRA hRB hRC h6
      obtain ⟨x, hx⟩ : ∃ x, B[i]? = some x := ⟨_, List.getElem?_eq_getElem (by omega)⟩
      obtain ⟨bx, bx2⟩ := hB x (List.mem_of_getElem? hx)
      obtain ⟨r1, r2, r3⟩ := hRB i x (by omega) hx
      unfold L_X11_tells_18 D_X11_tells_18
      rw [e800, show nI (800 * dd + (A.length + (i + 1))) - 1 = nI (800 * dd + A.length + i) by rw [show (1 : Int32) = nI 1 from rfl, pk_sub (by omega)]; congr 1; omega, nI_clamp (show 800 * dd + A.length + i < 2 ^ 31 by omega), nI_clamp (show 800 * dd + (A.length + (i + 1)) < 2 ^ 31 by omega), r1, r2, r3]
      have vp : vp_in (nI (800 * dd + A.length + i)) 7200 := vp_in_nI (by omega) (by decide)
      have vp1 : vp_in (nI (800 * dd + (A.length + (i + 1)))) 7200 := vp_in_nI (by omega) (by decide)
      refine ⟨fun z => absurd z (nI_ge (by omega) (by omega)), fun _ => ⟨vp, fun z => absurd rfl z, fun _ => ⟨vp, fun z => absurd rfl z, fun _ => ⟨vp, fun z => absurd z (nI_ge (a := t) (b := x) bx (by omega)), fun _ => ⟨vp, vp1, fun s1 e1 => ⟨vp, vp1, fun s2 e2 => ⟨vp, vp1, fun s3 e3 x6 e6 => ?_⟩⟩⟩⟩⟩⟩⟩
      have w1 : s1 264 (800 * dd + A.length + i) = nI f := by rw [e1, up2_ne (by decide)]; exact r2
      rw [w1] at e2
      have w2 : s2 265 (800 * dd + A.length + i) = nI x := by rw [e2, up2_ne (by decide), e1, up2_ne (by decide)]; exact r3
      rw [w2] at e3
      have keep : ∀ y m, y ≠ 800 * dd + (A.length + (i + 1)) → R3 τ y m → R3 s3 y m := by
        intro y m hy hr
        rw [e3, e2, e1]
        exact ((hr.put (n := m) hy).put (n := m) hy).put (n := m) hy
      rw [e6, show nI (800 * dd + (A.length + (i + 1))) + (-1) = nI (800 * dd + (A.length + i)) by rw [show 800 * dd + (A.length + (i + 1)) = (800 * dd + (A.length + i)) + 1 by omega]; exact pk_m1 _]
      refine ih s3 (by omega) ?_ (fun j m hm => keep _ _ ?_ (hRA j m hm)) (fun j y hj hy => keep _ _ (by omega) (hRB j y (by omega) hy)) (fun j y hj hy => ?_) ?_
      · rw [e3, e2, e1]
        exact ((hF.put (by decide) (by omega)).put (by decide) (by omega)).put (by decide) (by omega)
      · have := (List.getElem?_eq_some_iff.mp hm).1
        omega
      · rcases Nat.lt_or_ge i j with q | q
        · exact keep _ _ (by omega) (hRC j y (by omega) hy)
        · have : j = i := by omega
          subst this
          rw [hx] at hy
          have : x = y := Option.some.inj hy
          subst this
          rw [show 800 * dd + A.length + j + 1 = 800 * dd + (A.length + (j + 1)) by omega, e3, e2, e1]
          unfold R3
          simp [up2_app]
      · rw [e3, e2, e1, up2_ne (by decide), up2_ne (by decide), up2_ne (by decide)]
        exact h6
  refine key B.length σ (Nat.le_refl _) FM.rf (fun j m hm => hL.2 j m ?_) (fun j x hj hx => ?_) (fun j x hj hx => ?_) (by rw [hL.1, List.length_append, List.length_map])
  · rw [List.getElem?_append_left (List.getElem?_eq_some_iff.mp hm).1]
    exact hm
  · rw [Nat.add_assoc]
    refine hL.2 _ _ ?_
    rw [List.getElem?_append_right (by omega), Nat.add_sub_cancel_left, List.getElem?_map, hx]
    rfl
  · have := (List.getElem?_eq_some_iff.mp hx).1
    omega
