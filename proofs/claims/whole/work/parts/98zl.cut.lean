/-- the sign at place p of L, -1 behind its end -/
theorem gc_at {L : List Int32} {p : Nat} : ch (tl L) L.length p = L.getD p (-1) := by
  unfold ch tl
  rw [List.getD_eq_getElem?_getD, List.getD_eq_getElem?_getD]
  rcases Nat.lt_or_ge p L.length with z | z
  · rw [if_pos z, List.getElem?_eq_getElem z]
    rfl
  · rw [if_neg (by omega), List.getElem?_eq_none z]
    rfl
theorem gc_r {A B : List Int32} {j : Nat} : ch (tl (A ++ B)) (A ++ B).length (A.length + j) = ch (tl B) B.length j := by
  rw [gc_at, gc_at, List.getD_eq_getElem?_getD, List.getD_eq_getElem?_getD, List.getElem?_append_right (by omega), Nat.add_sub_cancel_left]
theorem gc_l {A B : List Int32} {j : Nat} (h : j < A.length) : ch (tl (A ++ B)) (A ++ B).length j = ch (tl A) A.length j := by
  rw [gc_at, gc_at, List.getD_eq_getElem?_getD, List.getD_eq_getElem?_getD, List.getElem?_append_left h]
theorem gc_0 {a : Int32} {B : List Int32} : ch (tl (a :: B)) (a :: B).length 0 = a := by
  rw [gc_at]
  rfl
theorem gc_s {a : Int32} {B : List Int32} {j : Nat} : ch (tl (a :: B)) (a :: B).length (j + 1) = ch (tl B) B.length j := by
  rw [gc_at, gc_at]
  rfl
theorem pMv_sh {t t' : Nat → Int32} {n n' p p' q : Nat} {k m : Int32} (h0 : ch t n p = ch t' n' p') (h1 : ch t n (p + 1) = ch t' n' (p' + 1)) (h : pMv t n p = .inr (q, k, m)) : pMv t' n' p' = .inr (p' + 2, k, m) := by
  unfold pMv pKind pDir at *
  rw [h0, h1] at h
  generalize ch t' n' p' = c0 at *
  generalize ch t' n' (p' + 1) = c1 at *
  by_cases e : c0 = 112
  · rw [if_pos e] at h ⊢
    by_cases f : 0 ≤ c1 - 48 ∧ c1 - 48 ≤ 9
    · rw [if_pos f] at h ⊢
      simp only [Sum.inr.injEq, Prod.mk.injEq] at h
      rw [h.2.1, h.2.2]
    · rw [if_neg f] at h
      exact absurd h (by simp)
  · rw [if_neg e] at h ⊢
    generalize (if c0 = 115 then (1 : Int32) else if c0 = 104 then 2 else if c0 = 116 then 3 else if c0 = 117 then 4 else 0) = kk at *
    generalize (if c1 = 111 then (1 : Int32) else if c1 = 100 then 2 else if c1 = 113 then 3 else 0) = dd at *
    by_cases f : kk = 0
    · rw [if_pos f] at h
      exact absurd h (by simp)
    · rw [if_neg f] at h ⊢
      by_cases g : dd = 0
      · rw [if_pos g] at h
        exact absurd h (by simp)
      · rw [if_neg g] at h ⊢
        simp only [Sum.inr.injEq, Prod.mk.injEq] at h
        rw [h.2.1, h.2.2]
/-- the text of one MOVE -/
def MvTx (r : List Int32) : Prop := ∃ a b u, r = a :: b :: u ∧ (u = [] ∨ u = [33]) ∧ ∃ k m, pMv (tl [a, b]) 2 0 = .inr (2, k, m)
theorem pMvs_tx {L : List Int32} : ∀ (d p z : Nat) (l : List RuT), pMvs (tl L) L.length d p = .inr (z, l) → ∀ e ∈ l, MvTx (seg L e.1 e.2.1) := by
  intro d
  induction d with
  | zero => intro p z l h; simp [pMvs] at h
  | succ r ih =>
    intro p z l h
    simp only [pMvs] at h
    cases hm : pMv (tl L) L.length p with
    | inl q => rw [hm] at h; simp at h
    | inr x =>
      obtain ⟨q, kind, num⟩ := x
      obtain ⟨eq, -, pn⟩ := pMv_ok hm
      rw [hm] at h
      simp only at h
      subst eq
      have c0 : ch (tl L) L.length p = tl L p := if_pos (by omega)
      have c1 : ch (tl L) L.length (p + 1) = tl L (p + 1) := if_pos pn
      have hv : pMv (tl [tl L p, tl L (p + 1)]) 2 0 = .inr (2, kind, num) := pMv_sh (p' := 0) (Eq.trans c0 (by rfl)) (Eq.trans c1 (by rfl)) hm
      have one : ∀ q2, q2 = (if ch (tl L) L.length (p + 2) = 33 then p + 2 + 1 else p + 2) → MvTx (seg L p q2) := by
        intro q2 e2
        rw [e2]
        split
        · rename_i w
          obtain ⟨-, w2⟩ := ch_at w (by decide)
          refine ⟨tl L p, tl L (p + 1), [33], ?_, Or.inr rfl, kind, num, hv⟩
          rw [seg_first (by omega), seg_first (by omega), seg_first (by omega), seg_0, show p + 1 + 1 = p + 2 by omega, w2]
        · refine ⟨tl L p, tl L (p + 1), [], ?_, Or.inl rfl, kind, num, hv⟩
          rw [seg_first (by omega), seg_first (by omega), seg_0]
      have one2 := one _ rfl
      generalize (if ch (tl L) L.length (p + 2) = 33 then p + 2 + 1 else p + 2) = q2 at h one2
      split at h
      · simp only [Sum.inr.injEq, Prod.mk.injEq] at h
        rw [← h.2]
        intro e he
        rw [List.mem_singleton.mp he]
        exact one2
      · split at h
        · cases hz : pMvs (tl L) L.length r (q2 + 1) with
          | inl y => rw [hz] at h; simp at h
          | inr y =>
            obtain ⟨z', l'⟩ := y
            rw [hz] at h
            simp only [Sum.inr.injEq, Prod.mk.injEq] at h
            rw [← h.2]
            intro e he
            rcases List.mem_cons.mp he with he | he
            · rw [he]; exact one2
            · exact ih _ _ _ hz e he
        · exact absurd h (by simp)
/-- one MOVE in a text, c behind it -/
theorem mv1 {T A B r : List Int32} {c : Int32} {p : Nat} (hr : MvTx r) (hp : p = A.length) (hT : T = A ++ (r ++ c :: B)) (hc : c ≠ 33) : ∃ k m, pMv (tl T) T.length p = .inr (p + 2, k, m) ∧ (if ch (tl T) T.length (p + 2) = 33 then p + 2 + 1 else p + 2) = p + r.length ∧ ch (tl T) T.length (p + r.length) = c := by
  obtain ⟨a, b, u, er, hu, k, m, hv⟩ := hr
  subst er
  have g : ∀ j, ch (tl T) T.length (p + j) = ch (tl (a :: b :: (u ++ c :: B))) (a :: b :: (u ++ c :: B)).length j := fun j => by
    rw [hT, hp]
    exact gc_r
  have g0 : ch (tl T) T.length p = a := (g 0).trans gc_0
  have g1 : ch (tl T) T.length (p + 1) = b := (g 1).trans (gc_s.trans gc_0)
  have g2 := (g 2).trans (gc_s.trans gc_s)
  refine ⟨k, m, pMv_sh (t := tl [a, b]) (n := 2) (p := 0) (Eq.trans (by rfl) g0.symm) (Eq.trans (by rfl) g1.symm) hv, ?_⟩
  rcases hu with e | e
  · subst e
    have g2' : ch (tl T) T.length (p + 2) = c := g2.trans gc_0
    rw [g2', if_neg hc]
    exact ⟨rfl, g2'⟩
  · subst e
    have g2' : ch (tl T) T.length (p + 2) = 33 := g2.trans gc_0
    rw [g2', if_pos rfl]
    exact ⟨rfl, (g 3).trans (gc_s.trans (gc_s.trans (gc_s.trans gc_0)))⟩
/-- rules with commas between them -/
def jl : List (List Int32) → List Int32
  | [] => []
  | [r] => r
  | r :: r' :: l => r ++ 44 :: jl (r' :: l)
theorem jl_snoc (r : List Int32) : ∀ l : List (List Int32), jl (l ++ [r]) = jl l ++ (if l.length = 0 then [] else [44]) ++ r
  | [] => rfl
  | [a] => by
    show a ++ 44 :: r = a ++ [44] ++ r
    rw [List.append_assoc]
    rfl
  | a :: b :: l => by
    have := jl_snoc r (b :: l)
    show a ++ 44 :: jl (b :: l ++ [r]) = (a ++ 44 :: jl (b :: l)) ++ [44] ++ r
    rw [this]
    show a ++ 44 :: (jl (b :: l) ++ [44] ++ r) = _
    simp
theorem mvs_parse {B : List Int32} : ∀ (rl : List (List Int32)) (d p : Nat) (T A : List Int32), rl ≠ [] → rl.length ≤ d → (∀ r ∈ rl, MvTx r) → p = A.length → T = A ++ (jl rl ++ 59 :: B) → ∃ l, pMvs (tl T) T.length d p = .inr (p + (jl rl).length + 1, l)
  | [], _, _, _, _, h, _, _, _, _ => absurd rfl h
  | [r], 0, _, _, _, _, h, _, _, _ => absurd h (by simp)
  | [r], d + 1, p, T, A, _, _, hr, hp, hT => by
    obtain ⟨k, m, h1, h2, h3⟩ := mv1 (hr r (by simp)) hp hT (by decide)
    simp only [pMvs]
    rw [h1]
    simp only
    rw [h2, h3, if_pos rfl]
    exact ⟨_, rfl⟩
  | r :: r' :: l, 0, _, _, _, _, h, _, _, _ => absurd h (by simp)
  | r :: r' :: l, d + 1, p, T, A, _, hd, hr, hp, hT => by
    have hT2 : T = A ++ (r ++ 44 :: (jl (r' :: l) ++ 59 :: B)) := by
      rw [hT]
      show A ++ ((r ++ 44 :: jl (r' :: l)) ++ 59 :: B) = _
      simp
    obtain ⟨k, m, h1, h2, h3⟩ := mv1 (hr r (by simp)) hp hT2 (by decide)
    obtain ⟨l2, h4⟩ := mvs_parse (B := B) (r' :: l) d (p + r.length + 1) T (A ++ r ++ [44]) (by simp) (by simp only [List.length_cons] at hd ⊢; omega) (fun y hy => hr y (List.mem_cons_of_mem _ hy)) (by rw [List.length_append, List.length_append, List.length_singleton, hp]) (by rw [hT2]; simp)
    simp only [pMvs]
    rw [h1]
    simp only
    rw [h2, h3, if_neg (by decide), if_pos rfl, h4]
    simp only
    refine ⟨_, congrArg Sum.inr (Prod.ext ?_ rfl)⟩
    show p + r.length + 1 + (jl (r' :: l)).length + 1 = p + (r ++ 44 :: jl (r' :: l)).length + 1
    rw [List.length_append, List.length_cons]
    omega
