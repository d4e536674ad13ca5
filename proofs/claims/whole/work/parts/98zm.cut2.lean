theorem pEn_sh {t t' : Nat → Int32} {n n' p p' q : Nat} {k m o : Int32} (hj : ∀ j, ch t n (p + j) = ch t' n' (p' + j)) (h : pEn t n p = .inr (q, k, m, o)) : ∃ j, q = p + j ∧ pEn t' n' p' = .inr (p' + j, k, m, o) := by
  have h0 : ch t n p = ch t' n' p' := hj 0
  have h1 := hj 1
  have h2 := hj 2
  have rest2 : ∀ (i : Nat) (k0 m0 : Int32), pRest t n (p + i) k0 m0 = .inr (q, k, m, o) → ∃ j, q = p + j ∧ pRest t' n' (p' + i) k0 m0 = .inr (p' + j, k, m, o) := by
    intro i k0 m0 hr
    unfold pRest pOut at hr ⊢
    rw [hj i] at hr
    refine ⟨i + 1, ?_⟩
    generalize (if ch t' n' (p' + i) = 119 then (0 : Int32) else if ch t' n' (p' + i) = 108 then 1 else if ch t' n' (p' + i) = 100 then 2 else -1) = v at *
    by_cases w : v < 0
    · rw [if_pos w] at hr
      exact absurd hr (by simp)
    · rw [if_neg w] at hr ⊢
      simp only [Sum.inr.injEq, Prod.mk.injEq] at hr
      rw [← hr.1, hr.2.1, hr.2.2.1, hr.2.2.2]
      exact ⟨rfl, rfl⟩
  unfold pEn at h ⊢
  rw [h0, h1, h2] at h
  generalize ch t' n' p' = c0 at *
  generalize ch t' n' (p' + 1) = c1 at *
  generalize ch t' n' (p' + 2) = c2 at *
  by_cases e1 : c0 = 109
  · rw [if_pos e1] at h ⊢
    by_cases e2 : 0 ≤ c1 - 48 ∧ c1 - 48 ≤ 9
    · rw [if_pos e2] at h ⊢
      by_cases e3 : 0 ≤ c2 - 48 ∧ c2 - 48 ≤ 9
      · rw [if_pos e3] at h ⊢
        simp only [Sum.inr.injEq, Prod.mk.injEq] at h
        rw [h.2.1, h.2.2.1, h.2.2.2, ← h.1]
        exact ⟨3, rfl, rfl⟩
      · rw [if_neg e3] at h
        exact absurd h (by simp)
    · rw [if_neg e2] at h
      exact absurd h (by simp)
  · rw [if_neg e1] at h ⊢
    by_cases e2 : c0 = 114
    · rw [if_pos e2] at h ⊢
      by_cases e3 : 2 ≤ c1 - 48 ∧ c1 - 48 ≤ 4
      · rw [if_pos e3] at h ⊢
        exact rest2 2 _ _ h
      · rw [if_neg e3] at h
        exact absurd h (by simp)
    · rw [if_neg e2] at h ⊢
      by_cases e4 : c0 = 107
      · rw [if_pos e4] at h ⊢
        by_cases e3 : 1 ≤ c1 - 48 ∧ c1 - 48 ≤ 9
        · rw [if_pos e3] at h ⊢
          exact rest2 2 _ _ h
        · rw [if_neg e3] at h
          exact absurd h (by simp)
      · rw [if_neg e4] at h ⊢
        by_cases e5 : c0 = 110
        · rw [if_pos e5] at h ⊢
          exact rest2 1 _ _ h
        · rw [if_neg e5] at h ⊢
          by_cases e6 : c0 = 103
          · rw [if_pos e6] at h ⊢
            exact rest2 1 _ _ h
          · rw [if_neg e6] at h ⊢
            by_cases e7 : c0 = 121
            · rw [if_pos e7] at h ⊢
              exact rest2 1 _ _ h
            · rw [if_neg e7] at h
              exact absurd h (by simp)
theorem pEns_sh {t t' : Nat → Int32} {n n' : Nat} : ∀ (d p p' z : Nat) (l : List RuT), (∀ j, ch t n (p + j) = ch t' n' (p' + j)) → pEns t n d p = .inr (z, l) → ∃ j l', z = p + j ∧ pEns t' n' d p' = .inr (p' + j, l') := by
  intro d
  induction d with
  | zero => intro p p' z l _ h; simp [pEns] at h
  | succ r ih =>
    intro p p' z l hj h
    simp only [pEns] at h ⊢
    cases hm : pEn t n p with
    | inl q => rw [hm] at h; simp at h
    | inr x =>
      obtain ⟨q, kind, num, out⟩ := x
      obtain ⟨i, eq, h2⟩ := pEn_sh hj hm
      rw [hm] at h
      rw [h2]
      simp only at h ⊢
      subst eq
      rw [hj i] at h
      by_cases e1 : ch t' n' (p' + i) = 46
      · rw [if_pos e1] at h ⊢
        simp only [Sum.inr.injEq, Prod.mk.injEq] at h
        exact ⟨i + 1, _, h.1.symm, rfl⟩
      · rw [if_neg e1] at h ⊢
        by_cases e2 : ch t' n' (p' + i) = 44
        · rw [if_pos e2] at h ⊢
          cases hz : pEns t n r (p + i + 1) with
          | inl y => rw [hz] at h; simp at h
          | inr y =>
            obtain ⟨z', l'⟩ := y
            rw [hz] at h
            simp only [Sum.inr.injEq, Prod.mk.injEq] at h
            obtain ⟨j, l2, ez, h3⟩ := ih (p + i + 1) (p' + i + 1) z' l' (fun j => by rw [show p + i + 1 + j = p + (i + 1 + j) by omega, show p' + i + 1 + j = p' + (i + 1 + j) by omega]; exact hj _) hz
            rw [h3]
            refine ⟨i + 1 + j, _, by omega, congrArg Sum.inr (Prod.ext ?_ rfl)⟩
            show p' + i + 1 + j = p' + (i + 1 + j)
            omega
        · rw [if_neg e2] at h
          exact absurd h (by simp)
theorem pBgs_pre {t t' : Nat → Int32} {n n' : Nat} : ∀ (d c p : Nat) (a b : Int32) (z : Nat) (a' b' : Int32), pBgs t n d c p a b = .inr (z, a', b') → (∀ j, j < z → ch t n j = ch t' n' j) → p < z ∧ pBgs t' n' d c p a b = .inr (z, a', b')
  | 0, c, p, a, b, z, a', b', h, hj => by
    simp only [pBgs] at h ⊢
    by_cases e : ch t n p = 59
    · rw [if_pos e] at h
      have h2 := h
      simp only [Sum.inr.injEq, Prod.mk.injEq] at h2
      have pz : p < z := by omega
      rw [if_pos ((hj p pz).symm.trans e)]
      exact ⟨pz, h⟩
    · rw [if_neg e] at h
      exact absurd h (by simp)
  | d + 1, c, p, a, b, z, a', b', h, hj => by
    simp only [pBgs] at h ⊢
    by_cases e : ch t n p = 97
    · rw [if_pos e] at h
      obtain ⟨i1, i2⟩ := pBgs_pre d _ _ _ _ z a' b' h hj
      rw [if_pos ((hj p (by omega)).symm.trans e)]
      exact ⟨by omega, i2⟩
    · rw [if_neg e] at h
      by_cases e2 : ch t n p = 98
      · rw [if_pos e2] at h
        obtain ⟨i1, i2⟩ := pBgs_pre d _ _ _ _ z a' b' h hj
        rw [if_neg (fun w => e ((hj p (by omega)).trans w)), if_pos ((hj p (by omega)).symm.trans e2)]
        exact ⟨by omega, i2⟩
      · rw [if_neg e2] at h
        by_cases e3 : ch t n p = 120
        · rw [if_pos e3] at h
          obtain ⟨i1, i2⟩ := pBgs_pre d _ _ _ _ z a' b' h hj
          rw [if_neg (fun w => e ((hj p (by omega)).trans w)), if_neg (fun w => e2 ((hj p (by omega)).trans w)), if_pos ((hj p (by omega)).symm.trans e3)]
          exact ⟨by omega, i2⟩
        · rw [if_neg e3] at h
          exact absurd h (by simp)
/-- the rules before k without rule x -/
def rlx (L : List Int32) (l : List RuT) (x : Nat) : Nat → List (List Int32)
  | 0 => []
  | k + 1 => if k = x then rlx L l x k else rlx L l x k ++ [rs L l k]
theorem rlx_s {L : List Int32} {l : List RuT} {x k : Nat} : rlx L l x (k + 1) = if k = x then rlx L l x k else rlx L l x k ++ [rs L l k] := rfl
theorem jn_jl {B L : List Int32} {l : List RuT} {x : Nat} : ∀ k, jn B L l x k = (B ++ jl (rlx L l x k), (rlx L l x k).length)
  | 0 => by
    show (B, 0) = (B ++ [], 0)
    rw [List.append_nil]
  | k + 1 => by
    have ih := jn_jl (B := B) (L := L) (l := l) (x := x) k
    rw [jn_s, rlx_s, ih]
    split
    · rfl
    · rw [jl_snoc, List.length_append, List.length_singleton]
      show (B ++ jl (rlx L l x k) ++ (if (rlx L l x k).length = 0 then [] else [44]) ++ rs L l k, (rlx L l x k).length + 1) = _
      simp only [List.append_assoc]
theorem rlx_len {L : List Int32} {l : List RuT} {x : Nat} : ∀ k, (rlx L l x k).length = if x < k then k - 1 else k
  | 0 => rfl
  | k + 1 => by
    have ih := rlx_len (L := L) (l := l) (x := x) k
    rw [rlx_s]
    split
    · rename_i e
      rw [ih, if_neg (by omega), if_pos (by omega)]
      omega
    · rename_i e
      rw [List.length_append, List.length_singleton, ih]
      split
      · rw [if_pos (by omega)]; omega
      · rw [if_neg (by omega)]
theorem rlx_tx {L : List Int32} {l : List RuT} {x : Nat} (h : ∀ e ∈ l, MvTx (seg L e.1 e.2.1)) : ∀ k, k ≤ l.length → ∀ r ∈ rlx L l x k, MvTx r
  | 0, _ => fun r hr => absurd hr (by simp [rlx])
  | k + 1, hk => by
    have ih := rlx_tx (L := L) (l := l) (x := x) h k (by omega)
    rw [rlx_s]
    split
    · exact ih
    · intro r hr
      rcases List.mem_append.mp hr with w | w
      · exact ih r w
      · obtain ⟨e, he⟩ : ∃ e, l[k]? = some e := ⟨_, List.getElem?_eq_getElem (by omega)⟩
        rw [List.mem_singleton.mp w, rs_at he]
        exact h e (List.mem_of_getElem? he)
theorem jl_head {r : List Int32} {l : List (List Int32)} (h : MvTx r) : ∃ a s, jl (r :: l) = a :: s ∧ a ≠ 105 := by
  obtain ⟨a, b, u, er, -, k, m, hv⟩ := h
  refine ⟨a, ?_⟩
  have ha : a ≠ 105 := by
    intro e
    subst e
    have e1 : ch (tl [105, b]) 2 0 = 105 := rfl
    unfold pMv pKind at hv
    rw [e1, if_neg (by decide), if_pos (by decide)] at hv
    exact absurd hv (by simp)
  subst er
  cases l with
  | nil => exact ⟨b :: u, rfl, ha⟩
  | cons r' l => exact ⟨b :: u ++ 44 :: jl (r' :: l), rfl, ha⟩
/-- a text without one of its MOVES is a game's text -/
theorem cut_parse {L : List Int32} {G : GM} {x : Nat} (h : pAll (tl L) L.length = .inr G) (h2 : 2 ≤ (gMv G).length) : ∃ G', pAll (tl (wtx L G x)) (wtx L G x).length = .inr G' := by
  obtain ⟨hG, hC, hD, m4, m22, hbd, hbg, hmv, hen⟩ := pAll_ok h
  have c1 := Chn_len _ _ _ hC
  have c2 := Chn_len _ _ _ hD
  have m6 := hG.2.1.1
  obtain ⟨el, hel⟩ : ∃ e, (gMv G)[(gMv G).length - 1]? = some e := ⟨_, List.getElem?_eq_getElem (by omega)⟩
  have last := (Chn_at _ _ _ hC _ el hel).2.2.2.2 (by omega)
  have semi : seg L (gEF G - 1) L.length = 59 :: seg L (gEF G) L.length := by
    rw [seg_first (by omega), show gEF G - 1 + 1 = gEF G by omega, show gEF G - 1 = el.2.1 by omega, last.2]
  have tx := rlx_tx (L := L) (l := gMv G) (x := x) (pMvs_tx _ _ _ _ hmv) _ (Nat.le_refl _)
  have ln := rlx_len (L := L) (l := gMv G) (x := x) (gMv G).length
  have eW : wtx L G x = seg L 0 (gMF G) ++ (jl (rlx L (gMv G) x (gMv G).length) ++ 59 :: seg L (gEF G) L.length) := by
    unfold wtx
    rw [jn_jl, semi]
    simp only [List.nil_append, List.append_assoc]
  generalize rlx L (gMv G) x (gMv G).length = rl at *
  generalize wtx L G x = W at *
  have l1 : rl ≠ [] := by
    intro e
    rw [e] at ln
    simp only [List.length_nil] at ln
    split at ln <;> omega
  have l6 : rl.length ≤ 6 := by
    rw [ln]
    split <;> omega
  have lA : (seg L 0 (gMF G)).length = gMF G := by rw [seg_len]; omega
  have eL : L = seg L 0 (gEF G) ++ seg L (gEF G) L.length := by
    have := seg_app (M := L) (f := 0) (b := gEF G) (by omega) (L.length - gEF G)
    rw [show gEF G + (L.length - gEF G) = L.length by omega, seg_all] at this
    exact this
  have eL2 : L = seg L 0 (gMF G) ++ seg L (gMF G) L.length := by
    have := seg_app (M := L) (f := 0) (b := gMF G) (by omega) (L.length - gMF G)
    rw [show gMF G + (L.length - gMF G) = L.length by omega, seg_all] at this
    exact this
  have pre : ∀ j, j < gMF G → ch (tl L) L.length j = ch (tl W) W.length j := by
    intro j hj
    have q1 := gc_l (A := seg L 0 (gMF G)) (B := seg L (gMF G) L.length) (j := j) (by omega)
    rw [← eL2] at q1
    rw [q1, eW]
    exact (gc_l (by omega)).symm
  have suf : ∀ j, ch (tl L) L.length (gEF G + j) = ch (tl W) W.length (gMF G + (jl rl).length + 1 + j) := by
    intro j
    have q1 := gc_r (A := seg L 0 (gEF G)) (B := seg L (gEF G) L.length) (j := j)
    rw [← eL, seg_len, Nat.sub_zero] at q1
    have q2 := gc_r (A := seg L 0 (gMF G) ++ jl rl ++ [59]) (B := seg L (gEF G) L.length) (j := j)
    rw [show seg L 0 (gMF G) ++ jl rl ++ [59] ++ seg L (gEF G) L.length = W by rw [eW]; simp, List.length_append, List.length_append, lA, List.length_singleton] at q2
    rw [q1, q2]
  have nW : W.length = gMF G + (jl rl).length + 1 + (L.length - gEF G) := by
    rw [eW, List.length_append, List.length_append, List.length_cons, lA, seg_len]
    omega
  have b1 : pBd (tl W) W.length = .inr (gW G, gH G) := by
    rw [← hbd]
    unfold pBd
    rw [pre 0 (by omega), pre 1 (by omega), pre 2 (by omega), pre 3 (by omega)]
  have b2 : pBg (tl W) W.length (gW G * gH G) 4 = .inr (gMF G, gA G, gB G) := by
    unfold pBg at hbg ⊢
    by_cases e : ch (tl L) L.length 4 = 105
    · rw [if_pos e] at hbg
      obtain ⟨i1, i2⟩ := pBgs_pre _ _ _ _ _ _ _ _ hbg pre
      rw [if_pos ((pre 4 (by omega)).symm.trans e)]
      exact i2
    · rw [if_neg e] at hbg
      have e4 : gMF G = 4 := by
        simp only [Sum.inr.injEq, Prod.mk.injEq] at hbg
        exact hbg.1.symm
      rw [if_neg ?_]
      · exact hbg
      · intro w
        obtain ⟨r, l, el⟩ : ∃ r l, rl = r :: l := by
          cases rl with
          | nil => exact absurd rfl l1
          | cons r l => exact ⟨r, l, rfl⟩
        obtain ⟨a, s, ea, na⟩ := jl_head (l := l) (tx r (by rw [el]; simp))
        have q := gc_r (A := seg L 0 (gMF G)) (B := jl rl ++ 59 :: seg L (gEF G) L.length) (j := 0)
        rw [← eW, lA, e4, el, ea] at q
        exact na ((q.trans gc_0).symm.trans w)
  obtain ⟨mv, b3⟩ := mvs_parse (B := seg L (gEF G) L.length) rl 6 (gMF G) W (seg L 0 (gMF G)) l1 l6 tx lA.symm eW
  obtain ⟨j, en, ez, b4⟩ := pEns_sh _ _ _ _ _ suf hen
  refine ⟨(gW G, gH G, gA G, gB G, gMF G, gMF G + (jl rl).length + 1, mv, en), ?_⟩
  unfold pAll
  rw [b1]
  simp only
  rw [b2]
  simp only
  rw [b3]
  simp only
  rw [b4]
  simp only
  rw [if_pos (by omega)]
