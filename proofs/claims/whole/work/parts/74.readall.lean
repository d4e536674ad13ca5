theorem Rd.out {f i n p : Nat} {t : Nat → Int32} {σ : GSt} (h : Rd f i n t p σ) : (5 < i ∨ i + 22 ≤ 5) ∧ (f < i ∨ i + 22 ≤ f) ∧ (f + 1 < i ∨ i + 22 ≤ f + 1) := by
  have k := h.2.2.2
  refine ⟨?_, ?_, ?_⟩
  · by_cases q : i ≤ 5 ∧ 5 < i + 22
    · exact absurd rfl (k 5 q.1 q.2).2.2
    · omega
  · by_cases q : i ≤ f ∧ f < i + 22
    · exact absurd rfl (k f q.1 q.2).1
    · omega
  · by_cases q : i ≤ f + 1 ∧ f + 1 < i + 22
    · exact absurd rfl (k (f + 1) q.1 q.2).2.1
    · omega
theorem Rd.keep {f i n p : Nat} {t : Nat → Int32} {σ σ' : GSt} (h : Rd f i n t p σ) (h5 : σ' 5 = σ 5) (hf : σ' f = σ f) (hf1 : σ' (f + 1) = σ (f + 1)) : Rd f i n t p σ' := by
  unfold Rd at *
  rw [h5, hf, hf1]
  exact h
theorem dg_nat {t : Nat → Int32} {n p lo hi : Nat} (hhi : hi < 2 ^ 31) (h : dg t n p (nI lo) (nI hi)) (hlo : lo < 2 ^ 31) : ∃ k, lo ≤ k ∧ k ≤ hi ∧ ch t n p - 48 = nI k := by
  obtain ⟨k, hk, e⟩ := i32_of hhi (Int32.le_trans (nI_pos' hlo) h.1) h.2
  refine ⟨k, ?_, hk, e⟩
  have h1 := h.1
  rw [e, nI_leI hlo (by omega)] at h1
  exact h1
/-- the BOARD: the place where it can't go on, or width and height -/
def pBd (t : Nat → Int32) (n : Nat) : Nat ⊕ (Nat × Nat) :=
  if ch t n 0 = 98 then (if 2 ≤ ch t n 1 - 48 ∧ ch t n 1 - 48 ≤ 4 then (if 2 ≤ ch t n 2 - 48 ∧ ch t n 2 - 48 ≤ 4 then (if ch t n 3 = 59 then .inr ((ch t n 1 - 48).toNatClampNeg, (ch t n 2 - 48).toNatClampNeg) else .inl 3) else .inl 2) else .inl 1) else .inl 0
theorem readBoard_ok {f i n : Nat} {t : Nat → Int32} {σ : GSt} {Q : Int32 → GSt → Prop} (h : Rd f i n t 0 σ)
    (hs : ∀ (σ' : GSt) (w hh : Nat), pBd t n = .inr (w, hh) → 2 ≤ w → w ≤ 4 → 2 ≤ hh → hh ≤ 4 → Rd f i n t 4 σ' → BoardOK σ' (i + 3) w hh → (∀ a, a ≠ 5 → (a < i + 3 ∨ i + 8 ≤ a) → σ' a = σ a) → Q 1 σ')
    (hf : ∀ (σ' : GSt) (z : Nat), pBd t n = .inl z → Rd f i n t z σ' → (∀ a, a ≠ 5 → (a < i + 3 ∨ i + 8 ≤ a) → σ' a = σ a) → Q 0 σ') : D_X6_readBoard σ Q := by
  refine takes_ok h (by decide) (fun q0 p0 => ⟨fun _ => ?_, fun z => absurd z (by decide)⟩) (fun q0 => ⟨fun z => absurd rfl z, fun _ => hf σ 0 (if_neg q0) h (fun _ _ _ => rfl)⟩)
  have h1 := h.step p0
  have f1 : ∀ a, a ≠ 5 → up2 σ 5 2 (nI (0 + 1)) a = σ a := fun a ha => up2_ne ha
  refine digit_ok h1 (by decide) (fun q1 p1 => ⟨fun _ => ?_, fun z => absurd (Int32.le_trans (by decide) q1.1) z⟩) (fun q1 => ⟨fun z => absurd z (by decide), fun _ => hf _ 1 ((if_pos q0).trans (if_neg q1)) h1 (fun a ha _ => f1 a ha)⟩)
  have h2 := h1.step p1
  have f2 : ∀ a, a ≠ 5 → up2 (up2 σ 5 2 (nI (0 + 1))) 5 2 (nI (0 + 1 + 1)) a = σ a := fun a ha => (up2_ne ha).trans (f1 a ha)
  refine digit_ok h2 (by decide) (fun q2 p2 => ⟨fun _ => ?_, fun z => absurd (Int32.le_trans (by decide) q2.1) z⟩) (fun q2 => ⟨fun z => absurd z (by decide), fun _ => hf _ 2 ((if_pos q0).trans ((if_pos q1).trans (if_neg q2))) h2 (fun a ha _ => f2 a ha)⟩)
  have h3 := h2.step p2
  have f3 : ∀ a, a ≠ 5 → up2 (up2 (up2 σ 5 2 (nI (0 + 1))) 5 2 (nI (0 + 1 + 1))) 5 2 (nI (0 + 1 + 1 + 1)) a = σ a := fun a ha => (up2_ne ha).trans (f2 a ha)
  refine ⟨h3.gref.1, ?_⟩
  rw [h3.gref.2]
  obtain ⟨w, w2, w4, ew⟩ := dg_nat (lo := 2) (hi := 4) (by decide) q1 (by decide)
  obtain ⟨g, g2, g4, eg⟩ := dg_nat (lo := 2) (hi := 4) (by decide) q2 (by decide)
  have ew' : ch t n 1 - 48 = nI w := ew
  have eg' : ch t n 2 - 48 = nI g := eg
  rw [ew, eg]
  refine lay_ok (ly_1_1 h3.2.2.1.2.1) w2 w4 g2 g4 (fun σ' hB hfr => ?_)
  obtain ⟨o5, of, of1⟩ := h3.out
  have h4 := h3.keep (hfr 5 (by omega)) (hfr f (by omega)) (hfr (f + 1) (by omega))
  have f4 : ∀ a, a ≠ 5 → (a < i + 3 ∨ i + 8 ≤ a) → σ' a = σ a := fun a ha hb => (hfr a (by omega)).trans (f3 a ha)
  refine takes_ok h4 (by decide) (fun q3 p3 => ⟨Or.inr rfl, ?_⟩) (fun q3 => ⟨Or.inl rfl, ?_⟩)
  · refine hs _ w g ?_ w2 w4 g2 g4 (h4.step p3) (hB.row (fun a h1 h2 => up2_ne (by omega))) (fun a ha hb => (up2_ne ha).trans (f4 a ha hb))
    have e : pBd t n = .inr ((ch t n 1 - 48).toNatClampNeg, (ch t n 2 - 48).toNatClampNeg) := (if_pos q0).trans ((if_pos q1).trans ((if_pos q2).trans (if_pos q3)))
    rw [e, ew', eg', nI_clamp (by omega), nI_clamp (by omega)]
  · exact hf _ 3 ((if_pos q0).trans ((if_pos q1).trans ((if_pos q2).trans (if_neg q3)))) h4 f4
/-- a game that was read: width, height, the pieces of both at the beginning, where MOVES and ENDS begin, MOVES, ENDS -/
abbrev GM : Type := Nat × Nat × Int32 × Int32 × Nat × Nat × List (Nat × Nat × Int32 × Int32 × Int32) × List (Nat × Nat × Int32 × Int32 × Int32)
def gW (G : GM) : Nat := G.1
def gH (G : GM) : Nat := G.2.1
def gA (G : GM) : Int32 := G.2.2.1
def gB (G : GM) : Int32 := G.2.2.2.1
def gMF (G : GM) : Nat := G.2.2.2.2.1
def gEF (G : GM) : Nat := G.2.2.2.2.2.1
def gMv (G : GM) : List (Nat × Nat × Int32 × Int32 × Int32) := G.2.2.2.2.2.2.1
def gEn (G : GM) : List (Nat × Nat × Int32 × Int32 × Int32) := G.2.2.2.2.2.2.2
/-- the whole text: the FAULT, or the game -/
def pAll (t : Nat → Int32) (n : Nat) : Nat ⊕ GM :=
  match pBd t n with
  | .inl z => .inl z
  | .inr (w, h) => match pBg t n (w * h) 4 with
    | .inl z => .inl z
    | .inr (p1, a, b) => match pMvs t n 6 p1 with
      | .inl z => .inl z
      | .inr (p2, mv) => match pEns t n 6 p2 with
        | .inl z => .inl z
        | .inr (p3, en) => if p3 = n then .inr (w, h, a, b, p1, p2, mv, en) else .inl p3
/-- the class's Game i holds the game G and its text -/
def ClG (σ : GSt) (i : Nat) (G : GM) (t : Nat → Int32) (n : Nat) : Prop := BoardOK σ (i + 3) (gW G) (gH G) ∧ (σ i 2 = gA G ∧ σ i 3 = gB G ∧ σ i 5 = nI (gMv G).length ∧ σ i 7 = nI (gEn G).length ∧ σ i 8 = nI (gMF G) ∧ σ i 9 = nI (gEF G)) ∧ (∀ j e, (gMv G)[j]? = some e → MvIs σ (i + 10 + 2 * j) e) ∧ (∀ j e, (gEn G)[j]? = some e → EnIs σ (i + 11 + 2 * j) e) ∧ σ (i + 1) 1 = nI n ∧ ∀ j, j < n → σ (i + 2) j = t j
theorem pMvs_len {t : Nat → Int32} {n : Nat} : ∀ (d p z : Nat) (l : List (Nat × Nat × Int32 × Int32 × Int32)), pMvs t n d p = .inr (z, l) → l.length ≤ d ∧ 1 ≤ l.length := by
  intro d
  induction d with
  | zero => intro p z l h; simp [pMvs] at h
  | succ d ih =>
    intro p z l h
    simp only [pMvs] at h
    cases hm : pMv t n p with
    | inl q =>
      rw [hm] at h
      simp at h
    | inr x =>
      obtain ⟨q, kind, num⟩ := x
      rw [hm] at h
      simp only at h
      generalize (if ch t n q = 33 then q + 1 else q) = q2 at h
      generalize (if ch t n q = 33 then (1 : Int32) else 0) = mu at h
      split at h
      · simp at h
        rw [← h.2]
        simp
      · split at h
        · split at h
          · simp at h
          · rename_i hz
            have := ih _ _ _ hz
            simp at h
            rw [← h.2]
            simp
            omega
        · simp at h
theorem pEns_len {t : Nat → Int32} {n : Nat} : ∀ (d p z : Nat) (l : List (Nat × Nat × Int32 × Int32 × Int32)), pEns t n d p = .inr (z, l) → l.length ≤ d ∧ 1 ≤ l.length := by
  intro d
  induction d with
  | zero => intro p z l h; simp [pEns] at h
  | succ d ih =>
    intro p z l h
    unfold pEns at h
    split at h
    · simp at h
    · split at h
      · simp at h
        rw [← h.2]
        simp
      · split at h
        · split at h
          · simp at h
          · rename_i hz
            have := ih _ _ _ hz
            simp at h
            rw [← h.2]
            simp
            omega
        · simp at h
theorem copyOf_ok {o r n : Nat} {σ : GSt} {Q : GSt → Prop} (hor : r ≠ o) (hor2 : r ≠ o + 1) (hor3 : r + 1 ≠ o) (hor4 : r + 1 ≠ o + 1) (hr : σ r 1 = nI n) (hn : n ≤ 90) (h : ∀ σ' : GSt, σ' o 1 = nI n → (∀ j, j < n → σ' (o + 1) j = σ (r + 1) j) → (∀ a, a ≠ o → a ≠ o + 1 → σ' a = σ a) → Q σ') : D_X9_copyOf o r σ Q := by
  intro s e
  subst e
  rw [up2_ne hor, hr]
  refine addPart_ok (len := 0) (first := 0) (behind := n) hor hor2 hor3 hor4 (by simp [up2_app, nI_0]) (by rw [up2_ne hor]; exact hr) hn (Nat.le_refl _) (Nat.zero_le _) (by omega) ?_
  refine h _ ?_ ?_ ?_
  · rw [tadds_len (by simp [up2_app, nI_0])]
    simp
  · intro j hj
    rw [tadds_byte, if_pos (by omega), up2_ne hor3]
    simp
  · intro a h1 h2
    rw [tadds_row h1 h2, up2_ne h1]
theorem read_ok {f i n : Nat} {t : Nat → Int32} {σ : GSt} {Q : Int32 → GSt → Prop} (kf : kd f = 9) (ki : kd i = 1) (hd : ∀ a, i ≤ a → a < i + 22 → a ≠ f ∧ a ≠ f + 1 ∧ a ≠ 5) (hn : n ≤ 90) (hl : σ f 1 = nI n) (ht : ∀ j, j < n → σ (f + 1) j = t j)
    (hs : ∀ (σ' : GSt) (G : GM), pAll t n = .inr G → ClG σ' i G t n → (∀ a, a ≠ 5 → (a < i ∨ i + 22 ≤ a) → σ' a = σ a) → Q (-1) σ')
    (hf : ∀ (σ' : GSt) (z : Nat), pAll t n = .inl z → z ≤ n → (∀ a, a ≠ 5 → (a < i ∨ i + 22 ≤ a) → σ' a = σ a) → Q (nI z) σ') : D_X6_read f i σ Q := by
  intro s1 e1 s2 e2 s3 e3
  have n5 := kd9_ne5 kf
  have hR : Rd f i n t 0 s3 := by
    refine ⟨⟨?_, ?_, ?_⟩, ⟨?_, ?_⟩, ⟨kf, ki, hn, Nat.zero_le _⟩, hd⟩
    · rw [e3, e2, e1]; simp [up2_app]
    · rw [e3, e2]; simp [up2_app]
    · rw [e3]; simp [up2_app, nI_0]
    · rw [e3, up2_ne n5.1, e2, up2_ne n5.1, e1, up2_ne n5.1]; exact hl
    · intro j hj
      rw [e3, up2_ne n5.2.1, e2, up2_ne n5.2.1, e1, up2_ne n5.2.1]; exact ht j hj
  have f0 : ∀ a, a ≠ 5 → s3 a = σ a := fun a ha => by rw [e3, up2_ne ha, e2, up2_ne ha, e1, up2_ne ha]
  have hi5 : i ≠ 5 := (hd i (Nat.le_refl _) (by omega)).2.2
  have bad : ∀ (σ' : GSt) (z : Nat), pAll t n = .inl z → Rd f i n t z σ' → (∀ a, a ≠ 5 → (a < i ∨ i + 22 ≤ a) → σ' a = σ a) → D_X6_read_61 Q f i σ' := by
    intro σ' z hz hRz hfr
    refine ⟨fun q => absurd rfl q, fun _ => ?_⟩
    rw [hRz.1.2.2]
    exact hf σ' z hz hRz.2.2.1.2.2.2 hfr
  refine readBoard_ok hR (fun σ5 w g hb w2 w4 g2 g4 hR5 hB5 hfr5 => ⟨fun z => absurd z (by decide), fun _ => ?_⟩) (fun σ5 z hb hR5 hfr5 => ⟨fun _ => bad σ5 z (by unfold pAll; rw [hb]) hR5 (fun a ha hb => (hfr5 a ha (by omega)).trans (f0 a ha)), fun z => absurd rfl z⟩)
  have h16 : w * g ≤ 16 := Nat.mul_le_mul w4 g4
  refine readBegin_ok hi5 h16 hB5.1.2.2 hR5 (fun σ7 p1 a b hbg hR7 hF7 ha7 hb7 => ⟨fun z => absurd z (by decide), fun _ => ?_⟩) (fun σ7 z hbg hR7 hF7 => ⟨fun _ => bad σ7 z (by unfold pAll; rw [hb]; simp only; rw [hbg]) hR7 (fun a ha hb => (hF7.1 a ha (by omega)).trans ((hfr5 a ha (by omega)).trans (f0 a ha))), fun z => absurd rfl z⟩)
  refine readMoves_ok hi5 hR7 (fun σ9 p2 mv hmv hR9 hF9 hm9 hc9 => ⟨fun z => absurd z (by decide), fun _ => ?_⟩) (fun σ9 z hmv hR9 hF9 => ⟨fun _ => bad σ9 z (by unfold pAll; rw [hb]; simp only; rw [hbg]; simp only; rw [hmv]) hR9 (fun a ha hb => (hF9.1 a ha (by omega) (fun j _ _ => by omega)).trans ((up2_ne (by omega)).trans ((hF7.1 a ha (by omega)).trans ((hfr5 a ha (by omega)).trans (f0 a ha))))), fun z => absurd rfl z⟩)
  have fr9 : ∀ a, a ≠ 5 → (a < i ∨ i + 22 ≤ a) → σ9 a = σ a := fun a ha hb => (hF9.1 a ha (by omega) (fun j _ _ => by omega)).trans ((up2_ne (by omega)).trans ((hF7.1 a ha (by omega)).trans ((hfr5 a ha (by omega)).trans (f0 a ha))))
  refine readEnds_ok hi5 hR9 (fun σ11 p3 en hen hR11 hF11 he11 hc11 => ⟨fun z => absurd z (by decide), fun _ => ?_⟩) (fun σ11 z hen hR11 hF11 => ⟨fun _ => bad σ11 z (by unfold pAll; rw [hb]; simp only; rw [hbg]; simp only; rw [hmv]; simp only; rw [hen]) hR11 (fun a ha hb => (hF11.1 a ha (by omega) (fun j _ _ => by omega)).trans ((up2_ne (by omega)).trans (fr9 a ha hb))), fun z => absurd rfl z⟩)
  have fr11 : ∀ a, a ≠ 5 → (a < i ∨ i + 22 ≤ a) → σ11 a = σ a := fun a ha hb => (hF11.1 a ha (by omega) (fun j _ _ => by omega)).trans ((up2_ne (by omega)).trans (fr9 a ha hb))
  refine ⟨hR11.ref.1, ?_⟩
  rw [hR11.ref.2, hR11.1.2.2, hR11.2.1.1]
  have hp3 : p3 ≤ n := hR11.2.2.1.2.2.2
  refine ⟨fun q => ?_, fun q => ?_⟩
  · refine bad σ11 p3 ?_ hR11 fr11
    unfold pAll
    rw [hb]; simp only; rw [hbg]; simp only; rw [hmv]; simp only; rw [hen]; simp only
    rw [if_neg (fun e => q (by rw [e]))]
  · have e3n : p3 = n := (nI_eq (by omega) (by omega)).mp q
    refine ⟨fun _ => ?_, fun z => absurd z (by decide)⟩
    have hG : pAll t n = .inr (w, g, a, b, p1, p2, mv, en) := by
      unfold pAll
      rw [hb]; simp only; rw [hbg]; simp only; rw [hmv]; simp only; rw [hen]; simp only
      rw [if_pos e3n]
    obtain ⟨o5, of, of1⟩ := hR11.out
    have lm := pMvs_len _ _ _ _ hmv
    have le := pEns_len _ _ _ _ hen
    refine copyOf_ok (n := n) (by omega) (by omega) (by omega) (by omega) hR11.2.1.1 hn (fun σ' hl' hb' hfr' => ?_)
    refine hs σ' _ hG ⟨?_, ⟨?_, ?_, ?_, ?_, ?_, ?_⟩, ?_, ?_, hl', ?_⟩ (fun a ha hb => (hfr' a (by omega) (by omega)).trans (fr11 a ha hb))
    · refine hB5.row (fun a h1 h2 => ?_)
      rw [hfr' a (by omega) (by omega), hF11.1 a (by omega) (by omega) (fun j _ _ => by omega), up2_ne (by omega), hF9.1 a (by omega) (by omega) (fun j _ _ => by omega), up2_ne (by omega), hF7.1 a (by omega) (by omega)]
    · rw [hfr' i (by omega) (by omega), hF11.2 2 (by decide), up2_app, if_neg (by omega), hF9.2 2 (by decide), up2_app, if_neg (by omega)]
      exact ha7
    · rw [hfr' i (by omega) (by omega), hF11.2 3 (by decide), up2_app, if_neg (by omega), hF9.2 3 (by decide), up2_app, if_neg (by omega)]
      exact hb7
    · rw [hfr' i (by omega) (by omega), hF11.2 5 (by decide), up2_app, if_neg (by omega)]
      exact hc9
    · rw [hfr' i (by omega) (by omega)]
      exact hc11
    · rw [hfr' i (by omega) (by omega), hF11.2 8 (by decide), up2_app, if_neg (by omega), hF9.2 8 (by decide), up2_app, if_pos ⟨rfl, rfl⟩]
      rfl
    · rw [hfr' i (by omega) (by omega), hF11.2 9 (by decide), up2_app, if_pos ⟨rfl, rfl⟩]
      rfl
    · intro j e he
      have hj : j < mv.length := (List.getElem?_eq_some_iff.mp he).1
      refine (hm9 j e he).row ?_
      rw [hfr' _ (by omega) (by omega), hF11.1 _ (by omega) (by omega) (fun j _ _ => by omega), up2_ne (by omega)]
    · intro j e he
      have hj : j < en.length := (List.getElem?_eq_some_iff.mp he).1
      refine (he11 j e he).row ?_
      rw [hfr' _ (by omega) (by omega)]
    · intro j hj
      rw [hb' j hj]
      exact hR11.2.1.2 j hj
