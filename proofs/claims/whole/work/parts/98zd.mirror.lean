theorem Chn_at {t : Nat → Int32} {n : Nat} {c : Int32} : ∀ (l : List RuT) (p z : Nat), Chn t n c l p z → ∀ (k : Nat) (e : RuT), l[k]? = some e → e.1 < e.2.1 ∧ e.2.1 ≤ e.1 + 3 ∧ e.2.1 < n ∧ (∀ e', l[k + 1]? = some e' → e'.1 = e.2.1 + 1) ∧ (k + 1 = l.length → z = e.2.1 + 1 ∧ t e.2.1 = c)
  | [], _, _, h => absurd h (by simp [Chn])
  | [a], p, z, h => by
    intro k e hk
    cases k with
    | zero =>
      have : a = e := Option.some.inj hk
      subst this
      obtain ⟨h1, h2, h3, h4, h5, h6⟩ := h
      exact ⟨by omega, by omega, h4, fun e' he => absurd he (by simp), fun _ => ⟨h6, h5⟩⟩
    | succ k => exact absurd hk (by simp)
  | a :: b :: l, p, z, h => by
    obtain ⟨h1, h2, h3, h4, h5, h6⟩ := h
    intro k e hk
    cases k with
    | zero =>
      have : a = e := Option.some.inj hk
      subst this
      refine ⟨by omega, by omega, h4, fun e' he => ?_, fun w => absurd w (by simp)⟩
      have : b = e' := Option.some.inj he
      subst this
      cases l with
      | nil => exact h6.1
      | cons => exact h6.1
    | succ k =>
      obtain ⟨g1, g2, g3, g4, g5⟩ := Chn_at (b :: l) (a.2.1 + 1) z h6 k e hk
      exact ⟨g1, g2, g3, g4, fun w => g5 (by simp at w ⊢; omega)⟩
/-- a rule's own signs -/
def rs (L : List Int32) (l : List RuT) (k : Nat) : List Int32 := match l[k]? with
  | some e => seg L e.1 e.2.1
  | none => []
theorem rs_len {L : List Int32} {l : List RuT} {t : Nat → Int32} {n : Nat} {c : Int32} {p z : Nat} (h : Chn t n c l p z) (k : Nat) : (rs L l k).length ≤ 3 := by
  unfold rs
  cases hk : l[k]? with
  | none => exact Nat.zero_le _
  | some e =>
    have := (Chn_at l p z h k e hk).2.1
    show (seg L e.1 e.2.1).length ≤ 3
    rw [seg_len]
    omega
theorem seg_first {M : List Int32} {f b : Nat} (h : f < b) : seg M f b = tl M f :: seg M (f + 1) b := by
  unfold seg
  rw [show b - f = (b - (f + 1)) + 1 by omega, List.range_succ_eq_map, List.map_cons, List.map_map]
  show tl M (f + 0) :: _ = _
  rw [Nat.add_zero]
  congr 1
  apply List.map_congr_left
  intro i _
  show tl M (f + (i + 1)) = tl M (f + 1 + i)
  rw [show f + (i + 1) = f + 1 + i by omega]
/-- the class writes a rule, behind a comma where it isn't the first -/
theorem writeRule_ok {σ : GSt} {i r k : Nat} {L M : List Int32} {e : RuT} {x2 : Int32} {Q : GSt → Prop} (i53 : 53 ≤ i) (h4 : σ r 4 = nI e.1) (h5 : σ r 5 = nI e.2.1) (r53 : 53 ≤ r) (hx : x2 = nI k) (hk : k ≤ 6) (hT : TxC σ 3 L) (hM : TxC σ (i + 1) M) (m90 : M.length ≤ 90) (e1 : e.1 < e.2.1) (e3 : e.2.1 ≤ e.1 + 3) (eM : e.2.1 ≤ M.length) (hl : L.length ≤ 80) (hQ : ∀ σ' : GSt, TxC σ' 3 (L ++ (if k = 0 then [] else [44]) ++ seg M e.1 e.2.1) → (∀ a, a ≠ 3 → a ≠ 4 → σ' a = σ a) → Q σ') : D_X1_writeRule i r x2 3 σ Q := by
  have go : ∀ s : GSt, (∀ a, a ≠ 3 → a ≠ 4 → s a = σ a) → TxC s 3 (L ++ (if k = 0 then [] else [44])) → D_X1_writeRule_10 Q i r 3 s := by
    intro s fs xs
    unfold D_X1_writeRule_10
    rw [fs r (by omega) (by omega), h4, h5]
    refine addPartC (by omega) (by omega) (by omega) (by omega) xs ⟨by rw [fs _ (by omega) (by omega)]; exact hM.1, fun j hj => by rw [fs _ (by omega) (by omega)]; exact hM.2 j hj⟩ m90 (by omega) eM ?_ (fun s2 x2 f2 => hQ s2 x2 (fun a p q => by rw [f2 a p q, fs a p q]))
    rw [List.length_append]
    have : (if k = 0 then ([] : List Int32) else [44]).length ≤ 1 := by split <;> simp
    omega
  rw [hx]
  refine pk_le k 0 (fun z => go σ (fun _ _ _ => rfl) ?_) (fun z => addC_ok (by omega) hT (fun s2 x2 f2 => go s2 f2 ?_))
  · rw [if_pos (by omega), List.append_nil]; exact hT
  · rw [if_neg (by omega)]; exact x2
/-- where a MOVE ends, for the reference -/
theorem moveEnd_ok {σ : GSt} {g k : Nat} {G : GM} {L : List Int32} {e : RuT} {Q : Int32 → GSt → Prop} (g8 : g < 8) (hM : MdG σ g G (tl L) L.length) (m6 : (gMv G).length ≤ 6) (hC : Chn (tl L) L.length 59 (gMv G) (gMF G) (gEF G)) (he : (gMv G)[k]? = some e) (hQ : Q (nI e.2.1) σ) : D_X11_moveEnd (nI g) (nI k) σ Q := by
  obtain ⟨c1, c2, c3, c4, c5⟩ := Chn_at _ _ _ hC k e he
  have kl := (List.getElem?_eq_some_iff.mp he).1
  have vg : vp_in (nI g) 9 := vp_in_nI (by omega) (by decide)
  unfold D_X11_moveEnd D_X11_moveEnd_0
  rw [nI_clamp (show g < 2 ^ 31 by omega), hM.2.1.1, hM.2.1.2.2.2, nI_1, show (6 : Int32) * nI g + nI k = nI (6 * g + k) from nlin 6 g k, nI_1, nI_clamp (show 6 * g + k + 1 < 2 ^ 31 by omega)]
  refine ⟨vg, pk_le (gMv G).length (k + 1) (fun z => ⟨vg, ?_⟩) (fun z => ⟨vp_in_nI (by omega) (by decide), ?_⟩)⟩
  · rw [(c5 (by omega)).1, nI_pred]
    exact hQ
  · obtain ⟨e', he'⟩ : ∃ e', (gMv G)[k + 1]? = some e' := ⟨_, List.getElem?_eq_getElem z⟩
    have := (hM.2.2.1 (k + 1) e' he').2.2.1
    rw [show 6 * g + k + 1 = 6 * g + (k + 1) by omega, this, c4 e' he', nI_pred]
    exact hQ
