theorem Chn_44 {t : Nat → Int32} {n : Nat} {c : Int32} : ∀ (l : List RuT) (p z : Nat), Chn t n c l p z → (∀ e, l[0]? = some e → e.1 = p) ∧ ∀ (k : Nat) (e : RuT), l[k]? = some e → k + 1 < l.length → t e.2.1 = 44
  | [], _, _, h => absurd h (by simp [Chn])
  | [a], p, z, h => by
    refine ⟨fun e he => ?_, fun k e hk w => absurd w (by simp)⟩
    have : a = e := Option.some.inj he
    subst this
    exact h.1
  | a :: b :: l, p, z, h => by
    obtain ⟨h1, h2, h3, h4, h5, h6⟩ := h
    refine ⟨fun e he => ?_, fun k e hk w => ?_⟩
    · have : a = e := Option.some.inj he
      subst this
      exact h1
    · cases k with
      | zero =>
        have : a = e := Option.some.inj hk
        subst this
        exact h5
      | succ k => exact (Chn_44 (b :: l) (a.2.1 + 1) z h6).2 k e hk (by simp at w ⊢; omega)
theorem seg_app {M : List Int32} {f b : Nat} (h : f ≤ b) : ∀ d, seg M f (b + d) = seg M f b ++ seg M b (b + d)
  | 0 => by rw [Nat.add_zero, seg_0, List.append_nil]
  | d + 1 => by
    rw [← Nat.add_assoc, seg_s (by omega), seg_app h d, seg_s (by omega), List.append_assoc]
theorem jn_all {B L : List Int32} {l : List RuT} {n : Nat} {c : Int32} {p z : Nat} (h : Chn (tl L) n c l p z) (hl : l.length ≤ 6) : ∀ k e, l[k]? = some e → p ≤ e.1 ∧ jn B L l 99 (k + 1) = (B ++ seg L p e.2.1, k + 1)
  | 0, e, he => by
    have e1 := (Chn_44 l p z h).1 e he
    refine ⟨by omega, ?_⟩
    rw [jn_s, if_neg (by decide), rs_at he, e1]
    show (B ++ (if (0 : Nat) = 0 then [] else [44]) ++ seg L p e.2.1, 0 + 1) = _
    rw [if_pos rfl, List.append_nil]
  | k + 1, e, he => by
    have kl := (List.getElem?_eq_some_iff.mp he).1
    obtain ⟨e0, he0⟩ : ∃ e0, l[k]? = some e0 := ⟨_, List.getElem?_eq_getElem (by omega)⟩
    obtain ⟨i1, i2⟩ := jn_all (B := B) h hl k e0 he0
    obtain ⟨c1, c2, c3, c4, -⟩ := Chn_at l p z h k e0 he0
    obtain ⟨d1, d2, -⟩ := Chn_at l p z h (k + 1) e he
    have e44 := (Chn_44 l p z h).2 k e0 he0 (by omega)
    have ef := c4 e he
    refine ⟨by omega, ?_⟩
    rw [jn_s, if_neg (by omega), rs_at he, i2]
    show (B ++ seg L p e0.2.1 ++ (if k + 1 = 0 then [] else [44]) ++ seg L e.1 e.2.1, k + 1 + 1) = _
    rw [if_neg (by omega), ef]
    congr 1
    have s1 := seg_app (M := L) (f := p) (b := e0.2.1 + 1) (by omega) (e.2.1 - (e0.2.1 + 1))
    rw [show e0.2.1 + 1 + (e.2.1 - (e0.2.1 + 1)) = e.2.1 by omega, seg_s (by omega), e44] at s1
    rw [s1, List.append_assoc, List.append_assoc, List.append_assoc]
