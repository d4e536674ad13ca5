/-- one byte more at the end of the Text o, which has len bytes -/
def tadd (σ : GSt) (o len : Nat) (v : Int32) : GSt := up2 (up2 σ (o + 1) len v) o 1 (nI (len + 1))
theorem tadd_len {σ : GSt} {o len : Nat} {v : Int32} : tadd σ o len v o 1 = nI (len + 1) := by simp [tadd, up2_app]
theorem tadd_byte {σ : GSt} {o len : Nat} {v : Int32} (j : Nat) : tadd σ o len v (o + 1) j = if j = len then v else σ (o + 1) j := by simp [tadd, up2_app]
theorem tadd_row {σ : GSt} {o len : Nat} {v : Int32} {a : Nat} (h1 : a ≠ o) (h2 : a ≠ o + 1) : tadd σ o len v a = σ a := by
  funext j
  simp [tadd, up2_app, h1, h2]
theorem add_ok {o len : Nat} {v : Int32} {σ : GSt} {Q : GSt → Prop} (hl : σ o 1 = nI len) (hn : len < 90) (h : Q (tadd σ o len v)) : D_X9_add o v σ Q := by
  unfold D_X9_add D_X9_add_0
  refine ⟨fun q => ?_, fun q => ⟨?_, ?_⟩⟩
  · rw [hl] at q
    exact absurd q (nI_ge hn (by decide))
  · rw [hl]
    exact vp_in_nI hn (by decide)
  · intro σ1 e1 σ2 e2
    subst e1
    subst e2
    have e3 : up2 (up2 σ (o + 1) (Int32.toNatClampNeg (σ o 1)) v) o 1 (up2 σ (o + 1) (Int32.toNatClampNeg (σ o 1)) v o 1 + 1) = tadd σ o len v := by
      rw [hl, nI_clamp (by omega)]
      unfold tadd
      congr 1
      rw [up2_app, if_neg (by omega), hl]
      exact nI_1 len
    rw [e3]
    exact h
/-- n bytes v 0, v 1 .. more -/
def tadds (σ : GSt) (o len : Nat) (v : Nat → Int32) : Nat → GSt
  | 0 => σ
  | i + 1 => tadd (tadds σ o len v i) o (len + i) (v i)
theorem tadds_len {σ : GSt} {o len : Nat} {v : Nat → Int32} (h : σ o 1 = nI len) : ∀ i, tadds σ o len v i o 1 = nI (len + i)
  | 0 => h
  | _ + 1 => tadd_len
theorem tadds_row {σ : GSt} {o len : Nat} {v : Nat → Int32} {a : Nat} (h1 : a ≠ o) (h2 : a ≠ o + 1) : ∀ i, tadds σ o len v i a = σ a
  | 0 => rfl
  | i + 1 => (tadd_row h1 h2).trans (tadds_row h1 h2 i)
theorem tadds_slot {σ : GSt} {o len : Nat} {v : Nat → Int32} {j : Nat} (h : j ≠ 1) : ∀ i, tadds σ o len v i o j = σ o j
  | 0 => rfl
  | i + 1 => by
    have e : tadd (tadds σ o len v i) o (len + i) (v i) o j = tadds σ o len v i o j := by simp [tadd, up2_app, h]
    exact e.trans (tadds_slot h i)
theorem tadds_byte {σ : GSt} {o len : Nat} {v : Nat → Int32} (j : Nat) : ∀ i, tadds σ o len v i (o + 1) j = if len ≤ j ∧ j < len + i then v (j - len) else σ (o + 1) j
  | 0 => by rw [if_neg (by omega)]; rfl
  | i + 1 => by
    show tadd (tadds σ o len v i) o (len + i) (v i) (o + 1) j = _
    rw [tadd_byte, tadds_byte j i]
    by_cases h : j = len + i
    · subst h
      rw [if_pos rfl, if_pos (by omega)]
      congr 1
      omega
    · rw [if_neg h]
      by_cases h2 : len ≤ j ∧ j < len + i
      · rw [if_pos h2, if_pos (by omega)]
      · rw [if_neg h2, if_neg (by omega)]
/-- addPart of the bytes first .. behind - 1 of another Text -/
theorem addPart_ok {o r len n first behind : Nat} {σ : GSt} {Q : GSt → Prop} (hor : r ≠ o) (hor2 : r ≠ o + 1) (hor3 : r + 1 ≠ o) (hor4 : r + 1 ≠ o + 1) (hl : σ o 1 = nI len) (hr : σ r 1 = nI n) (hn : n ≤ 90) (hb : behind ≤ n) (hf : first ≤ behind) (hroom : len + (behind - first) ≤ 90) (h : Q (tadds σ o len (fun i => σ (r + 1) (first + i)) (behind - first))) : D_X9_addPart o r (nI first) (nI behind) σ Q := by
  unfold D_X9_addPart D_X9_addPart_0
  refine ⟨behind - first + 1, ?_⟩
  have key : ∀ (d i : Nat), i + d = behind - first → L_X9_addPart_3 Q o (d + 1) r (nI behind) (nI (first + i)) (tadds σ o len (fun i => σ (r + 1) (first + i)) i) := by
    intro d
    induction d with
    | zero =>
      intro i hi
      refine ⟨fun _ => ?_, fun q => absurd (nI_le (by omega) (by omega)) q⟩
      rw [show i = behind - first by omega]
      exact h
    | succ d ih =>
      intro i hi
      refine ⟨fun q => absurd q (nI_ge (by omega) (by omega)), fun _ => ?_⟩
      have hr1 : tadds σ o len (fun i => σ (r + 1) (first + i)) i r = σ r := tadds_row hor hor2 i
      have hr2 : tadds σ o len (fun i => σ (r + 1) (first + i)) i (r + 1) = σ (r + 1) := tadds_row hor3 hor4 i
      refine ⟨fun q => absurd q (nI_pos (by omega)), fun _ => ⟨fun q => ?_, fun _ => ⟨vp_in_nI (by omega) (by decide), ?_⟩⟩⟩
      · rw [hr1, hr] at q
        exact absurd q (nI_ge (by omega) (by omega))
      · refine add_ok (len := len + i) (tadds_len hl i) (by omega) ?_
        intro x ex
        subst ex
        have e := ih (i + 1) (by omega)
        rw [show nI (first + i) + 1 = nI (first + (i + 1)) from nI_1 (first + i)]
        have e2 : tadd (tadds σ o len (fun i => σ (r + 1) (first + i)) i) o (len + i) (tadds σ o len (fun i => σ (r + 1) (first + i)) i (r + 1) (Int32.toNatClampNeg (nI (first + i)))) = tadds σ o len (fun i => σ (r + 1) (first + i)) (i + 1) := by
          rw [hr2, nI_clamp (by omega)]
          rfl
        rw [e2]
        exact e
  exact key (behind - first) 0 (by omega)
