theorem sh8 : ∀ k, k < 8 → (((8 * nI k).toInt64 &&& 63).toBitVec.smod 64).toNat = 8 * k ∧ (((8 * nI k).toInt64.toUInt64 &&& Int64.toUInt64 63).toBitVec % 64).toNat = 8 * k := by decide
theorem b255 : ∀ i, i < 32 → (255#64).getLsbD i = decide (i < 8) ∧ (255#32).getLsbD i = decide (i < 8) := by decide
theorem byte_eq (l : Int64) {k : Nat} (hk : k < 8) : Int64.toInt32 (jlshr l (8 * nI k) &&& 255) = Int64.toInt32 (jlushr l (8 * nI k)) &&& 255 := by
  obtain ⟨h1, h2⟩ := sh8 k hk
  apply Int32.toBitVec.inj
  apply BitVec.eq_of_getLsbD_eq
  intro i hi
  obtain ⟨b1, b2⟩ := b255 i hi
  have hlt : i < 64 := by omega
  have e1 : (Int64.toInt32 (jlshr l (8 * nI k) &&& 255)).toBitVec.getLsbD i = (l.toBitVec.getLsbD (8 * k + i) && decide (i < 8)) := by
    show ((jlshr l (8 * nI k) &&& 255).toBitVec.signExtend 32).getLsbD i = _
    rw [BitVec.getLsbD_signExtend, decide_eq_true hi, if_pos hlt, Bool.true_and]
    show ((jlshr l (8 * nI k)).toBitVec &&& 255#64).getLsbD i = _
    rw [BitVec.getLsbD_and, b1]
    have : (jlshr l (8 * nI k)).toBitVec = l.toBitVec.sshiftRight (8 * k) := by
      show l.toBitVec.sshiftRight' (((8 * nI k).toInt64 &&& 63).toBitVec.smod 64) = _
      rw [BitVec.sshiftRight_eq', h1]
    rw [this, BitVec.getLsbD_sshiftRight]
    rcases Decidable.em (i < 8) with z | z
    · rw [if_pos (by omega), decide_eq_false (show ¬ 64 ≤ i by omega)]
      simp
    · rw [decide_eq_false z, Bool.and_false, Bool.and_false]
  have e2 : (Int64.toInt32 (jlushr l (8 * nI k)) &&& 255).toBitVec.getLsbD i = (l.toBitVec.getLsbD (8 * k + i) && decide (i < 8)) := by
    show ((jlushr l (8 * nI k)).toBitVec.signExtend 32 &&& 255#32).getLsbD i = _
    rw [BitVec.getLsbD_and, b2, BitVec.getLsbD_signExtend, decide_eq_true hi, if_pos hlt, Bool.true_and]
    have : (jlushr l (8 * nI k)).toBitVec = l.toBitVec >>> (8 * k) := by
      show l.toBitVec >>> (((8 * nI k).toInt64.toUInt64 &&& Int64.toUInt64 63).toBitVec % 64) = _
      rw [BitVec.ushiftRight_eq', h2]
    rw [this, BitVec.getLsbD_ushiftRight]
  rw [e1, e2]
def byt (l : Int64) (k : Nat) : Int32 := Int64.toInt32 (jlushr l (8 * nI k)) &&& 255
theorem byt_0 {l : Int64} {k : Nat} : 0 ≤ byt l k := by
  obtain ⟨j, hj, e⟩ := pk_andE (Int64.toInt32 (jlushr l (8 * nI k))) (m := 255) 8 (by decide)
  unfold byt
  rw [e]
  exact nI_pos' (by omega)
def bys (l : Int64) (k : Nat) : List Int32 := (List.range k).map (byt l)
theorem bys_s {l : Int64} {k : Nat} : bys l (k + 1) = bys l k ++ [byt l k] := by
  unfold bys
  rw [List.range_succ, List.map_append]
  rfl
theorem bys_len {l : Int64} {k : Nat} : (bys l k).length = k := by
  unfold bys
  rw [List.length_map, List.length_range]
theorem addC_ok {σ : GSt} {o : Nat} {L : List Int32} {v : Int32} {Q : GSt → Prop} (hl : L.length < 90) (hT : TxC σ o L) (hQ : ∀ σ' : GSt, TxC σ' o (L ++ [v]) → (∀ a, a ≠ o → a ≠ o + 1 → σ' a = σ a) → Q σ') : D_X9_add o v σ Q := by
  refine add_ok hT.1 hl (hQ _ ⟨by rw [tadd_len, List.length_append, List.length_singleton], fun j hj => ?_⟩ (fun a p q => tadd_row p q))
  rw [List.length_append, List.length_singleton] at hj
  rw [tadd_byte]
  split
  · rename_i z
    rw [z, tl_r]
  · rw [tl_l (by omega)]
    exact hT.2 j (by omega)
/-- the reference's tape -/
def TxT (σ : GSt) (L : List Int32) : Prop := σ 237 19 = nI L.length ∧ ∀ j, j < L.length → σ 239 j = tl L j
theorem op_feed : Op_feed InvA := by
  intro x1 l σ hI
  obtain ⟨ng, Gs, Ls, tp, pl, h⟩ := id hI
  obtain ⟨⟨n8, c0, c1⟩, -, -, ⟨t1, t2, t3, t4⟩, -⟩ := id h
  have out : ∀ x : Int32, (x1 < 1 → x = -4) → (¬ x1 < 1 → x = -6 ∧ (8 < x1 ∨ ¬ nI tp.length + x1 ≤ 90)) → D_X11_feed x1 l (rfC σ x) (fun r2 σ2 => x = r2 ∧ InvA σ2) := by
    intro x k4 k6
    unfold D_X11_feed D_X11_feed_0
    refine out_ok (lo := 1) (hi := 8) (by decide) (by decide) (fun y => ⟨fun _ => ⟨fun z => absurd z (by decide), fun _ => ?_⟩, fun z => absurd z (by decide)⟩) (fun y y2 => ⟨fun _ => ⟨fun z => absurd z (by decide), fun _ => ?_⟩, fun z => absurd z (by decide)⟩) (fun y y2 => ⟨fun z => absurd rfl z, fun _ => ⟨fun z => ?_, fun z => ⟨fun w => absurd w (by decide), fun _ => ?_⟩⟩⟩)
    · rw [k4 y]; exact no_ok rf_4 ⟨rfl, hI.rf rf_4⟩
    · rw [(k6 y).1]; exact no_ok rf_6 ⟨rfl, hI.rf rf_6⟩
    · rw [rfC_ne (by decide), t3] at z
      rcases (k6 y).2 with w | w
      · exact absurd w y2
      · exact absurd z w
    · rw [(k6 y).1]; exact no_ok rf_6 ⟨rfl, hI.rf rf_6⟩
  unfold D_X10_feed D_X10_feed_0
  refine ⟨fun q => ⟨fun q2 => refuse_ok rf_6 (out _ (fun y => absurd y (Int32.not_lt.mpr q)) (fun _ => ⟨rfl, Or.inl q2⟩)), fun q2 => ⟨fun q3 => ?_, fun q3 => refuse_ok rf_6 (out _ (fun y => absurd y (Int32.not_lt.mpr q)) (fun _ => ⟨rfl, Or.inr (by rw [t2] at q3; exact q3)⟩))⟩⟩, fun q => refuse_ok rf_4 (out _ (fun _ => rfl) (fun y => absurd (Int32.not_le.mp q) y))⟩
  obtain ⟨n, hn, en⟩ := nI_of2 (n := 8) (by decide) (Int32.not_lt.mpr (Int32.le_trans (by decide) q)) (Int32.not_lt.mp q2)
  subst en
  have n1 : 1 ≤ n := (nI_leI (a := 1) (by decide) (by omega)).mp q
  rw [t2, nI_add] at q3
  have l90 : tp.length + n ≤ 90 := (nI_leI (b := 90) (by omega) (by decide)).mp q3
  have at1 : ∀ j, j < tp.length → σ 2 j = tl tp j ∧ σ 239 j = tl tp j := fun j hj => by
    obtain ⟨e, he⟩ : ∃ e, tp[j]? = some e := ⟨_, List.getElem?_eq_getElem hj⟩
    rw [tl_at he]
    exact ⟨(t4 j e he).1, (t4 j e he).2.1⟩
  have len : ∀ k, (tp ++ bys l k).length = tp.length + k := fun k => by rw [List.length_append, bys_len]
  refine ⟨n + 1, ?_⟩
  have keyC : ∀ (d k : Nat) (s : GSt), k + d = n → TxC s 1 (tp ++ bys l k) → (∀ a, a ≠ 1 → a ≠ 2 → s a = σ a) → L_X10_feed_42 (fun r1 σ1 => D_X11_feed (nI n) l σ1 (fun r2 σ2 => r1 = r2 ∧ InvA σ2)) (d + 1) (nI n) l (nI k) s := by
    intro d
    induction d with
    | zero =>
      intro k s hk hT hf
      have ek : k = n := by omega
      subst ek
      refine ⟨fun _ => ?_, fun z => absurd (nI_le (Nat.le_refl _) (by omega)) z⟩
      rw [hT.1, len]
      unfold D_X11_feed D_X11_feed_0
      refine out_ok (lo := 1) (hi := 8) (by decide) (by decide) (fun y => absurd y (nI_nlt (b := 1) n1 (by omega))) (fun _ y => absurd y (nI_nlt (a := 8) hn (by omega))) (fun _ _ => ⟨fun z => absurd rfl z, fun _ => ⟨fun _ => ⟨fun _ => ⟨k + 1, ?_⟩, fun z => absurd rfl z⟩, fun z => ?_⟩⟩)
      · have keyM : ∀ (d j : Nat) (s2 : GSt), j + d = k → TxT s2 (tp ++ bys l j) → (∀ a, a ≠ 237 → a ≠ 239 → s2 a = s a) → (∀ i, i ≠ 19 → s2 237 i = s 237 i) → L_X11_feed_46 (fun r2 σ2 => nI (tp.length + k) = r2 ∧ InvA σ2) (d + 1) (nI k) l (nI j) s2 := by
          intro d
          induction d with
          | zero =>
            intro j s2 hj hT2 hf2 h7
            have ej : j = k := by omega
            subst ej
            refine ⟨fun _ => ?_, fun z => absurd (nI_le (Nat.le_refl _) (by omega)) z⟩
            refine ⟨by rw [hT2.1, len], ng, Gs, Ls, tp ++ bys l j, pl, ?_⟩
            refine h.rk ⟨fun a p q => by rw [hf2 a (by omega) (by omega), hf a (by omega) (by omega)], fun i p => by rw [h7 i (by omega), hf 237 (by decide) (by decide)], fun a p => by rw [hf2 a (by omega) (by omega), hf a (by omega) (by omega)], fun a i p q _ => by rw [hf2 a (by omega) (by omega), hf a (by omega) (by omega)]⟩ ⟨by rw [len]; omega, by rw [hf2 1 (by decide) (by decide)]; exact hT.1, hT2.1, fun i e he => ?_⟩ (by rw [hf2 0 (by decide) (by decide), hf 0 (by decide) (by decide)]; exact c0) (by rw [h7 20 (by decide), hf 237 (by decide) (by decide)]; exact c1)
            have hi := (List.getElem?_eq_some_iff.mp he).1
            refine ⟨by rw [hf2 2 (by decide) (by decide), ← tl_at he]; exact hT.2 i hi, by rw [← tl_at he]; exact hT2.2 i hi, ?_⟩
            rcases List.mem_append.mp (List.mem_of_getElem? he) with w | w
            · obtain ⟨m, hm⟩ := List.getElem?_of_mem w
              exact (t4 m e hm).2.2
            · unfold bys at w
              obtain ⟨m, _, hm⟩ := List.mem_map.mp w
              rw [← hm]
              exact byt_0
          | succ d ih =>
            intro j s2 hj hT2 hf2 h7
            unfold L_X11_feed_46 D_X11_feed_46
            rw [hT2.1, len, nI_clamp (show tp.length + j < 2 ^ 31 by omega), byte_eq l (show j < 8 by omega)]
            refine ⟨fun z => absurd z (nI_ge (by omega) (by omega)), fun _ => ⟨vp_in_nI (by omega) (by decide), fun s3 e3 s4 e4 y ey => ?_⟩⟩
            have e19 : s3 237 19 = nI (tp.length + j) := by rw [e3, up2_ne (by decide), hT2.1, len]
            rw [e19, nI_1] at e4
            rw [ey, nI_1]
            refine ih (j + 1) s4 (by omega) ⟨by rw [e4, up2_at, pk_us, len]; rfl, fun i hi => ?_⟩ (fun a p q => by rw [e4, up2_ne p, e3, up2_ne q, hf2 a p q]) (fun i p => by rw [e4, up2_at, pk_un p, e3, up2_ne (by decide), h7 i p])
            rw [len] at hi
            rw [e4, up2_ne (by decide), e3, up2_at, bys_s, ← List.append_assoc]
            rcases Decidable.em (i = tp.length + j) with z | z
            · have := tl_r (L := tp ++ bys l j) (x := byt l j)
              rw [len] at this
              rw [z, pk_us, this]
              rfl
            · rw [pk_un z, tl_l (by rw [len]; omega)]
              exact hT2.2 i (by rw [len]; omega)
        have e0 : bys l 0 = [] := rfl
        exact keyM k 0 s (by omega) (by rw [e0, List.append_nil]; exact ⟨by rw [hf 237 (by decide) (by decide)]; exact t3, fun j hj => by rw [hf 239 (by decide) (by decide)]; exact (at1 j hj).2⟩) (fun _ _ _ => rfl) (fun _ _ => rfl)
      · rw [hf 237 (by decide) (by decide), t3, nI_add] at z
        exact absurd (nI_le (b := 90) l90 (by decide)) z
    | succ d ih =>
      intro k s hk hT hf
      refine ⟨fun z => absurd z (nI_ge (by omega) (by omega)), fun _ => ?_⟩
      refine addC_ok (by rw [len]; omega) hT (fun s2 hT2 f2 y ey => ?_)
      rw [ey, nI_1]
      refine ih (k + 1) s2 (by omega) ?_ (fun a p q => by rw [f2 a p q, hf a p q])
      rw [bys_s, ← List.append_assoc]
      exact hT2
  have e0 : bys l 0 = [] := rfl
  exact keyC n 0 σ (by omega) (by rw [e0, List.append_nil]; exact ⟨t2, fun j hj => (at1 j hj).1⟩) (fun _ _ _ => rfl)
