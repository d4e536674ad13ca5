/-- a mirrored text, k MOVES written -/
def mW (L : List Int32) (f : Nat) (l : List RuT) : Nat → List Int32
  | 0 => [] ++ seg L 0 f
  | k + 1 => mW L f l k ++ (if k = 0 then [] else [44]) ++ rs L l (l.length - 1 - k)
theorem mW_len {L : List Int32} {l : List RuT} {t : Nat → Int32} {n : Nat} {c : Int32} {f p z : Nat} (h : Chn t n c l p z) : ∀ k, (mW L f l k).length ≤ f + 4 * k
  | 0 => by
    show ([] ++ seg L 0 f).length ≤ _
    rw [List.nil_append, seg_len]
    omega
  | k + 1 => by
    show (mW L f l k ++ (if k = 0 then [] else [44]) ++ rs L l (l.length - 1 - k)).length ≤ _
    rw [List.length_append, List.length_append]
    have := mW_len (L := L) (f := f) h k
    have := rs_len (L := L) h (l.length - 1 - k)
    have : (if k = 0 then ([] : List Int32) else [44]).length ≤ 1 := by split <;> simp
    omega
theorem rs_at {L : List Int32} {l : List RuT} {k : Nat} {e : RuT} (h : l[k]? = some e) : rs L l k = seg L e.1 e.2.1 := by
  unfold rs
  rw [h]
theorem rs_nn {L : List Int32} {l : List RuT} {k : Nat} (h : ∀ e ∈ L, 0 ≤ e) : ∀ e ∈ rs L l k, 0 ≤ e := by
  unfold rs
  cases l[k]? with
  | none => exact fun e he => absurd he (by simp)
  | some x => exact seg_nn h
theorem mW_nn {L : List Int32} {l : List RuT} {f : Nat} (h : ∀ e ∈ L, 0 ≤ e) : ∀ k, ∀ e ∈ mW L f l k, 0 ≤ e
  | 0 => fun e he => by
    rcases List.mem_append.mp (show e ∈ [] ++ seg L 0 f from he) with w | w
    · exact absurd w (by simp)
    · exact seg_nn h e w
  | k + 1 => fun e he => by
    rcases List.mem_append.mp (show e ∈ (mW L f l k ++ (if k = 0 then [] else [44])) ++ rs L l (l.length - 1 - k) from he) with w | w
    · rcases List.mem_append.mp w with w | w
      · exact mW_nn h k e w
      · split at w
        · exact absurd w (by simp)
        · rw [List.mem_singleton.mp w]; decide
    · exact rs_nn h e w
theorem op_mirror : Op_mirror InvA := by
  intro x1 σ hI
  obtain ⟨ng, Gs, Ls, tp, pl, h⟩ := id hI
  have n8 := h.1.1
  have c20 : ∀ x : Int32, rfC σ x 237 20 = nI ng := fun x => by rw [rfC_ne (by decide)]; exact h.1.2.2
  unfold D_X10_mirror D_X10_mirror_0
  refine noGame_ok n8 h.1.2.1 (fun hno => ⟨fun z => absurd z (by decide), fun _ => refuse_ok rf_1 ?_⟩) (fun i hi e => ⟨fun _ => ?_, fun z => absurd rfl z⟩)
  · unfold D_X11_mirror D_X11_mirror_0
    exact isGame_ok n8 (c20 _) (fun _ => ⟨fun z => absurd rfl z, fun _ => no_ok rf_1 ⟨rfl, hI.rf rf_1⟩⟩) (fun i hi e => absurd e (hno i hi))
  · subst e
    have hg := h.2.1 i hi
    obtain ⟨hG, a1, a2, a3, a4, a5⟩ := hg.ok
    obtain ⟨-, hC, -, -, -⟩ := pAll_ok hg.1
    have m6 := hG.2.1.1
    have m1 := hG.2.1.2.1
    rw [h.1.2.1, nI_clamp (show i < 2 ^ 31 by omega)]
    refine pk_lt ng 8 (fun n8' => ⟨vp_in_nI (by omega) (by decide), ?_⟩) (fun w => refuse_ok rf_6 ?_)
    · have txt : ∀ s : GSt, (∀ a, a ≠ 3 → a ≠ 4 → s a = σ a) → TxC s (61 + 22 * i + 1) (Ls i) := fun s hs => ⟨by rw [hs _ (by omega) (by omega)]; exact hg.2.1.2.2.2.2.1, fun j hj => by rw [hs _ (by omega) (by omega)]; exact hg.2.1.2.2.2.2.2 j hj⟩
      intro s1 e1
      have r1 : ∀ a, a ≠ 3 → s1 a = σ a := fun a p => by rw [e1, up2_ne p]
      rw [r1 (61 + 22 * i) (by omega), hg.2.1.2.1.2.2.2.2.1]
      refine addPartC (f := 0) (L := []) (M := Ls i) (by omega) (by omega) (by omega) (by omega) ⟨by rw [e1, up2_at, pk_us]; rfl, fun j hj => absurd hj (Nat.not_lt_zero _)⟩ (txt s1 (fun a p _ => r1 a p)) (by omega) (by omega) (by omega) (by rw [List.length_nil]; omega) (fun s2 x2 f2 => ⟨(gMv (Gs i)).length + 1, ?_⟩)
      have lW := mW_len (L := Ls i) (f := gMF (Gs i)) hC
      obtain ⟨el, hel⟩ : ∃ e, (gMv (Gs i))[(gMv (Gs i)).length - 1]? = some e := ⟨_, List.getElem?_eq_getElem (by omega)⟩
      have last := (Chn_at _ _ _ hC _ el hel).2.2.2.2 (by omega)
      have semi : seg (Ls i) (gEF (Gs i) - 1) (Ls i).length = 59 :: seg (Ls i) (gEF (Gs i)) (Ls i).length := by
        rw [seg_first (by omega), show gEF (Gs i) - 1 + 1 = gEF (Gs i) by omega, show gEF (Gs i) - 1 = el.2.1 by omega, last.2]
      have key : ∀ (d k : Nat) (s : GSt), k + d = (gMv (Gs i)).length → TxC s 3 (mW (Ls i) (gMF (Gs i)) (gMv (Gs i)) k) → (∀ a, a ≠ 3 → a ≠ 4 → s a = σ a) → L_X1_writeMirrored_20 (fun σ_3 => D_X10_admit 3 σ_3 (fun r_4 σ_5 => (fun r1 σ1 => D_X11_mirror (nI i) σ1 (fun r2 σ2 => r1 = r2 ∧ InvA σ2)) r_4 σ_5)) (61 + 22 * i) (d + 1) 3 (nI k) s := by
        intro d
        induction d with
        | zero =>
          intro k s hk hT hf
          have ek : k = (gMv (Gs i)).length := by omega
          unfold L_X1_writeMirrored_20 D_X1_writeMirrored_20
          rw [hf (61 + 22 * i) (by omega) (by omega), hg.2.1.2.1.2.2.1, hg.2.1.2.1.2.2.2.2.2, hf (61 + 22 * i + 1) (by omega) (by omega), hg.2.1.2.2.2.2.1, show nI (gEF (Gs i)) - 1 = nI (gEF (Gs i) - 1) from pk_sub (b := 1) (by omega)]
          refine ⟨fun _ => ?_, fun z => absurd (nI_le (by omega) (by omega)) z⟩
          have lk := lW k
          refine addPartC (M := Ls i) (by omega) (by omega) (by omega) (by omega) hT (txt s hf) (by omega) (by omega) (Nat.le_refl _) (by omega) (fun s3 x3 f3 => ?_)
          refine edit_ok h n8' (by rw [List.length_append, seg_len]; omega) ?_ (fun a p q => by rw [f3 a p q, hf a p q]) x3 (fun r s4 e4 hgr => ?_)
          · intro e he
            rcases List.mem_append.mp he with w | w
            · exact mW_nn hg.2.2.2 k e w
            · exact seg_nn hg.2.2.2 e w
          · have vi : vp_in (nI i) 9 := vp_in_nI (by omega) (by decide)
            have md : ∀ s5 : GSt, AF s4 s5 → MdG s5 i (Gs i) (tl (Ls i)) (Ls i).length := fun s5 F => hg.2.2.1.rowN (N := 8) hG (by omega) (by omega) (fun a j p q r => by rw [(F.gf (ng := 8) (Nat.le_refl _)).2.2 a j p q r, e4 a (by omega)])
            unfold D_X11_mirror D_X11_mirror_0
            refine isGame_ok n8 (by rw [e4 237 (by decide)]; exact h.1.2.2) (fun hno => absurd rfl (hno i hi)) (fun _ _ _ => ⟨fun _ => ?_, fun z => absurd z (by decide)⟩)
            rw [e4 237 (by decide), h.1.2.2]
            refine ⟨fun _ => ?_, fun z => absurd ((nI_eq (b := 8) (by omega) (by decide)).mp z) (by omega)⟩
            refine starts_ok (fun s5 f5 y5 => ⟨vi, ?_⟩)
            rw [nI_clamp (show i < 2 ^ 31 by omega), (md s5 f5).2.1.2.2.1]
            refine addsFromM (f := 0) (M := Ls i) (by omega) y5 (md s5 f5).2.2.2.2.2 (by omega) (by omega) (by omega) (by rw [List.length_nil]; omega) (fun s6 y6 f6 => ⟨vi, fun z ez => ⟨(gMv (Gs i)).length + 1, ?_⟩⟩)
            have F6 := f5.trans f6
            rw [(md s6 F6).2.1.1, Int32.sub_eq_add_neg] at ez
            rw [ez]
            have keyM : ∀ (j : Nat) (s7 : GSt), j ≤ (gMv (Gs i)).length → TxM s7 (mW (Ls i) (gMF (Gs i)) (gMv (Gs i)) ((gMv (Gs i)).length - j) ++ (if (gMv (Gs i)).length - j = 0 ∨ j = 0 then [] else [44])) → AF s4 s7 → L_X11_mirror_55 (fun r2 σ2 => r = r2 ∧ InvA σ2) (j + 1) (nI i) (nI j + (-1)) s7 := by
              intro j
              induction j with
              | zero =>
                intro s7 hj y7 F7
                rw [if_pos (Or.inr rfl), List.append_nil, Nat.sub_zero] at y7
                rw [ek] at lk
                refine ⟨fun _ => ?_, fun z => absurd m1_0 z⟩
                refine adds_ok (by omega) y7 (fun s8 f8 y8 => ⟨vi, vi, ?_⟩)
                have F8 := F7.trans f8
                rw [nI_clamp (show i < 2 ^ 31 by omega), (md s8 F8).2.1.2.2.2, (md s8 F8).2.2.2.2.1]
                refine addsFromM (M := Ls i) (by omega) y8 (md s8 F8).2.2.2.2.2 (by omega) (by omega) (Nat.le_refl _) (by rw [List.length_append, List.length_singleton]; omega) (fun s9 y9 f9 => ?_)
                refine hgr s9 (F8.trans f9) ?_
                rw [semi, ek]
                rw [List.append_assoc] at y9
                exact y9
              | succ j ih =>
                intro s7 hj y7 F7
                rw [pk_m1]
                obtain ⟨e, he⟩ : ∃ e, (gMv (Gs i))[j]? = some e := ⟨_, List.getElem?_eq_getElem (by omega)⟩
                obtain ⟨c1, c2, c3, -, -⟩ := Chn_at _ _ _ hC j e he
                have lj := lW ((gMv (Gs i)).length - (j + 1))
                have l1 : (if (gMv (Gs i)).length - (j + 1) = 0 ∨ j + 1 = 0 then ([] : List Int32) else [44]).length ≤ 1 := by split <;> simp
                unfold L_X11_mirror_55 D_X11_mirror_55
                rw [show (6 : Int32) * nI i + nI j = nI (6 * i + j) from nlin 6 i j, nI_clamp (show 6 * i + j < 2 ^ 31 by omega), ((md s7 F7).2.2.1 j e he).2.2.1]
                refine ⟨fun z => absurd z (nI_pos (by omega)), fun _ => ⟨vp_in_nI (by omega) (by decide), ?_⟩⟩
                refine moveEnd_ok (by omega) (md s7 F7) m6 hC he ?_
                refine addsFromM (M := Ls i) (by omega) y7 (md s7 F7).2.2.2.2.2 (by omega) (by omega) (by omega) (by rw [List.length_append]; omega) (fun s8 y8 f8 => ?_)
                have F8 := F7.trans f8
                have eW : mW (Ls i) (gMF (Gs i)) (gMv (Gs i)) ((gMv (Gs i)).length - (j + 1)) ++ (if (gMv (Gs i)).length - (j + 1) = 0 ∨ j + 1 = 0 then [] else [44]) ++ seg (Ls i) e.1 e.2.1 = mW (Ls i) (gMF (Gs i)) (gMv (Gs i)) ((gMv (Gs i)).length - j) := by
                  rw [show (gMv (Gs i)).length - j = (gMv (Gs i)).length - (j + 1) + 1 by omega]
                  show _ = mW (Ls i) (gMF (Gs i)) (gMv (Gs i)) ((gMv (Gs i)).length - (j + 1)) ++ (if (gMv (Gs i)).length - (j + 1) = 0 then [] else [44]) ++ rs (Ls i) (gMv (Gs i)) ((gMv (Gs i)).length - 1 - ((gMv (Gs i)).length - (j + 1)))
                  rw [show (gMv (Gs i)).length - 1 - ((gMv (Gs i)).length - (j + 1)) = j by omega, rs_at he]
                  congr 2
                  split
                  · rename_i w; rw [if_pos (by omega)]
                  · rename_i w; rw [if_neg (by omega)]
                rw [eW] at y8
                have l8 := lW ((gMv (Gs i)).length - j)
                refine pk_le j 0 (fun z y ey => ?_) (fun z => adds_ok (by omega) y8 (fun s9 f9 y9 y ey => ?_))
                · rw [ey]
                  refine ih s8 (by omega) ?_ F8
                  rw [if_pos (Or.inr (by omega)), List.append_nil]
                  exact y8
                · rw [ey]
                  refine ih s9 (by omega) ?_ (F8.trans f9)
                  rw [if_neg (by omega)]
                  exact y9
            refine keyM (gMv (Gs i)).length s6 (Nat.le_refl _) ?_ F6
            rw [Nat.sub_self, if_pos (Or.inl rfl), List.append_nil]
            exact y6
        | succ d ih =>
          intro k s hk hT hf
          obtain ⟨e, he⟩ : ∃ e, (gMv (Gs i))[(gMv (Gs i)).length - 1 - k]? = some e := ⟨_, List.getElem?_eq_getElem (by omega)⟩
          obtain ⟨c1, c2, c3, -, -⟩ := Chn_at _ _ _ hC _ e he
          have hmi := hg.2.1.2.2.1 _ e he
          have lk := lW k
          unfold L_X1_writeMirrored_20 D_X1_writeMirrored_20
          rw [hf (61 + 22 * i) (by omega) (by omega), hg.2.1.2.1.2.2.1, show nI (gMv (Gs i)).length - 1 - nI k = nI ((gMv (Gs i)).length - 1 - k) by rw [show (1 : Int32) = nI 1 from rfl, pk_sub (by omega), pk_sub (by omega)], nI_clamp (show (gMv (Gs i)).length - 1 - k < 2 ^ 31 by omega)]
          refine ⟨fun z => absurd z (nI_ge (by omega) (by omega)), fun _ => ⟨vp_in_nI (by omega) (by decide), ?_⟩⟩
          refine writeRule_ok (M := Ls i) (e := e) (by omega) (by rw [hf _ (by omega) (by omega), show 61 + 22 * i + 8 + 2 + 2 * ((gMv (Gs i)).length - 1 - k) = 61 + 22 * i + 10 + 2 * ((gMv (Gs i)).length - 1 - k) by omega]; exact hmi.1) (by rw [hf _ (by omega) (by omega), show 61 + 22 * i + 8 + 2 + 2 * ((gMv (Gs i)).length - 1 - k) = 61 + 22 * i + 10 + 2 * ((gMv (Gs i)).length - 1 - k) by omega]; exact hmi.2.1) (by omega) rfl (by omega) hT (txt s hf) (by omega) c1 c2 (by omega) (by omega) (fun s3 x3 f3 y ey => ?_)
          rw [ey, nI_1]
          refine ih (k + 1) s3 (by omega) ?_ (fun a p q => by rw [f3 a p q, hf a p q])
          rw [← rs_at he] at x3
          exact x3
      exact key (gMv (Gs i)).length 0 s2 (by omega) x2 (fun a p q => by rw [f2 a p q, r1 a p])
    · unfold D_X11_mirror D_X11_mirror_0
      refine isGame_ok n8 (c20 _) (fun hno => absurd rfl (hno i hi)) (fun _ _ _ => ⟨fun _ => ?_, fun z => absurd z (by decide)⟩)
      rw [c20, show ng = 8 by omega]
      exact ⟨fun z => absurd rfl z, fun _ => no_ok rf_6 ⟨rfl, hI.rf rf_6⟩⟩
