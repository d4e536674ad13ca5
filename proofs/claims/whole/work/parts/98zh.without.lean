/-- the reference writes its ENDS without rule x (its number xI) -/
theorem wEnds_ok {σ : GSt} {g x : Nat} {xI : Int32} {G : GM} {L B : List Int32} {Q : GSt → Prop} (g8 : g < 8) (l90 : L.length ≤ 90) (m6 : (gEn G).length ≤ 6) (hx : ∀ k, k < 6 → (nI k = xI ↔ k = x)) (hC : Chn (tl L) L.length 46 (gEn G) (gEF G) L.length) (hB : B.length ≤ 60) (hM : ∀ s : GSt, AF σ s → MdG s g G (tl L) L.length) (hT : TxM σ B) (hQ : ∀ σ' : GSt, TxM σ' ((jn B L (gEn G) x (gEn G).length).1 ++ [46]) → AF σ σ' → Q σ') : ∃ f : Nat, L_X11_without_98 Q f (nI g) xI 0 0 σ := by
  refine ⟨(gEn G).length + 1, ?_⟩
  have vg : vp_in (nI g) 9 := vp_in_nI (by omega) (by decide)
  have key : ∀ (d k : Nat) (s : GSt), k + d = (gEn G).length → TxM s (jn B L (gEn G) x k).1 → AF σ s → L_X11_without_98 Q (d + 1) (nI g) xI (nI (jn B L (gEn G) x k).2) (nI k) s := by
    intro d
    induction d with
    | zero =>
      intro k s hk hT F
      have ek : k = (gEn G).length := by omega
      have := jn_len (B := B) (L := L) (x := x) hC k
      unfold L_X11_without_98 D_X11_without_98
      rw [nI_clamp (show g < 2 ^ 31 by omega), (hM s F).2.1.2.1]
      refine ⟨vg, fun _ => ?_, fun z => absurd (nI_le (by omega) (by omega)) z⟩
      refine adds_ok (by omega) hT (fun s2 f2 x2 => hQ s2 ?_ (F.trans f2))
      rw [ek] at x2
      exact x2
    | succ d ih =>
      intro k s hk hT F
      obtain ⟨e, he⟩ : ∃ e, (gEn G)[k]? = some e := ⟨_, List.getElem?_eq_getElem (by omega)⟩
      obtain ⟨c1, c2, c3, -, -⟩ := Chn_at _ _ _ hC _ e he
      have lk := jn_len (B := B) (L := L) (x := x) hC k
      have hj := jn_s (B := B) (L := L) (l := gEn G) (x := x) (k := k)
      unfold L_X11_without_98 D_X11_without_98
      rw [nI_clamp (show g < 2 ^ 31 by omega), (hM s F).2.1.2.1, hx k (by omega)]
      have go : ¬ k = x → ∀ s2 : GSt, AF σ s2 → TxM s2 ((jn B L (gEn G) x k).1 ++ (if (jn B L (gEn G) x k).2 = 0 then [] else [44])) → D_X11_without_129 (L_X11_without_98 Q (d + 1)) Q (nI g) xI (nI (jn B L (gEn G) x k).2) (nI k) s2 := by
        intro kx s2 F2 x2
        rw [if_neg kx] at hj
        have l1 : (if (jn B L (gEn G) x k).2 = 0 then ([] : List Int32) else [44]).length ≤ 1 := by split <;> simp
        unfold D_X11_without_129
        rw [show (6 : Int32) * nI g + nI k = nI (6 * g + k) from nlin 6 g k, nI_clamp (show 6 * g + k < 2 ^ 31 by omega), ((hM s2 F2).2.2.2.1 k e he).2.2.2]
        refine ⟨vp_in_nI (by omega) (by decide), endEnd_ok g8 (hM s2 F2) l90 m6 hC he ?_⟩
        refine addsFromM (M := L) g8 x2 (hM s2 F2).2.2.2.2.2 l90 (by omega) (by omega) (by rw [List.length_append]; omega) (fun s3 x3 f3 y ey u eu => ?_)
        have h2 : (jn B L (gEn G) x (k + 1)).2 = (jn B L (gEn G) x k).2 + 1 := by rw [hj]
        rw [eu, ey, nI_1, nI_1, ← h2]
        refine ih (k + 1) s3 (by omega) ?_ (F2.trans f3)
        rw [hj, rs_at he]
        exact x3
      refine ⟨vg, fun z => absurd z (nI_ge (by omega) (by omega)), fun _ => ⟨fun z => pk_le (jn B L (gEn G) x k).2 0 (fun w => go z s F ?_) (fun w => adds_ok (by omega) hT (fun s2 f2 x2 => go z s2 (F.trans f2) ?_)), fun z y ey => ?_⟩⟩
      · rw [if_pos (by omega), List.append_nil]; exact hT
      · rw [if_neg (by omega)]; exact x2
      · rw [if_pos z] at hj
        rw [ey, nI_1, ← hj]
        exact ih (k + 1) s (by omega) (by rw [hj]; exact hT) F
  exact key (gEn G).length 0 σ (by omega) hT AF.rf
/-- the reference's text without one rule -/
theorem without_ok {σ : GSt} {g x y : Nat} {xI yI : Int32} {G : GM} {L : List Int32} {Q : GSt → Prop} (g8 : g < 8) (l90 : L.length ≤ 90) (m6 : (gMv G).length ≤ 6) (e6 : (gEn G).length ≤ 6) (hx : ∀ k, k < 6 → (nI k = xI ↔ k = x)) (hy : ∀ k, k < 6 → (nI k = yI ↔ k = y)) (hC : Chn (tl L) L.length 59 (gMv G) (gMF G) (gEF G)) (hD : Chn (tl L) L.length 46 (gEn G) (gEF G) L.length) (hm : gMF G ≤ 22) (hl : gMF G ≤ L.length) (hM : ∀ s : GSt, AF σ s → MdG s g G (tl L) L.length) (hQ : ∀ σ' : GSt, TxM σ' ((jn ((jn ([] ++ seg L 0 (gMF G)) L (gMv G) x (gMv G).length).1 ++ [59]) L (gEn G) y (gEn G).length).1 ++ [46]) → AF σ σ' → Q σ') : D_X11_without (nI g) xI yI σ Q := by
  have vg : vp_in (nI g) 9 := vp_in_nI (by omega) (by decide)
  have hb : ([] ++ seg L 0 (gMF G)).length = gMF G := by rw [List.nil_append, seg_len, Nat.sub_zero]
  unfold D_X11_without D_X11_without_0
  refine starts_ok (fun s1 f1 x1 => ⟨vg, ?_⟩)
  rw [nI_clamp (show g < 2 ^ 31 by omega), (hM s1 f1).2.1.2.2.1]
  refine addsFromM (f := 0) (M := L) g8 x1 (hM s1 f1).2.2.2.2.2 l90 (by omega) hl (by rw [List.length_nil]; omega) (fun s2 x2 f2 => ⟨(gMv G).length + 1, ?_⟩)
  generalize hBe : [] ++ seg L 0 (gMF G) = B at *
  have key : ∀ (d k : Nat) (s : GSt), k + d = (gMv G).length → TxM s (jn B L (gMv G) x k).1 → AF σ s → L_X11_without_22 Q (d + 1) (nI g) xI yI (nI (jn B L (gMv G) x k).2) (nI k) s := by
    intro d
    induction d with
    | zero =>
      intro k s hk hT F
      have ek : k = (gMv G).length := by omega
      have := jn_len (B := B) (L := L) (x := x) hC k
      unfold L_X11_without_22 D_X11_without_22
      rw [nI_clamp (show g < 2 ^ 31 by omega), (hM s F).2.1.1]
      refine ⟨vg, fun _ => ?_, fun z => absurd (nI_le (by omega) (by omega)) z⟩
      refine adds_ok (by omega) hT (fun s3 f3 x3 => ?_)
      rw [ek] at x3 this
      exact wEnds_ok g8 l90 e6 hy hD (by rw [List.length_append, List.length_singleton]; omega) (fun s4 f4 => hM s4 (F.trans (f3.trans f4))) x3 (fun s4 x4 f4 => hQ s4 x4 (F.trans (f3.trans f4)))
    | succ d ih =>
      intro k s hk hT F
      obtain ⟨e, he⟩ : ∃ e, (gMv G)[k]? = some e := ⟨_, List.getElem?_eq_getElem (by omega)⟩
      obtain ⟨c1, c2, c3, -, -⟩ := Chn_at _ _ _ hC _ e he
      have lk := jn_len (B := B) (L := L) (x := x) hC k
      have hj := jn_s (B := B) (L := L) (l := gMv G) (x := x) (k := k)
      unfold L_X11_without_22 D_X11_without_22
      rw [nI_clamp (show g < 2 ^ 31 by omega), (hM s F).2.1.1, hx k (by omega)]
      have go : ¬ k = x → ∀ s2 : GSt, AF σ s2 → TxM s2 ((jn B L (gMv G) x k).1 ++ (if (jn B L (gMv G) x k).2 = 0 then [] else [44])) → D_X11_without_53 (L_X11_without_22 Q (d + 1)) Q (nI g) xI yI (nI (jn B L (gMv G) x k).2) (nI k) s2 := by
        intro kx s2 F2 x2
        rw [if_neg kx] at hj
        have l1 : (if (jn B L (gMv G) x k).2 = 0 then ([] : List Int32) else [44]).length ≤ 1 := by split <;> simp
        unfold D_X11_without_53
        rw [show (6 : Int32) * nI g + nI k = nI (6 * g + k) from nlin 6 g k, nI_clamp (show 6 * g + k < 2 ^ 31 by omega), ((hM s2 F2).2.2.1 k e he).2.2.1]
        refine ⟨vp_in_nI (by omega) (by decide), moveEnd_ok g8 (hM s2 F2) m6 hC he ?_⟩
        refine addsFromM (M := L) g8 x2 (hM s2 F2).2.2.2.2.2 l90 (by omega) (by omega) (by rw [List.length_append]; omega) (fun s3 x3 f3 y ey u eu => ?_)
        have h2 : (jn B L (gMv G) x (k + 1)).2 = (jn B L (gMv G) x k).2 + 1 := by rw [hj]
        rw [eu, ey, nI_1, nI_1, ← h2]
        refine ih (k + 1) s3 (by omega) ?_ (F2.trans f3)
        rw [hj, rs_at he]
        exact x3
      refine ⟨vg, fun z => absurd z (nI_ge (by omega) (by omega)), fun _ => ⟨fun z => pk_le (jn B L (gMv G) x k).2 0 (fun w => go z s F ?_) (fun w => adds_ok (by omega) hT (fun s3 f3 x3 => go z s3 (F.trans f3) ?_)), fun z y ey => ?_⟩⟩
      · rw [if_pos (by omega), List.append_nil]; exact hT
      · rw [if_neg (by omega)]; exact x3
      · rw [if_pos z] at hj
        rw [ey, nI_1, ← hj]
        exact ih (k + 1) s (by omega) (by rw [hj]; exact hT) F
  exact key (gMv G).length 0 s2 (by omega) x2 (f1.trans f2)
