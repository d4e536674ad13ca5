/-- the class writes its ENDS without rule x -/
theorem dropEnds_ok {σ : GSt} {i x : Nat} {G : GM} {L B : List Int32} {Q : GSt → Prop} (i53 : 53 ≤ i) (l90 : L.length ≤ 90) (m6 : (gEn G).length ≤ 6) (x31 : x < 2 ^ 31) (hC : Chn (tl L) L.length 46 (gEn G) (gEF G) L.length) (h7 : σ i 7 = nI (gEn G).length) (hR : ∀ j e, (gEn G)[j]? = some e → EnIs σ (i + 11 + 2 * j) e) (hM : TxC σ (i + 1) L) (hB : B.length ≤ 46) (hT : TxC σ 3 B) (hQ : ∀ σ' : GSt, TxC σ' 3 ((jn B L (gEn G) x (gEn G).length).1 ++ [46]) → (∀ a, a ≠ 3 → a ≠ 4 → σ' a = σ a) → Q σ') : ∃ f : Nat, L_X1_writeWithoutEnd_23 Q i f (nI x) 3 0 0 σ := by
  refine ⟨(gEn G).length + 1, ?_⟩
  have key : ∀ (d k : Nat) (s : GSt), k + d = (gEn G).length → TxC s 3 (jn B L (gEn G) x k).1 → (∀ a, a ≠ 3 → a ≠ 4 → s a = σ a) → L_X1_writeWithoutEnd_23 Q i (d + 1) (nI x) 3 (nI (jn B L (gEn G) x k).2) (nI k) s := by
    intro d
    induction d with
    | zero =>
      intro k s hk hT hf
      have ek : k = (gEn G).length := by omega
      have := jn_len (B := B) (L := L) (x := x) hC k
      unfold L_X1_writeWithoutEnd_23 D_X1_writeWithoutEnd_23
      rw [hf i (by omega) (by omega), h7]
      refine ⟨fun _ => ?_, fun z => absurd (nI_le (by omega) (by omega)) z⟩
      refine addC_ok (by omega) hT (fun s2 x2 f2 => hQ s2 ?_ (fun a p q => by rw [f2 a p q, hf a p q]))
      rw [ek] at x2
      exact x2
    | succ d ih =>
      intro k s hk hT hf
      obtain ⟨e, he⟩ : ∃ e, (gEn G)[k]? = some e := ⟨_, List.getElem?_eq_getElem (by omega)⟩
      obtain ⟨c1, c2, c3, -, -⟩ := Chn_at _ _ _ hC _ e he
      have hmi := hR _ e he
      have lk := jn_len (B := B) (L := L) (x := x) hC k
      have hj := jn_s (B := B) (L := L) (l := gEn G) (x := x) (k := k)
      unfold L_X1_writeWithoutEnd_23 D_X1_writeWithoutEnd_23
      rw [hf i (by omega) (by omega), h7, nI_clamp (show k < 2 ^ 31 by omega)]
      refine ⟨fun z => absurd z (nI_ge (by omega) (by omega)), fun _ => ⟨fun z y ey => ?_, fun z => ⟨vp_in_nI (by omega) (by decide), ?_⟩⟩⟩
      · rw [if_pos ((nI_eq (by omega) x31).mp z)] at hj
        rw [ey, nI_1, ← hj]
        exact ih (k + 1) s (by omega) (by rw [hj]; exact hT) hf
      · rw [if_neg (fun y => z (by rw [y]))] at hj
        refine writeRule_ok (M := L) (e := e) i53 (by rw [hf _ (by omega) (by omega), show i + 9 + 2 + 2 * k = i + 11 + 2 * k by omega]; exact hmi.1) (by rw [hf _ (by omega) (by omega), show i + 9 + 2 + 2 * k = i + 11 + 2 * k by omega]; exact hmi.2.1) (by omega) rfl (by omega) hT ⟨by rw [hf _ (by omega) (by omega)]; exact hM.1, fun j hj => by rw [hf _ (by omega) (by omega)]; exact hM.2 j hj⟩ l90 c1 c2 (by omega) (by omega) (fun s3 x3 f3 y ey u eu => ?_)
        have h2 : (jn B L (gEn G) x (k + 1)).2 = (jn B L (gEn G) x k).2 + 1 := by rw [hj]
        rw [eu, ey, nI_1, nI_1, ← h2]
        refine ih (k + 1) s3 (by omega) ?_ (fun a p q => by rw [f3 a p q, hf a p q])
        rw [hj, rs_at he]
        exact x3
  exact key (gEn G).length 0 σ (by omega) hT (fun _ _ _ => rfl)
/-- where an END ends, for the reference -/
theorem endEnd_ok {σ : GSt} {g k : Nat} {G : GM} {L : List Int32} {e : RuT} {Q : Int32 → GSt → Prop} (g8 : g < 8) (hM : MdG σ g G (tl L) L.length) (l90 : L.length ≤ 90) (m6 : (gEn G).length ≤ 6) (hC : Chn (tl L) L.length 46 (gEn G) (gEF G) L.length) (he : (gEn G)[k]? = some e) (hQ : Q (nI e.2.1) σ) : D_X11_endEnd (nI g) (nI k) σ Q := by
  obtain ⟨c1, c2, c3, c4, c5⟩ := Chn_at _ _ _ hC k e he
  have kl := (List.getElem?_eq_some_iff.mp he).1
  have vg : vp_in (nI g) 9 := vp_in_nI (by omega) (by decide)
  unfold D_X11_endEnd D_X11_endEnd_0
  rw [nI_clamp (show g < 2 ^ 31 by omega), hM.2.1.2.1, hM.2.2.2.2.1, nI_1, show (6 : Int32) * nI g + nI k = nI (6 * g + k) from nlin 6 g k, nI_1, nI_clamp (show 6 * g + k + 1 < 2 ^ 31 by omega)]
  refine ⟨vg, pk_le (gEn G).length (k + 1) (fun z => ⟨vg, ?_⟩) (fun z => ⟨vp_in_nI (by omega) (by decide), ?_⟩)⟩
  · rw [(c5 (by omega)).1, nI_pred]
    exact hQ
  · obtain ⟨e', he'⟩ : ∃ e', (gEn G)[k + 1]? = some e' := ⟨_, List.getElem?_eq_getElem z⟩
    have := (hM.2.2.2.1 (k + 1) e' he').2.2.2
    rw [show 6 * g + k + 1 = 6 * g + (k + 1) by omega, this, c4 e' he', nI_pred]
    exact hQ
