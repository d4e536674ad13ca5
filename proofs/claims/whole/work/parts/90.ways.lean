def sumL (l : List Nat) : Nat := l.foldr (· + ·) 0
theorem sumL_cons (x : Nat) (l : List Nat) : sumL (x :: l) = x + sumL l := rfl
theorem sumL_app : ∀ (l l' : List Nat), sumL (l ++ l') = sumL l + sumL l'
  | [], l' => by simp [sumL]
  | x :: l, l' => by
    have := sumL_app l l'
    rw [List.cons_append, sumL_cons, sumL_cons, this]
    omega
/-- how many plays of at most n moves there are, all lengths together -/
def tot (G : GM) : Nat → PS → Nat
  | 0, _ => 0
  | n + 1, ps => (mvl G ps).length + sumL ((mvl G ps).map fun m => tot G n (stp G ps m))
/-- how many plays of just j moves (at most n) -/
def wys (G : GM) : Nat → PS → Nat → Nat
  | 0, _, _ => 0
  | n + 1, ps, j => if j = 0 then 0 else if j = 1 then (mvl G ps).length else sumL ((mvl G ps).map fun m => wys G n (stp G ps m) (j - 1))
theorem tot_s {G : GM} {n : Nat} {ps : PS} : tot G (n + 1) ps = (mvl G ps).length + sumL ((mvl G ps).map fun m => tot G n (stp G ps m)) := rfl
theorem wys_s {G : GM} {n : Nat} {ps : PS} {j : Nat} : wys G (n + 1) ps j = if j = 0 then 0 else if j = 1 then (mvl G ps).length else sumL ((mvl G ps).map fun m => wys G n (stp G ps m) (j - 1)) := rfl
theorem sum0 {α : Type} {f : α → Nat} (hf : ∀ x, f x = 0) : ∀ l : List α, sumL (l.map f) = 0
  | [] => rfl
  | x :: l => by rw [List.map_cons, sumL_cons, hf, sum0 hf l]
theorem wys_0 {G : GM} : ∀ (n : Nat) (ps : PS), wys G n ps 0 = 0
  | 0, _ => rfl
  | n + 1, ps => by rw [wys_s, if_pos rfl]
theorem wys_1 {G : GM} {ps : PS} {j : Nat} : wys G 1 ps j = if j = 1 then (mvl G ps).length else 0 := by
  rw [wys_s]
  by_cases h0 : j = 0
  · rw [if_pos h0, if_neg (by omega)]
  · rw [if_neg h0]
    by_cases h1 : j = 1
    · rw [if_pos h1, if_pos h1]
    · rw [if_neg h1, if_neg h1]
      exact sum0 (fun _ => rfl) _
theorem countWays_ok {o i : Nat} {G : GM} (hG : GOK G) (ho : kd o = 5) (hi : kd i = 1) (n : Nat) (hn : n ≤ 6) : ∀ (r F dp T : Nat) (W : Nat → Nat) (ps : PS) (σ : GSt) (Q : GSt → Prop), dp + r = n + 1 → 1 ≤ dp → r < F → T ≤ 3000 → PV G ps → PosC σ o i ps → ClB σ i G → σ 29 1 = nI T → (∀ j, j < 7 → σ 30 j = nI (W j)) → (∀ (σ' : GSt) (T' : Nat), PosC σ' o i ps → (∀ a, a ≠ o → a ≠ 29 → a ≠ 30 → (a < 32 + dp ∨ 38 < a) → σ' a = σ a) → σ' 29 1 = nI T' → T' ≤ 3252 → ((T' = T + tot G r ps ∧ ∀ j, j < 7 → σ' 30 j = nI (W j + wys G r ps (j + 1 - dp))) ∨ (3000 < T' ∧ 3000 < T + tot G r ps)) → Q σ') → D_X3_countWays F o (nI dp) (nI n) σ Q := by
  have oK := kd5 ho
  have iK := kd1 hi
  intro r
  induction r with
  | zero =>
    intro F dp T W ps σ Q hdp h1 hF hT hV hP hB hs hW hQ
    obtain ⟨F, rfl⟩ : ∃ f, F = f + 1 := ⟨F - 1, by omega⟩
    exact ⟨fun _ => hQ σ T hP (fun _ _ _ _ _ => rfl) hs (by omega) (Or.inl ⟨rfl, fun j hj => by rw [hW j hj]; rfl⟩), fun y => absurd (nI_lt (by omega) (by omega)) y⟩
  | succ r ih =>
    intro F dp T W ps σ Q hdp h1 hF hT hV hP hB hs hW hQ
    obtain ⟨F, rfl⟩ : ∃ f, F = f + 1 := ⟨F - 1, by omega⟩
    refine ⟨fun y => absurd y (nI_nlt (by omega) (by omega)), fun _ => ⟨fun _ => ⟨vp_in_nI (by omega) (by decide), ?_⟩, fun y => absurd (nI_le (b := 6) (by omega) (by decide)) y⟩⟩
    rw [nI_clamp (show dp < 2 ^ 31 by omega), show 31 + 1 + dp = 32 + dp by omega]
    have hlen := mvl_len hG hV
    refine listC_ok hG hV (rows256 _ (by omega) (by omega)) (by omega) (by omega) hP hB (fun s2 hRow hfr => ?_)
    refine ⟨vp_in_nI (by omega) (by decide), vp_in_nI (by omega) (by decide), fun s3 e3 s4 e4 => ?_⟩
    rw [hfr 30 (by omega), hW dp (by omega), nI_add] at e3
    have t3 : s3 29 1 = nI T := by rw [e3, up2_ne (by decide), hfr 29 (by omega)]; exact hs
    rw [t3, nI_add] at e4
    have f4 : ∀ a, a ≠ o → a ≠ 29 → a ≠ 30 → a ≠ 32 + dp → s4 a = σ a := fun a h1 h2 h3 h4 => by rw [e4, up2_ne h2, e3, up2_ne h3, hfr a h4]
    have P4 : PosC s4 o i ps := hP.row (by rw [e4, up2_ne (by omega), e3, up2_ne (by omega), hfr o (by omega)])
    have R4 : RowIs s4 (32 + dp) (mvl G ps) := hRow.row (by rw [e4, up2_ne (by omega), e3, up2_ne (by omega)])
    have T4 : s4 29 1 = nI (T + (mvl G ps).length) := by rw [e4]; simp [up2_app]
    have W4 : ∀ j, j < 7 → s4 30 j = nI (W j + wys G 1 ps (j + 1 - dp)) := by
      intro j hj
      rw [e4, up2_ne (by decide), e3, up2_app, wys_1]
      by_cases e : j = dp
      · subst e
        rw [if_pos ⟨rfl, rfl⟩, if_pos (by omega)]
      · rw [if_neg (by omega), if_neg (by omega), hfr 30 (by omega)]
        exact hW j hj
    refine ⟨fun hne => ?_, fun he => ?_⟩
    · have hlt : dp < n := by
        rcases Nat.lt_or_ge dp n with y | y
        · exact y
        · exact absurd (show nI dp = nI n by rw [show dp = n by omega]) hne
      intro xa ea xb eb
      rw [P4.1.2.2.1] at ea
      rw [P4.1.2.2.2.1] at eb
      refine ⟨(mvl G ps).length + 1, ?_⟩
      have key : ∀ (d j T' : Nat) (τ : GSt), j + d = (mvl G ps).length → T' ≤ 3252 → PosC τ o i ps → RowIs τ (32 + dp) (mvl G ps) → (∀ a, a ≠ o → a ≠ 29 → a ≠ 30 → (a < 32 + dp ∨ 38 < a) → τ a = σ a) → τ 29 1 = nI T' → ((T' = T + (mvl G ps).length + sumL (((mvl G ps).take j).map fun m => tot G r (stp G ps m)) ∧ ∀ x, x < 7 → τ 30 x = nI (W x + (wys G 1 ps (x + 1 - dp) + sumL (((mvl G ps).take j).map fun m => wys G r (stp G ps m) (x - dp))))) ∨ (3000 < T' ∧ 3000 < T + tot G (r + 1) ps)) → L_X3_countWays_71 (D_X3_countWays F) Q (d + 1) o (nI dp) (nI n) (32 + dp) (nI (mvl G ps).length) xa xb (nI j) τ := by
        intro d
        induction d with
        | zero =>
          intro j T' τ hj hT' hPt hRt hft ht hD
          refine ⟨fun _ => ?_, fun y => absurd (nI_le (by omega) (by omega)) y⟩
          refine hQ τ T' hPt hft ht hT' ?_
          rcases hD with ⟨d1, d2⟩ | hD
          · left
            rw [List.take_of_length_le (by omega)] at d1 d2
            refine ⟨by rw [tot_s]; omega, fun x hx => ?_⟩
            rw [d2 x hx]
            congr 2
            rw [wys_1, wys_s]
            by_cases q0 : x + 1 - dp = 0
            · rw [if_pos q0, if_neg (by omega), Nat.zero_add, show x - dp = 0 by omega]
              exact sum0 (fun m => wys_0 r _) _
            · rw [if_neg q0]
              by_cases q1 : x + 1 - dp = 1
              · rw [if_pos q1, if_pos q1, show x - dp = 0 by omega, sum0 (fun m => wys_0 r _) _]
                omega
              · rw [if_neg q1, if_neg q1, Nat.zero_add, show x + 1 - dp - 1 = x - dp by omega]
          · exact Or.inr hD
        | succ d ihd =>
          intro j T' τ hj hT' hPt hRt hft ht hD
          obtain ⟨m, hm⟩ : ∃ m, (mvl G ps)[j]? = some m := ⟨_, List.getElem?_eq_getElem (by omega)⟩
          have hmem : m ∈ mvl G ps := List.mem_of_getElem? hm
          obtain ⟨z, -⟩ := mvl_mem hG hV hmem
          obtain ⟨-, w0, ek0, -⟩ := hV.2.2.2.2 z
          have htake : (mvl G ps).take (j + 1) = (mvl G ps).take j ++ [m] := by rw [List.take_add_one, hm]; rfl
          have hsplit : sumL ((mvl G ps).map fun m => tot G r (stp G ps m)) = sumL (((mvl G ps).take j).map fun m => tot G r (stp G ps m)) + (tot G r (stp G ps m) + sumL (((mvl G ps).drop (j + 1)).map fun m => tot G r (stp G ps m))) := by
            conv => lhs; rw [← List.take_append_drop j (mvl G ps), drop_cons hm, List.map_append, List.map_cons, sumL_app, sumL_cons]
          refine ⟨fun y => absurd y (nI_ge (by omega) (by omega)), fun _ => ?_⟩
          rw [ht]
          refine pk_lt 3000 T' (fun y => ?_) (fun y => ⟨?_, ?_⟩)
          · refine hQ τ T' hPt hft ht hT' (Or.inr ⟨y, ?_⟩)
            rcases hD with ⟨d1, -⟩ | ⟨-, d2⟩
            · rw [tot_s]
              omega
            · exact d2
          · rw [rows256 _ (by omega) (by omega)]
            exact vp_in_nI (by omega) (by decide)
          · rw [nI_clamp (by omega), hRt j m hm]
            have Bt : ClB τ i G := hB.row hG (fun a h1 h2 => hft a (by omega) (by omega) (by omega) (by omega))
            refine make_ok hG hV hmem (by omega) hPt Bt (fun s5 P5 f5 => ?_)
            have B5 : ClB s5 i G := Bt.row hG (fun a h1 h2 => f5 a (by omega))
            rw [nI_1 dp]
            rcases hD with ⟨d1, d2⟩ | ⟨d1, -⟩
            · refine ih F (dp + 1) T' (fun x => W x + (wys G 1 ps (x + 1 - dp) + sumL (((mvl G ps).take j).map fun m => wys G r (stp G ps m) (x - dp)))) (stp G ps m) s5 _ (by omega) (by omega) (by omega) y (stp_PV hG hV hmem) P5 B5 (by rw [f5 29 (by omega)]; exact ht) (fun x hx => by rw [f5 30 (by omega)]; exact d2 x hx) (fun s6 T6 P6 f6 t6 l6 D6 => ?_)
              refine unmake_ok (ps := ps) (dn := psD ps + 1) z ek0 hi P6.1.2.1 P6.1.2.2.2.2.1 rfl (by have := hV.2.1; omega) ea eb (fun s7 P7 f7 => ?_)
              intro x8 e8
              rw [e8, nI_1 j]
              refine ihd (j + 1) T6 s7 (by omega) l6 P7 (hRt.row ?_) (fun a h1 h2 h3 h4 => ?_) (by rw [f7 29 (by omega)]; exact t6) ?_
              · rw [f7 _ (by omega), f6 _ (by omega) (by omega) (by omega) (by omega), f5 _ (by omega)]
              · rw [f7 a h1, f6 a h1 h2 h3 (by omega), f5 a h1]
                exact hft a h1 h2 h3 h4
              · rcases D6 with ⟨c1, c2⟩ | ⟨c1, c2⟩
                · left
                  rw [htake]
                  refine ⟨?_, fun x hx => ?_⟩
                  · rw [List.map_append, sumL_app, List.map_cons, List.map_nil, sumL_cons, c1, d1]
                    simp only [sumL, List.foldr_nil]
                    omega
                  · rw [f7 30 (by omega), c2 x hx]
                    congr 1
                    rw [List.map_append, sumL_app, List.map_cons, List.map_nil, sumL_cons, show x + 1 - (dp + 1) = x - dp by omega]
                    simp only [sumL, List.foldr_nil]
                    omega
                · right
                  refine ⟨c1, ?_⟩
                  rw [tot_s]
                  omega
            · omega
      refine key (mvl G ps).length 0 _ s4 (by omega) (by omega) P4 R4 (fun a h1 h2 h3 h4 => f4 a h1 h2 h3 (by omega)) T4 (Or.inl ⟨by simp [sumL], fun x hx => ?_⟩)
      rw [W4 x hx]
      simp [sumL]
    · have hdn : dp = n := (nI_eq (by omega) (by omega)).mp he
      have r0 : r = 0 := by omega
      subst r0
      refine hQ s4 (T + (mvl G ps).length) P4 (fun a h1 h2 h3 h4 => f4 a h1 h2 h3 (by omega)) T4 (by omega) (Or.inl ⟨?_, W4⟩)
      have e0 : sumL ((mvl G ps).map fun m => tot G 0 (stp G ps m)) = 0 := sum0 (fun _ => rfl) _
      rw [tot_s, e0]
      omega
theorem isSpentC_ok {o i n : Nat} {G : GM} {ps : PS} {σ : GSt} {Q : Int32 → GSt → Prop} (hG : GOK G) (ho : kd o = 5) (hi : kd i = 1) (hn : n ≤ 6) (hV : PV G ps) (hP : PosC σ o i ps) (hB : ClB σ i G)
    (h1 : ∀ σ' : GSt, 3000 < tot G n ps → PosC σ' o i ps → (∀ a, a ≠ o → a ≠ 29 → a ≠ 30 → (a < 32 ∨ 38 < a) → σ' a = σ a) → Q 1 σ')
    (h0 : ∀ σ' : GSt, tot G n ps ≤ 3000 → PosC σ' o i ps → (∀ a, a ≠ o → a ≠ 29 → a ≠ 30 → (a < 32 ∨ 38 < a) → σ' a = σ a) → (∀ j, j < 7 → σ' 30 j = nI (wys G n ps j)) → Q 0 σ') : D_X3_isSpent o (nI n) σ Q := by
  have oK := kd5 ho
  have iK := kd1 hi
  refine ⟨8, ?_⟩
  have key : ∀ (d k : Nat) (τ : GSt), k + d = 7 → (∀ a, a ≠ 30 → τ a = σ a) → (∀ j, j < k → τ 30 j = 0) → L_X3_isSpent_2 Q (d + 1) o (nI n) (nI k) τ := by
    intro d
    induction d with
    | zero =>
      intro k τ hk hf hz
      refine ⟨fun _ s e => ?_, fun y => absurd (nI_lt (a := 6) (by omega) (by omega)) y⟩
      have Pt : PosC s o i ps := hP.row (by rw [e, up2_ne (by omega), hf o (by omega)])
      have Bt : ClB s i G := hB.row hG (fun a h1 h2 => by rw [e, up2_ne (by omega), hf a (by omega)])
      refine countWays_ok hG ho hi n hn n 8 1 0 (fun _ => 0) ps s _ (by omega) (by decide) (by omega) (by decide) hV Pt Bt (by rw [e]; simp [up2_app, nI_0]) (fun j hj => by rw [e, up2_ne (by decide), hz j (by omega)]; rfl) (fun s2 T' P2 f2 t2 l2 D2 => ?_)
      have f3 : ∀ a, a ≠ o → a ≠ 29 → a ≠ 30 → (a < 32 ∨ 38 < a) → s2 a = σ a := fun a q1 q2 q3 q4 => by rw [f2 a q1 q2 q3 (by omega), e, up2_ne q2, hf a q3]
      rw [t2]
      rcases D2 with ⟨d1, d2⟩ | ⟨d1, d2⟩
      · refine pk_le T' 3000 (fun y => h0 s2 (by omega) P2 f3 (fun j hj => ?_)) (fun y => h1 s2 (by omega) P2 f3)
        rw [d2 j hj, Nat.zero_add, Nat.add_sub_cancel]
      · exact pk_le T' 3000 (fun y => by omega) (fun y => h1 s2 (by omega) P2 f3)
    | succ d ih =>
      intro k τ hk hf hz
      refine ⟨fun y => absurd y (nI_nlt (a := 6) (by omega) (by decide)), fun _ => ⟨vp_in_nI (by omega) (by decide), fun s e x ex => ?_⟩⟩
      rw [nI_clamp (by omega)] at e
      rw [ex, nI_1 k]
      refine ih (k + 1) s (by omega) (fun a ha => by rw [e, up2_ne ha]; exact hf a ha) (fun j hj => ?_)
      rw [e, up2_app]
      by_cases q : j = k
      · rw [if_pos ⟨rfl, q⟩]
      · rw [if_neg (by omega)]
        exact hz j (by omega)
  exact key 7 0 σ rfl (fun _ _ => rfl) (fun j hj => absurd hj (Nat.not_lt_zero _))
def bfold (G : GM) (f : PS → Nat) (ps : PS) : List (Nat × Nat × Nat) → Nat → Nat → Nat → Nat
  | [], _, b, _ => b
  | m :: l, i, b, least => if f (stp G ps m) < least then bfold G f ps l (i + 1) i (f (stp G ps m)) else bfold G f ps l (i + 1) b least
/-- BEST n -/
def bst (G : GM) (n : Nat) (ps : PS) : Nat := bfold G (val G (n - 1)) ps (mvl G ps) 0 0 3
theorem bfold_0 {G : GM} {f : PS → Nat} {ps : PS} : ∀ (l : List (Nat × Nat × Nat)) (i b : Nat), bfold G f ps l i b 0 = b
  | [], _, _ => rfl
  | m :: l, i, b => by
    unfold bfold
    rw [if_neg (by omega)]
    exact bfold_0 l _ _
theorem bfold_lt {G : GM} {f : PS → Nat} {ps : PS} : ∀ (l : List (Nat × Nat × Nat)) (i b least : Nat), bfold G f ps l i b least = b ∨ (i ≤ bfold G f ps l i b least ∧ bfold G f ps l i b least < i + l.length)
  | [], _, _, _ => Or.inl rfl
  | m :: l, i, b, least => by
    unfold bfold
    split
    · rcases bfold_lt (G := G) (f := f) (ps := ps) l (i + 1) i (f (stp G ps m)) with h | h
      · right; rw [h]; simp
      · right; simp only [List.length_cons]; omega
    · rcases bfold_lt (G := G) (f := f) (ps := ps) l (i + 1) b least with h | h
      · left; exact h
      · right; simp only [List.length_cons]; omega
theorem bst_lt {G : GM} {n : Nat} {ps : PS} (h : mvl G ps ≠ []) : bst G n ps < (mvl G ps).length := by
  have hl : 0 < (mvl G ps).length := List.length_pos_iff.mpr h
  unfold bst
  rcases bfold_lt (G := G) (f := val G (n - 1)) (ps := ps) (mvl G ps) 0 0 3 with q | q <;> omega
theorem bestOf_ok {o i n : Nat} {G : GM} {ps : PS} {σ : GSt} {Q : Int32 → GSt → Prop} (hG : GOK G) (ho : kd o = 5) (hi : kd i = 1) (n1 : 1 ≤ n) (hn : n ≤ 6) (hV : PV G ps) (z : psS ps = 0) (hP : PosC σ o i ps) (hB : ClB σ i G) (hQ : ∀ σ' : GSt, PosC σ' o i ps → (∀ a, a ≠ o → (a < 32 ∨ 38 < a) → σ' a = σ a) → Q (nI (bst G n ps)) σ') : D_X3_bestOf o (nI n) σ Q := by
  have oK := kd5 ho
  have iK := kd1 hi
  obtain ⟨-, w0, ek0, -⟩ := hV.2.2.2.2 z
  refine ⟨fun y => absurd y (nI_nlt (b := 1) (by omega) (by omega)), fun _ => ⟨fun _ => ⟨vp_in_nI (by omega) (by decide), ?_⟩, fun y => absurd (nI_le (b := 6) (by omega) (by decide)) y⟩⟩
  rw [nI_clamp (show n < 2 ^ 31 by omega), show 31 + 1 + n = 32 + n by omega]
  have hlen := mvl_len hG hV
  refine listC_ok hG hV (rows256 _ (by omega) (by omega)) (by omega) (by omega) hP hB (fun s2 hRow hfr => ?_)
  intro xa ea xb eb
  have P2 : PosC s2 o i ps := hP.row (hfr o (by omega))
  rw [P2.1.2.2.1] at ea
  rw [P2.1.2.2.2.1] at eb
  unfold bst at hQ
  refine ⟨(mvl G ps).length + 1, ?_⟩
  have key : ∀ (d j b least : Nat) (τ : GSt), j + d = (mvl G ps).length → b ≤ 252 → least ≤ 3 → PosC τ o i ps → RowIs τ (32 + n) (mvl G ps) → (∀ a, a ≠ o → (a < 32 ∨ 38 < a) → τ a = σ a) → bfold G (val G (n - 1)) ps (mvl G ps) 0 0 3 = bfold G (val G (n - 1)) ps ((mvl G ps).drop j) j b least → L_X3_bestOf_48 Q (d + 1) o (nI n) (32 + n) (nI (mvl G ps).length) xa xb (nI b) (nI least) (nI j) τ := by
    intro d
    induction d with
    | zero =>
      intro j b least τ hj hb hl hPt hRt hft hv
      rw [List.drop_of_length_le (by omega)] at hv
      refine ⟨fun _ => ?_, fun y => absurd (nI_le (by omega) (by omega)) y⟩
      rw [hv] at hQ
      exact hQ τ hPt hft
    | succ d ihd =>
      intro j b least τ hj hb hl hPt hRt hft hv
      obtain ⟨m, hm⟩ : ∃ m, (mvl G ps)[j]? = some m := ⟨_, List.getElem?_eq_getElem (by omega)⟩
      have hmem : m ∈ mvl G ps := List.mem_of_getElem? hm
      rw [drop_cons hm] at hv
      refine ⟨fun y => absurd y (nI_ge (by omega) (by omega)), fun _ => ⟨fun y => ?_, fun y => ⟨?_, ?_⟩⟩⟩
      · have l0 : least = 0 := by
          have := (nI_leI (b := 0) (by omega) (by decide)).mp y
          omega
        rw [hv, l0, bfold_0] at hQ
        exact hQ τ hPt hft
      · rw [rows256 _ (by omega) (by omega)]
        exact vp_in_nI (by omega) (by decide)
      · rw [nI_clamp (by omega), hRt j m hm]
        have Bt : ClB τ i G := hB.row hG (fun a h1 h2 => hft a (by omega) (by omega))
        refine make_ok hG hV hmem (by omega) hPt Bt (fun s3 P3 f3 => ?_)
        have B3 : ClB s3 i G := Bt.row hG (fun a h1 h2 => f3 a (by omega))
        rw [show nI n - 1 = nI (n - 1) from pk_sub (b := 1) n1]
        refine deepen_ok hG ho hi (n - 1) 8 (stp G ps m) s3 _ (by omega) (by omega) (stp_PV hG hV hmem) P3 B3 (fun s4 P4 f4 => ?_)
        refine unmake_ok (ps := ps) (dn := psD ps + 1) z ek0 hi P4.1.2.1 P4.1.2.2.2.2.1 rfl (by have := hV.2.1; omega) ea eb (fun s5 P5 f5 => ?_)
        have R5 : RowIs s5 (32 + n) (mvl G ps) := hRt.row (by rw [f5 _ (by omega), f4 _ (by omega) (by omega), f3 _ (by omega)])
        have F5 : ∀ a, a ≠ o → (a < 32 ∨ 38 < a) → s5 a = σ a := fun a h1 h2 => by rw [f5 a h1, f4 a h1 (by omega), f3 a h1]; exact hft a h1 h2
        have vl := val_le (G := G) (n - 1) (stp G ps m)
        have hv' : bfold G (val G (n - 1)) ps (mvl G ps) 0 0 3 = if val G (n - 1) (stp G ps m) < least then bfold G (val G (n - 1)) ps ((mvl G ps).drop (j + 1)) (j + 1) j (val G (n - 1) (stp G ps m)) else bfold G (val G (n - 1)) ps ((mvl G ps).drop (j + 1)) (j + 1) b least := hv
        refine pk_le least (val G (n - 1) (stp G ps m)) (fun q x ex => ?_) (fun q x ex => ?_)
        · rw [ex, nI_1 j]
          rw [if_neg (by omega)] at hv'
          exact ihd (j + 1) b least s5 (by omega) hb hl P5 R5 F5 hv'
        · rw [ex, nI_1 j]
          rw [if_pos q] at hv'
          exact ihd (j + 1) j _ s5 (by omega) (by omega) (by omega) P5 R5 F5 hv'
  exact key (mvl G ps).length 0 0 3 s2 (by omega) (by decide) (by decide) P2 hRow (fun a h1 h2 => hfr a (by omega)) (by rw [List.drop_zero])
