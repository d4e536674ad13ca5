/-- the signs of M from place f to before b -/
def seg (M : List Int32) (f b : Nat) : List Int32 := (List.range (b - f)).map fun i => tl M (f + i)
theorem seg_len {M : List Int32} {f b : Nat} : (seg M f b).length = b - f := by
  unfold seg
  rw [List.length_map, List.length_range]
theorem seg_0 {M : List Int32} {f : Nat} : seg M f f = [] := by
  unfold seg
  rw [Nat.sub_self]
  rfl
theorem seg_s {M : List Int32} {f b : Nat} (h : f ≤ b) : seg M f (b + 1) = seg M f b ++ [tl M b] := by
  unfold seg
  rw [show b + 1 - f = b - f + 1 by omega, List.range_succ, List.map_append]
  show _ ++ [tl M (f + (b - f))] = _
  rw [show f + (b - f) = b by omega]
theorem seg_nn {M : List Int32} {f b : Nat} (h : ∀ e ∈ M, 0 ≤ e) : ∀ e ∈ seg M f b, 0 ≤ e := by
  intro e he
  obtain ⟨i, _, hi⟩ := List.mem_map.mp he
  rw [← hi]
  unfold tl
  rw [List.getD_eq_getElem?_getD]
  cases hx : M[f + i]? with
  | none => show (0 : Int32) ≤ 0; decide
  | some x => exact h x (List.mem_of_getElem? hx)
theorem addPartC {σ : GSt} {o r f b : Nat} {L M : List Int32} {Q : GSt → Prop} (hor : r ≠ o) (hor2 : r ≠ o + 1) (hor3 : r + 1 ≠ o) (hor4 : r + 1 ≠ o + 1) (hT : TxC σ o L) (hM : TxC σ r M) (m90 : M.length ≤ 90) (hf : f ≤ b) (hb : b ≤ M.length) (hl : L.length + (b - f) ≤ 90) (hQ : ∀ σ' : GSt, TxC σ' o (L ++ seg M f b) → (∀ a, a ≠ o → a ≠ o + 1 → σ' a = σ a) → Q σ') : D_X9_addPart o r (nI f) (nI b) σ Q := by
  refine ⟨b - f + 1, ?_⟩
  have key : ∀ (d k : Nat) (s : GSt), f ≤ k → k + d = b → TxC s o (L ++ seg M f k) → (∀ a, a ≠ o → a ≠ o + 1 → s a = σ a) → L_X9_addPart_3 Q o (d + 1) r (nI b) (nI k) s := by
    intro d
    induction d with
    | zero =>
      intro k s fk hk hT hfr
      have ek : k = b := by omega
      subst ek
      exact ⟨fun _ => hQ s hT hfr, fun z => absurd (nI_le (Nat.le_refl _) (by omega)) z⟩
    | succ d ih =>
      intro k s fk hk hT hfr
      refine ⟨fun z => absurd z (nI_ge (by omega) (by omega)), fun _ => ?_⟩
      refine at_ok (n := M.length) (t := tl M) (by rw [hfr r hor hor2]; exact hM.1) m90 (by omega) (fun j hj => by rw [hfr (r + 1) hor3 hor4]; exact hM.2 j hj) ?_
      rw [show ch (tl M) M.length k = tl M k from if_pos (by omega)]
      refine addC_ok (by rw [List.length_append, seg_len]; omega) hT (fun s2 hT2 f2 y ey => ?_)
      rw [ey, nI_1]
      refine ih (k + 1) s2 (by omega) (by omega) ?_ (fun a p q => by rw [f2 a p q, hfr a p q])
      rw [seg_s fk, ← List.append_assoc]
      exact hT2
  have := key (b - f) f σ (Nat.le_refl _) (by omega) (by rw [seg_0, List.append_nil]; exact hT) (fun _ _ _ => rfl)
  exact this
theorem addsFromM {σ : GSt} {g f b : Nat} {L M : List Int32} {Q : GSt → Prop} (g8 : g < 8) (hT : TxM σ L) (hM : ∀ j, j < M.length → σ 240 (90 * g + j) = tl M j) (m90 : M.length ≤ 90) (hf : f ≤ b) (hb : b ≤ M.length) (hl : L.length + (b - f) ≤ 90) (hQ : ∀ σ' : GSt, TxM σ' (L ++ seg M f b) → AF σ σ' → Q σ') : D_X11_addsFrom (nI g) (nI f) (nI b) σ Q := by
  refine ⟨b - f + 1, ?_⟩
  have key : ∀ (d k : Nat) (s : GSt), f ≤ k → k + d = b → TxM s (L ++ seg M f k) → AF σ s → L_X11_addsFrom_3 Q (d + 1) (nI g) (nI b) (nI k) s := by
    intro d
    induction d with
    | zero =>
      intro k s fk hk hT hfr
      have ek : k = b := by omega
      subst ek
      exact ⟨fun _ => hQ s hT hfr, fun z => absurd (nI_le (Nat.le_refl _) (by omega)) z⟩
    | succ d ih =>
      intro k s fk hk hT hfr
      unfold L_X11_addsFrom_3 D_X11_addsFrom_3
      rw [show (90 : Int32) * nI g + nI k = nI (90 * g + k) from nlin 90 g k, nI_clamp (show 90 * g + k < 2 ^ 31 by omega), hfr.2.1 _ (show 90 * g + k < 720 by omega), hM k (by omega)]
      refine ⟨fun z => absurd z (nI_ge (by omega) (by omega)), fun _ => ⟨vp_in_nI (by omega) (by decide), ?_⟩⟩
      refine adds_ok (by rw [List.length_append, seg_len]; omega) hT (fun s2 f2 hT2 y ey => ?_)
      rw [ey, nI_1]
      refine ih (k + 1) s2 (by omega) (by omega) ?_ (hfr.trans f2)
      rw [seg_s fk, ← List.append_assoc]
      exact hT2
  exact key (b - f) f σ (Nat.le_refl _) (by omega) (by rw [seg_0, List.append_nil]; exact hT) AF.rf
/-- an edited text L of both: the class admits it, the reference grows it -/
theorem edit_ok {σ s0 : GSt} {ng : Nat} {Gs : Nat → GM} {Ls : Nat → List Int32} {tp L : List Int32} {pl : Option (Nat × List Nat)} {M : Int32 → GSt → Prop} (h : IA σ ng Gs Ls tp pl) (n8 : ng < 8) (hl : L.length ≤ 90) (h0 : ∀ e ∈ L, 0 ≤ e) (f0 : ∀ a, a ≠ 3 → a ≠ 4 → s0 a = σ a) (hT : TxC s0 3 L) (hM : ∀ (r : Int32) (s1 : GSt), (∀ a, 237 ≤ a → s1 a = σ a) → (∀ s2 : GSt, AF s1 s2 → TxM s2 L → D_X11_grown s2 (fun r2 σ2 => r = r2 ∧ InvA σ2)) → M r s1) : D_X10_admit 3 s0 M := by
  obtain ⟨⟨-, c0, c1⟩, -, -, ⟨t1, t2, t3, t4⟩, -⟩ := id h
  have tpk : ∀ s1 s2 : GSt, (∀ a, a ≠ 0 → a ≠ 3 → a ≠ 4 → a ≠ 5 → (a < 61 + 22 * ng ∨ 61 + 22 * ng + 22 ≤ a) → s1 a = σ a) → AF s1 s2 → ∀ s3 : GSt, (∀ a, a < 240 → a ≠ 237 → s3 a = s2 a) → s3 237 19 = s2 237 19 → Tp s3 tp := by
    intro s1 s2 e1 F s3 e3 e19
    have q : ∀ a, a = 1 ∨ a = 2 ∨ a = 239 → s3 a = σ a := fun a p => by rw [e3 a (by omega) (by omega), F.1 a (by omega) (by omega), e1 a (by omega) (by omega) (by omega) (by omega) (by omega)]
    refine ⟨t1, by rw [q 1 (by decide)]; exact t2, by rw [e19, F.1 237 (by decide) (by decide), e1 237 (by decide) (by decide) (by decide) (by decide) (by omega)]; exact t3, fun j e hj => by rw [q 2 (by decide), q 239 (by decide)]; exact t4 j e hj⟩
  refine admit_ok (L := L) (by decide +kernel) (by decide) n8 (by rw [f0 0 (by decide) (by decide)]; exact c0) hl hT (fun s1 G hp hC e04 fr => ?_) (fun s1 z hp fr => ?_)
  · have e1 : ∀ a, a ≠ 0 → a ≠ 3 → a ≠ 4 → a ≠ 5 → (a < 61 + 22 * ng ∨ 61 + 22 * ng + 22 ≤ a) → s1 a = σ a := fun a p q r s t => by rw [fr a p s t, f0 a q r]
    refine hM _ s1 (fun a p => e1 a (by omega) (by omega) (by omega) (by omega) (by omega)) (fun s2 F x2 => ?_)
    obtain ⟨hGK, -⟩ := pAll_ok hp
    exact (grow2 (s1 := s1) (s3 := s2) h n8 hl h0 (fun a p q r => by rw [F.1 a q r, e1 a (by omega) (by omega) (by omega) (by omega) (by omega)]) (fun k _ _ _ _ => by rw [F.1 237 (by decide) (by decide), e1 237 (by decide) (by decide) (by decide) (by decide) (by omega)]) (by rw [F.1 237 (by decide) (by decide), e1 237 (by decide) (by decide) (by decide) (by decide) (by omega)]; exact c1) (fun a j p q r => by rw [(F.gf (ng := ng) (by omega)).2.2 a j p q r, e1 a (by omega) (by omega) (by omega) (by omega) (by omega)]) (fun a p q => by rw [F.1 a (by omega) (by omega), e1 a (by omega) (by omega) (by omega) (by omega) (by omega)]) x2 (tpk s1 s2 e1 F)).1 G hp (hC.row hGK (fun a p q => F.1 a (by omega) (by omega))) (by rw [F.1 0 (by decide) (by decide)]; exact e04)
  · have e1 : ∀ a, a ≠ 3 → a ≠ 4 → a ≠ 5 → (a < 61 + 22 * ng ∨ 61 + 22 * ng + 22 ≤ a) → s1 a = σ a := fun a q r s t => by rw [fr a s t, f0 a q r]
    refine hM _ s1 (fun a p => e1 a (by omega) (by omega) (by omega) (by omega)) (fun s2 F x2 => ?_)
    exact (grow2 (s1 := s1) (s3 := s2) h n8 hl h0 (fun a p q r => by rw [F.1 a q r, e1 a (by omega) (by omega) (by omega) (by omega)]) (fun k _ _ _ _ => by rw [F.1 237 (by decide) (by decide), e1 237 (by decide) (by decide) (by decide) (by omega)]) (by rw [F.1 237 (by decide) (by decide), e1 237 (by decide) (by decide) (by decide) (by omega)]; exact c1) (fun a j p q r => by rw [(F.gf (ng := ng) (by omega)).2.2 a j p q r, e1 a (by omega) (by omega) (by omega) (by omega)]) (fun a p q => by rw [F.1 a (by omega) (by omega), e1 a (by omega) (by omega) (by omega) (by omega)]) x2 (tpk s1 s2 (fun a _ q r s t => e1 a q r s t) F)).2 z hp (by rw [F.1 0 (by decide) (by decide), e1 0 (by decide) (by decide) (by decide) (by omega)]; exact c0)
theorem op_graft : Op_graft InvA := by
  intro x1 x2 σ hI
  obtain ⟨ng, Gs, Ls, tp, pl, h⟩ := id hI
  have n8 := h.1.1
  have c20 : ∀ x : Int32, rfC σ x 237 20 = nI ng := fun x => by rw [rfC_ne (by decide)]; exact h.1.2.2
  have ref : (∀ i, i < ng → x1 ≠ nI i) ∨ (∀ i, i < ng → x2 ≠ nI i) → D_X10_graft_16 (fun r1 σ1 => D_X11_graft x1 x2 σ1 (fun r2 σ2 => r1 = r2 ∧ InvA σ2)) σ := by
    intro hr
    refine refuse_ok rf_1 ?_
    have fin : D_X11_graft_16 (fun r2 σ2 => -1 = r2 ∧ InvA σ2) (rfC σ (-1)) := no_ok rf_1 ⟨rfl, hI.rf rf_1⟩
    unfold D_X11_graft D_X11_graft_0
    refine isGame_ok n8 (c20 _) (fun _ => ⟨fun _ => fin, fun z => absurd rfl z⟩) (fun i hi e => ⟨fun z => absurd z (by decide), fun _ => ?_⟩)
    refine isGame_ok n8 (c20 _) (fun _ => ⟨fun z => absurd rfl z, fun _ => fin⟩) (fun j hj e2 => ?_)
    rcases hr with hr | hr
    · exact absurd e (hr i hi)
    · exact absurd e2 (hr j hj)
  unfold D_X10_graft D_X10_graft_0
  refine noGame_ok n8 h.1.2.1 (fun hno => ⟨fun _ => ref (Or.inl hno), fun z => absurd z (by decide)⟩) (fun i hi e => ⟨fun z => absurd rfl z, fun _ => ?_⟩)
  refine noGame_ok n8 h.1.2.1 (fun hno => ⟨fun z => absurd z (by decide), fun _ => ref (Or.inr hno)⟩) (fun j hj e2 => ⟨fun _ => ?_, fun z => absurd rfl z⟩)
  subst e
  subst e2
  have hgi := h.2.1 i hi
  have hgj := h.2.1 j hj
  obtain ⟨hG, a1, a2, a3, a4, a5⟩ := hgi.ok
  obtain ⟨hH, b1, b2, b3, b4, b5⟩ := hgj.ok
  rw [h.1.2.1, nI_clamp (show i < 2 ^ 31 by omega), nI_clamp (show j < 2 ^ 31 by omega)]
  refine pk_lt ng 8 (fun n8' s1 e1 => ?_) (fun w => refuse_ok rf_6 ?_)
  · have r1 : ∀ a, a ≠ 3 → s1 a = σ a := fun a p => by rw [e1, up2_ne p]
    have x1' : TxC s1 3 [] := ⟨by rw [e1, up2_at, pk_us]; rfl, fun j hj => absurd hj (Nat.not_lt_zero _)⟩
    have txt : ∀ (k : Nat), k < ng → ∀ s : GSt, (∀ a, a ≠ 3 → a ≠ 4 → s a = σ a) → TxC s (61 + 22 * k + 1) (Ls k) := fun k hk s hs => ⟨by rw [hs _ (by omega) (by omega)]; exact (h.2.1 k hk).2.1.2.2.2.2.1, fun j hj => by rw [hs _ (by omega) (by omega)]; exact (h.2.1 k hk).2.1.2.2.2.2.2 j hj⟩
    have vi : vp_in (nI i) 8 := vp_in_nI (by omega) (by decide)
    have vj : vp_in (nI j) 8 := vp_in_nI (by omega) (by decide)
    refine ⟨vi, vi, ?_⟩
    rw [r1 (61 + 22 * i) (by omega), hgi.2.1.2.1.2.2.2.2.2]
    refine addPartC (f := 0) (L := []) (M := Ls i) (by omega) (by omega) (by omega) (by omega) x1' (txt i hi s1 (fun a p _ => r1 a p)) (by omega) (by omega) (by omega) (by rw [List.length_nil]; omega) (fun s2 x2 f2 => ⟨vj, vj, vj, ?_⟩)
    have r2 : ∀ a, a ≠ 3 → a ≠ 4 → s2 a = σ a := fun a p q => by rw [f2 a p q, r1 a p]
    rw [r2 (61 + 22 * j) (by omega) (by omega), hgj.2.1.2.1.2.2.2.2.2, r2 (61 + 22 * j + 1) (by omega) (by omega), hgj.2.1.2.2.2.2.1]
    refine addPartC (M := Ls j) (by omega) (by omega) (by omega) (by omega) x2 (txt j hj s2 r2) (by omega) (by omega) (by omega) (by rw [List.length_append, seg_len, List.length_nil]; omega) (fun s3 x3 f3 => ?_)
    refine edit_ok h n8' (by rw [List.length_append, List.length_append, seg_len, seg_len, List.length_nil]; omega) ?_ (fun a p q => by rw [f3 a p q, r2 a p q]) x3 (fun r s4 e4 hgr => ?_)
    · intro e he
      rcases List.mem_append.mp he with w | w
      · rw [List.nil_append] at w
        exact seg_nn hgi.2.2.2 e w
      · exact seg_nn hgj.2.2.2 e w
    · have wi : vp_in (nI i) 9 := vp_in_nI (by omega) (by decide)
      have wj : vp_in (nI j) 9 := vp_in_nI (by omega) (by decide)
      unfold D_X11_graft D_X11_graft_0
      refine isGame_ok n8 (by rw [e4 237 (by decide)]; exact h.1.2.2) (fun hno => absurd rfl (hno i hi)) (fun _ _ _ => ⟨fun z => absurd z (by decide), fun _ => ?_⟩)
      refine isGame_ok n8 (by rw [e4 237 (by decide)]; exact h.1.2.2) (fun hno => absurd rfl (hno j hj)) (fun _ _ _ => ⟨fun _ => ?_, fun z => absurd z (by decide)⟩)
      rw [e4 237 (by decide), h.1.2.2]
      refine ⟨fun _ => ?_, fun z => absurd ((nI_eq (b := 8) (by omega) (by decide)).mp z) (by omega)⟩
      refine starts_ok (fun s5 f5 y5 => ⟨wi, ?_⟩)
      rw [nI_clamp (show i < 2 ^ 31 by omega), nI_clamp (show j < 2 ^ 31 by omega), f5.1 255 (by decide) (by decide), e4 255 (by decide), hgi.2.2.1.2.1.2.2.2]
      refine addsFromM (f := 0) (M := Ls i) (by omega) y5 (fun k hk => by rw [f5.2.1 _ (by omega), e4 240 (by decide)]; exact hgi.2.2.1.2.2.2.2.2 k hk) (by omega) (by omega) (by omega) (by rw [List.length_nil]; omega) (fun s6 y6 f6 => ⟨wj, wj, ?_⟩)
      have F6 := f5.trans f6
      rw [F6.1 255 (by decide) (by decide), e4 255 (by decide), hgj.2.2.1.2.1.2.2.2, F6.2.2 j (by omega), e4 241 (by decide), hgj.2.2.1.2.2.2.2.1]
      refine addsFromM (M := Ls j) (by omega) y6 (fun k hk => by rw [F6.2.1 _ (by omega), e4 240 (by decide)]; exact hgj.2.2.1.2.2.2.2.2 k hk) (by omega) (by omega) (by omega) (by rw [List.length_append, seg_len, List.length_nil]; omega) (fun s7 y7 f7 => ?_)
      exact hgr s7 (F6.trans f7) y7
  · have w8 : ng = 8 := by omega
    unfold D_X11_graft D_X11_graft_0
    refine isGame_ok n8 (c20 _) (fun hno => absurd rfl (hno i hi)) (fun _ _ _ => ⟨fun z => absurd z (by decide), fun _ => ?_⟩)
    refine isGame_ok n8 (c20 _) (fun hno => absurd rfl (hno j hj)) (fun _ _ _ => ⟨fun _ => ?_, fun z => absurd z (by decide)⟩)
    rw [c20, w8]
    exact ⟨fun z => absurd rfl z, fun _ => no_ok rf_6 ⟨rfl, hI.rf rf_6⟩⟩
