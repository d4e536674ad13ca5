theorem tl_l {L M : List Int32} {j : Nat} (h : j < L.length) : tl (L ++ M) j = tl L j := by
  unfold tl
  rw [List.getD_eq_getElem?_getD, List.getD_eq_getElem?_getD, List.getElem?_append_left h]
theorem tl_r {L : List Int32} {x : Int32} : tl (L ++ [x]) L.length = x := by
  unfold tl
  rw [List.getD_eq_getElem?_getD, List.getElem?_append_right (Nat.le_refl _), Nat.sub_self]
  rfl
/-- what adding to the reference's text leaves -/
def AF (σ σ' : GSt) : Prop := (∀ a, a ≠ 240 → a ≠ 241 → σ' a = σ a) ∧ (∀ j, j < 720 → σ' 240 j = σ 240 j) ∧ ∀ j, j ≠ 8 → σ' 241 j = σ 241 j
theorem AF.rf {σ : GSt} : AF σ σ := ⟨fun _ _ _ => rfl, fun _ _ => rfl, fun _ _ => rfl⟩
theorem AF.trans {σ σ' σ'' : GSt} (h : AF σ σ') (k : AF σ' σ'') : AF σ σ'' := ⟨fun a p q => (k.1 a p q).trans (h.1 a p q), fun j p => (k.2.1 j p).trans (h.2.1 j p), fun j p => (k.2.2 j p).trans (h.2.2 j p)⟩
theorem AF.gf {σ σ' : GSt} {ng : Nat} (h : AF σ σ') (n8 : ng ≤ 8) : GF ng σ σ' := ⟨fun a p q => h.1 a (by omega) (by omega), fun k _ _ _ => by rw [h.1 237 (by decide) (by decide)], fun a j p q r => by
  rcases Decidable.em (a = 240) with z | z
  · subst z
    rw [show mw2 240 = 90 by decide] at r
    exact h.2.1 j (by omega)
  · rcases Decidable.em (a = 241) with y | y
    · subst y
      rw [show mw2 241 = 1 by decide] at r
      exact h.2.2 j (by omega)
    · rw [h.1 a z y]⟩
theorem starts_ok {σ : GSt} {Q : GSt → Prop} (hQ : ∀ σ' : GSt, AF σ σ' → TxM σ' [] → Q σ') : D_X11_starts σ Q := by
  intro s1 e1
  rw [show Int32.toNatClampNeg 8 = 8 by decide] at e1
  exact hQ s1 ⟨fun a _ q => by rw [e1, up2_ne q], fun j _ => by rw [e1, up2_ne (by decide)], fun j p => by rw [e1, up2_at, pk_un p]⟩ ⟨by rw [e1, up2_at, pk_us]; rfl, fun j hj => absurd hj (Nat.not_lt_zero _)⟩
theorem adds_ok {σ : GSt} {L : List Int32} {x : Int32} {Q : GSt → Prop} (hl : L.length < 90) (hT : TxM σ L) (hQ : ∀ σ' : GSt, AF σ σ' → TxM σ' (L ++ [x]) → Q σ') : D_X11_adds x σ Q := by
  unfold D_X11_adds D_X11_adds_0
  rw [show Int32.toNatClampNeg 8 = 8 by decide, hT.1, show (720 : Int32) + nI L.length = nI (720 + L.length) from nI_add 720 _, nI_clamp (show 720 + L.length < 2 ^ 31 by omega)]
  refine ⟨vp_in_nI (by omega) (by decide), fun s1 e1 s2 e2 => ?_⟩
  have e8 : s1 241 8 = nI L.length := by rw [e1, up2_ne (by decide), hT.1]
  rw [e8, nI_1] at e2
  refine hQ s2 ⟨fun a p q => by rw [e2, up2_ne q, e1, up2_ne p], fun j p => by rw [e2, up2_ne (by decide), e1, up2_at, pk_un (by omega)], fun j p => by rw [e2, up2_at, pk_un p, e1, up2_ne (by decide)]⟩ ⟨by rw [e2, up2_at, pk_us, List.length_append, List.length_singleton], fun j hj => ?_⟩
  rw [List.length_append, List.length_singleton] at hj
  rw [e2, up2_ne (by decide), e1, up2_at]
  rcases Decidable.em (j = L.length) with z | z
  · rw [z, pk_us, tl_r]
  · rw [pk_un (by omega), tl_l (by omega)]
    exact hT.2 j (by omega)
/-- the reference's end of an edit, against the class's -/
theorem grow2 {σ s1 s2 s3 : GSt} {ng : Nat} {Gs : Nat → GM} {Ls : Nat → List Int32} {tp tp' L : List Int32} {pl : Option (Nat × List Nat)} (h : IA σ ng Gs Ls tp pl) (n8 : ng < 8) (hl : L.length ≤ 90) (h0 : ∀ e ∈ L, 0 ≤ e) (hr : ∀ a, 237 < a → a ≠ 240 → a ≠ 241 → s2 a = σ a) (h237 : ∀ k, k ≠ 19 → k ≠ 20 → k ≠ 21 → k ≠ 22 → s2 237 k = σ 237 k) (h20 : s2 237 20 = nI ng) (hA : ∀ a j, 240 ≤ a → a ≤ 256 → j < mw2 a * ng → s2 a j = σ a j) (hc : ∀ a, 53 ≤ a → a < 61 + 22 * ng → s2 a = σ a) (hT : TxM s2 L) (ht : ∀ s3 : GSt, (∀ a, a < 240 → a ≠ 237 → s3 a = s2 a) → s3 237 19 = s2 237 19 → Tp s3 tp') :
    (∀ (G : GM), pAll (tl L) L.length = .inr G → ClG s2 (61 + 22 * ng) G (tl L) L.length → s2 0 4 = nI (ng + 1) → D_X11_grown s2 (fun r2 σ2 => nI ng = r2 ∧ InvA σ2)) ∧ (∀ z, pAll (tl L) L.length = .inl z → s2 0 4 = nI ng → D_X11_grown s2 (fun r2 σ2 => -20 - nI z = r2 ∧ InvA σ2)) := by
  have rk : ∀ s3 : GSt, GF ng s2 s3 → RK ng σ s3 := fun s3 F => ⟨fun a p q => by rw [F.1 a (by omega) (by omega), hc a p q], fun k p => by rw [F.2.1 k (by omega) (by omega) (by omega), h237 k (by omega) (by omega) (by omega) (by omega)], fun a p => by rw [F.1 a (by omega) (by omega), hr a (by omega) (by omega) (by omega)], fun a j p q r => by rw [F.2.2 a j p q r, hA a j p q r]⟩
  refine ⟨fun G hp hC h04 => ?_, fun z hp h04 => ?_⟩
  · obtain ⟨hG, -⟩ := pAll_ok hp
    refine grown_ok n8 h20 hl hT (fun s3 G' hp' hM' e20 F => ⟨rfl, _, _, _, _, _, h.new (G := G) (L := L) n8 (rk s3 F) (ht s3 (fun a p q => F.1 a q (by omega)) (F.2.1 19 (by decide) (by decide) (by decide))) (by rw [F.1 0 (by decide) (by decide)]; exact h04) e20 ⟨hp, hC.row hG (fun a p q => F.1 a (by omega) (by omega)), ?_, h0⟩⟩) (fun s3 z hp' => ?_)
    · rw [hp] at hp'
      rw [Sum.inr.inj hp']
      exact hM'
    · rw [hp] at hp'
      exact absurd hp' (by simp)
  · refine grown_ok n8 h20 hl hT (fun s3 G' hp' => ?_) (fun s3 z' hp' e20 F => ⟨?_, _, _, _, _, _, h.rk (rk s3 F) (ht s3 (fun a p q => F.1 a q (by omega)) (F.2.1 19 (by decide) (by decide) (by decide))) (by rw [F.1 0 (by decide) (by decide)]; exact h04) e20⟩)
    · rw [hp] at hp'
      exact absurd hp' (by simp)
    · rw [hp] at hp'
      rw [Sum.inl.inj hp']
theorem op_game : Op_game InvA := by
  intro σ hI
  obtain ⟨ng, Gs, Ls, tp, pl, h⟩ := id hI
  obtain ⟨⟨n8, c0, c1⟩, -, -, ⟨t1, t2, t3, t4⟩, -⟩ := id h
  unfold D_X10_game D_X10_game_0
  rw [c0]
  refine pk_lt ng 8 (fun n8 => ?_) (fun w => refuse_ok rf_6 ?_)
  · have hT : TxC σ 1 tp := ⟨t2, fun j hj => by
      obtain ⟨e, he⟩ : ∃ e, tp[j]? = some e := ⟨_, List.getElem?_eq_getElem hj⟩
      rw [tl_at he]
      exact (t4 j e he).1⟩
    have h0 : ∀ e ∈ tp, 0 ≤ e := fun e he => by
      obtain ⟨j, hj⟩ := List.getElem?_of_mem he
      exact (t4 j e hj).2.2
    -- the reference from the class's end
    have ref : ∀ (s1 : GSt) (r : Int32), (∀ a, 237 ≤ a → s1 a = σ a) → (∀ s2 : GSt, (∀ a, a < 237 → s2 a = s1 a) → (∀ a, 237 < a → a ≠ 240 → a ≠ 241 → s2 a = σ a) → (∀ k, k ≠ 19 → s2 237 k = σ 237 k) → s2 237 19 = 0 → (∀ a j, 240 ≤ a → a ≤ 256 → j < mw2 a * ng → s2 a j = σ a j) → TxM s2 tp → D_X11_grown s2 (fun r2 σ2 => r = r2 ∧ InvA σ2)) → D_X11_game s1 (fun r2 σ2 => r = r2 ∧ InvA σ2) := by
      intro s1 r hr hG
      unfold D_X11_game D_X11_game_0
      rw [hr 237 (by decide), c1]
      refine ⟨fun _ => ?_, fun z => absurd ((nI_eq (b := 8) (by omega) (by decide)).mp z) (by omega)⟩
      refine starts_ok (fun s2 f2 x2 => ⟨tp.length + 1, ?_⟩)
      have key : ∀ (d k : Nat) (s : GSt), k + d = tp.length → AF s1 s → TxM s (tp.take k) → L_X11_game_22 (fun r2 σ2 => r = r2 ∧ InvA σ2) (d + 1) (nI k) s := by
        intro d
        induction d with
        | zero =>
          intro k s hk f x
          rw [List.take_of_length_le (by omega)] at x
          unfold L_X11_game_22 D_X11_game_22
          rw [f.1 237 (by decide) (by decide), hr 237 (by decide), t3]
          refine ⟨fun _ s5 e5 => ?_, fun z => absurd (nI_le (by omega) (by omega)) z⟩
          refine hG s5 (fun a p => by rw [e5, up2_ne (by omega), f.1 a (by omega) (by omega)]) (fun a p q r => by rw [e5, up2_ne (by omega), f.1 a q r, hr a (by omega)]) (fun k p => by rw [e5, up2_at, pk_un p, f.1 237 (by decide) (by decide), hr 237 (by decide)]) (by rw [e5, up2_at, pk_us]) (fun a j p q r => ?_) ⟨by rw [e5, up2_ne (by decide)]; exact x.1, fun j hj => by rw [e5, up2_ne (by decide)]; exact x.2 j hj⟩
          rw [e5, up2_ne (by omega), (f.gf (ng := ng) (by omega)).2.2 a j p q r, hr a (by omega)]
        | succ d ih =>
          intro k s hk f x
          obtain ⟨e, he⟩ : ∃ e, tp[k]? = some e := ⟨_, List.getElem?_eq_getElem (by omega)⟩
          have bl : (tp.take k).length = k := by rw [List.length_take]; omega
          unfold L_X11_game_22 D_X11_game_22
          rw [f.1 237 (by decide) (by decide), hr 237 (by decide), t3, nI_clamp (show k < 2 ^ 31 by omega), f.1 239 (by decide) (by decide), hr 239 (by decide), (t4 k e he).2.1]
          refine ⟨fun z => absurd z (nI_ge (by omega) (by omega)), fun _ => ⟨vp_in_nI (by omega) (by decide), ?_⟩⟩
          refine adds_ok (by omega) x (fun s5 f5 x5 y ey => ?_)
          rw [ey, nI_1]
          refine ih (k + 1) s5 (by omega) (f.trans f5) ?_
          rw [List.take_add_one, he]
          exact x5
      exact key tp.length 0 s2 (by omega) f2 (by rw [List.take_zero]; exact x2)
    have tpn : ∀ (s1 s2 : GSt), s1 1 1 = 0 → (∀ a, a < 237 → s2 a = s1 a) → s2 237 19 = 0 → ∀ s3 : GSt, (∀ a, a < 240 → a ≠ 237 → s3 a = s2 a) → s3 237 19 = s2 237 19 → Tp s3 [] := fun s1 s2 h11 e2 e19 s3 f e => ⟨by simp, by rw [f 1 (by decide) (by decide), e2 1 (by decide), h11]; rfl, by rw [e, e19]; rfl, fun j e hj => absurd hj (by simp)⟩
    refine admit_ok (by decide +kernel) (by decide) n8 c0 t1 hT (fun s1 G hp hC e04 fr s1' e1' => ?_) (fun s1 z hp fr s1' e1' => ?_)
    · have r1 : ∀ a, a ≠ 1 → s1' a = s1 a := fun a p => by rw [e1', up2_ne p]
      refine ref s1' _ (fun a p => by rw [r1 a (by omega), fr a (by omega) (by omega) (by omega)]) (fun s2 e2 g2 k2 e19 a2 x2 => ?_)
      have v11 : s1' 1 1 = 0 := by rw [e1', up2_at, pk_us]
      obtain ⟨hGK, -⟩ := pAll_ok hp
      exact (grow2 (s1 := s1') (s3 := s2) h n8 t1 h0 g2 (fun k p _ _ _ => k2 k p) (by rw [k2 20 (by decide)]; exact c1) a2 (fun a p q => by rw [e2 a (by omega), r1 a (by omega), fr a (by omega) (by omega) (by omega)]) x2 (tpn s1' s2 v11 e2 e19)).1 G hp (hC.row hGK (fun a p q => by rw [e2 a (by omega), r1 a (by omega)])) (by rw [e2 0 (by decide), r1 0 (by decide)]; exact e04)
    · have r1 : ∀ a, a ≠ 1 → s1' a = s1 a := fun a p => by rw [e1', up2_ne p]
      refine ref s1' _ (fun a p => by rw [r1 a (by omega), fr a (by omega) (by omega)]) (fun s2 e2 g2 k2 e19 a2 x2 => ?_)
      have v11 : s1' 1 1 = 0 := by rw [e1', up2_at, pk_us]
      exact (grow2 (s1 := s1') (s3 := s2) h n8 t1 h0 g2 (fun k p _ _ _ => k2 k p) (by rw [k2 20 (by decide)]; exact c1) a2 (fun a p q => by rw [e2 a (by omega), r1 a (by omega), fr a (by omega) (by omega)]) x2 (tpn s1' s2 v11 e2 e19)).2 z hp (by rw [e2 0 (by decide), r1 0 (by decide), fr 0 (by decide) (by omega)]; exact c0)
  · show D_X11_game (rfC σ (-6)) (fun r2 σ2 => -6 = r2 ∧ InvA σ2)
    unfold D_X11_game D_X11_game_0
    rw [rfC_ne (a := 237) (by decide), c1, show ng = 8 by omega]
    exact ⟨fun z => absurd rfl z, fun _ => no_ok rf_6 ⟨rfl, hI.rf rf_6⟩⟩
