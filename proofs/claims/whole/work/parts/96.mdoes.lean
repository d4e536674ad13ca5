/-- only the level e changes -/
def LF (e : Nat) (σ σ' : GSt) : Prop := (∀ a, a < 257 ∨ a = 267 ∨ a = 268 ∨ 269 < a → σ' a = σ a) ∧ (∀ a j, 258 ≤ a → a ≤ 262 → j ≠ e → σ' a j = σ a j) ∧ (∀ j, j ≠ e → σ' 266 j = σ 266 j) ∧ (∀ j, (j < 16 * e ∨ 16 * e + 16 ≤ j) → σ' 257 j = σ 257 j) ∧ ∀ a j, 263 ≤ a → a ≤ 265 → (j < 800 * e ∨ 800 * e + 800 ≤ j) → σ' a j = σ a j
theorem LF.rf {e : Nat} {σ : GSt} : LF e σ σ := ⟨fun _ _ => rfl, fun _ _ _ _ _ => rfl, fun _ _ => rfl, fun _ _ => rfl, fun _ _ _ _ _ => rfl⟩
theorem LF.trans {e : Nat} {σ σ' σ'' : GSt} (h : LF e σ σ') (k : LF e σ' σ'') : LF e σ σ'' := ⟨fun a p => (k.1 a p).trans (h.1 a p), fun a j p q r => (k.2.1 a j p q r).trans (h.2.1 a j p q r), fun j p => (k.2.2.1 j p).trans (h.2.2.1 j p), fun j p => (k.2.2.2.1 j p).trans (h.2.2.2.1 j p), fun a j p q r => (k.2.2.2.2 a j p q r).trans (h.2.2.2.2 a j p q r)⟩
theorem LF.cell {e x : Nat} {σ σ' : GSt} {v : Int32} (h : LF e σ σ') (hx : x < 16) : LF e σ (up2 σ' 257 (16 * e + x) v) := ⟨fun a p => (up2_ne (by omega)).trans (h.1 a p), fun a j p q r => by rw [up2_ne (by omega)]; exact h.2.1 a j p q r, fun j p => by rw [up2_ne (by decide)]; exact h.2.2.1 j p, fun j p => by rw [up2_app, if_neg (by omega)]; exact h.2.2.2.1 j p, fun a j p q r => by rw [up2_ne (by omega)]; exact h.2.2.2.2 a j p q r⟩
theorem LF.slot {e b : Nat} {σ σ' : GSt} {v : Int32} (h : LF e σ σ') (hb : 258 ≤ b ∧ b ≤ 262) : LF e σ (up2 σ' b e v) := ⟨fun a p => (up2_ne (by omega)).trans (h.1 a p), fun a j p q r => by rw [up2_app, if_neg (by omega)]; exact h.2.1 a j p q r, fun j p => by rw [up2_ne (by omega)]; exact h.2.2.1 j p, fun j p => by rw [up2_ne (by omega)]; exact h.2.2.2.1 j p, fun a j p q r => by rw [up2_ne (by omega)]; exact h.2.2.2.2 a j p q r⟩
theorem LF.ofFM {e : Nat} {σ σ' σ'' : GSt} (h : LF e σ σ') (k : FM e σ' σ'') : LF e σ σ'' := h.trans ⟨fun a p => k.1 a (by omega), fun a j p q r => by rw [k.1 a (by omega)], fun j p => k.2.2 j p, fun j p => by rw [k.1 257 (by decide)], fun a j p q r => k.2.1 a j (by omega) r⟩
theorem LF.ofOn {e : Nat} {σ σ' σ'' : GSt} (h : LF e σ σ') (k : ∀ a, a ≠ 269 → σ'' a = σ' a) : LF e σ σ'' := h.trans ⟨fun a p => k a (by omega), fun a j p q r => by rw [k a (by omega)], fun j p => by rw [k 266 (by decide)], fun j p => by rw [k 257 (by decide)], fun a j p q r => by rw [k a (by omega)]⟩
/-- the level dd holds the position ps of the game G -/
def Lv (σ : GSt) (g dd : Nat) (G : GM) (ps : PS) : Prop := MB σ g G ∧ CL σ dd (psP ps) ∧ (σ 258 dd = nI (sd (psD ps)) ∧ σ 259 dd = nI (psD ps) ∧ σ 260 dd = nI (psS ps) ∧ σ 261 dd = nI (psW ps) ∧ σ 262 dd = psE ps) ∧ MLs σ dd (ML (gW G) (gH G) (gMv G) (psP ps) (sd (psD ps)))
theorem MLs.low {σ σ' : GSt} {dd : Nat} {l : List (Nat × Nat × Nat)} (h : MLs σ dd l) (hl : l.length ≤ 800) (h6 : σ' 266 dd = σ 266 dd) (hr : ∀ a j, 263 ≤ a → a ≤ 265 → 800 * dd ≤ j → j < 800 * dd + 800 → σ' a j = σ a j) : MLs σ' dd l := by
  refine ⟨by rw [h6]; exact h.1, fun j m hm => ?_⟩
  have hj := (List.getElem?_eq_some_iff.mp hm).1
  obtain ⟨a, b, c⟩ := h.2 j m hm
  exact ⟨by rw [hr 263 _ (by decide) (by decide) (by omega) (by omega)]; exact a, by rw [hr 264 _ (by decide) (by decide) (by omega) (by omega)]; exact b, by rw [hr 265 _ (by decide) (by decide) (by omega) (by omega)]; exact c⟩
theorem Lv.other {σ σ' : GSt} {g dd e : Nat} {G : GM} {ps : PS} (hG : GOK G) (hV : PV G ps) (h : Lv σ g dd G ps) (hne : dd ≠ e) (k : LF e σ σ') : Lv σ' g dd G ps := by
  obtain ⟨⟨w2, w4, h2, h4⟩, ⟨m6, -, hM⟩, -⟩ := id hG
  have hlen := ML_len (s := sd (psD ps)) w2 w4 h2 h4 (by unfold sd; omega) hV.1 m6
  refine ⟨h.1.row (fun a ha => k.1 a (by omega)), fun c hc => ?_, ⟨?_, ?_, ?_, ?_, ?_⟩, ?_⟩
  · rw [k.2.2.2.1 _ (by omega)]; exact h.2.1 c hc
  · rw [k.2.1 258 dd (by decide) (by decide) hne]; exact h.2.2.1.1
  · rw [k.2.1 259 dd (by decide) (by decide) hne]; exact h.2.2.1.2.1
  · rw [k.2.1 260 dd (by decide) (by decide) hne]; exact h.2.2.1.2.2.1
  · rw [k.2.1 261 dd (by decide) (by decide) hne]; exact h.2.2.1.2.2.2.1
  · rw [k.2.1 262 dd (by decide) (by decide) hne]; exact h.2.2.1.2.2.2.2
  · exact h.2.2.2.low (by omega) (k.2.2.1 dd hne) (fun a j p q r t => k.2.2.2.2 a j p q (by omega))
theorem holdsM_ok {σ : GSt} {g e k s dn : Nat} {G : GM} {P : Nat → Nat} {x : RuT} {Q : Int32 → GSt → Prop} (hG : GOK G) (h : MB σ g G) (e9 : e < 9) (hs : s = 1 ∨ s = 2) (hV : VP (gW G) (gH G) P) (hC : CL σ e P) (h8 : σ 258 e = nI (3 - s)) (h9 : σ 259 e = nI dn) (hM : MLs σ e (ML (gW G) (gH G) (gMv G) P (3 - s))) (hx : (gEn G)[k]? = some x)
    (hQ : ∀ (σ' : GSt) (b : Bool), b = holdsB (gW G) (gH G) P s dn (ML (gW G) (gH G) (gMv G) P (3 - s)).isEmpty x.2.2.1 x.2.2.2.1 → (∀ a, a ≠ 269 → σ' a = σ a) → Q (if b then 1 else 0) σ') : D_X11_holds (nI e) (nI k) (nI s) σ Q := by
  obtain ⟨⟨w2, w4, h2, h4⟩, ⟨m6, -, -⟩, ⟨e6, -, hE⟩, -⟩ := id hG
  have hk := (List.getElem?_eq_some_iff.mp hx).1
  have g9 := h.1.1
  obtain ⟨v9, v0, -, -⟩ := h.2.2.2.2.1 k x hx
  have hEx := hE x (List.mem_of_getElem? hx)
  have hlen := ML_len (mv := gMv G) (P := P) (s := 3 - s) w2 w4 h2 h4 (by omega) hV m6
  obtain ⟨kind, hkind⟩ : ∃ y, x.2.2.1 = y := ⟨_, rfl⟩
  obtain ⟨num, hnum⟩ : ∃ y, x.2.2.2.1 = y := ⟨_, rfl⟩
  rw [hkind] at v9
  rw [hnum] at v0
  rw [hkind, hnum] at hEx
  simp only [hkind, hnum] at hQ
  unfold D_X11_holds D_X11_holds_0
  rw [h.1.2, show (6 : Int32) * nI g + nI k = nI (6 * g + k) from nlin 6 g k, nI_clamp (show 6 * g + k < 2 ^ 31 by omega), v9, v0, nI_clamp (show e < 2 ^ 31 by omega), h8, h9, hM.1]
  have vk : vp_in (nI (6 * g + k)) 54 := vp_in_nI (by omega) (by decide)
  have ve : vp_in (nI e) 9 := vp_in_nI e9 (by decide)
  refine ⟨vk, fun x4 e4 => ⟨vk, ?_⟩⟩
  rw [e4]
  have q1 : holdsB (gW G) (gH G) P s dn (ML (gW G) (gH G) (gMv G) P (3 - s)).isEmpty kind num = true → Q 1 σ := fun z => hQ σ true z.symm (fun _ _ => rfl)
  have q0 : holdsB (gW G) (gH G) P s dn (ML (gW G) (gH G) (gMv G) P (3 - s)).isEmpty kind num = false → Q 0 σ := fun z => hQ σ false z.symm (fun _ _ => rfl)
  have hsn : (1 ≤ s ∧ s ≤ 2) := by omega
  obtain ⟨hEk, -⟩ := hEx
  rcases hEk with ⟨kk, m, m2, m4, em⟩ | kk | kk | kk | ⟨kk, m, m9, em⟩ | ⟨kk, m, m9, em⟩ <;> subst kk
  · refine ⟨fun z => absurd z (by decide), fun z => absurd z (by decide), fun z => absurd z (by decide), fun _ => ?_, fun z => absurd z (by decide), fun z => absurd rfl z.2.2.2.1⟩
    unfold holdsB at q1 q0
    rw [if_pos rfl] at q1 q0
    subst em
    rw [nI_clamp (show m < 2 ^ 31 by omega), ← rowM_eq w2 w4 h2 h4 (by omega) (by omega) (fun c => (hV c).1)] at q1 q0
    exact hasRowM_ok hG h e9 m4 hC (fun z => ⟨Or.inr rfl, q1 z⟩) (fun z => ⟨Or.inl rfl, q0 z⟩)
  · refine ⟨fun z => absurd z (by decide), fun z => absurd z (by decide), fun _ => ⟨ve, ?_⟩, fun z => absurd z (by decide), fun z => absurd z (by decide), fun z => absurd rfl z.2.2.1⟩
    unfold holdsB at q1 q0
    rw [if_neg (by decide), if_pos rfl] at q1 q0
    refine ⟨fun z => q0 ?_, fun z => q1 ?_⟩
    · cases hl : ML (gW G) (gH G) (gMv G) P (3 - s) with
      | nil => rw [hl] at z; exact absurd rfl z
      | cons a b => rfl
    · have := (nI_eq (b := 0) (by omega) (by decide)).mp z
      rw [List.length_eq_zero_iff.mp this]
      rfl
  · refine ⟨fun _ => ⟨ve, ?_⟩, fun z => absurd z (by decide), fun z => absurd z (by decide), fun z => absurd z (by decide), fun z => absurd z (by decide), fun z => absurd rfl z.1⟩
    unfold holdsB at q1 q0
    rw [if_neg (by decide), if_neg (by decide), if_pos rfl] at q1 q0
    have cl := cntF_le (pc P (3 - s)) 16 0
    refine pieces_ok hG h e9 (by omega) hV hC ⟨fun z => q0 (decide_eq_false (fun y => z (by rw [y]; rfl))), fun z => q1 (decide_eq_true ((nI_eq (b := 0) (by omega) (by decide)).mp z))⟩
  · refine ⟨fun z => absurd z (by decide), fun z => absurd z (by decide), fun z => absurd z (by decide), fun z => absurd z (by decide), fun _ => ?_, fun z => absurd rfl z.2.2.2.2⟩
    refine hasWayM_ok hG h e9 hs hV hC (fun σ' b eb hf => ?_)
    have := hQ σ' b (by unfold holdsB; rw [if_neg (by decide), if_neg (by decide), if_neg (by decide), if_pos rfl]; exact eb) hf
    refine ⟨?_, this⟩
    cases b
    · exact Or.inl rfl
    · exact Or.inr rfl
  · refine ⟨fun z => absurd z (by decide), fun _ => ?_, fun z => absurd z (by decide), fun z => absurd z (by decide), fun z => absurd z (by decide), fun z => absurd rfl z.2.1⟩
    unfold holdsB at q1 q0
    rw [if_neg (by decide), if_neg (by decide), if_neg (by decide), if_neg (by decide), if_pos rfl] at q1 q0
    exact pieces_ok hG h e9 hsn hV hC ⟨fun z => q0 (decide_eq_false (fun y => absurd z (Int32.not_lt.mpr y))), fun z => q1 (decide_eq_true (i32_nlt z))⟩
  · refine ⟨fun z => absurd z (by decide), fun z => absurd z (by decide), fun z => absurd z (by decide), fun z => absurd z (by decide), fun z => absurd z (by decide), fun _ => ⟨ve, ?_⟩⟩
    unfold holdsB at q1 q0
    rw [if_neg (by decide), if_neg (by decide), if_neg (by decide), if_neg (by decide), if_neg (by decide)] at q1 q0
    exact ⟨fun z => q0 (decide_eq_false (fun y => absurd z (Int32.not_lt.mpr y))), fun z => q1 (decide_eq_true (i32_nlt z))⟩
theorem ends_ok {σ : GSt} {g e s dn : Nat} {G : GM} {P : Nat → Nat} {Q : GSt → Prop} (hG : GOK G) (h : MB σ g G) (e9 : e < 9) (hs : s = 1 ∨ s = 2) (hsd : sd dn = 3 - s) (hdn : dn ≤ 60) (hV : VP (gW G) (gH G) P) (hC : CL σ e P) (h8 : σ 258 e = nI (3 - s)) (h9 : σ 259 e = nI dn) (hM : MLs σ e (ML (gW G) (gH G) (gMv G) P (3 - s)))
    (hQ : ∀ σ' : GSt, LF e σ σ' → Lv σ' g e G (P, dn, finS G P dn s) → Q σ') : D_X11_ends (nI e) σ Q := by
  obtain ⟨⟨w2, w4, h2, h4⟩, ⟨m6, -, -⟩, ⟨e6, -, hE⟩, -⟩ := id hG
  have hlen := ML_len (mv := gMv G) (P := P) (s := 3 - s) w2 w4 h2 h4 (by omega) hV m6
  have ve : vp_in (nI e) 9 := vp_in_nI e9 (by decide)
  have g9 := h.1.1
  unfold D_X11_ends D_X11_ends_0
  rw [nI_clamp (show e < 2 ^ 31 by omega)]
  refine ⟨ve, fun s1 e1 => ⟨ve, fun s2 e2 => ⟨ve, fun s3 e3 => ⟨ve, fun x2 ex2 => ⟨(gEn G).length + 1, ?_⟩⟩⟩⟩⟩
  have F3 : LF e σ s3 := by rw [e3, e2, e1]; exact ((LF.rf.slot (by decide)).slot (by decide)).slot (by decide)
  have c8 : s3 258 e = nI (3 - s) := by rw [e3, up2_ne (by decide), e2, up2_ne (by decide), e1, up2_ne (by decide)]; exact h8
  rw [c8, show (3 : Int32) - nI (3 - s) = nI s by rw [show (3 : Int32) = nI 3 from rfl, pk_sub (by omega)]; congr 1; omega] at ex2
  subst ex2
  have lk : lackB G P dn = (ML (gW G) (gH G) (gMv G) P (3 - s)).isEmpty := by unfold lackB; rw [hsd]
  -- what stays
  have stay : ∀ τ : GSt, LF e σ τ → (∀ a, a = 257 ∨ a = 258 ∨ a = 259 ∨ a = 263 ∨ a = 264 ∨ a = 265 ∨ a = 266 → τ a = σ a) → MB τ g G ∧ CL τ e P ∧ τ 258 e = nI (3 - s) ∧ τ 259 e = nI dn ∧ MLs τ e (ML (gW G) (gH G) (gMv G) P (3 - s)) := fun τ ht hr => ⟨h.row (fun a ha => ht.1 a (by omega)), fun c hc => by rw [hr 257 (by decide)]; exact hC c hc, by rw [hr 258 (by decide)]; exact h8, by rw [hr 259 (by decide)]; exact h9, hM.low (by omega) (by rw [hr 266 (by decide)]) (fun a j p q _ _ => by rw [hr a (by omega)])⟩
  have fin : ∀ (τ : GSt) (st wn : Nat) (ek : Int32), LF e σ τ → (∀ a, a = 257 ∨ a = 258 ∨ a = 259 ∨ a = 263 ∨ a = 264 ∨ a = 265 ∨ a = 266 → τ a = σ a) → τ 260 e = nI st → τ 261 e = nI wn → τ 262 e = ek → finS G P dn s = (st, wn, ek) → Q τ := by
    intro τ st wn ek ht hr v0 v1 v2 hf
    obtain ⟨a1, a2, a3, a4, a5⟩ := stay τ ht hr
    refine hQ τ ht ?_
    rw [hf]
    exact ⟨a1, a2, ⟨by rw [a3, ← hsd]; rfl, a4, v0, v1, v2⟩, by show MLs τ e (ML (gW G) (gH G) (gMv G) P (sd dn)); rw [hsd]; exact a5⟩
  have done : ∀ (τ : GSt) (wn : Nat) (ek : Int32), LF e σ τ → (∀ a, a = 257 ∨ a = 258 ∨ a = 259 ∨ a = 263 ∨ a = 264 ∨ a = 265 ∨ a = 266 → τ a = σ a) → τ 260 e = nI 1 → τ 261 e = nI wn → τ 262 e = ek → finS G P dn s = (1, wn, ek) → D_X11_ends_138 Q (nI e) τ := by
    intro τ wn ek ht hr v0 v1 v2 hf
    unfold D_X11_ends_138 D_X11_ends_163
    rw [nI_clamp (show e < 2 ^ 31 by omega), v0]
    exact ⟨ve, fun _ => ⟨ve, fun _ => fin τ 1 wn ek ht hr v0 v1 v2 hf, fun z => absurd z (by decide)⟩, fun z => absurd z (by decide)⟩
  have key : ∀ (d j : Nat) (τ : GSt), j + d = (gEn G).length → LF e σ τ → (∀ a, a = 257 ∨ a = 258 ∨ a = 259 ∨ a = 263 ∨ a = 264 ∨ a = 265 ∨ a = 266 → τ a = σ a) → τ 260 e = 0 → τ 261 e = 0 → τ 262 e = -9 → endF (gW G) (gH G) P s dn (lackB G P dn) (gEn G) 0 = endF (gW G) (gH G) P s dn (lackB G P dn) ((gEn G).drop j) j → L_X11_ends_33 Q (d + 1) (nI e) (nI s) (nI j) τ := by
    intro d
    induction d with
    | zero =>
      intro j τ hj ht hr v0 v1 v2 hF
      obtain ⟨a1, a2, a3, a4, a5⟩ := stay τ ht hr
      rw [List.drop_of_length_le (by omega)] at hF
      have fS : finS G P dn s = if lackB G P dn then (2, 0, -9) else if 60 ≤ dn then (3, 0, -9) else (0, 0, -9) := by
        unfold finS
        rw [hF]
        rfl
      unfold L_X11_ends_33 D_X11_ends_33
      rw [a1.gi, a1.2.2.1.2]
      refine ⟨a1.vp, fun _ => ?_, fun z => absurd (nI_le (by omega) (by omega)) z⟩
      unfold D_X11_ends_138
      rw [nI_clamp (show e < 2 ^ 31 by omega), v0, a5.1]
      refine ⟨ve, fun z => absurd rfl z, fun _ => ⟨ve, fun z => ?_, fun z => ⟨ve, fun t1 f1 => ?_⟩⟩⟩
      · have l0 : lackB G P dn = false := by
          rw [lk]
          cases hl : ML (gW G) (gH G) (gMv G) P (3 - s) with
          | nil => rw [hl] at z; exact absurd rfl z
          | cons a b => rfl
        rw [l0] at fS
        simp only [Bool.false_eq_true, if_false] at fS
        unfold D_X11_ends_163
        rw [nI_clamp (show e < 2 ^ 31 by omega), v0, a4]
        refine ⟨ve, fun z => absurd rfl z, fun _ => ⟨ve, pk_lt dn 60 (fun y => ?_) (fun y => ⟨ve, fun t1 f1 => ?_⟩)⟩⟩
        · rw [if_neg (by omega)] at fS
          exact fin τ 0 0 (-9) ht hr v0 v1 v2 fS
        · rw [if_pos y] at fS
          refine fin t1 3 0 (-9) (by rw [f1]; exact ht.slot (by decide)) (fun a ha => by rw [f1, up2_ne (by omega)]; exact hr a ha) (by rw [f1]; simp [up2_app]; rfl) (by rw [f1, up2_ne (by decide)]; exact v1) (by rw [f1, up2_ne (by decide)]; exact v2) fS
      · have l1 : lackB G P dn = true := by
          rw [lk]
          have := (nI_eq (b := 0) (by omega) (by decide)).mp z
          rw [List.length_eq_zero_iff.mp this]
          rfl
        rw [l1] at fS
        simp only [if_true] at fS
        have w0 : t1 260 e = nI 2 := by rw [f1]; simp [up2_app]; rfl
        unfold D_X11_ends_163
        rw [nI_clamp (show e < 2 ^ 31 by omega), w0]
        exact ⟨ve, fun _ => fin t1 2 0 (-9) (by rw [f1]; exact ht.slot (by decide)) (fun a ha => by rw [f1, up2_ne (by omega)]; exact hr a ha) w0 (by rw [f1, up2_ne (by decide)]; exact v1) (by rw [f1, up2_ne (by decide)]; exact v2) fS, fun z => absurd z (by decide)⟩
    | succ d ih =>
      intro j τ hj ht hr v0 v1 v2 hF
      obtain ⟨a1, a2, a3, a4, a5⟩ := stay τ ht hr
      obtain ⟨x, hx⟩ : ∃ x, (gEn G)[j]? = some x := ⟨_, List.getElem?_eq_getElem (by omega)⟩
      rw [drop_cons hx, endF_cons, lk] at hF
      unfold L_X11_ends_33 D_X11_ends_33
      rw [a1.gi, a1.2.2.1.2, nI_clamp (show e < 2 ^ 31 by omega), v0]
      refine ⟨a1.vp, fun z => absurd z (nI_ge (by omega) (by omega)), fun _ => ⟨ve, fun z => absurd rfl z, fun _ => ?_⟩⟩
      refine holdsM_ok hG a1 e9 hs hV a2 a3 a4 a5 hx (fun τ' b eb hf => ?_)
      have ht' : LF e σ τ' := ht.ofOn hf
      have hr' : ∀ a, a = 257 ∨ a = 258 ∨ a = 259 ∨ a = 263 ∨ a = 264 ∨ a = 265 ∨ a = 266 → τ' a = σ a := fun a ha => by rw [hf a (by omega)]; exact hr a ha
      rw [← eb] at hF
      cases b with
      | false =>
        simp only [Bool.false_eq_true, if_false] at hF
        refine ⟨fun z => absurd (by decide) z, fun _ y ey => ?_⟩
        rw [ey, nI_1 j]
        exact ih (j + 1) τ' (by omega) ht' hr' (by rw [hf 260 (by decide)]; exact v0) (by rw [hf 261 (by decide)]; exact v1) (by rw [hf 262 (by decide)]; exact v2) (by rw [lk]; exact hF)
      | true =>
        simp only [if_true] at hF
        refine ⟨fun _ => ⟨ve, fun t3 f3 => ⟨ve, fun t4 f4 => ?_⟩⟩, fun z => absurd z (by decide)⟩
        have F4 : LF e σ t4 := by rw [f4, f3]; exact (ht'.slot (by decide)).slot (by decide)
        have R4 : ∀ a, a = 257 ∨ a = 258 ∨ a = 259 ∨ a = 263 ∨ a = 264 ∨ a = 265 ∨ a = 266 → t4 a = σ a := fun a ha => by rw [f4, up2_ne (by omega), f3, up2_ne (by omega)]; exact hr' a ha
        obtain ⟨b1, b2, b3, b4, b5⟩ := stay t4 F4 R4
        obtain ⟨-, -, o1, -⟩ := b1.2.2.2.2.1 j x hx
        have u0 : t4 260 e = nI 1 := by rw [f4, up2_ne (by decide), f3]; simp [up2_app]; rfl
        have u2 : t4 262 e = nI j := by rw [f4]; simp [up2_app]
        rw [b1.1.2, show (6 : Int32) * nI g + nI j = nI (6 * g + j) from nlin 6 g j, nI_clamp (show 6 * g + j < 2 ^ 31 by omega), o1, b3]
        have fS : finS G P dn s = (1, (if x.2.2.2.2 = 0 then s else if x.2.2.2.2 = 1 then 3 - s else 0), nI j) := by
          unfold finS
          rw [lk, hF]
        have put : ∀ (wn : Nat) (v : Int32), v = nI wn → finS G P dn s = (1, wn, nI j) → D_X11_ends_131 (L_X11_ends_33 Q (d + 1)) Q (nI e) (nI s) (nI j) 261 (nI e) v t4 := by
          intro wn v ev hfs
          unfold D_X11_ends_131
          rw [show ln 261 = 9 by decide +kernel, nI_clamp (show e < 2 ^ 31 by omega)]
          refine ⟨ve, fun t5 f5 y ey => ?_⟩
          have F5 : LF e σ t5 := by rw [f5]; exact F4.slot (by decide)
          have R5 : ∀ a, a = 257 ∨ a = 258 ∨ a = 259 ∨ a = 263 ∨ a = 264 ∨ a = 265 ∨ a = 266 → t5 a = σ a := fun a ha => by rw [f5, up2_ne (by omega)]; exact R4 a ha
          have hd := done t5 wn (nI j) F5 R5 (by rw [f5, up2_ne (by decide)]; exact u0) (by rw [f5, ev]; simp [up2_app]) (by rw [f5, up2_ne (by decide)]; exact u2) hfs
          obtain ⟨c1, -⟩ := stay t5 F5 R5
          have w0 : t5 260 e = nI 1 := by rw [f5, up2_ne (by decide)]; exact u0
          show D_X11_ends_33 _ Q (nI e) (nI s) y t5
          unfold D_X11_ends_33
          rw [ey, nI_1 j, c1.gi, c1.2.2.1.2, nI_clamp (show e < 2 ^ 31 by omega), w0]
          exact ⟨c1.vp, fun _ => hd, fun _ => ⟨ve, fun _ => hd, fun z => absurd z (by decide)⟩⟩
        refine ⟨vp_in_nI (by omega) (by decide), fun x4 e4 => ?_⟩
        have hout := (hE x (List.mem_of_getElem? hx)).2
        subst e4
        unfold oL
        rcases hout with o | o | o
        · rw [o] at fS ⊢
          exact ⟨fun z => absurd rfl z, fun _ => put s _ rfl (by rw [fS, if_pos rfl])⟩
        · rw [o] at fS ⊢
          exact ⟨fun _ => ⟨fun z => absurd rfl z, fun _ => ⟨ve, put (3 - s) _ rfl (by rw [fS, if_neg (by decide), if_pos rfl])⟩⟩, fun z => absurd z (by decide)⟩
        · rw [o] at fS ⊢
          exact ⟨fun _ => ⟨fun _ => put 0 0 rfl (by rw [fS, if_neg (by decide), if_neg (by decide)]), fun z => absurd z (by decide)⟩, fun z => absurd z (by decide)⟩
  exact key (gEn G).length 0 s3 (by omega) F3 (fun a ha => by rw [e3, up2_ne (by omega), e2, up2_ne (by omega), e1, up2_ne (by omega)]) (by rw [e3, e2, e1]; simp [up2_app]) (by rw [e3, e2]; simp [up2_app]) (by rw [e3]; simp [up2_app]) (by rw [List.drop_zero])
