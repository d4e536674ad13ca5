/-- the reference's game g is G (whichever it looks at now), with what begins on its board -/
def MG0 (σ : GSt) (g : Nat) (G : GM) : Prop := g < 9 ∧ (σ 242 g = nI (gW G) ∧ σ 243 g = nI (gH G)) ∧ (σ 248 g = nI (gMv G).length ∧ σ 253 g = nI (gEn G).length) ∧ (∀ j e, (gMv G)[j]? = some e → MvM σ (6 * g + j) e) ∧ (∀ j e, (gEn G)[j]? = some e → EnM σ (6 * g + j) e) ∧ (∀ y, y < 8 → σ 267 y = eastF y ∧ σ 268 y = southF y) ∧ ∀ c, c < 16 → σ 244 (16 * g + c) = nI (P0 G c)
/-- what looks of the reference leave alone -/
def SF (σ σ' : GSt) : Prop := (∀ a, a ≠ 237 → (a < 257 ∨ a = 267 ∨ a = 268 ∨ a = 273 ∨ 277 ≤ a) → σ' a = σ a) ∧ ∀ k, (k < 21 ∨ (22 < k ∧ k < 39) ∨ (39 < k ∧ k < 45) ∨ 52 < k) → σ' 237 k = σ 237 k
theorem SF.rf {σ : GSt} : SF σ σ := ⟨fun _ _ _ => rfl, fun _ _ => rfl⟩
theorem SF.trans {σ σ' σ'' : GSt} (h : SF σ σ') (k : SF σ' σ'') : SF σ σ'' := ⟨fun a p q => (k.1 a p q).trans (h.1 a p q), fun j p => (k.2 j p).trans (h.2 j p)⟩
theorem SF.ofLF {σ σ' : GSt} {e : Nat} (k : LF e σ σ') : SF σ σ' := ⟨fun a _ q => k.1 a (by omega), fun j _ => by rw [k.1 237 (by decide)]⟩
theorem SF.put {σ σ' : GSt} {a j : Nat} {v : Int32} (h : SF σ σ') (ha : 257 ≤ a ∧ a ≤ 276 ∧ a ≠ 267 ∧ a ≠ 268 ∧ a ≠ 273) : SF σ (up2 σ' a j v) := ⟨fun b p q => (up2_ne (by omega)).trans (h.1 b p q), fun k p => by rw [up2_ne (by omega)]; exact h.2 k p⟩
theorem SF.slot {σ σ' : GSt} {j : Nat} {v : Int32} (h : SF σ σ') (hj : j = 21 ∨ j = 22 ∨ j = 39 ∨ (45 ≤ j ∧ j ≤ 52)) : SF σ (up2 σ' 237 j v) := ⟨fun b p q => (up2_ne p).trans (h.1 b p q), fun k p => by rw [up2_app, if_neg (by omega)]; exact h.2 k p⟩
/-- the narrower of them -/
def PF (σ σ' : GSt) : Prop := (∀ a, a ≠ 237 → (a < 257 ∨ a = 267 ∨ a = 268 ∨ 272 < a) → σ' a = σ a) ∧ ∀ k, k ≠ 22 → k ≠ 39 → σ' 237 k = σ 237 k
theorem PF.rf {σ : GSt} : PF σ σ := ⟨fun _ _ _ => rfl, fun _ _ _ => rfl⟩
theorem PF.trans {σ σ' σ'' : GSt} (h : PF σ σ') (k : PF σ' σ'') : PF σ σ'' := ⟨fun a p q => (k.1 a p q).trans (h.1 a p q), fun j p q => (k.2 j p q).trans (h.2 j p q)⟩
theorem PF.ofLF {σ σ' : GSt} {e : Nat} (k : LF e σ σ') : PF σ σ' := ⟨fun a _ q => k.1 a (by omega), fun j _ _ => by rw [k.1 237 (by decide)]⟩
theorem PF.put {σ σ' : GSt} {a j : Nat} {v : Int32} (h : PF σ σ') (ha : 257 ≤ a ∧ a ≤ 272 ∧ a ≠ 267 ∧ a ≠ 268) : PF σ (up2 σ' a j v) := ⟨fun b p q => (up2_ne (by omega)).trans (h.1 b p q), fun k p q => by rw [up2_ne (by omega)]; exact h.2 k p q⟩
theorem PF.slot {σ σ' : GSt} {j : Nat} {v : Int32} (h : PF σ σ') (hj : j = 22 ∨ j = 39) : PF σ (up2 σ' 237 j v) := ⟨fun b p q => (up2_ne p).trans (h.1 b p q), fun k p q => by rw [up2_app, if_neg (by omega)]; exact h.2 k p q⟩
theorem PF.sf {σ σ' : GSt} (h : PF σ σ') : SF σ σ' := ⟨fun a p q => h.1 a p (by omega), fun k p => h.2 k (by omega) (by omega)⟩
theorem MG0.row {σ σ' : GSt} {g : Nat} {G : GM} (h : MG0 σ g G) (hr : SF σ σ') : MG0 σ' g G := by
  unfold MG0 MvM EnM at *
  rw [hr.1 242 (by decide) (by decide), hr.1 243 (by decide) (by decide), hr.1 248 (by decide) (by decide), hr.1 253 (by decide) (by decide), hr.1 245 (by decide) (by decide), hr.1 246 (by decide) (by decide), hr.1 247 (by decide) (by decide), hr.1 256 (by decide) (by decide), hr.1 249 (by decide) (by decide), hr.1 250 (by decide) (by decide), hr.1 251 (by decide) (by decide), hr.1 252 (by decide) (by decide), hr.1 267 (by decide) (by decide), hr.1 268 (by decide) (by decide), hr.1 244 (by decide) (by decide)]
  exact h
theorem opens_ok {σ : GSt} {g : Nat} {G : GM} {Q : GSt → Prop} (hG : GOK G) (h : MG0 σ g G) (hQ : ∀ σ' : GSt, Lv σ' g 0 G (beg G) → PF σ σ' → Q σ') : D_X11_opens (nI g) σ Q := by
  obtain ⟨⟨w2, w4, h2, h4⟩, ⟨m6, -, hM⟩, -, hV, -⟩ := id hG
  have hlen := ML_len (mv := gMv G) (P := P0 G) (s := 1) w2 w4 h2 h4 (by decide) hV m6
  have g9 := h.1
  intro s1 e1
  have F1 : PF σ s1 := by rw [e1]; exact PF.rf.slot (by decide)
  have g1 : s1 237 22 = nI g := by rw [e1]; simp [up2_app]
  have h1 := h.row F1.sf
  refine ⟨17, ?_⟩
  have key : ∀ (d c : Nat) (τ : GSt), c + d = 16 → PF σ τ → τ 237 22 = nI g → (∀ j, j < c → τ 257 j = nI (P0 G j)) → L_X11_opens_7 Q (d + 1) (nI c) τ := by
    intro d
    induction d with
    | zero =>
      intro c τ hc hF hg hcp
      refine ⟨fun _ t1 f1 t2 f2 t3 f3 t4 f4 => ?_, fun z => absurd (nI_le (a := 16) (by omega) (by omega)) z⟩
      have c0 : Int32.toNatClampNeg 0 = 0 := by decide
      rw [c0] at f1 f2 f3 f4
      have F4 : PF σ t4 := by rw [f4, f3, f2, f1]; exact (((hF.put (by decide)).put (by decide)).put (by decide)).put (by decide)
      have h4' := h.row F4.sf
      have M4 : MB t4 g G := ⟨⟨g9, by rw [f4, f3, f2, f1, up2_ne (by decide), up2_ne (by decide), up2_ne (by decide), up2_ne (by decide)]; exact hg⟩, h4'.2.1, h4'.2.2.1, h4'.2.2.2.1, h4'.2.2.2.2.1, h4'.2.2.2.2.2.1⟩
      have C4 : CL t4 0 (P0 G) := fun j hj => by
        rw [f4, f3, f2, f1, up2_ne (by decide), up2_ne (by decide), up2_ne (by decide), up2_ne (by decide), Nat.mul_zero, Nat.zero_add]
        exact hcp j (by omega)
      have s8 : t4 258 0 = nI 1 := by rw [f4, f3, f2, f1, up2_ne (by decide), up2_ne (by decide), up2_ne (by decide)]; simp [up2_app]; rfl
      have s9 : t4 259 0 = nI 0 := by rw [f4, f3, f2, up2_ne (by decide), up2_ne (by decide)]; simp [up2_app, nI_0]
      have s1' : t4 261 0 = nI 0 := by rw [f4, f3, up2_ne (by decide)]; simp [up2_app, nI_0]
      have s2' : t4 262 0 = -9 := by rw [f4]; simp [up2_app]
      refine findMoves_ok (dd := 0) hG (by decide) (by decide) hV ⟨M4, C4, s8⟩ (fun t5 M5 F5 => ?_)
      have L5 : LvP t5 g 0 G (P0 G) 1 := LvP.row ⟨M4, C4, s8⟩ F5
      have F5' : PF σ t5 := F4.trans (PF.ofLF (LF.rf.ofFM F5))
      have fin : ∀ (st : Nat) (v : Int32), v = nI st → st = (if ML (gW G) (gH G) (gMv G) (P0 G) 1 = [] then 2 else 0) → D_X11_opens_92 Q 260 0 v t5 := by
        intro st v ev est
        refine ⟨by rw [show ln 260 = 9 by decide +kernel]; exact vp_in_nI (n := 0) (by decide) (by decide), fun t6 f6 => ?_⟩
        rw [c0] at f6
        refine hQ t6 ⟨?_, ?_, ⟨?_, ?_, ?_, ?_, ?_⟩, ?_⟩ (by rw [f6]; exact F5'.put (by decide))
        · exact L5.1.row (fun a ha => by rw [f6, up2_ne (by omega)])
        · intro j hj
          rw [f6, up2_ne (by decide)]
          exact L5.2.1 j hj
        · rw [f6, up2_ne (by decide)]; exact L5.2.2
        · rw [f6, up2_ne (by decide), F5.1 259 (by decide)]; exact s9
        · rw [f6, ev, est]; simp [up2_app, beg, psS]
        · rw [f6, up2_ne (by decide), F5.1 261 (by decide)]; exact s1'
        · rw [f6, up2_ne (by decide), F5.1 262 (by decide)]; exact s2'
        · exact MLs.low (M5 : MLs t5 0 (ML (gW G) (gH G) (gMv G) (P0 G) 1)) (show (ML (gW G) (gH G) (gMv G) (P0 G) 1).length ≤ 800 by omega) (by rw [f6, up2_ne (by decide)]) (fun a j p q _ _ => by rw [f6, up2_ne (by omega)])
      rw [c0, M5.1]
      refine ⟨fun z => fin 0 0 rfl ?_, fun z => fin 2 2 rfl ?_⟩
      · rw [if_neg (fun y => z (by rw [y]; rfl))]
      · have := (nI_eq (b := 0) (by omega) (by decide)).mp z
        rw [if_pos (List.length_eq_zero_iff.mp this)]
    | succ d ih =>
      intro c τ hc hF hg hcp
      have ht := h.row hF.sf
      unfold L_X11_opens_7 D_X11_opens_7
      rw [hg, show (16 : Int32) * nI g + nI c = nI (16 * g + c) from nlin 16 g c, nI_clamp (show 16 * g + c < 2 ^ 31 by omega), nI_clamp (show c < 2 ^ 31 by omega), ht.2.2.2.2.2.2 c (by omega)]
      refine ⟨fun z => absurd z (nI_ge (b := 16) (by omega) (by decide)), fun _ => ⟨vp_in_nI (by omega) (by decide), vp_in_nI (by omega) (by decide), fun t6 f6 x ex => ?_⟩⟩
      rw [ex, nI_1 c]
      refine ih (c + 1) t6 (by omega) (by rw [f6]; exact hF.put (by decide)) (by rw [f6, up2_ne (by decide)]; exact hg) (fun j hj => ?_)
      rw [f6, up2_app]
      by_cases q : j = c
      · rw [if_pos ⟨rfl, q⟩, q]
      · rw [if_neg (by omega)]
        exact hcp j (by omega)
  exact key 16 0 s1 rfl F1 g1 (fun j hj => absurd hj (Nat.not_lt_zero _))
theorem goesOn_ok {σ : GSt} {g i : Nat} {G : GM} {ps : PS} {m : Nat × Nat × Nat} {Q : GSt → Prop} (hG : GOK G) (hV : PV G ps) (hL : Lv σ g 0 G ps) (hm : (mvl G ps)[i]? = some m) (hQ : ∀ σ' : GSt, Lv σ' g 0 G (stp G ps m) → PF σ σ' → Q σ') : D_X11_goesOn (nI i) σ Q := by
  have hmem : m ∈ mvl G ps := List.mem_of_getElem? hm
  have hVs := stp_PV hG hV hmem
  obtain ⟨⟨w2, w4, h2, h4⟩, ⟨m6, -, hM⟩, -⟩ := id hG
  have hlen := ML_len (mv := gMv G) (P := psP (stp G ps m)) (s := sd (psD (stp G ps m))) w2 w4 h2 h4 (by unfold sd; omega) hVs.1 m6
  obtain ⟨q, hq⟩ : ∃ q, q = stp G ps m := ⟨_, rfl⟩
  refine does_ok (d := 0) hG hV (by decide) hL hm (fun s1 L1 F1 => ?_)
  rw [← hq] at L1 hQ hlen
  have c0 : Int32.toNatClampNeg 0 = 0 := by decide
  have c1 : Int32.toNatClampNeg 1 = 1 := by decide
  refine ⟨17, ?_⟩
  -- what stays of level 1
  have key : ∀ (d c : Nat) (τ : GSt), c + d = 16 → (∀ a, a ≠ 257 → τ a = s1 a) → (∀ j, 16 ≤ j → τ 257 j = s1 257 j) → (∀ j, j < c → τ 257 j = nI (psP q j)) → L_X11_goesOn_8 Q (d + 1) (nI c) τ := by
    intro d
    induction d with
    | zero =>
      intro c τ hc hF hF2 hcp
      refine ⟨fun _ t1 f1 t2 f2 t3 f3 t4 f4 t5 f5 t6 f6 => ?_, fun z => absurd (nI_le (a := 16) (by omega) (by omega)) z⟩
      rw [c0, c1] at f1 f2 f3 f4 f5 f6
      have v8 : τ 258 1 = nI (sd (psD q)) := by rw [hF 258 (by decide)]; exact L1.2.2.1.1
      have v9 : t1 259 1 = nI (psD q) := by rw [f1, up2_ne (by decide), hF 259 (by decide)]; exact L1.2.2.1.2.1
      have v0 : t2 260 1 = nI (psS q) := by rw [f2, up2_ne (by decide), f1, up2_ne (by decide), hF 260 (by decide)]; exact L1.2.2.1.2.2.1
      have v1 : t3 261 1 = nI (psW q) := by rw [f3, up2_ne (by decide), f2, up2_ne (by decide), f1, up2_ne (by decide), hF 261 (by decide)]; exact L1.2.2.1.2.2.2.1
      have v2 : t4 262 1 = psE q := by rw [f4, up2_ne (by decide), f3, up2_ne (by decide), f2, up2_ne (by decide), f1, up2_ne (by decide), hF 262 (by decide)]; exact L1.2.2.1.2.2.2.2
      have v6 : t5 266 1 = nI (ML (gW G) (gH G) (gMv G) (psP q) (sd (psD q))).length := by rw [f5, up2_ne (by decide), f4, up2_ne (by decide), f3, up2_ne (by decide), f2, up2_ne (by decide), f1, up2_ne (by decide), hF 266 (by decide)]; exact L1.2.2.2.1
      rw [v8] at f1
      rw [v9] at f2
      rw [v0] at f3
      rw [v1] at f4
      rw [v2] at f5
      rw [v6] at f6
      have e6 : t6 = up2 (up2 (up2 (up2 (up2 (up2 τ 258 0 (nI (sd (psD q)))) 259 0 (nI (psD q))) 260 0 (nI (psS q))) 261 0 (nI (psW q))) 262 0 (psE q)) 266 0 (nI (ML (gW G) (gH G) (gMv G) (psP q) (sd (psD q))).length) := by rw [f6, f5, f4, f3, f2, f1]
      have o6 : ∀ a, a ≠ 258 → a ≠ 259 → a ≠ 260 → a ≠ 261 → a ≠ 262 → a ≠ 266 → t6 a = τ a := fun a p1 p2 p3 p4 p5 p6 => by rw [e6, up2_ne p6, up2_ne p5, up2_ne p4, up2_ne p3, up2_ne p2, up2_ne p1]
      refine ⟨(ML (gW G) (gH G) (gMv G) (psP q) (sd (psD q))).length + 1, ?_⟩
      have rows : ∀ (u j : Nat) (x : GSt), j + u = (ML (gW G) (gH G) (gMv G) (psP q) (sd (psD q))).length → (∀ a, a ≠ 263 → a ≠ 264 → a ≠ 265 → x a = t6 a) → (∀ a y, 800 ≤ y → x a y = t6 a y) → (∀ y m, y < j → (ML (gW G) (gH G) (gMv G) (psP q) (sd (psD q)))[y]? = some m → R3 x y m) → L_X11_goesOn_109 Q (u + 1) (nI j) x := by
        intro u
        induction u with
        | zero =>
          intro j x hj hx hx2 hr
          have w6 : x 266 1 = nI (ML (gW G) (gH G) (gMv G) (psP q) (sd (psD q))).length := by rw [hx 266 (by decide) (by decide) (by decide), e6, up2_app, if_neg (by decide), up2_ne (by decide), up2_ne (by decide), up2_ne (by decide), up2_ne (by decide), up2_ne (by decide), hF 266 (by decide)]; exact L1.2.2.2.1
          unfold L_X11_goesOn_109 D_X11_goesOn_109
          rw [c1, w6]
          refine ⟨fun _ => ?_, fun z => absurd (nI_le (by omega) (by omega)) z⟩
          have lk : ∀ a, a < 257 ∨ a = 267 ∨ a = 268 ∨ 269 < a → x a = σ a := fun a ha => by rw [hx a (by omega) (by omega) (by omega), o6 a (by omega) (by omega) (by omega) (by omega) (by omega) (by omega), hF a (by omega), F1.1 a ha]
          refine hQ x ⟨?_, ?_, ⟨?_, ?_, ?_, ?_, ?_⟩, ?_, ?_⟩ ⟨fun a _ p => lk a (by omega), fun k _ _ => by rw [lk 237 (by decide)]⟩
          · exact hL.1.row (fun a ha => lk a (by omega))
          · intro c' hc'
            rw [Nat.mul_zero, Nat.zero_add, hx 257 (by decide) (by decide) (by decide), o6 257 (by decide) (by decide) (by decide) (by decide) (by decide) (by decide)]
            exact hcp c' (by omega)
          · rw [hx 258 (by decide) (by decide) (by decide), e6]; simp [up2_app]
          · rw [hx 259 (by decide) (by decide) (by decide), e6]; simp [up2_app]
          · rw [hx 260 (by decide) (by decide) (by decide), e6]; simp [up2_app]
          · rw [hx 261 (by decide) (by decide) (by decide), e6]; simp [up2_app]
          · rw [hx 262 (by decide) (by decide) (by decide), e6]; simp [up2_app]
          · rw [hx 266 (by decide) (by decide) (by decide), e6]; simp [up2_app]
          · intro y m' hm'
            have := (List.getElem?_eq_some_iff.mp hm').1
            rw [Nat.mul_zero, Nat.zero_add]
            exact hr y m' (by omega) hm'
        | succ u ihu =>
          intro j x hj hx hx2 hr
          have w6 : x 266 1 = nI (ML (gW G) (gH G) (gMv G) (psP q) (sd (psD q))).length := by rw [hx 266 (by decide) (by decide) (by decide), e6, up2_app, if_neg (by decide), up2_ne (by decide), up2_ne (by decide), up2_ne (by decide), up2_ne (by decide), up2_ne (by decide), hF 266 (by decide)]; exact L1.2.2.2.1
          obtain ⟨m', hm'⟩ : ∃ m', (ML (gW G) (gH G) (gMv G) (psP q) (sd (psD q)))[j]? = some m' := ⟨_, List.getElem?_eq_getElem (by omega)⟩
          obtain ⟨r1, r2, r3⟩ := L1.2.2.2.2 j m' hm'
          have y3 : ∀ a, 263 ≤ a → a ≤ 265 → x a (800 + j) = s1 a (800 * 1 + j) := fun a p1 p2 => by rw [hx2 a _ (by omega), o6 a (by omega) (by omega) (by omega) (by omega) (by omega) (by omega), hF a (by omega), Nat.mul_one]
          unfold L_X11_goesOn_109 D_X11_goesOn_109
          rw [c1, w6, show (800 : Int32) + nI j = nI (800 + j) from nI_add 800 j, nI_clamp (show j < 2 ^ 31 by omega), nI_clamp (show 800 + j < 2 ^ 31 by omega)]
          have va : vp_in (nI (800 + j)) 7200 := vp_in_nI (by omega) (by decide)
          have vb : vp_in (nI j) 7200 := vp_in_nI (by omega) (by decide)
          refine ⟨fun z => absurd z (nI_ge (by omega) (by omega)), fun _ => ⟨va, vb, fun x1 g1 => ⟨va, vb, fun x2 g2 => ⟨va, vb, fun x3 g3 y ey => ?_⟩⟩⟩⟩
          rw [y3 263 (by decide) (by decide), r1] at g1
          rw [show x1 264 (800 + j) = nI m'.2.1 by rw [g1, up2_ne (by decide), y3 264 (by decide) (by decide), r2]] at g2
          rw [show x2 265 (800 + j) = nI m'.2.2 by rw [g2, up2_ne (by decide), g1, up2_ne (by decide), y3 265 (by decide) (by decide), r3]] at g3
          rw [ey, nI_1 j]
          refine ihu (j + 1) x3 (by omega) (fun a p1 p2 p3 => by rw [g3, up2_ne p3, g2, up2_ne p2, g1, up2_ne p1]; exact hx a p1 p2 p3) (fun a y' hy' => by rw [g3, up2_app, if_neg (by omega), g2, up2_app, if_neg (by omega), g1, up2_app, if_neg (by omega)]; exact hx2 a y' hy') (fun y' m2 hy' hm2 => ?_)
          by_cases q' : y' = j
          · subst q'
            rw [hm'] at hm2
            have := Option.some.inj hm2
            subst this
            rw [g3, g2, g1]
            unfold R3
            simp [up2_app]
          · have := hr y' m2 (by omega) hm2
            rw [g3, g2, g1]
            exact ((this.put (n := m2) q').put (n := m2) q').put (n := m2) q'
      exact rows (ML (gW G) (gH G) (gMv G) (psP q) (sd (psD q))).length 0 t6 (by omega) (fun _ _ _ _ => rfl) (fun _ _ _ => rfl) (fun y m' hy => absurd hy (Nat.not_lt_zero _))
    | succ d ih =>
      intro c τ hc hF hF2 hcp
      unfold L_X11_goesOn_8 D_X11_goesOn_8
      have vc : τ 257 (16 + c) = nI (psP q c) := by
        rw [hF2 _ (by omega)]
        have := L1.2.1 c (by omega)
        rw [Nat.zero_add, Nat.mul_one] at this
        exact this
      rw [show (16 : Int32) + nI c = nI (16 + c) from nI_add 16 c, nI_clamp (show 16 + c < 2 ^ 31 by omega), nI_clamp (show c < 2 ^ 31 by omega), vc]
      refine ⟨fun z => absurd z (nI_ge (b := 16) (by omega) (by decide)), fun _ => ⟨vp_in_nI (by omega) (by decide), vp_in_nI (by omega) (by decide), fun t7 f7 x ex => ?_⟩⟩
      rw [ex, nI_1 c]
      refine ih (c + 1) t7 (by omega) (fun a ha => by rw [f7, up2_ne ha]; exact hF a ha) (fun j hj => by rw [f7, up2_app, if_neg (by omega)]; exact hF2 j hj) (fun j hj => ?_)
      rw [f7, up2_app]
      by_cases q' : j = c
      · rw [if_pos ⟨rfl, q'⟩, q']
      · rw [if_neg (by omega)]
        exact hcp j (by omega)
  exact key 16 0 s1 rfl (fun _ _ => rfl) (fun _ _ => rfl) (fun j hj => absurd hj (Nat.not_lt_zero _))
