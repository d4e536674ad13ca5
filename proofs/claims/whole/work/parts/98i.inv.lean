def tl (L : List Int32) : Nat → Int32 := fun j => L.getD j 0
theorem tl_at {L : List Int32} {j : Nat} {e : Int32} (h : L[j]? = some e) : tl L j = e := by
  unfold tl
  rw [List.getD_eq_getElem?_getD, h]
  rfl
/-- the i-th game of both -/
def GmI (σ : GSt) (i : Nat) (G : GM) (L : List Int32) : Prop := pAll (tl L) L.length = .inr G ∧ ClG σ (61 + 22 * i) G (tl L) L.length ∧ MdG σ i G (tl L) L.length ∧ ∀ e ∈ L, 0 ≤ e
def nx (G : GM) (ps : PS) (i : Nat) : PS := match (mvl G ps)[i]? with
  | some m => stp G ps m
  | none => ps
/-- the position behind the moves ms -/
def rpl (G : GM) (ms : List Nat) : PS := ms.foldl (nx G) (beg G)
def PlOK (G : GM) (ms : List Nat) : Prop := ∀ k i, ms[k]? = some i → i < (mvl G (rpl G (ms.take k))).length
theorem rpl_s {G : GM} {ms : List Nat} {i : Nat} : rpl G (ms ++ [i]) = nx G (rpl G ms) i := by
  unfold rpl
  rw [List.foldl_append]
  rfl
theorem take_s {ms : List Nat} {k i : Nat} (h : ms[k]? = some i) : ms.take (k + 1) = ms.take k ++ [i] := by
  rw [List.take_add_one, h]
  rfl
theorem rpl_PV {G : GM} {ms : List Nat} (hG : GOK G) (h : PlOK G ms) : ∀ k, k ≤ ms.length → PV G (rpl G (ms.take k)) ∧ PE (rpl G (ms.take k)) ∧ psD (rpl G (ms.take k)) = k
  | 0, _ => by
    rw [List.take_zero]
    exact ⟨beg_PV hG, beg_PE, rfl⟩
  | k + 1, hk => by
    obtain ⟨h1, h2, h3⟩ := rpl_PV hG h k (by omega)
    obtain ⟨i, hi⟩ : ∃ i, ms[k]? = some i := ⟨_, List.getElem?_eq_getElem (by omega)⟩
    obtain ⟨m, hm⟩ : ∃ m, (mvl G (rpl G (ms.take k)))[i]? = some m := ⟨_, List.getElem?_eq_getElem (h k i hi)⟩
    have e : rpl G (ms.take (k + 1)) = stp G (rpl G (ms.take k)) m := by
      rw [take_s hi, rpl_s]
      unfold nx
      rw [hm]
    rw [e]
    refine ⟨stp_PV hG h1 (List.mem_of_getElem? hm), stp_PE hG, ?_⟩
    show psD (rpl G (ms.take k)) + 1 = k + 1
    rw [h3]
/-- THE PLAY of both: none, or its game and the moves -/
def Pl (σ : GSt) (ng : Nat) (Gs : Nat → GM) : Option (Nat × List Nat) → Prop
  | none => σ 53 3 = 0 ∧ σ 237 41 = -1
  | some (g, ms) => (g < ng ∧ σ 53 3 = 1 ∧ σ 237 41 = nI g ∧ σ 237 42 = nI ms.length) ∧ PlOK (Gs g) ms ∧ (∀ k i, ms[k]? = some i → σ 273 k = nI i) ∧ (PosC σ 54 (61 + 22 * g) (rpl (Gs g) ms) ∧ σ 53 2 = nI (mvl (Gs g) (rpl (Gs g) ms)).length ∧ RowIs σ 55 (mvl (Gs g) (rpl (Gs g) ms))) ∧ ∀ k, k < ms.length → σ 56 k = mask (pc (psP (rpl (Gs g) (ms.take k))) 1) ∧ σ 57 k = mask (pc (psP (rpl (Gs g) (ms.take k))) 2)
def IA (σ : GSt) (ng : Nat) (Gs : Nat → GM) (Ls : Nat → List Int32) (tp : List Int32) (pl : Option (Nat × List Nat)) : Prop := (ng ≤ 8 ∧ σ 0 4 = nI ng ∧ σ 237 20 = nI ng) ∧ (∀ i, i < ng → GmI σ i (Gs i) (Ls i)) ∧ (InvR σ ∧ InvN σ) ∧ (tp.length ≤ 90 ∧ σ 1 1 = nI tp.length ∧ σ 237 19 = nI tp.length ∧ ∀ j e, tp[j]? = some e → σ 2 j = e ∧ σ 239 j = e ∧ 0 ≤ e) ∧ (∀ y, y < 8 → σ 267 y = eastF y ∧ σ 268 y = southF y) ∧ Pl σ ng Gs pl
def InvA (σ : GSt) : Prop := ∃ ng Gs Ls tp pl, IA σ ng Gs Ls tp pl
def mw2 (a : Nat) : Nat := if a = 240 then 90 else mw a
/-- nothing that both must hold has changed -/
def KP (σ σ' : GSt) : Prop := (∀ a, a = 0 ∨ a = 1 ∨ a = 2 ∨ (53 ≤ a ∧ a < 237) → σ' a = σ a) ∧ (∀ k, (k < 21 ∨ (22 < k ∧ k < 39) ∨ (39 < k ∧ k < 45) ∨ 52 < k) → σ' 237 k = σ 237 k) ∧ (∀ a, a = 238 ∨ a = 239 ∨ a = 267 ∨ a = 268 ∨ a = 273 ∨ 277 ≤ a → σ' a = σ a) ∧ ∀ a j, 240 ≤ a → a ≤ 256 → j < mw2 a * 8 → σ' a j = σ a j
theorem KP.rf {σ : GSt} : KP σ σ := ⟨fun _ _ => rfl, fun _ _ => rfl, fun _ _ => rfl, fun _ _ _ _ _ => rfl⟩
theorem KP.trans {σ σ' σ'' : GSt} (h : KP σ σ') (k : KP σ' σ'') : KP σ σ'' := ⟨fun a p => (k.1 a p).trans (h.1 a p), fun j p => (k.2.1 j p).trans (h.2.1 j p), fun a p => (k.2.2.1 a p).trans (h.2.2.1 a p), fun a j p q r => (k.2.2.2 a j p q r).trans (h.2.2.2 a j p q r)⟩
theorem KP.ofSF {σ σ' : GSt} (h : SF σ σ') : KP σ σ' := ⟨fun a p => h.1 a (by omega) (by omega), fun k p => h.2 k p, fun a p => h.1 a (by omega) (by omega), fun a j p q _ => by rw [h.1 a (by omega) (by omega)]⟩
/-- of the class's scratch cells alone -/
theorem KP.ofC {σ σ' : GSt} (h : ∀ a, a = 0 ∨ a = 1 ∨ a = 2 ∨ 53 ≤ a → σ' a = σ a) : KP σ σ' := ⟨fun a p => h a (by omega), fun k _ => by rw [h 237 (by omega)], fun a p => h a (by omega), fun a j p q _ => by rw [h a (by omega)]⟩
theorem MdG.row {σ σ' : GSt} {i : Nat} {G : GM} {t : Nat → Int32} {n : Nat} (h : MdG σ i G t n) (hG : GOK G) (hn : n ≤ 90) (hi : i < 8) (k : ∀ a j, 240 ≤ a → a ≤ 256 → j < mw2 a * 8 → σ' a j = σ a j) : MdG σ' i G t n := by
  have m6 := hG.2.1.1
  have e6 := hG.2.2.1.1
  obtain ⟨⟨h1, h2, h3⟩, ⟨h4, h5, h6, h7⟩, h8, h9, h10, h11⟩ := h
  have w1 : ∀ a, a = 241 ∨ a = 242 ∨ a = 243 ∨ a = 248 ∨ a = 253 ∨ a = 254 ∨ a = 255 → mw2 a = 1 := by
    intro a ha
    rcases ha with rfl | rfl | rfl | rfl | rfl | rfl | rfl <;> decide
  have w6 : ∀ a, a = 245 ∨ a = 246 ∨ a = 247 ∨ a = 249 ∨ a = 250 ∨ a = 251 ∨ a = 252 ∨ a = 256 → mw2 a = 6 := by
    intro a ha
    rcases ha with rfl | rfl | rfl | rfl | rfl | rfl | rfl | rfl <;> decide
  have w16 : mw2 244 = 16 := by decide
  have w90 : mw2 240 = 90 := by decide
  have k1 : ∀ a, a = 241 ∨ a = 242 ∨ a = 243 ∨ a = 248 ∨ a = 253 ∨ a = 254 ∨ a = 255 → σ' a i = σ a i := fun a ha => k a i (by omega) (by omega) (by rw [w1 a ha]; omega)
  have k6 : ∀ a j, a = 245 ∨ a = 246 ∨ a = 247 ∨ a = 249 ∨ a = 250 ∨ a = 251 ∨ a = 252 ∨ a = 256 → j < 6 → σ' a (6 * i + j) = σ a (6 * i + j) := fun a j ha hj => k a _ (by omega) (by omega) (by rw [w6 a ha]; omega)
  refine ⟨⟨?_, ?_, fun c hc => ?_⟩, ⟨?_, ?_, ?_, ?_⟩, fun j e he => ?_, fun j e he => ?_, ?_, fun j hj => ?_⟩
  · rw [k1 242 (by decide)]; exact h1
  · rw [k1 243 (by decide)]; exact h2
  · rw [k 244 _ (by decide) (by decide) (by rw [w16]; omega)]; exact h3 c hc
  · rw [k1 248 (by decide)]; exact h4
  · rw [k1 253 (by decide)]; exact h5
  · rw [k1 254 (by decide)]; exact h6
  · rw [k1 255 (by decide)]; exact h7
  · have := (List.getElem?_eq_some_iff.mp he).1
    exact (h8 j e he).row (k6 245 j (by decide) (by omega)) (k6 246 j (by decide) (by omega)) (k6 247 j (by decide) (by omega)) (k6 256 j (by decide) (by omega))
  · have := (List.getElem?_eq_some_iff.mp he).1
    exact (h9 j e he).row (k6 249 j (by decide) (by omega)) (k6 250 j (by decide) (by omega)) (k6 251 j (by decide) (by omega)) (k6 252 j (by decide) (by omega))
  · rw [k1 241 (by decide)]; exact h10
  · rw [k 240 _ (by decide) (by decide) (by rw [w90]; omega)]; exact h11 j hj
theorem ClG.row {σ σ' : GSt} {i : Nat} {G : GM} {t : Nat → Int32} {n : Nat} (h : ClG σ i G t n) (hG : GOK G) (k : ∀ a, i ≤ a → a < i + 22 → σ' a = σ a) : ClG σ' i G t n := by
  have m6 := hG.2.1.1
  have e6 := hG.2.2.1.1
  obtain ⟨h1, h2, h3, h4, h5, h6⟩ := h
  refine ⟨h1.row (fun a p q => k a (by omega) (by omega)), ?_, fun j e he => (h3 j e he).row (k _ (by omega) ?_), fun j e he => (h4 j e he).row (k _ (by omega) ?_), ?_, fun j hj => ?_⟩
  · rw [k i (by omega) (by omega)]; exact h2
  · have := (List.getElem?_eq_some_iff.mp he).1
    omega
  · have := (List.getElem?_eq_some_iff.mp he).1
    omega
  · rw [k (i + 1) (by omega) (by omega)]; exact h5
  · rw [k (i + 2) (by omega) (by omega)]; exact h6 j hj
theorem GmI.ok {σ : GSt} {i : Nat} {G : GM} {L : List Int32} (h : GmI σ i G L) : GOK G ∧ gMF G ≤ 22 ∧ gEF G ≤ gMF G + 24 ∧ L.length ≤ gEF G + 24 ∧ gMF G + 1 < gEF G ∧ gEF G + 1 < L.length := by
  obtain ⟨hG, c1, c2, -, m22, -⟩ := pAll_ok h.1
  have l1 := Chn_len _ _ _ c1
  have l2 := Chn_len _ _ _ c2
  have m6 := hG.2.1.1
  have e6 := hG.2.2.1.1
  exact ⟨hG, m22, by omega, by omega, by omega, by omega⟩
theorem GmI.row {σ σ' : GSt} {i : Nat} {G : GM} {L : List Int32} (h : GmI σ i G L) (hi : i < 8) (k1 : ∀ a, 61 + 22 * i ≤ a → a < 61 + 22 * i + 22 → σ' a = σ a) (k2 : ∀ a j, 240 ≤ a → a ≤ 256 → j < mw2 a * 8 → σ' a j = σ a j) : GmI σ' i G L := by
  obtain ⟨hG, l1, l2, l3, -⟩ := h.ok
  exact ⟨h.1, h.2.1.row hG k1, h.2.2.1.row hG (by omega) hi k2, h.2.2.2⟩
theorem kdg {i : Nat} (h : i < 8) : kd (61 + 22 * i) = 1 := by
  have : ∀ i, i < 8 → kd (61 + 22 * i) = 1 := by decide +kernel
  exact this i h
theorem GmI.cb {σ : GSt} {i : Nat} {G : GM} {L : List Int32} (h : GmI σ i G L) : ClB σ (61 + 22 * i) G := ⟨⟨h.2.1.1, h.2.1.2.1.2.2.1, h.2.1.2.2.1⟩, ⟨h.2.1.2.1.1, h.2.1.2.1.2.1⟩, h.2.1.2.1.2.2.2.1, h.2.1.2.2.2.1⟩
theorem cv_P0 {G : GM} {c : Nat} : cv (gA G) (gB G) c = nI (P0 G c) := by
  unfold cv P0
  split
  · rfl
  · split <;> rfl
theorem GmI.mg {σ : GSt} {i : Nat} {G : GM} {L : List Int32} (h : GmI σ i G L) (hi : i < 9) (he : ∀ y, y < 8 → σ 267 y = eastF y ∧ σ 268 y = southF y) : MG0 σ i G := ⟨hi, ⟨h.2.2.1.1.1, h.2.2.1.1.2.1⟩, ⟨h.2.2.1.2.1.1, h.2.2.1.2.1.2.1⟩, h.2.2.1.2.2.1, h.2.2.1.2.2.2.1, he, fun c hc => by rw [h.2.2.1.1.2.2 c hc]; exact cv_P0⟩
theorem Pl.row {σ σ' : GSt} {ng : Nat} {Gs : Nat → GM} {pl : Option (Nat × List Nat)} (h : Pl σ ng Gs pl) (h3 : ∀ a, 53 ≤ a → a ≤ 57 → σ' a = σ a) (h7 : σ' 237 41 = σ 237 41 ∧ σ' 237 42 = σ 237 42) (hp : σ' 273 = σ 273) : Pl σ' ng Gs pl := by
  cases pl with
  | none => exact ⟨by rw [h3 53 (by decide) (by decide)]; exact h.1, by rw [h7.1]; exact h.2⟩
  | some x =>
    obtain ⟨g, ms⟩ := x
    obtain ⟨⟨a1, a2, a3, a4⟩, b, c, ⟨d1, d2, d3⟩, e⟩ := h
    refine ⟨⟨a1, by rw [h3 53 (by decide) (by decide)]; exact a2, by rw [h7.1]; exact a3, by rw [h7.2]; exact a4⟩, b, fun k i hk => by rw [hp]; exact c k i hk, ⟨d1.row (h3 54 (by decide) (by decide)), by rw [h3 53 (by decide) (by decide)]; exact d2, d3.row (h3 55 (by decide) (by decide))⟩, fun k hk => by rw [h3 56 (by decide) (by decide), h3 57 (by decide) (by decide)]; exact e k hk⟩
theorem IA.keep {σ σ' : GSt} {ng : Nat} {Gs : Nat → GM} {Ls : Nat → List Int32} {tp : List Int32} {pl : Option (Nat × List Nat)} (h : IA σ ng Gs Ls tp pl) (k : KP σ σ') : IA σ' ng Gs Ls tp pl := by
  obtain ⟨⟨n8, c0, c1⟩, hg, ⟨hR, hN⟩, ⟨t1, t2, t3, t4⟩, he, hp⟩ := h
  refine ⟨⟨n8, by rw [k.1 0 (by decide)]; exact c0, by rw [k.2.1 20 (by decide)]; exact c1⟩, fun i hi => (hg i hi).row (by omega) (fun a p q => k.1 a (by omega)) k.2.2.2, ⟨fun j hj => by rw [k.1 60 (by decide), k.2.2.1 238 (by decide)]; exact hR j hj, fun j hj => by rw [k.1 58 (by decide), k.1 59 (by decide), k.2.2.1 277 (by decide), k.2.2.1 278 (by decide)]; exact hN j hj⟩, ⟨t1, by rw [k.1 1 (by decide)]; exact t2, by rw [k.2.1 19 (by decide)]; exact t3, fun j e hj => by rw [k.1 2 (by decide), k.2.2.1 239 (by decide)]; exact t4 j e hj⟩, fun y hy => by rw [k.2.2.1 267 (by decide), k.2.2.1 268 (by decide)]; exact he y hy, hp.row (fun a p q => k.1 a (by omega)) ⟨k.2.1 41 (by decide), k.2.1 42 (by decide)⟩ (k.2.2.1 273 (by decide))⟩
theorem IA.rf {σ : GSt} {ng : Nat} {Gs : Nat → GM} {Ls : Nat → List Int32} {tp : List Int32} {pl : Option (Nat × List Nat)} {x : Int32} (h : IA σ ng Gs Ls tp pl) (hx : isRf x) : IA (rfM (rfC σ x) x) ng Gs Ls tp pl := by
  obtain ⟨⟨n8, c0, c1⟩, hg, ⟨hR, hN⟩, ⟨t1, t2, t3, t4⟩, he, hp⟩ := h
  have r : ∀ a, a ≠ 60 → a ≠ 238 → rfM (rfC σ x) x a = σ a := fun a p q => rf_row σ x a p q
  refine ⟨⟨n8, by rw [r 0 (by decide) (by decide)]; exact c0, by rw [r 237 (by decide) (by decide)]; exact c1⟩, fun i hi => (hg i hi).row (by omega) (fun a p q => r a (by omega) (by omega)) (fun a j p q _ => by rw [r a (by omega) (by omega)]), ⟨hR.rf hx, hN.rf⟩, ⟨t1, by rw [r 1 (by decide) (by decide)]; exact t2, by rw [r 237 (by decide) (by decide)]; exact t3, fun j e hj => by rw [r 2 (by decide) (by decide), r 239 (by decide) (by decide)]; exact t4 j e hj⟩, fun y hy => by rw [r 267 (by decide) (by decide), r 268 (by decide) (by decide)]; exact he y hy, hp.row (fun a p q => r a (by omega) (by omega)) ⟨by rw [r 237 (by decide) (by decide)], by rw [r 237 (by decide) (by decide)]⟩ (r 273 (by decide) (by decide))⟩
theorem InvA.rf {σ : GSt} {x : Int32} (h : InvA σ) (hx : isRf x) : InvA (rfM (rfC σ x) x) := by
  obtain ⟨ng, Gs, Ls, tp, pl, h⟩ := h
  exact ⟨ng, Gs, Ls, tp, pl, h.rf hx⟩
/-- both refuse -/
theorem ref2 {σ : GSt} {x : Int32} {Q : Int32 → GSt → Prop} (hx : isRf x) (h : InvA σ) (hQ : ∀ σ1, σ1 = rfC σ x → Q x σ1) : D_X10_refuse x σ Q := refuse_ok hx (hQ _ rfl)
theorem noGame_ok {σ : GSt} {ng : Nat} {x : Int32} {Q : Int32 → GSt → Prop} (h8 : ng ≤ 8) (h : σ 0 4 = nI ng) (h1 : (∀ i, i < ng → x ≠ nI i) → Q 1 σ) (h0 : ∀ i, i < ng → x = nI i → Q 0 σ) : D_X10_isNoGame x σ Q := by
  refine ⟨fun q => h1 (fun i hi e => absurd (e ▸ q) (nI_pos (by omega))), fun q => ⟨fun r => ?_, fun r => ?_⟩⟩
  · rw [h] at r
    obtain ⟨j, hj, e⟩ := nI_of q
    rw [e, nI_ltI (by omega) (by omega)] at r
    exact h0 j r e
  · rw [h] at r
    exact h1 (fun i hi e => r (e ▸ nI_lt hi (by omega)))
theorem isGame_ok {σ : GSt} {ng : Nat} {x : Int32} {Q : Int32 → GSt → Prop} (h8 : ng ≤ 8) (h : σ 237 20 = nI ng) (h0 : (∀ i, i < ng → x ≠ nI i) → Q 0 σ) (h1 : ∀ i, i < ng → x = nI i → Q 1 σ) : D_X11_isGame x σ Q := by
  refine ⟨fun q => h0 (fun i hi e => absurd (e ▸ q) (nI_pos (by omega))), fun q => ⟨fun r => ?_, fun r => ?_⟩⟩
  · rw [h] at r
    exact h0 (fun i hi e => absurd (e ▸ r) (nI_ge hi (by omega)))
  · rw [h] at r
    obtain ⟨j, hj, e⟩ := nI_of q
    rw [e, nI_leI (by omega) (by omega)] at r
    exact h1 j (by omega) e
