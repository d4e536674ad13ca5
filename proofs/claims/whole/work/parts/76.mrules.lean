/-- the letter of a MOVE's kind, of its direction or number, of an END's kind, of its outcome -/
def kL (k : Int32) : Int32 := if k = 0 then 112 else if k = 1 then 115 else if k = 2 then 104 else if k = 3 then 116 else 117
def byL (k num : Int32) : Int32 := if k = 0 then num else if num = 1 then 111 else if num = 2 then 100 else 113
def eL (k : Int32) : Int32 := if k = 0 then 114 else if k = 1 then 110 else if k = 2 then 103 else if k = 3 then 121 else if k = 4 then 107 else 109
def oL (o : Int32) : Int32 := if o = 0 then 119 else if o = 1 then 108 else 100
/-- the reference's MOVE k, END k -/
def MvM (σ : GSt) (k : Nat) (e : Nat × Nat × Int32 × Int32 × Int32) : Prop := σ 245 k = kL e.2.2.1 ∧ σ 246 k = byL e.2.2.1 e.2.2.2.1 ∧ σ 247 k = nI e.1 ∧ σ 256 k = e.2.2.2.2
def EnM (σ : GSt) (k : Nat) (e : Nat × Nat × Int32 × Int32 × Int32) : Prop := σ 249 k = eL e.2.2.1 ∧ σ 250 k = e.2.2.2.1 ∧ σ 251 k = oL e.2.2.2.2 ∧ σ 252 k = nI e.1
def MFm (g m : Nat) (σ σ' : GSt) : Prop := (∀ a, a ≠ 237 → a ≠ 245 → a ≠ 246 → a ≠ 247 → a ≠ 248 → a ≠ 256 → σ' a = σ a) ∧ (∀ k, k ≠ 21 → σ' 237 k = σ 237 k) ∧ (∀ a j, a ≠ 237 → a ≠ 248 → (j < 6 * g + m ∨ 6 * g + 6 ≤ j) → σ' a j = σ a j) ∧ ∀ j, j ≠ g → σ' 248 j = σ 248 j
theorem MFm.rf {g m : Nat} {σ : GSt} : MFm g m σ σ := ⟨fun _ _ _ _ _ _ _ => rfl, fun _ _ => rfl, fun _ _ _ _ _ => rfl, fun _ _ => rfl⟩
theorem MFm.trans {g m m' : Nat} {σ σ' σ'' : GSt} (h : MFm g m σ σ') (h2 : MFm g m' σ' σ'') (hm : m ≤ m') : MFm g m σ σ'' := ⟨fun a p1 p2 p3 p4 p5 p6 => (h2.1 a p1 p2 p3 p4 p5 p6).trans (h.1 a p1 p2 p3 p4 p5 p6), fun k p => (h2.2.1 k p).trans (h.2.1 k p), fun a j p1 p2 p3 => (h2.2.2.1 a j p1 p2 (by omega)).trans (h.2.2.1 a j p1 p2 p3), fun j p => (h2.2.2.2 j p).trans (h.2.2.2 j p)⟩
theorem MFm.place {g m : Nat} {σ σ' : GSt} {v : Int32} (h : MFm g m σ σ') : MFm g m σ (up2 σ' 237 21 v) := ⟨fun a p1 p2 p3 p4 p5 p6 => (up2_ne p1).trans (h.1 a p1 p2 p3 p4 p5 p6), fun k p => by rw [up2_app, if_neg (by omega)]; exact h.2.1 k p, fun a j p1 p2 p3 => by rw [up2_ne p1]; exact h.2.2.1 a j p1 p2 p3, fun j p => by rw [up2_ne (by decide)]; exact h.2.2.2 j p⟩
theorem MFm.put {g m j : Nat} {a : Nat} {σ σ' : GSt} {v : Int32} (h : MFm g m σ σ') (ha : a = 245 ∨ a = 246 ∨ a = 247 ∨ a = 256) (hj : 6 * g + m ≤ j) (hj2 : j < 6 * g + 6) : MFm g m σ (up2 σ' a j v) := ⟨fun b p1 p2 p3 p4 p5 p6 => (up2_ne (by omega)).trans (h.1 b p1 p2 p3 p4 p5 p6), fun k p => by rw [up2_ne (by omega)]; exact h.2.1 k p, fun b i p1 p2 p3 => by rw [up2_app, if_neg (by omega)]; exact h.2.2.1 b i p1 p2 p3, fun i p => by rw [up2_ne (by omega)]; exact h.2.2.2 i p⟩
theorem MFm.count {g m : Nat} {σ σ' : GSt} {v : Int32} (h : MFm g m σ σ') : MFm g m σ (up2 σ' 248 g v) := ⟨fun b p1 p2 p3 p4 p5 p6 => (up2_ne p5).trans (h.1 b p1 p2 p3 p4 p5 p6), fun k p => by rw [up2_ne (by decide)]; exact h.2.1 k p, fun b i p1 p2 p3 => by rw [up2_ne p2]; exact h.2.2.1 b i p1 p2 p3, fun i p => by rw [up2_app, if_neg (by omega)]; exact h.2.2.2 i p⟩
/-- behind "!" or not, and whether it stands there -/
def pMust (t : Nat → Int32) (n q : Nat) : Nat × Int32 := (if ch t n q = 33 then q + 1 else q, if ch t n q = 33 then 1 else 0)
theorem oneMove_ok {g n p m : Nat} {t : Nat → Int32} {σ : GSt} {Q : Int32 → GSt → Prop} (h : RdM g n t p σ) (hm : σ 248 g = nI m) (hm6 : m ≤ 6)
    (h6 : m = 6 → Q 0 σ)
    (hf : ∀ (σ' : GSt) (q : Nat), m < 6 → pMv t n p = .inl q → RdM g n t q σ' → MFm g m σ σ' → Q 0 σ')
    (hs : ∀ (σ' : GSt) (q : Nat) (kind num : Int32), m < 6 → pMv t n p = .inr (q, kind, num) → RdM g n t (pMust t n q).1 σ' → MFm g m σ σ' → MvM σ' (6 * g + m) (p, (pMust t n q).1, kind, num, (pMust t n q).2) → σ' 248 g = nI (m + 1) → Q 1 σ') : D_X11_oneMove σ Q := by
  have g9 := h.2.2.1
  unfold D_X11_oneMove D_X11_oneMove_0
  rw [h.gi, hm, h.1.1, show (6 : Int32) * nI g + nI m = nI (6 * g + m) from nlin 6 g m]
  refine ⟨vp_in_nI g9 (by decide), fun x ex => ?_⟩
  subst ex
  refine signM_ok h ⟨h.vp, ?_⟩
  rw [h.gi, hm]
  refine pk_eq m 6 (fun e => h6 e) (fun e => ?_)
  have lt6 : m < 6 := by omega
  have hk : vp_in (nI (6 * g + m)) 54 := vp_in_nI (by omega) (by decide)
  obtain ⟨k, ek⟩ : ∃ k, k = 6 * g + m := ⟨_, rfl⟩
  rw [← ek] at hk ⊢
  have kc : (nI k).toNatClampNeg = k := nI_clamp (by omega)
  -- behind the letters
  have fin : ∀ (σ4 : GSt) (q : Nat) (kind num : Int32), pMv t n p = .inr (q, kind, num) → RdM g n t q σ4 → MFm g m σ σ4 → σ4 245 k = kL kind → σ4 246 k = byL kind num → σ4 247 k = nI p → σ4 248 g = nI m → D_X11_oneMove_168 Q (nI k) σ4 := by
    intro σ4 q kind num hpm hR hF v5 v6 v7 v8
    have last : ∀ (σ5 : GSt) (r : Int32), (r = 0 ∨ r = 1) → RdM g n t (pMust t n q).1 σ5 → r = (pMust t n q).2 → MFm g m σ σ5 → σ5 245 k = kL kind → σ5 246 k = byL kind num → σ5 247 k = nI p → σ5 248 g = nI m → (vp_in (nI k) 54 ∧ ((r = 0 ∨ r = 1) ∧ (∀ σ_3 : GSt, σ_3 = up2 σ5 256 (Int32.toNatClampNeg (nI k)) r → (vp_in (σ_3 237 22) 9 ∧ (vp_in (σ_3 237 22) 9 ∧ (∀ σ_4 : GSt, σ_4 = up2 σ_3 248 (Int32.toNatClampNeg (σ_3 237 22)) ((σ_3 248 (Int32.toNatClampNeg (σ_3 237 22))) + 1) → (Q 1 σ_4))))))) := by
      intro σ5 r hr hR5 er hF5 v5 v6 v7 v8
      refine ⟨hk, hr, fun s3 e3 => ?_⟩
      rw [kc] at e3
      have hR3 : RdM g n t (pMust t n q).1 s3 := by rw [e3]; exact hR5.put (by decide)
      refine ⟨hR3.vp, hR3.vp, fun s4 e4 => ?_⟩
      rw [hR3.gi] at e4
      have v83 : s3 248 g = nI m := by rw [e3, up2_ne (by decide)]; exact v8
      rw [v83, nI_1 m] at e4
      refine hs s4 q kind num lt6 hpm ?_ ?_ ?_ ?_
      · rw [e4]; exact hR3.put (by decide)
      · rw [e4, e3]; exact (hF5.put (by decide) (by omega) (by omega)).count
      · rw [← ek, e4, e3]
        refine ⟨?_, ?_, ?_, ?_⟩
        · simp [up2_app, v5]
        · simp [up2_app, v6]
        · simp [up2_app, v7]
        · simp [up2_app, er]
      · rw [e4]; simp [up2_app]
    refine takesM_ok hR (by decide) (fun c hp => ?_) (fun c => ?_)
    · refine last _ 1 (Or.inr rfl) ?_ (by simp [pMust, c]) hF.place (by rw [up2_ne (by decide)]; exact v5) (by rw [up2_ne (by decide)]; exact v6) (by rw [up2_ne (by decide)]; exact v7) (by rw [up2_ne (by decide)]; exact v8)
      rw [show (pMust t n q).1 = q + 1 by simp [pMust, c]]
      exact hR.step hp
    · refine last _ 0 (Or.inl rfl) ?_ (by simp [pMust, c]) hF v5 v6 v7 v8
      rw [show (pMust t n q).1 = q by simp [pMust, c]]
      exact hR
  have body : p < n → (ch t n p = 112 ∨ pKind t n p ≠ 0) → (ch t n p ≠ 112 → kL (pKind t n p) = ch t n p) → D_X11_oneMove_69 Q (nI k) (ch t n p) σ := by
    intro hp hlet hkl
    refine ⟨hk, fun s1 e1 => ⟨hk, fun s2 e2 s3 e3 => ?_⟩⟩
    rw [kc] at e1 e2
    have hR1 : RdM g n t p s1 := by rw [e1]; exact h.put (by decide)
    rw [hR1.1.2] at e2
    have hR2 : RdM g n t p s2 := by rw [e2]; exact hR1.put (by decide)
    rw [hR2.1.2, nI_1 p] at e3
    have hR3 : RdM g n t (p + 1) s3 := by rw [e3]; exact hR2.step hp
    have hF3 : MFm g m σ s3 := by
      rw [e3, e2, e1]
      exact ((MFm.rf.put (Or.inl rfl) (by omega) (by omega)).put (Or.inr (Or.inr (Or.inl rfl))) (by omega) (by omega)).place
    have v5 : s3 245 k = ch t n p := by rw [e3, e2, e1]; simp [up2_app]
    have v7 : s3 247 k = nI p := by rw [e3, e2]; simp [up2_app]
    have v8 : s3 248 g = nI m := by rw [e3, e2, e1, up2_ne (by decide), up2_ne (by decide), up2_ne (by decide)]; exact hm
    refine ⟨fun q => ?_, fun q => ?_⟩
    · have hk0 : pKind t n p ≠ 0 := hlet.resolve_left q
      have v5' : s3 245 k = kL (pKind t n p) := v5.trans (hkl q).symm
      have dir : ∀ num : Int32, pDir t n (p + 1) = num → num ≠ 0 → byL (pKind t n p) num = ch t n (p + 1) → p + 1 < n → D_X11_oneMove_151 Q (nI k) (ch t n (p + 1)) s3 := by
        intro num en n0 hby hp1
        refine ⟨hk, fun s4 e4 s5 e5 => ?_⟩
        rw [kc] at e4
        have hR4 : RdM g n t (p + 1) s4 := by rw [e4]; exact hR3.put (by decide)
        rw [hR4.1.2, nI_1 (p + 1)] at e5
        refine fin s5 (p + 2) (pKind t n p) num ?_ (by rw [e5]; exact hR4.step hp1) ?_ ?_ ?_ ?_ ?_
        · unfold pMv
          rw [if_neg q, if_neg hk0, en, if_neg n0]
        · rw [e5, e4]; exact (hF3.put (Or.inr (Or.inl rfl)) (by omega) (by omega)).place
        · rw [e5, up2_ne (by decide), e4, up2_ne (by decide)]; exact v5'
        · rw [e5, up2_ne (by decide), e4, hby]; simp [up2_app]
        · rw [e5, up2_ne (by decide), e4, up2_ne (by decide)]; exact v7
        · rw [e5, up2_ne (by decide), e4, up2_ne (by decide)]; exact v8
      refine signM_ok hR3 ⟨fun c => dir 1 (by simp [pDir, c]) (by decide) (by rw [c]; unfold byL; rw [if_neg hk0]; rfl) (ch_lt c (by decide)), fun c => ⟨fun c2 => dir 2 (by simp [pDir, c2]) (by decide) (by rw [c2]; unfold byL; rw [if_neg hk0]; rfl) (ch_lt c2 (by decide)), fun c2 => ⟨fun c3 => dir 3 (by simp [pDir, c3]) (by decide) (by rw [c3]; unfold byL; rw [if_neg hk0]; rfl) (ch_lt c3 (by decide)), fun c3 => ?_⟩⟩⟩
      refine hf s3 (p + 1) lt6 ?_ hR3 hF3
      unfold pMv
      rw [if_neg q, if_neg hk0, if_pos (by simp [pDir, c, c2, c3])]
    · have v5' : s3 245 k = kL 0 := by rw [v5, q]; rfl
      refine digitM_ok hR3 (by decide) (fun d hp1 => ⟨hk, fun s8 e8 => ⟨hk, ?_⟩⟩) (fun d => ⟨hk, fun s8 e8 => ⟨hk, ?_⟩⟩)
      · rw [kc] at e8 ⊢
        have v6 : s8 246 k = ch t n (p + 1) - 48 := by rw [e8]; simp [up2_app]
        rw [v6]
        refine ⟨fun _ => ?_, fun z => absurd d.1 z⟩
        refine fin s8 (p + 2) 0 (ch t n (p + 1) - 48) ?_ (by rw [e8]; exact (hR3.step hp1).put (by decide)) ?_ ?_ (by rw [v6]; rfl) ?_ ?_
        · unfold pMv
          exact (if_pos q).trans (if_pos d)
        · rw [e8]; exact hF3.place.put (Or.inr (Or.inl rfl)) (by omega) (by omega)
        · rw [e8, up2_ne (by decide), up2_ne (by decide)]; exact v5'
        · rw [e8, up2_ne (by decide), up2_ne (by decide)]; exact v7
        · rw [e8, up2_ne (by decide), up2_ne (by decide)]; exact v8
      · rw [kc] at e8 ⊢
        have v6 : s8 246 k = -1 := by rw [e8]; simp [up2_app]
        rw [v6]
        refine ⟨fun z => absurd z (by decide), fun _ => ?_⟩
        refine hf s8 (p + 1) lt6 ?_ (by rw [e8]; exact hR3.put (by decide)) (by rw [e8]; exact hF3.put (Or.inr (Or.inl rfl)) (by omega) (by omega))
        unfold pMv
        exact (if_pos q).trans (if_neg d)
  refine ⟨fun c => body (ch_lt c (by decide)) (Or.inl c) (fun z => absurd c z), fun c => ⟨fun c2 => body (ch_lt c2 (by decide)) (Or.inr (by simp [pKind, c2])) (fun _ => by simp [pKind, c2, kL]), fun c2 => ⟨fun c3 => body (ch_lt c3 (by decide)) (Or.inr (by simp [pKind, c3])) (fun _ => by simp [pKind, c3, kL]), fun c3 => ⟨fun c4 => body (ch_lt c4 (by decide)) (Or.inr (by simp [pKind, c4])) (fun _ => by simp [pKind, c4, kL]), fun c4 => ⟨fun c5 => body (ch_lt c5 (by decide)) (Or.inr (by simp [pKind, c5])) (fun _ => by simp [pKind, c5, kL]), fun c5 => ?_⟩⟩⟩⟩⟩
  refine hf σ p lt6 ?_ h MFm.rf
  unfold pMv
  rw [if_neg c, if_pos (by simp [pKind, c2, c3, c4, c5])]
