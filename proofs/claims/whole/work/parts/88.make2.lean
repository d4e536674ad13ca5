abbrev PS : Type := (Nat → Nat) × Nat × Nat × Nat × Int32
/-- a position: pieces, moves done, how it stands (0 goes on, 1 by an END, 2 stuck, 3 stopped), who won (0: nobody), by which END -/
def psP (p : PS) : Nat → Nat := p.1
def psD (p : PS) : Nat := p.2.1
def psS (p : PS) : Nat := p.2.2.1
def psW (p : PS) : Nat := p.2.2.2.1
def psE (p : PS) : Int32 := p.2.2.2.2
def wC (st wn : Nat) : Int32 := if st = 0 then -9 else if wn = 0 then 2 else nI (wn - 1)
def PosC (σ : GSt) (o i : Nat) (ps : PS) : Prop := CP σ o i (psP ps) (psD ps) ∧ σ o 4 = nI (psS ps) ∧ σ o 5 = wC (psS ps) (psW ps) ∧ σ o 6 = psE ps
theorem PosC.row {σ σ' : GSt} {o i : Nat} {ps : PS} (h : PosC σ o i ps) (hr : σ' o = σ o) : PosC σ' o i ps := by
  unfold PosC CP at *
  rw [hr]
  exact h
/-- the numbers that an END can have -/
def EnOK (kind num out : Int32) : Prop := ((kind = 0 ∧ ∃ m : Nat, 2 ≤ m ∧ m ≤ 4 ∧ num = nI m) ∨ kind = 1 ∨ kind = 2 ∨ kind = 3 ∨ (kind = 4 ∧ ∃ m : Nat, m ≤ 9 ∧ num = nI m) ∨ (kind = 5 ∧ ∃ m : Nat, m ≤ 99 ∧ num = nI m)) ∧ (out = 0 ∨ out = 1 ∨ out = 2)
def EnsOK (l : List RuT) : Prop := ∀ e ∈ l, EnOK e.2.2.1 e.2.2.2.1 e.2.2.2.2
def holdsB (w h : Nat) (P : Nat → Nat) (s dn : Nat) (lack : Bool) (kind num : Int32) : Bool :=
  if kind = 0 then rowB w h num.toNatClampNeg (pc P s) else if kind = 1 then lack else if kind = 2 then decide (cntF (pc P (3 - s)) 16 0 = 0) else if kind = 3 then wayB w h (pc P s) (decide (s = 1)) else if kind = 4 then decide (num ≤ nI (cntF (pc P s) 16 0)) else decide (num ≤ nI dn)
theorem cnt0_mask {f : Nat → Bool} : cntF f 16 0 = 0 ↔ mask f = 0 := by
  rw [mask0_fl, ← fl_len, List.length_eq_zero_iff]
theorem holds_ok {w h o i r : Nat} {P : Nat → Nat} {s dn : Nat} {lack : Bool} {kind num out : Int32} {x2 x3 : Int32} {σ : GSt} {Q : Int32 → GSt → Prop} (w2 : 2 ≤ w) (w4 : w ≤ 4) (h2 : 2 ≤ h) (h4 : h ≤ 4) (hs : s = 1 ∨ s = 2) (hV : VP w h P) (hP : CP σ o i P dn) (hB : BoardOK σ (i + 3) w h) (hk : σ r 0 = kind) (hn : σ r 1 = num) (hE : EnOK kind num out) (e2 : x2 = nI (s - 1)) (e3 : x3 = if lack then 1 else 0) (h1 : holdsB w h P s dn lack kind num = true → Q 1 σ) (h0 : holdsB w h P s dn lack kind num = false → Q 0 σ) : D_X5_holds o r x2 x3 σ Q := by
  have hf : ∀ c, w * h ≤ c → pc P s c = false := fun c hc => by
    have := (hV c).2 hc
    unfold pc
    rw [this]
    apply decide_eq_false
    omega
  have body : D_X5_holds_32 Q o r x2 x3 (mask (pc P s)) (mask (pc P (3 - s))) σ := by
    unfold D_X5_holds_32
    rw [hk, hn, hP.ref.2, hP.2.2.2.2.1]
    unfold holdsB at h1 h0
    have bi : ∀ b : Bool, (b = true → Q 1 σ) → (b = false → Q 0 σ) → ∀ r : Int32, r = (if b then 1 else 0) → Q r σ := by
      intro b q1 q0 r er
      cases b
      · rw [er]; exact q0 rfl
      · rw [er]; exact q1 rfl
    refine ⟨fun z => ?_, fun z => ?_, fun z => ?_, fun z => ?_, fun z => ?_, fun z => ?_⟩
    · obtain ⟨hE, -⟩ := hE
      have k5 : kind = 5 := by
        rcases hE with ⟨q, -⟩ | q | q | q | ⟨q, -⟩ | ⟨q, -⟩
        · rw [q] at z; exact absurd z (by decide)
        · rw [q] at z; exact absurd z (by decide)
        · rw [q] at z; exact absurd z (by decide)
        · rw [q] at z; exact absurd z (by decide)
        · rw [q] at z; exact absurd z (by decide)
        · exact q
      rw [k5] at h1 h0
      rw [if_neg (by decide), if_neg (by decide), if_neg (by decide), if_neg (by decide), if_neg (by decide)] at h1 h0
      exact ⟨fun q => h0 (decide_eq_false (fun y => absurd q (Int32.not_lt.mpr y))), fun q => h1 (decide_eq_true (i32_nlt q))⟩
    · rw [if_pos z] at h1 h0
      obtain ⟨hE, -⟩ := hE
      have hm : ∃ m : Nat, 2 ≤ m ∧ m ≤ 4 ∧ num = nI m := by
        rcases hE with ⟨-, q⟩ | q | q | q | ⟨q, -⟩ | ⟨q, -⟩
        · exact q
        · rw [q] at z; exact absurd z (by decide)
        · rw [q] at z; exact absurd z (by decide)
        · rw [q] at z; exact absurd z (by decide)
        · rw [q] at z; exact absurd z (by decide)
        · rw [q] at z; exact absurd z (by decide)
      obtain ⟨m, m2, m4, em⟩ := hm
      rw [em, nI_clamp (by omega)] at h1 h0
      rw [em]
      exact ⟨⟨hP.ref.1.1, hP.1⟩, hasRow_ok w2 w4 h2 h4 m2 m4 hB (fun q => ⟨Or.inr rfl, h1 q⟩) (fun q => ⟨Or.inl rfl, h0 q⟩)⟩
    · rw [z, if_neg (by decide), if_pos rfl] at h1 h0
      rw [e3]
      cases lack
      · exact ⟨Or.inl rfl, h0 rfl⟩
      · exact ⟨Or.inr rfl, h1 rfl⟩
    · rw [z, if_neg (by decide), if_neg (by decide), if_pos rfl] at h1 h0
      rw [← cnt0_mask]
      exact ⟨fun q => h0 (decide_eq_false q), fun q => h1 (decide_eq_true q)⟩
    · rw [z, if_neg (by decide), if_neg (by decide), if_neg (by decide), if_pos rfl] at h1 h0
      refine ⟨⟨hP.ref.1.1, hP.1⟩, hasWay_ok (v := decide (s = 1)) w2 w4 h2 h4 hf hB ?_ (fun q => ⟨Or.inr rfl, h1 q⟩) (fun q => ⟨Or.inl rfl, h0 q⟩)⟩
      rw [e2]
      rcases hs with rfl | rfl <;> rfl
    · rw [z, if_neg (by decide), if_neg (by decide), if_neg (by decide), if_neg (by decide), if_pos rfl] at h1 h0
      refine bitCount_ok ?_
      rw [hn]
      exact ⟨fun q => h0 (decide_eq_false (fun y => absurd q (Int32.not_lt.mpr y))), fun q => h1 (decide_eq_true (i32_nlt q))⟩
  unfold D_X5_holds D_X5_holds_0
  rw [hP.2.2.1, hP.2.2.2.1]
  rcases hs with rfl | rfl
  · subst e2
    refine ⟨fun z => absurd rfl z, fun _ => ⟨fun z => absurd rfl z, fun _ => ?_⟩⟩
    rw [hP.2.2.2.1]
    exact body
  · subst e2
    refine ⟨fun _ => ⟨fun _ => ?_, fun z => absurd z (by decide)⟩, fun z => absurd z (by decide)⟩
    rw [hP.2.2.1]
    exact body
/-- the first END that holds, and its outcome -/
def endF (w h : Nat) (P : Nat → Nat) (s dn : Nat) (lack : Bool) : List RuT → Nat → Option (Nat × Int32)
  | [], _ => none
  | e :: es, k => if holdsB w h P s dn lack e.2.2.1 e.2.2.2.1 then some (k, e.2.2.2.2) else endF w h P s dn lack es (k + 1)
theorem endF_cons {w h : Nat} {P : Nat → Nat} {s dn : Nat} {lack : Bool} {e : RuT} {es : List RuT} {k : Nat} : endF w h P s dn lack (e :: es) k = if holdsB w h P s dn lack e.2.2.1 e.2.2.2.1 then some (k, e.2.2.2.2) else endF w h P s dn lack es (k + 1) := rfl
def lackB (G : GM) (P : Nat → Nat) (dn : Nat) : Bool := (ML (gW G) (gH G) (gMv G) P (sd dn)).isEmpty
/-- how it stands behind the dn-th move, done by side s -/
def finS (G : GM) (P : Nat → Nat) (dn s : Nat) : Nat × Nat × Int32 :=
  match endF (gW G) (gH G) P s dn (lackB G P dn) (gEn G) 0 with
  | some (k, out) => (1, (if out = 0 then s else if out = 1 then 3 - s else 0), nI k)
  | none => if lackB G P dn then (2, 0, -9) else if 60 ≤ dn then (3, 0, -9) else (0, 0, -9)
def knd (G : GM) (k : Nat) : Int32 := ((gMv G)[k]?.map fun e => e.2.2.1).getD 0
def stP (G : GM) (ps : PS) (m : Nat × Nat × Nat) : Nat → Nat := mvP (gW G) (gH G) (psP ps) (sd (psD ps)) (knd G m.1) m.2.1 m.2.2
def stp (G : GM) (ps : PS) (m : Nat × Nat × Nat) : PS := (stP G ps m, psD ps + 1, finS G (stP G ps m) (psD ps + 1) (sd (psD ps)))
/-- the moves of a position -/
def mvl (G : GM) (ps : PS) : List (Nat × Nat × Nat) := if psS ps = 0 then ML (gW G) (gH G) (gMv G) (psP ps) (sd (psD ps)) else []
def P0 (G : GM) : Nat → Nat := fun c => if bt (gA G) c then 1 else if bt (gB G) c then 2 else 0
def GOK (G : GM) : Prop := (2 ≤ gW G ∧ gW G ≤ 4 ∧ 2 ≤ gH G ∧ gH G ≤ 4) ∧ ((gMv G).length ≤ 6 ∧ 1 ≤ (gMv G).length ∧ MusOK (gMv G)) ∧ ((gEn G).length ≤ 6 ∧ 1 ≤ (gEn G).length ∧ EnsOK (gEn G)) ∧ VP (gW G) (gH G) (P0 G) ∧ gA G = mask (pc (P0 G) 1) ∧ gB G = mask (pc (P0 G) 2)
/-- the class's Game i holds the game G (its text aside) -/
def ClB (σ : GSt) (i : Nat) (G : GM) : Prop := CB σ i (gW G) (gH G) (gMv G) ∧ (σ i 2 = gA G ∧ σ i 3 = gB G) ∧ σ i 7 = nI (gEn G).length ∧ ∀ j e, (gEn G)[j]? = some e → EnIs σ (i + 11 + 2 * j) e
theorem ClB.row {σ σ' : GSt} {i : Nat} {G : GM} (hG : GOK G) (hB : ClB σ i G) (hr : ∀ a, i ≤ a → a < i + 22 → σ' a = σ a) : ClB σ' i G := by
  refine ⟨hB.1.row hG.2.1.1 hr, ⟨?_, ?_⟩, ?_, fun j e he => (hB.2.2.2 j e he).row (hr _ (by omega) ?_)⟩
  · rw [hr i (by omega) (by omega)]; exact hB.2.1.1
  · rw [hr i (by omega) (by omega)]; exact hB.2.1.2
  · rw [hr i (by omega) (by omega)]; exact hB.2.2.1
  · have h1 := (List.getElem?_eq_some_iff.mp he).1
    have h3 := hG.2.2.1.1
    omega
/-- a position that can come up -/
def PV (G : GM) (ps : PS) : Prop := VP (gW G) (gH G) (psP ps) ∧ psD ps ≤ 60 ∧ psS ps ≤ 3 ∧ psW ps ≤ 2 ∧ (psS ps = 0 → psD ps < 60 ∧ psW ps = 0 ∧ psE ps = -9 ∧ mvl G ps ≠ [])
theorem mvl_mem {G : GM} {ps : PS} {m : Nat × Nat × Nat} (hG : GOK G) (hV : PV G ps) (hm : m ∈ mvl G ps) : psS ps = 0 ∧ ∃ e, (gMv G)[m.1]? = some e ∧ knd G m.1 = e.2.2.1 ∧ LM (gW G) (gH G) (psP ps) (sd (psD ps)) e.2.2.1 m.2.1 m.2.2 := by
  obtain ⟨⟨w2, w4, h2, h4⟩, ⟨m6, -, hM⟩, -⟩ := hG
  unfold mvl at hm
  by_cases z : psS ps = 0
  · rw [if_pos z] at hm
    obtain ⟨e, he, hL⟩ := ML_mem w2 w4 h2 h4 (by unfold sd; omega) hV.1 hM hm
    refine ⟨z, e, he, ?_, hL⟩
    unfold knd
    rw [he]
    rfl
  · rw [if_neg z] at hm
    exact absurd hm List.not_mem_nil
theorem finS_le {G : GM} {P : Nat → Nat} {dn s : Nat} (hs : 1 ≤ s ∧ s ≤ 2) : (finS G P dn s).1 ≤ 3 ∧ (finS G P dn s).2.1 ≤ 2 ∧ ((finS G P dn s).1 = 0 → dn < 60 ∧ (finS G P dn s).2.1 = 0 ∧ (finS G P dn s).2.2 = -9 ∧ lackB G P dn = false) := by
  unfold finS
  split
  · refine ⟨show (1 : Nat) ≤ 3 by decide, ?_, fun z => absurd (show (1 : Nat) = 0 from z) (by decide)⟩
    show (if _ then s else if _ then 3 - s else 0) ≤ 2
    split
    · exact hs.2
    · split
      · exact Nat.le_trans (Nat.sub_le_sub_left hs.1 3) (by decide)
      · decide
  · split
    · exact ⟨by decide, by decide, fun z => absurd z (by decide)⟩
    · split
      · exact ⟨by decide, by decide, fun z => absurd z (by decide)⟩
      · rename_i z1 z2
        refine ⟨by decide, by decide, fun _ => ⟨by omega, rfl, rfl, by simpa using z1⟩⟩
theorem stp_PV {G : GM} {ps : PS} {m : Nat × Nat × Nat} (hG : GOK G) (hV : PV G ps) (hm : m ∈ mvl G ps) : PV G (stp G ps m) := by
  obtain ⟨z, e, he, hk, hL⟩ := mvl_mem hG hV hm
  obtain ⟨⟨w2, w4, h2, h4⟩, -⟩ := hG
  have hsd : 1 ≤ sd (psD ps) ∧ sd (psD ps) ≤ 2 := by unfold sd; omega
  have h60 := (hV.2.2.2.2 z).1
  have hf := finS_le (G := G) (P := stP G ps m) (dn := psD ps + 1) (s := sd (psD ps)) hsd
  refine ⟨?_, ?_, hf.1, hf.2.1, fun z' => ?_⟩
  · show VP _ _ (stP G ps m)
    unfold stP
    rw [hk]
    exact mvP_VP w2 w4 h2 h4 hsd hV.1 hL
  · show psD ps + 1 ≤ 60
    omega
  · obtain ⟨a1, a2, a3, a4⟩ := hf.2.2 z'
    refine ⟨a1, a2, a3, ?_⟩
    unfold mvl
    rw [if_pos z']
    unfold lackB at a4
    intro y
    have y' : ML (gW G) (gH G) (gMv G) (stP G ps m) (sd (psD ps + 1)) = [] := y
    rw [y'] at a4
    exact absurd a4 (by decide)
theorem close_ok {o : Nat} {a b c : Int32} {σ : GSt} {Q : GSt → Prop} (hQ : Q (up2 (up2 (up2 σ o 4 a) o 5 b) o 6 c)) : D_X5_close o a b c σ Q := by
  intro s1 e1 s2 e2 s3 e3
  subst e1
  subst e2
  subst e3
  exact hQ
theorem make_ok {o i : Nat} {G : GM} {ps : PS} {m : Nat × Nat × Nat} {σ : GSt} {Q : GSt → Prop} (hG : GOK G) (hV : PV G ps) (hm : m ∈ mvl G ps) (oi : o < i ∨ i + 22 ≤ o) (hP : PosC σ o i ps) (hB : ClB σ i G) (hQ : ∀ σ' : GSt, PosC σ' o i (stp G ps m) → (∀ a, a ≠ o → σ' a = σ a) → Q σ') : D_X5_make o (enc m) σ Q := by
  have hVs := stp_PV hG hV hm
  obtain ⟨z, e, he, hk, hL⟩ := mvl_mem hG hV hm
  obtain ⟨⟨w2, w4, h2, h4⟩, ⟨m6, -, hM⟩, ⟨e6, -, hE⟩, -⟩ := id hG
  obtain ⟨h60, w0, ek0, -⟩ := hV.2.2.2.2 z
  have hsd : 1 ≤ sd (psD ps) ∧ sd (psD ps) ≤ 2 := by unfold sd; omega
  unfold D_X5_make D_X5_make_0
  show D_X5_shift o (enc m) σ _
  obtain ⟨k, f, t⟩ := m
  refine shift_ok w2 w4 h2 h4 m6 hP.1 hB.1 he hL ?_
  have eP : stP G ps (k, f, t) = mvP (gW G) (gH G) (psP ps) (sd (psD ps)) e.2.2.1 f t := by
    unfold stP
    rw [hk]
  intro s4 e4
  rw [← eP] at e4
  obtain ⟨P', hP'⟩ : ∃ P', P' = stP G ps (k, f, t) := ⟨_, rfl⟩
  rw [← hP'] at e4
  obtain ⟨kdi, p0, p1, p2, p3, p61⟩ := hP.1
  have c3 : up2 (up2 σ o 1 (mask (pc P' 1))) o 2 (mask (pc P' 2)) o 3 = nI (psD ps) := by simp [up2_app, p3]
  rw [c3, nI_1] at e4
  have hfr : ∀ a, a ≠ o → s4 a = σ a := fun a ha => by rw [e4, up2_ne ha, up2_ne ha, up2_ne ha]
  have C4 : CP s4 o i P' (psD ps + 1) := by
    rw [e4]
    exact ⟨kdi, by simp [up2_app, p0], by simp [up2_app], by simp [up2_app], by simp [up2_app], by omega⟩
  have B4 : ClB s4 i G := hB.row hG (fun a h1 h2 => hfr a (by omega))
  have V4 : VP (gW G) (gH G) P' := by rw [hP']; exact hVs.1
  have v4 : s4 o 4 = 0 ∧ s4 o 5 = -9 ∧ s4 o 6 = -9 := by
    rw [e4]
    refine ⟨?_, ?_, ?_⟩
    · simp [up2_app, hP.2.1, z, nI_0]
    · simp [up2_app, hP.2.2.1, z, wC]
    · simp [up2_app, hP.2.2.2, ek0]
  have eS : stp G ps (k, f, t) = (P', psD ps + 1, finS G P' (psD ps + 1) (sd (psD ps))) := by rw [hP']; rfl
  rw [eS] at hQ
  -- the ENDS
  have ends : ∀ x3 : Int32, x3 = (if lackB G P' (psD ps + 1) then 1 else 0) → D_X5_make_32 Q o (σ o 3 &&& 1) x3 s4 := by
    intro x3 e3
    have eM : σ o 3 &&& 1 = nI (sd (psD ps) - 1) := by
      rw [hP.1.odd]
      unfold sd
      rfl
    rw [eM]
    refine ⟨(gEn G).length + 1, ?_⟩
    have key : ∀ (d j : Nat), j + d = (gEn G).length → endF (gW G) (gH G) P' (sd (psD ps)) (psD ps + 1) (lackB G P' (psD ps + 1)) (gEn G) 0 = endF (gW G) (gH G) P' (sd (psD ps)) (psD ps + 1) (lackB G P' (psD ps + 1)) ((gEn G).drop j) j → L_X5_make_36 Q o (d + 1) (nI (sd (psD ps) - 1)) x3 (nI j) s4 := by
      intro d
      induction d with
      | zero =>
        intro j hj hF
        unfold L_X5_make_36 D_X5_make_36
        rw [C4.ref.2, B4.2.2.1]
        refine ⟨⟨C4.ref.1.1, C4.1⟩, fun _ => ?_, fun y => absurd (nI_le (by omega) (by omega)) y⟩
        rw [List.drop_of_length_le (by omega)] at hF
        have fS : finS G P' (psD ps + 1) (sd (psD ps)) = if lackB G P' (psD ps + 1) then (2, 0, -9) else if 60 ≤ psD ps + 1 then (3, 0, -9) else (0, 0, -9) := by
          unfold finS
          rw [hF]
          rfl
        rw [C4.2.2.2.2.1]
        refine ⟨fun q => ?_, fun q => ?_⟩
        · have l0 : lackB G P' (psD ps + 1) = false := by
            cases hl : lackB G P' (psD ps + 1)
            · rfl
            · rw [hl] at e3; rw [e3] at q; exact absurd q (by decide)
          rw [l0] at fS
          simp only [Bool.false_eq_true, if_false] at fS
          refine pk_lt (psD ps + 1) 60 (fun y => ?_) (fun y => ?_)
          · rw [if_neg (by omega)] at fS
            rw [fS] at hQ
            exact hQ s4 ⟨C4, v4.1, v4.2.1, v4.2.2⟩ hfr
          · rw [if_pos y] at fS
            rw [fS] at hQ
            refine close_ok (hQ _ ⟨?_, by simp [up2_app, psS]; rfl, by simp [up2_app, psS, psW, wC], by simp [up2_app, psE]⟩ (fun a ha => by rw [up2_ne ha, up2_ne ha, up2_ne ha]; exact hfr a ha))
            exact ⟨kdi, by simp [up2_app, C4.2.1], by simp [up2_app, C4.2.2.1, psP], by simp [up2_app, C4.2.2.2.1, psP], by simp [up2_app, C4.2.2.2.2.1, psD], C4.2.2.2.2.2⟩
        · have l1 : lackB G P' (psD ps + 1) = true := by
            cases hl : lackB G P' (psD ps + 1)
            · rw [hl] at e3; exact absurd e3 q
            · rfl
          rw [l1] at fS
          simp only [if_true] at fS
          rw [fS] at hQ
          refine close_ok (hQ _ ⟨?_, by simp [up2_app, psS]; rfl, by simp [up2_app, psS, psW, wC], by simp [up2_app, psE]⟩ (fun a ha => by rw [up2_ne ha, up2_ne ha, up2_ne ha]; exact hfr a ha))
          exact ⟨kdi, by simp [up2_app, C4.2.1], by simp [up2_app, C4.2.2.1, psP], by simp [up2_app, C4.2.2.2.1, psP], by simp [up2_app, C4.2.2.2.2.1, psD], C4.2.2.2.2.2⟩
      | succ d ih =>
        intro j hj hF
        unfold L_X5_make_36 D_X5_make_36
        rw [C4.ref.2, B4.2.2.1, nI_clamp (show j < 2 ^ 31 by omega), show i + 9 + 2 + 2 * j = i + 11 + 2 * j by omega]
        refine ⟨⟨C4.ref.1.1, C4.1⟩, fun y => absurd y (nI_ge (by omega) (by omega)), fun _ => ⟨⟨C4.ref.1.1, C4.1⟩, vp_in_nI (by omega) (by decide), ?_⟩⟩
        obtain ⟨x, hx⟩ : ∃ x, (gEn G)[j]? = some x := ⟨_, List.getElem?_eq_getElem (by omega)⟩
        have hxi := B4.2.2.2 j x hx
        rw [drop_cons hx, endF_cons] at hF
        refine holds_ok (lack := lackB G P' (psD ps + 1)) w2 w4 h2 h4 (by omega) V4 C4 B4.1.1 hxi.2.2.1 hxi.2.2.2.1 (hE x (List.mem_of_getElem? hx)) rfl e3 (fun q => ⟨fun y => absurd y (by decide), fun _ => ?_⟩) (fun q => ⟨fun _ y ey => ?_, fun y => absurd rfl y⟩)
        · rw [C4.ref.2, hxi.2.2.2.2]
          refine ⟨⟨C4.ref.1.1, C4.1⟩, vp_in_nI (by omega) (by decide), fun out eo => ?_⟩
          rw [q] at hF
          simp only [if_true] at hF
          have fS : finS G P' (psD ps + 1) (sd (psD ps)) = (1, (if out = 0 then sd (psD ps) else if out = 1 then 3 - sd (psD ps) else 0), nI j) := by
            rw [eo]
            unfold finS
            rw [hF]
          rw [fS] at hQ
          have fin : ∀ (v : Int32), v = wC 1 (if out = 0 then sd (psD ps) else if out = 1 then 3 - sd (psD ps) else 0) → D_X5_make_104 Q o (nI j) v s4 := by
            intro v ev
            refine close_ok (hQ _ ⟨?_, by simp [up2_app, psS]; rfl, ?_, by simp [up2_app, psE]⟩ (fun a ha => by rw [up2_ne ha, up2_ne ha, up2_ne ha]; exact hfr a ha))
            · exact ⟨kdi, by simp [up2_app, C4.2.1], by simp [up2_app, C4.2.2.1, psP], by simp [up2_app, C4.2.2.2.1, psP], by simp [up2_app, C4.2.2.2.2.1, psD], C4.2.2.2.2.2⟩
            · rw [ev]
              simp [up2_app, psS, psW]
          refine ⟨fun o0 => ⟨fun o1 => fin 2 ?_, fun o1 => fin _ ?_⟩, fun o0 => fin _ ?_⟩
          · rw [if_neg o0, if_neg o1]; rfl
          · rw [if_neg o0, if_pos o1]
            rcases sd_cases (psD ps) with ⟨-, s1, s2⟩ | ⟨-, s1, s2⟩
            · rw [s2, s1]; rfl
            · rw [s2, s1]; rfl
          · rw [if_pos o0]
            unfold wC
            rw [if_neg (by decide), if_neg (by omega)]
        · subst ey
          rw [nI_1 j]
          rw [q] at hF
          simp only [Bool.false_eq_true, if_false] at hF
          exact ih (j + 1) (by omega) hF
    exact key (gEn G).length 0 (by omega) (by rw [List.drop_zero])
  refine hasMove_ok w2 w4 h2 h4 V4 m6 hM C4 B4.1 (fun hne => ⟨fun _ => ends 0 ?_, fun y => absurd y (by decide)⟩) (fun hnil => ⟨fun y => absurd rfl y, fun _ => ends 1 ?_⟩)
  · have : lackB G P' (psD ps + 1) = false := by
      unfold lackB
      cases hl : ML (gW G) (gH G) (gMv G) P' (sd (psD ps + 1)) with
      | nil => exact absurd hl hne
      | cons a b => rfl
    rw [this]
    rfl
  · have : lackB G P' (psD ps + 1) = true := by
      unfold lackB
      rw [hnil]
      rfl
    rw [this]
    rfl
