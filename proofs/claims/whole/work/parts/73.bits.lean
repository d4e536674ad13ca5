/-- the bit c of x -/
def bt (x : Int32) (c : Nat) : Bool := x.toBitVec.getLsbD c
theorem bt_ext {x y : Int32} (h : ∀ c, c < 32 → bt x c = bt y c) : x = y := Int32.toBitVec.inj (BitVec.eq_of_getLsbD_eq (fun i hi => h i hi))
theorem bt_hi {x : Int32} {c : Nat} (h : 32 ≤ c) : bt x c = false := BitVec.getLsbD_of_ge _ _ h
theorem bt_or (x y : Int32) (c : Nat) : bt (x ||| y) c = (bt x c || bt y c) := BitVec.getLsbD_or
theorem bt_and (x y : Int32) (c : Nat) : bt (x &&& y) c = (bt x c && bt y c) := BitVec.getLsbD_and
theorem bt_m1 {c : Nat} (h : c < 32) : bt (-1) c = true := by
  have e : ((-1 : Int32)).toBitVec = BitVec.allOnes 32 := by decide
  unfold bt
  rw [e, BitVec.getLsbD_allOnes, decide_eq_true h]
theorem bt_not {x : Int32} {c : Nat} (h : c < 32) : bt (x ^^^ (-1)) c = !bt x c := by
  have e : bt (x ^^^ (-1)) c = (bt x c ^^ bt (-1) c) := BitVec.getLsbD_xor
  rw [e, bt_m1 h, Bool.xor_true]
theorem bt_0 (c : Nat) : bt 0 c = false := by
  have e : ((0 : Int32)).toBitVec = 0#32 := rfl
  unfold bt
  rw [e, BitVec.getLsbD_zero]
theorem bt_nI {m : Nat} {c : Nat} (hc : c < 32) : bt (nI m) c = m.testBit c := by
  have e : (nI m).toBitVec = BitVec.ofNat 32 m := rfl
  unfold bt
  rw [e, BitVec.getLsbD_ofNat, decide_eq_true hc, Bool.true_and]
theorem sh1_all : ∀ k, k < 31 → jshl 1 (nI k) = nI (2 ^ k) := by decide +kernel
theorem bt_sh1 {k c : Nat} (hk : k < 31) (hc : c < 32) : bt (jshl 1 (nI k)) c = decide (c = k) := by
  rw [sh1_all k hk, bt_nI hc, Nat.testBit_two_pow]
  exact decide_eq_decide.mpr eq_comm
theorem ush_all : ∀ k, k < 32 → (((nI k).toUInt32 &&& Int32.toUInt32 31).toBitVec % 32).toNat = k := by decide +kernel
theorem bt_ush {x : Int32} {k c : Nat} (hk : k < 32) : bt (jushr x (nI k)) c = bt x (c + k) := by
  have e := pk_ushr x (nI k) k (ush_all k hk)
  show (jushr x (nI k)).toBitVec.toNat.testBit c = x.toBitVec.toNat.testBit (c + k)
  unfold jushr
  rw [e, Nat.testBit_div_two_pow]
theorem bt_1 {c : Nat} (hc : c < 32) : bt 1 c = decide (c = 0) := by
  have e : (1 : Int32) = jshl 1 (nI 0) := by decide
  rw [e, bt_sh1 (by decide) hc]
theorem ush_and1 {x : Int32} {k : Nat} (hk : k < 32) : (jushr x (nI k) &&& 1) = if bt x k then 1 else 0 := by
  refine bt_ext (fun c hc => ?_)
  rw [bt_and, bt_1 hc, bt_ush hk]
  by_cases h : c = 0
  · subst h
    rw [Nat.zero_add]
    cases bt x k
    · simp [bt_0]
    · simp [bt_1]
  · cases bt x k
    · simp [bt_0, h]
    · simp [bt_1 hc, h]
theorem ush_and1_0 {x : Int32} {k : Nat} (hk : k < 32) : (jushr x (nI k) &&& 1) = 0 ↔ bt x k = false := by
  rw [ush_and1 hk]
  cases bt x k <;> decide
theorem ush_0 {x : Int32} {k : Nat} (hk : k < 32) : jushr x (nI k) = 0 ↔ ∀ c, k ≤ c → bt x c = false := by
  constructor
  · intro h c hc
    have e := bt_ush (x := x) (c := c - k) hk
    rw [h, bt_0, Nat.sub_add_cancel hc] at e
    exact e.symm
  · intro h
    refine bt_ext (fun c _ => ?_)
    rw [bt_ush hk, bt_0]
    exact h _ (by omega)
/-- the number whose bits c < n are f c -/
def maskN (f : Nat → Bool) : Nat → Nat
  | 0 => 0
  | n + 1 => maskN f n + (if f n then 2 ^ n else 0)
theorem maskN_lt (f : Nat → Bool) : ∀ n, maskN f n < 2 ^ n
  | 0 => by simp [maskN]
  | n + 1 => by
    have := maskN_lt f n
    unfold maskN
    rw [Nat.pow_succ]
    split <;> omega
theorem maskN_bit (f : Nat → Bool) : ∀ n c, (maskN f n).testBit c = (decide (c < n) && f c)
  | 0, c => by simp [maskN]
  | n + 1, c => by
    unfold maskN
    have hl := maskN_lt f n
    rcases Nat.lt_trichotomy c n with h | h | h
    · rw [decide_eq_true (by omega), Bool.true_and]
      have ih := maskN_bit f n c
      rw [decide_eq_true h, Bool.true_and] at ih
      cases hf : f n
      · simpa using ih
      · simp only [if_true]
        rw [Nat.add_comm, Nat.testBit_two_pow_add_gt h]
        exact ih
    · subst h
      rw [decide_eq_true (by omega), Bool.true_and]
      have z : (maskN f c).testBit c = false := Nat.testBit_lt_two_pow hl
      cases hf : f c
      · simpa using z
      · simp only [if_true]
        rw [Nat.add_comm, Nat.testBit_two_pow_add_eq, z]
        rfl
    · rw [decide_eq_false (by omega), Bool.false_and]
      apply Nat.testBit_lt_two_pow
      have h2 : maskN f n + (if f n then 2 ^ n else 0) < 2 ^ (n + 1) := maskN_lt f (n + 1)
      exact Nat.lt_of_lt_of_le h2 (Nat.pow_le_pow_right (by decide) h)
/-- the cells c < 16 with f c, as bits -/
def mask (f : Nat → Bool) : Int32 := nI (maskN f 16)
theorem bt_mask {f : Nat → Bool} {c : Nat} (hc : c < 32) : bt (mask f) c = (decide (c < 16) && f c) := by
  unfold mask
  rw [bt_nI hc, maskN_bit]
theorem mask_congr {f g : Nat → Bool} (h : ∀ c, c < 16 → f c = g c) : mask f = mask g := bt_ext (fun c hc => by
  rw [bt_mask hc, bt_mask hc]
  by_cases q : c < 16
  · rw [h c q]
  · rw [decide_eq_false q]
    rfl)
theorem mask_of {x : Int32} {f : Nat → Bool} (h : ∀ c, c < 16 → bt x c = f c) (h2 : ∀ c, 16 ≤ c → c < 32 → bt x c = false) : x = mask f := bt_ext (fun c hc => by
  rw [bt_mask hc]
  by_cases q : c < 16
  · rw [h c q, decide_eq_true q]
    rfl
  · rw [decide_eq_false q, h2 c (by omega) hc]
    rfl)
theorem mask_eq0 {f : Nat → Bool} : mask f = 0 ↔ ∀ c, c < 16 → f c = false := by
  constructor
  · intro h c hc
    have e := bt_mask (f := f) (c := c) (by omega)
    rw [h, bt_0, decide_eq_true hc, Bool.true_and] at e
    exact e.symm
  · intro h
    refine bt_ext (fun c hc => ?_)
    rw [bt_mask hc, bt_0]
    by_cases q : c < 16
    · rw [h c q, Bool.and_false]
    · rw [decide_eq_false q]
      rfl
theorem mask_and (f g : Nat → Bool) : mask f &&& mask g = mask (fun c => f c && g c) := bt_ext (fun c hc => by
  rw [bt_and, bt_mask hc, bt_mask hc, bt_mask hc]
  cases decide (c < 16) <;> simp)
theorem mask_or (f g : Nat → Bool) : mask f ||| mask g = mask (fun c => f c || g c) := bt_ext (fun c hc => by
  rw [bt_or, bt_mask hc, bt_mask hc, bt_mask hc]
  cases decide (c < 16) <;> simp)
theorem mask_andn (f g : Nat → Bool) : mask f &&& (mask g ^^^ (-1)) = mask (fun c => f c && !g c) := bt_ext (fun c hc => by
  rw [bt_and, bt_not hc, bt_mask hc, bt_mask hc, bt_mask hc]
  cases decide (c < 16) <;> simp)
theorem mask_1 {k : Nat} (hk : k < 16) : jshl 1 (nI k) = mask (fun c => decide (c = k)) := bt_ext (fun c hc => by
  rw [bt_sh1 (by omega) hc, bt_mask hc]
  by_cases q : c = k
  · subst q
    simp [hk]
  · simp [q])
theorem mask_0 : (0 : Int32) = mask (fun _ => false) := (mask_eq0.mpr (fun _ _ => rfl)).symm
theorem mask_set {f : Nat → Bool} {k : Nat} (hk : k < 16) : mask f ||| jshl 1 (nI k) = mask (fun c => f c || decide (c = k)) := by rw [mask_1 hk, mask_or]
theorem mask_clr {f : Nat → Bool} {k : Nat} (hk : k < 16) : mask f &&& (jshl 1 (nI k) ^^^ (-1)) = mask (fun c => f c && !decide (c = k)) := by rw [mask_1 hk, mask_andn]
/-- Integer.bitCount, on natural numbers below 2^16 -/
def bcN (x : Nat) : Nat :=
  (fun a => (fun b => (fun c => (fun d => (d + d / 2 ^ 16) &&& 63) (c + c / 2 ^ 8)) ((b + b / 2 ^ 4) &&& 252645135)) ((a &&& 858993459) + ((a / 2 ^ 2) &&& 858993459))) (x - ((x / 2 ^ 1) &&& 1431655765))
def pcN (x : Nat) : Nat → Nat
  | 0 => 0
  | n + 1 => pcN x n + x / 2 ^ n % 2
theorem land_split {p q m n : Nat} (hq : q < 256) (hn : n < 256) : (256 * p + q) &&& (256 * m + n) = 256 * (p &&& m) + (q &&& n) := by
  have e : ∀ p q, q < 256 → ∀ j, (256 * p + q).testBit j = if j < 8 then q.testBit j else p.testBit (j - 8) := fun p q hq j => Nat.testBit_two_pow_mul_add p (i := 8) hq j
  apply Nat.eq_of_testBit_eq
  intro i
  rw [Nat.testBit_and, e _ _ hq, e _ _ hn, e _ _ (Nat.lt_of_le_of_lt Nat.and_le_left hq), Nat.testBit_and, Nat.testBit_and]
  split <;> rfl
def s1N (x : Nat) : Nat := x - ((x / 2) &&& 85)
def s2N (x : Nat) : Nat := (x &&& 51) + ((x / 4) &&& 51)
def s3N (x : Nat) : Nat := (x + x / 16) &&& 15
theorem by_1 : ∀ b, b < 256 → (∀ e, e < 2 → (128 * e + b / 2) &&& 85 = (b / 2) &&& 85) ∧ ((b / 2) &&& 5592405 = (b / 2) &&& 85) ∧ ((b / 2) &&& 85) ≤ b := by decide +kernel
theorem by_2 : ∀ b, b < 256 → (∀ e, e < 4 → (64 * e + b / 4) &&& 51 = (b / 4) &&& 51) ∧ ((b / 4) &&& 3355443 = (b / 4) &&& 51) ∧ (b &&& 3355443 = b &&& 51) := by decide +kernel
theorem by_3 : ∀ b, b < 256 → (∀ e, e < 5 → (s2N (s1N b) + s2N (s1N b) / 16 + 16 * e) &&& 15 = (s2N (s1N b) + s2N (s1N b) / 16) &&& 15) ∧ s2N (s1N b) ≤ 68 ∧ s2N (s1N b) % 16 < 5 ∧ (s2N (s1N b) + s2N (s1N b) / 16) &&& 986895 = (s2N (s1N b) + s2N (s1N b) / 16) &&& 15 ∧ s1N b < 256 ∧ s3N (s2N (s1N b)) = pcN b 8 ∧ pcN b 8 ≤ 8 := by decide +kernel
theorem bc_split {a b : Nat} (ha : a < 256) (hb : b < 256) : bcN (256 * a + b) = pcN a 8 + pcN b 8 := by
  obtain ⟨a1, a2, a3⟩ := by_1 a ha
  obtain ⟨b1, -, b3⟩ := by_1 b hb
  have e1 : (256 * a + b) - (((256 * a + b) / 2 ^ 1) &&& 1431655765) = 256 * s1N a + s1N b := by
    rw [show (256 * a + b) / 2 ^ 1 = 256 * (a / 2) + (128 * (a % 2) + b / 2) by omega, show (1431655765 : Nat) = 256 * 5592405 + 85 by decide, land_split (by omega) (by decide), b1 _ (Nat.mod_lt _ (by decide)), a2]
    unfold s1N
    omega
  obtain ⟨c1, c2, c3, c4, c5, c6, c7⟩ := by_3 a ha
  obtain ⟨d1, d2, d3, -, d5, d6, d7⟩ := by_3 b hb
  obtain ⟨f1, f2, f3⟩ := by_2 (s1N a) c5
  obtain ⟨g1, -, -⟩ := by_2 (s1N b) d5
  have e2 : ((256 * s1N a + s1N b) &&& 858993459) + (((256 * s1N a + s1N b) / 2 ^ 2) &&& 858993459) = 256 * s2N (s1N a) + s2N (s1N b) := by
    rw [show (256 * s1N a + s1N b) / 2 ^ 2 = 256 * (s1N a / 4) + (64 * (s1N a % 4) + s1N b / 4) by omega, show (858993459 : Nat) = 256 * 3355443 + 51 by decide, land_split d5 (by decide), land_split (by omega) (by decide), g1 _ (Nat.mod_lt _ (by decide)), f2, f3]
    unfold s2N
    omega
  have e3 : ((256 * s2N (s1N a) + s2N (s1N b)) + (256 * s2N (s1N a) + s2N (s1N b)) / 2 ^ 4) &&& 252645135 = 256 * s3N (s2N (s1N a)) + s3N (s2N (s1N b)) := by
    rw [show (256 * s2N (s1N a) + s2N (s1N b)) + (256 * s2N (s1N a) + s2N (s1N b)) / 2 ^ 4 = 256 * (s2N (s1N a) + s2N (s1N a) / 16) + (s2N (s1N b) + s2N (s1N b) / 16 + 16 * (s2N (s1N a) % 16)) by omega, show (252645135 : Nat) = 256 * 986895 + 15 by decide, land_split (by omega) (by decide), d1 _ c3, c4]
    rfl
  unfold bcN
  simp only []
  rw [e1, e2, e3, c6, d6]
  rw [show (256 * pcN a 8 + pcN b 8) + (256 * pcN a 8 + pcN b 8) / 2 ^ 8 = 256 * pcN a 8 + pcN b 8 + pcN a 8 by omega, show (256 * pcN a 8 + pcN b 8 + pcN a 8) / 2 ^ 16 = 0 by omega, Nat.add_zero, show (63 : Nat) = 2 ^ 6 - 1 by decide, Nat.and_two_pow_sub_one_eq_mod]
  omega
theorem pc_split {a b : Nat} (hb : b < 256) : pcN (256 * a + b) 16 = pcN a 8 + pcN b 8 := by
  have l0 : (256 * a + b) / 2 ^ 0 % 2 = b / 2 ^ 0 % 2 := by omega
  have l1 : (256 * a + b) / 2 ^ 1 % 2 = b / 2 ^ 1 % 2 := by omega
  have l2 : (256 * a + b) / 2 ^ 2 % 2 = b / 2 ^ 2 % 2 := by omega
  have l3 : (256 * a + b) / 2 ^ 3 % 2 = b / 2 ^ 3 % 2 := by omega
  have l4 : (256 * a + b) / 2 ^ 4 % 2 = b / 2 ^ 4 % 2 := by omega
  have l5 : (256 * a + b) / 2 ^ 5 % 2 = b / 2 ^ 5 % 2 := by omega
  have l6 : (256 * a + b) / 2 ^ 6 % 2 = b / 2 ^ 6 % 2 := by omega
  have l7 : (256 * a + b) / 2 ^ 7 % 2 = b / 2 ^ 7 % 2 := by omega
  have l8 : (256 * a + b) / 2 ^ 8 % 2 = a / 2 ^ 0 % 2 := by omega
  have l9 : (256 * a + b) / 2 ^ 9 % 2 = a / 2 ^ 1 % 2 := by omega
  have l10 : (256 * a + b) / 2 ^ 10 % 2 = a / 2 ^ 2 % 2 := by omega
  have l11 : (256 * a + b) / 2 ^ 11 % 2 = a / 2 ^ 3 % 2 := by omega
  have l12 : (256 * a + b) / 2 ^ 12 % 2 = a / 2 ^ 4 % 2 := by omega
  have l13 : (256 * a + b) / 2 ^ 13 % 2 = a / 2 ^ 5 % 2 := by omega
  have l14 : (256 * a + b) / 2 ^ 14 % 2 = a / 2 ^ 6 % 2 := by omega
  have l15 : (256 * a + b) / 2 ^ 15 % 2 = a / 2 ^ 7 % 2 := by omega
  simp only [pcN, l0, l1, l2, l3, l4, l5, l6, l7, l8, l9, l10, l11, l12, l13, l14, l15, Nat.zero_add]
  ac_rfl
theorem bc_ok {x : Nat} (h : x < 65536) : bcN x = pcN x 16 := by
  rw [show x = 256 * (x / 256) + x % 256 by omega, bc_split (by omega) (by omega), pc_split (by omega)]
theorem nI_and (a b : Nat) : nI a &&& nI b = nI (a &&& b) := Int32.toBitVec.inj (by
  show BitVec.ofNat 32 a &&& BitVec.ofNat 32 b = BitVec.ofNat 32 (a &&& b)
  rw [BitVec.ofNat_and])
theorem jushr_nI {n k : Nat} (hn : n < 2 ^ 32) (hk : k < 32) : jushr (nI n) (nI k) = nI (n / 2 ^ k) := pk_ushrN hn (nI k) k (ush_all k hk)
theorem bitCount_nI {x : Nat} {σ : GSt} {Q : Int32 → GSt → Prop} (h : x < 65536) (hQ : Q (nI (pcN x 16)) σ) : D_J6_bitCount_0f7a4 (nI x) σ Q := by
  intro a ea b eb c ec d ed e ee
  have hle : (x / 2 ^ 1) &&& 1431655765 ≤ x := Nat.le_trans Nat.and_le_left (by omega)
  have e1 : a = nI (x - ((x / 2 ^ 1) &&& 1431655765)) := by
    rw [ea, show (1 : Int32) = nI 1 from rfl, jushr_nI (by omega) (by decide), show (1431655765 : Int32) = nI 1431655765 from rfl, nI_and, pk_sub hle]
  obtain ⟨a', ha'⟩ : ∃ z, z = x - ((x / 2 ^ 1) &&& 1431655765) := ⟨_, rfl⟩
  rw [← ha'] at e1
  have la : a' < 65536 := by omega
  have e2 : b = nI ((a' &&& 858993459) + ((a' / 2 ^ 2) &&& 858993459)) := by
    rw [eb, e1, show (2 : Int32) = nI 2 from rfl, jushr_nI (by omega) (by decide), show (858993459 : Int32) = nI 858993459 from rfl, nI_and, nI_and, nI_add]
  obtain ⟨b', hb'⟩ : ∃ z, z = (a' &&& 858993459) + ((a' / 2 ^ 2) &&& 858993459) := ⟨_, rfl⟩
  rw [← hb'] at e2
  have lb : b' < 2 ^ 18 := by
    have := @Nat.and_le_left a' 858993459
    have := @Nat.and_le_left (a' / 2 ^ 2) 858993459
    omega
  have e3 : c = nI ((b' + b' / 2 ^ 4) &&& 252645135) := by
    rw [ec, e2, show (4 : Int32) = nI 4 from rfl, jushr_nI (by omega) (by decide), nI_add, show (252645135 : Int32) = nI 252645135 from rfl, nI_and]
  obtain ⟨c', hc'⟩ : ∃ z, z = (b' + b' / 2 ^ 4) &&& 252645135 := ⟨_, rfl⟩
  rw [← hc'] at e3
  have lc : c' < 2 ^ 20 := by
    have := @Nat.and_le_left (b' + b' / 2 ^ 4) 252645135
    omega
  have e4 : d = nI (c' + c' / 2 ^ 8) := by
    rw [ed, e3, show (8 : Int32) = nI 8 from rfl, jushr_nI (by omega) (by decide), nI_add]
  obtain ⟨d', hd'⟩ : ∃ z, z = c' + c' / 2 ^ 8 := ⟨_, rfl⟩
  rw [← hd'] at e4
  have e5 : e &&& 63 = nI (bcN x) := by
    rw [ee, e4, show (16 : Int32) = nI 16 from rfl, jushr_nI (by omega) (by decide), nI_add, show (63 : Int32) = nI 63 from rfl, nI_and]
    rw [hd', hc', hb', ha']
    rfl
  rw [e5, bc_ok h]
  exact hQ
theorem pcN_mask (f : Nat → Bool) (n : Nat) : ∀ k, k ≤ n → pcN (maskN f n) k = cntF f k 0
  | 0, _ => rfl
  | k + 1, hk => by
    have ih := pcN_mask f n k (by omega)
    have e : ∀ (d j : Nat), cntF f (d + 1) j = cntF f d j + (if f (j + d) then 1 else 0) := by
      intro d
      induction d with
      | zero => intro j; simp [cntF]
      | succ d ihd =>
        intro j
        have := ihd (j + 1)
        rw [show j + (d + 1) = j + 1 + d by omega]
        show (if f j then 1 else 0) + cntF f (d + 1) (j + 1) = ((if f j then 1 else 0) + cntF f d (j + 1)) + _
        omega
    unfold pcN
    rw [ih, e, Nat.zero_add]
    congr 1
    have b := maskN_bit f n k
    rw [decide_eq_true (show k < n by omega), Bool.true_and, Nat.testBit_eq_decide_div_mod_eq] at b
    cases hf : f k
    · rw [hf] at b
      have := of_decide_eq_false b
      simp
      omega
    · rw [hf] at b
      have := of_decide_eq_true b
      simp
      omega
theorem bitCount_ok {f : Nat → Bool} {σ : GSt} {Q : Int32 → GSt → Prop} (hQ : Q (nI (cntF f 16 0)) σ) : D_J6_bitCount_0f7a4 (mask f) σ Q := by
  refine bitCount_nI (maskN_lt f 16) ?_
  rw [pcN_mask f 16 16 (Nat.le_refl _)]
  exact hQ
theorem cntF_le (f : Nat → Bool) : ∀ d k, cntF f d k ≤ d
  | 0, _ => Nat.le_refl _
  | d + 1, k => by
    have := cntF_le f d (k + 1)
    unfold cntF
    split <;> omega
