/-- rules written behind B, joined by commas, without rule x; how many -/
def jn (B L : List Int32) (l : List RuT) (x : Nat) : Nat → List Int32 × Nat
  | 0 => (B, 0)
  | k + 1 => if k = x then jn B L l x k else ((jn B L l x k).1 ++ (if (jn B L l x k).2 = 0 then [] else [44]) ++ rs L l k, (jn B L l x k).2 + 1)
theorem jn_s {B L : List Int32} {l : List RuT} {x k : Nat} : jn B L l x (k + 1) = if k = x then jn B L l x k else ((jn B L l x k).1 ++ (if (jn B L l x k).2 = 0 then [] else [44]) ++ rs L l k, (jn B L l x k).2 + 1) := rfl
theorem jn_len {B L : List Int32} {l : List RuT} {x : Nat} {t : Nat → Int32} {n : Nat} {c : Int32} {p z : Nat} (h : Chn t n c l p z) : ∀ k, (jn B L l x k).1.length ≤ B.length + 4 * k ∧ (jn B L l x k).2 ≤ k
  | 0 => ⟨by show B.length ≤ _; omega, Nat.le_refl _⟩
  | k + 1 => by
    obtain ⟨i1, i2⟩ := jn_len (B := B) (L := L) (x := x) h k
    rw [jn_s]
    split
    · exact ⟨by omega, by omega⟩
    · have := rs_len (L := L) h k
      have : (if (jn B L l x k).2 = 0 then ([] : List Int32) else [44]).length ≤ 1 := by split <;> simp
      refine ⟨?_, ?_⟩
      · show ((jn B L l x k).1 ++ (if (jn B L l x k).2 = 0 then [] else [44]) ++ rs L l k).length ≤ _
        rw [List.length_append, List.length_append]
        omega
      · show (jn B L l x k).2 + 1 ≤ k + 1
        omega
theorem jn_nn {B L : List Int32} {l : List RuT} {x : Nat} (hB : ∀ e ∈ B, 0 ≤ e) (h : ∀ e ∈ L, 0 ≤ e) : ∀ k, ∀ e ∈ (jn B L l x k).1, 0 ≤ e
  | 0 => hB
  | k + 1 => by
    rw [jn_s]
    split
    · exact jn_nn hB h k
    · intro e he
      rcases List.mem_append.mp (show e ∈ ((jn B L l x k).1 ++ (if (jn B L l x k).2 = 0 then [] else [44])) ++ rs L l k from he) with w | w
      · rcases List.mem_append.mp w with w | w
        · exact jn_nn hB h k e w
        · split at w
          · exact absurd w (by simp)
          · rw [List.mem_singleton.mp w]; decide
      · exact rs_nn h e w
/-- the class writes its MOVES without rule x -/
theorem dropMoves_ok {σ : GSt} {i x : Nat} {G : GM} {L B : List Int32} {Q : GSt → Prop} (i53 : 53 ≤ i) (l90 : L.length ≤ 90) (m6 : (gMv G).length ≤ 6) (x31 : x < 2 ^ 31) (hC : Chn (tl L) L.length 59 (gMv G) (gMF G) (gEF G)) (h5 : σ i 5 = nI (gMv G).length) (h9 : σ i 9 = nI (gEF G)) (hR : ∀ j e, (gMv G)[j]? = some e → MvIs σ (i + 10 + 2 * j) e) (hM : TxC σ (i + 1) L) (hB : B.length ≤ 46) (eL : gEF G ≤ L.length) (e1 : 1 ≤ gEF G) (eN : L.length ≤ gEF G + 24) (b22 : B.length ≤ 22) (hT : TxC σ 3 B) (hQ : ∀ σ' : GSt, TxC σ' 3 ((jn B L (gMv G) x (gMv G).length).1 ++ seg L (gEF G - 1) L.length) → (∀ a, a ≠ 3 → a ≠ 4 → σ' a = σ a) → Q σ') : ∃ f : Nat, L_X1_writeWithoutMove_23 Q i f (nI x) 3 0 0 σ := by
  refine ⟨(gMv G).length + 1, ?_⟩
  have key : ∀ (d k : Nat) (s : GSt), k + d = (gMv G).length → TxC s 3 (jn B L (gMv G) x k).1 → (∀ a, a ≠ 3 → a ≠ 4 → s a = σ a) → L_X1_writeWithoutMove_23 Q i (d + 1) (nI x) 3 (nI (jn B L (gMv G) x k).2) (nI k) s := by
    intro d
    induction d with
    | zero =>
      intro k s hk hT hf
      have ek : k = (gMv G).length := by omega
      have := jn_len (B := B) (L := L) (x := x) hC k
      unfold L_X1_writeWithoutMove_23 D_X1_writeWithoutMove_23
      rw [hf i (by omega) (by omega), h5, h9, hf (i + 1) (by omega) (by omega), hM.1, show nI (gEF G) - 1 = nI (gEF G - 1) from pk_sub (b := 1) e1]
      refine ⟨fun _ => ?_, fun z => absurd (nI_le (by omega) (by omega)) z⟩
      refine addPartC (M := L) (by omega) (by omega) (by omega) (by omega) hT ⟨by rw [hf _ (by omega) (by omega)]; exact hM.1, fun j hj => by rw [hf _ (by omega) (by omega)]; exact hM.2 j hj⟩ l90 (by omega) (Nat.le_refl _) (by omega) (fun s2 x2 f2 => hQ s2 ?_ (fun a p q => by rw [f2 a p q, hf a p q]))
      rw [ek] at x2
      exact x2
    | succ d ih =>
      intro k s hk hT hf
      obtain ⟨e, he⟩ : ∃ e, (gMv G)[k]? = some e := ⟨_, List.getElem?_eq_getElem (by omega)⟩
      obtain ⟨c1, c2, c3, -, -⟩ := Chn_at _ _ _ hC _ e he
      have hmi := hR _ e he
      have lk := jn_len (B := B) (L := L) (x := x) hC k
      have hj := jn_s (B := B) (L := L) (l := gMv G) (x := x) (k := k)
      unfold L_X1_writeWithoutMove_23 D_X1_writeWithoutMove_23
      rw [hf i (by omega) (by omega), h5, nI_clamp (show k < 2 ^ 31 by omega)]
      refine ⟨fun z => absurd z (nI_ge (by omega) (by omega)), fun _ => ⟨fun z y ey => ?_, fun z => ⟨vp_in_nI (by omega) (by decide), ?_⟩⟩⟩
      · rw [if_pos ((nI_eq (by omega) x31).mp z)] at hj
        rw [ey, nI_1, ← hj]
        exact ih (k + 1) s (by omega) (by rw [hj]; exact hT) hf
      · rw [if_neg (fun y => z (by rw [y]))] at hj
        refine writeRule_ok (M := L) (e := e) i53 (by rw [hf _ (by omega) (by omega), show i + 8 + 2 + 2 * k = i + 10 + 2 * k by omega]; exact hmi.1) (by rw [hf _ (by omega) (by omega), show i + 8 + 2 + 2 * k = i + 10 + 2 * k by omega]; exact hmi.2.1) (by omega) rfl (by omega) hT ⟨by rw [hf _ (by omega) (by omega)]; exact hM.1, fun j hj => by rw [hf _ (by omega) (by omega)]; exact hM.2 j hj⟩ l90 c1 c2 (by omega) (by omega) (fun s3 x3 f3 y ey u eu => ?_)
        have h2 : (jn B L (gMv G) x (k + 1)).2 = (jn B L (gMv G) x k).2 + 1 := by rw [hj]
        rw [eu, ey, nI_1, nI_1, ← h2]
        refine ih (k + 1) s3 (by omega) ?_ (fun a p q => by rw [f3 a p q, hf a p q])
        rw [hj, rs_at he]
        exact x3
  exact key (gMv G).length 0 σ (by omega) hT (fun _ _ _ => rfl)
