/-- the reference's text without MOVE x is the class's -/
theorem drop_move_eq {L : List Int32} {G : GM} {x : Nat} {C : List Int32} (hG : GOK G) (hC : Chn (tl L) L.length 59 (gMv G) (gMF G) (gEF G)) (hD : Chn (tl L) L.length 46 (gEn G) (gEF G) L.length) : (jn (C ++ [59]) L (gEn G) 99 (gEn G).length).1 ++ [46] = C ++ seg L (gEF G - 1) L.length := by
  have m1 := hG.2.1.2.1
  have e1 := hG.2.2.1.2.1
  obtain ⟨a, ha⟩ : ∃ e, (gMv G)[(gMv G).length - 1]? = some e := ⟨_, List.getElem?_eq_getElem (by omega)⟩
  obtain ⟨b, hb⟩ : ∃ e, (gEn G)[(gEn G).length - 1]? = some e := ⟨_, List.getElem?_eq_getElem (by omega)⟩
  have la := (Chn_at _ _ _ hC _ a ha).2.2.2.2 (by omega)
  have lb := (Chn_at _ _ _ hD _ b hb).2.2.2.2 (by omega)
  have cb := Chn_at _ _ _ hD _ b hb
  obtain ⟨p1, j1⟩ := jn_all (B := C ++ [59]) hD hG.2.2.1.1 _ b hb
  rw [show (gEn G).length - 1 + 1 = (gEn G).length by omega] at j1
  rw [j1]
  show C ++ [59] ++ seg L (gEF G) b.2.1 ++ [46] = _
  have s1 := seg_s (M := L) (f := gEF G) (b := b.2.1) (by omega)
  rw [lb.2, ← lb.1] at s1
  rw [seg_first (show gEF G - 1 < L.length by omega), show gEF G - 1 + 1 = gEF G by omega, show gEF G - 1 = a.2.1 by omega, la.2, s1, List.append_assoc, List.append_assoc]
  rfl
/-- the reference's head without an END is the class's -/
theorem drop_end_eq {L : List Int32} {G : GM} (hG : GOK G) (hC : Chn (tl L) L.length 59 (gMv G) (gMF G) (gEF G)) : (jn ([] ++ seg L 0 (gMF G)) L (gMv G) 99 (gMv G).length).1 ++ [59] = [] ++ seg L 0 (gEF G) := by
  have m1 := hG.2.1.2.1
  obtain ⟨a, ha⟩ : ∃ e, (gMv G)[(gMv G).length - 1]? = some e := ⟨_, List.getElem?_eq_getElem (by omega)⟩
  have ca := Chn_at _ _ _ hC _ a ha
  have la := ca.2.2.2.2 (by omega)
  obtain ⟨p1, j1⟩ := jn_all (B := [] ++ seg L 0 (gMF G)) hC hG.2.1.1 _ a ha
  rw [show (gMv G).length - 1 + 1 = (gMv G).length by omega] at j1
  rw [j1]
  show [] ++ seg L 0 (gMF G) ++ seg L (gMF G) a.2.1 ++ [59] = _
  have s1 := seg_app (M := L) (f := 0) (b := gMF G) (by omega) (a.2.1 - gMF G)
  rw [show gMF G + (a.2.1 - gMF G) = a.2.1 by omega] at s1
  have s2 := seg_s (M := L) (f := 0) (b := a.2.1) (by omega)
  rw [la.2, ← la.1] at s2
  rw [s2, s1, List.nil_append, List.nil_append]
