/-- the array of rows of 'new int[7][256]' that lies at h0, when i rows hang in it -/
abbrev mnO (cA : ClassId) (h0 i : Nat) : Cell := arrV cA 7 (fun j => va_rf (if j < i then some (h0 + 1 + j) else none))
/-- one row of it -/
abbrev mnI (cI : ClassId) : Cell := arrV cI 256 (fun _ => .int 0)
/-- the heap K when i rows stand: all that stood before in H, the array of rows at h0, its first i rows behind it -/
def mnRow (cA cI : ClassId) (h0 : Nat) (H : Heap) (i : Nat) (K : Heap) : Prop :=
  K.size = h0 + 1 + i ∧ (∀ x : Nat, x < h0 → K[x]? = H[x]?) ∧ K[h0]? = some (mnO cA h0 i) ∧ ∀ j : Nat, j < i → K[h0 + 1 + j]? = some (mnI cI)
/-- the state when i rows stand -/
def mnS (cA cI : ClassId) (S : State) : Nat → State
  | 0 => S.pushCell (mnO cA S.heap.size 0)
  | i + 1 => ((mnS cA cI S i).pushCell (mnI cI)).setCell S.heap.size (mnO cA S.heap.size (i + 1))
theorem mnO_first (cA : ClassId) (h0 : Nat) : arrV cA 7 (fun _ => .null) = mnO cA h0 0 :=
  congrArg (arrV cA 7) (funext fun j => by rw [if_neg (Nat.not_lt_zero j)]; rfl)
theorem mnO_next (cA : ClassId) (h0 i : Nat) : (mnO cA h0 i).setSlot i (.ref (h0 + 1 + i)) = mnO cA h0 (i + 1) := by
  refine (arrV_store cA 7 i _ _).trans (congrArg (arrV cA 7) (funext fun j => ?_))
  show (if j = i then Value.ref (h0 + 1 + i) else va_rf (if j < i then some (h0 + 1 + j) else none)) = va_rf (if j < i + 1 then some (h0 + 1 + j) else none)
  rcases Nat.lt_trichotomy j i with h | h | h
  · rw [if_neg (Nat.ne_of_lt h), if_pos h, if_pos (Nat.lt_succ_of_lt h)]
  · subst h
    rw [if_pos rfl, if_pos (Nat.lt_succ_self j)]
    rfl
  · rw [if_neg (Nat.ne_of_gt h), if_neg (show ¬ j < i by omega), if_neg (show ¬ j < i + 1 by omega)]
theorem mnS_row (cA cI : ClassId) (S : State) : ∀ i : Nat, mnRow cA cI S.heap.size S.heap i (mnS cA cI S i).heap ∧ (mnS cA cI S i).vm = S.vm ∧ (mnS cA cI S i).slotsUsed = S.slotsUsed + 7 + 256 * i
  | 0 => by
    refine ⟨⟨Array.size_push _, fun x hx => State.heap_pushCell_of_lt _ _ hx, State.heap_pushCell_size _ _, fun j h => absurd h (Nat.not_lt_zero j)⟩, rfl, ?_⟩
    show S.slotsUsed + (mnO cA S.heap.size 0).slots.size = _
    rw [arrV_size]
  | i + 1 => by
    obtain ⟨⟨f1, f2, f3, f4⟩, f5, f6⟩ := mnS_row cA cI S i
    refine ⟨⟨?_, fun x hx => ?_, State.heap_setCell_self (c := mnO cA S.heap.size i) ?_, fun j hj => ?_⟩, f5, ?_⟩
    · show (((mnS cA cI S i).heap.push (mnI cI)).setIfInBounds _ _).size = _
      rw [Array.size_setIfInBounds, Array.size_push, f1]
      omega
    · show (((mnS cA cI S i).pushCell (mnI cI)).setCell S.heap.size _).heap[x]? = _
      rw [State.heap_setCell_other (Nat.ne_of_gt hx), State.heap_pushCell_of_lt (mnS cA cI S i) _ (show x < (mnS cA cI S i).heap.size by rw [f1]; omega)]
      exact f2 x hx
    · rw [State.heap_pushCell_of_lt (mnS cA cI S i) _ (show S.heap.size < (mnS cA cI S i).heap.size by rw [f1]; omega)]
      exact f3
    · show (((mnS cA cI S i).pushCell (mnI cI)).setCell S.heap.size _).heap[S.heap.size + 1 + j]? = _
      rw [State.heap_setCell_other (show S.heap.size ≠ S.heap.size + 1 + j by omega)]
      by_cases h : j = i
      · subst h
        rw [← f1]
        exact State.heap_pushCell_size _ _
      · rw [State.heap_pushCell_of_lt (mnS cA cI S i) _ (show S.heap.size + 1 + j < (mnS cA cI S i).heap.size by rw [f1]; omega)]
        exact f4 j (by omega)
    · show (mnS cA cI S i).slotsUsed + (mnI cI).slots.size = _
      rw [f6, arrV_size]
      omega
theorem mnS_top (cA cI : ClassId) (S : State) (f : JFrame) : ∀ i : Nat, mnS cA cI (S.setTop f) i = (mnS cA cI S i).setTop f
  | 0 => rfl
  | i + 1 => by
    show ((mnS cA cI (S.setTop f) i).pushCell (mnI cI)).setCell S.heap.size (mnO cA S.heap.size (i + 1)) = _
    rw [mnS_top cA cI S f i]
    rfl
section MNW
variable {E : CtlPost} {e : Env} {d : Bool} {acts : List Action} {S : State}
theorem mn_new {ca cm : ClassId} {k : Class} {ty : FieldType} {n : Nat} {v : Value} {Q : Addr → Pre} (hk : S.vm.classes[ca]? = some k) (hkk : k.kind = .array cm ty) (hf : fits ty v = true) (n1 : ¬ n > e.platform.arrayLengthLimit) (n2 : ¬ n * componentBytes ty > e.platform.maxHeapBytes) (r1 : S.heap.size < e.platform.maxCells) (r2 : S.slotsUsed + n ≤ e.platform.maxSlots) (hq : ∀ acts' : List Action, Q S.heap.size d acts' (S.pushCell (arrV ca n (fun _ => v)))) : wp (Jvm.newArray ca n v) Q E e d acts S := by
  have n3 : ¬ n > e.platform.maxSlots := by omega
  have hs : ∀ i w, (Array.replicate n v)[i]? = some w → S.fitsSlot ca .none i w = true := fun i w hw => by
    rw [Array.getElem?_replicate] at hw
    split at hw
    · rw [← Option.some.inj hw]
      unfold State.fitsSlot State.slotType?
      simp only [hk, hkk, Option.bind_eq_bind, Option.bind_some]
      exact hf
    · cases hw
  rw [← arrV_new] at hq
  unfold Jvm.newArray Jvm.arrayFits
  simp only [wp_bind', Jvm.W.ask, Jvm.W.ite, n1, n2, n3, if_false, wp_pure', Jvm.W.theClass, hk, hkk, Option.some.injEq, exists_eq_left', Jvm.W.alloc, Array.size_replicate]
  exact ⟨r1, r2, hs, hq _⟩
theorem mn_row {cI cc : ClassId} {k : Class} {Q : Addr → Pre} (hk : S.vm.classes[cI]? = some k) (hkk : k.kind = .array cc .int) (n1 : ¬ 256 > e.platform.arrayLengthLimit) (n2 : ¬ 256 * componentBytes .int > e.platform.maxHeapBytes) (r1 : S.heap.size < e.platform.maxCells) (r2 : S.slotsUsed + 256 ≤ e.platform.maxSlots) (hq : ∀ acts' : List Action, Q S.heap.size d acts' (S.pushCell (mnI cI))) : wp (Jvm.Op.multianewarray.make cI [256]) Q E e d acts S := by
  have p0 : ¬ (256 : Int32) < 0 := by decide
  have e0 : (256 : Int32).toNatClampNeg = 256 := by decide
  rw [Jvm.Op.multianewarray.make]
  simp only [wp_bind', Jvm.W.ite, p0, if_false, wp_pure', Jvm.W.theClass, hk, hkk, Option.some.injEq, exists_eq_left', e0]
  exact mn_new hk hkk rfl n1 n2 r1 r2 hq
theorem mn_make {cA cI cc : ClassId} {kA kI : Class} {Q : Addr → Pre} (hkA : S.vm.classes[cA]? = some kA) (hkkA : kA.kind = .array cI (.array .int)) (hkI : S.vm.classes[cI]? = some kI) (hkkI : kI.kind = .array cc .int) (a1 : e.platform.arrayLengthLimit = 2147483645) (a2 : e.platform.maxHeapBytes = 536870912) (r1 : S.heap.size + 8 ≤ e.platform.maxCells) (r2 : S.slotsUsed + 1799 ≤ e.platform.maxSlots) (hq : ∀ (d' : Bool) (acts' : List Action), Q S.heap.size d' acts' (mnS cA cI S 7)) : wp (Jvm.Op.multianewarray.make cA [7, 256]) Q E e d acts S := by
  have p0 : ¬ (7 : Int32) < 0 := by decide
  have e0 : (7 : Int32).toNatClampNeg = 7 := by decide
  have z0 : ((7 : Int32) == 0) = false := by decide
  rw [Jvm.Op.multianewarray.make]
  simp only [wp_bind', Jvm.W.ite, p0, if_false, wp_pure', Jvm.W.theClass, hkA, hkkA, Option.some.injEq, exists_eq_left', e0, z0, Bool.false_eq_true]
  refine mn_new hkA hkkA rfl (by omega) (by rw [a2]; decide) (by omega) (by omega) (fun acts' => ?_)
  rw [mnO_first cA S.heap.size, wp_bind', Std.Legacy.Range.forIn_eq_forIn_range']
  show wp (forIn (List.range' 0 7 1) PUnit.unit _) _ E e d acts' (mnS cA cI S 0)
  refine wp_forIn_inv (fun t S' => ∃ i : Nat, i + t.length = 7 ∧ t = List.range' i t.length ∧ S' = mnS cA cI S i) _ _ ⟨0, rfl, rfl, rfl⟩ ?_ ?_
  · rintro x t S' d' acts2 Q' ⟨i, h7, hl, rfl⟩ next
    rw [List.length_cons] at h7 hl
    rw [List.range'_succ] at hl
    obtain ⟨hx, hl⟩ := List.cons.inj hl
    subst hx
    obtain ⟨⟨f1, f2, f3, f4⟩, f5, f6⟩ := mnS_row cA cI S x
    simp only [wp_bind']
    refine mn_row (by rw [f5]; exact hkI) hkkI (by omega) (by rw [a2]; decide) (by rw [f1]; omega) (by rw [f6]; omega) (fun acts3 => ?_)
    simp only [wp_bind', Jvm.W.writeLoc, wp_pure']
    refine ⟨mnO cA S.heap.size x, by rw [State.heap_pushCell_of_lt (mnS cA cI S x) _ (show S.heap.size < (mnS cA cI S x).heap.size by rw [f1]; omega)]; exact f3, (fun q => by cases q), by rw [arrV_size]; omega, ?_, next _ _ _ ⟨x + 1, by omega, hl, ?_⟩⟩
    · show State.fitsSlot _ cA .none x _ = true
      unfold State.fitsSlot State.slotType?
      simp only [State.vm_pushCell, f5, hkA, hkkA, Option.bind_eq_bind, Option.bind_some]
      rfl
    · rw [f1, mnO_next]
      rfl
  · rintro S' d' acts2 ⟨i, h7, -, rfl⟩
    obtain rfl : i = 7 := h7
    simp only [wp_pure']
    exact hq _ _
end MNW
theorem mn_over {args : Array Value} {s : State} (h : (Cond.arrayOver (.array .int)).before args s = true) : ∃ (cI cA : ClassId) (k : Class), s.vm.findClass (FieldType.array .int).toString = some cI ∧ s.vm.findClass ("[" ++ (FieldType.array .int).toString) = some cA ∧ s.vm.classes[cA]? = some k ∧ k.kind = .array cI (.array .int) := by
  simp only [Cond.before, Cond.holds, Cond.value, beq_iff_eq] at h
  obtain ⟨cI, hI, h⟩ := Option.bind_eq_some_iff.mp h
  obtain ⟨cA, hA, h⟩ := Option.bind_eq_some_iff.mp h
  obtain ⟨k, hk, h⟩ := Option.map_eq_some_iff.mp h
  obtain ⟨hlt, hp, -⟩ := Array.findIdx?_eq_some_iff_getElem.mp hA
  rw [(Array.getElem?_eq_some_iff.mp hk).2] at hp
  cases hkk : k.kind with
  | array c2 t2 =>
    rw [hkk] at h hp
    have hp : (c2 == cI) = true := hp
    have h := (Bool.and_eq_true _ _).mp h
    exact ⟨cI, cA, k, hI, of_decide_eq_true h.2, hk, by rw [hkk, eq_of_beq hp, of_decide_eq_true h.1]⟩
  | _ => rw [hkk] at h; cases h
section GML
variable {p : Program} {l : Launch} {e : Env} {R : Room} {s T : State} {m : MethodId} {args : Array Value} {below : List Frame} {meth : Method} {c : Code} {locs : List Loc} {cells slots : Nat} {rest : List Value} {own : String} {idx : Nat} {g : JFrame}
theorem mnS_stand (X : Stand p l e R s m args below meth c T locs cells slots) (cA cI : ClassId) : ∀ i : Nat, Stand p l e R s m args below meth c (mnS cA cI T i) locs (cells + 1 + i) (slots + 7 + 256 * i)
  | 0 => by
    have h := X.pushed (mnO cA T.heap.size 0)
    rw [arrV_size] at h
    exact h
  | i + 1 => by
    obtain ⟨⟨f1, f2, f3, f4⟩, f5, f6⟩ := mnS_row cA cI T i
    have h := (((mnS_stand X cA cI i).pushed (mnI cI)).stored (a := T.heap.size) (cell := mnO cA T.heap.size i) (by rw [State.heap_pushCell_of_lt (mnS cA cI T i) _ (show T.heap.size < (mnS cA cI T i).heap.size by rw [f1]; omega)]; exact f3) i (.ref (T.heap.size + 1 + i))).dropFresh (fun x hx => by rw [List.mem_singleton.mp hx]; exact X.heapGrown)
    rw [mnO_next, arrV_size] at h
    rw [show slots + 7 + 256 * (i + 1) = slots + 7 + 256 * i + 256 by omega]
    exact h
theorem mn_law (X : Stand p l e R s m args below meth c T locs cells slots) (hexec : p.tables.exec = Jvm.exec) (hown : s.vm.findClass own = some m.cls) (h1 : (Cond.classLink own idx ("[" ++ (FieldType.array .int).toString)).before args s = true) (h2 : (Cond.arrayOver (.array .int)).before args s = true) (h3 : (Cond.arrayClass .int).before args s = true) (hg : g.method = m) (hdg : decode c.code g.pc = .ok (.multianewarray idx 2, 4)) (hst : g.stack = .int 256 :: .int 7 :: rest) (hc : cells + 8 ≤ R.cells) (hs : slots + 1799 ≤ R.slots) :
    ∃ (cA cI : ClassId) (F : State), s.vm.findClass ("[" ++ (FieldType.array .int).toString) = some cA ∧ s.vm.findClass (FieldType.array .int).toString = some cI ∧ (∃ (k : Class) (cm : ClassId), s.vm.classes[cA]? = some k ∧ k.kind = .array cm (.array .int)) ∧ mnRow cA cI T.heap.size T.heap 7 F.heap ∧
      Stand p l e R s m args below meth c F locs (cells + 8) (slots + 1799) ∧
      ∀ target, Steps p.tables e below (F.setTop { g with pc := g.pc + 4, stack := .ref T.heap.size :: rest }) target → Steps p.tables e below (T.setTop g) target := by
  subst hg
  obtain ⟨cI, cA, kA, hfI, hfA, hkA, hkkA⟩ := mn_over h2
  obtain ⟨c1, kI, cc, hf1, hkI, hkkI⟩ := Cond.arrayClass_spec h3
  obtain rfl : c1 = cI := Option.some.inj (hf1.symm.trans hfI)
  obtain ⟨c0, hf0, hcl⟩ := Cond.classLink_spec hown h1 e.platform (by rw [X.admits.platform])
  obtain rfl : c0 = cA := Option.some.inj (hf0.symm.trans hfA)
  obtain ⟨hgv, hW, -⟩ := State.classEntry (e := e) X.warmed hcl
  generalize T.vm.noted g.method.cls idx (.cls c0) = vm1 at hgv hW
  obtain ⟨kA2, hkA2, eA⟩ := hW.alike.2.2 _ _ hkA
  obtain ⟨kI2, hkI2, eI⟩ := hW.alike.2.2 _ _ hkI
  have X1 := X.noted hW
  obtain ⟨r1, r2⟩ := X.roomAbove hc hs
  have XF : Stand p l e R s g.method args below meth c (mnS c0 c1 (T.setVm vm1) 7) locs (cells + 8) (slots + 1799) := by
    have h := mnS_stand X1 c0 c1 7
    rw [show cells + 1 + 7 = cells + 8 by omega, show slots + 7 + 256 * 7 = slots + 1799 by omega] at h
    exact h
  refine ⟨c0, c1, mnS c0 c1 (T.setVm vm1) 7, hfA, hfI, ⟨kA, c1, hkA, hkkA⟩, (mnS_row c0 c1 (T.setVm vm1) 7).1, XF, fun target go => ?_⟩
  jvm_step X.here [hexec, hdg]
  unfold Jvm.Op.multianewarray.sem
  simp only [wp_bind', Jvm.W.resolveClassAt_links (State.method?_setTop g X.here.top) hgv]
  rw [Jvm.W.popN, if_neg (by decide)]
  refine ⟨g, State.topJava?_setTop' (s := T.setVm vm1) g X.here.top, [.int 7, .int 256], rest, rfl, hst, ?_⟩
  simp only [List.mapM_cons, List.mapM_nil, wp_bind', wp_pure']
  refine mn_make (kA := kA2) (kI := kI2) (cI := c1) (cc := cc) hkA2 (by rw [eA]; exact hkkA) hkI2 (by rw [eI]; exact hkkI) (Launch.admits_arrayLengthLimit X.admits) (Launch.admits_maxHeapBytes X.admits) r1 r2 (fun d' acts' => ?_)
  have eS : ((T.setTop g).setVm vm1).setTop { g with stack := rest } = (T.setVm vm1).setTop { g with stack := rest } := by
    show ((T.setVm vm1).setTop g).setTop { g with stack := rest } = _
    exact State.setTop_setTop _ _ _
  rw [eS, mnS_top]
  simp only [wp_bind', Jvm.W.mark, Jvm.W.pushRef, State.topJava?_setTop' _ XF.here.top, Option.some.injEq, exists_eq_left', State.setTop_setTop, State.heap_setTop]
  intro acts2
  simp [jvm, XF.here.top]
  exact go
end GML
def mnaF (cy : Nat → ClassId) (bs N : Nat) (cf : Nat → va_E) : Nat → va_E := fun i => if i < N then cf i else if i = N then .inl (cy 16, 7, .inr (.inr (.inr (.inr (fun j => if j < 7 then some (bs + (N + 1 + j)) else none))))) else .inl (cy 12, 256, .inl (fun _ => 0))
section GMN
variable {p : Program} {l : Launch} {e : Env} {R : Room} {s : State} {m : MethodId} {args : Array Value} {below : List Frame} {meth : Method} {c : Code} {H : Heap} {locs : List Loc} {cells slots : Nat} {Q : State → Prop} {cc : ByteArray} {pc nL : Nat} {ls : Array Slot} {rest : List Value} {own : String} {idx : Nat} {D : va_G} {cy : Nat → ClassId} {bs N : Nat} {tys : List (ClassId × FieldType)} {cf : Nat → va_E}
theorem k_mna (X : CallFix p m c cc nL s args lw_us own) (hw : CW D cy bs N tys cf s H locs cells) (hao : va_Nw (.arrayOver (.array .int)) s) (h1 : Cond.classLink own idx "[[I" ∈ lw_us) (h2 : Cond.arrayClass .int ∈ lw_us) (hc : cells + 8 ≤ R.cells) (hs : slots + 1799 ≤ R.slots) (hdg : decode cc pc = .ok (.multianewarray idx 2, 4)) (kk : ∀ H1 : Heap, CW D cy bs (N + 8) (tys ++ [(cy 16, .array .int)]) (mnaF cy bs N cf) s H1 locs (cells + 8) → W p l e R s m args below meth c H1 locs (cells + 8) (slots + 1799) Q (F0 m (pc + 4) ls (.ref (bs + N) :: rest))) : W p l e R s m args below meth c H locs cells slots Q (F0 m pc ls (.int 256 :: .int 7 :: rest)) := by
  refine W_size fun hz => ?_
  have hsz := hw.size hz
  intro T hT Xs
  obtain ⟨cA, cI, F, fA, fC, ⟨k9, cm9, hk9, hkk9⟩, ⟨f1, hold, f2, hrow⟩, X2, step⟩ := mn_law Xs X.1 (own := own) (idx := idx) X.2.2.2.1 (X.2.2.2.2 _ h1) hao (X.2.2.2.2 _ h2) (g := F0 m pc ls (.int 256 :: .int 7 :: rest)) rfl (by rw [X.2.1]; exact hdg) (rest := rest) rfl hc hs
  have ecA := hw.2.2.2.2.1.2.2.2.2 cA fA
  have ecC := hw.2.2.2.2.1.1 cI fC
  subst ecA
  subst ecC
  rw [hT] at f1 hold f2 hrow
  have hrow : ∀ j : Nat, j < 7 → F.heap[H.size + 1 + j]? = some (vp_cell (cy 12) (256, .inl (fun _ => 0))) := fun j hj => by rw [hrow j hj, vp_cell_i]
  have f2 : F.heap[H.size]? = some (vp_cell (cy 16) (7, .inr (.inr (.inr (.inr (fun i => if i < 7 then some (H.size + 1 + i) else none)))))) := by rw [f2, vp_cell_q]
  have hS := hw.2.2.2.1
  have hP : va_P D clW (wsC bs (mnaF cy bs N cf) (N + 8)) F.heap := by
    intro k q hk
    obtain ⟨h3, rfl⟩ := wsC_inv hk
    rcases Nat.lt_or_ge k N with h4 | h4
    · have := (hw.2.2.1 k _ (wsC_get h4 rfl)).kept (H1 := F.heap) (hold _ (by rw [hsz]; show bs + k < bs + N; omega))
      rw [show mnaF cy bs N cf k = cf k from if_pos h4]
      exact this
    · rcases Nat.eq_or_lt_of_le h4 with h5 | h5
      · subst h5
        rw [show mnaF cy bs N cf N = .inl (cy 16, 7, .inr (.inr (.inr (.inr (fun j => if j < 7 then some (bs + (N + 1 + j)) else none))))) by simp [mnaF]]
        show F.heap[bs + N]? = _
        rw [← hsz, f2, hsz]
        simp only [Nat.add_assoc]
      · rw [show mnaF cy bs N cf k = .inl (cy 12, 256, .inl (fun _ => 0)) by simp [mnaF, show ¬ k < N by omega, show ¬ k = N by omega]]
        show F.heap[bs + k]? = _
        have := hrow (k - N - 1) (by omega)
        rw [show H.size + 1 + (k - N - 1) = bs + k by omega] at this
        exact this
  have hAr : ArrOfT s (cy 16) (.array .int) := fun N9 z9 => by
    exact ⟨(fun q hq => by cases hq), k9, hk9, cm9, hkk9⟩
  have hK : va_K D clW (tys ++ [(cy 16, .array .int)]) s := ⟨hw.1.1, fun j x hx => by
    by_cases hl : j < tys.length
    · rw [List.getElem?_append_left hl] at hx
      exact hw.1.2 j x hx
    · rw [List.getElem?_append_right (by omega)] at hx
      have hz : j - tys.length < 1 := (List.getElem?_eq_some_iff.mp hx).1
      rw [show j - tys.length = 0 by omega] at hx
      cases hx
      exact ⟨hAr, fA⟩⟩
  obtain ⟨t, a1, b1⟩ := kk F.heap ⟨hK, by have := hw.2.1; omega, hP, ⟨by rw [f1]; have := hS.1; omega, fun x h3 h4 => (hold x (Nat.lt_of_lt_of_le h3 hS.1)).trans (hS.2.1 x h3 h4), hS.2.2⟩, hw.2.2.2.2⟩ F rfl X2
  refine ⟨t, step t ?_, b1⟩
  rw [hT, hsz]
  exact a1
end GMN

set_option maxRecDepth 100000 in
set_option maxHeartbeats 4000000 in
theorem kc_X3_init_29 (l : Launch) (D : va_G) (cy : Nat → ClassId) (bs tD tR : Nat) (cf : Nat → va_E) (hc_29 : cf 29 = .inr (3, [.null, .int 0, .null])) : MC l ym_X3_init cm_X3_init 1 { frames := 1, cells := 9, slots := 1806, locals := 20 } D cy bs 30 cf [.ref (bs + 29)] 39 [(cy 12, .int), (cy 16, .array .int)] (Pd D cy bs tD tR cf 29 39) 9 1806 := by
  refine met_c (by decide) (by decide) (Nat.le_of_ble_eq_true rfl) ?_
  intro p e s m args below meth c X hr hlk hin hw ls hl
  have hl : lv_has ls 1 [(0, .ref (bs + 29))] := hl
  have hlow : ∀ i, i < 29 → cf i = cf i := fun _ _ => rfl
  have hdone : ∀ i, 29 < i → i < 30 → cf i = ce (GB D bs cy tD tR) (s0 i) i := fun i h1 h2 => by omega
  refine lv_aload_n X.1 X.2.1 d_X3_init_0 rfl (lv_at hl 0 rfl) ?_
  refine W.objInit X.1 X.2.1 X.2.2.2.1 (X.2.2.2.2 _ tb_210) (X.2.2.2.2 _ tb_22) (X.2.2.2.2 _ tb_23) rfl (by rw [X.2.2.1]; exact hl.1) rfl d_X3_init_1 (Nat.le_of_ble_eq_true rfl) (Nat.le_of_ble_eq_true rfl) ?_
  refine W.eq (g2 := F0 m 4 ls []) rfl ?_
  refine lv_aload_n X.1 X.2.1 d_X3_init_4 rfl (lv_at hl 0 rfl) ?_
  refine lv_bipush (v := 7) X.1 X.2.1 d_X3_init_5 (by decide) ?_
  refine k_newI (N' := 7) X hw (by decide) (by decide) (by decide) (Nat.le_of_ble_eq_true rfl) (Nat.le_of_ble_eq_true rfl) d_X3_init_7 (fun H hw => ?_)
  have hw : CW D cy bs 31 ([] ++ [(cy 12, .int)]) _ s H _ 1 := hw
  obtain ⟨cf_1, e_cf_1⟩ : ∃ z : Nat → va_E, z = va_up cf 30 (.inl (cy 12, 7, .inl (fun _ => 0))) := ⟨_, rfl⟩
  rw [← e_cf_1] at hw
  have hlow : ∀ i, i < 29 → cf_1 i = cf i := fun i h => by rw [e_cf_1]; exact (vu_ne (by omega)).trans (hlow i h)
  have hc_29 : cf_1 29 = .inr (3, [.null, .int 0, .null]) := by rw [e_cf_1]; exact (vu_ne (by decide)).trans hc_29
  have hc_30 : cf_1 30 = .inl (cy 12, 7, .inl (fun _ => 0)) := by rw [e_cf_1]; exact vu_at
  have hdone : ∀ i, 29 < i → i < 31 → i ≠ 30 → cf_1 i = ce (GB D bs cy tD tR) (s0 i) i := fun i h1 h2 p_30 => by rw [e_cf_1]; exact (vu_ne (by omega)).trans (hdone i h1 (by omega) )
  have hdone : ∀ i, 29 < i → i < 31 → cf_1 i = ce (GB D bs cy tD tR) (s0 i) i := fun i h1 h2  => by
    by_cases p_30 : i = 30
    · subst p_30; exact hc_30.trans rfl
    · exact hdone i h1 h2 p_30
  have hw : CW D cy bs 31 [(cy 12, .int)] cf_1 s H _ 1 := k_tys [0] hw rfl
  refine W.eq (g2 := F0 m 9 ls [.ref (bs + 30), .ref (bs + 29)]) rfl ?_
  refine k_putF (ci := 3) (n := 3) (k := 0) (v := .ref (bs + 30)) (ty := .array (.int)) nty3 X hw (by decide) hc_29 ni3 nk3 nn3 rfl (by decide) tb_213 rfl rfl hin rfl (by decide +kernel) rfl rfl (Nat.le_of_ble_eq_true rfl) d_X3_init_9 (fun H locs hw => ?_)
  have hw : CW D cy bs 31 [(cy 12, .int)] (va_up cf_1 29 (.inr (3, [.ref (bs + 30), .int 0, .null]))) s H _ 1 := hw
  obtain ⟨cf_2, e_cf_2⟩ : ∃ z : Nat → va_E, z = va_up cf_1 29 (.inr (3, [.ref (bs + 30), .int 0, .null])) := ⟨_, rfl⟩
  rw [← e_cf_2] at hw
  have hlow : ∀ i, i < 29 → cf_2 i = cf i := fun i h => by rw [e_cf_2]; exact (vu_ne (by omega)).trans (hlow i h)
  have hc_29 : cf_2 29 = .inr (3, [.ref (bs + 30), .int 0, .null]) := by rw [e_cf_2]; exact vu_at
  have hdone : ∀ i, 29 < i → i < 31 → cf_2 i = ce (GB D bs cy tD tR) (s0 i) i := fun i h1 h2  => by rw [e_cf_2]; exact (vu_ne (by omega)).trans (hdone i h1 h2 )
  refine lv_aload_n X.1 X.2.1 d_X3_init_12 rfl (lv_at hl 0 rfl) ?_
  refine lv_bipush (v := 7) X.1 X.2.1 d_X3_init_13 (by decide) ?_
  refine lv_sipush (v := 256) X.1 X.2.1 d_X3_init_15 (by decide) ?_
  refine k_mna X hw hw.2.2.2.2.2.1.2.2.2.2.2.2.2.2.2.2.2.2 tb_211 tb_41 (Nat.le_of_ble_eq_true rfl) (Nat.le_of_ble_eq_true rfl) d_X3_init_18 (fun H hw => ?_)
  obtain ⟨cf_3, e_cf_3⟩ : ∃ z : Nat → va_E, z = mnaF cy bs 31 cf_2 := ⟨_, rfl⟩
  rw [← e_cf_3] at hw
  have hc_29 : cf_3 29 = .inr (3, [.ref (bs + 30), .int 0, .null]) := by rw [e_cf_3]; exact (if_pos (by decide)).trans hc_29
  have hlow : ∀ i, i < 29 → cf_3 i = cf i := fun i h => by rw [e_cf_3]; exact (if_pos (by omega)).trans (hlow i h)
  have hdone : ∀ i, 29 < i → i < 39 → cf_3 i = ce (GB D bs cy tD tR) (s0 i) i := fun i h1 h2  => by
    rcases Nat.lt_or_ge i 31 with h3 | h3
    · rw [e_cf_3]; exact (if_pos h3).trans (hdone i h1 h3 )
    · rw [e_cf_3]; rcases (show i = 31 ∨ i = 32 ∨ i = 33 ∨ i = 34 ∨ i = 35 ∨ i = 36 ∨ i = 37 ∨ i = 38 by omega) with rfl | rfl | rfl | rfl | rfl | rfl | rfl | rfl <;> rfl
  have hw : CW D cy bs 39 ([(cy 12, .int)] ++ [(cy 16, .array .int)]) cf_3 s H _ 9 := hw
  have hw : CW D cy bs 39 [(cy 12, .int), (cy 16, .array .int)] cf_3 s H _ 9 := k_tys [0, 1] hw rfl
  refine W.eq (g2 := F0 m 22 ls [.ref (bs + 31), .ref (bs + 29)]) rfl ?_
  refine k_putF (ci := 3) (n := 3) (k := 2) (v := .ref (bs + 31)) (ty := .array (.array (.int))) nty3 X hw (by decide) hc_29 ni3 nk3 nn3 rfl (by decide) tb_217 rfl rfl hin rfl (by decide +kernel) rfl rfl (Nat.le_of_ble_eq_true rfl) d_X3_init_22 (fun H locs hw => ?_)
  have hw : CW D cy bs 39 [(cy 12, .int), (cy 16, .array .int)] (va_up cf_3 29 (.inr (3, [.ref (bs + 30), .int 0, .ref (bs + 31)]))) s H _ 9 := hw
  obtain ⟨cf_4, e_cf_4⟩ : ∃ z : Nat → va_E, z = va_up cf_3 29 (.inr (3, [.ref (bs + 30), .int 0, .ref (bs + 31)])) := ⟨_, rfl⟩
  rw [← e_cf_4] at hw
  have hlow : ∀ i, i < 29 → cf_4 i = cf i := fun i h => by rw [e_cf_4]; exact (vu_ne (by omega)).trans (hlow i h)
  have hc_29 : cf_4 29 = .inr (3, [.ref (bs + 30), .int 0, .ref (bs + 31)]) := by rw [e_cf_4]; exact vu_at
  have hdone : ∀ i, 29 < i → i < 39 → cf_4 i = ce (GB D bs cy tD tR) (s0 i) i := fun i h1 h2  => by rw [e_cf_4]; exact (vu_ne (by omega)).trans (hdone i h1 h2 )
  refine k_vret X hr hlk hw ⟨hlow, fun i h1 h2 => ?_⟩ d_X3_init_25
  rcases Nat.eq_or_lt_of_le h1 with h3 | h3
  · subst h3; exact hc_29.trans rfl
  exact hdone i h3 h2 
