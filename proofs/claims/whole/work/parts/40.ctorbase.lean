def wsC (bs : Nat) (cf : Nat → va_E) (N : Nat) : va_W := (List.range N).map (fun i => (bs + i, cf i))
theorem wsC_get {bs N i : Nat} {cf : Nat → va_E} {x : va_E} (h : i < N) (hx : cf i = x) : (wsC bs cf N)[i]? = some (bs + i, x) := by
  subst hx
  simp [wsC, h]
theorem wsC_inv {bs N k : Nat} {cf : Nat → va_E} {q : Nat × va_E} (h : (wsC bs cf N)[k]? = some q) : k < N ∧ q = (bs + k, cf k) := by
  have hk : k < N := by
    have := (List.getElem?_eq_some_iff.mp h).1
    simpa [wsC] using this
  rw [wsC_get hk rfl] at h
  exact ⟨hk, (Option.some.inj h).symm⟩
theorem wsC_set {bs N i : Nat} {cf : Nat → va_E} {x : va_E} : (wsC bs cf N).set i (bs + i, x) = wsC bs (va_up cf i x) N := by
  apply List.ext_getElem?
  intro n
  rw [List.getElem?_set]
  by_cases h : i = n
  · subst h
    by_cases hl : i < N
    · simp [wsC, hl, va_up]
    · simp [wsC, hl]
  · by_cases hl : n < N
    · simp [wsC, h, hl, va_up, Ne.symm h]
    · simp [wsC, h, hl]
theorem wsC_D {bs N : Nat} {cf : Nat → va_E} : va_D (fun q => bs ≤ q) (wsC bs cf N) := by
  refine ⟨fun i j p q hi hj e => ?_, fun k q h => ?_⟩
  · rw [(wsC_inv hi).2, (wsC_inv hj).2] at e
    simp at e
    exact e
  · rw [(wsC_inv h).2]
    exact Nat.le_add_right _ _
theorem cP_push {D : va_G} {bs N : Nat} {cf : Nat → va_E} {x : va_E} {H H1 : Heap} (hP : va_P D clW (wsC bs cf N) H) (ho : ∀ q, q < bs + N → H1[q]? = H[q]?) (hx : va_at D clW (bs + N, x) H1) : va_P D clW (wsC bs (va_up cf N x) (N + 1)) H1 := by
  intro k q hk
  obtain ⟨h1, rfl⟩ := wsC_inv hk
  by_cases e : k = N
  · subst e
    simpa [va_up] using hx
  · have h2 : k < N := by omega
    have := (hP k _ (wsC_get h2 rfl)).kept (H1 := H1) (ho _ (by show bs + k < bs + N; omega))
    simpa [va_up, e] using this
theorem aoa_moved {u U : State} (hvm : u.vm.Alike U.vm) (h : va_Nw (.arrayOver (.array .int)) u) : va_Nw (.arrayOver (.array .int)) U := by
  have e := Jvm.Cond.arrayOver_setVmC (args := #[]) (s := u) hvm (.array .int)
  exact e.trans h
def CyK (cy : Nat → ClassId) (U : State) : Prop := (∀ c, U.vm.findClass ("[" ++ FieldType.int.toString) = some c → c = cy 12) ∧ (∀ c, U.vm.findClass ("[" ++ FieldType.boolean.toString) = some c → c = cy 13) ∧ (∀ c, U.vm.findClass ("[" ++ (FieldType.object "GameLoom$Game").toString) = some c → c = cy 14) ∧ (∀ c, U.vm.findClass ("[" ++ (FieldType.object "GameLoom$Rule").toString) = some c → c = cy 15) ∧ (∀ c, U.vm.findClass ("[" ++ (FieldType.array .int).toString) = some c → c = cy 16)
theorem CyK.moved {cy : Nat → ClassId} {u U : State} (hvm : u.vm.Alike U.vm) (h : CyK cy u) : CyK cy U := by
  unfold CyK
  simp only [hvm.findClass]
  exact h
def NsC (U : State) : Prop := va_Nw (Jvm.Cond.methodLinkNest "GameLoom" (9 : Nat) ({ cls := "GameLoom$Text", name := "<init>", desc := "()V" } : Jvm.MethodName) "GameLoom") U ∧ va_Nw (Jvm.Cond.methodLinkNest "GameLoom" (21 : Nat) ({ cls := "GameLoom$Reader", name := "<init>", desc := "()V" } : Jvm.MethodName) "GameLoom") U ∧ va_Nw (Jvm.Cond.methodLinkNest "GameLoom$Game" (11 : Nat) ({ cls := "GameLoom$Text", name := "<init>", desc := "()V" } : Jvm.MethodName) "GameLoom") U ∧ va_Nw (Jvm.Cond.methodLinkNest "GameLoom$Game" (20 : Nat) ({ cls := "GameLoom$Board", name := "<init>", desc := "()V" } : Jvm.MethodName) "GameLoom") U ∧ va_Nw (Jvm.Cond.methodLinkNest "GameLoom$Game" (34 : Nat) ({ cls := "GameLoom$Rule", name := "<init>", desc := "()V" } : Jvm.MethodName) "GameLoom") U ∧ va_Nw (Jvm.Cond.methodLinkNest "GameLoom" (39 : Nat) ({ cls := "GameLoom$Looker", name := "<init>", desc := "()V" } : Jvm.MethodName) "GameLoom") U ∧ va_Nw (Jvm.Cond.methodLinkNest "GameLoom$Tally" (11 : Nat) ({ cls := "GameLoom$Position", name := "<init>", desc := "()V" } : Jvm.MethodName) "GameLoom") U ∧ va_Nw (Jvm.Cond.methodLinkNest "GameLoom$Judge" (11 : Nat) ({ cls := "GameLoom$Position", name := "<init>", desc := "()V" } : Jvm.MethodName) "GameLoom") U ∧ va_Nw (Jvm.Cond.methodLinkNest "GameLoom" (65 : Nat) ({ cls := "GameLoom$Play", name := "<init>", desc := "()V" } : Jvm.MethodName) "GameLoom") U ∧ va_Nw (Jvm.Cond.methodLinkNest "GameLoom$Play" (11 : Nat) ({ cls := "GameLoom$Position", name := "<init>", desc := "()V" } : Jvm.MethodName) "GameLoom") U ∧ va_AO "GameLoom$Game" U ∧ va_AO "GameLoom$Rule" U ∧ va_Nw (.arrayOver (.array .int)) U
theorem NsC.same {u U : State} (h : NsC u) (e : u.vm = U.vm) (ea : u.vm.Alike U.vm) : NsC U := ⟨h.1.same rfl e, h.2.1.same rfl e, h.2.2.1.same rfl e, h.2.2.2.1.same rfl e, h.2.2.2.2.1.same rfl e, h.2.2.2.2.2.1.same rfl e, h.2.2.2.2.2.2.1.same rfl e, h.2.2.2.2.2.2.2.1.same rfl e, h.2.2.2.2.2.2.2.2.1.same rfl e, h.2.2.2.2.2.2.2.2.2.1.same rfl e, h.2.2.2.2.2.2.2.2.2.2.1.moved ea, h.2.2.2.2.2.2.2.2.2.2.2.1.moved ea, aoa_moved ea h.2.2.2.2.2.2.2.2.2.2.2.2⟩
theorem NsC.warm {u U : State} (h : NsC u) (e : u.WarmedH U.vm) : NsC U := ⟨h.1.warmM e, h.2.1.warmM e, h.2.2.1.warmM e, h.2.2.2.1.warmM e, h.2.2.2.2.1.warmM e, h.2.2.2.2.2.1.warmM e, h.2.2.2.2.2.2.1.warmM e, h.2.2.2.2.2.2.2.1.warmM e, h.2.2.2.2.2.2.2.2.1.warmM e, h.2.2.2.2.2.2.2.2.2.1.warmM e, h.2.2.2.2.2.2.2.2.2.2.1.moved e.alike, h.2.2.2.2.2.2.2.2.2.2.2.1.moved e.alike, aoa_moved e.alike h.2.2.2.2.2.2.2.2.2.2.2.2⟩
def CWE (D : va_G) (cy : Nat → ClassId) (bs N : Nat) (tys : List (ClassId × FieldType)) (cf : Nat → va_E) (U : State) : Prop := va_K D clW tys U ∧ U.heap.size = bs + N ∧ va_P D clW (wsC bs cf N) U.heap ∧ CyK cy U ∧ NsC U
def CW (D : va_G) (cy : Nat → ClassId) (bs N : Nat) (tys : List (ClassId × FieldType)) (cf : Nat → va_E) (s : State) (H : Heap) (locs : List Loc) (cells : Nat) : Prop := va_K D clW tys s ∧ s.heap.size + cells = bs + N ∧ va_P D clW (wsC bs cf N) H ∧ va_S (fun q => bs ≤ q) s.heap H locs ∧ CyK cy s ∧ NsC s ∧ bs ≤ s.heap.size
theorem CW.size {D : va_G} {cy : Nat → ClassId} {bs N : Nat} {tys : List (ClassId × FieldType)} {cf : Nat → va_E} {s : State} {H : Heap} {locs : List Loc} {cells : Nat} (hw : CW D cy bs N tys cf s H locs cells) (hz : H.size ≤ s.heap.size + cells) : H.size = bs + N := by
  obtain ⟨-, h2, h3, h4, -, -, h7⟩ := hw
  have h5 := h4.1
  rcases Nat.eq_zero_or_pos N with h | h
  · omega
  · have := (h3 (N - 1) _ (wsC_get (by omega) rfl)).lt
    have h6 : bs + (N - 1) < H.size := this
    omega
theorem W_size {p : Program} {l : Launch} {e : Env} {R : Room} {s : State} {m : MethodId} {args : Array Value} {below : List Frame} {meth : Method} {c : Code} {H : Heap} {locs : List Loc} {cells slots : Nat} {Q : State → Prop} {g : JFrame} (k : H.size ≤ s.heap.size + cells → W p l e R s m args below meth c H locs cells slots Q g) : W p l e R s m args below meth c H locs cells slots Q g := fun T hT X => k (by rw [← hT]; exact X.heapSize) T hT X
theorem CWE.calling {D : va_G} {cy : Nat → ClassId} {bs N : Nat} {tys : List (ClassId × FieldType)} {cf : Nat → va_E} {U : State} {g : JFrame} {mk : MethodId} {a : Array Value} (h : CWE D cy bs N tys cf U) : CWE D cy bs N tys cf (U.calling g mk a) := ⟨va_K.moved (u := U) (U := U.calling g mk a) (Vm.Alike.refl U.vm) h.1, h.2.1, h.2.2.1, CyK.moved (u := U) (U := U.calling g mk a) (Vm.Alike.refl U.vm) h.2.2.2.1, h.2.2.2.2.same rfl (Vm.Alike.refl U.vm)⟩
theorem CW.here {D : va_G} {cy : Nat → ClassId} {bs N : Nat} {tys : List (ClassId × FieldType)} {cf : Nat → va_E} {s U : State} {H : Heap} {locs : List Loc} {cells : Nat} (hw : CW D cy bs N tys cf s H locs cells) (hz : H.size ≤ s.heap.size + cells) (hU : U.heap = H) (hW : s.WarmedH U.vm) : CWE D cy bs N tys cf U := ⟨va_K.moved hW.alike hw.1, by rw [hU]; exact hw.size hz, by rw [hU]; exact hw.2.2.1, CyK.moved hW.alike hw.2.2.2.2.1, hw.2.2.2.2.2.1.warm hW⟩
def MC (l : Launch) (y : MethodName) (b : ByteArray) (mL : Nat) (rm : Room) (D : va_G) (cy : Nat → ClassId) (bs N : Nat) (cf : Nat → va_E) (As : List Value) (N' : Nat) (tys' : List (ClassId × FieldType)) (Pf : (Nat → va_E) → Prop) (mc ms : Nat) : Prop := Met l y (Cond.code y b mL none :: lw_us) rm (va_Pc As (CWE D cy bs N [] cf)) (va_Qv Pf (fun u t => CWE D cy bs N' tys' u t) (fun q => bs ≤ q)) mc ms (fun q => bs ≤ q)
section GCT
variable {p : Program} {l : Launch} {e : Env} {R : Room} {s : State} {m : MethodId} {args : Array Value} {below : List Frame} {meth : Method} {c : Code} {H : Heap} {locs : List Loc} {cells slots : Nat} {Q : State → Prop} {cc : ByteArray} {pc nL : Nat} {ls : Array Slot} {rest : List Value} {own : String} {idx : Nat} {D : va_G} {cy : Nat → ClassId} {bs N : Nat} {tys : List (ClassId × FieldType)} {cf : Nat → va_E}
theorem met_c {y : MethodName} {b : ByteArray} {mL : Nat} {rm : Room} {As : List Value} {N' : Nat} {tys' : List (ClassId × FieldType)} {Pf : (Nat → va_E) → Prop} {mc ms : Nat} (hN : 0 < N) (hy : plainName y.cls = true) (hlen : (lg_sl As).length ≤ mL) (body : ∀ p e s m args below meth c, CallFix p m c b mL s args lw_us y.cls → meth.sig.returnType = none → meth.locks = false → meth.name = y.name → CW D cy bs N [] cf s s.heap [] 0 → ∀ ls, lv_has ls mL (lv_args 0 As) → W p l e rm s m args below meth c s.heap [] 0 0 (MQ below (va_Qv Pf (fun u t => CWE D cy bs N' tys' u t) (fun q => bs ≤ q)) args s mc ms (fun q => bs ≤ q)) (F0 m 0 ls [])) : MC l y b mL rm D cy bs N cf As N' tys' Pf mc ms := by
  refine Met.ofW (cc := b) (maxL := mL) (ret := none) hy rfl ?_
  intro p e s m args below meth c s₁ B hml hv
  obtain ⟨rfl, hw0⟩ := hv
  rw [lg_entry_eq]
  exact body p e s m _ below meth c ⟨B.exec, B.bytes, hml, findClass_of_methodNamed B.named, fun w h => atoms_spec (ws := Cond.code y b mL none :: lw_us) B.pre w (List.mem_cons_of_mem _ h)⟩ B.returns B.notSynchronized (name_of_methodNamed B.named B.method).1 ⟨hw0.1, hw0.2.1, hw0.2.2.1, va_S.rf, hw0.2.2.2.1, hw0.2.2.2.2, by rw [hw0.2.1]; exact Nat.le_add_right _ _⟩ _ (lv_entry As hlen)
theorem k_vret {N' : Nat} {tys' : List (ClassId × FieldType)} {Pf : (Nat → va_E) → Prop} (X : CallFix p m c cc nL s args lw_us own) (hr : meth.sig.returnType = none) (hlocks : meth.locks = false) (hw : CW D cy bs N' tys' cf s H locs cells) (he : Pf cf) (hdg : decode cc pc = .ok (.return_, 1)) : W p l e R s m args below meth c H locs cells slots (MQ below (va_Qv Pf (fun u t => CWE D cy bs N' tys' u t) (fun q => bs ≤ q)) args s cells slots (fun q => bs ≤ q)) (F0 m pc ls []) :=
  W_size fun hz => W.vret X.1 X.2.1 hr (fun t ht hW => ⟨⟨cf, rfl, he, hw.here hz ht hW⟩, hw.2.2.2.1.F ht⟩) hw.2.2.2.1.2.2 hdg hlocks
theorem k_tys {tys' : List (ClassId × FieldType)} (ps : List Nat) (hw : CW D cy bs N tys cf s H locs cells) (h : ps.filterMap (fun i => tys[i]?) = tys') : CW D cy bs N tys' cf s H locs cells := ⟨hw.1.sub ps h, hw.2⟩
theorem k_new {ci n : Nat} {C : String} {T : u_T} {fs : List Value} (ty : Nat → FieldType) (X : CallFix p m c cc nL s args lw_us own) (hw : CW D cy bs N tys cf s H locs cells) (hin : ∀ w ∈ u_ws C T n, w ∈ lw_us) (hty : ∀ k, k < n → parseFieldDescriptor (T k).2.2.1 = some (ty k)) (hcl : clW[ci]? = some (C, T, n)) (h1 : Cond.classLink own idx C ∈ lw_us) (h2 : Cond.instantiable C n ∈ lw_us) (h3 : Cond.initialized C ∈ lw_us) (hfs : ∀ j, j < n → defaultValue (ty j) = vp_V fs j) (hc : cells + 1 ≤ R.cells) (hs : slots + n ≤ R.slots) (hdg : decode cc pc = .ok (.new idx, 3)) (kk : ∀ H1 : Heap, CW D cy bs (N + 1) tys (va_up cf N (.inr (ci, fs))) s H1 locs (cells + 1) → W p l e R s m args below meth c H1 locs (cells + 1) (slots + n) Q (F0 m (pc + 3) ls (.ref (bs + N) :: rest))) : W p l e R s m args below meth c H locs cells slots Q (F0 m pc ls rest) := by
  have hKn := hw.1.1 ci _ hcl
  refine W_size fun hz => ?_
  have hsz := hw.size hz
  refine W.newcK X.1 X.2.1 X.2.2.2.1 (X.2.2.2.2 _ h1) (X.2.2.2.2 _ h2) (X.2.2.2.2 _ h3) rfl hdg hc hs hKn.2.1 hsz fun H1 kC hkC e1 z1 o1 => ?_
  have hS := hw.2.2.2.1
  refine kk H1 ⟨hw.1, by have := hw.2.1; omega, cP_push hw.2.2.1 o1 ⟨_, hcl, (u_born ty X.2.2.2.2 hin hKn hkC e1 hty).to hfs⟩, ⟨Nat.le_trans hS.1 (by rw [z1, hsz]; exact Nat.le_succ _), fun x h1 h2 => (o1 x (by rw [← hsz]; exact Nat.lt_of_lt_of_le h1 hS.1)).trans (hS.2.1 x h1 h2), hS.2.2⟩, hw.2.2.2.2⟩
theorem k_newa {atype : ArrayType} {ty : FieldType} {n : Int32} {N' : Nat} {a0 : vp_A} {k : Nat} (hty : newarray.typeOf atype = ty) (hcy : ∀ c, s.vm.findClass ("[" ++ ty.toString) = some c → c = cy k) (hra : ∀ cA, s.vm.findClass ("[" ++ ty.toString) = some cA → va_RA s cA ty) (X : CallFix p m c cc nL s args lw_us own) (hw : CW D cy bs N tys cf s H locs cells) (harr : Cond.arrayClass ty ∈ lw_us) (ha : ∀ cA : ClassId, vp_cell cA a0 = arrV cA N' (fun _ => defaultValue ty)) (hn : ¬ n < 0) (hN : n.toNatClampNeg = N') (hbytes : N' * componentBytes ty ≤ 536870912) (hc : cells + 1 ≤ R.cells) (hs : slots + N' ≤ R.slots) (hdg : decode cc pc = .ok (.newarray atype, 2)) (kk : ∀ H1 : Heap, CW D cy bs (N + 1) (tys ++ [(cy k, ty)]) (va_up cf N (.inl (cy k, a0))) s H1 locs (cells + 1) → W p l e R s m args below meth c H1 locs (cells + 1) (slots + N') Q (F0 m (pc + 2) ls (.ref (bs + N) :: rest))) : W p l e R s m args below meth c H locs cells slots Q (F0 m pc ls (.int n :: rest)) := by
  subst hty
  refine W_size fun hz => ?_
  have hsz := hw.size hz
  refine va_newaK X.1 X.2.1 (X.2.2.2.2 _ harr) rfl hdg rfl hn hN hbytes hc hs hsz fun H1 cA e1 z1 o1 hAr hNm => ?_
  have hS := hw.2.2.2.1
  have ec := hcy cA hNm
  subst ec
  refine kk H1 ⟨⟨hw.1.1, fun j x hx => ?_⟩, by have := hw.2.1; omega, cP_push hw.2.2.1 o1 (by show H1[bs + N]? = some (vp_cell _ _); rw [e1, ha]), ⟨Nat.le_trans hS.1 (by rw [z1, hsz]; exact Nat.le_succ _), fun x h1 h2 => (o1 x (by rw [← hsz]; exact Nat.lt_of_lt_of_le h1 hS.1)).trans (hS.2.1 x h1 h2), hS.2.2⟩, hw.2.2.2.2⟩
  by_cases hl : j < tys.length
  · rw [List.getElem?_append_left hl] at hx
    exact hw.1.2 j x hx
  · rw [List.getElem?_append_right (by omega)] at hx
    have hz : j - tys.length < 1 := (List.getElem?_eq_some_iff.mp hx).1
    rw [show j - tys.length = 0 by omega] at hx
    cases hx
    exact ⟨hAr, hra _ hNm⟩
theorem k_newI {n : Int32} {N' : Nat} (X : CallFix p m c cc nL s args lw_us own) (hw : CW D cy bs N tys cf s H locs cells) (hn : ¬ n < 0) (hN : n.toNatClampNeg = N') (hbytes : N' * 4 ≤ 536870912) (hc : cells + 1 ≤ R.cells) (hs : slots + N' ≤ R.slots) (hdg : decode cc pc = .ok (.newarray .int, 2)) (kk : ∀ H1 : Heap, CW D cy bs (N + 1) (tys ++ [(cy 12, .int)]) (va_up cf N (.inl (cy 12, N', .inl (fun _ => 0)))) s H1 locs (cells + 1) → W p l e R s m args below meth c H1 locs (cells + 1) (slots + N') Q (F0 m (pc + 2) ls (.ref (bs + N) :: rest))) : W p l e R s m args below meth c H locs cells slots Q (F0 m pc ls (.int n :: rest)) :=
  k_newa (atype := .int) (ty := .int) (k := 12) (a0 := (N', .inl (fun _ => 0))) rfl hw.2.2.2.2.1.1 (fun _ h => h) X hw tb_41 (fun _ => rfl) hn hN hbytes hc hs hdg kk
theorem k_newZ {n : Int32} {N' : Nat} (X : CallFix p m c cc nL s args lw_us own) (hw : CW D cy bs N tys cf s H locs cells) (hn : ¬ n < 0) (hN : n.toNatClampNeg = N') (hbytes : N' * 1 ≤ 536870912) (hc : cells + 1 ≤ R.cells) (hs : slots + N' ≤ R.slots) (hdg : decode cc pc = .ok (.newarray .boolean, 2)) (kk : ∀ H1 : Heap, CW D cy bs (N + 1) (tys ++ [(cy 13, .boolean)]) (va_up cf N (.inl (cy 13, N', .inl (fun _ => 0)))) s H1 locs (cells + 1) → W p l e R s m args below meth c H1 locs (cells + 1) (slots + N') Q (F0 m (pc + 2) ls (.ref (bs + N) :: rest))) : W p l e R s m args below meth c H locs cells slots Q (F0 m pc ls (.int n :: rest)) :=
  k_newa (atype := .boolean) (ty := .boolean) (k := 13) (a0 := (N', .inl (fun _ => 0))) rfl hw.2.2.2.2.1.2.1 (fun _ h => h) X hw tb_1075 (fun _ => rfl) hn hN hbytes hc hs hdg kk
theorem k_newq {C : String} {n : Int32} {N' k : Nat} (hcy : ∀ c, s.vm.findClass ("[" ++ (FieldType.object C).toString) = some c → c = cy k) (hover : va_AO C s) (X : CallFix p m c cc nL s args lw_us own) (hw : CW D cy bs N tys cf s H locs cells) (hlink : Cond.classLink own idx C ∈ lw_us) (hn : ¬ n < 0) (hN : n.toNatClampNeg = N') (hbytes : N' * 4 ≤ 536870912) (hc : cells + 1 ≤ R.cells) (hs : slots + N' ≤ R.slots) (hdg : decode cc pc = .ok (.anewarray idx, 3)) (kk : ∀ H1 : Heap, CW D cy bs (N + 1) (tys ++ [(cy k, .object C)]) (va_up cf N (.inl (cy k, N', .inr (.inr (.inr (.inr (fun _ => none))))))) s H1 locs (cells + 1) → W p l e R s m args below meth c H1 locs (cells + 1) (slots + N') Q (F0 m (pc + 3) ls (.ref (bs + N) :: rest))) : W p l e R s m args below meth c H locs cells slots Q (F0 m pc ls (.int n :: rest)) := by
  subst hN
  refine W_size fun hz => ?_
  have hsz := hw.size hz
  refine W.anew X.1 X.2.1 X.2.2.2.1 (X.2.2.2.2 _ hlink) (va_AO.use hover) rfl hdg rfl hn hbytes hc hs fun cA kA comp f1 f2 f3 f4 => ?_
  generalize hH1 : H.push ({ cls := cA, slots := Array.replicate n.toNatClampNeg .null, vm := .none } : Cell) = H1
  have z1 : H1.size = H.size + 1 := by rw [← hH1, Array.size_push]
  have e1 : H1[H.size]? = some (arrV cA n.toNatClampNeg (fun _ => .null)) := by rw [← hH1, Array.getElem?_push_size, ← arrV_new]
  have o1 : ∀ q : Nat, q < H.size → H1[q]? = H[q]? := fun q hq => by rw [← hH1, Array.getElem?_push, if_neg (Nat.ne_of_lt hq)]
  have hAr : ArrOfT s cA (.object C) := fun N z => ⟨(fun k h => by cases h), kA, f2, comp, f3⟩
  have hS := hw.2.2.2.1
  have ec := hcy cA f1
  subst ec
  rw [hsz] at e1 z1 o1 ⊢
  refine kk H1 ⟨⟨hw.1.1, fun j x hx => ?_⟩, by have := hw.2.1; omega, cP_push hw.2.2.1 o1 (by show H1[bs + N]? = some (vp_cell _ _); rw [e1]; rfl), ⟨Nat.le_trans hS.1 (by rw [z1, hsz]; exact Nat.le_succ _), fun x h1 h2 => (o1 x (by rw [← hsz]; exact Nat.lt_of_lt_of_le h1 hS.1)).trans (hS.2.1 x h1 h2), hS.2.2⟩, hw.2.2.2.2⟩
  by_cases hl : j < tys.length
  · rw [List.getElem?_append_left hl] at hx
    exact hw.1.2 j x hx
  · rw [List.getElem?_append_right (by omega)] at hx
    have hz : j - tys.length < 1 := (List.getElem?_eq_some_iff.mp hx).1
    rw [show j - tys.length = 0 by omega] at hx
    cases hx
    exact ⟨hAr, kA, comp, f2, f3, f4, f1⟩
theorem k_get {ci n i k : Nat} {C : String} {T : u_T} {fs : List Value} {v : Value} (X : CallFix p m c cc nL s args lw_us own) (hw : CW D cy bs N tys cf s H locs cells) (hi : i < N) (he : cf i = .inr (ci, fs)) (hin : ∀ w ∈ u_ws C T n, w ∈ lw_us) (hcl : clW[ci]? = some (C, T, n)) (hk : k < n) (hl : Cond.fieldLink own idx C (T k).2.1 (T k).2.2.1 ∈ lw_us) (hd : (T k).1 = C) (hv : fs[k]? = some v) (hdg : decode cc pc = .ok (.getfield idx, 3)) (kk : W p l e R s m args below meth c H locs cells slots Q (F0 m (pc + 3) ls (v :: rest))) : W p l e R s m args below meth c H locs cells slots Q (F0 m pc ls (.ref (bs + i) :: rest)) :=
  va_get (ci := ci) X.1 X.2.1 X.2.2.2.2 hin X.2.2.2.1 hw.1 hw.2.2.1 i (wsC_get hi he) hcl k hk (X.2.2.2.2 _ hl) (fun _ h9 => by rw [← hd]; exact h9) hv hdg kk
theorem k_putF {ci n i k : Nat} {C : String} {T : u_T} {fs : List Value} {v : Value} {ty : FieldType} (ty0 : Nat → FieldType) (X : CallFix p m c cc nL s args lw_us own) (hw : CW D cy bs N tys cf s H locs cells) (hi : i < N) (he : cf i = .inr (ci, fs)) (hin : ∀ w ∈ u_ws C T n, w ∈ lw_us) (hty : ∀ k, k < n → parseFieldDescriptor (T k).2.2.1 = some (ty0 k)) (hnm : ∀ a, a < n → ∀ b, b < n → a ≠ b → (T a).2.1 ≠ (T b).2.1) (hcl : clW[ci]? = some (C, T, n)) (hk : k < n) (hl : Cond.fieldLink own idx C (T k).2.1 (T k).2.2.1 ∈ lw_us) (hd : (T k).1 = C) (hfin : (T k).2.2.2 = true) (hin2 : meth.name = "<init>") (hown : (T k).1 = own) (hdt : parseFieldDescriptor (T k).2.2.1 = some ty) (hn : narrow ty v = v) (hfit : fits ty v = true) (hlen : k < fs.length) (hdg : decode cc pc = .ok (.putfield idx, 3)) (kk : ∀ (H1 : Heap) (locs1 : List Loc), CW D cy bs N tys (va_up cf i (.inr (ci, fs.set k v))) s H1 locs1 cells → W p l e R s m args below meth c H1 locs1 cells slots Q (F0 m (pc + 3) ls rest)) : W p l e R s m args below meth c H locs cells slots Q (F0 m pc ls (v :: .ref (bs + i) :: rest)) :=
  va_putF (ci := ci) X.1 X.2.1 X.2.2.2.2 hin ty0 hty hnm X.2.2.2.1 hw.1 hw.2.2.1 wsC_D hw.2.2.2.1 i (wsC_get hi he) hcl k hk (X.2.2.2.2 _ hl) (fun _ h9 => by rw [← hd]; exact h9) hfin hin2 hown hdt hn hfit hlen hdg (fun H1 locs1 hP hD hS => kk H1 locs1 ⟨hw.1, hw.2.1, by rw [wsC_set] at hP; exact hP, hS, hw.2.2.2.2⟩)
theorem k_put {ci n i k : Nat} {C : String} {T : u_T} {fs : List Value} {v : Value} {ty : FieldType} (ty0 : Nat → FieldType) (X : CallFix p m c cc nL s args lw_us own) (hw : CW D cy bs N tys cf s H locs cells) (hi : i < N) (he : cf i = .inr (ci, fs)) (hin : ∀ w ∈ u_ws C T n, w ∈ lw_us) (hty : ∀ k, k < n → parseFieldDescriptor (T k).2.2.1 = some (ty0 k)) (hnm : ∀ a, a < n → ∀ b, b < n → a ≠ b → (T a).2.1 ≠ (T b).2.1) (hcl : clW[ci]? = some (C, T, n)) (hk : k < n) (hl : Cond.fieldLink own idx C (T k).2.1 (T k).2.2.1 ∈ lw_us) (hd : (T k).1 = C) (hfin : (T k).2.2.2 = false) (hdt : parseFieldDescriptor (T k).2.2.1 = some ty) (hn : narrow ty v = v) (hfit : fits ty v = true) (hlen : k < fs.length) (hdg : decode cc pc = .ok (.putfield idx, 3)) (kk : ∀ (H1 : Heap) (locs1 : List Loc), CW D cy bs N tys (va_up cf i (.inr (ci, fs.set k v))) s H1 locs1 cells → W p l e R s m args below meth c H1 locs1 cells slots Q (F0 m (pc + 3) ls rest)) : W p l e R s m args below meth c H locs cells slots Q (F0 m pc ls (v :: .ref (bs + i) :: rest)) :=
  va_put (ci := ci) X.1 X.2.1 X.2.2.2.2 hin ty0 hty hnm X.2.2.2.1 hw.1 hw.2.2.1 wsC_D hw.2.2.2.1 i (wsC_get hi he) hcl k hk (X.2.2.2.2 _ hl) (fun _ h9 => by rw [← hd]; exact h9) hfin hdt hn hfit hlen hdg (fun H1 locs1 hP hD hS => kk H1 locs1 ⟨hw.1, hw.2.1, by rw [wsC_set] at hP; exact hP, hS, hw.2.2.2.2⟩)
theorem k_iast {i n : Nat} {f : Nat → Int32} {j v : Int32} (t0 : Nat) (X : CallFix p m c cc nL s args lw_us own) (hw : CW D cy bs N tys cf s H locs cells) (hi : i < N) (he : cf i = .inl (cy 12, n, .inl f)) (ht : tys[t0]? = some (cy 12, .int)) (hj : vp_in j n) (hdg : decode cc pc = .ok (.iastore, 1)) (kk : ∀ (H1 : Heap) (locs1 : List Loc), CW D cy bs N tys (va_up cf i (.inl (cy 12, n, .inl (upd f j.toNatClampNeg v)))) s H1 locs1 cells → W p l e R s m args below meth c H1 locs1 cells slots Q (F0 m (pc + 1) ls rest)) : W p l e R s m args below meth c H locs cells slots Q (F0 m pc ls (.int v :: .int j :: .ref (bs + i) :: rest)) :=
  va_iast X.1 X.2.1 hw.1 hw.2.2.1 wsC_D hw.2.2.2.1 i t0 (wsC_get hi he) ht hj hdg (fun H1 locs1 hP hD hS => kk H1 locs1 ⟨hw.1, hw.2.1, by rw [wsC_set] at hP; exact hP, hS, hw.2.2.2.2⟩)
theorem k_astq {i n q ci k : Nat} {r : vw_C} {vs : List Value} {f : Nat → Option Nat} {j : Int32} (t0 : Nat) (X : CallFix p m c cc nL s args lw_us own) (hw : CW D cy bs N tys cf s H locs cells) (hi : i < N) (he : cf i = .inl (cy k, n, .inr (.inr (.inr (.inr f))))) (ht : tys[t0]? = some (cy k, .object r.1)) (hq : q < N) (hv : cf q = .inr (ci, vs)) (hc : clW[ci]? = some r) (hj : vp_in j n) (hdg : decode cc pc = .ok (.aastore, 1)) (kk : ∀ (H1 : Heap) (locs1 : List Loc), CW D cy bs N tys (va_up cf i (.inl (cy k, n, .inr (.inr (.inr (.inr (va_up f j.toNatClampNeg (some (bs + q))))))))) s H1 locs1 cells → W p l e R s m args below meth c H1 locs1 cells slots Q (F0 m (pc + 1) ls rest)) : W p l e R s m args below meth c H locs cells slots Q (F0 m pc ls (.ref (bs + q) :: .int j :: .ref (bs + i) :: rest)) :=
  va_astq X.1 X.2.1 hw.1 hw.2.2.1 wsC_D hw.2.2.2.1 i t0 q ci (wsC_get hi he) ht (wsC_get hq hv) hc hj hdg (fun H1 locs1 hP hD hS => kk H1 locs1 ⟨hw.1, hw.2.1, by rw [wsC_set] at hP; exact hP, hS, hw.2.2.2.2⟩)
theorem blind_C {As : List Value} : FrameBlind (va_Pc As (CWE D cy bs N [] cf)) := fun _ _ _ _ h => ⟨h.1, h.2.calling⟩
theorem k_call {y : MethodName} {b : ByteArray} {mL n : Nat} {rm : Room} {As st : List Value} {a N' mc ms : Nat} {tys' : List (ClassId × FieldType)} {Pf : (Nat → va_E) → Prop} (X : CallFix p m c cc nL s args lw_us own) (hw : CW D cy bs N tys cf s H locs cells) (hM : MC l y b mL rm D cy bs N cf (.ref a :: As) N' tys' Pf mc ms) (hN : N' = N + mc) (h1 : Cond.methodLink own idx y ∈ lw_us) (h2 : Cond.instanceMethod y ∈ lw_us) (h4 : Cond.initialized y.cls ∈ lw_us) (h5 : Cond.code y b mL none ∈ lw_us) (hy1 : y.name = "<init>") (hd : y.cls ≠ "java/lang/invoke/MethodHandle" ∧ y.cls ≠ "java/lang/invoke/VarHandle" ∧ (parseMethodDescriptor y.desc).map (fun d => d.parameters.length) = some n) (hrm : rm.cells = mc ∧ rm.slots = ms) (hR : rm.frames + 1 ≤ R.frames ∧ 8 + (mL + 11) + rm.locals ≤ R.locals) (hn : As.length = n) (hsz : ls.size = nL) (hst : st = As.reverse ++ .ref a :: rest) (hW8 : (rest.map fun v => v.category).sum ≤ 8) (hcs : cells + mc ≤ R.cells ∧ slots + ms ≤ R.slots) (hdg : decode cc pc = .ok (.invokespecial idx, 3)) (kk : ∀ (u : Nat → va_E) (H1 : Heap) (locs1 : List Loc), Pf u → CW D cy bs N' (tys ++ tys') u s H1 locs1 (cells + mc) → W p l e R s m args below meth c H1 locs1 (cells + mc) (slots + ms) Q (F0 m (pc + 3) ls rest)) : W p l e R s m args below meth c H locs cells slots Q (F0 m pc ls st) := by
  refine W_size fun hz => ?_
  refine va_callv (post := Pf) (B := fun u t => CWE D cy bs N' tys' u t) (A1 := fun q => bs ≤ q) (va_runI (As := As) (rest := rest) X hM ⟨callB_of n X.2.2.2.2 (good_code h5) rfl hrm.1 hrm.2 (X.2.2.2.2 _ h4) (X.2.2.2.2 _ h1) hd hR, hy1, X.2.2.2.2 _ h2⟩ ⟨blind_C, fun U hU hW => ⟨rfl, (k_tys [] hw rfl).here hz hU hW⟩⟩ rfl hn hsz hst (lv_room hW8) hdg hcs) hw.2.2.2.1 (fun _ _ h => h) (fun _ h => h) (fun u t H1 locs1 ht hvm hq hB hz1 hk hS => ?_)
  exact kk u H1 locs1 hq ⟨hw.1.app (va_K.moved hvm.symm hB.1), by have := hw.2.1; omega, by rw [← ht]; exact hB.2.2.1, hS, hw.2.2.2.2⟩
theorem k_callN {y : MethodName} {b : ByteArray} {mL n : Nat} {rm : Room} {As st : List Value} {a N' mc ms : Nat} {tys' : List (ClassId × FieldType)} {Pf : (Nat → va_E) → Prop} {host : String} (X : CallFix p m c cc nL s args lw_us own) (hw : CW D cy bs N tys cf s H locs cells) (hM : MC l y b mL rm D cy bs N cf (.ref a :: As) N' tys' Pf mc ms) (hN : N' = N + mc) (h1 : va_Nw (Cond.methodLinkNest own idx y host) s) (h2 : Cond.instanceMethod y ∈ lw_us) (h4 : Cond.initialized y.cls ∈ lw_us) (h5 : Cond.code y b mL none ∈ lw_us) (hy1 : y.name = "<init>") (hd : y.cls ≠ "java/lang/invoke/MethodHandle" ∧ y.cls ≠ "java/lang/invoke/VarHandle" ∧ (parseMethodDescriptor y.desc).map (fun d => d.parameters.length) = some n) (hrm : rm.cells = mc ∧ rm.slots = ms) (hR : rm.frames + 1 ≤ R.frames ∧ 8 + (mL + 11) + rm.locals ≤ R.locals) (hn : As.length = n) (hsz : ls.size = nL) (hst : st = As.reverse ++ .ref a :: rest) (hW8 : (rest.map fun v => v.category).sum ≤ 8) (hcs : cells + mc ≤ R.cells ∧ slots + ms ≤ R.slots) (hdg : decode cc pc = .ok (.invokespecial idx, 3)) (kk : ∀ (u : Nat → va_E) (H1 : Heap) (locs1 : List Loc), Pf u → CW D cy bs N' (tys ++ tys') u s H1 locs1 (cells + mc) → W p l e R s m args below meth c H1 locs1 (cells + mc) (slots + ms) Q (F0 m (pc + 3) ls rest)) : W p l e R s m args below meth c H locs cells slots Q (F0 m pc ls st) := by
  refine W_size fun hz => ?_
  refine va_callv (post := Pf) (B := fun u t => CWE D cy bs N' tys' u t) (A1 := fun q => bs ≤ q) (va_runIN (As := As) (rest := rest) X hM ⟨va_cnB n X.2.2.2.2 (good_code h5) rfl hrm.1 hrm.2 h1 (X.2.2.2.2 _ h4) hd hR, hy1, X.2.2.2.2 _ h2⟩ ⟨blind_C, fun U hU hW => ⟨rfl, (k_tys [] hw rfl).here hz hU hW⟩⟩ rfl hn hsz hst (lv_room hW8) hdg hcs) hw.2.2.2.1 (fun _ _ h => h) (fun _ h => h) (fun u t H1 locs1 ht hvm hq hB hz1 hk hS => ?_)
  exact kk u H1 locs1 hq ⟨hw.1.app (va_K.moved hvm.symm hB.1), by have := hw.2.1; omega, by rw [← ht]; exact hB.2.2.1, hS, hw.2.2.2.2⟩
end GCT
