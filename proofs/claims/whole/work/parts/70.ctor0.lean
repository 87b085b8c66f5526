/-! constructors: their judgement, and a row an instruction -/
theorem arr_congr {cA : ClassId} {n : Nat} {f g : Nat → Value} (h : ∀ j, j < n → f j = g j) : arrV cA n f = arrV cA n g := by
  unfold arrV
  have e : (Array.ofFn (n := n) fun j => f j.val) = Array.ofFn (n := n) fun j => g j.val := congrArg Array.ofFn (funext fun j => h j.val j.isLt)
  rw [e]
theorem cell_I {cA : ClassId} {n : Nat} {f g : Nat → Int32} (h : ∀ j, j < n → f j = g j) : vp_cell cA (n, .inl f) = vp_cell cA (n, .inl g) := arr_congr (f := fun j => .int (f j)) (g := fun j => .int (g j)) (fun j hj => by rw [h j hj])
theorem cell_L {cA : ClassId} {n : Nat} {f g : Nat → Int64} (h : ∀ j, j < n → f j = g j) : vp_cell cA (n, .inr (.inl f)) = vp_cell cA (n, .inr (.inl g)) := arr_congr (f := fun j => .long (f j)) (g := fun j => .long (g j)) (fun j hj => by rw [h j hj])
theorem va_cong {D : va_G} {cl : List vw_C} {ws : va_W} {H : Heap} (h : va_P D cl ws H) {k a : Nat} {cA : ClassId} {a0 a1 : vp_A} (ha : ws[k]? = some (a, .inl (cA, a0))) (hc : vp_cell cA a0 = vp_cell cA a1) : va_P D cl (ws.set k (a, .inl (cA, a1))) H := by
  intro j q hq
  rw [List.getElem?_set] at hq
  by_cases e : k = j
  · subst e
    have hl : k < ws.length := (List.getElem?_eq_some_iff.mp ha).1
    rw [if_pos rfl, if_pos hl] at hq
    cases hq
    show H[a]? = some (vp_cell cA a1)
    rw [← hc]
    exact h k _ ha
  · rw [if_neg e] at hq
    exact h j q hq
/-- the calls of private constructors among nest mates -/
def nst : List (String × Nat × MethodName) := [(RX10, 15, yX1_init), (RX10, 22, yX3_init), (RX10, 29, yX6_init), (RX1, 11, yX9_init), (RX1, 20, yX2_init), (RX6, 11, yX5_init), (RX6, 20, yX0_init), (RX6, 27, yX4_init), (RX6, 41, yX8_init), (RX6, 48, yX2_init)]
def cN (U : State) : Prop := (∀ q ∈ nst, va_Nw (.methodLinkNest q.1 q.2.1 q.2.2 "NightSchool") U) ∧ va_AO "NightSchool$School" U
theorem cN.warm {s U : State} (hW : s.WarmedH U.vm) (h : cN s) : cN U := ⟨fun q hq => va_Nw.warmM hW (h.1 q hq), va_AO.moved hW.alike h.2⟩
theorem cN.same {u U : State} (e : u.vm = U.vm) (h : cN u) : cN U := ⟨fun q hq => va_Nw.same rfl e (h.1 q hq), va_AO.moved (by rw [e]; exact Vm.Alike.refl _) h.2⟩
def cI (D : va_G) (W0 : va_W) (sz : Nat) : State → Prop := fun U => U.heap.size = sz ∧ va_P D vwCl W0 U.heap ∧ va_K D vwCl (ns_ty D) U ∧ va_D (fun _ => True) W0 ∧ cN U
def cB (D : va_G) (WK : (Nat → Nat) → va_W) (A : Nat → Prop) (q : Nat → Nat) (t : State) : Prop := va_P D vwCl (WK q) t.heap ∧ va_K D vwCl (ns_ty D) t ∧ va_D A (WK q)
/-- a method that makes of the cells W0 the cells WK -/
def cM (l : Launch) (y : MethodName) (ws : List Cond) (rm : Room) (D : va_G) (vals : List Value) (W0 : va_W) (h0 : Nat) (WK : (Nat → Nat) → va_W) (mc ms : Nat) : Prop := ∀ sz : Nat, Met l y ws rm (va_Pc vals (cI D W0 sz)) (va_Qv (fun q : Nat → Nat => q 0 = h0) (cB D WK (va_A W0 sz)) (va_A W0 sz)) mc ms (va_A W0 sz)
section CN
variable {p : Program} {l : Launch} {e : Env} {R : Room} {s : State} {m : MethodId} {args : Array Value} {below : List Frame} {meth : Method} {c : Code} {H : Heap} {locs : List Loc} {cells slots : Nat} {Q : State → Prop}
variable {cc : ByteArray} {pc nL : Nat} {ls : Array Slot} {rest : List Value} {own : String} {Ts : List Cond} {D : va_G} {A : Nat → Prop} {ws : va_W}
abbrev cW (D : va_G) (A : Nat → Prop) (H0 : Heap) (ws : va_W) (H : Heap) (locs : List Loc) : Prop := va_P D vwCl ws H ∧ va_D A ws ∧ va_S A H0 H locs ∧ ∀ q, H0.size ≤ q → A q
theorem cn_start {y : MethodName} {wy ws' : List Cond} {rm : Room} {vals : List Value} {W0 : va_W} {h0 : Nat} {WK : (Nat → Nat) → va_W} {mc ms maxL : Nat} (hy : plainName y.cls = true) (hw : wy = Cond.code y cc maxL none :: ws') (hsl : (lg_sl vals).length ≤ maxL)
    (body : ∀ (p : Program) (e : Env) (s : State) (m : MethodId) (below : List Frame) (meth : Method) (c : Code) (A : Nat → Prop) (ls : Array Slot), CallFix p m c cc maxL s vals.toArray wy y.cls → va_K D vwCl (ns_ty D) s → cN s → meth.name = y.name → meth.sig.returnType = none → meth.locks = false → cW D A s.heap W0 s.heap [] → lv_has ls maxL (lv_args 0 vals) → W p l e rm s m vals.toArray below meth c s.heap [] 0 0 (MQ below (va_Qv (fun q : Nat → Nat => q 0 = h0) (cB D WK A) A) vals.toArray s mc ms A) (F0 m 0 ls [])) : cM l y wy rm D vals W0 h0 WK mc ms := by
  intro sz
  refine Met.ofW (cc := cc) (maxL := maxL) (ret := none) hy hw ?_
  intro p e s m args below meth c s₁ B hml hv
  obtain ⟨rfl, hsz, hP, hK, hD, hN⟩ := hv
  have hts := atoms_spec (ws := wy) B.pre
  have hown : s.vm.findClass y.cls = some m.cls := findClass_of_methodNamed B.named
  have hl := lv_entry vals (n := maxL) hsl
  rw [lg_entry_eq]
  subst hsz
  exact body p e s m below meth c _ _ ⟨B.exec, B.bytes, hml, hown, hts⟩ hK hN (name_of_methodNamed B.named B.method).1 B.returns B.notSynchronized ⟨hP, hD.self, va_S.rf, fun q h => Or.inr h⟩ hl
theorem cn_ret {WK : (Nat → Nat) → va_W} {h0 : Nat} (C : CallFix p m c cc nL s args Ts own) (hK : va_K D vwCl (ns_ty D) s) (w : cW D A s.heap ws H locs) (hr : meth.sig.returnType = none) (hlk : meth.locks = false) (q : Nat → Nat) (hq : q 0 = h0) (hws : ws = WK q) (hdg : decode cc pc = .ok (.return_, 1)) : W p l e R s m args below meth c H locs cells slots (MQ below (va_Qv (fun q : Nat → Nat => q 0 = h0) (cB D WK A) A) args s cells slots A) (F0 m pc ls []) :=
  W.vret C.1 C.2.1 hr (fun t ht hW => ⟨⟨q, rfl, hq, by rw [ht, ← hws]; exact w.1, va_K.moved hW.alike hK, by rw [← hws]; exact w.2.1⟩, w.2.2.1.F ht⟩) w.2.2.1.2.2 hdg hlk
theorem cn_obj (C : CallFix p m c cc nL s args Ts own) {idx a : Nat} (hlink : Cond.methodLink own idx objectInit ∈ Ts) (hinst : Cond.instanceMethod objectInit ∈ Ts) (hcode : Cond.code objectInit ⟨#[0xb1]⟩ 1 none ∈ Ts) (hsz : ls.size = nL) (hroom : (rest.map fun v => v.category).sum + 12 ≤ R.locals) (hfr : 1 ≤ R.frames) (hdg : decode cc pc = .ok (.invokespecial idx, 3))
    (kk : W p l e R s m args below meth c H locs cells slots Q (F0 m (pc + 3) ls rest)) : W p l e R s m args below meth c H locs cells slots Q (F0 m pc ls (.ref a :: rest)) := by
  refine W.objInit C.1 C.2.1 C.2.2.2.1 (C.2.2.2.2 _ hlink) (C.2.2.2.2 _ hinst) (C.2.2.2.2 _ hcode) rfl (by rw [C.2.2.1]; exact hsz) rfl hdg hfr ?_ ?_
  · show 2 * 0 + (rest.map fun v => v.category).sum + 12 ≤ R.locals
    omega
  · exact kk
theorem cn_cI {cA : ClassId} (hK : va_K D vwCl (ns_ty D) s) (h : va_K D vwCl (ns_ty D ++ [(cA, .int)]) s) : cA = D.1 100 :=
  Option.some.inj ((show s.vm.findClass _ = some cA from (h.2 5 (cA, .int) rfl).2).symm.trans (show s.vm.findClass _ = some (D.1 100) from (hK.2 0 (D.1 100, .int) rfl).2))
theorem cn_cY {cA : ClassId} (hK : va_K D vwCl (ns_ty D) s) (h : va_K D vwCl (ns_ty D ++ [(cA, .byte)]) s) : cA = D.1 101 :=
  Option.some.inj ((show s.vm.findClass _ = some cA from (h.2 5 (cA, .byte) rfl).2).symm.trans (show s.vm.findClass _ = some (D.1 101) from (hK.2 1 (D.1 101, .byte) rfl).2))
theorem cn_cL {cA : ClassId} (hK : va_K D vwCl (ns_ty D) s) (h : va_K D vwCl (ns_ty D ++ [(cA, .long)]) s) : cA = D.1 102 :=
  Option.some.inj ((show s.vm.findClass _ = some cA from (h.2 5 (cA, .long) rfl).2).symm.trans (show s.vm.findClass _ = some (D.1 102) from (hK.2 2 (D.1 102, .long) rfl).2))
theorem cn_cZ {cA : ClassId} (hK : va_K D vwCl (ns_ty D) s) (h : va_K D vwCl (ns_ty D ++ [(cA, .boolean)]) s) : cA = D.1 103 :=
  Option.some.inj ((show s.vm.findClass _ = some cA from (h.2 5 (cA, .boolean) rfl).2).symm.trans (show s.vm.findClass _ = some (D.1 103) from (hK.2 3 (D.1 103, .boolean) rfl).2))
theorem cn_newa (C : CallFix p m c cc nL s args Ts own) (hK : va_K D vwCl (ns_ty D) s) (w : cW D A s.heap ws H locs) {atype : ArrayType} {ty : FieldType} (hty : newarray.typeOf atype = ty) (harr : Cond.arrayClass (newarray.typeOf atype) ∈ Ts) {k : Nat} (hu : ∀ cA, va_K D vwCl (ns_ty D ++ [(cA, ty)]) s → cA = D.1 (100 + k)) {n : Int32} {N' : Nat} {a0 : (Nat → Int32) ⊕ (Nat → Int64) ⊕ (Nat → UInt32) ⊕ (Nat → UInt64) ⊕ (Nat → Option Nat)} (ha : ∀ cA : ClassId, vp_cell cA (N', a0) = arrV cA N' (fun _ => defaultValue ty)) (hn : ¬ n < 0) (hN : n.toNatClampNeg = N') (hbytes : N' * componentBytes ty ≤ 536870912) {cells' slots' : Nat} (hc : cells + 1 = cells') (hs : slots + N' = slots') (hcells : cells' ≤ R.cells) (hslots : slots' ≤ R.slots) (hdg : decode cc pc = .ok (.newarray atype, 2))
    (kk : ∀ (q : Nat) (H1 : Heap), cW D A s.heap (ws ++ [(q, .inl (D.1 (100 + k), N', a0))]) H1 locs → W p l e R s m args below meth c H1 locs cells' slots' Q (F0 m (pc + 2) ls (.ref q :: rest))) : W p l e R s m args below meth c H locs cells slots Q (F0 m pc ls (.int n :: rest)) := by
  subst hc hs
  refine va_newa C.1 C.2.1 (C.2.2.2.2 _ harr) hty hK w.1 w.2.1 w.2.2.1 w.2.2.2 ha hn hN hbytes hcells hslots hdg (fun q cA H1 h1 h2 h3 h4 => ?_)
  rw [hu cA h1] at h2 h3
  exact kk q H1 ⟨h2, h3, h4, w.2.2.2⟩
theorem cn_newq (C : CallFix p m c cc nL s args Ts own) (hK : va_K D vwCl (ns_ty D) s) (hNs : cN s) (w : cW D A s.heap ws H locs) {index : Nat} (hcl : Cond.classLink own index "NightSchool$School" ∈ Ts) {n : Int32} {N' : Nat} (hn : ¬ n < 0) (hN : n.toNatClampNeg = N') (hbytes : N' * 4 ≤ 536870912) {cells' slots' : Nat} (hc : cells + 1 = cells') (hs : slots + N' = slots') (hcells : cells' ≤ R.cells) (hslots : slots' ≤ R.slots) (hdg : decode cc pc = .ok (.anewarray index, 3))
    (kk : ∀ (q : Nat) (H1 : Heap), cW D A s.heap (ws ++ [(q, .inl (D.1 104, N', .inr (.inr (.inr (.inr (fun _ => none))))))]) H1 locs → W p l e R s m args below meth c H1 locs cells' slots' Q (F0 m (pc + 3) ls (.ref q :: rest))) : W p l e R s m args below meth c H locs cells slots Q (F0 m pc ls (.int n :: rest)) := by
  subst hc hs
  refine va_newq C.1 C.2.1 C.2.2.2.1 (C.2.2.2.2 _ hcl) hNs.2 hK w.1 w.2.1 w.2.2.1 w.2.2.2 hn hN hbytes hcells hslots hdg (fun q cA H1 h1 h2 h3 h4 => ?_)
  obtain ⟨kA, comp, -, -, -, g4⟩ := (h1.2 5 (cA, .object "NightSchool$School") rfl).2
  obtain ⟨kA', comp', -, -, -, g4'⟩ := (hK.2 4 (D.1 104, .object "NightSchool$School") rfl).2
  have e : cA = D.1 104 := Option.some.inj (g4.symm.trans g4')
  rw [e] at h2 h3
  exact kk q H1 ⟨h2, h3, h4, w.2.2.2⟩
/-- a final field of the object at the head -/
theorem cn_putF {a ci : Nat} {fs : List Value} {wt : va_W} (C : CallFix p m c cc nL s args Ts own) (hK : va_K D vwCl (ns_ty D) s) (hnm : meth.name = "<init>") (w : cW D A s.heap ((a, .inr (ci, fs)) :: wt) H locs) {T : u_T} {N : Nat} (hc : vwCl[ci]? = some (own, T, N)) (hin : ∀ w ∈ u_ws own T N, w ∈ Ts) {ty0 : Nat → FieldType} (hty : ∀ k, k < N → parseFieldDescriptor (T k).2.2.1 = some (ty0 k)) (hnn : ∀ a, a < N → ∀ b, b < N → a ≠ b → (T a).2.1 ≠ (T b).2.1) (k : Nat) (hk : k < N) {index : Nat} (hlink : Cond.fieldLink own index (T k).1 (T k).2.1 (T k).2.2.1 ∈ Ts) (hfin : (T k).2.2.2 = true) (hdecl : (T k).1 = own) {v : Value} (hn : narrow (ty0 k) v = v) (hfit : fits (ty0 k) v = true) (hl : k < fs.length) {fs' : List Value} (hf : fs.set k v = fs') (hdg : decode cc pc = .ok (.putfield index, 3))
    (kk : ∀ (H1 : Heap) (locs1 : List Loc), cW D A s.heap ((a, .inr (ci, fs')) :: wt) H1 locs1 → W p l e R s m args below meth c H1 locs1 cells slots Q (F0 m (pc + 3) ls rest)) : W p l e R s m args below meth c H locs cells slots Q (F0 m pc ls (v :: .ref a :: rest)) := by
  subst hf
  exact va_putF (T := T) (ty := ty0 k) C.1 C.2.1 C.2.2.2.2 hin ty0 hty hnn C.2.2.2.1 hK w.1 w.2.1 w.2.2.1 0 rfl hc k hk (C.2.2.2.2 _ hlink) (fun _ h => h) hfin hnm hdecl (hty k hk) hn hfit hl hdg (fun H1 locs1 h1 h2 h3 => kk H1 locs1 ⟨h1, h2, h3, w.2.2.2⟩)
theorem cn_put {a ci : Nat} {fs : List Value} {wt : va_W} (C : CallFix p m c cc nL s args Ts own) (hK : va_K D vwCl (ns_ty D) s) (w : cW D A s.heap ((a, .inr (ci, fs)) :: wt) H locs) {T : u_T} {N : Nat} (hc : vwCl[ci]? = some (own, T, N)) (hin : ∀ w ∈ u_ws own T N, w ∈ Ts) {ty0 : Nat → FieldType} (hty : ∀ k, k < N → parseFieldDescriptor (T k).2.2.1 = some (ty0 k)) (hnn : ∀ a, a < N → ∀ b, b < N → a ≠ b → (T a).2.1 ≠ (T b).2.1) (k : Nat) (hk : k < N) {index : Nat} (hlink : Cond.fieldLink own index (T k).1 (T k).2.1 (T k).2.2.1 ∈ Ts) (hfin : (T k).2.2.2 = false) {v : Value} (hn : narrow (ty0 k) v = v) (hfit : fits (ty0 k) v = true) (hl : k < fs.length) {fs' : List Value} (hf : fs.set k v = fs') (hdg : decode cc pc = .ok (.putfield index, 3))
    (kk : ∀ (H1 : Heap) (locs1 : List Loc), cW D A s.heap ((a, .inr (ci, fs')) :: wt) H1 locs1 → W p l e R s m args below meth c H1 locs1 cells slots Q (F0 m (pc + 3) ls rest)) : W p l e R s m args below meth c H locs cells slots Q (F0 m pc ls (v :: .ref a :: rest)) := by
  subst hf
  exact va_put (T := T) (ty := ty0 k) C.1 C.2.1 C.2.2.2.2 hin ty0 hty hnn C.2.2.2.1 hK w.1 w.2.1 w.2.2.1 0 rfl hc k hk (C.2.2.2.2 _ hlink) (fun _ h => h) hfin (hty k hk) hn hfit hl hdg (fun H1 locs1 h1 h2 h3 => kk H1 locs1 ⟨h1, h2, h3, w.2.2.2⟩)
theorem cn_get {a ci : Nat} {fs : List Value} {wt : va_W} (C : CallFix p m c cc nL s args Ts own) (hK : va_K D vwCl (ns_ty D) s) (w : cW D A s.heap ((a, .inr (ci, fs)) :: wt) H locs) {T : u_T} {N : Nat} (hc : vwCl[ci]? = some (own, T, N)) (hin : ∀ w ∈ u_ws own T N, w ∈ Ts) (k : Nat) (hk : k < N) {index : Nat} (hlink : Cond.fieldLink own index (T k).1 (T k).2.1 (T k).2.2.1 ∈ Ts) {v : Value} (hv : fs[k]? = some v) (hdg : decode cc pc = .ok (.getfield index, 3))
    (kk : W p l e R s m args below meth c H locs cells slots Q (F0 m (pc + 3) ls (v :: rest))) : W p l e R s m args below meth c H locs cells slots Q (F0 m pc ls (.ref a :: rest)) :=
  va_get (T := T) C.1 C.2.1 C.2.2.2.2 hin C.2.2.2.1 hK w.1 0 rfl hc k hk (C.2.2.2.2 _ hlink) (fun _ h => h) hv hdg kk
theorem cn_new (C : CallFix p m c cc nL s args Ts own) (hK : va_K D vwCl (ns_ty D) s) (w : cW D A s.heap ws H locs) {CN : String} {T : u_T} {N ci index : Nat} (hin : ∀ w ∈ u_ws CN T N, w ∈ Ts) {ty0 : Nat → FieldType} (hty : ∀ k, k < N → parseFieldDescriptor (T k).2.2.1 = some (ty0 k)) (hc : vwCl[ci]? = some (CN, T, N)) (hcl : Cond.classLink own index CN ∈ Ts) (hinst : Cond.instantiable CN N ∈ Ts) (hini : Cond.initialized CN ∈ Ts) {fs : List Value} (hfs : ∀ j, j < N → defaultValue (ty0 j) = vp_V fs j) {cells' slots' : Nat} (hcc : cells + 1 = cells') (hs : slots + N = slots') (hcells : cells' ≤ R.cells) (hslots : slots' ≤ R.slots) (hdg : decode cc pc = .ok (.new index, 3))
    (kk : ∀ (q : Nat) (H1 : Heap), cW D A s.heap (ws ++ [(q, .inr (ci, fs))]) H1 locs → W p l e R s m args below meth c H1 locs cells' slots' Q (F0 m (pc + 3) ls (.ref q :: rest))) : W p l e R s m args below meth c H locs cells slots Q (F0 m pc ls rest) := by
  subst hcc hs
  exact va_new (T := T) C.1 C.2.1 C.2.2.2.2 hin ty0 hty C.2.2.2.1 (C.2.2.2.2 _ hcl) (C.2.2.2.2 _ hinst) (C.2.2.2.2 _ hini) hK w.1 w.2.1 w.2.2.1 w.2.2.2 hc hfs hcells hslots hdg (fun q H1 h1 h2 h3 => kk q H1 ⟨h1, h2, h3, w.2.2.2⟩)
theorem cn_split {wr wc : va_W} (w : cW D A s.heap (wr ++ wc) H locs) : va_P D vwCl wc H ∧ va_D A wc ∧ ∀ q, va_A wc H.size q → A q := by
  have hi : ∀ (k : Nat) (q : Nat × va_E), wc[k]? = some q → (wr ++ wc)[wr.length + k]? = some q := fun k q h => by rw [List.getElem?_append_right (by omega), Nat.add_sub_cancel_left]; exact h
  refine ⟨fun k q h => w.1 _ q (hi k q h), ⟨fun i j p q h1 h2 h3 => ?_, fun k q h => w.2.1.2 _ q (hi k q h)⟩, fun q h => ?_⟩
  · have := w.2.1.1 _ _ p q (hi i p h1) (hi j q h2) h3
    omega
  · rcases h with ⟨k, e, h⟩ | h
    · exact w.2.1.2 _ (q, e) (hi k _ h)
    · exact w.2.2.2 q (Nat.le_trans w.2.2.1.1 h)
theorem cn_join {wr wc w1 : va_W} {H1 : Heap} (w : cW D A s.heap (wr ++ wc) H locs) (hk : ∀ q : Nat, q < H.size → ¬ va_A wc H.size q → H1[q]? = H[q]?) (hP1 : va_P D vwCl w1 H1) (hD1 : va_D (va_A wc H.size) w1) : va_P D vwCl (wr ++ w1) H1 ∧ va_D A (wr ++ w1) := by
  have hA := (cn_split w).2.2
  have hl : ∀ (k : Nat) (q : Nat × va_E), wr[k]? = some q → (wr ++ wc)[k]? = some q := fun k q h => by rw [List.getElem?_append_left (List.getElem?_eq_some_iff.mp h).1]; exact h
  have hr : ∀ (k : Nat) (q : Nat × va_E), wc[k]? = some q → (wr ++ wc)[wr.length + k]? = some q := fun k q h => by rw [List.getElem?_append_right (by omega), Nat.add_sub_cancel_left]; exact h
  have out : ∀ (k : Nat) (q : Nat × va_E), wr[k]? = some q → q.1 < H.size ∧ ¬ va_A wc H.size q.1 := fun k q h => by
    have h1 := (w.1 k q (hl k q h)).lt
    refine ⟨h1, fun z => ?_⟩
    rcases z with ⟨j, e, hj⟩ | z
    · have h2 := w.2.1.1 k (wr.length + j) q (q.1, e) (hl k q h) (hr j _ hj) rfl
      have h3 := (List.getElem?_eq_some_iff.mp h).1
      omega
    · omega
  have cas : ∀ (k : Nat) (q : Nat × va_E), (wr ++ w1)[k]? = some q → (k < wr.length ∧ wr[k]? = some q) ∨ (wr.length ≤ k ∧ w1[k - wr.length]? = some q) := fun k q h => by
    by_cases c : k < wr.length
    · rw [List.getElem?_append_left c] at h; exact Or.inl ⟨c, h⟩
    · rw [List.getElem?_append_right (by omega)] at h; exact Or.inr ⟨by omega, h⟩
  refine ⟨fun k q h => ?_, ⟨fun i j x y h1 h2 h3 => ?_, fun k q h => ?_⟩⟩
  · rcases cas k q h with ⟨-, h⟩ | ⟨-, h⟩
    · have h5 := w.1 k q (hl k q h)
      exact h5.kept (hk q.1 (out k q h).1 (out k q h).2)
    · exact hP1 _ q h
  · rcases cas i x h1 with ⟨c1, h1⟩ | ⟨c1, h1⟩ <;> rcases cas j y h2 with ⟨c2, h2⟩ | ⟨c2, h2⟩
    · exact w.2.1.1 i j x y (hl i x h1) (hl j y h2) h3
    · exact absurd (by rw [h3]; exact hD1.2 _ y h2) (out i x h1).2
    · exact absurd (by rw [← h3]; exact hD1.2 _ x h1) (out j y h2).2
    · have := hD1.1 _ _ x y h1 h2 h3
      omega
  · rcases cas k q h with ⟨-, h⟩ | ⟨-, h⟩
    · exact w.2.1.2 k q (hl k q h)
    · exact hA _ (hD1.2 _ q h)
theorem cn_last {a n : Nat} {f : Nat → Int64} {i : Int32} {x : Int64} (q0 : Nat) (C : CallFix p m c cc nL s args Ts own) (hK : va_K D vwCl (ns_ty D) s) (w : cW D A s.heap ws H locs) (ha : ws[q0]? = some (a, .inl (D.1 102, n, .inr (.inl f)))) (hin : vp_in i n) (hdg : decode cc pc = .ok (.lastore, 1))
    (kk : ∀ (H1 : Heap) (locs1 : List Loc), cW D A s.heap (ws.set q0 (a, .inl (D.1 102, n, .inr (.inl (vp_updL f i.toNatClampNeg x))))) H1 locs1 → W p l e R s m args below meth c H1 locs1 cells slots Q (F0 m (pc + 1) ls rest)) : W p l e R s m args below meth c H locs cells slots Q (F0 m pc ls (.long x :: .int i :: .ref a :: rest)) :=
  va_last C.1 C.2.1 hK w.1 w.2.1 w.2.2.1 q0 2 ha rfl hin hdg (fun H1 locs1 h1 h2 h3 => kk H1 locs1 ⟨h1, h2, h3, w.2.2.2⟩)
theorem cn_iast {a n : Nat} {f : Nat → Int32} {i x : Int32} (q0 : Nat) (C : CallFix p m c cc nL s args Ts own) (hK : va_K D vwCl (ns_ty D) s) (w : cW D A s.heap ws H locs) (ha : ws[q0]? = some (a, .inl (D.1 100, n, .inl f))) (hin : vp_in i n) (hdg : decode cc pc = .ok (.iastore, 1))
    (kk : ∀ (H1 : Heap) (locs1 : List Loc), cW D A s.heap (ws.set q0 (a, .inl (D.1 100, n, .inl (upd f i.toNatClampNeg x)))) H1 locs1 → W p l e R s m args below meth c H1 locs1 cells slots Q (F0 m (pc + 1) ls rest)) : W p l e R s m args below meth c H locs cells slots Q (F0 m pc ls (.int x :: .int i :: .ref a :: rest)) :=
  va_iast C.1 C.2.1 hK w.1 w.2.1 w.2.2.1 q0 0 ha rfl hin hdg (fun H1 locs1 h1 h2 h3 => kk H1 locs1 ⟨h1, h2, h3, w.2.2.2⟩)
/-- a constructor's call: the object lies at the end of the world -/
theorem cn_callI {wr W0 : va_W} {h0 : Nat} {WK : (Nat → Nat) → va_W} {mc ms : Nat} (C : CallFix p m c cc nL s args Ts own) (hK : va_K D vwCl (ns_ty D) s) (hN : cN s) (w : cW D A s.heap (wr ++ W0) H locs) {y : MethodName} {wy ws' : List Cond} {rm : Room} {bytes : ByteArray} {maxL : Nat} (hM : cM l y wy rm D [.ref h0] W0 h0 WK mc ms) {index : Nat} (hT : GoodIn Ts wy) (hw : wy = Cond.code y bytes maxL none :: ws') (hrc : rm.cells = mc) (hrs : rm.slots = ms) (hini : Cond.initialized y.cls ∈ Ts) (hlink : Cond.methodLink own index y ∈ Ts) (hinst : Cond.instanceMethod y ∈ Ts) (hy : y.name = "<init>") (hd : y.cls ≠ "java/lang/invoke/MethodHandle" ∧ y.cls ≠ "java/lang/invoke/VarHandle" ∧ (parseMethodDescriptor y.desc).map (fun d => d.parameters.length) = some 0) (hR : rm.frames + 1 ≤ R.frames ∧ 8 + (maxL + 11) + rm.locals ≤ R.locals) (hsize : ls.size = nL) (hroom : (rest.map fun v => v.category).sum ≤ 8) {cells' slots' : Nat} (hcc : cells + mc = cells') (hss : slots + ms = slots') (hcells : cells' ≤ R.cells) (hslots : slots' ≤ R.slots) (hdg : decode cc pc = .ok (.invokespecial index, 3))
    (kk : ∀ (u : Nat → Nat) (H1 : Heap) (locs1 : List Loc), u 0 = h0 → cW D A s.heap (wr ++ WK u) H1 locs1 → W p l e R s m args below meth c H1 locs1 cells' slots' Q (F0 m (pc + 3) ls rest)) : W p l e R s m args below meth c H locs cells slots Q (F0 m pc ls (.ref h0 :: rest)) := by
  subst hcc hss
  obtain ⟨hPc, hDc, hFc⟩ := cn_split w
  refine va_callv (va_runI (As := []) (rest := rest) C (hM H.size) (cwI 0 C.2.2.2.2 hT hw hrc hrs (C.2.2.2.2 _ hini) (C.2.2.2.2 _ hlink) (C.2.2.2.2 _ hinst) hy hd hR) ⟨fun a U g mk q => ?_, fun U hU hW => ⟨rfl, by rw [hU], by rw [hU]; exact hPc, va_K.moved hW.alike hK, hDc.weaken (fun _ _ _ _ => trivial), hN.warm hW⟩⟩ rfl rfl hsize rfl (lv_room hroom) hdg ⟨hcells, hslots⟩) w.2.2.1 (fun q _ h => hFc q h) hFc (fun u t H1 locs1 ht hvm hw hB hz1 hk1 hS => ?_)
  · obtain ⟨q0, q1, qP, qK, qD, qN⟩ := q
    exact ⟨q0, q1, qP, va_K.moved (u := U) (U := U.calling g mk a) (Vm.Alike.refl U.vm) qK, qD, qN.same (u := U) (U := U.calling g mk a) rfl⟩
  · obtain ⟨hP1, hK1, hD1⟩ := hB
    rw [ht] at hP1
    obtain ⟨j1, j2⟩ := cn_join w hk1 hP1 hD1
    exact kk u H1 locs1 hw ⟨j1, j2, hS, w.2.2.2⟩
theorem cn_callN {wr W0 : va_W} {h0 : Nat} {WK : (Nat → Nat) → va_W} {mc ms : Nat} (C : CallFix p m c cc nL s args Ts own) (hK : va_K D vwCl (ns_ty D) s) (hN : cN s) (w : cW D A s.heap (wr ++ W0) H locs) {y : MethodName} {wy ws' : List Cond} {rm : Room} {bytes : ByteArray} {maxL : Nat} (hM : cM l y wy rm D [.ref h0] W0 h0 WK mc ms) {index : Nat} (hT : GoodIn Ts wy) (hw : wy = Cond.code y bytes maxL none :: ws') (hrc : rm.cells = mc) (hrs : rm.slots = ms) (hini : Cond.initialized y.cls ∈ Ts) (hlink : (own, index, y) ∈ nst) (hinst : Cond.instanceMethod y ∈ Ts) (hy : y.name = "<init>") (hd : y.cls ≠ "java/lang/invoke/MethodHandle" ∧ y.cls ≠ "java/lang/invoke/VarHandle" ∧ (parseMethodDescriptor y.desc).map (fun d => d.parameters.length) = some 0) (hR : rm.frames + 1 ≤ R.frames ∧ 8 + (maxL + 11) + rm.locals ≤ R.locals) (hsize : ls.size = nL) (hroom : (rest.map fun v => v.category).sum ≤ 8) {cells' slots' : Nat} (hcc : cells + mc = cells') (hss : slots + ms = slots') (hcells : cells' ≤ R.cells) (hslots : slots' ≤ R.slots) (hdg : decode cc pc = .ok (.invokespecial index, 3))
    (kk : ∀ (u : Nat → Nat) (H1 : Heap) (locs1 : List Loc), u 0 = h0 → cW D A s.heap (wr ++ WK u) H1 locs1 → W p l e R s m args below meth c H1 locs1 cells' slots' Q (F0 m (pc + 3) ls rest)) : W p l e R s m args below meth c H locs cells slots Q (F0 m pc ls (.ref h0 :: rest)) := by
  subst hcc hss
  obtain ⟨hPc, hDc, hFc⟩ := cn_split w
  refine va_callv (va_runIN (As := []) (rest := rest) C (hM H.size) ⟨va_cnB 0 C.2.2.2.2 hT hw hrc hrs (hN.1 _ hlink) (C.2.2.2.2 _ hini) hd hR, hy, C.2.2.2.2 _ hinst⟩ ⟨fun a U g mk q => ?_, fun U hU hW => ⟨rfl, by rw [hU], by rw [hU]; exact hPc, va_K.moved hW.alike hK, hDc.weaken (fun _ _ _ _ => trivial), hN.warm hW⟩⟩ rfl rfl hsize rfl (lv_room hroom) hdg ⟨hcells, hslots⟩) w.2.2.1 (fun q _ h => hFc q h) hFc (fun u t H1 locs1 ht hvm hw hB hz1 hk1 hS => ?_)
  · obtain ⟨q0, q1, qP, qK, qD, qN⟩ := q
    exact ⟨q0, q1, qP, va_K.moved (u := U) (U := U.calling g mk a) (Vm.Alike.refl U.vm) qK, qD, qN.same (u := U) (U := U.calling g mk a) rfl⟩
  · obtain ⟨hP1, hK1, hD1⟩ := hB
    rw [ht] at hP1
    obtain ⟨j1, j2⟩ := cn_join w hk1 hP1 hD1
    exact kk u H1 locs1 hw ⟨j1, j2, hS, w.2.2.2⟩
end CN
theorem wd_ch : ∀ j, j < 15 → (vp_updL (vp_updL (vp_updL (vp_updL (vp_updL (vp_updL (vp_updL (vp_updL (vp_updL (vp_updL (vp_updL (vp_updL (vp_updL (vp_updL (vp_updL (fun _ => 0) 0 2003330414) 1 6385252) 2 6383461) 3 483006772069) 4 27988572916376947) 5 7566701) 6 439855772532) 7 2003133803) 8 6382692) 9 1818588019) 10 1885434484) 11 465557353332) 12 1836020596) 13 1718773093) 14 6647396) j = ns_wd j := by decide +kernel
theorem wd_cell (cA : ClassId) : vp_cell cA (15, .inr (.inl (vp_updL (vp_updL (vp_updL (vp_updL (vp_updL (vp_updL (vp_updL (vp_updL (vp_updL (vp_updL (vp_updL (vp_updL (vp_updL (vp_updL (vp_updL (fun _ => 0) 0 2003330414) 1 6385252) 2 6383461) 3 483006772069) 4 27988572916376947) 5 7566701) 6 439855772532) 7 2003133803) 8 6382692) 9 1818588019) 10 1885434484) 11 465557353332) 12 1836020596) 13 1718773093) 14 6647396))) = vp_cell cA (15, .inr (.inl ns_wd)) := cell_L wd_ch
abbrev rmJ7_fill : Room := { frames := 0, cells := 0, slots := 0, locals := 0 }
theorem hdJ7_fillS : yJ7_fill_53178.cls ≠ "java/lang/invoke/MethodHandle" ∧ yJ7_fill_53178.cls ≠ "java/lang/invoke/VarHandle" ∧ (parseMethodDescriptor yJ7_fill_53178.desc).map (fun d => d.parameters.length) = some 2 := by decide +kernel
set_option maxHeartbeats 4000000 in
set_option maxRecDepth 100000 in
theorem cf_loop {p : Program} {l : Launch} {e : Env} {s : State} {m : MethodId} {args : Array Value} {below : List Frame} {meth : Method} {c : Code} {D : va_G} {A : Nat → Prop} {a n : Nat} {v : Int32} (hn : n < 1000) (C : CallFix p m c cJ7_fill_53178 4 s args wsJ7_fill_53178 RJ7) (hK : va_K D vwCl (ns_ty D) s) (hr : meth.sig.returnType = none) (hlk : meth.locks = false) : ∀ (d i : Nat) (g : Nat → Int32) (H : Heap) (locs : List Loc) (ls : Array Slot), i + d = n → (∀ j, j < i → g j = v) → cW D A s.heap [(a, .inl (D.1 100, n, .inl g))] H locs → lv_has ls 4 [(0, .ref a), (1, .int v), (2, .int (nI i)), (3, .int (nI n))] → W p l e rmJ7_fill s m args below meth c H locs 0 0 (MQ below (va_Qv (fun q : Nat → Nat => q 0 = a) (cB D (fun _ => [(a, .inl (D.1 100, n, .inl (fun _ => v)))]) A) A) args s 0 0 A) (F0 m 5 ls []) := by
  intro d
  induction d with
  | zero =>
    intro i g H locs ls h1 h2 w hl
    obtain rfl : i = n := by omega
    refine lv_iload_n C.1 C.2.1 dJ7_fill_53178_5 rfl (lv_at hl 2 rfl) ?_
    refine lv_iload_n C.1 C.2.1 dJ7_fill_53178_6 rfl (lv_at hl 3 rfl) ?_
    refine lv_icmp_ge (tgt := 20) C.1 C.2.1 dJ7_fill_53178_7 (by decide) (fun _ => ?_) (fun h => absurd (nI_le (Nat.le_refl i) (by omega)) h)
    have w : cW D A s.heap (([(a, .inl (D.1 100, i, .inl g))] : va_W).set 0 (a, .inl (D.1 100, i, .inl (fun _ => v)))) H locs := ⟨va_cong w.1 (k := 0) rfl (cell_I (fun j hj => h2 j hj)), w.2.1.set (p := 0) rfl, w.2.2⟩
    exact cn_ret C hK w hr hlk (fun _ => a) rfl rfl dJ7_fill_53178_20
  | succ d ih =>
    intro i g H locs ls h1 h2 w hl
    refine lv_iload_n C.1 C.2.1 dJ7_fill_53178_5 rfl (lv_at hl 2 rfl) ?_
    refine lv_iload_n C.1 C.2.1 dJ7_fill_53178_6 rfl (lv_at hl 3 rfl) ?_
    refine lv_icmp_ge (tgt := 20) C.1 C.2.1 dJ7_fill_53178_7 (by decide) (fun h => absurd h (nI_ge (by omega) (by omega))) (fun _ => ?_)
    refine lv_aload_n C.1 C.2.1 dJ7_fill_53178_10 rfl (lv_at hl 0 rfl) ?_
    refine lv_iload_n C.1 C.2.1 dJ7_fill_53178_11 rfl (lv_at hl 2 rfl) ?_
    refine lv_iload_n C.1 C.2.1 dJ7_fill_53178_12 rfl (lv_at hl 1 rfl) ?_
    refine cn_iast (f := g) 0 C hK w rfl (vp_in_nI (by omega) (by omega)) dJ7_fill_53178_13 (fun H locs w => ?_)
    rw [nI_clamp (by omega)] at w
    have w : cW D A s.heap [(a, .inl (D.1 100, n, .inl (upd g i v)))] H locs := w
    refine lv_iinc (v := nI (i + 1)) (lv' := [(2, .int (nI (i + 1))), (0, .ref a), (1, .int v), (3, .int (nI n))]) C.1 C.2.1 dJ7_fill_53178_14 hl (k := 2) rfl (nI_1 i) (by decide) rfl (fun ls hl => ?_)
    refine lv_goto (tgt := 5) C.1 C.2.1 dJ7_fill_53178_17 (by decide) ?_
    refine ih (i + 1) (upd g i v) H locs ls (by omega) (fun j hj => ?_) w (lv_sub hl [1, 2, 0, 3] rfl)
    by_cases q : j = i
    · rw [q]; exact ud_s
    · rw [ud_n q]; exact h2 j (by omega)
set_option maxHeartbeats 4000000 in
set_option maxRecDepth 100000 in
theorem iJ7_fill (l : Launch) (D : va_G) (a n : Nat) (f : Nat → Int32) (v : Int32) (hn : n < 1000) : cM l yJ7_fill_53178 wsJ7_fill_53178 rmJ7_fill D [.ref a, .int v] [(a, .inl (D.1 100, n, .inl f))] a (fun _ => [(a, .inl (D.1 100, n, .inl (fun _ => v)))]) 0 0 := by
  refine cn_start (cc := cJ7_fill_53178) (maxL := 4) (by decide) rfl (Nat.le_of_ble_eq_true rfl) ?_
  intro p e s m below meth c A ls C hK hN hnm hr hlk w hl
  have hl : lv_has ls 4 [(0, .ref a), (1, .int v)] := hl
  refine lv_iconst (v := 0) C.1 C.2.1 dJ7_fill_53178_0 (by decide) ?_
  refine lv_istore_n (lv' := [(2, .int 0), (0, .ref a), (1, .int v)]) C.1 C.2.1 dJ7_fill_53178_1 rfl hl (by decide) rfl (fun ls hl => ?_)
  refine lv_aload_n C.1 C.2.1 dJ7_fill_53178_2 rfl (lv_at hl 1 rfl) ?_
  refine va_alen (v := nI n) C.1 C.2.1 hK w.1 0 0 rfl (ty := .int) rfl rfl dJ7_fill_53178_3 ?_
  refine lv_istore_n (lv' := [(3, .int (nI n)), (2, .int 0), (0, .ref a), (1, .int v)]) C.1 C.2.1 dJ7_fill_53178_4 rfl hl (by decide) rfl (fun ls hl => ?_)
  exact cf_loop hn C hK hr hlk n 0 f _ _ ls (by omega) (fun j hj => absurd hj (Nat.not_lt_zero j)) w (lv_sub hl [2, 3, 1, 0] rfl)
section CF
variable {p : Program} {l : Launch} {e : Env} {R : Room} {s : State} {m : MethodId} {args : Array Value} {below : List Frame} {meth : Method} {c : Code} {H : Heap} {locs : List Loc} {cells slots : Nat} {Q : State → Prop}
variable {cc : ByteArray} {pc nL : Nat} {ls : Array Slot} {rest : List Value} {own : String} {Ts : List Cond} {D : va_G} {A : Nat → Prop} {ws : va_W}
/-- Arrays.fill over one row of the world -/
theorem cn_fill {a n : Nat} {f : Nat → Int32} (q0 : Nat) (C : CallFix p m c cc nL s args Ts own) (hK : va_K D vwCl (ns_ty D) s) (hN : cN s) (w : cW D A s.heap ws H locs) (ha : ws[q0]? = some (a, .inl (D.1 100, n, .inl f))) {v : Int32} (hn : n < 1000) {index : Nat} (hT : GoodIn Ts (va_wsS own index yJ7_fill_53178 wsJ7_fill_53178)) (hsize : ls.size = nL) (hroom : (rest.map fun v => v.category).sum ≤ 8) (hR : 0 + 1 ≤ R.frames ∧ 8 + (4 + 11) + 0 ≤ R.locals) (hcs : cells ≤ R.cells ∧ slots ≤ R.slots) (hdg : decode cc pc = .ok (.invokestatic index, 3))
    (kk : ∀ (H1 : Heap) (locs1 : List Loc), cW D A s.heap (ws.set q0 (a, .inl (D.1 100, n, .inl (fun _ => v)))) H1 locs1 → W p l e R s m args below meth c H1 locs1 cells slots Q (F0 m (pc + 3) ls rest)) : W p l e R s m args below meth c H locs cells slots Q (F0 m pc ls (.int v :: .ref a :: rest)) := by
  have hPc : va_P D vwCl [(a, .inl (D.1 100, n, .inl f))] H := fun k q h => by
    have hk : k = 0 := by have := (List.getElem?_eq_some_iff.mp h).1; simp at this; exact this
    subst hk
    cases h
    exact w.1 q0 _ ha
  have hDc : va_D A [(a, .inl (D.1 100, n, .inl f))] := ⟨fun i j x y h1 h2 _ => by
    have a1 := (List.getElem?_eq_some_iff.mp h1).1
    have a2 := (List.getElem?_eq_some_iff.mp h2).1
    simp at a1 a2
    omega, fun k q h => by
    have hk : k = 0 := by have := (List.getElem?_eq_some_iff.mp h).1; simp at this; exact this
    subst hk
    cases h
    exact w.2.1.2 q0 _ ha⟩
  have hFc : ∀ q, va_A [(a, .inl (D.1 100, n, .inl f))] H.size q → A q := fun q h => by
    rcases h with ⟨k, e, h⟩ | h
    · exact hDc.2 k (q, e) h
    · exact w.2.2.2 q (Nat.le_trans w.2.2.1.1 h)
  refine va_callv (va_runS (As := [.ref a, .int v]) (rest := rest) C (iJ7_fill l D a n f v hn H.size) (va_cwS 2 C.2.2.2.2 hT rfl rfl rfl hdJ7_fillS hR) ⟨fun a U g mk q => ?_, fun U hU hW => ⟨rfl, by rw [hU], by rw [hU]; exact hPc, va_K.moved hW.alike hK, hDc.weaken (fun _ _ _ _ => trivial), hN.warm hW⟩⟩ rfl rfl hsize rfl (lv_room hroom) hdg hcs) w.2.2.1 (fun q _ h => hFc q h) hFc (fun u t H1 locs1 ht hvm hw hB hz1 hk1 hS => ?_)
  · obtain ⟨q0, q1, qP, qK, qD, qN⟩ := q
    exact ⟨q0, q1, qP, va_K.moved (u := U) (U := U.calling g mk a) (Vm.Alike.refl U.vm) qK, qD, qN.same (u := U) (U := U.calling g mk a) rfl⟩
  · obtain ⟨hP1, hK1, hD1⟩ := hB
    rw [ht] at hP1
    refine kk H1 locs1 ⟨fun k q h => ?_, w.2.1.set ha, hS, w.2.2.2⟩
    rw [List.getElem?_set] at h
    by_cases c : q0 = k
    · subst c
      rw [if_pos rfl, if_pos (List.getElem?_eq_some_iff.mp ha).1] at h
      cases h
      exact hP1 0 _ rfl
    · rw [if_neg c] at h
      have h5 := w.1 k q h
      refine h5.kept (hk1 q.1 h5.lt (fun z => ?_))
      rcases z with ⟨j, e, hj⟩ | z
      · have hj0 : j = 0 := by have := (List.getElem?_eq_some_iff.mp hj).1; simp at this; exact this
        subst hj0
        have hj1 : a = q.1 := congrArg Prod.fst (Option.some.inj hj : (a, (Sum.inl (D.1 100, n, .inl f) : va_E)) = (q.1, e))
        exact c (w.2.1.1 q0 k _ q ha h hj1)
      · have := h5.lt; omega
end CF
