/-! constructors: their judgement, and a row an instruction -/
theorem arr_congr {cA : ClassId} {n : Nat} {f g : Nat → Value} (h : ∀ j, j < n → f j = g j) : arrV cA n f = arrV cA n g := by
  unfold arrV
  have e : (Array.ofFn (n := n) fun j => f j.val) = Array.ofFn (n := n) fun j => g j.val := congrArg Array.ofFn (funext fun j => h j.val j.isLt)
  rw [e]
theorem va_cong {D : va_G} {cl : List vw_C} {ws : va_W} {H : Heap} (h : va_P D cl ws H) {k a : Nat} {cA : ClassId} {a0 a1 : vp_A} (ha : ws[k]? = some (a, .inl (cA, a0))) (hc : vp_cell cA a0 = vp_cell cA a1) : va_P D cl (ws.set k (a, .inl (cA, a1))) H := by
  intro j q hq
  rw [List.getElem?_set] at hq
  by_cases e : k = j
  · subst e
    have hl : k < ws.length := (List.getElem?_eq_some_iff.mp ha).1
    rw [if_pos rfl, if_pos hl] at hq
    cases hq
    show H[a]? = some (vp_cell cA a1)
    rw [← hc]
    exact h k _ ha
  · rw [if_neg e] at hq
    exact h j q hq
def cI (D : va_G) (W0 : va_W) (sz : Nat) : State → Prop := fun U => U.heap.size = sz ∧ va_P D vwCl W0 U.heap ∧ va_K D vwCl (ns_ty D) U ∧ va_D (fun _ => True) W0
def cB (D : va_G) (WK : (Nat → Nat) → va_W) (A : Nat → Prop) (q : Nat → Nat) (t : State) : Prop := va_P D vwCl (WK q) t.heap ∧ va_K D vwCl (ns_ty D) t ∧ va_D A (WK q)
/-- a method that makes of the cells W0 the cells WK -/
def cM (l : Launch) (y : MethodName) (ws : List Cond) (rm : Room) (D : va_G) (vals : List Value) (W0 : va_W) (h0 : Nat) (WK : (Nat → Nat) → va_W) (mc ms : Nat) : Prop := ∀ sz : Nat, Met l y ws rm (va_Pc vals (cI D W0 sz)) (va_Qv (fun q : Nat → Nat => q 0 = h0) (cB D WK (va_A W0 sz)) (va_A W0 sz)) mc ms (va_A W0 sz)
section CN
variable {p : Program} {l : Launch} {e : Env} {R : Room} {s : State} {m : MethodId} {args : Array Value} {below : List Frame} {meth : Method} {c : Code} {H : Heap} {locs : List Loc} {cells slots : Nat} {Q : State → Prop}
variable {cc : ByteArray} {pc nL : Nat} {ls : Array Slot} {rest : List Value} {own : String} {Ts : List Cond} {D : va_G} {A : Nat → Prop} {ws : va_W}
abbrev cW (D : va_G) (A : Nat → Prop) (H0 : Heap) (ws : va_W) (H : Heap) (locs : List Loc) : Prop := va_P D vwCl ws H ∧ va_D A ws ∧ va_S A H0 H locs ∧ ∀ q, H0.size ≤ q → A q
theorem cn_start {y : MethodName} {wy ws' : List Cond} {rm : Room} {vals : List Value} {W0 : va_W} {h0 : Nat} {WK : (Nat → Nat) → va_W} {mc ms maxL : Nat} (hy : plainName y.cls = true) (hw : wy = Cond.code y cc maxL none :: ws') (hsl : (lg_sl vals).length ≤ maxL)
    (body : ∀ (p : Program) (e : Env) (s : State) (m : MethodId) (below : List Frame) (meth : Method) (c : Code) (A : Nat → Prop) (ls : Array Slot), CallFix p m c cc maxL s vals.toArray wy y.cls → va_K D vwCl (ns_ty D) s → meth.name = y.name → meth.sig.returnType = none → meth.locks = false → cW D A s.heap W0 s.heap [] → lv_has ls maxL (lv_args 0 vals) → W p l e rm s m vals.toArray below meth c s.heap [] 0 0 (MQ below (va_Qv (fun q : Nat → Nat => q 0 = h0) (cB D WK A) A) vals.toArray s mc ms A) (F0 m 0 ls [])) : cM l y wy rm D vals W0 h0 WK mc ms := by
  intro sz
  refine Met.ofW (cc := cc) (maxL := maxL) (ret := none) hy hw ?_
  intro p e s m args below meth c s₁ B hml hv
  obtain ⟨rfl, hsz, hP, hK, hD⟩ := hv
  have hts := atoms_spec (ws := wy) B.pre
  have hown : s.vm.findClass y.cls = some m.cls := findClass_of_methodNamed B.named
  have hl := lv_entry vals (n := maxL) hsl
  rw [lg_entry_eq]
  subst hsz
  exact body p e s m below meth c _ _ ⟨B.exec, B.bytes, hml, hown, hts⟩ hK (name_of_methodNamed B.named B.method).1 B.returns B.notSynchronized ⟨hP, hD.self, va_S.rf, fun q h => Or.inr h⟩ hl
theorem cn_ret {WK : (Nat → Nat) → va_W} {h0 : Nat} (C : CallFix p m c cc nL s args Ts own) (hK : va_K D vwCl (ns_ty D) s) (w : cW D A s.heap ws H locs) (hr : meth.sig.returnType = none) (hlk : meth.locks = false) (q : Nat → Nat) (hq : q 0 = h0) (hws : ws = WK q) (hdg : decode cc pc = .ok (.return_, 1)) : W p l e R s m args below meth c H locs cells slots (MQ below (va_Qv (fun q : Nat → Nat => q 0 = h0) (cB D WK A) A) args s cells slots A) (F0 m pc ls []) :=
  W.vret C.1 C.2.1 hr (fun t ht hW => ⟨⟨q, rfl, hq, by rw [ht, ← hws]; exact w.1, va_K.moved hW.alike hK, by rw [← hws]; exact w.2.1⟩, w.2.2.1.F ht⟩) w.2.2.1.2.2 hdg hlk
theorem cn_obj (C : CallFix p m c cc nL s args Ts own) {idx a : Nat} (hlink : Cond.methodLink own idx objectInit ∈ Ts) (hinst : Cond.instanceMethod objectInit ∈ Ts) (hcode : Cond.code objectInit ⟨#[0xb1]⟩ 1 none ∈ Ts) (hsz : ls.size = nL) (hroom : (rest.map fun v => v.category).sum + 12 ≤ R.locals) (hfr : 1 ≤ R.frames) (hdg : decode cc pc = .ok (.invokespecial idx, 3))
    (kk : W p l e R s m args below meth c H locs cells slots Q (F0 m (pc + 3) ls rest)) : W p l e R s m args below meth c H locs cells slots Q (F0 m pc ls (.ref a :: rest)) := by
  refine W.objInit C.1 C.2.1 C.2.2.2.1 (C.2.2.2.2 _ hlink) (C.2.2.2.2 _ hinst) (C.2.2.2.2 _ hcode) rfl (by rw [C.2.2.1]; exact hsz) rfl hdg hfr ?_ ?_
  · show 2 * 0 + (rest.map fun v => v.category).sum + 12 ≤ R.locals
    omega
  · exact kk
theorem cn_cI {cA : ClassId} (hK : va_K D vwCl (ns_ty D) s) (h : va_K D vwCl (ns_ty D ++ [(cA, .int)]) s) : cA = D.1 100 :=
  Option.some.inj ((show s.vm.findClass _ = some cA from (h.2 5 (cA, .int) rfl).2).symm.trans (show s.vm.findClass _ = some (D.1 100) from (hK.2 0 (D.1 100, .int) rfl).2))
theorem cn_cY {cA : ClassId} (hK : va_K D vwCl (ns_ty D) s) (h : va_K D vwCl (ns_ty D ++ [(cA, .byte)]) s) : cA = D.1 101 :=
  Option.some.inj ((show s.vm.findClass _ = some cA from (h.2 5 (cA, .byte) rfl).2).symm.trans (show s.vm.findClass _ = some (D.1 101) from (hK.2 1 (D.1 101, .byte) rfl).2))
theorem cn_cL {cA : ClassId} (hK : va_K D vwCl (ns_ty D) s) (h : va_K D vwCl (ns_ty D ++ [(cA, .long)]) s) : cA = D.1 102 :=
  Option.some.inj ((show s.vm.findClass _ = some cA from (h.2 5 (cA, .long) rfl).2).symm.trans (show s.vm.findClass _ = some (D.1 102) from (hK.2 2 (D.1 102, .long) rfl).2))
theorem cn_cZ {cA : ClassId} (hK : va_K D vwCl (ns_ty D) s) (h : va_K D vwCl (ns_ty D ++ [(cA, .boolean)]) s) : cA = D.1 103 :=
  Option.some.inj ((show s.vm.findClass _ = some cA from (h.2 5 (cA, .boolean) rfl).2).symm.trans (show s.vm.findClass _ = some (D.1 103) from (hK.2 3 (D.1 103, .boolean) rfl).2))
theorem cn_newa (C : CallFix p m c cc nL s args Ts own) (hK : va_K D vwCl (ns_ty D) s) (w : cW D A s.heap ws H locs) {atype : ArrayType} {ty : FieldType} (hty : newarray.typeOf atype = ty) (harr : Cond.arrayClass (newarray.typeOf atype) ∈ Ts) {k : Nat} (hu : ∀ cA, va_K D vwCl (ns_ty D ++ [(cA, ty)]) s → cA = D.1 (100 + k)) {n : Int32} {N' : Nat} {a0 : (Nat → Int32) ⊕ (Nat → Int64) ⊕ (Nat → UInt32) ⊕ (Nat → UInt64) ⊕ (Nat → Option Nat)} (ha : ∀ cA : ClassId, vp_cell cA (N', a0) = arrV cA N' (fun _ => defaultValue ty)) (hn : ¬ n < 0) (hN : n.toNatClampNeg = N') (hbytes : N' * componentBytes ty ≤ 536870912) {cells' slots' : Nat} (hc : cells + 1 = cells') (hs : slots + N' = slots') (hcells : cells' ≤ R.cells) (hslots : slots' ≤ R.slots) (hdg : decode cc pc = .ok (.newarray atype, 2))
    (kk : ∀ (q : Nat) (H1 : Heap), cW D A s.heap (ws ++ [(q, .inl (D.1 (100 + k), N', a0))]) H1 locs → W p l e R s m args below meth c H1 locs cells' slots' Q (F0 m (pc + 2) ls (.ref q :: rest))) : W p l e R s m args below meth c H locs cells slots Q (F0 m pc ls (.int n :: rest)) := by
  subst hc hs
  refine va_newa C.1 C.2.1 (C.2.2.2.2 _ harr) hty hK w.1 w.2.1 w.2.2.1 w.2.2.2 ha hn hN hbytes hcells hslots hdg (fun q cA H1 h1 h2 h3 h4 => ?_)
  rw [hu cA h1] at h2 h3
  exact kk q H1 ⟨h2, h3, h4, w.2.2.2⟩
theorem cn_newq (C : CallFix p m c cc nL s args Ts own) (hK : va_K D vwCl (ns_ty D) s) (w : cW D A s.heap ws H locs) {index : Nat} (hcl : Cond.classLink own index "NightSchool$School" ∈ Ts) (hov : Cond.arrayOver (.object "NightSchool$School") ∈ Ts) {n : Int32} {N' : Nat} (hn : ¬ n < 0) (hN : n.toNatClampNeg = N') (hbytes : N' * 4 ≤ 536870912) {cells' slots' : Nat} (hc : cells + 1 = cells') (hs : slots + N' = slots') (hcells : cells' ≤ R.cells) (hslots : slots' ≤ R.slots) (hdg : decode cc pc = .ok (.anewarray index, 3))
    (kk : ∀ (q : Nat) (H1 : Heap), cW D A s.heap (ws ++ [(q, .inl (D.1 104, N', .inr (.inr (.inr (.inr (fun _ => none))))))]) H1 locs → W p l e R s m args below meth c H1 locs cells' slots' Q (F0 m (pc + 3) ls (.ref q :: rest))) : W p l e R s m args below meth c H locs cells slots Q (F0 m pc ls (.int n :: rest)) := by
  subst hc hs
  refine va_newq C.1 C.2.1 C.2.2.2.1 (C.2.2.2.2 _ hcl) (va_AO.of (C.2.2.2.2 _ hov)) hK w.1 w.2.1 w.2.2.1 w.2.2.2 hn hN hbytes hcells hslots hdg (fun q cA H1 h1 h2 h3 h4 => ?_)
  obtain ⟨kA, comp, -, -, -, g4⟩ := (h1.2 5 (cA, .object "NightSchool$School") rfl).2
  obtain ⟨kA', comp', -, -, -, g4'⟩ := (hK.2 4 (D.1 104, .object "NightSchool$School") rfl).2
  have e : cA = D.1 104 := Option.some.inj (g4.symm.trans g4')
  rw [e] at h2 h3
  exact kk q H1 ⟨h2, h3, h4, w.2.2.2⟩
/-- a final field of the object at the head -/
theorem cn_putF {a ci : Nat} {fs : List Value} {wt : va_W} (C : CallFix p m c cc nL s args Ts own) (hK : va_K D vwCl (ns_ty D) s) (hnm : meth.name = "<init>") (w : cW D A s.heap ((a, .inr (ci, fs)) :: wt) H locs) {T : u_T} {N : Nat} (hc : vwCl[ci]? = some (own, T, N)) (hin : ∀ w ∈ u_ws own T N, w ∈ Ts) {ty0 : Nat → FieldType} (hty : ∀ k, k < N → parseFieldDescriptor (T k).2.2.1 = some (ty0 k)) (hnn : ∀ a, a < N → ∀ b, b < N → a ≠ b → (T a).2.1 ≠ (T b).2.1) (k : Nat) (hk : k < N) {index : Nat} (hlink : Cond.fieldLink own index (T k).1 (T k).2.1 (T k).2.2.1 ∈ Ts) (hfin : (T k).2.2.2 = true) (hdecl : (T k).1 = own) {v : Value} (hn : narrow (ty0 k) v = v) (hfit : fits (ty0 k) v = true) (hl : k < fs.length) {fs' : List Value} (hf : fs.set k v = fs') (hdg : decode cc pc = .ok (.putfield index, 3))
    (kk : ∀ (H1 : Heap) (locs1 : List Loc), cW D A s.heap ((a, .inr (ci, fs')) :: wt) H1 locs1 → W p l e R s m args below meth c H1 locs1 cells slots Q (F0 m (pc + 3) ls rest)) : W p l e R s m args below meth c H locs cells slots Q (F0 m pc ls (v :: .ref a :: rest)) := by
  subst hf
  exact va_putF (T := T) (ty := ty0 k) C.1 C.2.1 C.2.2.2.2 hin ty0 hty hnn C.2.2.2.1 hK w.1 w.2.1 w.2.2.1 0 rfl hc k hk (C.2.2.2.2 _ hlink) (fun _ h => h) hfin hnm hdecl (hty k hk) hn hfit hl hdg (fun H1 locs1 h1 h2 h3 => kk H1 locs1 ⟨h1, h2, h3, w.2.2.2⟩)
theorem cn_put {a ci : Nat} {fs : List Value} {wt : va_W} (C : CallFix p m c cc nL s args Ts own) (hK : va_K D vwCl (ns_ty D) s) (w : cW D A s.heap ((a, .inr (ci, fs)) :: wt) H locs) {T : u_T} {N : Nat} (hc : vwCl[ci]? = some (own, T, N)) (hin : ∀ w ∈ u_ws own T N, w ∈ Ts) {ty0 : Nat → FieldType} (hty : ∀ k, k < N → parseFieldDescriptor (T k).2.2.1 = some (ty0 k)) (hnn : ∀ a, a < N → ∀ b, b < N → a ≠ b → (T a).2.1 ≠ (T b).2.1) (k : Nat) (hk : k < N) {index : Nat} (hlink : Cond.fieldLink own index (T k).1 (T k).2.1 (T k).2.2.1 ∈ Ts) (hfin : (T k).2.2.2 = false) {v : Value} (hn : narrow (ty0 k) v = v) (hfit : fits (ty0 k) v = true) (hl : k < fs.length) {fs' : List Value} (hf : fs.set k v = fs') (hdg : decode cc pc = .ok (.putfield index, 3))
    (kk : ∀ (H1 : Heap) (locs1 : List Loc), cW D A s.heap ((a, .inr (ci, fs')) :: wt) H1 locs1 → W p l e R s m args below meth c H1 locs1 cells slots Q (F0 m (pc + 3) ls rest)) : W p l e R s m args below meth c H locs cells slots Q (F0 m pc ls (v :: .ref a :: rest)) := by
  subst hf
  exact va_put (T := T) (ty := ty0 k) C.1 C.2.1 C.2.2.2.2 hin ty0 hty hnn C.2.2.2.1 hK w.1 w.2.1 w.2.2.1 0 rfl hc k hk (C.2.2.2.2 _ hlink) (fun _ h => h) hfin (hty k hk) hn hfit hl hdg (fun H1 locs1 h1 h2 h3 => kk H1 locs1 ⟨h1, h2, h3, w.2.2.2⟩)
theorem cn_get {a ci : Nat} {fs : List Value} {wt : va_W} (C : CallFix p m c cc nL s args Ts own) (hK : va_K D vwCl (ns_ty D) s) (w : cW D A s.heap ((a, .inr (ci, fs)) :: wt) H locs) {T : u_T} {N : Nat} (hc : vwCl[ci]? = some (own, T, N)) (hin : ∀ w ∈ u_ws own T N, w ∈ Ts) (k : Nat) (hk : k < N) {index : Nat} (hlink : Cond.fieldLink own index (T k).1 (T k).2.1 (T k).2.2.1 ∈ Ts) {v : Value} (hv : fs[k]? = some v) (hdg : decode cc pc = .ok (.getfield index, 3))
    (kk : W p l e R s m args below meth c H locs cells slots Q (F0 m (pc + 3) ls (v :: rest))) : W p l e R s m args below meth c H locs cells slots Q (F0 m pc ls (.ref a :: rest)) :=
  va_get (T := T) C.1 C.2.1 C.2.2.2.2 hin C.2.2.2.1 hK w.1 0 rfl hc k hk (C.2.2.2.2 _ hlink) (fun _ h => h) hv hdg kk
theorem cn_new (C : CallFix p m c cc nL s args Ts own) (hK : va_K D vwCl (ns_ty D) s) (w : cW D A s.heap ws H locs) {CN : String} {T : u_T} {N ci index : Nat} (hin : ∀ w ∈ u_ws CN T N, w ∈ Ts) {ty0 : Nat → FieldType} (hty : ∀ k, k < N → parseFieldDescriptor (T k).2.2.1 = some (ty0 k)) (hc : vwCl[ci]? = some (CN, T, N)) (hcl : Cond.classLink own index CN ∈ Ts) (hinst : Cond.instantiable CN N ∈ Ts) (hini : Cond.initialized CN ∈ Ts) {fs : List Value} (hfs : ∀ j, j < N → defaultValue (ty0 j) = vp_V fs j) {cells' slots' : Nat} (hcc : cells + 1 = cells') (hs : slots + N = slots') (hcells : cells' ≤ R.cells) (hslots : slots' ≤ R.slots) (hdg : decode cc pc = .ok (.new index, 3))
    (kk : ∀ (q : Nat) (H1 : Heap), cW D A s.heap (ws ++ [(q, .inr (ci, fs))]) H1 locs → W p l e R s m args below meth c H1 locs cells' slots' Q (F0 m (pc + 3) ls (.ref q :: rest))) : W p l e R s m args below meth c H locs cells slots Q (F0 m pc ls rest) := by
  subst hcc hs
  exact va_new (T := T) C.1 C.2.1 C.2.2.2.2 hin ty0 hty C.2.2.2.1 (C.2.2.2.2 _ hcl) (C.2.2.2.2 _ hinst) (C.2.2.2.2 _ hini) hK w.1 w.2.1 w.2.2.1 w.2.2.2 hc hfs hcells hslots hdg (fun q H1 h1 h2 h3 => kk q H1 ⟨h1, h2, h3, w.2.2.2⟩)
theorem cn_split {wr wc : va_W} (w : cW D A s.heap (wr ++ wc) H locs) : va_P D vwCl wc H ∧ va_D A wc ∧ ∀ q, va_A wc H.size q → A q := by
  have hi : ∀ (k : Nat) (q : Nat × va_E), wc[k]? = some q → (wr ++ wc)[wr.length + k]? = some q := fun k q h => by rw [List.getElem?_append_right (by omega), Nat.add_sub_cancel_left]; exact h
  refine ⟨fun k q h => w.1 _ q (hi k q h), ⟨fun i j p q h1 h2 h3 => ?_, fun k q h => w.2.1.2 _ q (hi k q h)⟩, fun q h => ?_⟩
  · have := w.2.1.1 _ _ p q (hi i p h1) (hi j q h2) h3
    omega
  · rcases h with ⟨k, e, h⟩ | h
    · exact w.2.1.2 _ (q, e) (hi k _ h)
    · exact w.2.2.2 q (Nat.le_trans w.2.2.1.1 h)
theorem cn_join {wr wc w1 : va_W} {H1 : Heap} (w : cW D A s.heap (wr ++ wc) H locs) (hk : ∀ q : Nat, q < H.size → ¬ va_A wc H.size q → H1[q]? = H[q]?) (hP1 : va_P D vwCl w1 H1) (hD1 : va_D (va_A wc H.size) w1) : va_P D vwCl (wr ++ w1) H1 ∧ va_D A (wr ++ w1) := by
  have hA := (cn_split w).2.2
  have hl : ∀ (k : Nat) (q : Nat × va_E), wr[k]? = some q → (wr ++ wc)[k]? = some q := fun k q h => by rw [List.getElem?_append_left (List.getElem?_eq_some_iff.mp h).1]; exact h
  have hr : ∀ (k : Nat) (q : Nat × va_E), wc[k]? = some q → (wr ++ wc)[wr.length + k]? = some q := fun k q h => by rw [List.getElem?_append_right (by omega), Nat.add_sub_cancel_left]; exact h
  have out : ∀ (k : Nat) (q : Nat × va_E), wr[k]? = some q → q.1 < H.size ∧ ¬ va_A wc H.size q.1 := fun k q h => by
    have h1 := (w.1 k q (hl k q h)).lt
    refine ⟨h1, fun z => ?_⟩
    rcases z with ⟨j, e, hj⟩ | z
    · have h2 := w.2.1.1 k (wr.length + j) q (q.1, e) (hl k q h) (hr j _ hj) rfl
      have h3 := (List.getElem?_eq_some_iff.mp h).1
      omega
    · omega
  have cas : ∀ (k : Nat) (q : Nat × va_E), (wr ++ w1)[k]? = some q → (k < wr.length ∧ wr[k]? = some q) ∨ (wr.length ≤ k ∧ w1[k - wr.length]? = some q) := fun k q h => by
    by_cases c : k < wr.length
    · rw [List.getElem?_append_left c] at h; exact Or.inl ⟨c, h⟩
    · rw [List.getElem?_append_right (by omega)] at h; exact Or.inr ⟨by omega, h⟩
  refine ⟨fun k q h => ?_, ⟨fun i j x y h1 h2 h3 => ?_, fun k q h => ?_⟩⟩
  · rcases cas k q h with ⟨-, h⟩ | ⟨-, h⟩
    · have h5 := w.1 k q (hl k q h)
      exact h5.kept (hk q.1 (out k q h).1 (out k q h).2)
    · exact hP1 _ q h
  · rcases cas i x h1 with ⟨c1, h1⟩ | ⟨c1, h1⟩ <;> rcases cas j y h2 with ⟨c2, h2⟩ | ⟨c2, h2⟩
    · exact w.2.1.1 i j x y (hl i x h1) (hl j y h2) h3
    · exact absurd (by rw [h3]; exact hD1.2 _ y h2) (out i x h1).2
    · exact absurd (by rw [← h3]; exact hD1.2 _ x h1) (out j y h2).2
    · have := hD1.1 _ _ x y h1 h2 h3
      omega
  · rcases cas k q h with ⟨-, h⟩ | ⟨-, h⟩
    · exact w.2.1.2 k q (hl k q h)
    · exact hA _ (hD1.2 _ q h)
/-- a constructor's call: the object lies at the end of the world -/
theorem cn_callI {wr W0 : va_W} {h0 : Nat} {WK : (Nat → Nat) → va_W} {mc ms : Nat} (C : CallFix p m c cc nL s args Ts own) (hK : va_K D vwCl (ns_ty D) s) (w : cW D A s.heap (wr ++ W0) H locs) {y : MethodName} {wy ws' : List Cond} {rm : Room} {bytes : ByteArray} {maxL : Nat} (hM : cM l y wy rm D [.ref h0] W0 h0 WK mc ms) {index : Nat} (hT : GoodIn Ts wy) (hw : wy = Cond.code y bytes maxL none :: ws') (hrc : rm.cells = mc) (hrs : rm.slots = ms) (hini : Cond.initialized y.cls ∈ Ts) (hlink : Cond.methodLink own index y ∈ Ts) (hinst : Cond.instanceMethod y ∈ Ts) (hy : y.name = "<init>") (hd : y.cls ≠ "java/lang/invoke/MethodHandle" ∧ y.cls ≠ "java/lang/invoke/VarHandle" ∧ (parseMethodDescriptor y.desc).map (fun d => d.parameters.length) = some 0) (hR : rm.frames + 1 ≤ R.frames ∧ 8 + (maxL + 11) + rm.locals ≤ R.locals) (hsize : ls.size = nL) (hroom : (rest.map fun v => v.category).sum ≤ 8) {cells' slots' : Nat} (hcc : cells + mc = cells') (hss : slots + ms = slots') (hcells : cells' ≤ R.cells) (hslots : slots' ≤ R.slots) (hdg : decode cc pc = .ok (.invokespecial index, 3))
    (kk : ∀ (u : Nat → Nat) (H1 : Heap) (locs1 : List Loc), u 0 = h0 → cW D A s.heap (wr ++ WK u) H1 locs1 → W p l e R s m args below meth c H1 locs1 cells' slots' Q (F0 m (pc + 3) ls rest)) : W p l e R s m args below meth c H locs cells slots Q (F0 m pc ls (.ref h0 :: rest)) := by
  subst hcc hss
  obtain ⟨hPc, hDc, hFc⟩ := cn_split w
  refine va_callv (va_runI (As := []) (rest := rest) C (hM H.size) (cwI 0 C.2.2.2.2 hT hw hrc hrs (C.2.2.2.2 _ hini) (C.2.2.2.2 _ hlink) (C.2.2.2.2 _ hinst) hy hd hR) ⟨fun a U g mk q => ?_, fun U hU hW => ⟨rfl, by rw [hU], by rw [hU]; exact hPc, va_K.moved hW.alike hK, hDc.weaken (fun _ _ _ _ => trivial)⟩⟩ rfl rfl hsize rfl (lv_room hroom) hdg ⟨hcells, hslots⟩) w.2.2.1 (fun q _ h => hFc q h) hFc (fun u t H1 locs1 ht hvm hw hB hz1 hk1 hS => ?_)
  · obtain ⟨q0, q1, qP, qK, qD⟩ := q
    exact ⟨q0, q1, qP, va_K.moved (u := U) (U := U.calling g mk a) (Vm.Alike.refl U.vm) qK, qD⟩
  · obtain ⟨hP1, hK1, hD1⟩ := hB
    rw [ht] at hP1
    obtain ⟨j1, j2⟩ := cn_join w hk1 hP1 hD1
    exact kk u H1 locs1 hw ⟨j1, j2, hS, w.2.2.2⟩
end CN
