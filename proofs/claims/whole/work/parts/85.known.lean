/-! what the Statement gives of the start: classes, array classes, String constants, statics -/
def R_law : String := "NightSchoolLaw"
def lw_P (b : Addr) (xs : List Int32) (args : Array Value) (s : State) : Prop := args = #[.ref b] ∧ s.IntsAt b xs ∧ xs.length ≤ 3072 ∧ (Jvm.Cond.and given_1 narrow_1).before args s = true
def lw_Q (_ : Array Value) (s : State) (o : Outcome) (t : State) : Prop := o = .returned (some (.int 1)) ∧ Framed s o t [] 600000 7302250
def lw_Z (below : List Frame) (a : Array Value) (s : State) : State → Prop := fun t => ∃ o, t.status = .running ∧ Ended t below o ∧ lw_Q a s o t
def lw_At (p : Program) (s : State) (m : MethodId) (meth : Method) (c : Code) (b L : Nat) (xs : Nat → Int32) : Prop :=
  p.tables.exec = Jvm.exec ∧ c.code = code ∧ meth.sig.returnType = ret ∧ c.maxLocals = 4 ∧ s.vm.findClass R_law = some m.cls ∧ (∀ w ∈ lw_tbl, w.before #[Value.ref b] s = true) ∧ va_X b L xs s s.heap ∧ b < s.heap.size ∧ meth.locks = false ∧ (Jvm.Cond.and given_1 narrow_1).before #[Value.ref b] s = true
def tmS (i : Nat) : Term := .string "NightSchool$Tokens" (64 + 2 * i)
def flW : List Cond := flatC (Jvm.Cond.and given_1 narrow_1)
theorem fl_1 : ∀ i, i < 15 → Cond.exactly (tmS i) "java/lang/String" ∈ flW := by decide +kernel
theorem fl_2 : ∀ i, i < 15 → Cond.eq (.field (tmS i) "java/lang/String" "coder" "B") (.int 0) ∈ flW := by decide +kernel
theorem fl_3 : ∀ i, i < 15 → Cond.arrayOf (.field (tmS i) "java/lang/String" "value" "[B") .byte ∈ flW := by decide +kernel
theorem fl_4 : ∀ i, i < 15 → Cond.eq (.length (.field (tmS i) "java/lang/String" "value" "[B")) (.int (Int32.ofNat (ns_len.getD i 0))) ∈ flW := by decide +kernel
theorem fl_5 : ∀ i, i < 15 → ∀ j, j < ns_len.getD i 0 → Cond.eq (.elem (.field (tmS i) "java/lang/String" "value" "[B") (.int (Int32.ofNat j))) (.int ((ns_byt.getD i []).getD j 0)) ∈ flW := by decide +kernel
def nqT : List (List Nat) := [[], [24], [32, 33], [43, 44, 45], [57, 58, 59, 60], [68, 69, 70, 71, 72], [82, 83, 84, 85, 86, 87], [96, 97, 98, 99, 100, 101, 102], [110, 111, 112, 113, 114, 115, 116, 117], [126, 127, 128, 129, 130, 131, 132, 133, 134], [143, 144, 145, 146, 147, 148, 149, 150, 151, 152], [162, 163, 164, 165, 166, 167, 168, 169, 170, 171, 172], [181, 182, 183, 184, 185, 186, 187, 188, 189, 190, 191, 192], [201, 202, 203, 204, 205, 206, 207, 208, 209, 210, 211, 212, 213], [221, 222, 223, 224, 225, 226, 227, 228, 229, 230, 231, 232, 233, 234]]
theorem nq_at : ∀ j, j < 15 → ∀ i, i < j → flW[(nqT.getD j []).getD i 0]? = some (Cond.not (Cond.eq (tmS i) (tmS j))) := by decide +kernel
theorem fl_6 : ∀ i, i < 15 → ∀ j, j < 15 → i ≠ j → Cond.not (Cond.eq (tmS i) (tmS j)) ∈ flW ∨ Cond.not (Cond.eq (tmS j) (tmS i)) ∈ flW := fun i hi j hj hij => by
  rcases Nat.lt_or_ge i j with h | h
  · exact Or.inl (List.mem_of_getElem? (nq_at j hj i h))
  · exact Or.inr (List.mem_of_getElem? (nq_at i hi j (by omega)))
theorem fl_7 : Cond.eq (.static "java/lang/String" "COMPACT_STRINGS" "Z") (.int 1) ∈ flW := by decide +kernel
theorem fl_8 : Cond.isRef (.static "jdk/internal/util/Preconditions" "SIOOBE_FORMATTER" "Ljava/util/function/BiFunction;") ∈ flW := by decide +kernel
theorem tb_1 : ∀ k, k < 15 → Cond.stringRef "NightSchool$Tokens" (64 + 2 * k) (ns_tx.getD k "") ∈ lw_tbl := by decide +kernel
theorem tb_2 : Cond.laysStatic "java/lang/String" "COMPACT_STRINGS" "Z" ∈ lw_tbl := by decide +kernel
theorem tb_3 : Cond.laysStatic "jdk/internal/util/Preconditions" "SIOOBE_FORMATTER" "Ljava/util/function/BiFunction;" ∈ lw_tbl := by decide +kernel
theorem tb_4 : Cond.initialized "java/lang/String" ∈ lw_tbl := by decide +kernel
theorem tb_5 : Cond.initialized "jdk/internal/util/Preconditions" ∈ lw_tbl := by decide +kernel
theorem tb_6 : ∀ q ∈ nst, Cond.methodLinkNest q.1 q.2.1 q.2.2 "NightSchool" ∈ lw_tbl := by decide +kernel
theorem tb_7 : Cond.arrayOver (.object "NightSchool$School") ∈ lw_tbl := by decide +kernel
theorem tb_8 : Cond.arrayClass .int ∈ lw_tbl ∧ Cond.arrayClass .byte ∈ lw_tbl ∧ Cond.arrayClass .long ∈ lw_tbl ∧ Cond.arrayClass .boolean ∈ lw_tbl := by decide +kernel
theorem tb_9 : ∀ q ∈ vwCl.map (fun r => (r.1, r.2.2)), Cond.instantiable q.1 q.2 ∈ lw_tbl := by decide +kernel
theorem law_arr {s : State} {args : Array Value} {ty : FieldType} (h : (Cond.arrayClass ty).before args s = true) : ∃ c : ClassId, ArrOfT s c ty ∧ s.vm.findClass ("[" ++ ty.toString) = some c := by
  obtain ⟨c, k, comp, h1, h2, h3⟩ := Cond.arrayClass_spec h
  exact ⟨c, fun n z => ⟨fun k h => (by cases h), k, h2, comp, h3⟩, h1⟩
theorem law_known {p : Program} {s : State} {m : MethodId} {meth : Method} {c : Code} {b L : Nat} {xs : Nat → Int32} (C0 : lw_At p s m meth c b L xs) : ∃ D : va_G, va_K D vwCl (ns_ty D) s ∧ ns_st D (fun q : Nat => s.heap.size ≤ q) s s.heap ∧ cN s := by
  obtain ⟨hx, hb, hr, hml, hown, hts, hX, hbl, hlocks, hgv⟩ := C0
  have hfl : ∀ w ∈ flW, w.before #[Value.ref b] s = true := flat_of_before _ hgv
  have hA : ∀ a : Nat, a < s.heap.size → ¬ (fun q : Nat => s.heap.size ≤ q) a := fun a h => Nat.not_le.mpr h
  obtain ⟨adK, adV, hS, hE⟩ := vk_Sof (args := #[Value.ref b]) (s := s) (N := 15) (tm := tmS) (len := ns_len) (byt := ns_byt) (A := fun q : Nat => s.heap.size ≤ q) (fun i hi => by have := len7 i hi; omega) (fun i hi => hfl _ (fl_1 i hi)) (fun i hi => hfl _ (fl_2 i hi)) (fun i hi => hfl _ (fl_3 i hi)) (fun i hi => hfl _ (fl_4 i hi)) (fun i hi j hj => hfl _ (fl_5 i hi j hj)) (fun i j hi hj hij => (fl_6 i hi j hj hij).elim (fun h => Or.inl (hfl _ h)) (fun h => Or.inr (hfl _ h))) hA
  have hins : ∀ q ∈ vwCl.map (fun r => (r.1, r.2.2)), (Cond.instantiable q.1 q.2).before #[Value.ref b] s = true := fun q h => hts _ (tb_9 q h)
  obtain ⟨c0, i0, k0⟩ := u_known (C := RX0) (T := TX0) (N := 6) (n := 6) hts inX0 (hins (RX0, 6) (List.mem_of_getElem? (i := 0) rfl))
  obtain ⟨c1, i1, k1⟩ := u_known (C := RX1) (T := TX1) (N := 5) (n := 5) hts inX1 (hins (RX1, 5) (List.mem_of_getElem? (i := 1) rfl))
  obtain ⟨c2, i2, k2⟩ := u_known (C := RX2) (T := TX2) (N := 8) (n := 8) hts inX2 (hins (RX2, 8) (List.mem_of_getElem? (i := 2) rfl))
  obtain ⟨c3, i3, k3⟩ := u_known (C := RX3) (T := TX3) (N := 10) (n := 10) hts inX3 (hins (RX3, 10) (List.mem_of_getElem? (i := 3) rfl))
  obtain ⟨c4, i4, k4⟩ := u_known (C := RX4) (T := TX4) (N := 6) (n := 6) hts inX4 (hins (RX4, 6) (List.mem_of_getElem? (i := 4) rfl))
  obtain ⟨c5, i5, k5⟩ := u_known (C := RX5) (T := TX5) (N := 2) (n := 2) hts inX5 (hins (RX5, 2) (List.mem_of_getElem? (i := 5) rfl))
  obtain ⟨c6, i6, k6⟩ := u_known (C := RX6) (T := TX6) (N := 6) (n := 6) hts inX6 (hins (RX6, 6) (List.mem_of_getElem? (i := 6) rfl))
  obtain ⟨c7, i7, k7⟩ := u_known (C := RX7) (T := TX7) (N := 5) (n := 5) hts inX7 (hins (RX7, 5) (List.mem_of_getElem? (i := 7) rfl))
  obtain ⟨c8, i8, k8⟩ := u_known (C := RX8) (T := TX8) (N := 6) (n := 6) hts inX8 (hins (RX8, 6) (List.mem_of_getElem? (i := 8) rfl))
  obtain ⟨c9, i9, k9⟩ := u_known (C := RX9) (T := TX9) (N := 4) (n := 4) hts inX9 (hins (RX9, 4) (List.mem_of_getElem? (i := 9) rfl))
  obtain ⟨c10, i10, k10⟩ := u_known (C := RX10) (T := TX10) (N := 6) (n := 6) hts inX10 (hins (RX10, 6) (List.mem_of_getElem? (i := 10) rfl))
  obtain ⟨c11, i11, k11⟩ := u_known (C := RX11) (T := TX11) (N := 59) (n := 59) hts inX11 (hins (RX11, 59) (List.mem_of_getElem? (i := 11) rfl))
  obtain ⟨aI, aI1, aI2⟩ := law_arr (hts _ tb_8.1)
  obtain ⟨aB, aB1, aB2⟩ := law_arr (hts _ tb_8.2.1)
  obtain ⟨aL, aL1, aL2⟩ := law_arr (hts _ tb_8.2.2.1)
  obtain ⟨aZ, aZ1, aZ2⟩ := law_arr (hts _ tb_8.2.2.2)
  obtain ⟨comp, aS, kS, o1, o2, o3, o4, o5⟩ := Cond.arrayOver_spec (hts _ tb_7)
  refine ⟨(fun k => if k = 0 then c0 else if k = 1 then c1 else if k = 2 then c2 else if k = 3 then c3 else if k = 4 then c4 else if k = 5 then c5 else if k = 6 then c6 else if k = 7 then c7 else if k = 8 then c8 else if k = 9 then c9 else if k = 10 then c10 else if k = 11 then c11 else  if k = 100 then aI else if k = 101 then aB else if k = 102 then aL else if k = 103 then aZ else aS, fun k => if k = 0 then i0 else if k = 1 then i1 else if k = 2 then i2 else if k = 3 then i3 else if k = 4 then i4 else if k = 5 then i5 else if k = 6 then i6 else if k = 7 then i7 else if k = 8 then i8 else if k = 9 then i9 else if k = 10 then i10 else if k = 11 then i11 else  if k = 200 then adK else adV), ⟨fun k q hq => ?_, fun k q hk => ?_⟩, ⟨hS, fun k hk => vk_R.of (hts _ (tb_1 k hk)) (hE k hk), va_Zof (hts _ tb_2) (hts _ tb_4) (va_eqt (hfl _ fl_7)) hA, ?_⟩, ⟨fun q hq => va_Nw.of rfl (hts _ (tb_6 q hq)), va_AO.of (hts _ tb_7)⟩⟩
  · match k, hq with
    | 0, hq => cases hq; exact k0
    | 1, hq => cases hq; exact k1
    | 2, hq => cases hq; exact k2
    | 3, hq => cases hq; exact k3
    | 4, hq => cases hq; exact k4
    | 5, hq => cases hq; exact k5
    | 6, hq => cases hq; exact k6
    | 7, hq => cases hq; exact k7
    | 8, hq => cases hq; exact k8
    | 9, hq => cases hq; exact k9
    | 10, hq => cases hq; exact k10
    | 11, hq => cases hq; exact k11
    | k + 12, hq => simp [vwCl] at hq
  · match k, hk with
    | 0, hk => cases hk; exact ⟨aI1, aI2⟩
    | 1, hk => cases hk; exact ⟨aB1, aB2⟩
    | 2, hk => cases hk; exact ⟨aL1, aL2⟩
    | 3, hk => cases hk; exact ⟨aZ1, aZ2⟩
    | 4, hk => cases hk; exact ⟨fun n z => ⟨fun k h => (by cases h), kS, o3, comp, o4⟩, kS, comp, o3, o4, o1, o5⟩
    | k + 5, hk => simp [ns_ty] at hk
  · rcases va_Zqof (hts _ tb_3) (hts _ tb_5) (hfl _ fl_8) hA with h | ⟨t, h⟩
    · exact ⟨none, h⟩
    · exact ⟨some t, h⟩
