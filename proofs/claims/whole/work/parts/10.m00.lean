theorem lX10_putOnTape_9 : Cond.fieldLink RX10 9 (TX10 0).1 (TX10 0).2.1 (TX10 0).2.2.1 ∈ wsX10_putOnTape := List.mem_of_getElem? (i := 1) rfl
theorem lX10_putOnTape_38 : Cond.fieldLink RX10 38 (TX10 1).1 (TX10 1).2.1 (TX10 1).2.2.1 ∈ wsX10_putOnTape := List.mem_of_getElem? (i := 2) rfl
theorem inX10_putOnTape_10 : ∀ w ∈ u_ws RX10 TX10 6, w ∈ wsX10_putOnTape := fun _ h => List.mem_cons_of_mem _ (List.mem_append_right _ h)
theorem hdX10_putOnTape : yX10_putOnTape.cls = RX10 ∧ yX10_putOnTape.cls ≠ "java/lang/invoke/MethodHandle" ∧ yX10_putOnTape.cls ≠ "java/lang/invoke/VarHandle" ∧ (parseMethodDescriptor yX10_putOnTape.desc).map (fun d => d.parameters.length) = some 1 := by decide +kernel
abbrev wrX10_putOnTape_0 : List (Nat × Nat) := [(1, 1), (0, 1)]
abbrev rmX10_putOnTape_0 : Room := { frames := 0, cells := 0, slots := 0, locals := 0 }
set_option maxHeartbeats 4000000 in
set_option maxRecDepth 100000 in
theorem wX10_putOnTape_0_3 {p : Program} {l : Launch} {e : Env} {s : State} {m : MethodId} {args : Array Value} {below : List Frame} {meth : Method} {c : Code} {D : va_G} {b : Nat → Nat} {ids : List Nat} {A : Nat → Prop} {S0 : ns_S} {o : (Nat → Int32) × Int32} (N : Nat) (hI : ∀ i, i < 107 → i ∈ ids) (C : ns_C p m c cX10_putOnTape 3 s args wsX10_putOnTape RX10 D A) (hr : meth.sig.returnType = none) (hlk : meth.locks = false) : ∀ n : Nat, ∀ {S : ns_S} {H : Heap} {locs : List Loc} {ls : Array Slot} {l1 : Int32} {l2 : Int32}, ns_W D b ids A s.heap wrX10_putOnTape_0 S0 S H locs → lv_has ls 3 [(0, .ref (b 0)), (1, .int l1), (2, .int l2)] → fX10_putOnTape_3 N n (S.1 1) (S.2.1 1) l1 l2 = some o → W p l e rmX10_putOnTape_0 s m args below meth c H locs 0 0 (MQ below (ns_Q D b ids (ns_A (ns_I S0 1 o.2) 1 o.1) none A) args s 0 0 A) (F0 m 3 ls []) := by
  intro n
  induction n with
  | zero =>
    intro S H locs ls l1 l2 w hl hf
    cases hf
  | succ n K3 =>
    intro S H locs ls l1 l2 w hl hf
    change gX10_putOnTape_3 N (fX10_putOnTape_3 N n) (S.1 1) (S.2.1 1) l1 l2 = some o at hf
    generalize fX10_putOnTape_3 N n = r3 at hf K3
    unfold gX10_putOnTape_3 at hf
    refine lv_iload_n C.1.1 C.1.2.1 dX10_putOnTape_3 rfl (lv_at hl 2 rfl) ?_
    refine ns_if_lt C hf (tgt := 36) dX10_putOnTape_4 (by decide) (fun hf => ?_) (fun hf => ?_)
    · have he := Option.some.inj hf
      subst he
      exact ns_vret C w hr hlk rfl rfl dX10_putOnTape_36
    · refine lv_aload_n C.1.1 C.1.2.1 dX10_putOnTape_7 rfl (lv_at hl 0 rfl) ?_
      refine ns_getr C w 0 (hI 0 (by decide)) sh_0 (rfl : vwCl[10]? = some (RX10, TX10, 6)) inX10_putOnTape_10 0 (by decide) rfl lX10_putOnTape_9 dX10_putOnTape_8 ?_
      refine lv_aload_n C.1.1 C.1.2.1 dX10_putOnTape_11 rfl (lv_at hl 0 rfl) ?_
      refine ns_geti C w 0 (hI 0 (by decide)) sh_0 (rfl : vwCl[10]? = some (RX10, TX10, 6)) inX10_putOnTape_10 1 (by decide) rfl lX10_putOnTape_38 (S.1 1) rfl dX10_putOnTape_12 ?_
      refine lv_iload_n C.1.1 C.1.2.1 dX10_putOnTape_15 rfl (lv_at hl 1 rfl) ?_
      refine lv_iload_n C.1.1 C.1.2.1 dX10_putOnTape_16 rfl (lv_at hl 2 rfl) ?_
      refine lv_iushr (v := (l1.toUInt32 >>> (l2.toUInt32 &&& Int32.toUInt32 31)).toInt32) C.1.1 C.1.2.1 dX10_putOnTape_17 rfl ?_
      refine lv_i2b (v := ((l1.toUInt32 >>> (l2.toUInt32 &&& Int32.toUInt32 31)).toInt32).toInt8.toInt32) C.1.1 C.1.2.1 dX10_putOnTape_18 rfl ?_
      refine ns_bast C w 1 (hI 1 (by decide)) sh_1 hf rfl (List.mem_of_getElem? (i := 0) rfl) dX10_putOnTape_19 (fun y1 H locs hf w => ?_)
      refine lv_aload_n C.1.1 C.1.2.1 dX10_putOnTape_20 rfl (lv_at hl 0 rfl) ?_
      refine lv_dup C.1.1 C.1.2.1 dX10_putOnTape_21 rfl ?_
      refine ns_geti C w 0 (hI 0 (by decide)) sh_0 (rfl : vwCl[10]? = some (RX10, TX10, 6)) inX10_putOnTape_10 1 (by decide) rfl lX10_putOnTape_38 (S.1 1) rfl dX10_putOnTape_22 ?_
      refine lv_iconst (v := 1) C.1.1 C.1.2.1 dX10_putOnTape_25 (by decide) ?_
      refine lv_iadd C.1.1 C.1.2.1 dX10_putOnTape_26 ?_
      refine ns_namei hf (fun x2 hf => ?_)
      refine ns_puti C w 0 (hI 0 (by decide)) sh_0 (rfl : vwCl[10]? = some (RX10, TX10, 6)) inX10_putOnTape_10 tyX10_ok nmX10 1 (by decide) rfl lX10_putOnTape_38 rfl rfl rfl (List.mem_of_getElem? (i := 1) rfl) dX10_putOnTape_27 (fun H locs w => ?_)
      refine ns_iinc (lv' := fun x3 => [(2, .int x3), (0, .ref (b 0)), (1, .int l1)]) C hf dX10_putOnTape_30 hl (k := 2) rfl rfl (by decide) (fun _ => rfl) (fun x3 ls hl hf => ?_)
      refine lv_goto (tgt := 3) C.1.1 C.1.2.1 dX10_putOnTape_33 (by decide) ?_
      exact K3 w (lv_sub hl [1, 2, 0] rfl) hf
set_option maxHeartbeats 4000000 in
set_option maxRecDepth 100000 in
theorem mX10_putOnTape_0 (l : Launch) (D : va_G) (b : Nat → Nat) (ids : List Nat) (hI : ∀ i, i < 107 → i ∈ ids) (N : Nat) (S : ns_S) (p1 : Int32) {o : (Nat → Int32) × Int32} (hf : fX10_putOnTape N (S.1 1) (S.2.1 1) p1 = some o) : ns_M l yX10_putOnTape wsX10_putOnTape rmX10_putOnTape_0 D b ids S [.ref (b 0), .int p1] none (ns_A (ns_I S 1 o.2) 1 o.1) := by
  refine ns_start (Wr := wrX10_putOnTape_0) (by decide) rfl (Nat.le_of_ble_eq_true rfl) ?_
  intro p e s m below meth c A ls C hr hlk w hl
  have hl : lv_has ls 3 [(0, .ref (b 0)), (1, .int p1)] := hl
  unfold fX10_putOnTape at hf
  refine lv_bipush (v := 24) C.1.1 C.1.2.1 dX10_putOnTape_0 (by decide) ?_
  refine lv_istore_n (lv' := [(2, .int 24), (0, .ref (b 0)), (1, .int p1)]) C.1.1 C.1.2.1 dX10_putOnTape_2 rfl hl (by decide) rfl (fun ls hl => ?_)
  exact wX10_putOnTape_0_3 N hI C hr hlk N w (lv_sub hl [1, 2, 0] rfl) hf
theorem lX10_feed_38 : Cond.fieldLink RX10 38 (TX10 1).1 (TX10 1).2.1 (TX10 1).2.2.1 ∈ wsX10_feed := List.mem_of_getElem? (i := 1) rfl
theorem inX10_feed_10 : ∀ w ∈ u_ws RX10 TX10 6, w ∈ wsX10_feed := fun _ h => List.mem_cons_of_mem _ (List.mem_append_right _ h)
theorem hdX10_feed : yX10_feed.cls = RX10 ∧ yX10_feed.cls ≠ "java/lang/invoke/MethodHandle" ∧ yX10_feed.cls ≠ "java/lang/invoke/VarHandle" ∧ (parseMethodDescriptor yX10_feed.desc).map (fun d => d.parameters.length) = some 5 := by decide +kernel
abbrev wrX10_feed_0 : List (Nat × Nat) := [(1, 1), (0, 1)]
abbrev rmX10_feed_0 : Room := { frames := 1, cells := 0, slots := 0, locals := 22 }
set_option maxHeartbeats 4000000 in
set_option maxRecDepth 100000 in
theorem mX10_feed_0 (l : Launch) (D : va_G) (b : Nat → Nat) (ids : List Nat) (hI : ∀ i, i < 107 → i ∈ ids) (N : Nat) (S : ns_S) (p1 : Int32) (p2 : Int32) (p3 : Int32) (p4 : Int32) (p5 : Int32) {o : Int32 × (Nat → Int32) × Int32} (hf : fX10_feed N (S.1 1) (S.2.1 1) p1 p2 p3 p4 p5 = some o) : ns_M l yX10_feed wsX10_feed rmX10_feed_0 D b ids S [.ref (b 0), .int p1, .int p2, .int p3, .int p4, .int p5] (some (.int o.1)) (ns_A (ns_I S 1 o.2.2) 1 o.2.1) := by
  refine ns_start (Wr := wrX10_feed_0) (by decide) rfl (Nat.le_of_ble_eq_true rfl) ?_
  intro p e s m below meth c A ls C hr hlk w hl
  have hl : lv_has ls 6 [(0, .ref (b 0)), (1, .int p1), (2, .int p2), (3, .int p3), (4, .int p4), (5, .int p5)] := hl
  unfold fX10_feed at hf
  refine lv_aload_n C.1.1 C.1.2.1 dX10_feed_0 rfl (lv_at hl 0 rfl) ?_
  refine ns_geti C w 0 (hI 0 (by decide)) sh_0 (rfl : vwCl[10]? = some (RX10, TX10, 6)) inX10_feed_10 1 (by decide) rfl lX10_feed_38 (S.1 1) rfl dX10_feed_1 ?_
  refine lv_bipush (v := 20) C.1.1 C.1.2.1 dX10_feed_4 (by decide) ?_
  refine lv_iadd C.1.1 C.1.2.1 dX10_feed_6 ?_
  refine lv_sipush (v := 500) C.1.1 C.1.2.1 dX10_feed_7 (by decide) ?_
  refine ns_icmp_le C hf (tgt := 15) dX10_feed_10 (by decide) (fun hf => ?_) (fun hf => ?_)
  · refine lv_aload_n C.1.1 C.1.2.1 dX10_feed_15 rfl (lv_at hl 0 rfl) ?_
    refine lv_iload_n C.1.1 C.1.2.1 dX10_feed_16 rfl (lv_at hl 1 rfl) ?_
    refine ns_callV C w 0 (hI 0 (by decide)) sh_0 (rfl : vwCl[10]? = some (RX10, TX10, 6)) [.int p1] hf (fun u hu => mX10_putOnTape_0 l D b ids hI N _ p1 hu) gX10_feed_X10_putOnTape rfl rfl rfl hdX10_putOnTape ⟨Nat.le_of_ble_eq_true rfl, Nat.le_of_ble_eq_true rfl⟩ (fun u h => ((h.I (List.mem_of_getElem? (i := 1) rfl) _).A (List.mem_of_getElem? (i := 0) rfl) _)) rfl hl.1 rfl (Nat.le_of_ble_eq_true rfl) ⟨Nat.le_refl _, Nat.le_refl _⟩ dX10_feed_17 (fun o1 H locs hf w => ?_)
    refine lv_aload_n C.1.1 C.1.2.1 dX10_feed_20 rfl (lv_at hl 0 rfl) ?_
    refine lv_iload_n C.1.1 C.1.2.1 dX10_feed_21 rfl (lv_at hl 2 rfl) ?_
    refine ns_callV C w 0 (hI 0 (by decide)) sh_0 (rfl : vwCl[10]? = some (RX10, TX10, 6)) [.int p2] hf (fun u hu => mX10_putOnTape_0 l D b ids hI N _ p2 hu) gX10_feed_X10_putOnTape rfl rfl rfl hdX10_putOnTape ⟨Nat.le_of_ble_eq_true rfl, Nat.le_of_ble_eq_true rfl⟩ (fun u h => ((h.I (List.mem_of_getElem? (i := 1) rfl) _).A (List.mem_of_getElem? (i := 0) rfl) _)) rfl hl.1 rfl (Nat.le_of_ble_eq_true rfl) ⟨Nat.le_refl _, Nat.le_refl _⟩ dX10_feed_22 (fun o2 H locs hf w => ?_)
    refine lv_aload_n C.1.1 C.1.2.1 dX10_feed_25 rfl (lv_at hl 0 rfl) ?_
    refine lv_iload_n C.1.1 C.1.2.1 dX10_feed_26 rfl (lv_at hl 3 rfl) ?_
    refine ns_callV C w 0 (hI 0 (by decide)) sh_0 (rfl : vwCl[10]? = some (RX10, TX10, 6)) [.int p3] hf (fun u hu => mX10_putOnTape_0 l D b ids hI N _ p3 hu) gX10_feed_X10_putOnTape rfl rfl rfl hdX10_putOnTape ⟨Nat.le_of_ble_eq_true rfl, Nat.le_of_ble_eq_true rfl⟩ (fun u h => ((h.I (List.mem_of_getElem? (i := 1) rfl) _).A (List.mem_of_getElem? (i := 0) rfl) _)) rfl hl.1 rfl (Nat.le_of_ble_eq_true rfl) ⟨Nat.le_refl _, Nat.le_refl _⟩ dX10_feed_27 (fun o3 H locs hf w => ?_)
    refine lv_aload_n C.1.1 C.1.2.1 dX10_feed_30 rfl (lv_at hl 0 rfl) ?_
    refine lv_iload C.1.1 C.1.2.1 dX10_feed_31 (lv_at hl 4 rfl) ?_
    refine ns_callV C w 0 (hI 0 (by decide)) sh_0 (rfl : vwCl[10]? = some (RX10, TX10, 6)) [.int p4] hf (fun u hu => mX10_putOnTape_0 l D b ids hI N _ p4 hu) gX10_feed_X10_putOnTape rfl rfl rfl hdX10_putOnTape ⟨Nat.le_of_ble_eq_true rfl, Nat.le_of_ble_eq_true rfl⟩ (fun u h => ((h.I (List.mem_of_getElem? (i := 1) rfl) _).A (List.mem_of_getElem? (i := 0) rfl) _)) rfl hl.1 rfl (Nat.le_of_ble_eq_true rfl) ⟨Nat.le_refl _, Nat.le_refl _⟩ dX10_feed_33 (fun o4 H locs hf w => ?_)
    refine lv_aload_n C.1.1 C.1.2.1 dX10_feed_36 rfl (lv_at hl 0 rfl) ?_
    refine lv_iload C.1.1 C.1.2.1 dX10_feed_37 (lv_at hl 5 rfl) ?_
    refine ns_callV C w 0 (hI 0 (by decide)) sh_0 (rfl : vwCl[10]? = some (RX10, TX10, 6)) [.int p5] hf (fun u hu => mX10_putOnTape_0 l D b ids hI N _ p5 hu) gX10_feed_X10_putOnTape rfl rfl rfl hdX10_putOnTape ⟨Nat.le_of_ble_eq_true rfl, Nat.le_of_ble_eq_true rfl⟩ (fun u h => ((h.I (List.mem_of_getElem? (i := 1) rfl) _).A (List.mem_of_getElem? (i := 0) rfl) _)) rfl hl.1 rfl (Nat.le_of_ble_eq_true rfl) ⟨Nat.le_refl _, Nat.le_refl _⟩ dX10_feed_39 (fun o5 H locs hf w => ?_)
    refine lv_aload_n C.1.1 C.1.2.1 dX10_feed_42 rfl (lv_at hl 0 rfl) ?_
    refine ns_geti C w 0 (hI 0 (by decide)) sh_0 (rfl : vwCl[10]? = some (RX10, TX10, 6)) inX10_feed_10 1 (by decide) rfl lX10_feed_38 (o5.2) rfl dX10_feed_43 ?_
    have he := Option.some.inj hf
    subst he
    exact ns_iret C w hr hlk rfl rfl dX10_feed_46
  · refine lv_iconst (v := (-1)) C.1.1 C.1.2.1 dX10_feed_13 (by decide) ?_
    have he := Option.some.inj hf
    subst he
    exact ns_iret C w hr hlk rfl rfl dX10_feed_14
theorem lX11_four_7 : Cond.fieldLink RX11 7 (TX11 1).1 (TX11 1).2.1 (TX11 1).2.2.1 ∈ wsX11_four := List.mem_of_getElem? (i := 1) rfl
theorem lX11_four_186 : Cond.fieldLink RX11 186 (TX11 2).1 (TX11 2).2.1 (TX11 2).2.2.1 ∈ wsX11_four := List.mem_of_getElem? (i := 2) rfl
theorem inX11_four_11 : ∀ w ∈ u_ws RX11 TX11 59, w ∈ wsX11_four := fun _ h => List.mem_cons_of_mem _ (List.mem_append_right _ h)
theorem hdX11_four : yX11_four.cls = RX11 ∧ yX11_four.cls ≠ "java/lang/invoke/MethodHandle" ∧ yX11_four.cls ≠ "java/lang/invoke/VarHandle" ∧ (parseMethodDescriptor yX11_four.desc).map (fun d => d.parameters.length) = some 1 := by decide +kernel
abbrev wrX11_four_62 : List (Nat × Nat) := [(1, 63), (0, 3970)]
abbrev rmX11_four_62 : Room := { frames := 0, cells := 0, slots := 0, locals := 0 }
set_option maxHeartbeats 4000000 in
set_option maxRecDepth 100000 in
theorem wX11_four_62_3 {p : Program} {l : Launch} {e : Env} {s : State} {m : MethodId} {args : Array Value} {below : List Frame} {meth : Method} {c : Code} {D : va_G} {b : Nat → Nat} {ids : List Nat} {A : Nat → Prop} {S0 : ns_S} {o : (Nat → Int32) × Int32} (N : Nat) (hI : ∀ i, i < 107 → i ∈ ids) (C : ns_C p m c cX11_four 3 s args wsX11_four RX11 D A) (hr : meth.sig.returnType = none) (hlk : meth.locks = false) : ∀ n : Nat, ∀ {S : ns_S} {H : Heap} {locs : List Loc} {ls : Array Slot} {l1 : Int32} {l2 : Int32}, ns_W D b ids A s.heap wrX11_four_62 S0 S H locs → lv_has ls 3 [(0, .ref (b 62)), (1, .int l1), (2, .int l2)] → fX11_four_3 N n (S.1 3970) (S.2.1 63) l1 l2 = some o → W p l e rmX11_four_62 s m args below meth c H locs 0 0 (MQ below (ns_Q D b ids (ns_A (ns_I S0 3970 o.2) 63 o.1) none A) args s 0 0 A) (F0 m 3 ls []) := by
  intro n
  induction n with
  | zero =>
    intro S H locs ls l1 l2 w hl hf
    cases hf
  | succ n K3 =>
    intro S H locs ls l1 l2 w hl hf
    change gX11_four_3 N (fX11_four_3 N n) (S.1 3970) (S.2.1 63) l1 l2 = some o at hf
    generalize fX11_four_3 N n = r3 at hf K3
    unfold gX11_four_3 at hf
    refine lv_iload_n C.1.1 C.1.2.1 dX11_four_3 rfl (lv_at hl 2 rfl) ?_
    refine ns_if_lt C hf (tgt := 36) dX11_four_4 (by decide) (fun hf => ?_) (fun hf => ?_)
    · have he := Option.some.inj hf
      subst he
      exact ns_vret C w hr hlk rfl rfl dX11_four_36
    · refine lv_aload_n C.1.1 C.1.2.1 dX11_four_7 rfl (lv_at hl 0 rfl) ?_
      refine ns_getr C w 62 (hI 62 (by decide)) sh_62 (rfl : vwCl[11]? = some (RX11, TX11, 59)) inX11_four_11 1 (by decide) rfl lX11_four_7 dX11_four_8 ?_
      refine lv_aload_n C.1.1 C.1.2.1 dX11_four_11 rfl (lv_at hl 0 rfl) ?_
      refine ns_geti C w 62 (hI 62 (by decide)) sh_62 (rfl : vwCl[11]? = some (RX11, TX11, 59)) inX11_four_11 2 (by decide) rfl lX11_four_186 (S.1 3970) rfl dX11_four_12 ?_
      refine lv_iload_n C.1.1 C.1.2.1 dX11_four_15 rfl (lv_at hl 1 rfl) ?_
      refine lv_iload_n C.1.1 C.1.2.1 dX11_four_16 rfl (lv_at hl 2 rfl) ?_
      refine lv_ishr C.1.1 C.1.2.1 dX11_four_17 ?_
      refine lv_i2b (v := (l1 >>> (l2 &&& 31)).toInt8.toInt32) C.1.1 C.1.2.1 dX11_four_18 rfl ?_
      refine ns_bast C w 63 (hI 63 (by decide)) sh_63 hf rfl (List.mem_of_getElem? (i := 0) rfl) dX11_four_19 (fun y1 H locs hf w => ?_)
      refine lv_aload_n C.1.1 C.1.2.1 dX11_four_20 rfl (lv_at hl 0 rfl) ?_
      refine lv_dup C.1.1 C.1.2.1 dX11_four_21 rfl ?_
      refine ns_geti C w 62 (hI 62 (by decide)) sh_62 (rfl : vwCl[11]? = some (RX11, TX11, 59)) inX11_four_11 2 (by decide) rfl lX11_four_186 (S.1 3970) rfl dX11_four_22 ?_
      refine lv_iconst (v := 1) C.1.1 C.1.2.1 dX11_four_25 (by decide) ?_
      refine lv_iadd C.1.1 C.1.2.1 dX11_four_26 ?_
      refine ns_namei hf (fun x2 hf => ?_)
      refine ns_puti C w 62 (hI 62 (by decide)) sh_62 (rfl : vwCl[11]? = some (RX11, TX11, 59)) inX11_four_11 tyX11_ok nmX11 2 (by decide) rfl lX11_four_186 rfl rfl rfl (List.mem_of_getElem? (i := 1) rfl) dX11_four_27 (fun H locs w => ?_)
      refine ns_iinc (lv' := fun x3 => [(2, .int x3), (0, .ref (b 62)), (1, .int l1)]) C hf dX11_four_30 hl (k := 2) rfl rfl (by decide) (fun _ => rfl) (fun x3 ls hl hf => ?_)
      refine lv_goto (tgt := 3) C.1.1 C.1.2.1 dX11_four_33 (by decide) ?_
      exact K3 w (lv_sub hl [1, 2, 0] rfl) hf
set_option maxHeartbeats 4000000 in
set_option maxRecDepth 100000 in
theorem mX11_four_62 (l : Launch) (D : va_G) (b : Nat → Nat) (ids : List Nat) (hI : ∀ i, i < 107 → i ∈ ids) (N : Nat) (S : ns_S) (p1 : Int32) {o : (Nat → Int32) × Int32} (hf : fX11_four N (S.1 3970) (S.2.1 63) p1 = some o) : ns_M l yX11_four wsX11_four rmX11_four_62 D b ids S [.ref (b 62), .int p1] none (ns_A (ns_I S 3970 o.2) 63 o.1) := by
  refine ns_start (Wr := wrX11_four_62) (by decide) rfl (Nat.le_of_ble_eq_true rfl) ?_
  intro p e s m below meth c A ls C hr hlk w hl
  have hl : lv_has ls 3 [(0, .ref (b 62)), (1, .int p1)] := hl
  unfold fX11_four at hf
  refine lv_bipush (v := 24) C.1.1 C.1.2.1 dX11_four_0 (by decide) ?_
  refine lv_istore_n (lv' := [(2, .int 24), (0, .ref (b 62)), (1, .int p1)]) C.1.1 C.1.2.1 dX11_four_2 rfl hl (by decide) rfl (fun ls hl => ?_)
  exact wX11_four_62_3 N hI C hr hlk N w (lv_sub hl [1, 2, 0] rfl) hf
theorem lX11_feed_179 : Cond.fieldLink RX11 179 (TX11 0).1 (TX11 0).2.1 (TX11 0).2.2.1 ∈ wsX11_feed := List.mem_of_getElem? (i := 1) rfl
theorem lX11_feed_186 : Cond.fieldLink RX11 186 (TX11 2).1 (TX11 2).2.1 (TX11 2).2.2.1 ∈ wsX11_feed := List.mem_of_getElem? (i := 2) rfl
theorem inX11_feed_11 : ∀ w ∈ u_ws RX11 TX11 59, w ∈ wsX11_feed := fun _ h => List.mem_cons_of_mem _ (List.mem_append_right _ h)
theorem hdX11_feed : yX11_feed.cls = RX11 ∧ yX11_feed.cls ≠ "java/lang/invoke/MethodHandle" ∧ yX11_feed.cls ≠ "java/lang/invoke/VarHandle" ∧ (parseMethodDescriptor yX11_feed.desc).map (fun d => d.parameters.length) = some 5 := by decide +kernel
abbrev wrX11_feed_62 : List (Nat × Nat) := [(0, 3968), (1, 63), (0, 3970)]
abbrev rmX11_feed_62 : Room := { frames := 1, cells := 0, slots := 0, locals := 22 }
set_option maxHeartbeats 4000000 in
set_option maxRecDepth 100000 in
theorem mX11_feed_62 (l : Launch) (D : va_G) (b : Nat → Nat) (ids : List Nat) (hI : ∀ i, i < 107 → i ∈ ids) (N : Nat) (S : ns_S) (p1 : Int32) (p2 : Int32) (p3 : Int32) (p4 : Int32) (p5 : Int32) {o : Int32 × Int32 × (Nat → Int32) × Int32} (hf : fX11_feed N (S.1 3968) (S.1 3970) (S.2.1 63) p1 p2 p3 p4 p5 = some o) : ns_M l yX11_feed wsX11_feed rmX11_feed_62 D b ids S [.ref (b 62), .int p1, .int p2, .int p3, .int p4, .int p5] (some (.int o.1)) (ns_I (ns_A (ns_I S 3970 o.2.2.2) 63 o.2.2.1) 3968 o.2.1) := by
  refine ns_start (Wr := wrX11_feed_62) (by decide) rfl (Nat.le_of_ble_eq_true rfl) ?_
  intro p e s m below meth c A ls C hr hlk w hl
  have hl : lv_has ls 6 [(0, .ref (b 62)), (1, .int p1), (2, .int p2), (3, .int p3), (4, .int p4), (5, .int p5)] := hl
  unfold fX11_feed at hf
  refine lv_aload_n C.1.1 C.1.2.1 dX11_feed_0 rfl (lv_at hl 0 rfl) ?_
  refine lv_iconst (v := 0) C.1.1 C.1.2.1 dX11_feed_1 (by decide) ?_
  refine ns_puti C w 62 (hI 62 (by decide)) sh_62 (rfl : vwCl[11]? = some (RX11, TX11, 59)) inX11_feed_11 tyX11_ok nmX11 0 (by decide) rfl lX11_feed_179 rfl rfl rfl (List.mem_of_getElem? (i := 0) rfl) dX11_feed_2 (fun H locs w => ?_)
  refine lv_aload_n C.1.1 C.1.2.1 dX11_feed_5 rfl (lv_at hl 0 rfl) ?_
  refine ns_geti C w 62 (hI 62 (by decide)) sh_62 (rfl : vwCl[11]? = some (RX11, TX11, 59)) inX11_feed_11 2 (by decide) rfl lX11_feed_186 (S.1 3970) rfl dX11_feed_6 ?_
  refine lv_bipush (v := 20) C.1.1 C.1.2.1 dX11_feed_9 (by decide) ?_
  refine lv_iadd C.1.1 C.1.2.1 dX11_feed_11 ?_
  refine lv_sipush (v := 500) C.1.1 C.1.2.1 dX11_feed_12 (by decide) ?_
  refine ns_icmp_le C hf (tgt := 20) dX11_feed_15 (by decide) (fun hf => ?_) (fun hf => ?_)
  · refine lv_aload_n C.1.1 C.1.2.1 dX11_feed_20 rfl (lv_at hl 0 rfl) ?_
    refine lv_iload_n C.1.1 C.1.2.1 dX11_feed_21 rfl (lv_at hl 1 rfl) ?_
    refine ns_callV C w 62 (hI 62 (by decide)) sh_62 (rfl : vwCl[11]? = some (RX11, TX11, 59)) [.int p1] hf (fun u hu => mX11_four_62 l D b ids hI N _ p1 hu) gX11_feed_X11_four rfl rfl rfl hdX11_four ⟨Nat.le_of_ble_eq_true rfl, Nat.le_of_ble_eq_true rfl⟩ (fun u h => ((h.I (List.mem_of_getElem? (i := 2) rfl) _).A (List.mem_of_getElem? (i := 1) rfl) _)) rfl hl.1 rfl (Nat.le_of_ble_eq_true rfl) ⟨Nat.le_refl _, Nat.le_refl _⟩ dX11_feed_22 (fun o1 H locs hf w => ?_)
    refine lv_aload_n C.1.1 C.1.2.1 dX11_feed_25 rfl (lv_at hl 0 rfl) ?_
    refine lv_iload_n C.1.1 C.1.2.1 dX11_feed_26 rfl (lv_at hl 2 rfl) ?_
    refine ns_callV C w 62 (hI 62 (by decide)) sh_62 (rfl : vwCl[11]? = some (RX11, TX11, 59)) [.int p2] hf (fun u hu => mX11_four_62 l D b ids hI N _ p2 hu) gX11_feed_X11_four rfl rfl rfl hdX11_four ⟨Nat.le_of_ble_eq_true rfl, Nat.le_of_ble_eq_true rfl⟩ (fun u h => ((h.I (List.mem_of_getElem? (i := 2) rfl) _).A (List.mem_of_getElem? (i := 1) rfl) _)) rfl hl.1 rfl (Nat.le_of_ble_eq_true rfl) ⟨Nat.le_refl _, Nat.le_refl _⟩ dX11_feed_27 (fun o2 H locs hf w => ?_)
    refine lv_aload_n C.1.1 C.1.2.1 dX11_feed_30 rfl (lv_at hl 0 rfl) ?_
    refine lv_iload_n C.1.1 C.1.2.1 dX11_feed_31 rfl (lv_at hl 3 rfl) ?_
    refine ns_callV C w 62 (hI 62 (by decide)) sh_62 (rfl : vwCl[11]? = some (RX11, TX11, 59)) [.int p3] hf (fun u hu => mX11_four_62 l D b ids hI N _ p3 hu) gX11_feed_X11_four rfl rfl rfl hdX11_four ⟨Nat.le_of_ble_eq_true rfl, Nat.le_of_ble_eq_true rfl⟩ (fun u h => ((h.I (List.mem_of_getElem? (i := 2) rfl) _).A (List.mem_of_getElem? (i := 1) rfl) _)) rfl hl.1 rfl (Nat.le_of_ble_eq_true rfl) ⟨Nat.le_refl _, Nat.le_refl _⟩ dX11_feed_32 (fun o3 H locs hf w => ?_)
    refine lv_aload_n C.1.1 C.1.2.1 dX11_feed_35 rfl (lv_at hl 0 rfl) ?_
    refine lv_iload C.1.1 C.1.2.1 dX11_feed_36 (lv_at hl 4 rfl) ?_
    refine ns_callV C w 62 (hI 62 (by decide)) sh_62 (rfl : vwCl[11]? = some (RX11, TX11, 59)) [.int p4] hf (fun u hu => mX11_four_62 l D b ids hI N _ p4 hu) gX11_feed_X11_four rfl rfl rfl hdX11_four ⟨Nat.le_of_ble_eq_true rfl, Nat.le_of_ble_eq_true rfl⟩ (fun u h => ((h.I (List.mem_of_getElem? (i := 2) rfl) _).A (List.mem_of_getElem? (i := 1) rfl) _)) rfl hl.1 rfl (Nat.le_of_ble_eq_true rfl) ⟨Nat.le_refl _, Nat.le_refl _⟩ dX11_feed_38 (fun o4 H locs hf w => ?_)
    refine lv_aload_n C.1.1 C.1.2.1 dX11_feed_41 rfl (lv_at hl 0 rfl) ?_
    refine lv_iload C.1.1 C.1.2.1 dX11_feed_42 (lv_at hl 5 rfl) ?_
    refine ns_callV C w 62 (hI 62 (by decide)) sh_62 (rfl : vwCl[11]? = some (RX11, TX11, 59)) [.int p5] hf (fun u hu => mX11_four_62 l D b ids hI N _ p5 hu) gX11_feed_X11_four rfl rfl rfl hdX11_four ⟨Nat.le_of_ble_eq_true rfl, Nat.le_of_ble_eq_true rfl⟩ (fun u h => ((h.I (List.mem_of_getElem? (i := 2) rfl) _).A (List.mem_of_getElem? (i := 1) rfl) _)) rfl hl.1 rfl (Nat.le_of_ble_eq_true rfl) ⟨Nat.le_refl _, Nat.le_refl _⟩ dX11_feed_44 (fun o5 H locs hf w => ?_)
    refine lv_aload_n C.1.1 C.1.2.1 dX11_feed_47 rfl (lv_at hl 0 rfl) ?_
    refine ns_geti C w 62 (hI 62 (by decide)) sh_62 (rfl : vwCl[11]? = some (RX11, TX11, 59)) inX11_feed_11 2 (by decide) rfl lX11_feed_186 (o5.2) rfl dX11_feed_48 ?_
    have he := Option.some.inj hf
    subst he
    exact ns_iret C w hr hlk rfl rfl dX11_feed_51
  · refine lv_iconst (v := (-1)) C.1.1 C.1.2.1 dX11_feed_18 (by decide) ?_
    have he := Option.some.inj hf
    subst he
    exact ns_iret C w hr hlk rfl rfl dX11_feed_19
theorem lX10_end_38 : Cond.fieldLink RX10 38 (TX10 1).1 (TX10 1).2.1 (TX10 1).2.2.1 ∈ wsX10_end := List.mem_of_getElem? (i := 1) rfl
theorem inX10_end_10 : ∀ w ∈ u_ws RX10 TX10 6, w ∈ wsX10_end := fun _ h => List.mem_cons_of_mem _ (List.mem_append_right _ h)
theorem hdX10_end : yX10_end.cls = RX10 ∧ yX10_end.cls ≠ "java/lang/invoke/MethodHandle" ∧ yX10_end.cls ≠ "java/lang/invoke/VarHandle" ∧ (parseMethodDescriptor yX10_end.desc).map (fun d => d.parameters.length) = some 1 := by decide +kernel
abbrev wrX10_end_0 : List (Nat × Nat) := [(0, 1)]
abbrev rmX10_end_0 : Room := { frames := 0, cells := 0, slots := 0, locals := 0 }
set_option maxHeartbeats 4000000 in
set_option maxRecDepth 100000 in
theorem mX10_end_0 (l : Launch) (D : va_G) (b : Nat → Nat) (ids : List Nat) (hI : ∀ i, i < 107 → i ∈ ids) (N : Nat) (S : ns_S) (p1 : Int32) {o : Int32 × Int32} (hf : fX10_end N (S.1 1) p1 = some o) : ns_M l yX10_end wsX10_end rmX10_end_0 D b ids S [.ref (b 0), .int p1] (some (.int o.1)) (ns_I S 1 o.2) := by
  refine ns_start (Wr := wrX10_end_0) (by decide) rfl (Nat.le_of_ble_eq_true rfl) ?_
  intro p e s m below meth c A ls C hr hlk w hl
  have hl : lv_has ls 2 [(0, .ref (b 0)), (1, .int p1)] := hl
  unfold fX10_end at hf
  refine lv_iload_n C.1.1 C.1.2.1 dX10_end_0 rfl (lv_at hl 1 rfl) ?_
  refine ns_if_lt C hf (tgt := 12) dX10_end_1 (by decide) (fun hf => ?_) (fun hf => ?_)
  · refine lv_iconst (v := (-1)) C.1.1 C.1.2.1 dX10_end_12 (by decide) ?_
    have he := Option.some.inj hf
    subst he
    exact ns_iret C w hr hlk rfl rfl dX10_end_13
  · refine lv_iload_n C.1.1 C.1.2.1 dX10_end_4 rfl (lv_at hl 1 rfl) ?_
    refine lv_aload_n C.1.1 C.1.2.1 dX10_end_5 rfl (lv_at hl 0 rfl) ?_
    refine ns_geti C w 0 (hI 0 (by decide)) sh_0 (rfl : vwCl[10]? = some (RX10, TX10, 6)) inX10_end_10 1 (by decide) rfl lX10_end_38 (S.1 1) rfl dX10_end_6 ?_
    refine ns_icmp_le C hf (tgt := 14) dX10_end_9 (by decide) (fun hf => ?_) (fun hf => ?_)
    · refine lv_aload_n C.1.1 C.1.2.1 dX10_end_14 rfl (lv_at hl 0 rfl) ?_
      refine lv_iload_n C.1.1 C.1.2.1 dX10_end_15 rfl (lv_at hl 1 rfl) ?_
      refine ns_puti C w 0 (hI 0 (by decide)) sh_0 (rfl : vwCl[10]? = some (RX10, TX10, 6)) inX10_end_10 tyX10_ok nmX10 1 (by decide) rfl lX10_end_38 rfl rfl rfl (List.mem_of_getElem? (i := 0) rfl) dX10_end_16 (fun H locs w => ?_)
      refine lv_iload_n C.1.1 C.1.2.1 dX10_end_19 rfl (lv_at hl 1 rfl) ?_
      have he := Option.some.inj hf
      subst he
      exact ns_iret C w hr hlk rfl rfl dX10_end_20
    · refine lv_iconst (v := (-1)) C.1.1 C.1.2.1 dX10_end_12 (by decide) ?_
      have he := Option.some.inj hf
      subst he
      exact ns_iret C w hr hlk rfl rfl dX10_end_13
theorem hdX11_in : yX11_in.cls ≠ "java/lang/invoke/MethodHandle" ∧ yX11_in.cls ≠ "java/lang/invoke/VarHandle" ∧ (parseMethodDescriptor yX11_in.desc).map (fun d => d.parameters.length) = some 3 := by decide +kernel
abbrev wrX11_in : List (Nat × Nat) := []
abbrev rmX11_in : Room := { frames := 0, cells := 0, slots := 0, locals := 0 }
set_option maxHeartbeats 4000000 in
set_option maxRecDepth 100000 in
theorem mX11_in (l : Launch) (D : va_G) (b : Nat → Nat) (ids : List Nat) (hI : ∀ i, i < 107 → i ∈ ids) (N : Nat) (S : ns_S) (p0 : Int32) (p1 : Int32) (p2 : Int32) {o : Int32} (hf : fX11_in N p0 p1 p2 = some o) : ns_M l yX11_in wsX11_in rmX11_in D b ids S [.int p0, .int p1, .int p2] (some (.int o)) S := by
  refine ns_start (Wr := wrX11_in) (by decide) rfl (Nat.le_of_ble_eq_true rfl) ?_
  intro p e s m below meth c A ls C hr hlk w hl
  have hl : lv_has ls 3 [(0, .int p0), (1, .int p1), (2, .int p2)] := hl
  unfold fX11_in at hf
  refine lv_iload_n C.1.1 C.1.2.1 dX11_in_0 rfl (lv_at hl 0 rfl) ?_
  refine lv_iload_n C.1.1 C.1.2.1 dX11_in_1 rfl (lv_at hl 1 rfl) ?_
  refine ns_icmp_lt C hf (tgt := 14) dX11_in_2 (by decide) (fun hf => ?_) (fun hf => ?_)
  · refine lv_iconst (v := 0) C.1.1 C.1.2.1 dX11_in_14 (by decide) ?_
    have he := Option.some.inj hf
    subst he
    exact ns_zret C w hr hlk rfl (Or.inl rfl) rfl dX11_in_15
  · refine lv_iload_n C.1.1 C.1.2.1 dX11_in_5 rfl (lv_at hl 0 rfl) ?_
    refine lv_iload_n C.1.1 C.1.2.1 dX11_in_6 rfl (lv_at hl 2 rfl) ?_
    refine ns_icmp_gt C hf (tgt := 14) dX11_in_7 (by decide) (fun hf => ?_) (fun hf => ?_)
    · refine lv_iconst (v := 0) C.1.1 C.1.2.1 dX11_in_14 (by decide) ?_
      have he := Option.some.inj hf
      subst he
      exact ns_zret C w hr hlk rfl (Or.inl rfl) rfl dX11_in_15
    · refine lv_iconst (v := 1) C.1.1 C.1.2.1 dX11_in_10 (by decide) ?_
      refine lv_goto (tgt := 15) C.1.1 C.1.2.1 dX11_in_11 (by decide) ?_
      have he := Option.some.inj hf
      subst he
      exact ns_zret C w hr hlk rfl (Or.inr rfl) rfl dX11_in_15
theorem lX11_end_179 : Cond.fieldLink RX11 179 (TX11 0).1 (TX11 0).2.1 (TX11 0).2.2.1 ∈ wsX11_end := List.mem_of_getElem? (i := 1) rfl
theorem lX11_end_186 : Cond.fieldLink RX11 186 (TX11 2).1 (TX11 2).2.1 (TX11 2).2.2.1 ∈ wsX11_end := List.mem_of_getElem? (i := 2) rfl
theorem inX11_end_11 : ∀ w ∈ u_ws RX11 TX11 59, w ∈ wsX11_end := fun _ h => List.mem_cons_of_mem _ (List.mem_append_right _ h)
theorem hdX11_end : yX11_end.cls = RX11 ∧ yX11_end.cls ≠ "java/lang/invoke/MethodHandle" ∧ yX11_end.cls ≠ "java/lang/invoke/VarHandle" ∧ (parseMethodDescriptor yX11_end.desc).map (fun d => d.parameters.length) = some 1 := by decide +kernel
abbrev wrX11_end_62 : List (Nat × Nat) := [(0, 3968), (0, 3970)]
abbrev rmX11_end_62 : Room := { frames := 1, cells := 0, slots := 0, locals := 22 }
set_option maxHeartbeats 4000000 in
set_option maxRecDepth 100000 in
theorem mX11_end_62 (l : Launch) (D : va_G) (b : Nat → Nat) (ids : List Nat) (hI : ∀ i, i < 107 → i ∈ ids) (N : Nat) (S : ns_S) (p1 : Int32) {o : Int32 × Int32 × Int32} (hf : fX11_end N (S.1 3968) (S.1 3970) p1 = some o) : ns_M l yX11_end wsX11_end rmX11_end_62 D b ids S [.ref (b 62), .int p1] (some (.int o.1)) (ns_I (ns_I S 3970 o.2.2) 3968 o.2.1) := by
  refine ns_start (Wr := wrX11_end_62) (by decide) rfl (Nat.le_of_ble_eq_true rfl) ?_
  intro p e s m below meth c A ls C hr hlk w hl
  have hl : lv_has ls 2 [(0, .ref (b 62)), (1, .int p1)] := hl
  unfold fX11_end at hf
  refine lv_aload_n C.1.1 C.1.2.1 dX11_end_0 rfl (lv_at hl 0 rfl) ?_
  refine lv_iconst (v := 0) C.1.1 C.1.2.1 dX11_end_1 (by decide) ?_
  refine ns_puti C w 62 (hI 62 (by decide)) sh_62 (rfl : vwCl[11]? = some (RX11, TX11, 59)) inX11_end_11 tyX11_ok nmX11 0 (by decide) rfl lX11_end_179 rfl rfl rfl (List.mem_of_getElem? (i := 0) rfl) dX11_end_2 (fun H locs w => ?_)
  refine lv_iload_n C.1.1 C.1.2.1 dX11_end_5 rfl (lv_at hl 1 rfl) ?_
  refine lv_iconst (v := 0) C.1.1 C.1.2.1 dX11_end_6 (by decide) ?_
  refine lv_aload_n C.1.1 C.1.2.1 dX11_end_7 rfl (lv_at hl 0 rfl) ?_
  refine ns_geti C w 62 (hI 62 (by decide)) sh_62 (rfl : vwCl[11]? = some (RX11, TX11, 59)) inX11_end_11 2 (by decide) rfl lX11_end_186 (S.1 3970) rfl dX11_end_8 ?_
  refine ns_callS C w [.int p1, .int 0, .int (S.1 3970)] hf (fun u hu => mX11_in l D b ids hI N _ p1 0 (S.1 3970) hu) gX11_end_X11_in rfl rfl rfl hdX11_in ⟨Nat.le_of_ble_eq_true rfl, Nat.le_of_ble_eq_true rfl⟩ (fun u h => h) rfl hl.1 rfl (Nat.le_of_ble_eq_true rfl) ⟨Nat.le_refl _, Nat.le_refl _⟩ dX11_end_11 (fun o1 H locs hf w => ?_)
  refine ns_if_ne C hf (tgt := 19) dX11_end_14 (by decide) (fun hf => ?_) (fun hf => ?_)
  · refine lv_aload_n C.1.1 C.1.2.1 dX11_end_19 rfl (lv_at hl 0 rfl) ?_
    refine lv_iload_n C.1.1 C.1.2.1 dX11_end_20 rfl (lv_at hl 1 rfl) ?_
    refine ns_puti C w 62 (hI 62 (by decide)) sh_62 (rfl : vwCl[11]? = some (RX11, TX11, 59)) inX11_end_11 tyX11_ok nmX11 2 (by decide) rfl lX11_end_186 rfl rfl rfl (List.mem_of_getElem? (i := 1) rfl) dX11_end_21 (fun H locs w => ?_)
    refine lv_iload_n C.1.1 C.1.2.1 dX11_end_24 rfl (lv_at hl 1 rfl) ?_
    have he := Option.some.inj hf
    subst he
    exact ns_iret C w hr hlk rfl rfl dX11_end_25
  · refine lv_iconst (v := (-1)) C.1.1 C.1.2.1 dX11_end_17 (by decide) ?_
    have he := Option.some.inj hf
    subst he
    exact ns_iret C w hr hlk rfl rfl dX11_end_18
theorem lX9_addToken_9 : Cond.fieldLink RX9 9 (TX9 1).1 (TX9 1).2.1 (TX9 1).2.2.1 ∈ wsX9_addToken := List.mem_of_getElem? (i := 2) rfl
theorem lX9_addToken_15 : Cond.fieldLink RX9 15 (TX9 2).1 (TX9 2).2.1 (TX9 2).2.2.1 ∈ wsX9_addToken := List.mem_of_getElem? (i := 3) rfl
theorem lX9_addToken_18 : Cond.fieldLink RX9 18 (TX9 3).1 (TX9 3).2.1 (TX9 3).2.2.1 ∈ wsX9_addToken := List.mem_of_getElem? (i := 4) rfl
theorem lX9_addToken_21 : Cond.fieldLink RX9 21 (TX9 0).1 (TX9 0).2.1 (TX9 0).2.2.1 ∈ wsX9_addToken := List.mem_of_getElem? (i := 1) rfl
theorem inX9_addToken_9 : ∀ w ∈ u_ws RX9 TX9 4, w ∈ wsX9_addToken := fun _ h => List.mem_cons_of_mem _ (List.mem_append_right _ h)
theorem hdX9_addToken : yX9_addToken.cls = RX9 ∧ yX9_addToken.cls ≠ "java/lang/invoke/MethodHandle" ∧ yX9_addToken.cls ≠ "java/lang/invoke/VarHandle" ∧ (parseMethodDescriptor yX9_addToken.desc).map (fun d => d.parameters.length) = some 3 := by decide +kernel
abbrev wrX9_addToken_3 : List (Nat × Nat) := [(1, 4), (1, 5), (1, 6), (0, 192)]
abbrev rmX9_addToken_3 : Room := { frames := 0, cells := 0, slots := 0, locals := 0 }
set_option maxHeartbeats 4000000 in
set_option maxRecDepth 100000 in
theorem mX9_addToken_3 (l : Launch) (D : va_G) (b : Nat → Nat) (ids : List Nat) (hI : ∀ i, i < 107 → i ∈ ids) (N : Nat) (S : ns_S) (p1 : Int32) (p2 : Int32) (p3 : Int32) {o : (Nat → Int32) × (Nat → Int32) × (Nat → Int32) × Int32} (hf : fX9_addToken N (S.1 192) (S.2.1 4) (S.2.1 5) (S.2.1 6) p1 p2 p3 = some o) : ns_M l yX9_addToken wsX9_addToken rmX9_addToken_3 D b ids S [.ref (b 3), .int p1, .int p2, .int p3] none (ns_A (ns_A (ns_A (ns_I S 192 o.2.2.2) 6 o.2.2.1) 5 o.2.1) 4 o.1) := by
  refine ns_start (Wr := wrX9_addToken_3) (by decide) rfl (Nat.le_of_ble_eq_true rfl) ?_
  intro p e s m below meth c A ls C hr hlk w hl
  have hl : lv_has ls 4 [(0, .ref (b 3)), (1, .int p1), (2, .int p2), (3, .int p3)] := hl
  unfold fX9_addToken at hf
  refine lv_aload_n C.1.1 C.1.2.1 dX9_addToken_0 rfl (lv_at hl 0 rfl) ?_
  refine ns_geti C w 3 (hI 3 (by decide)) sh_3 (rfl : vwCl[9]? = some (RX9, TX9, 4)) inX9_addToken_9 0 (by decide) rfl lX9_addToken_21 (S.1 192) rfl dX9_addToken_1 ?_
  refine lv_aload_n C.1.1 C.1.2.1 dX9_addToken_4 rfl (lv_at hl 0 rfl) ?_
  refine ns_getr C w 3 (hI 3 (by decide)) sh_3 (rfl : vwCl[9]? = some (RX9, TX9, 4)) inX9_addToken_9 1 (by decide) rfl lX9_addToken_9 dX9_addToken_5 ?_
  refine ns_alen (v := 501) C w 4 (hI 4 (by decide)) sh_4 rfl dX9_addToken_8 ?_
  refine ns_icmp_ge C hf (tgt := 52) dX9_addToken_9 (by decide) (fun hf => ?_) (fun hf => ?_)
  · have he := Option.some.inj hf
    subst he
    exact ns_vret C w hr hlk rfl rfl dX9_addToken_52
  · refine lv_aload_n C.1.1 C.1.2.1 dX9_addToken_12 rfl (lv_at hl 0 rfl) ?_
    refine ns_getr C w 3 (hI 3 (by decide)) sh_3 (rfl : vwCl[9]? = some (RX9, TX9, 4)) inX9_addToken_9 1 (by decide) rfl lX9_addToken_9 dX9_addToken_13 ?_
    refine lv_aload_n C.1.1 C.1.2.1 dX9_addToken_16 rfl (lv_at hl 0 rfl) ?_
    refine ns_geti C w 3 (hI 3 (by decide)) sh_3 (rfl : vwCl[9]? = some (RX9, TX9, 4)) inX9_addToken_9 0 (by decide) rfl lX9_addToken_21 (S.1 192) rfl dX9_addToken_17 ?_
    refine lv_iload_n C.1.1 C.1.2.1 dX9_addToken_20 rfl (lv_at hl 1 rfl) ?_
    refine ns_iast C w 4 (hI 4 (by decide)) sh_4 hf rfl (List.mem_of_getElem? (i := 0) rfl) dX9_addToken_21 (fun y1 H locs hf w => ?_)
    refine lv_aload_n C.1.1 C.1.2.1 dX9_addToken_22 rfl (lv_at hl 0 rfl) ?_
    refine ns_getr C w 3 (hI 3 (by decide)) sh_3 (rfl : vwCl[9]? = some (RX9, TX9, 4)) inX9_addToken_9 2 (by decide) rfl lX9_addToken_15 dX9_addToken_23 ?_
    refine lv_aload_n C.1.1 C.1.2.1 dX9_addToken_26 rfl (lv_at hl 0 rfl) ?_
    refine ns_geti C w 3 (hI 3 (by decide)) sh_3 (rfl : vwCl[9]? = some (RX9, TX9, 4)) inX9_addToken_9 0 (by decide) rfl lX9_addToken_21 (S.1 192) rfl dX9_addToken_27 ?_
    refine lv_iload_n C.1.1 C.1.2.1 dX9_addToken_30 rfl (lv_at hl 2 rfl) ?_
    refine ns_iast C w 5 (hI 5 (by decide)) sh_5 hf rfl (List.mem_of_getElem? (i := 1) rfl) dX9_addToken_31 (fun y2 H locs hf w => ?_)
    refine lv_aload_n C.1.1 C.1.2.1 dX9_addToken_32 rfl (lv_at hl 0 rfl) ?_
    refine ns_getr C w 3 (hI 3 (by decide)) sh_3 (rfl : vwCl[9]? = some (RX9, TX9, 4)) inX9_addToken_9 3 (by decide) rfl lX9_addToken_18 dX9_addToken_33 ?_
    refine lv_aload_n C.1.1 C.1.2.1 dX9_addToken_36 rfl (lv_at hl 0 rfl) ?_
    refine ns_geti C w 3 (hI 3 (by decide)) sh_3 (rfl : vwCl[9]? = some (RX9, TX9, 4)) inX9_addToken_9 0 (by decide) rfl lX9_addToken_21 (S.1 192) rfl dX9_addToken_37 ?_
    refine lv_iload_n C.1.1 C.1.2.1 dX9_addToken_40 rfl (lv_at hl 3 rfl) ?_
    refine ns_iast C w 6 (hI 6 (by decide)) sh_6 hf rfl (List.mem_of_getElem? (i := 2) rfl) dX9_addToken_41 (fun y3 H locs hf w => ?_)
    refine lv_aload_n C.1.1 C.1.2.1 dX9_addToken_42 rfl (lv_at hl 0 rfl) ?_
    refine lv_dup C.1.1 C.1.2.1 dX9_addToken_43 rfl ?_
    refine ns_geti C w 3 (hI 3 (by decide)) sh_3 (rfl : vwCl[9]? = some (RX9, TX9, 4)) inX9_addToken_9 0 (by decide) rfl lX9_addToken_21 (S.1 192) rfl dX9_addToken_44 ?_
    refine lv_iconst (v := 1) C.1.1 C.1.2.1 dX9_addToken_47 (by decide) ?_
    refine lv_iadd C.1.1 C.1.2.1 dX9_addToken_48 ?_
    refine ns_namei hf (fun x4 hf => ?_)
    refine ns_puti C w 3 (hI 3 (by decide)) sh_3 (rfl : vwCl[9]? = some (RX9, TX9, 4)) inX9_addToken_9 tyX9_ok nmX9 0 (by decide) rfl lX9_addToken_21 rfl rfl rfl (List.mem_of_getElem? (i := 3) rfl) dX9_addToken_49 (fun H locs w => ?_)
    have he := Option.some.inj hf
    subst he
    exact ns_vret C w hr hlk rfl rfl dX9_addToken_52
theorem hdX9_isDigit : yX9_isDigit.cls ≠ "java/lang/invoke/MethodHandle" ∧ yX9_isDigit.cls ≠ "java/lang/invoke/VarHandle" ∧ (parseMethodDescriptor yX9_isDigit.desc).map (fun d => d.parameters.length) = some 1 := by decide +kernel
abbrev wrX9_isDigit : List (Nat × Nat) := []
abbrev rmX9_isDigit : Room := { frames := 0, cells := 0, slots := 0, locals := 0 }
set_option maxHeartbeats 4000000 in
set_option maxRecDepth 100000 in
theorem mX9_isDigit (l : Launch) (D : va_G) (b : Nat → Nat) (ids : List Nat) (hI : ∀ i, i < 107 → i ∈ ids) (N : Nat) (S : ns_S) (p0 : Int32) {o : Int32} (hf : fX9_isDigit N p0 = some o) : ns_M l yX9_isDigit wsX9_isDigit rmX9_isDigit D b ids S [.int p0] (some (.int o)) S := by
  refine ns_start (Wr := wrX9_isDigit) (by decide) rfl (Nat.le_of_ble_eq_true rfl) ?_
  intro p e s m below meth c A ls C hr hlk w hl
  have hl : lv_has ls 1 [(0, .int p0)] := hl
  unfold fX9_isDigit at hf
  refine lv_iload_n C.1.1 C.1.2.1 dX9_isDigit_0 rfl (lv_at hl 0 rfl) ?_
  refine lv_bipush (v := 48) C.1.1 C.1.2.1 dX9_isDigit_1 (by decide) ?_
  refine ns_icmp_lt C hf (tgt := 16) dX9_isDigit_3 (by decide) (fun hf => ?_) (fun hf => ?_)
  · refine lv_iconst (v := 0) C.1.1 C.1.2.1 dX9_isDigit_16 (by decide) ?_
    have he := Option.some.inj hf
    subst he
    exact ns_zret C w hr hlk rfl (Or.inl rfl) rfl dX9_isDigit_17
  · refine lv_iload_n C.1.1 C.1.2.1 dX9_isDigit_6 rfl (lv_at hl 0 rfl) ?_
    refine lv_bipush (v := 57) C.1.1 C.1.2.1 dX9_isDigit_7 (by decide) ?_
    refine ns_icmp_gt C hf (tgt := 16) dX9_isDigit_9 (by decide) (fun hf => ?_) (fun hf => ?_)
    · refine lv_iconst (v := 0) C.1.1 C.1.2.1 dX9_isDigit_16 (by decide) ?_
      have he := Option.some.inj hf
      subst he
      exact ns_zret C w hr hlk rfl (Or.inl rfl) rfl dX9_isDigit_17
    · refine lv_iconst (v := 1) C.1.1 C.1.2.1 dX9_isDigit_12 (by decide) ?_
      refine lv_goto (tgt := 17) C.1.1 C.1.2.1 dX9_isDigit_13 (by decide) ?_
      have he := Option.some.inj hf
      subst he
      exact ns_zret C w hr hlk rfl (Or.inr rfl) rfl dX9_isDigit_17
theorem hdX9_isLetter : yX9_isLetter.cls ≠ "java/lang/invoke/MethodHandle" ∧ yX9_isLetter.cls ≠ "java/lang/invoke/VarHandle" ∧ (parseMethodDescriptor yX9_isLetter.desc).map (fun d => d.parameters.length) = some 1 := by decide +kernel
abbrev wrX9_isLetter : List (Nat × Nat) := []
abbrev rmX9_isLetter : Room := { frames := 0, cells := 0, slots := 0, locals := 0 }
set_option maxHeartbeats 4000000 in
set_option maxRecDepth 100000 in
theorem mX9_isLetter (l : Launch) (D : va_G) (b : Nat → Nat) (ids : List Nat) (hI : ∀ i, i < 107 → i ∈ ids) (N : Nat) (S : ns_S) (p0 : Int32) {o : Int32} (hf : fX9_isLetter N p0 = some o) : ns_M l yX9_isLetter wsX9_isLetter rmX9_isLetter D b ids S [.int p0] (some (.int o)) S := by
  refine ns_start (Wr := wrX9_isLetter) (by decide) rfl (Nat.le_of_ble_eq_true rfl) ?_
  intro p e s m below meth c A ls C hr hlk w hl
  have hl : lv_has ls 1 [(0, .int p0)] := hl
  unfold fX9_isLetter at hf
  refine lv_iload_n C.1.1 C.1.2.1 dX9_isLetter_0 rfl (lv_at hl 0 rfl) ?_
  refine lv_bipush (v := 97) C.1.1 C.1.2.1 dX9_isLetter_1 (by decide) ?_
  refine ns_icmp_lt C hf (tgt := 16) dX9_isLetter_3 (by decide) (fun hf => ?_) (fun hf => ?_)
  · refine lv_iconst (v := 0) C.1.1 C.1.2.1 dX9_isLetter_16 (by decide) ?_
    have he := Option.some.inj hf
    subst he
    exact ns_zret C w hr hlk rfl (Or.inl rfl) rfl dX9_isLetter_17
  · refine lv_iload_n C.1.1 C.1.2.1 dX9_isLetter_6 rfl (lv_at hl 0 rfl) ?_
    refine lv_bipush (v := 122) C.1.1 C.1.2.1 dX9_isLetter_7 (by decide) ?_
    refine ns_icmp_gt C hf (tgt := 16) dX9_isLetter_9 (by decide) (fun hf => ?_) (fun hf => ?_)
    · refine lv_iconst (v := 0) C.1.1 C.1.2.1 dX9_isLetter_16 (by decide) ?_
      have he := Option.some.inj hf
      subst he
      exact ns_zret C w hr hlk rfl (Or.inl rfl) rfl dX9_isLetter_17
    · refine lv_iconst (v := 1) C.1.1 C.1.2.1 dX9_isLetter_12 (by decide) ?_
      refine lv_goto (tgt := 17) C.1.1 C.1.2.1 dX9_isLetter_13 (by decide) ?_
      have he := Option.some.inj hf
      subst he
      exact ns_zret C w hr hlk rfl (Or.inr rfl) rfl dX9_isLetter_17
theorem hdX9_isSign : yX9_isSign.cls ≠ "java/lang/invoke/MethodHandle" ∧ yX9_isSign.cls ≠ "java/lang/invoke/VarHandle" ∧ (parseMethodDescriptor yX9_isSign.desc).map (fun d => d.parameters.length) = some 1 := by decide +kernel
abbrev wrX9_isSign : List (Nat × Nat) := []
abbrev rmX9_isSign : Room := { frames := 0, cells := 0, slots := 0, locals := 0 }
set_option maxHeartbeats 4000000 in
set_option maxRecDepth 100000 in
theorem mX9_isSign (l : Launch) (D : va_G) (b : Nat → Nat) (ids : List Nat) (hI : ∀ i, i < 107 → i ∈ ids) (N : Nat) (S : ns_S) (p0 : Int32) {o : Int32} (hf : fX9_isSign N p0 = some o) : ns_M l yX9_isSign wsX9_isSign rmX9_isSign D b ids S [.int p0] (some (.int o)) S := by
  refine ns_start (Wr := wrX9_isSign) (by decide) rfl (Nat.le_of_ble_eq_true rfl) ?_
  intro p e s m below meth c A ls C hr hlk w hl
  have hl : lv_has ls 1 [(0, .int p0)] := hl
  unfold fX9_isSign at hf
  refine lv_iload_n C.1.1 C.1.2.1 dX9_isSign_0 rfl (lv_at hl 0 rfl) ?_
  refine lv_bipush (v := 58) C.1.1 C.1.2.1 dX9_isSign_1 (by decide) ?_
  refine ns_icmp_eq C hf (tgt := 36) dX9_isSign_3 (by decide) (fun hf => ?_) (fun hf => ?_)
  · refine lv_iconst (v := 1) C.1.1 C.1.2.1 dX9_isSign_36 (by decide) ?_
    refine lv_goto (tgt := 41) C.1.1 C.1.2.1 dX9_isSign_37 (by decide) ?_
    have he := Option.some.inj hf
    subst he
    exact ns_zret C w hr hlk rfl (Or.inr rfl) rfl dX9_isSign_41
  · refine lv_iload_n C.1.1 C.1.2.1 dX9_isSign_6 rfl (lv_at hl 0 rfl) ?_
    refine lv_bipush (v := 59) C.1.1 C.1.2.1 dX9_isSign_7 (by decide) ?_
    refine ns_icmp_eq C hf (tgt := 36) dX9_isSign_9 (by decide) (fun hf => ?_) (fun hf => ?_)
    · refine lv_iconst (v := 1) C.1.1 C.1.2.1 dX9_isSign_36 (by decide) ?_
      refine lv_goto (tgt := 41) C.1.1 C.1.2.1 dX9_isSign_37 (by decide) ?_
      have he := Option.some.inj hf
      subst he
      exact ns_zret C w hr hlk rfl (Or.inr rfl) rfl dX9_isSign_41
    · refine lv_iload_n C.1.1 C.1.2.1 dX9_isSign_12 rfl (lv_at hl 0 rfl) ?_
      refine lv_bipush (v := 47) C.1.1 C.1.2.1 dX9_isSign_13 (by decide) ?_
      refine ns_icmp_eq C hf (tgt := 36) dX9_isSign_15 (by decide) (fun hf => ?_) (fun hf => ?_)
      · refine lv_iconst (v := 1) C.1.1 C.1.2.1 dX9_isSign_36 (by decide) ?_
        refine lv_goto (tgt := 41) C.1.1 C.1.2.1 dX9_isSign_37 (by decide) ?_
        have he := Option.some.inj hf
        subst he
        exact ns_zret C w hr hlk rfl (Or.inr rfl) rfl dX9_isSign_41
      · refine lv_iload_n C.1.1 C.1.2.1 dX9_isSign_18 rfl (lv_at hl 0 rfl) ?_
        refine lv_bipush (v := 60) C.1.1 C.1.2.1 dX9_isSign_19 (by decide) ?_
        refine ns_icmp_eq C hf (tgt := 36) dX9_isSign_21 (by decide) (fun hf => ?_) (fun hf => ?_)
        · refine lv_iconst (v := 1) C.1.1 C.1.2.1 dX9_isSign_36 (by decide) ?_
          refine lv_goto (tgt := 41) C.1.1 C.1.2.1 dX9_isSign_37 (by decide) ?_
          have he := Option.some.inj hf
          subst he
          exact ns_zret C w hr hlk rfl (Or.inr rfl) rfl dX9_isSign_41
        · refine lv_iload_n C.1.1 C.1.2.1 dX9_isSign_24 rfl (lv_at hl 0 rfl) ?_
          refine lv_bipush (v := 62) C.1.1 C.1.2.1 dX9_isSign_25 (by decide) ?_
          refine ns_icmp_eq C hf (tgt := 36) dX9_isSign_27 (by decide) (fun hf => ?_) (fun hf => ?_)
          · refine lv_iconst (v := 1) C.1.1 C.1.2.1 dX9_isSign_36 (by decide) ?_
            refine lv_goto (tgt := 41) C.1.1 C.1.2.1 dX9_isSign_37 (by decide) ?_
            have he := Option.some.inj hf
            subst he
            exact ns_zret C w hr hlk rfl (Or.inr rfl) rfl dX9_isSign_41
          · refine lv_iload_n C.1.1 C.1.2.1 dX9_isSign_30 rfl (lv_at hl 0 rfl) ?_
            refine lv_bipush (v := 61) C.1.1 C.1.2.1 dX9_isSign_31 (by decide) ?_
            refine ns_icmp_ne C hf (tgt := 40) dX9_isSign_33 (by decide) (fun hf => ?_) (fun hf => ?_)
            · refine lv_iconst (v := 0) C.1.1 C.1.2.1 dX9_isSign_40 (by decide) ?_
              have he := Option.some.inj hf
              subst he
              exact ns_zret C w hr hlk rfl (Or.inl rfl) rfl dX9_isSign_41
            · refine lv_iconst (v := 1) C.1.1 C.1.2.1 dX9_isSign_36 (by decide) ?_
              refine lv_goto (tgt := 41) C.1.1 C.1.2.1 dX9_isSign_37 (by decide) ?_
              have he := Option.some.inj hf
              subst he
              exact ns_zret C w hr hlk rfl (Or.inr rfl) rfl dX9_isSign_41
theorem hdX9_addNumber : yX9_addNumber.cls = RX9 ∧ yX9_addNumber.cls ≠ "java/lang/invoke/MethodHandle" ∧ yX9_addNumber.cls ≠ "java/lang/invoke/VarHandle" ∧ (parseMethodDescriptor yX9_addNumber.desc).map (fun d => d.parameters.length) = some 3 := by decide +kernel
abbrev wrX9_addNumber_3_1 : List (Nat × Nat) := [(1, 4), (1, 5), (1, 6), (0, 192)]
abbrev rmX9_addNumber_3_1 : Room := { frames := 1, cells := 0, slots := 0, locals := 23 }
set_option maxHeartbeats 4000000 in
set_option maxRecDepth 100000 in
theorem wX9_addNumber_3_1_65 {p : Program} {l : Launch} {e : Env} {s : State} {m : MethodId} {args : Array Value} {below : List Frame} {meth : Method} {c : Code} {D : va_G} {b : Nat → Nat} {ids : List Nat} {A : Nat → Prop} {S0 : ns_S} {o : (Nat → Int32) × (Nat → Int32) × (Nat → Int32) × Int32} (N : Nat) (hI : ∀ i, i < 107 → i ∈ ids) (C : ns_C p m c cX9_addNumber 6 s args wsX9_addNumber RX9 D A) (hr : meth.sig.returnType = none) (hlk : meth.locks = false) : ∀ {S : ns_S} {H : Heap} {locs : List Loc} {ls : Array Slot} {l2 : Int32} {l4 : Int32} {s1 : Int32}, ns_W D b ids A s.heap wrX9_addNumber_3_1 S0 S H locs → lv_has ls 6 [(2, .int l2), (4, .int l4)] → gX9_addNumber_65 N 500 (S.2.1 1) (S.1 192) (S.2.1 4) (S.2.1 5) (S.2.1 6) l2 l4 s1 = some o → W p l e rmX9_addNumber_3_1 s m args below meth c H locs 0 0 (MQ below (ns_Q D b ids (ns_A (ns_A (ns_A (ns_I S0 192 o.2.2.2) 6 o.2.2.1) 5 o.2.1) 4 o.1) none A) args s 0 0 A) (F0 m 65 ls [.int s1, .ref (b 3)]) := by
  intro S H locs ls l2 l4 s1 w hl hf
  unfold gX9_addNumber_65 at hf
  refine lv_iload_n C.1.1 C.1.2.1 dX9_addNumber_65 rfl (lv_at hl 0 rfl) ?_
  refine lv_iload C.1.1 C.1.2.1 dX9_addNumber_66 (lv_at hl 1 rfl) ?_
  refine ns_callV C w 3 (hI 3 (by decide)) sh_3 (rfl : vwCl[9]? = some (RX9, TX9, 4)) [.int s1, .int l2, .int l4] hf (fun u hu => mX9_addToken_3 l D b ids hI N _ s1 l2 l4 hu) gX9_addNumber_X9_addToken rfl rfl rfl hdX9_addToken ⟨Nat.le_of_ble_eq_true rfl, Nat.le_of_ble_eq_true rfl⟩ (fun u h => ((((h.I (List.mem_of_getElem? (i := 3) rfl) _).A (List.mem_of_getElem? (i := 2) rfl) _).A (List.mem_of_getElem? (i := 1) rfl) _).A (List.mem_of_getElem? (i := 0) rfl) _)) rfl hl.1 rfl (Nat.le_of_ble_eq_true rfl) ⟨Nat.le_refl _, Nat.le_refl _⟩ dX9_addNumber_68 (fun o1 H locs hf w => ?_)
  have he := Option.some.inj hf
  subst he
  exact ns_vret C w hr hlk rfl rfl dX9_addNumber_71
set_option maxHeartbeats 4000000 in
set_option maxRecDepth 100000 in
theorem wX9_addNumber_3_1_51 {p : Program} {l : Launch} {e : Env} {s : State} {m : MethodId} {args : Array Value} {below : List Frame} {meth : Method} {c : Code} {D : va_G} {b : Nat → Nat} {ids : List Nat} {A : Nat → Prop} {S0 : ns_S} {o : (Nat → Int32) × (Nat → Int32) × (Nat → Int32) × Int32} (N : Nat) (hI : ∀ i, i < 107 → i ∈ ids) (C : ns_C p m c cX9_addNumber 6 s args wsX9_addNumber RX9 D A) (hr : meth.sig.returnType = none) (hlk : meth.locks = false) : ∀ {S : ns_S} {H : Heap} {locs : List Loc} {ls : Array Slot} {l2 : Int32} {l4 : Int32} {l5 : Int32}, ns_W D b ids A s.heap wrX9_addNumber_3_1 S0 S H locs → lv_has ls 6 [(0, .ref (b 3)), (2, .int l2), (4, .int l4), (5, .int l5)] → gX9_addNumber_51 N 500 (S.2.1 1) (S.1 192) (S.2.1 4) (S.2.1 5) (S.2.1 6) l2 l4 l5 = some o → W p l e rmX9_addNumber_3_1 s m args below meth c H locs 0 0 (MQ below (ns_Q D b ids (ns_A (ns_A (ns_A (ns_I S0 192 o.2.2.2) 6 o.2.2.1) 5 o.2.1) 4 o.1) none A) args s 0 0 A) (F0 m 51 ls []) := by
  intro S H locs ls l2 l4 l5 w hl hf
  unfold gX9_addNumber_51 at hf
  refine lv_aload_n C.1.1 C.1.2.1 dX9_addNumber_51 rfl (lv_at hl 0 rfl) ?_
  refine lv_iload C.1.1 C.1.2.1 dX9_addNumber_52 (lv_at hl 3 rfl) ?_
  refine lv_iload_n C.1.1 C.1.2.1 dX9_addNumber_54 rfl (lv_at hl 1 rfl) ?_
  refine lv_isub C.1.1 C.1.2.1 dX9_addNumber_55 ?_
  refine lv_iconst (v := 5) C.1.1 C.1.2.1 dX9_addNumber_56 (by decide) ?_
  refine ns_icmp_gt C hf (tgt := 64) dX9_addNumber_57 (by decide) (fun hf => ?_) (fun hf => ?_)
  · refine lv_iconst (v := 1) C.1.1 C.1.2.1 dX9_addNumber_64 (by decide) ?_
    exact wX9_addNumber_3_1_65 N hI C hr hlk w (lv_sub hl [1, 2] rfl) hf
  · refine lv_iconst (v := 2) C.1.1 C.1.2.1 dX9_addNumber_60 (by decide) ?_
    refine lv_goto (tgt := 65) C.1.1 C.1.2.1 dX9_addNumber_61 (by decide) ?_
    exact wX9_addNumber_3_1_65 N hI C hr hlk w (lv_sub hl [1, 2] rfl) hf
set_option maxHeartbeats 4000000 in
set_option maxRecDepth 100000 in
theorem wX9_addNumber_3_1_6 {p : Program} {l : Launch} {e : Env} {s : State} {m : MethodId} {args : Array Value} {below : List Frame} {meth : Method} {c : Code} {D : va_G} {b : Nat → Nat} {ids : List Nat} {A : Nat → Prop} {S0 : ns_S} {o : (Nat → Int32) × (Nat → Int32) × (Nat → Int32) × Int32} (N : Nat) (hI : ∀ i, i < 107 → i ∈ ids) (C : ns_C p m c cX9_addNumber 6 s args wsX9_addNumber RX9 D A) (hr : meth.sig.returnType = none) (hlk : meth.locks = false) : ∀ n : Nat, ∀ {S : ns_S} {H : Heap} {locs : List Loc} {ls : Array Slot} {l2 : Int32} {l3 : Int32} {l4 : Int32} {l5 : Int32}, ns_W D b ids A s.heap wrX9_addNumber_3_1 S0 S H locs → lv_has ls 6 [(0, .ref (b 3)), (1, .ref (b 1)), (2, .int l2), (3, .int l3), (4, .int l4), (5, .int l5)] → fX9_addNumber_6 N 500 n (S.2.1 1) (S.1 192) (S.2.1 4) (S.2.1 5) (S.2.1 6) l2 l3 l4 l5 = some o → W p l e rmX9_addNumber_3_1 s m args below meth c H locs 0 0 (MQ below (ns_Q D b ids (ns_A (ns_A (ns_A (ns_I S0 192 o.2.2.2) 6 o.2.2.1) 5 o.2.1) 4 o.1) none A) args s 0 0 A) (F0 m 6 ls []) := by
  intro n
  induction n with
  | zero =>
    intro S H locs ls l2 l3 l4 l5 w hl hf
    cases hf
  | succ n K6 =>
    intro S H locs ls l2 l3 l4 l5 w hl hf
    change gX9_addNumber_6 N 500 (fX9_addNumber_6 N 500 n) (S.2.1 1) (S.1 192) (S.2.1 4) (S.2.1 5) (S.2.1 6) l2 l3 l4 l5 = some o at hf
    generalize fX9_addNumber_6 N 500 n = r6 at hf K6
    unfold gX9_addNumber_6 at hf
    refine lv_iload C.1.1 C.1.2.1 dX9_addNumber_6 (lv_at hl 5 rfl) ?_
    refine lv_iload_n C.1.1 C.1.2.1 dX9_addNumber_8 rfl (lv_at hl 3 rfl) ?_
    refine ns_icmp_ge C hf (tgt := 51) dX9_addNumber_9 (by decide) (fun hf => ?_) (fun hf => ?_)
    · exact wX9_addNumber_3_1_51 N hI C hr hlk w (lv_sub hl [0, 2, 4, 5] rfl) hf
    · refine lv_aload_n C.1.1 C.1.2.1 dX9_addNumber_12 rfl (lv_at hl 1 rfl) ?_
      refine lv_iload C.1.1 C.1.2.1 dX9_addNumber_13 (lv_at hl 5 rfl) ?_
      refine ns_bald C w 1 (hI 1 (by decide)) sh_1 hf rfl dX9_addNumber_15 (fun x1 hf => ?_)
      refine ns_callS C w [.int x1] hf (fun u hu => mX9_isDigit l D b ids hI N _ x1 hu) gX9_addNumber_X9_isDigit rfl rfl rfl hdX9_isDigit ⟨Nat.le_of_ble_eq_true rfl, Nat.le_of_ble_eq_true rfl⟩ (fun u h => h) rfl hl.1 rfl (Nat.le_of_ble_eq_true rfl) ⟨Nat.le_refl _, Nat.le_refl _⟩ dX9_addNumber_16 (fun o2 H locs hf w => ?_)
      refine ns_if_eq C hf (tgt := 51) dX9_addNumber_19 (by decide) (fun hf => ?_) (fun hf => ?_)
      · exact wX9_addNumber_3_1_51 N hI C hr hlk w (lv_sub hl [0, 2, 4, 5] rfl) hf
      · refine lv_iload C.1.1 C.1.2.1 dX9_addNumber_22 (lv_at hl 5 rfl) ?_
        refine lv_iload_n C.1.1 C.1.2.1 dX9_addNumber_24 rfl (lv_at hl 2 rfl) ?_
        refine lv_isub C.1.1 C.1.2.1 dX9_addNumber_25 ?_
        refine lv_iconst (v := 5) C.1.1 C.1.2.1 dX9_addNumber_26 (by decide) ?_
        refine ns_icmp_ge C hf (tgt := 45) dX9_addNumber_27 (by decide) (fun hf => ?_) (fun hf => ?_)
        · refine ns_iinc (lv' := fun x3 => [(5, .int x3), (0, .ref (b 3)), (1, .ref (b 1)), (2, .int l2), (3, .int l3), (4, .int l4)]) C hf dX9_addNumber_45 hl (k := 5) rfl rfl (by decide) (fun _ => rfl) (fun x3 ls hl hf => ?_)
          refine lv_goto (tgt := 6) C.1.1 C.1.2.1 dX9_addNumber_48 (by decide) ?_
          exact K6 w (lv_sub hl [1, 2, 3, 4, 5, 0] rfl) hf
        · refine lv_iload C.1.1 C.1.2.1 dX9_addNumber_30 (lv_at hl 4 rfl) ?_
          refine lv_bipush (v := 10) C.1.1 C.1.2.1 dX9_addNumber_32 (by decide) ?_
          refine lv_imul C.1.1 C.1.2.1 dX9_addNumber_34 ?_
          refine lv_aload_n C.1.1 C.1.2.1 dX9_addNumber_35 rfl (lv_at hl 1 rfl) ?_
          refine lv_iload C.1.1 C.1.2.1 dX9_addNumber_36 (lv_at hl 5 rfl) ?_
          refine ns_bald C w 1 (hI 1 (by decide)) sh_1 hf rfl dX9_addNumber_38 (fun x4 hf => ?_)
          refine lv_bipush (v := 48) C.1.1 C.1.2.1 dX9_addNumber_39 (by decide) ?_
          refine lv_isub C.1.1 C.1.2.1 dX9_addNumber_41 ?_
          refine lv_iadd C.1.1 C.1.2.1 dX9_addNumber_42 ?_
          refine ns_namei hf (fun x5 hf => ?_)
          refine lv_istore (lv' := [(4, .int x5), (0, .ref (b 3)), (1, .ref (b 1)), (2, .int l2), (3, .int l3), (5, .int l5)]) C.1.1 C.1.2.1 dX9_addNumber_43 hl (by decide) rfl (fun ls hl => ?_)
          refine ns_iinc (lv' := fun x6 => [(5, .int x6), (4, .int x5), (0, .ref (b 3)), (1, .ref (b 1)), (2, .int l2), (3, .int l3)]) C hf dX9_addNumber_45 hl (k := 5) rfl rfl (by decide) (fun _ => rfl) (fun x6 ls hl hf => ?_)
          refine lv_goto (tgt := 6) C.1.1 C.1.2.1 dX9_addNumber_48 (by decide) ?_
          exact K6 w (lv_sub hl [2, 3, 4, 5, 1, 0] rfl) hf
set_option maxHeartbeats 4000000 in
set_option maxRecDepth 100000 in
theorem mX9_addNumber_3_1 (l : Launch) (D : va_G) (b : Nat → Nat) (ids : List Nat) (hI : ∀ i, i < 107 → i ∈ ids) (N : Nat) (S : ns_S) (p2 : Int32) (p3 : Int32) {o : (Nat → Int32) × (Nat → Int32) × (Nat → Int32) × Int32} (hf : fX9_addNumber N 500 (S.2.1 1) (S.1 192) (S.2.1 4) (S.2.1 5) (S.2.1 6) p2 p3 = some o) : ns_M l yX9_addNumber wsX9_addNumber rmX9_addNumber_3_1 D b ids S [.ref (b 3), .ref (b 1), .int p2, .int p3] none (ns_A (ns_A (ns_A (ns_I S 192 o.2.2.2) 6 o.2.2.1) 5 o.2.1) 4 o.1) := by
  refine ns_start (Wr := wrX9_addNumber_3_1) (by decide) rfl (Nat.le_of_ble_eq_true rfl) ?_
  intro p e s m below meth c A ls C hr hlk w hl
  have hl : lv_has ls 6 [(0, .ref (b 3)), (1, .ref (b 1)), (2, .int p2), (3, .int p3)] := hl
  unfold fX9_addNumber at hf
  refine lv_iconst (v := 0) C.1.1 C.1.2.1 dX9_addNumber_0 (by decide) ?_
  refine lv_istore (lv' := [(4, .int 0), (0, .ref (b 3)), (1, .ref (b 1)), (2, .int p2), (3, .int p3)]) C.1.1 C.1.2.1 dX9_addNumber_1 hl (by decide) rfl (fun ls hl => ?_)
  refine lv_iload_n C.1.1 C.1.2.1 dX9_addNumber_3 rfl (lv_at hl 3 rfl) ?_
  refine lv_istore (lv' := [(5, .int p2), (4, .int 0), (0, .ref (b 3)), (1, .ref (b 1)), (2, .int p2), (3, .int p3)]) C.1.1 C.1.2.1 dX9_addNumber_4 hl (by decide) rfl (fun ls hl => ?_)
  exact wX9_addNumber_3_1_6 N hI C hr hlk N w (lv_sub hl [2, 3, 4, 5, 1, 0] rfl) hf
theorem hdX9_addWord : yX9_addWord.cls = RX9 ∧ yX9_addWord.cls ≠ "java/lang/invoke/MethodHandle" ∧ yX9_addWord.cls ≠ "java/lang/invoke/VarHandle" ∧ (parseMethodDescriptor yX9_addWord.desc).map (fun d => d.parameters.length) = some 3 := by decide +kernel
abbrev wrX9_addWord_3_1 : List (Nat × Nat) := [(1, 4), (1, 5), (1, 6), (0, 192)]
abbrev rmX9_addWord_3_1 : Room := { frames := 6, cells := 0, slots := 0, locals := 144 }
set_option maxHeartbeats 4000000 in
set_option maxRecDepth 100000 in
theorem wX9_addWord_3_1_33 {p : Program} {l : Launch} {e : Env} {s : State} {m : MethodId} {args : Array Value} {below : List Frame} {meth : Method} {c : Code} {D : va_G} {b : Nat → Nat} {ids : List Nat} {A : Nat → Prop} {S0 : ns_S} {o : (Nat → Int32) × (Nat → Int32) × (Nat → Int32) × Int32} (N : Nat) (hI : ∀ i, i < 107 → i ∈ ids) (C : ns_C p m c cX9_addWord 7 s args wsX9_addWord RX9 D A) (hr : meth.sig.returnType = none) (hlk : meth.locks = false) : ∀ n : Nat, ∀ {S : ns_S} {H : Heap} {locs : List Loc} {ls : Array Slot} {l2 : Int32} {l4 : Int32} {l5 : Int32} {l6 : Int32}, ns_W D b ids A s.heap wrX9_addWord_3_1 S0 S H locs → lv_has ls 7 [(0, .ref (b 3)), (1, .ref (b 1)), (2, .int l2), (4, .int l4), (5, .int l5), (6, .int l6)] → fX9_addWord_33 N 500 n (S.2.1 1) (S.1 192) (S.2.1 4) (S.2.1 5) (S.2.1 6) l2 l4 l5 l6 = some o → W p l e rmX9_addWord_3_1 s m args below meth c H locs 0 0 (MQ below (ns_Q D b ids (ns_A (ns_A (ns_A (ns_I S0 192 o.2.2.2) 6 o.2.2.1) 5 o.2.1) 4 o.1) none A) args s 0 0 A) (F0 m 33 ls []) := by
  intro n
  induction n with
  | zero =>
    intro S H locs ls l2 l4 l5 l6 w hl hf
    cases hf
  | succ n K33 =>
    intro S H locs ls l2 l4 l5 l6 w hl hf
    change gX9_addWord_33 N 500 (fX9_addWord_33 N 500 n) (S.2.1 1) (S.1 192) (S.2.1 4) (S.2.1 5) (S.2.1 6) l2 l4 l5 l6 = some o at hf
    generalize fX9_addWord_33 N 500 n = r33 at hf K33
    unfold gX9_addWord_33 at hf
    refine lv_iload C.1.1 C.1.2.1 dX9_addWord_33 (lv_at hl 5 rfl) ?_
    refine lv_sipush (v := 215) C.1.1 C.1.2.1 dX9_addWord_35 (by decide) ?_
    refine ns_icmp_gt C hf (tgt := 66) dX9_addWord_38 (by decide) (fun hf => ?_) (fun hf => ?_)
    · refine lv_aload_n C.1.1 C.1.2.1 dX9_addWord_66 rfl (lv_at hl 0 rfl) ?_
      refine lv_iload C.1.1 C.1.2.1 dX9_addWord_67 (lv_at hl 4 rfl) ?_
      refine lv_iload_n C.1.1 C.1.2.1 dX9_addWord_69 rfl (lv_at hl 2 rfl) ?_
      refine lv_iconst (v := 0) C.1.1 C.1.2.1 dX9_addWord_70 (by decide) ?_
      refine ns_callV C w 3 (hI 3 (by decide)) sh_3 (rfl : vwCl[9]? = some (RX9, TX9, 4)) [.int l5, .int l2, .int 0] hf (fun u hu => mX9_addToken_3 l D b ids hI N _ l5 l2 0 hu) gX9_addWord_X9_addToken rfl rfl rfl hdX9_addToken ⟨Nat.le_of_ble_eq_true rfl, Nat.le_of_ble_eq_true rfl⟩ (fun u h => ((((h.I (List.mem_of_getElem? (i := 3) rfl) _).A (List.mem_of_getElem? (i := 2) rfl) _).A (List.mem_of_getElem? (i := 1) rfl) _).A (List.mem_of_getElem? (i := 0) rfl) _)) rfl hl.1 rfl (Nat.le_of_ble_eq_true rfl) ⟨Nat.le_refl _, Nat.le_refl _⟩ dX9_addWord_71 (fun o1 H locs hf w => ?_)
      have he := Option.some.inj hf
      subst he
      exact ns_vret C w hr hlk rfl rfl dX9_addWord_74
    · refine lv_aload_n C.1.1 C.1.2.1 dX9_addWord_41 rfl (lv_at hl 1 rfl) ?_
      refine lv_iload_n C.1.1 C.1.2.1 dX9_addWord_42 rfl (lv_at hl 2 rfl) ?_
      refine lv_iload C.1.1 C.1.2.1 dX9_addWord_43 (lv_at hl 3 rfl) ?_
      refine lv_iload C.1.1 C.1.2.1 dX9_addWord_45 (lv_at hl 5 rfl) ?_
      refine ns_callS C w [.int l6] (ns_unit hf) (fun u hu => mX9_spelling l D b ids S l6) gX9_addWord_X9_spelling rfl rfl rfl hdX9_spelling ⟨Nat.le_of_ble_eq_true rfl, Nat.le_of_ble_eq_true rfl⟩ (fun u h => h) rfl hl.1 rfl (Nat.le_of_ble_eq_true rfl) ⟨Nat.le_refl _, Nat.le_refl _⟩ dX9_addWord_47 (fun _ H locs hf w => ?_)
      refine ns_callS C w [.ref (b 1), .int l2, .int l4, .ref (D.2 200 (ns_sp l6))] hf (fun u hu => mX9_isSameWord l D b ids hI N _ l2 l4 (ns_sp l6) (ns_sp_lt _) hu) gX9_addWord_X9_isSameWord rfl rfl rfl hdX9_isSameWord ⟨Nat.le_of_ble_eq_true rfl, Nat.le_of_ble_eq_true rfl⟩ (fun u h => h) rfl hl.1 rfl (Nat.le_of_ble_eq_true rfl) ⟨Nat.le_refl _, Nat.le_refl _⟩ dX9_addWord_50 (fun o3 H locs hf w => ?_)
      refine ns_if_eq C hf (tgt := 60) dX9_addWord_53 (by decide) (fun hf => ?_) (fun hf => ?_)
      · refine ns_iinc (lv' := fun x4 => [(6, .int x4), (0, .ref (b 3)), (1, .ref (b 1)), (2, .int l2), (4, .int l4), (5, .int l5)]) C hf dX9_addWord_60 hl (k := 5) rfl rfl (by decide) (fun _ => rfl) (fun x4 ls hl hf => ?_)
        refine lv_goto (tgt := 33) C.1.1 C.1.2.1 dX9_addWord_63 (by decide) ?_
        exact K33 w (lv_sub hl [1, 2, 3, 4, 5, 0] rfl) hf
      · refine lv_iload C.1.1 C.1.2.1 dX9_addWord_56 (lv_at hl 5 rfl) ?_
        refine lv_istore (lv' := [(5, .int l6), (0, .ref (b 3)), (1, .ref (b 1)), (2, .int l2), (4, .int l4), (6, .int l6)]) C.1.1 C.1.2.1 dX9_addWord_58 hl (by decide) rfl (fun ls hl => ?_)
        refine ns_iinc (lv' := fun x5 => [(6, .int x5), (5, .int l6), (0, .ref (b 3)), (1, .ref (b 1)), (2, .int l2), (4, .int l4)]) C hf dX9_addWord_60 hl (k := 5) rfl rfl (by decide) (fun _ => rfl) (fun x5 ls hl hf => ?_)
        refine lv_goto (tgt := 33) C.1.1 C.1.2.1 dX9_addWord_63 (by decide) ?_
        exact K33 w (lv_sub hl [2, 3, 4, 5, 1, 0] rfl) hf
set_option maxHeartbeats 4000000 in
set_option maxRecDepth 100000 in
theorem wX9_addWord_3_1_3 {p : Program} {l : Launch} {e : Env} {s : State} {m : MethodId} {args : Array Value} {below : List Frame} {meth : Method} {c : Code} {D : va_G} {b : Nat → Nat} {ids : List Nat} {A : Nat → Prop} {S0 : ns_S} {o : (Nat → Int32) × (Nat → Int32) × (Nat → Int32) × Int32} (N : Nat) (hI : ∀ i, i < 107 → i ∈ ids) (C : ns_C p m c cX9_addWord 7 s args wsX9_addWord RX9 D A) (hr : meth.sig.returnType = none) (hlk : meth.locks = false) : ∀ n : Nat, ∀ {S : ns_S} {H : Heap} {locs : List Loc} {ls : Array Slot} {l2 : Int32} {l3 : Int32} {l4 : Int32}, ns_W D b ids A s.heap wrX9_addWord_3_1 S0 S H locs → lv_has ls 7 [(0, .ref (b 3)), (1, .ref (b 1)), (2, .int l2), (3, .int l3), (4, .int l4)] → fX9_addWord_3 N 500 n (S.2.1 1) (S.1 192) (S.2.1 4) (S.2.1 5) (S.2.1 6) l2 l3 l4 = some o → W p l e rmX9_addWord_3_1 s m args below meth c H locs 0 0 (MQ below (ns_Q D b ids (ns_A (ns_A (ns_A (ns_I S0 192 o.2.2.2) 6 o.2.2.1) 5 o.2.1) 4 o.1) none A) args s 0 0 A) (F0 m 3 ls []) := by
  intro n
  induction n with
  | zero =>
    intro S H locs ls l2 l3 l4 w hl hf
    cases hf
  | succ n K3 =>
    intro S H locs ls l2 l3 l4 w hl hf
    change gX9_addWord_3 N 500 (fX9_addWord_3 N 500 n) (S.2.1 1) (S.1 192) (S.2.1 4) (S.2.1 5) (S.2.1 6) l2 l3 l4 = some o at hf
    generalize fX9_addWord_3 N 500 n = r3 at hf K3
    unfold gX9_addWord_3 at hf
    refine lv_iload C.1.1 C.1.2.1 dX9_addWord_3 (lv_at hl 4 rfl) ?_
    refine lv_iload_n C.1.1 C.1.2.1 dX9_addWord_5 rfl (lv_at hl 3 rfl) ?_
    refine ns_icmp_ge C hf (tgt := 25) dX9_addWord_6 (by decide) (fun hf => ?_) (fun hf => ?_)
    · refine lv_iconst (v := 1) C.1.1 C.1.2.1 dX9_addWord_25 (by decide) ?_
      refine lv_istore (lv' := [(5, .int 1), (0, .ref (b 3)), (1, .ref (b 1)), (2, .int l2), (3, .int l3), (4, .int l4)]) C.1.1 C.1.2.1 dX9_addWord_26 hl (by decide) rfl (fun ls hl => ?_)
      refine lv_sipush (v := 201) C.1.1 C.1.2.1 dX9_addWord_28 (by decide) ?_
      refine lv_istore (lv' := [(6, .int 201), (5, .int 1), (0, .ref (b 3)), (1, .ref (b 1)), (2, .int l2), (3, .int l3), (4, .int l4)]) C.1.1 C.1.2.1 dX9_addWord_31 hl (by decide) rfl (fun ls hl => ?_)
      exact wX9_addWord_3_1_33 N hI C hr hlk N w (lv_sub hl [2, 3, 4, 6, 1, 0] rfl) hf
    · refine lv_aload_n C.1.1 C.1.2.1 dX9_addWord_9 rfl (lv_at hl 1 rfl) ?_
      refine lv_iload C.1.1 C.1.2.1 dX9_addWord_10 (lv_at hl 4 rfl) ?_
      refine ns_bald C w 1 (hI 1 (by decide)) sh_1 hf rfl dX9_addWord_12 (fun x1 hf => ?_)
      refine ns_callS C w [.int x1] hf (fun u hu => mX9_isLetter l D b ids hI N _ x1 hu) gX9_addWord_X9_isLetter rfl rfl rfl hdX9_isLetter ⟨Nat.le_of_ble_eq_true rfl, Nat.le_of_ble_eq_true rfl⟩ (fun u h => h) rfl hl.1 rfl (Nat.le_of_ble_eq_true rfl) ⟨Nat.le_refl _, Nat.le_refl _⟩ dX9_addWord_13 (fun o2 H locs hf w => ?_)
      refine ns_if_eq C hf (tgt := 25) dX9_addWord_16 (by decide) (fun hf => ?_) (fun hf => ?_)
      · refine lv_iconst (v := 1) C.1.1 C.1.2.1 dX9_addWord_25 (by decide) ?_
        refine lv_istore (lv' := [(5, .int 1), (0, .ref (b 3)), (1, .ref (b 1)), (2, .int l2), (3, .int l3), (4, .int l4)]) C.1.1 C.1.2.1 dX9_addWord_26 hl (by decide) rfl (fun ls hl => ?_)
        refine lv_sipush (v := 201) C.1.1 C.1.2.1 dX9_addWord_28 (by decide) ?_
        refine lv_istore (lv' := [(6, .int 201), (5, .int 1), (0, .ref (b 3)), (1, .ref (b 1)), (2, .int l2), (3, .int l3), (4, .int l4)]) C.1.1 C.1.2.1 dX9_addWord_31 hl (by decide) rfl (fun ls hl => ?_)
        exact wX9_addWord_3_1_33 N hI C hr hlk N w (lv_sub hl [2, 3, 4, 6, 1, 0] rfl) hf
      · refine ns_iinc (lv' := fun x3 => [(4, .int x3), (0, .ref (b 3)), (1, .ref (b 1)), (2, .int l2), (3, .int l3)]) C hf dX9_addWord_19 hl (k := 4) rfl rfl (by decide) (fun _ => rfl) (fun x3 ls hl hf => ?_)
        refine lv_goto (tgt := 3) C.1.1 C.1.2.1 dX9_addWord_22 (by decide) ?_
        exact K3 w (lv_sub hl [1, 2, 3, 4, 0] rfl) hf
set_option maxHeartbeats 4000000 in
set_option maxRecDepth 100000 in
theorem mX9_addWord_3_1 (l : Launch) (D : va_G) (b : Nat → Nat) (ids : List Nat) (hI : ∀ i, i < 107 → i ∈ ids) (N : Nat) (S : ns_S) (p2 : Int32) (p3 : Int32) {o : (Nat → Int32) × (Nat → Int32) × (Nat → Int32) × Int32} (hf : fX9_addWord N 500 (S.2.1 1) (S.1 192) (S.2.1 4) (S.2.1 5) (S.2.1 6) p2 p3 = some o) : ns_M l yX9_addWord wsX9_addWord rmX9_addWord_3_1 D b ids S [.ref (b 3), .ref (b 1), .int p2, .int p3] none (ns_A (ns_A (ns_A (ns_I S 192 o.2.2.2) 6 o.2.2.1) 5 o.2.1) 4 o.1) := by
  refine ns_start (Wr := wrX9_addWord_3_1) (by decide) rfl (Nat.le_of_ble_eq_true rfl) ?_
  intro p e s m below meth c A ls C hr hlk w hl
  have hl : lv_has ls 7 [(0, .ref (b 3)), (1, .ref (b 1)), (2, .int p2), (3, .int p3)] := hl
  unfold fX9_addWord at hf
  refine lv_iload_n C.1.1 C.1.2.1 dX9_addWord_0 rfl (lv_at hl 2 rfl) ?_
  refine lv_istore (lv' := [(4, .int p2), (0, .ref (b 3)), (1, .ref (b 1)), (2, .int p2), (3, .int p3)]) C.1.1 C.1.2.1 dX9_addWord_1 hl (by decide) rfl (fun ls hl => ?_)
  exact wX9_addWord_3_1_3 N hI C hr hlk N w (lv_sub hl [1, 2, 3, 4, 0] rfl) hf
theorem lX9_scan_21 : Cond.fieldLink RX9 21 (TX9 0).1 (TX9 0).2.1 (TX9 0).2.2.1 ∈ wsX9_scan := List.mem_of_getElem? (i := 1) rfl
theorem inX9_scan_9 : ∀ w ∈ u_ws RX9 TX9 4, w ∈ wsX9_scan := fun _ h => List.mem_cons_of_mem _ (List.mem_append_right _ h)
theorem hdX9_scan : yX9_scan.cls = RX9 ∧ yX9_scan.cls ≠ "java/lang/invoke/MethodHandle" ∧ yX9_scan.cls ≠ "java/lang/invoke/VarHandle" ∧ (parseMethodDescriptor yX9_scan.desc).map (fun d => d.parameters.length) = some 2 := by decide +kernel
abbrev wrX9_scan_3_1 : List (Nat × Nat) := [(0, 192), (1, 4), (1, 5), (1, 6)]
abbrev rmX9_scan_3_1 : Room := { frames := 7, cells := 0, slots := 0, locals := 170 }
set_option maxHeartbeats 4000000 in
set_option maxRecDepth 100000 in
theorem wX9_scan_3_1_36 {p : Program} {l : Launch} {e : Env} {s : State} {m : MethodId} {args : Array Value} {below : List Frame} {meth : Method} {c : Code} {D : va_G} {b : Nat → Nat} {ids : List Nat} {A : Nat → Prop} {S0 : ns_S} {o : Int32 × (Nat → Int32) × (Nat → Int32) × (Nat → Int32)} (N : Nat) (hI : ∀ i, i < 107 → i ∈ ids) (C : ns_C p m c cX9_scan 4 s args wsX9_scan RX9 D A) (hr : meth.sig.returnType = none) (hlk : meth.locks = false) {r7 : Int32 → (Nat → Int32) → (Nat → Int32) → (Nat → Int32) → (Nat → Int32) → Int32 → Int32 → Option (Int32 × (Nat → Int32) × (Nat → Int32) × (Nat → Int32))} (K7 : ∀ {S : ns_S} {H : Heap} {locs : List Loc} {ls : Array Slot} {l2 : Int32} {l3 : Int32}, ns_W D b ids A s.heap wrX9_scan_3_1 S0 S H locs → lv_has ls 4 [(0, .ref (b 3)), (1, .ref (b 1)), (2, .int l2), (3, .int l3)] → r7 (S.1 192) (S.2.1 4) (S.2.1 5) (S.2.1 6) (S.2.1 1) l2 l3 = some o → W p l e rmX9_scan_3_1 s m args below meth c H locs 0 0 (MQ below (ns_Q D b ids (ns_I (ns_A (ns_A (ns_A S0 6 o.2.2.2) 5 o.2.2.1) 4 o.2.1) 192 o.1) none A) args s 0 0 A) (F0 m 7 ls [])) : ∀ {S : ns_S} {H : Heap} {locs : List Loc} {ls : Array Slot} {l2 : Int32} {l3 : Int32}, ns_W D b ids A s.heap wrX9_scan_3_1 S0 S H locs → lv_has ls 4 [(0, .ref (b 3)), (1, .ref (b 1)), (2, .int l2), (3, .int l3)] → gX9_scan_36 N 500 r7 (S.1 192) (S.2.1 4) (S.2.1 5) (S.2.1 6) (S.2.1 1) l2 l3 = some o → W p l e rmX9_scan_3_1 s m args below meth c H locs 0 0 (MQ below (ns_Q D b ids (ns_I (ns_A (ns_A (ns_A S0 6 o.2.2.2) 5 o.2.2.1) 4 o.2.1) 192 o.1) none A) args s 0 0 A) (F0 m 36 ls []) := by
  intro S H locs ls l2 l3 w hl hf
  unfold gX9_scan_36 at hf
  refine lv_aload_n C.1.1 C.1.2.1 dX9_scan_36 rfl (lv_at hl 0 rfl) ?_
  refine lv_aload_n C.1.1 C.1.2.1 dX9_scan_37 rfl (lv_at hl 1 rfl) ?_
  refine lv_iload_n C.1.1 C.1.2.1 dX9_scan_38 rfl (lv_at hl 3 rfl) ?_
  refine lv_iload_n C.1.1 C.1.2.1 dX9_scan_39 rfl (lv_at hl 2 rfl) ?_
  refine ns_callV C w 3 (hI 3 (by decide)) sh_3 (rfl : vwCl[9]? = some (RX9, TX9, 4)) [.ref (b 1), .int l3, .int l2] hf (fun u hu => mX9_addNumber_3_1 l D b ids hI N _ l3 l2 hu) gX9_scan_X9_addNumber rfl rfl rfl hdX9_addNumber ⟨Nat.le_of_ble_eq_true rfl, Nat.le_of_ble_eq_true rfl⟩ (fun u h => ((((h.I (List.mem_of_getElem? (i := 0) rfl) _).A (List.mem_of_getElem? (i := 3) rfl) _).A (List.mem_of_getElem? (i := 2) rfl) _).A (List.mem_of_getElem? (i := 1) rfl) _)) rfl hl.1 rfl (Nat.le_of_ble_eq_true rfl) ⟨Nat.le_refl _, Nat.le_refl _⟩ dX9_scan_40 (fun o1 H locs hf w => ?_)
  refine lv_goto (tgt := 118) C.1.1 C.1.2.1 dX9_scan_43 (by decide) ?_
  refine ns_iinc (lv' := fun x2 => [(3, .int x2), (0, .ref (b 3)), (1, .ref (b 1)), (2, .int l2)]) C hf dX9_scan_118 hl (k := 3) rfl rfl (by decide) (fun _ => rfl) (fun x2 ls hl hf => ?_)
  refine lv_goto (tgt := 7) C.1.1 C.1.2.1 dX9_scan_121 (by decide) ?_
  exact K7 w (lv_sub hl [1, 2, 3, 0] rfl) hf
set_option maxHeartbeats 4000000 in
set_option maxRecDepth 100000 in
theorem wX9_scan_3_1_70 {p : Program} {l : Launch} {e : Env} {s : State} {m : MethodId} {args : Array Value} {below : List Frame} {meth : Method} {c : Code} {D : va_G} {b : Nat → Nat} {ids : List Nat} {A : Nat → Prop} {S0 : ns_S} {o : Int32 × (Nat → Int32) × (Nat → Int32) × (Nat → Int32)} (N : Nat) (hI : ∀ i, i < 107 → i ∈ ids) (C : ns_C p m c cX9_scan 4 s args wsX9_scan RX9 D A) (hr : meth.sig.returnType = none) (hlk : meth.locks = false) {r7 : Int32 → (Nat → Int32) → (Nat → Int32) → (Nat → Int32) → (Nat → Int32) → Int32 → Int32 → Option (Int32 × (Nat → Int32) × (Nat → Int32) × (Nat → Int32))} (K7 : ∀ {S : ns_S} {H : Heap} {locs : List Loc} {ls : Array Slot} {l2 : Int32} {l3 : Int32}, ns_W D b ids A s.heap wrX9_scan_3_1 S0 S H locs → lv_has ls 4 [(0, .ref (b 3)), (1, .ref (b 1)), (2, .int l2), (3, .int l3)] → r7 (S.1 192) (S.2.1 4) (S.2.1 5) (S.2.1 6) (S.2.1 1) l2 l3 = some o → W p l e rmX9_scan_3_1 s m args below meth c H locs 0 0 (MQ below (ns_Q D b ids (ns_I (ns_A (ns_A (ns_A S0 6 o.2.2.2) 5 o.2.2.1) 4 o.2.1) 192 o.1) none A) args s 0 0 A) (F0 m 7 ls [])) : ∀ {S : ns_S} {H : Heap} {locs : List Loc} {ls : Array Slot} {l2 : Int32} {l3 : Int32}, ns_W D b ids A s.heap wrX9_scan_3_1 S0 S H locs → lv_has ls 4 [(0, .ref (b 3)), (1, .ref (b 1)), (2, .int l2), (3, .int l3)] → gX9_scan_70 N 500 r7 (S.1 192) (S.2.1 4) (S.2.1 5) (S.2.1 6) (S.2.1 1) l2 l3 = some o → W p l e rmX9_scan_3_1 s m args below meth c H locs 0 0 (MQ below (ns_Q D b ids (ns_I (ns_A (ns_A (ns_A S0 6 o.2.2.2) 5 o.2.2.1) 4 o.2.1) 192 o.1) none A) args s 0 0 A) (F0 m 70 ls []) := by
  intro S H locs ls l2 l3 w hl hf
  unfold gX9_scan_70 at hf
  refine lv_aload_n C.1.1 C.1.2.1 dX9_scan_70 rfl (lv_at hl 0 rfl) ?_
  refine lv_aload_n C.1.1 C.1.2.1 dX9_scan_71 rfl (lv_at hl 1 rfl) ?_
  refine lv_iload_n C.1.1 C.1.2.1 dX9_scan_72 rfl (lv_at hl 3 rfl) ?_
  refine lv_iload_n C.1.1 C.1.2.1 dX9_scan_73 rfl (lv_at hl 2 rfl) ?_
  refine ns_callV C w 3 (hI 3 (by decide)) sh_3 (rfl : vwCl[9]? = some (RX9, TX9, 4)) [.ref (b 1), .int l3, .int l2] hf (fun u hu => mX9_addWord_3_1 l D b ids hI N _ l3 l2 hu) gX9_scan_X9_addWord rfl rfl rfl hdX9_addWord ⟨Nat.le_of_ble_eq_true rfl, Nat.le_of_ble_eq_true rfl⟩ (fun u h => ((((h.I (List.mem_of_getElem? (i := 0) rfl) _).A (List.mem_of_getElem? (i := 3) rfl) _).A (List.mem_of_getElem? (i := 2) rfl) _).A (List.mem_of_getElem? (i := 1) rfl) _)) rfl hl.1 rfl (Nat.le_of_ble_eq_true rfl) ⟨Nat.le_refl _, Nat.le_refl _⟩ dX9_scan_74 (fun o1 H locs hf w => ?_)
  refine lv_goto (tgt := 118) C.1.1 C.1.2.1 dX9_scan_77 (by decide) ?_
  refine ns_iinc (lv' := fun x2 => [(3, .int x2), (0, .ref (b 3)), (1, .ref (b 1)), (2, .int l2)]) C hf dX9_scan_118 hl (k := 3) rfl rfl (by decide) (fun _ => rfl) (fun x2 ls hl hf => ?_)
  refine lv_goto (tgt := 7) C.1.1 C.1.2.1 dX9_scan_121 (by decide) ?_
  exact K7 w (lv_sub hl [1, 2, 3, 0] rfl) hf
set_option maxHeartbeats 4000000 in
set_option maxRecDepth 100000 in
theorem wX9_scan_3_1_113 {p : Program} {l : Launch} {e : Env} {s : State} {m : MethodId} {args : Array Value} {below : List Frame} {meth : Method} {c : Code} {D : va_G} {b : Nat → Nat} {ids : List Nat} {A : Nat → Prop} {S0 : ns_S} {o : Int32 × (Nat → Int32) × (Nat → Int32) × (Nat → Int32)} (N : Nat) (hI : ∀ i, i < 107 → i ∈ ids) (C : ns_C p m c cX9_scan 4 s args wsX9_scan RX9 D A) (hr : meth.sig.returnType = none) (hlk : meth.locks = false) {r7 : Int32 → (Nat → Int32) → (Nat → Int32) → (Nat → Int32) → (Nat → Int32) → Int32 → Int32 → Option (Int32 × (Nat → Int32) × (Nat → Int32) × (Nat → Int32))} (K7 : ∀ {S : ns_S} {H : Heap} {locs : List Loc} {ls : Array Slot} {l2 : Int32} {l3 : Int32}, ns_W D b ids A s.heap wrX9_scan_3_1 S0 S H locs → lv_has ls 4 [(0, .ref (b 3)), (1, .ref (b 1)), (2, .int l2), (3, .int l3)] → r7 (S.1 192) (S.2.1 4) (S.2.1 5) (S.2.1 6) (S.2.1 1) l2 l3 = some o → W p l e rmX9_scan_3_1 s m args below meth c H locs 0 0 (MQ below (ns_Q D b ids (ns_I (ns_A (ns_A (ns_A S0 6 o.2.2.2) 5 o.2.2.1) 4 o.2.1) 192 o.1) none A) args s 0 0 A) (F0 m 7 ls [])) : ∀ {S : ns_S} {H : Heap} {locs : List Loc} {ls : Array Slot} {l2 : Int32} {l3 : Int32} {s1 : Int32}, ns_W D b ids A s.heap wrX9_scan_3_1 S0 S H locs → lv_has ls 4 [(0, .ref (b 3)), (1, .ref (b 1)), (2, .int l2), (3, .int l3)] → gX9_scan_113 N 500 r7 (S.1 192) (S.2.1 4) (S.2.1 5) (S.2.1 6) (S.2.1 1) l2 l3 s1 = some o → W p l e rmX9_scan_3_1 s m args below meth c H locs 0 0 (MQ below (ns_Q D b ids (ns_I (ns_A (ns_A (ns_A S0 6 o.2.2.2) 5 o.2.2.1) 4 o.2.1) 192 o.1) none A) args s 0 0 A) (F0 m 113 ls [.int s1, .ref (b 3)]) := by
  intro S H locs ls l2 l3 s1 w hl hf
  unfold gX9_scan_113 at hf
  refine lv_iload_n C.1.1 C.1.2.1 dX9_scan_113 rfl (lv_at hl 3 rfl) ?_
  refine lv_iconst (v := 0) C.1.1 C.1.2.1 dX9_scan_114 (by decide) ?_
  refine ns_callV C w 3 (hI 3 (by decide)) sh_3 (rfl : vwCl[9]? = some (RX9, TX9, 4)) [.int s1, .int l3, .int 0] hf (fun u hu => mX9_addToken_3 l D b ids hI N _ s1 l3 0 hu) gX9_scan_X9_addToken rfl rfl rfl hdX9_addToken ⟨Nat.le_of_ble_eq_true rfl, Nat.le_of_ble_eq_true rfl⟩ (fun u h => ((((h.I (List.mem_of_getElem? (i := 0) rfl) _).A (List.mem_of_getElem? (i := 3) rfl) _).A (List.mem_of_getElem? (i := 2) rfl) _).A (List.mem_of_getElem? (i := 1) rfl) _)) rfl hl.1 rfl (Nat.le_of_ble_eq_true rfl) ⟨Nat.le_refl _, Nat.le_refl _⟩ dX9_scan_115 (fun o1 H locs hf w => ?_)
  refine ns_iinc (lv' := fun x2 => [(3, .int x2), (0, .ref (b 3)), (1, .ref (b 1)), (2, .int l2)]) C hf dX9_scan_118 hl (k := 3) rfl rfl (by decide) (fun _ => rfl) (fun x2 ls hl hf => ?_)
  refine lv_goto (tgt := 7) C.1.1 C.1.2.1 dX9_scan_121 (by decide) ?_
  exact K7 w (lv_sub hl [1, 2, 3, 0] rfl) hf
set_option maxHeartbeats 4000000 in
set_option maxRecDepth 100000 in
theorem wX9_scan_3_1_7 {p : Program} {l : Launch} {e : Env} {s : State} {m : MethodId} {args : Array Value} {below : List Frame} {meth : Method} {c : Code} {D : va_G} {b : Nat → Nat} {ids : List Nat} {A : Nat → Prop} {S0 : ns_S} {o : Int32 × (Nat → Int32) × (Nat → Int32) × (Nat → Int32)} (N : Nat) (hI : ∀ i, i < 107 → i ∈ ids) (C : ns_C p m c cX9_scan 4 s args wsX9_scan RX9 D A) (hr : meth.sig.returnType = none) (hlk : meth.locks = false) : ∀ n : Nat, ∀ {S : ns_S} {H : Heap} {locs : List Loc} {ls : Array Slot} {l2 : Int32} {l3 : Int32}, ns_W D b ids A s.heap wrX9_scan_3_1 S0 S H locs → lv_has ls 4 [(0, .ref (b 3)), (1, .ref (b 1)), (2, .int l2), (3, .int l3)] → fX9_scan_7 N 500 n (S.1 192) (S.2.1 4) (S.2.1 5) (S.2.1 6) (S.2.1 1) l2 l3 = some o → W p l e rmX9_scan_3_1 s m args below meth c H locs 0 0 (MQ below (ns_Q D b ids (ns_I (ns_A (ns_A (ns_A S0 6 o.2.2.2) 5 o.2.2.1) 4 o.2.1) 192 o.1) none A) args s 0 0 A) (F0 m 7 ls []) := by
  intro n
  induction n with
  | zero =>
    intro S H locs ls l2 l3 w hl hf
    cases hf
  | succ n K7 =>
    intro S H locs ls l2 l3 w hl hf
    change gX9_scan_7 N 500 (fX9_scan_7 N 500 n) (S.1 192) (S.2.1 4) (S.2.1 5) (S.2.1 6) (S.2.1 1) l2 l3 = some o at hf
    generalize fX9_scan_7 N 500 n = r7 at hf K7
    unfold gX9_scan_7 at hf
    refine lv_iload_n C.1.1 C.1.2.1 dX9_scan_7 rfl (lv_at hl 3 rfl) ?_
    refine lv_iload_n C.1.1 C.1.2.1 dX9_scan_8 rfl (lv_at hl 2 rfl) ?_
    refine ns_icmp_ge C hf (tgt := 124) dX9_scan_9 (by decide) (fun hf => ?_) (fun hf => ?_)
    · refine lv_aload_n C.1.1 C.1.2.1 dX9_scan_124 rfl (lv_at hl 0 rfl) ?_
      refine lv_iconst (v := 0) C.1.1 C.1.2.1 dX9_scan_125 (by decide) ?_
      refine lv_iload_n C.1.1 C.1.2.1 dX9_scan_126 rfl (lv_at hl 2 rfl) ?_
      refine lv_iconst (v := 0) C.1.1 C.1.2.1 dX9_scan_127 (by decide) ?_
      refine ns_callV C w 3 (hI 3 (by decide)) sh_3 (rfl : vwCl[9]? = some (RX9, TX9, 4)) [.int 0, .int l2, .int 0] hf (fun u hu => mX9_addToken_3 l D b ids hI N _ 0 l2 0 hu) gX9_scan_X9_addToken rfl rfl rfl hdX9_addToken ⟨Nat.le_of_ble_eq_true rfl, Nat.le_of_ble_eq_true rfl⟩ (fun u h => ((((h.I (List.mem_of_getElem? (i := 0) rfl) _).A (List.mem_of_getElem? (i := 3) rfl) _).A (List.mem_of_getElem? (i := 2) rfl) _).A (List.mem_of_getElem? (i := 1) rfl) _)) rfl hl.1 rfl (Nat.le_of_ble_eq_true rfl) ⟨Nat.le_refl _, Nat.le_refl _⟩ dX9_scan_128 (fun o1 H locs hf w => ?_)
      have he := Option.some.inj hf
      subst he
      exact ns_vret C w hr hlk rfl rfl dX9_scan_131
    · refine lv_aload_n C.1.1 C.1.2.1 dX9_scan_12 rfl (lv_at hl 1 rfl) ?_
      refine lv_iload_n C.1.1 C.1.2.1 dX9_scan_13 rfl (lv_at hl 3 rfl) ?_
      refine ns_bald C w 1 (hI 1 (by decide)) sh_1 hf rfl dX9_scan_14 (fun x2 hf => ?_)
      refine ns_callS C w [.int x2] hf (fun u hu => mX9_isDigit l D b ids hI N _ x2 hu) gX9_scan_X9_isDigit rfl rfl rfl hdX9_isDigit ⟨Nat.le_of_ble_eq_true rfl, Nat.le_of_ble_eq_true rfl⟩ (fun u h => h) rfl hl.1 rfl (Nat.le_of_ble_eq_true rfl) ⟨Nat.le_refl _, Nat.le_refl _⟩ dX9_scan_15 (fun o3 H locs hf w => ?_)
      refine ns_if_eq C hf (tgt := 46) dX9_scan_18 (by decide) (fun hf => ?_) (fun hf => ?_)
      · refine lv_aload_n C.1.1 C.1.2.1 dX9_scan_46 rfl (lv_at hl 1 rfl) ?_
        refine lv_iload_n C.1.1 C.1.2.1 dX9_scan_47 rfl (lv_at hl 3 rfl) ?_
        refine ns_bald C w 1 (hI 1 (by decide)) sh_1 hf rfl dX9_scan_48 (fun x4 hf => ?_)
        refine ns_callS C w [.int x4] hf (fun u hu => mX9_isLetter l D b ids hI N _ x4 hu) gX9_scan_X9_isLetter rfl rfl rfl hdX9_isLetter ⟨Nat.le_of_ble_eq_true rfl, Nat.le_of_ble_eq_true rfl⟩ (fun u h => h) rfl hl.1 rfl (Nat.le_of_ble_eq_true rfl) ⟨Nat.le_refl _, Nat.le_refl _⟩ dX9_scan_49 (fun o5 H locs hf w => ?_)
        refine ns_if_eq C hf (tgt := 80) dX9_scan_52 (by decide) (fun hf => ?_) (fun hf => ?_)
        · refine lv_aload_n C.1.1 C.1.2.1 dX9_scan_80 rfl (lv_at hl 1 rfl) ?_
          refine lv_iload_n C.1.1 C.1.2.1 dX9_scan_81 rfl (lv_at hl 3 rfl) ?_
          refine ns_bald C w 1 (hI 1 (by decide)) sh_1 hf rfl dX9_scan_82 (fun x6 hf => ?_)
          refine lv_bipush (v := 32) C.1.1 C.1.2.1 dX9_scan_83 (by decide) ?_
          refine ns_icmp_eq C hf (tgt := 118) dX9_scan_85 (by decide) (fun hf => ?_) (fun hf => ?_)
          · refine ns_iinc (lv' := fun x7 => [(3, .int x7), (0, .ref (b 3)), (1, .ref (b 1)), (2, .int l2)]) C hf dX9_scan_118 hl (k := 3) rfl rfl (by decide) (fun _ => rfl) (fun x7 ls hl hf => ?_)
            refine lv_goto (tgt := 7) C.1.1 C.1.2.1 dX9_scan_121 (by decide) ?_
            exact K7 w (lv_sub hl [1, 2, 3, 0] rfl) hf
          · refine lv_aload_n C.1.1 C.1.2.1 dX9_scan_88 rfl (lv_at hl 1 rfl) ?_
            refine lv_iload_n C.1.1 C.1.2.1 dX9_scan_89 rfl (lv_at hl 3 rfl) ?_
            refine ns_bald C w 1 (hI 1 (by decide)) sh_1 hf rfl dX9_scan_90 (fun x8 hf => ?_)
            refine lv_bipush (v := 10) C.1.1 C.1.2.1 dX9_scan_91 (by decide) ?_
            refine ns_icmp_eq C hf (tgt := 118) dX9_scan_93 (by decide) (fun hf => ?_) (fun hf => ?_)
            · refine ns_iinc (lv' := fun x9 => [(3, .int x9), (0, .ref (b 3)), (1, .ref (b 1)), (2, .int l2)]) C hf dX9_scan_118 hl (k := 3) rfl rfl (by decide) (fun _ => rfl) (fun x9 ls hl hf => ?_)
              refine lv_goto (tgt := 7) C.1.1 C.1.2.1 dX9_scan_121 (by decide) ?_
              exact K7 w (lv_sub hl [1, 2, 3, 0] rfl) hf
            · refine lv_aload_n C.1.1 C.1.2.1 dX9_scan_96 rfl (lv_at hl 0 rfl) ?_
              refine lv_aload_n C.1.1 C.1.2.1 dX9_scan_97 rfl (lv_at hl 1 rfl) ?_
              refine lv_iload_n C.1.1 C.1.2.1 dX9_scan_98 rfl (lv_at hl 3 rfl) ?_
              refine ns_bald C w 1 (hI 1 (by decide)) sh_1 hf rfl dX9_scan_99 (fun x10 hf => ?_)
              refine ns_callS C w [.int x10] hf (fun u hu => mX9_isSign l D b ids hI N _ x10 hu) gX9_scan_X9_isSign rfl rfl rfl hdX9_isSign ⟨Nat.le_of_ble_eq_true rfl, Nat.le_of_ble_eq_true rfl⟩ (fun u h => h) rfl hl.1 rfl (Nat.le_of_ble_eq_true rfl) ⟨Nat.le_refl _, Nat.le_refl _⟩ dX9_scan_100 (fun o11 H locs hf w => ?_)
              refine ns_if_eq C hf (tgt := 112) dX9_scan_103 (by decide) (fun hf => ?_) (fun hf => ?_)
              · refine lv_iconst (v := 1) C.1.1 C.1.2.1 dX9_scan_112 (by decide) ?_
                exact wX9_scan_3_1_113 N hI C hr hlk K7 w (lv_sub hl [0, 1, 2, 3] rfl) hf
              · refine lv_aload_n C.1.1 C.1.2.1 dX9_scan_106 rfl (lv_at hl 1 rfl) ?_
                refine lv_iload_n C.1.1 C.1.2.1 dX9_scan_107 rfl (lv_at hl 3 rfl) ?_
                refine ns_bald C w 1 (hI 1 (by decide)) sh_1 hf rfl dX9_scan_108 (fun x12 hf => ?_)
                refine lv_goto (tgt := 113) C.1.1 C.1.2.1 dX9_scan_109 (by decide) ?_
                exact wX9_scan_3_1_113 N hI C hr hlk K7 w (lv_sub hl [0, 1, 2, 3] rfl) hf
        · refine lv_iload_n C.1.1 C.1.2.1 dX9_scan_55 rfl (lv_at hl 3 rfl) ?_
          refine ns_if_eq C hf (tgt := 70) dX9_scan_56 (by decide) (fun hf => ?_) (fun hf => ?_)
          · exact wX9_scan_3_1_70 N hI C hr hlk K7 w (lv_sub hl [0, 1, 2, 3] rfl) hf
          · refine lv_aload_n C.1.1 C.1.2.1 dX9_scan_59 rfl (lv_at hl 1 rfl) ?_
            refine lv_iload_n C.1.1 C.1.2.1 dX9_scan_60 rfl (lv_at hl 3 rfl) ?_
            refine lv_iconst (v := 1) C.1.1 C.1.2.1 dX9_scan_61 (by decide) ?_
            refine lv_isub C.1.1 C.1.2.1 dX9_scan_62 ?_
            refine ns_bald C w 1 (hI 1 (by decide)) sh_1 hf rfl dX9_scan_63 (fun x13 hf => ?_)
            refine ns_callS C w [.int x13] hf (fun u hu => mX9_isLetter l D b ids hI N _ x13 hu) gX9_scan_X9_isLetter rfl rfl rfl hdX9_isLetter ⟨Nat.le_of_ble_eq_true rfl, Nat.le_of_ble_eq_true rfl⟩ (fun u h => h) rfl hl.1 rfl (Nat.le_of_ble_eq_true rfl) ⟨Nat.le_refl _, Nat.le_refl _⟩ dX9_scan_64 (fun o14 H locs hf w => ?_)
            refine ns_if_ne C hf (tgt := 118) dX9_scan_67 (by decide) (fun hf => ?_) (fun hf => ?_)
            · refine ns_iinc (lv' := fun x15 => [(3, .int x15), (0, .ref (b 3)), (1, .ref (b 1)), (2, .int l2)]) C hf dX9_scan_118 hl (k := 3) rfl rfl (by decide) (fun _ => rfl) (fun x15 ls hl hf => ?_)
              refine lv_goto (tgt := 7) C.1.1 C.1.2.1 dX9_scan_121 (by decide) ?_
              exact K7 w (lv_sub hl [1, 2, 3, 0] rfl) hf
            · exact wX9_scan_3_1_70 N hI C hr hlk K7 w (lv_sub hl [0, 1, 2, 3] rfl) hf
      · refine lv_iload_n C.1.1 C.1.2.1 dX9_scan_21 rfl (lv_at hl 3 rfl) ?_
        refine ns_if_eq C hf (tgt := 36) dX9_scan_22 (by decide) (fun hf => ?_) (fun hf => ?_)
        · exact wX9_scan_3_1_36 N hI C hr hlk K7 w (lv_sub hl [0, 1, 2, 3] rfl) hf
        · refine lv_aload_n C.1.1 C.1.2.1 dX9_scan_25 rfl (lv_at hl 1 rfl) ?_
          refine lv_iload_n C.1.1 C.1.2.1 dX9_scan_26 rfl (lv_at hl 3 rfl) ?_
          refine lv_iconst (v := 1) C.1.1 C.1.2.1 dX9_scan_27 (by decide) ?_
          refine lv_isub C.1.1 C.1.2.1 dX9_scan_28 ?_
          refine ns_bald C w 1 (hI 1 (by decide)) sh_1 hf rfl dX9_scan_29 (fun x16 hf => ?_)
          refine ns_callS C w [.int x16] hf (fun u hu => mX9_isDigit l D b ids hI N _ x16 hu) gX9_scan_X9_isDigit rfl rfl rfl hdX9_isDigit ⟨Nat.le_of_ble_eq_true rfl, Nat.le_of_ble_eq_true rfl⟩ (fun u h => h) rfl hl.1 rfl (Nat.le_of_ble_eq_true rfl) ⟨Nat.le_refl _, Nat.le_refl _⟩ dX9_scan_30 (fun o17 H locs hf w => ?_)
          refine ns_if_ne C hf (tgt := 118) dX9_scan_33 (by decide) (fun hf => ?_) (fun hf => ?_)
          · refine ns_iinc (lv' := fun x18 => [(3, .int x18), (0, .ref (b 3)), (1, .ref (b 1)), (2, .int l2)]) C hf dX9_scan_118 hl (k := 3) rfl rfl (by decide) (fun _ => rfl) (fun x18 ls hl hf => ?_)
            refine lv_goto (tgt := 7) C.1.1 C.1.2.1 dX9_scan_121 (by decide) ?_
            exact K7 w (lv_sub hl [1, 2, 3, 0] rfl) hf
          · exact wX9_scan_3_1_36 N hI C hr hlk K7 w (lv_sub hl [0, 1, 2, 3] rfl) hf
set_option maxHeartbeats 4000000 in
set_option maxRecDepth 100000 in
theorem mX9_scan_3_1 (l : Launch) (D : va_G) (b : Nat → Nat) (ids : List Nat) (hI : ∀ i, i < 107 → i ∈ ids) (N : Nat) (S : ns_S) (p2 : Int32) {o : Int32 × (Nat → Int32) × (Nat → Int32) × (Nat → Int32)} (hf : fX9_scan N 500 (S.1 192) (S.2.1 4) (S.2.1 5) (S.2.1 6) (S.2.1 1) p2 = some o) : ns_M l yX9_scan wsX9_scan rmX9_scan_3_1 D b ids S [.ref (b 3), .ref (b 1), .int p2] none (ns_I (ns_A (ns_A (ns_A S 6 o.2.2.2) 5 o.2.2.1) 4 o.2.1) 192 o.1) := by
  refine ns_start (Wr := wrX9_scan_3_1) (by decide) rfl (Nat.le_of_ble_eq_true rfl) ?_
  intro p e s m below meth c A ls C hr hlk w hl
  have hl : lv_has ls 4 [(0, .ref (b 3)), (1, .ref (b 1)), (2, .int p2)] := hl
  unfold fX9_scan at hf
  refine lv_aload_n C.1.1 C.1.2.1 dX9_scan_0 rfl (lv_at hl 0 rfl) ?_
  refine lv_iconst (v := 0) C.1.1 C.1.2.1 dX9_scan_1 (by decide) ?_
  refine ns_puti C w 3 (hI 3 (by decide)) sh_3 (rfl : vwCl[9]? = some (RX9, TX9, 4)) inX9_scan_9 tyX9_ok nmX9 0 (by decide) rfl lX9_scan_21 rfl rfl rfl (List.mem_of_getElem? (i := 0) rfl) dX9_scan_2 (fun H locs w => ?_)
  refine lv_iconst (v := 0) C.1.1 C.1.2.1 dX9_scan_5 (by decide) ?_
  refine lv_istore_n (lv' := [(3, .int 0), (0, .ref (b 3)), (1, .ref (b 1)), (2, .int p2)]) C.1.1 C.1.2.1 dX9_scan_6 rfl hl (by decide) rfl (fun ls hl => ?_)
  exact wX9_scan_3_1_7 N hI C hr hlk N w (lv_sub hl [1, 2, 3, 0] rfl) hf
theorem lX1_kindHere_12 : Cond.fieldLink RX1 12 (TX1 0).1 (TX1 0).2.1 (TX1 0).2.2.1 ∈ wsX1_kindHere := List.mem_of_getElem? (i := 2) rfl
theorem lX1_kindHere_36 : Cond.fieldLink RX1 36 (TX1 4).1 (TX1 4).2.1 (TX1 4).2.2.1 ∈ wsX1_kindHere := List.mem_of_getElem? (i := 1) rfl
theorem lX1_kindHere_84 : Cond.fieldLink RX1 84 (TX9 0).1 (TX9 0).2.1 (TX9 0).2.2.1 ∈ wsX1_kindHere := List.mem_of_getElem? (i := 3) rfl
theorem lX1_kindHere_85 : Cond.fieldLink RX1 85 (TX9 1).1 (TX9 1).2.1 (TX9 1).2.2.1 ∈ wsX1_kindHere := List.mem_of_getElem? (i := 4) rfl
theorem inX1_kindHere_1 : ∀ w ∈ u_ws RX1 TX1 5, w ∈ wsX1_kindHere := fun _ h => List.mem_cons_of_mem _ (List.mem_append_left _ (List.mem_append_right _ h))
theorem inX1_kindHere_9 : ∀ w ∈ u_ws RX9 TX9 4, w ∈ wsX1_kindHere := fun _ h => List.mem_cons_of_mem _ (List.mem_append_right _ h)
theorem hdX1_kindHere : yX1_kindHere.cls = RX1 ∧ yX1_kindHere.cls ≠ "java/lang/invoke/MethodHandle" ∧ yX1_kindHere.cls ≠ "java/lang/invoke/VarHandle" ∧ (parseMethodDescriptor yX1_kindHere.desc).map (fun d => d.parameters.length) = some 0 := by decide +kernel
abbrev wrX1_kindHere_2 : List (Nat × Nat) := []
abbrev rmX1_kindHere_2 : Room := { frames := 0, cells := 0, slots := 0, locals := 0 }
set_option maxHeartbeats 4000000 in
set_option maxRecDepth 100000 in
theorem mX1_kindHere_2 (l : Launch) (D : va_G) (b : Nat → Nat) (ids : List Nat) (hI : ∀ i, i < 107 → i ∈ ids) (N : Nat) (S : ns_S) {o : Int32} (hf : fX1_kindHere N (S.1 132) (S.1 192) (S.2.1 4) = some o) : ns_M l yX1_kindHere wsX1_kindHere rmX1_kindHere_2 D b ids S [.ref (b 2)] (some (.int o)) S := by
  refine ns_start (Wr := wrX1_kindHere_2) (by decide) rfl (Nat.le_of_ble_eq_true rfl) ?_
  intro p e s m below meth c A ls C hr hlk w hl
  have hl : lv_has ls 1 [(0, .ref (b 2))] := hl
  unfold fX1_kindHere at hf
  refine lv_aload_n C.1.1 C.1.2.1 dX1_kindHere_0 rfl (lv_at hl 0 rfl) ?_
  refine ns_geti C w 2 (hI 2 (by decide)) sh_2 (rfl : vwCl[1]? = some (RX1, TX1, 5)) inX1_kindHere_1 4 (by decide) rfl lX1_kindHere_36 (S.1 132) rfl dX1_kindHere_1 ?_
  refine lv_aload_n C.1.1 C.1.2.1 dX1_kindHere_4 rfl (lv_at hl 0 rfl) ?_
  refine ns_getr C w 2 (hI 2 (by decide)) sh_2 (rfl : vwCl[1]? = some (RX1, TX1, 5)) inX1_kindHere_1 0 (by decide) rfl lX1_kindHere_12 dX1_kindHere_5 ?_
  refine ns_geti C w 3 (hI 3 (by decide)) sh_3 (rfl : vwCl[9]? = some (RX9, TX9, 4)) inX1_kindHere_9 0 (by decide) rfl lX1_kindHere_84 (S.1 192) rfl dX1_kindHere_8 ?_
  refine ns_icmp_ge C hf (tgt := 29) dX1_kindHere_11 (by decide) (fun hf => ?_) (fun hf => ?_)
  · refine lv_iconst (v := 0) C.1.1 C.1.2.1 dX1_kindHere_29 (by decide) ?_
    have he := Option.some.inj hf
    subst he
    exact ns_iret C w hr hlk rfl rfl dX1_kindHere_30
  · refine lv_aload_n C.1.1 C.1.2.1 dX1_kindHere_14 rfl (lv_at hl 0 rfl) ?_
    refine ns_getr C w 2 (hI 2 (by decide)) sh_2 (rfl : vwCl[1]? = some (RX1, TX1, 5)) inX1_kindHere_1 0 (by decide) rfl lX1_kindHere_12 dX1_kindHere_15 ?_
    refine ns_getr C w 3 (hI 3 (by decide)) sh_3 (rfl : vwCl[9]? = some (RX9, TX9, 4)) inX1_kindHere_9 1 (by decide) rfl lX1_kindHere_85 dX1_kindHere_18 ?_
    refine lv_aload_n C.1.1 C.1.2.1 dX1_kindHere_21 rfl (lv_at hl 0 rfl) ?_
    refine ns_geti C w 2 (hI 2 (by decide)) sh_2 (rfl : vwCl[1]? = some (RX1, TX1, 5)) inX1_kindHere_1 4 (by decide) rfl lX1_kindHere_36 (S.1 132) rfl dX1_kindHere_22 ?_
    refine ns_iald C w 4 (hI 4 (by decide)) sh_4 hf rfl dX1_kindHere_25 (fun x1 hf => ?_)
    refine lv_goto (tgt := 30) C.1.1 C.1.2.1 dX1_kindHere_26 (by decide) ?_
    have he := Option.some.inj hf
    subst he
    exact ns_iret C w hr hlk rfl rfl dX1_kindHere_30
theorem lX1_placeHere_12 : Cond.fieldLink RX1 12 (TX1 0).1 (TX1 0).2.1 (TX1 0).2.2.1 ∈ wsX1_placeHere := List.mem_of_getElem? (i := 2) rfl
theorem lX1_placeHere_36 : Cond.fieldLink RX1 36 (TX1 4).1 (TX1 4).2.1 (TX1 4).2.2.1 ∈ wsX1_placeHere := List.mem_of_getElem? (i := 1) rfl
theorem lX1_placeHere_84 : Cond.fieldLink RX1 84 (TX9 0).1 (TX9 0).2.1 (TX9 0).2.2.1 ∈ wsX1_placeHere := List.mem_of_getElem? (i := 3) rfl
theorem lX1_placeHere_92 : Cond.fieldLink RX1 92 (TX9 2).1 (TX9 2).2.1 (TX9 2).2.2.1 ∈ wsX1_placeHere := List.mem_of_getElem? (i := 4) rfl
theorem inX1_placeHere_1 : ∀ w ∈ u_ws RX1 TX1 5, w ∈ wsX1_placeHere := fun _ h => List.mem_cons_of_mem _ (List.mem_append_left _ (List.mem_append_right _ h))
theorem inX1_placeHere_9 : ∀ w ∈ u_ws RX9 TX9 4, w ∈ wsX1_placeHere := fun _ h => List.mem_cons_of_mem _ (List.mem_append_right _ h)
theorem hdX1_placeHere : yX1_placeHere.cls = RX1 ∧ yX1_placeHere.cls ≠ "java/lang/invoke/MethodHandle" ∧ yX1_placeHere.cls ≠ "java/lang/invoke/VarHandle" ∧ (parseMethodDescriptor yX1_placeHere.desc).map (fun d => d.parameters.length) = some 0 := by decide +kernel
abbrev wrX1_placeHere_2 : List (Nat × Nat) := []
abbrev rmX1_placeHere_2 : Room := { frames := 0, cells := 0, slots := 0, locals := 0 }
set_option maxHeartbeats 4000000 in
set_option maxRecDepth 100000 in
theorem mX1_placeHere_2 (l : Launch) (D : va_G) (b : Nat → Nat) (ids : List Nat) (hI : ∀ i, i < 107 → i ∈ ids) (N : Nat) (S : ns_S) {o : Int32} (hf : fX1_placeHere N (S.1 132) (S.1 192) (S.2.1 5) = some o) : ns_M l yX1_placeHere wsX1_placeHere rmX1_placeHere_2 D b ids S [.ref (b 2)] (some (.int o)) S := by
  refine ns_start (Wr := wrX1_placeHere_2) (by decide) rfl (Nat.le_of_ble_eq_true rfl) ?_
  intro p e s m below meth c A ls C hr hlk w hl
  have hl : lv_has ls 1 [(0, .ref (b 2))] := hl
  unfold fX1_placeHere at hf
  refine lv_aload_n C.1.1 C.1.2.1 dX1_placeHere_0 rfl (lv_at hl 0 rfl) ?_
  refine ns_geti C w 2 (hI 2 (by decide)) sh_2 (rfl : vwCl[1]? = some (RX1, TX1, 5)) inX1_placeHere_1 4 (by decide) rfl lX1_placeHere_36 (S.1 132) rfl dX1_placeHere_1 ?_
  refine lv_aload_n C.1.1 C.1.2.1 dX1_placeHere_4 rfl (lv_at hl 0 rfl) ?_
  refine ns_getr C w 2 (hI 2 (by decide)) sh_2 (rfl : vwCl[1]? = some (RX1, TX1, 5)) inX1_placeHere_1 0 (by decide) rfl lX1_placeHere_12 dX1_placeHere_5 ?_
  refine ns_geti C w 3 (hI 3 (by decide)) sh_3 (rfl : vwCl[9]? = some (RX9, TX9, 4)) inX1_placeHere_9 0 (by decide) rfl lX1_placeHere_84 (S.1 192) rfl dX1_placeHere_8 ?_
  refine ns_icmp_ge C hf (tgt := 29) dX1_placeHere_11 (by decide) (fun hf => ?_) (fun hf => ?_)
  · refine lv_iconst (v := (-1)) C.1.1 C.1.2.1 dX1_placeHere_29 (by decide) ?_
    have he := Option.some.inj hf
    subst he
    exact ns_iret C w hr hlk rfl rfl dX1_placeHere_30
  · refine lv_aload_n C.1.1 C.1.2.1 dX1_placeHere_14 rfl (lv_at hl 0 rfl) ?_
    refine ns_getr C w 2 (hI 2 (by decide)) sh_2 (rfl : vwCl[1]? = some (RX1, TX1, 5)) inX1_placeHere_1 0 (by decide) rfl lX1_placeHere_12 dX1_placeHere_15 ?_
    refine ns_getr C w 3 (hI 3 (by decide)) sh_3 (rfl : vwCl[9]? = some (RX9, TX9, 4)) inX1_placeHere_9 2 (by decide) rfl lX1_placeHere_92 dX1_placeHere_18 ?_
    refine lv_aload_n C.1.1 C.1.2.1 dX1_placeHere_21 rfl (lv_at hl 0 rfl) ?_
    refine ns_geti C w 2 (hI 2 (by decide)) sh_2 (rfl : vwCl[1]? = some (RX1, TX1, 5)) inX1_placeHere_1 4 (by decide) rfl lX1_placeHere_36 (S.1 132) rfl dX1_placeHere_22 ?_
    refine ns_iald C w 5 (hI 5 (by decide)) sh_5 hf rfl dX1_placeHere_25 (fun x1 hf => ?_)
    refine lv_goto (tgt := 30) C.1.1 C.1.2.1 dX1_placeHere_26 (by decide) ?_
    have he := Option.some.inj hf
    subst he
    exact ns_iret C w hr hlk rfl rfl dX1_placeHere_30
theorem lX1_noteFault_25 : Cond.fieldLink RX1 25 (TX1 2).1 (TX1 2).2.1 (TX1 2).2.2.1 ∈ wsX1_noteFault := List.mem_of_getElem? (i := 1) rfl
theorem lX1_noteFault_29 : Cond.fieldLink RX1 29 (TX1 3).1 (TX1 3).2.1 (TX1 3).2.2.1 ∈ wsX1_noteFault := List.mem_of_getElem? (i := 2) rfl
theorem inX1_noteFault_1 : ∀ w ∈ u_ws RX1 TX1 5, w ∈ wsX1_noteFault := fun _ h => List.mem_cons_of_mem _ (List.mem_append_left _ (List.mem_append_right _ h))
theorem hdX1_noteFault : yX1_noteFault.cls = RX1 ∧ yX1_noteFault.cls ≠ "java/lang/invoke/MethodHandle" ∧ yX1_noteFault.cls ≠ "java/lang/invoke/VarHandle" ∧ (parseMethodDescriptor yX1_noteFault.desc).map (fun d => d.parameters.length) = some 1 := by decide +kernel
abbrev wrX1_noteFault_2 : List (Nat × Nat) := [(0, 130), (0, 131)]
abbrev rmX1_noteFault_2 : Room := { frames := 1, cells := 0, slots := 0, locals := 20 }
set_option maxHeartbeats 4000000 in
set_option maxRecDepth 100000 in
theorem mX1_noteFault_2 (l : Launch) (D : va_G) (b : Nat → Nat) (ids : List Nat) (hI : ∀ i, i < 107 → i ∈ ids) (N : Nat) (S : ns_S) (p1 : Int32) {o : Int32 × Int32} (hf : fX1_noteFault N (S.1 130) (S.1 132) (S.1 192) (S.2.1 5) (S.1 131) p1 = some o) : ns_M l yX1_noteFault wsX1_noteFault rmX1_noteFault_2 D b ids S [.ref (b 2), .int p1] none (ns_I (ns_I S 131 o.2) 130 o.1) := by
  refine ns_start (Wr := wrX1_noteFault_2) (by decide) rfl (Nat.le_of_ble_eq_true rfl) ?_
  intro p e s m below meth c A ls C hr hlk w hl
  have hl : lv_has ls 2 [(0, .ref (b 2)), (1, .int p1)] := hl
  unfold fX1_noteFault at hf
  refine lv_aload_n C.1.1 C.1.2.1 dX1_noteFault_0 rfl (lv_at hl 0 rfl) ?_
  refine ns_geti C w 2 (hI 2 (by decide)) sh_2 (rfl : vwCl[1]? = some (RX1, TX1, 5)) inX1_noteFault_1 2 (by decide) rfl lX1_noteFault_25 (S.1 130) rfl dX1_noteFault_1 ?_
  refine ns_if_ne C hf (tgt := 20) dX1_noteFault_4 (by decide) (fun hf => ?_) (fun hf => ?_)
  · have he := Option.some.inj hf
    subst he
    exact ns_vret C w hr hlk rfl rfl dX1_noteFault_20
  · refine lv_aload_n C.1.1 C.1.2.1 dX1_noteFault_7 rfl (lv_at hl 0 rfl) ?_
    refine lv_iload_n C.1.1 C.1.2.1 dX1_noteFault_8 rfl (lv_at hl 1 rfl) ?_
    refine ns_puti C w 2 (hI 2 (by decide)) sh_2 (rfl : vwCl[1]? = some (RX1, TX1, 5)) inX1_noteFault_1 tyX1_ok nmX1 2 (by decide) rfl lX1_noteFault_25 rfl rfl rfl (List.mem_of_getElem? (i := 0) rfl) dX1_noteFault_9 (fun H locs w => ?_)
    refine lv_aload_n C.1.1 C.1.2.1 dX1_noteFault_12 rfl (lv_at hl 0 rfl) ?_
    refine lv_aload_n C.1.1 C.1.2.1 dX1_noteFault_13 rfl (lv_at hl 0 rfl) ?_
    refine ns_callV C w 2 (hI 2 (by decide)) sh_2 (rfl : vwCl[1]? = some (RX1, TX1, 5)) [] hf (fun u hu => mX1_placeHere_2 l D b ids hI N _ hu) gX1_noteFault_X1_placeHere rfl rfl rfl hdX1_placeHere ⟨Nat.le_of_ble_eq_true rfl, Nat.le_of_ble_eq_true rfl⟩ (fun u h => h) rfl hl.1 rfl (Nat.le_of_ble_eq_true rfl) ⟨Nat.le_refl _, Nat.le_refl _⟩ dX1_noteFault_14 (fun o1 H locs hf w => ?_)
    refine ns_puti C w 2 (hI 2 (by decide)) sh_2 (rfl : vwCl[1]? = some (RX1, TX1, 5)) inX1_noteFault_1 tyX1_ok nmX1 3 (by decide) rfl lX1_noteFault_29 rfl rfl rfl (List.mem_of_getElem? (i := 1) rfl) dX1_noteFault_17 (fun H locs w => ?_)
    have he := Option.some.inj hf
    subst he
    exact ns_vret C w hr hlk rfl rfl dX1_noteFault_20
theorem lX2_startLine_21 : Cond.fieldLink RX2 21 (TX2 4).1 (TX2 4).2.1 (TX2 4).2.2.1 ∈ wsX2_startLine := List.mem_of_getElem? (i := 1) rfl
theorem inX2_startLine_2 : ∀ w ∈ u_ws RX2 TX2 8, w ∈ wsX2_startLine := fun _ h => List.mem_cons_of_mem _ (List.mem_append_right _ h)
theorem hdX2_startLine : yX2_startLine.cls = RX2 ∧ yX2_startLine.cls ≠ "java/lang/invoke/MethodHandle" ∧ yX2_startLine.cls ≠ "java/lang/invoke/VarHandle" ∧ (parseMethodDescriptor yX2_startLine.desc).map (fun d => d.parameters.length) = some 1 := by decide +kernel
abbrev wrX2_startLine_7 : List (Nat × Nat) := [(1, 11)]
abbrev rmX2_startLine_7 : Room := { frames := 0, cells := 0, slots := 0, locals := 0 }
set_option maxHeartbeats 4000000 in
set_option maxRecDepth 100000 in
theorem mX2_startLine_7 (l : Launch) (D : va_G) (b : Nat → Nat) (ids : List Nat) (hI : ∀ i, i < 107 → i ∈ ids) (N : Nat) (S : ns_S) (p1 : Int32) {o : (Nat → Int32)} (hf : fX2_startLine N (S.2.1 11) p1 = some o) : ns_M l yX2_startLine wsX2_startLine rmX2_startLine_7 D b ids S [.ref (b 7), .int p1] none (ns_A S 11 o) := by
  refine ns_start (Wr := wrX2_startLine_7) (by decide) rfl (Nat.le_of_ble_eq_true rfl) ?_
  intro p e s m below meth c A ls C hr hlk w hl
  have hl : lv_has ls 2 [(0, .ref (b 7)), (1, .int p1)] := hl
  unfold fX2_startLine at hf
  refine lv_iload_n C.1.1 C.1.2.1 dX2_startLine_0 rfl (lv_at hl 1 rfl) ?_
  refine lv_bipush (v := 16) C.1.1 C.1.2.1 dX2_startLine_1 (by decide) ?_
  refine ns_icmp_ge C hf (tgt := 13) dX2_startLine_3 (by decide) (fun hf => ?_) (fun hf => ?_)
  · have he := Option.some.inj hf
    subst he
    exact ns_vret C w hr hlk rfl rfl dX2_startLine_13
  · refine lv_aload_n C.1.1 C.1.2.1 dX2_startLine_6 rfl (lv_at hl 0 rfl) ?_
    refine ns_getr C w 7 (hI 7 (by decide)) sh_7 (rfl : vwCl[2]? = some (RX2, TX2, 8)) inX2_startLine_2 4 (by decide) rfl lX2_startLine_21 dX2_startLine_7 ?_
    refine lv_iload_n C.1.1 C.1.2.1 dX2_startLine_10 rfl (lv_at hl 1 rfl) ?_
    refine lv_iconst (v := 0) C.1.1 C.1.2.1 dX2_startLine_11 (by decide) ?_
    refine ns_iast C w 11 (hI 11 (by decide)) sh_11 hf rfl (List.mem_of_getElem? (i := 0) rfl) dX2_startLine_12 (fun y1 H locs hf w => ?_)
    have he := Option.some.inj hf
    subst he
    exact ns_vret C w hr hlk rfl rfl dX2_startLine_13
theorem lX1_pass_36 : Cond.fieldLink RX1 36 (TX1 4).1 (TX1 4).2.1 (TX1 4).2.2.1 ∈ wsX1_pass := List.mem_of_getElem? (i := 1) rfl
theorem inX1_pass_1 : ∀ w ∈ u_ws RX1 TX1 5, w ∈ wsX1_pass := fun _ h => List.mem_cons_of_mem _ (List.mem_append_left _ (List.mem_append_right _ h))
theorem hdX1_pass : yX1_pass.cls = RX1 ∧ yX1_pass.cls ≠ "java/lang/invoke/MethodHandle" ∧ yX1_pass.cls ≠ "java/lang/invoke/VarHandle" ∧ (parseMethodDescriptor yX1_pass.desc).map (fun d => d.parameters.length) = some 1 := by decide +kernel
abbrev wrX1_pass_2 : List (Nat × Nat) := [(0, 132)]
abbrev rmX1_pass_2 : Room := { frames := 1, cells := 0, slots := 0, locals := 20 }
set_option maxHeartbeats 4000000 in
set_option maxRecDepth 100000 in
theorem mX1_pass_2 (l : Launch) (D : va_G) (b : Nat → Nat) (ids : List Nat) (hI : ∀ i, i < 107 → i ∈ ids) (N : Nat) (S : ns_S) (p1 : Int32) {o : Int32 × Int32} (hf : fX1_pass N (S.1 132) (S.1 192) (S.2.1 4) p1 = some o) : ns_M l yX1_pass wsX1_pass rmX1_pass_2 D b ids S [.ref (b 2), .int p1] (some (.int o.1)) (ns_I S 132 o.2) := by
  refine ns_start (Wr := wrX1_pass_2) (by decide) rfl (Nat.le_of_ble_eq_true rfl) ?_
  intro p e s m below meth c A ls C hr hlk w hl
  have hl : lv_has ls 2 [(0, .ref (b 2)), (1, .int p1)] := hl
  unfold fX1_pass at hf
  refine lv_aload_n C.1.1 C.1.2.1 dX1_pass_0 rfl (lv_at hl 0 rfl) ?_
  refine ns_callV C w 2 (hI 2 (by decide)) sh_2 (rfl : vwCl[1]? = some (RX1, TX1, 5)) [] hf (fun u hu => mX1_kindHere_2 l D b ids hI N _ hu) gX1_pass_X1_kindHere rfl rfl rfl hdX1_kindHere ⟨Nat.le_of_ble_eq_true rfl, Nat.le_of_ble_eq_true rfl⟩ (fun u h => h) rfl hl.1 rfl (Nat.le_of_ble_eq_true rfl) ⟨Nat.le_refl _, Nat.le_refl _⟩ dX1_pass_1 (fun o1 H locs hf w => ?_)
  refine lv_iload_n C.1.1 C.1.2.1 dX1_pass_4 rfl (lv_at hl 1 rfl) ?_
  refine ns_icmp_eq C hf (tgt := 10) dX1_pass_5 (by decide) (fun hf => ?_) (fun hf => ?_)
  · refine lv_aload_n C.1.1 C.1.2.1 dX1_pass_10 rfl (lv_at hl 0 rfl) ?_
    refine lv_dup C.1.1 C.1.2.1 dX1_pass_11 rfl ?_
    refine ns_geti C w 2 (hI 2 (by decide)) sh_2 (rfl : vwCl[1]? = some (RX1, TX1, 5)) inX1_pass_1 4 (by decide) rfl lX1_pass_36 (S.1 132) rfl dX1_pass_12 ?_
    refine lv_iconst (v := 1) C.1.1 C.1.2.1 dX1_pass_15 (by decide) ?_
    refine lv_iadd C.1.1 C.1.2.1 dX1_pass_16 ?_
    refine ns_namei hf (fun x2 hf => ?_)
    refine ns_puti C w 2 (hI 2 (by decide)) sh_2 (rfl : vwCl[1]? = some (RX1, TX1, 5)) inX1_pass_1 tyX1_ok nmX1 4 (by decide) rfl lX1_pass_36 rfl rfl rfl (List.mem_of_getElem? (i := 0) rfl) dX1_pass_17 (fun H locs w => ?_)
    refine lv_iconst (v := 1) C.1.1 C.1.2.1 dX1_pass_20 (by decide) ?_
    have he := Option.some.inj hf
    subst he
    exact ns_zret C w hr hlk rfl (Or.inr rfl) rfl dX1_pass_21
  · refine lv_iconst (v := 0) C.1.1 C.1.2.1 dX1_pass_8 (by decide) ?_
    have he := Option.some.inj hf
    subst he
    exact ns_zret C w hr hlk rfl (Or.inl rfl) rfl dX1_pass_9
theorem lX1_numberHere_12 : Cond.fieldLink RX1 12 (TX1 0).1 (TX1 0).2.1 (TX1 0).2.2.1 ∈ wsX1_numberHere := List.mem_of_getElem? (i := 2) rfl
theorem lX1_numberHere_36 : Cond.fieldLink RX1 36 (TX1 4).1 (TX1 4).2.1 (TX1 4).2.2.1 ∈ wsX1_numberHere := List.mem_of_getElem? (i := 1) rfl
theorem lX1_numberHere_84 : Cond.fieldLink RX1 84 (TX9 0).1 (TX9 0).2.1 (TX9 0).2.2.1 ∈ wsX1_numberHere := List.mem_of_getElem? (i := 3) rfl
theorem lX1_numberHere_89 : Cond.fieldLink RX1 89 (TX9 3).1 (TX9 3).2.1 (TX9 3).2.2.1 ∈ wsX1_numberHere := List.mem_of_getElem? (i := 4) rfl
theorem inX1_numberHere_1 : ∀ w ∈ u_ws RX1 TX1 5, w ∈ wsX1_numberHere := fun _ h => List.mem_cons_of_mem _ (List.mem_append_left _ (List.mem_append_right _ h))
theorem inX1_numberHere_9 : ∀ w ∈ u_ws RX9 TX9 4, w ∈ wsX1_numberHere := fun _ h => List.mem_cons_of_mem _ (List.mem_append_right _ h)
theorem hdX1_numberHere : yX1_numberHere.cls = RX1 ∧ yX1_numberHere.cls ≠ "java/lang/invoke/MethodHandle" ∧ yX1_numberHere.cls ≠ "java/lang/invoke/VarHandle" ∧ (parseMethodDescriptor yX1_numberHere.desc).map (fun d => d.parameters.length) = some 0 := by decide +kernel
abbrev wrX1_numberHere_2 : List (Nat × Nat) := []
abbrev rmX1_numberHere_2 : Room := { frames := 0, cells := 0, slots := 0, locals := 0 }
set_option maxHeartbeats 4000000 in
set_option maxRecDepth 100000 in
theorem mX1_numberHere_2 (l : Launch) (D : va_G) (b : Nat → Nat) (ids : List Nat) (hI : ∀ i, i < 107 → i ∈ ids) (N : Nat) (S : ns_S) {o : Int32} (hf : fX1_numberHere N (S.1 132) (S.1 192) (S.2.1 6) = some o) : ns_M l yX1_numberHere wsX1_numberHere rmX1_numberHere_2 D b ids S [.ref (b 2)] (some (.int o)) S := by
  refine ns_start (Wr := wrX1_numberHere_2) (by decide) rfl (Nat.le_of_ble_eq_true rfl) ?_
  intro p e s m below meth c A ls C hr hlk w hl
  have hl : lv_has ls 1 [(0, .ref (b 2))] := hl
  unfold fX1_numberHere at hf
  refine lv_aload_n C.1.1 C.1.2.1 dX1_numberHere_0 rfl (lv_at hl 0 rfl) ?_
  refine ns_geti C w 2 (hI 2 (by decide)) sh_2 (rfl : vwCl[1]? = some (RX1, TX1, 5)) inX1_numberHere_1 4 (by decide) rfl lX1_numberHere_36 (S.1 132) rfl dX1_numberHere_1 ?_
  refine lv_aload_n C.1.1 C.1.2.1 dX1_numberHere_4 rfl (lv_at hl 0 rfl) ?_
  refine ns_getr C w 2 (hI 2 (by decide)) sh_2 (rfl : vwCl[1]? = some (RX1, TX1, 5)) inX1_numberHere_1 0 (by decide) rfl lX1_numberHere_12 dX1_numberHere_5 ?_
  refine ns_geti C w 3 (hI 3 (by decide)) sh_3 (rfl : vwCl[9]? = some (RX9, TX9, 4)) inX1_numberHere_9 0 (by decide) rfl lX1_numberHere_84 (S.1 192) rfl dX1_numberHere_8 ?_
  refine ns_icmp_ge C hf (tgt := 29) dX1_numberHere_11 (by decide) (fun hf => ?_) (fun hf => ?_)
  · refine lv_iconst (v := 0) C.1.1 C.1.2.1 dX1_numberHere_29 (by decide) ?_
    have he := Option.some.inj hf
    subst he
    exact ns_iret C w hr hlk rfl rfl dX1_numberHere_30
  · refine lv_aload_n C.1.1 C.1.2.1 dX1_numberHere_14 rfl (lv_at hl 0 rfl) ?_
    refine ns_getr C w 2 (hI 2 (by decide)) sh_2 (rfl : vwCl[1]? = some (RX1, TX1, 5)) inX1_numberHere_1 0 (by decide) rfl lX1_numberHere_12 dX1_numberHere_15 ?_
    refine ns_getr C w 3 (hI 3 (by decide)) sh_3 (rfl : vwCl[9]? = some (RX9, TX9, 4)) inX1_numberHere_9 3 (by decide) rfl lX1_numberHere_89 dX1_numberHere_18 ?_
    refine lv_aload_n C.1.1 C.1.2.1 dX1_numberHere_21 rfl (lv_at hl 0 rfl) ?_
    refine ns_geti C w 2 (hI 2 (by decide)) sh_2 (rfl : vwCl[1]? = some (RX1, TX1, 5)) inX1_numberHere_1 4 (by decide) rfl lX1_numberHere_36 (S.1 132) rfl dX1_numberHere_22 ?_
    refine ns_iald C w 6 (hI 6 (by decide)) sh_6 hf rfl dX1_numberHere_25 (fun x1 hf => ?_)
    refine lv_goto (tgt := 30) C.1.1 C.1.2.1 dX1_numberHere_26 (by decide) ?_
    have he := Option.some.inj hf
    subst he
    exact ns_iret C w hr hlk rfl rfl dX1_numberHere_30
theorem lX2_setTest_21 : Cond.fieldLink RX2 21 (TX2 4).1 (TX2 4).2.1 (TX2 4).2.2.1 ∈ wsX2_setTest := List.mem_of_getElem? (i := 4) rfl
theorem lX2_setTest_24 : Cond.fieldLink RX2 24 (TX2 5).1 (TX2 5).2.1 (TX2 5).2.2.1 ∈ wsX2_setTest := List.mem_of_getElem? (i := 1) rfl
theorem lX2_setTest_27 : Cond.fieldLink RX2 27 (TX2 6).1 (TX2 6).2.1 (TX2 6).2.2.1 ∈ wsX2_setTest := List.mem_of_getElem? (i := 2) rfl
theorem lX2_setTest_30 : Cond.fieldLink RX2 30 (TX2 7).1 (TX2 7).2.1 (TX2 7).2.2.1 ∈ wsX2_setTest := List.mem_of_getElem? (i := 3) rfl
theorem inX2_setTest_2 : ∀ w ∈ u_ws RX2 TX2 8, w ∈ wsX2_setTest := fun _ h => List.mem_cons_of_mem _ (List.mem_append_right _ h)
theorem hdX2_setTest : yX2_setTest.cls = RX2 ∧ yX2_setTest.cls ≠ "java/lang/invoke/MethodHandle" ∧ yX2_setTest.cls ≠ "java/lang/invoke/VarHandle" ∧ (parseMethodDescriptor yX2_setTest.desc).map (fun d => d.parameters.length) = some 5 := by decide +kernel
abbrev wrX2_setTest_7 : List (Nat × Nat) := [(1, 12), (1, 13), (1, 14), (1, 11)]
abbrev rmX2_setTest_7 : Room := { frames := 0, cells := 0, slots := 0, locals := 0 }
set_option maxHeartbeats 4000000 in
set_option maxRecDepth 100000 in
theorem mX2_setTest_7 (l : Launch) (D : va_G) (b : Nat → Nat) (ids : List Nat) (hI : ∀ i, i < 107 → i ∈ ids) (N : Nat) (S : ns_S) (p1 : Int32) (p2 : Int32) (p3 : Int32) (p4 : Int32) (p5 : Int32) {o : (Nat → Int32) × (Nat → Int32) × (Nat → Int32) × (Nat → Int32)} (hf : fX2_setTest N (S.2.1 12) (S.2.1 13) (S.2.1 14) (S.2.1 11) p1 p2 p3 p4 p5 = some o) : ns_M l yX2_setTest wsX2_setTest rmX2_setTest_7 D b ids S [.ref (b 7), .int p1, .int p2, .int p3, .int p4, .int p5] none (ns_A (ns_A (ns_A (ns_A S 11 o.2.2.2) 14 o.2.2.1) 13 o.2.1) 12 o.1) := by
  refine ns_start (Wr := wrX2_setTest_7) (by decide) rfl (Nat.le_of_ble_eq_true rfl) ?_
  intro p e s m below meth c A ls C hr hlk w hl
  have hl : lv_has ls 7 [(0, .ref (b 7)), (1, .int p1), (2, .int p2), (3, .int p3), (4, .int p4), (5, .int p5)] := hl
  unfold fX2_setTest at hf
  refine lv_iload_n C.1.1 C.1.2.1 dX2_setTest_0 rfl (lv_at hl 1 rfl) ?_
  refine lv_bipush (v := 16) C.1.1 C.1.2.1 dX2_setTest_1 (by decide) ?_
  refine ns_icmp_ge C hf (tgt := 11) dX2_setTest_3 (by decide) (fun hf => ?_) (fun hf => ?_)
  · have he := Option.some.inj hf
    subst he
    exact ns_vret C w hr hlk rfl rfl dX2_setTest_11
  · refine lv_iload_n C.1.1 C.1.2.1 dX2_setTest_6 rfl (lv_at hl 2 rfl) ?_
    refine lv_iconst (v := 4) C.1.1 C.1.2.1 dX2_setTest_7 (by decide) ?_
    refine ns_icmp_lt C hf (tgt := 12) dX2_setTest_8 (by decide) (fun hf => ?_) (fun hf => ?_)
    · refine lv_iload_n C.1.1 C.1.2.1 dX2_setTest_12 rfl (lv_at hl 1 rfl) ?_
      refine lv_iconst (v := 4) C.1.1 C.1.2.1 dX2_setTest_13 (by decide) ?_
      refine lv_imul C.1.1 C.1.2.1 dX2_setTest_14 ?_
      refine lv_iload_n C.1.1 C.1.2.1 dX2_setTest_15 rfl (lv_at hl 2 rfl) ?_
      refine lv_iadd C.1.1 C.1.2.1 dX2_setTest_16 ?_
      refine ns_namei hf (fun x1 hf => ?_)
      refine lv_istore (lv' := [(6, .int x1), (0, .ref (b 7)), (1, .int p1), (2, .int p2), (3, .int p3), (4, .int p4), (5, .int p5)]) C.1.1 C.1.2.1 dX2_setTest_17 hl (by decide) rfl (fun ls hl => ?_)
      refine lv_aload_n C.1.1 C.1.2.1 dX2_setTest_19 rfl (lv_at hl 1 rfl) ?_
      refine ns_getr C w 7 (hI 7 (by decide)) sh_7 (rfl : vwCl[2]? = some (RX2, TX2, 8)) inX2_setTest_2 5 (by decide) rfl lX2_setTest_24 dX2_setTest_20 ?_
      refine lv_iload C.1.1 C.1.2.1 dX2_setTest_23 (lv_at hl 0 rfl) ?_
      refine lv_iload_n C.1.1 C.1.2.1 dX2_setTest_25 rfl (lv_at hl 4 rfl) ?_
      refine ns_iast C w 12 (hI 12 (by decide)) sh_12 hf rfl (List.mem_of_getElem? (i := 0) rfl) dX2_setTest_26 (fun y2 H locs hf w => ?_)
      refine lv_aload_n C.1.1 C.1.2.1 dX2_setTest_27 rfl (lv_at hl 1 rfl) ?_
      refine ns_getr C w 7 (hI 7 (by decide)) sh_7 (rfl : vwCl[2]? = some (RX2, TX2, 8)) inX2_setTest_2 6 (by decide) rfl lX2_setTest_27 dX2_setTest_28 ?_
      refine lv_iload C.1.1 C.1.2.1 dX2_setTest_31 (lv_at hl 0 rfl) ?_
      refine lv_iload C.1.1 C.1.2.1 dX2_setTest_33 (lv_at hl 5 rfl) ?_
      refine ns_iast C w 13 (hI 13 (by decide)) sh_13 hf rfl (List.mem_of_getElem? (i := 1) rfl) dX2_setTest_35 (fun y3 H locs hf w => ?_)
      refine lv_aload_n C.1.1 C.1.2.1 dX2_setTest_36 rfl (lv_at hl 1 rfl) ?_
      refine ns_getr C w 7 (hI 7 (by decide)) sh_7 (rfl : vwCl[2]? = some (RX2, TX2, 8)) inX2_setTest_2 7 (by decide) rfl lX2_setTest_30 dX2_setTest_37 ?_
      refine lv_iload C.1.1 C.1.2.1 dX2_setTest_40 (lv_at hl 0 rfl) ?_
      refine lv_iload C.1.1 C.1.2.1 dX2_setTest_42 (lv_at hl 6 rfl) ?_
      refine ns_iast C w 14 (hI 14 (by decide)) sh_14 hf rfl (List.mem_of_getElem? (i := 2) rfl) dX2_setTest_44 (fun y4 H locs hf w => ?_)
      refine lv_aload_n C.1.1 C.1.2.1 dX2_setTest_45 rfl (lv_at hl 1 rfl) ?_
      refine ns_getr C w 7 (hI 7 (by decide)) sh_7 (rfl : vwCl[2]? = some (RX2, TX2, 8)) inX2_setTest_2 4 (by decide) rfl lX2_setTest_21 dX2_setTest_46 ?_
      refine lv_iload_n C.1.1 C.1.2.1 dX2_setTest_49 rfl (lv_at hl 2 rfl) ?_
      refine lv_iload_n C.1.1 C.1.2.1 dX2_setTest_50 rfl (lv_at hl 3 rfl) ?_
      refine lv_iconst (v := 1) C.1.1 C.1.2.1 dX2_setTest_51 (by decide) ?_
      refine lv_iadd C.1.1 C.1.2.1 dX2_setTest_52 ?_
      refine ns_iast C w 11 (hI 11 (by decide)) sh_11 hf rfl (List.mem_of_getElem? (i := 3) rfl) dX2_setTest_53 (fun y5 H locs hf w => ?_)
      have he := Option.some.inj hf
      subst he
      exact ns_vret C w hr hlk rfl rfl dX2_setTest_54
    · have he := Option.some.inj hf
      subst he
      exact ns_vret C w hr hlk rfl rfl dX2_setTest_11
theorem lX1_readTest_21 : Cond.fieldLink RX1 21 (TX1 1).1 (TX1 1).2.1 (TX1 1).2.2.1 ∈ wsX1_readTest := List.mem_of_getElem? (i := 2) rfl
theorem lX1_readTest_36 : Cond.fieldLink RX1 36 (TX1 4).1 (TX1 4).2.1 (TX1 4).2.2.1 ∈ wsX1_readTest := List.mem_of_getElem? (i := 1) rfl
theorem inX1_readTest_1 : ∀ w ∈ u_ws RX1 TX1 5, w ∈ wsX1_readTest := fun _ h => List.mem_cons_of_mem _ (List.mem_append_left _ (List.mem_append_left _ (List.mem_append_right _ h)))
theorem hdX1_readTest : yX1_readTest.cls = RX1 ∧ yX1_readTest.cls ≠ "java/lang/invoke/MethodHandle" ∧ yX1_readTest.cls ≠ "java/lang/invoke/VarHandle" ∧ (parseMethodDescriptor yX1_readTest.desc).map (fun d => d.parameters.length) = some 2 := by decide +kernel
abbrev wrX1_readTest_2 : List (Nat × Nat) := [(0, 132), (1, 12), (1, 13), (1, 14), (1, 11)]
abbrev rmX1_readTest_2 : Room := { frames := 2, cells := 0, slots := 0, locals := 41 }
set_option maxHeartbeats 4000000 in
set_option maxRecDepth 100000 in
theorem wX1_readTest_2_60 {p : Program} {l : Launch} {e : Env} {s : State} {m : MethodId} {args : Array Value} {below : List Frame} {meth : Method} {c : Code} {D : va_G} {b : Nat → Nat} {ids : List Nat} {A : Nat → Prop} {S0 : ns_S} {o : Int32 × Int32 × (Nat → Int32) × (Nat → Int32) × (Nat → Int32) × (Nat → Int32)} (N : Nat) (hI : ∀ i, i < 107 → i ∈ ids) (C : ns_C p m c cX1_readTest 6 s args wsX1_readTest RX1 D A) (hr : meth.sig.returnType = some .boolean) (hlk : meth.locks = false) : ∀ {S : ns_S} {H : Heap} {locs : List Loc} {ls : Array Slot} {l1 : Int32} {l2 : Int32} {l3 : Int32} {l4 : Int32}, ns_W D b ids A s.heap wrX1_readTest_2 S0 S H locs → lv_has ls 6 [(0, .ref (b 2)), (1, .int l1), (2, .int l2), (3, .int l3), (4, .int l4)] → gX1_readTest_60 N (S.1 132) (S.1 192) (S.2.1 4) (S.2.1 6) (S.2.1 12) (S.2.1 13) (S.2.1 14) (S.2.1 11) l1 l2 l3 l4 = some o → W p l e rmX1_readTest_2 s m args below meth c H locs 0 0 (MQ below (ns_Q D b ids (ns_I (ns_A (ns_A (ns_A (ns_A S0 11 o.2.2.2.2.2) 14 o.2.2.2.2.1) 13 o.2.2.2.1) 12 o.2.2.1) 132 o.2.1) (some (.int o.1)) A) args s 0 0 A) (F0 m 60 ls []) := by
  intro S H locs ls l1 l2 l3 l4 w hl hf
  unfold gX1_readTest_60 at hf
  refine lv_aload_n C.1.1 C.1.2.1 dX1_readTest_60 rfl (lv_at hl 0 rfl) ?_
  refine lv_dup C.1.1 C.1.2.1 dX1_readTest_61 rfl ?_
  refine ns_geti C w 2 (hI 2 (by decide)) sh_2 (rfl : vwCl[1]? = some (RX1, TX1, 5)) inX1_readTest_1 4 (by decide) rfl lX1_readTest_36 (S.1 132) rfl dX1_readTest_62 ?_
  refine lv_iconst (v := 1) C.1.1 C.1.2.1 dX1_readTest_65 (by decide) ?_
  refine lv_iadd C.1.1 C.1.2.1 dX1_readTest_66 ?_
  refine ns_namei hf (fun x1 hf => ?_)
  refine ns_puti C w 2 (hI 2 (by decide)) sh_2 (rfl : vwCl[1]? = some (RX1, TX1, 5)) inX1_readTest_1 tyX1_ok nmX1 4 (by decide) rfl lX1_readTest_36 rfl rfl rfl (List.mem_of_getElem? (i := 0) rfl) dX1_readTest_67 (fun H locs w => ?_)
  refine lv_aload_n C.1.1 C.1.2.1 dX1_readTest_70 rfl (lv_at hl 0 rfl) ?_
  refine ns_callV C w 2 (hI 2 (by decide)) sh_2 (rfl : vwCl[1]? = some (RX1, TX1, 5)) [] hf (fun u hu => mX1_numberHere_2 l D b ids hI N _ hu) gX1_readTest_X1_numberHere rfl rfl rfl hdX1_numberHere ⟨Nat.le_of_ble_eq_true rfl, Nat.le_of_ble_eq_true rfl⟩ (fun u h => h) rfl hl.1 rfl (Nat.le_of_ble_eq_true rfl) ⟨Nat.le_refl _, Nat.le_refl _⟩ dX1_readTest_71 (fun o2 H locs hf w => ?_)
  refine lv_istore (lv' := [(5, .int o2), (0, .ref (b 2)), (1, .int l1), (2, .int l2), (3, .int l3), (4, .int l4)]) C.1.1 C.1.2.1 dX1_readTest_74 hl (by decide) rfl (fun ls hl => ?_)
  refine lv_aload_n C.1.1 C.1.2.1 dX1_readTest_76 rfl (lv_at hl 1 rfl) ?_
  refine lv_iconst (v := 2) C.1.1 C.1.2.1 dX1_readTest_77 (by decide) ?_
  refine ns_callV C w 2 (hI 2 (by decide)) sh_2 (rfl : vwCl[1]? = some (RX1, TX1, 5)) [.int 2] hf (fun u hu => mX1_pass_2 l D b ids hI N _ 2 hu) gX1_readTest_X1_pass rfl rfl rfl hdX1_pass ⟨Nat.le_of_ble_eq_true rfl, Nat.le_of_ble_eq_true rfl⟩ (fun u h => (h.I (List.mem_of_getElem? (i := 0) rfl) _)) rfl hl.1 rfl (Nat.le_of_ble_eq_true rfl) ⟨Nat.le_refl _, Nat.le_refl _⟩ dX1_readTest_78 (fun o3 H locs hf w => ?_)
  refine ns_if_ne C hf (tgt := 86) dX1_readTest_81 (by decide) (fun hf => ?_) (fun hf => ?_)
  · refine lv_aload_n C.1.1 C.1.2.1 dX1_readTest_86 rfl (lv_at hl 1 rfl) ?_
    refine ns_getr C w 2 (hI 2 (by decide)) sh_2 (rfl : vwCl[1]? = some (RX1, TX1, 5)) inX1_readTest_1 1 (by decide) rfl lX1_readTest_21 dX1_readTest_87 ?_
    refine lv_iload_n C.1.1 C.1.2.1 dX1_readTest_90 rfl (lv_at hl 2 rfl) ?_
    refine lv_iload_n C.1.1 C.1.2.1 dX1_readTest_91 rfl (lv_at hl 3 rfl) ?_
    refine lv_iload_n C.1.1 C.1.2.1 dX1_readTest_92 rfl (lv_at hl 4 rfl) ?_
    refine lv_iload C.1.1 C.1.2.1 dX1_readTest_93 (lv_at hl 5 rfl) ?_
    refine lv_iload C.1.1 C.1.2.1 dX1_readTest_95 (lv_at hl 0 rfl) ?_
    refine ns_callV C w 7 (hI 7 (by decide)) sh_7 (rfl : vwCl[2]? = some (RX2, TX2, 8)) [.int l1, .int l2, .int l3, .int l4, .int o2] hf (fun u hu => mX2_setTest_7 l D b ids hI N _ l1 l2 l3 l4 o2 hu) gX1_readTest_X2_setTest rfl rfl rfl hdX2_setTest ⟨Nat.le_of_ble_eq_true rfl, Nat.le_of_ble_eq_true rfl⟩ (fun u h => ((((h.A (List.mem_of_getElem? (i := 4) rfl) _).A (List.mem_of_getElem? (i := 3) rfl) _).A (List.mem_of_getElem? (i := 2) rfl) _).A (List.mem_of_getElem? (i := 1) rfl) _)) rfl hl.1 rfl (Nat.le_of_ble_eq_true rfl) ⟨Nat.le_refl _, Nat.le_refl _⟩ dX1_readTest_97 (fun o4 H locs hf w => ?_)
    refine lv_iconst (v := 1) C.1.1 C.1.2.1 dX1_readTest_100 (by decide) ?_
    have he := Option.some.inj hf
    subst he
    exact ns_zret C w hr hlk rfl (Or.inr rfl) rfl dX1_readTest_101
  · refine lv_iconst (v := 0) C.1.1 C.1.2.1 dX1_readTest_84 (by decide) ?_
    have he := Option.some.inj hf
    subst he
    exact ns_zret C w hr hlk rfl (Or.inl rfl) rfl dX1_readTest_85
set_option maxHeartbeats 4000000 in
set_option maxRecDepth 100000 in
theorem mX1_readTest_2 (l : Launch) (D : va_G) (b : Nat → Nat) (ids : List Nat) (hI : ∀ i, i < 107 → i ∈ ids) (N : Nat) (S : ns_S) (p1 : Int32) (p2 : Int32) {o : Int32 × Int32 × (Nat → Int32) × (Nat → Int32) × (Nat → Int32) × (Nat → Int32)} (hf : fX1_readTest N (S.1 132) (S.1 192) (S.2.1 4) (S.2.1 6) (S.2.1 12) (S.2.1 13) (S.2.1 14) (S.2.1 11) p1 p2 = some o) : ns_M l yX1_readTest wsX1_readTest rmX1_readTest_2 D b ids S [.ref (b 2), .int p1, .int p2] (some (.int o.1)) (ns_I (ns_A (ns_A (ns_A (ns_A S 11 o.2.2.2.2.2) 14 o.2.2.2.2.1) 13 o.2.2.2.1) 12 o.2.2.1) 132 o.2.1) := by
  refine ns_start (Wr := wrX1_readTest_2) (by decide) rfl (Nat.le_of_ble_eq_true rfl) ?_
  intro p e s m below meth c A ls C hr hlk w hl
  have hl : lv_has ls 6 [(0, .ref (b 2)), (1, .int p1), (2, .int p2)] := hl
  unfold fX1_readTest at hf
  refine lv_aload_n C.1.1 C.1.2.1 dX1_readTest_0 rfl (lv_at hl 0 rfl) ?_
  refine ns_callV C w 2 (hI 2 (by decide)) sh_2 (rfl : vwCl[1]? = some (RX1, TX1, 5)) [] hf (fun u hu => mX1_kindHere_2 l D b ids hI N _ hu) gX1_readTest_X1_kindHere rfl rfl rfl hdX1_kindHere ⟨Nat.le_of_ble_eq_true rfl, Nat.le_of_ble_eq_true rfl⟩ (fun u h => h) rfl hl.1 rfl (Nat.le_of_ble_eq_true rfl) ⟨Nat.le_refl _, Nat.le_refl _⟩ dX1_readTest_1 (fun o1 H locs hf w => ?_)
  refine lv_istore_n (lv' := [(3, .int o1), (0, .ref (b 2)), (1, .int p1), (2, .int p2)]) C.1.1 C.1.2.1 dX1_readTest_4 rfl hl (by decide) rfl (fun ls hl => ?_)
  refine lv_iload_n C.1.1 C.1.2.1 dX1_readTest_5 rfl (lv_at hl 0 rfl) ?_
  refine lv_sipush (v := 203) C.1.1 C.1.2.1 dX1_readTest_6 (by decide) ?_
  refine ns_icmp_lt C hf (tgt := 19) dX1_readTest_9 (by decide) (fun hf => ?_) (fun hf => ?_)
  · refine lv_iconst (v := 0) C.1.1 C.1.2.1 dX1_readTest_19 (by decide) ?_
    have he := Option.some.inj hf
    subst he
    exact ns_zret C w hr hlk rfl (Or.inl rfl) rfl dX1_readTest_20
  · refine lv_iload_n C.1.1 C.1.2.1 dX1_readTest_12 rfl (lv_at hl 0 rfl) ?_
    refine lv_sipush (v := 208) C.1.1 C.1.2.1 dX1_readTest_13 (by decide) ?_
    refine ns_icmp_le C hf (tgt := 21) dX1_readTest_16 (by decide) (fun hf => ?_) (fun hf => ?_)
    · refine lv_aload_n C.1.1 C.1.2.1 dX1_readTest_21 rfl (lv_at hl 1 rfl) ?_
      refine lv_dup C.1.1 C.1.2.1 dX1_readTest_22 rfl ?_
      refine ns_geti C w 2 (hI 2 (by decide)) sh_2 (rfl : vwCl[1]? = some (RX1, TX1, 5)) inX1_readTest_1 4 (by decide) rfl lX1_readTest_36 (S.1 132) rfl dX1_readTest_23 ?_
      refine lv_iconst (v := 1) C.1.1 C.1.2.1 dX1_readTest_26 (by decide) ?_
      refine lv_iadd C.1.1 C.1.2.1 dX1_readTest_27 ?_
      refine ns_namei hf (fun x2 hf => ?_)
      refine ns_puti C w 2 (hI 2 (by decide)) sh_2 (rfl : vwCl[1]? = some (RX1, TX1, 5)) inX1_readTest_1 tyX1_ok nmX1 4 (by decide) rfl lX1_readTest_36 rfl rfl rfl (List.mem_of_getElem? (i := 0) rfl) dX1_readTest_28 (fun H locs w => ?_)
      refine lv_aload_n C.1.1 C.1.2.1 dX1_readTest_31 rfl (lv_at hl 1 rfl) ?_
      refine ns_callV C w 2 (hI 2 (by decide)) sh_2 (rfl : vwCl[1]? = some (RX1, TX1, 5)) [] hf (fun u hu => mX1_kindHere_2 l D b ids hI N _ hu) gX1_readTest_X1_kindHere rfl rfl rfl hdX1_kindHere ⟨Nat.le_of_ble_eq_true rfl, Nat.le_of_ble_eq_true rfl⟩ (fun u h => h) rfl hl.1 rfl (Nat.le_of_ble_eq_true rfl) ⟨Nat.le_refl _, Nat.le_refl _⟩ dX1_readTest_32 (fun o3 H locs hf w => ?_)
      refine lv_istore (lv' := [(4, .int o3), (3, .int o1), (0, .ref (b 2)), (1, .int p1), (2, .int p2)]) C.1.1 C.1.2.1 dX1_readTest_35 hl (by decide) rfl (fun ls hl => ?_)
      refine lv_iload C.1.1 C.1.2.1 dX1_readTest_37 (lv_at hl 0 rfl) ?_
      refine lv_bipush (v := 60) C.1.1 C.1.2.1 dX1_readTest_39 (by decide) ?_
      refine ns_icmp_eq C hf (tgt := 60) dX1_readTest_41 (by decide) (fun hf => ?_) (fun hf => ?_)
      · exact wX1_readTest_2_60 N hI C hr hlk w (lv_sub hl [2, 3, 4, 1, 0] rfl) hf
      · refine lv_iload C.1.1 C.1.2.1 dX1_readTest_44 (lv_at hl 0 rfl) ?_
        refine lv_bipush (v := 62) C.1.1 C.1.2.1 dX1_readTest_46 (by decide) ?_
        refine ns_icmp_eq C hf (tgt := 60) dX1_readTest_48 (by decide) (fun hf => ?_) (fun hf => ?_)
        · exact wX1_readTest_2_60 N hI C hr hlk w (lv_sub hl [2, 3, 4, 1, 0] rfl) hf
        · refine lv_iload C.1.1 C.1.2.1 dX1_readTest_51 (lv_at hl 0 rfl) ?_
          refine lv_bipush (v := 61) C.1.1 C.1.2.1 dX1_readTest_53 (by decide) ?_
          refine ns_icmp_eq C hf (tgt := 60) dX1_readTest_55 (by decide) (fun hf => ?_) (fun hf => ?_)
          · exact wX1_readTest_2_60 N hI C hr hlk w (lv_sub hl [2, 3, 4, 1, 0] rfl) hf
          · refine lv_iconst (v := 0) C.1.1 C.1.2.1 dX1_readTest_58 (by decide) ?_
            have he := Option.some.inj hf
            subst he
            exact ns_zret C w hr hlk rfl (Or.inl rfl) rfl dX1_readTest_59
    · refine lv_iconst (v := 0) C.1.1 C.1.2.1 dX1_readTest_19 (by decide) ?_
      have he := Option.some.inj hf
      subst he
      exact ns_zret C w hr hlk rfl (Or.inl rfl) rfl dX1_readTest_20
theorem hdX1_readTests : yX1_readTests.cls = RX1 ∧ yX1_readTests.cls ≠ "java/lang/invoke/MethodHandle" ∧ yX1_readTests.cls ≠ "java/lang/invoke/VarHandle" ∧ (parseMethodDescriptor yX1_readTests.desc).map (fun d => d.parameters.length) = some 1 := by decide +kernel
abbrev wrX1_readTests_2 : List (Nat × Nat) := [(0, 130), (0, 131), (0, 132), (1, 12), (1, 13), (1, 14), (1, 11)]
abbrev rmX1_readTests_2 : Room := { frames := 3, cells := 0, slots := 0, locals := 66 }
set_option maxHeartbeats 4000000 in
set_option maxRecDepth 100000 in
theorem wX1_readTests_2_25 {p : Program} {l : Launch} {e : Env} {s : State} {m : MethodId} {args : Array Value} {below : List Frame} {meth : Method} {c : Code} {D : va_G} {b : Nat → Nat} {ids : List Nat} {A : Nat → Prop} {S0 : ns_S} {o : Int32 × Int32 × Int32 × Int32 × (Nat → Int32) × (Nat → Int32) × (Nat → Int32) × (Nat → Int32)} (N : Nat) (hI : ∀ i, i < 107 → i ∈ ids) (C : ns_C p m c cX1_readTests 4 s args wsX1_readTests RX1 D A) (hr : meth.sig.returnType = some .boolean) (hlk : meth.locks = false) {r4 : Int32 → Int32 → Int32 → (Nat → Int32) → Int32 → (Nat → Int32) → (Nat → Int32) → (Nat → Int32) → (Nat → Int32) → (Nat → Int32) → (Nat → Int32) → Int32 → Int32 → Int32 → Option (Int32 × Int32 × Int32 × Int32 × (Nat → Int32) × (Nat → Int32) × (Nat → Int32) × (Nat → Int32))} (K4 : ∀ {S : ns_S} {H : Heap} {locs : List Loc} {ls : Array Slot} {l1 : Int32} {l2 : Int32} {l3 : Int32}, ns_W D b ids A s.heap wrX1_readTests_2 S0 S H locs → lv_has ls 4 [(0, .ref (b 2)), (1, .int l1), (2, .int l2), (3, .int l3)] → r4 (S.1 130) (S.1 132) (S.1 192) (S.2.1 5) (S.1 131) (S.2.1 4) (S.2.1 6) (S.2.1 12) (S.2.1 13) (S.2.1 14) (S.2.1 11) l1 l2 l3 = some o → W p l e rmX1_readTests_2 s m args below meth c H locs 0 0 (MQ below (ns_Q D b ids (ns_I (ns_I (ns_I (ns_A (ns_A (ns_A (ns_A S0 11 o.2.2.2.2.2.2.2) 14 o.2.2.2.2.2.2.1) 13 o.2.2.2.2.2.1) 12 o.2.2.2.2.1) 132 o.2.2.2.1) 131 o.2.2.1) 130 o.2.1) (some (.int o.1)) A) args s 0 0 A) (F0 m 4 ls [])) : ∀ {S : ns_S} {H : Heap} {locs : List Loc} {ls : Array Slot} {l1 : Int32} {l3 : Int32}, ns_W D b ids A s.heap wrX1_readTests_2 S0 S H locs → lv_has ls 4 [(0, .ref (b 2)), (1, .int l1), (3, .int l3)] → gX1_readTests_25 N r4 (S.1 130) (S.1 132) (S.1 192) (S.2.1 5) (S.1 131) (S.2.1 4) (S.2.1 6) (S.2.1 12) (S.2.1 13) (S.2.1 14) (S.2.1 11) l1 l3 = some o → W p l e rmX1_readTests_2 s m args below meth c H locs 0 0 (MQ below (ns_Q D b ids (ns_I (ns_I (ns_I (ns_A (ns_A (ns_A (ns_A S0 11 o.2.2.2.2.2.2.2) 14 o.2.2.2.2.2.2.1) 13 o.2.2.2.2.2.1) 12 o.2.2.2.2.1) 132 o.2.2.2.1) 131 o.2.2.1) 130 o.2.1) (some (.int o.1)) A) args s 0 0 A) (F0 m 25 ls []) := by
  intro S H locs ls l1 l3 w hl hf
  unfold gX1_readTests_25 at hf
  refine lv_aload_n C.1.1 C.1.2.1 dX1_readTests_25 rfl (lv_at hl 0 rfl) ?_
  refine lv_iload_n C.1.1 C.1.2.1 dX1_readTests_26 rfl (lv_at hl 1 rfl) ?_
  refine lv_iload_n C.1.1 C.1.2.1 dX1_readTests_27 rfl (lv_at hl 2 rfl) ?_
  refine ns_callV C w 2 (hI 2 (by decide)) sh_2 (rfl : vwCl[1]? = some (RX1, TX1, 5)) [.int l1, .int l3] hf (fun u hu => mX1_readTest_2 l D b ids hI N _ l1 l3 hu) gX1_readTests_X1_readTest rfl rfl rfl hdX1_readTest ⟨Nat.le_of_ble_eq_true rfl, Nat.le_of_ble_eq_true rfl⟩ (fun u h => (((((h.A (List.mem_of_getElem? (i := 6) rfl) _).A (List.mem_of_getElem? (i := 5) rfl) _).A (List.mem_of_getElem? (i := 4) rfl) _).A (List.mem_of_getElem? (i := 3) rfl) _).I (List.mem_of_getElem? (i := 2) rfl) _)) rfl hl.1 rfl (Nat.le_of_ble_eq_true rfl) ⟨Nat.le_refl _, Nat.le_refl _⟩ dX1_readTests_28 (fun o1 H locs hf w => ?_)
  refine ns_if_ne C hf (tgt := 36) dX1_readTests_31 (by decide) (fun hf => ?_) (fun hf => ?_)
  · refine lv_aload_n C.1.1 C.1.2.1 dX1_readTests_36 rfl (lv_at hl 0 rfl) ?_
    refine lv_sipush (v := 202) C.1.1 C.1.2.1 dX1_readTests_37 (by decide) ?_
    refine ns_callV C w 2 (hI 2 (by decide)) sh_2 (rfl : vwCl[1]? = some (RX1, TX1, 5)) [.int 202] hf (fun u hu => mX1_pass_2 l D b ids hI N _ 202 hu) gX1_readTests_X1_pass rfl rfl rfl hdX1_pass ⟨Nat.le_of_ble_eq_true rfl, Nat.le_of_ble_eq_true rfl⟩ (fun u h => (h.I (List.mem_of_getElem? (i := 2) rfl) _)) rfl hl.1 rfl (Nat.le_of_ble_eq_true rfl) ⟨Nat.le_refl _, Nat.le_refl _⟩ dX1_readTests_40 (fun o2 H locs hf w => ?_)
    refine lv_istore_n (lv' := [(2, .int o2.1), (0, .ref (b 2)), (1, .int l1), (3, .int l3)]) C.1.1 C.1.2.1 dX1_readTests_43 rfl hl (by decide) rfl (fun ls hl => ?_)
    refine ns_iinc (lv' := fun x3 => [(3, .int x3), (2, .int o2.1), (0, .ref (b 2)), (1, .int l1)]) C hf dX1_readTests_44 hl (k := 3) rfl rfl (by decide) (fun _ => rfl) (fun x3 ls hl hf => ?_)
    refine lv_goto (tgt := 4) C.1.1 C.1.2.1 dX1_readTests_47 (by decide) ?_
    exact K4 w (lv_sub hl [2, 3, 1, 0] rfl) hf
  · refine lv_iconst (v := 0) C.1.1 C.1.2.1 dX1_readTests_34 (by decide) ?_
    have he := Option.some.inj hf
    subst he
    exact ns_zret C w hr hlk rfl (Or.inl rfl) rfl dX1_readTests_35
set_option maxHeartbeats 4000000 in
set_option maxRecDepth 100000 in
theorem wX1_readTests_2_50 {p : Program} {l : Launch} {e : Env} {s : State} {m : MethodId} {args : Array Value} {below : List Frame} {meth : Method} {c : Code} {D : va_G} {b : Nat → Nat} {ids : List Nat} {A : Nat → Prop} {S0 : ns_S} {o : Int32 × Int32 × Int32 × Int32 × (Nat → Int32) × (Nat → Int32) × (Nat → Int32) × (Nat → Int32)} (N : Nat) (hI : ∀ i, i < 107 → i ∈ ids) (C : ns_C p m c cX1_readTests 4 s args wsX1_readTests RX1 D A) (hr : meth.sig.returnType = some .boolean) (hlk : meth.locks = false) : ∀ {S : ns_S} {H : Heap} {locs : List Loc} {ls : Array Slot}, ns_W D b ids A s.heap wrX1_readTests_2 S0 S H locs → lv_has ls 4 [(0, .ref (b 2))] → gX1_readTests_50 N (S.1 130) (S.1 132) (S.1 192) (S.2.1 5) (S.1 131) (S.2.1 4) (S.2.1 6) (S.2.1 12) (S.2.1 13) (S.2.1 14) (S.2.1 11) = some o → W p l e rmX1_readTests_2 s m args below meth c H locs 0 0 (MQ below (ns_Q D b ids (ns_I (ns_I (ns_I (ns_A (ns_A (ns_A (ns_A S0 11 o.2.2.2.2.2.2.2) 14 o.2.2.2.2.2.2.1) 13 o.2.2.2.2.2.1) 12 o.2.2.2.2.1) 132 o.2.2.2.1) 131 o.2.2.1) 130 o.2.1) (some (.int o.1)) A) args s 0 0 A) (F0 m 50 ls []) := by
  intro S H locs ls w hl hf
  unfold gX1_readTests_50 at hf
  refine lv_aload_n C.1.1 C.1.2.1 dX1_readTests_50 rfl (lv_at hl 0 rfl) ?_
  refine lv_bipush (v := 58) C.1.1 C.1.2.1 dX1_readTests_51 (by decide) ?_
  refine ns_callV C w 2 (hI 2 (by decide)) sh_2 (rfl : vwCl[1]? = some (RX1, TX1, 5)) [.int 58] hf (fun u hu => mX1_pass_2 l D b ids hI N _ 58 hu) gX1_readTests_X1_pass rfl rfl rfl hdX1_pass ⟨Nat.le_of_ble_eq_true rfl, Nat.le_of_ble_eq_true rfl⟩ (fun u h => (h.I (List.mem_of_getElem? (i := 2) rfl) _)) rfl hl.1 rfl (Nat.le_of_ble_eq_true rfl) ⟨Nat.le_refl _, Nat.le_refl _⟩ dX1_readTests_53 (fun o1 H locs hf w => ?_)
  obtain ⟨hz, hf⟩ := ns_zb_some hf
  have he := Option.some.inj hf
  subst he
  exact ns_zret C w hr hlk rfl hz rfl dX1_readTests_56
set_option maxHeartbeats 4000000 in
set_option maxRecDepth 100000 in
theorem wX1_readTests_2_4 {p : Program} {l : Launch} {e : Env} {s : State} {m : MethodId} {args : Array Value} {below : List Frame} {meth : Method} {c : Code} {D : va_G} {b : Nat → Nat} {ids : List Nat} {A : Nat → Prop} {S0 : ns_S} {o : Int32 × Int32 × Int32 × Int32 × (Nat → Int32) × (Nat → Int32) × (Nat → Int32) × (Nat → Int32)} (N : Nat) (hI : ∀ i, i < 107 → i ∈ ids) (C : ns_C p m c cX1_readTests 4 s args wsX1_readTests RX1 D A) (hr : meth.sig.returnType = some .boolean) (hlk : meth.locks = false) : ∀ n : Nat, ∀ {S : ns_S} {H : Heap} {locs : List Loc} {ls : Array Slot} {l1 : Int32} {l2 : Int32} {l3 : Int32}, ns_W D b ids A s.heap wrX1_readTests_2 S0 S H locs → lv_has ls 4 [(0, .ref (b 2)), (1, .int l1), (2, .int l2), (3, .int l3)] → fX1_readTests_4 N n (S.1 130) (S.1 132) (S.1 192) (S.2.1 5) (S.1 131) (S.2.1 4) (S.2.1 6) (S.2.1 12) (S.2.1 13) (S.2.1 14) (S.2.1 11) l1 l2 l3 = some o → W p l e rmX1_readTests_2 s m args below meth c H locs 0 0 (MQ below (ns_Q D b ids (ns_I (ns_I (ns_I (ns_A (ns_A (ns_A (ns_A S0 11 o.2.2.2.2.2.2.2) 14 o.2.2.2.2.2.2.1) 13 o.2.2.2.2.2.1) 12 o.2.2.2.2.1) 132 o.2.2.2.1) 131 o.2.2.1) 130 o.2.1) (some (.int o.1)) A) args s 0 0 A) (F0 m 4 ls []) := by
  intro n
  induction n with
  | zero =>
    intro S H locs ls l1 l2 l3 w hl hf
    cases hf
  | succ n K4 =>
    intro S H locs ls l1 l2 l3 w hl hf
    change gX1_readTests_4 N (fX1_readTests_4 N n) (S.1 130) (S.1 132) (S.1 192) (S.2.1 5) (S.1 131) (S.2.1 4) (S.2.1 6) (S.2.1 12) (S.2.1 13) (S.2.1 14) (S.2.1 11) l1 l2 l3 = some o at hf
    generalize fX1_readTests_4 N n = r4 at hf K4
    unfold gX1_readTests_4 at hf
    refine lv_iload_n C.1.1 C.1.2.1 dX1_readTests_4 rfl (lv_at hl 2 rfl) ?_
    refine ns_if_eq C hf (tgt := 50) dX1_readTests_5 (by decide) (fun hf => ?_) (fun hf => ?_)
    · exact wX1_readTests_2_50 N hI C hr hlk w (lv_sub hl [0] rfl) hf
    · refine lv_iload_n C.1.1 C.1.2.1 dX1_readTests_8 rfl (lv_at hl 3 rfl) ?_
      refine lv_sipush (v := 500) C.1.1 C.1.2.1 dX1_readTests_9 (by decide) ?_
      refine ns_icmp_ge C hf (tgt := 50) dX1_readTests_12 (by decide) (fun hf => ?_) (fun hf => ?_)
      · exact wX1_readTests_2_50 N hI C hr hlk w (lv_sub hl [0] rfl) hf
      · refine lv_iload_n C.1.1 C.1.2.1 dX1_readTests_15 rfl (lv_at hl 3 rfl) ?_
        refine lv_iconst (v := 4) C.1.1 C.1.2.1 dX1_readTests_16 (by decide) ?_
        refine ns_icmp_ne C hf (tgt := 25) dX1_readTests_17 (by decide) (fun hf => ?_) (fun hf => ?_)
        · exact wX1_readTests_2_25 N hI C hr hlk K4 w (lv_sub hl [0, 1, 3] rfl) hf
        · refine lv_aload_n C.1.1 C.1.2.1 dX1_readTests_20 rfl (lv_at hl 0 rfl) ?_
          refine lv_iconst (v := 3) C.1.1 C.1.2.1 dX1_readTests_21 (by decide) ?_
          refine ns_callV C w 2 (hI 2 (by decide)) sh_2 (rfl : vwCl[1]? = some (RX1, TX1, 5)) [.int 3] hf (fun u hu => mX1_noteFault_2 l D b ids hI N _ 3 hu) gX1_readTests_X1_noteFault rfl rfl rfl hdX1_noteFault ⟨Nat.le_of_ble_eq_true rfl, Nat.le_of_ble_eq_true rfl⟩ (fun u h => ((h.I (List.mem_of_getElem? (i := 1) rfl) _).I (List.mem_of_getElem? (i := 0) rfl) _)) rfl hl.1 rfl (Nat.le_of_ble_eq_true rfl) ⟨Nat.le_refl _, Nat.le_refl _⟩ dX1_readTests_22 (fun o1 H locs hf w => ?_)
          exact wX1_readTests_2_25 N hI C hr hlk K4 w (lv_sub hl [0, 1, 3] rfl) hf
set_option maxHeartbeats 4000000 in
set_option maxRecDepth 100000 in
theorem mX1_readTests_2 (l : Launch) (D : va_G) (b : Nat → Nat) (ids : List Nat) (hI : ∀ i, i < 107 → i ∈ ids) (N : Nat) (S : ns_S) (p1 : Int32) {o : Int32 × Int32 × Int32 × Int32 × (Nat → Int32) × (Nat → Int32) × (Nat → Int32) × (Nat → Int32)} (hf : fX1_readTests N (S.1 130) (S.1 132) (S.1 192) (S.2.1 5) (S.1 131) (S.2.1 4) (S.2.1 6) (S.2.1 12) (S.2.1 13) (S.2.1 14) (S.2.1 11) p1 = some o) : ns_M l yX1_readTests wsX1_readTests rmX1_readTests_2 D b ids S [.ref (b 2), .int p1] (some (.int o.1)) (ns_I (ns_I (ns_I (ns_A (ns_A (ns_A (ns_A S 11 o.2.2.2.2.2.2.2) 14 o.2.2.2.2.2.2.1) 13 o.2.2.2.2.2.1) 12 o.2.2.2.2.1) 132 o.2.2.2.1) 131 o.2.2.1) 130 o.2.1) := by
  refine ns_start (Wr := wrX1_readTests_2) (by decide) rfl (Nat.le_of_ble_eq_true rfl) ?_
  intro p e s m below meth c A ls C hr hlk w hl
  have hl : lv_has ls 4 [(0, .ref (b 2)), (1, .int p1)] := hl
  unfold fX1_readTests at hf
  refine lv_iconst (v := 1) C.1.1 C.1.2.1 dX1_readTests_0 (by decide) ?_
  refine lv_istore_n (lv' := [(2, .int 1), (0, .ref (b 2)), (1, .int p1)]) C.1.1 C.1.2.1 dX1_readTests_1 rfl hl (by decide) rfl (fun ls hl => ?_)
  refine lv_iconst (v := 0) C.1.1 C.1.2.1 dX1_readTests_2 (by decide) ?_
  refine lv_istore_n (lv' := [(3, .int 0), (2, .int 1), (0, .ref (b 2)), (1, .int p1)]) C.1.1 C.1.2.1 dX1_readTests_3 rfl hl (by decide) rfl (fun ls hl => ?_)
  exact wX1_readTests_2_4 N hI C hr hlk N w (lv_sub hl [2, 3, 1, 0] rfl) hf
theorem lX2_setAct_9 : Cond.fieldLink RX2 9 (TX2 1).1 (TX2 1).2.1 (TX2 1).2.2.1 ∈ wsX2_setAct := List.mem_of_getElem? (i := 1) rfl
theorem lX2_setAct_15 : Cond.fieldLink RX2 15 (TX2 2).1 (TX2 2).2.1 (TX2 2).2.2.1 ∈ wsX2_setAct := List.mem_of_getElem? (i := 2) rfl
theorem lX2_setAct_18 : Cond.fieldLink RX2 18 (TX2 3).1 (TX2 3).2.1 (TX2 3).2.2.1 ∈ wsX2_setAct := List.mem_of_getElem? (i := 3) rfl
theorem lX2_setAct_33 : Cond.fieldLink RX2 33 (TX2 0).1 (TX2 0).2.1 (TX2 0).2.2.1 ∈ wsX2_setAct := List.mem_of_getElem? (i := 4) rfl
theorem inX2_setAct_2 : ∀ w ∈ u_ws RX2 TX2 8, w ∈ wsX2_setAct := fun _ h => List.mem_cons_of_mem _ (List.mem_append_right _ h)
theorem hdX2_setAct : yX2_setAct.cls = RX2 ∧ yX2_setAct.cls ≠ "java/lang/invoke/MethodHandle" ∧ yX2_setAct.cls ≠ "java/lang/invoke/VarHandle" ∧ (parseMethodDescriptor yX2_setAct.desc).map (fun d => d.parameters.length) = some 4 := by decide +kernel
abbrev wrX2_setAct_7 : List (Nat × Nat) := [(1, 8), (1, 9), (1, 10), (0, 448)]
abbrev rmX2_setAct_7 : Room := { frames := 0, cells := 0, slots := 0, locals := 0 }
set_option maxHeartbeats 4000000 in
set_option maxRecDepth 100000 in
theorem mX2_setAct_7 (l : Launch) (D : va_G) (b : Nat → Nat) (ids : List Nat) (hI : ∀ i, i < 107 → i ∈ ids) (N : Nat) (S : ns_S) (p1 : Int32) (p2 : Int32) (p3 : Int32) (p4 : Int32) {o : (Nat → Int32) × (Nat → Int32) × (Nat → Int32) × Int32} (hf : fX2_setAct N (S.2.1 8) (S.2.1 9) (S.2.1 10) (S.1 448) p1 p2 p3 p4 = some o) : ns_M l yX2_setAct wsX2_setAct rmX2_setAct_7 D b ids S [.ref (b 7), .int p1, .int p2, .int p3, .int p4] none (ns_A (ns_A (ns_A (ns_I S 448 o.2.2.2) 10 o.2.2.1) 9 o.2.1) 8 o.1) := by
  refine ns_start (Wr := wrX2_setAct_7) (by decide) rfl (Nat.le_of_ble_eq_true rfl) ?_
  intro p e s m below meth c A ls C hr hlk w hl
  have hl : lv_has ls 5 [(0, .ref (b 7)), (1, .int p1), (2, .int p2), (3, .int p3), (4, .int p4)] := hl
  unfold fX2_setAct at hf
  refine lv_iload_n C.1.1 C.1.2.1 dX2_setAct_0 rfl (lv_at hl 1 rfl) ?_
  refine lv_bipush (v := 16) C.1.1 C.1.2.1 dX2_setAct_1 (by decide) ?_
  refine ns_icmp_lt C hf (tgt := 7) dX2_setAct_3 (by decide) (fun hf => ?_) (fun hf => ?_)
  · refine lv_aload_n C.1.1 C.1.2.1 dX2_setAct_7 rfl (lv_at hl 0 rfl) ?_
    refine ns_getr C w 7 (hI 7 (by decide)) sh_7 (rfl : vwCl[2]? = some (RX2, TX2, 8)) inX2_setAct_2 1 (by decide) rfl lX2_setAct_9 dX2_setAct_8 ?_
    refine lv_iload_n C.1.1 C.1.2.1 dX2_setAct_11 rfl (lv_at hl 1 rfl) ?_
    refine lv_iload_n C.1.1 C.1.2.1 dX2_setAct_12 rfl (lv_at hl 2 rfl) ?_
    refine ns_iast C w 8 (hI 8 (by decide)) sh_8 hf rfl (List.mem_of_getElem? (i := 0) rfl) dX2_setAct_13 (fun y1 H locs hf w => ?_)
    refine lv_aload_n C.1.1 C.1.2.1 dX2_setAct_14 rfl (lv_at hl 0 rfl) ?_
    refine ns_getr C w 7 (hI 7 (by decide)) sh_7 (rfl : vwCl[2]? = some (RX2, TX2, 8)) inX2_setAct_2 2 (by decide) rfl lX2_setAct_15 dX2_setAct_15 ?_
    refine lv_iload_n C.1.1 C.1.2.1 dX2_setAct_18 rfl (lv_at hl 1 rfl) ?_
    refine lv_iload_n C.1.1 C.1.2.1 dX2_setAct_19 rfl (lv_at hl 3 rfl) ?_
    refine ns_iast C w 9 (hI 9 (by decide)) sh_9 hf rfl (List.mem_of_getElem? (i := 1) rfl) dX2_setAct_20 (fun y2 H locs hf w => ?_)
    refine lv_aload_n C.1.1 C.1.2.1 dX2_setAct_21 rfl (lv_at hl 0 rfl) ?_
    refine ns_getr C w 7 (hI 7 (by decide)) sh_7 (rfl : vwCl[2]? = some (RX2, TX2, 8)) inX2_setAct_2 3 (by decide) rfl lX2_setAct_18 dX2_setAct_22 ?_
    refine lv_iload_n C.1.1 C.1.2.1 dX2_setAct_25 rfl (lv_at hl 1 rfl) ?_
    refine lv_iload C.1.1 C.1.2.1 dX2_setAct_26 (lv_at hl 4 rfl) ?_
    refine ns_iast C w 10 (hI 10 (by decide)) sh_10 hf rfl (List.mem_of_getElem? (i := 2) rfl) dX2_setAct_28 (fun y3 H locs hf w => ?_)
    refine lv_aload_n C.1.1 C.1.2.1 dX2_setAct_29 rfl (lv_at hl 0 rfl) ?_
    refine lv_iload_n C.1.1 C.1.2.1 dX2_setAct_30 rfl (lv_at hl 1 rfl) ?_
    refine lv_iconst (v := 1) C.1.1 C.1.2.1 dX2_setAct_31 (by decide) ?_
    refine lv_iadd C.1.1 C.1.2.1 dX2_setAct_32 ?_
    refine ns_namei hf (fun x4 hf => ?_)
    refine ns_puti C w 7 (hI 7 (by decide)) sh_7 (rfl : vwCl[2]? = some (RX2, TX2, 8)) inX2_setAct_2 tyX2_ok nmX2 0 (by decide) rfl lX2_setAct_33 rfl rfl rfl (List.mem_of_getElem? (i := 3) rfl) dX2_setAct_33 (fun H locs w => ?_)
    have he := Option.some.inj hf
    subst he
    exact ns_vret C w hr hlk rfl rfl dX2_setAct_36
  · have he := Option.some.inj hf
    subst he
    exact ns_vret C w hr hlk rfl rfl dX2_setAct_6
theorem lX1_readAct_21 : Cond.fieldLink RX1 21 (TX1 1).1 (TX1 1).2.1 (TX1 1).2.2.1 ∈ wsX1_readAct := List.mem_of_getElem? (i := 2) rfl
theorem lX1_readAct_36 : Cond.fieldLink RX1 36 (TX1 4).1 (TX1 4).2.1 (TX1 4).2.2.1 ∈ wsX1_readAct := List.mem_of_getElem? (i := 1) rfl
theorem inX1_readAct_1 : ∀ w ∈ u_ws RX1 TX1 5, w ∈ wsX1_readAct := fun _ h => List.mem_cons_of_mem _ (List.mem_append_left _ (List.mem_append_left _ (List.mem_append_right _ h)))
theorem hdX1_readAct : yX1_readAct.cls = RX1 ∧ yX1_readAct.cls ≠ "java/lang/invoke/MethodHandle" ∧ yX1_readAct.cls ≠ "java/lang/invoke/VarHandle" ∧ (parseMethodDescriptor yX1_readAct.desc).map (fun d => d.parameters.length) = some 1 := by decide +kernel
abbrev wrX1_readAct_2 : List (Nat × Nat) := [(0, 132), (0, 130), (0, 131), (1, 8), (1, 9), (1, 10), (0, 448)]
abbrev rmX1_readAct_2 : Room := { frames := 2, cells := 0, slots := 0, locals := 41 }
set_option maxHeartbeats 4000000 in
set_option maxRecDepth 100000 in
theorem wX1_readAct_2_117 {p : Program} {l : Launch} {e : Env} {s : State} {m : MethodId} {args : Array Value} {below : List Frame} {meth : Method} {c : Code} {D : va_G} {b : Nat → Nat} {ids : List Nat} {A : Nat → Prop} {S0 : ns_S} {o : Int32 × Int32 × Int32 × Int32 × (Nat → Int32) × (Nat → Int32) × (Nat → Int32) × Int32} (N : Nat) (hI : ∀ i, i < 107 → i ∈ ids) (C : ns_C p m c cX1_readAct 5 s args wsX1_readAct RX1 D A) (hr : meth.sig.returnType = some .boolean) (hlk : meth.locks = false) : ∀ {S : ns_S} {H : Heap} {locs : List Loc} {ls : Array Slot} {l1 : Int32} {l2 : Int32} {l3 : Int32} {l4 : Int32}, ns_W D b ids A s.heap wrX1_readAct_2 S0 S H locs → lv_has ls 5 [(0, .ref (b 2)), (1, .int l1), (2, .int l2), (3, .int l3), (4, .int l4)] → gX1_readAct_117 N (S.1 132) (S.1 192) (S.2.1 4) (S.2.1 6) (S.1 130) (S.2.1 5) (S.1 131) (S.2.1 8) (S.2.1 9) (S.2.1 10) (S.1 448) l1 l2 l3 l4 = some o → W p l e rmX1_readAct_2 s m args below meth c H locs 0 0 (MQ below (ns_Q D b ids (ns_I (ns_I (ns_I (ns_A (ns_A (ns_A (ns_I S0 448 o.2.2.2.2.2.2.2) 10 o.2.2.2.2.2.2.1) 9 o.2.2.2.2.2.1) 8 o.2.2.2.2.1) 131 o.2.2.2.1) 130 o.2.2.1) 132 o.2.1) (some (.int o.1)) A) args s 0 0 A) (F0 m 117 ls []) := by
  intro S H locs ls l1 l2 l3 l4 w hl hf
  unfold gX1_readAct_117 at hf
  refine lv_aload_n C.1.1 C.1.2.1 dX1_readAct_117 rfl (lv_at hl 0 rfl) ?_
  refine ns_getr C w 2 (hI 2 (by decide)) sh_2 (rfl : vwCl[1]? = some (RX1, TX1, 5)) inX1_readAct_1 1 (by decide) rfl lX1_readAct_21 dX1_readAct_118 ?_
  refine lv_iload_n C.1.1 C.1.2.1 dX1_readAct_121 rfl (lv_at hl 1 rfl) ?_
  refine lv_iload_n C.1.1 C.1.2.1 dX1_readAct_122 rfl (lv_at hl 2 rfl) ?_
  refine lv_iload_n C.1.1 C.1.2.1 dX1_readAct_123 rfl (lv_at hl 3 rfl) ?_
  refine lv_iload C.1.1 C.1.2.1 dX1_readAct_124 (lv_at hl 4 rfl) ?_
  refine ns_callV C w 7 (hI 7 (by decide)) sh_7 (rfl : vwCl[2]? = some (RX2, TX2, 8)) [.int l1, .int l2, .int l3, .int l4] hf (fun u hu => mX2_setAct_7 l D b ids hI N _ l1 l2 l3 l4 hu) gX1_readAct_X2_setAct rfl rfl rfl hdX2_setAct ⟨Nat.le_of_ble_eq_true rfl, Nat.le_of_ble_eq_true rfl⟩ (fun u h => ((((h.I (List.mem_of_getElem? (i := 6) rfl) _).A (List.mem_of_getElem? (i := 5) rfl) _).A (List.mem_of_getElem? (i := 4) rfl) _).A (List.mem_of_getElem? (i := 3) rfl) _)) rfl hl.1 rfl (Nat.le_of_ble_eq_true rfl) ⟨Nat.le_refl _, Nat.le_refl _⟩ dX1_readAct_126 (fun o1 H locs hf w => ?_)
  refine lv_iconst (v := 1) C.1.1 C.1.2.1 dX1_readAct_129 (by decide) ?_
  have he := Option.some.inj hf
  subst he
  exact ns_zret C w hr hlk rfl (Or.inr rfl) rfl dX1_readAct_130
set_option maxHeartbeats 4000000 in
set_option maxRecDepth 100000 in
theorem wX1_readAct_2_107 {p : Program} {l : Launch} {e : Env} {s : State} {m : MethodId} {args : Array Value} {below : List Frame} {meth : Method} {c : Code} {D : va_G} {b : Nat → Nat} {ids : List Nat} {A : Nat → Prop} {S0 : ns_S} {o : Int32 × Int32 × Int32 × Int32 × (Nat → Int32) × (Nat → Int32) × (Nat → Int32) × Int32} (N : Nat) (hI : ∀ i, i < 107 → i ∈ ids) (C : ns_C p m c cX1_readAct 5 s args wsX1_readAct RX1 D A) (hr : meth.sig.returnType = some .boolean) (hlk : meth.locks = false) : ∀ {S : ns_S} {H : Heap} {locs : List Loc} {ls : Array Slot} {l1 : Int32} {l2 : Int32} {l3 : Int32} {l4 : Int32}, ns_W D b ids A s.heap wrX1_readAct_2 S0 S H locs → lv_has ls 5 [(0, .ref (b 2)), (1, .int l1), (2, .int l2), (3, .int l3), (4, .int l4)] → gX1_readAct_107 N (S.1 132) (S.1 192) (S.2.1 4) (S.2.1 6) (S.1 130) (S.2.1 5) (S.1 131) (S.2.1 8) (S.2.1 9) (S.2.1 10) (S.1 448) l1 l2 l3 l4 = some o → W p l e rmX1_readAct_2 s m args below meth c H locs 0 0 (MQ below (ns_Q D b ids (ns_I (ns_I (ns_I (ns_A (ns_A (ns_A (ns_I S0 448 o.2.2.2.2.2.2.2) 10 o.2.2.2.2.2.2.1) 9 o.2.2.2.2.2.1) 8 o.2.2.2.2.1) 131 o.2.2.2.1) 130 o.2.2.1) 132 o.2.1) (some (.int o.1)) A) args s 0 0 A) (F0 m 107 ls []) := by
  intro S H locs ls l1 l2 l3 l4 w hl hf
  unfold gX1_readAct_107 at hf
  refine lv_aload_n C.1.1 C.1.2.1 dX1_readAct_107 rfl (lv_at hl 0 rfl) ?_
  refine lv_iconst (v := 2) C.1.1 C.1.2.1 dX1_readAct_108 (by decide) ?_
  refine ns_callV C w 2 (hI 2 (by decide)) sh_2 (rfl : vwCl[1]? = some (RX1, TX1, 5)) [.int 2] hf (fun u hu => mX1_pass_2 l D b ids hI N _ 2 hu) gX1_readAct_X1_pass rfl rfl rfl hdX1_pass ⟨Nat.le_of_ble_eq_true rfl, Nat.le_of_ble_eq_true rfl⟩ (fun u h => (h.I (List.mem_of_getElem? (i := 0) rfl) _)) rfl hl.1 rfl (Nat.le_of_ble_eq_true rfl) ⟨Nat.le_refl _, Nat.le_refl _⟩ dX1_readAct_109 (fun o1 H locs hf w => ?_)
  refine ns_if_ne C hf (tgt := 117) dX1_readAct_112 (by decide) (fun hf => ?_) (fun hf => ?_)
  · exact wX1_readAct_2_117 N hI C hr hlk w (lv_sub hl [0, 1, 2, 3, 4] rfl) hf
  · refine lv_iconst (v := 0) C.1.1 C.1.2.1 dX1_readAct_115 (by decide) ?_
    have he := Option.some.inj hf
    subst he
    exact ns_zret C w hr hlk rfl (Or.inl rfl) rfl dX1_readAct_116
set_option maxHeartbeats 4000000 in
set_option maxRecDepth 100000 in
theorem wX1_readAct_2_65 {p : Program} {l : Launch} {e : Env} {s : State} {m : MethodId} {args : Array Value} {below : List Frame} {meth : Method} {c : Code} {D : va_G} {b : Nat → Nat} {ids : List Nat} {A : Nat → Prop} {S0 : ns_S} {o : Int32 × Int32 × Int32 × Int32 × (Nat → Int32) × (Nat → Int32) × (Nat → Int32) × Int32} (N : Nat) (hI : ∀ i, i < 107 → i ∈ ids) (C : ns_C p m c cX1_readAct 5 s args wsX1_readAct RX1 D A) (hr : meth.sig.returnType = some .boolean) (hlk : meth.locks = false) : ∀ {S : ns_S} {H : Heap} {locs : List Loc} {ls : Array Slot} {l1 : Int32} {l2 : Int32} {l3 : Int32} {l4 : Int32}, ns_W D b ids A s.heap wrX1_readAct_2 S0 S H locs → lv_has ls 5 [(0, .ref (b 2)), (1, .int l1), (2, .int l2), (3, .int l3), (4, .int l4)] → gX1_readAct_65 N (S.1 132) (S.1 192) (S.2.1 4) (S.2.1 6) (S.1 130) (S.2.1 5) (S.1 131) (S.2.1 8) (S.2.1 9) (S.2.1 10) (S.1 448) l1 l2 l3 l4 = some o → W p l e rmX1_readAct_2 s m args below meth c H locs 0 0 (MQ below (ns_Q D b ids (ns_I (ns_I (ns_I (ns_A (ns_A (ns_A (ns_I S0 448 o.2.2.2.2.2.2.2) 10 o.2.2.2.2.2.2.1) 9 o.2.2.2.2.2.1) 8 o.2.2.2.2.1) 131 o.2.2.2.1) 130 o.2.2.1) 132 o.2.1) (some (.int o.1)) A) args s 0 0 A) (F0 m 65 ls []) := by
  intro S H locs ls l1 l2 l3 l4 w hl hf
  unfold gX1_readAct_65 at hf
  refine lv_iload_n C.1.1 C.1.2.1 dX1_readAct_65 rfl (lv_at hl 2 rfl) ?_
  refine lv_sipush (v := 211) C.1.1 C.1.2.1 dX1_readAct_66 (by decide) ?_
  refine ns_icmp_ne C hf (tgt := 117) dX1_readAct_69 (by decide) (fun hf => ?_) (fun hf => ?_)
  · exact wX1_readAct_2_117 N hI C hr hlk w (lv_sub hl [0, 1, 2, 3, 4] rfl) hf
  · refine lv_aload_n C.1.1 C.1.2.1 dX1_readAct_72 rfl (lv_at hl 0 rfl) ?_
    refine lv_bipush (v := 47) C.1.1 C.1.2.1 dX1_readAct_73 (by decide) ?_
    refine ns_callV C w 2 (hI 2 (by decide)) sh_2 (rfl : vwCl[1]? = some (RX1, TX1, 5)) [.int 47] hf (fun u hu => mX1_pass_2 l D b ids hI N _ 47 hu) gX1_readAct_X1_pass rfl rfl rfl hdX1_pass ⟨Nat.le_of_ble_eq_true rfl, Nat.le_of_ble_eq_true rfl⟩ (fun u h => (h.I (List.mem_of_getElem? (i := 0) rfl) _)) rfl hl.1 rfl (Nat.le_of_ble_eq_true rfl) ⟨Nat.le_refl _, Nat.le_refl _⟩ dX1_readAct_75 (fun o1 H locs hf w => ?_)
    refine ns_if_ne C hf (tgt := 83) dX1_readAct_78 (by decide) (fun hf => ?_) (fun hf => ?_)
    · refine lv_aload_n C.1.1 C.1.2.1 dX1_readAct_83 rfl (lv_at hl 0 rfl) ?_
      refine ns_callV C w 2 (hI 2 (by decide)) sh_2 (rfl : vwCl[1]? = some (RX1, TX1, 5)) [] hf (fun u hu => mX1_numberHere_2 l D b ids hI N _ hu) gX1_readAct_X1_numberHere rfl rfl rfl hdX1_numberHere ⟨Nat.le_of_ble_eq_true rfl, Nat.le_of_ble_eq_true rfl⟩ (fun u h => h) rfl hl.1 rfl (Nat.le_of_ble_eq_true rfl) ⟨Nat.le_refl _, Nat.le_refl _⟩ dX1_readAct_84 (fun o2 H locs hf w => ?_)
      refine lv_istore (lv' := [(4, .int o2), (0, .ref (b 2)), (1, .int l1), (2, .int l2), (3, .int l3)]) C.1.1 C.1.2.1 dX1_readAct_87 hl (by decide) rfl (fun ls hl => ?_)
      refine lv_aload_n C.1.1 C.1.2.1 dX1_readAct_89 rfl (lv_at hl 1 rfl) ?_
      refine ns_callV C w 2 (hI 2 (by decide)) sh_2 (rfl : vwCl[1]? = some (RX1, TX1, 5)) [] hf (fun u hu => mX1_kindHere_2 l D b ids hI N _ hu) gX1_readAct_X1_kindHere rfl rfl rfl hdX1_kindHere ⟨Nat.le_of_ble_eq_true rfl, Nat.le_of_ble_eq_true rfl⟩ (fun u h => h) rfl hl.1 rfl (Nat.le_of_ble_eq_true rfl) ⟨Nat.le_refl _, Nat.le_refl _⟩ dX1_readAct_90 (fun o3 H locs hf w => ?_)
      refine lv_iconst (v := 2) C.1.1 C.1.2.1 dX1_readAct_93 (by decide) ?_
      refine ns_icmp_ne C hf (tgt := 107) dX1_readAct_94 (by decide) (fun hf => ?_) (fun hf => ?_)
      · exact wX1_readAct_2_107 N hI C hr hlk w (lv_sub hl [1, 2, 3, 4, 0] rfl) hf
      · refine lv_iload C.1.1 C.1.2.1 dX1_readAct_97 (lv_at hl 0 rfl) ?_
        refine ns_if_ne C hf (tgt := 107) dX1_readAct_99 (by decide) (fun hf => ?_) (fun hf => ?_)
        · exact wX1_readAct_2_107 N hI C hr hlk w (lv_sub hl [1, 2, 3, 4, 0] rfl) hf
        · refine lv_aload_n C.1.1 C.1.2.1 dX1_readAct_102 rfl (lv_at hl 1 rfl) ?_
          refine lv_iconst (v := 2) C.1.1 C.1.2.1 dX1_readAct_103 (by decide) ?_
          refine ns_callV C w 2 (hI 2 (by decide)) sh_2 (rfl : vwCl[1]? = some (RX1, TX1, 5)) [.int 2] hf (fun u hu => mX1_noteFault_2 l D b ids hI N _ 2 hu) gX1_readAct_X1_noteFault rfl rfl rfl hdX1_noteFault ⟨Nat.le_of_ble_eq_true rfl, Nat.le_of_ble_eq_true rfl⟩ (fun u h => ((h.I (List.mem_of_getElem? (i := 2) rfl) _).I (List.mem_of_getElem? (i := 1) rfl) _)) rfl hl.1 rfl (Nat.le_of_ble_eq_true rfl) ⟨Nat.le_refl _, Nat.le_refl _⟩ dX1_readAct_104 (fun o4 H locs hf w => ?_)
          exact wX1_readAct_2_107 N hI C hr hlk w (lv_sub hl [1, 2, 3, 4, 0] rfl) hf
    · refine lv_iconst (v := 0) C.1.1 C.1.2.1 dX1_readAct_81 (by decide) ?_
      have he := Option.some.inj hf
      subst he
      exact ns_zret C w hr hlk rfl (Or.inl rfl) rfl dX1_readAct_82
set_option maxHeartbeats 4000000 in
set_option maxRecDepth 100000 in
theorem mX1_readAct_2 (l : Launch) (D : va_G) (b : Nat → Nat) (ids : List Nat) (hI : ∀ i, i < 107 → i ∈ ids) (N : Nat) (S : ns_S) (p1 : Int32) {o : Int32 × Int32 × Int32 × Int32 × (Nat → Int32) × (Nat → Int32) × (Nat → Int32) × Int32} (hf : fX1_readAct N (S.1 132) (S.1 192) (S.2.1 4) (S.2.1 6) (S.1 130) (S.2.1 5) (S.1 131) (S.2.1 8) (S.2.1 9) (S.2.1 10) (S.1 448) p1 = some o) : ns_M l yX1_readAct wsX1_readAct rmX1_readAct_2 D b ids S [.ref (b 2), .int p1] (some (.int o.1)) (ns_I (ns_I (ns_I (ns_A (ns_A (ns_A (ns_I S 448 o.2.2.2.2.2.2.2) 10 o.2.2.2.2.2.2.1) 9 o.2.2.2.2.2.1) 8 o.2.2.2.2.1) 131 o.2.2.2.1) 130 o.2.2.1) 132 o.2.1) := by
  refine ns_start (Wr := wrX1_readAct_2) (by decide) rfl (Nat.le_of_ble_eq_true rfl) ?_
  intro p e s m below meth c A ls C hr hlk w hl
  have hl : lv_has ls 5 [(0, .ref (b 2)), (1, .int p1)] := hl
  unfold fX1_readAct at hf
  refine lv_aload_n C.1.1 C.1.2.1 dX1_readAct_0 rfl (lv_at hl 0 rfl) ?_
  refine ns_callV C w 2 (hI 2 (by decide)) sh_2 (rfl : vwCl[1]? = some (RX1, TX1, 5)) [] hf (fun u hu => mX1_kindHere_2 l D b ids hI N _ hu) gX1_readAct_X1_kindHere rfl rfl rfl hdX1_kindHere ⟨Nat.le_of_ble_eq_true rfl, Nat.le_of_ble_eq_true rfl⟩ (fun u h => h) rfl hl.1 rfl (Nat.le_of_ble_eq_true rfl) ⟨Nat.le_refl _, Nat.le_refl _⟩ dX1_readAct_1 (fun o1 H locs hf w => ?_)
  refine lv_istore_n (lv' := [(2, .int o1), (0, .ref (b 2)), (1, .int p1)]) C.1.1 C.1.2.1 dX1_readAct_4 rfl hl (by decide) rfl (fun ls hl => ?_)
  refine lv_iload_n C.1.1 C.1.2.1 dX1_readAct_5 rfl (lv_at hl 0 rfl) ?_
  refine lv_sipush (v := 209) C.1.1 C.1.2.1 dX1_readAct_6 (by decide) ?_
  refine ns_icmp_lt C hf (tgt := 19) dX1_readAct_9 (by decide) (fun hf => ?_) (fun hf => ?_)
  · refine lv_iconst (v := 0) C.1.1 C.1.2.1 dX1_readAct_19 (by decide) ?_
    have he := Option.some.inj hf
    subst he
    exact ns_zret C w hr hlk rfl (Or.inl rfl) rfl dX1_readAct_20
  · refine lv_iload_n C.1.1 C.1.2.1 dX1_readAct_12 rfl (lv_at hl 0 rfl) ?_
    refine lv_sipush (v := 215) C.1.1 C.1.2.1 dX1_readAct_13 (by decide) ?_
    refine ns_icmp_le C hf (tgt := 21) dX1_readAct_16 (by decide) (fun hf => ?_) (fun hf => ?_)
    · refine lv_aload_n C.1.1 C.1.2.1 dX1_readAct_21 rfl (lv_at hl 1 rfl) ?_
      refine lv_dup C.1.1 C.1.2.1 dX1_readAct_22 rfl ?_
      refine ns_geti C w 2 (hI 2 (by decide)) sh_2 (rfl : vwCl[1]? = some (RX1, TX1, 5)) inX1_readAct_1 4 (by decide) rfl lX1_readAct_36 (S.1 132) rfl dX1_readAct_23 ?_
      refine lv_iconst (v := 1) C.1.1 C.1.2.1 dX1_readAct_26 (by decide) ?_
      refine lv_iadd C.1.1 C.1.2.1 dX1_readAct_27 ?_
      refine ns_namei hf (fun x2 hf => ?_)
      refine ns_puti C w 2 (hI 2 (by decide)) sh_2 (rfl : vwCl[1]? = some (RX1, TX1, 5)) inX1_readAct_1 tyX1_ok nmX1 4 (by decide) rfl lX1_readAct_36 rfl rfl rfl (List.mem_of_getElem? (i := 0) rfl) dX1_readAct_28 (fun H locs w => ?_)
      refine lv_iconst (v := 0) C.1.1 C.1.2.1 dX1_readAct_31 (by decide) ?_
      refine lv_istore_n (lv' := [(3, .int 0), (2, .int o1), (0, .ref (b 2)), (1, .int p1)]) C.1.1 C.1.2.1 dX1_readAct_32 rfl hl (by decide) rfl (fun ls hl => ?_)
      refine lv_iconst (v := 0) C.1.1 C.1.2.1 dX1_readAct_33 (by decide) ?_
      refine lv_istore (lv' := [(4, .int 0), (3, .int 0), (2, .int o1), (0, .ref (b 2)), (1, .int p1)]) C.1.1 C.1.2.1 dX1_readAct_34 hl (by decide) rfl (fun ls hl => ?_)
      refine lv_iload_n C.1.1 C.1.2.1 dX1_readAct_36 rfl (lv_at hl 2 rfl) ?_
      refine lv_sipush (v := 214) C.1.1 C.1.2.1 dX1_readAct_37 (by decide) ?_
      refine ns_icmp_eq C hf (tgt := 65) dX1_readAct_40 (by decide) (fun hf => ?_) (fun hf => ?_)
      · exact wX1_readAct_2_65 N hI C hr hlk w (lv_sub hl [3, 4, 2, 1, 0] rfl) hf
      · refine lv_iload_n C.1.1 C.1.2.1 dX1_readAct_43 rfl (lv_at hl 2 rfl) ?_
        refine lv_sipush (v := 215) C.1.1 C.1.2.1 dX1_readAct_44 (by decide) ?_
        refine ns_icmp_eq C hf (tgt := 65) dX1_readAct_47 (by decide) (fun hf => ?_) (fun hf => ?_)
        · exact wX1_readAct_2_65 N hI C hr hlk w (lv_sub hl [3, 4, 2, 1, 0] rfl) hf
        · refine lv_aload_n C.1.1 C.1.2.1 dX1_readAct_50 rfl (lv_at hl 3 rfl) ?_
          refine ns_callV C w 2 (hI 2 (by decide)) sh_2 (rfl : vwCl[1]? = some (RX1, TX1, 5)) [] hf (fun u hu => mX1_numberHere_2 l D b ids hI N _ hu) gX1_readAct_X1_numberHere rfl rfl rfl hdX1_numberHere ⟨Nat.le_of_ble_eq_true rfl, Nat.le_of_ble_eq_true rfl⟩ (fun u h => h) rfl hl.1 rfl (Nat.le_of_ble_eq_true rfl) ⟨Nat.le_refl _, Nat.le_refl _⟩ dX1_readAct_51 (fun o3 H locs hf w => ?_)
          refine lv_istore_n (lv' := [(3, .int o3), (4, .int 0), (2, .int o1), (0, .ref (b 2)), (1, .int p1)]) C.1.1 C.1.2.1 dX1_readAct_54 rfl hl (by decide) rfl (fun ls hl => ?_)
          refine lv_aload_n C.1.1 C.1.2.1 dX1_readAct_55 rfl (lv_at hl 3 rfl) ?_
          refine lv_iconst (v := 2) C.1.1 C.1.2.1 dX1_readAct_56 (by decide) ?_
          refine ns_callV C w 2 (hI 2 (by decide)) sh_2 (rfl : vwCl[1]? = some (RX1, TX1, 5)) [.int 2] hf (fun u hu => mX1_pass_2 l D b ids hI N _ 2 hu) gX1_readAct_X1_pass rfl rfl rfl hdX1_pass ⟨Nat.le_of_ble_eq_true rfl, Nat.le_of_ble_eq_true rfl⟩ (fun u h => (h.I (List.mem_of_getElem? (i := 0) rfl) _)) rfl hl.1 rfl (Nat.le_of_ble_eq_true rfl) ⟨Nat.le_refl _, Nat.le_refl _⟩ dX1_readAct_57 (fun o4 H locs hf w => ?_)
          refine ns_if_ne C hf (tgt := 65) dX1_readAct_60 (by decide) (fun hf => ?_) (fun hf => ?_)
          · exact wX1_readAct_2_65 N hI C hr hlk w (lv_sub hl [3, 4, 2, 0, 1] rfl) hf
          · refine lv_iconst (v := 0) C.1.1 C.1.2.1 dX1_readAct_63 (by decide) ?_
            have he := Option.some.inj hf
            subst he
            exact ns_zret C w hr hlk rfl (Or.inl rfl) rfl dX1_readAct_64
    · refine lv_iconst (v := 0) C.1.1 C.1.2.1 dX1_readAct_19 (by decide) ?_
      have he := Option.some.inj hf
      subst he
      exact ns_zret C w hr hlk rfl (Or.inl rfl) rfl dX1_readAct_20
theorem lX1_readLine_21 : Cond.fieldLink RX1 21 (TX1 1).1 (TX1 1).2.1 (TX1 1).2.2.1 ∈ wsX1_readLine := List.mem_of_getElem? (i := 1) rfl
theorem inX1_readLine_1 : ∀ w ∈ u_ws RX1 TX1 5, w ∈ wsX1_readLine := fun _ h => List.mem_cons_of_mem _ (List.mem_append_left _ (List.mem_append_left _ (List.mem_append_right _ h)))
theorem hdX1_readLine : yX1_readLine.cls = RX1 ∧ yX1_readLine.cls ≠ "java/lang/invoke/MethodHandle" ∧ yX1_readLine.cls ≠ "java/lang/invoke/VarHandle" ∧ (parseMethodDescriptor yX1_readLine.desc).map (fun d => d.parameters.length) = some 1 := by decide +kernel
abbrev wrX1_readLine_2 : List (Nat × Nat) := [(0, 130), (0, 131), (1, 11), (0, 132), (1, 12), (1, 13), (1, 14), (1, 8), (1, 9), (1, 10), (0, 448)]
abbrev rmX1_readLine_2 : Room := { frames := 4, cells := 0, slots := 0, locals := 89 }
set_option maxHeartbeats 4000000 in
set_option maxRecDepth 100000 in
theorem wX1_readLine_2_39 {p : Program} {l : Launch} {e : Env} {s : State} {m : MethodId} {args : Array Value} {below : List Frame} {meth : Method} {c : Code} {D : va_G} {b : Nat → Nat} {ids : List Nat} {A : Nat → Prop} {S0 : ns_S} {o : Int32 × Int32 × Int32 × (Nat → Int32) × Int32 × (Nat → Int32) × (Nat → Int32) × (Nat → Int32) × (Nat → Int32) × (Nat → Int32) × (Nat → Int32) × Int32} (N : Nat) (hI : ∀ i, i < 107 → i ∈ ids) (C : ns_C p m c cX1_readLine 2 s args wsX1_readLine RX1 D A) (hr : meth.sig.returnType = some .boolean) (hlk : meth.locks = false) : ∀ {S : ns_S} {H : Heap} {locs : List Loc} {ls : Array Slot} {l1 : Int32}, ns_W D b ids A s.heap wrX1_readLine_2 S0 S H locs → lv_has ls 2 [(0, .ref (b 2)), (1, .int l1)] → gX1_readLine_39 N (S.1 130) (S.1 132) (S.1 192) (S.2.1 5) (S.1 131) (S.2.1 11) (S.2.1 4) (S.2.1 6) (S.2.1 12) (S.2.1 13) (S.2.1 14) (S.2.1 8) (S.2.1 9) (S.2.1 10) (S.1 448) l1 = some o → W p l e rmX1_readLine_2 s m args below meth c H locs 0 0 (MQ below (ns_Q D b ids (ns_I (ns_I (ns_A (ns_I (ns_A (ns_A (ns_A (ns_A (ns_A (ns_A (ns_I S0 448 o.2.2.2.2.2.2.2.2.2.2.2) 10 o.2.2.2.2.2.2.2.2.2.2.1) 9 o.2.2.2.2.2.2.2.2.2.1) 8 o.2.2.2.2.2.2.2.2.1) 14 o.2.2.2.2.2.2.2.1) 13 o.2.2.2.2.2.2.1) 12 o.2.2.2.2.2.1) 132 o.2.2.2.2.1) 11 o.2.2.2.1) 131 o.2.2.1) 130 o.2.1) (some (.int o.1)) A) args s 0 0 A) (F0 m 39 ls []) := by
  intro S H locs ls l1 w hl hf
  unfold gX1_readLine_39 at hf
  refine lv_aload_n C.1.1 C.1.2.1 dX1_readLine_39 rfl (lv_at hl 0 rfl) ?_
  refine lv_iload_n C.1.1 C.1.2.1 dX1_readLine_40 rfl (lv_at hl 1 rfl) ?_
  refine ns_callV C w 2 (hI 2 (by decide)) sh_2 (rfl : vwCl[1]? = some (RX1, TX1, 5)) [.int l1] hf (fun u hu => mX1_readAct_2 l D b ids hI N _ l1 hu) gX1_readLine_X1_readAct rfl rfl rfl hdX1_readAct ⟨Nat.le_of_ble_eq_true rfl, Nat.le_of_ble_eq_true rfl⟩ (fun u h => (((((((h.I (List.mem_of_getElem? (i := 10) rfl) _).A (List.mem_of_getElem? (i := 9) rfl) _).A (List.mem_of_getElem? (i := 8) rfl) _).A (List.mem_of_getElem? (i := 7) rfl) _).I (List.mem_of_getElem? (i := 1) rfl) _).I (List.mem_of_getElem? (i := 0) rfl) _).I (List.mem_of_getElem? (i := 3) rfl) _)) rfl hl.1 rfl (Nat.le_of_ble_eq_true rfl) ⟨Nat.le_refl _, Nat.le_refl _⟩ dX1_readLine_41 (fun o1 H locs hf w => ?_)
  refine ns_if_eq C hf (tgt := 60) dX1_readLine_44 (by decide) (fun hf => ?_) (fun hf => ?_)
  · refine lv_iconst (v := 0) C.1.1 C.1.2.1 dX1_readLine_60 (by decide) ?_
    have he := Option.some.inj hf
    subst he
    exact ns_zret C w hr hlk rfl (Or.inl rfl) rfl dX1_readLine_61
  · refine lv_aload_n C.1.1 C.1.2.1 dX1_readLine_47 rfl (lv_at hl 0 rfl) ?_
    refine lv_bipush (v := 59) C.1.1 C.1.2.1 dX1_readLine_48 (by decide) ?_
    refine ns_callV C w 2 (hI 2 (by decide)) sh_2 (rfl : vwCl[1]? = some (RX1, TX1, 5)) [.int 59] hf (fun u hu => mX1_pass_2 l D b ids hI N _ 59 hu) gX1_readLine_X1_pass rfl rfl rfl hdX1_pass ⟨Nat.le_of_ble_eq_true rfl, Nat.le_of_ble_eq_true rfl⟩ (fun u h => (h.I (List.mem_of_getElem? (i := 3) rfl) _)) rfl hl.1 rfl (Nat.le_of_ble_eq_true rfl) ⟨Nat.le_refl _, Nat.le_refl _⟩ dX1_readLine_50 (fun o2 H locs hf w => ?_)
    refine ns_if_eq C hf (tgt := 60) dX1_readLine_53 (by decide) (fun hf => ?_) (fun hf => ?_)
    · refine lv_iconst (v := 0) C.1.1 C.1.2.1 dX1_readLine_60 (by decide) ?_
      have he := Option.some.inj hf
      subst he
      exact ns_zret C w hr hlk rfl (Or.inl rfl) rfl dX1_readLine_61
    · refine lv_iconst (v := 1) C.1.1 C.1.2.1 dX1_readLine_56 (by decide) ?_
      refine lv_goto (tgt := 61) C.1.1 C.1.2.1 dX1_readLine_57 (by decide) ?_
      have he := Option.some.inj hf
      subst he
      exact ns_zret C w hr hlk rfl (Or.inr rfl) rfl dX1_readLine_61
set_option maxHeartbeats 4000000 in
set_option maxRecDepth 100000 in
theorem wX1_readLine_2_11 {p : Program} {l : Launch} {e : Env} {s : State} {m : MethodId} {args : Array Value} {below : List Frame} {meth : Method} {c : Code} {D : va_G} {b : Nat → Nat} {ids : List Nat} {A : Nat → Prop} {S0 : ns_S} {o : Int32 × Int32 × Int32 × (Nat → Int32) × Int32 × (Nat → Int32) × (Nat → Int32) × (Nat → Int32) × (Nat → Int32) × (Nat → Int32) × (Nat → Int32) × Int32} (N : Nat) (hI : ∀ i, i < 107 → i ∈ ids) (C : ns_C p m c cX1_readLine 2 s args wsX1_readLine RX1 D A) (hr : meth.sig.returnType = some .boolean) (hlk : meth.locks = false) : ∀ {S : ns_S} {H : Heap} {locs : List Loc} {ls : Array Slot} {l1 : Int32}, ns_W D b ids A s.heap wrX1_readLine_2 S0 S H locs → lv_has ls 2 [(0, .ref (b 2)), (1, .int l1)] → gX1_readLine_11 N (S.1 130) (S.1 132) (S.1 192) (S.2.1 5) (S.1 131) (S.2.1 11) (S.2.1 4) (S.2.1 6) (S.2.1 12) (S.2.1 13) (S.2.1 14) (S.2.1 8) (S.2.1 9) (S.2.1 10) (S.1 448) l1 = some o → W p l e rmX1_readLine_2 s m args below meth c H locs 0 0 (MQ below (ns_Q D b ids (ns_I (ns_I (ns_A (ns_I (ns_A (ns_A (ns_A (ns_A (ns_A (ns_A (ns_I S0 448 o.2.2.2.2.2.2.2.2.2.2.2) 10 o.2.2.2.2.2.2.2.2.2.2.1) 9 o.2.2.2.2.2.2.2.2.2.1) 8 o.2.2.2.2.2.2.2.2.1) 14 o.2.2.2.2.2.2.2.1) 13 o.2.2.2.2.2.2.1) 12 o.2.2.2.2.2.1) 132 o.2.2.2.2.1) 11 o.2.2.2.1) 131 o.2.2.1) 130 o.2.1) (some (.int o.1)) A) args s 0 0 A) (F0 m 11 ls []) := by
  intro S H locs ls l1 w hl hf
  unfold gX1_readLine_11 at hf
  refine lv_aload_n C.1.1 C.1.2.1 dX1_readLine_11 rfl (lv_at hl 0 rfl) ?_
  refine ns_getr C w 2 (hI 2 (by decide)) sh_2 (rfl : vwCl[1]? = some (RX1, TX1, 5)) inX1_readLine_1 1 (by decide) rfl lX1_readLine_21 dX1_readLine_12 ?_
  refine lv_iload_n C.1.1 C.1.2.1 dX1_readLine_15 rfl (lv_at hl 1 rfl) ?_
  refine ns_callV C w 7 (hI 7 (by decide)) sh_7 (rfl : vwCl[2]? = some (RX2, TX2, 8)) [.int l1] hf (fun u hu => mX2_startLine_7 l D b ids hI N _ l1 hu) gX1_readLine_X2_startLine rfl rfl rfl hdX2_startLine ⟨Nat.le_of_ble_eq_true rfl, Nat.le_of_ble_eq_true rfl⟩ (fun u h => (h.A (List.mem_of_getElem? (i := 2) rfl) _)) rfl hl.1 rfl (Nat.le_of_ble_eq_true rfl) ⟨Nat.le_refl _, Nat.le_refl _⟩ dX1_readLine_16 (fun o1 H locs hf w => ?_)
  refine lv_aload_n C.1.1 C.1.2.1 dX1_readLine_19 rfl (lv_at hl 0 rfl) ?_
  refine lv_sipush (v := 201) C.1.1 C.1.2.1 dX1_readLine_20 (by decide) ?_
  refine ns_callV C w 2 (hI 2 (by decide)) sh_2 (rfl : vwCl[1]? = some (RX1, TX1, 5)) [.int 201] hf (fun u hu => mX1_pass_2 l D b ids hI N _ 201 hu) gX1_readLine_X1_pass rfl rfl rfl hdX1_pass ⟨Nat.le_of_ble_eq_true rfl, Nat.le_of_ble_eq_true rfl⟩ (fun u h => (h.I (List.mem_of_getElem? (i := 3) rfl) _)) rfl hl.1 rfl (Nat.le_of_ble_eq_true rfl) ⟨Nat.le_refl _, Nat.le_refl _⟩ dX1_readLine_23 (fun o2 H locs hf w => ?_)
  refine ns_if_eq C hf (tgt := 39) dX1_readLine_26 (by decide) (fun hf => ?_) (fun hf => ?_)
  · exact wX1_readLine_2_39 N hI C hr hlk w (lv_sub hl [0, 1] rfl) hf
  · refine lv_aload_n C.1.1 C.1.2.1 dX1_readLine_29 rfl (lv_at hl 0 rfl) ?_
    refine lv_iload_n C.1.1 C.1.2.1 dX1_readLine_30 rfl (lv_at hl 1 rfl) ?_
    refine ns_callV C w 2 (hI 2 (by decide)) sh_2 (rfl : vwCl[1]? = some (RX1, TX1, 5)) [.int l1] hf (fun u hu => mX1_readTests_2 l D b ids hI N _ l1 hu) gX1_readLine_X1_readTests rfl rfl rfl hdX1_readTests ⟨Nat.le_of_ble_eq_true rfl, Nat.le_of_ble_eq_true rfl⟩ (fun u h => (((((((h.A (List.mem_of_getElem? (i := 2) rfl) _).A (List.mem_of_getElem? (i := 6) rfl) _).A (List.mem_of_getElem? (i := 5) rfl) _).A (List.mem_of_getElem? (i := 4) rfl) _).I (List.mem_of_getElem? (i := 3) rfl) _).I (List.mem_of_getElem? (i := 1) rfl) _).I (List.mem_of_getElem? (i := 0) rfl) _)) rfl hl.1 rfl (Nat.le_of_ble_eq_true rfl) ⟨Nat.le_refl _, Nat.le_refl _⟩ dX1_readLine_31 (fun o3 H locs hf w => ?_)
    refine ns_if_ne C hf (tgt := 39) dX1_readLine_34 (by decide) (fun hf => ?_) (fun hf => ?_)
    · exact wX1_readLine_2_39 N hI C hr hlk w (lv_sub hl [0, 1] rfl) hf
    · refine lv_iconst (v := 0) C.1.1 C.1.2.1 dX1_readLine_37 (by decide) ?_
      have he := Option.some.inj hf
      subst he
      exact ns_zret C w hr hlk rfl (Or.inl rfl) rfl dX1_readLine_38
set_option maxHeartbeats 4000000 in
set_option maxRecDepth 100000 in
theorem mX1_readLine_2 (l : Launch) (D : va_G) (b : Nat → Nat) (ids : List Nat) (hI : ∀ i, i < 107 → i ∈ ids) (N : Nat) (S : ns_S) (p1 : Int32) {o : Int32 × Int32 × Int32 × (Nat → Int32) × Int32 × (Nat → Int32) × (Nat → Int32) × (Nat → Int32) × (Nat → Int32) × (Nat → Int32) × (Nat → Int32) × Int32} (hf : fX1_readLine N (S.1 130) (S.1 132) (S.1 192) (S.2.1 5) (S.1 131) (S.2.1 11) (S.2.1 4) (S.2.1 6) (S.2.1 12) (S.2.1 13) (S.2.1 14) (S.2.1 8) (S.2.1 9) (S.2.1 10) (S.1 448) p1 = some o) : ns_M l yX1_readLine wsX1_readLine rmX1_readLine_2 D b ids S [.ref (b 2), .int p1] (some (.int o.1)) (ns_I (ns_I (ns_A (ns_I (ns_A (ns_A (ns_A (ns_A (ns_A (ns_A (ns_I S 448 o.2.2.2.2.2.2.2.2.2.2.2) 10 o.2.2.2.2.2.2.2.2.2.2.1) 9 o.2.2.2.2.2.2.2.2.2.1) 8 o.2.2.2.2.2.2.2.2.1) 14 o.2.2.2.2.2.2.2.1) 13 o.2.2.2.2.2.2.1) 12 o.2.2.2.2.2.1) 132 o.2.2.2.2.1) 11 o.2.2.2.1) 131 o.2.2.1) 130 o.2.1) := by
  refine ns_start (Wr := wrX1_readLine_2) (by decide) rfl (Nat.le_of_ble_eq_true rfl) ?_
  intro p e s m below meth c A ls C hr hlk w hl
  have hl : lv_has ls 2 [(0, .ref (b 2)), (1, .int p1)] := hl
  unfold fX1_readLine at hf
  refine lv_iload_n C.1.1 C.1.2.1 dX1_readLine_0 rfl (lv_at hl 1 rfl) ?_
  refine lv_bipush (v := 16) C.1.1 C.1.2.1 dX1_readLine_1 (by decide) ?_
  refine ns_icmp_ne C hf (tgt := 11) dX1_readLine_3 (by decide) (fun hf => ?_) (fun hf => ?_)
  · exact wX1_readLine_2_11 N hI C hr hlk w (lv_sub hl [0, 1] rfl) hf
  · refine lv_aload_n C.1.1 C.1.2.1 dX1_readLine_6 rfl (lv_at hl 0 rfl) ?_
    refine lv_iconst (v := 3) C.1.1 C.1.2.1 dX1_readLine_7 (by decide) ?_
    refine ns_callV C w 2 (hI 2 (by decide)) sh_2 (rfl : vwCl[1]? = some (RX1, TX1, 5)) [.int 3] hf (fun u hu => mX1_noteFault_2 l D b ids hI N _ 3 hu) gX1_readLine_X1_noteFault rfl rfl rfl hdX1_noteFault ⟨Nat.le_of_ble_eq_true rfl, Nat.le_of_ble_eq_true rfl⟩ (fun u h => ((h.I (List.mem_of_getElem? (i := 1) rfl) _).I (List.mem_of_getElem? (i := 0) rfl) _)) rfl hl.1 rfl (Nat.le_of_ble_eq_true rfl) ⟨Nat.le_refl _, Nat.le_refl _⟩ dX1_readLine_8 (fun o1 H locs hf w => ?_)
    exact wX1_readLine_2_11 N hI C hr hlk w (lv_sub hl [0, 1] rfl) hf
theorem lX1_readText_12 : Cond.fieldLink RX1 12 (TX1 0).1 (TX1 0).2.1 (TX1 0).2.2.1 ∈ wsX1_readText := List.mem_of_getElem? (i := 1) rfl
theorem lX1_readText_21 : Cond.fieldLink RX1 21 (TX1 1).1 (TX1 1).2.1 (TX1 1).2.2.1 ∈ wsX1_readText := List.mem_of_getElem? (i := 5) rfl
theorem lX1_readText_25 : Cond.fieldLink RX1 25 (TX1 2).1 (TX1 2).2.1 (TX1 2).2.2.1 ∈ wsX1_readText := List.mem_of_getElem? (i := 2) rfl
theorem lX1_readText_29 : Cond.fieldLink RX1 29 (TX1 3).1 (TX1 3).2.1 (TX1 3).2.2.1 ∈ wsX1_readText := List.mem_of_getElem? (i := 3) rfl
theorem lX1_readText_36 : Cond.fieldLink RX1 36 (TX1 4).1 (TX1 4).2.1 (TX1 4).2.2.1 ∈ wsX1_readText := List.mem_of_getElem? (i := 4) rfl
theorem lX1_readText_39 : Cond.fieldLink RX1 39 (TX2 0).1 (TX2 0).2.1 (TX2 0).2.2.1 ∈ wsX1_readText := List.mem_of_getElem? (i := 6) rfl
theorem inX1_readText_1 : ∀ w ∈ u_ws RX1 TX1 5, w ∈ wsX1_readText := fun _ h => List.mem_cons_of_mem _ (List.mem_append_left _ (List.mem_append_left _ (List.mem_append_right _ h)))
theorem inX1_readText_2 : ∀ w ∈ u_ws RX2 TX2 8, w ∈ wsX1_readText := fun _ h => List.mem_cons_of_mem _ (List.mem_append_left _ (List.mem_append_right _ h))
theorem hdX1_readText : yX1_readText.cls = RX1 ∧ yX1_readText.cls ≠ "java/lang/invoke/MethodHandle" ∧ yX1_readText.cls ≠ "java/lang/invoke/VarHandle" ∧ (parseMethodDescriptor yX1_readText.desc).map (fun d => d.parameters.length) = some 2 := by decide +kernel
abbrev wrX1_readText_2_1 : List (Nat × Nat) := [(0, 192), (1, 4), (1, 5), (1, 6), (0, 130), (0, 131), (0, 132), (0, 448), (1, 11), (1, 12), (1, 13), (1, 14), (1, 8), (1, 9), (1, 10)]
abbrev rmX1_readText_2_1 : Room := { frames := 8, cells := 0, slots := 0, locals := 193 }
set_option maxHeartbeats 4000000 in
set_option maxRecDepth 100000 in
theorem wX1_readText_2_1_86 {p : Program} {l : Launch} {e : Env} {s : State} {m : MethodId} {args : Array Value} {below : List Frame} {meth : Method} {c : Code} {D : va_G} {b : Nat → Nat} {ids : List Nat} {A : Nat → Prop} {S0 : ns_S} {o : Int32 × Int32 × (Nat → Int32) × (Nat → Int32) × (Nat → Int32) × Int32 × Int32 × Int32 × Int32 × (Nat → Int32) × (Nat → Int32) × (Nat → Int32) × (Nat → Int32) × (Nat → Int32) × (Nat → Int32) × (Nat → Int32)} (N : Nat) (hI : ∀ i, i < 107 → i ∈ ids) (C : ns_C p m c cX1_readText 5 s args wsX1_readText RX1 D A) (hr : meth.sig.returnType = some .boolean) (hlk : meth.locks = false) : ∀ {S : ns_S} {H : Heap} {locs : List Loc} {ls : Array Slot}, ns_W D b ids A s.heap wrX1_readText_2_1 S0 S H locs → lv_has ls 5 [(0, .ref (b 2))] → gX1_readText_86 N 500 (S.1 192) (S.2.1 4) (S.2.1 5) (S.2.1 6) (S.2.1 1) (S.1 130) (S.1 131) (S.1 132) (S.1 448) (S.2.1 11) (S.2.1 12) (S.2.1 13) (S.2.1 14) (S.2.1 8) (S.2.1 9) (S.2.1 10) = some o → W p l e rmX1_readText_2_1 s m args below meth c H locs 0 0 (MQ below (ns_Q D b ids (ns_I (ns_A (ns_A (ns_A (ns_I (ns_I (ns_I (ns_I (ns_A (ns_A (ns_A (ns_A (ns_A (ns_A (ns_A S0 10 o.2.2.2.2.2.2.2.2.2.2.2.2.2.2.2) 9 o.2.2.2.2.2.2.2.2.2.2.2.2.2.2.1) 8 o.2.2.2.2.2.2.2.2.2.2.2.2.2.1) 14 o.2.2.2.2.2.2.2.2.2.2.2.2.1) 13 o.2.2.2.2.2.2.2.2.2.2.2.1) 12 o.2.2.2.2.2.2.2.2.2.2.1) 11 o.2.2.2.2.2.2.2.2.2.1) 448 o.2.2.2.2.2.2.2.2.1) 132 o.2.2.2.2.2.2.2.1) 131 o.2.2.2.2.2.2.1) 130 o.2.2.2.2.2.1) 6 o.2.2.2.2.1) 5 o.2.2.2.1) 4 o.2.2.1) 192 o.2.1) (some (.int o.1)) A) args s 0 0 A) (F0 m 86 ls []) := by
  intro S H locs ls w hl hf
  unfold gX1_readText_86 at hf
  refine lv_aload_n C.1.1 C.1.2.1 dX1_readText_86 rfl (lv_at hl 0 rfl) ?_
  refine ns_geti C w 2 (hI 2 (by decide)) sh_2 (rfl : vwCl[1]? = some (RX1, TX1, 5)) inX1_readText_1 2 (by decide) rfl lX1_readText_25 (S.1 130) rfl dX1_readText_87 ?_
  refine ns_if_ne C hf (tgt := 97) dX1_readText_90 (by decide) (fun hf => ?_) (fun hf => ?_)
  · refine lv_iconst (v := 0) C.1.1 C.1.2.1 dX1_readText_97 (by decide) ?_
    have he := Option.some.inj hf
    subst he
    exact ns_zret C w hr hlk rfl (Or.inl rfl) rfl dX1_readText_98
  · refine lv_iconst (v := 1) C.1.1 C.1.2.1 dX1_readText_93 (by decide) ?_
    refine lv_goto (tgt := 98) C.1.1 C.1.2.1 dX1_readText_94 (by decide) ?_
    have he := Option.some.inj hf
    subst he
    exact ns_zret C w hr hlk rfl (Or.inr rfl) rfl dX1_readText_98
set_option maxHeartbeats 4000000 in
set_option maxRecDepth 100000 in
theorem wX1_readText_2_1_69 {p : Program} {l : Launch} {e : Env} {s : State} {m : MethodId} {args : Array Value} {below : List Frame} {meth : Method} {c : Code} {D : va_G} {b : Nat → Nat} {ids : List Nat} {A : Nat → Prop} {S0 : ns_S} {o : Int32 × Int32 × (Nat → Int32) × (Nat → Int32) × (Nat → Int32) × Int32 × Int32 × Int32 × Int32 × (Nat → Int32) × (Nat → Int32) × (Nat → Int32) × (Nat → Int32) × (Nat → Int32) × (Nat → Int32) × (Nat → Int32)} (N : Nat) (hI : ∀ i, i < 107 → i ∈ ids) (C : ns_C p m c cX1_readText 5 s args wsX1_readText RX1 D A) (hr : meth.sig.returnType = some .boolean) (hlk : meth.locks = false) : ∀ {S : ns_S} {H : Heap} {locs : List Loc} {ls : Array Slot} {l3 : Int32}, ns_W D b ids A s.heap wrX1_readText_2_1 S0 S H locs → lv_has ls 5 [(0, .ref (b 2)), (3, .int l3)] → gX1_readText_69 N 500 (S.1 192) (S.2.1 4) (S.2.1 5) (S.2.1 6) (S.2.1 1) (S.1 130) (S.1 131) (S.1 132) (S.1 448) (S.2.1 11) (S.2.1 12) (S.2.1 13) (S.2.1 14) (S.2.1 8) (S.2.1 9) (S.2.1 10) l3 = some o → W p l e rmX1_readText_2_1 s m args below meth c H locs 0 0 (MQ below (ns_Q D b ids (ns_I (ns_A (ns_A (ns_A (ns_I (ns_I (ns_I (ns_I (ns_A (ns_A (ns_A (ns_A (ns_A (ns_A (ns_A S0 10 o.2.2.2.2.2.2.2.2.2.2.2.2.2.2.2) 9 o.2.2.2.2.2.2.2.2.2.2.2.2.2.2.1) 8 o.2.2.2.2.2.2.2.2.2.2.2.2.2.1) 14 o.2.2.2.2.2.2.2.2.2.2.2.2.1) 13 o.2.2.2.2.2.2.2.2.2.2.2.1) 12 o.2.2.2.2.2.2.2.2.2.2.1) 11 o.2.2.2.2.2.2.2.2.2.1) 448 o.2.2.2.2.2.2.2.2.1) 132 o.2.2.2.2.2.2.2.1) 131 o.2.2.2.2.2.2.1) 130 o.2.2.2.2.2.1) 6 o.2.2.2.2.1) 5 o.2.2.2.1) 4 o.2.2.1) 192 o.2.1) (some (.int o.1)) A) args s 0 0 A) (F0 m 69 ls []) := by
  intro S H locs ls l3 w hl hf
  unfold gX1_readText_69 at hf
  refine lv_iload_n C.1.1 C.1.2.1 dX1_readText_69 rfl (lv_at hl 1 rfl) ?_
  refine ns_if_ne C hf (tgt := 86) dX1_readText_70 (by decide) (fun hf => ?_) (fun hf => ?_)
  · exact wX1_readText_2_1_86 N hI C hr hlk w (lv_sub hl [0] rfl) hf
  · refine lv_aload_n C.1.1 C.1.2.1 dX1_readText_73 rfl (lv_at hl 0 rfl) ?_
    refine lv_iconst (v := 1) C.1.1 C.1.2.1 dX1_readText_74 (by decide) ?_
    refine ns_puti C w 2 (hI 2 (by decide)) sh_2 (rfl : vwCl[1]? = some (RX1, TX1, 5)) inX1_readText_1 tyX1_ok nmX1 2 (by decide) rfl lX1_readText_25 rfl rfl rfl (List.mem_of_getElem? (i := 4) rfl) dX1_readText_75 (fun H locs w => ?_)
    refine lv_aload_n C.1.1 C.1.2.1 dX1_readText_78 rfl (lv_at hl 0 rfl) ?_
    refine lv_aload_n C.1.1 C.1.2.1 dX1_readText_79 rfl (lv_at hl 0 rfl) ?_
    refine ns_callV C w 2 (hI 2 (by decide)) sh_2 (rfl : vwCl[1]? = some (RX1, TX1, 5)) [] hf (fun u hu => mX1_placeHere_2 l D b ids hI N _ hu) gX1_readText_X1_placeHere rfl rfl rfl hdX1_placeHere ⟨Nat.le_of_ble_eq_true rfl, Nat.le_of_ble_eq_true rfl⟩ (fun u h => h) rfl hl.1 rfl (Nat.le_of_ble_eq_true rfl) ⟨Nat.le_refl _, Nat.le_refl _⟩ dX1_readText_80 (fun o1 H locs hf w => ?_)
    refine ns_puti C w 2 (hI 2 (by decide)) sh_2 (rfl : vwCl[1]? = some (RX1, TX1, 5)) inX1_readText_1 tyX1_ok nmX1 3 (by decide) rfl lX1_readText_29 rfl rfl rfl (List.mem_of_getElem? (i := 5) rfl) dX1_readText_83 (fun H locs w => ?_)
    exact wX1_readText_2_1_86 N hI C hr hlk w (lv_sub hl [0] rfl) hf
set_option maxHeartbeats 4000000 in
set_option maxRecDepth 100000 in
theorem wX1_readText_2_1_37 {p : Program} {l : Launch} {e : Env} {s : State} {m : MethodId} {args : Array Value} {below : List Frame} {meth : Method} {c : Code} {D : va_G} {b : Nat → Nat} {ids : List Nat} {A : Nat → Prop} {S0 : ns_S} {o : Int32 × Int32 × (Nat → Int32) × (Nat → Int32) × (Nat → Int32) × Int32 × Int32 × Int32 × Int32 × (Nat → Int32) × (Nat → Int32) × (Nat → Int32) × (Nat → Int32) × (Nat → Int32) × (Nat → Int32) × (Nat → Int32)} (N : Nat) (hI : ∀ i, i < 107 → i ∈ ids) (C : ns_C p m c cX1_readText 5 s args wsX1_readText RX1 D A) (hr : meth.sig.returnType = some .boolean) (hlk : meth.locks = false) : ∀ n : Nat, ∀ {S : ns_S} {H : Heap} {locs : List Loc} {ls : Array Slot} {l3 : Int32} {l4 : Int32}, ns_W D b ids A s.heap wrX1_readText_2_1 S0 S H locs → lv_has ls 5 [(0, .ref (b 2)), (3, .int l3), (4, .int l4)] → fX1_readText_37 N 500 n (S.1 192) (S.2.1 4) (S.2.1 5) (S.2.1 6) (S.2.1 1) (S.1 130) (S.1 131) (S.1 132) (S.1 448) (S.2.1 11) (S.2.1 12) (S.2.1 13) (S.2.1 14) (S.2.1 8) (S.2.1 9) (S.2.1 10) l3 l4 = some o → W p l e rmX1_readText_2_1 s m args below meth c H locs 0 0 (MQ below (ns_Q D b ids (ns_I (ns_A (ns_A (ns_A (ns_I (ns_I (ns_I (ns_I (ns_A (ns_A (ns_A (ns_A (ns_A (ns_A (ns_A S0 10 o.2.2.2.2.2.2.2.2.2.2.2.2.2.2.2) 9 o.2.2.2.2.2.2.2.2.2.2.2.2.2.2.1) 8 o.2.2.2.2.2.2.2.2.2.2.2.2.2.1) 14 o.2.2.2.2.2.2.2.2.2.2.2.2.1) 13 o.2.2.2.2.2.2.2.2.2.2.2.1) 12 o.2.2.2.2.2.2.2.2.2.2.1) 11 o.2.2.2.2.2.2.2.2.2.1) 448 o.2.2.2.2.2.2.2.2.1) 132 o.2.2.2.2.2.2.2.1) 131 o.2.2.2.2.2.2.1) 130 o.2.2.2.2.2.1) 6 o.2.2.2.2.1) 5 o.2.2.2.1) 4 o.2.2.1) 192 o.2.1) (some (.int o.1)) A) args s 0 0 A) (F0 m 37 ls []) := by
  intro n
  induction n with
  | zero =>
    intro S H locs ls l3 l4 w hl hf
    cases hf
  | succ n K37 =>
    intro S H locs ls l3 l4 w hl hf
    change gX1_readText_37 N 500 (fX1_readText_37 N 500 n) (S.1 192) (S.2.1 4) (S.2.1 5) (S.2.1 6) (S.2.1 1) (S.1 130) (S.1 131) (S.1 132) (S.1 448) (S.2.1 11) (S.2.1 12) (S.2.1 13) (S.2.1 14) (S.2.1 8) (S.2.1 9) (S.2.1 10) l3 l4 = some o at hf
    generalize fX1_readText_37 N 500 n = r37 at hf K37
    unfold gX1_readText_37 at hf
    refine lv_iload_n C.1.1 C.1.2.1 dX1_readText_37 rfl (lv_at hl 1 rfl) ?_
    refine ns_if_eq C hf (tgt := 69) dX1_readText_38 (by decide) (fun hf => ?_) (fun hf => ?_)
    · exact wX1_readText_2_1_69 N hI C hr hlk w (lv_sub hl [0, 1] rfl) hf
    · refine lv_iload C.1.1 C.1.2.1 dX1_readText_41 (lv_at hl 2 rfl) ?_
      refine lv_sipush (v := 500) C.1.1 C.1.2.1 dX1_readText_43 (by decide) ?_
      refine ns_icmp_ge C hf (tgt := 69) dX1_readText_46 (by decide) (fun hf => ?_) (fun hf => ?_)
      · exact wX1_readText_2_1_69 N hI C hr hlk w (lv_sub hl [0, 1] rfl) hf
      · refine lv_aload_n C.1.1 C.1.2.1 dX1_readText_49 rfl (lv_at hl 0 rfl) ?_
        refine ns_callV C w 2 (hI 2 (by decide)) sh_2 (rfl : vwCl[1]? = some (RX1, TX1, 5)) [] hf (fun u hu => mX1_kindHere_2 l D b ids hI N _ hu) gX1_readText_X1_kindHere rfl rfl rfl hdX1_kindHere ⟨Nat.le_of_ble_eq_true rfl, Nat.le_of_ble_eq_true rfl⟩ (fun u h => h) rfl hl.1 rfl (Nat.le_of_ble_eq_true rfl) ⟨Nat.le_refl _, Nat.le_refl _⟩ dX1_readText_50 (fun o1 H locs hf w => ?_)
        refine ns_if_eq C hf (tgt := 69) dX1_readText_53 (by decide) (fun hf => ?_) (fun hf => ?_)
        · exact wX1_readText_2_1_69 N hI C hr hlk w (lv_sub hl [0, 1] rfl) hf
        · refine lv_aload_n C.1.1 C.1.2.1 dX1_readText_56 rfl (lv_at hl 0 rfl) ?_
          refine lv_iload C.1.1 C.1.2.1 dX1_readText_57 (lv_at hl 2 rfl) ?_
          refine ns_callV C w 2 (hI 2 (by decide)) sh_2 (rfl : vwCl[1]? = some (RX1, TX1, 5)) [.int l4] hf (fun u hu => mX1_readLine_2 l D b ids hI N _ l4 hu) gX1_readText_X1_readLine rfl rfl rfl hdX1_readLine ⟨Nat.le_of_ble_eq_true rfl, Nat.le_of_ble_eq_true rfl⟩ (fun u h => (((((((((((h.I (List.mem_of_getElem? (i := 7) rfl) _).A (List.mem_of_getElem? (i := 14) rfl) _).A (List.mem_of_getElem? (i := 13) rfl) _).A (List.mem_of_getElem? (i := 12) rfl) _).A (List.mem_of_getElem? (i := 11) rfl) _).A (List.mem_of_getElem? (i := 10) rfl) _).A (List.mem_of_getElem? (i := 9) rfl) _).I (List.mem_of_getElem? (i := 6) rfl) _).A (List.mem_of_getElem? (i := 8) rfl) _).I (List.mem_of_getElem? (i := 5) rfl) _).I (List.mem_of_getElem? (i := 4) rfl) _)) rfl hl.1 rfl (Nat.le_of_ble_eq_true rfl) ⟨Nat.le_refl _, Nat.le_refl _⟩ dX1_readText_59 (fun o2 H locs hf w => ?_)
          refine lv_istore_n (lv' := [(3, .int o2.1), (0, .ref (b 2)), (4, .int l4)]) C.1.1 C.1.2.1 dX1_readText_62 rfl hl (by decide) rfl (fun ls hl => ?_)
          refine ns_iinc (lv' := fun x3 => [(4, .int x3), (3, .int o2.1), (0, .ref (b 2))]) C hf dX1_readText_63 hl (k := 2) rfl rfl (by decide) (fun _ => rfl) (fun x3 ls hl hf => ?_)
          refine lv_goto (tgt := 37) C.1.1 C.1.2.1 dX1_readText_66 (by decide) ?_
          exact K37 w (lv_sub hl [2, 1, 0] rfl) hf
set_option maxHeartbeats 4000000 in
set_option maxRecDepth 100000 in
theorem mX1_readText_2_1 (l : Launch) (D : va_G) (b : Nat → Nat) (ids : List Nat) (hI : ∀ i, i < 107 → i ∈ ids) (N : Nat) (S : ns_S) (p2 : Int32) {o : Int32 × Int32 × (Nat → Int32) × (Nat → Int32) × (Nat → Int32) × Int32 × Int32 × Int32 × Int32 × (Nat → Int32) × (Nat → Int32) × (Nat → Int32) × (Nat → Int32) × (Nat → Int32) × (Nat → Int32) × (Nat → Int32)} (hf : fX1_readText N 500 (S.1 192) (S.2.1 4) (S.2.1 5) (S.2.1 6) (S.2.1 1) (S.1 130) (S.1 131) (S.1 132) (S.1 448) (S.2.1 11) (S.2.1 12) (S.2.1 13) (S.2.1 14) (S.2.1 8) (S.2.1 9) (S.2.1 10) p2 = some o) : ns_M l yX1_readText wsX1_readText rmX1_readText_2_1 D b ids S [.ref (b 2), .ref (b 1), .int p2] (some (.int o.1)) (ns_I (ns_A (ns_A (ns_A (ns_I (ns_I (ns_I (ns_I (ns_A (ns_A (ns_A (ns_A (ns_A (ns_A (ns_A S 10 o.2.2.2.2.2.2.2.2.2.2.2.2.2.2.2) 9 o.2.2.2.2.2.2.2.2.2.2.2.2.2.2.1) 8 o.2.2.2.2.2.2.2.2.2.2.2.2.2.1) 14 o.2.2.2.2.2.2.2.2.2.2.2.2.1) 13 o.2.2.2.2.2.2.2.2.2.2.2.1) 12 o.2.2.2.2.2.2.2.2.2.2.1) 11 o.2.2.2.2.2.2.2.2.2.1) 448 o.2.2.2.2.2.2.2.2.1) 132 o.2.2.2.2.2.2.2.1) 131 o.2.2.2.2.2.2.1) 130 o.2.2.2.2.2.1) 6 o.2.2.2.2.1) 5 o.2.2.2.1) 4 o.2.2.1) 192 o.2.1) := by
  refine ns_start (Wr := wrX1_readText_2_1) (by decide) rfl (Nat.le_of_ble_eq_true rfl) ?_
  intro p e s m below meth c A ls C hr hlk w hl
  have hl : lv_has ls 5 [(0, .ref (b 2)), (1, .ref (b 1)), (2, .int p2)] := hl
  unfold fX1_readText at hf
  refine lv_aload_n C.1.1 C.1.2.1 dX1_readText_0 rfl (lv_at hl 0 rfl) ?_
  refine ns_getr C w 2 (hI 2 (by decide)) sh_2 (rfl : vwCl[1]? = some (RX1, TX1, 5)) inX1_readText_1 0 (by decide) rfl lX1_readText_12 dX1_readText_1 ?_
  refine lv_aload_n C.1.1 C.1.2.1 dX1_readText_4 rfl (lv_at hl 1 rfl) ?_
  refine lv_iload_n C.1.1 C.1.2.1 dX1_readText_5 rfl (lv_at hl 2 rfl) ?_
  refine ns_callV C w 3 (hI 3 (by decide)) sh_3 (rfl : vwCl[9]? = some (RX9, TX9, 4)) [.ref (b 1), .int p2] hf (fun u hu => mX9_scan_3_1 l D b ids hI N _ p2 hu) gX1_readText_X9_scan rfl rfl rfl hdX9_scan ⟨Nat.le_of_ble_eq_true rfl, Nat.le_of_ble_eq_true rfl⟩ (fun u h => ((((h.A (List.mem_of_getElem? (i := 3) rfl) _).A (List.mem_of_getElem? (i := 2) rfl) _).A (List.mem_of_getElem? (i := 1) rfl) _).I (List.mem_of_getElem? (i := 0) rfl) _)) rfl hl.1 rfl (Nat.le_of_ble_eq_true rfl) ⟨Nat.le_refl _, Nat.le_refl _⟩ dX1_readText_6 (fun o1 H locs hf w => ?_)
  refine lv_aload_n C.1.1 C.1.2.1 dX1_readText_9 rfl (lv_at hl 0 rfl) ?_
  refine lv_iconst (v := 0) C.1.1 C.1.2.1 dX1_readText_10 (by decide) ?_
  refine ns_puti C w 2 (hI 2 (by decide)) sh_2 (rfl : vwCl[1]? = some (RX1, TX1, 5)) inX1_readText_1 tyX1_ok nmX1 2 (by decide) rfl lX1_readText_25 rfl rfl rfl (List.mem_of_getElem? (i := 4) rfl) dX1_readText_11 (fun H locs w => ?_)
  refine lv_aload_n C.1.1 C.1.2.1 dX1_readText_14 rfl (lv_at hl 0 rfl) ?_
  refine lv_iconst (v := (-1)) C.1.1 C.1.2.1 dX1_readText_15 (by decide) ?_
  refine ns_puti C w 2 (hI 2 (by decide)) sh_2 (rfl : vwCl[1]? = some (RX1, TX1, 5)) inX1_readText_1 tyX1_ok nmX1 3 (by decide) rfl lX1_readText_29 rfl rfl rfl (List.mem_of_getElem? (i := 5) rfl) dX1_readText_16 (fun H locs w => ?_)
  refine lv_aload_n C.1.1 C.1.2.1 dX1_readText_19 rfl (lv_at hl 0 rfl) ?_
  refine lv_iconst (v := 0) C.1.1 C.1.2.1 dX1_readText_20 (by decide) ?_
  refine ns_puti C w 2 (hI 2 (by decide)) sh_2 (rfl : vwCl[1]? = some (RX1, TX1, 5)) inX1_readText_1 tyX1_ok nmX1 4 (by decide) rfl lX1_readText_36 rfl rfl rfl (List.mem_of_getElem? (i := 6) rfl) dX1_readText_21 (fun H locs w => ?_)
  refine lv_aload_n C.1.1 C.1.2.1 dX1_readText_24 rfl (lv_at hl 0 rfl) ?_
  refine ns_getr C w 2 (hI 2 (by decide)) sh_2 (rfl : vwCl[1]? = some (RX1, TX1, 5)) inX1_readText_1 1 (by decide) rfl lX1_readText_21 dX1_readText_25 ?_
  refine lv_iconst (v := 0) C.1.1 C.1.2.1 dX1_readText_28 (by decide) ?_
  refine ns_puti C w 7 (hI 7 (by decide)) sh_7 (rfl : vwCl[2]? = some (RX2, TX2, 8)) inX1_readText_2 tyX2_ok nmX2 0 (by decide) rfl lX1_readText_39 rfl rfl rfl (List.mem_of_getElem? (i := 7) rfl) dX1_readText_29 (fun H locs w => ?_)
  refine lv_iconst (v := 1) C.1.1 C.1.2.1 dX1_readText_32 (by decide) ?_
  refine lv_istore_n (lv' := [(3, .int 1), (0, .ref (b 2)), (1, .ref (b 1)), (2, .int p2)]) C.1.1 C.1.2.1 dX1_readText_33 rfl hl (by decide) rfl (fun ls hl => ?_)
  refine lv_iconst (v := 0) C.1.1 C.1.2.1 dX1_readText_34 (by decide) ?_
  refine lv_istore (lv' := [(4, .int 0), (3, .int 1), (0, .ref (b 2)), (1, .ref (b 1)), (2, .int p2)]) C.1.1 C.1.2.1 dX1_readText_35 hl (by decide) rfl (fun ls hl => ?_)
  exact wX1_readText_2_1_37 N hI C hr hlk N w (lv_sub hl [2, 1, 0] rfl) hf
theorem lX2_copyFrom_9 : Cond.fieldLink RX2 9 (TX2 1).1 (TX2 1).2.1 (TX2 1).2.2.1 ∈ wsX2_copyFrom := List.mem_of_getElem? (i := 2) rfl
theorem lX2_copyFrom_15 : Cond.fieldLink RX2 15 (TX2 2).1 (TX2 2).2.1 (TX2 2).2.2.1 ∈ wsX2_copyFrom := List.mem_of_getElem? (i := 7) rfl
theorem lX2_copyFrom_18 : Cond.fieldLink RX2 18 (TX2 3).1 (TX2 3).2.1 (TX2 3).2.2.1 ∈ wsX2_copyFrom := List.mem_of_getElem? (i := 8) rfl
theorem lX2_copyFrom_21 : Cond.fieldLink RX2 21 (TX2 4).1 (TX2 4).2.1 (TX2 4).2.2.1 ∈ wsX2_copyFrom := List.mem_of_getElem? (i := 9) rfl
theorem lX2_copyFrom_24 : Cond.fieldLink RX2 24 (TX2 5).1 (TX2 5).2.1 (TX2 5).2.2.1 ∈ wsX2_copyFrom := List.mem_of_getElem? (i := 10) rfl
theorem lX2_copyFrom_27 : Cond.fieldLink RX2 27 (TX2 6).1 (TX2 6).2.1 (TX2 6).2.2.1 ∈ wsX2_copyFrom := List.mem_of_getElem? (i := 11) rfl
theorem lX2_copyFrom_30 : Cond.fieldLink RX2 30 (TX2 7).1 (TX2 7).2.1 (TX2 7).2.2.1 ∈ wsX2_copyFrom := List.mem_of_getElem? (i := 12) rfl
theorem lX2_copyFrom_33 : Cond.fieldLink RX2 33 (TX2 0).1 (TX2 0).2.1 (TX2 0).2.2.1 ∈ wsX2_copyFrom := List.mem_of_getElem? (i := 1) rfl
theorem inX2_copyFrom_2 : ∀ w ∈ u_ws RX2 TX2 8, w ∈ wsX2_copyFrom := fun _ h => List.mem_cons_of_mem _ (List.mem_append_right _ h)
theorem hdX2_copyFrom : yX2_copyFrom.cls = RX2 ∧ yX2_copyFrom.cls ≠ "java/lang/invoke/MethodHandle" ∧ yX2_copyFrom.cls ≠ "java/lang/invoke/VarHandle" ∧ (parseMethodDescriptor yX2_copyFrom.desc).map (fun d => d.parameters.length) = some 1 := by decide +kernel
abbrev wrX2_copyFrom_53_7 : List (Nat × Nat) := [(0, 3392), (1, 54), (1, 55), (1, 56), (1, 57), (1, 58), (1, 59), (1, 60)]
abbrev rmX2_copyFrom_53_7 : Room := { frames := 1, cells := 0, slots := 0, locals := 40 }
set_option maxHeartbeats 4000000 in
set_option maxRecDepth 100000 in
theorem mX2_copyFrom_53_7 (l : Launch) (D : va_G) (b : Nat → Nat) (ids : List Nat) (hI : ∀ i, i < 107 → i ∈ ids) (N : Nat) (S : ns_S) {o : Int32 × (Nat → Int32) × (Nat → Int32) × (Nat → Int32) × (Nat → Int32) × (Nat → Int32) × (Nat → Int32) × (Nat → Int32)} (hf : fX2_copyFrom N (S.1 448) (S.1 3392) (S.2.1 8) (S.2.1 54) (S.2.1 9) (S.2.1 55) (S.2.1 10) (S.2.1 56) (S.2.1 11) (S.2.1 57) (S.2.1 12) (S.2.1 58) (S.2.1 13) (S.2.1 59) (S.2.1 14) (S.2.1 60) = some o) : ns_M l yX2_copyFrom wsX2_copyFrom rmX2_copyFrom_53_7 D b ids S [.ref (b 53), .ref (b 7)] none (ns_I (ns_A (ns_A (ns_A (ns_A (ns_A (ns_A (ns_A S 60 o.2.2.2.2.2.2.2) 59 o.2.2.2.2.2.2.1) 58 o.2.2.2.2.2.1) 57 o.2.2.2.2.1) 56 o.2.2.2.1) 55 o.2.2.1) 54 o.2.1) 3392 o.1) := by
  refine ns_start (Wr := wrX2_copyFrom_53_7) (by decide) rfl (Nat.le_of_ble_eq_true rfl) ?_
  intro p e s m below meth c A ls C hr hlk w hl
  have hl : lv_has ls 2 [(0, .ref (b 53)), (1, .ref (b 7))] := hl
  unfold fX2_copyFrom at hf
  refine lv_aload_n C.1.1 C.1.2.1 dX2_copyFrom_0 rfl (lv_at hl 0 rfl) ?_
  refine lv_aload_n C.1.1 C.1.2.1 dX2_copyFrom_1 rfl (lv_at hl 1 rfl) ?_
  refine ns_geti C w 7 (hI 7 (by decide)) sh_7 (rfl : vwCl[2]? = some (RX2, TX2, 8)) inX2_copyFrom_2 0 (by decide) rfl lX2_copyFrom_33 (S.1 448) rfl dX2_copyFrom_2 ?_
  refine ns_puti C w 53 (hI 53 (by decide)) sh_53 (rfl : vwCl[2]? = some (RX2, TX2, 8)) inX2_copyFrom_2 tyX2_ok nmX2 0 (by decide) rfl lX2_copyFrom_33 rfl rfl rfl (List.mem_of_getElem? (i := 0) rfl) dX2_copyFrom_5 (fun H locs w => ?_)
  refine lv_aload_n C.1.1 C.1.2.1 dX2_copyFrom_8 rfl (lv_at hl 1 rfl) ?_
  refine ns_getr C w 7 (hI 7 (by decide)) sh_7 (rfl : vwCl[2]? = some (RX2, TX2, 8)) inX2_copyFrom_2 1 (by decide) rfl lX2_copyFrom_9 dX2_copyFrom_9 ?_
  refine lv_iconst (v := 0) C.1.1 C.1.2.1 dX2_copyFrom_12 (by decide) ?_
  refine lv_aload_n C.1.1 C.1.2.1 dX2_copyFrom_13 rfl (lv_at hl 0 rfl) ?_
  refine ns_getr C w 53 (hI 53 (by decide)) sh_53 (rfl : vwCl[2]? = some (RX2, TX2, 8)) inX2_copyFrom_2 1 (by decide) rfl lX2_copyFrom_9 dX2_copyFrom_14 ?_
  refine lv_iconst (v := 0) C.1.1 C.1.2.1 dX2_copyFrom_17 (by decide) ?_
  refine lv_bipush (v := 16) C.1.1 C.1.2.1 dX2_copyFrom_18 (by decide) ?_
  refine ns_copy C w 8 54 (hI 8 (by decide)) (hI 54 (by decide)) sh_8 sh_54 hf rfl rfl (List.mem_of_getElem? (i := 1) rfl) (List.mem_of_getElem? (i := 3) rfl) (List.mem_of_getElem? (i := 4) rfl) (List.mem_of_getElem? (i := 5) rfl) (List.mem_of_getElem? (i := 6) rfl) hl.1 (Nat.le_of_ble_eq_true rfl) (Nat.le_of_ble_eq_true rfl) dX2_copyFrom_20 (fun y1 H locs hf w => ?_)
  refine lv_aload_n C.1.1 C.1.2.1 dX2_copyFrom_23 rfl (lv_at hl 1 rfl) ?_
  refine ns_getr C w 7 (hI 7 (by decide)) sh_7 (rfl : vwCl[2]? = some (RX2, TX2, 8)) inX2_copyFrom_2 2 (by decide) rfl lX2_copyFrom_15 dX2_copyFrom_24 ?_
  refine lv_iconst (v := 0) C.1.1 C.1.2.1 dX2_copyFrom_27 (by decide) ?_
  refine lv_aload_n C.1.1 C.1.2.1 dX2_copyFrom_28 rfl (lv_at hl 0 rfl) ?_
  refine ns_getr C w 53 (hI 53 (by decide)) sh_53 (rfl : vwCl[2]? = some (RX2, TX2, 8)) inX2_copyFrom_2 2 (by decide) rfl lX2_copyFrom_15 dX2_copyFrom_29 ?_
  refine lv_iconst (v := 0) C.1.1 C.1.2.1 dX2_copyFrom_32 (by decide) ?_
  refine lv_bipush (v := 16) C.1.1 C.1.2.1 dX2_copyFrom_33 (by decide) ?_
  refine ns_copy C w 9 55 (hI 9 (by decide)) (hI 55 (by decide)) sh_9 sh_55 hf rfl rfl (List.mem_of_getElem? (i := 2) rfl) (List.mem_of_getElem? (i := 3) rfl) (List.mem_of_getElem? (i := 4) rfl) (List.mem_of_getElem? (i := 5) rfl) (List.mem_of_getElem? (i := 6) rfl) hl.1 (Nat.le_of_ble_eq_true rfl) (Nat.le_of_ble_eq_true rfl) dX2_copyFrom_35 (fun y2 H locs hf w => ?_)
  refine lv_aload_n C.1.1 C.1.2.1 dX2_copyFrom_38 rfl (lv_at hl 1 rfl) ?_
  refine ns_getr C w 7 (hI 7 (by decide)) sh_7 (rfl : vwCl[2]? = some (RX2, TX2, 8)) inX2_copyFrom_2 3 (by decide) rfl lX2_copyFrom_18 dX2_copyFrom_39 ?_
  refine lv_iconst (v := 0) C.1.1 C.1.2.1 dX2_copyFrom_42 (by decide) ?_
  refine lv_aload_n C.1.1 C.1.2.1 dX2_copyFrom_43 rfl (lv_at hl 0 rfl) ?_
  refine ns_getr C w 53 (hI 53 (by decide)) sh_53 (rfl : vwCl[2]? = some (RX2, TX2, 8)) inX2_copyFrom_2 3 (by decide) rfl lX2_copyFrom_18 dX2_copyFrom_44 ?_
  refine lv_iconst (v := 0) C.1.1 C.1.2.1 dX2_copyFrom_47 (by decide) ?_
  refine lv_bipush (v := 16) C.1.1 C.1.2.1 dX2_copyFrom_48 (by decide) ?_
  refine ns_copy C w 10 56 (hI 10 (by decide)) (hI 56 (by decide)) sh_10 sh_56 hf rfl rfl (List.mem_of_getElem? (i := 3) rfl) (List.mem_of_getElem? (i := 3) rfl) (List.mem_of_getElem? (i := 4) rfl) (List.mem_of_getElem? (i := 5) rfl) (List.mem_of_getElem? (i := 6) rfl) hl.1 (Nat.le_of_ble_eq_true rfl) (Nat.le_of_ble_eq_true rfl) dX2_copyFrom_50 (fun y3 H locs hf w => ?_)
  refine lv_aload_n C.1.1 C.1.2.1 dX2_copyFrom_53 rfl (lv_at hl 1 rfl) ?_
  refine ns_getr C w 7 (hI 7 (by decide)) sh_7 (rfl : vwCl[2]? = some (RX2, TX2, 8)) inX2_copyFrom_2 4 (by decide) rfl lX2_copyFrom_21 dX2_copyFrom_54 ?_
  refine lv_iconst (v := 0) C.1.1 C.1.2.1 dX2_copyFrom_57 (by decide) ?_
  refine lv_aload_n C.1.1 C.1.2.1 dX2_copyFrom_58 rfl (lv_at hl 0 rfl) ?_
  refine ns_getr C w 53 (hI 53 (by decide)) sh_53 (rfl : vwCl[2]? = some (RX2, TX2, 8)) inX2_copyFrom_2 4 (by decide) rfl lX2_copyFrom_21 dX2_copyFrom_59 ?_
  refine lv_iconst (v := 0) C.1.1 C.1.2.1 dX2_copyFrom_62 (by decide) ?_
  refine lv_bipush (v := 16) C.1.1 C.1.2.1 dX2_copyFrom_63 (by decide) ?_
  refine ns_copy C w 11 57 (hI 11 (by decide)) (hI 57 (by decide)) sh_11 sh_57 hf rfl rfl (List.mem_of_getElem? (i := 4) rfl) (List.mem_of_getElem? (i := 3) rfl) (List.mem_of_getElem? (i := 4) rfl) (List.mem_of_getElem? (i := 5) rfl) (List.mem_of_getElem? (i := 6) rfl) hl.1 (Nat.le_of_ble_eq_true rfl) (Nat.le_of_ble_eq_true rfl) dX2_copyFrom_65 (fun y4 H locs hf w => ?_)
  refine lv_aload_n C.1.1 C.1.2.1 dX2_copyFrom_68 rfl (lv_at hl 1 rfl) ?_
  refine ns_getr C w 7 (hI 7 (by decide)) sh_7 (rfl : vwCl[2]? = some (RX2, TX2, 8)) inX2_copyFrom_2 5 (by decide) rfl lX2_copyFrom_24 dX2_copyFrom_69 ?_
  refine lv_iconst (v := 0) C.1.1 C.1.2.1 dX2_copyFrom_72 (by decide) ?_
  refine lv_aload_n C.1.1 C.1.2.1 dX2_copyFrom_73 rfl (lv_at hl 0 rfl) ?_
  refine ns_getr C w 53 (hI 53 (by decide)) sh_53 (rfl : vwCl[2]? = some (RX2, TX2, 8)) inX2_copyFrom_2 5 (by decide) rfl lX2_copyFrom_24 dX2_copyFrom_74 ?_
  refine lv_iconst (v := 0) C.1.1 C.1.2.1 dX2_copyFrom_77 (by decide) ?_
  refine lv_bipush (v := 64) C.1.1 C.1.2.1 dX2_copyFrom_78 (by decide) ?_
  refine ns_copy C w 12 58 (hI 12 (by decide)) (hI 58 (by decide)) sh_12 sh_58 hf rfl rfl (List.mem_of_getElem? (i := 5) rfl) (List.mem_of_getElem? (i := 3) rfl) (List.mem_of_getElem? (i := 4) rfl) (List.mem_of_getElem? (i := 5) rfl) (List.mem_of_getElem? (i := 6) rfl) hl.1 (Nat.le_of_ble_eq_true rfl) (Nat.le_of_ble_eq_true rfl) dX2_copyFrom_80 (fun y5 H locs hf w => ?_)
  refine lv_aload_n C.1.1 C.1.2.1 dX2_copyFrom_83 rfl (lv_at hl 1 rfl) ?_
  refine ns_getr C w 7 (hI 7 (by decide)) sh_7 (rfl : vwCl[2]? = some (RX2, TX2, 8)) inX2_copyFrom_2 6 (by decide) rfl lX2_copyFrom_27 dX2_copyFrom_84 ?_
  refine lv_iconst (v := 0) C.1.1 C.1.2.1 dX2_copyFrom_87 (by decide) ?_
  refine lv_aload_n C.1.1 C.1.2.1 dX2_copyFrom_88 rfl (lv_at hl 0 rfl) ?_
  refine ns_getr C w 53 (hI 53 (by decide)) sh_53 (rfl : vwCl[2]? = some (RX2, TX2, 8)) inX2_copyFrom_2 6 (by decide) rfl lX2_copyFrom_27 dX2_copyFrom_89 ?_
  refine lv_iconst (v := 0) C.1.1 C.1.2.1 dX2_copyFrom_92 (by decide) ?_
  refine lv_bipush (v := 64) C.1.1 C.1.2.1 dX2_copyFrom_93 (by decide) ?_
  refine ns_copy C w 13 59 (hI 13 (by decide)) (hI 59 (by decide)) sh_13 sh_59 hf rfl rfl (List.mem_of_getElem? (i := 6) rfl) (List.mem_of_getElem? (i := 3) rfl) (List.mem_of_getElem? (i := 4) rfl) (List.mem_of_getElem? (i := 5) rfl) (List.mem_of_getElem? (i := 6) rfl) hl.1 (Nat.le_of_ble_eq_true rfl) (Nat.le_of_ble_eq_true rfl) dX2_copyFrom_95 (fun y6 H locs hf w => ?_)
  refine lv_aload_n C.1.1 C.1.2.1 dX2_copyFrom_98 rfl (lv_at hl 1 rfl) ?_
  refine ns_getr C w 7 (hI 7 (by decide)) sh_7 (rfl : vwCl[2]? = some (RX2, TX2, 8)) inX2_copyFrom_2 7 (by decide) rfl lX2_copyFrom_30 dX2_copyFrom_99 ?_
  refine lv_iconst (v := 0) C.1.1 C.1.2.1 dX2_copyFrom_102 (by decide) ?_
  refine lv_aload_n C.1.1 C.1.2.1 dX2_copyFrom_103 rfl (lv_at hl 0 rfl) ?_
  refine ns_getr C w 53 (hI 53 (by decide)) sh_53 (rfl : vwCl[2]? = some (RX2, TX2, 8)) inX2_copyFrom_2 7 (by decide) rfl lX2_copyFrom_30 dX2_copyFrom_104 ?_
  refine lv_iconst (v := 0) C.1.1 C.1.2.1 dX2_copyFrom_107 (by decide) ?_
  refine lv_bipush (v := 64) C.1.1 C.1.2.1 dX2_copyFrom_108 (by decide) ?_
  refine ns_copy C w 14 60 (hI 14 (by decide)) (hI 60 (by decide)) sh_14 sh_60 hf rfl rfl (List.mem_of_getElem? (i := 7) rfl) (List.mem_of_getElem? (i := 3) rfl) (List.mem_of_getElem? (i := 4) rfl) (List.mem_of_getElem? (i := 5) rfl) (List.mem_of_getElem? (i := 6) rfl) hl.1 (Nat.le_of_ble_eq_true rfl) (Nat.le_of_ble_eq_true rfl) dX2_copyFrom_110 (fun y7 H locs hf w => ?_)
  have he := Option.some.inj hf
  subst he
  exact ns_vret C w hr hlk rfl rfl dX2_copyFrom_113
theorem lX10_fees_9 : Cond.fieldLink RX10 9 (TX10 0).1 (TX10 0).2.1 (TX10 0).2.2.1 ∈ wsX10_fees := List.mem_of_getElem? (i := 2) rfl
theorem lX10_fees_16 : Cond.fieldLink RX10 16 (TX10 2).1 (TX10 2).2.1 (TX10 2).2.2.1 ∈ wsX10_fees := List.mem_of_getElem? (i := 1) rfl
theorem lX10_fees_30 : Cond.fieldLink RX10 30 (TX10 4).1 (TX10 4).2.1 (TX10 4).2.2.1 ∈ wsX10_fees := List.mem_of_getElem? (i := 4) rfl
theorem lX10_fees_38 : Cond.fieldLink RX10 38 (TX10 1).1 (TX10 1).2.1 (TX10 1).2.2.1 ∈ wsX10_fees := List.mem_of_getElem? (i := 3) rfl
theorem lX10_fees_50 : Cond.fieldLink RX10 50 (TX6 5).1 (TX6 5).2.1 (TX6 5).2.2.1 ∈ wsX10_fees := List.mem_of_getElem? (i := 5) rfl
theorem lX10_fees_54 : Cond.fieldLink RX10 54 (TX1 1).1 (TX1 1).2.1 (TX1 1).2.2.1 ∈ wsX10_fees := List.mem_of_getElem? (i := 6) rfl
theorem lX10_fees_63 : Cond.fieldLink RX10 63 (TX2 0).1 (TX2 0).2.1 (TX2 0).2.2.1 ∈ wsX10_fees := List.mem_of_getElem? (i := 7) rfl
theorem inX10_fees_1 : ∀ w ∈ u_ws RX1 TX1 5, w ∈ wsX10_fees := fun _ h => List.mem_cons_of_mem _ (List.mem_append_left _ (List.mem_append_left _ (List.mem_append_right _ h)))
theorem inX10_fees_2 : ∀ w ∈ u_ws RX2 TX2 8, w ∈ wsX10_fees := fun _ h => List.mem_cons_of_mem _ (List.mem_append_left _ (List.mem_append_right _ h))
theorem inX10_fees_6 : ∀ w ∈ u_ws RX6 TX6 6, w ∈ wsX10_fees := fun _ h => List.mem_cons_of_mem _ (List.mem_append_left _ (List.mem_append_left _ (List.mem_append_left _ (List.mem_append_right _ h))))
theorem inX10_fees_10 : ∀ w ∈ u_ws RX10 TX10 6, w ∈ wsX10_fees := fun _ h => List.mem_cons_of_mem _ (List.mem_append_left _ (List.mem_append_left _ (List.mem_append_left _ (List.mem_append_left _ (List.mem_append_right _ h)))))
theorem hdX10_fees : yX10_fees.cls = RX10 ∧ yX10_fees.cls ≠ "java/lang/invoke/MethodHandle" ∧ yX10_fees.cls ≠ "java/lang/invoke/VarHandle" ∧ (parseMethodDescriptor yX10_fees.desc).map (fun d => d.parameters.length) = some 0 := by decide +kernel
abbrev wrX10_fees_0 : List (Nat × Nat) := [(0, 192), (1, 4), (1, 5), (1, 6), (0, 130), (0, 131), (0, 132), (0, 448), (1, 11), (1, 12), (1, 13), (1, 14), (1, 8), (1, 9), (1, 10), (0, 1), (0, 3392), (1, 54), (1, 55), (1, 56), (1, 57), (1, 58), (1, 59), (1, 60)]
abbrev rmX10_fees_0 : Room := { frames := 9, cells := 0, slots := 0, locals := 217 }
set_option maxHeartbeats 4000000 in
set_option maxRecDepth 100000 in
theorem mX10_fees_0 (l : Launch) (D : va_G) (b : Nat → Nat) (ids : List Nat) (hI : ∀ i, i < 107 → i ∈ ids) (N : Nat) (S : ns_S) {o : Int32 × Int32 × (Nat → Int32) × (Nat → Int32) × (Nat → Int32) × Int32 × Int32 × Int32 × Int32 × (Nat → Int32) × (Nat → Int32) × (Nat → Int32) × (Nat → Int32) × (Nat → Int32) × (Nat → Int32) × (Nat → Int32) × Int32 × Int32 × (Nat → Int32) × (Nat → Int32) × (Nat → Int32) × (Nat → Int32) × (Nat → Int32) × (Nat → Int32) × (Nat → Int32)} (hf : fX10_fees N (S.1 1) (S.1 192) (S.2.1 4) (S.2.1 5) (S.2.1 6) (S.2.1 1) (S.1 130) (S.1 131) (S.1 132) (S.1 448) (S.2.1 11) (S.2.1 12) (S.2.1 13) (S.2.1 14) (S.2.1 8) (S.2.1 9) (S.2.1 10) (S.1 3392) (S.2.1 54) (S.2.1 55) (S.2.1 56) (S.2.1 57) (S.2.1 58) (S.2.1 59) (S.2.1 60) = some o) : ns_M l yX10_fees wsX10_fees rmX10_fees_0 D b ids S [.ref (b 0)] (some (.int o.1)) (ns_I (ns_A (ns_A (ns_A (ns_I (ns_I (ns_I (ns_I (ns_A (ns_A (ns_A (ns_A (ns_A (ns_A (ns_A (ns_I (ns_I (ns_A (ns_A (ns_A (ns_A (ns_A (ns_A (ns_A S 60 o.2.2.2.2.2.2.2.2.2.2.2.2.2.2.2.2.2.2.2.2.2.2.2.2) 59 o.2.2.2.2.2.2.2.2.2.2.2.2.2.2.2.2.2.2.2.2.2.2.2.1) 58 o.2.2.2.2.2.2.2.2.2.2.2.2.2.2.2.2.2.2.2.2.2.2.1) 57 o.2.2.2.2.2.2.2.2.2.2.2.2.2.2.2.2.2.2.2.2.2.1) 56 o.2.2.2.2.2.2.2.2.2.2.2.2.2.2.2.2.2.2.2.2.1) 55 o.2.2.2.2.2.2.2.2.2.2.2.2.2.2.2.2.2.2.2.1) 54 o.2.2.2.2.2.2.2.2.2.2.2.2.2.2.2.2.2.2.1) 3392 o.2.2.2.2.2.2.2.2.2.2.2.2.2.2.2.2.2.1) 1 o.2.2.2.2.2.2.2.2.2.2.2.2.2.2.2.2.1) 10 o.2.2.2.2.2.2.2.2.2.2.2.2.2.2.2.1) 9 o.2.2.2.2.2.2.2.2.2.2.2.2.2.2.1) 8 o.2.2.2.2.2.2.2.2.2.2.2.2.2.1) 14 o.2.2.2.2.2.2.2.2.2.2.2.2.1) 13 o.2.2.2.2.2.2.2.2.2.2.2.1) 12 o.2.2.2.2.2.2.2.2.2.2.1) 11 o.2.2.2.2.2.2.2.2.2.1) 448 o.2.2.2.2.2.2.2.2.1) 132 o.2.2.2.2.2.2.2.1) 131 o.2.2.2.2.2.2.1) 130 o.2.2.2.2.2.1) 6 o.2.2.2.2.1) 5 o.2.2.2.1) 4 o.2.2.1) 192 o.2.1) := by
  refine ns_start (Wr := wrX10_fees_0) (by decide) rfl (Nat.le_of_ble_eq_true rfl) ?_
  intro p e s m below meth c A ls C hr hlk w hl
  have hl : lv_has ls 2 [(0, .ref (b 0))] := hl
  unfold fX10_fees at hf
  refine lv_aload_n C.1.1 C.1.2.1 dX10_fees_0 rfl (lv_at hl 0 rfl) ?_
  refine ns_getr C w 0 (hI 0 (by decide)) sh_0 (rfl : vwCl[10]? = some (RX10, TX10, 6)) inX10_fees_10 2 (by decide) rfl lX10_fees_16 dX10_fees_1 ?_
  refine lv_aload_n C.1.1 C.1.2.1 dX10_fees_4 rfl (lv_at hl 0 rfl) ?_
  refine ns_getr C w 0 (hI 0 (by decide)) sh_0 (rfl : vwCl[10]? = some (RX10, TX10, 6)) inX10_fees_10 0 (by decide) rfl lX10_fees_9 dX10_fees_5 ?_
  refine lv_aload_n C.1.1 C.1.2.1 dX10_fees_8 rfl (lv_at hl 0 rfl) ?_
  refine ns_geti C w 0 (hI 0 (by decide)) sh_0 (rfl : vwCl[10]? = some (RX10, TX10, 6)) inX10_fees_10 1 (by decide) rfl lX10_fees_38 (S.1 1) rfl dX10_fees_9 ?_
  refine ns_callV C w 2 (hI 2 (by decide)) sh_2 (rfl : vwCl[1]? = some (RX1, TX1, 5)) [.ref (b 1), .int (S.1 1)] hf (fun u hu => mX1_readText_2_1 l D b ids hI N _ (S.1 1) hu) gX10_fees_X1_readText rfl rfl rfl hdX1_readText ⟨Nat.le_of_ble_eq_true rfl, Nat.le_of_ble_eq_true rfl⟩ (fun u h => (((((((((((((((h.A (List.mem_of_getElem? (i := 14) rfl) _).A (List.mem_of_getElem? (i := 13) rfl) _).A (List.mem_of_getElem? (i := 12) rfl) _).A (List.mem_of_getElem? (i := 11) rfl) _).A (List.mem_of_getElem? (i := 10) rfl) _).A (List.mem_of_getElem? (i := 9) rfl) _).A (List.mem_of_getElem? (i := 8) rfl) _).I (List.mem_of_getElem? (i := 7) rfl) _).I (List.mem_of_getElem? (i := 6) rfl) _).I (List.mem_of_getElem? (i := 5) rfl) _).I (List.mem_of_getElem? (i := 4) rfl) _).A (List.mem_of_getElem? (i := 3) rfl) _).A (List.mem_of_getElem? (i := 2) rfl) _).A (List.mem_of_getElem? (i := 1) rfl) _).I (List.mem_of_getElem? (i := 0) rfl) _)) rfl hl.1 rfl (Nat.le_of_ble_eq_true rfl) ⟨Nat.le_refl _, Nat.le_refl _⟩ dX10_fees_12 (fun o1 H locs hf w => ?_)
  refine lv_istore_n (lv' := [(1, .int o1.1), (0, .ref (b 0))]) C.1.1 C.1.2.1 dX10_fees_15 rfl hl (by decide) rfl (fun ls hl => ?_)
  refine lv_aload_n C.1.1 C.1.2.1 dX10_fees_16 rfl (lv_at hl 1 rfl) ?_
  refine lv_iconst (v := 0) C.1.1 C.1.2.1 dX10_fees_17 (by decide) ?_
  refine ns_puti C w 0 (hI 0 (by decide)) sh_0 (rfl : vwCl[10]? = some (RX10, TX10, 6)) inX10_fees_10 tyX10_ok nmX10 1 (by decide) rfl lX10_fees_38 rfl rfl rfl (List.mem_of_getElem? (i := 15) rfl) dX10_fees_18 (fun H locs w => ?_)
  refine lv_iload_n C.1.1 C.1.2.1 dX10_fees_21 rfl (lv_at hl 0 rfl) ?_
  refine ns_if_ne C hf (tgt := 27) dX10_fees_22 (by decide) (fun hf => ?_) (fun hf => ?_)
  · refine lv_aload_n C.1.1 C.1.2.1 dX10_fees_27 rfl (lv_at hl 1 rfl) ?_
    refine ns_getr C w 0 (hI 0 (by decide)) sh_0 (rfl : vwCl[10]? = some (RX10, TX10, 6)) inX10_fees_10 4 (by decide) rfl lX10_fees_30 dX10_fees_28 ?_
    refine ns_getr C w 28 (hI 28 (by decide)) sh_28 (rfl : vwCl[6]? = some (RX6, TX6, 6)) inX10_fees_6 5 (by decide) rfl lX10_fees_50 dX10_fees_31 ?_
    refine lv_aload_n C.1.1 C.1.2.1 dX10_fees_34 rfl (lv_at hl 1 rfl) ?_
    refine ns_getr C w 0 (hI 0 (by decide)) sh_0 (rfl : vwCl[10]? = some (RX10, TX10, 6)) inX10_fees_10 2 (by decide) rfl lX10_fees_16 dX10_fees_35 ?_
    refine ns_getr C w 2 (hI 2 (by decide)) sh_2 (rfl : vwCl[1]? = some (RX1, TX1, 5)) inX10_fees_1 1 (by decide) rfl lX10_fees_54 dX10_fees_38 ?_
    refine ns_callV C w 53 (hI 53 (by decide)) sh_53 (rfl : vwCl[2]? = some (RX2, TX2, 8)) [.ref (b 7)] hf (fun u hu => mX2_copyFrom_53_7 l D b ids hI N _ hu) gX10_fees_X2_copyFrom rfl rfl rfl hdX2_copyFrom ⟨Nat.le_of_ble_eq_true rfl, Nat.le_of_ble_eq_true rfl⟩ (fun u h => ((((((((h.A (List.mem_of_getElem? (i := 23) rfl) _).A (List.mem_of_getElem? (i := 22) rfl) _).A (List.mem_of_getElem? (i := 21) rfl) _).A (List.mem_of_getElem? (i := 20) rfl) _).A (List.mem_of_getElem? (i := 19) rfl) _).A (List.mem_of_getElem? (i := 18) rfl) _).A (List.mem_of_getElem? (i := 17) rfl) _).I (List.mem_of_getElem? (i := 16) rfl) _)) rfl hl.1 rfl (Nat.le_of_ble_eq_true rfl) ⟨Nat.le_refl _, Nat.le_refl _⟩ dX10_fees_41 (fun o2 H locs hf w => ?_)
    refine lv_aload_n C.1.1 C.1.2.1 dX10_fees_44 rfl (lv_at hl 1 rfl) ?_
    refine ns_getr C w 0 (hI 0 (by decide)) sh_0 (rfl : vwCl[10]? = some (RX10, TX10, 6)) inX10_fees_10 4 (by decide) rfl lX10_fees_30 dX10_fees_45 ?_
    refine ns_getr C w 28 (hI 28 (by decide)) sh_28 (rfl : vwCl[6]? = some (RX6, TX6, 6)) inX10_fees_6 5 (by decide) rfl lX10_fees_50 dX10_fees_48 ?_
    refine ns_geti C w 53 (hI 53 (by decide)) sh_53 (rfl : vwCl[2]? = some (RX2, TX2, 8)) inX10_fees_2 0 (by decide) rfl lX10_fees_63 (o2.1) rfl dX10_fees_51 ?_
    have he := Option.some.inj hf
    subst he
    exact ns_iret C w hr hlk rfl rfl dX10_fees_54
  · refine lv_iconst (v := (-1)) C.1.1 C.1.2.1 dX10_fees_25 (by decide) ?_
    have he := Option.some.inj hf
    subst he
    exact ns_iret C w hr hlk rfl rfl dX10_fees_26
theorem lX11_see_7 : Cond.fieldLink RX11 7 (TX11 1).1 (TX11 1).2.1 (TX11 1).2.2.1 ∈ wsX11_see := List.mem_of_getElem? (i := 3) rfl
theorem lX11_see_197 : Cond.fieldLink RX11 197 (TX11 35).1 (TX11 35).2.1 (TX11 35).2.2.1 ∈ wsX11_see := List.mem_of_getElem? (i := 1) rfl
theorem lX11_see_200 : Cond.fieldLink RX11 200 (TX11 36).1 (TX11 36).2.1 (TX11 36).2.2.1 ∈ wsX11_see := List.mem_of_getElem? (i := 2) rfl
theorem inX11_see_11 : ∀ w ∈ u_ws RX11 TX11 59, w ∈ wsX11_see := fun _ h => List.mem_cons_of_mem _ (List.mem_append_right _ h)
theorem hdX11_see : yX11_see.cls = RX11 ∧ yX11_see.cls ≠ "java/lang/invoke/MethodHandle" ∧ yX11_see.cls ≠ "java/lang/invoke/VarHandle" ∧ (parseMethodDescriptor yX11_see.desc).map (fun d => d.parameters.length) = some 0 := by decide +kernel
abbrev wrX11_see_62 : List (Nat × Nat) := []
abbrev rmX11_see_62 : Room := { frames := 0, cells := 0, slots := 0, locals := 0 }
set_option maxHeartbeats 4000000 in
set_option maxRecDepth 100000 in
theorem mX11_see_62 (l : Launch) (D : va_G) (b : Nat → Nat) (ids : List Nat) (hI : ∀ i, i < 107 → i ∈ ids) (N : Nat) (S : ns_S) {o : Int32} (hf : fX11_see N (S.1 4003) (S.1 4004) (S.2.1 63) = some o) : ns_M l yX11_see wsX11_see rmX11_see_62 D b ids S [.ref (b 62)] (some (.int o)) S := by
  refine ns_start (Wr := wrX11_see_62) (by decide) rfl (Nat.le_of_ble_eq_true rfl) ?_
  intro p e s m below meth c A ls C hr hlk w hl
  have hl : lv_has ls 1 [(0, .ref (b 62))] := hl
  unfold fX11_see at hf
  refine lv_aload_n C.1.1 C.1.2.1 dX11_see_0 rfl (lv_at hl 0 rfl) ?_
  refine ns_geti C w 62 (hI 62 (by decide)) sh_62 (rfl : vwCl[11]? = some (RX11, TX11, 59)) inX11_see_11 35 (by decide) rfl lX11_see_197 (S.1 4003) rfl dX11_see_1 ?_
  refine lv_aload_n C.1.1 C.1.2.1 dX11_see_4 rfl (lv_at hl 0 rfl) ?_
  refine ns_geti C w 62 (hI 62 (by decide)) sh_62 (rfl : vwCl[11]? = some (RX11, TX11, 59)) inX11_see_11 36 (by decide) rfl lX11_see_200 (S.1 4004) rfl dX11_see_5 ?_
  refine ns_icmp_ge C hf (tgt := 27) dX11_see_8 (by decide) (fun hf => ?_) (fun hf => ?_)
  · refine lv_iconst (v := (-1)) C.1.1 C.1.2.1 dX11_see_27 (by decide) ?_
    have he := Option.some.inj hf
    subst he
    exact ns_iret C w hr hlk rfl rfl dX11_see_28
  · refine lv_aload_n C.1.1 C.1.2.1 dX11_see_11 rfl (lv_at hl 0 rfl) ?_
    refine ns_getr C w 62 (hI 62 (by decide)) sh_62 (rfl : vwCl[11]? = some (RX11, TX11, 59)) inX11_see_11 1 (by decide) rfl lX11_see_7 dX11_see_12 ?_
    refine lv_aload_n C.1.1 C.1.2.1 dX11_see_15 rfl (lv_at hl 0 rfl) ?_
    refine ns_geti C w 62 (hI 62 (by decide)) sh_62 (rfl : vwCl[11]? = some (RX11, TX11, 59)) inX11_see_11 35 (by decide) rfl lX11_see_197 (S.1 4003) rfl dX11_see_16 ?_
    refine ns_bald C w 63 (hI 63 (by decide)) sh_63 hf rfl dX11_see_19 (fun x1 hf => ?_)
    refine lv_sipush (v := 255) C.1.1 C.1.2.1 dX11_see_20 (by decide) ?_
    refine lv_iand C.1.1 C.1.2.1 dX11_see_23 ?_
    refine lv_goto (tgt := 28) C.1.1 C.1.2.1 dX11_see_24 (by decide) ?_
    have he := Option.some.inj hf
    subst he
    exact ns_iret C w hr hlk rfl rfl dX11_see_28
theorem lX11_next_13 : Cond.fieldLink RX11 13 (TX11 3).1 (TX11 3).2.1 (TX11 3).2.2.1 ∈ wsX11_next := List.mem_of_getElem? (i := 5) rfl
theorem lX11_next_197 : Cond.fieldLink RX11 197 (TX11 35).1 (TX11 35).2.1 (TX11 35).2.2.1 ∈ wsX11_next := List.mem_of_getElem? (i := 1) rfl
theorem lX11_next_207 : Cond.fieldLink RX11 207 (TX11 37).1 (TX11 37).2.1 (TX11 37).2.2.1 ∈ wsX11_next := List.mem_of_getElem? (i := 2) rfl
theorem lX11_next_210 : Cond.fieldLink RX11 210 (TX11 39).1 (TX11 39).2.1 (TX11 39).2.2.1 ∈ wsX11_next := List.mem_of_getElem? (i := 3) rfl
theorem lX11_next_213 : Cond.fieldLink RX11 213 (TX11 38).1 (TX11 38).2.1 (TX11 38).2.2.1 ∈ wsX11_next := List.mem_of_getElem? (i := 4) rfl
theorem inX11_next_11 : ∀ w ∈ u_ws RX11 TX11 59, w ∈ wsX11_next := fun _ h => List.mem_cons_of_mem _ (List.mem_append_right _ h)
theorem hdX11_next : yX11_next.cls = RX11 ∧ yX11_next.cls ≠ "java/lang/invoke/MethodHandle" ∧ yX11_next.cls ≠ "java/lang/invoke/VarHandle" ∧ (parseMethodDescriptor yX11_next.desc).map (fun d => d.parameters.length) = some 0 := by decide +kernel
abbrev wrX11_next_62 : List (Nat × Nat) := [(0, 4005), (0, 4007), (0, 4003), (0, 4006)]
abbrev rmX11_next_62 : Room := { frames := 1, cells := 0, slots := 0, locals := 22 }
set_option maxHeartbeats 4000000 in
set_option maxRecDepth 100000 in
theorem wX11_next_62_18 {p : Program} {l : Launch} {e : Env} {s : State} {m : MethodId} {args : Array Value} {below : List Frame} {meth : Method} {c : Code} {D : va_G} {b : Nat → Nat} {ids : List Nat} {A : Nat → Prop} {S0 : ns_S} {o : Int32 × Int32 × Int32 × Int32} (N : Nat) (hI : ∀ i, i < 107 → i ∈ ids) (C : ns_C p m c cX11_next 6 s args wsX11_next RX11 D A) (hr : meth.sig.returnType = none) (hlk : meth.locks = false) {r0 : Int32 → Int32 → (Nat → Int32) → Int32 → Int32 → Int32 → Option (Int32 × Int32 × Int32 × Int32)} (K0 : ∀ {S : ns_S} {H : Heap} {locs : List Loc} {ls : Array Slot}, ns_W D b ids A s.heap wrX11_next_62 S0 S H locs → lv_has ls 6 [(0, .ref (b 62))] → r0 (S.1 4003) (S.1 4004) (S.2.1 63) (S.1 4005) (S.1 4007) (S.1 4006) = some o → W p l e rmX11_next_62 s m args below meth c H locs 0 0 (MQ below (ns_Q D b ids (ns_I (ns_I (ns_I (ns_I S0 4006 o.2.2.2) 4003 o.2.2.1) 4007 o.2.1) 4005 o.1) none A) args s 0 0 A) (F0 m 0 ls [])) : ∀ {S : ns_S} {H : Heap} {locs : List Loc} {ls : Array Slot}, ns_W D b ids A s.heap wrX11_next_62 S0 S H locs → lv_has ls 6 [(0, .ref (b 62))] → gX11_next_18 N r0 (S.1 4003) (S.1 4004) (S.2.1 63) (S.1 4005) (S.1 4007) (S.1 4006) = some o → W p l e rmX11_next_62 s m args below meth c H locs 0 0 (MQ below (ns_Q D b ids (ns_I (ns_I (ns_I (ns_I S0 4006 o.2.2.2) 4003 o.2.2.1) 4007 o.2.1) 4005 o.1) none A) args s 0 0 A) (F0 m 18 ls []) := by
  intro S H locs ls w hl hf
  unfold gX11_next_18 at hf
  refine lv_aload_n C.1.1 C.1.2.1 dX11_next_18 rfl (lv_at hl 0 rfl) ?_
  refine lv_dup C.1.1 C.1.2.1 dX11_next_19 rfl ?_
  refine ns_geti C w 62 (hI 62 (by decide)) sh_62 (rfl : vwCl[11]? = some (RX11, TX11, 59)) inX11_next_11 35 (by decide) rfl lX11_next_197 (S.1 4003) rfl dX11_next_20 ?_
  refine lv_iconst (v := 1) C.1.1 C.1.2.1 dX11_next_23 (by decide) ?_
  refine lv_iadd C.1.1 C.1.2.1 dX11_next_24 ?_
  refine ns_namei hf (fun x1 hf => ?_)
  refine ns_puti C w 62 (hI 62 (by decide)) sh_62 (rfl : vwCl[11]? = some (RX11, TX11, 59)) inX11_next_11 tyX11_ok nmX11 35 (by decide) rfl lX11_next_197 rfl rfl rfl (List.mem_of_getElem? (i := 2) rfl) dX11_next_25 (fun H locs w => ?_)
  refine lv_goto (tgt := 0) C.1.1 C.1.2.1 dX11_next_28 (by decide) ?_
  exact K0 w (lv_sub hl [0] rfl) hf
set_option maxHeartbeats 4000000 in
set_option maxRecDepth 100000 in
theorem wX11_next_62_130 {p : Program} {l : Launch} {e : Env} {s : State} {m : MethodId} {args : Array Value} {below : List Frame} {meth : Method} {c : Code} {D : va_G} {b : Nat → Nat} {ids : List Nat} {A : Nat → Prop} {S0 : ns_S} {o : Int32 × Int32 × Int32 × Int32} (N : Nat) (hI : ∀ i, i < 107 → i ∈ ids) (C : ns_C p m c cX11_next 6 s args wsX11_next RX11 D A) (hr : meth.sig.returnType = none) (hlk : meth.locks = false) : ∀ n : Nat, ∀ {S : ns_S} {H : Heap} {locs : List Loc} {ls : Array Slot} {l2 : Int32} {l3 : Int64} {l5 : Int32}, ns_W D b ids A s.heap wrX11_next_62 S0 S H locs → lv_has ls 6 [(0, .ref (b 62)), (2, .int l2), (3, .long l3), (5, .int l5)] → fX11_next_130 N n (S.1 4003) (S.1 4004) (S.2.1 63) (S.1 4005) (S.1 4007) (S.1 4006) l2 l3 l5 = some o → W p l e rmX11_next_62 s m args below meth c H locs 0 0 (MQ below (ns_Q D b ids (ns_I (ns_I (ns_I (ns_I S0 4006 o.2.2.2) 4003 o.2.2.1) 4007 o.2.1) 4005 o.1) none A) args s 0 0 A) (F0 m 130 ls []) := by
  intro n
  induction n with
  | zero =>
    intro S H locs ls l2 l3 l5 w hl hf
    cases hf
  | succ n K130 =>
    intro S H locs ls l2 l3 l5 w hl hf
    change gX11_next_130 N (fX11_next_130 N n) (S.1 4003) (S.1 4004) (S.2.1 63) (S.1 4005) (S.1 4007) (S.1 4006) l2 l3 l5 = some o at hf
    generalize fX11_next_130 N n = r130 at hf K130
    unfold gX11_next_130 at hf
    refine lv_iload C.1.1 C.1.2.1 dX11_next_130 (lv_at hl 3 rfl) ?_
    refine lv_bipush (v := 15) C.1.1 C.1.2.1 dX11_next_132 (by decide) ?_
    refine ns_icmp_ge C hf (tgt := 174) dX11_next_134 (by decide) (fun hf => ?_) (fun hf => ?_)
    · refine lv_goto (tgt := 328) C.1.1 C.1.2.1 dX11_next_174 (by decide) ?_
      have he := Option.some.inj hf
      subst he
      exact ns_vret C w hr hlk rfl rfl dX11_next_328
    · refine lv_iload_n C.1.1 C.1.2.1 dX11_next_137 rfl (lv_at hl 1 rfl) ?_
      refine lv_bipush (v := 8) C.1.1 C.1.2.1 dX11_next_138 (by decide) ?_
      refine ns_icmp_ge C hf (tgt := 174) dX11_next_140 (by decide) (fun hf => ?_) (fun hf => ?_)
      · refine lv_goto (tgt := 328) C.1.1 C.1.2.1 dX11_next_174 (by decide) ?_
        have he := Option.some.inj hf
        subst he
        exact ns_vret C w hr hlk rfl rfl dX11_next_328
      · refine lv_aload_n C.1.1 C.1.2.1 dX11_next_143 rfl (lv_at hl 0 rfl) ?_
        refine lv_aload_n C.1.1 C.1.2.1 dX11_next_144 rfl (lv_at hl 0 rfl) ?_
        refine ns_getr C w 62 (hI 62 (by decide)) sh_62 (rfl : vwCl[11]? = some (RX11, TX11, 59)) inX11_next_11 3 (by decide) rfl lX11_next_13 dX11_next_145 ?_
        refine lv_iload C.1.1 C.1.2.1 dX11_next_148 (lv_at hl 3 rfl) ?_
        refine ns_lald C w 64 (hI 64 (by decide)) sh_64 hf dX11_next_150 (fun x1 hf => ?_)
        refine lv_lload_n C.1.1 C.1.2.1 dX11_next_151 rfl (lv_at hl 2 rfl) ?_
        refine W.lcmp C.1.1 C.1.2.1 dX11_next_152 ?_
        refine ns_if_ne C hf (tgt := 161) dX11_next_153 (by decide) (fun hf => ?_) (fun hf => ?_)
        · refine lv_aload_n C.1.1 C.1.2.1 dX11_next_161 rfl (lv_at hl 0 rfl) ?_
          refine ns_geti C w 62 (hI 62 (by decide)) sh_62 (rfl : vwCl[11]? = some (RX11, TX11, 59)) inX11_next_11 39 (by decide) rfl lX11_next_210 (S.1 4007) rfl dX11_next_162 ?_
          refine ns_puti C w 62 (hI 62 (by decide)) sh_62 (rfl : vwCl[11]? = some (RX11, TX11, 59)) inX11_next_11 tyX11_ok nmX11 39 (by decide) rfl lX11_next_210 rfl rfl rfl (List.mem_of_getElem? (i := 1) rfl) dX11_next_165 (fun H locs w => ?_)
          refine ns_iinc (lv' := fun x2 => [(5, .int x2), (0, .ref (b 62)), (2, .int l2), (3, .long l3)]) C hf dX11_next_168 hl (k := 3) rfl rfl (by decide) (fun _ => rfl) (fun x2 ls hl hf => ?_)
          refine lv_goto (tgt := 130) C.1.1 C.1.2.1 dX11_next_171 (by decide) ?_
          exact K130 w (lv_sub hl [1, 2, 3, 0] rfl) hf
        · refine lv_iload C.1.1 C.1.2.1 dX11_next_156 (lv_at hl 3 rfl) ?_
          refine lv_goto (tgt := 165) C.1.1 C.1.2.1 dX11_next_158 (by decide) ?_
          refine ns_puti C w 62 (hI 62 (by decide)) sh_62 (rfl : vwCl[11]? = some (RX11, TX11, 59)) inX11_next_11 tyX11_ok nmX11 39 (by decide) rfl lX11_next_210 rfl rfl rfl (List.mem_of_getElem? (i := 1) rfl) dX11_next_165 (fun H locs w => ?_)
          refine ns_iinc (lv' := fun x3 => [(5, .int x3), (0, .ref (b 62)), (2, .int l2), (3, .long l3)]) C hf dX11_next_168 hl (k := 3) rfl rfl (by decide) (fun _ => rfl) (fun x3 ls hl hf => ?_)
          refine lv_goto (tgt := 130) C.1.1 C.1.2.1 dX11_next_171 (by decide) ?_
          exact K130 w (lv_sub hl [1, 2, 3, 0] rfl) hf
set_option maxHeartbeats 4000000 in
set_option maxRecDepth 100000 in
theorem wX11_next_62_76 {p : Program} {l : Launch} {e : Env} {s : State} {m : MethodId} {args : Array Value} {below : List Frame} {meth : Method} {c : Code} {D : va_G} {b : Nat → Nat} {ids : List Nat} {A : Nat → Prop} {S0 : ns_S} {o : Int32 × Int32 × Int32 × Int32} (N : Nat) (hI : ∀ i, i < 107 → i ∈ ids) (C : ns_C p m c cX11_next 6 s args wsX11_next RX11 D A) (hr : meth.sig.returnType = none) (hlk : meth.locks = false) : ∀ n : Nat, ∀ {S : ns_S} {H : Heap} {locs : List Loc} {ls : Array Slot} {l2 : Int32} {l3 : Int64}, ns_W D b ids A s.heap wrX11_next_62 S0 S H locs → lv_has ls 6 [(0, .ref (b 62)), (2, .int l2), (3, .long l3)] → fX11_next_76 N n (S.1 4003) (S.1 4004) (S.2.1 63) (S.1 4005) (S.1 4007) (S.1 4006) l2 l3 = some o → W p l e rmX11_next_62 s m args below meth c H locs 0 0 (MQ below (ns_Q D b ids (ns_I (ns_I (ns_I (ns_I S0 4006 o.2.2.2) 4003 o.2.2.1) 4007 o.2.1) 4005 o.1) none A) args s 0 0 A) (F0 m 76 ls []) := by
  intro n
  induction n with
  | zero =>
    intro S H locs ls l2 l3 w hl hf
    cases hf
  | succ n K76 =>
    intro S H locs ls l2 l3 w hl hf
    change gX11_next_76 N (fX11_next_76 N n) (S.1 4003) (S.1 4004) (S.2.1 63) (S.1 4005) (S.1 4007) (S.1 4006) l2 l3 = some o at hf
    generalize fX11_next_76 N n = r76 at hf K76
    unfold gX11_next_76 at hf
    refine lv_aload_n C.1.1 C.1.2.1 dX11_next_76 rfl (lv_at hl 0 rfl) ?_
    refine ns_callV C w 62 (hI 62 (by decide)) sh_62 (rfl : vwCl[11]? = some (RX11, TX11, 59)) [] hf (fun u hu => mX11_see_62 l D b ids hI N _ hu) gX11_next_X11_see rfl rfl rfl hdX11_see ⟨Nat.le_of_ble_eq_true rfl, Nat.le_of_ble_eq_true rfl⟩ (fun u h => h) rfl hl.1 rfl (Nat.le_of_ble_eq_true rfl) ⟨Nat.le_refl _, Nat.le_refl _⟩ dX11_next_77 (fun o1 H locs hf w => ?_)
    refine lv_bipush (v := 97) C.1.1 C.1.2.1 dX11_next_80 (by decide) ?_
    refine lv_bipush (v := 122) C.1.1 C.1.2.1 dX11_next_82 (by decide) ?_
    refine ns_callS C w [.int o1, .int 97, .int 122] hf (fun u hu => mX11_in l D b ids hI N _ o1 97 122 hu) gX11_next_X11_in rfl rfl rfl hdX11_in ⟨Nat.le_of_ble_eq_true rfl, Nat.le_of_ble_eq_true rfl⟩ (fun u h => h) rfl hl.1 rfl (Nat.le_of_ble_eq_true rfl) ⟨Nat.le_refl _, Nat.le_refl _⟩ dX11_next_84 (fun o2 H locs hf w => ?_)
    refine ns_if_eq C hf (tgt := 117) dX11_next_87 (by decide) (fun hf => ?_) (fun hf => ?_)
    · refine lv_aload_n C.1.1 C.1.2.1 dX11_next_117 rfl (lv_at hl 0 rfl) ?_
      refine lv_iconst (v := 2) C.1.1 C.1.2.1 dX11_next_118 (by decide) ?_
      refine ns_puti C w 62 (hI 62 (by decide)) sh_62 (rfl : vwCl[11]? = some (RX11, TX11, 59)) inX11_next_11 tyX11_ok nmX11 38 (by decide) rfl lX11_next_213 rfl rfl rfl (List.mem_of_getElem? (i := 3) rfl) dX11_next_119 (fun H locs w => ?_)
      refine lv_aload_n C.1.1 C.1.2.1 dX11_next_122 rfl (lv_at hl 0 rfl) ?_
      refine lv_iconst (v := (-1)) C.1.1 C.1.2.1 dX11_next_123 (by decide) ?_
      refine ns_puti C w 62 (hI 62 (by decide)) sh_62 (rfl : vwCl[11]? = some (RX11, TX11, 59)) inX11_next_11 tyX11_ok nmX11 39 (by decide) rfl lX11_next_210 rfl rfl rfl (List.mem_of_getElem? (i := 1) rfl) dX11_next_124 (fun H locs w => ?_)
      refine lv_iconst (v := 0) C.1.1 C.1.2.1 dX11_next_127 (by decide) ?_
      refine lv_istore (lv' := [(5, .int 0), (0, .ref (b 62)), (2, .int l2), (3, .long l3)]) C.1.1 C.1.2.1 dX11_next_128 hl (by decide) rfl (fun ls hl => ?_)
      exact wX11_next_62_130 N hI C hr hlk N w (lv_sub hl [1, 2, 3, 0] rfl) hf
    · refine lv_lload_n C.1.1 C.1.2.1 dX11_next_90 rfl (lv_at hl 2 rfl) ?_
      refine lv_bipush (v := 8) C.1.1 C.1.2.1 dX11_next_91 (by decide) ?_
      refine lv_lshl (v := l3 <<< ((8 : Int32).toInt64 &&& 63)) C.1.1 C.1.2.1 dX11_next_93 rfl ?_
      refine lv_aload_n C.1.1 C.1.2.1 dX11_next_94 rfl (lv_at hl 0 rfl) ?_
      refine ns_callV C w 62 (hI 62 (by decide)) sh_62 (rfl : vwCl[11]? = some (RX11, TX11, 59)) [] hf (fun u hu => mX11_see_62 l D b ids hI N _ hu) gX11_next_X11_see rfl rfl rfl hdX11_see ⟨Nat.le_of_ble_eq_true rfl, Nat.le_of_ble_eq_true rfl⟩ (fun u h => h) rfl hl.1 rfl (Nat.le_of_ble_eq_true rfl) ⟨Nat.le_refl _, Nat.le_refl _⟩ dX11_next_95 (fun o3 H locs hf w => ?_)
      refine lv_i2l (v := o3.toInt64) C.1.1 C.1.2.1 dX11_next_98 rfl ?_
      refine lv_lor C.1.1 C.1.2.1 dX11_next_99 ?_
      refine ns_namel hf (fun x4 hf => ?_)
      refine lv_lstore_n (lv' := [(3, .long x4), (0, .ref (b 62)), (2, .int l2)]) C.1.1 C.1.2.1 dX11_next_100 rfl hl (by decide) rfl (fun ls hl => ?_)
      refine lv_aload_n C.1.1 C.1.2.1 dX11_next_101 rfl (lv_at hl 1 rfl) ?_
      refine lv_dup C.1.1 C.1.2.1 dX11_next_102 rfl ?_
      refine ns_geti C w 62 (hI 62 (by decide)) sh_62 (rfl : vwCl[11]? = some (RX11, TX11, 59)) inX11_next_11 35 (by decide) rfl lX11_next_197 (S.1 4003) rfl dX11_next_103 ?_
      refine lv_iconst (v := 1) C.1.1 C.1.2.1 dX11_next_106 (by decide) ?_
      refine lv_iadd C.1.1 C.1.2.1 dX11_next_107 ?_
      refine ns_namei hf (fun x5 hf => ?_)
      refine ns_puti C w 62 (hI 62 (by decide)) sh_62 (rfl : vwCl[11]? = some (RX11, TX11, 59)) inX11_next_11 tyX11_ok nmX11 35 (by decide) rfl lX11_next_197 rfl rfl rfl (List.mem_of_getElem? (i := 2) rfl) dX11_next_108 (fun H locs w => ?_)
      refine ns_iinc (lv' := fun x6 => [(2, .int x6), (3, .long x4), (0, .ref (b 62))]) C hf dX11_next_111 hl (k := 2) rfl rfl (by decide) (fun _ => rfl) (fun x6 ls hl hf => ?_)
      refine lv_goto (tgt := 76) C.1.1 C.1.2.1 dX11_next_114 (by decide) ?_
      exact K76 w (lv_sub hl [2, 0, 1] rfl) hf
set_option maxHeartbeats 4000000 in
set_option maxRecDepth 100000 in
theorem wX11_next_62_237 {p : Program} {l : Launch} {e : Env} {s : State} {m : MethodId} {args : Array Value} {below : List Frame} {meth : Method} {c : Code} {D : va_G} {b : Nat → Nat} {ids : List Nat} {A : Nat → Prop} {S0 : ns_S} {o : Int32 × Int32 × Int32 × Int32} (N : Nat) (hI : ∀ i, i < 107 → i ∈ ids) (C : ns_C p m c cX11_next 6 s args wsX11_next RX11 D A) (hr : meth.sig.returnType = none) (hlk : meth.locks = false) {r195 : Int32 → Int32 → (Nat → Int32) → Int32 → Int32 → Int32 → Int32 → Option (Int32 × Int32 × Int32 × Int32)} (K195 : ∀ {S : ns_S} {H : Heap} {locs : List Loc} {ls : Array Slot} {l2 : Int32}, ns_W D b ids A s.heap wrX11_next_62 S0 S H locs → lv_has ls 6 [(0, .ref (b 62)), (2, .int l2)] → r195 (S.1 4003) (S.1 4004) (S.2.1 63) (S.1 4005) (S.1 4007) (S.1 4006) l2 = some o → W p l e rmX11_next_62 s m args below meth c H locs 0 0 (MQ below (ns_Q D b ids (ns_I (ns_I (ns_I (ns_I S0 4006 o.2.2.2) 4003 o.2.2.1) 4007 o.2.1) 4005 o.1) none A) args s 0 0 A) (F0 m 195 ls [])) : ∀ {S : ns_S} {H : Heap} {locs : List Loc} {ls : Array Slot} {l2 : Int32} {s1 : Int32}, ns_W D b ids A s.heap wrX11_next_62 S0 S H locs → lv_has ls 6 [(0, .ref (b 62)), (2, .int l2)] → gX11_next_237 N r195 (S.1 4003) (S.1 4004) (S.2.1 63) (S.1 4005) (S.1 4007) (S.1 4006) l2 s1 = some o → W p l e rmX11_next_62 s m args below meth c H locs 0 0 (MQ below (ns_Q D b ids (ns_I (ns_I (ns_I (ns_I S0 4006 o.2.2.2) 4003 o.2.2.1) 4007 o.2.1) 4005 o.1) none A) args s 0 0 A) (F0 m 237 ls [.int s1, .ref (b 62)]) := by
  intro S H locs ls l2 s1 w hl hf
  unfold gX11_next_237 at hf
  refine ns_puti C w 62 (hI 62 (by decide)) sh_62 (rfl : vwCl[11]? = some (RX11, TX11, 59)) inX11_next_11 tyX11_ok nmX11 39 (by decide) rfl lX11_next_210 rfl rfl rfl (List.mem_of_getElem? (i := 1) rfl) dX11_next_237 (fun H locs w => ?_)
  refine lv_aload_n C.1.1 C.1.2.1 dX11_next_240 rfl (lv_at hl 0 rfl) ?_
  refine lv_dup C.1.1 C.1.2.1 dX11_next_241 rfl ?_
  refine ns_geti C w 62 (hI 62 (by decide)) sh_62 (rfl : vwCl[11]? = some (RX11, TX11, 59)) inX11_next_11 35 (by decide) rfl lX11_next_197 (S.1 4003) rfl dX11_next_242 ?_
  refine lv_iconst (v := 1) C.1.1 C.1.2.1 dX11_next_245 (by decide) ?_
  refine lv_iadd C.1.1 C.1.2.1 dX11_next_246 ?_
  refine ns_namei hf (fun x1 hf => ?_)
  refine ns_puti C w 62 (hI 62 (by decide)) sh_62 (rfl : vwCl[11]? = some (RX11, TX11, 59)) inX11_next_11 tyX11_ok nmX11 35 (by decide) rfl lX11_next_197 rfl rfl rfl (List.mem_of_getElem? (i := 2) rfl) dX11_next_247 (fun H locs w => ?_)
  refine ns_iinc (lv' := fun x2 => [(2, .int x2), (0, .ref (b 62))]) C hf dX11_next_250 hl (k := 1) rfl rfl (by decide) (fun _ => rfl) (fun x2 ls hl hf => ?_)
  refine lv_goto (tgt := 195) C.1.1 C.1.2.1 dX11_next_253 (by decide) ?_
  exact K195 w (lv_sub hl [1, 0] rfl) hf
set_option maxHeartbeats 4000000 in
set_option maxRecDepth 100000 in
theorem wX11_next_62_195 {p : Program} {l : Launch} {e : Env} {s : State} {m : MethodId} {args : Array Value} {below : List Frame} {meth : Method} {c : Code} {D : va_G} {b : Nat → Nat} {ids : List Nat} {A : Nat → Prop} {S0 : ns_S} {o : Int32 × Int32 × Int32 × Int32} (N : Nat) (hI : ∀ i, i < 107 → i ∈ ids) (C : ns_C p m c cX11_next 6 s args wsX11_next RX11 D A) (hr : meth.sig.returnType = none) (hlk : meth.locks = false) : ∀ n : Nat, ∀ {S : ns_S} {H : Heap} {locs : List Loc} {ls : Array Slot} {l2 : Int32}, ns_W D b ids A s.heap wrX11_next_62 S0 S H locs → lv_has ls 6 [(0, .ref (b 62)), (2, .int l2)] → fX11_next_195 N n (S.1 4003) (S.1 4004) (S.2.1 63) (S.1 4005) (S.1 4007) (S.1 4006) l2 = some o → W p l e rmX11_next_62 s m args below meth c H locs 0 0 (MQ below (ns_Q D b ids (ns_I (ns_I (ns_I (ns_I S0 4006 o.2.2.2) 4003 o.2.2.1) 4007 o.2.1) 4005 o.1) none A) args s 0 0 A) (F0 m 195 ls []) := by
  intro n
  induction n with
  | zero =>
    intro S H locs ls l2 w hl hf
    cases hf
  | succ n K195 =>
    intro S H locs ls l2 w hl hf
    change gX11_next_195 N (fX11_next_195 N n) (S.1 4003) (S.1 4004) (S.2.1 63) (S.1 4005) (S.1 4007) (S.1 4006) l2 = some o at hf
    generalize fX11_next_195 N n = r195 at hf K195
    unfold gX11_next_195 at hf
    refine lv_aload_n C.1.1 C.1.2.1 dX11_next_195 rfl (lv_at hl 0 rfl) ?_
    refine ns_callV C w 62 (hI 62 (by decide)) sh_62 (rfl : vwCl[11]? = some (RX11, TX11, 59)) [] hf (fun u hu => mX11_see_62 l D b ids hI N _ hu) gX11_next_X11_see rfl rfl rfl hdX11_see ⟨Nat.le_of_ble_eq_true rfl, Nat.le_of_ble_eq_true rfl⟩ (fun u h => h) rfl hl.1 rfl (Nat.le_of_ble_eq_true rfl) ⟨Nat.le_refl _, Nat.le_refl _⟩ dX11_next_196 (fun o1 H locs hf w => ?_)
    refine lv_bipush (v := 48) C.1.1 C.1.2.1 dX11_next_199 (by decide) ?_
    refine lv_bipush (v := 57) C.1.1 C.1.2.1 dX11_next_201 (by decide) ?_
    refine ns_callS C w [.int o1, .int 48, .int 57] hf (fun u hu => mX11_in l D b ids hI N _ o1 48 57 hu) gX11_next_X11_in rfl rfl rfl hdX11_in ⟨Nat.le_of_ble_eq_true rfl, Nat.le_of_ble_eq_true rfl⟩ (fun u h => h) rfl hl.1 rfl (Nat.le_of_ble_eq_true rfl) ⟨Nat.le_refl _, Nat.le_refl _⟩ dX11_next_203 (fun o2 H locs hf w => ?_)
    refine ns_if_eq C hf (tgt := 256) dX11_next_206 (by decide) (fun hf => ?_) (fun hf => ?_)
    · refine lv_aload_n C.1.1 C.1.2.1 dX11_next_256 rfl (lv_at hl 0 rfl) ?_
      refine lv_iload_n C.1.1 C.1.2.1 dX11_next_257 rfl (lv_at hl 1 rfl) ?_
      refine lv_iconst (v := 5) C.1.1 C.1.2.1 dX11_next_258 (by decide) ?_
      refine ns_icmp_le C hf (tgt := 266) dX11_next_259 (by decide) (fun hf => ?_) (fun hf => ?_)
      · refine lv_iconst (v := 3) C.1.1 C.1.2.1 dX11_next_266 (by decide) ?_
        refine ns_puti C w 62 (hI 62 (by decide)) sh_62 (rfl : vwCl[11]? = some (RX11, TX11, 59)) inX11_next_11 tyX11_ok nmX11 38 (by decide) rfl lX11_next_213 rfl rfl rfl (List.mem_of_getElem? (i := 3) rfl) dX11_next_267 (fun H locs w => ?_)
        refine lv_goto (tgt := 328) C.1.1 C.1.2.1 dX11_next_270 (by decide) ?_
        have he := Option.some.inj hf
        subst he
        exact ns_vret C w hr hlk rfl rfl dX11_next_328
      · refine lv_iconst (v := 1) C.1.1 C.1.2.1 dX11_next_262 (by decide) ?_
        refine lv_goto (tgt := 267) C.1.1 C.1.2.1 dX11_next_263 (by decide) ?_
        refine ns_puti C w 62 (hI 62 (by decide)) sh_62 (rfl : vwCl[11]? = some (RX11, TX11, 59)) inX11_next_11 tyX11_ok nmX11 38 (by decide) rfl lX11_next_213 rfl rfl rfl (List.mem_of_getElem? (i := 3) rfl) dX11_next_267 (fun H locs w => ?_)
        refine lv_goto (tgt := 328) C.1.1 C.1.2.1 dX11_next_270 (by decide) ?_
        have he := Option.some.inj hf
        subst he
        exact ns_vret C w hr hlk rfl rfl dX11_next_328
    · refine lv_aload_n C.1.1 C.1.2.1 dX11_next_209 rfl (lv_at hl 0 rfl) ?_
      refine lv_iload_n C.1.1 C.1.2.1 dX11_next_210 rfl (lv_at hl 1 rfl) ?_
      refine lv_iconst (v := 5) C.1.1 C.1.2.1 dX11_next_211 (by decide) ?_
      refine ns_icmp_ge C hf (tgt := 233) dX11_next_212 (by decide) (fun hf => ?_) (fun hf => ?_)
      · refine lv_aload_n C.1.1 C.1.2.1 dX11_next_233 rfl (lv_at hl 0 rfl) ?_
        refine ns_geti C w 62 (hI 62 (by decide)) sh_62 (rfl : vwCl[11]? = some (RX11, TX11, 59)) inX11_next_11 39 (by decide) rfl lX11_next_210 (S.1 4007) rfl dX11_next_234 ?_
        exact wX11_next_62_237 N hI C hr hlk K195 w (lv_sub hl [0, 1] rfl) hf
      · refine lv_bipush (v := 10) C.1.1 C.1.2.1 dX11_next_215 (by decide) ?_
        refine lv_aload_n C.1.1 C.1.2.1 dX11_next_217 rfl (lv_at hl 0 rfl) ?_
        refine ns_geti C w 62 (hI 62 (by decide)) sh_62 (rfl : vwCl[11]? = some (RX11, TX11, 59)) inX11_next_11 39 (by decide) rfl lX11_next_210 (S.1 4007) rfl dX11_next_218 ?_
        refine lv_imul C.1.1 C.1.2.1 dX11_next_221 ?_
        refine lv_aload_n C.1.1 C.1.2.1 dX11_next_222 rfl (lv_at hl 0 rfl) ?_
        refine ns_callV C w 62 (hI 62 (by decide)) sh_62 (rfl : vwCl[11]? = some (RX11, TX11, 59)) [] hf (fun u hu => mX11_see_62 l D b ids hI N _ hu) gX11_next_X11_see rfl rfl rfl hdX11_see ⟨Nat.le_of_ble_eq_true rfl, Nat.le_of_ble_eq_true rfl⟩ (fun u h => h) rfl hl.1 rfl (Nat.le_of_ble_eq_true rfl) ⟨Nat.le_refl _, Nat.le_refl _⟩ dX11_next_223 (fun o3 H locs hf w => ?_)
        refine lv_iadd C.1.1 C.1.2.1 dX11_next_226 ?_
        refine lv_bipush (v := 48) C.1.1 C.1.2.1 dX11_next_227 (by decide) ?_
        refine lv_isub C.1.1 C.1.2.1 dX11_next_229 ?_
        refine lv_goto (tgt := 237) C.1.1 C.1.2.1 dX11_next_230 (by decide) ?_
        exact wX11_next_62_237 N hI C hr hlk K195 w (lv_sub hl [0, 1] rfl) hf
set_option maxHeartbeats 4000000 in
set_option maxRecDepth 100000 in
theorem wX11_next_62_0 {p : Program} {l : Launch} {e : Env} {s : State} {m : MethodId} {args : Array Value} {below : List Frame} {meth : Method} {c : Code} {D : va_G} {b : Nat → Nat} {ids : List Nat} {A : Nat → Prop} {S0 : ns_S} {o : Int32 × Int32 × Int32 × Int32} (N : Nat) (hI : ∀ i, i < 107 → i ∈ ids) (C : ns_C p m c cX11_next 6 s args wsX11_next RX11 D A) (hr : meth.sig.returnType = none) (hlk : meth.locks = false) : ∀ n : Nat, ∀ {S : ns_S} {H : Heap} {locs : List Loc} {ls : Array Slot}, ns_W D b ids A s.heap wrX11_next_62 S0 S H locs → lv_has ls 6 [(0, .ref (b 62))] → fX11_next_0 N n (S.1 4003) (S.1 4004) (S.2.1 63) (S.1 4005) (S.1 4007) (S.1 4006) = some o → W p l e rmX11_next_62 s m args below meth c H locs 0 0 (MQ below (ns_Q D b ids (ns_I (ns_I (ns_I (ns_I S0 4006 o.2.2.2) 4003 o.2.2.1) 4007 o.2.1) 4005 o.1) none A) args s 0 0 A) (F0 m 0 ls []) := by
  intro n
  induction n with
  | zero =>
    intro S H locs ls w hl hf
    cases hf
  | succ n K0 =>
    intro S H locs ls w hl hf
    change gX11_next_0 N (fX11_next_0 N n) (S.1 4003) (S.1 4004) (S.2.1 63) (S.1 4005) (S.1 4007) (S.1 4006) = some o at hf
    generalize fX11_next_0 N n = r0 at hf K0
    unfold gX11_next_0 at hf
    refine lv_aload_n C.1.1 C.1.2.1 dX11_next_0 rfl (lv_at hl 0 rfl) ?_
    refine ns_callV C w 62 (hI 62 (by decide)) sh_62 (rfl : vwCl[11]? = some (RX11, TX11, 59)) [] hf (fun u hu => mX11_see_62 l D b ids hI N _ hu) gX11_next_X11_see rfl rfl rfl hdX11_see ⟨Nat.le_of_ble_eq_true rfl, Nat.le_of_ble_eq_true rfl⟩ (fun u h => h) rfl hl.1 rfl (Nat.le_of_ble_eq_true rfl) ⟨Nat.le_refl _, Nat.le_refl _⟩ dX11_next_1 (fun o1 H locs hf w => ?_)
    refine lv_bipush (v := 10) C.1.1 C.1.2.1 dX11_next_4 (by decide) ?_
    refine ns_icmp_eq C hf (tgt := 18) dX11_next_6 (by decide) (fun hf => ?_) (fun hf => ?_)
    · exact wX11_next_62_18 N hI C hr hlk K0 w (lv_sub hl [0] rfl) hf
    · refine lv_aload_n C.1.1 C.1.2.1 dX11_next_9 rfl (lv_at hl 0 rfl) ?_
      refine ns_callV C w 62 (hI 62 (by decide)) sh_62 (rfl : vwCl[11]? = some (RX11, TX11, 59)) [] hf (fun u hu => mX11_see_62 l D b ids hI N _ hu) gX11_next_X11_see rfl rfl rfl hdX11_see ⟨Nat.le_of_ble_eq_true rfl, Nat.le_of_ble_eq_true rfl⟩ (fun u h => h) rfl hl.1 rfl (Nat.le_of_ble_eq_true rfl) ⟨Nat.le_refl _, Nat.le_refl _⟩ dX11_next_10 (fun o2 H locs hf w => ?_)
      refine lv_bipush (v := 32) C.1.1 C.1.2.1 dX11_next_13 (by decide) ?_
      refine ns_icmp_ne C hf (tgt := 31) dX11_next_15 (by decide) (fun hf => ?_) (fun hf => ?_)
      · refine lv_aload_n C.1.1 C.1.2.1 dX11_next_31 rfl (lv_at hl 0 rfl) ?_
        refine lv_aload_n C.1.1 C.1.2.1 dX11_next_32 rfl (lv_at hl 0 rfl) ?_
        refine ns_geti C w 62 (hI 62 (by decide)) sh_62 (rfl : vwCl[11]? = some (RX11, TX11, 59)) inX11_next_11 35 (by decide) rfl lX11_next_197 (S.1 4003) rfl dX11_next_33 ?_
        refine ns_puti C w 62 (hI 62 (by decide)) sh_62 (rfl : vwCl[11]? = some (RX11, TX11, 59)) inX11_next_11 tyX11_ok nmX11 37 (by decide) rfl lX11_next_207 rfl rfl rfl (List.mem_of_getElem? (i := 0) rfl) dX11_next_36 (fun H locs w => ?_)
        refine lv_aload_n C.1.1 C.1.2.1 dX11_next_39 rfl (lv_at hl 0 rfl) ?_
        refine ns_callV C w 62 (hI 62 (by decide)) sh_62 (rfl : vwCl[11]? = some (RX11, TX11, 59)) [] hf (fun u hu => mX11_see_62 l D b ids hI N _ hu) gX11_next_X11_see rfl rfl rfl hdX11_see ⟨Nat.le_of_ble_eq_true rfl, Nat.le_of_ble_eq_true rfl⟩ (fun u h => h) rfl hl.1 rfl (Nat.le_of_ble_eq_true rfl) ⟨Nat.le_refl _, Nat.le_refl _⟩ dX11_next_40 (fun o3 H locs hf w => ?_)
        refine lv_istore_n (lv' := [(1, .int o3), (0, .ref (b 62))]) C.1.1 C.1.2.1 dX11_next_43 rfl hl (by decide) rfl (fun ls hl => ?_)
        refine lv_aload_n C.1.1 C.1.2.1 dX11_next_44 rfl (lv_at hl 1 rfl) ?_
        refine lv_iload_n C.1.1 C.1.2.1 dX11_next_45 rfl (lv_at hl 0 rfl) ?_
        refine ns_puti C w 62 (hI 62 (by decide)) sh_62 (rfl : vwCl[11]? = some (RX11, TX11, 59)) inX11_next_11 tyX11_ok nmX11 39 (by decide) rfl lX11_next_210 rfl rfl rfl (List.mem_of_getElem? (i := 1) rfl) dX11_next_46 (fun H locs w => ?_)
        refine lv_iload_n C.1.1 C.1.2.1 dX11_next_49 rfl (lv_at hl 0 rfl) ?_
        refine ns_if_ge C hf (tgt := 61) dX11_next_50 (by decide) (fun hf => ?_) (fun hf => ?_)
        · refine lv_iload_n C.1.1 C.1.2.1 dX11_next_61 rfl (lv_at hl 0 rfl) ?_
          refine lv_bipush (v := 97) C.1.1 C.1.2.1 dX11_next_62 (by decide) ?_
          refine lv_bipush (v := 122) C.1.1 C.1.2.1 dX11_next_64 (by decide) ?_
          refine ns_callS C w [.int o3, .int 97, .int 122] hf (fun u hu => mX11_in l D b ids hI N _ o3 97 122 hu) gX11_next_X11_in rfl rfl rfl hdX11_in ⟨Nat.le_of_ble_eq_true rfl, Nat.le_of_ble_eq_true rfl⟩ (fun u h => h) rfl hl.1 rfl (Nat.le_of_ble_eq_true rfl) ⟨Nat.le_refl _, Nat.le_refl _⟩ dX11_next_66 (fun o4 H locs hf w => ?_)
          refine ns_if_eq C hf (tgt := 177) dX11_next_69 (by decide) (fun hf => ?_) (fun hf => ?_)
          · refine lv_iload_n C.1.1 C.1.2.1 dX11_next_177 rfl (lv_at hl 0 rfl) ?_
            refine lv_bipush (v := 48) C.1.1 C.1.2.1 dX11_next_178 (by decide) ?_
            refine lv_bipush (v := 57) C.1.1 C.1.2.1 dX11_next_180 (by decide) ?_
            refine ns_callS C w [.int o3, .int 48, .int 57] hf (fun u hu => mX11_in l D b ids hI N _ o3 48 57 hu) gX11_next_X11_in rfl rfl rfl hdX11_in ⟨Nat.le_of_ble_eq_true rfl, Nat.le_of_ble_eq_true rfl⟩ (fun u h => h) rfl hl.1 rfl (Nat.le_of_ble_eq_true rfl) ⟨Nat.le_refl _, Nat.le_refl _⟩ dX11_next_182 (fun o5 H locs hf w => ?_)
            refine ns_if_eq C hf (tgt := 273) dX11_next_185 (by decide) (fun hf => ?_) (fun hf => ?_)
            · refine lv_aload_n C.1.1 C.1.2.1 dX11_next_273 rfl (lv_at hl 1 rfl) ?_
              refine lv_dup C.1.1 C.1.2.1 dX11_next_274 rfl ?_
              refine ns_geti C w 62 (hI 62 (by decide)) sh_62 (rfl : vwCl[11]? = some (RX11, TX11, 59)) inX11_next_11 35 (by decide) rfl lX11_next_197 (S.1 4003) rfl dX11_next_275 ?_
              refine lv_iconst (v := 1) C.1.1 C.1.2.1 dX11_next_278 (by decide) ?_
              refine lv_iadd C.1.1 C.1.2.1 dX11_next_279 ?_
              refine ns_namei hf (fun x6 hf => ?_)
              refine ns_puti C w 62 (hI 62 (by decide)) sh_62 (rfl : vwCl[11]? = some (RX11, TX11, 59)) inX11_next_11 tyX11_ok nmX11 35 (by decide) rfl lX11_next_197 rfl rfl rfl (List.mem_of_getElem? (i := 2) rfl) dX11_next_280 (fun H locs w => ?_)
              refine lv_aload_n C.1.1 C.1.2.1 dX11_next_283 rfl (lv_at hl 1 rfl) ?_
              refine lv_iload_n C.1.1 C.1.2.1 dX11_next_284 rfl (lv_at hl 0 rfl) ?_
              refine lv_bipush (v := 58) C.1.1 C.1.2.1 dX11_next_285 (by decide) ?_
              refine ns_icmp_eq C hf (tgt := 320) dX11_next_287 (by decide) (fun hf => ?_) (fun hf => ?_)
              · refine lv_iconst (v := 4) C.1.1 C.1.2.1 dX11_next_320 (by decide) ?_
                refine lv_goto (tgt := 325) C.1.1 C.1.2.1 dX11_next_321 (by decide) ?_
                refine ns_puti C w 62 (hI 62 (by decide)) sh_62 (rfl : vwCl[11]? = some (RX11, TX11, 59)) inX11_next_11 tyX11_ok nmX11 38 (by decide) rfl lX11_next_213 rfl rfl rfl (List.mem_of_getElem? (i := 3) rfl) dX11_next_325 (fun H locs w => ?_)
                have he := Option.some.inj hf
                subst he
                exact ns_vret C w hr hlk rfl rfl dX11_next_328
              · refine lv_iload_n C.1.1 C.1.2.1 dX11_next_290 rfl (lv_at hl 0 rfl) ?_
                refine lv_bipush (v := 59) C.1.1 C.1.2.1 dX11_next_291 (by decide) ?_
                refine ns_icmp_eq C hf (tgt := 320) dX11_next_293 (by decide) (fun hf => ?_) (fun hf => ?_)
                · refine lv_iconst (v := 4) C.1.1 C.1.2.1 dX11_next_320 (by decide) ?_
                  refine lv_goto (tgt := 325) C.1.1 C.1.2.1 dX11_next_321 (by decide) ?_
                  refine ns_puti C w 62 (hI 62 (by decide)) sh_62 (rfl : vwCl[11]? = some (RX11, TX11, 59)) inX11_next_11 tyX11_ok nmX11 38 (by decide) rfl lX11_next_213 rfl rfl rfl (List.mem_of_getElem? (i := 3) rfl) dX11_next_325 (fun H locs w => ?_)
                  have he := Option.some.inj hf
                  subst he
                  exact ns_vret C w hr hlk rfl rfl dX11_next_328
                · refine lv_iload_n C.1.1 C.1.2.1 dX11_next_296 rfl (lv_at hl 0 rfl) ?_
                  refine lv_bipush (v := 47) C.1.1 C.1.2.1 dX11_next_297 (by decide) ?_
                  refine ns_icmp_eq C hf (tgt := 320) dX11_next_299 (by decide) (fun hf => ?_) (fun hf => ?_)
                  · refine lv_iconst (v := 4) C.1.1 C.1.2.1 dX11_next_320 (by decide) ?_
                    refine lv_goto (tgt := 325) C.1.1 C.1.2.1 dX11_next_321 (by decide) ?_
                    refine ns_puti C w 62 (hI 62 (by decide)) sh_62 (rfl : vwCl[11]? = some (RX11, TX11, 59)) inX11_next_11 tyX11_ok nmX11 38 (by decide) rfl lX11_next_213 rfl rfl rfl (List.mem_of_getElem? (i := 3) rfl) dX11_next_325 (fun H locs w => ?_)
                    have he := Option.some.inj hf
                    subst he
                    exact ns_vret C w hr hlk rfl rfl dX11_next_328
                  · refine lv_iload_n C.1.1 C.1.2.1 dX11_next_302 rfl (lv_at hl 0 rfl) ?_
                    refine lv_bipush (v := 60) C.1.1 C.1.2.1 dX11_next_303 (by decide) ?_
                    refine ns_icmp_eq C hf (tgt := 320) dX11_next_305 (by decide) (fun hf => ?_) (fun hf => ?_)
                    · refine lv_iconst (v := 4) C.1.1 C.1.2.1 dX11_next_320 (by decide) ?_
                      refine lv_goto (tgt := 325) C.1.1 C.1.2.1 dX11_next_321 (by decide) ?_
                      refine ns_puti C w 62 (hI 62 (by decide)) sh_62 (rfl : vwCl[11]? = some (RX11, TX11, 59)) inX11_next_11 tyX11_ok nmX11 38 (by decide) rfl lX11_next_213 rfl rfl rfl (List.mem_of_getElem? (i := 3) rfl) dX11_next_325 (fun H locs w => ?_)
                      have he := Option.some.inj hf
                      subst he
                      exact ns_vret C w hr hlk rfl rfl dX11_next_328
                    · refine lv_iload_n C.1.1 C.1.2.1 dX11_next_308 rfl (lv_at hl 0 rfl) ?_
                      refine lv_bipush (v := 62) C.1.1 C.1.2.1 dX11_next_309 (by decide) ?_
                      refine ns_icmp_eq C hf (tgt := 320) dX11_next_311 (by decide) (fun hf => ?_) (fun hf => ?_)
                      · refine lv_iconst (v := 4) C.1.1 C.1.2.1 dX11_next_320 (by decide) ?_
                        refine lv_goto (tgt := 325) C.1.1 C.1.2.1 dX11_next_321 (by decide) ?_
                        refine ns_puti C w 62 (hI 62 (by decide)) sh_62 (rfl : vwCl[11]? = some (RX11, TX11, 59)) inX11_next_11 tyX11_ok nmX11 38 (by decide) rfl lX11_next_213 rfl rfl rfl (List.mem_of_getElem? (i := 3) rfl) dX11_next_325 (fun H locs w => ?_)
                        have he := Option.some.inj hf
                        subst he
                        exact ns_vret C w hr hlk rfl rfl dX11_next_328
                      · refine lv_iload_n C.1.1 C.1.2.1 dX11_next_314 rfl (lv_at hl 0 rfl) ?_
                        refine lv_bipush (v := 61) C.1.1 C.1.2.1 dX11_next_315 (by decide) ?_
                        refine ns_icmp_ne C hf (tgt := 324) dX11_next_317 (by decide) (fun hf => ?_) (fun hf => ?_)
                        · refine lv_iconst (v := 1) C.1.1 C.1.2.1 dX11_next_324 (by decide) ?_
                          refine ns_puti C w 62 (hI 62 (by decide)) sh_62 (rfl : vwCl[11]? = some (RX11, TX11, 59)) inX11_next_11 tyX11_ok nmX11 38 (by decide) rfl lX11_next_213 rfl rfl rfl (List.mem_of_getElem? (i := 3) rfl) dX11_next_325 (fun H locs w => ?_)
                          have he := Option.some.inj hf
                          subst he
                          exact ns_vret C w hr hlk rfl rfl dX11_next_328
                        · refine lv_iconst (v := 4) C.1.1 C.1.2.1 dX11_next_320 (by decide) ?_
                          refine lv_goto (tgt := 325) C.1.1 C.1.2.1 dX11_next_321 (by decide) ?_
                          refine ns_puti C w 62 (hI 62 (by decide)) sh_62 (rfl : vwCl[11]? = some (RX11, TX11, 59)) inX11_next_11 tyX11_ok nmX11 38 (by decide) rfl lX11_next_213 rfl rfl rfl (List.mem_of_getElem? (i := 3) rfl) dX11_next_325 (fun H locs w => ?_)
                          have he := Option.some.inj hf
                          subst he
                          exact ns_vret C w hr hlk rfl rfl dX11_next_328
            · refine lv_iconst (v := 0) C.1.1 C.1.2.1 dX11_next_188 (by decide) ?_
              refine lv_istore_n (lv' := [(2, .int 0), (1, .int o3), (0, .ref (b 62))]) C.1.1 C.1.2.1 dX11_next_189 rfl hl (by decide) rfl (fun ls hl => ?_)
              refine lv_aload_n C.1.1 C.1.2.1 dX11_next_190 rfl (lv_at hl 2 rfl) ?_
              refine lv_iconst (v := 0) C.1.1 C.1.2.1 dX11_next_191 (by decide) ?_
              refine ns_puti C w 62 (hI 62 (by decide)) sh_62 (rfl : vwCl[11]? = some (RX11, TX11, 59)) inX11_next_11 tyX11_ok nmX11 39 (by decide) rfl lX11_next_210 rfl rfl rfl (List.mem_of_getElem? (i := 1) rfl) dX11_next_192 (fun H locs w => ?_)
              exact wX11_next_62_195 N hI C hr hlk N w (lv_sub hl [2, 0] rfl) hf
          · refine lv_iconst (v := 0) C.1.1 C.1.2.1 dX11_next_72 (by decide) ?_
            refine lv_istore_n (lv' := [(2, .int 0), (1, .int o3), (0, .ref (b 62))]) C.1.1 C.1.2.1 dX11_next_73 rfl hl (by decide) rfl (fun ls hl => ?_)
            refine lv_lconst (v := 0) C.1.1 C.1.2.1 dX11_next_74 (by decide) ?_
            refine lv_lstore_n (lv' := [(3, .long 0), (2, .int 0), (1, .int o3), (0, .ref (b 62))]) C.1.1 C.1.2.1 dX11_next_75 rfl hl (by decide) rfl (fun ls hl => ?_)
            exact wX11_next_62_76 N hI C hr hlk N w (lv_sub hl [3, 1, 0] rfl) hf
        · refine lv_aload_n C.1.1 C.1.2.1 dX11_next_53 rfl (lv_at hl 1 rfl) ?_
          refine lv_iconst (v := 0) C.1.1 C.1.2.1 dX11_next_54 (by decide) ?_
          refine ns_puti C w 62 (hI 62 (by decide)) sh_62 (rfl : vwCl[11]? = some (RX11, TX11, 59)) inX11_next_11 tyX11_ok nmX11 38 (by decide) rfl lX11_next_213 rfl rfl rfl (List.mem_of_getElem? (i := 3) rfl) dX11_next_55 (fun H locs w => ?_)
          refine lv_goto (tgt := 328) C.1.1 C.1.2.1 dX11_next_58 (by decide) ?_
          have he := Option.some.inj hf
          subst he
          exact ns_vret C w hr hlk rfl rfl dX11_next_328
      · exact wX11_next_62_18 N hI C hr hlk K0 w (lv_sub hl [0] rfl) hf
set_option maxHeartbeats 4000000 in
set_option maxRecDepth 100000 in
theorem mX11_next_62 (l : Launch) (D : va_G) (b : Nat → Nat) (ids : List Nat) (hI : ∀ i, i < 107 → i ∈ ids) (N : Nat) (S : ns_S) {o : Int32 × Int32 × Int32 × Int32} (hf : fX11_next N (S.1 4003) (S.1 4004) (S.2.1 63) (S.1 4005) (S.1 4007) (S.1 4006) = some o) : ns_M l yX11_next wsX11_next rmX11_next_62 D b ids S [.ref (b 62)] none (ns_I (ns_I (ns_I (ns_I S 4006 o.2.2.2) 4003 o.2.2.1) 4007 o.2.1) 4005 o.1) := by
  refine ns_start (Wr := wrX11_next_62) (by decide) rfl (Nat.le_of_ble_eq_true rfl) ?_
  intro p e s m below meth c A ls C hr hlk w hl
  have hl : lv_has ls 6 [(0, .ref (b 62))] := hl
  unfold fX11_next at hf
  exact wX11_next_62_0 N hI C hr hlk N w (lv_sub hl [0] rfl) hf
theorem lX11_note_219 : Cond.fieldLink RX11 219 (TX11 42).1 (TX11 42).2.1 (TX11 42).2.2.1 ∈ wsX11_note := List.mem_of_getElem? (i := 1) rfl
theorem lX11_note_222 : Cond.fieldLink RX11 222 (TX11 43).1 (TX11 43).2.1 (TX11 43).2.2.1 ∈ wsX11_note := List.mem_of_getElem? (i := 2) rfl
theorem inX11_note_11 : ∀ w ∈ u_ws RX11 TX11 59, w ∈ wsX11_note := fun _ h => List.mem_cons_of_mem _ (List.mem_append_right _ h)
theorem hdX11_note : yX11_note.cls = RX11 ∧ yX11_note.cls ≠ "java/lang/invoke/MethodHandle" ∧ yX11_note.cls ≠ "java/lang/invoke/VarHandle" ∧ (parseMethodDescriptor yX11_note.desc).map (fun d => d.parameters.length) = some 2 := by decide +kernel
abbrev wrX11_note_62 : List (Nat × Nat) := [(0, 4010), (0, 4011)]
abbrev rmX11_note_62 : Room := { frames := 0, cells := 0, slots := 0, locals := 0 }
set_option maxHeartbeats 4000000 in
set_option maxRecDepth 100000 in
theorem mX11_note_62 (l : Launch) (D : va_G) (b : Nat → Nat) (ids : List Nat) (hI : ∀ i, i < 107 → i ∈ ids) (N : Nat) (S : ns_S) (p1 : Int32) (p2 : Int32) {o : Int32 × Int32} (hf : fX11_note N (S.1 4010) (S.1 4011) p1 p2 = some o) : ns_M l yX11_note wsX11_note rmX11_note_62 D b ids S [.ref (b 62), .int p1, .int p2] none (ns_I (ns_I S 4011 o.2) 4010 o.1) := by
  refine ns_start (Wr := wrX11_note_62) (by decide) rfl (Nat.le_of_ble_eq_true rfl) ?_
  intro p e s m below meth c A ls C hr hlk w hl
  have hl : lv_has ls 3 [(0, .ref (b 62)), (1, .int p1), (2, .int p2)] := hl
  unfold fX11_note at hf
  refine lv_aload_n C.1.1 C.1.2.1 dX11_note_0 rfl (lv_at hl 0 rfl) ?_
  refine ns_geti C w 62 (hI 62 (by decide)) sh_62 (rfl : vwCl[11]? = some (RX11, TX11, 59)) inX11_note_11 42 (by decide) rfl lX11_note_219 (S.1 4010) rfl dX11_note_1 ?_
  refine ns_if_ne C hf (tgt := 17) dX11_note_4 (by decide) (fun hf => ?_) (fun hf => ?_)
  · have he := Option.some.inj hf
    subst he
    exact ns_vret C w hr hlk rfl rfl dX11_note_17
  · refine lv_aload_n C.1.1 C.1.2.1 dX11_note_7 rfl (lv_at hl 0 rfl) ?_
    refine lv_iload_n C.1.1 C.1.2.1 dX11_note_8 rfl (lv_at hl 1 rfl) ?_
    refine ns_puti C w 62 (hI 62 (by decide)) sh_62 (rfl : vwCl[11]? = some (RX11, TX11, 59)) inX11_note_11 tyX11_ok nmX11 42 (by decide) rfl lX11_note_219 rfl rfl rfl (List.mem_of_getElem? (i := 0) rfl) dX11_note_9 (fun H locs w => ?_)
    refine lv_aload_n C.1.1 C.1.2.1 dX11_note_12 rfl (lv_at hl 0 rfl) ?_
    refine lv_iload_n C.1.1 C.1.2.1 dX11_note_13 rfl (lv_at hl 2 rfl) ?_
    refine ns_puti C w 62 (hI 62 (by decide)) sh_62 (rfl : vwCl[11]? = some (RX11, TX11, 59)) inX11_note_11 tyX11_ok nmX11 43 (by decide) rfl lX11_note_222 rfl rfl rfl (List.mem_of_getElem? (i := 1) rfl) dX11_note_14 (fun H locs w => ?_)
    have he := Option.some.inj hf
    subst he
    exact ns_vret C w hr hlk rfl rfl dX11_note_17
theorem lX11_isWord_210 : Cond.fieldLink RX11 210 (TX11 39).1 (TX11 39).2.1 (TX11 39).2.2.1 ∈ wsX11_isWord := List.mem_of_getElem? (i := 2) rfl
theorem lX11_isWord_213 : Cond.fieldLink RX11 213 (TX11 38).1 (TX11 38).2.1 (TX11 38).2.2.1 ∈ wsX11_isWord := List.mem_of_getElem? (i := 1) rfl
theorem inX11_isWord_11 : ∀ w ∈ u_ws RX11 TX11 59, w ∈ wsX11_isWord := fun _ h => List.mem_cons_of_mem _ (List.mem_append_right _ h)
theorem hdX11_isWord : yX11_isWord.cls = RX11 ∧ yX11_isWord.cls ≠ "java/lang/invoke/MethodHandle" ∧ yX11_isWord.cls ≠ "java/lang/invoke/VarHandle" ∧ (parseMethodDescriptor yX11_isWord.desc).map (fun d => d.parameters.length) = some 1 := by decide +kernel
abbrev wrX11_isWord_62 : List (Nat × Nat) := []
abbrev rmX11_isWord_62 : Room := { frames := 0, cells := 0, slots := 0, locals := 0 }
set_option maxHeartbeats 4000000 in
set_option maxRecDepth 100000 in
theorem mX11_isWord_62 (l : Launch) (D : va_G) (b : Nat → Nat) (ids : List Nat) (hI : ∀ i, i < 107 → i ∈ ids) (N : Nat) (S : ns_S) (p1 : Int32) {o : Int32} (hf : fX11_isWord N (S.1 4006) (S.1 4007) p1 = some o) : ns_M l yX11_isWord wsX11_isWord rmX11_isWord_62 D b ids S [.ref (b 62), .int p1] (some (.int o)) S := by
  refine ns_start (Wr := wrX11_isWord_62) (by decide) rfl (Nat.le_of_ble_eq_true rfl) ?_
  intro p e s m below meth c A ls C hr hlk w hl
  have hl : lv_has ls 2 [(0, .ref (b 62)), (1, .int p1)] := hl
  unfold fX11_isWord at hf
  refine lv_aload_n C.1.1 C.1.2.1 dX11_isWord_0 rfl (lv_at hl 0 rfl) ?_
  refine ns_geti C w 62 (hI 62 (by decide)) sh_62 (rfl : vwCl[11]? = some (RX11, TX11, 59)) inX11_isWord_11 38 (by decide) rfl lX11_isWord_213 (S.1 4006) rfl dX11_isWord_1 ?_
  refine lv_iconst (v := 2) C.1.1 C.1.2.1 dX11_isWord_4 (by decide) ?_
  refine ns_icmp_ne C hf (tgt := 20) dX11_isWord_5 (by decide) (fun hf => ?_) (fun hf => ?_)
  · refine lv_iconst (v := 0) C.1.1 C.1.2.1 dX11_isWord_20 (by decide) ?_
    have he := Option.some.inj hf
    subst he
    exact ns_zret C w hr hlk rfl (Or.inl rfl) rfl dX11_isWord_21
  · refine lv_aload_n C.1.1 C.1.2.1 dX11_isWord_8 rfl (lv_at hl 0 rfl) ?_
    refine ns_geti C w 62 (hI 62 (by decide)) sh_62 (rfl : vwCl[11]? = some (RX11, TX11, 59)) inX11_isWord_11 39 (by decide) rfl lX11_isWord_210 (S.1 4007) rfl dX11_isWord_9 ?_
    refine lv_iload_n C.1.1 C.1.2.1 dX11_isWord_12 rfl (lv_at hl 1 rfl) ?_
    refine ns_icmp_ne C hf (tgt := 20) dX11_isWord_13 (by decide) (fun hf => ?_) (fun hf => ?_)
    · refine lv_iconst (v := 0) C.1.1 C.1.2.1 dX11_isWord_20 (by decide) ?_
      have he := Option.some.inj hf
      subst he
      exact ns_zret C w hr hlk rfl (Or.inl rfl) rfl dX11_isWord_21
    · refine lv_iconst (v := 1) C.1.1 C.1.2.1 dX11_isWord_16 (by decide) ?_
      refine lv_goto (tgt := 21) C.1.1 C.1.2.1 dX11_isWord_17 (by decide) ?_
      have he := Option.some.inj hf
      subst he
      exact ns_zret C w hr hlk rfl (Or.inr rfl) rfl dX11_isWord_21
theorem lX11_isSign_210 : Cond.fieldLink RX11 210 (TX11 39).1 (TX11 39).2.1 (TX11 39).2.2.1 ∈ wsX11_isSign := List.mem_of_getElem? (i := 2) rfl
theorem lX11_isSign_213 : Cond.fieldLink RX11 213 (TX11 38).1 (TX11 38).2.1 (TX11 38).2.2.1 ∈ wsX11_isSign := List.mem_of_getElem? (i := 1) rfl
theorem inX11_isSign_11 : ∀ w ∈ u_ws RX11 TX11 59, w ∈ wsX11_isSign := fun _ h => List.mem_cons_of_mem _ (List.mem_append_right _ h)
theorem hdX11_isSign : yX11_isSign.cls = RX11 ∧ yX11_isSign.cls ≠ "java/lang/invoke/MethodHandle" ∧ yX11_isSign.cls ≠ "java/lang/invoke/VarHandle" ∧ (parseMethodDescriptor yX11_isSign.desc).map (fun d => d.parameters.length) = some 1 := by decide +kernel
abbrev wrX11_isSign_62 : List (Nat × Nat) := []
abbrev rmX11_isSign_62 : Room := { frames := 0, cells := 0, slots := 0, locals := 0 }
set_option maxHeartbeats 4000000 in
set_option maxRecDepth 100000 in
theorem mX11_isSign_62 (l : Launch) (D : va_G) (b : Nat → Nat) (ids : List Nat) (hI : ∀ i, i < 107 → i ∈ ids) (N : Nat) (S : ns_S) (p1 : Int32) {o : Int32} (hf : fX11_isSign N (S.1 4006) (S.1 4007) p1 = some o) : ns_M l yX11_isSign wsX11_isSign rmX11_isSign_62 D b ids S [.ref (b 62), .int p1] (some (.int o)) S := by
  refine ns_start (Wr := wrX11_isSign_62) (by decide) rfl (Nat.le_of_ble_eq_true rfl) ?_
  intro p e s m below meth c A ls C hr hlk w hl
  have hl : lv_has ls 2 [(0, .ref (b 62)), (1, .int p1)] := hl
  unfold fX11_isSign at hf
  refine lv_aload_n C.1.1 C.1.2.1 dX11_isSign_0 rfl (lv_at hl 0 rfl) ?_
  refine ns_geti C w 62 (hI 62 (by decide)) sh_62 (rfl : vwCl[11]? = some (RX11, TX11, 59)) inX11_isSign_11 38 (by decide) rfl lX11_isSign_213 (S.1 4006) rfl dX11_isSign_1 ?_
  refine lv_iconst (v := 4) C.1.1 C.1.2.1 dX11_isSign_4 (by decide) ?_
  refine ns_icmp_ne C hf (tgt := 20) dX11_isSign_5 (by decide) (fun hf => ?_) (fun hf => ?_)
  · refine lv_iconst (v := 0) C.1.1 C.1.2.1 dX11_isSign_20 (by decide) ?_
    have he := Option.some.inj hf
    subst he
    exact ns_zret C w hr hlk rfl (Or.inl rfl) rfl dX11_isSign_21
  · refine lv_aload_n C.1.1 C.1.2.1 dX11_isSign_8 rfl (lv_at hl 0 rfl) ?_
    refine ns_geti C w 62 (hI 62 (by decide)) sh_62 (rfl : vwCl[11]? = some (RX11, TX11, 59)) inX11_isSign_11 39 (by decide) rfl lX11_isSign_210 (S.1 4007) rfl dX11_isSign_9 ?_
    refine lv_iload_n C.1.1 C.1.2.1 dX11_isSign_12 rfl (lv_at hl 1 rfl) ?_
    refine ns_icmp_ne C hf (tgt := 20) dX11_isSign_13 (by decide) (fun hf => ?_) (fun hf => ?_)
    · refine lv_iconst (v := 0) C.1.1 C.1.2.1 dX11_isSign_20 (by decide) ?_
      have he := Option.some.inj hf
      subst he
      exact ns_zret C w hr hlk rfl (Or.inl rfl) rfl dX11_isSign_21
    · refine lv_iconst (v := 1) C.1.1 C.1.2.1 dX11_isSign_16 (by decide) ?_
      refine lv_goto (tgt := 21) C.1.1 C.1.2.1 dX11_isSign_17 (by decide) ?_
      have he := Option.some.inj hf
      subst he
      exact ns_zret C w hr hlk rfl (Or.inr rfl) rfl dX11_isSign_21
theorem lX11_wrong_111 : Cond.fieldLink RX11 111 (TX11 41).1 (TX11 41).2.1 (TX11 41).2.2.1 ∈ wsX11_wrong := List.mem_of_getElem? (i := 3) rfl
theorem lX11_wrong_207 : Cond.fieldLink RX11 207 (TX11 37).1 (TX11 37).2.1 (TX11 37).2.2.1 ∈ wsX11_wrong := List.mem_of_getElem? (i := 2) rfl
theorem lX11_wrong_216 : Cond.fieldLink RX11 216 (TX11 40).1 (TX11 40).2.1 (TX11 40).2.2.1 ∈ wsX11_wrong := List.mem_of_getElem? (i := 1) rfl
theorem inX11_wrong_11 : ∀ w ∈ u_ws RX11 TX11 59, w ∈ wsX11_wrong := fun _ h => List.mem_cons_of_mem _ (List.mem_append_right _ h)
theorem hdX11_wrong : yX11_wrong.cls = RX11 ∧ yX11_wrong.cls ≠ "java/lang/invoke/MethodHandle" ∧ yX11_wrong.cls ≠ "java/lang/invoke/VarHandle" ∧ (parseMethodDescriptor yX11_wrong.desc).map (fun d => d.parameters.length) = some 0 := by decide +kernel
abbrev wrX11_wrong_62 : List (Nat × Nat) := [(0, 4008), (0, 4009)]
abbrev rmX11_wrong_62 : Room := { frames := 0, cells := 0, slots := 0, locals := 0 }
set_option maxHeartbeats 4000000 in
set_option maxRecDepth 100000 in
theorem mX11_wrong_62 (l : Launch) (D : va_G) (b : Nat → Nat) (ids : List Nat) (hI : ∀ i, i < 107 → i ∈ ids) (N : Nat) (S : ns_S) {o : Int32 × Int32 × Int32} (hf : fX11_wrong N (S.1 4008) (S.1 4005) (S.1 4009) = some o) : ns_M l yX11_wrong wsX11_wrong rmX11_wrong_62 D b ids S [.ref (b 62)] (some (.int o.1)) (ns_I (ns_I S 4009 o.2.2) 4008 o.2.1) := by
  refine ns_start (Wr := wrX11_wrong_62) (by decide) rfl (Nat.le_of_ble_eq_true rfl) ?_
  intro p e s m below meth c A ls C hr hlk w hl
  have hl : lv_has ls 1 [(0, .ref (b 62))] := hl
  unfold fX11_wrong at hf
  refine lv_aload_n C.1.1 C.1.2.1 dX11_wrong_0 rfl (lv_at hl 0 rfl) ?_
  refine lv_iconst (v := 1) C.1.1 C.1.2.1 dX11_wrong_1 (by decide) ?_
  refine ns_puti C w 62 (hI 62 (by decide)) sh_62 (rfl : vwCl[11]? = some (RX11, TX11, 59)) inX11_wrong_11 tyX11_ok nmX11 40 (by decide) rfl lX11_wrong_216 rfl rfl rfl (List.mem_of_getElem? (i := 0) rfl) dX11_wrong_2 (fun H locs w => ?_)
  refine lv_aload_n C.1.1 C.1.2.1 dX11_wrong_5 rfl (lv_at hl 0 rfl) ?_
  refine lv_aload_n C.1.1 C.1.2.1 dX11_wrong_6 rfl (lv_at hl 0 rfl) ?_
  refine ns_geti C w 62 (hI 62 (by decide)) sh_62 (rfl : vwCl[11]? = some (RX11, TX11, 59)) inX11_wrong_11 37 (by decide) rfl lX11_wrong_207 (S.1 4005) rfl dX11_wrong_7 ?_
  refine ns_puti C w 62 (hI 62 (by decide)) sh_62 (rfl : vwCl[11]? = some (RX11, TX11, 59)) inX11_wrong_11 tyX11_ok nmX11 41 (by decide) rfl lX11_wrong_111 rfl rfl rfl (List.mem_of_getElem? (i := 1) rfl) dX11_wrong_10 (fun H locs w => ?_)
  refine lv_iconst (v := 0) C.1.1 C.1.2.1 dX11_wrong_13 (by decide) ?_
  have he := Option.some.inj hf
  subst he
  exact ns_zret C w hr hlk rfl (Or.inl rfl) rfl dX11_wrong_14
theorem hdX11_need : yX11_need.cls = RX11 ∧ yX11_need.cls ≠ "java/lang/invoke/MethodHandle" ∧ yX11_need.cls ≠ "java/lang/invoke/VarHandle" ∧ (parseMethodDescriptor yX11_need.desc).map (fun d => d.parameters.length) = some 1 := by decide +kernel
abbrev wrX11_need_62 : List (Nat × Nat) := [(0, 4005), (0, 4007), (0, 4003), (0, 4006), (0, 4008), (0, 4009)]
abbrev rmX11_need_62 : Room := { frames := 2, cells := 0, slots := 0, locals := 47 }
set_option maxHeartbeats 4000000 in
set_option maxRecDepth 100000 in
theorem mX11_need_62 (l : Launch) (D : va_G) (b : Nat → Nat) (ids : List Nat) (hI : ∀ i, i < 107 → i ∈ ids) (N : Nat) (S : ns_S) (p1 : Int32) {o : Int32 × Int32 × Int32 × Int32 × Int32 × Int32 × Int32} (hf : fX11_need N (S.1 4006) (S.1 4007) (S.1 4003) (S.1 4004) (S.2.1 63) (S.1 4005) (S.1 4008) (S.1 4009) p1 = some o) : ns_M l yX11_need wsX11_need rmX11_need_62 D b ids S [.ref (b 62), .int p1] (some (.int o.1)) (ns_I (ns_I (ns_I (ns_I (ns_I (ns_I S 4009 o.2.2.2.2.2.2) 4008 o.2.2.2.2.2.1) 4006 o.2.2.2.2.1) 4003 o.2.2.2.1) 4007 o.2.2.1) 4005 o.2.1) := by
  refine ns_start (Wr := wrX11_need_62) (by decide) rfl (Nat.le_of_ble_eq_true rfl) ?_
  intro p e s m below meth c A ls C hr hlk w hl
  have hl : lv_has ls 2 [(0, .ref (b 62)), (1, .int p1)] := hl
  unfold fX11_need at hf
  refine lv_aload_n C.1.1 C.1.2.1 dX11_need_0 rfl (lv_at hl 0 rfl) ?_
  refine lv_iload_n C.1.1 C.1.2.1 dX11_need_1 rfl (lv_at hl 1 rfl) ?_
  refine ns_callV C w 62 (hI 62 (by decide)) sh_62 (rfl : vwCl[11]? = some (RX11, TX11, 59)) [.int p1] hf (fun u hu => mX11_isSign_62 l D b ids hI N _ p1 hu) gX11_need_X11_isSign rfl rfl rfl hdX11_isSign ⟨Nat.le_of_ble_eq_true rfl, Nat.le_of_ble_eq_true rfl⟩ (fun u h => h) rfl hl.1 rfl (Nat.le_of_ble_eq_true rfl) ⟨Nat.le_refl _, Nat.le_refl _⟩ dX11_need_2 (fun o1 H locs hf w => ?_)
  refine ns_if_ne C hf (tgt := 13) dX11_need_5 (by decide) (fun hf => ?_) (fun hf => ?_)
  · refine lv_aload_n C.1.1 C.1.2.1 dX11_need_13 rfl (lv_at hl 0 rfl) ?_
    refine ns_callV C w 62 (hI 62 (by decide)) sh_62 (rfl : vwCl[11]? = some (RX11, TX11, 59)) [] hf (fun u hu => mX11_next_62 l D b ids hI N _ hu) gX11_need_X11_next rfl rfl rfl hdX11_next ⟨Nat.le_of_ble_eq_true rfl, Nat.le_of_ble_eq_true rfl⟩ (fun u h => ((((h.I (List.mem_of_getElem? (i := 3) rfl) _).I (List.mem_of_getElem? (i := 2) rfl) _).I (List.mem_of_getElem? (i := 1) rfl) _).I (List.mem_of_getElem? (i := 0) rfl) _)) rfl hl.1 rfl (Nat.le_of_ble_eq_true rfl) ⟨Nat.le_refl _, Nat.le_refl _⟩ dX11_need_14 (fun o2 H locs hf w => ?_)
    refine lv_iconst (v := 1) C.1.1 C.1.2.1 dX11_need_17 (by decide) ?_
    have he := Option.some.inj hf
    subst he
    exact ns_zret C w hr hlk rfl (Or.inr rfl) rfl dX11_need_18
  · refine lv_aload_n C.1.1 C.1.2.1 dX11_need_8 rfl (lv_at hl 0 rfl) ?_
    refine ns_callV C w 62 (hI 62 (by decide)) sh_62 (rfl : vwCl[11]? = some (RX11, TX11, 59)) [] hf (fun u hu => mX11_wrong_62 l D b ids hI N _ hu) gX11_need_X11_wrong rfl rfl rfl hdX11_wrong ⟨Nat.le_of_ble_eq_true rfl, Nat.le_of_ble_eq_true rfl⟩ (fun u h => ((h.I (List.mem_of_getElem? (i := 5) rfl) _).I (List.mem_of_getElem? (i := 4) rfl) _)) rfl hl.1 rfl (Nat.le_of_ble_eq_true rfl) ⟨Nat.le_refl _, Nat.le_refl _⟩ dX11_need_9 (fun o3 H locs hf w => ?_)
    obtain ⟨hz, hf⟩ := ns_zb_some hf
    have he := Option.some.inj hf
    subst he
    exact ns_zret C w hr hlk rfl hz rfl dX11_need_12
theorem lX11_number_210 : Cond.fieldLink RX11 210 (TX11 39).1 (TX11 39).2.1 (TX11 39).2.2.1 ∈ wsX11_number := List.mem_of_getElem? (i := 2) rfl
theorem lX11_number_213 : Cond.fieldLink RX11 213 (TX11 38).1 (TX11 38).2.1 (TX11 38).2.2.1 ∈ wsX11_number := List.mem_of_getElem? (i := 1) rfl
theorem lX11_number_236 : Cond.fieldLink RX11 236 (TX11 44).1 (TX11 44).2.1 (TX11 44).2.2.1 ∈ wsX11_number := List.mem_of_getElem? (i := 3) rfl
theorem inX11_number_11 : ∀ w ∈ u_ws RX11 TX11 59, w ∈ wsX11_number := fun _ h => List.mem_cons_of_mem _ (List.mem_append_right _ h)
theorem hdX11_number : yX11_number.cls = RX11 ∧ yX11_number.cls ≠ "java/lang/invoke/MethodHandle" ∧ yX11_number.cls ≠ "java/lang/invoke/VarHandle" ∧ (parseMethodDescriptor yX11_number.desc).map (fun d => d.parameters.length) = some 0 := by decide +kernel
abbrev wrX11_number_62 : List (Nat × Nat) := [(0, 4012), (0, 4005), (0, 4007), (0, 4003), (0, 4006), (0, 4008), (0, 4009)]
abbrev rmX11_number_62 : Room := { frames := 2, cells := 0, slots := 0, locals := 47 }
set_option maxHeartbeats 4000000 in
set_option maxRecDepth 100000 in
theorem mX11_number_62 (l : Launch) (D : va_G) (b : Nat → Nat) (ids : List Nat) (hI : ∀ i, i < 107 → i ∈ ids) (N : Nat) (S : ns_S) {o : Int32 × Int32 × Int32 × Int32 × Int32 × Int32 × Int32 × Int32} (hf : fX11_number N (S.1 4006) (S.1 4007) (S.1 4012) (S.1 4003) (S.1 4004) (S.2.1 63) (S.1 4005) (S.1 4008) (S.1 4009) = some o) : ns_M l yX11_number wsX11_number rmX11_number_62 D b ids S [.ref (b 62)] (some (.int o.1)) (ns_I (ns_I (ns_I (ns_I (ns_I (ns_I (ns_I S 4009 o.2.2.2.2.2.2.2) 4008 o.2.2.2.2.2.2.1) 4006 o.2.2.2.2.2.1) 4003 o.2.2.2.2.1) 4007 o.2.2.2.1) 4005 o.2.2.1) 4012 o.2.1) := by
  refine ns_start (Wr := wrX11_number_62) (by decide) rfl (Nat.le_of_ble_eq_true rfl) ?_
  intro p e s m below meth c A ls C hr hlk w hl
  have hl : lv_has ls 1 [(0, .ref (b 62))] := hl
  unfold fX11_number at hf
  refine lv_aload_n C.1.1 C.1.2.1 dX11_number_0 rfl (lv_at hl 0 rfl) ?_
  refine ns_geti C w 62 (hI 62 (by decide)) sh_62 (rfl : vwCl[11]? = some (RX11, TX11, 59)) inX11_number_11 38 (by decide) rfl lX11_number_213 (S.1 4006) rfl dX11_number_1 ?_
  refine lv_iconst (v := 3) C.1.1 C.1.2.1 dX11_number_4 (by decide) ?_
  refine ns_icmp_eq C hf (tgt := 13) dX11_number_5 (by decide) (fun hf => ?_) (fun hf => ?_)
  · refine lv_aload_n C.1.1 C.1.2.1 dX11_number_13 rfl (lv_at hl 0 rfl) ?_
    refine lv_aload_n C.1.1 C.1.2.1 dX11_number_14 rfl (lv_at hl 0 rfl) ?_
    refine ns_geti C w 62 (hI 62 (by decide)) sh_62 (rfl : vwCl[11]? = some (RX11, TX11, 59)) inX11_number_11 39 (by decide) rfl lX11_number_210 (S.1 4007) rfl dX11_number_15 ?_
    refine ns_puti C w 62 (hI 62 (by decide)) sh_62 (rfl : vwCl[11]? = some (RX11, TX11, 59)) inX11_number_11 tyX11_ok nmX11 44 (by decide) rfl lX11_number_236 rfl rfl rfl (List.mem_of_getElem? (i := 0) rfl) dX11_number_18 (fun H locs w => ?_)
    refine lv_aload_n C.1.1 C.1.2.1 dX11_number_21 rfl (lv_at hl 0 rfl) ?_
    refine ns_callV C w 62 (hI 62 (by decide)) sh_62 (rfl : vwCl[11]? = some (RX11, TX11, 59)) [] hf (fun u hu => mX11_next_62 l D b ids hI N _ hu) gX11_number_X11_next rfl rfl rfl hdX11_next ⟨Nat.le_of_ble_eq_true rfl, Nat.le_of_ble_eq_true rfl⟩ (fun u h => ((((h.I (List.mem_of_getElem? (i := 4) rfl) _).I (List.mem_of_getElem? (i := 3) rfl) _).I (List.mem_of_getElem? (i := 2) rfl) _).I (List.mem_of_getElem? (i := 1) rfl) _)) rfl hl.1 rfl (Nat.le_of_ble_eq_true rfl) ⟨Nat.le_refl _, Nat.le_refl _⟩ dX11_number_22 (fun o1 H locs hf w => ?_)
    refine lv_iconst (v := 1) C.1.1 C.1.2.1 dX11_number_25 (by decide) ?_
    have he := Option.some.inj hf
    subst he
    exact ns_zret C w hr hlk rfl (Or.inr rfl) rfl dX11_number_26
  · refine lv_aload_n C.1.1 C.1.2.1 dX11_number_8 rfl (lv_at hl 0 rfl) ?_
    refine ns_callV C w 62 (hI 62 (by decide)) sh_62 (rfl : vwCl[11]? = some (RX11, TX11, 59)) [] hf (fun u hu => mX11_wrong_62 l D b ids hI N _ hu) gX11_number_X11_wrong rfl rfl rfl hdX11_wrong ⟨Nat.le_of_ble_eq_true rfl, Nat.le_of_ble_eq_true rfl⟩ (fun u h => ((h.I (List.mem_of_getElem? (i := 6) rfl) _).I (List.mem_of_getElem? (i := 5) rfl) _)) rfl hl.1 rfl (Nat.le_of_ble_eq_true rfl) ⟨Nat.le_refl _, Nat.le_refl _⟩ dX11_number_9 (fun o2 H locs hf w => ?_)
    obtain ⟨hz, hf⟩ := ns_zb_some hf
    have he := Option.some.inj hf
    subst he
    exact ns_zret C w hr hlk rfl hz rfl dX11_number_12
theorem lX11_test_115 : Cond.fieldLink RX11 115 (TX11 46).1 (TX11 46).2.1 (TX11 46).2.2.1 ∈ wsX11_test := List.mem_of_getElem? (i := 8) rfl
theorem lX11_test_118 : Cond.fieldLink RX11 118 (TX11 47).1 (TX11 47).2.1 (TX11 47).2.2.1 ∈ wsX11_test := List.mem_of_getElem? (i := 4) rfl
theorem lX11_test_121 : Cond.fieldLink RX11 121 (TX11 48).1 (TX11 48).2.1 (TX11 48).2.2.1 ∈ wsX11_test := List.mem_of_getElem? (i := 5) rfl
theorem lX11_test_124 : Cond.fieldLink RX11 124 (TX11 49).1 (TX11 49).2.1 (TX11 49).2.2.1 ∈ wsX11_test := List.mem_of_getElem? (i := 6) rfl
theorem lX11_test_207 : Cond.fieldLink RX11 207 (TX11 37).1 (TX11 37).2.1 (TX11 37).2.2.1 ∈ wsX11_test := List.mem_of_getElem? (i := 1) rfl
theorem lX11_test_210 : Cond.fieldLink RX11 210 (TX11 39).1 (TX11 39).2.1 (TX11 39).2.2.1 ∈ wsX11_test := List.mem_of_getElem? (i := 2) rfl
theorem lX11_test_213 : Cond.fieldLink RX11 213 (TX11 38).1 (TX11 38).2.1 (TX11 38).2.2.1 ∈ wsX11_test := List.mem_of_getElem? (i := 3) rfl
theorem lX11_test_236 : Cond.fieldLink RX11 236 (TX11 44).1 (TX11 44).2.1 (TX11 44).2.2.1 ∈ wsX11_test := List.mem_of_getElem? (i := 7) rfl
theorem inX11_test_11 : ∀ w ∈ u_ws RX11 TX11 59, w ∈ wsX11_test := fun _ h => List.mem_cons_of_mem _ (List.mem_append_right _ h)
theorem hdX11_test : yX11_test.cls = RX11 ∧ yX11_test.cls ≠ "java/lang/invoke/MethodHandle" ∧ yX11_test.cls ≠ "java/lang/invoke/VarHandle" ∧ (parseMethodDescriptor yX11_test.desc).map (fun d => d.parameters.length) = some 2 := by decide +kernel
abbrev wrX11_test_62 : List (Nat × Nat) := [(0, 4010), (0, 4011), (0, 4005), (0, 4007), (0, 4003), (0, 4006), (0, 4012), (0, 4008), (0, 4009), (1, 97), (1, 98), (1, 99), (1, 96)]
abbrev rmX11_test_62 : Room := { frames := 3, cells := 0, slots := 0, locals := 67 }
set_option maxHeartbeats 4000000 in
set_option maxRecDepth 100000 in
theorem wX11_test_62_30 {p : Program} {l : Launch} {e : Env} {s : State} {m : MethodId} {args : Array Value} {below : List Frame} {meth : Method} {c : Code} {D : va_G} {b : Nat → Nat} {ids : List Nat} {A : Nat → Prop} {S0 : ns_S} {o : Int32 × Int32 × Int32 × Int32 × Int32 × Int32 × Int32 × Int32 × Int32 × Int32 × (Nat → Int32) × (Nat → Int32) × (Nat → Int32) × (Nat → Int32)} (N : Nat) (hI : ∀ i, i < 107 → i ∈ ids) (C : ns_C p m c cX11_test 7 s args wsX11_test RX11 D A) (hr : meth.sig.returnType = some .boolean) (hlk : meth.locks = false) : ∀ {S : ns_S} {H : Heap} {locs : List Loc} {ls : Array Slot}, ns_W D b ids A s.heap wrX11_test_62 S0 S H locs → lv_has ls 7 [(0, .ref (b 62))] → gX11_test_30 N (S.1 4005) (S.1 4007) (S.1 4006) (S.1 4010) (S.1 4011) (S.1 4003) (S.1 4004) (S.2.1 63) (S.1 4012) (S.1 4008) (S.1 4009) (S.2.1 97) (S.2.1 98) (S.2.1 99) (S.2.1 96) = some o → W p l e rmX11_test_62 s m args below meth c H locs 0 0 (MQ below (ns_Q D b ids (ns_I (ns_I (ns_I (ns_I (ns_I (ns_I (ns_I (ns_I (ns_I (ns_A (ns_A (ns_A (ns_A S0 96 o.2.2.2.2.2.2.2.2.2.2.2.2.2) 99 o.2.2.2.2.2.2.2.2.2.2.2.2.1) 98 o.2.2.2.2.2.2.2.2.2.2.2.1) 97 o.2.2.2.2.2.2.2.2.2.2.1) 4009 o.2.2.2.2.2.2.2.2.2.1) 4008 o.2.2.2.2.2.2.2.2.1) 4012 o.2.2.2.2.2.2.2.1) 4006 o.2.2.2.2.2.2.1) 4003 o.2.2.2.2.2.1) 4007 o.2.2.2.2.1) 4005 o.2.2.2.1) 4011 o.2.2.1) 4010 o.2.1) (some (.int o.1)) A) args s 0 0 A) (F0 m 30 ls []) := by
  intro S H locs ls w hl hf
  unfold gX11_test_30 at hf
  refine lv_aload_n C.1.1 C.1.2.1 dX11_test_30 rfl (lv_at hl 0 rfl) ?_
  refine ns_callV C w 62 (hI 62 (by decide)) sh_62 (rfl : vwCl[11]? = some (RX11, TX11, 59)) [] hf (fun u hu => mX11_wrong_62 l D b ids hI N _ hu) gX11_test_X11_wrong rfl rfl rfl hdX11_wrong ⟨Nat.le_of_ble_eq_true rfl, Nat.le_of_ble_eq_true rfl⟩ (fun u h => ((h.I (List.mem_of_getElem? (i := 8) rfl) _).I (List.mem_of_getElem? (i := 7) rfl) _)) rfl hl.1 rfl (Nat.le_of_ble_eq_true rfl) ⟨Nat.le_refl _, Nat.le_refl _⟩ dX11_test_31 (fun o1 H locs hf w => ?_)
  obtain ⟨hz, hf⟩ := ns_zb_some hf
  have he := Option.some.inj hf
  subst he
  exact ns_zret C w hr hlk rfl hz rfl dX11_test_34
set_option maxHeartbeats 4000000 in
set_option maxRecDepth 100000 in
theorem wX11_test_62_85 {p : Program} {l : Launch} {e : Env} {s : State} {m : MethodId} {args : Array Value} {below : List Frame} {meth : Method} {c : Code} {D : va_G} {b : Nat → Nat} {ids : List Nat} {A : Nat → Prop} {S0 : ns_S} {o : Int32 × Int32 × Int32 × Int32 × Int32 × Int32 × Int32 × Int32 × Int32 × Int32 × (Nat → Int32) × (Nat → Int32) × (Nat → Int32) × (Nat → Int32)} (N : Nat) (hI : ∀ i, i < 107 → i ∈ ids) (C : ns_C p m c cX11_test 7 s args wsX11_test RX11 D A) (hr : meth.sig.returnType = some .boolean) (hlk : meth.locks = false) : ∀ {S : ns_S} {H : Heap} {locs : List Loc} {ls : Array Slot}, ns_W D b ids A s.heap wrX11_test_62 S0 S H locs → lv_has ls 7 [(0, .ref (b 62))] → gX11_test_85 N (S.1 4005) (S.1 4007) (S.1 4006) (S.1 4010) (S.1 4011) (S.1 4003) (S.1 4004) (S.2.1 63) (S.1 4012) (S.1 4008) (S.1 4009) (S.2.1 97) (S.2.1 98) (S.2.1 99) (S.2.1 96) = some o → W p l e rmX11_test_62 s m args below meth c H locs 0 0 (MQ below (ns_Q D b ids (ns_I (ns_I (ns_I (ns_I (ns_I (ns_I (ns_I (ns_I (ns_I (ns_A (ns_A (ns_A (ns_A S0 96 o.2.2.2.2.2.2.2.2.2.2.2.2.2) 99 o.2.2.2.2.2.2.2.2.2.2.2.2.1) 98 o.2.2.2.2.2.2.2.2.2.2.2.1) 97 o.2.2.2.2.2.2.2.2.2.2.1) 4009 o.2.2.2.2.2.2.2.2.2.1) 4008 o.2.2.2.2.2.2.2.2.1) 4012 o.2.2.2.2.2.2.2.1) 4006 o.2.2.2.2.2.2.1) 4003 o.2.2.2.2.2.1) 4007 o.2.2.2.2.1) 4005 o.2.2.2.1) 4011 o.2.2.1) 4010 o.2.1) (some (.int o.1)) A) args s 0 0 A) (F0 m 85 ls []) := by
  intro S H locs ls w hl hf
  unfold gX11_test_85 at hf
  refine lv_aload_n C.1.1 C.1.2.1 dX11_test_85 rfl (lv_at hl 0 rfl) ?_
  refine ns_callV C w 62 (hI 62 (by decide)) sh_62 (rfl : vwCl[11]? = some (RX11, TX11, 59)) [] hf (fun u hu => mX11_wrong_62 l D b ids hI N _ hu) gX11_test_X11_wrong rfl rfl rfl hdX11_wrong ⟨Nat.le_of_ble_eq_true rfl, Nat.le_of_ble_eq_true rfl⟩ (fun u h => ((h.I (List.mem_of_getElem? (i := 8) rfl) _).I (List.mem_of_getElem? (i := 7) rfl) _)) rfl hl.1 rfl (Nat.le_of_ble_eq_true rfl) ⟨Nat.le_refl _, Nat.le_refl _⟩ dX11_test_86 (fun o1 H locs hf w => ?_)
  obtain ⟨hz, hf⟩ := ns_zb_some hf
  have he := Option.some.inj hf
  subst he
  exact ns_zret C w hr hlk rfl hz rfl dX11_test_89
set_option maxHeartbeats 4000000 in
set_option maxRecDepth 100000 in
theorem wX11_test_62_90 {p : Program} {l : Launch} {e : Env} {s : State} {m : MethodId} {args : Array Value} {below : List Frame} {meth : Method} {c : Code} {D : va_G} {b : Nat → Nat} {ids : List Nat} {A : Nat → Prop} {S0 : ns_S} {o : Int32 × Int32 × Int32 × Int32 × Int32 × Int32 × Int32 × Int32 × Int32 × Int32 × (Nat → Int32) × (Nat → Int32) × (Nat → Int32) × (Nat → Int32)} (N : Nat) (hI : ∀ i, i < 107 → i ∈ ids) (C : ns_C p m c cX11_test 7 s args wsX11_test RX11 D A) (hr : meth.sig.returnType = some .boolean) (hlk : meth.locks = false) : ∀ {S : ns_S} {H : Heap} {locs : List Loc} {ls : Array Slot} {l1 : Int32} {l2 : Int32} {l4 : Int32} {l5 : Int32}, ns_W D b ids A s.heap wrX11_test_62 S0 S H locs → lv_has ls 7 [(0, .ref (b 62)), (1, .int l1), (2, .int l2), (4, .int l4), (5, .int l5)] → gX11_test_90 N (S.1 4005) (S.1 4007) (S.1 4006) (S.1 4010) (S.1 4011) (S.1 4003) (S.1 4004) (S.2.1 63) (S.1 4012) (S.1 4008) (S.1 4009) (S.2.1 97) (S.2.1 98) (S.2.1 99) (S.2.1 96) l1 l2 l4 l5 = some o → W p l e rmX11_test_62 s m args below meth c H locs 0 0 (MQ below (ns_Q D b ids (ns_I (ns_I (ns_I (ns_I (ns_I (ns_I (ns_I (ns_I (ns_I (ns_A (ns_A (ns_A (ns_A S0 96 o.2.2.2.2.2.2.2.2.2.2.2.2.2) 99 o.2.2.2.2.2.2.2.2.2.2.2.2.1) 98 o.2.2.2.2.2.2.2.2.2.2.2.1) 97 o.2.2.2.2.2.2.2.2.2.2.1) 4009 o.2.2.2.2.2.2.2.2.2.1) 4008 o.2.2.2.2.2.2.2.2.1) 4012 o.2.2.2.2.2.2.2.1) 4006 o.2.2.2.2.2.2.1) 4003 o.2.2.2.2.2.1) 4007 o.2.2.2.2.1) 4005 o.2.2.2.1) 4011 o.2.2.1) 4010 o.2.1) (some (.int o.1)) A) args s 0 0 A) (F0 m 90 ls []) := by
  intro S H locs ls l1 l2 l4 l5 w hl hf
  unfold gX11_test_90 at hf
  refine lv_aload_n C.1.1 C.1.2.1 dX11_test_90 rfl (lv_at hl 0 rfl) ?_
  refine ns_callV C w 62 (hI 62 (by decide)) sh_62 (rfl : vwCl[11]? = some (RX11, TX11, 59)) [] hf (fun u hu => mX11_next_62 l D b ids hI N _ hu) gX11_test_X11_next rfl rfl rfl hdX11_next ⟨Nat.le_of_ble_eq_true rfl, Nat.le_of_ble_eq_true rfl⟩ (fun u h => ((((h.I (List.mem_of_getElem? (i := 5) rfl) _).I (List.mem_of_getElem? (i := 4) rfl) _).I (List.mem_of_getElem? (i := 3) rfl) _).I (List.mem_of_getElem? (i := 2) rfl) _)) rfl hl.1 rfl (Nat.le_of_ble_eq_true rfl) ⟨Nat.le_refl _, Nat.le_refl _⟩ dX11_test_91 (fun o1 H locs hf w => ?_)
  refine lv_aload_n C.1.1 C.1.2.1 dX11_test_94 rfl (lv_at hl 0 rfl) ?_
  refine ns_callV C w 62 (hI 62 (by decide)) sh_62 (rfl : vwCl[11]? = some (RX11, TX11, 59)) [] hf (fun u hu => mX11_number_62 l D b ids hI N _ hu) gX11_test_X11_number rfl rfl rfl hdX11_number ⟨Nat.le_of_ble_eq_true rfl, Nat.le_of_ble_eq_true rfl⟩ (fun u h => (((((((h.I (List.mem_of_getElem? (i := 8) rfl) _).I (List.mem_of_getElem? (i := 7) rfl) _).I (List.mem_of_getElem? (i := 5) rfl) _).I (List.mem_of_getElem? (i := 4) rfl) _).I (List.mem_of_getElem? (i := 3) rfl) _).I (List.mem_of_getElem? (i := 2) rfl) _).I (List.mem_of_getElem? (i := 6) rfl) _)) rfl hl.1 rfl (Nat.le_of_ble_eq_true rfl) ⟨Nat.le_refl _, Nat.le_refl _⟩ dX11_test_95 (fun o2 H locs hf w => ?_)
  refine ns_if_ne C hf (tgt := 103) dX11_test_98 (by decide) (fun hf => ?_) (fun hf => ?_)
  · refine lv_iload_n C.1.1 C.1.2.1 dX11_test_103 rfl (lv_at hl 2 rfl) ?_
    refine lv_iconst (v := 4) C.1.1 C.1.2.1 dX11_test_104 (by decide) ?_
    refine ns_icmp_ge C hf (tgt := 159) dX11_test_105 (by decide) (fun hf => ?_) (fun hf => ?_)
    · refine lv_iconst (v := 1) C.1.1 C.1.2.1 dX11_test_159 (by decide) ?_
      have he := Option.some.inj hf
      subst he
      exact ns_zret C w hr hlk rfl (Or.inr rfl) rfl dX11_test_160
    · refine lv_iload_n C.1.1 C.1.2.1 dX11_test_108 rfl (lv_at hl 1 rfl) ?_
      refine lv_bipush (v := 16) C.1.1 C.1.2.1 dX11_test_109 (by decide) ?_
      refine ns_icmp_ge C hf (tgt := 159) dX11_test_111 (by decide) (fun hf => ?_) (fun hf => ?_)
      · refine lv_iconst (v := 1) C.1.1 C.1.2.1 dX11_test_159 (by decide) ?_
        have he := Option.some.inj hf
        subst he
        exact ns_zret C w hr hlk rfl (Or.inr rfl) rfl dX11_test_160
      · refine lv_iconst (v := 4) C.1.1 C.1.2.1 dX11_test_114 (by decide) ?_
        refine lv_iload_n C.1.1 C.1.2.1 dX11_test_115 rfl (lv_at hl 1 rfl) ?_
        refine lv_imul C.1.1 C.1.2.1 dX11_test_116 ?_
        refine lv_iload_n C.1.1 C.1.2.1 dX11_test_117 rfl (lv_at hl 2 rfl) ?_
        refine lv_iadd C.1.1 C.1.2.1 dX11_test_118 ?_
        refine ns_namei hf (fun x3 hf => ?_)
        refine lv_istore (lv' := [(6, .int x3), (0, .ref (b 62)), (1, .int l1), (2, .int l2), (4, .int l4), (5, .int l5)]) C.1.1 C.1.2.1 dX11_test_119 hl (by decide) rfl (fun ls hl => ?_)
        refine lv_aload_n C.1.1 C.1.2.1 dX11_test_121 rfl (lv_at hl 1 rfl) ?_
        refine ns_getr C w 62 (hI 62 (by decide)) sh_62 (rfl : vwCl[11]? = some (RX11, TX11, 59)) inX11_test_11 47 (by decide) rfl lX11_test_118 dX11_test_122 ?_
        refine lv_iload C.1.1 C.1.2.1 dX11_test_125 (lv_at hl 0 rfl) ?_
        refine lv_iload C.1.1 C.1.2.1 dX11_test_127 (lv_at hl 4 rfl) ?_
        refine ns_iast C w 97 (hI 97 (by decide)) sh_97 hf rfl (List.mem_of_getElem? (i := 9) rfl) dX11_test_129 (fun y4 H locs hf w => ?_)
        refine lv_aload_n C.1.1 C.1.2.1 dX11_test_130 rfl (lv_at hl 1 rfl) ?_
        refine ns_getr C w 62 (hI 62 (by decide)) sh_62 (rfl : vwCl[11]? = some (RX11, TX11, 59)) inX11_test_11 48 (by decide) rfl lX11_test_121 dX11_test_131 ?_
        refine lv_iload C.1.1 C.1.2.1 dX11_test_134 (lv_at hl 0 rfl) ?_
        refine lv_iload C.1.1 C.1.2.1 dX11_test_136 (lv_at hl 5 rfl) ?_
        refine ns_iast C w 98 (hI 98 (by decide)) sh_98 hf rfl (List.mem_of_getElem? (i := 10) rfl) dX11_test_138 (fun y5 H locs hf w => ?_)
        refine lv_aload_n C.1.1 C.1.2.1 dX11_test_139 rfl (lv_at hl 1 rfl) ?_
        refine ns_getr C w 62 (hI 62 (by decide)) sh_62 (rfl : vwCl[11]? = some (RX11, TX11, 59)) inX11_test_11 49 (by decide) rfl lX11_test_124 dX11_test_140 ?_
        refine lv_iload C.1.1 C.1.2.1 dX11_test_143 (lv_at hl 0 rfl) ?_
        refine lv_aload_n C.1.1 C.1.2.1 dX11_test_145 rfl (lv_at hl 1 rfl) ?_
        refine ns_geti C w 62 (hI 62 (by decide)) sh_62 (rfl : vwCl[11]? = some (RX11, TX11, 59)) inX11_test_11 44 (by decide) rfl lX11_test_236 (o2.2.1) rfl dX11_test_146 ?_
        refine ns_iast C w 99 (hI 99 (by decide)) sh_99 hf rfl (List.mem_of_getElem? (i := 11) rfl) dX11_test_149 (fun y6 H locs hf w => ?_)
        refine lv_aload_n C.1.1 C.1.2.1 dX11_test_150 rfl (lv_at hl 1 rfl) ?_
        refine ns_getr C w 62 (hI 62 (by decide)) sh_62 (rfl : vwCl[11]? = some (RX11, TX11, 59)) inX11_test_11 46 (by decide) rfl lX11_test_115 dX11_test_151 ?_
        refine lv_iload_n C.1.1 C.1.2.1 dX11_test_154 rfl (lv_at hl 2 rfl) ?_
        refine lv_iload_n C.1.1 C.1.2.1 dX11_test_155 rfl (lv_at hl 3 rfl) ?_
        refine lv_iconst (v := 1) C.1.1 C.1.2.1 dX11_test_156 (by decide) ?_
        refine lv_iadd C.1.1 C.1.2.1 dX11_test_157 ?_
        refine ns_iast C w 96 (hI 96 (by decide)) sh_96 hf rfl (List.mem_of_getElem? (i := 12) rfl) dX11_test_158 (fun y7 H locs hf w => ?_)
        refine lv_iconst (v := 1) C.1.1 C.1.2.1 dX11_test_159 (by decide) ?_
        have he := Option.some.inj hf
        subst he
        exact ns_zret C w hr hlk rfl (Or.inr rfl) rfl dX11_test_160
  · refine lv_iconst (v := 0) C.1.1 C.1.2.1 dX11_test_101 (by decide) ?_
    have he := Option.some.inj hf
    subst he
    exact ns_zret C w hr hlk rfl (Or.inl rfl) rfl dX11_test_102
set_option maxHeartbeats 4000000 in
set_option maxRecDepth 100000 in
theorem wX11_test_62_46 {p : Program} {l : Launch} {e : Env} {s : State} {m : MethodId} {args : Array Value} {below : List Frame} {meth : Method} {c : Code} {D : va_G} {b : Nat → Nat} {ids : List Nat} {A : Nat → Prop} {S0 : ns_S} {o : Int32 × Int32 × Int32 × Int32 × Int32 × Int32 × Int32 × Int32 × Int32 × Int32 × (Nat → Int32) × (Nat → Int32) × (Nat → Int32) × (Nat → Int32)} (N : Nat) (hI : ∀ i, i < 107 → i ∈ ids) (C : ns_C p m c cX11_test 7 s args wsX11_test RX11 D A) (hr : meth.sig.returnType = some .boolean) (hlk : meth.locks = false) : ∀ {S : ns_S} {H : Heap} {locs : List Loc} {ls : Array Slot} {l1 : Int32} {l2 : Int32} {l4 : Int32}, ns_W D b ids A s.heap wrX11_test_62 S0 S H locs → lv_has ls 7 [(0, .ref (b 62)), (1, .int l1), (2, .int l2), (4, .int l4)] → gX11_test_46 N (S.1 4005) (S.1 4007) (S.1 4006) (S.1 4010) (S.1 4011) (S.1 4003) (S.1 4004) (S.2.1 63) (S.1 4012) (S.1 4008) (S.1 4009) (S.2.1 97) (S.2.1 98) (S.2.1 99) (S.2.1 96) l1 l2 l4 = some o → W p l e rmX11_test_62 s m args below meth c H locs 0 0 (MQ below (ns_Q D b ids (ns_I (ns_I (ns_I (ns_I (ns_I (ns_I (ns_I (ns_I (ns_I (ns_A (ns_A (ns_A (ns_A S0 96 o.2.2.2.2.2.2.2.2.2.2.2.2.2) 99 o.2.2.2.2.2.2.2.2.2.2.2.2.1) 98 o.2.2.2.2.2.2.2.2.2.2.2.1) 97 o.2.2.2.2.2.2.2.2.2.2.1) 4009 o.2.2.2.2.2.2.2.2.2.1) 4008 o.2.2.2.2.2.2.2.2.1) 4012 o.2.2.2.2.2.2.2.1) 4006 o.2.2.2.2.2.2.1) 4003 o.2.2.2.2.2.1) 4007 o.2.2.2.2.1) 4005 o.2.2.2.1) 4011 o.2.2.1) 4010 o.2.1) (some (.int o.1)) A) args s 0 0 A) (F0 m 46 ls []) := by
  intro S H locs ls l1 l2 l4 w hl hf
  unfold gX11_test_46 at hf
  refine lv_aload_n C.1.1 C.1.2.1 dX11_test_46 rfl (lv_at hl 0 rfl) ?_
  refine ns_callV C w 62 (hI 62 (by decide)) sh_62 (rfl : vwCl[11]? = some (RX11, TX11, 59)) [] hf (fun u hu => mX11_next_62 l D b ids hI N _ hu) gX11_test_X11_next rfl rfl rfl hdX11_next ⟨Nat.le_of_ble_eq_true rfl, Nat.le_of_ble_eq_true rfl⟩ (fun u h => ((((h.I (List.mem_of_getElem? (i := 5) rfl) _).I (List.mem_of_getElem? (i := 4) rfl) _).I (List.mem_of_getElem? (i := 3) rfl) _).I (List.mem_of_getElem? (i := 2) rfl) _)) rfl hl.1 rfl (Nat.le_of_ble_eq_true rfl) ⟨Nat.le_refl _, Nat.le_refl _⟩ dX11_test_47 (fun o1 H locs hf w => ?_)
  refine lv_aload_n C.1.1 C.1.2.1 dX11_test_50 rfl (lv_at hl 0 rfl) ?_
  refine ns_geti C w 62 (hI 62 (by decide)) sh_62 (rfl : vwCl[11]? = some (RX11, TX11, 59)) inX11_test_11 39 (by decide) rfl lX11_test_210 (o1.2.1) rfl dX11_test_51 ?_
  refine lv_istore (lv' := [(5, .int o1.2.1), (0, .ref (b 62)), (1, .int l1), (2, .int l2), (4, .int l4)]) C.1.1 C.1.2.1 dX11_test_54 hl (by decide) rfl (fun ls hl => ?_)
  refine lv_aload_n C.1.1 C.1.2.1 dX11_test_56 rfl (lv_at hl 1 rfl) ?_
  refine ns_geti C w 62 (hI 62 (by decide)) sh_62 (rfl : vwCl[11]? = some (RX11, TX11, 59)) inX11_test_11 38 (by decide) rfl lX11_test_213 (o1.2.2.2) rfl dX11_test_57 ?_
  refine lv_iconst (v := 4) C.1.1 C.1.2.1 dX11_test_60 (by decide) ?_
  refine ns_icmp_ne C hf (tgt := 85) dX11_test_61 (by decide) (fun hf => ?_) (fun hf => ?_)
  · exact wX11_test_62_85 N hI C hr hlk w (lv_sub hl [1] rfl) hf
  · refine lv_iload C.1.1 C.1.2.1 dX11_test_64 (lv_at hl 0 rfl) ?_
    refine lv_bipush (v := 60) C.1.1 C.1.2.1 dX11_test_66 (by decide) ?_
    refine ns_icmp_eq C hf (tgt := 90) dX11_test_68 (by decide) (fun hf => ?_) (fun hf => ?_)
    · exact wX11_test_62_90 N hI C hr hlk w (lv_sub hl [1, 2, 3, 4, 0] rfl) hf
    · refine lv_iload C.1.1 C.1.2.1 dX11_test_71 (lv_at hl 0 rfl) ?_
      refine lv_bipush (v := 62) C.1.1 C.1.2.1 dX11_test_73 (by decide) ?_
      refine ns_icmp_eq C hf (tgt := 90) dX11_test_75 (by decide) (fun hf => ?_) (fun hf => ?_)
      · exact wX11_test_62_90 N hI C hr hlk w (lv_sub hl [1, 2, 3, 4, 0] rfl) hf
      · refine lv_iload C.1.1 C.1.2.1 dX11_test_78 (lv_at hl 0 rfl) ?_
        refine lv_bipush (v := 61) C.1.1 C.1.2.1 dX11_test_80 (by decide) ?_
        refine ns_icmp_eq C hf (tgt := 90) dX11_test_82 (by decide) (fun hf => ?_) (fun hf => ?_)
        · exact wX11_test_62_90 N hI C hr hlk w (lv_sub hl [1, 2, 3, 4, 0] rfl) hf
        · exact wX11_test_62_85 N hI C hr hlk w (lv_sub hl [1] rfl) hf
set_option maxHeartbeats 4000000 in
set_option maxRecDepth 100000 in
theorem mX11_test_62 (l : Launch) (D : va_G) (b : Nat → Nat) (ids : List Nat) (hI : ∀ i, i < 107 → i ∈ ids) (N : Nat) (S : ns_S) (p1 : Int32) (p2 : Int32) {o : Int32 × Int32 × Int32 × Int32 × Int32 × Int32 × Int32 × Int32 × Int32 × Int32 × (Nat → Int32) × (Nat → Int32) × (Nat → Int32) × (Nat → Int32)} (hf : fX11_test N (S.1 4005) (S.1 4007) (S.1 4006) (S.1 4010) (S.1 4011) (S.1 4003) (S.1 4004) (S.2.1 63) (S.1 4012) (S.1 4008) (S.1 4009) (S.2.1 97) (S.2.1 98) (S.2.1 99) (S.2.1 96) p1 p2 = some o) : ns_M l yX11_test wsX11_test rmX11_test_62 D b ids S [.ref (b 62), .int p1, .int p2] (some (.int o.1)) (ns_I (ns_I (ns_I (ns_I (ns_I (ns_I (ns_I (ns_I (ns_I (ns_A (ns_A (ns_A (ns_A S 96 o.2.2.2.2.2.2.2.2.2.2.2.2.2) 99 o.2.2.2.2.2.2.2.2.2.2.2.2.1) 98 o.2.2.2.2.2.2.2.2.2.2.2.1) 97 o.2.2.2.2.2.2.2.2.2.2.1) 4009 o.2.2.2.2.2.2.2.2.2.1) 4008 o.2.2.2.2.2.2.2.2.1) 4012 o.2.2.2.2.2.2.2.1) 4006 o.2.2.2.2.2.2.1) 4003 o.2.2.2.2.2.1) 4007 o.2.2.2.2.1) 4005 o.2.2.2.1) 4011 o.2.2.1) 4010 o.2.1) := by
  refine ns_start (Wr := wrX11_test_62) (by decide) rfl (Nat.le_of_ble_eq_true rfl) ?_
  intro p e s m below meth c A ls C hr hlk w hl
  have hl : lv_has ls 7 [(0, .ref (b 62)), (1, .int p1), (2, .int p2)] := hl
  unfold fX11_test at hf
  refine lv_aload_n C.1.1 C.1.2.1 dX11_test_0 rfl (lv_at hl 0 rfl) ?_
  refine ns_geti C w 62 (hI 62 (by decide)) sh_62 (rfl : vwCl[11]? = some (RX11, TX11, 59)) inX11_test_11 37 (by decide) rfl lX11_test_207 (S.1 4005) rfl dX11_test_1 ?_
  refine lv_istore_n (lv' := [(3, .int (S.1 4005)), (0, .ref (b 62)), (1, .int p1), (2, .int p2)]) C.1.1 C.1.2.1 dX11_test_4 rfl hl (by decide) rfl (fun ls hl => ?_)
  refine lv_aload_n C.1.1 C.1.2.1 dX11_test_5 rfl (lv_at hl 1 rfl) ?_
  refine ns_geti C w 62 (hI 62 (by decide)) sh_62 (rfl : vwCl[11]? = some (RX11, TX11, 59)) inX11_test_11 39 (by decide) rfl lX11_test_210 (S.1 4007) rfl dX11_test_6 ?_
  refine lv_istore (lv' := [(4, .int (S.1 4007)), (3, .int (S.1 4005)), (0, .ref (b 62)), (1, .int p1), (2, .int p2)]) C.1.1 C.1.2.1 dX11_test_9 hl (by decide) rfl (fun ls hl => ?_)
  refine lv_aload_n C.1.1 C.1.2.1 dX11_test_11 rfl (lv_at hl 2 rfl) ?_
  refine ns_geti C w 62 (hI 62 (by decide)) sh_62 (rfl : vwCl[11]? = some (RX11, TX11, 59)) inX11_test_11 38 (by decide) rfl lX11_test_213 (S.1 4006) rfl dX11_test_12 ?_
  refine lv_iconst (v := 2) C.1.1 C.1.2.1 dX11_test_15 (by decide) ?_
  refine ns_icmp_ne C hf (tgt := 30) dX11_test_16 (by decide) (fun hf => ?_) (fun hf => ?_)
  · exact wX11_test_62_30 N hI C hr hlk w (lv_sub hl [2] rfl) hf
  · refine lv_iload C.1.1 C.1.2.1 dX11_test_19 (lv_at hl 0 rfl) ?_
    refine lv_iconst (v := 2) C.1.1 C.1.2.1 dX11_test_21 (by decide) ?_
    refine lv_bipush (v := 7) C.1.1 C.1.2.1 dX11_test_22 (by decide) ?_
    refine ns_callS C w [.int (S.1 4007), .int 2, .int 7] hf (fun u hu => mX11_in l D b ids hI N _ (S.1 4007) 2 7 hu) gX11_test_X11_in rfl rfl rfl hdX11_in ⟨Nat.le_of_ble_eq_true rfl, Nat.le_of_ble_eq_true rfl⟩ (fun u h => h) rfl hl.1 rfl (Nat.le_of_ble_eq_true rfl) ⟨Nat.le_refl _, Nat.le_refl _⟩ dX11_test_24 (fun o1 H locs hf w => ?_)
    refine ns_if_ne C hf (tgt := 35) dX11_test_27 (by decide) (fun hf => ?_) (fun hf => ?_)
    · refine lv_iload_n C.1.1 C.1.2.1 dX11_test_35 rfl (lv_at hl 4 rfl) ?_
      refine lv_iconst (v := 4) C.1.1 C.1.2.1 dX11_test_36 (by decide) ?_
      refine ns_icmp_ne C hf (tgt := 46) dX11_test_37 (by decide) (fun hf => ?_) (fun hf => ?_)
      · exact wX11_test_62_46 N hI C hr hlk w (lv_sub hl [2, 3, 4, 0] rfl) hf
      · refine lv_aload_n C.1.1 C.1.2.1 dX11_test_40 rfl (lv_at hl 2 rfl) ?_
        refine lv_iconst (v := 3) C.1.1 C.1.2.1 dX11_test_41 (by decide) ?_
        refine lv_iload_n C.1.1 C.1.2.1 dX11_test_42 rfl (lv_at hl 1 rfl) ?_
        refine ns_callV C w 62 (hI 62 (by decide)) sh_62 (rfl : vwCl[11]? = some (RX11, TX11, 59)) [.int 3, .int (S.1 4005)] hf (fun u hu => mX11_note_62 l D b ids hI N _ 3 (S.1 4005) hu) gX11_test_X11_note rfl rfl rfl hdX11_note ⟨Nat.le_of_ble_eq_true rfl, Nat.le_of_ble_eq_true rfl⟩ (fun u h => ((h.I (List.mem_of_getElem? (i := 1) rfl) _).I (List.mem_of_getElem? (i := 0) rfl) _)) rfl hl.1 rfl (Nat.le_of_ble_eq_true rfl) ⟨Nat.le_refl _, Nat.le_refl _⟩ dX11_test_43 (fun o2 H locs hf w => ?_)
        exact wX11_test_62_46 N hI C hr hlk w (lv_sub hl [2, 3, 4, 0] rfl) hf
    · exact wX11_test_62_30 N hI C hr hlk w (lv_sub hl [2] rfl) hf
theorem lX11_readLine_115 : Cond.fieldLink RX11 115 (TX11 46).1 (TX11 46).2.1 (TX11 46).2.2.1 ∈ wsX11_readLine := List.mem_of_getElem? (i := 3) rfl
theorem lX11_readLine_127 : Cond.fieldLink RX11 127 (TX11 50).1 (TX11 50).2.1 (TX11 50).2.2.1 ∈ wsX11_readLine := List.mem_of_getElem? (i := 6) rfl
theorem lX11_readLine_130 : Cond.fieldLink RX11 130 (TX11 51).1 (TX11 51).2.1 (TX11 51).2.2.1 ∈ wsX11_readLine := List.mem_of_getElem? (i := 7) rfl
theorem lX11_readLine_133 : Cond.fieldLink RX11 133 (TX11 52).1 (TX11 52).2.1 (TX11 52).2.2.1 ∈ wsX11_readLine := List.mem_of_getElem? (i := 9) rfl
theorem lX11_readLine_207 : Cond.fieldLink RX11 207 (TX11 37).1 (TX11 37).2.1 (TX11 37).2.2.1 ∈ wsX11_readLine := List.mem_of_getElem? (i := 2) rfl
theorem lX11_readLine_210 : Cond.fieldLink RX11 210 (TX11 39).1 (TX11 39).2.1 (TX11 39).2.2.1 ∈ wsX11_readLine := List.mem_of_getElem? (i := 5) rfl
theorem lX11_readLine_213 : Cond.fieldLink RX11 213 (TX11 38).1 (TX11 38).2.1 (TX11 38).2.2.1 ∈ wsX11_readLine := List.mem_of_getElem? (i := 4) rfl
theorem lX11_readLine_236 : Cond.fieldLink RX11 236 (TX11 44).1 (TX11 44).2.1 (TX11 44).2.2.1 ∈ wsX11_readLine := List.mem_of_getElem? (i := 8) rfl
theorem lX11_readLine_239 : Cond.fieldLink RX11 239 (TX11 45).1 (TX11 45).2.1 (TX11 45).2.2.1 ∈ wsX11_readLine := List.mem_of_getElem? (i := 1) rfl
theorem inX11_readLine_11 : ∀ w ∈ u_ws RX11 TX11 59, w ∈ wsX11_readLine := fun _ h => List.mem_cons_of_mem _ (List.mem_append_right _ h)
theorem hdX11_readLine : yX11_readLine.cls = RX11 ∧ yX11_readLine.cls ≠ "java/lang/invoke/MethodHandle" ∧ yX11_readLine.cls ≠ "java/lang/invoke/VarHandle" ∧ (parseMethodDescriptor yX11_readLine.desc).map (fun d => d.parameters.length) = some 0 := by decide +kernel
abbrev wrX11_readLine_62 : List (Nat × Nat) := [(0, 4010), (0, 4011), (1, 96), (0, 4005), (0, 4007), (0, 4003), (0, 4006), (0, 4008), (0, 4009), (0, 4012), (1, 97), (1, 98), (1, 99), (1, 100), (1, 101), (1, 102), (0, 4013)]
abbrev rmX11_readLine_62 : Room := { frames := 4, cells := 0, slots := 0, locals := 93 }
set_option maxHeartbeats 4000000 in
set_option maxRecDepth 100000 in
theorem wX11_readLine_62_120 {p : Program} {l : Launch} {e : Env} {s : State} {m : MethodId} {args : Array Value} {below : List Frame} {meth : Method} {c : Code} {D : va_G} {b : Nat → Nat} {ids : List Nat} {A : Nat → Prop} {S0 : ns_S} {o : Int32 × Int32 × Int32 × (Nat → Int32) × Int32 × Int32 × Int32 × Int32 × Int32 × Int32 × Int32 × (Nat → Int32) × (Nat → Int32) × (Nat → Int32) × (Nat → Int32) × (Nat → Int32) × (Nat → Int32) × Int32} (N : Nat) (hI : ∀ i, i < 107 → i ∈ ids) (C : ns_C p m c cX11_readLine 4 s args wsX11_readLine RX11 D A) (hr : meth.sig.returnType = some .boolean) (hlk : meth.locks = false) : ∀ {S : ns_S} {H : Heap} {locs : List Loc} {ls : Array Slot}, ns_W D b ids A s.heap wrX11_readLine_62 S0 S H locs → lv_has ls 4 [(0, .ref (b 62))] → gX11_readLine_120 N (S.1 4013) (S.1 4005) (S.1 4010) (S.1 4011) (S.2.1 96) (S.1 4006) (S.1 4007) (S.1 4003) (S.1 4004) (S.2.1 63) (S.1 4008) (S.1 4009) (S.1 4012) (S.2.1 97) (S.2.1 98) (S.2.1 99) (S.2.1 100) (S.2.1 101) (S.2.1 102) = some o → W p l e rmX11_readLine_62 s m args below meth c H locs 0 0 (MQ below (ns_Q D b ids (ns_I (ns_I (ns_A (ns_I (ns_I (ns_I (ns_I (ns_I (ns_I (ns_I (ns_A (ns_A (ns_A (ns_A (ns_A (ns_A (ns_I S0 4013 o.2.2.2.2.2.2.2.2.2.2.2.2.2.2.2.2.2) 102 o.2.2.2.2.2.2.2.2.2.2.2.2.2.2.2.2.1) 101 o.2.2.2.2.2.2.2.2.2.2.2.2.2.2.2.1) 100 o.2.2.2.2.2.2.2.2.2.2.2.2.2.2.1) 99 o.2.2.2.2.2.2.2.2.2.2.2.2.2.1) 98 o.2.2.2.2.2.2.2.2.2.2.2.2.1) 97 o.2.2.2.2.2.2.2.2.2.2.2.1) 4012 o.2.2.2.2.2.2.2.2.2.2.1) 4009 o.2.2.2.2.2.2.2.2.2.1) 4008 o.2.2.2.2.2.2.2.2.1) 4006 o.2.2.2.2.2.2.2.1) 4003 o.2.2.2.2.2.2.1) 4007 o.2.2.2.2.2.1) 4005 o.2.2.2.2.1) 96 o.2.2.2.1) 4011 o.2.2.1) 4010 o.2.1) (some (.int o.1)) A) args s 0 0 A) (F0 m 120 ls []) := by
  intro S H locs ls w hl hf
  unfold gX11_readLine_120 at hf
  refine lv_aload_n C.1.1 C.1.2.1 dX11_readLine_120 rfl (lv_at hl 0 rfl) ?_
  refine ns_callV C w 62 (hI 62 (by decide)) sh_62 (rfl : vwCl[11]? = some (RX11, TX11, 59)) [] hf (fun u hu => mX11_wrong_62 l D b ids hI N _ hu) gX11_readLine_X11_wrong rfl rfl rfl hdX11_wrong ⟨Nat.le_of_ble_eq_true rfl, Nat.le_of_ble_eq_true rfl⟩ (fun u h => ((h.I (List.mem_of_getElem? (i := 8) rfl) _).I (List.mem_of_getElem? (i := 7) rfl) _)) rfl hl.1 rfl (Nat.le_of_ble_eq_true rfl) ⟨Nat.le_refl _, Nat.le_refl _⟩ dX11_readLine_121 (fun o1 H locs hf w => ?_)
  obtain ⟨hz, hf⟩ := ns_zb_some hf
  have he := Option.some.inj hf
  subst he
  exact ns_zret C w hr hlk rfl hz rfl dX11_readLine_124
set_option maxHeartbeats 4000000 in
set_option maxRecDepth 100000 in
theorem wX11_readLine_62_228 {p : Program} {l : Launch} {e : Env} {s : State} {m : MethodId} {args : Array Value} {below : List Frame} {meth : Method} {c : Code} {D : va_G} {b : Nat → Nat} {ids : List Nat} {A : Nat → Prop} {S0 : ns_S} {o : Int32 × Int32 × Int32 × (Nat → Int32) × Int32 × Int32 × Int32 × Int32 × Int32 × Int32 × Int32 × (Nat → Int32) × (Nat → Int32) × (Nat → Int32) × (Nat → Int32) × (Nat → Int32) × (Nat → Int32) × Int32} (N : Nat) (hI : ∀ i, i < 107 → i ∈ ids) (C : ns_C p m c cX11_readLine 4 s args wsX11_readLine RX11 D A) (hr : meth.sig.returnType = some .boolean) (hlk : meth.locks = false) : ∀ {S : ns_S} {H : Heap} {locs : List Loc} {ls : Array Slot}, ns_W D b ids A s.heap wrX11_readLine_62 S0 S H locs → lv_has ls 4 [(0, .ref (b 62))] → gX11_readLine_228 N (S.1 4013) (S.1 4005) (S.1 4010) (S.1 4011) (S.2.1 96) (S.1 4006) (S.1 4007) (S.1 4003) (S.1 4004) (S.2.1 63) (S.1 4008) (S.1 4009) (S.1 4012) (S.2.1 97) (S.2.1 98) (S.2.1 99) (S.2.1 100) (S.2.1 101) (S.2.1 102) = some o → W p l e rmX11_readLine_62 s m args below meth c H locs 0 0 (MQ below (ns_Q D b ids (ns_I (ns_I (ns_A (ns_I (ns_I (ns_I (ns_I (ns_I (ns_I (ns_I (ns_A (ns_A (ns_A (ns_A (ns_A (ns_A (ns_I S0 4013 o.2.2.2.2.2.2.2.2.2.2.2.2.2.2.2.2.2) 102 o.2.2.2.2.2.2.2.2.2.2.2.2.2.2.2.2.1) 101 o.2.2.2.2.2.2.2.2.2.2.2.2.2.2.2.1) 100 o.2.2.2.2.2.2.2.2.2.2.2.2.2.2.1) 99 o.2.2.2.2.2.2.2.2.2.2.2.2.2.1) 98 o.2.2.2.2.2.2.2.2.2.2.2.2.1) 97 o.2.2.2.2.2.2.2.2.2.2.2.1) 4012 o.2.2.2.2.2.2.2.2.2.2.1) 4009 o.2.2.2.2.2.2.2.2.2.1) 4008 o.2.2.2.2.2.2.2.2.1) 4006 o.2.2.2.2.2.2.2.1) 4003 o.2.2.2.2.2.2.1) 4007 o.2.2.2.2.2.1) 4005 o.2.2.2.2.1) 96 o.2.2.2.1) 4011 o.2.2.1) 4010 o.2.1) (some (.int o.1)) A) args s 0 0 A) (F0 m 228 ls []) := by
  intro S H locs ls w hl hf
  unfold gX11_readLine_228 at hf
  refine lv_aload_n C.1.1 C.1.2.1 dX11_readLine_228 rfl (lv_at hl 0 rfl) ?_
  refine lv_dup C.1.1 C.1.2.1 dX11_readLine_229 rfl ?_
  refine ns_geti C w 62 (hI 62 (by decide)) sh_62 (rfl : vwCl[11]? = some (RX11, TX11, 59)) inX11_readLine_11 45 (by decide) rfl lX11_readLine_239 (S.1 4013) rfl dX11_readLine_230 ?_
  refine lv_iconst (v := 1) C.1.1 C.1.2.1 dX11_readLine_233 (by decide) ?_
  refine lv_iadd C.1.1 C.1.2.1 dX11_readLine_234 ?_
  refine ns_namei hf (fun x1 hf => ?_)
  refine ns_puti C w 62 (hI 62 (by decide)) sh_62 (rfl : vwCl[11]? = some (RX11, TX11, 59)) inX11_readLine_11 tyX11_ok nmX11 45 (by decide) rfl lX11_readLine_239 rfl rfl rfl (List.mem_of_getElem? (i := 16) rfl) dX11_readLine_235 (fun H locs w => ?_)
  refine lv_aload_n C.1.1 C.1.2.1 dX11_readLine_238 rfl (lv_at hl 0 rfl) ?_
  refine lv_bipush (v := 59) C.1.1 C.1.2.1 dX11_readLine_239 (by decide) ?_
  refine ns_callV C w 62 (hI 62 (by decide)) sh_62 (rfl : vwCl[11]? = some (RX11, TX11, 59)) [.int 59] hf (fun u hu => mX11_need_62 l D b ids hI N _ 59 hu) gX11_readLine_X11_need rfl rfl rfl hdX11_need ⟨Nat.le_of_ble_eq_true rfl, Nat.le_of_ble_eq_true rfl⟩ (fun u h => ((((((h.I (List.mem_of_getElem? (i := 8) rfl) _).I (List.mem_of_getElem? (i := 7) rfl) _).I (List.mem_of_getElem? (i := 6) rfl) _).I (List.mem_of_getElem? (i := 5) rfl) _).I (List.mem_of_getElem? (i := 4) rfl) _).I (List.mem_of_getElem? (i := 3) rfl) _)) rfl hl.1 rfl (Nat.le_of_ble_eq_true rfl) ⟨Nat.le_refl _, Nat.le_refl _⟩ dX11_readLine_241 (fun o2 H locs hf w => ?_)
  obtain ⟨hz, hf⟩ := ns_zb_some hf
  have he := Option.some.inj hf
  subst he
  exact ns_zret C w hr hlk rfl hz rfl dX11_readLine_244
set_option maxHeartbeats 4000000 in
set_option maxRecDepth 100000 in
theorem wX11_readLine_62_169 {p : Program} {l : Launch} {e : Env} {s : State} {m : MethodId} {args : Array Value} {below : List Frame} {meth : Method} {c : Code} {D : va_G} {b : Nat → Nat} {ids : List Nat} {A : Nat → Prop} {S0 : ns_S} {o : Int32 × Int32 × Int32 × (Nat → Int32) × Int32 × Int32 × Int32 × Int32 × Int32 × Int32 × Int32 × (Nat → Int32) × (Nat → Int32) × (Nat → Int32) × (Nat → Int32) × (Nat → Int32) × (Nat → Int32) × Int32} (N : Nat) (hI : ∀ i, i < 107 → i ∈ ids) (C : ns_C p m c cX11_readLine 4 s args wsX11_readLine RX11 D A) (hr : meth.sig.returnType = some .boolean) (hlk : meth.locks = false) : ∀ {S : ns_S} {H : Heap} {locs : List Loc} {ls : Array Slot} {l1 : Int32}, ns_W D b ids A s.heap wrX11_readLine_62 S0 S H locs → lv_has ls 4 [(0, .ref (b 62)), (1, .int l1)] → gX11_readLine_169 N (S.1 4013) (S.1 4005) (S.1 4010) (S.1 4011) (S.2.1 96) (S.1 4006) (S.1 4007) (S.1 4003) (S.1 4004) (S.2.1 63) (S.1 4008) (S.1 4009) (S.1 4012) (S.2.1 97) (S.2.1 98) (S.2.1 99) (S.2.1 100) (S.2.1 101) (S.2.1 102) l1 = some o → W p l e rmX11_readLine_62 s m args below meth c H locs 0 0 (MQ below (ns_Q D b ids (ns_I (ns_I (ns_A (ns_I (ns_I (ns_I (ns_I (ns_I (ns_I (ns_I (ns_A (ns_A (ns_A (ns_A (ns_A (ns_A (ns_I S0 4013 o.2.2.2.2.2.2.2.2.2.2.2.2.2.2.2.2.2) 102 o.2.2.2.2.2.2.2.2.2.2.2.2.2.2.2.2.1) 101 o.2.2.2.2.2.2.2.2.2.2.2.2.2.2.2.1) 100 o.2.2.2.2.2.2.2.2.2.2.2.2.2.2.1) 99 o.2.2.2.2.2.2.2.2.2.2.2.2.2.1) 98 o.2.2.2.2.2.2.2.2.2.2.2.2.1) 97 o.2.2.2.2.2.2.2.2.2.2.2.1) 4012 o.2.2.2.2.2.2.2.2.2.2.1) 4009 o.2.2.2.2.2.2.2.2.2.1) 4008 o.2.2.2.2.2.2.2.2.1) 4006 o.2.2.2.2.2.2.2.1) 4003 o.2.2.2.2.2.2.1) 4007 o.2.2.2.2.2.1) 4005 o.2.2.2.2.1) 96 o.2.2.2.1) 4011 o.2.2.1) 4010 o.2.1) (some (.int o.1)) A) args s 0 0 A) (F0 m 169 ls []) := by
  intro S H locs ls l1 w hl hf
  unfold gX11_readLine_169 at hf
  refine lv_aload_n C.1.1 C.1.2.1 dX11_readLine_169 rfl (lv_at hl 0 rfl) ?_
  refine ns_getr C w 62 (hI 62 (by decide)) sh_62 (rfl : vwCl[11]? = some (RX11, TX11, 59)) inX11_readLine_11 50 (by decide) rfl lX11_readLine_127 dX11_readLine_170 ?_
  refine lv_iload_n C.1.1 C.1.2.1 dX11_readLine_173 rfl (lv_at hl 1 rfl) ?_
  refine ns_iald C w 100 (hI 100 (by decide)) sh_100 hf rfl dX11_readLine_174 (fun x1 hf => ?_)
  refine lv_bipush (v := 10) C.1.1 C.1.2.1 dX11_readLine_175 (by decide) ?_
  refine ns_icmp_ne C hf (tgt := 228) dX11_readLine_177 (by decide) (fun hf => ?_) (fun hf => ?_)
  · exact wX11_readLine_62_228 N hI C hr hlk w (lv_sub hl [0] rfl) hf
  · refine lv_aload_n C.1.1 C.1.2.1 dX11_readLine_180 rfl (lv_at hl 0 rfl) ?_
    refine lv_bipush (v := 47) C.1.1 C.1.2.1 dX11_readLine_181 (by decide) ?_
    refine ns_callV C w 62 (hI 62 (by decide)) sh_62 (rfl : vwCl[11]? = some (RX11, TX11, 59)) [.int 47] hf (fun u hu => mX11_need_62 l D b ids hI N _ 47 hu) gX11_readLine_X11_need rfl rfl rfl hdX11_need ⟨Nat.le_of_ble_eq_true rfl, Nat.le_of_ble_eq_true rfl⟩ (fun u h => ((((((h.I (List.mem_of_getElem? (i := 8) rfl) _).I (List.mem_of_getElem? (i := 7) rfl) _).I (List.mem_of_getElem? (i := 6) rfl) _).I (List.mem_of_getElem? (i := 5) rfl) _).I (List.mem_of_getElem? (i := 4) rfl) _).I (List.mem_of_getElem? (i := 3) rfl) _)) rfl hl.1 rfl (Nat.le_of_ble_eq_true rfl) ⟨Nat.le_refl _, Nat.le_refl _⟩ dX11_readLine_183 (fun o2 H locs hf w => ?_)
    refine ns_if_ne C hf (tgt := 191) dX11_readLine_186 (by decide) (fun hf => ?_) (fun hf => ?_)
    · refine lv_aload_n C.1.1 C.1.2.1 dX11_readLine_191 rfl (lv_at hl 0 rfl) ?_
      refine ns_geti C w 62 (hI 62 (by decide)) sh_62 (rfl : vwCl[11]? = some (RX11, TX11, 59)) inX11_readLine_11 37 (by decide) rfl lX11_readLine_207 (o2.2.1) rfl dX11_readLine_192 ?_
      refine lv_istore_n (lv' := [(2, .int o2.2.1), (0, .ref (b 62)), (1, .int l1)]) C.1.1 C.1.2.1 dX11_readLine_195 rfl hl (by decide) rfl (fun ls hl => ?_)
      refine lv_aload_n C.1.1 C.1.2.1 dX11_readLine_196 rfl (lv_at hl 1 rfl) ?_
      refine ns_callV C w 62 (hI 62 (by decide)) sh_62 (rfl : vwCl[11]? = some (RX11, TX11, 59)) [] hf (fun u hu => mX11_number_62 l D b ids hI N _ hu) gX11_readLine_X11_number rfl rfl rfl hdX11_number ⟨Nat.le_of_ble_eq_true rfl, Nat.le_of_ble_eq_true rfl⟩ (fun u h => (((((((h.I (List.mem_of_getElem? (i := 8) rfl) _).I (List.mem_of_getElem? (i := 7) rfl) _).I (List.mem_of_getElem? (i := 6) rfl) _).I (List.mem_of_getElem? (i := 5) rfl) _).I (List.mem_of_getElem? (i := 4) rfl) _).I (List.mem_of_getElem? (i := 3) rfl) _).I (List.mem_of_getElem? (i := 9) rfl) _)) rfl hl.1 rfl (Nat.le_of_ble_eq_true rfl) ⟨Nat.le_refl _, Nat.le_refl _⟩ dX11_readLine_197 (fun o3 H locs hf w => ?_)
      refine ns_if_ne C hf (tgt := 205) dX11_readLine_200 (by decide) (fun hf => ?_) (fun hf => ?_)
      · refine lv_aload_n C.1.1 C.1.2.1 dX11_readLine_205 rfl (lv_at hl 1 rfl) ?_
        refine ns_getr C w 62 (hI 62 (by decide)) sh_62 (rfl : vwCl[11]? = some (RX11, TX11, 59)) inX11_readLine_11 52 (by decide) rfl lX11_readLine_133 dX11_readLine_206 ?_
        refine lv_iload_n C.1.1 C.1.2.1 dX11_readLine_209 rfl (lv_at hl 2 rfl) ?_
        refine lv_aload_n C.1.1 C.1.2.1 dX11_readLine_210 rfl (lv_at hl 1 rfl) ?_
        refine ns_geti C w 62 (hI 62 (by decide)) sh_62 (rfl : vwCl[11]? = some (RX11, TX11, 59)) inX11_readLine_11 44 (by decide) rfl lX11_readLine_236 (o3.2.1) rfl dX11_readLine_211 ?_
        refine ns_iast C w 102 (hI 102 (by decide)) sh_102 hf rfl (List.mem_of_getElem? (i := 15) rfl) dX11_readLine_214 (fun y4 H locs hf w => ?_)
        refine lv_aload_n C.1.1 C.1.2.1 dX11_readLine_215 rfl (lv_at hl 1 rfl) ?_
        refine ns_geti C w 62 (hI 62 (by decide)) sh_62 (rfl : vwCl[11]? = some (RX11, TX11, 59)) inX11_readLine_11 44 (by decide) rfl lX11_readLine_236 (o3.2.1) rfl dX11_readLine_216 ?_
        refine ns_if_ne C hf (tgt := 228) dX11_readLine_219 (by decide) (fun hf => ?_) (fun hf => ?_)
        · exact wX11_readLine_62_228 N hI C hr hlk w (lv_sub hl [1] rfl) hf
        · refine lv_aload_n C.1.1 C.1.2.1 dX11_readLine_222 rfl (lv_at hl 1 rfl) ?_
          refine lv_iconst (v := 2) C.1.1 C.1.2.1 dX11_readLine_223 (by decide) ?_
          refine lv_iload_n C.1.1 C.1.2.1 dX11_readLine_224 rfl (lv_at hl 0 rfl) ?_
          refine ns_callV C w 62 (hI 62 (by decide)) sh_62 (rfl : vwCl[11]? = some (RX11, TX11, 59)) [.int 2, .int o2.2.1] hf (fun u hu => mX11_note_62 l D b ids hI N _ 2 o2.2.1 hu) gX11_readLine_X11_note rfl rfl rfl hdX11_note ⟨Nat.le_of_ble_eq_true rfl, Nat.le_of_ble_eq_true rfl⟩ (fun u h => ((h.I (List.mem_of_getElem? (i := 1) rfl) _).I (List.mem_of_getElem? (i := 0) rfl) _)) rfl hl.1 rfl (Nat.le_of_ble_eq_true rfl) ⟨Nat.le_refl _, Nat.le_refl _⟩ dX11_readLine_225 (fun o5 H locs hf w => ?_)
          exact wX11_readLine_62_228 N hI C hr hlk w (lv_sub hl [1] rfl) hf
      · refine lv_iconst (v := 0) C.1.1 C.1.2.1 dX11_readLine_203 (by decide) ?_
        have he := Option.some.inj hf
        subst he
        exact ns_zret C w hr hlk rfl (Or.inl rfl) rfl dX11_readLine_204
    · refine lv_iconst (v := 0) C.1.1 C.1.2.1 dX11_readLine_189 (by decide) ?_
      have he := Option.some.inj hf
      subst he
      exact ns_zret C w hr hlk rfl (Or.inl rfl) rfl dX11_readLine_190
set_option maxHeartbeats 4000000 in
set_option maxRecDepth 100000 in
theorem wX11_readLine_62_98 {p : Program} {l : Launch} {e : Env} {s : State} {m : MethodId} {args : Array Value} {below : List Frame} {meth : Method} {c : Code} {D : va_G} {b : Nat → Nat} {ids : List Nat} {A : Nat → Prop} {S0 : ns_S} {o : Int32 × Int32 × Int32 × (Nat → Int32) × Int32 × Int32 × Int32 × Int32 × Int32 × Int32 × Int32 × (Nat → Int32) × (Nat → Int32) × (Nat → Int32) × (Nat → Int32) × (Nat → Int32) × (Nat → Int32) × Int32} (N : Nat) (hI : ∀ i, i < 107 → i ∈ ids) (C : ns_C p m c cX11_readLine 4 s args wsX11_readLine RX11 D A) (hr : meth.sig.returnType = some .boolean) (hlk : meth.locks = false) : ∀ {S : ns_S} {H : Heap} {locs : List Loc} {ls : Array Slot} {l1 : Int32}, ns_W D b ids A s.heap wrX11_readLine_62 S0 S H locs → lv_has ls 4 [(0, .ref (b 62)), (1, .int l1)] → gX11_readLine_98 N (S.1 4013) (S.1 4005) (S.1 4010) (S.1 4011) (S.2.1 96) (S.1 4006) (S.1 4007) (S.1 4003) (S.1 4004) (S.2.1 63) (S.1 4008) (S.1 4009) (S.1 4012) (S.2.1 97) (S.2.1 98) (S.2.1 99) (S.2.1 100) (S.2.1 101) (S.2.1 102) l1 = some o → W p l e rmX11_readLine_62 s m args below meth c H locs 0 0 (MQ below (ns_Q D b ids (ns_I (ns_I (ns_A (ns_I (ns_I (ns_I (ns_I (ns_I (ns_I (ns_I (ns_A (ns_A (ns_A (ns_A (ns_A (ns_A (ns_I S0 4013 o.2.2.2.2.2.2.2.2.2.2.2.2.2.2.2.2.2) 102 o.2.2.2.2.2.2.2.2.2.2.2.2.2.2.2.2.1) 101 o.2.2.2.2.2.2.2.2.2.2.2.2.2.2.2.1) 100 o.2.2.2.2.2.2.2.2.2.2.2.2.2.2.1) 99 o.2.2.2.2.2.2.2.2.2.2.2.2.2.1) 98 o.2.2.2.2.2.2.2.2.2.2.2.2.1) 97 o.2.2.2.2.2.2.2.2.2.2.2.1) 4012 o.2.2.2.2.2.2.2.2.2.2.1) 4009 o.2.2.2.2.2.2.2.2.2.1) 4008 o.2.2.2.2.2.2.2.2.1) 4006 o.2.2.2.2.2.2.2.1) 4003 o.2.2.2.2.2.2.1) 4007 o.2.2.2.2.2.1) 4005 o.2.2.2.2.1) 96 o.2.2.2.1) 4011 o.2.2.1) 4010 o.2.1) (some (.int o.1)) A) args s 0 0 A) (F0 m 98 ls []) := by
  intro S H locs ls l1 w hl hf
  unfold gX11_readLine_98 at hf
  refine lv_aload_n C.1.1 C.1.2.1 dX11_readLine_98 rfl (lv_at hl 0 rfl) ?_
  refine ns_geti C w 62 (hI 62 (by decide)) sh_62 (rfl : vwCl[11]? = some (RX11, TX11, 59)) inX11_readLine_11 38 (by decide) rfl lX11_readLine_213 (S.1 4006) rfl dX11_readLine_99 ?_
  refine lv_iconst (v := 2) C.1.1 C.1.2.1 dX11_readLine_102 (by decide) ?_
  refine ns_icmp_ne C hf (tgt := 120) dX11_readLine_103 (by decide) (fun hf => ?_) (fun hf => ?_)
  · exact wX11_readLine_62_120 N hI C hr hlk w (lv_sub hl [0] rfl) hf
  · refine lv_aload_n C.1.1 C.1.2.1 dX11_readLine_106 rfl (lv_at hl 0 rfl) ?_
    refine ns_geti C w 62 (hI 62 (by decide)) sh_62 (rfl : vwCl[11]? = some (RX11, TX11, 59)) inX11_readLine_11 39 (by decide) rfl lX11_readLine_210 (S.1 4007) rfl dX11_readLine_107 ?_
    refine lv_bipush (v := 8) C.1.1 C.1.2.1 dX11_readLine_110 (by decide) ?_
    refine lv_bipush (v := 14) C.1.1 C.1.2.1 dX11_readLine_112 (by decide) ?_
    refine ns_callS C w [.int (S.1 4007), .int 8, .int 14] hf (fun u hu => mX11_in l D b ids hI N _ (S.1 4007) 8 14 hu) gX11_readLine_X11_in rfl rfl rfl hdX11_in ⟨Nat.le_of_ble_eq_true rfl, Nat.le_of_ble_eq_true rfl⟩ (fun u h => h) rfl hl.1 rfl (Nat.le_of_ble_eq_true rfl) ⟨Nat.le_refl _, Nat.le_refl _⟩ dX11_readLine_114 (fun o1 H locs hf w => ?_)
    refine ns_if_ne C hf (tgt := 125) dX11_readLine_117 (by decide) (fun hf => ?_) (fun hf => ?_)
    · refine lv_aload_n C.1.1 C.1.2.1 dX11_readLine_125 rfl (lv_at hl 0 rfl) ?_
      refine ns_getr C w 62 (hI 62 (by decide)) sh_62 (rfl : vwCl[11]? = some (RX11, TX11, 59)) inX11_readLine_11 50 (by decide) rfl lX11_readLine_127 dX11_readLine_126 ?_
      refine lv_iload_n C.1.1 C.1.2.1 dX11_readLine_129 rfl (lv_at hl 1 rfl) ?_
      refine lv_aload_n C.1.1 C.1.2.1 dX11_readLine_130 rfl (lv_at hl 0 rfl) ?_
      refine ns_geti C w 62 (hI 62 (by decide)) sh_62 (rfl : vwCl[11]? = some (RX11, TX11, 59)) inX11_readLine_11 39 (by decide) rfl lX11_readLine_210 (S.1 4007) rfl dX11_readLine_131 ?_
      refine ns_iast C w 100 (hI 100 (by decide)) sh_100 hf rfl (List.mem_of_getElem? (i := 13) rfl) dX11_readLine_134 (fun y2 H locs hf w => ?_)
      refine lv_aload_n C.1.1 C.1.2.1 dX11_readLine_135 rfl (lv_at hl 0 rfl) ?_
      refine ns_callV C w 62 (hI 62 (by decide)) sh_62 (rfl : vwCl[11]? = some (RX11, TX11, 59)) [] hf (fun u hu => mX11_next_62 l D b ids hI N _ hu) gX11_readLine_X11_next rfl rfl rfl hdX11_next ⟨Nat.le_of_ble_eq_true rfl, Nat.le_of_ble_eq_true rfl⟩ (fun u h => ((((h.I (List.mem_of_getElem? (i := 6) rfl) _).I (List.mem_of_getElem? (i := 5) rfl) _).I (List.mem_of_getElem? (i := 4) rfl) _).I (List.mem_of_getElem? (i := 3) rfl) _)) rfl hl.1 rfl (Nat.le_of_ble_eq_true rfl) ⟨Nat.le_refl _, Nat.le_refl _⟩ dX11_readLine_136 (fun o3 H locs hf w => ?_)
      refine lv_aload_n C.1.1 C.1.2.1 dX11_readLine_139 rfl (lv_at hl 0 rfl) ?_
      refine ns_getr C w 62 (hI 62 (by decide)) sh_62 (rfl : vwCl[11]? = some (RX11, TX11, 59)) inX11_readLine_11 50 (by decide) rfl lX11_readLine_127 dX11_readLine_140 ?_
      refine lv_iload_n C.1.1 C.1.2.1 dX11_readLine_143 rfl (lv_at hl 1 rfl) ?_
      refine ns_iald C w 100 (hI 100 (by decide)) sh_100 hf rfl dX11_readLine_144 (fun x4 hf => ?_)
      refine lv_bipush (v := 13) C.1.1 C.1.2.1 dX11_readLine_145 (by decide) ?_
      refine ns_icmp_ge C hf (tgt := 169) dX11_readLine_147 (by decide) (fun hf => ?_) (fun hf => ?_)
      · exact wX11_readLine_62_169 N hI C hr hlk w (lv_sub hl [0, 1] rfl) hf
      · refine lv_aload_n C.1.1 C.1.2.1 dX11_readLine_150 rfl (lv_at hl 0 rfl) ?_
        refine ns_callV C w 62 (hI 62 (by decide)) sh_62 (rfl : vwCl[11]? = some (RX11, TX11, 59)) [] hf (fun u hu => mX11_number_62 l D b ids hI N _ hu) gX11_readLine_X11_number rfl rfl rfl hdX11_number ⟨Nat.le_of_ble_eq_true rfl, Nat.le_of_ble_eq_true rfl⟩ (fun u h => (((((((h.I (List.mem_of_getElem? (i := 8) rfl) _).I (List.mem_of_getElem? (i := 7) rfl) _).I (List.mem_of_getElem? (i := 6) rfl) _).I (List.mem_of_getElem? (i := 5) rfl) _).I (List.mem_of_getElem? (i := 4) rfl) _).I (List.mem_of_getElem? (i := 3) rfl) _).I (List.mem_of_getElem? (i := 9) rfl) _)) rfl hl.1 rfl (Nat.le_of_ble_eq_true rfl) ⟨Nat.le_refl _, Nat.le_refl _⟩ dX11_readLine_151 (fun o5 H locs hf w => ?_)
        refine ns_if_ne C hf (tgt := 159) dX11_readLine_154 (by decide) (fun hf => ?_) (fun hf => ?_)
        · refine lv_aload_n C.1.1 C.1.2.1 dX11_readLine_159 rfl (lv_at hl 0 rfl) ?_
          refine ns_getr C w 62 (hI 62 (by decide)) sh_62 (rfl : vwCl[11]? = some (RX11, TX11, 59)) inX11_readLine_11 51 (by decide) rfl lX11_readLine_130 dX11_readLine_160 ?_
          refine lv_iload_n C.1.1 C.1.2.1 dX11_readLine_163 rfl (lv_at hl 1 rfl) ?_
          refine lv_aload_n C.1.1 C.1.2.1 dX11_readLine_164 rfl (lv_at hl 0 rfl) ?_
          refine ns_geti C w 62 (hI 62 (by decide)) sh_62 (rfl : vwCl[11]? = some (RX11, TX11, 59)) inX11_readLine_11 44 (by decide) rfl lX11_readLine_236 (o5.2.1) rfl dX11_readLine_165 ?_
          refine ns_iast C w 101 (hI 101 (by decide)) sh_101 hf rfl (List.mem_of_getElem? (i := 14) rfl) dX11_readLine_168 (fun y6 H locs hf w => ?_)
          exact wX11_readLine_62_169 N hI C hr hlk w (lv_sub hl [0, 1] rfl) hf
        · refine lv_iconst (v := 0) C.1.1 C.1.2.1 dX11_readLine_157 (by decide) ?_
          have he := Option.some.inj hf
          subst he
          exact ns_zret C w hr hlk rfl (Or.inl rfl) rfl dX11_readLine_158
    · exact wX11_readLine_62_120 N hI C hr hlk w (lv_sub hl [0] rfl) hf
set_option maxHeartbeats 4000000 in
set_option maxRecDepth 100000 in
theorem wX11_readLine_62_56 {p : Program} {l : Launch} {e : Env} {s : State} {m : MethodId} {args : Array Value} {below : List Frame} {meth : Method} {c : Code} {D : va_G} {b : Nat → Nat} {ids : List Nat} {A : Nat → Prop} {S0 : ns_S} {o : Int32 × Int32 × Int32 × (Nat → Int32) × Int32 × Int32 × Int32 × Int32 × Int32 × Int32 × Int32 × (Nat → Int32) × (Nat → Int32) × (Nat → Int32) × (Nat → Int32) × (Nat → Int32) × (Nat → Int32) × Int32} (N : Nat) (hI : ∀ i, i < 107 → i ∈ ids) (C : ns_C p m c cX11_readLine 4 s args wsX11_readLine RX11 D A) (hr : meth.sig.returnType = some .boolean) (hlk : meth.locks = false) : ∀ n : Nat, ∀ {S : ns_S} {H : Heap} {locs : List Loc} {ls : Array Slot} {l1 : Int32} {l2 : Int32} {l3 : Int32}, ns_W D b ids A s.heap wrX11_readLine_62 S0 S H locs → lv_has ls 4 [(0, .ref (b 62)), (1, .int l1), (2, .int l2), (3, .int l3)] → fX11_readLine_56 N n (S.1 4013) (S.1 4005) (S.1 4010) (S.1 4011) (S.2.1 96) (S.1 4006) (S.1 4007) (S.1 4003) (S.1 4004) (S.2.1 63) (S.1 4008) (S.1 4009) (S.1 4012) (S.2.1 97) (S.2.1 98) (S.2.1 99) (S.2.1 100) (S.2.1 101) (S.2.1 102) l1 l2 l3 = some o → W p l e rmX11_readLine_62 s m args below meth c H locs 0 0 (MQ below (ns_Q D b ids (ns_I (ns_I (ns_A (ns_I (ns_I (ns_I (ns_I (ns_I (ns_I (ns_I (ns_A (ns_A (ns_A (ns_A (ns_A (ns_A (ns_I S0 4013 o.2.2.2.2.2.2.2.2.2.2.2.2.2.2.2.2.2) 102 o.2.2.2.2.2.2.2.2.2.2.2.2.2.2.2.2.1) 101 o.2.2.2.2.2.2.2.2.2.2.2.2.2.2.2.1) 100 o.2.2.2.2.2.2.2.2.2.2.2.2.2.2.1) 99 o.2.2.2.2.2.2.2.2.2.2.2.2.2.1) 98 o.2.2.2.2.2.2.2.2.2.2.2.2.1) 97 o.2.2.2.2.2.2.2.2.2.2.2.1) 4012 o.2.2.2.2.2.2.2.2.2.2.1) 4009 o.2.2.2.2.2.2.2.2.2.1) 4008 o.2.2.2.2.2.2.2.2.1) 4006 o.2.2.2.2.2.2.2.1) 4003 o.2.2.2.2.2.2.1) 4007 o.2.2.2.2.2.1) 4005 o.2.2.2.2.1) 96 o.2.2.2.1) 4011 o.2.2.1) 4010 o.2.1) (some (.int o.1)) A) args s 0 0 A) (F0 m 56 ls []) := by
  intro n
  induction n with
  | zero =>
    intro S H locs ls l1 l2 l3 w hl hf
    cases hf
  | succ n K56 =>
    intro S H locs ls l1 l2 l3 w hl hf
    change gX11_readLine_56 N (fX11_readLine_56 N n) (S.1 4013) (S.1 4005) (S.1 4010) (S.1 4011) (S.2.1 96) (S.1 4006) (S.1 4007) (S.1 4003) (S.1 4004) (S.2.1 63) (S.1 4008) (S.1 4009) (S.1 4012) (S.2.1 97) (S.2.1 98) (S.2.1 99) (S.2.1 100) (S.2.1 101) (S.2.1 102) l1 l2 l3 = some o at hf
    generalize fX11_readLine_56 N n = r56 at hf K56
    unfold gX11_readLine_56 at hf
    refine lv_iload_n C.1.1 C.1.2.1 dX11_readLine_56 rfl (lv_at hl 3 rfl) ?_
    refine ns_if_eq C hf (tgt := 87) dX11_readLine_57 (by decide) (fun hf => ?_) (fun hf => ?_)
    · refine lv_aload_n C.1.1 C.1.2.1 dX11_readLine_87 rfl (lv_at hl 0 rfl) ?_
      refine lv_bipush (v := 58) C.1.1 C.1.2.1 dX11_readLine_88 (by decide) ?_
      refine ns_callV C w 62 (hI 62 (by decide)) sh_62 (rfl : vwCl[11]? = some (RX11, TX11, 59)) [.int 58] hf (fun u hu => mX11_need_62 l D b ids hI N _ 58 hu) gX11_readLine_X11_need rfl rfl rfl hdX11_need ⟨Nat.le_of_ble_eq_true rfl, Nat.le_of_ble_eq_true rfl⟩ (fun u h => ((((((h.I (List.mem_of_getElem? (i := 8) rfl) _).I (List.mem_of_getElem? (i := 7) rfl) _).I (List.mem_of_getElem? (i := 6) rfl) _).I (List.mem_of_getElem? (i := 5) rfl) _).I (List.mem_of_getElem? (i := 4) rfl) _).I (List.mem_of_getElem? (i := 3) rfl) _)) rfl hl.1 rfl (Nat.le_of_ble_eq_true rfl) ⟨Nat.le_refl _, Nat.le_refl _⟩ dX11_readLine_90 (fun o1 H locs hf w => ?_)
      refine ns_if_ne C hf (tgt := 98) dX11_readLine_93 (by decide) (fun hf => ?_) (fun hf => ?_)
      · exact wX11_readLine_62_98 N hI C hr hlk w (lv_sub hl [0, 1] rfl) hf
      · refine lv_iconst (v := 0) C.1.1 C.1.2.1 dX11_readLine_96 (by decide) ?_
        have he := Option.some.inj hf
        subst he
        exact ns_zret C w hr hlk rfl (Or.inl rfl) rfl dX11_readLine_97
    · refine lv_aload_n C.1.1 C.1.2.1 dX11_readLine_60 rfl (lv_at hl 0 rfl) ?_
      refine ns_callV C w 62 (hI 62 (by decide)) sh_62 (rfl : vwCl[11]? = some (RX11, TX11, 59)) [] hf (fun u hu => mX11_next_62 l D b ids hI N _ hu) gX11_readLine_X11_next rfl rfl rfl hdX11_next ⟨Nat.le_of_ble_eq_true rfl, Nat.le_of_ble_eq_true rfl⟩ (fun u h => ((((h.I (List.mem_of_getElem? (i := 6) rfl) _).I (List.mem_of_getElem? (i := 5) rfl) _).I (List.mem_of_getElem? (i := 4) rfl) _).I (List.mem_of_getElem? (i := 3) rfl) _)) rfl hl.1 rfl (Nat.le_of_ble_eq_true rfl) ⟨Nat.le_refl _, Nat.le_refl _⟩ dX11_readLine_61 (fun o2 H locs hf w => ?_)
      refine lv_aload_n C.1.1 C.1.2.1 dX11_readLine_64 rfl (lv_at hl 0 rfl) ?_
      refine lv_iload_n C.1.1 C.1.2.1 dX11_readLine_65 rfl (lv_at hl 1 rfl) ?_
      refine lv_iload_n C.1.1 C.1.2.1 dX11_readLine_66 rfl (lv_at hl 2 rfl) ?_
      refine ns_callV C w 62 (hI 62 (by decide)) sh_62 (rfl : vwCl[11]? = some (RX11, TX11, 59)) [.int l1, .int l2] hf (fun u hu => mX11_test_62 l D b ids hI N _ l1 l2 hu) gX11_readLine_X11_test rfl rfl rfl hdX11_test ⟨Nat.le_of_ble_eq_true rfl, Nat.le_of_ble_eq_true rfl⟩ (fun u h => (((((((((((((h.A (List.mem_of_getElem? (i := 2) rfl) _).A (List.mem_of_getElem? (i := 12) rfl) _).A (List.mem_of_getElem? (i := 11) rfl) _).A (List.mem_of_getElem? (i := 10) rfl) _).I (List.mem_of_getElem? (i := 8) rfl) _).I (List.mem_of_getElem? (i := 7) rfl) _).I (List.mem_of_getElem? (i := 9) rfl) _).I (List.mem_of_getElem? (i := 6) rfl) _).I (List.mem_of_getElem? (i := 5) rfl) _).I (List.mem_of_getElem? (i := 4) rfl) _).I (List.mem_of_getElem? (i := 3) rfl) _).I (List.mem_of_getElem? (i := 1) rfl) _).I (List.mem_of_getElem? (i := 0) rfl) _)) rfl hl.1 rfl (Nat.le_of_ble_eq_true rfl) ⟨Nat.le_refl _, Nat.le_refl _⟩ dX11_readLine_67 (fun o3 H locs hf w => ?_)
      refine ns_if_ne C hf (tgt := 75) dX11_readLine_70 (by decide) (fun hf => ?_) (fun hf => ?_)
      · refine ns_iinc (lv' := fun x4 => [(2, .int x4), (0, .ref (b 62)), (1, .int l1), (3, .int l3)]) C hf dX11_readLine_75 hl (k := 2) rfl rfl (by decide) (fun _ => rfl) (fun x4 ls hl hf => ?_)
        refine lv_aload_n C.1.1 C.1.2.1 dX11_readLine_78 rfl (lv_at hl 1 rfl) ?_
        refine lv_iconst (v := 1) C.1.1 C.1.2.1 dX11_readLine_79 (by decide) ?_
        refine ns_callV C w 62 (hI 62 (by decide)) sh_62 (rfl : vwCl[11]? = some (RX11, TX11, 59)) [.int 1] hf (fun u hu => mX11_isWord_62 l D b ids hI N _ 1 hu) gX11_readLine_X11_isWord rfl rfl rfl hdX11_isWord ⟨Nat.le_of_ble_eq_true rfl, Nat.le_of_ble_eq_true rfl⟩ (fun u h => h) rfl hl.1 rfl (Nat.le_of_ble_eq_true rfl) ⟨Nat.le_refl _, Nat.le_refl _⟩ dX11_readLine_80 (fun o5 H locs hf w => ?_)
        refine lv_istore_n (lv' := [(3, .int o5), (2, .int x4), (0, .ref (b 62)), (1, .int l1)]) C.1.1 C.1.2.1 dX11_readLine_83 rfl hl (by decide) rfl (fun ls hl => ?_)
        refine lv_goto (tgt := 56) C.1.1 C.1.2.1 dX11_readLine_84 (by decide) ?_
        exact K56 w (lv_sub hl [2, 3, 1, 0] rfl) hf
      · refine lv_iconst (v := 0) C.1.1 C.1.2.1 dX11_readLine_73 (by decide) ?_
        have he := Option.some.inj hf
        subst he
        exact ns_zret C w hr hlk rfl (Or.inl rfl) rfl dX11_readLine_74
set_option maxHeartbeats 4000000 in
set_option maxRecDepth 100000 in
theorem wX11_readLine_62_37 {p : Program} {l : Launch} {e : Env} {s : State} {m : MethodId} {args : Array Value} {below : List Frame} {meth : Method} {c : Code} {D : va_G} {b : Nat → Nat} {ids : List Nat} {A : Nat → Prop} {S0 : ns_S} {o : Int32 × Int32 × Int32 × (Nat → Int32) × Int32 × Int32 × Int32 × Int32 × Int32 × Int32 × Int32 × (Nat → Int32) × (Nat → Int32) × (Nat → Int32) × (Nat → Int32) × (Nat → Int32) × (Nat → Int32) × Int32} (N : Nat) (hI : ∀ i, i < 107 → i ∈ ids) (C : ns_C p m c cX11_readLine 4 s args wsX11_readLine RX11 D A) (hr : meth.sig.returnType = some .boolean) (hlk : meth.locks = false) : ∀ {S : ns_S} {H : Heap} {locs : List Loc} {ls : Array Slot} {l1 : Int32}, ns_W D b ids A s.heap wrX11_readLine_62 S0 S H locs → lv_has ls 4 [(0, .ref (b 62)), (1, .int l1)] → gX11_readLine_37 N (S.1 4013) (S.1 4005) (S.1 4010) (S.1 4011) (S.2.1 96) (S.1 4006) (S.1 4007) (S.1 4003) (S.1 4004) (S.2.1 63) (S.1 4008) (S.1 4009) (S.1 4012) (S.2.1 97) (S.2.1 98) (S.2.1 99) (S.2.1 100) (S.2.1 101) (S.2.1 102) l1 = some o → W p l e rmX11_readLine_62 s m args below meth c H locs 0 0 (MQ below (ns_Q D b ids (ns_I (ns_I (ns_A (ns_I (ns_I (ns_I (ns_I (ns_I (ns_I (ns_I (ns_A (ns_A (ns_A (ns_A (ns_A (ns_A (ns_I S0 4013 o.2.2.2.2.2.2.2.2.2.2.2.2.2.2.2.2.2) 102 o.2.2.2.2.2.2.2.2.2.2.2.2.2.2.2.2.1) 101 o.2.2.2.2.2.2.2.2.2.2.2.2.2.2.2.1) 100 o.2.2.2.2.2.2.2.2.2.2.2.2.2.2.1) 99 o.2.2.2.2.2.2.2.2.2.2.2.2.2.1) 98 o.2.2.2.2.2.2.2.2.2.2.2.2.1) 97 o.2.2.2.2.2.2.2.2.2.2.2.1) 4012 o.2.2.2.2.2.2.2.2.2.2.1) 4009 o.2.2.2.2.2.2.2.2.2.1) 4008 o.2.2.2.2.2.2.2.2.1) 4006 o.2.2.2.2.2.2.2.1) 4003 o.2.2.2.2.2.2.1) 4007 o.2.2.2.2.2.1) 4005 o.2.2.2.2.1) 96 o.2.2.2.1) 4011 o.2.2.1) 4010 o.2.1) (some (.int o.1)) A) args s 0 0 A) (F0 m 37 ls []) := by
  intro S H locs ls l1 w hl hf
  unfold gX11_readLine_37 at hf
  refine lv_aload_n C.1.1 C.1.2.1 dX11_readLine_37 rfl (lv_at hl 0 rfl) ?_
  refine ns_getr C w 62 (hI 62 (by decide)) sh_62 (rfl : vwCl[11]? = some (RX11, TX11, 59)) inX11_readLine_11 46 (by decide) rfl lX11_readLine_115 dX11_readLine_38 ?_
  refine lv_iload_n C.1.1 C.1.2.1 dX11_readLine_41 rfl (lv_at hl 1 rfl) ?_
  refine lv_iconst (v := 0) C.1.1 C.1.2.1 dX11_readLine_42 (by decide) ?_
  refine ns_iast C w 96 (hI 96 (by decide)) sh_96 hf rfl (List.mem_of_getElem? (i := 2) rfl) dX11_readLine_43 (fun y1 H locs hf w => ?_)
  refine lv_aload_n C.1.1 C.1.2.1 dX11_readLine_44 rfl (lv_at hl 0 rfl) ?_
  refine lv_iconst (v := 0) C.1.1 C.1.2.1 dX11_readLine_45 (by decide) ?_
  refine ns_callV C w 62 (hI 62 (by decide)) sh_62 (rfl : vwCl[11]? = some (RX11, TX11, 59)) [.int 0] hf (fun u hu => mX11_isWord_62 l D b ids hI N _ 0 hu) gX11_readLine_X11_isWord rfl rfl rfl hdX11_isWord ⟨Nat.le_of_ble_eq_true rfl, Nat.le_of_ble_eq_true rfl⟩ (fun u h => h) rfl hl.1 rfl (Nat.le_of_ble_eq_true rfl) ⟨Nat.le_refl _, Nat.le_refl _⟩ dX11_readLine_46 (fun o2 H locs hf w => ?_)
  refine ns_if_eq C hf (tgt := 98) dX11_readLine_49 (by decide) (fun hf => ?_) (fun hf => ?_)
  · exact wX11_readLine_62_98 N hI C hr hlk w (lv_sub hl [0, 1] rfl) hf
  · refine lv_iconst (v := 0) C.1.1 C.1.2.1 dX11_readLine_52 (by decide) ?_
    refine lv_istore_n (lv' := [(2, .int 0), (0, .ref (b 62)), (1, .int l1)]) C.1.1 C.1.2.1 dX11_readLine_53 rfl hl (by decide) rfl (fun ls hl => ?_)
    refine lv_iconst (v := 1) C.1.1 C.1.2.1 dX11_readLine_54 (by decide) ?_
    refine lv_istore_n (lv' := [(3, .int 1), (2, .int 0), (0, .ref (b 62)), (1, .int l1)]) C.1.1 C.1.2.1 dX11_readLine_55 rfl hl (by decide) rfl (fun ls hl => ?_)
    exact wX11_readLine_62_56 N hI C hr hlk N w (lv_sub hl [2, 3, 1, 0] rfl) hf
set_option maxHeartbeats 4000000 in
set_option maxRecDepth 100000 in
theorem wX11_readLine_62_18 {p : Program} {l : Launch} {e : Env} {s : State} {m : MethodId} {args : Array Value} {below : List Frame} {meth : Method} {c : Code} {D : va_G} {b : Nat → Nat} {ids : List Nat} {A : Nat → Prop} {S0 : ns_S} {o : Int32 × Int32 × Int32 × (Nat → Int32) × Int32 × Int32 × Int32 × Int32 × Int32 × Int32 × Int32 × (Nat → Int32) × (Nat → Int32) × (Nat → Int32) × (Nat → Int32) × (Nat → Int32) × (Nat → Int32) × Int32} (N : Nat) (hI : ∀ i, i < 107 → i ∈ ids) (C : ns_C p m c cX11_readLine 4 s args wsX11_readLine RX11 D A) (hr : meth.sig.returnType = some .boolean) (hlk : meth.locks = false) : ∀ {S : ns_S} {H : Heap} {locs : List Loc} {ls : Array Slot} {s0 : Int32}, ns_W D b ids A s.heap wrX11_readLine_62 S0 S H locs → lv_has ls 4 [(0, .ref (b 62))] → gX11_readLine_18 N (S.1 4013) (S.1 4005) (S.1 4010) (S.1 4011) (S.2.1 96) (S.1 4006) (S.1 4007) (S.1 4003) (S.1 4004) (S.2.1 63) (S.1 4008) (S.1 4009) (S.1 4012) (S.2.1 97) (S.2.1 98) (S.2.1 99) (S.2.1 100) (S.2.1 101) (S.2.1 102) s0 = some o → W p l e rmX11_readLine_62 s m args below meth c H locs 0 0 (MQ below (ns_Q D b ids (ns_I (ns_I (ns_A (ns_I (ns_I (ns_I (ns_I (ns_I (ns_I (ns_I (ns_A (ns_A (ns_A (ns_A (ns_A (ns_A (ns_I S0 4013 o.2.2.2.2.2.2.2.2.2.2.2.2.2.2.2.2.2) 102 o.2.2.2.2.2.2.2.2.2.2.2.2.2.2.2.2.1) 101 o.2.2.2.2.2.2.2.2.2.2.2.2.2.2.2.1) 100 o.2.2.2.2.2.2.2.2.2.2.2.2.2.2.1) 99 o.2.2.2.2.2.2.2.2.2.2.2.2.2.1) 98 o.2.2.2.2.2.2.2.2.2.2.2.2.1) 97 o.2.2.2.2.2.2.2.2.2.2.2.1) 4012 o.2.2.2.2.2.2.2.2.2.2.1) 4009 o.2.2.2.2.2.2.2.2.2.1) 4008 o.2.2.2.2.2.2.2.2.1) 4006 o.2.2.2.2.2.2.2.1) 4003 o.2.2.2.2.2.2.1) 4007 o.2.2.2.2.2.1) 4005 o.2.2.2.2.1) 96 o.2.2.2.1) 4011 o.2.2.1) 4010 o.2.1) (some (.int o.1)) A) args s 0 0 A) (F0 m 18 ls [.int s0]) := by
  intro S H locs ls s0 w hl hf
  unfold gX11_readLine_18 at hf
  refine lv_istore_n (lv' := [(1, .int s0), (0, .ref (b 62))]) C.1.1 C.1.2.1 dX11_readLine_18 rfl hl (by decide) rfl (fun ls hl => ?_)
  refine lv_aload_n C.1.1 C.1.2.1 dX11_readLine_19 rfl (lv_at hl 1 rfl) ?_
  refine ns_geti C w 62 (hI 62 (by decide)) sh_62 (rfl : vwCl[11]? = some (RX11, TX11, 59)) inX11_readLine_11 45 (by decide) rfl lX11_readLine_239 (S.1 4013) rfl dX11_readLine_20 ?_
  refine lv_bipush (v := 16) C.1.1 C.1.2.1 dX11_readLine_23 (by decide) ?_
  refine ns_icmp_ne C hf (tgt := 37) dX11_readLine_25 (by decide) (fun hf => ?_) (fun hf => ?_)
  · exact wX11_readLine_62_37 N hI C hr hlk w (lv_sub hl [1, 0] rfl) hf
  · refine lv_aload_n C.1.1 C.1.2.1 dX11_readLine_28 rfl (lv_at hl 1 rfl) ?_
    refine lv_iconst (v := 3) C.1.1 C.1.2.1 dX11_readLine_29 (by decide) ?_
    refine lv_aload_n C.1.1 C.1.2.1 dX11_readLine_30 rfl (lv_at hl 1 rfl) ?_
    refine ns_geti C w 62 (hI 62 (by decide)) sh_62 (rfl : vwCl[11]? = some (RX11, TX11, 59)) inX11_readLine_11 37 (by decide) rfl lX11_readLine_207 (S.1 4005) rfl dX11_readLine_31 ?_
    refine ns_callV C w 62 (hI 62 (by decide)) sh_62 (rfl : vwCl[11]? = some (RX11, TX11, 59)) [.int 3, .int (S.1 4005)] hf (fun u hu => mX11_note_62 l D b ids hI N _ 3 (S.1 4005) hu) gX11_readLine_X11_note rfl rfl rfl hdX11_note ⟨Nat.le_of_ble_eq_true rfl, Nat.le_of_ble_eq_true rfl⟩ (fun u h => ((h.I (List.mem_of_getElem? (i := 1) rfl) _).I (List.mem_of_getElem? (i := 0) rfl) _)) rfl hl.1 rfl (Nat.le_of_ble_eq_true rfl) ⟨Nat.le_refl _, Nat.le_refl _⟩ dX11_readLine_34 (fun o1 H locs hf w => ?_)
    exact wX11_readLine_62_37 N hI C hr hlk w (lv_sub hl [1, 0] rfl) hf
set_option maxHeartbeats 4000000 in
set_option maxRecDepth 100000 in
theorem mX11_readLine_62 (l : Launch) (D : va_G) (b : Nat → Nat) (ids : List Nat) (hI : ∀ i, i < 107 → i ∈ ids) (N : Nat) (S : ns_S) {o : Int32 × Int32 × Int32 × (Nat → Int32) × Int32 × Int32 × Int32 × Int32 × Int32 × Int32 × Int32 × (Nat → Int32) × (Nat → Int32) × (Nat → Int32) × (Nat → Int32) × (Nat → Int32) × (Nat → Int32) × Int32} (hf : fX11_readLine N (S.1 4013) (S.1 4005) (S.1 4010) (S.1 4011) (S.2.1 96) (S.1 4006) (S.1 4007) (S.1 4003) (S.1 4004) (S.2.1 63) (S.1 4008) (S.1 4009) (S.1 4012) (S.2.1 97) (S.2.1 98) (S.2.1 99) (S.2.1 100) (S.2.1 101) (S.2.1 102) = some o) : ns_M l yX11_readLine wsX11_readLine rmX11_readLine_62 D b ids S [.ref (b 62)] (some (.int o.1)) (ns_I (ns_I (ns_A (ns_I (ns_I (ns_I (ns_I (ns_I (ns_I (ns_I (ns_A (ns_A (ns_A (ns_A (ns_A (ns_A (ns_I S 4013 o.2.2.2.2.2.2.2.2.2.2.2.2.2.2.2.2.2) 102 o.2.2.2.2.2.2.2.2.2.2.2.2.2.2.2.2.1) 101 o.2.2.2.2.2.2.2.2.2.2.2.2.2.2.2.1) 100 o.2.2.2.2.2.2.2.2.2.2.2.2.2.2.1) 99 o.2.2.2.2.2.2.2.2.2.2.2.2.2.1) 98 o.2.2.2.2.2.2.2.2.2.2.2.2.1) 97 o.2.2.2.2.2.2.2.2.2.2.2.1) 4012 o.2.2.2.2.2.2.2.2.2.2.1) 4009 o.2.2.2.2.2.2.2.2.2.1) 4008 o.2.2.2.2.2.2.2.2.1) 4006 o.2.2.2.2.2.2.2.1) 4003 o.2.2.2.2.2.2.1) 4007 o.2.2.2.2.2.1) 4005 o.2.2.2.2.1) 96 o.2.2.2.1) 4011 o.2.2.1) 4010 o.2.1) := by
  refine ns_start (Wr := wrX11_readLine_62) (by decide) rfl (Nat.le_of_ble_eq_true rfl) ?_
  intro p e s m below meth c A ls C hr hlk w hl
  have hl : lv_has ls 4 [(0, .ref (b 62))] := hl
  unfold fX11_readLine at hf
  refine lv_aload_n C.1.1 C.1.2.1 dX11_readLine_0 rfl (lv_at hl 0 rfl) ?_
  refine ns_geti C w 62 (hI 62 (by decide)) sh_62 (rfl : vwCl[11]? = some (RX11, TX11, 59)) inX11_readLine_11 45 (by decide) rfl lX11_readLine_239 (S.1 4013) rfl dX11_readLine_1 ?_
  refine lv_bipush (v := 16) C.1.1 C.1.2.1 dX11_readLine_4 (by decide) ?_
  refine ns_icmp_ge C hf (tgt := 16) dX11_readLine_6 (by decide) (fun hf => ?_) (fun hf => ?_)
  · refine lv_bipush (v := 16) C.1.1 C.1.2.1 dX11_readLine_16 (by decide) ?_
    exact wX11_readLine_62_18 N hI C hr hlk w (lv_sub hl [0] rfl) hf
  · refine lv_aload_n C.1.1 C.1.2.1 dX11_readLine_9 rfl (lv_at hl 0 rfl) ?_
    refine ns_geti C w 62 (hI 62 (by decide)) sh_62 (rfl : vwCl[11]? = some (RX11, TX11, 59)) inX11_readLine_11 45 (by decide) rfl lX11_readLine_239 (S.1 4013) rfl dX11_readLine_10 ?_
    refine lv_goto (tgt := 18) C.1.1 C.1.2.1 dX11_readLine_13 (by decide) ?_
    exact wX11_readLine_62_18 N hI C hr hlk w (lv_sub hl [0] rfl) hf
