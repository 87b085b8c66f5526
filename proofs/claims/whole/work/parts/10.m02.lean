theorem lX11_wish_54 : Cond.fieldLink RX11 54 (TX11 16).1 (TX11 16).2.1 (TX11 16).2.2.1 ∈ wsX11_wish := List.mem_of_getElem? (i := 2) rfl
theorem lX11_wish_57 : Cond.fieldLink RX11 57 (TX11 17).1 (TX11 17).2.1 (TX11 17).2.2.1 ∈ wsX11_wish := List.mem_of_getElem? (i := 3) rfl
theorem lX11_wish_179 : Cond.fieldLink RX11 179 (TX11 0).1 (TX11 0).2.1 (TX11 0).2.2.1 ∈ wsX11_wish := List.mem_of_getElem? (i := 1) rfl
theorem inX11_wish_11 : ∀ w ∈ u_ws RX11 TX11 59, w ∈ wsX11_wish := fun _ h => List.mem_cons_of_mem _ (List.mem_append_right _ h)
theorem hdX11_wish : yX11_wish.cls = RX11 ∧ yX11_wish.cls ≠ "java/lang/invoke/MethodHandle" ∧ yX11_wish.cls ≠ "java/lang/invoke/VarHandle" ∧ (parseMethodDescriptor yX11_wish.desc).map (fun d => d.parameters.length) = some 2 := by decide +kernel
abbrev wrX11_wish_62 : List (Nat × Nat) := [(0, 3968), (1, 78), (1, 77), (1, 84), (1, 85)]
abbrev rmX11_wish_62 : Room := { frames := 4, cells := 0, slots := 0, locals := 91 }
set_option maxHeartbeats 4000000 in
set_option maxRecDepth 100000 in
theorem mX11_wish_62 (l : Launch) (D : va_G) (b : Nat → Nat) (ids : List Nat) (hI : ∀ i, i < 107 → i ∈ ids) (N : Nat) (S : ns_S) (p1 : Int32) (p2 : Int32) {o : Int32 × Int32 × (Nat → Int32) × (Nat → Int32) × (Nat → Int32) × (Nat → Int32)} (hf : fX11_wish N (S.1 3968) (S.2.1 73) (S.2.1 67) (S.2.1 77) (S.2.1 78) (S.2.1 79) (S.2.1 84) (S.2.1 80) (S.2.1 68) (S.2.1 76) (S.2.1 82) (S.2.1 85) p1 p2 = some o) : ns_M l yX11_wish wsX11_wish rmX11_wish_62 D b ids S [.ref (b 62), .int p1, .int p2] (some (.int o.1)) (ns_I (ns_A (ns_A (ns_A (ns_A S 85 o.2.2.2.2.2) 84 o.2.2.2.2.1) 77 o.2.2.2.1) 78 o.2.2.1) 3968 o.2.1) := by
  refine ns_start (Wr := wrX11_wish_62) (by decide) rfl (Nat.le_of_ble_eq_true rfl) ?_
  intro p e s m below meth c A ls C hr hlk w hl
  have hl : lv_has ls 3 [(0, .ref (b 62)), (1, .int p1), (2, .int p2)] := hl
  unfold fX11_wish at hf
  refine lv_aload_n C.1.1 C.1.2.1 dX11_wish_0 rfl (lv_at hl 0 rfl) ?_
  refine lv_iconst (v := 0) C.1.1 C.1.2.1 dX11_wish_1 (by decide) ?_
  refine ns_puti C w 62 (hI 62 (by decide)) sh_62 (rfl : vwCl[11]? = some (RX11, TX11, 59)) inX11_wish_11 tyX11_ok nmX11 0 (by decide) rfl lX11_wish_179 rfl rfl rfl (List.mem_of_getElem? (i := 0) rfl) dX11_wish_2 (fun H locs w => ?_)
  refine lv_aload_n C.1.1 C.1.2.1 dX11_wish_5 rfl (lv_at hl 0 rfl) ?_
  refine lv_iload_n C.1.1 C.1.2.1 dX11_wish_6 rfl (lv_at hl 1 rfl) ?_
  refine ns_callV C w 62 (hI 62 (by decide)) sh_62 (rfl : vwCl[11]? = some (RX11, TX11, 59)) [.int p1] hf (fun u hu => mX11_isPupil_62 l D b ids hI N _ p1 hu) gX11_wish_X11_isPupil rfl rfl rfl hdX11_isPupil ⟨Nat.le_of_ble_eq_true rfl, Nat.le_of_ble_eq_true rfl⟩ (fun u h => h) rfl hl.1 rfl (Nat.le_of_ble_eq_true rfl) ⟨Nat.le_refl _, Nat.le_refl _⟩ dX11_wish_7 (fun o1 H locs hf w => ?_)
  refine ns_if_eq C hf (tgt := 42) dX11_wish_10 (by decide) (fun hf => ?_) (fun hf => ?_)
  · refine lv_iconst (v := (-1)) C.1.1 C.1.2.1 dX11_wish_42 (by decide) ?_
    have he := Option.some.inj hf
    subst he
    exact ns_iret C w hr hlk rfl rfl dX11_wish_43
  · refine lv_aload_n C.1.1 C.1.2.1 dX11_wish_13 rfl (lv_at hl 0 rfl) ?_
    refine lv_iload_n C.1.1 C.1.2.1 dX11_wish_14 rfl (lv_at hl 2 rfl) ?_
    refine ns_callV C w 62 (hI 62 (by decide)) sh_62 (rfl : vwCl[11]? = some (RX11, TX11, 59)) [.int p2] hf (fun u hu => mX11_isCourse_62 l D b ids hI N _ p2 hu) gX11_wish_X11_isCourse rfl rfl rfl hdX11_isCourse ⟨Nat.le_of_ble_eq_true rfl, Nat.le_of_ble_eq_true rfl⟩ (fun u h => h) rfl hl.1 rfl (Nat.le_of_ble_eq_true rfl) ⟨Nat.le_refl _, Nat.le_refl _⟩ dX11_wish_15 (fun o2 H locs hf w => ?_)
    refine ns_if_eq C hf (tgt := 42) dX11_wish_18 (by decide) (fun hf => ?_) (fun hf => ?_)
    · refine lv_iconst (v := (-1)) C.1.1 C.1.2.1 dX11_wish_42 (by decide) ?_
      have he := Option.some.inj hf
      subst he
      exact ns_iret C w hr hlk rfl rfl dX11_wish_43
    · refine lv_aload_n C.1.1 C.1.2.1 dX11_wish_21 rfl (lv_at hl 0 rfl) ?_
      refine ns_getr C w 62 (hI 62 (by decide)) sh_62 (rfl : vwCl[11]? = some (RX11, TX11, 59)) inX11_wish_11 16 (by decide) rfl lX11_wish_54 dX11_wish_22 ?_
      refine lv_iload_n C.1.1 C.1.2.1 dX11_wish_25 rfl (lv_at hl 1 rfl) ?_
      refine ns_iald C w 77 (hI 77 (by decide)) sh_77 hf rfl dX11_wish_26 (fun x3 hf => ?_)
      refine lv_bipush (v := 6) C.1.1 C.1.2.1 dX11_wish_27 (by decide) ?_
      refine ns_icmp_eq C hf (tgt := 42) dX11_wish_29 (by decide) (fun hf => ?_) (fun hf => ?_)
      · refine lv_iconst (v := (-1)) C.1.1 C.1.2.1 dX11_wish_42 (by decide) ?_
        have he := Option.some.inj hf
        subst he
        exact ns_iret C w hr hlk rfl rfl dX11_wish_43
      · refine lv_aload_n C.1.1 C.1.2.1 dX11_wish_32 rfl (lv_at hl 0 rfl) ?_
        refine lv_iload_n C.1.1 C.1.2.1 dX11_wish_33 rfl (lv_at hl 1 rfl) ?_
        refine lv_iload_n C.1.1 C.1.2.1 dX11_wish_34 rfl (lv_at hl 2 rfl) ?_
        refine ns_callV C w 62 (hI 62 (by decide)) sh_62 (rfl : vwCl[11]? = some (RX11, TX11, 59)) [.int p1, .int p2] hf (fun u hu => mX11_rank_62 l D b ids hI N _ p1 p2 hu) gX11_wish_X11_rank rfl rfl rfl hdX11_rank ⟨Nat.le_of_ble_eq_true rfl, Nat.le_of_ble_eq_true rfl⟩ (fun u h => h) rfl hl.1 rfl (Nat.le_of_ble_eq_true rfl) ⟨Nat.le_refl _, Nat.le_refl _⟩ dX11_wish_35 (fun o4 H locs hf w => ?_)
        refine lv_iconst (v := (-1)) C.1.1 C.1.2.1 dX11_wish_38 (by decide) ?_
        refine ns_icmp_eq C hf (tgt := 44) dX11_wish_39 (by decide) (fun hf => ?_) (fun hf => ?_)
        · refine lv_aload_n C.1.1 C.1.2.1 dX11_wish_44 rfl (lv_at hl 0 rfl) ?_
          refine ns_getr C w 62 (hI 62 (by decide)) sh_62 (rfl : vwCl[11]? = some (RX11, TX11, 59)) inX11_wish_11 17 (by decide) rfl lX11_wish_57 dX11_wish_45 ?_
          refine lv_bipush (v := 6) C.1.1 C.1.2.1 dX11_wish_48 (by decide) ?_
          refine lv_iload_n C.1.1 C.1.2.1 dX11_wish_50 rfl (lv_at hl 1 rfl) ?_
          refine lv_imul C.1.1 C.1.2.1 dX11_wish_51 ?_
          refine lv_aload_n C.1.1 C.1.2.1 dX11_wish_52 rfl (lv_at hl 0 rfl) ?_
          refine ns_getr C w 62 (hI 62 (by decide)) sh_62 (rfl : vwCl[11]? = some (RX11, TX11, 59)) inX11_wish_11 16 (by decide) rfl lX11_wish_54 dX11_wish_53 ?_
          refine lv_iload_n C.1.1 C.1.2.1 dX11_wish_56 rfl (lv_at hl 1 rfl) ?_
          refine ns_iald C w 77 (hI 77 (by decide)) sh_77 hf rfl dX11_wish_57 (fun x5 hf => ?_)
          refine lv_iadd C.1.1 C.1.2.1 dX11_wish_58 ?_
          refine lv_iload_n C.1.1 C.1.2.1 dX11_wish_59 rfl (lv_at hl 2 rfl) ?_
          refine ns_iast C w 78 (hI 78 (by decide)) sh_78 hf rfl (List.mem_of_getElem? (i := 1) rfl) dX11_wish_60 (fun y6 H locs hf w => ?_)
          refine lv_aload_n C.1.1 C.1.2.1 dX11_wish_61 rfl (lv_at hl 0 rfl) ?_
          refine ns_getr C w 62 (hI 62 (by decide)) sh_62 (rfl : vwCl[11]? = some (RX11, TX11, 59)) inX11_wish_11 16 (by decide) rfl lX11_wish_54 dX11_wish_62 ?_
          refine lv_iload_n C.1.1 C.1.2.1 dX11_wish_65 rfl (lv_at hl 1 rfl) ?_
          refine lv_dup2_11 C.1.1 C.1.2.1 dX11_wish_66 rfl rfl ?_
          refine ns_iald C w 77 (hI 77 (by decide)) sh_77 hf rfl dX11_wish_67 (fun x7 hf => ?_)
          refine lv_iconst (v := 1) C.1.1 C.1.2.1 dX11_wish_68 (by decide) ?_
          refine lv_iadd C.1.1 C.1.2.1 dX11_wish_69 ?_
          refine ns_iast C w 77 (hI 77 (by decide)) sh_77 hf rfl (List.mem_of_getElem? (i := 2) rfl) dX11_wish_70 (fun y8 H locs hf w => ?_)
          refine lv_aload_n C.1.1 C.1.2.1 dX11_wish_71 rfl (lv_at hl 0 rfl) ?_
          refine ns_callV C w 62 (hI 62 (by decide)) sh_62 (rfl : vwCl[11]? = some (RX11, TX11, 59)) [] hf (fun u hu => mX11_moveUp_62 l D b ids hI N _ hu) gX11_wish_X11_moveUp rfl rfl rfl hdX11_moveUp ⟨Nat.le_of_ble_eq_true rfl, Nat.le_of_ble_eq_true rfl⟩ (fun u h => ((h.A (List.mem_of_getElem? (i := 4) rfl) _).A (List.mem_of_getElem? (i := 3) rfl) _)) rfl hl.1 rfl (Nat.le_of_ble_eq_true rfl) ⟨Nat.le_refl _, Nat.le_refl _⟩ dX11_wish_72 (fun o9 H locs hf w => ?_)
          refine lv_aload_n C.1.1 C.1.2.1 dX11_wish_75 rfl (lv_at hl 0 rfl) ?_
          refine ns_getr C w 62 (hI 62 (by decide)) sh_62 (rfl : vwCl[11]? = some (RX11, TX11, 59)) inX11_wish_11 16 (by decide) rfl lX11_wish_54 dX11_wish_76 ?_
          refine lv_iload_n C.1.1 C.1.2.1 dX11_wish_79 rfl (lv_at hl 1 rfl) ?_
          refine ns_iald C w 77 (hI 77 (by decide)) sh_77 hf rfl dX11_wish_80 (fun x10 hf => ?_)
          refine lv_iconst (v := 1) C.1.1 C.1.2.1 dX11_wish_81 (by decide) ?_
          refine lv_isub C.1.1 C.1.2.1 dX11_wish_82 ?_
          have he := Option.some.inj hf
          subst he
          exact ns_iret C w hr hlk rfl rfl dX11_wish_83
        · refine lv_iconst (v := (-1)) C.1.1 C.1.2.1 dX11_wish_42 (by decide) ?_
          have he := Option.some.inj hf
          subst he
          exact ns_iret C w hr hlk rfl rfl dX11_wish_43
theorem hdX3_orderByGreatest : yX3_orderByGreatest.cls ≠ "java/lang/invoke/MethodHandle" ∧ yX3_orderByGreatest.cls ≠ "java/lang/invoke/VarHandle" ∧ (parseMethodDescriptor yX3_orderByGreatest.desc).map (fun d => d.parameters.length) = some 3 := by decide +kernel
abbrev wrX3_orderByGreatest_21_30 : List (Nat × Nat) := [(1, 21)]
abbrev rmX3_orderByGreatest_21_30 : Room := { frames := 0, cells := 0, slots := 0, locals := 0 }
set_option maxHeartbeats 4000000 in
set_option maxRecDepth 100000 in
theorem wX3_orderByGreatest_21_30_45 {p : Program} {l : Launch} {e : Env} {s : State} {m : MethodId} {args : Array Value} {below : List Frame} {meth : Method} {c : Code} {D : va_G} {b : Nat → Nat} {ids : List Nat} {A : Nat → Prop} {S0 : ns_S} {o : (Nat → Int32)} (N : Nat) (hI : ∀ i, i < 107 → i ∈ ids) (C : ns_C p m c cX3_orderByGreatest 5 s args wsX3_orderByGreatest RX3 D A) (hr : meth.sig.returnType = none) (hlk : meth.locks = false) {r2 : (Nat → Int32) → (Nat → Int32) → Int32 → Int32 → Option ((Nat → Int32))} (K2 : ∀ {S : ns_S} {H : Heap} {locs : List Loc} {ls : Array Slot} {l2 : Int32} {l3 : Int32}, ns_W D b ids A s.heap wrX3_orderByGreatest_21_30 S0 S H locs → lv_has ls 5 [(0, .ref (b 21)), (1, .ref (b 30)), (2, .int l2), (3, .int l3)] → r2 (S.2.1 21) (S.2.1 30) l2 l3 = some o → W p l e rmX3_orderByGreatest_21_30 s m args below meth c H locs 0 0 (MQ below (ns_Q D b ids (ns_A S0 21 o) none A) args s 0 0 A) (F0 m 2 ls [])) : ∀ {S : ns_S} {H : Heap} {locs : List Loc} {ls : Array Slot} {l2 : Int32} {l3 : Int32} {l4 : Int32}, ns_W D b ids A s.heap wrX3_orderByGreatest_21_30 S0 S H locs → lv_has ls 5 [(0, .ref (b 21)), (1, .ref (b 30)), (2, .int l2), (3, .int l3), (4, .int l4)] → gX3_orderByGreatest_45 N 5 5 r2 (S.2.1 21) (S.2.1 30) l2 l3 l4 = some o → W p l e rmX3_orderByGreatest_21_30 s m args below meth c H locs 0 0 (MQ below (ns_Q D b ids (ns_A S0 21 o) none A) args s 0 0 A) (F0 m 45 ls []) := by
  intro S H locs ls l2 l3 l4 w hl hf
  unfold gX3_orderByGreatest_45 at hf
  refine lv_aload_n C.1.1 C.1.2.1 dX3_orderByGreatest_45 rfl (lv_at hl 0 rfl) ?_
  refine lv_iload C.1.1 C.1.2.1 dX3_orderByGreatest_46 (lv_at hl 4 rfl) ?_
  refine lv_iload_n C.1.1 C.1.2.1 dX3_orderByGreatest_48 rfl (lv_at hl 3 rfl) ?_
  refine ns_iast C w 21 (hI 21 (by decide)) sh_21 hf rfl (List.mem_of_getElem? (i := 0) rfl) dX3_orderByGreatest_49 (fun y1 H locs hf w => ?_)
  refine ns_iinc (lv' := fun x2 => [(3, .int x2), (0, .ref (b 21)), (1, .ref (b 30)), (2, .int l2), (4, .int l4)]) C hf dX3_orderByGreatest_50 hl (k := 3) rfl rfl (by decide) (fun _ => rfl) (fun x2 ls hl hf => ?_)
  refine lv_goto (tgt := 2) C.1.1 C.1.2.1 dX3_orderByGreatest_53 (by decide) ?_
  exact K2 w (lv_sub hl [1, 2, 3, 0] rfl) hf
set_option maxHeartbeats 4000000 in
set_option maxRecDepth 100000 in
theorem wX3_orderByGreatest_21_30_10 {p : Program} {l : Launch} {e : Env} {s : State} {m : MethodId} {args : Array Value} {below : List Frame} {meth : Method} {c : Code} {D : va_G} {b : Nat → Nat} {ids : List Nat} {A : Nat → Prop} {S0 : ns_S} {o : (Nat → Int32)} (N : Nat) (hI : ∀ i, i < 107 → i ∈ ids) (C : ns_C p m c cX3_orderByGreatest 5 s args wsX3_orderByGreatest RX3 D A) (hr : meth.sig.returnType = none) (hlk : meth.locks = false) {r2 : (Nat → Int32) → (Nat → Int32) → Int32 → Int32 → Option ((Nat → Int32))} (K2 : ∀ {S : ns_S} {H : Heap} {locs : List Loc} {ls : Array Slot} {l2 : Int32} {l3 : Int32}, ns_W D b ids A s.heap wrX3_orderByGreatest_21_30 S0 S H locs → lv_has ls 5 [(0, .ref (b 21)), (1, .ref (b 30)), (2, .int l2), (3, .int l3)] → r2 (S.2.1 21) (S.2.1 30) l2 l3 = some o → W p l e rmX3_orderByGreatest_21_30 s m args below meth c H locs 0 0 (MQ below (ns_Q D b ids (ns_A S0 21 o) none A) args s 0 0 A) (F0 m 2 ls [])) : ∀ n : Nat, ∀ {S : ns_S} {H : Heap} {locs : List Loc} {ls : Array Slot} {l2 : Int32} {l3 : Int32} {l4 : Int32}, ns_W D b ids A s.heap wrX3_orderByGreatest_21_30 S0 S H locs → lv_has ls 5 [(0, .ref (b 21)), (1, .ref (b 30)), (2, .int l2), (3, .int l3), (4, .int l4)] → fX3_orderByGreatest_10 N 5 5 r2 n (S.2.1 21) (S.2.1 30) l2 l3 l4 = some o → W p l e rmX3_orderByGreatest_21_30 s m args below meth c H locs 0 0 (MQ below (ns_Q D b ids (ns_A S0 21 o) none A) args s 0 0 A) (F0 m 10 ls []) := by
  intro n
  induction n with
  | zero =>
    intro S H locs ls l2 l3 l4 w hl hf
    cases hf
  | succ n K10 =>
    intro S H locs ls l2 l3 l4 w hl hf
    change gX3_orderByGreatest_10 N 5 5 r2 (fX3_orderByGreatest_10 N 5 5 r2 n) (S.2.1 21) (S.2.1 30) l2 l3 l4 = some o at hf
    generalize fX3_orderByGreatest_10 N 5 5 r2 n = r10 at hf K10
    unfold gX3_orderByGreatest_10 at hf
    refine lv_iload C.1.1 C.1.2.1 dX3_orderByGreatest_10 (lv_at hl 4 rfl) ?_
    refine ns_if_le C hf (tgt := 45) dX3_orderByGreatest_12 (by decide) (fun hf => ?_) (fun hf => ?_)
    · exact wX3_orderByGreatest_21_30_45 N hI C hr hlk K2 w (lv_sub hl [0, 1, 2, 3, 4] rfl) hf
    · refine lv_aload_n C.1.1 C.1.2.1 dX3_orderByGreatest_15 rfl (lv_at hl 1 rfl) ?_
      refine lv_aload_n C.1.1 C.1.2.1 dX3_orderByGreatest_16 rfl (lv_at hl 0 rfl) ?_
      refine lv_iload C.1.1 C.1.2.1 dX3_orderByGreatest_17 (lv_at hl 4 rfl) ?_
      refine lv_iconst (v := 1) C.1.1 C.1.2.1 dX3_orderByGreatest_19 (by decide) ?_
      refine lv_isub C.1.1 C.1.2.1 dX3_orderByGreatest_20 ?_
      refine ns_iald C w 21 (hI 21 (by decide)) sh_21 hf rfl dX3_orderByGreatest_21 (fun x1 hf => ?_)
      refine ns_iald C w 30 (hI 30 (by decide)) sh_30 hf rfl dX3_orderByGreatest_22 (fun x2 hf => ?_)
      refine lv_aload_n C.1.1 C.1.2.1 dX3_orderByGreatest_23 rfl (lv_at hl 1 rfl) ?_
      refine lv_iload_n C.1.1 C.1.2.1 dX3_orderByGreatest_24 rfl (lv_at hl 3 rfl) ?_
      refine ns_iald C w 30 (hI 30 (by decide)) sh_30 hf rfl dX3_orderByGreatest_25 (fun x3 hf => ?_)
      refine ns_icmp_ge C hf (tgt := 45) dX3_orderByGreatest_26 (by decide) (fun hf => ?_) (fun hf => ?_)
      · exact wX3_orderByGreatest_21_30_45 N hI C hr hlk K2 w (lv_sub hl [0, 1, 2, 3, 4] rfl) hf
      · refine lv_aload_n C.1.1 C.1.2.1 dX3_orderByGreatest_29 rfl (lv_at hl 0 rfl) ?_
        refine lv_iload C.1.1 C.1.2.1 dX3_orderByGreatest_30 (lv_at hl 4 rfl) ?_
        refine lv_aload_n C.1.1 C.1.2.1 dX3_orderByGreatest_32 rfl (lv_at hl 0 rfl) ?_
        refine lv_iload C.1.1 C.1.2.1 dX3_orderByGreatest_33 (lv_at hl 4 rfl) ?_
        refine lv_iconst (v := 1) C.1.1 C.1.2.1 dX3_orderByGreatest_35 (by decide) ?_
        refine lv_isub C.1.1 C.1.2.1 dX3_orderByGreatest_36 ?_
        refine ns_iald C w 21 (hI 21 (by decide)) sh_21 hf rfl dX3_orderByGreatest_37 (fun x4 hf => ?_)
        refine ns_iast C w 21 (hI 21 (by decide)) sh_21 hf rfl (List.mem_of_getElem? (i := 0) rfl) dX3_orderByGreatest_38 (fun y5 H locs hf w => ?_)
        refine ns_iinc (lv' := fun x6 => [(4, .int x6), (0, .ref (b 21)), (1, .ref (b 30)), (2, .int l2), (3, .int l3)]) C hf dX3_orderByGreatest_39 hl (k := 4) rfl rfl (by decide) (fun _ => rfl) (fun x6 ls hl hf => ?_)
        refine lv_goto (tgt := 10) C.1.1 C.1.2.1 dX3_orderByGreatest_42 (by decide) ?_
        exact K10 w (lv_sub hl [1, 2, 3, 4, 0] rfl) hf
set_option maxHeartbeats 4000000 in
set_option maxRecDepth 100000 in
theorem wX3_orderByGreatest_21_30_2 {p : Program} {l : Launch} {e : Env} {s : State} {m : MethodId} {args : Array Value} {below : List Frame} {meth : Method} {c : Code} {D : va_G} {b : Nat → Nat} {ids : List Nat} {A : Nat → Prop} {S0 : ns_S} {o : (Nat → Int32)} (N : Nat) (hI : ∀ i, i < 107 → i ∈ ids) (C : ns_C p m c cX3_orderByGreatest 5 s args wsX3_orderByGreatest RX3 D A) (hr : meth.sig.returnType = none) (hlk : meth.locks = false) : ∀ n : Nat, ∀ {S : ns_S} {H : Heap} {locs : List Loc} {ls : Array Slot} {l2 : Int32} {l3 : Int32}, ns_W D b ids A s.heap wrX3_orderByGreatest_21_30 S0 S H locs → lv_has ls 5 [(0, .ref (b 21)), (1, .ref (b 30)), (2, .int l2), (3, .int l3)] → fX3_orderByGreatest_2 N 5 5 n (S.2.1 21) (S.2.1 30) l2 l3 = some o → W p l e rmX3_orderByGreatest_21_30 s m args below meth c H locs 0 0 (MQ below (ns_Q D b ids (ns_A S0 21 o) none A) args s 0 0 A) (F0 m 2 ls []) := by
  intro n
  induction n with
  | zero =>
    intro S H locs ls l2 l3 w hl hf
    cases hf
  | succ n K2 =>
    intro S H locs ls l2 l3 w hl hf
    change gX3_orderByGreatest_2 N 5 5 (fX3_orderByGreatest_2 N 5 5 n) (S.2.1 21) (S.2.1 30) l2 l3 = some o at hf
    generalize fX3_orderByGreatest_2 N 5 5 n = r2 at hf K2
    unfold gX3_orderByGreatest_2 at hf
    refine lv_iload_n C.1.1 C.1.2.1 dX3_orderByGreatest_2 rfl (lv_at hl 3 rfl) ?_
    refine lv_iload_n C.1.1 C.1.2.1 dX3_orderByGreatest_3 rfl (lv_at hl 2 rfl) ?_
    refine ns_icmp_ge C hf (tgt := 56) dX3_orderByGreatest_4 (by decide) (fun hf => ?_) (fun hf => ?_)
    · have he := Option.some.inj hf
      subst he
      exact ns_vret C w hr hlk rfl rfl dX3_orderByGreatest_56
    · refine lv_iload_n C.1.1 C.1.2.1 dX3_orderByGreatest_7 rfl (lv_at hl 3 rfl) ?_
      refine lv_istore (lv' := [(4, .int l3), (0, .ref (b 21)), (1, .ref (b 30)), (2, .int l2), (3, .int l3)]) C.1.1 C.1.2.1 dX3_orderByGreatest_8 hl (by decide) rfl (fun ls hl => ?_)
      exact wX3_orderByGreatest_21_30_10 N hI C hr hlk K2 N w (lv_sub hl [1, 2, 3, 4, 0] rfl) hf
set_option maxHeartbeats 4000000 in
set_option maxRecDepth 100000 in
theorem mX3_orderByGreatest_21_30 (l : Launch) (D : va_G) (b : Nat → Nat) (ids : List Nat) (hI : ∀ i, i < 107 → i ∈ ids) (N : Nat) (S : ns_S) (p2 : Int32) {o : (Nat → Int32)} (hf : fX3_orderByGreatest N 5 5 (S.2.1 21) (S.2.1 30) p2 = some o) : ns_M l yX3_orderByGreatest wsX3_orderByGreatest rmX3_orderByGreatest_21_30 D b ids S [.ref (b 21), .ref (b 30), .int p2] none (ns_A S 21 o) := by
  refine ns_start (Wr := wrX3_orderByGreatest_21_30) (by decide) rfl (Nat.le_of_ble_eq_true rfl) ?_
  intro p e s m below meth c A ls C hr hlk w hl
  have hl : lv_has ls 5 [(0, .ref (b 21)), (1, .ref (b 30)), (2, .int p2)] := hl
  unfold fX3_orderByGreatest at hf
  refine lv_iconst (v := 0) C.1.1 C.1.2.1 dX3_orderByGreatest_0 (by decide) ?_
  refine lv_istore_n (lv' := [(3, .int 0), (0, .ref (b 21)), (1, .ref (b 30)), (2, .int p2)]) C.1.1 C.1.2.1 dX3_orderByGreatest_1 rfl hl (by decide) rfl (fun ls hl => ?_)
  exact wX3_orderByGreatest_21_30_2 N hI C hr hlk N w (lv_sub hl [1, 2, 3, 0] rfl) hf
abbrev wrX3_orderByGreatest_22_35 : List (Nat × Nat) := [(1, 22)]
abbrev rmX3_orderByGreatest_22_35 : Room := { frames := 0, cells := 0, slots := 0, locals := 0 }
set_option maxHeartbeats 4000000 in
set_option maxRecDepth 100000 in
theorem wX3_orderByGreatest_22_35_45 {p : Program} {l : Launch} {e : Env} {s : State} {m : MethodId} {args : Array Value} {below : List Frame} {meth : Method} {c : Code} {D : va_G} {b : Nat → Nat} {ids : List Nat} {A : Nat → Prop} {S0 : ns_S} {o : (Nat → Int32)} (N : Nat) (hI : ∀ i, i < 107 → i ∈ ids) (C : ns_C p m c cX3_orderByGreatest 5 s args wsX3_orderByGreatest RX3 D A) (hr : meth.sig.returnType = none) (hlk : meth.locks = false) {r2 : (Nat → Int32) → (Nat → Int32) → Int32 → Int32 → Option ((Nat → Int32))} (K2 : ∀ {S : ns_S} {H : Heap} {locs : List Loc} {ls : Array Slot} {l2 : Int32} {l3 : Int32}, ns_W D b ids A s.heap wrX3_orderByGreatest_22_35 S0 S H locs → lv_has ls 5 [(0, .ref (b 22)), (1, .ref (b 35)), (2, .int l2), (3, .int l3)] → r2 (S.2.1 22) (S.2.1 35) l2 l3 = some o → W p l e rmX3_orderByGreatest_22_35 s m args below meth c H locs 0 0 (MQ below (ns_Q D b ids (ns_A S0 22 o) none A) args s 0 0 A) (F0 m 2 ls [])) : ∀ {S : ns_S} {H : Heap} {locs : List Loc} {ls : Array Slot} {l2 : Int32} {l3 : Int32} {l4 : Int32}, ns_W D b ids A s.heap wrX3_orderByGreatest_22_35 S0 S H locs → lv_has ls 5 [(0, .ref (b 22)), (1, .ref (b 35)), (2, .int l2), (3, .int l3), (4, .int l4)] → gX3_orderByGreatest_45 N 10 10 r2 (S.2.1 22) (S.2.1 35) l2 l3 l4 = some o → W p l e rmX3_orderByGreatest_22_35 s m args below meth c H locs 0 0 (MQ below (ns_Q D b ids (ns_A S0 22 o) none A) args s 0 0 A) (F0 m 45 ls []) := by
  intro S H locs ls l2 l3 l4 w hl hf
  unfold gX3_orderByGreatest_45 at hf
  refine lv_aload_n C.1.1 C.1.2.1 dX3_orderByGreatest_45 rfl (lv_at hl 0 rfl) ?_
  refine lv_iload C.1.1 C.1.2.1 dX3_orderByGreatest_46 (lv_at hl 4 rfl) ?_
  refine lv_iload_n C.1.1 C.1.2.1 dX3_orderByGreatest_48 rfl (lv_at hl 3 rfl) ?_
  refine ns_iast C w 22 (hI 22 (by decide)) sh_22 hf rfl (List.mem_of_getElem? (i := 0) rfl) dX3_orderByGreatest_49 (fun y1 H locs hf w => ?_)
  refine ns_iinc (lv' := fun x2 => [(3, .int x2), (0, .ref (b 22)), (1, .ref (b 35)), (2, .int l2), (4, .int l4)]) C hf dX3_orderByGreatest_50 hl (k := 3) rfl rfl (by decide) (fun _ => rfl) (fun x2 ls hl hf => ?_)
  refine lv_goto (tgt := 2) C.1.1 C.1.2.1 dX3_orderByGreatest_53 (by decide) ?_
  exact K2 w (lv_sub hl [1, 2, 3, 0] rfl) hf
set_option maxHeartbeats 4000000 in
set_option maxRecDepth 100000 in
theorem wX3_orderByGreatest_22_35_10 {p : Program} {l : Launch} {e : Env} {s : State} {m : MethodId} {args : Array Value} {below : List Frame} {meth : Method} {c : Code} {D : va_G} {b : Nat → Nat} {ids : List Nat} {A : Nat → Prop} {S0 : ns_S} {o : (Nat → Int32)} (N : Nat) (hI : ∀ i, i < 107 → i ∈ ids) (C : ns_C p m c cX3_orderByGreatest 5 s args wsX3_orderByGreatest RX3 D A) (hr : meth.sig.returnType = none) (hlk : meth.locks = false) {r2 : (Nat → Int32) → (Nat → Int32) → Int32 → Int32 → Option ((Nat → Int32))} (K2 : ∀ {S : ns_S} {H : Heap} {locs : List Loc} {ls : Array Slot} {l2 : Int32} {l3 : Int32}, ns_W D b ids A s.heap wrX3_orderByGreatest_22_35 S0 S H locs → lv_has ls 5 [(0, .ref (b 22)), (1, .ref (b 35)), (2, .int l2), (3, .int l3)] → r2 (S.2.1 22) (S.2.1 35) l2 l3 = some o → W p l e rmX3_orderByGreatest_22_35 s m args below meth c H locs 0 0 (MQ below (ns_Q D b ids (ns_A S0 22 o) none A) args s 0 0 A) (F0 m 2 ls [])) : ∀ n : Nat, ∀ {S : ns_S} {H : Heap} {locs : List Loc} {ls : Array Slot} {l2 : Int32} {l3 : Int32} {l4 : Int32}, ns_W D b ids A s.heap wrX3_orderByGreatest_22_35 S0 S H locs → lv_has ls 5 [(0, .ref (b 22)), (1, .ref (b 35)), (2, .int l2), (3, .int l3), (4, .int l4)] → fX3_orderByGreatest_10 N 10 10 r2 n (S.2.1 22) (S.2.1 35) l2 l3 l4 = some o → W p l e rmX3_orderByGreatest_22_35 s m args below meth c H locs 0 0 (MQ below (ns_Q D b ids (ns_A S0 22 o) none A) args s 0 0 A) (F0 m 10 ls []) := by
  intro n
  induction n with
  | zero =>
    intro S H locs ls l2 l3 l4 w hl hf
    cases hf
  | succ n K10 =>
    intro S H locs ls l2 l3 l4 w hl hf
    change gX3_orderByGreatest_10 N 10 10 r2 (fX3_orderByGreatest_10 N 10 10 r2 n) (S.2.1 22) (S.2.1 35) l2 l3 l4 = some o at hf
    generalize fX3_orderByGreatest_10 N 10 10 r2 n = r10 at hf K10
    unfold gX3_orderByGreatest_10 at hf
    refine lv_iload C.1.1 C.1.2.1 dX3_orderByGreatest_10 (lv_at hl 4 rfl) ?_
    refine ns_if_le C hf (tgt := 45) dX3_orderByGreatest_12 (by decide) (fun hf => ?_) (fun hf => ?_)
    · exact wX3_orderByGreatest_22_35_45 N hI C hr hlk K2 w (lv_sub hl [0, 1, 2, 3, 4] rfl) hf
    · refine lv_aload_n C.1.1 C.1.2.1 dX3_orderByGreatest_15 rfl (lv_at hl 1 rfl) ?_
      refine lv_aload_n C.1.1 C.1.2.1 dX3_orderByGreatest_16 rfl (lv_at hl 0 rfl) ?_
      refine lv_iload C.1.1 C.1.2.1 dX3_orderByGreatest_17 (lv_at hl 4 rfl) ?_
      refine lv_iconst (v := 1) C.1.1 C.1.2.1 dX3_orderByGreatest_19 (by decide) ?_
      refine lv_isub C.1.1 C.1.2.1 dX3_orderByGreatest_20 ?_
      refine ns_iald C w 22 (hI 22 (by decide)) sh_22 hf rfl dX3_orderByGreatest_21 (fun x1 hf => ?_)
      refine ns_iald C w 35 (hI 35 (by decide)) sh_35 hf rfl dX3_orderByGreatest_22 (fun x2 hf => ?_)
      refine lv_aload_n C.1.1 C.1.2.1 dX3_orderByGreatest_23 rfl (lv_at hl 1 rfl) ?_
      refine lv_iload_n C.1.1 C.1.2.1 dX3_orderByGreatest_24 rfl (lv_at hl 3 rfl) ?_
      refine ns_iald C w 35 (hI 35 (by decide)) sh_35 hf rfl dX3_orderByGreatest_25 (fun x3 hf => ?_)
      refine ns_icmp_ge C hf (tgt := 45) dX3_orderByGreatest_26 (by decide) (fun hf => ?_) (fun hf => ?_)
      · exact wX3_orderByGreatest_22_35_45 N hI C hr hlk K2 w (lv_sub hl [0, 1, 2, 3, 4] rfl) hf
      · refine lv_aload_n C.1.1 C.1.2.1 dX3_orderByGreatest_29 rfl (lv_at hl 0 rfl) ?_
        refine lv_iload C.1.1 C.1.2.1 dX3_orderByGreatest_30 (lv_at hl 4 rfl) ?_
        refine lv_aload_n C.1.1 C.1.2.1 dX3_orderByGreatest_32 rfl (lv_at hl 0 rfl) ?_
        refine lv_iload C.1.1 C.1.2.1 dX3_orderByGreatest_33 (lv_at hl 4 rfl) ?_
        refine lv_iconst (v := 1) C.1.1 C.1.2.1 dX3_orderByGreatest_35 (by decide) ?_
        refine lv_isub C.1.1 C.1.2.1 dX3_orderByGreatest_36 ?_
        refine ns_iald C w 22 (hI 22 (by decide)) sh_22 hf rfl dX3_orderByGreatest_37 (fun x4 hf => ?_)
        refine ns_iast C w 22 (hI 22 (by decide)) sh_22 hf rfl (List.mem_of_getElem? (i := 0) rfl) dX3_orderByGreatest_38 (fun y5 H locs hf w => ?_)
        refine ns_iinc (lv' := fun x6 => [(4, .int x6), (0, .ref (b 22)), (1, .ref (b 35)), (2, .int l2), (3, .int l3)]) C hf dX3_orderByGreatest_39 hl (k := 4) rfl rfl (by decide) (fun _ => rfl) (fun x6 ls hl hf => ?_)
        refine lv_goto (tgt := 10) C.1.1 C.1.2.1 dX3_orderByGreatest_42 (by decide) ?_
        exact K10 w (lv_sub hl [1, 2, 3, 4, 0] rfl) hf
set_option maxHeartbeats 4000000 in
set_option maxRecDepth 100000 in
theorem wX3_orderByGreatest_22_35_2 {p : Program} {l : Launch} {e : Env} {s : State} {m : MethodId} {args : Array Value} {below : List Frame} {meth : Method} {c : Code} {D : va_G} {b : Nat → Nat} {ids : List Nat} {A : Nat → Prop} {S0 : ns_S} {o : (Nat → Int32)} (N : Nat) (hI : ∀ i, i < 107 → i ∈ ids) (C : ns_C p m c cX3_orderByGreatest 5 s args wsX3_orderByGreatest RX3 D A) (hr : meth.sig.returnType = none) (hlk : meth.locks = false) : ∀ n : Nat, ∀ {S : ns_S} {H : Heap} {locs : List Loc} {ls : Array Slot} {l2 : Int32} {l3 : Int32}, ns_W D b ids A s.heap wrX3_orderByGreatest_22_35 S0 S H locs → lv_has ls 5 [(0, .ref (b 22)), (1, .ref (b 35)), (2, .int l2), (3, .int l3)] → fX3_orderByGreatest_2 N 10 10 n (S.2.1 22) (S.2.1 35) l2 l3 = some o → W p l e rmX3_orderByGreatest_22_35 s m args below meth c H locs 0 0 (MQ below (ns_Q D b ids (ns_A S0 22 o) none A) args s 0 0 A) (F0 m 2 ls []) := by
  intro n
  induction n with
  | zero =>
    intro S H locs ls l2 l3 w hl hf
    cases hf
  | succ n K2 =>
    intro S H locs ls l2 l3 w hl hf
    change gX3_orderByGreatest_2 N 10 10 (fX3_orderByGreatest_2 N 10 10 n) (S.2.1 22) (S.2.1 35) l2 l3 = some o at hf
    generalize fX3_orderByGreatest_2 N 10 10 n = r2 at hf K2
    unfold gX3_orderByGreatest_2 at hf
    refine lv_iload_n C.1.1 C.1.2.1 dX3_orderByGreatest_2 rfl (lv_at hl 3 rfl) ?_
    refine lv_iload_n C.1.1 C.1.2.1 dX3_orderByGreatest_3 rfl (lv_at hl 2 rfl) ?_
    refine ns_icmp_ge C hf (tgt := 56) dX3_orderByGreatest_4 (by decide) (fun hf => ?_) (fun hf => ?_)
    · have he := Option.some.inj hf
      subst he
      exact ns_vret C w hr hlk rfl rfl dX3_orderByGreatest_56
    · refine lv_iload_n C.1.1 C.1.2.1 dX3_orderByGreatest_7 rfl (lv_at hl 3 rfl) ?_
      refine lv_istore (lv' := [(4, .int l3), (0, .ref (b 22)), (1, .ref (b 35)), (2, .int l2), (3, .int l3)]) C.1.1 C.1.2.1 dX3_orderByGreatest_8 hl (by decide) rfl (fun ls hl => ?_)
      exact wX3_orderByGreatest_22_35_10 N hI C hr hlk K2 N w (lv_sub hl [1, 2, 3, 4, 0] rfl) hf
set_option maxHeartbeats 4000000 in
set_option maxRecDepth 100000 in
theorem mX3_orderByGreatest_22_35 (l : Launch) (D : va_G) (b : Nat → Nat) (ids : List Nat) (hI : ∀ i, i < 107 → i ∈ ids) (N : Nat) (S : ns_S) (p2 : Int32) {o : (Nat → Int32)} (hf : fX3_orderByGreatest N 10 10 (S.2.1 22) (S.2.1 35) p2 = some o) : ns_M l yX3_orderByGreatest wsX3_orderByGreatest rmX3_orderByGreatest_22_35 D b ids S [.ref (b 22), .ref (b 35), .int p2] none (ns_A S 22 o) := by
  refine ns_start (Wr := wrX3_orderByGreatest_22_35) (by decide) rfl (Nat.le_of_ble_eq_true rfl) ?_
  intro p e s m below meth c A ls C hr hlk w hl
  have hl : lv_has ls 5 [(0, .ref (b 22)), (1, .ref (b 35)), (2, .int p2)] := hl
  unfold fX3_orderByGreatest at hf
  refine lv_iconst (v := 0) C.1.1 C.1.2.1 dX3_orderByGreatest_0 (by decide) ?_
  refine lv_istore_n (lv' := [(3, .int 0), (0, .ref (b 22)), (1, .ref (b 35)), (2, .int p2)]) C.1.1 C.1.2.1 dX3_orderByGreatest_1 rfl hl (by decide) rfl (fun ls hl => ?_)
  exact wX3_orderByGreatest_22_35_2 N hI C hr hlk N w (lv_sub hl [1, 2, 3, 0] rfl) hf
theorem hdJ7_fill_53178 : yJ7_fill_53178.cls ≠ "java/lang/invoke/MethodHandle" ∧ yJ7_fill_53178.cls ≠ "java/lang/invoke/VarHandle" ∧ (parseMethodDescriptor yJ7_fill_53178.desc).map (fun d => d.parameters.length) = some 2 := by decide +kernel
abbrev wrJ7_fill_53178_25 : List (Nat × Nat) := [(1, 25)]
abbrev rmJ7_fill_53178_25 : Room := { frames := 0, cells := 0, slots := 0, locals := 0 }
set_option maxHeartbeats 4000000 in
set_option maxRecDepth 100000 in
theorem wJ7_fill_53178_25_5 {p : Program} {l : Launch} {e : Env} {s : State} {m : MethodId} {args : Array Value} {below : List Frame} {meth : Method} {c : Code} {D : va_G} {b : Nat → Nat} {ids : List Nat} {A : Nat → Prop} {S0 : ns_S} {o : (Nat → Int32)} (N : Nat) (hI : ∀ i, i < 107 → i ∈ ids) (C : ns_C p m c cJ7_fill_53178 4 s args wsJ7_fill_53178 RJ7 D A) (hr : meth.sig.returnType = none) (hlk : meth.locks = false) : ∀ n : Nat, ∀ {S : ns_S} {H : Heap} {locs : List Loc} {ls : Array Slot} {l1 : Int32} {l2 : Int32} {l3 : Int32}, ns_W D b ids A s.heap wrJ7_fill_53178_25 S0 S H locs → lv_has ls 4 [(0, .ref (b 25)), (1, .int l1), (2, .int l2), (3, .int l3)] → fJ7_fill_53178_5 N 5 n (S.2.1 25) l1 l2 l3 = some o → W p l e rmJ7_fill_53178_25 s m args below meth c H locs 0 0 (MQ below (ns_Q D b ids (ns_A S0 25 o) none A) args s 0 0 A) (F0 m 5 ls []) := by
  intro n
  induction n with
  | zero =>
    intro S H locs ls l1 l2 l3 w hl hf
    cases hf
  | succ n K5 =>
    intro S H locs ls l1 l2 l3 w hl hf
    change gJ7_fill_53178_5 N 5 (fJ7_fill_53178_5 N 5 n) (S.2.1 25) l1 l2 l3 = some o at hf
    generalize fJ7_fill_53178_5 N 5 n = r5 at hf K5
    unfold gJ7_fill_53178_5 at hf
    refine lv_iload_n C.1.1 C.1.2.1 dJ7_fill_53178_5 rfl (lv_at hl 2 rfl) ?_
    refine lv_iload_n C.1.1 C.1.2.1 dJ7_fill_53178_6 rfl (lv_at hl 3 rfl) ?_
    refine ns_icmp_ge C hf (tgt := 20) dJ7_fill_53178_7 (by decide) (fun hf => ?_) (fun hf => ?_)
    · have he := Option.some.inj hf
      subst he
      exact ns_vret C w hr hlk rfl rfl dJ7_fill_53178_20
    · refine lv_aload_n C.1.1 C.1.2.1 dJ7_fill_53178_10 rfl (lv_at hl 0 rfl) ?_
      refine lv_iload_n C.1.1 C.1.2.1 dJ7_fill_53178_11 rfl (lv_at hl 2 rfl) ?_
      refine lv_iload_n C.1.1 C.1.2.1 dJ7_fill_53178_12 rfl (lv_at hl 1 rfl) ?_
      refine ns_iast C w 25 (hI 25 (by decide)) sh_25 hf rfl (List.mem_of_getElem? (i := 0) rfl) dJ7_fill_53178_13 (fun y1 H locs hf w => ?_)
      refine ns_iinc (lv' := fun x2 => [(2, .int x2), (0, .ref (b 25)), (1, .int l1), (3, .int l3)]) C hf dJ7_fill_53178_14 hl (k := 2) rfl rfl (by decide) (fun _ => rfl) (fun x2 ls hl hf => ?_)
      refine lv_goto (tgt := 5) C.1.1 C.1.2.1 dJ7_fill_53178_17 (by decide) ?_
      exact K5 w (lv_sub hl [1, 2, 0, 3] rfl) hf
set_option maxHeartbeats 4000000 in
set_option maxRecDepth 100000 in
theorem mJ7_fill_53178_25 (l : Launch) (D : va_G) (b : Nat → Nat) (ids : List Nat) (hI : ∀ i, i < 107 → i ∈ ids) (N : Nat) (S : ns_S) (p1 : Int32) {o : (Nat → Int32)} (hf : fJ7_fill_53178 N 5 (S.2.1 25) p1 = some o) : ns_M l yJ7_fill_53178 wsJ7_fill_53178 rmJ7_fill_53178_25 D b ids S [.ref (b 25), .int p1] none (ns_A S 25 o) := by
  refine ns_start (Wr := wrJ7_fill_53178_25) (by decide) rfl (Nat.le_of_ble_eq_true rfl) ?_
  intro p e s m below meth c A ls C hr hlk w hl
  have hl : lv_has ls 4 [(0, .ref (b 25)), (1, .int p1)] := hl
  unfold fJ7_fill_53178 at hf
  refine lv_iconst (v := 0) C.1.1 C.1.2.1 dJ7_fill_53178_0 (by decide) ?_
  refine lv_istore_n (lv' := [(2, .int 0), (0, .ref (b 25)), (1, .int p1)]) C.1.1 C.1.2.1 dJ7_fill_53178_1 rfl hl (by decide) rfl (fun ls hl => ?_)
  refine lv_aload_n C.1.1 C.1.2.1 dJ7_fill_53178_2 rfl (lv_at hl 1 rfl) ?_
  refine ns_alen (v := Int32.ofNat 5) C w 25 (hI 25 (by decide)) sh_25 rfl dJ7_fill_53178_3 ?_
  refine ns_namei hf (fun x1 hf => ?_)
  refine lv_istore_n (lv' := [(3, .int x1), (2, .int 0), (0, .ref (b 25)), (1, .int p1)]) C.1.1 C.1.2.1 dJ7_fill_53178_4 rfl hl (by decide) rfl (fun ls hl => ?_)
  exact wJ7_fill_53178_25_5 N hI C hr hlk N w (lv_sub hl [2, 3, 1, 0] rfl) hf
theorem lX3_prepare_18 : Cond.fieldLink RX3 18 (TX3 1).1 (TX3 1).2.1 (TX3 1).2.2.1 ∈ wsX3_prepare := List.mem_of_getElem? (i := 1) rfl
theorem lX3_prepare_22 : Cond.fieldLink RX3 22 (TX3 2).1 (TX3 2).2.1 (TX3 2).2.2.1 ∈ wsX3_prepare := List.mem_of_getElem? (i := 5) rfl
theorem lX3_prepare_31 : Cond.fieldLink RX3 31 (TX3 5).1 (TX3 5).2.1 (TX3 5).2.2.1 ∈ wsX3_prepare := List.mem_of_getElem? (i := 9) rfl
theorem lX3_prepare_34 : Cond.fieldLink RX3 34 (TX3 6).1 (TX3 6).2.1 (TX3 6).2.2.1 ∈ wsX3_prepare := List.mem_of_getElem? (i := 13) rfl
theorem lX3_prepare_40 : Cond.fieldLink RX3 40 (TX6 0).1 (TX6 0).2.1 (TX6 0).2.2.1 ∈ wsX3_prepare := List.mem_of_getElem? (i := 2) rfl
theorem lX3_prepare_46 : Cond.fieldLink RX3 46 (TX5 1).1 (TX5 1).2.1 (TX5 1).2.2.1 ∈ wsX3_prepare := List.mem_of_getElem? (i := 3) rfl
theorem lX3_prepare_51 : Cond.fieldLink RX3 51 (TX5 0).1 (TX5 0).2.1 (TX5 0).2.2.1 ∈ wsX3_prepare := List.mem_of_getElem? (i := 4) rfl
theorem lX3_prepare_59 : Cond.fieldLink RX3 59 (TX6 1).1 (TX6 1).2.1 (TX6 1).2.2.1 ∈ wsX3_prepare := List.mem_of_getElem? (i := 6) rfl
theorem lX3_prepare_63 : Cond.fieldLink RX3 63 (TX0 4).1 (TX0 4).2.1 (TX0 4).2.2.1 ∈ wsX3_prepare := List.mem_of_getElem? (i := 7) rfl
theorem lX3_prepare_68 : Cond.fieldLink RX3 68 (TX0 0).1 (TX0 0).2.1 (TX0 0).2.2.1 ∈ wsX3_prepare := List.mem_of_getElem? (i := 8) rfl
theorem lX3_prepare_75 : Cond.fieldLink RX3 75 (TX0 1).1 (TX0 1).2.1 (TX0 1).2.2.1 ∈ wsX3_prepare := List.mem_of_getElem? (i := 10) rfl
theorem lX3_prepare_78 : Cond.fieldLink RX3 78 (TX6 2).1 (TX6 2).2.1 (TX6 2).2.2.1 ∈ wsX3_prepare := List.mem_of_getElem? (i := 11) rfl
theorem lX3_prepare_82 : Cond.fieldLink RX3 82 (TX4 0).1 (TX4 0).2.1 (TX4 0).2.2.1 ∈ wsX3_prepare := List.mem_of_getElem? (i := 12) rfl
theorem lX3_prepare_85 : Cond.fieldLink RX3 85 (TX4 4).1 (TX4 4).2.1 (TX4 4).2.2.1 ∈ wsX3_prepare := List.mem_of_getElem? (i := 14) rfl
theorem inX3_prepare_0 : ∀ w ∈ u_ws RX0 TX0 6, w ∈ wsX3_prepare := fun _ h => List.mem_cons_of_mem _ (List.mem_append_left _ (List.mem_append_right _ h))
theorem inX3_prepare_3 : ∀ w ∈ u_ws RX3 TX3 10, w ∈ wsX3_prepare := fun _ h => List.mem_cons_of_mem _ (List.mem_append_left _ (List.mem_append_left _ (List.mem_append_left _ (List.mem_append_left _ (List.mem_append_right _ h)))))
theorem inX3_prepare_4 : ∀ w ∈ u_ws RX4 TX4 6, w ∈ wsX3_prepare := fun _ h => List.mem_cons_of_mem _ (List.mem_append_right _ h)
theorem inX3_prepare_5 : ∀ w ∈ u_ws RX5 TX5 2, w ∈ wsX3_prepare := fun _ h => List.mem_cons_of_mem _ (List.mem_append_left _ (List.mem_append_left _ (List.mem_append_right _ h)))
theorem inX3_prepare_6 : ∀ w ∈ u_ws RX6 TX6 6, w ∈ wsX3_prepare := fun _ h => List.mem_cons_of_mem _ (List.mem_append_left _ (List.mem_append_left _ (List.mem_append_left _ (List.mem_append_right _ h))))
theorem hdX3_prepare : yX3_prepare.cls = RX3 ∧ yX3_prepare.cls ≠ "java/lang/invoke/MethodHandle" ∧ yX3_prepare.cls ≠ "java/lang/invoke/VarHandle" ∧ (parseMethodDescriptor yX3_prepare.desc).map (fun d => d.parameters.length) = some 1 := by decide +kernel
abbrev wrX3_prepare_15_28 : List (Nat × Nat) := [(1, 21), (1, 22), (1, 25), (1, 26)]
abbrev rmX3_prepare_15_28 : Room := { frames := 1, cells := 0, slots := 0, locals := 24 }
set_option maxHeartbeats 4000000 in
set_option maxRecDepth 100000 in
theorem wX3_prepare_15_28_111 {p : Program} {l : Launch} {e : Env} {s : State} {m : MethodId} {args : Array Value} {below : List Frame} {meth : Method} {c : Code} {D : va_G} {b : Nat → Nat} {ids : List Nat} {A : Nat → Prop} {S0 : ns_S} {o : (Nat → Int32) × (Nat → Int32) × (Nat → Int32) × (Nat → Int32)} (N : Nat) (hI : ∀ i, i < 107 → i ∈ ids) (C : ns_C p m c cX3_prepare 4 s args wsX3_prepare RX3 D A) (hr : meth.sig.returnType = none) (hlk : meth.locks = false) {r91 : Int32 → (Nat → Int32) → (Nat → Int32) → Int32 → (Nat → Int32) → (Nat → Int32) → (Nat → Int32) → (Nat → Int32) → Int32 → (Nat → Int32) → (Nat → Int32) → (Nat → Int32) → Int32 → Option ((Nat → Int32) × (Nat → Int32) × (Nat → Int32) × (Nat → Int32))} (K91 : ∀ {S : ns_S} {H : Heap} {locs : List Loc} {ls : Array Slot} {l2 : Int32}, ns_W D b ids A s.heap wrX3_prepare_15_28 S0 S H locs → lv_has ls 4 [(0, .ref (b 15)), (1, .ref (b 28)), (2, .int l2)] → r91 (S.1 1856) (S.2.1 21) (S.2.1 30) (S.1 1984) (S.2.1 22) (S.2.1 35) (S.2.1 25) (S.2.1 32) (S.1 2368) (S.2.1 26) (S.2.1 41) (S.2.1 42) l2 = some o → W p l e rmX3_prepare_15_28 s m args below meth c H locs 0 0 (MQ below (ns_Q D b ids (ns_A (ns_A (ns_A (ns_A S0 26 o.2.2.2) 25 o.2.2.1) 22 o.2.1) 21 o.1) none A) args s 0 0 A) (F0 m 91 ls [])) : ∀ n : Nat, ∀ {S : ns_S} {H : Heap} {locs : List Loc} {ls : Array Slot} {l2 : Int32} {l3 : Int32}, ns_W D b ids A s.heap wrX3_prepare_15_28 S0 S H locs → lv_has ls 4 [(0, .ref (b 15)), (1, .ref (b 28)), (2, .int l2), (3, .int l3)] → fX3_prepare_111 N r91 n (S.1 1856) (S.2.1 21) (S.2.1 30) (S.1 1984) (S.2.1 22) (S.2.1 35) (S.2.1 25) (S.2.1 32) (S.1 2368) (S.2.1 26) (S.2.1 41) (S.2.1 42) l2 l3 = some o → W p l e rmX3_prepare_15_28 s m args below meth c H locs 0 0 (MQ below (ns_Q D b ids (ns_A (ns_A (ns_A (ns_A S0 26 o.2.2.2) 25 o.2.2.1) 22 o.2.1) 21 o.1) none A) args s 0 0 A) (F0 m 111 ls []) := by
  intro n
  induction n with
  | zero =>
    intro S H locs ls l2 l3 w hl hf
    cases hf
  | succ n K111 =>
    intro S H locs ls l2 l3 w hl hf
    change gX3_prepare_111 N r91 (fX3_prepare_111 N r91 n) (S.1 1856) (S.2.1 21) (S.2.1 30) (S.1 1984) (S.2.1 22) (S.2.1 35) (S.2.1 25) (S.2.1 32) (S.1 2368) (S.2.1 26) (S.2.1 41) (S.2.1 42) l2 l3 = some o at hf
    generalize fX3_prepare_111 N r91 n = r111 at hf K111
    unfold gX3_prepare_111 at hf
    refine lv_iload_n C.1.1 C.1.2.1 dX3_prepare_111 rfl (lv_at hl 3 rfl) ?_
    refine lv_aload_n C.1.1 C.1.2.1 dX3_prepare_112 rfl (lv_at hl 1 rfl) ?_
    refine ns_getr C w 28 (hI 28 (by decide)) sh_28 (rfl : vwCl[6]? = some (RX6, TX6, 6)) inX3_prepare_6 2 (by decide) rfl lX3_prepare_78 dX3_prepare_113 ?_
    refine ns_getr C w 37 (hI 37 (by decide)) sh_37 (rfl : vwCl[4]? = some (RX4, TX4, 6)) inX3_prepare_4 4 (by decide) rfl lX3_prepare_85 dX3_prepare_116 ?_
    refine lv_iload_n C.1.1 C.1.2.1 dX3_prepare_119 rfl (lv_at hl 2 rfl) ?_
    refine ns_iald C w 41 (hI 41 (by decide)) sh_41 hf rfl dX3_prepare_120 (fun x1 hf => ?_)
    refine ns_icmp_ge C hf (tgt := 150) dX3_prepare_121 (by decide) (fun hf => ?_) (fun hf => ?_)
    · refine ns_iinc (lv' := fun x2 => [(2, .int x2), (0, .ref (b 15)), (1, .ref (b 28)), (3, .int l3)]) C hf dX3_prepare_150 hl (k := 2) rfl rfl (by decide) (fun _ => rfl) (fun x2 ls hl hf => ?_)
      refine lv_goto (tgt := 91) C.1.1 C.1.2.1 dX3_prepare_153 (by decide) ?_
      exact K91 w (lv_sub hl [1, 2, 0] rfl) hf
    · refine lv_aload_n C.1.1 C.1.2.1 dX3_prepare_124 rfl (lv_at hl 0 rfl) ?_
      refine ns_getr C w 15 (hI 15 (by decide)) sh_15 (rfl : vwCl[3]? = some (RX3, TX3, 10)) inX3_prepare_3 6 (by decide) rfl lX3_prepare_34 dX3_prepare_125 ?_
      refine lv_iload_n C.1.1 C.1.2.1 dX3_prepare_128 rfl (lv_at hl 2 rfl) ?_
      refine lv_dup2_11 C.1.1 C.1.2.1 dX3_prepare_129 rfl rfl ?_
      refine ns_iald C w 26 (hI 26 (by decide)) sh_26 hf rfl dX3_prepare_130 (fun x3 hf => ?_)
      refine lv_iconst (v := 1) C.1.1 C.1.2.1 dX3_prepare_131 (by decide) ?_
      refine lv_aload_n C.1.1 C.1.2.1 dX3_prepare_132 rfl (lv_at hl 1 rfl) ?_
      refine ns_getr C w 28 (hI 28 (by decide)) sh_28 (rfl : vwCl[6]? = some (RX6, TX6, 6)) inX3_prepare_6 2 (by decide) rfl lX3_prepare_78 dX3_prepare_133 ?_
      refine lv_iload_n C.1.1 C.1.2.1 dX3_prepare_136 rfl (lv_at hl 2 rfl) ?_
      refine lv_iload_n C.1.1 C.1.2.1 dX3_prepare_137 rfl (lv_at hl 3 rfl) ?_
      refine ns_callV C w 37 (hI 37 (by decide)) sh_37 (rfl : vwCl[4]? = some (RX4, TX4, 6)) [.int l2, .int l3] hf (fun u hu => mX4_courseOfRank_37 l D b ids hI N _ l2 l3 hu) gX3_prepare_X4_courseOfRank rfl rfl rfl hdX4_courseOfRank ⟨Nat.le_of_ble_eq_true rfl, Nat.le_of_ble_eq_true rfl⟩ (fun u h => h) rfl hl.1 rfl (Nat.le_of_ble_eq_true rfl) ⟨Nat.le_refl _, Nat.le_refl _⟩ dX3_prepare_138 (fun o4 H locs hf w => ?_)
      refine lv_ishl C.1.1 C.1.2.1 dX3_prepare_141 ?_
      refine lv_ior C.1.1 C.1.2.1 dX3_prepare_142 ?_
      refine ns_iast C w 26 (hI 26 (by decide)) sh_26 hf rfl (List.mem_of_getElem? (i := 3) rfl) dX3_prepare_143 (fun y5 H locs hf w => ?_)
      refine ns_iinc (lv' := fun x6 => [(3, .int x6), (0, .ref (b 15)), (1, .ref (b 28)), (2, .int l2)]) C hf dX3_prepare_144 hl (k := 3) rfl rfl (by decide) (fun _ => rfl) (fun x6 ls hl hf => ?_)
      refine lv_goto (tgt := 111) C.1.1 C.1.2.1 dX3_prepare_147 (by decide) ?_
      exact K111 w (lv_sub hl [1, 2, 3, 0] rfl) hf
set_option maxHeartbeats 4000000 in
set_option maxRecDepth 100000 in
theorem wX3_prepare_15_28_91 {p : Program} {l : Launch} {e : Env} {s : State} {m : MethodId} {args : Array Value} {below : List Frame} {meth : Method} {c : Code} {D : va_G} {b : Nat → Nat} {ids : List Nat} {A : Nat → Prop} {S0 : ns_S} {o : (Nat → Int32) × (Nat → Int32) × (Nat → Int32) × (Nat → Int32)} (N : Nat) (hI : ∀ i, i < 107 → i ∈ ids) (C : ns_C p m c cX3_prepare 4 s args wsX3_prepare RX3 D A) (hr : meth.sig.returnType = none) (hlk : meth.locks = false) : ∀ n : Nat, ∀ {S : ns_S} {H : Heap} {locs : List Loc} {ls : Array Slot} {l2 : Int32}, ns_W D b ids A s.heap wrX3_prepare_15_28 S0 S H locs → lv_has ls 4 [(0, .ref (b 15)), (1, .ref (b 28)), (2, .int l2)] → fX3_prepare_91 N n (S.1 1856) (S.2.1 21) (S.2.1 30) (S.1 1984) (S.2.1 22) (S.2.1 35) (S.2.1 25) (S.2.1 32) (S.1 2368) (S.2.1 26) (S.2.1 41) (S.2.1 42) l2 = some o → W p l e rmX3_prepare_15_28 s m args below meth c H locs 0 0 (MQ below (ns_Q D b ids (ns_A (ns_A (ns_A (ns_A S0 26 o.2.2.2) 25 o.2.2.1) 22 o.2.1) 21 o.1) none A) args s 0 0 A) (F0 m 91 ls []) := by
  intro n
  induction n with
  | zero =>
    intro S H locs ls l2 w hl hf
    cases hf
  | succ n K91 =>
    intro S H locs ls l2 w hl hf
    change gX3_prepare_91 N (fX3_prepare_91 N n) (S.1 1856) (S.2.1 21) (S.2.1 30) (S.1 1984) (S.2.1 22) (S.2.1 35) (S.2.1 25) (S.2.1 32) (S.1 2368) (S.2.1 26) (S.2.1 41) (S.2.1 42) l2 = some o at hf
    generalize fX3_prepare_91 N n = r91 at hf K91
    unfold gX3_prepare_91 at hf
    refine lv_iload_n C.1.1 C.1.2.1 dX3_prepare_91 rfl (lv_at hl 2 rfl) ?_
    refine lv_aload_n C.1.1 C.1.2.1 dX3_prepare_92 rfl (lv_at hl 1 rfl) ?_
    refine ns_getr C w 28 (hI 28 (by decide)) sh_28 (rfl : vwCl[6]? = some (RX6, TX6, 6)) inX3_prepare_6 2 (by decide) rfl lX3_prepare_78 dX3_prepare_93 ?_
    refine ns_geti C w 37 (hI 37 (by decide)) sh_37 (rfl : vwCl[4]? = some (RX4, TX4, 6)) inX3_prepare_4 0 (by decide) rfl lX3_prepare_82 (S.1 2368) rfl dX3_prepare_96 ?_
    refine ns_icmp_ge C hf (tgt := 156) dX3_prepare_99 (by decide) (fun hf => ?_) (fun hf => ?_)
    · have he := Option.some.inj hf
      subst he
      exact ns_vret C w hr hlk rfl rfl dX3_prepare_156
    · refine lv_aload_n C.1.1 C.1.2.1 dX3_prepare_102 rfl (lv_at hl 0 rfl) ?_
      refine ns_getr C w 15 (hI 15 (by decide)) sh_15 (rfl : vwCl[3]? = some (RX3, TX3, 10)) inX3_prepare_3 6 (by decide) rfl lX3_prepare_34 dX3_prepare_103 ?_
      refine lv_iload_n C.1.1 C.1.2.1 dX3_prepare_106 rfl (lv_at hl 2 rfl) ?_
      refine lv_iconst (v := 0) C.1.1 C.1.2.1 dX3_prepare_107 (by decide) ?_
      refine ns_iast C w 26 (hI 26 (by decide)) sh_26 hf rfl (List.mem_of_getElem? (i := 3) rfl) dX3_prepare_108 (fun y1 H locs hf w => ?_)
      refine lv_iconst (v := 0) C.1.1 C.1.2.1 dX3_prepare_109 (by decide) ?_
      refine lv_istore_n (lv' := [(3, .int 0), (0, .ref (b 15)), (1, .ref (b 28)), (2, .int l2)]) C.1.1 C.1.2.1 dX3_prepare_110 rfl hl (by decide) rfl (fun ls hl => ?_)
      exact wX3_prepare_15_28_111 N hI C hr hlk K91 N w (lv_sub hl [1, 2, 3, 0] rfl) hf
set_option maxHeartbeats 4000000 in
set_option maxRecDepth 100000 in
theorem wX3_prepare_15_28_52 {p : Program} {l : Launch} {e : Env} {s : State} {m : MethodId} {args : Array Value} {below : List Frame} {meth : Method} {c : Code} {D : va_G} {b : Nat → Nat} {ids : List Nat} {A : Nat → Prop} {S0 : ns_S} {o : (Nat → Int32) × (Nat → Int32) × (Nat → Int32) × (Nat → Int32)} (N : Nat) (hI : ∀ i, i < 107 → i ∈ ids) (C : ns_C p m c cX3_prepare 4 s args wsX3_prepare RX3 D A) (hr : meth.sig.returnType = none) (hlk : meth.locks = false) : ∀ n : Nat, ∀ {S : ns_S} {H : Heap} {locs : List Loc} {ls : Array Slot} {l2 : Int32}, ns_W D b ids A s.heap wrX3_prepare_15_28 S0 S H locs → lv_has ls 4 [(0, .ref (b 15)), (1, .ref (b 28)), (2, .int l2)] → fX3_prepare_52 N n (S.1 1856) (S.2.1 21) (S.2.1 30) (S.1 1984) (S.2.1 22) (S.2.1 35) (S.2.1 25) (S.2.1 32) (S.1 2368) (S.2.1 26) (S.2.1 41) (S.2.1 42) l2 = some o → W p l e rmX3_prepare_15_28 s m args below meth c H locs 0 0 (MQ below (ns_Q D b ids (ns_A (ns_A (ns_A (ns_A S0 26 o.2.2.2) 25 o.2.2.1) 22 o.2.1) 21 o.1) none A) args s 0 0 A) (F0 m 52 ls []) := by
  intro n
  induction n with
  | zero =>
    intro S H locs ls l2 w hl hf
    cases hf
  | succ n K52 =>
    intro S H locs ls l2 w hl hf
    change gX3_prepare_52 N (fX3_prepare_52 N n) (S.1 1856) (S.2.1 21) (S.2.1 30) (S.1 1984) (S.2.1 22) (S.2.1 35) (S.2.1 25) (S.2.1 32) (S.1 2368) (S.2.1 26) (S.2.1 41) (S.2.1 42) l2 = some o at hf
    generalize fX3_prepare_52 N n = r52 at hf K52
    unfold gX3_prepare_52 at hf
    refine lv_iload_n C.1.1 C.1.2.1 dX3_prepare_52 rfl (lv_at hl 2 rfl) ?_
    refine lv_aload_n C.1.1 C.1.2.1 dX3_prepare_53 rfl (lv_at hl 1 rfl) ?_
    refine ns_getr C w 28 (hI 28 (by decide)) sh_28 (rfl : vwCl[6]? = some (RX6, TX6, 6)) inX3_prepare_6 1 (by decide) rfl lX3_prepare_59 dX3_prepare_54 ?_
    refine ns_geti C w 31 (hI 31 (by decide)) sh_31 (rfl : vwCl[0]? = some (RX0, TX0, 6)) inX3_prepare_0 0 (by decide) rfl lX3_prepare_68 (S.1 1984) rfl dX3_prepare_57 ?_
    refine ns_icmp_ge C hf (tgt := 89) dX3_prepare_60 (by decide) (fun hf => ?_) (fun hf => ?_)
    · refine lv_iconst (v := 0) C.1.1 C.1.2.1 dX3_prepare_89 (by decide) ?_
      refine lv_istore_n (lv' := [(2, .int 0), (0, .ref (b 15)), (1, .ref (b 28))]) C.1.1 C.1.2.1 dX3_prepare_90 rfl hl (by decide) rfl (fun ls hl => ?_)
      exact wX3_prepare_15_28_91 N hI C hr hlk N w (lv_sub hl [1, 2, 0] rfl) hf
    · refine lv_aload_n C.1.1 C.1.2.1 dX3_prepare_63 rfl (lv_at hl 0 rfl) ?_
      refine ns_getr C w 15 (hI 15 (by decide)) sh_15 (rfl : vwCl[3]? = some (RX3, TX3, 10)) inX3_prepare_3 5 (by decide) rfl lX3_prepare_31 dX3_prepare_64 ?_
      refine lv_aload_n C.1.1 C.1.2.1 dX3_prepare_67 rfl (lv_at hl 1 rfl) ?_
      refine ns_getr C w 28 (hI 28 (by decide)) sh_28 (rfl : vwCl[6]? = some (RX6, TX6, 6)) inX3_prepare_6 1 (by decide) rfl lX3_prepare_59 dX3_prepare_68 ?_
      refine ns_getr C w 31 (hI 31 (by decide)) sh_31 (rfl : vwCl[0]? = some (RX0, TX0, 6)) inX3_prepare_0 1 (by decide) rfl lX3_prepare_75 dX3_prepare_71 ?_
      refine lv_iload_n C.1.1 C.1.2.1 dX3_prepare_74 rfl (lv_at hl 2 rfl) ?_
      refine ns_iald C w 32 (hI 32 (by decide)) sh_32 hf rfl dX3_prepare_75 (fun x1 hf => ?_)
      refine lv_dup2_11 C.1.1 C.1.2.1 dX3_prepare_76 rfl rfl ?_
      refine ns_iald C w 25 (hI 25 (by decide)) sh_25 hf rfl dX3_prepare_77 (fun x2 hf => ?_)
      refine lv_iconst (v := 1) C.1.1 C.1.2.1 dX3_prepare_78 (by decide) ?_
      refine lv_iload_n C.1.1 C.1.2.1 dX3_prepare_79 rfl (lv_at hl 2 rfl) ?_
      refine lv_ishl C.1.1 C.1.2.1 dX3_prepare_80 ?_
      refine lv_ior C.1.1 C.1.2.1 dX3_prepare_81 ?_
      refine ns_iast C w 25 (hI 25 (by decide)) sh_25 hf rfl (List.mem_of_getElem? (i := 2) rfl) dX3_prepare_82 (fun y3 H locs hf w => ?_)
      refine ns_iinc (lv' := fun x4 => [(2, .int x4), (0, .ref (b 15)), (1, .ref (b 28))]) C hf dX3_prepare_83 hl (k := 2) rfl rfl (by decide) (fun _ => rfl) (fun x4 ls hl hf => ?_)
      refine lv_goto (tgt := 52) C.1.1 C.1.2.1 dX3_prepare_86 (by decide) ?_
      exact K52 w (lv_sub hl [1, 2, 0] rfl) hf
set_option maxHeartbeats 4000000 in
set_option maxRecDepth 100000 in
theorem mX3_prepare_15_28 (l : Launch) (D : va_G) (b : Nat → Nat) (ids : List Nat) (hI : ∀ i, i < 107 → i ∈ ids) (N : Nat) (S : ns_S) {o : (Nat → Int32) × (Nat → Int32) × (Nat → Int32) × (Nat → Int32)} (hf : fX3_prepare N (S.1 1856) (S.2.1 21) (S.2.1 30) (S.1 1984) (S.2.1 22) (S.2.1 35) (S.2.1 25) (S.2.1 32) (S.1 2368) (S.2.1 26) (S.2.1 41) (S.2.1 42) = some o) : ns_M l yX3_prepare wsX3_prepare rmX3_prepare_15_28 D b ids S [.ref (b 15), .ref (b 28)] none (ns_A (ns_A (ns_A (ns_A S 26 o.2.2.2) 25 o.2.2.1) 22 o.2.1) 21 o.1) := by
  refine ns_start (Wr := wrX3_prepare_15_28) (by decide) rfl (Nat.le_of_ble_eq_true rfl) ?_
  intro p e s m below meth c A ls C hr hlk w hl
  have hl : lv_has ls 4 [(0, .ref (b 15)), (1, .ref (b 28))] := hl
  unfold fX3_prepare at hf
  refine lv_aload_n C.1.1 C.1.2.1 dX3_prepare_0 rfl (lv_at hl 0 rfl) ?_
  refine ns_getr C w 15 (hI 15 (by decide)) sh_15 (rfl : vwCl[3]? = some (RX3, TX3, 10)) inX3_prepare_3 1 (by decide) rfl lX3_prepare_18 dX3_prepare_1 ?_
  refine lv_aload_n C.1.1 C.1.2.1 dX3_prepare_4 rfl (lv_at hl 1 rfl) ?_
  refine ns_getr C w 28 (hI 28 (by decide)) sh_28 (rfl : vwCl[6]? = some (RX6, TX6, 6)) inX3_prepare_6 0 (by decide) rfl lX3_prepare_40 dX3_prepare_5 ?_
  refine ns_getr C w 29 (hI 29 (by decide)) sh_29 (rfl : vwCl[5]? = some (RX5, TX5, 2)) inX3_prepare_5 1 (by decide) rfl lX3_prepare_46 dX3_prepare_8 ?_
  refine lv_aload_n C.1.1 C.1.2.1 dX3_prepare_11 rfl (lv_at hl 1 rfl) ?_
  refine ns_getr C w 28 (hI 28 (by decide)) sh_28 (rfl : vwCl[6]? = some (RX6, TX6, 6)) inX3_prepare_6 0 (by decide) rfl lX3_prepare_40 dX3_prepare_12 ?_
  refine ns_geti C w 29 (hI 29 (by decide)) sh_29 (rfl : vwCl[5]? = some (RX5, TX5, 2)) inX3_prepare_5 0 (by decide) rfl lX3_prepare_51 (S.1 1856) rfl dX3_prepare_15 ?_
  refine ns_callS C w [.ref (b 21), .ref (b 30), .int (S.1 1856)] hf (fun u hu => mX3_orderByGreatest_21_30 l D b ids hI N _ (S.1 1856) hu) gX3_prepare_X3_orderByGreatest rfl rfl rfl hdX3_orderByGreatest ⟨Nat.le_of_ble_eq_true rfl, Nat.le_of_ble_eq_true rfl⟩ (fun u h => (h.A (List.mem_of_getElem? (i := 0) rfl) _)) rfl hl.1 rfl (Nat.le_of_ble_eq_true rfl) ⟨Nat.le_refl _, Nat.le_refl _⟩ dX3_prepare_18 (fun o1 H locs hf w => ?_)
  refine lv_aload_n C.1.1 C.1.2.1 dX3_prepare_21 rfl (lv_at hl 0 rfl) ?_
  refine ns_getr C w 15 (hI 15 (by decide)) sh_15 (rfl : vwCl[3]? = some (RX3, TX3, 10)) inX3_prepare_3 2 (by decide) rfl lX3_prepare_22 dX3_prepare_22 ?_
  refine lv_aload_n C.1.1 C.1.2.1 dX3_prepare_25 rfl (lv_at hl 1 rfl) ?_
  refine ns_getr C w 28 (hI 28 (by decide)) sh_28 (rfl : vwCl[6]? = some (RX6, TX6, 6)) inX3_prepare_6 1 (by decide) rfl lX3_prepare_59 dX3_prepare_26 ?_
  refine ns_getr C w 31 (hI 31 (by decide)) sh_31 (rfl : vwCl[0]? = some (RX0, TX0, 6)) inX3_prepare_0 4 (by decide) rfl lX3_prepare_63 dX3_prepare_29 ?_
  refine lv_aload_n C.1.1 C.1.2.1 dX3_prepare_32 rfl (lv_at hl 1 rfl) ?_
  refine ns_getr C w 28 (hI 28 (by decide)) sh_28 (rfl : vwCl[6]? = some (RX6, TX6, 6)) inX3_prepare_6 1 (by decide) rfl lX3_prepare_59 dX3_prepare_33 ?_
  refine ns_geti C w 31 (hI 31 (by decide)) sh_31 (rfl : vwCl[0]? = some (RX0, TX0, 6)) inX3_prepare_0 0 (by decide) rfl lX3_prepare_68 (S.1 1984) rfl dX3_prepare_36 ?_
  refine ns_callS C w [.ref (b 22), .ref (b 35), .int (S.1 1984)] hf (fun u hu => mX3_orderByGreatest_22_35 l D b ids hI N _ (S.1 1984) hu) gX3_prepare_X3_orderByGreatest rfl rfl rfl hdX3_orderByGreatest ⟨Nat.le_of_ble_eq_true rfl, Nat.le_of_ble_eq_true rfl⟩ (fun u h => (h.A (List.mem_of_getElem? (i := 1) rfl) _)) rfl hl.1 rfl (Nat.le_of_ble_eq_true rfl) ⟨Nat.le_refl _, Nat.le_refl _⟩ dX3_prepare_39 (fun o2 H locs hf w => ?_)
  refine lv_aload_n C.1.1 C.1.2.1 dX3_prepare_42 rfl (lv_at hl 0 rfl) ?_
  refine ns_getr C w 15 (hI 15 (by decide)) sh_15 (rfl : vwCl[3]? = some (RX3, TX3, 10)) inX3_prepare_3 5 (by decide) rfl lX3_prepare_31 dX3_prepare_43 ?_
  refine lv_iconst (v := 0) C.1.1 C.1.2.1 dX3_prepare_46 (by decide) ?_
  refine ns_callS C w [.ref (b 25), .int 0] hf (fun u hu => mJ7_fill_53178_25 l D b ids hI N _ 0 hu) gX3_prepare_J7_fill_53178 rfl rfl rfl hdJ7_fill_53178 ⟨Nat.le_of_ble_eq_true rfl, Nat.le_of_ble_eq_true rfl⟩ (fun u h => (h.A (List.mem_of_getElem? (i := 2) rfl) _)) rfl hl.1 rfl (Nat.le_of_ble_eq_true rfl) ⟨Nat.le_refl _, Nat.le_refl _⟩ dX3_prepare_47 (fun o3 H locs hf w => ?_)
  refine lv_iconst (v := 0) C.1.1 C.1.2.1 dX3_prepare_50 (by decide) ?_
  refine lv_istore_n (lv' := [(2, .int 0), (0, .ref (b 15)), (1, .ref (b 28))]) C.1.1 C.1.2.1 dX3_prepare_51 rfl hl (by decide) rfl (fun ls hl => ?_)
  exact wX3_prepare_15_28_52 N hI C hr hlk N w (lv_sub hl [1, 2, 0] rfl) hf
abbrev wrJ7_fill_53178_17 : List (Nat × Nat) := [(1, 17)]
abbrev rmJ7_fill_53178_17 : Room := { frames := 0, cells := 0, slots := 0, locals := 0 }
set_option maxHeartbeats 4000000 in
set_option maxRecDepth 100000 in
theorem wJ7_fill_53178_17_5 {p : Program} {l : Launch} {e : Env} {s : State} {m : MethodId} {args : Array Value} {below : List Frame} {meth : Method} {c : Code} {D : va_G} {b : Nat → Nat} {ids : List Nat} {A : Nat → Prop} {S0 : ns_S} {o : (Nat → Int32)} (N : Nat) (hI : ∀ i, i < 107 → i ∈ ids) (C : ns_C p m c cJ7_fill_53178 4 s args wsJ7_fill_53178 RJ7 D A) (hr : meth.sig.returnType = none) (hlk : meth.locks = false) : ∀ n : Nat, ∀ {S : ns_S} {H : Heap} {locs : List Loc} {ls : Array Slot} {l1 : Int32} {l2 : Int32} {l3 : Int32}, ns_W D b ids A s.heap wrJ7_fill_53178_17 S0 S H locs → lv_has ls 4 [(0, .ref (b 17)), (1, .int l1), (2, .int l2), (3, .int l3)] → fJ7_fill_53178_5 N 10 n (S.2.1 17) l1 l2 l3 = some o → W p l e rmJ7_fill_53178_17 s m args below meth c H locs 0 0 (MQ below (ns_Q D b ids (ns_A S0 17 o) none A) args s 0 0 A) (F0 m 5 ls []) := by
  intro n
  induction n with
  | zero =>
    intro S H locs ls l1 l2 l3 w hl hf
    cases hf
  | succ n K5 =>
    intro S H locs ls l1 l2 l3 w hl hf
    change gJ7_fill_53178_5 N 10 (fJ7_fill_53178_5 N 10 n) (S.2.1 17) l1 l2 l3 = some o at hf
    generalize fJ7_fill_53178_5 N 10 n = r5 at hf K5
    unfold gJ7_fill_53178_5 at hf
    refine lv_iload_n C.1.1 C.1.2.1 dJ7_fill_53178_5 rfl (lv_at hl 2 rfl) ?_
    refine lv_iload_n C.1.1 C.1.2.1 dJ7_fill_53178_6 rfl (lv_at hl 3 rfl) ?_
    refine ns_icmp_ge C hf (tgt := 20) dJ7_fill_53178_7 (by decide) (fun hf => ?_) (fun hf => ?_)
    · have he := Option.some.inj hf
      subst he
      exact ns_vret C w hr hlk rfl rfl dJ7_fill_53178_20
    · refine lv_aload_n C.1.1 C.1.2.1 dJ7_fill_53178_10 rfl (lv_at hl 0 rfl) ?_
      refine lv_iload_n C.1.1 C.1.2.1 dJ7_fill_53178_11 rfl (lv_at hl 2 rfl) ?_
      refine lv_iload_n C.1.1 C.1.2.1 dJ7_fill_53178_12 rfl (lv_at hl 1 rfl) ?_
      refine ns_iast C w 17 (hI 17 (by decide)) sh_17 hf rfl (List.mem_of_getElem? (i := 0) rfl) dJ7_fill_53178_13 (fun y1 H locs hf w => ?_)
      refine ns_iinc (lv' := fun x2 => [(2, .int x2), (0, .ref (b 17)), (1, .int l1), (3, .int l3)]) C hf dJ7_fill_53178_14 hl (k := 2) rfl rfl (by decide) (fun _ => rfl) (fun x2 ls hl hf => ?_)
      refine lv_goto (tgt := 5) C.1.1 C.1.2.1 dJ7_fill_53178_17 (by decide) ?_
      exact K5 w (lv_sub hl [1, 2, 0, 3] rfl) hf
set_option maxHeartbeats 4000000 in
set_option maxRecDepth 100000 in
theorem mJ7_fill_53178_17 (l : Launch) (D : va_G) (b : Nat → Nat) (ids : List Nat) (hI : ∀ i, i < 107 → i ∈ ids) (N : Nat) (S : ns_S) (p1 : Int32) {o : (Nat → Int32)} (hf : fJ7_fill_53178 N 10 (S.2.1 17) p1 = some o) : ns_M l yJ7_fill_53178 wsJ7_fill_53178 rmJ7_fill_53178_17 D b ids S [.ref (b 17), .int p1] none (ns_A S 17 o) := by
  refine ns_start (Wr := wrJ7_fill_53178_17) (by decide) rfl (Nat.le_of_ble_eq_true rfl) ?_
  intro p e s m below meth c A ls C hr hlk w hl
  have hl : lv_has ls 4 [(0, .ref (b 17)), (1, .int p1)] := hl
  unfold fJ7_fill_53178 at hf
  refine lv_iconst (v := 0) C.1.1 C.1.2.1 dJ7_fill_53178_0 (by decide) ?_
  refine lv_istore_n (lv' := [(2, .int 0), (0, .ref (b 17)), (1, .int p1)]) C.1.1 C.1.2.1 dJ7_fill_53178_1 rfl hl (by decide) rfl (fun ls hl => ?_)
  refine lv_aload_n C.1.1 C.1.2.1 dJ7_fill_53178_2 rfl (lv_at hl 1 rfl) ?_
  refine ns_alen (v := Int32.ofNat 10) C w 17 (hI 17 (by decide)) sh_17 rfl dJ7_fill_53178_3 ?_
  refine ns_namei hf (fun x1 hf => ?_)
  refine lv_istore_n (lv' := [(3, .int x1), (2, .int 0), (0, .ref (b 17)), (1, .int p1)]) C.1.1 C.1.2.1 dJ7_fill_53178_4 rfl hl (by decide) rfl (fun ls hl => ?_)
  exact wJ7_fill_53178_17_5 N hI C hr hlk N w (lv_sub hl [2, 3, 1, 0] rfl) hf
abbrev wrJ7_fill_53178_18 : List (Nat × Nat) := [(1, 18)]
abbrev rmJ7_fill_53178_18 : Room := { frames := 0, cells := 0, slots := 0, locals := 0 }
set_option maxHeartbeats 4000000 in
set_option maxRecDepth 100000 in
theorem wJ7_fill_53178_18_5 {p : Program} {l : Launch} {e : Env} {s : State} {m : MethodId} {args : Array Value} {below : List Frame} {meth : Method} {c : Code} {D : va_G} {b : Nat → Nat} {ids : List Nat} {A : Nat → Prop} {S0 : ns_S} {o : (Nat → Int32)} (N : Nat) (hI : ∀ i, i < 107 → i ∈ ids) (C : ns_C p m c cJ7_fill_53178 4 s args wsJ7_fill_53178 RJ7 D A) (hr : meth.sig.returnType = none) (hlk : meth.locks = false) : ∀ n : Nat, ∀ {S : ns_S} {H : Heap} {locs : List Loc} {ls : Array Slot} {l1 : Int32} {l2 : Int32} {l3 : Int32}, ns_W D b ids A s.heap wrJ7_fill_53178_18 S0 S H locs → lv_has ls 4 [(0, .ref (b 18)), (1, .int l1), (2, .int l2), (3, .int l3)] → fJ7_fill_53178_5 N 10 n (S.2.1 18) l1 l2 l3 = some o → W p l e rmJ7_fill_53178_18 s m args below meth c H locs 0 0 (MQ below (ns_Q D b ids (ns_A S0 18 o) none A) args s 0 0 A) (F0 m 5 ls []) := by
  intro n
  induction n with
  | zero =>
    intro S H locs ls l1 l2 l3 w hl hf
    cases hf
  | succ n K5 =>
    intro S H locs ls l1 l2 l3 w hl hf
    change gJ7_fill_53178_5 N 10 (fJ7_fill_53178_5 N 10 n) (S.2.1 18) l1 l2 l3 = some o at hf
    generalize fJ7_fill_53178_5 N 10 n = r5 at hf K5
    unfold gJ7_fill_53178_5 at hf
    refine lv_iload_n C.1.1 C.1.2.1 dJ7_fill_53178_5 rfl (lv_at hl 2 rfl) ?_
    refine lv_iload_n C.1.1 C.1.2.1 dJ7_fill_53178_6 rfl (lv_at hl 3 rfl) ?_
    refine ns_icmp_ge C hf (tgt := 20) dJ7_fill_53178_7 (by decide) (fun hf => ?_) (fun hf => ?_)
    · have he := Option.some.inj hf
      subst he
      exact ns_vret C w hr hlk rfl rfl dJ7_fill_53178_20
    · refine lv_aload_n C.1.1 C.1.2.1 dJ7_fill_53178_10 rfl (lv_at hl 0 rfl) ?_
      refine lv_iload_n C.1.1 C.1.2.1 dJ7_fill_53178_11 rfl (lv_at hl 2 rfl) ?_
      refine lv_iload_n C.1.1 C.1.2.1 dJ7_fill_53178_12 rfl (lv_at hl 1 rfl) ?_
      refine ns_iast C w 18 (hI 18 (by decide)) sh_18 hf rfl (List.mem_of_getElem? (i := 0) rfl) dJ7_fill_53178_13 (fun y1 H locs hf w => ?_)
      refine ns_iinc (lv' := fun x2 => [(2, .int x2), (0, .ref (b 18)), (1, .int l1), (3, .int l3)]) C hf dJ7_fill_53178_14 hl (k := 2) rfl rfl (by decide) (fun _ => rfl) (fun x2 ls hl hf => ?_)
      refine lv_goto (tgt := 5) C.1.1 C.1.2.1 dJ7_fill_53178_17 (by decide) ?_
      exact K5 w (lv_sub hl [1, 2, 0, 3] rfl) hf
set_option maxHeartbeats 4000000 in
set_option maxRecDepth 100000 in
theorem mJ7_fill_53178_18 (l : Launch) (D : va_G) (b : Nat → Nat) (ids : List Nat) (hI : ∀ i, i < 107 → i ∈ ids) (N : Nat) (S : ns_S) (p1 : Int32) {o : (Nat → Int32)} (hf : fJ7_fill_53178 N 10 (S.2.1 18) p1 = some o) : ns_M l yJ7_fill_53178 wsJ7_fill_53178 rmJ7_fill_53178_18 D b ids S [.ref (b 18), .int p1] none (ns_A S 18 o) := by
  refine ns_start (Wr := wrJ7_fill_53178_18) (by decide) rfl (Nat.le_of_ble_eq_true rfl) ?_
  intro p e s m below meth c A ls C hr hlk w hl
  have hl : lv_has ls 4 [(0, .ref (b 18)), (1, .int p1)] := hl
  unfold fJ7_fill_53178 at hf
  refine lv_iconst (v := 0) C.1.1 C.1.2.1 dJ7_fill_53178_0 (by decide) ?_
  refine lv_istore_n (lv' := [(2, .int 0), (0, .ref (b 18)), (1, .int p1)]) C.1.1 C.1.2.1 dJ7_fill_53178_1 rfl hl (by decide) rfl (fun ls hl => ?_)
  refine lv_aload_n C.1.1 C.1.2.1 dJ7_fill_53178_2 rfl (lv_at hl 1 rfl) ?_
  refine ns_alen (v := Int32.ofNat 10) C w 18 (hI 18 (by decide)) sh_18 rfl dJ7_fill_53178_3 ?_
  refine ns_namei hf (fun x1 hf => ?_)
  refine lv_istore_n (lv' := [(3, .int x1), (2, .int 0), (0, .ref (b 18)), (1, .int p1)]) C.1.1 C.1.2.1 dJ7_fill_53178_4 rfl hl (by decide) rfl (fun ls hl => ?_)
  exact wJ7_fill_53178_18_5 N hI C hr hlk N w (lv_sub hl [2, 3, 1, 0] rfl) hf
abbrev wrJ7_fill_53178_19 : List (Nat × Nat) := [(1, 19)]
abbrev rmJ7_fill_53178_19 : Room := { frames := 0, cells := 0, slots := 0, locals := 0 }
set_option maxHeartbeats 4000000 in
set_option maxRecDepth 100000 in
theorem wJ7_fill_53178_19_5 {p : Program} {l : Launch} {e : Env} {s : State} {m : MethodId} {args : Array Value} {below : List Frame} {meth : Method} {c : Code} {D : va_G} {b : Nat → Nat} {ids : List Nat} {A : Nat → Prop} {S0 : ns_S} {o : (Nat → Int32)} (N : Nat) (hI : ∀ i, i < 107 → i ∈ ids) (C : ns_C p m c cJ7_fill_53178 4 s args wsJ7_fill_53178 RJ7 D A) (hr : meth.sig.returnType = none) (hlk : meth.locks = false) : ∀ n : Nat, ∀ {S : ns_S} {H : Heap} {locs : List Loc} {ls : Array Slot} {l1 : Int32} {l2 : Int32} {l3 : Int32}, ns_W D b ids A s.heap wrJ7_fill_53178_19 S0 S H locs → lv_has ls 4 [(0, .ref (b 19)), (1, .int l1), (2, .int l2), (3, .int l3)] → fJ7_fill_53178_5 N 10 n (S.2.1 19) l1 l2 l3 = some o → W p l e rmJ7_fill_53178_19 s m args below meth c H locs 0 0 (MQ below (ns_Q D b ids (ns_A S0 19 o) none A) args s 0 0 A) (F0 m 5 ls []) := by
  intro n
  induction n with
  | zero =>
    intro S H locs ls l1 l2 l3 w hl hf
    cases hf
  | succ n K5 =>
    intro S H locs ls l1 l2 l3 w hl hf
    change gJ7_fill_53178_5 N 10 (fJ7_fill_53178_5 N 10 n) (S.2.1 19) l1 l2 l3 = some o at hf
    generalize fJ7_fill_53178_5 N 10 n = r5 at hf K5
    unfold gJ7_fill_53178_5 at hf
    refine lv_iload_n C.1.1 C.1.2.1 dJ7_fill_53178_5 rfl (lv_at hl 2 rfl) ?_
    refine lv_iload_n C.1.1 C.1.2.1 dJ7_fill_53178_6 rfl (lv_at hl 3 rfl) ?_
    refine ns_icmp_ge C hf (tgt := 20) dJ7_fill_53178_7 (by decide) (fun hf => ?_) (fun hf => ?_)
    · have he := Option.some.inj hf
      subst he
      exact ns_vret C w hr hlk rfl rfl dJ7_fill_53178_20
    · refine lv_aload_n C.1.1 C.1.2.1 dJ7_fill_53178_10 rfl (lv_at hl 0 rfl) ?_
      refine lv_iload_n C.1.1 C.1.2.1 dJ7_fill_53178_11 rfl (lv_at hl 2 rfl) ?_
      refine lv_iload_n C.1.1 C.1.2.1 dJ7_fill_53178_12 rfl (lv_at hl 1 rfl) ?_
      refine ns_iast C w 19 (hI 19 (by decide)) sh_19 hf rfl (List.mem_of_getElem? (i := 0) rfl) dJ7_fill_53178_13 (fun y1 H locs hf w => ?_)
      refine ns_iinc (lv' := fun x2 => [(2, .int x2), (0, .ref (b 19)), (1, .int l1), (3, .int l3)]) C hf dJ7_fill_53178_14 hl (k := 2) rfl rfl (by decide) (fun _ => rfl) (fun x2 ls hl hf => ?_)
      refine lv_goto (tgt := 5) C.1.1 C.1.2.1 dJ7_fill_53178_17 (by decide) ?_
      exact K5 w (lv_sub hl [1, 2, 0, 3] rfl) hf
set_option maxHeartbeats 4000000 in
set_option maxRecDepth 100000 in
theorem mJ7_fill_53178_19 (l : Launch) (D : va_G) (b : Nat → Nat) (ids : List Nat) (hI : ∀ i, i < 107 → i ∈ ids) (N : Nat) (S : ns_S) (p1 : Int32) {o : (Nat → Int32)} (hf : fJ7_fill_53178 N 10 (S.2.1 19) p1 = some o) : ns_M l yJ7_fill_53178 wsJ7_fill_53178 rmJ7_fill_53178_19 D b ids S [.ref (b 19), .int p1] none (ns_A S 19 o) := by
  refine ns_start (Wr := wrJ7_fill_53178_19) (by decide) rfl (Nat.le_of_ble_eq_true rfl) ?_
  intro p e s m below meth c A ls C hr hlk w hl
  have hl : lv_has ls 4 [(0, .ref (b 19)), (1, .int p1)] := hl
  unfold fJ7_fill_53178 at hf
  refine lv_iconst (v := 0) C.1.1 C.1.2.1 dJ7_fill_53178_0 (by decide) ?_
  refine lv_istore_n (lv' := [(2, .int 0), (0, .ref (b 19)), (1, .int p1)]) C.1.1 C.1.2.1 dJ7_fill_53178_1 rfl hl (by decide) rfl (fun ls hl => ?_)
  refine lv_aload_n C.1.1 C.1.2.1 dJ7_fill_53178_2 rfl (lv_at hl 1 rfl) ?_
  refine ns_alen (v := Int32.ofNat 10) C w 19 (hI 19 (by decide)) sh_19 rfl dJ7_fill_53178_3 ?_
  refine ns_namei hf (fun x1 hf => ?_)
  refine lv_istore_n (lv' := [(3, .int x1), (2, .int 0), (0, .ref (b 19)), (1, .int p1)]) C.1.1 C.1.2.1 dJ7_fill_53178_4 rfl hl (by decide) rfl (fun ls hl => ?_)
  exact wJ7_fill_53178_19_5 N hI C hr hlk N w (lv_sub hl [2, 3, 1, 0] rfl) hf
abbrev wrJ7_fill_53178_20 : List (Nat × Nat) := [(1, 20)]
abbrev rmJ7_fill_53178_20 : Room := { frames := 0, cells := 0, slots := 0, locals := 0 }
set_option maxHeartbeats 4000000 in
set_option maxRecDepth 100000 in
theorem wJ7_fill_53178_20_5 {p : Program} {l : Launch} {e : Env} {s : State} {m : MethodId} {args : Array Value} {below : List Frame} {meth : Method} {c : Code} {D : va_G} {b : Nat → Nat} {ids : List Nat} {A : Nat → Prop} {S0 : ns_S} {o : (Nat → Int32)} (N : Nat) (hI : ∀ i, i < 107 → i ∈ ids) (C : ns_C p m c cJ7_fill_53178 4 s args wsJ7_fill_53178 RJ7 D A) (hr : meth.sig.returnType = none) (hlk : meth.locks = false) : ∀ n : Nat, ∀ {S : ns_S} {H : Heap} {locs : List Loc} {ls : Array Slot} {l1 : Int32} {l2 : Int32} {l3 : Int32}, ns_W D b ids A s.heap wrJ7_fill_53178_20 S0 S H locs → lv_has ls 4 [(0, .ref (b 20)), (1, .int l1), (2, .int l2), (3, .int l3)] → fJ7_fill_53178_5 N 30 n (S.2.1 20) l1 l2 l3 = some o → W p l e rmJ7_fill_53178_20 s m args below meth c H locs 0 0 (MQ below (ns_Q D b ids (ns_A S0 20 o) none A) args s 0 0 A) (F0 m 5 ls []) := by
  intro n
  induction n with
  | zero =>
    intro S H locs ls l1 l2 l3 w hl hf
    cases hf
  | succ n K5 =>
    intro S H locs ls l1 l2 l3 w hl hf
    change gJ7_fill_53178_5 N 30 (fJ7_fill_53178_5 N 30 n) (S.2.1 20) l1 l2 l3 = some o at hf
    generalize fJ7_fill_53178_5 N 30 n = r5 at hf K5
    unfold gJ7_fill_53178_5 at hf
    refine lv_iload_n C.1.1 C.1.2.1 dJ7_fill_53178_5 rfl (lv_at hl 2 rfl) ?_
    refine lv_iload_n C.1.1 C.1.2.1 dJ7_fill_53178_6 rfl (lv_at hl 3 rfl) ?_
    refine ns_icmp_ge C hf (tgt := 20) dJ7_fill_53178_7 (by decide) (fun hf => ?_) (fun hf => ?_)
    · have he := Option.some.inj hf
      subst he
      exact ns_vret C w hr hlk rfl rfl dJ7_fill_53178_20
    · refine lv_aload_n C.1.1 C.1.2.1 dJ7_fill_53178_10 rfl (lv_at hl 0 rfl) ?_
      refine lv_iload_n C.1.1 C.1.2.1 dJ7_fill_53178_11 rfl (lv_at hl 2 rfl) ?_
      refine lv_iload_n C.1.1 C.1.2.1 dJ7_fill_53178_12 rfl (lv_at hl 1 rfl) ?_
      refine ns_iast C w 20 (hI 20 (by decide)) sh_20 hf rfl (List.mem_of_getElem? (i := 0) rfl) dJ7_fill_53178_13 (fun y1 H locs hf w => ?_)
      refine ns_iinc (lv' := fun x2 => [(2, .int x2), (0, .ref (b 20)), (1, .int l1), (3, .int l3)]) C hf dJ7_fill_53178_14 hl (k := 2) rfl rfl (by decide) (fun _ => rfl) (fun x2 ls hl hf => ?_)
      refine lv_goto (tgt := 5) C.1.1 C.1.2.1 dJ7_fill_53178_17 (by decide) ?_
      exact K5 w (lv_sub hl [1, 2, 0, 3] rfl) hf
set_option maxHeartbeats 4000000 in
set_option maxRecDepth 100000 in
theorem mJ7_fill_53178_20 (l : Launch) (D : va_G) (b : Nat → Nat) (ids : List Nat) (hI : ∀ i, i < 107 → i ∈ ids) (N : Nat) (S : ns_S) (p1 : Int32) {o : (Nat → Int32)} (hf : fJ7_fill_53178 N 30 (S.2.1 20) p1 = some o) : ns_M l yJ7_fill_53178 wsJ7_fill_53178 rmJ7_fill_53178_20 D b ids S [.ref (b 20), .int p1] none (ns_A S 20 o) := by
  refine ns_start (Wr := wrJ7_fill_53178_20) (by decide) rfl (Nat.le_of_ble_eq_true rfl) ?_
  intro p e s m below meth c A ls C hr hlk w hl
  have hl : lv_has ls 4 [(0, .ref (b 20)), (1, .int p1)] := hl
  unfold fJ7_fill_53178 at hf
  refine lv_iconst (v := 0) C.1.1 C.1.2.1 dJ7_fill_53178_0 (by decide) ?_
  refine lv_istore_n (lv' := [(2, .int 0), (0, .ref (b 20)), (1, .int p1)]) C.1.1 C.1.2.1 dJ7_fill_53178_1 rfl hl (by decide) rfl (fun ls hl => ?_)
  refine lv_aload_n C.1.1 C.1.2.1 dJ7_fill_53178_2 rfl (lv_at hl 1 rfl) ?_
  refine ns_alen (v := Int32.ofNat 30) C w 20 (hI 20 (by decide)) sh_20 rfl dJ7_fill_53178_3 ?_
  refine ns_namei hf (fun x1 hf => ?_)
  refine lv_istore_n (lv' := [(3, .int x1), (2, .int 0), (0, .ref (b 20)), (1, .int p1)]) C.1.1 C.1.2.1 dJ7_fill_53178_4 rfl hl (by decide) rfl (fun ls hl => ?_)
  exact wJ7_fill_53178_20_5 N hI C hr hlk N w (lv_sub hl [2, 3, 1, 0] rfl) hf
theorem lX7_clear_9 : Cond.fieldLink RX7 9 (TX7 1).1 (TX7 1).2.1 (TX7 1).2.2.1 ∈ wsX7_clear := List.mem_of_getElem? (i := 2) rfl
theorem lX7_clear_15 : Cond.fieldLink RX7 15 (TX7 2).1 (TX7 2).2.1 (TX7 2).2.2.1 ∈ wsX7_clear := List.mem_of_getElem? (i := 3) rfl
theorem lX7_clear_18 : Cond.fieldLink RX7 18 (TX7 3).1 (TX7 3).2.1 (TX7 3).2.2.1 ∈ wsX7_clear := List.mem_of_getElem? (i := 4) rfl
theorem lX7_clear_21 : Cond.fieldLink RX7 21 (TX7 4).1 (TX7 4).2.1 (TX7 4).2.2.1 ∈ wsX7_clear := List.mem_of_getElem? (i := 5) rfl
theorem lX7_clear_30 : Cond.fieldLink RX7 30 (TX7 0).1 (TX7 0).2.1 (TX7 0).2.2.1 ∈ wsX7_clear := List.mem_of_getElem? (i := 1) rfl
theorem inX7_clear_7 : ∀ w ∈ u_ws RX7 TX7 5, w ∈ wsX7_clear := fun _ h => List.mem_cons_of_mem _ (List.mem_append_right _ h)
theorem hdX7_clear : yX7_clear.cls = RX7 ∧ yX7_clear.cls ≠ "java/lang/invoke/MethodHandle" ∧ yX7_clear.cls ≠ "java/lang/invoke/VarHandle" ∧ (parseMethodDescriptor yX7_clear.desc).map (fun d => d.parameters.length) = some 0 := by decide +kernel
abbrev wrX7_clear_16 : List (Nat × Nat) := [(0, 1024), (1, 17), (1, 18), (1, 19), (1, 20)]
abbrev rmX7_clear_16 : Room := { frames := 1, cells := 0, slots := 0, locals := 23 }
set_option maxHeartbeats 4000000 in
set_option maxRecDepth 100000 in
theorem mX7_clear_16 (l : Launch) (D : va_G) (b : Nat → Nat) (ids : List Nat) (hI : ∀ i, i < 107 → i ∈ ids) (N : Nat) (S : ns_S) {o : Int32 × (Nat → Int32) × (Nat → Int32) × (Nat → Int32) × (Nat → Int32)} (hf : fX7_clear N (S.1 1024) (S.2.1 17) (S.2.1 18) (S.2.1 19) (S.2.1 20) = some o) : ns_M l yX7_clear wsX7_clear rmX7_clear_16 D b ids S [.ref (b 16)] none (ns_I (ns_A (ns_A (ns_A (ns_A S 20 o.2.2.2.2) 19 o.2.2.2.1) 18 o.2.2.1) 17 o.2.1) 1024 o.1) := by
  refine ns_start (Wr := wrX7_clear_16) (by decide) rfl (Nat.le_of_ble_eq_true rfl) ?_
  intro p e s m below meth c A ls C hr hlk w hl
  have hl : lv_has ls 1 [(0, .ref (b 16))] := hl
  unfold fX7_clear at hf
  refine lv_aload_n C.1.1 C.1.2.1 dX7_clear_0 rfl (lv_at hl 0 rfl) ?_
  refine lv_iconst (v := 0) C.1.1 C.1.2.1 dX7_clear_1 (by decide) ?_
  refine ns_puti C w 16 (hI 16 (by decide)) sh_16 (rfl : vwCl[7]? = some (RX7, TX7, 5)) inX7_clear_7 tyX7_ok nmX7 0 (by decide) rfl lX7_clear_30 rfl rfl rfl (List.mem_of_getElem? (i := 0) rfl) dX7_clear_2 (fun H locs w => ?_)
  refine lv_aload_n C.1.1 C.1.2.1 dX7_clear_5 rfl (lv_at hl 0 rfl) ?_
  refine ns_getr C w 16 (hI 16 (by decide)) sh_16 (rfl : vwCl[7]? = some (RX7, TX7, 5)) inX7_clear_7 1 (by decide) rfl lX7_clear_9 dX7_clear_6 ?_
  refine lv_iconst (v := (-1)) C.1.1 C.1.2.1 dX7_clear_9 (by decide) ?_
  refine ns_callS C w [.ref (b 17), .int (-1)] hf (fun u hu => mJ7_fill_53178_17 l D b ids hI N _ (-1) hu) gX7_clear_J7_fill_53178 rfl rfl rfl hdJ7_fill_53178 ⟨Nat.le_of_ble_eq_true rfl, Nat.le_of_ble_eq_true rfl⟩ (fun u h => (h.A (List.mem_of_getElem? (i := 1) rfl) _)) rfl hl.1 rfl (Nat.le_of_ble_eq_true rfl) ⟨Nat.le_refl _, Nat.le_refl _⟩ dX7_clear_10 (fun o1 H locs hf w => ?_)
  refine lv_aload_n C.1.1 C.1.2.1 dX7_clear_13 rfl (lv_at hl 0 rfl) ?_
  refine ns_getr C w 16 (hI 16 (by decide)) sh_16 (rfl : vwCl[7]? = some (RX7, TX7, 5)) inX7_clear_7 2 (by decide) rfl lX7_clear_15 dX7_clear_14 ?_
  refine lv_iconst (v := 0) C.1.1 C.1.2.1 dX7_clear_17 (by decide) ?_
  refine ns_callS C w [.ref (b 18), .int 0] hf (fun u hu => mJ7_fill_53178_18 l D b ids hI N _ 0 hu) gX7_clear_J7_fill_53178 rfl rfl rfl hdJ7_fill_53178 ⟨Nat.le_of_ble_eq_true rfl, Nat.le_of_ble_eq_true rfl⟩ (fun u h => (h.A (List.mem_of_getElem? (i := 2) rfl) _)) rfl hl.1 rfl (Nat.le_of_ble_eq_true rfl) ⟨Nat.le_refl _, Nat.le_refl _⟩ dX7_clear_18 (fun o2 H locs hf w => ?_)
  refine lv_aload_n C.1.1 C.1.2.1 dX7_clear_21 rfl (lv_at hl 0 rfl) ?_
  refine ns_getr C w 16 (hI 16 (by decide)) sh_16 (rfl : vwCl[7]? = some (RX7, TX7, 5)) inX7_clear_7 3 (by decide) rfl lX7_clear_18 dX7_clear_22 ?_
  refine lv_iconst (v := 0) C.1.1 C.1.2.1 dX7_clear_25 (by decide) ?_
  refine ns_callS C w [.ref (b 19), .int 0] hf (fun u hu => mJ7_fill_53178_19 l D b ids hI N _ 0 hu) gX7_clear_J7_fill_53178 rfl rfl rfl hdJ7_fill_53178 ⟨Nat.le_of_ble_eq_true rfl, Nat.le_of_ble_eq_true rfl⟩ (fun u h => (h.A (List.mem_of_getElem? (i := 3) rfl) _)) rfl hl.1 rfl (Nat.le_of_ble_eq_true rfl) ⟨Nat.le_refl _, Nat.le_refl _⟩ dX7_clear_26 (fun o3 H locs hf w => ?_)
  refine lv_aload_n C.1.1 C.1.2.1 dX7_clear_29 rfl (lv_at hl 0 rfl) ?_
  refine ns_getr C w 16 (hI 16 (by decide)) sh_16 (rfl : vwCl[7]? = some (RX7, TX7, 5)) inX7_clear_7 4 (by decide) rfl lX7_clear_21 dX7_clear_30 ?_
  refine lv_iconst (v := 0) C.1.1 C.1.2.1 dX7_clear_33 (by decide) ?_
  refine ns_callS C w [.ref (b 20), .int 0] hf (fun u hu => mJ7_fill_53178_20 l D b ids hI N _ 0 hu) gX7_clear_J7_fill_53178 rfl rfl rfl hdJ7_fill_53178 ⟨Nat.le_of_ble_eq_true rfl, Nat.le_of_ble_eq_true rfl⟩ (fun u h => (h.A (List.mem_of_getElem? (i := 4) rfl) _)) rfl hl.1 rfl (Nat.le_of_ble_eq_true rfl) ⟨Nat.le_refl _, Nat.le_refl _⟩ dX7_clear_34 (fun o4 H locs hf w => ?_)
  have he := Option.some.inj hf
  subst he
  exact ns_vret C w hr hlk rfl rfl dX7_clear_37
abbrev wrJ7_fill_53178_23 : List (Nat × Nat) := [(1, 23)]
abbrev rmJ7_fill_53178_23 : Room := { frames := 0, cells := 0, slots := 0, locals := 0 }
set_option maxHeartbeats 4000000 in
set_option maxRecDepth 100000 in
theorem wJ7_fill_53178_23_5 {p : Program} {l : Launch} {e : Env} {s : State} {m : MethodId} {args : Array Value} {below : List Frame} {meth : Method} {c : Code} {D : va_G} {b : Nat → Nat} {ids : List Nat} {A : Nat → Prop} {S0 : ns_S} {o : (Nat → Int32)} (N : Nat) (hI : ∀ i, i < 107 → i ∈ ids) (C : ns_C p m c cJ7_fill_53178 4 s args wsJ7_fill_53178 RJ7 D A) (hr : meth.sig.returnType = none) (hlk : meth.locks = false) : ∀ n : Nat, ∀ {S : ns_S} {H : Heap} {locs : List Loc} {ls : Array Slot} {l1 : Int32} {l2 : Int32} {l3 : Int32}, ns_W D b ids A s.heap wrJ7_fill_53178_23 S0 S H locs → lv_has ls 4 [(0, .ref (b 23)), (1, .int l1), (2, .int l2), (3, .int l3)] → fJ7_fill_53178_5 N 5 n (S.2.1 23) l1 l2 l3 = some o → W p l e rmJ7_fill_53178_23 s m args below meth c H locs 0 0 (MQ below (ns_Q D b ids (ns_A S0 23 o) none A) args s 0 0 A) (F0 m 5 ls []) := by
  intro n
  induction n with
  | zero =>
    intro S H locs ls l1 l2 l3 w hl hf
    cases hf
  | succ n K5 =>
    intro S H locs ls l1 l2 l3 w hl hf
    change gJ7_fill_53178_5 N 5 (fJ7_fill_53178_5 N 5 n) (S.2.1 23) l1 l2 l3 = some o at hf
    generalize fJ7_fill_53178_5 N 5 n = r5 at hf K5
    unfold gJ7_fill_53178_5 at hf
    refine lv_iload_n C.1.1 C.1.2.1 dJ7_fill_53178_5 rfl (lv_at hl 2 rfl) ?_
    refine lv_iload_n C.1.1 C.1.2.1 dJ7_fill_53178_6 rfl (lv_at hl 3 rfl) ?_
    refine ns_icmp_ge C hf (tgt := 20) dJ7_fill_53178_7 (by decide) (fun hf => ?_) (fun hf => ?_)
    · have he := Option.some.inj hf
      subst he
      exact ns_vret C w hr hlk rfl rfl dJ7_fill_53178_20
    · refine lv_aload_n C.1.1 C.1.2.1 dJ7_fill_53178_10 rfl (lv_at hl 0 rfl) ?_
      refine lv_iload_n C.1.1 C.1.2.1 dJ7_fill_53178_11 rfl (lv_at hl 2 rfl) ?_
      refine lv_iload_n C.1.1 C.1.2.1 dJ7_fill_53178_12 rfl (lv_at hl 1 rfl) ?_
      refine ns_iast C w 23 (hI 23 (by decide)) sh_23 hf rfl (List.mem_of_getElem? (i := 0) rfl) dJ7_fill_53178_13 (fun y1 H locs hf w => ?_)
      refine ns_iinc (lv' := fun x2 => [(2, .int x2), (0, .ref (b 23)), (1, .int l1), (3, .int l3)]) C hf dJ7_fill_53178_14 hl (k := 2) rfl rfl (by decide) (fun _ => rfl) (fun x2 ls hl hf => ?_)
      refine lv_goto (tgt := 5) C.1.1 C.1.2.1 dJ7_fill_53178_17 (by decide) ?_
      exact K5 w (lv_sub hl [1, 2, 0, 3] rfl) hf
set_option maxHeartbeats 4000000 in
set_option maxRecDepth 100000 in
theorem mJ7_fill_53178_23 (l : Launch) (D : va_G) (b : Nat → Nat) (ids : List Nat) (hI : ∀ i, i < 107 → i ∈ ids) (N : Nat) (S : ns_S) (p1 : Int32) {o : (Nat → Int32)} (hf : fJ7_fill_53178 N 5 (S.2.1 23) p1 = some o) : ns_M l yJ7_fill_53178 wsJ7_fill_53178 rmJ7_fill_53178_23 D b ids S [.ref (b 23), .int p1] none (ns_A S 23 o) := by
  refine ns_start (Wr := wrJ7_fill_53178_23) (by decide) rfl (Nat.le_of_ble_eq_true rfl) ?_
  intro p e s m below meth c A ls C hr hlk w hl
  have hl : lv_has ls 4 [(0, .ref (b 23)), (1, .int p1)] := hl
  unfold fJ7_fill_53178 at hf
  refine lv_iconst (v := 0) C.1.1 C.1.2.1 dJ7_fill_53178_0 (by decide) ?_
  refine lv_istore_n (lv' := [(2, .int 0), (0, .ref (b 23)), (1, .int p1)]) C.1.1 C.1.2.1 dJ7_fill_53178_1 rfl hl (by decide) rfl (fun ls hl => ?_)
  refine lv_aload_n C.1.1 C.1.2.1 dJ7_fill_53178_2 rfl (lv_at hl 1 rfl) ?_
  refine ns_alen (v := Int32.ofNat 5) C w 23 (hI 23 (by decide)) sh_23 rfl dJ7_fill_53178_3 ?_
  refine ns_namei hf (fun x1 hf => ?_)
  refine lv_istore_n (lv' := [(3, .int x1), (2, .int 0), (0, .ref (b 23)), (1, .int p1)]) C.1.1 C.1.2.1 dJ7_fill_53178_4 rfl hl (by decide) rfl (fun ls hl => ?_)
  exact wJ7_fill_53178_23_5 N hI C hr hlk N w (lv_sub hl [2, 3, 1, 0] rfl) hf
abbrev wrJ7_fill_53178_24 : List (Nat × Nat) := [(1, 24)]
abbrev rmJ7_fill_53178_24 : Room := { frames := 0, cells := 0, slots := 0, locals := 0 }
set_option maxHeartbeats 4000000 in
set_option maxRecDepth 100000 in
theorem wJ7_fill_53178_24_5 {p : Program} {l : Launch} {e : Env} {s : State} {m : MethodId} {args : Array Value} {below : List Frame} {meth : Method} {c : Code} {D : va_G} {b : Nat → Nat} {ids : List Nat} {A : Nat → Prop} {S0 : ns_S} {o : (Nat → Int32)} (N : Nat) (hI : ∀ i, i < 107 → i ∈ ids) (C : ns_C p m c cJ7_fill_53178 4 s args wsJ7_fill_53178 RJ7 D A) (hr : meth.sig.returnType = none) (hlk : meth.locks = false) : ∀ n : Nat, ∀ {S : ns_S} {H : Heap} {locs : List Loc} {ls : Array Slot} {l1 : Int32} {l2 : Int32} {l3 : Int32}, ns_W D b ids A s.heap wrJ7_fill_53178_24 S0 S H locs → lv_has ls 4 [(0, .ref (b 24)), (1, .int l1), (2, .int l2), (3, .int l3)] → fJ7_fill_53178_5 N 5 n (S.2.1 24) l1 l2 l3 = some o → W p l e rmJ7_fill_53178_24 s m args below meth c H locs 0 0 (MQ below (ns_Q D b ids (ns_A S0 24 o) none A) args s 0 0 A) (F0 m 5 ls []) := by
  intro n
  induction n with
  | zero =>
    intro S H locs ls l1 l2 l3 w hl hf
    cases hf
  | succ n K5 =>
    intro S H locs ls l1 l2 l3 w hl hf
    change gJ7_fill_53178_5 N 5 (fJ7_fill_53178_5 N 5 n) (S.2.1 24) l1 l2 l3 = some o at hf
    generalize fJ7_fill_53178_5 N 5 n = r5 at hf K5
    unfold gJ7_fill_53178_5 at hf
    refine lv_iload_n C.1.1 C.1.2.1 dJ7_fill_53178_5 rfl (lv_at hl 2 rfl) ?_
    refine lv_iload_n C.1.1 C.1.2.1 dJ7_fill_53178_6 rfl (lv_at hl 3 rfl) ?_
    refine ns_icmp_ge C hf (tgt := 20) dJ7_fill_53178_7 (by decide) (fun hf => ?_) (fun hf => ?_)
    · have he := Option.some.inj hf
      subst he
      exact ns_vret C w hr hlk rfl rfl dJ7_fill_53178_20
    · refine lv_aload_n C.1.1 C.1.2.1 dJ7_fill_53178_10 rfl (lv_at hl 0 rfl) ?_
      refine lv_iload_n C.1.1 C.1.2.1 dJ7_fill_53178_11 rfl (lv_at hl 2 rfl) ?_
      refine lv_iload_n C.1.1 C.1.2.1 dJ7_fill_53178_12 rfl (lv_at hl 1 rfl) ?_
      refine ns_iast C w 24 (hI 24 (by decide)) sh_24 hf rfl (List.mem_of_getElem? (i := 0) rfl) dJ7_fill_53178_13 (fun y1 H locs hf w => ?_)
      refine ns_iinc (lv' := fun x2 => [(2, .int x2), (0, .ref (b 24)), (1, .int l1), (3, .int l3)]) C hf dJ7_fill_53178_14 hl (k := 2) rfl rfl (by decide) (fun _ => rfl) (fun x2 ls hl hf => ?_)
      refine lv_goto (tgt := 5) C.1.1 C.1.2.1 dJ7_fill_53178_17 (by decide) ?_
      exact K5 w (lv_sub hl [1, 2, 0, 3] rfl) hf
set_option maxHeartbeats 4000000 in
set_option maxRecDepth 100000 in
theorem mJ7_fill_53178_24 (l : Launch) (D : va_G) (b : Nat → Nat) (ids : List Nat) (hI : ∀ i, i < 107 → i ∈ ids) (N : Nat) (S : ns_S) (p1 : Int32) {o : (Nat → Int32)} (hf : fJ7_fill_53178 N 5 (S.2.1 24) p1 = some o) : ns_M l yJ7_fill_53178 wsJ7_fill_53178 rmJ7_fill_53178_24 D b ids S [.ref (b 24), .int p1] none (ns_A S 24 o) := by
  refine ns_start (Wr := wrJ7_fill_53178_24) (by decide) rfl (Nat.le_of_ble_eq_true rfl) ?_
  intro p e s m below meth c A ls C hr hlk w hl
  have hl : lv_has ls 4 [(0, .ref (b 24)), (1, .int p1)] := hl
  unfold fJ7_fill_53178 at hf
  refine lv_iconst (v := 0) C.1.1 C.1.2.1 dJ7_fill_53178_0 (by decide) ?_
  refine lv_istore_n (lv' := [(2, .int 0), (0, .ref (b 24)), (1, .int p1)]) C.1.1 C.1.2.1 dJ7_fill_53178_1 rfl hl (by decide) rfl (fun ls hl => ?_)
  refine lv_aload_n C.1.1 C.1.2.1 dJ7_fill_53178_2 rfl (lv_at hl 1 rfl) ?_
  refine ns_alen (v := Int32.ofNat 5) C w 24 (hI 24 (by decide)) sh_24 rfl dJ7_fill_53178_3 ?_
  refine ns_namei hf (fun x1 hf => ?_)
  refine lv_istore_n (lv' := [(3, .int x1), (2, .int 0), (0, .ref (b 24)), (1, .int p1)]) C.1.1 C.1.2.1 dJ7_fill_53178_4 rfl hl (by decide) rfl (fun ls hl => ?_)
  exact wJ7_fill_53178_24_5 N hI C hr hlk N w (lv_sub hl [2, 3, 1, 0] rfl) hf
abbrev wrX7_isHeld_16 : List (Nat × Nat) := []
abbrev rmX7_isHeld_16 : Room := { frames := 0, cells := 0, slots := 0, locals := 0 }
set_option maxHeartbeats 4000000 in
set_option maxRecDepth 100000 in
theorem mX7_isHeld_16 (l : Launch) (D : va_G) (b : Nat → Nat) (ids : List Nat) (hI : ∀ i, i < 107 → i ∈ ids) (N : Nat) (S : ns_S) (p1 : Int32) {o : Int32} (hf : fX7_isHeld N (S.1 1024) p1 = some o) : ns_M l yX7_isHeld wsX7_isHeld rmX7_isHeld_16 D b ids S [.ref (b 16), .int p1] (some (.int o)) S := by
  refine ns_start (Wr := wrX7_isHeld_16) (by decide) rfl (Nat.le_of_ble_eq_true rfl) ?_
  intro p e s m below meth c A ls C hr hlk w hl
  have hl : lv_has ls 2 [(0, .ref (b 16)), (1, .int p1)] := hl
  unfold fX7_isHeld at hf
  refine lv_aload_n C.1.1 C.1.2.1 dX7_isHeld_0 rfl (lv_at hl 0 rfl) ?_
  refine ns_geti C w 16 (hI 16 (by decide)) sh_16 (rfl : vwCl[7]? = some (RX7, TX7, 5)) inX7_isHeld_7 0 (by decide) rfl lX7_isHeld_30 (S.1 1024) rfl dX7_isHeld_1 ?_
  refine lv_iload_n C.1.1 C.1.2.1 dX7_isHeld_4 rfl (lv_at hl 1 rfl) ?_
  refine lv_ishr C.1.1 C.1.2.1 dX7_isHeld_5 ?_
  refine lv_iconst (v := 1) C.1.1 C.1.2.1 dX7_isHeld_6 (by decide) ?_
  refine lv_iand C.1.1 C.1.2.1 dX7_isHeld_7 ?_
  refine ns_if_eq C hf (tgt := 15) dX7_isHeld_8 (by decide) (fun hf => ?_) (fun hf => ?_)
  · refine lv_iconst (v := 0) C.1.1 C.1.2.1 dX7_isHeld_15 (by decide) ?_
    have he := Option.some.inj hf
    subst he
    exact ns_zret C w hr hlk rfl (Or.inl rfl) rfl dX7_isHeld_16
  · refine lv_iconst (v := 1) C.1.1 C.1.2.1 dX7_isHeld_11 (by decide) ?_
    refine lv_goto (tgt := 16) C.1.1 C.1.2.1 dX7_isHeld_12 (by decide) ?_
    have he := Option.some.inj hf
    subst he
    exact ns_zret C w hr hlk rfl (Or.inr rfl) rfl dX7_isHeld_16
theorem lX3_furnishCourse_12 : Cond.fieldLink RX3 12 (TX3 0).1 (TX3 0).2.1 (TX3 0).2.2.1 ∈ wsX3_furnishCourse := List.mem_of_getElem? (i := 9) rfl
theorem lX3_furnishCourse_18 : Cond.fieldLink RX3 18 (TX3 1).1 (TX3 1).2.1 (TX3 1).2.2.1 ∈ wsX3_furnishCourse := List.mem_of_getElem? (i := 8) rfl
theorem lX3_furnishCourse_25 : Cond.fieldLink RX3 25 (TX3 3).1 (TX3 3).2.1 (TX3 3).2.2.1 ∈ wsX3_furnishCourse := List.mem_of_getElem? (i := 4) rfl
theorem lX3_furnishCourse_28 : Cond.fieldLink RX3 28 (TX3 4).1 (TX3 4).2.1 (TX3 4).2.2.1 ∈ wsX3_furnishCourse := List.mem_of_getElem? (i := 5) rfl
theorem lX3_furnishCourse_40 : Cond.fieldLink RX3 40 (TX6 0).1 (TX6 0).2.1 (TX6 0).2.2.1 ∈ wsX3_furnishCourse := List.mem_of_getElem? (i := 6) rfl
theorem lX3_furnishCourse_46 : Cond.fieldLink RX3 46 (TX5 1).1 (TX5 1).2.1 (TX5 1).2.2.1 ∈ wsX3_furnishCourse := List.mem_of_getElem? (i := 13) rfl
theorem lX3_furnishCourse_51 : Cond.fieldLink RX3 51 (TX5 0).1 (TX5 0).2.1 (TX5 0).2.2.1 ∈ wsX3_furnishCourse := List.mem_of_getElem? (i := 7) rfl
theorem lX3_furnishCourse_59 : Cond.fieldLink RX3 59 (TX6 1).1 (TX6 1).2.1 (TX6 1).2.2.1 ∈ wsX3_furnishCourse := List.mem_of_getElem? (i := 1) rfl
theorem lX3_furnishCourse_63 : Cond.fieldLink RX3 63 (TX0 4).1 (TX0 4).2.1 (TX0 4).2.2.1 ∈ wsX3_furnishCourse := List.mem_of_getElem? (i := 12) rfl
theorem lX3_furnishCourse_75 : Cond.fieldLink RX3 75 (TX0 1).1 (TX0 1).2.1 (TX0 1).2.2.1 ∈ wsX3_furnishCourse := List.mem_of_getElem? (i := 2) rfl
theorem lX3_furnishCourse_106 : Cond.fieldLink RX3 106 (TX0 2).1 (TX0 2).2.1 (TX0 2).2.2.1 ∈ wsX3_furnishCourse := List.mem_of_getElem? (i := 3) rfl
theorem lX3_furnishCourse_109 : Cond.fieldLink RX3 109 (TX7 1).1 (TX7 1).2.1 (TX7 1).2.2.1 ∈ wsX3_furnishCourse := List.mem_of_getElem? (i := 10) rfl
theorem lX3_furnishCourse_112 : Cond.fieldLink RX3 112 (TX7 2).1 (TX7 2).2.1 (TX7 2).2.2.1 ∈ wsX3_furnishCourse := List.mem_of_getElem? (i := 11) rfl
theorem lX3_furnishCourse_120 : Cond.fieldLink RX3 120 (TX0 3).1 (TX0 3).2.1 (TX0 3).2.2.1 ∈ wsX3_furnishCourse := List.mem_of_getElem? (i := 18) rfl
theorem inX3_furnishCourse_0 : ∀ w ∈ u_ws RX0 TX0 6, w ∈ wsX3_furnishCourse := fun _ h => List.mem_cons_of_mem _ (List.mem_append_left _ (List.mem_append_left _ (List.mem_append_left _ (List.mem_append_right _ h))))
theorem inX3_furnishCourse_3 : ∀ w ∈ u_ws RX3 TX3 10, w ∈ wsX3_furnishCourse := fun _ h => List.mem_cons_of_mem _ (List.mem_append_left _ (List.mem_append_left _ (List.mem_append_right _ h)))
theorem inX3_furnishCourse_5 : ∀ w ∈ u_ws RX5 TX5 2, w ∈ wsX3_furnishCourse := fun _ h => List.mem_cons_of_mem _ (List.mem_append_left _ (List.mem_append_right _ h))
theorem inX3_furnishCourse_6 : ∀ w ∈ u_ws RX6 TX6 6, w ∈ wsX3_furnishCourse := fun _ h => List.mem_cons_of_mem _ (List.mem_append_left _ (List.mem_append_left _ (List.mem_append_left _ (List.mem_append_left _ (List.mem_append_right _ h)))))
theorem inX3_furnishCourse_7 : ∀ w ∈ u_ws RX7 TX7 5, w ∈ wsX3_furnishCourse := fun _ h => List.mem_cons_of_mem _ (List.mem_append_right _ h)
theorem hdX3_furnishCourse : yX3_furnishCourse.cls = RX3 ∧ yX3_furnishCourse.cls ≠ "java/lang/invoke/MethodHandle" ∧ yX3_furnishCourse.cls ≠ "java/lang/invoke/VarHandle" ∧ (parseMethodDescriptor yX3_furnishCourse.desc).map (fun d => d.parameters.length) = some 2 := by decide +kernel
abbrev wrX3_furnishCourse_15_28 : List (Nat × Nat) := [(1, 24), (1, 23), (1, 17), (1, 18)]
abbrev rmX3_furnishCourse_15_28 : Room := { frames := 1, cells := 0, slots := 0, locals := 23 }
set_option maxHeartbeats 4000000 in
set_option maxRecDepth 100000 in
theorem mX3_furnishCourse_15_28 (l : Launch) (D : va_G) (b : Nat → Nat) (ids : List Nat) (hI : ∀ i, i < 107 → i ∈ ids) (N : Nat) (S : ns_S) (p2 : Int32) {o : Int32 × (Nat → Int32) × (Nat → Int32) × (Nat → Int32) × (Nat → Int32)} (hf : fX3_furnishCourse N (S.2.1 32) (S.2.1 33) (S.2.1 23) (S.2.1 24) (S.1 1856) (S.2.1 21) (S.2.1 17) (S.2.1 35) (S.2.1 30) (S.2.1 18) (S.2.1 34) p2 = some o) : ns_M l yX3_furnishCourse wsX3_furnishCourse rmX3_furnishCourse_15_28 D b ids S [.ref (b 15), .ref (b 28), .int p2] (some (.int o.1)) (ns_A (ns_A (ns_A (ns_A S 18 o.2.2.2.2) 17 o.2.2.2.1) 23 o.2.2.1) 24 o.2.1) := by
  refine ns_start (Wr := wrX3_furnishCourse_15_28) (by decide) rfl (Nat.le_of_ble_eq_true rfl) ?_
  intro p e s m below meth c A ls C hr hlk w hl
  have hl : lv_has ls 7 [(0, .ref (b 15)), (1, .ref (b 28)), (2, .int p2)] := hl
  unfold fX3_furnishCourse at hf
  refine lv_aload_n C.1.1 C.1.2.1 dX3_furnishCourse_0 rfl (lv_at hl 1 rfl) ?_
  refine ns_getr C w 28 (hI 28 (by decide)) sh_28 (rfl : vwCl[6]? = some (RX6, TX6, 6)) inX3_furnishCourse_6 1 (by decide) rfl lX3_furnishCourse_59 dX3_furnishCourse_1 ?_
  refine ns_getr C w 31 (hI 31 (by decide)) sh_31 (rfl : vwCl[0]? = some (RX0, TX0, 6)) inX3_furnishCourse_0 1 (by decide) rfl lX3_furnishCourse_75 dX3_furnishCourse_4 ?_
  refine lv_iload_n C.1.1 C.1.2.1 dX3_furnishCourse_7 rfl (lv_at hl 2 rfl) ?_
  refine ns_iald C w 32 (hI 32 (by decide)) sh_32 hf rfl dX3_furnishCourse_8 (fun x1 hf => ?_)
  refine lv_istore_n (lv' := [(3, .int x1), (0, .ref (b 15)), (1, .ref (b 28)), (2, .int p2)]) C.1.1 C.1.2.1 dX3_furnishCourse_9 rfl hl (by decide) rfl (fun ls hl => ?_)
  refine lv_iconst (v := 1) C.1.1 C.1.2.1 dX3_furnishCourse_10 (by decide) ?_
  refine lv_aload_n C.1.1 C.1.2.1 dX3_furnishCourse_11 rfl (lv_at hl 2 rfl) ?_
  refine ns_getr C w 28 (hI 28 (by decide)) sh_28 (rfl : vwCl[6]? = some (RX6, TX6, 6)) inX3_furnishCourse_6 1 (by decide) rfl lX3_furnishCourse_59 dX3_furnishCourse_12 ?_
  refine ns_getr C w 31 (hI 31 (by decide)) sh_31 (rfl : vwCl[0]? = some (RX0, TX0, 6)) inX3_furnishCourse_0 2 (by decide) rfl lX3_furnishCourse_106 dX3_furnishCourse_15 ?_
  refine lv_iload_n C.1.1 C.1.2.1 dX3_furnishCourse_18 rfl (lv_at hl 3 rfl) ?_
  refine ns_iald C w 33 (hI 33 (by decide)) sh_33 hf rfl dX3_furnishCourse_19 (fun x2 hf => ?_)
  refine lv_ishl C.1.1 C.1.2.1 dX3_furnishCourse_20 ?_
  refine ns_namei hf (fun x3 hf => ?_)
  refine lv_istore (lv' := [(4, .int x3), (3, .int x1), (0, .ref (b 15)), (1, .ref (b 28)), (2, .int p2)]) C.1.1 C.1.2.1 dX3_furnishCourse_21 hl (by decide) rfl (fun ls hl => ?_)
  refine lv_aload_n C.1.1 C.1.2.1 dX3_furnishCourse_23 rfl (lv_at hl 2 rfl) ?_
  refine ns_getr C w 15 (hI 15 (by decide)) sh_15 (rfl : vwCl[3]? = some (RX3, TX3, 10)) inX3_furnishCourse_3 3 (by decide) rfl lX3_furnishCourse_25 dX3_furnishCourse_24 ?_
  refine lv_iload_n C.1.1 C.1.2.1 dX3_furnishCourse_27 rfl (lv_at hl 1 rfl) ?_
  refine ns_iald C w 23 (hI 23 (by decide)) sh_23 hf rfl dX3_furnishCourse_28 (fun x4 hf => ?_)
  refine lv_istore (lv' := [(5, .int x4), (4, .int x3), (3, .int x1), (0, .ref (b 15)), (1, .ref (b 28)), (2, .int p2)]) C.1.1 C.1.2.1 dX3_furnishCourse_29 hl (by decide) rfl (fun ls hl => ?_)
  refine lv_aload_n C.1.1 C.1.2.1 dX3_furnishCourse_31 rfl (lv_at hl 3 rfl) ?_
  refine ns_getr C w 15 (hI 15 (by decide)) sh_15 (rfl : vwCl[3]? = some (RX3, TX3, 10)) inX3_furnishCourse_3 4 (by decide) rfl lX3_furnishCourse_28 dX3_furnishCourse_32 ?_
  refine lv_iload_n C.1.1 C.1.2.1 dX3_furnishCourse_35 rfl (lv_at hl 2 rfl) ?_
  refine ns_iald C w 24 (hI 24 (by decide)) sh_24 hf rfl dX3_furnishCourse_36 (fun x5 hf => ?_)
  refine lv_iload C.1.1 C.1.2.1 dX3_furnishCourse_37 (lv_at hl 1 rfl) ?_
  refine lv_iand C.1.1 C.1.2.1 dX3_furnishCourse_39 ?_
  refine ns_if_ne C hf (tgt := 55) dX3_furnishCourse_40 (by decide) (fun hf => ?_) (fun hf => ?_)
  · refine lv_iconst (v := 0) C.1.1 C.1.2.1 dX3_furnishCourse_55 (by decide) ?_
    have he := Option.some.inj hf
    subst he
    exact ns_zret C w hr hlk rfl (Or.inl rfl) rfl dX3_furnishCourse_56
  · refine lv_iload C.1.1 C.1.2.1 dX3_furnishCourse_43 (lv_at hl 0 rfl) ?_
    refine lv_aload_n C.1.1 C.1.2.1 dX3_furnishCourse_45 rfl (lv_at hl 4 rfl) ?_
    refine ns_getr C w 28 (hI 28 (by decide)) sh_28 (rfl : vwCl[6]? = some (RX6, TX6, 6)) inX3_furnishCourse_6 0 (by decide) rfl lX3_furnishCourse_40 dX3_furnishCourse_46 ?_
    refine ns_geti C w 29 (hI 29 (by decide)) sh_29 (rfl : vwCl[5]? = some (RX5, TX5, 2)) inX3_furnishCourse_5 0 (by decide) rfl lX3_furnishCourse_51 (S.1 1856) rfl dX3_furnishCourse_49 ?_
    refine ns_icmp_lt C hf (tgt := 57) dX3_furnishCourse_52 (by decide) (fun hf => ?_) (fun hf => ?_)
    · refine lv_aload_n C.1.1 C.1.2.1 dX3_furnishCourse_57 rfl (lv_at hl 3 rfl) ?_
      refine ns_getr C w 15 (hI 15 (by decide)) sh_15 (rfl : vwCl[3]? = some (RX3, TX3, 10)) inX3_furnishCourse_3 4 (by decide) rfl lX3_furnishCourse_28 dX3_furnishCourse_58 ?_
      refine lv_iload_n C.1.1 C.1.2.1 dX3_furnishCourse_61 rfl (lv_at hl 2 rfl) ?_
      refine lv_dup2_11 C.1.1 C.1.2.1 dX3_furnishCourse_62 rfl rfl ?_
      refine ns_iald C w 24 (hI 24 (by decide)) sh_24 hf rfl dX3_furnishCourse_63 (fun x6 hf => ?_)
      refine lv_iload C.1.1 C.1.2.1 dX3_furnishCourse_64 (lv_at hl 1 rfl) ?_
      refine lv_ior C.1.1 C.1.2.1 dX3_furnishCourse_66 ?_
      refine ns_iast C w 24 (hI 24 (by decide)) sh_24 hf rfl (List.mem_of_getElem? (i := 0) rfl) dX3_furnishCourse_67 (fun y7 H locs hf w => ?_)
      refine lv_aload_n C.1.1 C.1.2.1 dX3_furnishCourse_68 rfl (lv_at hl 3 rfl) ?_
      refine ns_getr C w 15 (hI 15 (by decide)) sh_15 (rfl : vwCl[3]? = some (RX3, TX3, 10)) inX3_furnishCourse_3 3 (by decide) rfl lX3_furnishCourse_25 dX3_furnishCourse_69 ?_
      refine lv_iload_n C.1.1 C.1.2.1 dX3_furnishCourse_72 rfl (lv_at hl 2 rfl) ?_
      refine lv_iload C.1.1 C.1.2.1 dX3_furnishCourse_73 (lv_at hl 0 rfl) ?_
      refine lv_iconst (v := 1) C.1.1 C.1.2.1 dX3_furnishCourse_75 (by decide) ?_
      refine lv_iadd C.1.1 C.1.2.1 dX3_furnishCourse_76 ?_
      refine ns_iast C w 23 (hI 23 (by decide)) sh_23 hf rfl (List.mem_of_getElem? (i := 1) rfl) dX3_furnishCourse_77 (fun y8 H locs hf w => ?_)
      refine lv_aload_n C.1.1 C.1.2.1 dX3_furnishCourse_78 rfl (lv_at hl 3 rfl) ?_
      refine ns_getr C w 15 (hI 15 (by decide)) sh_15 (rfl : vwCl[3]? = some (RX3, TX3, 10)) inX3_furnishCourse_3 1 (by decide) rfl lX3_furnishCourse_18 dX3_furnishCourse_79 ?_
      refine lv_iload C.1.1 C.1.2.1 dX3_furnishCourse_82 (lv_at hl 0 rfl) ?_
      refine ns_iald C w 21 (hI 21 (by decide)) sh_21 hf rfl dX3_furnishCourse_84 (fun x9 hf => ?_)
      refine lv_istore (lv' := [(6, .int x9), (5, .int x4), (4, .int x3), (3, .int x1), (0, .ref (b 15)), (1, .ref (b 28)), (2, .int p2)]) C.1.1 C.1.2.1 dX3_furnishCourse_85 hl (by decide) rfl (fun ls hl => ?_)
      refine lv_aload_n C.1.1 C.1.2.1 dX3_furnishCourse_87 rfl (lv_at hl 4 rfl) ?_
      refine ns_getr C w 15 (hI 15 (by decide)) sh_15 (rfl : vwCl[3]? = some (RX3, TX3, 10)) inX3_furnishCourse_3 0 (by decide) rfl lX3_furnishCourse_12 dX3_furnishCourse_88 ?_
      refine ns_getr C w 16 (hI 16 (by decide)) sh_16 (rfl : vwCl[7]? = some (RX7, TX7, 5)) inX3_furnishCourse_7 1 (by decide) rfl lX3_furnishCourse_109 dX3_furnishCourse_91 ?_
      refine lv_iload_n C.1.1 C.1.2.1 dX3_furnishCourse_94 rfl (lv_at hl 6 rfl) ?_
      refine lv_iload C.1.1 C.1.2.1 dX3_furnishCourse_95 (lv_at hl 0 rfl) ?_
      refine ns_iast C w 17 (hI 17 (by decide)) sh_17 hf rfl (List.mem_of_getElem? (i := 2) rfl) dX3_furnishCourse_97 (fun y10 H locs hf w => ?_)
      refine lv_aload_n C.1.1 C.1.2.1 dX3_furnishCourse_98 rfl (lv_at hl 4 rfl) ?_
      refine ns_getr C w 15 (hI 15 (by decide)) sh_15 (rfl : vwCl[3]? = some (RX3, TX3, 10)) inX3_furnishCourse_3 0 (by decide) rfl lX3_furnishCourse_12 dX3_furnishCourse_99 ?_
      refine ns_getr C w 16 (hI 16 (by decide)) sh_16 (rfl : vwCl[7]? = some (RX7, TX7, 5)) inX3_furnishCourse_7 2 (by decide) rfl lX3_furnishCourse_112 dX3_furnishCourse_102 ?_
      refine lv_iload_n C.1.1 C.1.2.1 dX3_furnishCourse_105 rfl (lv_at hl 6 rfl) ?_
      refine lv_aload_n C.1.1 C.1.2.1 dX3_furnishCourse_106 rfl (lv_at hl 5 rfl) ?_
      refine ns_getr C w 28 (hI 28 (by decide)) sh_28 (rfl : vwCl[6]? = some (RX6, TX6, 6)) inX3_furnishCourse_6 1 (by decide) rfl lX3_furnishCourse_59 dX3_furnishCourse_107 ?_
      refine ns_getr C w 31 (hI 31 (by decide)) sh_31 (rfl : vwCl[0]? = some (RX0, TX0, 6)) inX3_furnishCourse_0 4 (by decide) rfl lX3_furnishCourse_63 dX3_furnishCourse_110 ?_
      refine lv_iload_n C.1.1 C.1.2.1 dX3_furnishCourse_113 rfl (lv_at hl 6 rfl) ?_
      refine ns_iald C w 35 (hI 35 (by decide)) sh_35 hf rfl dX3_furnishCourse_114 (fun x11 hf => ?_)
      refine lv_aload_n C.1.1 C.1.2.1 dX3_furnishCourse_115 rfl (lv_at hl 5 rfl) ?_
      refine ns_getr C w 28 (hI 28 (by decide)) sh_28 (rfl : vwCl[6]? = some (RX6, TX6, 6)) inX3_furnishCourse_6 0 (by decide) rfl lX3_furnishCourse_40 dX3_furnishCourse_116 ?_
      refine ns_getr C w 29 (hI 29 (by decide)) sh_29 (rfl : vwCl[5]? = some (RX5, TX5, 2)) inX3_furnishCourse_5 1 (by decide) rfl lX3_furnishCourse_46 dX3_furnishCourse_119 ?_
      refine lv_iload C.1.1 C.1.2.1 dX3_furnishCourse_122 (lv_at hl 0 rfl) ?_
      refine ns_iald C w 30 (hI 30 (by decide)) sh_30 hf rfl dX3_furnishCourse_124 (fun x12 hf => ?_)
      refine va_mmin C.1.1 C.1.2.1 (by rw [C.1.2.2.1, hl.1]) C.1.2.2.2.1 (C.1.2.2.2.2 _ (List.mem_of_getElem? (i := 14) rfl)) (C.1.2.2.2.2 _ (List.mem_of_getElem? (i := 15) rfl)) (C.1.2.2.2.2 _ (List.mem_of_getElem? (i := 16) rfl)) (C.1.2.2.2.2 _ (List.mem_of_getElem? (i := 17) rfl)) (Nat.le_of_ble_eq_true rfl) (Nat.le_of_ble_eq_true rfl) (Nat.le_refl _) (Nat.le_refl _) dX3_furnishCourse_125 ?_
      refine ns_iast C w 18 (hI 18 (by decide)) sh_18 hf rfl (List.mem_of_getElem? (i := 3) rfl) dX3_furnishCourse_128 (fun y13 H locs hf w => ?_)
      refine lv_aload_n C.1.1 C.1.2.1 dX3_furnishCourse_129 rfl (lv_at hl 4 rfl) ?_
      refine ns_getr C w 15 (hI 15 (by decide)) sh_15 (rfl : vwCl[3]? = some (RX3, TX3, 10)) inX3_furnishCourse_3 0 (by decide) rfl lX3_furnishCourse_12 dX3_furnishCourse_130 ?_
      refine ns_getr C w 16 (hI 16 (by decide)) sh_16 (rfl : vwCl[7]? = some (RX7, TX7, 5)) inX3_furnishCourse_7 2 (by decide) rfl lX3_furnishCourse_112 dX3_furnishCourse_133 ?_
      refine lv_iload_n C.1.1 C.1.2.1 dX3_furnishCourse_136 rfl (lv_at hl 6 rfl) ?_
      refine ns_iald C w 18 (hI 18 (by decide)) sh_18 hf rfl dX3_furnishCourse_137 (fun x14 hf => ?_)
      refine lv_aload_n C.1.1 C.1.2.1 dX3_furnishCourse_138 rfl (lv_at hl 5 rfl) ?_
      refine ns_getr C w 28 (hI 28 (by decide)) sh_28 (rfl : vwCl[6]? = some (RX6, TX6, 6)) inX3_furnishCourse_6 1 (by decide) rfl lX3_furnishCourse_59 dX3_furnishCourse_139 ?_
      refine ns_getr C w 31 (hI 31 (by decide)) sh_31 (rfl : vwCl[0]? = some (RX0, TX0, 6)) inX3_furnishCourse_0 3 (by decide) rfl lX3_furnishCourse_120 dX3_furnishCourse_142 ?_
      refine lv_iload_n C.1.1 C.1.2.1 dX3_furnishCourse_145 rfl (lv_at hl 6 rfl) ?_
      refine ns_iald C w 34 (hI 34 (by decide)) sh_34 hf rfl dX3_furnishCourse_146 (fun x15 hf => ?_)
      refine ns_icmp_lt C hf (tgt := 154) dX3_furnishCourse_147 (by decide) (fun hf => ?_) (fun hf => ?_)
      · refine lv_iconst (v := 0) C.1.1 C.1.2.1 dX3_furnishCourse_154 (by decide) ?_
        have he := Option.some.inj hf
        subst he
        exact ns_zret C w hr hlk rfl (Or.inl rfl) rfl dX3_furnishCourse_155
      · refine lv_iconst (v := 1) C.1.1 C.1.2.1 dX3_furnishCourse_150 (by decide) ?_
        refine lv_goto (tgt := 155) C.1.1 C.1.2.1 dX3_furnishCourse_151 (by decide) ?_
        have he := Option.some.inj hf
        subst he
        exact ns_zret C w hr hlk rfl (Or.inr rfl) rfl dX3_furnishCourse_155
    · refine lv_iconst (v := 0) C.1.1 C.1.2.1 dX3_furnishCourse_55 (by decide) ?_
      have he := Option.some.inj hf
      subst he
      exact ns_zret C w hr hlk rfl (Or.inl rfl) rfl dX3_furnishCourse_56
theorem lX3_furnish_12 : Cond.fieldLink RX3 12 (TX3 0).1 (TX3 0).2.1 (TX3 0).2.2.1 ∈ wsX3_furnish := List.mem_of_getElem? (i := 1) rfl
theorem lX3_furnish_22 : Cond.fieldLink RX3 22 (TX3 2).1 (TX3 2).2.1 (TX3 2).2.2.1 ∈ wsX3_furnish := List.mem_of_getElem? (i := 7) rfl
theorem lX3_furnish_25 : Cond.fieldLink RX3 25 (TX3 3).1 (TX3 3).2.1 (TX3 3).2.2.1 ∈ wsX3_furnish := List.mem_of_getElem? (i := 3) rfl
theorem lX3_furnish_28 : Cond.fieldLink RX3 28 (TX3 4).1 (TX3 4).2.1 (TX3 4).2.2.1 ∈ wsX3_furnish := List.mem_of_getElem? (i := 4) rfl
theorem lX3_furnish_59 : Cond.fieldLink RX3 59 (TX6 1).1 (TX6 1).2.1 (TX6 1).2.2.1 ∈ wsX3_furnish := List.mem_of_getElem? (i := 5) rfl
theorem lX3_furnish_68 : Cond.fieldLink RX3 68 (TX0 0).1 (TX0 0).2.1 (TX0 0).2.2.1 ∈ wsX3_furnish := List.mem_of_getElem? (i := 6) rfl
theorem lX3_furnish_95 : Cond.fieldLink RX3 95 (TX7 0).1 (TX7 0).2.1 (TX7 0).2.2.1 ∈ wsX3_furnish := List.mem_of_getElem? (i := 2) rfl
theorem inX3_furnish_0 : ∀ w ∈ u_ws RX0 TX0 6, w ∈ wsX3_furnish := fun _ h => List.mem_cons_of_mem _ (List.mem_append_left _ (List.mem_append_right _ h))
theorem inX3_furnish_3 : ∀ w ∈ u_ws RX3 TX3 10, w ∈ wsX3_furnish := fun _ h => List.mem_cons_of_mem _ (List.mem_append_left _ (List.mem_append_left _ (List.mem_append_left _ (List.mem_append_left _ (List.mem_append_right _ h)))))
theorem inX3_furnish_6 : ∀ w ∈ u_ws RX6 TX6 6, w ∈ wsX3_furnish := fun _ h => List.mem_cons_of_mem _ (List.mem_append_left _ (List.mem_append_left _ (List.mem_append_right _ h)))
theorem inX3_furnish_7 : ∀ w ∈ u_ws RX7 TX7 5, w ∈ wsX3_furnish := fun _ h => List.mem_cons_of_mem _ (List.mem_append_left _ (List.mem_append_left _ (List.mem_append_left _ (List.mem_append_right _ h))))
theorem hdX3_furnish : yX3_furnish.cls = RX3 ∧ yX3_furnish.cls ≠ "java/lang/invoke/MethodHandle" ∧ yX3_furnish.cls ≠ "java/lang/invoke/VarHandle" ∧ (parseMethodDescriptor yX3_furnish.desc).map (fun d => d.parameters.length) = some 2 := by decide +kernel
abbrev wrX3_furnish_15_28 : List (Nat × Nat) := [(0, 1024), (1, 17), (1, 18), (1, 19), (1, 20), (1, 23), (1, 24)]
abbrev rmX3_furnish_15_28 : Room := { frames := 2, cells := 0, slots := 0, locals := 49 }
set_option maxHeartbeats 4000000 in
set_option maxRecDepth 100000 in
theorem wX3_furnish_15_28_33 {p : Program} {l : Launch} {e : Env} {s : State} {m : MethodId} {args : Array Value} {below : List Frame} {meth : Method} {c : Code} {D : va_G} {b : Nat → Nat} {ids : List Nat} {A : Nat → Prop} {S0 : ns_S} {o : Int32 × Int32 × (Nat → Int32) × (Nat → Int32) × (Nat → Int32) × (Nat → Int32) × (Nat → Int32) × (Nat → Int32)} (N : Nat) (hI : ∀ i, i < 107 → i ∈ ids) (C : ns_C p m c cX3_furnish 5 s args wsX3_furnish RX3 D A) (hr : meth.sig.returnType = some .boolean) (hlk : meth.locks = false) : ∀ n : Nat, ∀ {S : ns_S} {H : Heap} {locs : List Loc} {ls : Array Slot} {l3 : Int32}, ns_W D b ids A s.heap wrX3_furnish_15_28 S0 S H locs → lv_has ls 5 [(0, .ref (b 15)), (1, .ref (b 28)), (3, .int l3)] → fX3_furnish_33 N n (S.1 1024) (S.2.1 17) (S.2.1 18) (S.2.1 19) (S.2.1 20) (S.2.1 23) (S.2.1 24) (S.1 1984) (S.2.1 22) (S.2.1 32) (S.2.1 33) (S.1 1856) (S.2.1 21) (S.2.1 35) (S.2.1 30) (S.2.1 34) l3 = some o → W p l e rmX3_furnish_15_28 s m args below meth c H locs 0 0 (MQ below (ns_Q D b ids (ns_I (ns_A (ns_A (ns_A (ns_A (ns_A (ns_A S0 24 o.2.2.2.2.2.2.2) 23 o.2.2.2.2.2.2.1) 20 o.2.2.2.2.2.1) 19 o.2.2.2.2.1) 18 o.2.2.2.1) 17 o.2.2.1) 1024 o.2.1) (some (.int o.1)) A) args s 0 0 A) (F0 m 33 ls []) := by
  intro n
  induction n with
  | zero =>
    intro S H locs ls l3 w hl hf
    cases hf
  | succ n K33 =>
    intro S H locs ls l3 w hl hf
    change gX3_furnish_33 N (fX3_furnish_33 N n) (S.1 1024) (S.2.1 17) (S.2.1 18) (S.2.1 19) (S.2.1 20) (S.2.1 23) (S.2.1 24) (S.1 1984) (S.2.1 22) (S.2.1 32) (S.2.1 33) (S.1 1856) (S.2.1 21) (S.2.1 35) (S.2.1 30) (S.2.1 34) l3 = some o at hf
    generalize fX3_furnish_33 N n = r33 at hf K33
    unfold gX3_furnish_33 at hf
    refine lv_iload_n C.1.1 C.1.2.1 dX3_furnish_33 rfl (lv_at hl 2 rfl) ?_
    refine lv_aload_n C.1.1 C.1.2.1 dX3_furnish_34 rfl (lv_at hl 1 rfl) ?_
    refine ns_getr C w 28 (hI 28 (by decide)) sh_28 (rfl : vwCl[6]? = some (RX6, TX6, 6)) inX3_furnish_6 1 (by decide) rfl lX3_furnish_59 dX3_furnish_35 ?_
    refine ns_geti C w 31 (hI 31 (by decide)) sh_31 (rfl : vwCl[0]? = some (RX0, TX0, 6)) inX3_furnish_0 0 (by decide) rfl lX3_furnish_68 (S.1 1984) rfl dX3_furnish_38 ?_
    refine ns_icmp_ge C hf (tgt := 82) dX3_furnish_41 (by decide) (fun hf => ?_) (fun hf => ?_)
    · refine lv_iconst (v := 1) C.1.1 C.1.2.1 dX3_furnish_82 (by decide) ?_
      have he := Option.some.inj hf
      subst he
      exact ns_zret C w hr hlk rfl (Or.inr rfl) rfl dX3_furnish_83
    · refine lv_aload_n C.1.1 C.1.2.1 dX3_furnish_44 rfl (lv_at hl 0 rfl) ?_
      refine ns_getr C w 15 (hI 15 (by decide)) sh_15 (rfl : vwCl[3]? = some (RX3, TX3, 10)) inX3_furnish_3 2 (by decide) rfl lX3_furnish_22 dX3_furnish_45 ?_
      refine lv_iload_n C.1.1 C.1.2.1 dX3_furnish_48 rfl (lv_at hl 2 rfl) ?_
      refine ns_iald C w 22 (hI 22 (by decide)) sh_22 hf rfl dX3_furnish_49 (fun x1 hf => ?_)
      refine lv_istore (lv' := [(4, .int x1), (0, .ref (b 15)), (1, .ref (b 28)), (3, .int l3)]) C.1.1 C.1.2.1 dX3_furnish_50 hl (by decide) rfl (fun ls hl => ?_)
      refine lv_aload_n C.1.1 C.1.2.1 dX3_furnish_52 rfl (lv_at hl 1 rfl) ?_
      refine ns_getr C w 15 (hI 15 (by decide)) sh_15 (rfl : vwCl[3]? = some (RX3, TX3, 10)) inX3_furnish_3 0 (by decide) rfl lX3_furnish_12 dX3_furnish_53 ?_
      refine lv_iload C.1.1 C.1.2.1 dX3_furnish_56 (lv_at hl 0 rfl) ?_
      refine ns_callV C w 16 (hI 16 (by decide)) sh_16 (rfl : vwCl[7]? = some (RX7, TX7, 5)) [.int x1] hf (fun u hu => mX7_isHeld_16 l D b ids hI N _ x1 hu) gX3_furnish_X7_isHeld rfl rfl rfl hdX7_isHeld ⟨Nat.le_of_ble_eq_true rfl, Nat.le_of_ble_eq_true rfl⟩ (fun u h => h) rfl hl.1 rfl (Nat.le_of_ble_eq_true rfl) ⟨Nat.le_refl _, Nat.le_refl _⟩ dX3_furnish_58 (fun o2 H locs hf w => ?_)
      refine ns_if_eq C hf (tgt := 76) dX3_furnish_61 (by decide) (fun hf => ?_) (fun hf => ?_)
      · refine ns_iinc (lv' := fun x3 => [(3, .int x3), (4, .int x1), (0, .ref (b 15)), (1, .ref (b 28))]) C hf dX3_furnish_76 hl (k := 3) rfl rfl (by decide) (fun _ => rfl) (fun x3 ls hl hf => ?_)
        refine lv_goto (tgt := 33) C.1.1 C.1.2.1 dX3_furnish_79 (by decide) ?_
        exact K33 w (lv_sub hl [2, 3, 0] rfl) hf
      · refine lv_aload_n C.1.1 C.1.2.1 dX3_furnish_64 rfl (lv_at hl 1 rfl) ?_
        refine lv_aload_n C.1.1 C.1.2.1 dX3_furnish_65 rfl (lv_at hl 2 rfl) ?_
        refine lv_iload C.1.1 C.1.2.1 dX3_furnish_66 (lv_at hl 0 rfl) ?_
        refine ns_callV C w 15 (hI 15 (by decide)) sh_15 (rfl : vwCl[3]? = some (RX3, TX3, 10)) [.ref (b 28), .int x1] hf (fun u hu => mX3_furnishCourse_15_28 l D b ids hI N _ x1 hu) gX3_furnish_X3_furnishCourse rfl rfl rfl hdX3_furnishCourse ⟨Nat.le_of_ble_eq_true rfl, Nat.le_of_ble_eq_true rfl⟩ (fun u h => ((((h.A (List.mem_of_getElem? (i := 2) rfl) _).A (List.mem_of_getElem? (i := 1) rfl) _).A (List.mem_of_getElem? (i := 5) rfl) _).A (List.mem_of_getElem? (i := 6) rfl) _)) rfl hl.1 rfl (Nat.le_of_ble_eq_true rfl) ⟨Nat.le_refl _, Nat.le_refl _⟩ dX3_furnish_68 (fun o4 H locs hf w => ?_)
        refine ns_if_ne C hf (tgt := 76) dX3_furnish_71 (by decide) (fun hf => ?_) (fun hf => ?_)
        · refine ns_iinc (lv' := fun x5 => [(3, .int x5), (4, .int x1), (0, .ref (b 15)), (1, .ref (b 28))]) C hf dX3_furnish_76 hl (k := 3) rfl rfl (by decide) (fun _ => rfl) (fun x5 ls hl hf => ?_)
          refine lv_goto (tgt := 33) C.1.1 C.1.2.1 dX3_furnish_79 (by decide) ?_
          exact K33 w (lv_sub hl [2, 3, 0] rfl) hf
        · refine lv_iconst (v := 0) C.1.1 C.1.2.1 dX3_furnish_74 (by decide) ?_
          have he := Option.some.inj hf
          subst he
          exact ns_zret C w hr hlk rfl (Or.inl rfl) rfl dX3_furnish_75
set_option maxHeartbeats 4000000 in
set_option maxRecDepth 100000 in
theorem mX3_furnish_15_28 (l : Launch) (D : va_G) (b : Nat → Nat) (ids : List Nat) (hI : ∀ i, i < 107 → i ∈ ids) (N : Nat) (S : ns_S) (p2 : Int32) {o : Int32 × Int32 × (Nat → Int32) × (Nat → Int32) × (Nat → Int32) × (Nat → Int32) × (Nat → Int32) × (Nat → Int32)} (hf : fX3_furnish N (S.1 1024) (S.2.1 17) (S.2.1 18) (S.2.1 19) (S.2.1 20) (S.2.1 23) (S.2.1 24) (S.1 1984) (S.2.1 22) (S.2.1 32) (S.2.1 33) (S.1 1856) (S.2.1 21) (S.2.1 35) (S.2.1 30) (S.2.1 34) p2 = some o) : ns_M l yX3_furnish wsX3_furnish rmX3_furnish_15_28 D b ids S [.ref (b 15), .ref (b 28), .int p2] (some (.int o.1)) (ns_I (ns_A (ns_A (ns_A (ns_A (ns_A (ns_A S 24 o.2.2.2.2.2.2.2) 23 o.2.2.2.2.2.2.1) 20 o.2.2.2.2.2.1) 19 o.2.2.2.2.1) 18 o.2.2.2.1) 17 o.2.2.1) 1024 o.2.1) := by
  refine ns_start (Wr := wrX3_furnish_15_28) (by decide) rfl (Nat.le_of_ble_eq_true rfl) ?_
  intro p e s m below meth c A ls C hr hlk w hl
  have hl : lv_has ls 5 [(0, .ref (b 15)), (1, .ref (b 28)), (2, .int p2)] := hl
  unfold fX3_furnish at hf
  refine lv_aload_n C.1.1 C.1.2.1 dX3_furnish_0 rfl (lv_at hl 0 rfl) ?_
  refine ns_getr C w 15 (hI 15 (by decide)) sh_15 (rfl : vwCl[3]? = some (RX3, TX3, 10)) inX3_furnish_3 0 (by decide) rfl lX3_furnish_12 dX3_furnish_1 ?_
  refine ns_callV C w 16 (hI 16 (by decide)) sh_16 (rfl : vwCl[7]? = some (RX7, TX7, 5)) [] hf (fun u hu => mX7_clear_16 l D b ids hI N _ hu) gX3_furnish_X7_clear rfl rfl rfl hdX7_clear ⟨Nat.le_of_ble_eq_true rfl, Nat.le_of_ble_eq_true rfl⟩ (fun u h => (((((h.A (List.mem_of_getElem? (i := 4) rfl) _).A (List.mem_of_getElem? (i := 3) rfl) _).A (List.mem_of_getElem? (i := 2) rfl) _).A (List.mem_of_getElem? (i := 1) rfl) _).I (List.mem_of_getElem? (i := 0) rfl) _)) rfl hl.1 rfl (Nat.le_of_ble_eq_true rfl) ⟨Nat.le_refl _, Nat.le_refl _⟩ dX3_furnish_4 (fun o1 H locs hf w => ?_)
  refine lv_aload_n C.1.1 C.1.2.1 dX3_furnish_7 rfl (lv_at hl 0 rfl) ?_
  refine ns_getr C w 15 (hI 15 (by decide)) sh_15 (rfl : vwCl[3]? = some (RX3, TX3, 10)) inX3_furnish_3 0 (by decide) rfl lX3_furnish_12 dX3_furnish_8 ?_
  refine lv_iload_n C.1.1 C.1.2.1 dX3_furnish_11 rfl (lv_at hl 2 rfl) ?_
  refine ns_puti C w 16 (hI 16 (by decide)) sh_16 (rfl : vwCl[7]? = some (RX7, TX7, 5)) inX3_furnish_7 tyX7_ok nmX7 0 (by decide) rfl lX3_furnish_95 rfl rfl rfl (List.mem_of_getElem? (i := 0) rfl) dX3_furnish_12 (fun H locs w => ?_)
  refine lv_aload_n C.1.1 C.1.2.1 dX3_furnish_15 rfl (lv_at hl 0 rfl) ?_
  refine ns_getr C w 15 (hI 15 (by decide)) sh_15 (rfl : vwCl[3]? = some (RX3, TX3, 10)) inX3_furnish_3 3 (by decide) rfl lX3_furnish_25 dX3_furnish_16 ?_
  refine lv_iconst (v := 0) C.1.1 C.1.2.1 dX3_furnish_19 (by decide) ?_
  refine ns_callS C w [.ref (b 23), .int 0] hf (fun u hu => mJ7_fill_53178_23 l D b ids hI N _ 0 hu) gX3_furnish_J7_fill_53178 rfl rfl rfl hdJ7_fill_53178 ⟨Nat.le_of_ble_eq_true rfl, Nat.le_of_ble_eq_true rfl⟩ (fun u h => (h.A (List.mem_of_getElem? (i := 5) rfl) _)) rfl hl.1 rfl (Nat.le_of_ble_eq_true rfl) ⟨Nat.le_refl _, Nat.le_refl _⟩ dX3_furnish_20 (fun o2 H locs hf w => ?_)
  refine lv_aload_n C.1.1 C.1.2.1 dX3_furnish_23 rfl (lv_at hl 0 rfl) ?_
  refine ns_getr C w 15 (hI 15 (by decide)) sh_15 (rfl : vwCl[3]? = some (RX3, TX3, 10)) inX3_furnish_3 4 (by decide) rfl lX3_furnish_28 dX3_furnish_24 ?_
  refine lv_iconst (v := 0) C.1.1 C.1.2.1 dX3_furnish_27 (by decide) ?_
  refine ns_callS C w [.ref (b 24), .int 0] hf (fun u hu => mJ7_fill_53178_24 l D b ids hI N _ 0 hu) gX3_furnish_J7_fill_53178 rfl rfl rfl hdJ7_fill_53178 ⟨Nat.le_of_ble_eq_true rfl, Nat.le_of_ble_eq_true rfl⟩ (fun u h => (h.A (List.mem_of_getElem? (i := 6) rfl) _)) rfl hl.1 rfl (Nat.le_of_ble_eq_true rfl) ⟨Nat.le_refl _, Nat.le_refl _⟩ dX3_furnish_28 (fun o3 H locs hf w => ?_)
  refine lv_iconst (v := 0) C.1.1 C.1.2.1 dX3_furnish_31 (by decide) ?_
  refine lv_istore_n (lv' := [(3, .int 0), (0, .ref (b 15)), (1, .ref (b 28)), (2, .int p2)]) C.1.1 C.1.2.1 dX3_furnish_32 rfl hl (by decide) rfl (fun ls hl => ?_)
  exact wX3_furnish_15_28_33 N hI C hr hlk N w (lv_sub hl [1, 2, 0] rfl) hf
theorem lX10_furnishSet_23 : Cond.fieldLink RX10 23 (TX10 3).1 (TX10 3).2.1 (TX10 3).2.2.1 ∈ wsX10_furnishSet := List.mem_of_getElem? (i := 4) rfl
theorem lX10_furnishSet_30 : Cond.fieldLink RX10 30 (TX10 4).1 (TX10 4).2.1 (TX10 4).2.2.1 ∈ wsX10_furnishSet := List.mem_of_getElem? (i := 1) rfl
theorem lX10_furnishSet_97 : Cond.fieldLink RX10 97 (TX6 1).1 (TX6 1).2.1 (TX6 1).2.2.1 ∈ wsX10_furnishSet := List.mem_of_getElem? (i := 2) rfl
theorem lX10_furnishSet_101 : Cond.fieldLink RX10 101 (TX0 0).1 (TX0 0).2.1 (TX0 0).2.2.1 ∈ wsX10_furnishSet := List.mem_of_getElem? (i := 3) rfl
theorem inX10_furnishSet_0 : ∀ w ∈ u_ws RX0 TX0 6, w ∈ wsX10_furnishSet := fun _ h => List.mem_cons_of_mem _ (List.mem_append_left _ (List.mem_append_left _ (List.mem_append_left _ (List.mem_append_left _ (List.mem_append_right _ h)))))
theorem inX10_furnishSet_6 : ∀ w ∈ u_ws RX6 TX6 6, w ∈ wsX10_furnishSet := fun _ h => List.mem_cons_of_mem _ (List.mem_append_left _ (List.mem_append_left _ (List.mem_append_left _ (List.mem_append_left _ (List.mem_append_left _ (List.mem_append_right _ h))))))
theorem inX10_furnishSet_10 : ∀ w ∈ u_ws RX10 TX10 6, w ∈ wsX10_furnishSet := fun _ h => List.mem_cons_of_mem _ (List.mem_append_left _ (List.mem_append_left _ (List.mem_append_left _ (List.mem_append_left _ (List.mem_append_left _ (List.mem_append_left _ (List.mem_append_right _ h)))))))
theorem hdX10_furnishSet : yX10_furnishSet.cls = RX10 ∧ yX10_furnishSet.cls ≠ "java/lang/invoke/MethodHandle" ∧ yX10_furnishSet.cls ≠ "java/lang/invoke/VarHandle" ∧ (parseMethodDescriptor yX10_furnishSet.desc).map (fun d => d.parameters.length) = some 1 := by decide +kernel
abbrev wrX10_furnishSet_0 : List (Nat × Nat) := [(1, 21), (1, 22), (1, 25), (1, 26), (0, 1024), (1, 17), (1, 18), (1, 19), (1, 20), (1, 23), (1, 24)]
abbrev rmX10_furnishSet_0 : Room := { frames := 3, cells := 0, slots := 0, locals := 73 }
set_option maxHeartbeats 4000000 in
set_option maxRecDepth 100000 in
theorem mX10_furnishSet_0 (l : Launch) (D : va_G) (b : Nat → Nat) (ids : List Nat) (hI : ∀ i, i < 107 → i ∈ ids) (N : Nat) (S : ns_S) (p1 : Int32) {o : Int32 × (Nat → Int32) × (Nat → Int32) × (Nat → Int32) × (Nat → Int32) × Int32 × (Nat → Int32) × (Nat → Int32) × (Nat → Int32) × (Nat → Int32) × (Nat → Int32) × (Nat → Int32)} (hf : fX10_furnishSet N (S.1 1984) (S.1 1856) (S.2.1 21) (S.2.1 30) (S.2.1 22) (S.2.1 35) (S.2.1 25) (S.2.1 32) (S.1 2368) (S.2.1 26) (S.2.1 41) (S.2.1 42) (S.1 1024) (S.2.1 17) (S.2.1 18) (S.2.1 19) (S.2.1 20) (S.2.1 23) (S.2.1 24) (S.2.1 33) (S.2.1 34) p1 = some o) : ns_M l yX10_furnishSet wsX10_furnishSet rmX10_furnishSet_0 D b ids S [.ref (b 0), .int p1] (some (.int o.1)) (ns_A (ns_A (ns_A (ns_A (ns_I (ns_A (ns_A (ns_A (ns_A (ns_A (ns_A S 24 o.2.2.2.2.2.2.2.2.2.2.2) 23 o.2.2.2.2.2.2.2.2.2.2.1) 20 o.2.2.2.2.2.2.2.2.2.1) 19 o.2.2.2.2.2.2.2.2.1) 18 o.2.2.2.2.2.2.2.1) 17 o.2.2.2.2.2.2.1) 1024 o.2.2.2.2.2.1) 26 o.2.2.2.2.1) 25 o.2.2.2.1) 22 o.2.2.1) 21 o.2.1) := by
  refine ns_start (Wr := wrX10_furnishSet_0) (by decide) rfl (Nat.le_of_ble_eq_true rfl) ?_
  intro p e s m below meth c A ls C hr hlk w hl
  have hl : lv_has ls 2 [(0, .ref (b 0)), (1, .int p1)] := hl
  unfold fX10_furnishSet at hf
  refine lv_iload_n C.1.1 C.1.2.1 dX10_furnishSet_0 rfl (lv_at hl 1 rfl) ?_
  refine lv_aload_n C.1.1 C.1.2.1 dX10_furnishSet_1 rfl (lv_at hl 0 rfl) ?_
  refine ns_getr C w 0 (hI 0 (by decide)) sh_0 (rfl : vwCl[10]? = some (RX10, TX10, 6)) inX10_furnishSet_10 4 (by decide) rfl lX10_furnishSet_30 dX10_furnishSet_2 ?_
  refine ns_getr C w 28 (hI 28 (by decide)) sh_28 (rfl : vwCl[6]? = some (RX6, TX6, 6)) inX10_furnishSet_6 1 (by decide) rfl lX10_furnishSet_97 dX10_furnishSet_5 ?_
  refine ns_geti C w 31 (hI 31 (by decide)) sh_31 (rfl : vwCl[0]? = some (RX0, TX0, 6)) inX10_furnishSet_0 0 (by decide) rfl lX10_furnishSet_101 (S.1 1984) rfl dX10_furnishSet_8 ?_
  refine lv_iushr (v := (p1.toUInt32 >>> ((S.1 1984).toUInt32 &&& Int32.toUInt32 31)).toInt32) C.1.1 C.1.2.1 dX10_furnishSet_11 rfl ?_
  refine ns_if_eq C hf (tgt := 17) dX10_furnishSet_12 (by decide) (fun hf => ?_) (fun hf => ?_)
  · refine lv_aload_n C.1.1 C.1.2.1 dX10_furnishSet_17 rfl (lv_at hl 0 rfl) ?_
    refine ns_getr C w 0 (hI 0 (by decide)) sh_0 (rfl : vwCl[10]? = some (RX10, TX10, 6)) inX10_furnishSet_10 3 (by decide) rfl lX10_furnishSet_23 dX10_furnishSet_18 ?_
    refine lv_aload_n C.1.1 C.1.2.1 dX10_furnishSet_21 rfl (lv_at hl 0 rfl) ?_
    refine ns_getr C w 0 (hI 0 (by decide)) sh_0 (rfl : vwCl[10]? = some (RX10, TX10, 6)) inX10_furnishSet_10 4 (by decide) rfl lX10_furnishSet_30 dX10_furnishSet_22 ?_
    refine ns_callV C w 15 (hI 15 (by decide)) sh_15 (rfl : vwCl[3]? = some (RX3, TX3, 10)) [.ref (b 28)] hf (fun u hu => mX3_prepare_15_28 l D b ids hI N _ hu) gX10_furnishSet_X3_prepare rfl rfl rfl hdX3_prepare ⟨Nat.le_of_ble_eq_true rfl, Nat.le_of_ble_eq_true rfl⟩ (fun u h => ((((h.A (List.mem_of_getElem? (i := 3) rfl) _).A (List.mem_of_getElem? (i := 2) rfl) _).A (List.mem_of_getElem? (i := 1) rfl) _).A (List.mem_of_getElem? (i := 0) rfl) _)) rfl hl.1 rfl (Nat.le_of_ble_eq_true rfl) ⟨Nat.le_refl _, Nat.le_refl _⟩ dX10_furnishSet_25 (fun o1 H locs hf w => ?_)
    refine lv_aload_n C.1.1 C.1.2.1 dX10_furnishSet_28 rfl (lv_at hl 0 rfl) ?_
    refine ns_getr C w 0 (hI 0 (by decide)) sh_0 (rfl : vwCl[10]? = some (RX10, TX10, 6)) inX10_furnishSet_10 3 (by decide) rfl lX10_furnishSet_23 dX10_furnishSet_29 ?_
    refine lv_aload_n C.1.1 C.1.2.1 dX10_furnishSet_32 rfl (lv_at hl 0 rfl) ?_
    refine ns_getr C w 0 (hI 0 (by decide)) sh_0 (rfl : vwCl[10]? = some (RX10, TX10, 6)) inX10_furnishSet_10 4 (by decide) rfl lX10_furnishSet_30 dX10_furnishSet_33 ?_
    refine lv_iload_n C.1.1 C.1.2.1 dX10_furnishSet_36 rfl (lv_at hl 1 rfl) ?_
    refine ns_callV C w 15 (hI 15 (by decide)) sh_15 (rfl : vwCl[3]? = some (RX3, TX3, 10)) [.ref (b 28), .int p1] hf (fun u hu => mX3_furnish_15_28 l D b ids hI N _ p1 hu) gX10_furnishSet_X3_furnish rfl rfl rfl hdX3_furnish ⟨Nat.le_of_ble_eq_true rfl, Nat.le_of_ble_eq_true rfl⟩ (fun u h => (((((((h.A (List.mem_of_getElem? (i := 10) rfl) _).A (List.mem_of_getElem? (i := 9) rfl) _).A (List.mem_of_getElem? (i := 8) rfl) _).A (List.mem_of_getElem? (i := 7) rfl) _).A (List.mem_of_getElem? (i := 6) rfl) _).A (List.mem_of_getElem? (i := 5) rfl) _).I (List.mem_of_getElem? (i := 4) rfl) _)) rfl hl.1 rfl (Nat.le_of_ble_eq_true rfl) ⟨Nat.le_refl _, Nat.le_refl _⟩ dX10_furnishSet_37 (fun o2 H locs hf w => ?_)
    obtain ⟨hz, hf⟩ := ns_zb_some hf
    have he := Option.some.inj hf
    subst he
    exact ns_zret C w hr hlk rfl hz rfl dX10_furnishSet_40
  · refine lv_iconst (v := 0) C.1.1 C.1.2.1 dX10_furnishSet_15 (by decide) ?_
    have he := Option.some.inj hf
    subst he
    exact ns_zret C w hr hlk rfl (Or.inl rfl) rfl dX10_furnishSet_16
theorem hdX10_canHold : yX10_canHold.cls = RX10 ∧ yX10_canHold.cls ≠ "java/lang/invoke/MethodHandle" ∧ yX10_canHold.cls ≠ "java/lang/invoke/VarHandle" ∧ (parseMethodDescriptor yX10_canHold.desc).map (fun d => d.parameters.length) = some 1 := by decide +kernel
abbrev wrX10_canHold_0 : List (Nat × Nat) := [(1, 21), (1, 22), (1, 25), (1, 26), (0, 1024), (1, 17), (1, 18), (1, 19), (1, 20), (1, 23), (1, 24)]
abbrev rmX10_canHold_0 : Room := { frames := 4, cells := 0, slots := 0, locals := 94 }
set_option maxHeartbeats 4000000 in
set_option maxRecDepth 100000 in
theorem mX10_canHold_0 (l : Launch) (D : va_G) (b : Nat → Nat) (ids : List Nat) (hI : ∀ i, i < 107 → i ∈ ids) (N : Nat) (S : ns_S) (p1 : Int32) {o : Int32 × (Nat → Int32) × (Nat → Int32) × (Nat → Int32) × (Nat → Int32) × Int32 × (Nat → Int32) × (Nat → Int32) × (Nat → Int32) × (Nat → Int32) × (Nat → Int32) × (Nat → Int32)} (hf : fX10_canHold N (S.1 1984) (S.1 1856) (S.2.1 21) (S.2.1 30) (S.2.1 22) (S.2.1 35) (S.2.1 25) (S.2.1 32) (S.1 2368) (S.2.1 26) (S.2.1 41) (S.2.1 42) (S.1 1024) (S.2.1 17) (S.2.1 18) (S.2.1 19) (S.2.1 20) (S.2.1 23) (S.2.1 24) (S.2.1 33) (S.2.1 34) p1 = some o) : ns_M l yX10_canHold wsX10_canHold rmX10_canHold_0 D b ids S [.ref (b 0), .int p1] (some (.int o.1)) (ns_A (ns_A (ns_A (ns_A (ns_I (ns_A (ns_A (ns_A (ns_A (ns_A (ns_A S 24 o.2.2.2.2.2.2.2.2.2.2.2) 23 o.2.2.2.2.2.2.2.2.2.2.1) 20 o.2.2.2.2.2.2.2.2.2.1) 19 o.2.2.2.2.2.2.2.2.1) 18 o.2.2.2.2.2.2.2.1) 17 o.2.2.2.2.2.2.1) 1024 o.2.2.2.2.2.1) 26 o.2.2.2.2.1) 25 o.2.2.2.1) 22 o.2.2.1) 21 o.2.1) := by
  refine ns_start (Wr := wrX10_canHold_0) (by decide) rfl (Nat.le_of_ble_eq_true rfl) ?_
  intro p e s m below meth c A ls C hr hlk w hl
  have hl : lv_has ls 2 [(0, .ref (b 0)), (1, .int p1)] := hl
  unfold fX10_canHold at hf
  refine lv_aload_n C.1.1 C.1.2.1 dX10_canHold_0 rfl (lv_at hl 0 rfl) ?_
  refine lv_iload_n C.1.1 C.1.2.1 dX10_canHold_1 rfl (lv_at hl 1 rfl) ?_
  refine ns_callV C w 0 (hI 0 (by decide)) sh_0 (rfl : vwCl[10]? = some (RX10, TX10, 6)) [.int p1] hf (fun u hu => mX10_furnishSet_0 l D b ids hI N _ p1 hu) gX10_canHold_X10_furnishSet rfl rfl rfl hdX10_furnishSet ⟨Nat.le_of_ble_eq_true rfl, Nat.le_of_ble_eq_true rfl⟩ (fun u h => (((((((((((h.A (List.mem_of_getElem? (i := 10) rfl) _).A (List.mem_of_getElem? (i := 9) rfl) _).A (List.mem_of_getElem? (i := 8) rfl) _).A (List.mem_of_getElem? (i := 7) rfl) _).A (List.mem_of_getElem? (i := 6) rfl) _).A (List.mem_of_getElem? (i := 5) rfl) _).I (List.mem_of_getElem? (i := 4) rfl) _).A (List.mem_of_getElem? (i := 3) rfl) _).A (List.mem_of_getElem? (i := 2) rfl) _).A (List.mem_of_getElem? (i := 1) rfl) _).A (List.mem_of_getElem? (i := 0) rfl) _)) rfl hl.1 rfl (Nat.le_of_ble_eq_true rfl) ⟨Nat.le_refl _, Nat.le_refl _⟩ dX10_canHold_2 (fun o1 H locs hf w => ?_)
  obtain ⟨hz, hf⟩ := ns_zb_some hf
  have he := Option.some.inj hf
  subst he
  exact ns_zret C w hr hlk rfl hz rfl dX10_canHold_5
theorem lX11_getsRoom_17 : Cond.fieldLink RX11 17 (TX11 4).1 (TX11 4).2.1 (TX11 4).2.2.1 ∈ wsX11_getsRoom := List.mem_of_getElem? (i := 4) rfl
theorem lX11_getsRoom_21 : Cond.fieldLink RX11 21 (TX11 5).1 (TX11 5).2.1 (TX11 5).2.2.1 ∈ wsX11_getsRoom := List.mem_of_getElem? (i := 5) rfl
theorem lX11_getsRoom_24 : Cond.fieldLink RX11 24 (TX11 6).1 (TX11 6).2.1 (TX11 6).2.2.1 ∈ wsX11_getsRoom := List.mem_of_getElem? (i := 1) rfl
theorem lX11_getsRoom_27 : Cond.fieldLink RX11 27 (TX11 7).1 (TX11 7).2.1 (TX11 7).2.2.1 ∈ wsX11_getsRoom := List.mem_of_getElem? (i := 2) rfl
theorem lX11_getsRoom_33 : Cond.fieldLink RX11 33 (TX11 9).1 (TX11 9).2.1 (TX11 9).2.2.1 ∈ wsX11_getsRoom := List.mem_of_getElem? (i := 8) rfl
theorem lX11_getsRoom_36 : Cond.fieldLink RX11 36 (TX11 10).1 (TX11 10).2.1 (TX11 10).2.2.1 ∈ wsX11_getsRoom := List.mem_of_getElem? (i := 3) rfl
theorem lX11_getsRoom_136 : Cond.fieldLink RX11 136 (TX11 53).1 (TX11 53).2.1 (TX11 53).2.2.1 ∈ wsX11_getsRoom := List.mem_of_getElem? (i := 6) rfl
theorem lX11_getsRoom_139 : Cond.fieldLink RX11 139 (TX11 54).1 (TX11 54).2.1 (TX11 54).2.2.1 ∈ wsX11_getsRoom := List.mem_of_getElem? (i := 7) rfl
theorem inX11_getsRoom_11 : ∀ w ∈ u_ws RX11 TX11 59, w ∈ wsX11_getsRoom := fun _ h => List.mem_cons_of_mem _ (List.mem_append_right _ h)
theorem hdX11_getsRoom : yX11_getsRoom.cls = RX11 ∧ yX11_getsRoom.cls ≠ "java/lang/invoke/MethodHandle" ∧ yX11_getsRoom.cls ≠ "java/lang/invoke/VarHandle" ∧ (parseMethodDescriptor yX11_getsRoom.desc).map (fun d => d.parameters.length) = some 2 := by decide +kernel
abbrev wrX11_getsRoom_62 : List (Nat × Nat) := [(1, 103), (1, 104)]
abbrev rmX11_getsRoom_62 : Room := { frames := 0, cells := 0, slots := 0, locals := 0 }
set_option maxHeartbeats 4000000 in
set_option maxRecDepth 100000 in
theorem wX11_getsRoom_62_84 {p : Program} {l : Launch} {e : Env} {s : State} {m : MethodId} {args : Array Value} {below : List Frame} {meth : Method} {c : Code} {D : va_G} {b : Nat → Nat} {ids : List Nat} {A : Nat → Prop} {S0 : ns_S} {o : Int32 × (Nat → Int32) × (Nat → Int32)} (N : Nat) (hI : ∀ i, i < 107 → i ∈ ids) (C : ns_C p m c cX11_getsRoom 7 s args wsX11_getsRoom RX11 D A) (hr : meth.sig.returnType = some .boolean) (hlk : meth.locks = false) {r5 : (Nat → Int32) → (Nat → Int32) → (Nat → Int32) → (Nat → Int32) → (Nat → Int32) → (Nat → Int32) → (Nat → Int32) → (Nat → Int32) → Int32 → Int32 → Int32 → Int32 → Option (Int32 × (Nat → Int32) × (Nat → Int32))} (K5 : ∀ {S : ns_S} {H : Heap} {locs : List Loc} {ls : Array Slot} {l1 : Int32} {l2 : Int32} {l3 : Int32} {l4 : Int32}, ns_W D b ids A s.heap wrX11_getsRoom_62 S0 S H locs → lv_has ls 7 [(0, .ref (b 62)), (1, .int l1), (2, .int l2), (3, .int l3), (4, .int l4)] → r5 (S.2.1 67) (S.2.1 68) (S.2.1 71) (S.2.1 65) (S.2.1 104) (S.2.1 70) (S.2.1 103) (S.2.1 66) l1 l2 l3 l4 = some o → W p l e rmX11_getsRoom_62 s m args below meth c H locs 0 0 (MQ below (ns_Q D b ids (ns_A (ns_A S0 104 o.2.2) 103 o.2.1) (some (.int o.1)) A) args s 0 0 A) (F0 m 5 ls [])) : ∀ {S : ns_S} {H : Heap} {locs : List Loc} {ls : Array Slot} {l1 : Int32} {l2 : Int32} {l3 : Int32} {l4 : Int32} {s0 : Int32}, ns_W D b ids A s.heap wrX11_getsRoom_62 S0 S H locs → lv_has ls 7 [(0, .ref (b 62)), (1, .int l1), (2, .int l2), (3, .int l3), (4, .int l4)] → gX11_getsRoom_84 N r5 (S.2.1 67) (S.2.1 68) (S.2.1 71) (S.2.1 65) (S.2.1 104) (S.2.1 70) (S.2.1 103) (S.2.1 66) l1 l2 l3 l4 s0 = some o → W p l e rmX11_getsRoom_62 s m args below meth c H locs 0 0 (MQ below (ns_Q D b ids (ns_A (ns_A S0 104 o.2.2) 103 o.2.1) (some (.int o.1)) A) args s 0 0 A) (F0 m 84 ls [.int s0]) := by
  intro S H locs ls l1 l2 l3 l4 s0 w hl hf
  unfold gX11_getsRoom_84 at hf
  refine lv_istore (lv' := [(5, .int s0), (0, .ref (b 62)), (1, .int l1), (2, .int l2), (3, .int l3), (4, .int l4)]) C.1.1 C.1.2.1 dX11_getsRoom_84 hl (by decide) rfl (fun ls hl => ?_)
  refine lv_iload_n C.1.1 C.1.2.1 dX11_getsRoom_86 rfl (lv_at hl 4 rfl) ?_
  refine lv_iload C.1.1 C.1.2.1 dX11_getsRoom_87 (lv_at hl 0 rfl) ?_
  refine ns_if_eq C hf (tgt := 96) dX11_getsRoom_89 (by decide) (fun hf => ?_) (fun hf => ?_)
  · refine lv_iconst (v := 0) C.1.1 C.1.2.1 dX11_getsRoom_96 (by decide) ?_
    refine lv_iadd C.1.1 C.1.2.1 dX11_getsRoom_97 ?_
    refine ns_namei hf (fun x1 hf => ?_)
    refine lv_istore_n (lv' := [(3, .int x1), (5, .int s0), (0, .ref (b 62)), (1, .int l1), (2, .int l2), (4, .int l4)]) C.1.1 C.1.2.1 dX11_getsRoom_98 rfl hl (by decide) rfl (fun ls hl => ?_)
    refine ns_iinc (lv' := fun x2 => [(4, .int x2), (3, .int x1), (5, .int s0), (0, .ref (b 62)), (1, .int l1), (2, .int l2)]) C hf dX11_getsRoom_99 hl (k := 5) rfl rfl (by decide) (fun _ => rfl) (fun x2 ls hl hf => ?_)
    refine lv_goto (tgt := 5) C.1.1 C.1.2.1 dX11_getsRoom_102 (by decide) ?_
    exact K5 w (lv_sub hl [3, 4, 5, 1, 0] rfl) hf
  · refine lv_iconst (v := 1) C.1.1 C.1.2.1 dX11_getsRoom_92 (by decide) ?_
    refine lv_goto (tgt := 97) C.1.1 C.1.2.1 dX11_getsRoom_93 (by decide) ?_
    refine lv_iadd C.1.1 C.1.2.1 dX11_getsRoom_97 ?_
    refine ns_namei hf (fun x3 hf => ?_)
    refine lv_istore_n (lv' := [(3, .int x3), (5, .int s0), (0, .ref (b 62)), (1, .int l1), (2, .int l2), (4, .int l4)]) C.1.1 C.1.2.1 dX11_getsRoom_98 rfl hl (by decide) rfl (fun ls hl => ?_)
    refine ns_iinc (lv' := fun x4 => [(4, .int x4), (3, .int x3), (5, .int s0), (0, .ref (b 62)), (1, .int l1), (2, .int l2)]) C hf dX11_getsRoom_99 hl (k := 5) rfl rfl (by decide) (fun _ => rfl) (fun x4 ls hl hf => ?_)
    refine lv_goto (tgt := 5) C.1.1 C.1.2.1 dX11_getsRoom_102 (by decide) ?_
    exact K5 w (lv_sub hl [3, 4, 5, 1, 0] rfl) hf
set_option maxHeartbeats 4000000 in
set_option maxRecDepth 100000 in
theorem wX11_getsRoom_62_79 {p : Program} {l : Launch} {e : Env} {s : State} {m : MethodId} {args : Array Value} {below : List Frame} {meth : Method} {c : Code} {D : va_G} {b : Nat → Nat} {ids : List Nat} {A : Nat → Prop} {S0 : ns_S} {o : Int32 × (Nat → Int32) × (Nat → Int32)} (N : Nat) (hI : ∀ i, i < 107 → i ∈ ids) (C : ns_C p m c cX11_getsRoom 7 s args wsX11_getsRoom RX11 D A) (hr : meth.sig.returnType = some .boolean) (hlk : meth.locks = false) {r5 : (Nat → Int32) → (Nat → Int32) → (Nat → Int32) → (Nat → Int32) → (Nat → Int32) → (Nat → Int32) → (Nat → Int32) → (Nat → Int32) → Int32 → Int32 → Int32 → Int32 → Option (Int32 × (Nat → Int32) × (Nat → Int32))} (K5 : ∀ {S : ns_S} {H : Heap} {locs : List Loc} {ls : Array Slot} {l1 : Int32} {l2 : Int32} {l3 : Int32} {l4 : Int32}, ns_W D b ids A s.heap wrX11_getsRoom_62 S0 S H locs → lv_has ls 7 [(0, .ref (b 62)), (1, .int l1), (2, .int l2), (3, .int l3), (4, .int l4)] → r5 (S.2.1 67) (S.2.1 68) (S.2.1 71) (S.2.1 65) (S.2.1 104) (S.2.1 70) (S.2.1 103) (S.2.1 66) l1 l2 l3 l4 = some o → W p l e rmX11_getsRoom_62 s m args below meth c H locs 0 0 (MQ below (ns_Q D b ids (ns_A (ns_A S0 104 o.2.2) 103 o.2.1) (some (.int o.1)) A) args s 0 0 A) (F0 m 5 ls [])) : ∀ {S : ns_S} {H : Heap} {locs : List Loc} {ls : Array Slot} {l1 : Int32} {l2 : Int32} {l3 : Int32} {l4 : Int32}, ns_W D b ids A s.heap wrX11_getsRoom_62 S0 S H locs → lv_has ls 7 [(0, .ref (b 62)), (1, .int l1), (2, .int l2), (3, .int l3), (4, .int l4)] → gX11_getsRoom_79 N r5 (S.2.1 67) (S.2.1 68) (S.2.1 71) (S.2.1 65) (S.2.1 104) (S.2.1 70) (S.2.1 103) (S.2.1 66) l1 l2 l3 l4 = some o → W p l e rmX11_getsRoom_62 s m args below meth c H locs 0 0 (MQ below (ns_Q D b ids (ns_A (ns_A S0 104 o.2.2) 103 o.2.1) (some (.int o.1)) A) args s 0 0 A) (F0 m 79 ls []) := by
  intro S H locs ls l1 l2 l3 l4 w hl hf
  unfold gX11_getsRoom_79 at hf
  refine lv_iconst (v := 1) C.1.1 C.1.2.1 dX11_getsRoom_79 (by decide) ?_
  refine lv_goto (tgt := 84) C.1.1 C.1.2.1 dX11_getsRoom_80 (by decide) ?_
  exact wX11_getsRoom_62_84 N hI C hr hlk K5 w (lv_sub hl [0, 1, 2, 3, 4] rfl) hf
set_option maxHeartbeats 4000000 in
set_option maxRecDepth 100000 in
theorem wX11_getsRoom_62_83 {p : Program} {l : Launch} {e : Env} {s : State} {m : MethodId} {args : Array Value} {below : List Frame} {meth : Method} {c : Code} {D : va_G} {b : Nat → Nat} {ids : List Nat} {A : Nat → Prop} {S0 : ns_S} {o : Int32 × (Nat → Int32) × (Nat → Int32)} (N : Nat) (hI : ∀ i, i < 107 → i ∈ ids) (C : ns_C p m c cX11_getsRoom 7 s args wsX11_getsRoom RX11 D A) (hr : meth.sig.returnType = some .boolean) (hlk : meth.locks = false) {r5 : (Nat → Int32) → (Nat → Int32) → (Nat → Int32) → (Nat → Int32) → (Nat → Int32) → (Nat → Int32) → (Nat → Int32) → (Nat → Int32) → Int32 → Int32 → Int32 → Int32 → Option (Int32 × (Nat → Int32) × (Nat → Int32))} (K5 : ∀ {S : ns_S} {H : Heap} {locs : List Loc} {ls : Array Slot} {l1 : Int32} {l2 : Int32} {l3 : Int32} {l4 : Int32}, ns_W D b ids A s.heap wrX11_getsRoom_62 S0 S H locs → lv_has ls 7 [(0, .ref (b 62)), (1, .int l1), (2, .int l2), (3, .int l3), (4, .int l4)] → r5 (S.2.1 67) (S.2.1 68) (S.2.1 71) (S.2.1 65) (S.2.1 104) (S.2.1 70) (S.2.1 103) (S.2.1 66) l1 l2 l3 l4 = some o → W p l e rmX11_getsRoom_62 s m args below meth c H locs 0 0 (MQ below (ns_Q D b ids (ns_A (ns_A S0 104 o.2.2) 103 o.2.1) (some (.int o.1)) A) args s 0 0 A) (F0 m 5 ls [])) : ∀ {S : ns_S} {H : Heap} {locs : List Loc} {ls : Array Slot} {l1 : Int32} {l2 : Int32} {l3 : Int32} {l4 : Int32}, ns_W D b ids A s.heap wrX11_getsRoom_62 S0 S H locs → lv_has ls 7 [(0, .ref (b 62)), (1, .int l1), (2, .int l2), (3, .int l3), (4, .int l4)] → gX11_getsRoom_83 N r5 (S.2.1 67) (S.2.1 68) (S.2.1 71) (S.2.1 65) (S.2.1 104) (S.2.1 70) (S.2.1 103) (S.2.1 66) l1 l2 l3 l4 = some o → W p l e rmX11_getsRoom_62 s m args below meth c H locs 0 0 (MQ below (ns_Q D b ids (ns_A (ns_A S0 104 o.2.2) 103 o.2.1) (some (.int o.1)) A) args s 0 0 A) (F0 m 83 ls []) := by
  intro S H locs ls l1 l2 l3 l4 w hl hf
  unfold gX11_getsRoom_83 at hf
  refine lv_iconst (v := 0) C.1.1 C.1.2.1 dX11_getsRoom_83 (by decide) ?_
  exact wX11_getsRoom_62_84 N hI C hr hlk K5 w (lv_sub hl [0, 1, 2, 3, 4] rfl) hf
set_option maxHeartbeats 4000000 in
set_option maxRecDepth 100000 in
theorem wX11_getsRoom_62_179 {p : Program} {l : Launch} {e : Env} {s : State} {m : MethodId} {args : Array Value} {below : List Frame} {meth : Method} {c : Code} {D : va_G} {b : Nat → Nat} {ids : List Nat} {A : Nat → Prop} {S0 : ns_S} {o : Int32 × (Nat → Int32) × (Nat → Int32)} (N : Nat) (hI : ∀ i, i < 107 → i ∈ ids) (C : ns_C p m c cX11_getsRoom 7 s args wsX11_getsRoom RX11 D A) (hr : meth.sig.returnType = some .boolean) (hlk : meth.locks = false) {r108 : (Nat → Int32) → (Nat → Int32) → (Nat → Int32) → (Nat → Int32) → (Nat → Int32) → (Nat → Int32) → (Nat → Int32) → (Nat → Int32) → Int32 → Int32 → Int32 → Option (Int32 × (Nat → Int32) × (Nat → Int32))} (K108 : ∀ {S : ns_S} {H : Heap} {locs : List Loc} {ls : Array Slot} {l2 : Int32} {l3 : Int32} {l4 : Int32}, ns_W D b ids A s.heap wrX11_getsRoom_62 S0 S H locs → lv_has ls 7 [(0, .ref (b 62)), (2, .int l2), (3, .int l3), (4, .int l4)] → r108 (S.2.1 67) (S.2.1 68) (S.2.1 71) (S.2.1 65) (S.2.1 104) (S.2.1 70) (S.2.1 103) (S.2.1 66) l2 l3 l4 = some o → W p l e rmX11_getsRoom_62 s m args below meth c H locs 0 0 (MQ below (ns_Q D b ids (ns_A (ns_A S0 104 o.2.2) 103 o.2.1) (some (.int o.1)) A) args s 0 0 A) (F0 m 108 ls [])) {r125 : (Nat → Int32) → (Nat → Int32) → (Nat → Int32) → (Nat → Int32) → (Nat → Int32) → (Nat → Int32) → (Nat → Int32) → (Nat → Int32) → Int32 → Int32 → Int32 → Int32 → Int32 → Option (Int32 × (Nat → Int32) × (Nat → Int32))} (K125 : ∀ {S : ns_S} {H : Heap} {locs : List Loc} {ls : Array Slot} {l2 : Int32} {l3 : Int32} {l4 : Int32} {l5 : Int32} {l6 : Int32}, ns_W D b ids A s.heap wrX11_getsRoom_62 S0 S H locs → lv_has ls 7 [(0, .ref (b 62)), (2, .int l2), (3, .int l3), (4, .int l4), (5, .int l5), (6, .int l6)] → r125 (S.2.1 67) (S.2.1 68) (S.2.1 71) (S.2.1 65) (S.2.1 104) (S.2.1 70) (S.2.1 103) (S.2.1 66) l2 l3 l4 l5 l6 = some o → W p l e rmX11_getsRoom_62 s m args below meth c H locs 0 0 (MQ below (ns_Q D b ids (ns_A (ns_A S0 104 o.2.2) 103 o.2.1) (some (.int o.1)) A) args s 0 0 A) (F0 m 125 ls [])) : ∀ {S : ns_S} {H : Heap} {locs : List Loc} {ls : Array Slot} {l2 : Int32} {l3 : Int32} {l4 : Int32} {l6 : Int32} {s0 : Int32}, ns_W D b ids A s.heap wrX11_getsRoom_62 S0 S H locs → lv_has ls 7 [(0, .ref (b 62)), (2, .int l2), (3, .int l3), (4, .int l4), (6, .int l6)] → gX11_getsRoom_179 N r108 r125 (S.2.1 67) (S.2.1 68) (S.2.1 71) (S.2.1 65) (S.2.1 104) (S.2.1 70) (S.2.1 103) (S.2.1 66) l2 l3 l4 l6 s0 = some o → W p l e rmX11_getsRoom_62 s m args below meth c H locs 0 0 (MQ below (ns_Q D b ids (ns_A (ns_A S0 104 o.2.2) 103 o.2.1) (some (.int o.1)) A) args s 0 0 A) (F0 m 179 ls [.int s0]) := by
  intro S H locs ls l2 l3 l4 l6 s0 w hl hf
  unfold gX11_getsRoom_179 at hf
  refine lv_iconst (v := 1) C.1.1 C.1.2.1 dX11_getsRoom_179 (by decide) ?_
  refine lv_goto (tgt := 184) C.1.1 C.1.2.1 dX11_getsRoom_180 (by decide) ?_
  refine lv_iadd C.1.1 C.1.2.1 dX11_getsRoom_184 ?_
  refine ns_namei hf (fun x1 hf => ?_)
  refine lv_istore (lv' := [(5, .int x1), (0, .ref (b 62)), (2, .int l2), (3, .int l3), (4, .int l4), (6, .int l6)]) C.1.1 C.1.2.1 dX11_getsRoom_185 hl (by decide) rfl (fun ls hl => ?_)
  refine ns_iinc (lv' := fun x2 => [(6, .int x2), (5, .int x1), (0, .ref (b 62)), (2, .int l2), (3, .int l3), (4, .int l4)]) C hf dX11_getsRoom_187 hl (k := 5) rfl rfl (by decide) (fun _ => rfl) (fun x2 ls hl hf => ?_)
  refine lv_goto (tgt := 125) C.1.1 C.1.2.1 dX11_getsRoom_190 (by decide) ?_
  exact K125 w (lv_sub hl [2, 3, 4, 5, 1, 0] rfl) hf
set_option maxHeartbeats 4000000 in
set_option maxRecDepth 100000 in
theorem wX11_getsRoom_62_125 {p : Program} {l : Launch} {e : Env} {s : State} {m : MethodId} {args : Array Value} {below : List Frame} {meth : Method} {c : Code} {D : va_G} {b : Nat → Nat} {ids : List Nat} {A : Nat → Prop} {S0 : ns_S} {o : Int32 × (Nat → Int32) × (Nat → Int32)} (N : Nat) (hI : ∀ i, i < 107 → i ∈ ids) (C : ns_C p m c cX11_getsRoom 7 s args wsX11_getsRoom RX11 D A) (hr : meth.sig.returnType = some .boolean) (hlk : meth.locks = false) {r108 : (Nat → Int32) → (Nat → Int32) → (Nat → Int32) → (Nat → Int32) → (Nat → Int32) → (Nat → Int32) → (Nat → Int32) → (Nat → Int32) → Int32 → Int32 → Int32 → Option (Int32 × (Nat → Int32) × (Nat → Int32))} (K108 : ∀ {S : ns_S} {H : Heap} {locs : List Loc} {ls : Array Slot} {l2 : Int32} {l3 : Int32} {l4 : Int32}, ns_W D b ids A s.heap wrX11_getsRoom_62 S0 S H locs → lv_has ls 7 [(0, .ref (b 62)), (2, .int l2), (3, .int l3), (4, .int l4)] → r108 (S.2.1 67) (S.2.1 68) (S.2.1 71) (S.2.1 65) (S.2.1 104) (S.2.1 70) (S.2.1 103) (S.2.1 66) l2 l3 l4 = some o → W p l e rmX11_getsRoom_62 s m args below meth c H locs 0 0 (MQ below (ns_Q D b ids (ns_A (ns_A S0 104 o.2.2) 103 o.2.1) (some (.int o.1)) A) args s 0 0 A) (F0 m 108 ls [])) : ∀ n : Nat, ∀ {S : ns_S} {H : Heap} {locs : List Loc} {ls : Array Slot} {l2 : Int32} {l3 : Int32} {l4 : Int32} {l5 : Int32} {l6 : Int32}, ns_W D b ids A s.heap wrX11_getsRoom_62 S0 S H locs → lv_has ls 7 [(0, .ref (b 62)), (2, .int l2), (3, .int l3), (4, .int l4), (5, .int l5), (6, .int l6)] → fX11_getsRoom_125 N r108 n (S.2.1 67) (S.2.1 68) (S.2.1 71) (S.2.1 65) (S.2.1 104) (S.2.1 70) (S.2.1 103) (S.2.1 66) l2 l3 l4 l5 l6 = some o → W p l e rmX11_getsRoom_62 s m args below meth c H locs 0 0 (MQ below (ns_Q D b ids (ns_A (ns_A S0 104 o.2.2) 103 o.2.1) (some (.int o.1)) A) args s 0 0 A) (F0 m 125 ls []) := by
  intro n
  induction n with
  | zero =>
    intro S H locs ls l2 l3 l4 l5 l6 w hl hf
    cases hf
  | succ n K125 =>
    intro S H locs ls l2 l3 l4 l5 l6 w hl hf
    change gX11_getsRoom_125 N r108 (fX11_getsRoom_125 N r108 n) (S.2.1 67) (S.2.1 68) (S.2.1 71) (S.2.1 65) (S.2.1 104) (S.2.1 70) (S.2.1 103) (S.2.1 66) l2 l3 l4 l5 l6 = some o at hf
    generalize fX11_getsRoom_125 N r108 n = r125 at hf K125
    unfold gX11_getsRoom_125 at hf
    refine lv_iload C.1.1 C.1.2.1 dX11_getsRoom_125 (lv_at hl 5 rfl) ?_
    refine lv_aload_n C.1.1 C.1.2.1 dX11_getsRoom_127 rfl (lv_at hl 0 rfl) ?_
    refine ns_getr C w 62 (hI 62 (by decide)) sh_62 (rfl : vwCl[11]? = some (RX11, TX11, 59)) inX11_getsRoom_11 4 (by decide) rfl lX11_getsRoom_17 dX11_getsRoom_128 ?_
    refine lv_iconst (v := 0) C.1.1 C.1.2.1 dX11_getsRoom_131 (by decide) ?_
    refine ns_iald C w 65 (hI 65 (by decide)) sh_65 hf rfl dX11_getsRoom_132 (fun x1 hf => ?_)
    refine ns_icmp_ge C hf (tgt := 193) dX11_getsRoom_133 (by decide) (fun hf => ?_) (fun hf => ?_)
    · refine lv_iload C.1.1 C.1.2.1 dX11_getsRoom_193 (lv_at hl 4 rfl) ?_
      refine lv_iload_n C.1.1 C.1.2.1 dX11_getsRoom_195 rfl (lv_at hl 2 rfl) ?_
      refine ns_icmp_ne C hf (tgt := 245) dX11_getsRoom_196 (by decide) (fun hf => ?_) (fun hf => ?_)
      · refine ns_iinc (lv' := fun x2 => [(4, .int x2), (0, .ref (b 62)), (2, .int l2), (3, .int l3), (5, .int l5), (6, .int l6)]) C hf dX11_getsRoom_245 hl (k := 3) rfl rfl (by decide) (fun _ => rfl) (fun x2 ls hl hf => ?_)
        refine lv_goto (tgt := 108) C.1.1 C.1.2.1 dX11_getsRoom_248 (by decide) ?_
        exact K108 w (lv_sub hl [1, 2, 3, 0] rfl) hf
      · refine lv_aload_n C.1.1 C.1.2.1 dX11_getsRoom_199 rfl (lv_at hl 0 rfl) ?_
        refine ns_getr C w 62 (hI 62 (by decide)) sh_62 (rfl : vwCl[11]? = some (RX11, TX11, 59)) inX11_getsRoom_11 53 (by decide) rfl lX11_getsRoom_136 dX11_getsRoom_200 ?_
        refine lv_iload_n C.1.1 C.1.2.1 dX11_getsRoom_203 rfl (lv_at hl 1 rfl) ?_
        refine lv_iload C.1.1 C.1.2.1 dX11_getsRoom_204 (lv_at hl 3 rfl) ?_
        refine ns_iast C w 103 (hI 103 (by decide)) sh_103 hf rfl (List.mem_of_getElem? (i := 0) rfl) dX11_getsRoom_206 (fun y3 H locs hf w => ?_)
        refine lv_aload_n C.1.1 C.1.2.1 dX11_getsRoom_207 rfl (lv_at hl 0 rfl) ?_
        refine ns_getr C w 62 (hI 62 (by decide)) sh_62 (rfl : vwCl[11]? = some (RX11, TX11, 59)) inX11_getsRoom_11 54 (by decide) rfl lX11_getsRoom_139 dX11_getsRoom_208 ?_
        refine lv_iload_n C.1.1 C.1.2.1 dX11_getsRoom_211 rfl (lv_at hl 1 rfl) ?_
        refine lv_aload_n C.1.1 C.1.2.1 dX11_getsRoom_212 rfl (lv_at hl 0 rfl) ?_
        refine ns_getr C w 62 (hI 62 (by decide)) sh_62 (rfl : vwCl[11]? = some (RX11, TX11, 59)) inX11_getsRoom_11 10 (by decide) rfl lX11_getsRoom_36 dX11_getsRoom_213 ?_
        refine lv_iload_n C.1.1 C.1.2.1 dX11_getsRoom_216 rfl (lv_at hl 1 rfl) ?_
        refine ns_iald C w 71 (hI 71 (by decide)) sh_71 hf rfl dX11_getsRoom_217 (fun x4 hf => ?_)
        refine lv_aload_n C.1.1 C.1.2.1 dX11_getsRoom_218 rfl (lv_at hl 0 rfl) ?_
        refine ns_getr C w 62 (hI 62 (by decide)) sh_62 (rfl : vwCl[11]? = some (RX11, TX11, 59)) inX11_getsRoom_11 5 (by decide) rfl lX11_getsRoom_21 dX11_getsRoom_219 ?_
        refine lv_iload C.1.1 C.1.2.1 dX11_getsRoom_222 (lv_at hl 3 rfl) ?_
        refine ns_iald C w 66 (hI 66 (by decide)) sh_66 hf rfl dX11_getsRoom_224 (fun x5 hf => ?_)
        refine ns_icmp_ge C hf (tgt := 237) dX11_getsRoom_225 (by decide) (fun hf => ?_) (fun hf => ?_)
        · refine lv_aload_n C.1.1 C.1.2.1 dX11_getsRoom_237 rfl (lv_at hl 0 rfl) ?_
          refine ns_getr C w 62 (hI 62 (by decide)) sh_62 (rfl : vwCl[11]? = some (RX11, TX11, 59)) inX11_getsRoom_11 5 (by decide) rfl lX11_getsRoom_21 dX11_getsRoom_238 ?_
          refine lv_iload C.1.1 C.1.2.1 dX11_getsRoom_241 (lv_at hl 3 rfl) ?_
          refine ns_iald C w 66 (hI 66 (by decide)) sh_66 hf rfl dX11_getsRoom_243 (fun x6 hf => ?_)
          refine ns_iast C w 104 (hI 104 (by decide)) sh_104 hf rfl (List.mem_of_getElem? (i := 1) rfl) dX11_getsRoom_244 (fun y7 H locs hf w => ?_)
          refine ns_iinc (lv' := fun x8 => [(4, .int x8), (0, .ref (b 62)), (2, .int l2), (3, .int l3), (5, .int l5), (6, .int l6)]) C hf dX11_getsRoom_245 hl (k := 3) rfl rfl (by decide) (fun _ => rfl) (fun x8 ls hl hf => ?_)
          refine lv_goto (tgt := 108) C.1.1 C.1.2.1 dX11_getsRoom_248 (by decide) ?_
          exact K108 w (lv_sub hl [1, 2, 3, 0] rfl) hf
        · refine lv_aload_n C.1.1 C.1.2.1 dX11_getsRoom_228 rfl (lv_at hl 0 rfl) ?_
          refine ns_getr C w 62 (hI 62 (by decide)) sh_62 (rfl : vwCl[11]? = some (RX11, TX11, 59)) inX11_getsRoom_11 10 (by decide) rfl lX11_getsRoom_36 dX11_getsRoom_229 ?_
          refine lv_iload_n C.1.1 C.1.2.1 dX11_getsRoom_232 rfl (lv_at hl 1 rfl) ?_
          refine ns_iald C w 71 (hI 71 (by decide)) sh_71 hf rfl dX11_getsRoom_233 (fun x9 hf => ?_)
          refine lv_goto (tgt := 244) C.1.1 C.1.2.1 dX11_getsRoom_234 (by decide) ?_
          refine ns_iast C w 104 (hI 104 (by decide)) sh_104 hf rfl (List.mem_of_getElem? (i := 1) rfl) dX11_getsRoom_244 (fun y10 H locs hf w => ?_)
          refine ns_iinc (lv' := fun x11 => [(4, .int x11), (0, .ref (b 62)), (2, .int l2), (3, .int l3), (5, .int l5), (6, .int l6)]) C hf dX11_getsRoom_245 hl (k := 3) rfl rfl (by decide) (fun _ => rfl) (fun x11 ls hl hf => ?_)
          refine lv_goto (tgt := 108) C.1.1 C.1.2.1 dX11_getsRoom_248 (by decide) ?_
          exact K108 w (lv_sub hl [1, 2, 3, 0] rfl) hf
    · refine lv_iload C.1.1 C.1.2.1 dX11_getsRoom_136 (lv_at hl 4 rfl) ?_
      refine lv_aload_n C.1.1 C.1.2.1 dX11_getsRoom_138 rfl (lv_at hl 0 rfl) ?_
      refine ns_getr C w 62 (hI 62 (by decide)) sh_62 (rfl : vwCl[11]? = some (RX11, TX11, 59)) inX11_getsRoom_11 5 (by decide) rfl lX11_getsRoom_21 dX11_getsRoom_139 ?_
      refine lv_iload C.1.1 C.1.2.1 dX11_getsRoom_142 (lv_at hl 5 rfl) ?_
      refine ns_iald C w 66 (hI 66 (by decide)) sh_66 hf rfl dX11_getsRoom_144 (fun x12 hf => ?_)
      refine lv_aload_n C.1.1 C.1.2.1 dX11_getsRoom_145 rfl (lv_at hl 0 rfl) ?_
      refine ns_getr C w 62 (hI 62 (by decide)) sh_62 (rfl : vwCl[11]? = some (RX11, TX11, 59)) inX11_getsRoom_11 5 (by decide) rfl lX11_getsRoom_21 dX11_getsRoom_146 ?_
      refine lv_iload C.1.1 C.1.2.1 dX11_getsRoom_149 (lv_at hl 3 rfl) ?_
      refine ns_iald C w 66 (hI 66 (by decide)) sh_66 hf rfl dX11_getsRoom_151 (fun x13 hf => ?_)
      refine ns_icmp_gt C hf (tgt := 179) dX11_getsRoom_152 (by decide) (fun hf => ?_) (fun hf => ?_)
      · exact wX11_getsRoom_62_179 N hI C hr hlk K108 K125 w (lv_sub hl [0, 1, 2, 3, 5] rfl) hf
      · refine lv_aload_n C.1.1 C.1.2.1 dX11_getsRoom_155 rfl (lv_at hl 0 rfl) ?_
        refine ns_getr C w 62 (hI 62 (by decide)) sh_62 (rfl : vwCl[11]? = some (RX11, TX11, 59)) inX11_getsRoom_11 5 (by decide) rfl lX11_getsRoom_21 dX11_getsRoom_156 ?_
        refine lv_iload C.1.1 C.1.2.1 dX11_getsRoom_159 (lv_at hl 5 rfl) ?_
        refine ns_iald C w 66 (hI 66 (by decide)) sh_66 hf rfl dX11_getsRoom_161 (fun x14 hf => ?_)
        refine lv_aload_n C.1.1 C.1.2.1 dX11_getsRoom_162 rfl (lv_at hl 0 rfl) ?_
        refine ns_getr C w 62 (hI 62 (by decide)) sh_62 (rfl : vwCl[11]? = some (RX11, TX11, 59)) inX11_getsRoom_11 5 (by decide) rfl lX11_getsRoom_21 dX11_getsRoom_163 ?_
        refine lv_iload C.1.1 C.1.2.1 dX11_getsRoom_166 (lv_at hl 3 rfl) ?_
        refine ns_iald C w 66 (hI 66 (by decide)) sh_66 hf rfl dX11_getsRoom_168 (fun x15 hf => ?_)
        refine ns_icmp_ne C hf (tgt := 183) dX11_getsRoom_169 (by decide) (fun hf => ?_) (fun hf => ?_)
        · refine lv_iconst (v := 0) C.1.1 C.1.2.1 dX11_getsRoom_183 (by decide) ?_
          refine lv_iadd C.1.1 C.1.2.1 dX11_getsRoom_184 ?_
          refine ns_namei hf (fun x16 hf => ?_)
          refine lv_istore (lv' := [(5, .int x16), (0, .ref (b 62)), (2, .int l2), (3, .int l3), (4, .int l4), (6, .int l6)]) C.1.1 C.1.2.1 dX11_getsRoom_185 hl (by decide) rfl (fun ls hl => ?_)
          refine ns_iinc (lv' := fun x17 => [(6, .int x17), (5, .int x16), (0, .ref (b 62)), (2, .int l2), (3, .int l3), (4, .int l4)]) C hf dX11_getsRoom_187 hl (k := 5) rfl rfl (by decide) (fun _ => rfl) (fun x17 ls hl hf => ?_)
          refine lv_goto (tgt := 125) C.1.1 C.1.2.1 dX11_getsRoom_190 (by decide) ?_
          exact K125 w (lv_sub hl [2, 3, 4, 5, 1, 0] rfl) hf
        · refine lv_iload C.1.1 C.1.2.1 dX11_getsRoom_172 (lv_at hl 5 rfl) ?_
          refine lv_iload C.1.1 C.1.2.1 dX11_getsRoom_174 (lv_at hl 3 rfl) ?_
          refine ns_icmp_ge C hf (tgt := 183) dX11_getsRoom_176 (by decide) (fun hf => ?_) (fun hf => ?_)
          · refine lv_iconst (v := 0) C.1.1 C.1.2.1 dX11_getsRoom_183 (by decide) ?_
            refine lv_iadd C.1.1 C.1.2.1 dX11_getsRoom_184 ?_
            refine ns_namei hf (fun x18 hf => ?_)
            refine lv_istore (lv' := [(5, .int x18), (0, .ref (b 62)), (2, .int l2), (3, .int l3), (4, .int l4), (6, .int l6)]) C.1.1 C.1.2.1 dX11_getsRoom_185 hl (by decide) rfl (fun ls hl => ?_)
            refine ns_iinc (lv' := fun x19 => [(6, .int x19), (5, .int x18), (0, .ref (b 62)), (2, .int l2), (3, .int l3), (4, .int l4)]) C hf dX11_getsRoom_187 hl (k := 5) rfl rfl (by decide) (fun _ => rfl) (fun x19 ls hl hf => ?_)
            refine lv_goto (tgt := 125) C.1.1 C.1.2.1 dX11_getsRoom_190 (by decide) ?_
            exact K125 w (lv_sub hl [2, 3, 4, 5, 1, 0] rfl) hf
          · exact wX11_getsRoom_62_179 N hI C hr hlk K108 K125 w (lv_sub hl [0, 1, 2, 3, 5] rfl) hf
set_option maxHeartbeats 4000000 in
set_option maxRecDepth 100000 in
theorem wX11_getsRoom_62_108 {p : Program} {l : Launch} {e : Env} {s : State} {m : MethodId} {args : Array Value} {below : List Frame} {meth : Method} {c : Code} {D : va_G} {b : Nat → Nat} {ids : List Nat} {A : Nat → Prop} {S0 : ns_S} {o : Int32 × (Nat → Int32) × (Nat → Int32)} (N : Nat) (hI : ∀ i, i < 107 → i ∈ ids) (C : ns_C p m c cX11_getsRoom 7 s args wsX11_getsRoom RX11 D A) (hr : meth.sig.returnType = some .boolean) (hlk : meth.locks = false) : ∀ n : Nat, ∀ {S : ns_S} {H : Heap} {locs : List Loc} {ls : Array Slot} {l2 : Int32} {l3 : Int32} {l4 : Int32}, ns_W D b ids A s.heap wrX11_getsRoom_62 S0 S H locs → lv_has ls 7 [(0, .ref (b 62)), (2, .int l2), (3, .int l3), (4, .int l4)] → fX11_getsRoom_108 N n (S.2.1 67) (S.2.1 68) (S.2.1 71) (S.2.1 65) (S.2.1 104) (S.2.1 70) (S.2.1 103) (S.2.1 66) l2 l3 l4 = some o → W p l e rmX11_getsRoom_62 s m args below meth c H locs 0 0 (MQ below (ns_Q D b ids (ns_A (ns_A S0 104 o.2.2) 103 o.2.1) (some (.int o.1)) A) args s 0 0 A) (F0 m 108 ls []) := by
  intro n
  induction n with
  | zero =>
    intro S H locs ls l2 l3 l4 w hl hf
    cases hf
  | succ n K108 =>
    intro S H locs ls l2 l3 l4 w hl hf
    change gX11_getsRoom_108 N (fX11_getsRoom_108 N n) (S.2.1 67) (S.2.1 68) (S.2.1 71) (S.2.1 65) (S.2.1 104) (S.2.1 70) (S.2.1 103) (S.2.1 66) l2 l3 l4 = some o at hf
    generalize fX11_getsRoom_108 N n = r108 at hf K108
    unfold gX11_getsRoom_108 at hf
    refine lv_iload C.1.1 C.1.2.1 dX11_getsRoom_108 (lv_at hl 3 rfl) ?_
    refine lv_aload_n C.1.1 C.1.2.1 dX11_getsRoom_110 rfl (lv_at hl 0 rfl) ?_
    refine ns_getr C w 62 (hI 62 (by decide)) sh_62 (rfl : vwCl[11]? = some (RX11, TX11, 59)) inX11_getsRoom_11 4 (by decide) rfl lX11_getsRoom_17 dX11_getsRoom_111 ?_
    refine lv_iconst (v := 0) C.1.1 C.1.2.1 dX11_getsRoom_114 (by decide) ?_
    refine ns_iald C w 65 (hI 65 (by decide)) sh_65 hf rfl dX11_getsRoom_115 (fun x1 hf => ?_)
    refine ns_icmp_ge C hf (tgt := 251) dX11_getsRoom_116 (by decide) (fun hf => ?_) (fun hf => ?_)
    · refine lv_aload_n C.1.1 C.1.2.1 dX11_getsRoom_251 rfl (lv_at hl 0 rfl) ?_
      refine ns_getr C w 62 (hI 62 (by decide)) sh_62 (rfl : vwCl[11]? = some (RX11, TX11, 59)) inX11_getsRoom_11 54 (by decide) rfl lX11_getsRoom_139 dX11_getsRoom_252 ?_
      refine lv_iload_n C.1.1 C.1.2.1 dX11_getsRoom_255 rfl (lv_at hl 1 rfl) ?_
      refine ns_iald C w 104 (hI 104 (by decide)) sh_104 hf rfl dX11_getsRoom_256 (fun x2 hf => ?_)
      refine lv_aload_n C.1.1 C.1.2.1 dX11_getsRoom_257 rfl (lv_at hl 0 rfl) ?_
      refine ns_getr C w 62 (hI 62 (by decide)) sh_62 (rfl : vwCl[11]? = some (RX11, TX11, 59)) inX11_getsRoom_11 9 (by decide) rfl lX11_getsRoom_33 dX11_getsRoom_258 ?_
      refine lv_iload_n C.1.1 C.1.2.1 dX11_getsRoom_261 rfl (lv_at hl 1 rfl) ?_
      refine ns_iald C w 70 (hI 70 (by decide)) sh_70 hf rfl dX11_getsRoom_262 (fun x3 hf => ?_)
      refine ns_icmp_lt C hf (tgt := 270) dX11_getsRoom_263 (by decide) (fun hf => ?_) (fun hf => ?_)
      · refine lv_iconst (v := 0) C.1.1 C.1.2.1 dX11_getsRoom_270 (by decide) ?_
        have he := Option.some.inj hf
        subst he
        exact ns_zret C w hr hlk rfl (Or.inl rfl) rfl dX11_getsRoom_271
      · refine lv_iconst (v := 1) C.1.1 C.1.2.1 dX11_getsRoom_266 (by decide) ?_
        refine lv_goto (tgt := 271) C.1.1 C.1.2.1 dX11_getsRoom_267 (by decide) ?_
        have he := Option.some.inj hf
        subst he
        exact ns_zret C w hr hlk rfl (Or.inr rfl) rfl dX11_getsRoom_271
    · refine lv_iconst (v := 0) C.1.1 C.1.2.1 dX11_getsRoom_119 (by decide) ?_
      refine lv_istore (lv' := [(5, .int 0), (0, .ref (b 62)), (2, .int l2), (3, .int l3), (4, .int l4)]) C.1.1 C.1.2.1 dX11_getsRoom_120 hl (by decide) rfl (fun ls hl => ?_)
      refine lv_iconst (v := 0) C.1.1 C.1.2.1 dX11_getsRoom_122 (by decide) ?_
      refine lv_istore (lv' := [(6, .int 0), (5, .int 0), (0, .ref (b 62)), (2, .int l2), (3, .int l3), (4, .int l4)]) C.1.1 C.1.2.1 dX11_getsRoom_123 hl (by decide) rfl (fun ls hl => ?_)
      exact wX11_getsRoom_62_125 N hI C hr hlk K108 N w (lv_sub hl [2, 3, 4, 5, 1, 0] rfl) hf
set_option maxHeartbeats 4000000 in
set_option maxRecDepth 100000 in
theorem wX11_getsRoom_62_5 {p : Program} {l : Launch} {e : Env} {s : State} {m : MethodId} {args : Array Value} {below : List Frame} {meth : Method} {c : Code} {D : va_G} {b : Nat → Nat} {ids : List Nat} {A : Nat → Prop} {S0 : ns_S} {o : Int32 × (Nat → Int32) × (Nat → Int32)} (N : Nat) (hI : ∀ i, i < 107 → i ∈ ids) (C : ns_C p m c cX11_getsRoom 7 s args wsX11_getsRoom RX11 D A) (hr : meth.sig.returnType = some .boolean) (hlk : meth.locks = false) : ∀ n : Nat, ∀ {S : ns_S} {H : Heap} {locs : List Loc} {ls : Array Slot} {l1 : Int32} {l2 : Int32} {l3 : Int32} {l4 : Int32}, ns_W D b ids A s.heap wrX11_getsRoom_62 S0 S H locs → lv_has ls 7 [(0, .ref (b 62)), (1, .int l1), (2, .int l2), (3, .int l3), (4, .int l4)] → fX11_getsRoom_5 N n (S.2.1 67) (S.2.1 68) (S.2.1 71) (S.2.1 65) (S.2.1 104) (S.2.1 70) (S.2.1 103) (S.2.1 66) l1 l2 l3 l4 = some o → W p l e rmX11_getsRoom_62 s m args below meth c H locs 0 0 (MQ below (ns_Q D b ids (ns_A (ns_A S0 104 o.2.2) 103 o.2.1) (some (.int o.1)) A) args s 0 0 A) (F0 m 5 ls []) := by
  intro n
  induction n with
  | zero =>
    intro S H locs ls l1 l2 l3 l4 w hl hf
    cases hf
  | succ n K5 =>
    intro S H locs ls l1 l2 l3 l4 w hl hf
    change gX11_getsRoom_5 N (fX11_getsRoom_5 N n) (S.2.1 67) (S.2.1 68) (S.2.1 71) (S.2.1 65) (S.2.1 104) (S.2.1 70) (S.2.1 103) (S.2.1 66) l1 l2 l3 l4 = some o at hf
    generalize fX11_getsRoom_5 N n = r5 at hf K5
    unfold gX11_getsRoom_5 at hf
    refine lv_iload C.1.1 C.1.2.1 dX11_getsRoom_5 (lv_at hl 4 rfl) ?_
    refine lv_aload_n C.1.1 C.1.2.1 dX11_getsRoom_7 rfl (lv_at hl 0 rfl) ?_
    refine ns_getr C w 62 (hI 62 (by decide)) sh_62 (rfl : vwCl[11]? = some (RX11, TX11, 59)) inX11_getsRoom_11 6 (by decide) rfl lX11_getsRoom_24 dX11_getsRoom_8 ?_
    refine lv_iconst (v := 0) C.1.1 C.1.2.1 dX11_getsRoom_11 (by decide) ?_
    refine ns_iald C w 67 (hI 67 (by decide)) sh_67 hf rfl dX11_getsRoom_12 (fun x1 hf => ?_)
    refine ns_icmp_ge C hf (tgt := 105) dX11_getsRoom_13 (by decide) (fun hf => ?_) (fun hf => ?_)
    · refine lv_iconst (v := 0) C.1.1 C.1.2.1 dX11_getsRoom_105 (by decide) ?_
      refine lv_istore (lv' := [(4, .int 0), (0, .ref (b 62)), (1, .int l1), (2, .int l2), (3, .int l3)]) C.1.1 C.1.2.1 dX11_getsRoom_106 hl (by decide) rfl (fun ls hl => ?_)
      exact wX11_getsRoom_62_108 N hI C hr hlk N w (lv_sub hl [1, 3, 4, 0] rfl) hf
    · refine lv_iload_n C.1.1 C.1.2.1 dX11_getsRoom_16 rfl (lv_at hl 1 rfl) ?_
      refine lv_iload C.1.1 C.1.2.1 dX11_getsRoom_17 (lv_at hl 4 rfl) ?_
      refine lv_ishr C.1.1 C.1.2.1 dX11_getsRoom_19 ?_
      refine lv_iconst (v := 1) C.1.1 C.1.2.1 dX11_getsRoom_20 (by decide) ?_
      refine lv_iand C.1.1 C.1.2.1 dX11_getsRoom_21 ?_
      refine ns_if_eq C hf (tgt := 83) dX11_getsRoom_22 (by decide) (fun hf => ?_) (fun hf => ?_)
      · exact wX11_getsRoom_62_83 N hI C hr hlk K5 w (lv_sub hl [0, 1, 2, 3, 4] rfl) hf
      · refine lv_aload_n C.1.1 C.1.2.1 dX11_getsRoom_25 rfl (lv_at hl 0 rfl) ?_
        refine ns_getr C w 62 (hI 62 (by decide)) sh_62 (rfl : vwCl[11]? = some (RX11, TX11, 59)) inX11_getsRoom_11 7 (by decide) rfl lX11_getsRoom_27 dX11_getsRoom_26 ?_
        refine lv_iload C.1.1 C.1.2.1 dX11_getsRoom_29 (lv_at hl 4 rfl) ?_
        refine ns_iald C w 68 (hI 68 (by decide)) sh_68 hf rfl dX11_getsRoom_31 (fun x2 hf => ?_)
        refine lv_aload_n C.1.1 C.1.2.1 dX11_getsRoom_32 rfl (lv_at hl 0 rfl) ?_
        refine ns_getr C w 62 (hI 62 (by decide)) sh_62 (rfl : vwCl[11]? = some (RX11, TX11, 59)) inX11_getsRoom_11 7 (by decide) rfl lX11_getsRoom_27 dX11_getsRoom_33 ?_
        refine lv_iload_n C.1.1 C.1.2.1 dX11_getsRoom_36 rfl (lv_at hl 2 rfl) ?_
        refine ns_iald C w 68 (hI 68 (by decide)) sh_68 hf rfl dX11_getsRoom_37 (fun x3 hf => ?_)
        refine ns_icmp_ne C hf (tgt := 83) dX11_getsRoom_38 (by decide) (fun hf => ?_) (fun hf => ?_)
        · exact wX11_getsRoom_62_83 N hI C hr hlk K5 w (lv_sub hl [0, 1, 2, 3, 4] rfl) hf
        · refine lv_aload_n C.1.1 C.1.2.1 dX11_getsRoom_41 rfl (lv_at hl 0 rfl) ?_
          refine ns_getr C w 62 (hI 62 (by decide)) sh_62 (rfl : vwCl[11]? = some (RX11, TX11, 59)) inX11_getsRoom_11 10 (by decide) rfl lX11_getsRoom_36 dX11_getsRoom_42 ?_
          refine lv_iload C.1.1 C.1.2.1 dX11_getsRoom_45 (lv_at hl 4 rfl) ?_
          refine ns_iald C w 71 (hI 71 (by decide)) sh_71 hf rfl dX11_getsRoom_47 (fun x4 hf => ?_)
          refine lv_aload_n C.1.1 C.1.2.1 dX11_getsRoom_48 rfl (lv_at hl 0 rfl) ?_
          refine ns_getr C w 62 (hI 62 (by decide)) sh_62 (rfl : vwCl[11]? = some (RX11, TX11, 59)) inX11_getsRoom_11 10 (by decide) rfl lX11_getsRoom_36 dX11_getsRoom_49 ?_
          refine lv_iload_n C.1.1 C.1.2.1 dX11_getsRoom_52 rfl (lv_at hl 2 rfl) ?_
          refine ns_iald C w 71 (hI 71 (by decide)) sh_71 hf rfl dX11_getsRoom_53 (fun x5 hf => ?_)
          refine ns_icmp_gt C hf (tgt := 79) dX11_getsRoom_54 (by decide) (fun hf => ?_) (fun hf => ?_)
          · exact wX11_getsRoom_62_79 N hI C hr hlk K5 w (lv_sub hl [0, 1, 2, 3, 4] rfl) hf
          · refine lv_aload_n C.1.1 C.1.2.1 dX11_getsRoom_57 rfl (lv_at hl 0 rfl) ?_
            refine ns_getr C w 62 (hI 62 (by decide)) sh_62 (rfl : vwCl[11]? = some (RX11, TX11, 59)) inX11_getsRoom_11 10 (by decide) rfl lX11_getsRoom_36 dX11_getsRoom_58 ?_
            refine lv_iload C.1.1 C.1.2.1 dX11_getsRoom_61 (lv_at hl 4 rfl) ?_
            refine ns_iald C w 71 (hI 71 (by decide)) sh_71 hf rfl dX11_getsRoom_63 (fun x6 hf => ?_)
            refine lv_aload_n C.1.1 C.1.2.1 dX11_getsRoom_64 rfl (lv_at hl 0 rfl) ?_
            refine ns_getr C w 62 (hI 62 (by decide)) sh_62 (rfl : vwCl[11]? = some (RX11, TX11, 59)) inX11_getsRoom_11 10 (by decide) rfl lX11_getsRoom_36 dX11_getsRoom_65 ?_
            refine lv_iload_n C.1.1 C.1.2.1 dX11_getsRoom_68 rfl (lv_at hl 2 rfl) ?_
            refine ns_iald C w 71 (hI 71 (by decide)) sh_71 hf rfl dX11_getsRoom_69 (fun x7 hf => ?_)
            refine ns_icmp_ne C hf (tgt := 83) dX11_getsRoom_70 (by decide) (fun hf => ?_) (fun hf => ?_)
            · exact wX11_getsRoom_62_83 N hI C hr hlk K5 w (lv_sub hl [0, 1, 2, 3, 4] rfl) hf
            · refine lv_iload C.1.1 C.1.2.1 dX11_getsRoom_73 (lv_at hl 4 rfl) ?_
              refine lv_iload_n C.1.1 C.1.2.1 dX11_getsRoom_75 rfl (lv_at hl 2 rfl) ?_
              refine ns_icmp_ge C hf (tgt := 83) dX11_getsRoom_76 (by decide) (fun hf => ?_) (fun hf => ?_)
              · exact wX11_getsRoom_62_83 N hI C hr hlk K5 w (lv_sub hl [0, 1, 2, 3, 4] rfl) hf
              · exact wX11_getsRoom_62_79 N hI C hr hlk K5 w (lv_sub hl [0, 1, 2, 3, 4] rfl) hf
set_option maxHeartbeats 4000000 in
set_option maxRecDepth 100000 in
theorem mX11_getsRoom_62 (l : Launch) (D : va_G) (b : Nat → Nat) (ids : List Nat) (hI : ∀ i, i < 107 → i ∈ ids) (N : Nat) (S : ns_S) (p1 : Int32) (p2 : Int32) {o : Int32 × (Nat → Int32) × (Nat → Int32)} (hf : fX11_getsRoom N (S.2.1 67) (S.2.1 68) (S.2.1 71) (S.2.1 65) (S.2.1 104) (S.2.1 70) (S.2.1 103) (S.2.1 66) p1 p2 = some o) : ns_M l yX11_getsRoom wsX11_getsRoom rmX11_getsRoom_62 D b ids S [.ref (b 62), .int p1, .int p2] (some (.int o.1)) (ns_A (ns_A S 104 o.2.2) 103 o.2.1) := by
  refine ns_start (Wr := wrX11_getsRoom_62) (by decide) rfl (Nat.le_of_ble_eq_true rfl) ?_
  intro p e s m below meth c A ls C hr hlk w hl
  have hl : lv_has ls 7 [(0, .ref (b 62)), (1, .int p1), (2, .int p2)] := hl
  unfold fX11_getsRoom at hf
  refine lv_iconst (v := 0) C.1.1 C.1.2.1 dX11_getsRoom_0 (by decide) ?_
  refine lv_istore_n (lv' := [(3, .int 0), (0, .ref (b 62)), (1, .int p1), (2, .int p2)]) C.1.1 C.1.2.1 dX11_getsRoom_1 rfl hl (by decide) rfl (fun ls hl => ?_)
  refine lv_iconst (v := 0) C.1.1 C.1.2.1 dX11_getsRoom_2 (by decide) ?_
  refine lv_istore (lv' := [(4, .int 0), (3, .int 0), (0, .ref (b 62)), (1, .int p1), (2, .int p2)]) C.1.1 C.1.2.1 dX11_getsRoom_3 hl (by decide) rfl (fun ls hl => ?_)
  exact wX11_getsRoom_62_5 N hI C hr hlk N w (lv_sub hl [2, 3, 4, 1, 0] rfl) hf
theorem lX11_can_17 : Cond.fieldLink RX11 17 (TX11 4).1 (TX11 4).2.1 (TX11 4).2.2.1 ∈ wsX11_can := List.mem_of_getElem? (i := 4) rfl
theorem lX11_can_24 : Cond.fieldLink RX11 24 (TX11 6).1 (TX11 6).2.1 (TX11 6).2.2.1 ∈ wsX11_can := List.mem_of_getElem? (i := 1) rfl
theorem lX11_can_27 : Cond.fieldLink RX11 27 (TX11 7).1 (TX11 7).2.1 (TX11 7).2.2.1 ∈ wsX11_can := List.mem_of_getElem? (i := 2) rfl
theorem lX11_can_30 : Cond.fieldLink RX11 30 (TX11 8).1 (TX11 8).2.1 (TX11 8).2.2.1 ∈ wsX11_can := List.mem_of_getElem? (i := 3) rfl
theorem inX11_can_11 : ∀ w ∈ u_ws RX11 TX11 59, w ∈ wsX11_can := fun _ h => List.mem_cons_of_mem _ (List.mem_append_right _ h)
theorem hdX11_can : yX11_can.cls = RX11 ∧ yX11_can.cls ≠ "java/lang/invoke/MethodHandle" ∧ yX11_can.cls ≠ "java/lang/invoke/VarHandle" ∧ (parseMethodDescriptor yX11_can.desc).map (fun d => d.parameters.length) = some 1 := by decide +kernel
abbrev wrX11_can_62 : List (Nat × Nat) := [(1, 103), (1, 104)]
abbrev rmX11_can_62 : Room := { frames := 1, cells := 0, slots := 0, locals := 26 }
set_option maxHeartbeats 4000000 in
set_option maxRecDepth 100000 in
theorem wX11_can_62_29 {p : Program} {l : Launch} {e : Env} {s : State} {m : MethodId} {args : Array Value} {below : List Frame} {meth : Method} {c : Code} {D : va_G} {b : Nat → Nat} {ids : List Nat} {A : Nat → Prop} {S0 : ns_S} {o : Int32 × (Nat → Int32) × (Nat → Int32)} (N : Nat) (hI : ∀ i, i < 107 → i ∈ ids) (C : ns_C p m c cX11_can 5 s args wsX11_can RX11 D A) (hr : meth.sig.returnType = some .boolean) (hlk : meth.locks = false) {r19 : (Nat → Int32) → (Nat → Int32) → (Nat → Int32) → (Nat → Int32) → (Nat → Int32) → (Nat → Int32) → (Nat → Int32) → (Nat → Int32) → (Nat → Int32) → Int32 → Int32 → Option (Int32 × (Nat → Int32) × (Nat → Int32))} (K19 : ∀ {S : ns_S} {H : Heap} {locs : List Loc} {ls : Array Slot} {l1 : Int32} {l2 : Int32}, ns_W D b ids A s.heap wrX11_can_62 S0 S H locs → lv_has ls 5 [(0, .ref (b 62)), (1, .int l1), (2, .int l2)] → r19 (S.2.1 67) (S.2.1 65) (S.2.1 68) (S.2.1 69) (S.2.1 71) (S.2.1 104) (S.2.1 70) (S.2.1 103) (S.2.1 66) l1 l2 = some o → W p l e rmX11_can_62 s m args below meth c H locs 0 0 (MQ below (ns_Q D b ids (ns_A (ns_A S0 104 o.2.2) 103 o.2.1) (some (.int o.1)) A) args s 0 0 A) (F0 m 19 ls [])) : ∀ n : Nat, ∀ {S : ns_S} {H : Heap} {locs : List Loc} {ls : Array Slot} {l1 : Int32} {l2 : Int32} {l3 : Int32} {l4 : Int32}, ns_W D b ids A s.heap wrX11_can_62 S0 S H locs → lv_has ls 5 [(0, .ref (b 62)), (1, .int l1), (2, .int l2), (3, .int l3), (4, .int l4)] → fX11_can_29 N r19 n (S.2.1 67) (S.2.1 65) (S.2.1 68) (S.2.1 69) (S.2.1 71) (S.2.1 104) (S.2.1 70) (S.2.1 103) (S.2.1 66) l1 l2 l3 l4 = some o → W p l e rmX11_can_62 s m args below meth c H locs 0 0 (MQ below (ns_Q D b ids (ns_A (ns_A S0 104 o.2.2) 103 o.2.1) (some (.int o.1)) A) args s 0 0 A) (F0 m 29 ls []) := by
  intro n
  induction n with
  | zero =>
    intro S H locs ls l1 l2 l3 l4 w hl hf
    cases hf
  | succ n K29 =>
    intro S H locs ls l1 l2 l3 l4 w hl hf
    change gX11_can_29 N r19 (fX11_can_29 N r19 n) (S.2.1 67) (S.2.1 65) (S.2.1 68) (S.2.1 69) (S.2.1 71) (S.2.1 104) (S.2.1 70) (S.2.1 103) (S.2.1 66) l1 l2 l3 l4 = some o at hf
    generalize fX11_can_29 N r19 n = r29 at hf K29
    unfold gX11_can_29 at hf
    refine lv_iload C.1.1 C.1.2.1 dX11_can_29 (lv_at hl 4 rfl) ?_
    refine lv_aload_n C.1.1 C.1.2.1 dX11_can_31 rfl (lv_at hl 0 rfl) ?_
    refine ns_getr C w 62 (hI 62 (by decide)) sh_62 (rfl : vwCl[11]? = some (RX11, TX11, 59)) inX11_can_11 6 (by decide) rfl lX11_can_24 dX11_can_32 ?_
    refine lv_iconst (v := 0) C.1.1 C.1.2.1 dX11_can_35 (by decide) ?_
    refine ns_iald C w 67 (hI 67 (by decide)) sh_67 hf rfl dX11_can_36 (fun x1 hf => ?_)
    refine ns_icmp_ge C hf (tgt := 94) dX11_can_37 (by decide) (fun hf => ?_) (fun hf => ?_)
    · refine lv_iload_n C.1.1 C.1.2.1 dX11_can_94 rfl (lv_at hl 3 rfl) ?_
      refine ns_callS C w [.int l3] hf (fun u hu => mX11_ones l D b ids hI N _ l3 hu) gX11_can_X11_ones rfl rfl rfl hdX11_ones ⟨Nat.le_of_ble_eq_true rfl, Nat.le_of_ble_eq_true rfl⟩ (fun u h => h) rfl hl.1 rfl (Nat.le_of_ble_eq_true rfl) ⟨Nat.le_refl _, Nat.le_refl _⟩ dX11_can_95 (fun o2 H locs hf w => ?_)
      refine lv_aload_n C.1.1 C.1.2.1 dX11_can_98 rfl (lv_at hl 0 rfl) ?_
      refine ns_getr C w 62 (hI 62 (by decide)) sh_62 (rfl : vwCl[11]? = some (RX11, TX11, 59)) inX11_can_11 4 (by decide) rfl lX11_can_17 dX11_can_99 ?_
      refine lv_iconst (v := 0) C.1.1 C.1.2.1 dX11_can_102 (by decide) ?_
      refine ns_iald C w 65 (hI 65 (by decide)) sh_65 hf rfl dX11_can_103 (fun x3 hf => ?_)
      refine ns_icmp_le C hf (tgt := 109) dX11_can_104 (by decide) (fun hf => ?_) (fun hf => ?_)
      · refine ns_iinc (lv' := fun x4 => [(2, .int x4), (0, .ref (b 62)), (1, .int l1), (3, .int l3), (4, .int l4)]) C hf dX11_can_109 hl (k := 2) rfl rfl (by decide) (fun _ => rfl) (fun x4 ls hl hf => ?_)
        refine lv_goto (tgt := 19) C.1.1 C.1.2.1 dX11_can_112 (by decide) ?_
        exact K19 w (lv_sub hl [1, 2, 0] rfl) hf
      · refine lv_iconst (v := 0) C.1.1 C.1.2.1 dX11_can_107 (by decide) ?_
        have he := Option.some.inj hf
        subst he
        exact ns_zret C w hr hlk rfl (Or.inl rfl) rfl dX11_can_108
    · refine lv_iload_n C.1.1 C.1.2.1 dX11_can_40 rfl (lv_at hl 1 rfl) ?_
      refine lv_iload C.1.1 C.1.2.1 dX11_can_41 (lv_at hl 4 rfl) ?_
      refine lv_ishr C.1.1 C.1.2.1 dX11_can_43 ?_
      refine lv_iconst (v := 1) C.1.1 C.1.2.1 dX11_can_44 (by decide) ?_
      refine lv_iand C.1.1 C.1.2.1 dX11_can_45 ?_
      refine ns_if_eq C hf (tgt := 88) dX11_can_46 (by decide) (fun hf => ?_) (fun hf => ?_)
      · refine ns_iinc (lv' := fun x5 => [(4, .int x5), (0, .ref (b 62)), (1, .int l1), (2, .int l2), (3, .int l3)]) C hf dX11_can_88 hl (k := 4) rfl rfl (by decide) (fun _ => rfl) (fun x5 ls hl hf => ?_)
        refine lv_goto (tgt := 29) C.1.1 C.1.2.1 dX11_can_91 (by decide) ?_
        exact K29 w (lv_sub hl [1, 2, 3, 4, 0] rfl) hf
      · refine lv_aload_n C.1.1 C.1.2.1 dX11_can_49 rfl (lv_at hl 0 rfl) ?_
        refine ns_getr C w 62 (hI 62 (by decide)) sh_62 (rfl : vwCl[11]? = some (RX11, TX11, 59)) inX11_can_11 7 (by decide) rfl lX11_can_27 dX11_can_50 ?_
        refine lv_iload C.1.1 C.1.2.1 dX11_can_53 (lv_at hl 4 rfl) ?_
        refine ns_iald C w 68 (hI 68 (by decide)) sh_68 hf rfl dX11_can_55 (fun x6 hf => ?_)
        refine lv_iload_n C.1.1 C.1.2.1 dX11_can_56 rfl (lv_at hl 2 rfl) ?_
        refine ns_icmp_ne C hf (tgt := 88) dX11_can_57 (by decide) (fun hf => ?_) (fun hf => ?_)
        · refine ns_iinc (lv' := fun x7 => [(4, .int x7), (0, .ref (b 62)), (1, .int l1), (2, .int l2), (3, .int l3)]) C hf dX11_can_88 hl (k := 4) rfl rfl (by decide) (fun _ => rfl) (fun x7 ls hl hf => ?_)
          refine lv_goto (tgt := 29) C.1.1 C.1.2.1 dX11_can_91 (by decide) ?_
          exact K29 w (lv_sub hl [1, 2, 3, 4, 0] rfl) hf
        · refine lv_iload_n C.1.1 C.1.2.1 dX11_can_60 rfl (lv_at hl 3 rfl) ?_
          refine lv_aload_n C.1.1 C.1.2.1 dX11_can_61 rfl (lv_at hl 0 rfl) ?_
          refine ns_getr C w 62 (hI 62 (by decide)) sh_62 (rfl : vwCl[11]? = some (RX11, TX11, 59)) inX11_can_11 8 (by decide) rfl lX11_can_30 dX11_can_62 ?_
          refine lv_iload C.1.1 C.1.2.1 dX11_can_65 (lv_at hl 4 rfl) ?_
          refine ns_iald C w 69 (hI 69 (by decide)) sh_69 hf rfl dX11_can_67 (fun x8 hf => ?_)
          refine lv_ishr C.1.1 C.1.2.1 dX11_can_68 ?_
          refine lv_iconst (v := 1) C.1.1 C.1.2.1 dX11_can_69 (by decide) ?_
          refine lv_iand C.1.1 C.1.2.1 dX11_can_70 ?_
          refine ns_if_eq C hf (tgt := 76) dX11_can_71 (by decide) (fun hf => ?_) (fun hf => ?_)
          · refine lv_iload_n C.1.1 C.1.2.1 dX11_can_76 rfl (lv_at hl 3 rfl) ?_
            refine lv_iconst (v := 1) C.1.1 C.1.2.1 dX11_can_77 (by decide) ?_
            refine lv_aload_n C.1.1 C.1.2.1 dX11_can_78 rfl (lv_at hl 0 rfl) ?_
            refine ns_getr C w 62 (hI 62 (by decide)) sh_62 (rfl : vwCl[11]? = some (RX11, TX11, 59)) inX11_can_11 8 (by decide) rfl lX11_can_30 dX11_can_79 ?_
            refine lv_iload C.1.1 C.1.2.1 dX11_can_82 (lv_at hl 4 rfl) ?_
            refine ns_iald C w 69 (hI 69 (by decide)) sh_69 hf rfl dX11_can_84 (fun x9 hf => ?_)
            refine lv_ishl C.1.1 C.1.2.1 dX11_can_85 ?_
            refine lv_ior C.1.1 C.1.2.1 dX11_can_86 ?_
            refine ns_namei hf (fun x10 hf => ?_)
            refine lv_istore_n (lv' := [(3, .int x10), (0, .ref (b 62)), (1, .int l1), (2, .int l2), (4, .int l4)]) C.1.1 C.1.2.1 dX11_can_87 rfl hl (by decide) rfl (fun ls hl => ?_)
            refine ns_iinc (lv' := fun x11 => [(4, .int x11), (3, .int x10), (0, .ref (b 62)), (1, .int l1), (2, .int l2)]) C hf dX11_can_88 hl (k := 4) rfl rfl (by decide) (fun _ => rfl) (fun x11 ls hl hf => ?_)
            refine lv_goto (tgt := 29) C.1.1 C.1.2.1 dX11_can_91 (by decide) ?_
            exact K29 w (lv_sub hl [2, 3, 4, 1, 0] rfl) hf
          · refine lv_iconst (v := 0) C.1.1 C.1.2.1 dX11_can_74 (by decide) ?_
            have he := Option.some.inj hf
            subst he
            exact ns_zret C w hr hlk rfl (Or.inl rfl) rfl dX11_can_75
set_option maxHeartbeats 4000000 in
set_option maxRecDepth 100000 in
theorem wX11_can_62_117 {p : Program} {l : Launch} {e : Env} {s : State} {m : MethodId} {args : Array Value} {below : List Frame} {meth : Method} {c : Code} {D : va_G} {b : Nat → Nat} {ids : List Nat} {A : Nat → Prop} {S0 : ns_S} {o : Int32 × (Nat → Int32) × (Nat → Int32)} (N : Nat) (hI : ∀ i, i < 107 → i ∈ ids) (C : ns_C p m c cX11_can 5 s args wsX11_can RX11 D A) (hr : meth.sig.returnType = some .boolean) (hlk : meth.locks = false) : ∀ n : Nat, ∀ {S : ns_S} {H : Heap} {locs : List Loc} {ls : Array Slot} {l1 : Int32} {l2 : Int32}, ns_W D b ids A s.heap wrX11_can_62 S0 S H locs → lv_has ls 5 [(0, .ref (b 62)), (1, .int l1), (2, .int l2)] → fX11_can_117 N n (S.2.1 67) (S.2.1 65) (S.2.1 68) (S.2.1 69) (S.2.1 71) (S.2.1 104) (S.2.1 70) (S.2.1 103) (S.2.1 66) l1 l2 = some o → W p l e rmX11_can_62 s m args below meth c H locs 0 0 (MQ below (ns_Q D b ids (ns_A (ns_A S0 104 o.2.2) 103 o.2.1) (some (.int o.1)) A) args s 0 0 A) (F0 m 117 ls []) := by
  intro n
  induction n with
  | zero =>
    intro S H locs ls l1 l2 w hl hf
    cases hf
  | succ n K117 =>
    intro S H locs ls l1 l2 w hl hf
    change gX11_can_117 N (fX11_can_117 N n) (S.2.1 67) (S.2.1 65) (S.2.1 68) (S.2.1 69) (S.2.1 71) (S.2.1 104) (S.2.1 70) (S.2.1 103) (S.2.1 66) l1 l2 = some o at hf
    generalize fX11_can_117 N n = r117 at hf K117
    unfold gX11_can_117 at hf
    refine lv_iload_n C.1.1 C.1.2.1 dX11_can_117 rfl (lv_at hl 2 rfl) ?_
    refine lv_aload_n C.1.1 C.1.2.1 dX11_can_118 rfl (lv_at hl 0 rfl) ?_
    refine ns_getr C w 62 (hI 62 (by decide)) sh_62 (rfl : vwCl[11]? = some (RX11, TX11, 59)) inX11_can_11 6 (by decide) rfl lX11_can_24 dX11_can_119 ?_
    refine lv_iconst (v := 0) C.1.1 C.1.2.1 dX11_can_122 (by decide) ?_
    refine ns_iald C w 67 (hI 67 (by decide)) sh_67 hf rfl dX11_can_123 (fun x1 hf => ?_)
    refine ns_icmp_ge C hf (tgt := 152) dX11_can_124 (by decide) (fun hf => ?_) (fun hf => ?_)
    · refine lv_iconst (v := 1) C.1.1 C.1.2.1 dX11_can_152 (by decide) ?_
      have he := Option.some.inj hf
      subst he
      exact ns_zret C w hr hlk rfl (Or.inr rfl) rfl dX11_can_153
    · refine lv_iload_n C.1.1 C.1.2.1 dX11_can_127 rfl (lv_at hl 1 rfl) ?_
      refine lv_iload_n C.1.1 C.1.2.1 dX11_can_128 rfl (lv_at hl 2 rfl) ?_
      refine lv_ishr C.1.1 C.1.2.1 dX11_can_129 ?_
      refine lv_iconst (v := 1) C.1.1 C.1.2.1 dX11_can_130 (by decide) ?_
      refine lv_iand C.1.1 C.1.2.1 dX11_can_131 ?_
      refine ns_if_eq C hf (tgt := 146) dX11_can_132 (by decide) (fun hf => ?_) (fun hf => ?_)
      · refine ns_iinc (lv' := fun x2 => [(2, .int x2), (0, .ref (b 62)), (1, .int l1)]) C hf dX11_can_146 hl (k := 2) rfl rfl (by decide) (fun _ => rfl) (fun x2 ls hl hf => ?_)
        refine lv_goto (tgt := 117) C.1.1 C.1.2.1 dX11_can_149 (by decide) ?_
        exact K117 w (lv_sub hl [1, 2, 0] rfl) hf
      · refine lv_aload_n C.1.1 C.1.2.1 dX11_can_135 rfl (lv_at hl 0 rfl) ?_
        refine lv_iload_n C.1.1 C.1.2.1 dX11_can_136 rfl (lv_at hl 1 rfl) ?_
        refine lv_iload_n C.1.1 C.1.2.1 dX11_can_137 rfl (lv_at hl 2 rfl) ?_
        refine ns_callV C w 62 (hI 62 (by decide)) sh_62 (rfl : vwCl[11]? = some (RX11, TX11, 59)) [.int l1, .int l2] hf (fun u hu => mX11_getsRoom_62 l D b ids hI N _ l1 l2 hu) gX11_can_X11_getsRoom rfl rfl rfl hdX11_getsRoom ⟨Nat.le_of_ble_eq_true rfl, Nat.le_of_ble_eq_true rfl⟩ (fun u h => ((h.A (List.mem_of_getElem? (i := 1) rfl) _).A (List.mem_of_getElem? (i := 0) rfl) _)) rfl hl.1 rfl (Nat.le_of_ble_eq_true rfl) ⟨Nat.le_refl _, Nat.le_refl _⟩ dX11_can_138 (fun o3 H locs hf w => ?_)
        refine ns_if_ne C hf (tgt := 146) dX11_can_141 (by decide) (fun hf => ?_) (fun hf => ?_)
        · refine ns_iinc (lv' := fun x4 => [(2, .int x4), (0, .ref (b 62)), (1, .int l1)]) C hf dX11_can_146 hl (k := 2) rfl rfl (by decide) (fun _ => rfl) (fun x4 ls hl hf => ?_)
          refine lv_goto (tgt := 117) C.1.1 C.1.2.1 dX11_can_149 (by decide) ?_
          exact K117 w (lv_sub hl [1, 2, 0] rfl) hf
        · refine lv_iconst (v := 0) C.1.1 C.1.2.1 dX11_can_144 (by decide) ?_
          have he := Option.some.inj hf
          subst he
          exact ns_zret C w hr hlk rfl (Or.inl rfl) rfl dX11_can_145
set_option maxHeartbeats 4000000 in
set_option maxRecDepth 100000 in
theorem wX11_can_62_19 {p : Program} {l : Launch} {e : Env} {s : State} {m : MethodId} {args : Array Value} {below : List Frame} {meth : Method} {c : Code} {D : va_G} {b : Nat → Nat} {ids : List Nat} {A : Nat → Prop} {S0 : ns_S} {o : Int32 × (Nat → Int32) × (Nat → Int32)} (N : Nat) (hI : ∀ i, i < 107 → i ∈ ids) (C : ns_C p m c cX11_can 5 s args wsX11_can RX11 D A) (hr : meth.sig.returnType = some .boolean) (hlk : meth.locks = false) : ∀ n : Nat, ∀ {S : ns_S} {H : Heap} {locs : List Loc} {ls : Array Slot} {l1 : Int32} {l2 : Int32}, ns_W D b ids A s.heap wrX11_can_62 S0 S H locs → lv_has ls 5 [(0, .ref (b 62)), (1, .int l1), (2, .int l2)] → fX11_can_19 N n (S.2.1 67) (S.2.1 65) (S.2.1 68) (S.2.1 69) (S.2.1 71) (S.2.1 104) (S.2.1 70) (S.2.1 103) (S.2.1 66) l1 l2 = some o → W p l e rmX11_can_62 s m args below meth c H locs 0 0 (MQ below (ns_Q D b ids (ns_A (ns_A S0 104 o.2.2) 103 o.2.1) (some (.int o.1)) A) args s 0 0 A) (F0 m 19 ls []) := by
  intro n
  induction n with
  | zero =>
    intro S H locs ls l1 l2 w hl hf
    cases hf
  | succ n K19 =>
    intro S H locs ls l1 l2 w hl hf
    change gX11_can_19 N (fX11_can_19 N n) (S.2.1 67) (S.2.1 65) (S.2.1 68) (S.2.1 69) (S.2.1 71) (S.2.1 104) (S.2.1 70) (S.2.1 103) (S.2.1 66) l1 l2 = some o at hf
    generalize fX11_can_19 N n = r19 at hf K19
    unfold gX11_can_19 at hf
    refine lv_iload_n C.1.1 C.1.2.1 dX11_can_19 rfl (lv_at hl 2 rfl) ?_
    refine lv_iconst (v := 5) C.1.1 C.1.2.1 dX11_can_20 (by decide) ?_
    refine ns_icmp_ge C hf (tgt := 115) dX11_can_21 (by decide) (fun hf => ?_) (fun hf => ?_)
    · refine lv_iconst (v := 0) C.1.1 C.1.2.1 dX11_can_115 (by decide) ?_
      refine lv_istore_n (lv' := [(2, .int 0), (0, .ref (b 62)), (1, .int l1)]) C.1.1 C.1.2.1 dX11_can_116 rfl hl (by decide) rfl (fun ls hl => ?_)
      exact wX11_can_62_117 N hI C hr hlk N w (lv_sub hl [1, 2, 0] rfl) hf
    · refine lv_iconst (v := 0) C.1.1 C.1.2.1 dX11_can_24 (by decide) ?_
      refine lv_istore_n (lv' := [(3, .int 0), (0, .ref (b 62)), (1, .int l1), (2, .int l2)]) C.1.1 C.1.2.1 dX11_can_25 rfl hl (by decide) rfl (fun ls hl => ?_)
      refine lv_iconst (v := 0) C.1.1 C.1.2.1 dX11_can_26 (by decide) ?_
      refine lv_istore (lv' := [(4, .int 0), (3, .int 0), (0, .ref (b 62)), (1, .int l1), (2, .int l2)]) C.1.1 C.1.2.1 dX11_can_27 hl (by decide) rfl (fun ls hl => ?_)
      exact wX11_can_62_29 N hI C hr hlk K19 N w (lv_sub hl [2, 3, 4, 1, 0] rfl) hf
set_option maxHeartbeats 4000000 in
set_option maxRecDepth 100000 in
theorem mX11_can_62 (l : Launch) (D : va_G) (b : Nat → Nat) (ids : List Nat) (hI : ∀ i, i < 107 → i ∈ ids) (N : Nat) (S : ns_S) (p1 : Int32) {o : Int32 × (Nat → Int32) × (Nat → Int32)} (hf : fX11_can N (S.2.1 67) (S.2.1 65) (S.2.1 68) (S.2.1 69) (S.2.1 71) (S.2.1 104) (S.2.1 70) (S.2.1 103) (S.2.1 66) p1 = some o) : ns_M l yX11_can wsX11_can rmX11_can_62 D b ids S [.ref (b 62), .int p1] (some (.int o.1)) (ns_A (ns_A S 104 o.2.2) 103 o.2.1) := by
  refine ns_start (Wr := wrX11_can_62) (by decide) rfl (Nat.le_of_ble_eq_true rfl) ?_
  intro p e s m below meth c A ls C hr hlk w hl
  have hl : lv_has ls 5 [(0, .ref (b 62)), (1, .int p1)] := hl
  unfold fX11_can at hf
  refine lv_iload_n C.1.1 C.1.2.1 dX11_can_0 rfl (lv_at hl 1 rfl) ?_
  refine ns_if_lt C hf (tgt := 15) dX11_can_1 (by decide) (fun hf => ?_) (fun hf => ?_)
  · refine lv_iconst (v := 0) C.1.1 C.1.2.1 dX11_can_15 (by decide) ?_
    have he := Option.some.inj hf
    subst he
    exact ns_zret C w hr hlk rfl (Or.inl rfl) rfl dX11_can_16
  · refine lv_iload_n C.1.1 C.1.2.1 dX11_can_4 rfl (lv_at hl 1 rfl) ?_
    refine lv_aload_n C.1.1 C.1.2.1 dX11_can_5 rfl (lv_at hl 0 rfl) ?_
    refine ns_getr C w 62 (hI 62 (by decide)) sh_62 (rfl : vwCl[11]? = some (RX11, TX11, 59)) inX11_can_11 6 (by decide) rfl lX11_can_24 dX11_can_6 ?_
    refine lv_iconst (v := 0) C.1.1 C.1.2.1 dX11_can_9 (by decide) ?_
    refine ns_iald C w 67 (hI 67 (by decide)) sh_67 hf rfl dX11_can_10 (fun x1 hf => ?_)
    refine lv_ishr C.1.1 C.1.2.1 dX11_can_11 ?_
    refine ns_if_eq C hf (tgt := 17) dX11_can_12 (by decide) (fun hf => ?_) (fun hf => ?_)
    · refine lv_iconst (v := 0) C.1.1 C.1.2.1 dX11_can_17 (by decide) ?_
      refine lv_istore_n (lv' := [(2, .int 0), (0, .ref (b 62)), (1, .int p1)]) C.1.1 C.1.2.1 dX11_can_18 rfl hl (by decide) rfl (fun ls hl => ?_)
      exact wX11_can_62_19 N hI C hr hlk N w (lv_sub hl [1, 2, 0] rfl) hf
    · refine lv_iconst (v := 0) C.1.1 C.1.2.1 dX11_can_15 (by decide) ?_
      have he := Option.some.inj hf
      subst he
      exact ns_zret C w hr hlk rfl (Or.inl rfl) rfl dX11_can_16
theorem lX11_canHold_179 : Cond.fieldLink RX11 179 (TX11 0).1 (TX11 0).2.1 (TX11 0).2.2.1 ∈ wsX11_canHold := List.mem_of_getElem? (i := 1) rfl
theorem inX11_canHold_11 : ∀ w ∈ u_ws RX11 TX11 59, w ∈ wsX11_canHold := fun _ h => List.mem_cons_of_mem _ (List.mem_append_right _ h)
theorem hdX11_canHold : yX11_canHold.cls = RX11 ∧ yX11_canHold.cls ≠ "java/lang/invoke/MethodHandle" ∧ yX11_canHold.cls ≠ "java/lang/invoke/VarHandle" ∧ (parseMethodDescriptor yX11_canHold.desc).map (fun d => d.parameters.length) = some 1 := by decide +kernel
abbrev wrX11_canHold_62 : List (Nat × Nat) := [(0, 3968), (1, 103), (1, 104)]
abbrev rmX11_canHold_62 : Room := { frames := 2, cells := 0, slots := 0, locals := 50 }
set_option maxHeartbeats 4000000 in
set_option maxRecDepth 100000 in
theorem mX11_canHold_62 (l : Launch) (D : va_G) (b : Nat → Nat) (ids : List Nat) (hI : ∀ i, i < 107 → i ∈ ids) (N : Nat) (S : ns_S) (p1 : Int32) {o : Int32 × Int32 × (Nat → Int32) × (Nat → Int32)} (hf : fX11_canHold N (S.1 3968) (S.2.1 67) (S.2.1 65) (S.2.1 68) (S.2.1 69) (S.2.1 71) (S.2.1 104) (S.2.1 70) (S.2.1 103) (S.2.1 66) p1 = some o) : ns_M l yX11_canHold wsX11_canHold rmX11_canHold_62 D b ids S [.ref (b 62), .int p1] (some (.int o.1)) (ns_I (ns_A (ns_A S 104 o.2.2.2) 103 o.2.2.1) 3968 o.2.1) := by
  refine ns_start (Wr := wrX11_canHold_62) (by decide) rfl (Nat.le_of_ble_eq_true rfl) ?_
  intro p e s m below meth c A ls C hr hlk w hl
  have hl : lv_has ls 2 [(0, .ref (b 62)), (1, .int p1)] := hl
  unfold fX11_canHold at hf
  refine lv_aload_n C.1.1 C.1.2.1 dX11_canHold_0 rfl (lv_at hl 0 rfl) ?_
  refine lv_iconst (v := 0) C.1.1 C.1.2.1 dX11_canHold_1 (by decide) ?_
  refine ns_puti C w 62 (hI 62 (by decide)) sh_62 (rfl : vwCl[11]? = some (RX11, TX11, 59)) inX11_canHold_11 tyX11_ok nmX11 0 (by decide) rfl lX11_canHold_179 rfl rfl rfl (List.mem_of_getElem? (i := 0) rfl) dX11_canHold_2 (fun H locs w => ?_)
  refine lv_aload_n C.1.1 C.1.2.1 dX11_canHold_5 rfl (lv_at hl 0 rfl) ?_
  refine lv_iload_n C.1.1 C.1.2.1 dX11_canHold_6 rfl (lv_at hl 1 rfl) ?_
  refine ns_callV C w 62 (hI 62 (by decide)) sh_62 (rfl : vwCl[11]? = some (RX11, TX11, 59)) [.int p1] hf (fun u hu => mX11_can_62 l D b ids hI N _ p1 hu) gX11_canHold_X11_can rfl rfl rfl hdX11_can ⟨Nat.le_of_ble_eq_true rfl, Nat.le_of_ble_eq_true rfl⟩ (fun u h => ((h.A (List.mem_of_getElem? (i := 2) rfl) _).A (List.mem_of_getElem? (i := 1) rfl) _)) rfl hl.1 rfl (Nat.le_of_ble_eq_true rfl) ⟨Nat.le_refl _, Nat.le_refl _⟩ dX11_canHold_7 (fun o1 H locs hf w => ?_)
  obtain ⟨hz, hf⟩ := ns_zb_some hf
  have he := Option.some.inj hf
  subst he
  exact ns_zret C w hr hlk rfl hz rfl dX11_canHold_10
abbrev wrJ7_fill_53178_27 : List (Nat × Nat) := [(1, 27)]
abbrev rmJ7_fill_53178_27 : Room := { frames := 0, cells := 0, slots := 0, locals := 0 }
set_option maxHeartbeats 4000000 in
set_option maxRecDepth 100000 in
theorem wJ7_fill_53178_27_5 {p : Program} {l : Launch} {e : Env} {s : State} {m : MethodId} {args : Array Value} {below : List Frame} {meth : Method} {c : Code} {D : va_G} {b : Nat → Nat} {ids : List Nat} {A : Nat → Prop} {S0 : ns_S} {o : (Nat → Int32)} (N : Nat) (hI : ∀ i, i < 107 → i ∈ ids) (C : ns_C p m c cJ7_fill_53178 4 s args wsJ7_fill_53178 RJ7 D A) (hr : meth.sig.returnType = none) (hlk : meth.locks = false) : ∀ n : Nat, ∀ {S : ns_S} {H : Heap} {locs : List Loc} {ls : Array Slot} {l1 : Int32} {l2 : Int32} {l3 : Int32}, ns_W D b ids A s.heap wrJ7_fill_53178_27 S0 S H locs → lv_has ls 4 [(0, .ref (b 27)), (1, .int l1), (2, .int l2), (3, .int l3)] → fJ7_fill_53178_5 N 30 n (S.2.1 27) l1 l2 l3 = some o → W p l e rmJ7_fill_53178_27 s m args below meth c H locs 0 0 (MQ below (ns_Q D b ids (ns_A S0 27 o) none A) args s 0 0 A) (F0 m 5 ls []) := by
  intro n
  induction n with
  | zero =>
    intro S H locs ls l1 l2 l3 w hl hf
    cases hf
  | succ n K5 =>
    intro S H locs ls l1 l2 l3 w hl hf
    change gJ7_fill_53178_5 N 30 (fJ7_fill_53178_5 N 30 n) (S.2.1 27) l1 l2 l3 = some o at hf
    generalize fJ7_fill_53178_5 N 30 n = r5 at hf K5
    unfold gJ7_fill_53178_5 at hf
    refine lv_iload_n C.1.1 C.1.2.1 dJ7_fill_53178_5 rfl (lv_at hl 2 rfl) ?_
    refine lv_iload_n C.1.1 C.1.2.1 dJ7_fill_53178_6 rfl (lv_at hl 3 rfl) ?_
    refine ns_icmp_ge C hf (tgt := 20) dJ7_fill_53178_7 (by decide) (fun hf => ?_) (fun hf => ?_)
    · have he := Option.some.inj hf
      subst he
      exact ns_vret C w hr hlk rfl rfl dJ7_fill_53178_20
    · refine lv_aload_n C.1.1 C.1.2.1 dJ7_fill_53178_10 rfl (lv_at hl 0 rfl) ?_
      refine lv_iload_n C.1.1 C.1.2.1 dJ7_fill_53178_11 rfl (lv_at hl 2 rfl) ?_
      refine lv_iload_n C.1.1 C.1.2.1 dJ7_fill_53178_12 rfl (lv_at hl 1 rfl) ?_
      refine ns_iast C w 27 (hI 27 (by decide)) sh_27 hf rfl (List.mem_of_getElem? (i := 0) rfl) dJ7_fill_53178_13 (fun y1 H locs hf w => ?_)
      refine ns_iinc (lv' := fun x2 => [(2, .int x2), (0, .ref (b 27)), (1, .int l1), (3, .int l3)]) C hf dJ7_fill_53178_14 hl (k := 2) rfl rfl (by decide) (fun _ => rfl) (fun x2 ls hl hf => ?_)
      refine lv_goto (tgt := 5) C.1.1 C.1.2.1 dJ7_fill_53178_17 (by decide) ?_
      exact K5 w (lv_sub hl [1, 2, 0, 3] rfl) hf
set_option maxHeartbeats 4000000 in
set_option maxRecDepth 100000 in
theorem mJ7_fill_53178_27 (l : Launch) (D : va_G) (b : Nat → Nat) (ids : List Nat) (hI : ∀ i, i < 107 → i ∈ ids) (N : Nat) (S : ns_S) (p1 : Int32) {o : (Nat → Int32)} (hf : fJ7_fill_53178 N 30 (S.2.1 27) p1 = some o) : ns_M l yJ7_fill_53178 wsJ7_fill_53178 rmJ7_fill_53178_27 D b ids S [.ref (b 27), .int p1] none (ns_A S 27 o) := by
  refine ns_start (Wr := wrJ7_fill_53178_27) (by decide) rfl (Nat.le_of_ble_eq_true rfl) ?_
  intro p e s m below meth c A ls C hr hlk w hl
  have hl : lv_has ls 4 [(0, .ref (b 27)), (1, .int p1)] := hl
  unfold fJ7_fill_53178 at hf
  refine lv_iconst (v := 0) C.1.1 C.1.2.1 dJ7_fill_53178_0 (by decide) ?_
  refine lv_istore_n (lv' := [(2, .int 0), (0, .ref (b 27)), (1, .int p1)]) C.1.1 C.1.2.1 dJ7_fill_53178_1 rfl hl (by decide) rfl (fun ls hl => ?_)
  refine lv_aload_n C.1.1 C.1.2.1 dJ7_fill_53178_2 rfl (lv_at hl 1 rfl) ?_
  refine ns_alen (v := Int32.ofNat 30) C w 27 (hI 27 (by decide)) sh_27 rfl dJ7_fill_53178_3 ?_
  refine ns_namei hf (fun x1 hf => ?_)
  refine lv_istore_n (lv' := [(3, .int x1), (2, .int 0), (0, .ref (b 27)), (1, .int p1)]) C.1.1 C.1.2.1 dJ7_fill_53178_4 rfl hl (by decide) rfl (fun ls hl => ?_)
  exact wJ7_fill_53178_27_5 N hI C hr hlk N w (lv_sub hl [2, 3, 1, 0] rfl) hf
theorem lX3_isLawful_12 : Cond.fieldLink RX3 12 (TX3 0).1 (TX3 0).2.1 (TX3 0).2.2.1 ∈ wsX3_isLawful := List.mem_of_getElem? (i := 3) rfl
theorem lX3_isLawful_59 : Cond.fieldLink RX3 59 (TX6 1).1 (TX6 1).2.1 (TX6 1).2.2.1 ∈ wsX3_isLawful := List.mem_of_getElem? (i := 1) rfl
theorem lX3_isLawful_68 : Cond.fieldLink RX3 68 (TX0 0).1 (TX0 0).2.1 (TX0 0).2.2.1 ∈ wsX3_isLawful := List.mem_of_getElem? (i := 2) rfl
theorem lX3_isLawful_120 : Cond.fieldLink RX3 120 (TX0 3).1 (TX0 3).2.1 (TX0 3).2.2.1 ∈ wsX3_isLawful := List.mem_of_getElem? (i := 5) rfl
theorem lX3_isLawful_152 : Cond.fieldLink RX3 152 (TX7 3).1 (TX7 3).2.1 (TX7 3).2.2.1 ∈ wsX3_isLawful := List.mem_of_getElem? (i := 4) rfl
theorem inX3_isLawful_0 : ∀ w ∈ u_ws RX0 TX0 6, w ∈ wsX3_isLawful := fun _ h => List.mem_cons_of_mem _ (List.mem_append_left _ (List.mem_append_left _ (List.mem_append_right _ h)))
theorem inX3_isLawful_3 : ∀ w ∈ u_ws RX3 TX3 10, w ∈ wsX3_isLawful := fun _ h => List.mem_cons_of_mem _ (List.mem_append_left _ (List.mem_append_right _ h))
theorem inX3_isLawful_6 : ∀ w ∈ u_ws RX6 TX6 6, w ∈ wsX3_isLawful := fun _ h => List.mem_cons_of_mem _ (List.mem_append_left _ (List.mem_append_left _ (List.mem_append_left _ (List.mem_append_right _ h))))
theorem inX3_isLawful_7 : ∀ w ∈ u_ws RX7 TX7 5, w ∈ wsX3_isLawful := fun _ h => List.mem_cons_of_mem _ (List.mem_append_right _ h)
theorem hdX3_isLawful : yX3_isLawful.cls = RX3 ∧ yX3_isLawful.cls ≠ "java/lang/invoke/MethodHandle" ∧ yX3_isLawful.cls ≠ "java/lang/invoke/VarHandle" ∧ (parseMethodDescriptor yX3_isLawful.desc).map (fun d => d.parameters.length) = some 1 := by decide +kernel
abbrev wrX3_isLawful_15_28 : List (Nat × Nat) := []
abbrev rmX3_isLawful_15_28 : Room := { frames := 1, cells := 0, slots := 0, locals := 21 }
set_option maxHeartbeats 4000000 in
set_option maxRecDepth 100000 in
theorem wX3_isLawful_15_28_2 {p : Program} {l : Launch} {e : Env} {s : State} {m : MethodId} {args : Array Value} {below : List Frame} {meth : Method} {c : Code} {D : va_G} {b : Nat → Nat} {ids : List Nat} {A : Nat → Prop} {S0 : ns_S} {o : Int32} (N : Nat) (hI : ∀ i, i < 107 → i ∈ ids) (C : ns_C p m c cX3_isLawful 3 s args wsX3_isLawful RX3 D A) (hr : meth.sig.returnType = some .boolean) (hlk : meth.locks = false) : ∀ n : Nat, ∀ {S : ns_S} {H : Heap} {locs : List Loc} {ls : Array Slot} {l2 : Int32}, ns_W D b ids A s.heap wrX3_isLawful_15_28 S0 S H locs → lv_has ls 3 [(0, .ref (b 15)), (1, .ref (b 28)), (2, .int l2)] → fX3_isLawful_2 N n (S.1 1984) (S.1 1024) (S.2.1 19) (S.2.1 34) l2 = some o → W p l e rmX3_isLawful_15_28 s m args below meth c H locs 0 0 (MQ below (ns_Q D b ids S0 (some (.int o)) A) args s 0 0 A) (F0 m 2 ls []) := by
  intro n
  induction n with
  | zero =>
    intro S H locs ls l2 w hl hf
    cases hf
  | succ n K2 =>
    intro S H locs ls l2 w hl hf
    change gX3_isLawful_2 N (fX3_isLawful_2 N n) (S.1 1984) (S.1 1024) (S.2.1 19) (S.2.1 34) l2 = some o at hf
    generalize fX3_isLawful_2 N n = r2 at hf K2
    unfold gX3_isLawful_2 at hf
    refine lv_iload_n C.1.1 C.1.2.1 dX3_isLawful_2 rfl (lv_at hl 2 rfl) ?_
    refine lv_aload_n C.1.1 C.1.2.1 dX3_isLawful_3 rfl (lv_at hl 1 rfl) ?_
    refine ns_getr C w 28 (hI 28 (by decide)) sh_28 (rfl : vwCl[6]? = some (RX6, TX6, 6)) inX3_isLawful_6 1 (by decide) rfl lX3_isLawful_59 dX3_isLawful_4 ?_
    refine ns_geti C w 31 (hI 31 (by decide)) sh_31 (rfl : vwCl[0]? = some (RX0, TX0, 6)) inX3_isLawful_0 0 (by decide) rfl lX3_isLawful_68 (S.1 1984) rfl dX3_isLawful_7 ?_
    refine ns_icmp_ge C hf (tgt := 53) dX3_isLawful_10 (by decide) (fun hf => ?_) (fun hf => ?_)
    · refine lv_iconst (v := 1) C.1.1 C.1.2.1 dX3_isLawful_53 (by decide) ?_
      have he := Option.some.inj hf
      subst he
      exact ns_zret C w hr hlk rfl (Or.inr rfl) rfl dX3_isLawful_54
    · refine lv_aload_n C.1.1 C.1.2.1 dX3_isLawful_13 rfl (lv_at hl 0 rfl) ?_
      refine ns_getr C w 15 (hI 15 (by decide)) sh_15 (rfl : vwCl[3]? = some (RX3, TX3, 10)) inX3_isLawful_3 0 (by decide) rfl lX3_isLawful_12 dX3_isLawful_14 ?_
      refine lv_iload_n C.1.1 C.1.2.1 dX3_isLawful_17 rfl (lv_at hl 2 rfl) ?_
      refine ns_callV C w 16 (hI 16 (by decide)) sh_16 (rfl : vwCl[7]? = some (RX7, TX7, 5)) [.int l2] hf (fun u hu => mX7_isHeld_16 l D b ids hI N _ l2 hu) gX3_isLawful_X7_isHeld rfl rfl rfl hdX7_isHeld ⟨Nat.le_of_ble_eq_true rfl, Nat.le_of_ble_eq_true rfl⟩ (fun u h => h) rfl hl.1 rfl (Nat.le_of_ble_eq_true rfl) ⟨Nat.le_refl _, Nat.le_refl _⟩ dX3_isLawful_18 (fun o1 H locs hf w => ?_)
      refine ns_if_eq C hf (tgt := 47) dX3_isLawful_21 (by decide) (fun hf => ?_) (fun hf => ?_)
      · refine ns_iinc (lv' := fun x2 => [(2, .int x2), (0, .ref (b 15)), (1, .ref (b 28))]) C hf dX3_isLawful_47 hl (k := 2) rfl rfl (by decide) (fun _ => rfl) (fun x2 ls hl hf => ?_)
        refine lv_goto (tgt := 2) C.1.1 C.1.2.1 dX3_isLawful_50 (by decide) ?_
        exact K2 w (lv_sub hl [1, 2, 0] rfl) hf
      · refine lv_aload_n C.1.1 C.1.2.1 dX3_isLawful_24 rfl (lv_at hl 0 rfl) ?_
        refine ns_getr C w 15 (hI 15 (by decide)) sh_15 (rfl : vwCl[3]? = some (RX3, TX3, 10)) inX3_isLawful_3 0 (by decide) rfl lX3_isLawful_12 dX3_isLawful_25 ?_
        refine ns_getr C w 16 (hI 16 (by decide)) sh_16 (rfl : vwCl[7]? = some (RX7, TX7, 5)) inX3_isLawful_7 3 (by decide) rfl lX3_isLawful_152 dX3_isLawful_28 ?_
        refine lv_iload_n C.1.1 C.1.2.1 dX3_isLawful_31 rfl (lv_at hl 2 rfl) ?_
        refine ns_iald C w 19 (hI 19 (by decide)) sh_19 hf rfl dX3_isLawful_32 (fun x3 hf => ?_)
        refine lv_aload_n C.1.1 C.1.2.1 dX3_isLawful_33 rfl (lv_at hl 1 rfl) ?_
        refine ns_getr C w 28 (hI 28 (by decide)) sh_28 (rfl : vwCl[6]? = some (RX6, TX6, 6)) inX3_isLawful_6 1 (by decide) rfl lX3_isLawful_59 dX3_isLawful_34 ?_
        refine ns_getr C w 31 (hI 31 (by decide)) sh_31 (rfl : vwCl[0]? = some (RX0, TX0, 6)) inX3_isLawful_0 3 (by decide) rfl lX3_isLawful_120 dX3_isLawful_37 ?_
        refine lv_iload_n C.1.1 C.1.2.1 dX3_isLawful_40 rfl (lv_at hl 2 rfl) ?_
        refine ns_iald C w 34 (hI 34 (by decide)) sh_34 hf rfl dX3_isLawful_41 (fun x4 hf => ?_)
        refine ns_icmp_ge C hf (tgt := 47) dX3_isLawful_42 (by decide) (fun hf => ?_) (fun hf => ?_)
        · refine ns_iinc (lv' := fun x5 => [(2, .int x5), (0, .ref (b 15)), (1, .ref (b 28))]) C hf dX3_isLawful_47 hl (k := 2) rfl rfl (by decide) (fun _ => rfl) (fun x5 ls hl hf => ?_)
          refine lv_goto (tgt := 2) C.1.1 C.1.2.1 dX3_isLawful_50 (by decide) ?_
          exact K2 w (lv_sub hl [1, 2, 0] rfl) hf
        · refine lv_iconst (v := 0) C.1.1 C.1.2.1 dX3_isLawful_45 (by decide) ?_
          have he := Option.some.inj hf
          subst he
          exact ns_zret C w hr hlk rfl (Or.inl rfl) rfl dX3_isLawful_46
set_option maxHeartbeats 4000000 in
set_option maxRecDepth 100000 in
theorem mX3_isLawful_15_28 (l : Launch) (D : va_G) (b : Nat → Nat) (ids : List Nat) (hI : ∀ i, i < 107 → i ∈ ids) (N : Nat) (S : ns_S) {o : Int32} (hf : fX3_isLawful N (S.1 1984) (S.1 1024) (S.2.1 19) (S.2.1 34) = some o) : ns_M l yX3_isLawful wsX3_isLawful rmX3_isLawful_15_28 D b ids S [.ref (b 15), .ref (b 28)] (some (.int o)) S := by
  refine ns_start (Wr := wrX3_isLawful_15_28) (by decide) rfl (Nat.le_of_ble_eq_true rfl) ?_
  intro p e s m below meth c A ls C hr hlk w hl
  have hl : lv_has ls 3 [(0, .ref (b 15)), (1, .ref (b 28))] := hl
  unfold fX3_isLawful at hf
  refine lv_iconst (v := 0) C.1.1 C.1.2.1 dX3_isLawful_0 (by decide) ?_
  refine lv_istore_n (lv' := [(2, .int 0), (0, .ref (b 15)), (1, .ref (b 28))]) C.1.1 C.1.2.1 dX3_isLawful_1 rfl hl (by decide) rfl (fun ls hl => ?_)
  exact wX3_isLawful_15_28_2 N hI C hr hlk N w (lv_sub hl [1, 2, 0] rfl) hf
abbrev wrX7_coursesOf_16 : List (Nat × Nat) := []
abbrev rmX7_coursesOf_16 : Room := { frames := 1, cells := 0, slots := 0, locals := 20 }
set_option maxHeartbeats 4000000 in
set_option maxRecDepth 100000 in
theorem mX7_coursesOf_16 (l : Launch) (D : va_G) (b : Nat → Nat) (ids : List Nat) (hI : ∀ i, i < 107 → i ∈ ids) (N : Nat) (S : ns_S) (p1 : Int32) {o : Int32} (hf : fX7_coursesOf N (S.2.1 20) p1 = some o) : ns_M l yX7_coursesOf wsX7_coursesOf rmX7_coursesOf_16 D b ids S [.ref (b 16), .int p1] (some (.int o)) S := by
  refine ns_start (Wr := wrX7_coursesOf_16) (by decide) rfl (Nat.le_of_ble_eq_true rfl) ?_
  intro p e s m below meth c A ls C hr hlk w hl
  have hl : lv_has ls 2 [(0, .ref (b 16)), (1, .int p1)] := hl
  unfold fX7_coursesOf at hf
  refine lv_aload_n C.1.1 C.1.2.1 dX7_coursesOf_0 rfl (lv_at hl 0 rfl) ?_
  refine ns_getr C w 16 (hI 16 (by decide)) sh_16 (rfl : vwCl[7]? = some (RX7, TX7, 5)) inX7_coursesOf_7 4 (by decide) rfl lX7_coursesOf_21 dX7_coursesOf_1 ?_
  refine lv_iload_n C.1.1 C.1.2.1 dX7_coursesOf_4 rfl (lv_at hl 1 rfl) ?_
  refine ns_iald C w 20 (hI 20 (by decide)) sh_20 hf rfl dX7_coursesOf_5 (fun x1 hf => ?_)
  refine ns_callS C w [.int x1] hf (fun u hu => mJ6_bitCount_0f7a4 l D b ids hI N _ x1 hu) gX7_coursesOf_J6_bitCount_0f7a4 rfl rfl rfl hdJ6_bitCount_0f7a4 ⟨Nat.le_of_ble_eq_true rfl, Nat.le_of_ble_eq_true rfl⟩ (fun u h => h) rfl hl.1 rfl (Nat.le_of_ble_eq_true rfl) ⟨Nat.le_refl _, Nat.le_refl _⟩ dX7_coursesOf_6 (fun o2 H locs hf w => ?_)
  have he := Option.some.inj hf
  subst he
  exact ns_iret C w hr hlk rfl rfl dX7_coursesOf_9
abbrev wrX7_give_16 : List (Nat × Nat) := [(1, 20), (1, 19)]
abbrev rmX7_give_16 : Room := { frames := 0, cells := 0, slots := 0, locals := 0 }
set_option maxHeartbeats 4000000 in
set_option maxRecDepth 100000 in
theorem mX7_give_16 (l : Launch) (D : va_G) (b : Nat → Nat) (ids : List Nat) (hI : ∀ i, i < 107 → i ∈ ids) (N : Nat) (S : ns_S) (p1 : Int32) (p2 : Int32) {o : (Nat → Int32) × (Nat → Int32)} (hf : fX7_give N (S.2.1 20) (S.2.1 19) p1 p2 = some o) : ns_M l yX7_give wsX7_give rmX7_give_16 D b ids S [.ref (b 16), .int p1, .int p2] none (ns_A (ns_A S 19 o.2) 20 o.1) := by
  refine ns_start (Wr := wrX7_give_16) (by decide) rfl (Nat.le_of_ble_eq_true rfl) ?_
  intro p e s m below meth c A ls C hr hlk w hl
  have hl : lv_has ls 3 [(0, .ref (b 16)), (1, .int p1), (2, .int p2)] := hl
  unfold fX7_give at hf
  refine lv_aload_n C.1.1 C.1.2.1 dX7_give_0 rfl (lv_at hl 0 rfl) ?_
  refine ns_getr C w 16 (hI 16 (by decide)) sh_16 (rfl : vwCl[7]? = some (RX7, TX7, 5)) inX7_give_7 4 (by decide) rfl lX7_give_21 dX7_give_1 ?_
  refine lv_iload_n C.1.1 C.1.2.1 dX7_give_4 rfl (lv_at hl 1 rfl) ?_
  refine lv_dup2_11 C.1.1 C.1.2.1 dX7_give_5 rfl rfl ?_
  refine ns_iald C w 20 (hI 20 (by decide)) sh_20 hf rfl dX7_give_6 (fun x1 hf => ?_)
  refine lv_iconst (v := 1) C.1.1 C.1.2.1 dX7_give_7 (by decide) ?_
  refine lv_iload_n C.1.1 C.1.2.1 dX7_give_8 rfl (lv_at hl 2 rfl) ?_
  refine lv_ishl C.1.1 C.1.2.1 dX7_give_9 ?_
  refine lv_ior C.1.1 C.1.2.1 dX7_give_10 ?_
  refine ns_iast C w 20 (hI 20 (by decide)) sh_20 hf rfl (List.mem_of_getElem? (i := 0) rfl) dX7_give_11 (fun y2 H locs hf w => ?_)
  refine lv_aload_n C.1.1 C.1.2.1 dX7_give_12 rfl (lv_at hl 0 rfl) ?_
  refine ns_getr C w 16 (hI 16 (by decide)) sh_16 (rfl : vwCl[7]? = some (RX7, TX7, 5)) inX7_give_7 3 (by decide) rfl lX7_give_18 dX7_give_13 ?_
  refine lv_iload_n C.1.1 C.1.2.1 dX7_give_16 rfl (lv_at hl 2 rfl) ?_
  refine lv_dup2_11 C.1.1 C.1.2.1 dX7_give_17 rfl rfl ?_
  refine ns_iald C w 19 (hI 19 (by decide)) sh_19 hf rfl dX7_give_18 (fun x3 hf => ?_)
  refine lv_iconst (v := 1) C.1.1 C.1.2.1 dX7_give_19 (by decide) ?_
  refine lv_iadd C.1.1 C.1.2.1 dX7_give_20 ?_
  refine ns_iast C w 19 (hI 19 (by decide)) sh_19 hf rfl (List.mem_of_getElem? (i := 1) rfl) dX7_give_21 (fun y4 H locs hf w => ?_)
  have he := Option.some.inj hf
  subst he
  exact ns_vret C w hr hlk rfl rfl dX7_give_22
abbrev wrX7_hasPlaceLeft_16 : List (Nat × Nat) := []
abbrev rmX7_hasPlaceLeft_16 : Room := { frames := 0, cells := 0, slots := 0, locals := 0 }
set_option maxHeartbeats 4000000 in
set_option maxRecDepth 100000 in
theorem mX7_hasPlaceLeft_16 (l : Launch) (D : va_G) (b : Nat → Nat) (ids : List Nat) (hI : ∀ i, i < 107 → i ∈ ids) (N : Nat) (S : ns_S) (p1 : Int32) {o : Int32} (hf : fX7_hasPlaceLeft N (S.2.1 19) (S.2.1 18) p1 = some o) : ns_M l yX7_hasPlaceLeft wsX7_hasPlaceLeft rmX7_hasPlaceLeft_16 D b ids S [.ref (b 16), .int p1] (some (.int o)) S := by
  refine ns_start (Wr := wrX7_hasPlaceLeft_16) (by decide) rfl (Nat.le_of_ble_eq_true rfl) ?_
  intro p e s m below meth c A ls C hr hlk w hl
  have hl : lv_has ls 2 [(0, .ref (b 16)), (1, .int p1)] := hl
  unfold fX7_hasPlaceLeft at hf
  refine lv_aload_n C.1.1 C.1.2.1 dX7_hasPlaceLeft_0 rfl (lv_at hl 0 rfl) ?_
  refine ns_getr C w 16 (hI 16 (by decide)) sh_16 (rfl : vwCl[7]? = some (RX7, TX7, 5)) inX7_hasPlaceLeft_7 3 (by decide) rfl lX7_hasPlaceLeft_18 dX7_hasPlaceLeft_1 ?_
  refine lv_iload_n C.1.1 C.1.2.1 dX7_hasPlaceLeft_4 rfl (lv_at hl 1 rfl) ?_
  refine ns_iald C w 19 (hI 19 (by decide)) sh_19 hf rfl dX7_hasPlaceLeft_5 (fun x1 hf => ?_)
  refine lv_aload_n C.1.1 C.1.2.1 dX7_hasPlaceLeft_6 rfl (lv_at hl 0 rfl) ?_
  refine ns_getr C w 16 (hI 16 (by decide)) sh_16 (rfl : vwCl[7]? = some (RX7, TX7, 5)) inX7_hasPlaceLeft_7 2 (by decide) rfl lX7_hasPlaceLeft_15 dX7_hasPlaceLeft_7 ?_
  refine lv_iload_n C.1.1 C.1.2.1 dX7_hasPlaceLeft_10 rfl (lv_at hl 1 rfl) ?_
  refine ns_iald C w 18 (hI 18 (by decide)) sh_18 hf rfl dX7_hasPlaceLeft_11 (fun x2 hf => ?_)
  refine ns_icmp_ge C hf (tgt := 19) dX7_hasPlaceLeft_12 (by decide) (fun hf => ?_) (fun hf => ?_)
  · refine lv_iconst (v := 0) C.1.1 C.1.2.1 dX7_hasPlaceLeft_19 (by decide) ?_
    have he := Option.some.inj hf
    subst he
    exact ns_zret C w hr hlk rfl (Or.inl rfl) rfl dX7_hasPlaceLeft_20
  · refine lv_iconst (v := 1) C.1.1 C.1.2.1 dX7_hasPlaceLeft_15 (by decide) ?_
    refine lv_goto (tgt := 20) C.1.1 C.1.2.1 dX7_hasPlaceLeft_16 (by decide) ?_
    have he := Option.some.inj hf
    subst he
    exact ns_zret C w hr hlk rfl (Or.inr rfl) rfl dX7_hasPlaceLeft_20
theorem lX3_givePlace_12 : Cond.fieldLink RX3 12 (TX3 0).1 (TX3 0).2.1 (TX3 0).2.2.1 ∈ wsX3_givePlace := List.mem_of_getElem? (i := 1) rfl
theorem lX3_givePlace_31 : Cond.fieldLink RX3 31 (TX3 5).1 (TX3 5).2.1 (TX3 5).2.2.1 ∈ wsX3_givePlace := List.mem_of_getElem? (i := 3) rfl
theorem lX3_givePlace_37 : Cond.fieldLink RX3 37 (TX3 7).1 (TX3 7).2.1 (TX3 7).2.2.1 ∈ wsX3_givePlace := List.mem_of_getElem? (i := 2) rfl
theorem lX3_givePlace_123 : Cond.fieldLink RX3 123 (TX3 8).1 (TX3 8).2.1 (TX3 8).2.2.1 ∈ wsX3_givePlace := List.mem_of_getElem? (i := 4) rfl
theorem inX3_givePlace_3 : ∀ w ∈ u_ws RX3 TX3 10, w ∈ wsX3_givePlace := fun _ h => List.mem_cons_of_mem _ (List.mem_append_left _ (List.mem_append_right _ h))
theorem hdX3_givePlace : yX3_givePlace.cls = RX3 ∧ yX3_givePlace.cls ≠ "java/lang/invoke/MethodHandle" ∧ yX3_givePlace.cls ≠ "java/lang/invoke/VarHandle" ∧ (parseMethodDescriptor yX3_givePlace.desc).map (fun d => d.parameters.length) = some 3 := by decide +kernel
abbrev wrX3_givePlace_15 : List (Nat × Nat) := [(1, 20), (1, 19), (1, 27), (0, 968)]
abbrev rmX3_givePlace_15 : Room := { frames := 1, cells := 0, slots := 0, locals := 22 }
set_option maxHeartbeats 4000000 in
set_option maxRecDepth 100000 in
theorem mX3_givePlace_15 (l : Launch) (D : va_G) (b : Nat → Nat) (ids : List Nat) (hI : ∀ i, i < 107 → i ∈ ids) (N : Nat) (S : ns_S) (p1 : Int32) (p2 : Int32) (p3 : Int32) {o : (Nat → Int32) × (Nat → Int32) × (Nat → Int32) × Int32} (hf : fX3_givePlace N (S.2.1 20) (S.2.1 19) (S.2.1 27) (S.2.1 25) (S.2.1 18) (S.1 968) p1 p2 p3 = some o) : ns_M l yX3_givePlace wsX3_givePlace rmX3_givePlace_15 D b ids S [.ref (b 15), .int p1, .int p2, .int p3] none (ns_A (ns_A (ns_A (ns_I S 968 o.2.2.2) 27 o.2.2.1) 19 o.2.1) 20 o.1) := by
  refine ns_start (Wr := wrX3_givePlace_15) (by decide) rfl (Nat.le_of_ble_eq_true rfl) ?_
  intro p e s m below meth c A ls C hr hlk w hl
  have hl : lv_has ls 4 [(0, .ref (b 15)), (1, .int p1), (2, .int p2), (3, .int p3)] := hl
  unfold fX3_givePlace at hf
  refine lv_aload_n C.1.1 C.1.2.1 dX3_givePlace_0 rfl (lv_at hl 0 rfl) ?_
  refine ns_getr C w 15 (hI 15 (by decide)) sh_15 (rfl : vwCl[3]? = some (RX3, TX3, 10)) inX3_givePlace_3 0 (by decide) rfl lX3_givePlace_12 dX3_givePlace_1 ?_
  refine lv_iload_n C.1.1 C.1.2.1 dX3_givePlace_4 rfl (lv_at hl 1 rfl) ?_
  refine lv_iload_n C.1.1 C.1.2.1 dX3_givePlace_5 rfl (lv_at hl 2 rfl) ?_
  refine ns_callV C w 16 (hI 16 (by decide)) sh_16 (rfl : vwCl[7]? = some (RX7, TX7, 5)) [.int p1, .int p2] hf (fun u hu => mX7_give_16 l D b ids hI N _ p1 p2 hu) gX3_givePlace_X7_give rfl rfl rfl hdX7_give ⟨Nat.le_of_ble_eq_true rfl, Nat.le_of_ble_eq_true rfl⟩ (fun u h => ((h.A (List.mem_of_getElem? (i := 1) rfl) _).A (List.mem_of_getElem? (i := 0) rfl) _)) rfl hl.1 rfl (Nat.le_of_ble_eq_true rfl) ⟨Nat.le_refl _, Nat.le_refl _⟩ dX3_givePlace_6 (fun o1 H locs hf w => ?_)
  refine lv_aload_n C.1.1 C.1.2.1 dX3_givePlace_9 rfl (lv_at hl 0 rfl) ?_
  refine ns_getr C w 15 (hI 15 (by decide)) sh_15 (rfl : vwCl[3]? = some (RX3, TX3, 10)) inX3_givePlace_3 7 (by decide) rfl lX3_givePlace_37 dX3_givePlace_10 ?_
  refine lv_iload_n C.1.1 C.1.2.1 dX3_givePlace_13 rfl (lv_at hl 1 rfl) ?_
  refine lv_dup2_11 C.1.1 C.1.2.1 dX3_givePlace_14 rfl rfl ?_
  refine ns_iald C w 27 (hI 27 (by decide)) sh_27 hf rfl dX3_givePlace_15 (fun x2 hf => ?_)
  refine lv_aload_n C.1.1 C.1.2.1 dX3_givePlace_16 rfl (lv_at hl 0 rfl) ?_
  refine ns_getr C w 15 (hI 15 (by decide)) sh_15 (rfl : vwCl[3]? = some (RX3, TX3, 10)) inX3_givePlace_3 5 (by decide) rfl lX3_givePlace_31 dX3_givePlace_17 ?_
  refine lv_iload_n C.1.1 C.1.2.1 dX3_givePlace_20 rfl (lv_at hl 3 rfl) ?_
  refine ns_iald C w 25 (hI 25 (by decide)) sh_25 hf rfl dX3_givePlace_21 (fun x3 hf => ?_)
  refine lv_ior C.1.1 C.1.2.1 dX3_givePlace_22 ?_
  refine ns_iast C w 27 (hI 27 (by decide)) sh_27 hf rfl (List.mem_of_getElem? (i := 2) rfl) dX3_givePlace_23 (fun y4 H locs hf w => ?_)
  refine lv_aload_n C.1.1 C.1.2.1 dX3_givePlace_24 rfl (lv_at hl 0 rfl) ?_
  refine ns_getr C w 15 (hI 15 (by decide)) sh_15 (rfl : vwCl[3]? = some (RX3, TX3, 10)) inX3_givePlace_3 0 (by decide) rfl lX3_givePlace_12 dX3_givePlace_25 ?_
  refine lv_iload_n C.1.1 C.1.2.1 dX3_givePlace_28 rfl (lv_at hl 2 rfl) ?_
  refine ns_callV C w 16 (hI 16 (by decide)) sh_16 (rfl : vwCl[7]? = some (RX7, TX7, 5)) [.int p2] hf (fun u hu => mX7_hasPlaceLeft_16 l D b ids hI N _ p2 hu) gX3_givePlace_X7_hasPlaceLeft rfl rfl rfl hdX7_hasPlaceLeft ⟨Nat.le_of_ble_eq_true rfl, Nat.le_of_ble_eq_true rfl⟩ (fun u h => h) rfl hl.1 rfl (Nat.le_of_ble_eq_true rfl) ⟨Nat.le_refl _, Nat.le_refl _⟩ dX3_givePlace_29 (fun o5 H locs hf w => ?_)
  refine ns_if_ne C hf (tgt := 49) dX3_givePlace_32 (by decide) (fun hf => ?_) (fun hf => ?_)
  · have he := Option.some.inj hf
    subst he
    exact ns_vret C w hr hlk rfl rfl dX3_givePlace_49
  · refine lv_aload_n C.1.1 C.1.2.1 dX3_givePlace_35 rfl (lv_at hl 0 rfl) ?_
    refine lv_dup C.1.1 C.1.2.1 dX3_givePlace_36 rfl ?_
    refine ns_geti C w 15 (hI 15 (by decide)) sh_15 (rfl : vwCl[3]? = some (RX3, TX3, 10)) inX3_givePlace_3 8 (by decide) rfl lX3_givePlace_123 (S.1 968) rfl dX3_givePlace_37 ?_
    refine lv_iconst (v := 1) C.1.1 C.1.2.1 dX3_givePlace_40 (by decide) ?_
    refine lv_iload_n C.1.1 C.1.2.1 dX3_givePlace_41 rfl (lv_at hl 2 rfl) ?_
    refine lv_ishl C.1.1 C.1.2.1 dX3_givePlace_42 ?_
    refine lv_iconst (v := (-1)) C.1.1 C.1.2.1 dX3_givePlace_43 (by decide) ?_
    refine lv_ixor C.1.1 C.1.2.1 dX3_givePlace_44 ?_
    refine lv_iand C.1.1 C.1.2.1 dX3_givePlace_45 ?_
    refine ns_namei hf (fun x6 hf => ?_)
    refine ns_puti C w 15 (hI 15 (by decide)) sh_15 (rfl : vwCl[3]? = some (RX3, TX3, 10)) inX3_givePlace_3 tyX3_ok nmX3 8 (by decide) rfl lX3_givePlace_123 rfl rfl rfl (List.mem_of_getElem? (i := 3) rfl) dX3_givePlace_46 (fun H locs w => ?_)
    have he := Option.some.inj hf
    subst he
    exact ns_vret C w hr hlk rfl rfl dX3_givePlace_49
theorem lX3_placePupil_12 : Cond.fieldLink RX3 12 (TX3 0).1 (TX3 0).2.1 (TX3 0).2.2.1 ∈ wsX3_placePupil := List.mem_of_getElem? (i := 4) rfl
theorem lX3_placePupil_34 : Cond.fieldLink RX3 34 (TX3 6).1 (TX3 6).2.1 (TX3 6).2.2.1 ∈ wsX3_placePupil := List.mem_of_getElem? (i := 3) rfl
theorem lX3_placePupil_37 : Cond.fieldLink RX3 37 (TX3 7).1 (TX3 7).2.1 (TX3 7).2.2.1 ∈ wsX3_placePupil := List.mem_of_getElem? (i := 2) rfl
theorem lX3_placePupil_59 : Cond.fieldLink RX3 59 (TX6 1).1 (TX6 1).2.1 (TX6 1).2.2.1 ∈ wsX3_placePupil := List.mem_of_getElem? (i := 8) rfl
theorem lX3_placePupil_75 : Cond.fieldLink RX3 75 (TX0 1).1 (TX0 1).2.1 (TX0 1).2.2.1 ∈ wsX3_placePupil := List.mem_of_getElem? (i := 9) rfl
theorem lX3_placePupil_78 : Cond.fieldLink RX3 78 (TX6 2).1 (TX6 2).2.1 (TX6 2).2.2.1 ∈ wsX3_placePupil := List.mem_of_getElem? (i := 5) rfl
theorem lX3_placePupil_85 : Cond.fieldLink RX3 85 (TX4 4).1 (TX4 4).2.1 (TX4 4).2.2.1 ∈ wsX3_placePupil := List.mem_of_getElem? (i := 7) rfl
theorem lX3_placePupil_123 : Cond.fieldLink RX3 123 (TX3 8).1 (TX3 8).2.1 (TX3 8).2.2.1 ∈ wsX3_placePupil := List.mem_of_getElem? (i := 1) rfl
theorem lX3_placePupil_138 : Cond.fieldLink RX3 138 (TX4 3).1 (TX4 3).2.1 (TX4 3).2.2.1 ∈ wsX3_placePupil := List.mem_of_getElem? (i := 6) rfl
theorem inX3_placePupil_0 : ∀ w ∈ u_ws RX0 TX0 6, w ∈ wsX3_placePupil := fun _ h => List.mem_cons_of_mem _ (List.mem_append_left _ (List.mem_append_right _ h))
theorem inX3_placePupil_3 : ∀ w ∈ u_ws RX3 TX3 10, w ∈ wsX3_placePupil := fun _ h => List.mem_cons_of_mem _ (List.mem_append_left _ (List.mem_append_left _ (List.mem_append_left _ (List.mem_append_left _ (List.mem_append_right _ h)))))
theorem inX3_placePupil_4 : ∀ w ∈ u_ws RX4 TX4 6, w ∈ wsX3_placePupil := fun _ h => List.mem_cons_of_mem _ (List.mem_append_left _ (List.mem_append_left _ (List.mem_append_right _ h)))
theorem inX3_placePupil_6 : ∀ w ∈ u_ws RX6 TX6 6, w ∈ wsX3_placePupil := fun _ h => List.mem_cons_of_mem _ (List.mem_append_left _ (List.mem_append_left _ (List.mem_append_left _ (List.mem_append_right _ h))))
theorem hdX3_placePupil : yX3_placePupil.cls = RX3 ∧ yX3_placePupil.cls ≠ "java/lang/invoke/MethodHandle" ∧ yX3_placePupil.cls ≠ "java/lang/invoke/VarHandle" ∧ (parseMethodDescriptor yX3_placePupil.desc).map (fun d => d.parameters.length) = some 2 := by decide +kernel
abbrev wrX3_placePupil_15_28 : List (Nat × Nat) := [(1, 20), (1, 19), (1, 27), (0, 968)]
abbrev rmX3_placePupil_15_28 : Room := { frames := 2, cells := 0, slots := 0, locals := 45 }
set_option maxHeartbeats 4000000 in
set_option maxRecDepth 100000 in
theorem wX3_placePupil_15_28_50 {p : Program} {l : Launch} {e : Env} {s : State} {m : MethodId} {args : Array Value} {below : List Frame} {meth : Method} {c : Code} {D : va_G} {b : Nat → Nat} {ids : List Nat} {A : Nat → Prop} {S0 : ns_S} {o : Int32 × (Nat → Int32) × (Nat → Int32) × (Nat → Int32) × Int32} (N : Nat) (hI : ∀ i, i < 107 → i ∈ ids) (C : ns_C p m c cX3_placePupil 6 s args wsX3_placePupil RX3 D A) (hr : meth.sig.returnType = some .int) (hlk : meth.locks = false) : ∀ n : Nat, ∀ {S : ns_S} {H : Heap} {locs : List Loc} {ls : Array Slot} {l2 : Int32} {l3 : Int32} {l4 : Int32}, ns_W D b ids A s.heap wrX3_placePupil_15_28 S0 S H locs → lv_has ls 6 [(0, .ref (b 15)), (1, .ref (b 28)), (2, .int l2), (3, .int l3), (4, .int l4)] → fX3_placePupil_50 N n (S.1 968) (S.2.1 27) (S.2.1 26) (S.2.1 20) (S.2.1 40) (S.2.1 41) (S.2.1 42) (S.2.1 32) (S.2.1 19) (S.2.1 25) (S.2.1 18) l2 l3 l4 = some o → W p l e rmX3_placePupil_15_28 s m args below meth c H locs 0 0 (MQ below (ns_Q D b ids (ns_A (ns_A (ns_A (ns_I S0 968 o.2.2.2.2) 27 o.2.2.2.1) 19 o.2.2.1) 20 o.2.1) (some (.int o.1)) A) args s 0 0 A) (F0 m 50 ls []) := by
  intro n
  induction n with
  | zero =>
    intro S H locs ls l2 l3 l4 w hl hf
    cases hf
  | succ n K50 =>
    intro S H locs ls l2 l3 l4 w hl hf
    change gX3_placePupil_50 N (fX3_placePupil_50 N n) (S.1 968) (S.2.1 27) (S.2.1 26) (S.2.1 20) (S.2.1 40) (S.2.1 41) (S.2.1 42) (S.2.1 32) (S.2.1 19) (S.2.1 25) (S.2.1 18) l2 l3 l4 = some o at hf
    generalize fX3_placePupil_50 N n = r50 at hf K50
    unfold gX3_placePupil_50 at hf
    refine lv_iload C.1.1 C.1.2.1 dX3_placePupil_50 (lv_at hl 4 rfl) ?_
    refine lv_aload_n C.1.1 C.1.2.1 dX3_placePupil_52 rfl (lv_at hl 1 rfl) ?_
    refine ns_getr C w 28 (hI 28 (by decide)) sh_28 (rfl : vwCl[6]? = some (RX6, TX6, 6)) inX3_placePupil_6 2 (by decide) rfl lX3_placePupil_78 dX3_placePupil_53 ?_
    refine ns_getr C w 37 (hI 37 (by decide)) sh_37 (rfl : vwCl[4]? = some (RX4, TX4, 6)) inX3_placePupil_4 4 (by decide) rfl lX3_placePupil_85 dX3_placePupil_56 ?_
    refine lv_iload_n C.1.1 C.1.2.1 dX3_placePupil_59 rfl (lv_at hl 2 rfl) ?_
    refine ns_iald C w 41 (hI 41 (by decide)) sh_41 hf rfl dX3_placePupil_60 (fun x1 hf => ?_)
    refine ns_icmp_ge C hf (tgt := 114) dX3_placePupil_61 (by decide) (fun hf => ?_) (fun hf => ?_)
    · refine lv_iconst (v := 0) C.1.1 C.1.2.1 dX3_placePupil_114 (by decide) ?_
      have he := Option.some.inj hf
      subst he
      exact ns_iret C w hr hlk rfl rfl dX3_placePupil_115
    · refine lv_aload_n C.1.1 C.1.2.1 dX3_placePupil_64 rfl (lv_at hl 1 rfl) ?_
      refine ns_getr C w 28 (hI 28 (by decide)) sh_28 (rfl : vwCl[6]? = some (RX6, TX6, 6)) inX3_placePupil_6 2 (by decide) rfl lX3_placePupil_78 dX3_placePupil_65 ?_
      refine lv_iload_n C.1.1 C.1.2.1 dX3_placePupil_68 rfl (lv_at hl 2 rfl) ?_
      refine lv_iload C.1.1 C.1.2.1 dX3_placePupil_69 (lv_at hl 4 rfl) ?_
      refine ns_callV C w 37 (hI 37 (by decide)) sh_37 (rfl : vwCl[4]? = some (RX4, TX4, 6)) [.int l2, .int l4] hf (fun u hu => mX4_courseOfRank_37 l D b ids hI N _ l2 l4 hu) gX3_placePupil_X4_courseOfRank rfl rfl rfl hdX4_courseOfRank ⟨Nat.le_of_ble_eq_true rfl, Nat.le_of_ble_eq_true rfl⟩ (fun u h => h) rfl hl.1 rfl (Nat.le_of_ble_eq_true rfl) ⟨Nat.le_refl _, Nat.le_refl _⟩ dX3_placePupil_71 (fun o2 H locs hf w => ?_)
      refine lv_istore (lv' := [(5, .int o2), (0, .ref (b 15)), (1, .ref (b 28)), (2, .int l2), (3, .int l3), (4, .int l4)]) C.1.1 C.1.2.1 dX3_placePupil_74 hl (by decide) rfl (fun ls hl => ?_)
      refine lv_iload_n C.1.1 C.1.2.1 dX3_placePupil_76 rfl (lv_at hl 4 rfl) ?_
      refine lv_iload C.1.1 C.1.2.1 dX3_placePupil_77 (lv_at hl 0 rfl) ?_
      refine lv_ishr C.1.1 C.1.2.1 dX3_placePupil_79 ?_
      refine lv_iconst (v := 1) C.1.1 C.1.2.1 dX3_placePupil_80 (by decide) ?_
      refine lv_iand C.1.1 C.1.2.1 dX3_placePupil_81 ?_
      refine ns_if_eq C hf (tgt := 108) dX3_placePupil_82 (by decide) (fun hf => ?_) (fun hf => ?_)
      · refine ns_iinc (lv' := fun x3 => [(4, .int x3), (5, .int o2), (0, .ref (b 15)), (1, .ref (b 28)), (2, .int l2), (3, .int l3)]) C hf dX3_placePupil_108 hl (k := 5) rfl rfl (by decide) (fun _ => rfl) (fun x3 ls hl hf => ?_)
        refine lv_goto (tgt := 50) C.1.1 C.1.2.1 dX3_placePupil_111 (by decide) ?_
        exact K50 w (lv_sub hl [2, 3, 4, 5, 0] rfl) hf
      · refine lv_aload_n C.1.1 C.1.2.1 dX3_placePupil_85 rfl (lv_at hl 1 rfl) ?_
        refine lv_iload_n C.1.1 C.1.2.1 dX3_placePupil_86 rfl (lv_at hl 3 rfl) ?_
        refine lv_iload C.1.1 C.1.2.1 dX3_placePupil_87 (lv_at hl 0 rfl) ?_
        refine lv_aload_n C.1.1 C.1.2.1 dX3_placePupil_89 rfl (lv_at hl 2 rfl) ?_
        refine ns_getr C w 28 (hI 28 (by decide)) sh_28 (rfl : vwCl[6]? = some (RX6, TX6, 6)) inX3_placePupil_6 1 (by decide) rfl lX3_placePupil_59 dX3_placePupil_90 ?_
        refine ns_getr C w 31 (hI 31 (by decide)) sh_31 (rfl : vwCl[0]? = some (RX0, TX0, 6)) inX3_placePupil_0 1 (by decide) rfl lX3_placePupil_75 dX3_placePupil_93 ?_
        refine lv_iload C.1.1 C.1.2.1 dX3_placePupil_96 (lv_at hl 0 rfl) ?_
        refine ns_iald C w 32 (hI 32 (by decide)) sh_32 hf rfl dX3_placePupil_98 (fun x4 hf => ?_)
        refine ns_callV C w 15 (hI 15 (by decide)) sh_15 (rfl : vwCl[3]? = some (RX3, TX3, 10)) [.int l2, .int o2, .int x4] hf (fun u hu => mX3_givePlace_15 l D b ids hI N _ l2 o2 x4 hu) gX3_placePupil_X3_givePlace rfl rfl rfl hdX3_givePlace ⟨Nat.le_of_ble_eq_true rfl, Nat.le_of_ble_eq_true rfl⟩ (fun u h => ((((h.I (List.mem_of_getElem? (i := 3) rfl) _).A (List.mem_of_getElem? (i := 2) rfl) _).A (List.mem_of_getElem? (i := 1) rfl) _).A (List.mem_of_getElem? (i := 0) rfl) _)) rfl hl.1 rfl (Nat.le_of_ble_eq_true rfl) ⟨Nat.le_refl _, Nat.le_refl _⟩ dX3_placePupil_99 (fun o5 H locs hf w => ?_)
        refine lv_bipush (v := 6) C.1.1 C.1.2.1 dX3_placePupil_102 (by decide) ?_
        refine lv_iload C.1.1 C.1.2.1 dX3_placePupil_104 (lv_at hl 5 rfl) ?_
        refine lv_isub C.1.1 C.1.2.1 dX3_placePupil_106 ?_
        have he := Option.some.inj hf
        subst he
        exact ns_iret C w hr hlk rfl rfl dX3_placePupil_107
set_option maxHeartbeats 4000000 in
set_option maxRecDepth 100000 in
theorem mX3_placePupil_15_28 (l : Launch) (D : va_G) (b : Nat → Nat) (ids : List Nat) (hI : ∀ i, i < 107 → i ∈ ids) (N : Nat) (S : ns_S) (p2 : Int32) {o : Int32 × (Nat → Int32) × (Nat → Int32) × (Nat → Int32) × Int32} (hf : fX3_placePupil N (S.1 968) (S.2.1 27) (S.2.1 26) (S.2.1 20) (S.2.1 40) (S.2.1 41) (S.2.1 42) (S.2.1 32) (S.2.1 19) (S.2.1 25) (S.2.1 18) p2 = some o) : ns_M l yX3_placePupil wsX3_placePupil rmX3_placePupil_15_28 D b ids S [.ref (b 15), .ref (b 28), .int p2] (some (.int o.1)) (ns_A (ns_A (ns_A (ns_I S 968 o.2.2.2.2) 27 o.2.2.2.1) 19 o.2.2.1) 20 o.2.1) := by
  refine ns_start (Wr := wrX3_placePupil_15_28) (by decide) rfl (Nat.le_of_ble_eq_true rfl) ?_
  intro p e s m below meth c A ls C hr hlk w hl
  have hl : lv_has ls 6 [(0, .ref (b 15)), (1, .ref (b 28)), (2, .int p2)] := hl
  unfold fX3_placePupil at hf
  refine lv_aload_n C.1.1 C.1.2.1 dX3_placePupil_0 rfl (lv_at hl 0 rfl) ?_
  refine ns_geti C w 15 (hI 15 (by decide)) sh_15 (rfl : vwCl[3]? = some (RX3, TX3, 10)) inX3_placePupil_3 8 (by decide) rfl lX3_placePupil_123 (S.1 968) rfl dX3_placePupil_1 ?_
  refine lv_aload_n C.1.1 C.1.2.1 dX3_placePupil_4 rfl (lv_at hl 0 rfl) ?_
  refine ns_getr C w 15 (hI 15 (by decide)) sh_15 (rfl : vwCl[3]? = some (RX3, TX3, 10)) inX3_placePupil_3 7 (by decide) rfl lX3_placePupil_37 dX3_placePupil_5 ?_
  refine lv_iload_n C.1.1 C.1.2.1 dX3_placePupil_8 rfl (lv_at hl 2 rfl) ?_
  refine ns_iald C w 27 (hI 27 (by decide)) sh_27 hf rfl dX3_placePupil_9 (fun x1 hf => ?_)
  refine lv_iconst (v := (-1)) C.1.1 C.1.2.1 dX3_placePupil_10 (by decide) ?_
  refine lv_ixor C.1.1 C.1.2.1 dX3_placePupil_11 ?_
  refine lv_iand C.1.1 C.1.2.1 dX3_placePupil_12 ?_
  refine ns_namei hf (fun x2 hf => ?_)
  refine lv_istore_n (lv' := [(3, .int x2), (0, .ref (b 15)), (1, .ref (b 28)), (2, .int p2)]) C.1.1 C.1.2.1 dX3_placePupil_13 rfl hl (by decide) rfl (fun ls hl => ?_)
  refine lv_iload_n C.1.1 C.1.2.1 dX3_placePupil_14 rfl (lv_at hl 0 rfl) ?_
  refine lv_aload_n C.1.1 C.1.2.1 dX3_placePupil_15 rfl (lv_at hl 1 rfl) ?_
  refine ns_getr C w 15 (hI 15 (by decide)) sh_15 (rfl : vwCl[3]? = some (RX3, TX3, 10)) inX3_placePupil_3 6 (by decide) rfl lX3_placePupil_34 dX3_placePupil_16 ?_
  refine lv_iload_n C.1.1 C.1.2.1 dX3_placePupil_19 rfl (lv_at hl 3 rfl) ?_
  refine ns_iald C w 26 (hI 26 (by decide)) sh_26 hf rfl dX3_placePupil_20 (fun x3 hf => ?_)
  refine lv_iand C.1.1 C.1.2.1 dX3_placePupil_21 ?_
  refine ns_if_eq C hf (tgt := 45) dX3_placePupil_22 (by decide) (fun hf => ?_) (fun hf => ?_)
  · refine lv_iconst (v := 0) C.1.1 C.1.2.1 dX3_placePupil_45 (by decide) ?_
    have he := Option.some.inj hf
    subst he
    exact ns_iret C w hr hlk rfl rfl dX3_placePupil_46
  · refine lv_aload_n C.1.1 C.1.2.1 dX3_placePupil_25 rfl (lv_at hl 1 rfl) ?_
    refine ns_getr C w 15 (hI 15 (by decide)) sh_15 (rfl : vwCl[3]? = some (RX3, TX3, 10)) inX3_placePupil_3 0 (by decide) rfl lX3_placePupil_12 dX3_placePupil_26 ?_
    refine lv_iload_n C.1.1 C.1.2.1 dX3_placePupil_29 rfl (lv_at hl 3 rfl) ?_
    refine ns_callV C w 16 (hI 16 (by decide)) sh_16 (rfl : vwCl[7]? = some (RX7, TX7, 5)) [.int p2] hf (fun u hu => mX7_coursesOf_16 l D b ids hI N _ p2 hu) gX3_placePupil_X7_coursesOf rfl rfl rfl hdX7_coursesOf ⟨Nat.le_of_ble_eq_true rfl, Nat.le_of_ble_eq_true rfl⟩ (fun u h => h) rfl hl.1 rfl (Nat.le_of_ble_eq_true rfl) ⟨Nat.le_refl _, Nat.le_refl _⟩ dX3_placePupil_30 (fun o4 H locs hf w => ?_)
    refine lv_aload_n C.1.1 C.1.2.1 dX3_placePupil_33 rfl (lv_at hl 2 rfl) ?_
    refine ns_getr C w 28 (hI 28 (by decide)) sh_28 (rfl : vwCl[6]? = some (RX6, TX6, 6)) inX3_placePupil_6 2 (by decide) rfl lX3_placePupil_78 dX3_placePupil_34 ?_
    refine ns_getr C w 37 (hI 37 (by decide)) sh_37 (rfl : vwCl[4]? = some (RX4, TX4, 6)) inX3_placePupil_4 3 (by decide) rfl lX3_placePupil_138 dX3_placePupil_37 ?_
    refine lv_iload_n C.1.1 C.1.2.1 dX3_placePupil_40 rfl (lv_at hl 3 rfl) ?_
    refine ns_iald C w 40 (hI 40 (by decide)) sh_40 hf rfl dX3_placePupil_41 (fun x5 hf => ?_)
    refine ns_icmp_lt C hf (tgt := 47) dX3_placePupil_42 (by decide) (fun hf => ?_) (fun hf => ?_)
    · refine lv_iconst (v := 0) C.1.1 C.1.2.1 dX3_placePupil_47 (by decide) ?_
      refine lv_istore (lv' := [(4, .int 0), (3, .int x2), (0, .ref (b 15)), (1, .ref (b 28)), (2, .int p2)]) C.1.1 C.1.2.1 dX3_placePupil_48 hl (by decide) rfl (fun ls hl => ?_)
      exact wX3_placePupil_15_28_50 N hI C hr hlk N w (lv_sub hl [2, 3, 4, 1, 0] rfl) hf
    · refine lv_iconst (v := 0) C.1.1 C.1.2.1 dX3_placePupil_45 (by decide) ?_
      have he := Option.some.inj hf
      subst he
      exact ns_iret C w hr hlk rfl rfl dX3_placePupil_46
theorem lX3_placePupils_12 : Cond.fieldLink RX3 12 (TX3 0).1 (TX3 0).2.1 (TX3 0).2.2.1 ∈ wsX3_placePupils := List.mem_of_getElem? (i := 1) rfl
theorem lX3_placePupils_37 : Cond.fieldLink RX3 37 (TX3 7).1 (TX3 7).2.1 (TX3 7).2.2.1 ∈ wsX3_placePupils := List.mem_of_getElem? (i := 4) rfl
theorem lX3_placePupils_78 : Cond.fieldLink RX3 78 (TX6 2).1 (TX6 2).2.1 (TX6 2).2.2.1 ∈ wsX3_placePupils := List.mem_of_getElem? (i := 5) rfl
theorem lX3_placePupils_82 : Cond.fieldLink RX3 82 (TX4 0).1 (TX4 0).2.1 (TX4 0).2.2.1 ∈ wsX3_placePupils := List.mem_of_getElem? (i := 6) rfl
theorem lX3_placePupils_95 : Cond.fieldLink RX3 95 (TX7 0).1 (TX7 0).2.1 (TX7 0).2.2.1 ∈ wsX3_placePupils := List.mem_of_getElem? (i := 2) rfl
theorem lX3_placePupils_123 : Cond.fieldLink RX3 123 (TX3 8).1 (TX3 8).2.1 (TX3 8).2.2.1 ∈ wsX3_placePupils := List.mem_of_getElem? (i := 3) rfl
theorem inX3_placePupils_3 : ∀ w ∈ u_ws RX3 TX3 10, w ∈ wsX3_placePupils := fun _ h => List.mem_cons_of_mem _ (List.mem_append_left _ (List.mem_append_left _ (List.mem_append_left _ (List.mem_append_left _ (List.mem_append_right _ h)))))
theorem inX3_placePupils_4 : ∀ w ∈ u_ws RX4 TX4 6, w ∈ wsX3_placePupils := fun _ h => List.mem_cons_of_mem _ (List.mem_append_left _ (List.mem_append_right _ h))
theorem inX3_placePupils_6 : ∀ w ∈ u_ws RX6 TX6 6, w ∈ wsX3_placePupils := fun _ h => List.mem_cons_of_mem _ (List.mem_append_left _ (List.mem_append_left _ (List.mem_append_right _ h)))
theorem inX3_placePupils_7 : ∀ w ∈ u_ws RX7 TX7 5, w ∈ wsX3_placePupils := fun _ h => List.mem_cons_of_mem _ (List.mem_append_left _ (List.mem_append_left _ (List.mem_append_left _ (List.mem_append_right _ h))))
theorem hdX3_placePupils : yX3_placePupils.cls = RX3 ∧ yX3_placePupils.cls ≠ "java/lang/invoke/MethodHandle" ∧ yX3_placePupils.cls ≠ "java/lang/invoke/VarHandle" ∧ (parseMethodDescriptor yX3_placePupils.desc).map (fun d => d.parameters.length) = some 1 := by decide +kernel
abbrev wrX3_placePupils_15_28 : List (Nat × Nat) := [(0, 968), (1, 27), (1, 20), (1, 19)]
abbrev rmX3_placePupils_15_28 : Room := { frames := 3, cells := 0, slots := 0, locals := 70 }
set_option maxHeartbeats 4000000 in
set_option maxRecDepth 100000 in
theorem wX3_placePupils_15_28_67 {p : Program} {l : Launch} {e : Env} {s : State} {m : MethodId} {args : Array Value} {below : List Frame} {meth : Method} {c : Code} {D : va_G} {b : Nat → Nat} {ids : List Nat} {A : Nat → Prop} {S0 : ns_S} {o : Int32 × Int32 × (Nat → Int32) × (Nat → Int32) × (Nat → Int32)} (N : Nat) (hI : ∀ i, i < 107 → i ∈ ids) (C : ns_C p m c cX3_placePupils 6 s args wsX3_placePupils RX3 D A) (hr : meth.sig.returnType = some .int) (hlk : meth.locks = false) {r34 : Int32 → Int32 → (Nat → Int32) → Int32 → Int32 → (Nat → Int32) → (Nat → Int32) → (Nat → Int32) → (Nat → Int32) → (Nat → Int32) → (Nat → Int32) → (Nat → Int32) → (Nat → Int32) → (Nat → Int32) → (Nat → Int32) → Int32 → Int32 → Int32 → Option (Int32 × Int32 × (Nat → Int32) × (Nat → Int32) × (Nat → Int32))} (K34 : ∀ {S : ns_S} {H : Heap} {locs : List Loc} {ls : Array Slot} {l2 : Int32} {l3 : Int32} {l4 : Int32}, ns_W D b ids A s.heap wrX3_placePupils_15_28 S0 S H locs → lv_has ls 6 [(0, .ref (b 15)), (1, .ref (b 28)), (2, .int l2), (3, .int l3), (4, .int l4)] → r34 (S.1 1024) (S.1 968) (S.2.1 27) (S.1 2368) (S.1 1984) (S.2.1 19) (S.2.1 34) (S.2.1 26) (S.2.1 20) (S.2.1 40) (S.2.1 41) (S.2.1 42) (S.2.1 32) (S.2.1 25) (S.2.1 18) l2 l3 l4 = some o → W p l e rmX3_placePupils_15_28 s m args below meth c H locs 0 0 (MQ below (ns_Q D b ids (ns_I (ns_A (ns_A (ns_A S0 19 o.2.2.2.2) 20 o.2.2.2.1) 27 o.2.2.1) 968 o.2.1) (some (.int o.1)) A) args s 0 0 A) (F0 m 34 ls [])) {r43 : Int32 → Int32 → (Nat → Int32) → Int32 → Int32 → (Nat → Int32) → (Nat → Int32) → (Nat → Int32) → (Nat → Int32) → (Nat → Int32) → (Nat → Int32) → (Nat → Int32) → (Nat → Int32) → (Nat → Int32) → (Nat → Int32) → Int32 → Int32 → Int32 → Int32 → Option (Int32 × Int32 × (Nat → Int32) × (Nat → Int32) × (Nat → Int32))} (K43 : ∀ {S : ns_S} {H : Heap} {locs : List Loc} {ls : Array Slot} {l2 : Int32} {l3 : Int32} {l4 : Int32} {l5 : Int32}, ns_W D b ids A s.heap wrX3_placePupils_15_28 S0 S H locs → lv_has ls 6 [(0, .ref (b 15)), (1, .ref (b 28)), (2, .int l2), (3, .int l3), (4, .int l4), (5, .int l5)] → r43 (S.1 1024) (S.1 968) (S.2.1 27) (S.1 2368) (S.1 1984) (S.2.1 19) (S.2.1 34) (S.2.1 26) (S.2.1 20) (S.2.1 40) (S.2.1 41) (S.2.1 42) (S.2.1 32) (S.2.1 25) (S.2.1 18) l2 l3 l4 l5 = some o → W p l e rmX3_placePupils_15_28 s m args below meth c H locs 0 0 (MQ below (ns_Q D b ids (ns_I (ns_A (ns_A (ns_A S0 19 o.2.2.2.2) 20 o.2.2.2.1) 27 o.2.2.1) 968 o.2.1) (some (.int o.1)) A) args s 0 0 A) (F0 m 43 ls [])) : ∀ {S : ns_S} {H : Heap} {locs : List Loc} {ls : Array Slot} {l3 : Int32} {l4 : Int32} {l5 : Int32} {s0 : Int32} {s3 : Int32}, ns_W D b ids A s.heap wrX3_placePupils_15_28 S0 S H locs → lv_has ls 6 [(0, .ref (b 15)), (1, .ref (b 28)), (3, .int l3), (4, .int l4), (5, .int l5)] → gX3_placePupils_67 N r34 r43 (S.1 1024) (S.1 968) (S.2.1 27) (S.1 2368) (S.1 1984) (S.2.1 19) (S.2.1 34) (S.2.1 26) (S.2.1 20) (S.2.1 40) (S.2.1 41) (S.2.1 42) (S.2.1 32) (S.2.1 25) (S.2.1 18) l3 l4 l5 s0 s3 = some o → W p l e rmX3_placePupils_15_28 s m args below meth c H locs 0 0 (MQ below (ns_Q D b ids (ns_I (ns_A (ns_A (ns_A S0 19 o.2.2.2.2) 20 o.2.2.2.1) 27 o.2.2.1) 968 o.2.1) (some (.int o.1)) A) args s 0 0 A) (F0 m 67 ls [.int s3, .ref (b 28), .ref (b 15), .int s0]) := by
  intro S H locs ls l3 l4 l5 s0 s3 w hl hf
  unfold gX3_placePupils_67 at hf
  refine ns_callV C w 15 (hI 15 (by decide)) sh_15 (rfl : vwCl[3]? = some (RX3, TX3, 10)) [.ref (b 28), .int s3] hf (fun u hu => mX3_placePupil_15_28 l D b ids hI N _ s3 hu) gX3_placePupils_X3_placePupil rfl rfl rfl hdX3_placePupil ⟨Nat.le_of_ble_eq_true rfl, Nat.le_of_ble_eq_true rfl⟩ (fun u h => ((((h.I (List.mem_of_getElem? (i := 0) rfl) _).A (List.mem_of_getElem? (i := 1) rfl) _).A (List.mem_of_getElem? (i := 3) rfl) _).A (List.mem_of_getElem? (i := 2) rfl) _)) rfl hl.1 rfl (Nat.le_of_ble_eq_true rfl) ⟨Nat.le_refl _, Nat.le_refl _⟩ dX3_placePupils_67 (fun o1 H locs hf w => ?_)
  refine lv_iadd C.1.1 C.1.2.1 dX3_placePupils_70 ?_
  refine ns_namei hf (fun x2 hf => ?_)
  refine lv_istore_n (lv' := [(2, .int x2), (0, .ref (b 15)), (1, .ref (b 28)), (3, .int l3), (4, .int l4), (5, .int l5)]) C.1.1 C.1.2.1 dX3_placePupils_71 rfl hl (by decide) rfl (fun ls hl => ?_)
  refine ns_iinc (lv' := fun x3 => [(5, .int x3), (2, .int x2), (0, .ref (b 15)), (1, .ref (b 28)), (3, .int l3), (4, .int l4)]) C hf dX3_placePupils_72 hl (k := 5) rfl rfl (by decide) (fun _ => rfl) (fun x3 ls hl hf => ?_)
  refine lv_goto (tgt := 43) C.1.1 C.1.2.1 dX3_placePupils_75 (by decide) ?_
  exact K43 w (lv_sub hl [2, 3, 1, 4, 5, 0] rfl) hf
set_option maxHeartbeats 4000000 in
set_option maxRecDepth 100000 in
theorem wX3_placePupils_15_28_43 {p : Program} {l : Launch} {e : Env} {s : State} {m : MethodId} {args : Array Value} {below : List Frame} {meth : Method} {c : Code} {D : va_G} {b : Nat → Nat} {ids : List Nat} {A : Nat → Prop} {S0 : ns_S} {o : Int32 × Int32 × (Nat → Int32) × (Nat → Int32) × (Nat → Int32)} (N : Nat) (hI : ∀ i, i < 107 → i ∈ ids) (C : ns_C p m c cX3_placePupils 6 s args wsX3_placePupils RX3 D A) (hr : meth.sig.returnType = some .int) (hlk : meth.locks = false) {r34 : Int32 → Int32 → (Nat → Int32) → Int32 → Int32 → (Nat → Int32) → (Nat → Int32) → (Nat → Int32) → (Nat → Int32) → (Nat → Int32) → (Nat → Int32) → (Nat → Int32) → (Nat → Int32) → (Nat → Int32) → (Nat → Int32) → Int32 → Int32 → Int32 → Option (Int32 × Int32 × (Nat → Int32) × (Nat → Int32) × (Nat → Int32))} (K34 : ∀ {S : ns_S} {H : Heap} {locs : List Loc} {ls : Array Slot} {l2 : Int32} {l3 : Int32} {l4 : Int32}, ns_W D b ids A s.heap wrX3_placePupils_15_28 S0 S H locs → lv_has ls 6 [(0, .ref (b 15)), (1, .ref (b 28)), (2, .int l2), (3, .int l3), (4, .int l4)] → r34 (S.1 1024) (S.1 968) (S.2.1 27) (S.1 2368) (S.1 1984) (S.2.1 19) (S.2.1 34) (S.2.1 26) (S.2.1 20) (S.2.1 40) (S.2.1 41) (S.2.1 42) (S.2.1 32) (S.2.1 25) (S.2.1 18) l2 l3 l4 = some o → W p l e rmX3_placePupils_15_28 s m args below meth c H locs 0 0 (MQ below (ns_Q D b ids (ns_I (ns_A (ns_A (ns_A S0 19 o.2.2.2.2) 20 o.2.2.2.1) 27 o.2.2.1) 968 o.2.1) (some (.int o.1)) A) args s 0 0 A) (F0 m 34 ls [])) : ∀ n : Nat, ∀ {S : ns_S} {H : Heap} {locs : List Loc} {ls : Array Slot} {l2 : Int32} {l3 : Int32} {l4 : Int32} {l5 : Int32}, ns_W D b ids A s.heap wrX3_placePupils_15_28 S0 S H locs → lv_has ls 6 [(0, .ref (b 15)), (1, .ref (b 28)), (2, .int l2), (3, .int l3), (4, .int l4), (5, .int l5)] → fX3_placePupils_43 N r34 n (S.1 1024) (S.1 968) (S.2.1 27) (S.1 2368) (S.1 1984) (S.2.1 19) (S.2.1 34) (S.2.1 26) (S.2.1 20) (S.2.1 40) (S.2.1 41) (S.2.1 42) (S.2.1 32) (S.2.1 25) (S.2.1 18) l2 l3 l4 l5 = some o → W p l e rmX3_placePupils_15_28 s m args below meth c H locs 0 0 (MQ below (ns_Q D b ids (ns_I (ns_A (ns_A (ns_A S0 19 o.2.2.2.2) 20 o.2.2.2.1) 27 o.2.2.1) 968 o.2.1) (some (.int o.1)) A) args s 0 0 A) (F0 m 43 ls []) := by
  intro n
  induction n with
  | zero =>
    intro S H locs ls l2 l3 l4 l5 w hl hf
    cases hf
  | succ n K43 =>
    intro S H locs ls l2 l3 l4 l5 w hl hf
    change gX3_placePupils_43 N r34 (fX3_placePupils_43 N r34 n) (S.1 1024) (S.1 968) (S.2.1 27) (S.1 2368) (S.1 1984) (S.2.1 19) (S.2.1 34) (S.2.1 26) (S.2.1 20) (S.2.1 40) (S.2.1 41) (S.2.1 42) (S.2.1 32) (S.2.1 25) (S.2.1 18) l2 l3 l4 l5 = some o at hf
    generalize fX3_placePupils_43 N r34 n = r43 at hf K43
    unfold gX3_placePupils_43 at hf
    refine lv_iload C.1.1 C.1.2.1 dX3_placePupils_43 (lv_at hl 5 rfl) ?_
    refine lv_iload_n C.1.1 C.1.2.1 dX3_placePupils_45 rfl (lv_at hl 3 rfl) ?_
    refine ns_icmp_gt C hf (tgt := 78) dX3_placePupils_46 (by decide) (fun hf => ?_) (fun hf => ?_)
    · refine ns_iinc (lv' := fun x1 => [(4, .int x1), (0, .ref (b 15)), (1, .ref (b 28)), (2, .int l2), (3, .int l3), (5, .int l5)]) C hf dX3_placePupils_78 hl (k := 4) rfl rfl (by decide) (fun _ => rfl) (fun x1 ls hl hf => ?_)
      refine lv_goto (tgt := 34) C.1.1 C.1.2.1 dX3_placePupils_81 (by decide) ?_
      exact K34 w (lv_sub hl [1, 2, 3, 4, 0] rfl) hf
    · refine lv_iload_n C.1.1 C.1.2.1 dX3_placePupils_49 rfl (lv_at hl 2 rfl) ?_
      refine lv_aload_n C.1.1 C.1.2.1 dX3_placePupils_50 rfl (lv_at hl 0 rfl) ?_
      refine lv_aload_n C.1.1 C.1.2.1 dX3_placePupils_51 rfl (lv_at hl 1 rfl) ?_
      refine lv_iload C.1.1 C.1.2.1 dX3_placePupils_52 (lv_at hl 4 rfl) ?_
      refine lv_iconst (v := 1) C.1.1 C.1.2.1 dX3_placePupils_54 (by decide) ?_
      refine ns_icmp_ne C hf (tgt := 65) dX3_placePupils_55 (by decide) (fun hf => ?_) (fun hf => ?_)
      · refine lv_iload C.1.1 C.1.2.1 dX3_placePupils_65 (lv_at hl 5 rfl) ?_
        exact wX3_placePupils_15_28_67 N hI C hr hlk K34 K43 w (lv_sub hl [0, 1, 3, 4, 5] rfl) hf
      · refine lv_iload_n C.1.1 C.1.2.1 dX3_placePupils_58 rfl (lv_at hl 3 rfl) ?_
        refine lv_iload C.1.1 C.1.2.1 dX3_placePupils_59 (lv_at hl 5 rfl) ?_
        refine lv_isub C.1.1 C.1.2.1 dX3_placePupils_61 ?_
        refine lv_goto (tgt := 67) C.1.1 C.1.2.1 dX3_placePupils_62 (by decide) ?_
        exact wX3_placePupils_15_28_67 N hI C hr hlk K34 K43 w (lv_sub hl [0, 1, 3, 4, 5] rfl) hf
set_option maxHeartbeats 4000000 in
set_option maxRecDepth 100000 in
theorem wX3_placePupils_15_28_34 {p : Program} {l : Launch} {e : Env} {s : State} {m : MethodId} {args : Array Value} {below : List Frame} {meth : Method} {c : Code} {D : va_G} {b : Nat → Nat} {ids : List Nat} {A : Nat → Prop} {S0 : ns_S} {o : Int32 × Int32 × (Nat → Int32) × (Nat → Int32) × (Nat → Int32)} (N : Nat) (hI : ∀ i, i < 107 → i ∈ ids) (C : ns_C p m c cX3_placePupils 6 s args wsX3_placePupils RX3 D A) (hr : meth.sig.returnType = some .int) (hlk : meth.locks = false) : ∀ n : Nat, ∀ {S : ns_S} {H : Heap} {locs : List Loc} {ls : Array Slot} {l2 : Int32} {l3 : Int32} {l4 : Int32}, ns_W D b ids A s.heap wrX3_placePupils_15_28 S0 S H locs → lv_has ls 6 [(0, .ref (b 15)), (1, .ref (b 28)), (2, .int l2), (3, .int l3), (4, .int l4)] → fX3_placePupils_34 N n (S.1 1024) (S.1 968) (S.2.1 27) (S.1 2368) (S.1 1984) (S.2.1 19) (S.2.1 34) (S.2.1 26) (S.2.1 20) (S.2.1 40) (S.2.1 41) (S.2.1 42) (S.2.1 32) (S.2.1 25) (S.2.1 18) l2 l3 l4 = some o → W p l e rmX3_placePupils_15_28 s m args below meth c H locs 0 0 (MQ below (ns_Q D b ids (ns_I (ns_A (ns_A (ns_A S0 19 o.2.2.2.2) 20 o.2.2.2.1) 27 o.2.2.1) 968 o.2.1) (some (.int o.1)) A) args s 0 0 A) (F0 m 34 ls []) := by
  intro n
  induction n with
  | zero =>
    intro S H locs ls l2 l3 l4 w hl hf
    cases hf
  | succ n K34 =>
    intro S H locs ls l2 l3 l4 w hl hf
    change gX3_placePupils_34 N (fX3_placePupils_34 N n) (S.1 1024) (S.1 968) (S.2.1 27) (S.1 2368) (S.1 1984) (S.2.1 19) (S.2.1 34) (S.2.1 26) (S.2.1 20) (S.2.1 40) (S.2.1 41) (S.2.1 42) (S.2.1 32) (S.2.1 25) (S.2.1 18) l2 l3 l4 = some o at hf
    generalize fX3_placePupils_34 N n = r34 at hf K34
    unfold gX3_placePupils_34 at hf
    refine lv_iload C.1.1 C.1.2.1 dX3_placePupils_34 (lv_at hl 4 rfl) ?_
    refine lv_iconst (v := 3) C.1.1 C.1.2.1 dX3_placePupils_36 (by decide) ?_
    refine ns_icmp_ge C hf (tgt := 84) dX3_placePupils_37 (by decide) (fun hf => ?_) (fun hf => ?_)
    · refine lv_aload_n C.1.1 C.1.2.1 dX3_placePupils_84 rfl (lv_at hl 0 rfl) ?_
      refine lv_aload_n C.1.1 C.1.2.1 dX3_placePupils_85 rfl (lv_at hl 1 rfl) ?_
      refine ns_callV C w 15 (hI 15 (by decide)) sh_15 (rfl : vwCl[3]? = some (RX3, TX3, 10)) [.ref (b 28)] hf (fun u hu => mX3_isLawful_15_28 l D b ids hI N _ hu) gX3_placePupils_X3_isLawful rfl rfl rfl hdX3_isLawful ⟨Nat.le_of_ble_eq_true rfl, Nat.le_of_ble_eq_true rfl⟩ (fun u h => h) rfl hl.1 rfl (Nat.le_of_ble_eq_true rfl) ⟨Nat.le_refl _, Nat.le_refl _⟩ dX3_placePupils_86 (fun o1 H locs hf w => ?_)
      refine ns_if_eq C hf (tgt := 96) dX3_placePupils_89 (by decide) (fun hf => ?_) (fun hf => ?_)
      · refine lv_iconst (v := (-1)) C.1.1 C.1.2.1 dX3_placePupils_96 (by decide) ?_
        have he := Option.some.inj hf
        subst he
        exact ns_iret C w hr hlk rfl rfl dX3_placePupils_97
      · refine lv_iload_n C.1.1 C.1.2.1 dX3_placePupils_92 rfl (lv_at hl 2 rfl) ?_
        refine lv_goto (tgt := 97) C.1.1 C.1.2.1 dX3_placePupils_93 (by decide) ?_
        have he := Option.some.inj hf
        subst he
        exact ns_iret C w hr hlk rfl rfl dX3_placePupils_97
    · refine lv_iconst (v := 0) C.1.1 C.1.2.1 dX3_placePupils_40 (by decide) ?_
      refine lv_istore (lv' := [(5, .int 0), (0, .ref (b 15)), (1, .ref (b 28)), (2, .int l2), (3, .int l3), (4, .int l4)]) C.1.1 C.1.2.1 dX3_placePupils_41 hl (by decide) rfl (fun ls hl => ?_)
      exact wX3_placePupils_15_28_43 N hI C hr hlk K34 N w (lv_sub hl [1, 2, 3, 4, 5, 0] rfl) hf
set_option maxHeartbeats 4000000 in
set_option maxRecDepth 100000 in
theorem mX3_placePupils_15_28 (l : Launch) (D : va_G) (b : Nat → Nat) (ids : List Nat) (hI : ∀ i, i < 107 → i ∈ ids) (N : Nat) (S : ns_S) {o : Int32 × Int32 × (Nat → Int32) × (Nat → Int32) × (Nat → Int32)} (hf : fX3_placePupils N (S.1 1024) (S.1 968) (S.2.1 27) (S.1 2368) (S.1 1984) (S.2.1 19) (S.2.1 34) (S.2.1 26) (S.2.1 20) (S.2.1 40) (S.2.1 41) (S.2.1 42) (S.2.1 32) (S.2.1 25) (S.2.1 18) = some o) : ns_M l yX3_placePupils wsX3_placePupils rmX3_placePupils_15_28 D b ids S [.ref (b 15), .ref (b 28)] (some (.int o.1)) (ns_I (ns_A (ns_A (ns_A S 19 o.2.2.2.2) 20 o.2.2.2.1) 27 o.2.2.1) 968 o.2.1) := by
  refine ns_start (Wr := wrX3_placePupils_15_28) (by decide) rfl (Nat.le_of_ble_eq_true rfl) ?_
  intro p e s m below meth c A ls C hr hlk w hl
  have hl : lv_has ls 6 [(0, .ref (b 15)), (1, .ref (b 28))] := hl
  unfold fX3_placePupils at hf
  refine lv_aload_n C.1.1 C.1.2.1 dX3_placePupils_0 rfl (lv_at hl 0 rfl) ?_
  refine lv_aload_n C.1.1 C.1.2.1 dX3_placePupils_1 rfl (lv_at hl 0 rfl) ?_
  refine ns_getr C w 15 (hI 15 (by decide)) sh_15 (rfl : vwCl[3]? = some (RX3, TX3, 10)) inX3_placePupils_3 0 (by decide) rfl lX3_placePupils_12 dX3_placePupils_2 ?_
  refine ns_geti C w 16 (hI 16 (by decide)) sh_16 (rfl : vwCl[7]? = some (RX7, TX7, 5)) inX3_placePupils_7 0 (by decide) rfl lX3_placePupils_95 (S.1 1024) rfl dX3_placePupils_5 ?_
  refine ns_puti C w 15 (hI 15 (by decide)) sh_15 (rfl : vwCl[3]? = some (RX3, TX3, 10)) inX3_placePupils_3 tyX3_ok nmX3 8 (by decide) rfl lX3_placePupils_123 rfl rfl rfl (List.mem_of_getElem? (i := 0) rfl) dX3_placePupils_8 (fun H locs w => ?_)
  refine lv_aload_n C.1.1 C.1.2.1 dX3_placePupils_11 rfl (lv_at hl 0 rfl) ?_
  refine ns_getr C w 15 (hI 15 (by decide)) sh_15 (rfl : vwCl[3]? = some (RX3, TX3, 10)) inX3_placePupils_3 7 (by decide) rfl lX3_placePupils_37 dX3_placePupils_12 ?_
  refine lv_iconst (v := 0) C.1.1 C.1.2.1 dX3_placePupils_15 (by decide) ?_
  refine ns_callS C w [.ref (b 27), .int 0] hf (fun u hu => mJ7_fill_53178_27 l D b ids hI N _ 0 hu) gX3_placePupils_J7_fill_53178 rfl rfl rfl hdJ7_fill_53178 ⟨Nat.le_of_ble_eq_true rfl, Nat.le_of_ble_eq_true rfl⟩ (fun u h => (h.A (List.mem_of_getElem? (i := 1) rfl) _)) rfl hl.1 rfl (Nat.le_of_ble_eq_true rfl) ⟨Nat.le_refl _, Nat.le_refl _⟩ dX3_placePupils_16 (fun o1 H locs hf w => ?_)
  refine lv_iconst (v := 0) C.1.1 C.1.2.1 dX3_placePupils_19 (by decide) ?_
  refine lv_istore_n (lv' := [(2, .int 0), (0, .ref (b 15)), (1, .ref (b 28))]) C.1.1 C.1.2.1 dX3_placePupils_20 rfl hl (by decide) rfl (fun ls hl => ?_)
  refine lv_aload_n C.1.1 C.1.2.1 dX3_placePupils_21 rfl (lv_at hl 2 rfl) ?_
  refine ns_getr C w 28 (hI 28 (by decide)) sh_28 (rfl : vwCl[6]? = some (RX6, TX6, 6)) inX3_placePupils_6 2 (by decide) rfl lX3_placePupils_78 dX3_placePupils_22 ?_
  refine ns_geti C w 37 (hI 37 (by decide)) sh_37 (rfl : vwCl[4]? = some (RX4, TX4, 6)) inX3_placePupils_4 0 (by decide) rfl lX3_placePupils_82 (S.1 2368) rfl dX3_placePupils_25 ?_
  refine lv_iconst (v := 1) C.1.1 C.1.2.1 dX3_placePupils_28 (by decide) ?_
  refine lv_isub C.1.1 C.1.2.1 dX3_placePupils_29 ?_
  refine ns_namei hf (fun x2 hf => ?_)
  refine lv_istore_n (lv' := [(3, .int x2), (2, .int 0), (0, .ref (b 15)), (1, .ref (b 28))]) C.1.1 C.1.2.1 dX3_placePupils_30 rfl hl (by decide) rfl (fun ls hl => ?_)
  refine lv_iconst (v := 0) C.1.1 C.1.2.1 dX3_placePupils_31 (by decide) ?_
  refine lv_istore (lv' := [(4, .int 0), (3, .int x2), (2, .int 0), (0, .ref (b 15)), (1, .ref (b 28))]) C.1.1 C.1.2.1 dX3_placePupils_32 hl (by decide) rfl (fun ls hl => ?_)
  exact wX3_placePupils_15_28_34 N hI C hr hlk N w (lv_sub hl [3, 4, 2, 1, 0] rfl) hf
theorem lX10_points_23 : Cond.fieldLink RX10 23 (TX10 3).1 (TX10 3).2.1 (TX10 3).2.2.1 ∈ wsX10_points := List.mem_of_getElem? (i := 1) rfl
theorem lX10_points_30 : Cond.fieldLink RX10 30 (TX10 4).1 (TX10 4).2.1 (TX10 4).2.2.1 ∈ wsX10_points := List.mem_of_getElem? (i := 2) rfl
theorem inX10_points_10 : ∀ w ∈ u_ws RX10 TX10 6, w ∈ wsX10_points := fun _ h => List.mem_cons_of_mem _ (List.mem_append_left _ (List.mem_append_left _ (List.mem_append_left _ (List.mem_append_left _ (List.mem_append_left _ (List.mem_append_left _ (List.mem_append_right _ h)))))))
theorem hdX10_points : yX10_points.cls = RX10 ∧ yX10_points.cls ≠ "java/lang/invoke/MethodHandle" ∧ yX10_points.cls ≠ "java/lang/invoke/VarHandle" ∧ (parseMethodDescriptor yX10_points.desc).map (fun d => d.parameters.length) = some 1 := by decide +kernel
abbrev wrX10_points_0 : List (Nat × Nat) := [(1, 21), (1, 22), (1, 25), (1, 26), (0, 1024), (1, 17), (1, 18), (1, 19), (1, 20), (1, 23), (1, 24), (0, 968), (1, 27)]
abbrev rmX10_points_0 : Room := { frames := 4, cells := 0, slots := 0, locals := 95 }
set_option maxHeartbeats 4000000 in
set_option maxRecDepth 100000 in
theorem mX10_points_0 (l : Launch) (D : va_G) (b : Nat → Nat) (ids : List Nat) (hI : ∀ i, i < 107 → i ∈ ids) (N : Nat) (S : ns_S) (p1 : Int32) {o : Int32 × (Nat → Int32) × (Nat → Int32) × (Nat → Int32) × (Nat → Int32) × Int32 × (Nat → Int32) × (Nat → Int32) × (Nat → Int32) × (Nat → Int32) × (Nat → Int32) × (Nat → Int32) × Int32 × (Nat → Int32)} (hf : fX10_points N (S.1 1984) (S.1 1856) (S.2.1 21) (S.2.1 30) (S.2.1 22) (S.2.1 35) (S.2.1 25) (S.2.1 32) (S.1 2368) (S.2.1 26) (S.2.1 41) (S.2.1 42) (S.1 1024) (S.2.1 17) (S.2.1 18) (S.2.1 19) (S.2.1 20) (S.2.1 23) (S.2.1 24) (S.2.1 33) (S.2.1 34) (S.1 968) (S.2.1 27) (S.2.1 40) p1 = some o) : ns_M l yX10_points wsX10_points rmX10_points_0 D b ids S [.ref (b 0), .int p1] (some (.int o.1)) (ns_A (ns_A (ns_A (ns_A (ns_I (ns_A (ns_A (ns_A (ns_A (ns_A (ns_A (ns_I (ns_A S 27 o.2.2.2.2.2.2.2.2.2.2.2.2.2) 968 o.2.2.2.2.2.2.2.2.2.2.2.2.1) 24 o.2.2.2.2.2.2.2.2.2.2.2.1) 23 o.2.2.2.2.2.2.2.2.2.2.1) 20 o.2.2.2.2.2.2.2.2.2.1) 19 o.2.2.2.2.2.2.2.2.1) 18 o.2.2.2.2.2.2.2.1) 17 o.2.2.2.2.2.2.1) 1024 o.2.2.2.2.2.1) 26 o.2.2.2.2.1) 25 o.2.2.2.1) 22 o.2.2.1) 21 o.2.1) := by
  refine ns_start (Wr := wrX10_points_0) (by decide) rfl (Nat.le_of_ble_eq_true rfl) ?_
  intro p e s m below meth c A ls C hr hlk w hl
  have hl : lv_has ls 2 [(0, .ref (b 0)), (1, .int p1)] := hl
  unfold fX10_points at hf
  refine lv_aload_n C.1.1 C.1.2.1 dX10_points_0 rfl (lv_at hl 0 rfl) ?_
  refine lv_iload_n C.1.1 C.1.2.1 dX10_points_1 rfl (lv_at hl 1 rfl) ?_
  refine ns_callV C w 0 (hI 0 (by decide)) sh_0 (rfl : vwCl[10]? = some (RX10, TX10, 6)) [.int p1] hf (fun u hu => mX10_furnishSet_0 l D b ids hI N _ p1 hu) gX10_points_X10_furnishSet rfl rfl rfl hdX10_furnishSet ⟨Nat.le_of_ble_eq_true rfl, Nat.le_of_ble_eq_true rfl⟩ (fun u h => (((((((((((h.A (List.mem_of_getElem? (i := 10) rfl) _).A (List.mem_of_getElem? (i := 9) rfl) _).A (List.mem_of_getElem? (i := 8) rfl) _).A (List.mem_of_getElem? (i := 7) rfl) _).A (List.mem_of_getElem? (i := 6) rfl) _).A (List.mem_of_getElem? (i := 5) rfl) _).I (List.mem_of_getElem? (i := 4) rfl) _).A (List.mem_of_getElem? (i := 3) rfl) _).A (List.mem_of_getElem? (i := 2) rfl) _).A (List.mem_of_getElem? (i := 1) rfl) _).A (List.mem_of_getElem? (i := 0) rfl) _)) rfl hl.1 rfl (Nat.le_of_ble_eq_true rfl) ⟨Nat.le_refl _, Nat.le_refl _⟩ dX10_points_2 (fun o1 H locs hf w => ?_)
  refine ns_if_ne C hf (tgt := 10) dX10_points_5 (by decide) (fun hf => ?_) (fun hf => ?_)
  · refine lv_aload_n C.1.1 C.1.2.1 dX10_points_10 rfl (lv_at hl 0 rfl) ?_
    refine ns_getr C w 0 (hI 0 (by decide)) sh_0 (rfl : vwCl[10]? = some (RX10, TX10, 6)) inX10_points_10 3 (by decide) rfl lX10_points_23 dX10_points_11 ?_
    refine lv_aload_n C.1.1 C.1.2.1 dX10_points_14 rfl (lv_at hl 0 rfl) ?_
    refine ns_getr C w 0 (hI 0 (by decide)) sh_0 (rfl : vwCl[10]? = some (RX10, TX10, 6)) inX10_points_10 4 (by decide) rfl lX10_points_30 dX10_points_15 ?_
    refine ns_callV C w 15 (hI 15 (by decide)) sh_15 (rfl : vwCl[3]? = some (RX3, TX3, 10)) [.ref (b 28)] hf (fun u hu => mX3_placePupils_15_28 l D b ids hI N _ hu) gX10_points_X3_placePupils rfl rfl rfl hdX3_placePupils ⟨Nat.le_of_ble_eq_true rfl, Nat.le_of_ble_eq_true rfl⟩ (fun u h => ((((h.A (List.mem_of_getElem? (i := 7) rfl) _).A (List.mem_of_getElem? (i := 8) rfl) _).A (List.mem_of_getElem? (i := 12) rfl) _).I (List.mem_of_getElem? (i := 11) rfl) _)) rfl hl.1 rfl (Nat.le_of_ble_eq_true rfl) ⟨Nat.le_refl _, Nat.le_refl _⟩ dX10_points_18 (fun o2 H locs hf w => ?_)
    have he := Option.some.inj hf
    subst he
    exact ns_iret C w hr hlk rfl rfl dX10_points_21
  · refine lv_iconst (v := (-1)) C.1.1 C.1.2.1 dX10_points_8 (by decide) ?_
    have he := Option.some.inj hf
    subst he
    exact ns_iret C w hr hlk rfl rfl dX10_points_9
theorem lX11_evenings_24 : Cond.fieldLink RX11 24 (TX11 6).1 (TX11 6).2.1 (TX11 6).2.2.1 ∈ wsX11_evenings := List.mem_of_getElem? (i := 1) rfl
theorem lX11_evenings_27 : Cond.fieldLink RX11 27 (TX11 7).1 (TX11 7).2.1 (TX11 7).2.2.1 ∈ wsX11_evenings := List.mem_of_getElem? (i := 2) rfl
theorem inX11_evenings_11 : ∀ w ∈ u_ws RX11 TX11 59, w ∈ wsX11_evenings := fun _ h => List.mem_cons_of_mem _ (List.mem_append_right _ h)
theorem hdX11_evenings : yX11_evenings.cls = RX11 ∧ yX11_evenings.cls ≠ "java/lang/invoke/MethodHandle" ∧ yX11_evenings.cls ≠ "java/lang/invoke/VarHandle" ∧ (parseMethodDescriptor yX11_evenings.desc).map (fun d => d.parameters.length) = some 1 := by decide +kernel
abbrev wrX11_evenings_62 : List (Nat × Nat) := []
abbrev rmX11_evenings_62 : Room := { frames := 0, cells := 0, slots := 0, locals := 0 }
set_option maxHeartbeats 4000000 in
set_option maxRecDepth 100000 in
theorem wX11_evenings_62_4 {p : Program} {l : Launch} {e : Env} {s : State} {m : MethodId} {args : Array Value} {below : List Frame} {meth : Method} {c : Code} {D : va_G} {b : Nat → Nat} {ids : List Nat} {A : Nat → Prop} {S0 : ns_S} {o : Int32} (N : Nat) (hI : ∀ i, i < 107 → i ∈ ids) (C : ns_C p m c cX11_evenings 4 s args wsX11_evenings RX11 D A) (hr : meth.sig.returnType = some .int) (hlk : meth.locks = false) : ∀ n : Nat, ∀ {S : ns_S} {H : Heap} {locs : List Loc} {ls : Array Slot} {l1 : Int32} {l2 : Int32} {l3 : Int32}, ns_W D b ids A s.heap wrX11_evenings_62 S0 S H locs → lv_has ls 4 [(0, .ref (b 62)), (1, .int l1), (2, .int l2), (3, .int l3)] → fX11_evenings_4 N n (S.2.1 67) (S.2.1 68) l1 l2 l3 = some o → W p l e rmX11_evenings_62 s m args below meth c H locs 0 0 (MQ below (ns_Q D b ids S0 (some (.int o)) A) args s 0 0 A) (F0 m 4 ls []) := by
  intro n
  induction n with
  | zero =>
    intro S H locs ls l1 l2 l3 w hl hf
    cases hf
  | succ n K4 =>
    intro S H locs ls l1 l2 l3 w hl hf
    change gX11_evenings_4 N (fX11_evenings_4 N n) (S.2.1 67) (S.2.1 68) l1 l2 l3 = some o at hf
    generalize fX11_evenings_4 N n = r4 at hf K4
    unfold gX11_evenings_4 at hf
    refine lv_iload_n C.1.1 C.1.2.1 dX11_evenings_4 rfl (lv_at hl 3 rfl) ?_
    refine lv_aload_n C.1.1 C.1.2.1 dX11_evenings_5 rfl (lv_at hl 0 rfl) ?_
    refine ns_getr C w 62 (hI 62 (by decide)) sh_62 (rfl : vwCl[11]? = some (RX11, TX11, 59)) inX11_evenings_11 6 (by decide) rfl lX11_evenings_24 dX11_evenings_6 ?_
    refine lv_iconst (v := 0) C.1.1 C.1.2.1 dX11_evenings_9 (by decide) ?_
    refine ns_iald C w 67 (hI 67 (by decide)) sh_67 hf rfl dX11_evenings_10 (fun x1 hf => ?_)
    refine ns_icmp_ge C hf (tgt := 43) dX11_evenings_11 (by decide) (fun hf => ?_) (fun hf => ?_)
    · refine lv_iload_n C.1.1 C.1.2.1 dX11_evenings_43 rfl (lv_at hl 2 rfl) ?_
      have he := Option.some.inj hf
      subst he
      exact ns_iret C w hr hlk rfl rfl dX11_evenings_44
    · refine lv_iload_n C.1.1 C.1.2.1 dX11_evenings_14 rfl (lv_at hl 2 rfl) ?_
      refine lv_iload_n C.1.1 C.1.2.1 dX11_evenings_15 rfl (lv_at hl 1 rfl) ?_
      refine lv_iload_n C.1.1 C.1.2.1 dX11_evenings_16 rfl (lv_at hl 3 rfl) ?_
      refine lv_ishr C.1.1 C.1.2.1 dX11_evenings_17 ?_
      refine lv_iconst (v := 1) C.1.1 C.1.2.1 dX11_evenings_18 (by decide) ?_
      refine lv_iand C.1.1 C.1.2.1 dX11_evenings_19 ?_
      refine ns_if_eq C hf (tgt := 34) dX11_evenings_20 (by decide) (fun hf => ?_) (fun hf => ?_)
      · refine lv_iconst (v := 0) C.1.1 C.1.2.1 dX11_evenings_34 (by decide) ?_
        refine lv_ior C.1.1 C.1.2.1 dX11_evenings_35 ?_
        refine ns_namei hf (fun x2 hf => ?_)
        refine lv_istore_n (lv' := [(2, .int x2), (0, .ref (b 62)), (1, .int l1), (3, .int l3)]) C.1.1 C.1.2.1 dX11_evenings_36 rfl hl (by decide) rfl (fun ls hl => ?_)
        refine ns_iinc (lv' := fun x3 => [(3, .int x3), (2, .int x2), (0, .ref (b 62)), (1, .int l1)]) C hf dX11_evenings_37 hl (k := 3) rfl rfl (by decide) (fun _ => rfl) (fun x3 ls hl hf => ?_)
        refine lv_goto (tgt := 4) C.1.1 C.1.2.1 dX11_evenings_40 (by decide) ?_
        exact K4 w (lv_sub hl [2, 3, 1, 0] rfl) hf
      · refine lv_iconst (v := 1) C.1.1 C.1.2.1 dX11_evenings_23 (by decide) ?_
        refine lv_aload_n C.1.1 C.1.2.1 dX11_evenings_24 rfl (lv_at hl 0 rfl) ?_
        refine ns_getr C w 62 (hI 62 (by decide)) sh_62 (rfl : vwCl[11]? = some (RX11, TX11, 59)) inX11_evenings_11 7 (by decide) rfl lX11_evenings_27 dX11_evenings_25 ?_
        refine lv_iload_n C.1.1 C.1.2.1 dX11_evenings_28 rfl (lv_at hl 3 rfl) ?_
        refine ns_iald C w 68 (hI 68 (by decide)) sh_68 hf rfl dX11_evenings_29 (fun x4 hf => ?_)
        refine lv_ishl C.1.1 C.1.2.1 dX11_evenings_30 ?_
        refine lv_goto (tgt := 35) C.1.1 C.1.2.1 dX11_evenings_31 (by decide) ?_
        refine lv_ior C.1.1 C.1.2.1 dX11_evenings_35 ?_
        refine ns_namei hf (fun x5 hf => ?_)
        refine lv_istore_n (lv' := [(2, .int x5), (0, .ref (b 62)), (1, .int l1), (3, .int l3)]) C.1.1 C.1.2.1 dX11_evenings_36 rfl hl (by decide) rfl (fun ls hl => ?_)
        refine ns_iinc (lv' := fun x6 => [(3, .int x6), (2, .int x5), (0, .ref (b 62)), (1, .int l1)]) C hf dX11_evenings_37 hl (k := 3) rfl rfl (by decide) (fun _ => rfl) (fun x6 ls hl hf => ?_)
        refine lv_goto (tgt := 4) C.1.1 C.1.2.1 dX11_evenings_40 (by decide) ?_
        exact K4 w (lv_sub hl [2, 3, 1, 0] rfl) hf
set_option maxHeartbeats 4000000 in
set_option maxRecDepth 100000 in
theorem mX11_evenings_62 (l : Launch) (D : va_G) (b : Nat → Nat) (ids : List Nat) (hI : ∀ i, i < 107 → i ∈ ids) (N : Nat) (S : ns_S) (p1 : Int32) {o : Int32} (hf : fX11_evenings N (S.2.1 67) (S.2.1 68) p1 = some o) : ns_M l yX11_evenings wsX11_evenings rmX11_evenings_62 D b ids S [.ref (b 62), .int p1] (some (.int o)) S := by
  refine ns_start (Wr := wrX11_evenings_62) (by decide) rfl (Nat.le_of_ble_eq_true rfl) ?_
  intro p e s m below meth c A ls C hr hlk w hl
  have hl : lv_has ls 4 [(0, .ref (b 62)), (1, .int p1)] := hl
  unfold fX11_evenings at hf
  refine lv_iconst (v := 0) C.1.1 C.1.2.1 dX11_evenings_0 (by decide) ?_
  refine lv_istore_n (lv' := [(2, .int 0), (0, .ref (b 62)), (1, .int p1)]) C.1.1 C.1.2.1 dX11_evenings_1 rfl hl (by decide) rfl (fun ls hl => ?_)
  refine lv_iconst (v := 0) C.1.1 C.1.2.1 dX11_evenings_2 (by decide) ?_
  refine lv_istore_n (lv' := [(3, .int 0), (2, .int 0), (0, .ref (b 62)), (1, .int p1)]) C.1.1 C.1.2.1 dX11_evenings_3 rfl hl (by decide) rfl (fun ls hl => ?_)
  exact wX11_evenings_62_4 N hI C hr hlk N w (lv_sub hl [2, 3, 1, 0] rfl) hf
theorem lX11_taken_42 : Cond.fieldLink RX11 42 (TX11 12).1 (TX11 12).2.1 (TX11 12).2.2.1 ∈ wsX11_taken := List.mem_of_getElem? (i := 1) rfl
theorem inX11_taken_11 : ∀ w ∈ u_ws RX11 TX11 59, w ∈ wsX11_taken := fun _ h => List.mem_cons_of_mem _ (List.mem_append_right _ h)
theorem hdX11_taken : yX11_taken.cls = RX11 ∧ yX11_taken.cls ≠ "java/lang/invoke/MethodHandle" ∧ yX11_taken.cls ≠ "java/lang/invoke/VarHandle" ∧ (parseMethodDescriptor yX11_taken.desc).map (fun d => d.parameters.length) = some 2 := by decide +kernel
abbrev wrX11_taken_62_105 : List (Nat × Nat) := []
abbrev rmX11_taken_62_105 : Room := { frames := 0, cells := 0, slots := 0, locals := 0 }
set_option maxHeartbeats 4000000 in
set_option maxRecDepth 100000 in
theorem wX11_taken_62_105_5 {p : Program} {l : Launch} {e : Env} {s : State} {m : MethodId} {args : Array Value} {below : List Frame} {meth : Method} {c : Code} {D : va_G} {b : Nat → Nat} {ids : List Nat} {A : Nat → Prop} {S0 : ns_S} {o : Int32} (N : Nat) (hI : ∀ i, i < 107 → i ∈ ids) (C : ns_C p m c cX11_taken 5 s args wsX11_taken RX11 D A) (hr : meth.sig.returnType = some .int) (hlk : meth.locks = false) : ∀ n : Nat, ∀ {S : ns_S} {H : Heap} {locs : List Loc} {ls : Array Slot} {l2 : Int32} {l3 : Int32} {l4 : Int32}, ns_W D b ids A s.heap wrX11_taken_62_105 S0 S H locs → lv_has ls 5 [(0, .ref (b 62)), (1, .ref (b 105)), (2, .int l2), (3, .int l3), (4, .int l4)] → fX11_taken_5 N 30 n (S.2.1 73) (S.2.1 105) l2 l3 l4 = some o → W p l e rmX11_taken_62_105 s m args below meth c H locs 0 0 (MQ below (ns_Q D b ids S0 (some (.int o)) A) args s 0 0 A) (F0 m 5 ls []) := by
  intro n
  induction n with
  | zero =>
    intro S H locs ls l2 l3 l4 w hl hf
    cases hf
  | succ n K5 =>
    intro S H locs ls l2 l3 l4 w hl hf
    change gX11_taken_5 N 30 (fX11_taken_5 N 30 n) (S.2.1 73) (S.2.1 105) l2 l3 l4 = some o at hf
    generalize fX11_taken_5 N 30 n = r5 at hf K5
    unfold gX11_taken_5 at hf
    refine lv_iload C.1.1 C.1.2.1 dX11_taken_5 (lv_at hl 4 rfl) ?_
    refine lv_aload_n C.1.1 C.1.2.1 dX11_taken_7 rfl (lv_at hl 0 rfl) ?_
    refine ns_getr C w 62 (hI 62 (by decide)) sh_62 (rfl : vwCl[11]? = some (RX11, TX11, 59)) inX11_taken_11 12 (by decide) rfl lX11_taken_42 dX11_taken_8 ?_
    refine lv_iconst (v := 0) C.1.1 C.1.2.1 dX11_taken_11 (by decide) ?_
    refine ns_iald C w 73 (hI 73 (by decide)) sh_73 hf rfl dX11_taken_12 (fun x1 hf => ?_)
    refine ns_icmp_ge C hf (tgt := 33) dX11_taken_13 (by decide) (fun hf => ?_) (fun hf => ?_)
    · refine lv_iload_n C.1.1 C.1.2.1 dX11_taken_33 rfl (lv_at hl 3 rfl) ?_
      have he := Option.some.inj hf
      subst he
      exact ns_iret C w hr hlk rfl rfl dX11_taken_34
    · refine lv_iload_n C.1.1 C.1.2.1 dX11_taken_16 rfl (lv_at hl 3 rfl) ?_
      refine lv_aload_n C.1.1 C.1.2.1 dX11_taken_17 rfl (lv_at hl 1 rfl) ?_
      refine lv_iload C.1.1 C.1.2.1 dX11_taken_18 (lv_at hl 4 rfl) ?_
      refine ns_iald C w 105 (hI 105 (by decide)) sh_105 hf rfl dX11_taken_20 (fun x2 hf => ?_)
      refine lv_iload_n C.1.1 C.1.2.1 dX11_taken_21 rfl (lv_at hl 2 rfl) ?_
      refine lv_ishr C.1.1 C.1.2.1 dX11_taken_22 ?_
      refine lv_iconst (v := 1) C.1.1 C.1.2.1 dX11_taken_23 (by decide) ?_
      refine lv_iand C.1.1 C.1.2.1 dX11_taken_24 ?_
      refine lv_iadd C.1.1 C.1.2.1 dX11_taken_25 ?_
      refine ns_namei hf (fun x3 hf => ?_)
      refine lv_istore_n (lv' := [(3, .int x3), (0, .ref (b 62)), (1, .ref (b 105)), (2, .int l2), (4, .int l4)]) C.1.1 C.1.2.1 dX11_taken_26 rfl hl (by decide) rfl (fun ls hl => ?_)
      refine ns_iinc (lv' := fun x4 => [(4, .int x4), (3, .int x3), (0, .ref (b 62)), (1, .ref (b 105)), (2, .int l2)]) C hf dX11_taken_27 hl (k := 4) rfl rfl (by decide) (fun _ => rfl) (fun x4 ls hl hf => ?_)
      refine lv_goto (tgt := 5) C.1.1 C.1.2.1 dX11_taken_30 (by decide) ?_
      exact K5 w (lv_sub hl [2, 3, 4, 1, 0] rfl) hf
set_option maxHeartbeats 4000000 in
set_option maxRecDepth 100000 in
theorem mX11_taken_62_105 (l : Launch) (D : va_G) (b : Nat → Nat) (ids : List Nat) (hI : ∀ i, i < 107 → i ∈ ids) (N : Nat) (S : ns_S) (p2 : Int32) {o : Int32} (hf : fX11_taken N 30 (S.2.1 73) (S.2.1 105) p2 = some o) : ns_M l yX11_taken wsX11_taken rmX11_taken_62_105 D b ids S [.ref (b 62), .ref (b 105), .int p2] (some (.int o)) S := by
  refine ns_start (Wr := wrX11_taken_62_105) (by decide) rfl (Nat.le_of_ble_eq_true rfl) ?_
  intro p e s m below meth c A ls C hr hlk w hl
  have hl : lv_has ls 5 [(0, .ref (b 62)), (1, .ref (b 105)), (2, .int p2)] := hl
  unfold fX11_taken at hf
  refine lv_iconst (v := 0) C.1.1 C.1.2.1 dX11_taken_0 (by decide) ?_
  refine lv_istore_n (lv' := [(3, .int 0), (0, .ref (b 62)), (1, .ref (b 105)), (2, .int p2)]) C.1.1 C.1.2.1 dX11_taken_1 rfl hl (by decide) rfl (fun ls hl => ?_)
  refine lv_iconst (v := 0) C.1.1 C.1.2.1 dX11_taken_2 (by decide) ?_
  refine lv_istore (lv' := [(4, .int 0), (3, .int 0), (0, .ref (b 62)), (1, .ref (b 105)), (2, .int p2)]) C.1.1 C.1.2.1 dX11_taken_3 hl (by decide) rfl (fun ls hl => ?_)
  exact wX11_taken_62_105_5 N hI C hr hlk N w (lv_sub hl [2, 3, 4, 1, 0] rfl) hf
theorem lX11_isFor_27 : Cond.fieldLink RX11 27 (TX11 7).1 (TX11 7).2.1 (TX11 7).2.2.1 ∈ wsX11_isFor := List.mem_of_getElem? (i := 2) rfl
theorem lX11_isFor_139 : Cond.fieldLink RX11 139 (TX11 54).1 (TX11 54).2.1 (TX11 54).2.2.1 ∈ wsX11_isFor := List.mem_of_getElem? (i := 3) rfl
theorem lX11_isFor_142 : Cond.fieldLink RX11 142 (TX11 55).1 (TX11 55).2.1 (TX11 55).2.2.1 ∈ wsX11_isFor := List.mem_of_getElem? (i := 1) rfl
theorem inX11_isFor_11 : ∀ w ∈ u_ws RX11 TX11 59, w ∈ wsX11_isFor := fun _ h => List.mem_cons_of_mem _ (List.mem_append_right _ h)
theorem hdX11_isFor : yX11_isFor.cls = RX11 ∧ yX11_isFor.cls ≠ "java/lang/invoke/MethodHandle" ∧ yX11_isFor.cls ≠ "java/lang/invoke/VarHandle" ∧ (parseMethodDescriptor yX11_isFor.desc).map (fun d => d.parameters.length) = some 3 := by decide +kernel
abbrev wrX11_isFor_62 : List (Nat × Nat) := []
abbrev rmX11_isFor_62 : Room := { frames := 1, cells := 0, slots := 0, locals := 24 }
set_option maxHeartbeats 4000000 in
set_option maxRecDepth 100000 in
theorem mX11_isFor_62 (l : Launch) (D : va_G) (b : Nat → Nat) (ids : List Nat) (hI : ∀ i, i < 107 → i ∈ ids) (N : Nat) (S : ns_S) (p1 : Int32) (p2 : Int32) (p3 : Int32) {o : Int32} (hf : fX11_isFor N (S.2.1 105) (S.2.1 67) (S.2.1 68) (S.2.1 73) (S.2.1 104) p1 p2 p3 = some o) : ns_M l yX11_isFor wsX11_isFor rmX11_isFor_62 D b ids S [.ref (b 62), .int p1, .int p2, .int p3] (some (.int o)) S := by
  refine ns_start (Wr := wrX11_isFor_62) (by decide) rfl (Nat.le_of_ble_eq_true rfl) ?_
  intro p e s m below meth c A ls C hr hlk w hl
  have hl : lv_has ls 4 [(0, .ref (b 62)), (1, .int p1), (2, .int p2), (3, .int p3)] := hl
  unfold fX11_isFor at hf
  refine lv_iload_n C.1.1 C.1.2.1 dX11_isFor_0 rfl (lv_at hl 1 rfl) ?_
  refine lv_iload_n C.1.1 C.1.2.1 dX11_isFor_1 rfl (lv_at hl 3 rfl) ?_
  refine lv_ishr C.1.1 C.1.2.1 dX11_isFor_2 ?_
  refine lv_iconst (v := 1) C.1.1 C.1.2.1 dX11_isFor_3 (by decide) ?_
  refine lv_iand C.1.1 C.1.2.1 dX11_isFor_4 ?_
  refine ns_if_eq C hf (tgt := 52) dX11_isFor_5 (by decide) (fun hf => ?_) (fun hf => ?_)
  · refine lv_iconst (v := 0) C.1.1 C.1.2.1 dX11_isFor_52 (by decide) ?_
    have he := Option.some.inj hf
    subst he
    exact ns_zret C w hr hlk rfl (Or.inl rfl) rfl dX11_isFor_53
  · refine lv_aload_n C.1.1 C.1.2.1 dX11_isFor_8 rfl (lv_at hl 0 rfl) ?_
    refine lv_aload_n C.1.1 C.1.2.1 dX11_isFor_9 rfl (lv_at hl 0 rfl) ?_
    refine ns_getr C w 62 (hI 62 (by decide)) sh_62 (rfl : vwCl[11]? = some (RX11, TX11, 59)) inX11_isFor_11 55 (by decide) rfl lX11_isFor_142 dX11_isFor_10 ?_
    refine lv_iload_n C.1.1 C.1.2.1 dX11_isFor_13 rfl (lv_at hl 2 rfl) ?_
    refine ns_iald C w 105 (hI 105 (by decide)) sh_105 hf rfl dX11_isFor_14 (fun x1 hf => ?_)
    refine ns_callV C w 62 (hI 62 (by decide)) sh_62 (rfl : vwCl[11]? = some (RX11, TX11, 59)) [.int x1] hf (fun u hu => mX11_evenings_62 l D b ids hI N _ x1 hu) gX11_isFor_X11_evenings rfl rfl rfl hdX11_evenings ⟨Nat.le_of_ble_eq_true rfl, Nat.le_of_ble_eq_true rfl⟩ (fun u h => h) rfl hl.1 rfl (Nat.le_of_ble_eq_true rfl) ⟨Nat.le_refl _, Nat.le_refl _⟩ dX11_isFor_15 (fun o2 H locs hf w => ?_)
    refine lv_aload_n C.1.1 C.1.2.1 dX11_isFor_18 rfl (lv_at hl 0 rfl) ?_
    refine ns_getr C w 62 (hI 62 (by decide)) sh_62 (rfl : vwCl[11]? = some (RX11, TX11, 59)) inX11_isFor_11 7 (by decide) rfl lX11_isFor_27 dX11_isFor_19 ?_
    refine lv_iload_n C.1.1 C.1.2.1 dX11_isFor_22 rfl (lv_at hl 3 rfl) ?_
    refine ns_iald C w 68 (hI 68 (by decide)) sh_68 hf rfl dX11_isFor_23 (fun x3 hf => ?_)
    refine lv_ishr C.1.1 C.1.2.1 dX11_isFor_24 ?_
    refine lv_iconst (v := 1) C.1.1 C.1.2.1 dX11_isFor_25 (by decide) ?_
    refine lv_iand C.1.1 C.1.2.1 dX11_isFor_26 ?_
    refine ns_if_ne C hf (tgt := 52) dX11_isFor_27 (by decide) (fun hf => ?_) (fun hf => ?_)
    · refine lv_iconst (v := 0) C.1.1 C.1.2.1 dX11_isFor_52 (by decide) ?_
      have he := Option.some.inj hf
      subst he
      exact ns_zret C w hr hlk rfl (Or.inl rfl) rfl dX11_isFor_53
    · refine lv_aload_n C.1.1 C.1.2.1 dX11_isFor_30 rfl (lv_at hl 0 rfl) ?_
      refine lv_aload_n C.1.1 C.1.2.1 dX11_isFor_31 rfl (lv_at hl 0 rfl) ?_
      refine ns_getr C w 62 (hI 62 (by decide)) sh_62 (rfl : vwCl[11]? = some (RX11, TX11, 59)) inX11_isFor_11 55 (by decide) rfl lX11_isFor_142 dX11_isFor_32 ?_
      refine lv_iload_n C.1.1 C.1.2.1 dX11_isFor_35 rfl (lv_at hl 3 rfl) ?_
      refine ns_callV C w 62 (hI 62 (by decide)) sh_62 (rfl : vwCl[11]? = some (RX11, TX11, 59)) [.ref (b 105), .int p3] hf (fun u hu => mX11_taken_62_105 l D b ids hI N _ p3 hu) gX11_isFor_X11_taken rfl rfl rfl hdX11_taken ⟨Nat.le_of_ble_eq_true rfl, Nat.le_of_ble_eq_true rfl⟩ (fun u h => h) rfl hl.1 rfl (Nat.le_of_ble_eq_true rfl) ⟨Nat.le_refl _, Nat.le_refl _⟩ dX11_isFor_36 (fun o4 H locs hf w => ?_)
      refine lv_aload_n C.1.1 C.1.2.1 dX11_isFor_39 rfl (lv_at hl 0 rfl) ?_
      refine ns_getr C w 62 (hI 62 (by decide)) sh_62 (rfl : vwCl[11]? = some (RX11, TX11, 59)) inX11_isFor_11 54 (by decide) rfl lX11_isFor_139 dX11_isFor_40 ?_
      refine lv_iload_n C.1.1 C.1.2.1 dX11_isFor_43 rfl (lv_at hl 3 rfl) ?_
      refine ns_iald C w 104 (hI 104 (by decide)) sh_104 hf rfl dX11_isFor_44 (fun x5 hf => ?_)
      refine ns_icmp_ge C hf (tgt := 52) dX11_isFor_45 (by decide) (fun hf => ?_) (fun hf => ?_)
      · refine lv_iconst (v := 0) C.1.1 C.1.2.1 dX11_isFor_52 (by decide) ?_
        have he := Option.some.inj hf
        subst he
        exact ns_zret C w hr hlk rfl (Or.inl rfl) rfl dX11_isFor_53
      · refine lv_iconst (v := 1) C.1.1 C.1.2.1 dX11_isFor_48 (by decide) ?_
        refine lv_goto (tgt := 53) C.1.1 C.1.2.1 dX11_isFor_49 (by decide) ?_
        have he := Option.some.inj hf
        subst he
        exact ns_zret C w hr hlk rfl (Or.inr rfl) rfl dX11_isFor_53
theorem lX11_placed_24 : Cond.fieldLink RX11 24 (TX11 6).1 (TX11 6).2.1 (TX11 6).2.2.1 ∈ wsX11_placed := List.mem_of_getElem? (i := 6) rfl
theorem lX11_placed_33 : Cond.fieldLink RX11 33 (TX11 9).1 (TX11 9).2.1 (TX11 9).2.2.1 ∈ wsX11_placed := List.mem_of_getElem? (i := 7) rfl
theorem lX11_placed_42 : Cond.fieldLink RX11 42 (TX11 12).1 (TX11 12).2.1 (TX11 12).2.2.1 ∈ wsX11_placed := List.mem_of_getElem? (i := 1) rfl
theorem lX11_placed_51 : Cond.fieldLink RX11 51 (TX11 15).1 (TX11 15).2.1 (TX11 15).2.2.1 ∈ wsX11_placed := List.mem_of_getElem? (i := 3) rfl
theorem lX11_placed_54 : Cond.fieldLink RX11 54 (TX11 16).1 (TX11 16).2.1 (TX11 16).2.2.1 ∈ wsX11_placed := List.mem_of_getElem? (i := 4) rfl
theorem lX11_placed_57 : Cond.fieldLink RX11 57 (TX11 17).1 (TX11 17).2.1 (TX11 17).2.2.1 ∈ wsX11_placed := List.mem_of_getElem? (i := 5) rfl
theorem lX11_placed_142 : Cond.fieldLink RX11 142 (TX11 55).1 (TX11 55).2.1 (TX11 55).2.2.1 ∈ wsX11_placed := List.mem_of_getElem? (i := 2) rfl
theorem inX11_placed_11 : ∀ w ∈ u_ws RX11 TX11 59, w ∈ wsX11_placed := fun _ h => List.mem_cons_of_mem _ (List.mem_append_right _ h)
theorem hdX11_placed : yX11_placed.cls = RX11 ∧ yX11_placed.cls ≠ "java/lang/invoke/MethodHandle" ∧ yX11_placed.cls ≠ "java/lang/invoke/VarHandle" ∧ (parseMethodDescriptor yX11_placed.desc).map (fun d => d.parameters.length) = some 1 := by decide +kernel
abbrev wrX11_placed_62 : List (Nat × Nat) := [(1, 103), (1, 104), (1, 105)]
abbrev rmX11_placed_62 : Room := { frames := 2, cells := 0, slots := 0, locals := 50 }
set_option maxHeartbeats 4000000 in
set_option maxRecDepth 100000 in
theorem wX11_placed_62_155 {p : Program} {l : Launch} {e : Env} {s : State} {m : MethodId} {args : Array Value} {below : List Frame} {meth : Method} {c : Code} {D : va_G} {b : Nat → Nat} {ids : List Nat} {A : Nat → Prop} {S0 : ns_S} {o : Int32 × (Nat → Int32) × (Nat → Int32) × (Nat → Int32)} (N : Nat) (hI : ∀ i, i < 107 → i ∈ ids) (C : ns_C p m c cX11_placed 7 s args wsX11_placed RX11 D A) (hr : meth.sig.returnType = some .int) (hlk : meth.locks = false) {r39 : (Nat → Int32) → (Nat → Int32) → (Nat → Int32) → (Nat → Int32) → (Nat → Int32) → (Nat → Int32) → (Nat → Int32) → (Nat → Int32) → (Nat → Int32) → (Nat → Int32) → (Nat → Int32) → (Nat → Int32) → (Nat → Int32) → (Nat → Int32) → Int32 → Int32 → Int32 → Option (Int32 × (Nat → Int32) × (Nat → Int32) × (Nat → Int32))} (K39 : ∀ {S : ns_S} {H : Heap} {locs : List Loc} {ls : Array Slot} {l1 : Int32} {l2 : Int32} {l3 : Int32}, ns_W D b ids A s.heap wrX11_placed_62 S0 S H locs → lv_has ls 7 [(0, .ref (b 62)), (1, .int l1), (2, .int l2), (3, .int l3)] → r39 (S.2.1 67) (S.2.1 65) (S.2.1 68) (S.2.1 69) (S.2.1 71) (S.2.1 104) (S.2.1 70) (S.2.1 103) (S.2.1 66) (S.2.1 73) (S.2.1 105) (S.2.1 76) (S.2.1 77) (S.2.1 78) l1 l2 l3 = some o → W p l e rmX11_placed_62 s m args below meth c H locs 0 0 (MQ below (ns_Q D b ids (ns_A (ns_A (ns_A S0 105 o.2.2.2) 104 o.2.2.1) 103 o.2.1) (some (.int o.1)) A) args s 0 0 A) (F0 m 39 ls [])) {r47 : (Nat → Int32) → (Nat → Int32) → (Nat → Int32) → (Nat → Int32) → (Nat → Int32) → (Nat → Int32) → (Nat → Int32) → (Nat → Int32) → (Nat → Int32) → (Nat → Int32) → (Nat → Int32) → (Nat → Int32) → (Nat → Int32) → (Nat → Int32) → Int32 → Int32 → Int32 → Int32 → Option (Int32 × (Nat → Int32) × (Nat → Int32) × (Nat → Int32))} (K47 : ∀ {S : ns_S} {H : Heap} {locs : List Loc} {ls : Array Slot} {l1 : Int32} {l2 : Int32} {l3 : Int32} {l4 : Int32}, ns_W D b ids A s.heap wrX11_placed_62 S0 S H locs → lv_has ls 7 [(0, .ref (b 62)), (1, .int l1), (2, .int l2), (3, .int l3), (4, .int l4)] → r47 (S.2.1 67) (S.2.1 65) (S.2.1 68) (S.2.1 69) (S.2.1 71) (S.2.1 104) (S.2.1 70) (S.2.1 103) (S.2.1 66) (S.2.1 73) (S.2.1 105) (S.2.1 76) (S.2.1 77) (S.2.1 78) l1 l2 l3 l4 = some o → W p l e rmX11_placed_62 s m args below meth c H locs 0 0 (MQ below (ns_Q D b ids (ns_A (ns_A (ns_A S0 105 o.2.2.2) 104 o.2.2.1) 103 o.2.1) (some (.int o.1)) A) args s 0 0 A) (F0 m 47 ls [])) : ∀ {S : ns_S} {H : Heap} {locs : List Loc} {ls : Array Slot} {l1 : Int32} {l2 : Int32} {l3 : Int32} {l4 : Int32} {l5 : Int32} {l6 : Int32}, ns_W D b ids A s.heap wrX11_placed_62 S0 S H locs → lv_has ls 7 [(0, .ref (b 62)), (1, .int l1), (2, .int l2), (3, .int l3), (4, .int l4), (5, .int l5), (6, .int l6)] → gX11_placed_155 N r39 r47 (S.2.1 67) (S.2.1 65) (S.2.1 68) (S.2.1 69) (S.2.1 71) (S.2.1 104) (S.2.1 70) (S.2.1 103) (S.2.1 66) (S.2.1 73) (S.2.1 105) (S.2.1 76) (S.2.1 77) (S.2.1 78) l1 l2 l3 l4 l5 l6 = some o → W p l e rmX11_placed_62 s m args below meth c H locs 0 0 (MQ below (ns_Q D b ids (ns_A (ns_A (ns_A S0 105 o.2.2.2) 104 o.2.2.1) 103 o.2.1) (some (.int o.1)) A) args s 0 0 A) (F0 m 155 ls []) := by
  intro S H locs ls l1 l2 l3 l4 l5 l6 w hl hf
  unfold gX11_placed_155 at hf
  refine lv_iload C.1.1 C.1.2.1 dX11_placed_155 (lv_at hl 6 rfl) ?_
  refine lv_aload_n C.1.1 C.1.2.1 dX11_placed_157 rfl (lv_at hl 0 rfl) ?_
  refine ns_getr C w 62 (hI 62 (by decide)) sh_62 (rfl : vwCl[11]? = some (RX11, TX11, 59)) inX11_placed_11 16 (by decide) rfl lX11_placed_54 dX11_placed_158 ?_
  refine lv_iload C.1.1 C.1.2.1 dX11_placed_161 (lv_at hl 5 rfl) ?_
  refine ns_iald C w 77 (hI 77 (by decide)) sh_77 hf rfl dX11_placed_163 (fun x1 hf => ?_)
  refine ns_icmp_ge C hf (tgt := 200) dX11_placed_164 (by decide) (fun hf => ?_) (fun hf => ?_)
  · refine ns_iinc (lv' := fun x2 => [(4, .int x2), (0, .ref (b 62)), (1, .int l1), (2, .int l2), (3, .int l3), (5, .int l5), (6, .int l6)]) C hf dX11_placed_200 hl (k := 4) rfl rfl (by decide) (fun _ => rfl) (fun x2 ls hl hf => ?_)
    refine lv_goto (tgt := 47) C.1.1 C.1.2.1 dX11_placed_203 (by decide) ?_
    exact K47 w (lv_sub hl [1, 2, 3, 4, 0] rfl) hf
  · refine lv_aload_n C.1.1 C.1.2.1 dX11_placed_167 rfl (lv_at hl 0 rfl) ?_
    refine ns_getr C w 62 (hI 62 (by decide)) sh_62 (rfl : vwCl[11]? = some (RX11, TX11, 59)) inX11_placed_11 55 (by decide) rfl lX11_placed_142 dX11_placed_168 ?_
    refine lv_iload C.1.1 C.1.2.1 dX11_placed_171 (lv_at hl 5 rfl) ?_
    refine lv_dup2_11 C.1.1 C.1.2.1 dX11_placed_173 rfl rfl ?_
    refine ns_iald C w 105 (hI 105 (by decide)) sh_105 hf rfl dX11_placed_174 (fun x3 hf => ?_)
    refine lv_iconst (v := 1) C.1.1 C.1.2.1 dX11_placed_175 (by decide) ?_
    refine lv_aload_n C.1.1 C.1.2.1 dX11_placed_176 rfl (lv_at hl 0 rfl) ?_
    refine ns_getr C w 62 (hI 62 (by decide)) sh_62 (rfl : vwCl[11]? = some (RX11, TX11, 59)) inX11_placed_11 17 (by decide) rfl lX11_placed_57 dX11_placed_177 ?_
    refine lv_bipush (v := 6) C.1.1 C.1.2.1 dX11_placed_180 (by decide) ?_
    refine lv_iload C.1.1 C.1.2.1 dX11_placed_182 (lv_at hl 5 rfl) ?_
    refine lv_imul C.1.1 C.1.2.1 dX11_placed_184 ?_
    refine lv_iload C.1.1 C.1.2.1 dX11_placed_185 (lv_at hl 6 rfl) ?_
    refine lv_iadd C.1.1 C.1.2.1 dX11_placed_187 ?_
    refine ns_iald C w 78 (hI 78 (by decide)) sh_78 hf rfl dX11_placed_188 (fun x4 hf => ?_)
    refine lv_ishl C.1.1 C.1.2.1 dX11_placed_189 ?_
    refine lv_ior C.1.1 C.1.2.1 dX11_placed_190 ?_
    refine ns_iast C w 105 (hI 105 (by decide)) sh_105 hf rfl (List.mem_of_getElem? (i := 2) rfl) dX11_placed_191 (fun y5 H locs hf w => ?_)
    refine lv_iload_n C.1.1 C.1.2.1 dX11_placed_192 rfl (lv_at hl 2 rfl) ?_
    refine lv_bipush (v := 6) C.1.1 C.1.2.1 dX11_placed_193 (by decide) ?_
    refine lv_iload C.1.1 C.1.2.1 dX11_placed_195 (lv_at hl 6 rfl) ?_
    refine lv_isub C.1.1 C.1.2.1 dX11_placed_197 ?_
    refine lv_iadd C.1.1 C.1.2.1 dX11_placed_198 ?_
    refine ns_namei hf (fun x6 hf => ?_)
    refine lv_istore_n (lv' := [(2, .int x6), (0, .ref (b 62)), (1, .int l1), (3, .int l3), (4, .int l4), (5, .int l5), (6, .int l6)]) C.1.1 C.1.2.1 dX11_placed_199 rfl hl (by decide) rfl (fun ls hl => ?_)
    refine ns_iinc (lv' := fun x7 => [(4, .int x7), (2, .int x6), (0, .ref (b 62)), (1, .int l1), (3, .int l3), (5, .int l5), (6, .int l6)]) C hf dX11_placed_200 hl (k := 4) rfl rfl (by decide) (fun _ => rfl) (fun x7 ls hl hf => ?_)
    refine lv_goto (tgt := 47) C.1.1 C.1.2.1 dX11_placed_203 (by decide) ?_
    exact K47 w (lv_sub hl [2, 3, 1, 4, 0] rfl) hf
set_option maxHeartbeats 4000000 in
set_option maxRecDepth 100000 in
theorem wX11_placed_62_114 {p : Program} {l : Launch} {e : Env} {s : State} {m : MethodId} {args : Array Value} {below : List Frame} {meth : Method} {c : Code} {D : va_G} {b : Nat → Nat} {ids : List Nat} {A : Nat → Prop} {S0 : ns_S} {o : Int32 × (Nat → Int32) × (Nat → Int32) × (Nat → Int32)} (N : Nat) (hI : ∀ i, i < 107 → i ∈ ids) (C : ns_C p m c cX11_placed 7 s args wsX11_placed RX11 D A) (hr : meth.sig.returnType = some .int) (hlk : meth.locks = false) {r39 : (Nat → Int32) → (Nat → Int32) → (Nat → Int32) → (Nat → Int32) → (Nat → Int32) → (Nat → Int32) → (Nat → Int32) → (Nat → Int32) → (Nat → Int32) → (Nat → Int32) → (Nat → Int32) → (Nat → Int32) → (Nat → Int32) → (Nat → Int32) → Int32 → Int32 → Int32 → Option (Int32 × (Nat → Int32) × (Nat → Int32) × (Nat → Int32))} (K39 : ∀ {S : ns_S} {H : Heap} {locs : List Loc} {ls : Array Slot} {l1 : Int32} {l2 : Int32} {l3 : Int32}, ns_W D b ids A s.heap wrX11_placed_62 S0 S H locs → lv_has ls 7 [(0, .ref (b 62)), (1, .int l1), (2, .int l2), (3, .int l3)] → r39 (S.2.1 67) (S.2.1 65) (S.2.1 68) (S.2.1 69) (S.2.1 71) (S.2.1 104) (S.2.1 70) (S.2.1 103) (S.2.1 66) (S.2.1 73) (S.2.1 105) (S.2.1 76) (S.2.1 77) (S.2.1 78) l1 l2 l3 = some o → W p l e rmX11_placed_62 s m args below meth c H locs 0 0 (MQ below (ns_Q D b ids (ns_A (ns_A (ns_A S0 105 o.2.2.2) 104 o.2.2.1) 103 o.2.1) (some (.int o.1)) A) args s 0 0 A) (F0 m 39 ls [])) {r47 : (Nat → Int32) → (Nat → Int32) → (Nat → Int32) → (Nat → Int32) → (Nat → Int32) → (Nat → Int32) → (Nat → Int32) → (Nat → Int32) → (Nat → Int32) → (Nat → Int32) → (Nat → Int32) → (Nat → Int32) → (Nat → Int32) → (Nat → Int32) → Int32 → Int32 → Int32 → Int32 → Option (Int32 × (Nat → Int32) × (Nat → Int32) × (Nat → Int32))} (K47 : ∀ {S : ns_S} {H : Heap} {locs : List Loc} {ls : Array Slot} {l1 : Int32} {l2 : Int32} {l3 : Int32} {l4 : Int32}, ns_W D b ids A s.heap wrX11_placed_62 S0 S H locs → lv_has ls 7 [(0, .ref (b 62)), (1, .int l1), (2, .int l2), (3, .int l3), (4, .int l4)] → r47 (S.2.1 67) (S.2.1 65) (S.2.1 68) (S.2.1 69) (S.2.1 71) (S.2.1 104) (S.2.1 70) (S.2.1 103) (S.2.1 66) (S.2.1 73) (S.2.1 105) (S.2.1 76) (S.2.1 77) (S.2.1 78) l1 l2 l3 l4 = some o → W p l e rmX11_placed_62 s m args below meth c H locs 0 0 (MQ below (ns_Q D b ids (ns_A (ns_A (ns_A S0 105 o.2.2.2) 104 o.2.2.1) 103 o.2.1) (some (.int o.1)) A) args s 0 0 A) (F0 m 47 ls [])) : ∀ n : Nat, ∀ {S : ns_S} {H : Heap} {locs : List Loc} {ls : Array Slot} {l1 : Int32} {l2 : Int32} {l3 : Int32} {l4 : Int32} {l5 : Int32} {l6 : Int32}, ns_W D b ids A s.heap wrX11_placed_62 S0 S H locs → lv_has ls 7 [(0, .ref (b 62)), (1, .int l1), (2, .int l2), (3, .int l3), (4, .int l4), (5, .int l5), (6, .int l6)] → fX11_placed_114 N r39 r47 n (S.2.1 67) (S.2.1 65) (S.2.1 68) (S.2.1 69) (S.2.1 71) (S.2.1 104) (S.2.1 70) (S.2.1 103) (S.2.1 66) (S.2.1 73) (S.2.1 105) (S.2.1 76) (S.2.1 77) (S.2.1 78) l1 l2 l3 l4 l5 l6 = some o → W p l e rmX11_placed_62 s m args below meth c H locs 0 0 (MQ below (ns_Q D b ids (ns_A (ns_A (ns_A S0 105 o.2.2.2) 104 o.2.2.1) 103 o.2.1) (some (.int o.1)) A) args s 0 0 A) (F0 m 114 ls []) := by
  intro n
  induction n with
  | zero =>
    intro S H locs ls l1 l2 l3 l4 l5 l6 w hl hf
    cases hf
  | succ n K114 =>
    intro S H locs ls l1 l2 l3 l4 l5 l6 w hl hf
    change gX11_placed_114 N r39 r47 (fX11_placed_114 N r39 r47 n) (S.2.1 67) (S.2.1 65) (S.2.1 68) (S.2.1 69) (S.2.1 71) (S.2.1 104) (S.2.1 70) (S.2.1 103) (S.2.1 66) (S.2.1 73) (S.2.1 105) (S.2.1 76) (S.2.1 77) (S.2.1 78) l1 l2 l3 l4 l5 l6 = some o at hf
    generalize fX11_placed_114 N r39 r47 n = r114 at hf K114
    unfold gX11_placed_114 at hf
    refine lv_iload C.1.1 C.1.2.1 dX11_placed_114 (lv_at hl 6 rfl) ?_
    refine lv_aload_n C.1.1 C.1.2.1 dX11_placed_116 rfl (lv_at hl 0 rfl) ?_
    refine ns_getr C w 62 (hI 62 (by decide)) sh_62 (rfl : vwCl[11]? = some (RX11, TX11, 59)) inX11_placed_11 16 (by decide) rfl lX11_placed_54 dX11_placed_117 ?_
    refine lv_iload C.1.1 C.1.2.1 dX11_placed_120 (lv_at hl 5 rfl) ?_
    refine ns_iald C w 77 (hI 77 (by decide)) sh_77 hf rfl dX11_placed_122 (fun x1 hf => ?_)
    refine ns_icmp_ge C hf (tgt := 155) dX11_placed_123 (by decide) (fun hf => ?_) (fun hf => ?_)
    · exact wX11_placed_62_155 N hI C hr hlk K39 K47 w (lv_sub hl [0, 1, 2, 3, 4, 5, 6] rfl) hf
    · refine lv_aload_n C.1.1 C.1.2.1 dX11_placed_126 rfl (lv_at hl 0 rfl) ?_
      refine lv_iload_n C.1.1 C.1.2.1 dX11_placed_127 rfl (lv_at hl 1 rfl) ?_
      refine lv_iload C.1.1 C.1.2.1 dX11_placed_128 (lv_at hl 5 rfl) ?_
      refine lv_aload_n C.1.1 C.1.2.1 dX11_placed_130 rfl (lv_at hl 0 rfl) ?_
      refine ns_getr C w 62 (hI 62 (by decide)) sh_62 (rfl : vwCl[11]? = some (RX11, TX11, 59)) inX11_placed_11 17 (by decide) rfl lX11_placed_57 dX11_placed_131 ?_
      refine lv_bipush (v := 6) C.1.1 C.1.2.1 dX11_placed_134 (by decide) ?_
      refine lv_iload C.1.1 C.1.2.1 dX11_placed_136 (lv_at hl 5 rfl) ?_
      refine lv_imul C.1.1 C.1.2.1 dX11_placed_138 ?_
      refine lv_iload C.1.1 C.1.2.1 dX11_placed_139 (lv_at hl 6 rfl) ?_
      refine lv_iadd C.1.1 C.1.2.1 dX11_placed_141 ?_
      refine ns_iald C w 78 (hI 78 (by decide)) sh_78 hf rfl dX11_placed_142 (fun x2 hf => ?_)
      refine ns_callV C w 62 (hI 62 (by decide)) sh_62 (rfl : vwCl[11]? = some (RX11, TX11, 59)) [.int l1, .int l5, .int x2] hf (fun u hu => mX11_isFor_62 l D b ids hI N _ l1 l5 x2 hu) gX11_placed_X11_isFor rfl rfl rfl hdX11_isFor ⟨Nat.le_of_ble_eq_true rfl, Nat.le_of_ble_eq_true rfl⟩ (fun u h => h) rfl hl.1 rfl (Nat.le_of_ble_eq_true rfl) ⟨Nat.le_refl _, Nat.le_refl _⟩ dX11_placed_143 (fun o3 H locs hf w => ?_)
      refine ns_if_ne C hf (tgt := 155) dX11_placed_146 (by decide) (fun hf => ?_) (fun hf => ?_)
      · exact wX11_placed_62_155 N hI C hr hlk K39 K47 w (lv_sub hl [0, 1, 2, 3, 4, 5, 6] rfl) hf
      · refine ns_iinc (lv' := fun x4 => [(6, .int x4), (0, .ref (b 62)), (1, .int l1), (2, .int l2), (3, .int l3), (4, .int l4), (5, .int l5)]) C hf dX11_placed_149 hl (k := 6) rfl rfl (by decide) (fun _ => rfl) (fun x4 ls hl hf => ?_)
        refine lv_goto (tgt := 114) C.1.1 C.1.2.1 dX11_placed_152 (by decide) ?_
        exact K114 w (lv_sub hl [1, 2, 3, 4, 5, 6, 0] rfl) hf
set_option maxHeartbeats 4000000 in
set_option maxRecDepth 100000 in
theorem wX11_placed_62_79 {p : Program} {l : Launch} {e : Env} {s : State} {m : MethodId} {args : Array Value} {below : List Frame} {meth : Method} {c : Code} {D : va_G} {b : Nat → Nat} {ids : List Nat} {A : Nat → Prop} {S0 : ns_S} {o : Int32 × (Nat → Int32) × (Nat → Int32) × (Nat → Int32)} (N : Nat) (hI : ∀ i, i < 107 → i ∈ ids) (C : ns_C p m c cX11_placed 7 s args wsX11_placed RX11 D A) (hr : meth.sig.returnType = some .int) (hlk : meth.locks = false) {r39 : (Nat → Int32) → (Nat → Int32) → (Nat → Int32) → (Nat → Int32) → (Nat → Int32) → (Nat → Int32) → (Nat → Int32) → (Nat → Int32) → (Nat → Int32) → (Nat → Int32) → (Nat → Int32) → (Nat → Int32) → (Nat → Int32) → (Nat → Int32) → Int32 → Int32 → Int32 → Option (Int32 × (Nat → Int32) × (Nat → Int32) × (Nat → Int32))} (K39 : ∀ {S : ns_S} {H : Heap} {locs : List Loc} {ls : Array Slot} {l1 : Int32} {l2 : Int32} {l3 : Int32}, ns_W D b ids A s.heap wrX11_placed_62 S0 S H locs → lv_has ls 7 [(0, .ref (b 62)), (1, .int l1), (2, .int l2), (3, .int l3)] → r39 (S.2.1 67) (S.2.1 65) (S.2.1 68) (S.2.1 69) (S.2.1 71) (S.2.1 104) (S.2.1 70) (S.2.1 103) (S.2.1 66) (S.2.1 73) (S.2.1 105) (S.2.1 76) (S.2.1 77) (S.2.1 78) l1 l2 l3 = some o → W p l e rmX11_placed_62 s m args below meth c H locs 0 0 (MQ below (ns_Q D b ids (ns_A (ns_A (ns_A S0 105 o.2.2.2) 104 o.2.2.1) 103 o.2.1) (some (.int o.1)) A) args s 0 0 A) (F0 m 39 ls [])) {r47 : (Nat → Int32) → (Nat → Int32) → (Nat → Int32) → (Nat → Int32) → (Nat → Int32) → (Nat → Int32) → (Nat → Int32) → (Nat → Int32) → (Nat → Int32) → (Nat → Int32) → (Nat → Int32) → (Nat → Int32) → (Nat → Int32) → (Nat → Int32) → Int32 → Int32 → Int32 → Int32 → Option (Int32 × (Nat → Int32) × (Nat → Int32) × (Nat → Int32))} (K47 : ∀ {S : ns_S} {H : Heap} {locs : List Loc} {ls : Array Slot} {l1 : Int32} {l2 : Int32} {l3 : Int32} {l4 : Int32}, ns_W D b ids A s.heap wrX11_placed_62 S0 S H locs → lv_has ls 7 [(0, .ref (b 62)), (1, .int l1), (2, .int l2), (3, .int l3), (4, .int l4)] → r47 (S.2.1 67) (S.2.1 65) (S.2.1 68) (S.2.1 69) (S.2.1 71) (S.2.1 104) (S.2.1 70) (S.2.1 103) (S.2.1 66) (S.2.1 73) (S.2.1 105) (S.2.1 76) (S.2.1 77) (S.2.1 78) l1 l2 l3 l4 = some o → W p l e rmX11_placed_62 s m args below meth c H locs 0 0 (MQ below (ns_Q D b ids (ns_A (ns_A (ns_A S0 105 o.2.2.2) 104 o.2.2.1) 103 o.2.1) (some (.int o.1)) A) args s 0 0 A) (F0 m 47 ls [])) : ∀ {S : ns_S} {H : Heap} {locs : List Loc} {ls : Array Slot} {l1 : Int32} {l2 : Int32} {l3 : Int32} {l4 : Int32} {s0 : Int32}, ns_W D b ids A s.heap wrX11_placed_62 S0 S H locs → lv_has ls 7 [(0, .ref (b 62)), (1, .int l1), (2, .int l2), (3, .int l3), (4, .int l4)] → gX11_placed_79 N r39 r47 (S.2.1 67) (S.2.1 65) (S.2.1 68) (S.2.1 69) (S.2.1 71) (S.2.1 104) (S.2.1 70) (S.2.1 103) (S.2.1 66) (S.2.1 73) (S.2.1 105) (S.2.1 76) (S.2.1 77) (S.2.1 78) l1 l2 l3 l4 s0 = some o → W p l e rmX11_placed_62 s m args below meth c H locs 0 0 (MQ below (ns_Q D b ids (ns_A (ns_A (ns_A S0 105 o.2.2.2) 104 o.2.2.1) 103 o.2.1) (some (.int o.1)) A) args s 0 0 A) (F0 m 79 ls [.int s0]) := by
  intro S H locs ls l1 l2 l3 l4 s0 w hl hf
  unfold gX11_placed_79 at hf
  refine lv_istore (lv' := [(5, .int s0), (0, .ref (b 62)), (1, .int l1), (2, .int l2), (3, .int l3), (4, .int l4)]) C.1.1 C.1.2.1 dX11_placed_79 hl (by decide) rfl (fun ls hl => ?_)
  refine lv_aload_n C.1.1 C.1.2.1 dX11_placed_81 rfl (lv_at hl 1 rfl) ?_
  refine ns_getr C w 62 (hI 62 (by decide)) sh_62 (rfl : vwCl[11]? = some (RX11, TX11, 59)) inX11_placed_11 55 (by decide) rfl lX11_placed_142 dX11_placed_82 ?_
  refine lv_iload C.1.1 C.1.2.1 dX11_placed_85 (lv_at hl 0 rfl) ?_
  refine ns_iald C w 105 (hI 105 (by decide)) sh_105 hf rfl dX11_placed_87 (fun x1 hf => ?_)
  refine ns_callS C w [.int x1] hf (fun u hu => mX11_ones l D b ids hI N _ x1 hu) gX11_placed_X11_ones rfl rfl rfl hdX11_ones ⟨Nat.le_of_ble_eq_true rfl, Nat.le_of_ble_eq_true rfl⟩ (fun u h => h) rfl hl.1 rfl (Nat.le_of_ble_eq_true rfl) ⟨Nat.le_refl _, Nat.le_refl _⟩ dX11_placed_88 (fun o2 H locs hf w => ?_)
  refine lv_aload_n C.1.1 C.1.2.1 dX11_placed_91 rfl (lv_at hl 1 rfl) ?_
  refine ns_getr C w 62 (hI 62 (by decide)) sh_62 (rfl : vwCl[11]? = some (RX11, TX11, 59)) inX11_placed_11 15 (by decide) rfl lX11_placed_51 dX11_placed_92 ?_
  refine lv_iload C.1.1 C.1.2.1 dX11_placed_95 (lv_at hl 0 rfl) ?_
  refine ns_iald C w 76 (hI 76 (by decide)) sh_76 hf rfl dX11_placed_97 (fun x3 hf => ?_)
  refine ns_icmp_ge C hf (tgt := 105) dX11_placed_98 (by decide) (fun hf => ?_) (fun hf => ?_)
  · refine lv_aload_n C.1.1 C.1.2.1 dX11_placed_105 rfl (lv_at hl 1 rfl) ?_
    refine ns_getr C w 62 (hI 62 (by decide)) sh_62 (rfl : vwCl[11]? = some (RX11, TX11, 59)) inX11_placed_11 16 (by decide) rfl lX11_placed_54 dX11_placed_106 ?_
    refine lv_iload C.1.1 C.1.2.1 dX11_placed_109 (lv_at hl 0 rfl) ?_
    refine ns_iald C w 77 (hI 77 (by decide)) sh_77 hf rfl dX11_placed_111 (fun x4 hf => ?_)
    refine lv_istore (lv' := [(6, .int x4), (5, .int s0), (0, .ref (b 62)), (1, .int l1), (2, .int l2), (3, .int l3), (4, .int l4)]) C.1.1 C.1.2.1 dX11_placed_112 hl (by decide) rfl (fun ls hl => ?_)
    exact wX11_placed_62_114 N hI C hr hlk K39 K47 N w (lv_sub hl [2, 3, 4, 5, 6, 1, 0] rfl) hf
  · refine lv_iconst (v := 0) C.1.1 C.1.2.1 dX11_placed_101 (by decide) ?_
    refine lv_goto (tgt := 112) C.1.1 C.1.2.1 dX11_placed_102 (by decide) ?_
    refine lv_istore (lv' := [(6, .int 0), (5, .int s0), (0, .ref (b 62)), (1, .int l1), (2, .int l2), (3, .int l3), (4, .int l4)]) C.1.1 C.1.2.1 dX11_placed_112 hl (by decide) rfl (fun ls hl => ?_)
    exact wX11_placed_62_114 N hI C hr hlk K39 K47 N w (lv_sub hl [2, 3, 4, 5, 6, 1, 0] rfl) hf
set_option maxHeartbeats 4000000 in
set_option maxRecDepth 100000 in
theorem wX11_placed_62_47 {p : Program} {l : Launch} {e : Env} {s : State} {m : MethodId} {args : Array Value} {below : List Frame} {meth : Method} {c : Code} {D : va_G} {b : Nat → Nat} {ids : List Nat} {A : Nat → Prop} {S0 : ns_S} {o : Int32 × (Nat → Int32) × (Nat → Int32) × (Nat → Int32)} (N : Nat) (hI : ∀ i, i < 107 → i ∈ ids) (C : ns_C p m c cX11_placed 7 s args wsX11_placed RX11 D A) (hr : meth.sig.returnType = some .int) (hlk : meth.locks = false) {r39 : (Nat → Int32) → (Nat → Int32) → (Nat → Int32) → (Nat → Int32) → (Nat → Int32) → (Nat → Int32) → (Nat → Int32) → (Nat → Int32) → (Nat → Int32) → (Nat → Int32) → (Nat → Int32) → (Nat → Int32) → (Nat → Int32) → (Nat → Int32) → Int32 → Int32 → Int32 → Option (Int32 × (Nat → Int32) × (Nat → Int32) × (Nat → Int32))} (K39 : ∀ {S : ns_S} {H : Heap} {locs : List Loc} {ls : Array Slot} {l1 : Int32} {l2 : Int32} {l3 : Int32}, ns_W D b ids A s.heap wrX11_placed_62 S0 S H locs → lv_has ls 7 [(0, .ref (b 62)), (1, .int l1), (2, .int l2), (3, .int l3)] → r39 (S.2.1 67) (S.2.1 65) (S.2.1 68) (S.2.1 69) (S.2.1 71) (S.2.1 104) (S.2.1 70) (S.2.1 103) (S.2.1 66) (S.2.1 73) (S.2.1 105) (S.2.1 76) (S.2.1 77) (S.2.1 78) l1 l2 l3 = some o → W p l e rmX11_placed_62 s m args below meth c H locs 0 0 (MQ below (ns_Q D b ids (ns_A (ns_A (ns_A S0 105 o.2.2.2) 104 o.2.2.1) 103 o.2.1) (some (.int o.1)) A) args s 0 0 A) (F0 m 39 ls [])) : ∀ n : Nat, ∀ {S : ns_S} {H : Heap} {locs : List Loc} {ls : Array Slot} {l1 : Int32} {l2 : Int32} {l3 : Int32} {l4 : Int32}, ns_W D b ids A s.heap wrX11_placed_62 S0 S H locs → lv_has ls 7 [(0, .ref (b 62)), (1, .int l1), (2, .int l2), (3, .int l3), (4, .int l4)] → fX11_placed_47 N r39 n (S.2.1 67) (S.2.1 65) (S.2.1 68) (S.2.1 69) (S.2.1 71) (S.2.1 104) (S.2.1 70) (S.2.1 103) (S.2.1 66) (S.2.1 73) (S.2.1 105) (S.2.1 76) (S.2.1 77) (S.2.1 78) l1 l2 l3 l4 = some o → W p l e rmX11_placed_62 s m args below meth c H locs 0 0 (MQ below (ns_Q D b ids (ns_A (ns_A (ns_A S0 105 o.2.2.2) 104 o.2.2.1) 103 o.2.1) (some (.int o.1)) A) args s 0 0 A) (F0 m 47 ls []) := by
  intro n
  induction n with
  | zero =>
    intro S H locs ls l1 l2 l3 l4 w hl hf
    cases hf
  | succ n K47 =>
    intro S H locs ls l1 l2 l3 l4 w hl hf
    change gX11_placed_47 N r39 (fX11_placed_47 N r39 n) (S.2.1 67) (S.2.1 65) (S.2.1 68) (S.2.1 69) (S.2.1 71) (S.2.1 104) (S.2.1 70) (S.2.1 103) (S.2.1 66) (S.2.1 73) (S.2.1 105) (S.2.1 76) (S.2.1 77) (S.2.1 78) l1 l2 l3 l4 = some o at hf
    generalize fX11_placed_47 N r39 n = r47 at hf K47
    unfold gX11_placed_47 at hf
    refine lv_iload C.1.1 C.1.2.1 dX11_placed_47 (lv_at hl 4 rfl) ?_
    refine lv_aload_n C.1.1 C.1.2.1 dX11_placed_49 rfl (lv_at hl 0 rfl) ?_
    refine ns_getr C w 62 (hI 62 (by decide)) sh_62 (rfl : vwCl[11]? = some (RX11, TX11, 59)) inX11_placed_11 12 (by decide) rfl lX11_placed_42 dX11_placed_50 ?_
    refine lv_iconst (v := 0) C.1.1 C.1.2.1 dX11_placed_53 (by decide) ?_
    refine ns_iald C w 73 (hI 73 (by decide)) sh_73 hf rfl dX11_placed_54 (fun x1 hf => ?_)
    refine ns_icmp_ge C hf (tgt := 206) dX11_placed_55 (by decide) (fun hf => ?_) (fun hf => ?_)
    · refine ns_iinc (lv' := fun x2 => [(3, .int x2), (0, .ref (b 62)), (1, .int l1), (2, .int l2), (4, .int l4)]) C hf dX11_placed_206 hl (k := 3) rfl rfl (by decide) (fun _ => rfl) (fun x2 ls hl hf => ?_)
      refine lv_goto (tgt := 39) C.1.1 C.1.2.1 dX11_placed_209 (by decide) ?_
      exact K39 w (lv_sub hl [1, 2, 3, 0] rfl) hf
    · refine lv_iload_n C.1.1 C.1.2.1 dX11_placed_58 rfl (lv_at hl 3 rfl) ?_
      refine lv_iconst (v := 1) C.1.1 C.1.2.1 dX11_placed_59 (by decide) ?_
      refine ns_icmp_ne C hf (tgt := 77) dX11_placed_60 (by decide) (fun hf => ?_) (fun hf => ?_)
      · refine lv_iload C.1.1 C.1.2.1 dX11_placed_77 (lv_at hl 4 rfl) ?_
        exact wX11_placed_62_79 N hI C hr hlk K39 K47 w (lv_sub hl [0, 1, 2, 3, 4] rfl) hf
      · refine lv_aload_n C.1.1 C.1.2.1 dX11_placed_63 rfl (lv_at hl 0 rfl) ?_
        refine ns_getr C w 62 (hI 62 (by decide)) sh_62 (rfl : vwCl[11]? = some (RX11, TX11, 59)) inX11_placed_11 12 (by decide) rfl lX11_placed_42 dX11_placed_64 ?_
        refine lv_iconst (v := 0) C.1.1 C.1.2.1 dX11_placed_67 (by decide) ?_
        refine ns_iald C w 73 (hI 73 (by decide)) sh_73 hf rfl dX11_placed_68 (fun x3 hf => ?_)
        refine lv_iconst (v := 1) C.1.1 C.1.2.1 dX11_placed_69 (by decide) ?_
        refine lv_isub C.1.1 C.1.2.1 dX11_placed_70 ?_
        refine lv_iload C.1.1 C.1.2.1 dX11_placed_71 (lv_at hl 4 rfl) ?_
        refine lv_isub C.1.1 C.1.2.1 dX11_placed_73 ?_
        refine lv_goto (tgt := 79) C.1.1 C.1.2.1 dX11_placed_74 (by decide) ?_
        exact wX11_placed_62_79 N hI C hr hlk K39 K47 w (lv_sub hl [0, 1, 2, 3, 4] rfl) hf
set_option maxHeartbeats 4000000 in
set_option maxRecDepth 100000 in
theorem wX11_placed_62_214 {p : Program} {l : Launch} {e : Env} {s : State} {m : MethodId} {args : Array Value} {below : List Frame} {meth : Method} {c : Code} {D : va_G} {b : Nat → Nat} {ids : List Nat} {A : Nat → Prop} {S0 : ns_S} {o : Int32 × (Nat → Int32) × (Nat → Int32) × (Nat → Int32)} (N : Nat) (hI : ∀ i, i < 107 → i ∈ ids) (C : ns_C p m c cX11_placed 7 s args wsX11_placed RX11 D A) (hr : meth.sig.returnType = some .int) (hlk : meth.locks = false) : ∀ n : Nat, ∀ {S : ns_S} {H : Heap} {locs : List Loc} {ls : Array Slot} {l1 : Int32} {l2 : Int32} {l3 : Int32}, ns_W D b ids A s.heap wrX11_placed_62 S0 S H locs → lv_has ls 7 [(0, .ref (b 62)), (1, .int l1), (2, .int l2), (3, .int l3)] → fX11_placed_214 N n (S.2.1 67) (S.2.1 65) (S.2.1 68) (S.2.1 69) (S.2.1 71) (S.2.1 104) (S.2.1 70) (S.2.1 103) (S.2.1 66) (S.2.1 73) (S.2.1 105) (S.2.1 76) (S.2.1 77) (S.2.1 78) l1 l2 l3 = some o → W p l e rmX11_placed_62 s m args below meth c H locs 0 0 (MQ below (ns_Q D b ids (ns_A (ns_A (ns_A S0 105 o.2.2.2) 104 o.2.2.1) 103 o.2.1) (some (.int o.1)) A) args s 0 0 A) (F0 m 214 ls []) := by
  intro n
  induction n with
  | zero =>
    intro S H locs ls l1 l2 l3 w hl hf
    cases hf
  | succ n K214 =>
    intro S H locs ls l1 l2 l3 w hl hf
    change gX11_placed_214 N (fX11_placed_214 N n) (S.2.1 67) (S.2.1 65) (S.2.1 68) (S.2.1 69) (S.2.1 71) (S.2.1 104) (S.2.1 70) (S.2.1 103) (S.2.1 66) (S.2.1 73) (S.2.1 105) (S.2.1 76) (S.2.1 77) (S.2.1 78) l1 l2 l3 = some o at hf
    generalize fX11_placed_214 N n = r214 at hf K214
    unfold gX11_placed_214 at hf
    refine lv_iload_n C.1.1 C.1.2.1 dX11_placed_214 rfl (lv_at hl 3 rfl) ?_
    refine lv_aload_n C.1.1 C.1.2.1 dX11_placed_215 rfl (lv_at hl 0 rfl) ?_
    refine ns_getr C w 62 (hI 62 (by decide)) sh_62 (rfl : vwCl[11]? = some (RX11, TX11, 59)) inX11_placed_11 6 (by decide) rfl lX11_placed_24 dX11_placed_216 ?_
    refine lv_iconst (v := 0) C.1.1 C.1.2.1 dX11_placed_219 (by decide) ?_
    refine ns_iald C w 67 (hI 67 (by decide)) sh_67 hf rfl dX11_placed_220 (fun x1 hf => ?_)
    refine ns_icmp_ge C hf (tgt := 258) dX11_placed_221 (by decide) (fun hf => ?_) (fun hf => ?_)
    · refine lv_iload_n C.1.1 C.1.2.1 dX11_placed_258 rfl (lv_at hl 2 rfl) ?_
      have he := Option.some.inj hf
      subst he
      exact ns_iret C w hr hlk rfl rfl dX11_placed_259
    · refine lv_iload_n C.1.1 C.1.2.1 dX11_placed_224 rfl (lv_at hl 1 rfl) ?_
      refine lv_iload_n C.1.1 C.1.2.1 dX11_placed_225 rfl (lv_at hl 3 rfl) ?_
      refine lv_ishr C.1.1 C.1.2.1 dX11_placed_226 ?_
      refine lv_iconst (v := 1) C.1.1 C.1.2.1 dX11_placed_227 (by decide) ?_
      refine lv_iand C.1.1 C.1.2.1 dX11_placed_228 ?_
      refine ns_if_eq C hf (tgt := 252) dX11_placed_229 (by decide) (fun hf => ?_) (fun hf => ?_)
      · refine ns_iinc (lv' := fun x2 => [(3, .int x2), (0, .ref (b 62)), (1, .int l1), (2, .int l2)]) C hf dX11_placed_252 hl (k := 3) rfl rfl (by decide) (fun _ => rfl) (fun x2 ls hl hf => ?_)
        refine lv_goto (tgt := 214) C.1.1 C.1.2.1 dX11_placed_255 (by decide) ?_
        exact K214 w (lv_sub hl [1, 2, 3, 0] rfl) hf
      · refine lv_aload_n C.1.1 C.1.2.1 dX11_placed_232 rfl (lv_at hl 0 rfl) ?_
        refine lv_aload_n C.1.1 C.1.2.1 dX11_placed_233 rfl (lv_at hl 0 rfl) ?_
        refine ns_getr C w 62 (hI 62 (by decide)) sh_62 (rfl : vwCl[11]? = some (RX11, TX11, 59)) inX11_placed_11 55 (by decide) rfl lX11_placed_142 dX11_placed_234 ?_
        refine lv_iload_n C.1.1 C.1.2.1 dX11_placed_237 rfl (lv_at hl 3 rfl) ?_
        refine ns_callV C w 62 (hI 62 (by decide)) sh_62 (rfl : vwCl[11]? = some (RX11, TX11, 59)) [.ref (b 105), .int l3] hf (fun u hu => mX11_taken_62_105 l D b ids hI N _ l3 hu) gX11_placed_X11_taken rfl rfl rfl hdX11_taken ⟨Nat.le_of_ble_eq_true rfl, Nat.le_of_ble_eq_true rfl⟩ (fun u h => h) rfl hl.1 rfl (Nat.le_of_ble_eq_true rfl) ⟨Nat.le_refl _, Nat.le_refl _⟩ dX11_placed_238 (fun o3 H locs hf w => ?_)
        refine lv_aload_n C.1.1 C.1.2.1 dX11_placed_241 rfl (lv_at hl 0 rfl) ?_
        refine ns_getr C w 62 (hI 62 (by decide)) sh_62 (rfl : vwCl[11]? = some (RX11, TX11, 59)) inX11_placed_11 9 (by decide) rfl lX11_placed_33 dX11_placed_242 ?_
        refine lv_iload_n C.1.1 C.1.2.1 dX11_placed_245 rfl (lv_at hl 3 rfl) ?_
        refine ns_iald C w 70 (hI 70 (by decide)) sh_70 hf rfl dX11_placed_246 (fun x4 hf => ?_)
        refine ns_icmp_ge C hf (tgt := 252) dX11_placed_247 (by decide) (fun hf => ?_) (fun hf => ?_)
        · refine ns_iinc (lv' := fun x5 => [(3, .int x5), (0, .ref (b 62)), (1, .int l1), (2, .int l2)]) C hf dX11_placed_252 hl (k := 3) rfl rfl (by decide) (fun _ => rfl) (fun x5 ls hl hf => ?_)
          refine lv_goto (tgt := 214) C.1.1 C.1.2.1 dX11_placed_255 (by decide) ?_
          exact K214 w (lv_sub hl [1, 2, 3, 0] rfl) hf
        · refine lv_iconst (v := (-1)) C.1.1 C.1.2.1 dX11_placed_250 (by decide) ?_
          have he := Option.some.inj hf
          subst he
          exact ns_iret C w hr hlk rfl rfl dX11_placed_251
set_option maxHeartbeats 4000000 in
set_option maxRecDepth 100000 in
theorem wX11_placed_62_39 {p : Program} {l : Launch} {e : Env} {s : State} {m : MethodId} {args : Array Value} {below : List Frame} {meth : Method} {c : Code} {D : va_G} {b : Nat → Nat} {ids : List Nat} {A : Nat → Prop} {S0 : ns_S} {o : Int32 × (Nat → Int32) × (Nat → Int32) × (Nat → Int32)} (N : Nat) (hI : ∀ i, i < 107 → i ∈ ids) (C : ns_C p m c cX11_placed 7 s args wsX11_placed RX11 D A) (hr : meth.sig.returnType = some .int) (hlk : meth.locks = false) : ∀ n : Nat, ∀ {S : ns_S} {H : Heap} {locs : List Loc} {ls : Array Slot} {l1 : Int32} {l2 : Int32} {l3 : Int32}, ns_W D b ids A s.heap wrX11_placed_62 S0 S H locs → lv_has ls 7 [(0, .ref (b 62)), (1, .int l1), (2, .int l2), (3, .int l3)] → fX11_placed_39 N n (S.2.1 67) (S.2.1 65) (S.2.1 68) (S.2.1 69) (S.2.1 71) (S.2.1 104) (S.2.1 70) (S.2.1 103) (S.2.1 66) (S.2.1 73) (S.2.1 105) (S.2.1 76) (S.2.1 77) (S.2.1 78) l1 l2 l3 = some o → W p l e rmX11_placed_62 s m args below meth c H locs 0 0 (MQ below (ns_Q D b ids (ns_A (ns_A (ns_A S0 105 o.2.2.2) 104 o.2.2.1) 103 o.2.1) (some (.int o.1)) A) args s 0 0 A) (F0 m 39 ls []) := by
  intro n
  induction n with
  | zero =>
    intro S H locs ls l1 l2 l3 w hl hf
    cases hf
  | succ n K39 =>
    intro S H locs ls l1 l2 l3 w hl hf
    change gX11_placed_39 N (fX11_placed_39 N n) (S.2.1 67) (S.2.1 65) (S.2.1 68) (S.2.1 69) (S.2.1 71) (S.2.1 104) (S.2.1 70) (S.2.1 103) (S.2.1 66) (S.2.1 73) (S.2.1 105) (S.2.1 76) (S.2.1 77) (S.2.1 78) l1 l2 l3 = some o at hf
    generalize fX11_placed_39 N n = r39 at hf K39
    unfold gX11_placed_39 at hf
    refine lv_iload_n C.1.1 C.1.2.1 dX11_placed_39 rfl (lv_at hl 3 rfl) ?_
    refine lv_iconst (v := 3) C.1.1 C.1.2.1 dX11_placed_40 (by decide) ?_
    refine ns_icmp_ge C hf (tgt := 212) dX11_placed_41 (by decide) (fun hf => ?_) (fun hf => ?_)
    · refine lv_iconst (v := 0) C.1.1 C.1.2.1 dX11_placed_212 (by decide) ?_
      refine lv_istore_n (lv' := [(3, .int 0), (0, .ref (b 62)), (1, .int l1), (2, .int l2)]) C.1.1 C.1.2.1 dX11_placed_213 rfl hl (by decide) rfl (fun ls hl => ?_)
      exact wX11_placed_62_214 N hI C hr hlk N w (lv_sub hl [1, 2, 3, 0] rfl) hf
    · refine lv_iconst (v := 0) C.1.1 C.1.2.1 dX11_placed_44 (by decide) ?_
      refine lv_istore (lv' := [(4, .int 0), (0, .ref (b 62)), (1, .int l1), (2, .int l2), (3, .int l3)]) C.1.1 C.1.2.1 dX11_placed_45 hl (by decide) rfl (fun ls hl => ?_)
      exact wX11_placed_62_47 N hI C hr hlk K39 N w (lv_sub hl [1, 2, 3, 4, 0] rfl) hf
set_option maxHeartbeats 4000000 in
set_option maxRecDepth 100000 in
theorem wX11_placed_62_12 {p : Program} {l : Launch} {e : Env} {s : State} {m : MethodId} {args : Array Value} {below : List Frame} {meth : Method} {c : Code} {D : va_G} {b : Nat → Nat} {ids : List Nat} {A : Nat → Prop} {S0 : ns_S} {o : Int32 × (Nat → Int32) × (Nat → Int32) × (Nat → Int32)} (N : Nat) (hI : ∀ i, i < 107 → i ∈ ids) (C : ns_C p m c cX11_placed 7 s args wsX11_placed RX11 D A) (hr : meth.sig.returnType = some .int) (hlk : meth.locks = false) : ∀ n : Nat, ∀ {S : ns_S} {H : Heap} {locs : List Loc} {ls : Array Slot} {l1 : Int32} {l2 : Int32}, ns_W D b ids A s.heap wrX11_placed_62 S0 S H locs → lv_has ls 7 [(0, .ref (b 62)), (1, .int l1), (2, .int l2)] → fX11_placed_12 N n (S.2.1 67) (S.2.1 65) (S.2.1 68) (S.2.1 69) (S.2.1 71) (S.2.1 104) (S.2.1 70) (S.2.1 103) (S.2.1 66) (S.2.1 73) (S.2.1 105) (S.2.1 76) (S.2.1 77) (S.2.1 78) l1 l2 = some o → W p l e rmX11_placed_62 s m args below meth c H locs 0 0 (MQ below (ns_Q D b ids (ns_A (ns_A (ns_A S0 105 o.2.2.2) 104 o.2.2.1) 103 o.2.1) (some (.int o.1)) A) args s 0 0 A) (F0 m 12 ls []) := by
  intro n
  induction n with
  | zero =>
    intro S H locs ls l1 l2 w hl hf
    cases hf
  | succ n K12 =>
    intro S H locs ls l1 l2 w hl hf
    change gX11_placed_12 N (fX11_placed_12 N n) (S.2.1 67) (S.2.1 65) (S.2.1 68) (S.2.1 69) (S.2.1 71) (S.2.1 104) (S.2.1 70) (S.2.1 103) (S.2.1 66) (S.2.1 73) (S.2.1 105) (S.2.1 76) (S.2.1 77) (S.2.1 78) l1 l2 = some o at hf
    generalize fX11_placed_12 N n = r12 at hf K12
    unfold gX11_placed_12 at hf
    refine lv_iload_n C.1.1 C.1.2.1 dX11_placed_12 rfl (lv_at hl 2 rfl) ?_
    refine lv_aload_n C.1.1 C.1.2.1 dX11_placed_13 rfl (lv_at hl 0 rfl) ?_
    refine ns_getr C w 62 (hI 62 (by decide)) sh_62 (rfl : vwCl[11]? = some (RX11, TX11, 59)) inX11_placed_11 12 (by decide) rfl lX11_placed_42 dX11_placed_14 ?_
    refine lv_iconst (v := 0) C.1.1 C.1.2.1 dX11_placed_17 (by decide) ?_
    refine ns_iald C w 73 (hI 73 (by decide)) sh_73 hf rfl dX11_placed_18 (fun x1 hf => ?_)
    refine ns_icmp_ge C hf (tgt := 35) dX11_placed_19 (by decide) (fun hf => ?_) (fun hf => ?_)
    · refine lv_iconst (v := 0) C.1.1 C.1.2.1 dX11_placed_35 (by decide) ?_
      refine lv_istore_n (lv' := [(2, .int 0), (0, .ref (b 62)), (1, .int l1)]) C.1.1 C.1.2.1 dX11_placed_36 rfl hl (by decide) rfl (fun ls hl => ?_)
      refine lv_iconst (v := 0) C.1.1 C.1.2.1 dX11_placed_37 (by decide) ?_
      refine lv_istore_n (lv' := [(3, .int 0), (2, .int 0), (0, .ref (b 62)), (1, .int l1)]) C.1.1 C.1.2.1 dX11_placed_38 rfl hl (by decide) rfl (fun ls hl => ?_)
      exact wX11_placed_62_39 N hI C hr hlk N w (lv_sub hl [2, 3, 1, 0] rfl) hf
    · refine lv_aload_n C.1.1 C.1.2.1 dX11_placed_22 rfl (lv_at hl 0 rfl) ?_
      refine ns_getr C w 62 (hI 62 (by decide)) sh_62 (rfl : vwCl[11]? = some (RX11, TX11, 59)) inX11_placed_11 55 (by decide) rfl lX11_placed_142 dX11_placed_23 ?_
      refine lv_iload_n C.1.1 C.1.2.1 dX11_placed_26 rfl (lv_at hl 2 rfl) ?_
      refine lv_iconst (v := 0) C.1.1 C.1.2.1 dX11_placed_27 (by decide) ?_
      refine ns_iast C w 105 (hI 105 (by decide)) sh_105 hf rfl (List.mem_of_getElem? (i := 2) rfl) dX11_placed_28 (fun y2 H locs hf w => ?_)
      refine ns_iinc (lv' := fun x3 => [(2, .int x3), (0, .ref (b 62)), (1, .int l1)]) C hf dX11_placed_29 hl (k := 2) rfl rfl (by decide) (fun _ => rfl) (fun x3 ls hl hf => ?_)
      refine lv_goto (tgt := 12) C.1.1 C.1.2.1 dX11_placed_32 (by decide) ?_
      exact K12 w (lv_sub hl [1, 2, 0] rfl) hf
set_option maxHeartbeats 4000000 in
set_option maxRecDepth 100000 in
theorem mX11_placed_62 (l : Launch) (D : va_G) (b : Nat → Nat) (ids : List Nat) (hI : ∀ i, i < 107 → i ∈ ids) (N : Nat) (S : ns_S) (p1 : Int32) {o : Int32 × (Nat → Int32) × (Nat → Int32) × (Nat → Int32)} (hf : fX11_placed N (S.2.1 67) (S.2.1 65) (S.2.1 68) (S.2.1 69) (S.2.1 71) (S.2.1 104) (S.2.1 70) (S.2.1 103) (S.2.1 66) (S.2.1 73) (S.2.1 105) (S.2.1 76) (S.2.1 77) (S.2.1 78) p1 = some o) : ns_M l yX11_placed wsX11_placed rmX11_placed_62 D b ids S [.ref (b 62), .int p1] (some (.int o.1)) (ns_A (ns_A (ns_A S 105 o.2.2.2) 104 o.2.2.1) 103 o.2.1) := by
  refine ns_start (Wr := wrX11_placed_62) (by decide) rfl (Nat.le_of_ble_eq_true rfl) ?_
  intro p e s m below meth c A ls C hr hlk w hl
  have hl : lv_has ls 7 [(0, .ref (b 62)), (1, .int p1)] := hl
  unfold fX11_placed at hf
  refine lv_aload_n C.1.1 C.1.2.1 dX11_placed_0 rfl (lv_at hl 0 rfl) ?_
  refine lv_iload_n C.1.1 C.1.2.1 dX11_placed_1 rfl (lv_at hl 1 rfl) ?_
  refine ns_callV C w 62 (hI 62 (by decide)) sh_62 (rfl : vwCl[11]? = some (RX11, TX11, 59)) [.int p1] hf (fun u hu => mX11_can_62 l D b ids hI N _ p1 hu) gX11_placed_X11_can rfl rfl rfl hdX11_can ⟨Nat.le_of_ble_eq_true rfl, Nat.le_of_ble_eq_true rfl⟩ (fun u h => ((h.A (List.mem_of_getElem? (i := 1) rfl) _).A (List.mem_of_getElem? (i := 0) rfl) _)) rfl hl.1 rfl (Nat.le_of_ble_eq_true rfl) ⟨Nat.le_refl _, Nat.le_refl _⟩ dX11_placed_2 (fun o1 H locs hf w => ?_)
  refine ns_if_ne C hf (tgt := 10) dX11_placed_5 (by decide) (fun hf => ?_) (fun hf => ?_)
  · refine lv_iconst (v := 0) C.1.1 C.1.2.1 dX11_placed_10 (by decide) ?_
    refine lv_istore_n (lv' := [(2, .int 0), (0, .ref (b 62)), (1, .int p1)]) C.1.1 C.1.2.1 dX11_placed_11 rfl hl (by decide) rfl (fun ls hl => ?_)
    exact wX11_placed_62_12 N hI C hr hlk N w (lv_sub hl [1, 2, 0] rfl) hf
  · refine lv_iconst (v := (-1)) C.1.1 C.1.2.1 dX11_placed_8 (by decide) ?_
    have he := Option.some.inj hf
    subst he
    exact ns_iret C w hr hlk rfl rfl dX11_placed_9
theorem lX11_points_179 : Cond.fieldLink RX11 179 (TX11 0).1 (TX11 0).2.1 (TX11 0).2.2.1 ∈ wsX11_points := List.mem_of_getElem? (i := 1) rfl
theorem inX11_points_11 : ∀ w ∈ u_ws RX11 TX11 59, w ∈ wsX11_points := fun _ h => List.mem_cons_of_mem _ (List.mem_append_right _ h)
theorem hdX11_points : yX11_points.cls = RX11 ∧ yX11_points.cls ≠ "java/lang/invoke/MethodHandle" ∧ yX11_points.cls ≠ "java/lang/invoke/VarHandle" ∧ (parseMethodDescriptor yX11_points.desc).map (fun d => d.parameters.length) = some 1 := by decide +kernel
abbrev wrX11_points_62 : List (Nat × Nat) := [(0, 3968), (1, 103), (1, 104), (1, 105)]
abbrev rmX11_points_62 : Room := { frames := 3, cells := 0, slots := 0, locals := 76 }
set_option maxHeartbeats 4000000 in
set_option maxRecDepth 100000 in
theorem mX11_points_62 (l : Launch) (D : va_G) (b : Nat → Nat) (ids : List Nat) (hI : ∀ i, i < 107 → i ∈ ids) (N : Nat) (S : ns_S) (p1 : Int32) {o : Int32 × Int32 × (Nat → Int32) × (Nat → Int32) × (Nat → Int32)} (hf : fX11_points N (S.1 3968) (S.2.1 67) (S.2.1 65) (S.2.1 68) (S.2.1 69) (S.2.1 71) (S.2.1 104) (S.2.1 70) (S.2.1 103) (S.2.1 66) (S.2.1 73) (S.2.1 105) (S.2.1 76) (S.2.1 77) (S.2.1 78) p1 = some o) : ns_M l yX11_points wsX11_points rmX11_points_62 D b ids S [.ref (b 62), .int p1] (some (.int o.1)) (ns_I (ns_A (ns_A (ns_A S 105 o.2.2.2.2) 104 o.2.2.2.1) 103 o.2.2.1) 3968 o.2.1) := by
  refine ns_start (Wr := wrX11_points_62) (by decide) rfl (Nat.le_of_ble_eq_true rfl) ?_
  intro p e s m below meth c A ls C hr hlk w hl
  have hl : lv_has ls 2 [(0, .ref (b 62)), (1, .int p1)] := hl
  unfold fX11_points at hf
  refine lv_aload_n C.1.1 C.1.2.1 dX11_points_0 rfl (lv_at hl 0 rfl) ?_
  refine lv_iconst (v := 0) C.1.1 C.1.2.1 dX11_points_1 (by decide) ?_
  refine ns_puti C w 62 (hI 62 (by decide)) sh_62 (rfl : vwCl[11]? = some (RX11, TX11, 59)) inX11_points_11 tyX11_ok nmX11 0 (by decide) rfl lX11_points_179 rfl rfl rfl (List.mem_of_getElem? (i := 0) rfl) dX11_points_2 (fun H locs w => ?_)
  refine lv_aload_n C.1.1 C.1.2.1 dX11_points_5 rfl (lv_at hl 0 rfl) ?_
  refine lv_iload_n C.1.1 C.1.2.1 dX11_points_6 rfl (lv_at hl 1 rfl) ?_
  refine ns_callV C w 62 (hI 62 (by decide)) sh_62 (rfl : vwCl[11]? = some (RX11, TX11, 59)) [.int p1] hf (fun u hu => mX11_placed_62 l D b ids hI N _ p1 hu) gX11_points_X11_placed rfl rfl rfl hdX11_placed ⟨Nat.le_of_ble_eq_true rfl, Nat.le_of_ble_eq_true rfl⟩ (fun u h => (((h.A (List.mem_of_getElem? (i := 3) rfl) _).A (List.mem_of_getElem? (i := 2) rfl) _).A (List.mem_of_getElem? (i := 1) rfl) _)) rfl hl.1 rfl (Nat.le_of_ble_eq_true rfl) ⟨Nat.le_refl _, Nat.le_refl _⟩ dX11_points_7 (fun o1 H locs hf w => ?_)
  have he := Option.some.inj hf
  subst he
  exact ns_iret C w hr hlk rfl rfl dX11_points_10
theorem lX3_findHopeless_34 : Cond.fieldLink RX3 34 (TX3 6).1 (TX3 6).2.1 (TX3 6).2.2.1 ∈ wsX3_findHopeless := List.mem_of_getElem? (i := 6) rfl
theorem lX3_findHopeless_59 : Cond.fieldLink RX3 59 (TX6 1).1 (TX6 1).2.1 (TX6 1).2.2.1 ∈ wsX3_findHopeless := List.mem_of_getElem? (i := 2) rfl
theorem lX3_findHopeless_68 : Cond.fieldLink RX3 68 (TX0 0).1 (TX0 0).2.1 (TX0 0).2.2.1 ∈ wsX3_findHopeless := List.mem_of_getElem? (i := 3) rfl
theorem lX3_findHopeless_78 : Cond.fieldLink RX3 78 (TX6 2).1 (TX6 2).2.1 (TX6 2).2.2.1 ∈ wsX3_findHopeless := List.mem_of_getElem? (i := 4) rfl
theorem lX3_findHopeless_82 : Cond.fieldLink RX3 82 (TX4 0).1 (TX4 0).2.1 (TX4 0).2.2.1 ∈ wsX3_findHopeless := List.mem_of_getElem? (i := 5) rfl
theorem lX3_findHopeless_120 : Cond.fieldLink RX3 120 (TX0 3).1 (TX0 3).2.1 (TX0 3).2.2.1 ∈ wsX3_findHopeless := List.mem_of_getElem? (i := 7) rfl
theorem lX3_findHopeless_162 : Cond.fieldLink RX3 162 (TX3 9).1 (TX3 9).2.1 (TX3 9).2.2.1 ∈ wsX3_findHopeless := List.mem_of_getElem? (i := 1) rfl
theorem inX3_findHopeless_0 : ∀ w ∈ u_ws RX0 TX0 6, w ∈ wsX3_findHopeless := fun _ h => List.mem_cons_of_mem _ (List.mem_append_left _ (List.mem_append_right _ h))
theorem inX3_findHopeless_3 : ∀ w ∈ u_ws RX3 TX3 10, w ∈ wsX3_findHopeless := fun _ h => List.mem_cons_of_mem _ (List.mem_append_left _ (List.mem_append_left _ (List.mem_append_left _ (List.mem_append_right _ h))))
theorem inX3_findHopeless_4 : ∀ w ∈ u_ws RX4 TX4 6, w ∈ wsX3_findHopeless := fun _ h => List.mem_cons_of_mem _ (List.mem_append_right _ h)
theorem inX3_findHopeless_6 : ∀ w ∈ u_ws RX6 TX6 6, w ∈ wsX3_findHopeless := fun _ h => List.mem_cons_of_mem _ (List.mem_append_left _ (List.mem_append_left _ (List.mem_append_right _ h)))
theorem hdX3_findHopeless : yX3_findHopeless.cls = RX3 ∧ yX3_findHopeless.cls ≠ "java/lang/invoke/MethodHandle" ∧ yX3_findHopeless.cls ≠ "java/lang/invoke/VarHandle" ∧ (parseMethodDescriptor yX3_findHopeless.desc).map (fun d => d.parameters.length) = some 1 := by decide +kernel
abbrev wrX3_findHopeless_15_28 : List (Nat × Nat) := [(0, 969)]
abbrev rmX3_findHopeless_15_28 : Room := { frames := 0, cells := 0, slots := 0, locals := 0 }
set_option maxHeartbeats 4000000 in
set_option maxRecDepth 100000 in
theorem wX3_findHopeless_15_28_23 {p : Program} {l : Launch} {e : Env} {s : State} {m : MethodId} {args : Array Value} {below : List Frame} {meth : Method} {c : Code} {D : va_G} {b : Nat → Nat} {ids : List Nat} {A : Nat → Prop} {S0 : ns_S} {o : Int32} (N : Nat) (hI : ∀ i, i < 107 → i ∈ ids) (C : ns_C p m c cX3_findHopeless 5 s args wsX3_findHopeless RX3 D A) (hr : meth.sig.returnType = none) (hlk : meth.locks = false) {r7 : Int32 → Int32 → Int32 → (Nat → Int32) → (Nat → Int32) → Int32 → Option (Int32)} (K7 : ∀ {S : ns_S} {H : Heap} {locs : List Loc} {ls : Array Slot} {l2 : Int32}, ns_W D b ids A s.heap wrX3_findHopeless_15_28 S0 S H locs → lv_has ls 5 [(0, .ref (b 15)), (1, .ref (b 28)), (2, .int l2)] → r7 (S.1 969) (S.1 1984) (S.1 2368) (S.2.1 34) (S.2.1 26) l2 = some o → W p l e rmX3_findHopeless_15_28 s m args below meth c H locs 0 0 (MQ below (ns_Q D b ids (ns_I S0 969 o) none A) args s 0 0 A) (F0 m 7 ls [])) : ∀ n : Nat, ∀ {S : ns_S} {H : Heap} {locs : List Loc} {ls : Array Slot} {l2 : Int32} {l3 : Int32} {l4 : Int32}, ns_W D b ids A s.heap wrX3_findHopeless_15_28 S0 S H locs → lv_has ls 5 [(0, .ref (b 15)), (1, .ref (b 28)), (2, .int l2), (3, .int l3), (4, .int l4)] → fX3_findHopeless_23 N r7 n (S.1 969) (S.1 1984) (S.1 2368) (S.2.1 34) (S.2.1 26) l2 l3 l4 = some o → W p l e rmX3_findHopeless_15_28 s m args below meth c H locs 0 0 (MQ below (ns_Q D b ids (ns_I S0 969 o) none A) args s 0 0 A) (F0 m 23 ls []) := by
  intro n
  induction n with
  | zero =>
    intro S H locs ls l2 l3 l4 w hl hf
    cases hf
  | succ n K23 =>
    intro S H locs ls l2 l3 l4 w hl hf
    change gX3_findHopeless_23 N r7 (fX3_findHopeless_23 N r7 n) (S.1 969) (S.1 1984) (S.1 2368) (S.2.1 34) (S.2.1 26) l2 l3 l4 = some o at hf
    generalize fX3_findHopeless_23 N r7 n = r23 at hf K23
    unfold gX3_findHopeless_23 at hf
    refine lv_iload C.1.1 C.1.2.1 dX3_findHopeless_23 (lv_at hl 4 rfl) ?_
    refine lv_aload_n C.1.1 C.1.2.1 dX3_findHopeless_25 rfl (lv_at hl 1 rfl) ?_
    refine ns_getr C w 28 (hI 28 (by decide)) sh_28 (rfl : vwCl[6]? = some (RX6, TX6, 6)) inX3_findHopeless_6 2 (by decide) rfl lX3_findHopeless_78 dX3_findHopeless_26 ?_
    refine ns_geti C w 37 (hI 37 (by decide)) sh_37 (rfl : vwCl[4]? = some (RX4, TX4, 6)) inX3_findHopeless_4 0 (by decide) rfl lX3_findHopeless_82 (S.1 2368) rfl dX3_findHopeless_29 ?_
    refine ns_icmp_ge C hf (tgt := 55) dX3_findHopeless_32 (by decide) (fun hf => ?_) (fun hf => ?_)
    · refine lv_iload_n C.1.1 C.1.2.1 dX3_findHopeless_55 rfl (lv_at hl 3 rfl) ?_
      refine lv_aload_n C.1.1 C.1.2.1 dX3_findHopeless_56 rfl (lv_at hl 1 rfl) ?_
      refine ns_getr C w 28 (hI 28 (by decide)) sh_28 (rfl : vwCl[6]? = some (RX6, TX6, 6)) inX3_findHopeless_6 1 (by decide) rfl lX3_findHopeless_59 dX3_findHopeless_57 ?_
      refine ns_getr C w 31 (hI 31 (by decide)) sh_31 (rfl : vwCl[0]? = some (RX0, TX0, 6)) inX3_findHopeless_0 3 (by decide) rfl lX3_findHopeless_120 dX3_findHopeless_60 ?_
      refine lv_iload_n C.1.1 C.1.2.1 dX3_findHopeless_63 rfl (lv_at hl 2 rfl) ?_
      refine ns_iald C w 34 (hI 34 (by decide)) sh_34 hf rfl dX3_findHopeless_64 (fun x1 hf => ?_)
      refine ns_icmp_ge C hf (tgt := 80) dX3_findHopeless_65 (by decide) (fun hf => ?_) (fun hf => ?_)
      · refine ns_iinc (lv' := fun x2 => [(2, .int x2), (0, .ref (b 15)), (1, .ref (b 28)), (3, .int l3), (4, .int l4)]) C hf dX3_findHopeless_80 hl (k := 2) rfl rfl (by decide) (fun _ => rfl) (fun x2 ls hl hf => ?_)
        refine lv_goto (tgt := 7) C.1.1 C.1.2.1 dX3_findHopeless_83 (by decide) ?_
        exact K7 w (lv_sub hl [1, 2, 0] rfl) hf
      · refine lv_aload_n C.1.1 C.1.2.1 dX3_findHopeless_68 rfl (lv_at hl 0 rfl) ?_
        refine lv_dup C.1.1 C.1.2.1 dX3_findHopeless_69 rfl ?_
        refine ns_geti C w 15 (hI 15 (by decide)) sh_15 (rfl : vwCl[3]? = some (RX3, TX3, 10)) inX3_findHopeless_3 9 (by decide) rfl lX3_findHopeless_162 (S.1 969) rfl dX3_findHopeless_70 ?_
        refine lv_iconst (v := 1) C.1.1 C.1.2.1 dX3_findHopeless_73 (by decide) ?_
        refine lv_iload_n C.1.1 C.1.2.1 dX3_findHopeless_74 rfl (lv_at hl 2 rfl) ?_
        refine lv_ishl C.1.1 C.1.2.1 dX3_findHopeless_75 ?_
        refine lv_ior C.1.1 C.1.2.1 dX3_findHopeless_76 ?_
        refine ns_namei hf (fun x3 hf => ?_)
        refine ns_puti C w 15 (hI 15 (by decide)) sh_15 (rfl : vwCl[3]? = some (RX3, TX3, 10)) inX3_findHopeless_3 tyX3_ok nmX3 9 (by decide) rfl lX3_findHopeless_162 rfl rfl rfl (List.mem_of_getElem? (i := 0) rfl) dX3_findHopeless_77 (fun H locs w => ?_)
        refine ns_iinc (lv' := fun x4 => [(2, .int x4), (0, .ref (b 15)), (1, .ref (b 28)), (3, .int l3), (4, .int l4)]) C hf dX3_findHopeless_80 hl (k := 2) rfl rfl (by decide) (fun _ => rfl) (fun x4 ls hl hf => ?_)
        refine lv_goto (tgt := 7) C.1.1 C.1.2.1 dX3_findHopeless_83 (by decide) ?_
        exact K7 w (lv_sub hl [1, 2, 0] rfl) hf
    · refine lv_iload_n C.1.1 C.1.2.1 dX3_findHopeless_35 rfl (lv_at hl 3 rfl) ?_
      refine lv_aload_n C.1.1 C.1.2.1 dX3_findHopeless_36 rfl (lv_at hl 0 rfl) ?_
      refine ns_getr C w 15 (hI 15 (by decide)) sh_15 (rfl : vwCl[3]? = some (RX3, TX3, 10)) inX3_findHopeless_3 6 (by decide) rfl lX3_findHopeless_34 dX3_findHopeless_37 ?_
      refine lv_iload C.1.1 C.1.2.1 dX3_findHopeless_40 (lv_at hl 4 rfl) ?_
      refine ns_iald C w 26 (hI 26 (by decide)) sh_26 hf rfl dX3_findHopeless_42 (fun x5 hf => ?_)
      refine lv_iload_n C.1.1 C.1.2.1 dX3_findHopeless_43 rfl (lv_at hl 2 rfl) ?_
      refine lv_ishr C.1.1 C.1.2.1 dX3_findHopeless_44 ?_
      refine lv_iconst (v := 1) C.1.1 C.1.2.1 dX3_findHopeless_45 (by decide) ?_
      refine lv_iand C.1.1 C.1.2.1 dX3_findHopeless_46 ?_
      refine lv_iadd C.1.1 C.1.2.1 dX3_findHopeless_47 ?_
      refine ns_namei hf (fun x6 hf => ?_)
      refine lv_istore_n (lv' := [(3, .int x6), (0, .ref (b 15)), (1, .ref (b 28)), (2, .int l2), (4, .int l4)]) C.1.1 C.1.2.1 dX3_findHopeless_48 rfl hl (by decide) rfl (fun ls hl => ?_)
      refine ns_iinc (lv' := fun x7 => [(4, .int x7), (3, .int x6), (0, .ref (b 15)), (1, .ref (b 28)), (2, .int l2)]) C hf dX3_findHopeless_49 hl (k := 4) rfl rfl (by decide) (fun _ => rfl) (fun x7 ls hl hf => ?_)
      refine lv_goto (tgt := 23) C.1.1 C.1.2.1 dX3_findHopeless_52 (by decide) ?_
      exact K23 w (lv_sub hl [2, 3, 4, 1, 0] rfl) hf
set_option maxHeartbeats 4000000 in
set_option maxRecDepth 100000 in
theorem wX3_findHopeless_15_28_7 {p : Program} {l : Launch} {e : Env} {s : State} {m : MethodId} {args : Array Value} {below : List Frame} {meth : Method} {c : Code} {D : va_G} {b : Nat → Nat} {ids : List Nat} {A : Nat → Prop} {S0 : ns_S} {o : Int32} (N : Nat) (hI : ∀ i, i < 107 → i ∈ ids) (C : ns_C p m c cX3_findHopeless 5 s args wsX3_findHopeless RX3 D A) (hr : meth.sig.returnType = none) (hlk : meth.locks = false) : ∀ n : Nat, ∀ {S : ns_S} {H : Heap} {locs : List Loc} {ls : Array Slot} {l2 : Int32}, ns_W D b ids A s.heap wrX3_findHopeless_15_28 S0 S H locs → lv_has ls 5 [(0, .ref (b 15)), (1, .ref (b 28)), (2, .int l2)] → fX3_findHopeless_7 N n (S.1 969) (S.1 1984) (S.1 2368) (S.2.1 34) (S.2.1 26) l2 = some o → W p l e rmX3_findHopeless_15_28 s m args below meth c H locs 0 0 (MQ below (ns_Q D b ids (ns_I S0 969 o) none A) args s 0 0 A) (F0 m 7 ls []) := by
  intro n
  induction n with
  | zero =>
    intro S H locs ls l2 w hl hf
    cases hf
  | succ n K7 =>
    intro S H locs ls l2 w hl hf
    change gX3_findHopeless_7 N (fX3_findHopeless_7 N n) (S.1 969) (S.1 1984) (S.1 2368) (S.2.1 34) (S.2.1 26) l2 = some o at hf
    generalize fX3_findHopeless_7 N n = r7 at hf K7
    unfold gX3_findHopeless_7 at hf
    refine lv_iload_n C.1.1 C.1.2.1 dX3_findHopeless_7 rfl (lv_at hl 2 rfl) ?_
    refine lv_aload_n C.1.1 C.1.2.1 dX3_findHopeless_8 rfl (lv_at hl 1 rfl) ?_
    refine ns_getr C w 28 (hI 28 (by decide)) sh_28 (rfl : vwCl[6]? = some (RX6, TX6, 6)) inX3_findHopeless_6 1 (by decide) rfl lX3_findHopeless_59 dX3_findHopeless_9 ?_
    refine ns_geti C w 31 (hI 31 (by decide)) sh_31 (rfl : vwCl[0]? = some (RX0, TX0, 6)) inX3_findHopeless_0 0 (by decide) rfl lX3_findHopeless_68 (S.1 1984) rfl dX3_findHopeless_12 ?_
    refine ns_icmp_ge C hf (tgt := 86) dX3_findHopeless_15 (by decide) (fun hf => ?_) (fun hf => ?_)
    · have he := Option.some.inj hf
      subst he
      exact ns_vret C w hr hlk rfl rfl dX3_findHopeless_86
    · refine lv_iconst (v := 0) C.1.1 C.1.2.1 dX3_findHopeless_18 (by decide) ?_
      refine lv_istore_n (lv' := [(3, .int 0), (0, .ref (b 15)), (1, .ref (b 28)), (2, .int l2)]) C.1.1 C.1.2.1 dX3_findHopeless_19 rfl hl (by decide) rfl (fun ls hl => ?_)
      refine lv_iconst (v := 0) C.1.1 C.1.2.1 dX3_findHopeless_20 (by decide) ?_
      refine lv_istore (lv' := [(4, .int 0), (3, .int 0), (0, .ref (b 15)), (1, .ref (b 28)), (2, .int l2)]) C.1.1 C.1.2.1 dX3_findHopeless_21 hl (by decide) rfl (fun ls hl => ?_)
      exact wX3_findHopeless_15_28_23 N hI C hr hlk K7 N w (lv_sub hl [2, 3, 4, 1, 0] rfl) hf
set_option maxHeartbeats 4000000 in
set_option maxRecDepth 100000 in
theorem mX3_findHopeless_15_28 (l : Launch) (D : va_G) (b : Nat → Nat) (ids : List Nat) (hI : ∀ i, i < 107 → i ∈ ids) (N : Nat) (S : ns_S) {o : Int32} (hf : fX3_findHopeless N (S.1 969) (S.1 1984) (S.1 2368) (S.2.1 34) (S.2.1 26) = some o) : ns_M l yX3_findHopeless wsX3_findHopeless rmX3_findHopeless_15_28 D b ids S [.ref (b 15), .ref (b 28)] none (ns_I S 969 o) := by
  refine ns_start (Wr := wrX3_findHopeless_15_28) (by decide) rfl (Nat.le_of_ble_eq_true rfl) ?_
  intro p e s m below meth c A ls C hr hlk w hl
  have hl : lv_has ls 5 [(0, .ref (b 15)), (1, .ref (b 28))] := hl
  unfold fX3_findHopeless at hf
  refine lv_aload_n C.1.1 C.1.2.1 dX3_findHopeless_0 rfl (lv_at hl 0 rfl) ?_
  refine lv_iconst (v := 0) C.1.1 C.1.2.1 dX3_findHopeless_1 (by decide) ?_
  refine ns_puti C w 15 (hI 15 (by decide)) sh_15 (rfl : vwCl[3]? = some (RX3, TX3, 10)) inX3_findHopeless_3 tyX3_ok nmX3 9 (by decide) rfl lX3_findHopeless_162 rfl rfl rfl (List.mem_of_getElem? (i := 0) rfl) dX3_findHopeless_2 (fun H locs w => ?_)
  refine lv_iconst (v := 0) C.1.1 C.1.2.1 dX3_findHopeless_5 (by decide) ?_
  refine lv_istore_n (lv' := [(2, .int 0), (0, .ref (b 15)), (1, .ref (b 28))]) C.1.1 C.1.2.1 dX3_findHopeless_6 rfl hl (by decide) rfl (fun ls hl => ?_)
  exact wX3_findHopeless_15_28_7 N hI C hr hlk N w (lv_sub hl [1, 2, 0] rfl) hf
