abbrev wrX11_move_75 : List (Nat × Nat) := [(1, 75)]
abbrev rmX11_move_75 : Room := { frames := 0, cells := 0, slots := 0, locals := 0 }
set_option maxHeartbeats 4000000 in
set_option maxRecDepth 100000 in
theorem wX11_move_75_3 {p : Program} {l : Launch} {e : Env} {s : State} {m : MethodId} {args : Array Value} {below : List Frame} {meth : Method} {c : Code} {D : va_G} {b : Nat → Nat} {ids : List Nat} {A : Nat → Prop} {S0 : ns_S} {o : (Nat → Int32)} (N : Nat) (hI : ∀ i, i < 107 → i ∈ ids) (C : ns_C p m c cX11_move 5 s args wsX11_move RX11 D A) (hr : meth.sig.returnType = none) (hlk : meth.locks = false) : ∀ n : Nat, ∀ {S : ns_S} {H : Heap} {locs : List Loc} {ls : Array Slot} {l1 : Int32} {l2 : Int32} {l3 : Int32} {l4 : Int32}, ns_W D b ids A s.heap wrX11_move_75 S0 S H locs → lv_has ls 5 [(0, .ref (b 75)), (1, .int l1), (2, .int l2), (3, .int l3), (4, .int l4)] → fX11_move_3 N 120 n (S.2.1 75) l1 l2 l3 l4 = some o → W p l e rmX11_move_75 s m args below meth c H locs 0 0 (MQ below (ns_Q D b ids (ns_A S0 75 o) none A) args s 0 0 A) (F0 m 3 ls []) := by
  intro n
  induction n with
  | zero =>
    intro S H locs ls l1 l2 l3 l4 w hl hf
    cases hf
  | succ n K3 =>
    intro S H locs ls l1 l2 l3 l4 w hl hf
    change gX11_move_3 N 120 (fX11_move_3 N 120 n) (S.2.1 75) l1 l2 l3 l4 = some o at hf
    generalize fX11_move_3 N 120 n = r3 at hf K3
    unfold gX11_move_3 at hf
    refine lv_iload C.1.1 C.1.2.1 dX11_move_3 (lv_at hl 4 rfl) ?_
    refine lv_iload_n C.1.1 C.1.2.1 dX11_move_5 rfl (lv_at hl 1 rfl) ?_
    refine ns_icmp_ge C hf (tgt := 31) dX11_move_6 (by decide) (fun hf => ?_) (fun hf => ?_)
    · have he := Option.some.inj hf
      subst he
      exact ns_vret C w hr hlk rfl rfl dX11_move_31
    · refine lv_aload_n C.1.1 C.1.2.1 dX11_move_9 rfl (lv_at hl 0 rfl) ?_
      refine lv_iload_n C.1.1 C.1.2.1 dX11_move_10 rfl (lv_at hl 1 rfl) ?_
      refine lv_iload_n C.1.1 C.1.2.1 dX11_move_11 rfl (lv_at hl 3 rfl) ?_
      refine lv_imul C.1.1 C.1.2.1 dX11_move_12 ?_
      refine lv_iload C.1.1 C.1.2.1 dX11_move_13 (lv_at hl 4 rfl) ?_
      refine lv_iadd C.1.1 C.1.2.1 dX11_move_15 ?_
      refine lv_aload_n C.1.1 C.1.2.1 dX11_move_16 rfl (lv_at hl 0 rfl) ?_
      refine lv_iload_n C.1.1 C.1.2.1 dX11_move_17 rfl (lv_at hl 1 rfl) ?_
      refine lv_iload_n C.1.1 C.1.2.1 dX11_move_18 rfl (lv_at hl 2 rfl) ?_
      refine lv_imul C.1.1 C.1.2.1 dX11_move_19 ?_
      refine lv_iload C.1.1 C.1.2.1 dX11_move_20 (lv_at hl 4 rfl) ?_
      refine lv_iadd C.1.1 C.1.2.1 dX11_move_22 ?_
      refine ns_iald C w 75 (hI 75 (by decide)) sh_75 hf rfl dX11_move_23 (fun x1 hf => ?_)
      refine ns_iast C w 75 (hI 75 (by decide)) sh_75 hf rfl (List.mem_of_getElem? (i := 0) rfl) dX11_move_24 (fun y2 H locs hf w => ?_)
      refine ns_iinc (lv' := fun x3 => [(4, .int x3), (0, .ref (b 75)), (1, .int l1), (2, .int l2), (3, .int l3)]) C hf dX11_move_25 hl (k := 4) rfl rfl (by decide) (fun _ => rfl) (fun x3 ls hl hf => ?_)
      refine lv_goto (tgt := 3) C.1.1 C.1.2.1 dX11_move_28 (by decide) ?_
      exact K3 w (lv_sub hl [1, 2, 3, 4, 0] rfl) hf
set_option maxHeartbeats 4000000 in
set_option maxRecDepth 100000 in
theorem mX11_move_75 (l : Launch) (D : va_G) (b : Nat → Nat) (ids : List Nat) (hI : ∀ i, i < 107 → i ∈ ids) (N : Nat) (S : ns_S) (p1 : Int32) (p2 : Int32) (p3 : Int32) {o : (Nat → Int32)} (hf : fX11_move N 120 (S.2.1 75) p1 p2 p3 = some o) : ns_M l yX11_move wsX11_move rmX11_move_75 D b ids S [.ref (b 75), .int p1, .int p2, .int p3] none (ns_A S 75 o) := by
  refine ns_start (Wr := wrX11_move_75) (by decide) rfl (Nat.le_of_ble_eq_true rfl) ?_
  intro p e s m below meth c A ls C hr hlk w hl
  have hl : lv_has ls 5 [(0, .ref (b 75)), (1, .int p1), (2, .int p2), (3, .int p3)] := hl
  unfold fX11_move at hf
  refine lv_iconst (v := 0) C.1.1 C.1.2.1 dX11_move_0 (by decide) ?_
  refine lv_istore (lv' := [(4, .int 0), (0, .ref (b 75)), (1, .int p1), (2, .int p2), (3, .int p3)]) C.1.1 C.1.2.1 dX11_move_1 hl (by decide) rfl (fun ls hl => ?_)
  exact wX11_move_75_3 N hI C hr hlk N w (lv_sub hl [1, 2, 3, 4, 0] rfl) hf
abbrev wrX11_move_76 : List (Nat × Nat) := [(1, 76)]
abbrev rmX11_move_76 : Room := { frames := 0, cells := 0, slots := 0, locals := 0 }
set_option maxHeartbeats 4000000 in
set_option maxRecDepth 100000 in
theorem wX11_move_76_3 {p : Program} {l : Launch} {e : Env} {s : State} {m : MethodId} {args : Array Value} {below : List Frame} {meth : Method} {c : Code} {D : va_G} {b : Nat → Nat} {ids : List Nat} {A : Nat → Prop} {S0 : ns_S} {o : (Nat → Int32)} (N : Nat) (hI : ∀ i, i < 107 → i ∈ ids) (C : ns_C p m c cX11_move 5 s args wsX11_move RX11 D A) (hr : meth.sig.returnType = none) (hlk : meth.locks = false) : ∀ n : Nat, ∀ {S : ns_S} {H : Heap} {locs : List Loc} {ls : Array Slot} {l1 : Int32} {l2 : Int32} {l3 : Int32} {l4 : Int32}, ns_W D b ids A s.heap wrX11_move_76 S0 S H locs → lv_has ls 5 [(0, .ref (b 76)), (1, .int l1), (2, .int l2), (3, .int l3), (4, .int l4)] → fX11_move_3 N 120 n (S.2.1 76) l1 l2 l3 l4 = some o → W p l e rmX11_move_76 s m args below meth c H locs 0 0 (MQ below (ns_Q D b ids (ns_A S0 76 o) none A) args s 0 0 A) (F0 m 3 ls []) := by
  intro n
  induction n with
  | zero =>
    intro S H locs ls l1 l2 l3 l4 w hl hf
    cases hf
  | succ n K3 =>
    intro S H locs ls l1 l2 l3 l4 w hl hf
    change gX11_move_3 N 120 (fX11_move_3 N 120 n) (S.2.1 76) l1 l2 l3 l4 = some o at hf
    generalize fX11_move_3 N 120 n = r3 at hf K3
    unfold gX11_move_3 at hf
    refine lv_iload C.1.1 C.1.2.1 dX11_move_3 (lv_at hl 4 rfl) ?_
    refine lv_iload_n C.1.1 C.1.2.1 dX11_move_5 rfl (lv_at hl 1 rfl) ?_
    refine ns_icmp_ge C hf (tgt := 31) dX11_move_6 (by decide) (fun hf => ?_) (fun hf => ?_)
    · have he := Option.some.inj hf
      subst he
      exact ns_vret C w hr hlk rfl rfl dX11_move_31
    · refine lv_aload_n C.1.1 C.1.2.1 dX11_move_9 rfl (lv_at hl 0 rfl) ?_
      refine lv_iload_n C.1.1 C.1.2.1 dX11_move_10 rfl (lv_at hl 1 rfl) ?_
      refine lv_iload_n C.1.1 C.1.2.1 dX11_move_11 rfl (lv_at hl 3 rfl) ?_
      refine lv_imul C.1.1 C.1.2.1 dX11_move_12 ?_
      refine lv_iload C.1.1 C.1.2.1 dX11_move_13 (lv_at hl 4 rfl) ?_
      refine lv_iadd C.1.1 C.1.2.1 dX11_move_15 ?_
      refine lv_aload_n C.1.1 C.1.2.1 dX11_move_16 rfl (lv_at hl 0 rfl) ?_
      refine lv_iload_n C.1.1 C.1.2.1 dX11_move_17 rfl (lv_at hl 1 rfl) ?_
      refine lv_iload_n C.1.1 C.1.2.1 dX11_move_18 rfl (lv_at hl 2 rfl) ?_
      refine lv_imul C.1.1 C.1.2.1 dX11_move_19 ?_
      refine lv_iload C.1.1 C.1.2.1 dX11_move_20 (lv_at hl 4 rfl) ?_
      refine lv_iadd C.1.1 C.1.2.1 dX11_move_22 ?_
      refine ns_iald C w 76 (hI 76 (by decide)) sh_76 hf rfl dX11_move_23 (fun x1 hf => ?_)
      refine ns_iast C w 76 (hI 76 (by decide)) sh_76 hf rfl (List.mem_of_getElem? (i := 0) rfl) dX11_move_24 (fun y2 H locs hf w => ?_)
      refine ns_iinc (lv' := fun x3 => [(4, .int x3), (0, .ref (b 76)), (1, .int l1), (2, .int l2), (3, .int l3)]) C hf dX11_move_25 hl (k := 4) rfl rfl (by decide) (fun _ => rfl) (fun x3 ls hl hf => ?_)
      refine lv_goto (tgt := 3) C.1.1 C.1.2.1 dX11_move_28 (by decide) ?_
      exact K3 w (lv_sub hl [1, 2, 3, 4, 0] rfl) hf
set_option maxHeartbeats 4000000 in
set_option maxRecDepth 100000 in
theorem mX11_move_76 (l : Launch) (D : va_G) (b : Nat → Nat) (ids : List Nat) (hI : ∀ i, i < 107 → i ∈ ids) (N : Nat) (S : ns_S) (p1 : Int32) (p2 : Int32) (p3 : Int32) {o : (Nat → Int32)} (hf : fX11_move N 120 (S.2.1 76) p1 p2 p3 = some o) : ns_M l yX11_move wsX11_move rmX11_move_76 D b ids S [.ref (b 76), .int p1, .int p2, .int p3] none (ns_A S 76 o) := by
  refine ns_start (Wr := wrX11_move_76) (by decide) rfl (Nat.le_of_ble_eq_true rfl) ?_
  intro p e s m below meth c A ls C hr hlk w hl
  have hl : lv_has ls 5 [(0, .ref (b 76)), (1, .int p1), (2, .int p2), (3, .int p3)] := hl
  unfold fX11_move at hf
  refine lv_iconst (v := 0) C.1.1 C.1.2.1 dX11_move_0 (by decide) ?_
  refine lv_istore (lv' := [(4, .int 0), (0, .ref (b 76)), (1, .int p1), (2, .int p2), (3, .int p3)]) C.1.1 C.1.2.1 dX11_move_1 hl (by decide) rfl (fun ls hl => ?_)
  exact wX11_move_76_3 N hI C hr hlk N w (lv_sub hl [1, 2, 3, 4, 0] rfl) hf
abbrev wrX11_move_77 : List (Nat × Nat) := [(1, 77)]
abbrev rmX11_move_77 : Room := { frames := 0, cells := 0, slots := 0, locals := 0 }
set_option maxHeartbeats 4000000 in
set_option maxRecDepth 100000 in
theorem wX11_move_77_3 {p : Program} {l : Launch} {e : Env} {s : State} {m : MethodId} {args : Array Value} {below : List Frame} {meth : Method} {c : Code} {D : va_G} {b : Nat → Nat} {ids : List Nat} {A : Nat → Prop} {S0 : ns_S} {o : (Nat → Int32)} (N : Nat) (hI : ∀ i, i < 107 → i ∈ ids) (C : ns_C p m c cX11_move 5 s args wsX11_move RX11 D A) (hr : meth.sig.returnType = none) (hlk : meth.locks = false) : ∀ n : Nat, ∀ {S : ns_S} {H : Heap} {locs : List Loc} {ls : Array Slot} {l1 : Int32} {l2 : Int32} {l3 : Int32} {l4 : Int32}, ns_W D b ids A s.heap wrX11_move_77 S0 S H locs → lv_has ls 5 [(0, .ref (b 77)), (1, .int l1), (2, .int l2), (3, .int l3), (4, .int l4)] → fX11_move_3 N 120 n (S.2.1 77) l1 l2 l3 l4 = some o → W p l e rmX11_move_77 s m args below meth c H locs 0 0 (MQ below (ns_Q D b ids (ns_A S0 77 o) none A) args s 0 0 A) (F0 m 3 ls []) := by
  intro n
  induction n with
  | zero =>
    intro S H locs ls l1 l2 l3 l4 w hl hf
    cases hf
  | succ n K3 =>
    intro S H locs ls l1 l2 l3 l4 w hl hf
    change gX11_move_3 N 120 (fX11_move_3 N 120 n) (S.2.1 77) l1 l2 l3 l4 = some o at hf
    generalize fX11_move_3 N 120 n = r3 at hf K3
    unfold gX11_move_3 at hf
    refine lv_iload C.1.1 C.1.2.1 dX11_move_3 (lv_at hl 4 rfl) ?_
    refine lv_iload_n C.1.1 C.1.2.1 dX11_move_5 rfl (lv_at hl 1 rfl) ?_
    refine ns_icmp_ge C hf (tgt := 31) dX11_move_6 (by decide) (fun hf => ?_) (fun hf => ?_)
    · have he := Option.some.inj hf
      subst he
      exact ns_vret C w hr hlk rfl rfl dX11_move_31
    · refine lv_aload_n C.1.1 C.1.2.1 dX11_move_9 rfl (lv_at hl 0 rfl) ?_
      refine lv_iload_n C.1.1 C.1.2.1 dX11_move_10 rfl (lv_at hl 1 rfl) ?_
      refine lv_iload_n C.1.1 C.1.2.1 dX11_move_11 rfl (lv_at hl 3 rfl) ?_
      refine lv_imul C.1.1 C.1.2.1 dX11_move_12 ?_
      refine lv_iload C.1.1 C.1.2.1 dX11_move_13 (lv_at hl 4 rfl) ?_
      refine lv_iadd C.1.1 C.1.2.1 dX11_move_15 ?_
      refine lv_aload_n C.1.1 C.1.2.1 dX11_move_16 rfl (lv_at hl 0 rfl) ?_
      refine lv_iload_n C.1.1 C.1.2.1 dX11_move_17 rfl (lv_at hl 1 rfl) ?_
      refine lv_iload_n C.1.1 C.1.2.1 dX11_move_18 rfl (lv_at hl 2 rfl) ?_
      refine lv_imul C.1.1 C.1.2.1 dX11_move_19 ?_
      refine lv_iload C.1.1 C.1.2.1 dX11_move_20 (lv_at hl 4 rfl) ?_
      refine lv_iadd C.1.1 C.1.2.1 dX11_move_22 ?_
      refine ns_iald C w 77 (hI 77 (by decide)) sh_77 hf rfl dX11_move_23 (fun x1 hf => ?_)
      refine ns_iast C w 77 (hI 77 (by decide)) sh_77 hf rfl (List.mem_of_getElem? (i := 0) rfl) dX11_move_24 (fun y2 H locs hf w => ?_)
      refine ns_iinc (lv' := fun x3 => [(4, .int x3), (0, .ref (b 77)), (1, .int l1), (2, .int l2), (3, .int l3)]) C hf dX11_move_25 hl (k := 4) rfl rfl (by decide) (fun _ => rfl) (fun x3 ls hl hf => ?_)
      refine lv_goto (tgt := 3) C.1.1 C.1.2.1 dX11_move_28 (by decide) ?_
      exact K3 w (lv_sub hl [1, 2, 3, 4, 0] rfl) hf
set_option maxHeartbeats 4000000 in
set_option maxRecDepth 100000 in
theorem mX11_move_77 (l : Launch) (D : va_G) (b : Nat → Nat) (ids : List Nat) (hI : ∀ i, i < 107 → i ∈ ids) (N : Nat) (S : ns_S) (p1 : Int32) (p2 : Int32) (p3 : Int32) {o : (Nat → Int32)} (hf : fX11_move N 120 (S.2.1 77) p1 p2 p3 = some o) : ns_M l yX11_move wsX11_move rmX11_move_77 D b ids S [.ref (b 77), .int p1, .int p2, .int p3] none (ns_A S 77 o) := by
  refine ns_start (Wr := wrX11_move_77) (by decide) rfl (Nat.le_of_ble_eq_true rfl) ?_
  intro p e s m below meth c A ls C hr hlk w hl
  have hl : lv_has ls 5 [(0, .ref (b 77)), (1, .int p1), (2, .int p2), (3, .int p3)] := hl
  unfold fX11_move at hf
  refine lv_iconst (v := 0) C.1.1 C.1.2.1 dX11_move_0 (by decide) ?_
  refine lv_istore (lv' := [(4, .int 0), (0, .ref (b 77)), (1, .int p1), (2, .int p2), (3, .int p3)]) C.1.1 C.1.2.1 dX11_move_1 hl (by decide) rfl (fun ls hl => ?_)
  exact wX11_move_77_3 N hI C hr hlk N w (lv_sub hl [1, 2, 3, 4, 0] rfl) hf
abbrev wrX11_move_78 : List (Nat × Nat) := [(1, 78)]
abbrev rmX11_move_78 : Room := { frames := 0, cells := 0, slots := 0, locals := 0 }
set_option maxHeartbeats 4000000 in
set_option maxRecDepth 100000 in
theorem wX11_move_78_3 {p : Program} {l : Launch} {e : Env} {s : State} {m : MethodId} {args : Array Value} {below : List Frame} {meth : Method} {c : Code} {D : va_G} {b : Nat → Nat} {ids : List Nat} {A : Nat → Prop} {S0 : ns_S} {o : (Nat → Int32)} (N : Nat) (hI : ∀ i, i < 107 → i ∈ ids) (C : ns_C p m c cX11_move 5 s args wsX11_move RX11 D A) (hr : meth.sig.returnType = none) (hlk : meth.locks = false) : ∀ n : Nat, ∀ {S : ns_S} {H : Heap} {locs : List Loc} {ls : Array Slot} {l1 : Int32} {l2 : Int32} {l3 : Int32} {l4 : Int32}, ns_W D b ids A s.heap wrX11_move_78 S0 S H locs → lv_has ls 5 [(0, .ref (b 78)), (1, .int l1), (2, .int l2), (3, .int l3), (4, .int l4)] → fX11_move_3 N 720 n (S.2.1 78) l1 l2 l3 l4 = some o → W p l e rmX11_move_78 s m args below meth c H locs 0 0 (MQ below (ns_Q D b ids (ns_A S0 78 o) none A) args s 0 0 A) (F0 m 3 ls []) := by
  intro n
  induction n with
  | zero =>
    intro S H locs ls l1 l2 l3 l4 w hl hf
    cases hf
  | succ n K3 =>
    intro S H locs ls l1 l2 l3 l4 w hl hf
    change gX11_move_3 N 720 (fX11_move_3 N 720 n) (S.2.1 78) l1 l2 l3 l4 = some o at hf
    generalize fX11_move_3 N 720 n = r3 at hf K3
    unfold gX11_move_3 at hf
    refine lv_iload C.1.1 C.1.2.1 dX11_move_3 (lv_at hl 4 rfl) ?_
    refine lv_iload_n C.1.1 C.1.2.1 dX11_move_5 rfl (lv_at hl 1 rfl) ?_
    refine ns_icmp_ge C hf (tgt := 31) dX11_move_6 (by decide) (fun hf => ?_) (fun hf => ?_)
    · have he := Option.some.inj hf
      subst he
      exact ns_vret C w hr hlk rfl rfl dX11_move_31
    · refine lv_aload_n C.1.1 C.1.2.1 dX11_move_9 rfl (lv_at hl 0 rfl) ?_
      refine lv_iload_n C.1.1 C.1.2.1 dX11_move_10 rfl (lv_at hl 1 rfl) ?_
      refine lv_iload_n C.1.1 C.1.2.1 dX11_move_11 rfl (lv_at hl 3 rfl) ?_
      refine lv_imul C.1.1 C.1.2.1 dX11_move_12 ?_
      refine lv_iload C.1.1 C.1.2.1 dX11_move_13 (lv_at hl 4 rfl) ?_
      refine lv_iadd C.1.1 C.1.2.1 dX11_move_15 ?_
      refine lv_aload_n C.1.1 C.1.2.1 dX11_move_16 rfl (lv_at hl 0 rfl) ?_
      refine lv_iload_n C.1.1 C.1.2.1 dX11_move_17 rfl (lv_at hl 1 rfl) ?_
      refine lv_iload_n C.1.1 C.1.2.1 dX11_move_18 rfl (lv_at hl 2 rfl) ?_
      refine lv_imul C.1.1 C.1.2.1 dX11_move_19 ?_
      refine lv_iload C.1.1 C.1.2.1 dX11_move_20 (lv_at hl 4 rfl) ?_
      refine lv_iadd C.1.1 C.1.2.1 dX11_move_22 ?_
      refine ns_iald C w 78 (hI 78 (by decide)) sh_78 hf rfl dX11_move_23 (fun x1 hf => ?_)
      refine ns_iast C w 78 (hI 78 (by decide)) sh_78 hf rfl (List.mem_of_getElem? (i := 0) rfl) dX11_move_24 (fun y2 H locs hf w => ?_)
      refine ns_iinc (lv' := fun x3 => [(4, .int x3), (0, .ref (b 78)), (1, .int l1), (2, .int l2), (3, .int l3)]) C hf dX11_move_25 hl (k := 4) rfl rfl (by decide) (fun _ => rfl) (fun x3 ls hl hf => ?_)
      refine lv_goto (tgt := 3) C.1.1 C.1.2.1 dX11_move_28 (by decide) ?_
      exact K3 w (lv_sub hl [1, 2, 3, 4, 0] rfl) hf
set_option maxHeartbeats 4000000 in
set_option maxRecDepth 100000 in
theorem mX11_move_78 (l : Launch) (D : va_G) (b : Nat → Nat) (ids : List Nat) (hI : ∀ i, i < 107 → i ∈ ids) (N : Nat) (S : ns_S) (p1 : Int32) (p2 : Int32) (p3 : Int32) {o : (Nat → Int32)} (hf : fX11_move N 720 (S.2.1 78) p1 p2 p3 = some o) : ns_M l yX11_move wsX11_move rmX11_move_78 D b ids S [.ref (b 78), .int p1, .int p2, .int p3] none (ns_A S 78 o) := by
  refine ns_start (Wr := wrX11_move_78) (by decide) rfl (Nat.le_of_ble_eq_true rfl) ?_
  intro p e s m below meth c A ls C hr hlk w hl
  have hl : lv_has ls 5 [(0, .ref (b 78)), (1, .int p1), (2, .int p2), (3, .int p3)] := hl
  unfold fX11_move at hf
  refine lv_iconst (v := 0) C.1.1 C.1.2.1 dX11_move_0 (by decide) ?_
  refine lv_istore (lv' := [(4, .int 0), (0, .ref (b 78)), (1, .int p1), (2, .int p2), (3, .int p3)]) C.1.1 C.1.2.1 dX11_move_1 hl (by decide) rfl (fun ls hl => ?_)
  exact wX11_move_78_3 N hI C hr hlk N w (lv_sub hl [1, 2, 3, 4, 0] rfl) hf
abbrev wrX11_move_79 : List (Nat × Nat) := [(1, 79)]
abbrev rmX11_move_79 : Room := { frames := 0, cells := 0, slots := 0, locals := 0 }
set_option maxHeartbeats 4000000 in
set_option maxRecDepth 100000 in
theorem wX11_move_79_3 {p : Program} {l : Launch} {e : Env} {s : State} {m : MethodId} {args : Array Value} {below : List Frame} {meth : Method} {c : Code} {D : va_G} {b : Nat → Nat} {ids : List Nat} {A : Nat → Prop} {S0 : ns_S} {o : (Nat → Int32)} (N : Nat) (hI : ∀ i, i < 107 → i ∈ ids) (C : ns_C p m c cX11_move 5 s args wsX11_move RX11 D A) (hr : meth.sig.returnType = none) (hlk : meth.locks = false) : ∀ n : Nat, ∀ {S : ns_S} {H : Heap} {locs : List Loc} {ls : Array Slot} {l1 : Int32} {l2 : Int32} {l3 : Int32} {l4 : Int32}, ns_W D b ids A s.heap wrX11_move_79 S0 S H locs → lv_has ls 5 [(0, .ref (b 79)), (1, .int l1), (2, .int l2), (3, .int l3), (4, .int l4)] → fX11_move_3 N 4 n (S.2.1 79) l1 l2 l3 l4 = some o → W p l e rmX11_move_79 s m args below meth c H locs 0 0 (MQ below (ns_Q D b ids (ns_A S0 79 o) none A) args s 0 0 A) (F0 m 3 ls []) := by
  intro n
  induction n with
  | zero =>
    intro S H locs ls l1 l2 l3 l4 w hl hf
    cases hf
  | succ n K3 =>
    intro S H locs ls l1 l2 l3 l4 w hl hf
    change gX11_move_3 N 4 (fX11_move_3 N 4 n) (S.2.1 79) l1 l2 l3 l4 = some o at hf
    generalize fX11_move_3 N 4 n = r3 at hf K3
    unfold gX11_move_3 at hf
    refine lv_iload C.1.1 C.1.2.1 dX11_move_3 (lv_at hl 4 rfl) ?_
    refine lv_iload_n C.1.1 C.1.2.1 dX11_move_5 rfl (lv_at hl 1 rfl) ?_
    refine ns_icmp_ge C hf (tgt := 31) dX11_move_6 (by decide) (fun hf => ?_) (fun hf => ?_)
    · have he := Option.some.inj hf
      subst he
      exact ns_vret C w hr hlk rfl rfl dX11_move_31
    · refine lv_aload_n C.1.1 C.1.2.1 dX11_move_9 rfl (lv_at hl 0 rfl) ?_
      refine lv_iload_n C.1.1 C.1.2.1 dX11_move_10 rfl (lv_at hl 1 rfl) ?_
      refine lv_iload_n C.1.1 C.1.2.1 dX11_move_11 rfl (lv_at hl 3 rfl) ?_
      refine lv_imul C.1.1 C.1.2.1 dX11_move_12 ?_
      refine lv_iload C.1.1 C.1.2.1 dX11_move_13 (lv_at hl 4 rfl) ?_
      refine lv_iadd C.1.1 C.1.2.1 dX11_move_15 ?_
      refine lv_aload_n C.1.1 C.1.2.1 dX11_move_16 rfl (lv_at hl 0 rfl) ?_
      refine lv_iload_n C.1.1 C.1.2.1 dX11_move_17 rfl (lv_at hl 1 rfl) ?_
      refine lv_iload_n C.1.1 C.1.2.1 dX11_move_18 rfl (lv_at hl 2 rfl) ?_
      refine lv_imul C.1.1 C.1.2.1 dX11_move_19 ?_
      refine lv_iload C.1.1 C.1.2.1 dX11_move_20 (lv_at hl 4 rfl) ?_
      refine lv_iadd C.1.1 C.1.2.1 dX11_move_22 ?_
      refine ns_iald C w 79 (hI 79 (by decide)) sh_79 hf rfl dX11_move_23 (fun x1 hf => ?_)
      refine ns_iast C w 79 (hI 79 (by decide)) sh_79 hf rfl (List.mem_of_getElem? (i := 0) rfl) dX11_move_24 (fun y2 H locs hf w => ?_)
      refine ns_iinc (lv' := fun x3 => [(4, .int x3), (0, .ref (b 79)), (1, .int l1), (2, .int l2), (3, .int l3)]) C hf dX11_move_25 hl (k := 4) rfl rfl (by decide) (fun _ => rfl) (fun x3 ls hl hf => ?_)
      refine lv_goto (tgt := 3) C.1.1 C.1.2.1 dX11_move_28 (by decide) ?_
      exact K3 w (lv_sub hl [1, 2, 3, 4, 0] rfl) hf
set_option maxHeartbeats 4000000 in
set_option maxRecDepth 100000 in
theorem mX11_move_79 (l : Launch) (D : va_G) (b : Nat → Nat) (ids : List Nat) (hI : ∀ i, i < 107 → i ∈ ids) (N : Nat) (S : ns_S) (p1 : Int32) (p2 : Int32) (p3 : Int32) {o : (Nat → Int32)} (hf : fX11_move N 4 (S.2.1 79) p1 p2 p3 = some o) : ns_M l yX11_move wsX11_move rmX11_move_79 D b ids S [.ref (b 79), .int p1, .int p2, .int p3] none (ns_A S 79 o) := by
  refine ns_start (Wr := wrX11_move_79) (by decide) rfl (Nat.le_of_ble_eq_true rfl) ?_
  intro p e s m below meth c A ls C hr hlk w hl
  have hl : lv_has ls 5 [(0, .ref (b 79)), (1, .int p1), (2, .int p2), (3, .int p3)] := hl
  unfold fX11_move at hf
  refine lv_iconst (v := 0) C.1.1 C.1.2.1 dX11_move_0 (by decide) ?_
  refine lv_istore (lv' := [(4, .int 0), (0, .ref (b 79)), (1, .int p1), (2, .int p2), (3, .int p3)]) C.1.1 C.1.2.1 dX11_move_1 hl (by decide) rfl (fun ls hl => ?_)
  exact wX11_move_79_3 N hI C hr hlk N w (lv_sub hl [1, 2, 3, 4, 0] rfl) hf
abbrev wrX11_move_80 : List (Nat × Nat) := [(1, 80)]
abbrev rmX11_move_80 : Room := { frames := 0, cells := 0, slots := 0, locals := 0 }
set_option maxHeartbeats 4000000 in
set_option maxRecDepth 100000 in
theorem wX11_move_80_3 {p : Program} {l : Launch} {e : Env} {s : State} {m : MethodId} {args : Array Value} {below : List Frame} {meth : Method} {c : Code} {D : va_G} {b : Nat → Nat} {ids : List Nat} {A : Nat → Prop} {S0 : ns_S} {o : (Nat → Int32)} (N : Nat) (hI : ∀ i, i < 107 → i ∈ ids) (C : ns_C p m c cX11_move 5 s args wsX11_move RX11 D A) (hr : meth.sig.returnType = none) (hlk : meth.locks = false) : ∀ n : Nat, ∀ {S : ns_S} {H : Heap} {locs : List Loc} {ls : Array Slot} {l1 : Int32} {l2 : Int32} {l3 : Int32} {l4 : Int32}, ns_W D b ids A s.heap wrX11_move_80 S0 S H locs → lv_has ls 5 [(0, .ref (b 80)), (1, .int l1), (2, .int l2), (3, .int l3), (4, .int l4)] → fX11_move_3 N 4 n (S.2.1 80) l1 l2 l3 l4 = some o → W p l e rmX11_move_80 s m args below meth c H locs 0 0 (MQ below (ns_Q D b ids (ns_A S0 80 o) none A) args s 0 0 A) (F0 m 3 ls []) := by
  intro n
  induction n with
  | zero =>
    intro S H locs ls l1 l2 l3 l4 w hl hf
    cases hf
  | succ n K3 =>
    intro S H locs ls l1 l2 l3 l4 w hl hf
    change gX11_move_3 N 4 (fX11_move_3 N 4 n) (S.2.1 80) l1 l2 l3 l4 = some o at hf
    generalize fX11_move_3 N 4 n = r3 at hf K3
    unfold gX11_move_3 at hf
    refine lv_iload C.1.1 C.1.2.1 dX11_move_3 (lv_at hl 4 rfl) ?_
    refine lv_iload_n C.1.1 C.1.2.1 dX11_move_5 rfl (lv_at hl 1 rfl) ?_
    refine ns_icmp_ge C hf (tgt := 31) dX11_move_6 (by decide) (fun hf => ?_) (fun hf => ?_)
    · have he := Option.some.inj hf
      subst he
      exact ns_vret C w hr hlk rfl rfl dX11_move_31
    · refine lv_aload_n C.1.1 C.1.2.1 dX11_move_9 rfl (lv_at hl 0 rfl) ?_
      refine lv_iload_n C.1.1 C.1.2.1 dX11_move_10 rfl (lv_at hl 1 rfl) ?_
      refine lv_iload_n C.1.1 C.1.2.1 dX11_move_11 rfl (lv_at hl 3 rfl) ?_
      refine lv_imul C.1.1 C.1.2.1 dX11_move_12 ?_
      refine lv_iload C.1.1 C.1.2.1 dX11_move_13 (lv_at hl 4 rfl) ?_
      refine lv_iadd C.1.1 C.1.2.1 dX11_move_15 ?_
      refine lv_aload_n C.1.1 C.1.2.1 dX11_move_16 rfl (lv_at hl 0 rfl) ?_
      refine lv_iload_n C.1.1 C.1.2.1 dX11_move_17 rfl (lv_at hl 1 rfl) ?_
      refine lv_iload_n C.1.1 C.1.2.1 dX11_move_18 rfl (lv_at hl 2 rfl) ?_
      refine lv_imul C.1.1 C.1.2.1 dX11_move_19 ?_
      refine lv_iload C.1.1 C.1.2.1 dX11_move_20 (lv_at hl 4 rfl) ?_
      refine lv_iadd C.1.1 C.1.2.1 dX11_move_22 ?_
      refine ns_iald C w 80 (hI 80 (by decide)) sh_80 hf rfl dX11_move_23 (fun x1 hf => ?_)
      refine ns_iast C w 80 (hI 80 (by decide)) sh_80 hf rfl (List.mem_of_getElem? (i := 0) rfl) dX11_move_24 (fun y2 H locs hf w => ?_)
      refine ns_iinc (lv' := fun x3 => [(4, .int x3), (0, .ref (b 80)), (1, .int l1), (2, .int l2), (3, .int l3)]) C hf dX11_move_25 hl (k := 4) rfl rfl (by decide) (fun _ => rfl) (fun x3 ls hl hf => ?_)
      refine lv_goto (tgt := 3) C.1.1 C.1.2.1 dX11_move_28 (by decide) ?_
      exact K3 w (lv_sub hl [1, 2, 3, 4, 0] rfl) hf
set_option maxHeartbeats 4000000 in
set_option maxRecDepth 100000 in
theorem mX11_move_80 (l : Launch) (D : va_G) (b : Nat → Nat) (ids : List Nat) (hI : ∀ i, i < 107 → i ∈ ids) (N : Nat) (S : ns_S) (p1 : Int32) (p2 : Int32) (p3 : Int32) {o : (Nat → Int32)} (hf : fX11_move N 4 (S.2.1 80) p1 p2 p3 = some o) : ns_M l yX11_move wsX11_move rmX11_move_80 D b ids S [.ref (b 80), .int p1, .int p2, .int p3] none (ns_A S 80 o) := by
  refine ns_start (Wr := wrX11_move_80) (by decide) rfl (Nat.le_of_ble_eq_true rfl) ?_
  intro p e s m below meth c A ls C hr hlk w hl
  have hl : lv_has ls 5 [(0, .ref (b 80)), (1, .int p1), (2, .int p2), (3, .int p3)] := hl
  unfold fX11_move at hf
  refine lv_iconst (v := 0) C.1.1 C.1.2.1 dX11_move_0 (by decide) ?_
  refine lv_istore (lv' := [(4, .int 0), (0, .ref (b 80)), (1, .int p1), (2, .int p2), (3, .int p3)]) C.1.1 C.1.2.1 dX11_move_1 hl (by decide) rfl (fun ls hl => ?_)
  exact wX11_move_80_3 N hI C hr hlk N w (lv_sub hl [1, 2, 3, 4, 0] rfl) hf
abbrev wrX11_move_81 : List (Nat × Nat) := [(1, 81)]
abbrev rmX11_move_81 : Room := { frames := 0, cells := 0, slots := 0, locals := 0 }
set_option maxHeartbeats 4000000 in
set_option maxRecDepth 100000 in
theorem wX11_move_81_3 {p : Program} {l : Launch} {e : Env} {s : State} {m : MethodId} {args : Array Value} {below : List Frame} {meth : Method} {c : Code} {D : va_G} {b : Nat → Nat} {ids : List Nat} {A : Nat → Prop} {S0 : ns_S} {o : (Nat → Int32)} (N : Nat) (hI : ∀ i, i < 107 → i ∈ ids) (C : ns_C p m c cX11_move 5 s args wsX11_move RX11 D A) (hr : meth.sig.returnType = none) (hlk : meth.locks = false) : ∀ n : Nat, ∀ {S : ns_S} {H : Heap} {locs : List Loc} {ls : Array Slot} {l1 : Int32} {l2 : Int32} {l3 : Int32} {l4 : Int32}, ns_W D b ids A s.heap wrX11_move_81 S0 S H locs → lv_has ls 5 [(0, .ref (b 81)), (1, .int l1), (2, .int l2), (3, .int l3), (4, .int l4)] → fX11_move_3 N 40 n (S.2.1 81) l1 l2 l3 l4 = some o → W p l e rmX11_move_81 s m args below meth c H locs 0 0 (MQ below (ns_Q D b ids (ns_A S0 81 o) none A) args s 0 0 A) (F0 m 3 ls []) := by
  intro n
  induction n with
  | zero =>
    intro S H locs ls l1 l2 l3 l4 w hl hf
    cases hf
  | succ n K3 =>
    intro S H locs ls l1 l2 l3 l4 w hl hf
    change gX11_move_3 N 40 (fX11_move_3 N 40 n) (S.2.1 81) l1 l2 l3 l4 = some o at hf
    generalize fX11_move_3 N 40 n = r3 at hf K3
    unfold gX11_move_3 at hf
    refine lv_iload C.1.1 C.1.2.1 dX11_move_3 (lv_at hl 4 rfl) ?_
    refine lv_iload_n C.1.1 C.1.2.1 dX11_move_5 rfl (lv_at hl 1 rfl) ?_
    refine ns_icmp_ge C hf (tgt := 31) dX11_move_6 (by decide) (fun hf => ?_) (fun hf => ?_)
    · have he := Option.some.inj hf
      subst he
      exact ns_vret C w hr hlk rfl rfl dX11_move_31
    · refine lv_aload_n C.1.1 C.1.2.1 dX11_move_9 rfl (lv_at hl 0 rfl) ?_
      refine lv_iload_n C.1.1 C.1.2.1 dX11_move_10 rfl (lv_at hl 1 rfl) ?_
      refine lv_iload_n C.1.1 C.1.2.1 dX11_move_11 rfl (lv_at hl 3 rfl) ?_
      refine lv_imul C.1.1 C.1.2.1 dX11_move_12 ?_
      refine lv_iload C.1.1 C.1.2.1 dX11_move_13 (lv_at hl 4 rfl) ?_
      refine lv_iadd C.1.1 C.1.2.1 dX11_move_15 ?_
      refine lv_aload_n C.1.1 C.1.2.1 dX11_move_16 rfl (lv_at hl 0 rfl) ?_
      refine lv_iload_n C.1.1 C.1.2.1 dX11_move_17 rfl (lv_at hl 1 rfl) ?_
      refine lv_iload_n C.1.1 C.1.2.1 dX11_move_18 rfl (lv_at hl 2 rfl) ?_
      refine lv_imul C.1.1 C.1.2.1 dX11_move_19 ?_
      refine lv_iload C.1.1 C.1.2.1 dX11_move_20 (lv_at hl 4 rfl) ?_
      refine lv_iadd C.1.1 C.1.2.1 dX11_move_22 ?_
      refine ns_iald C w 81 (hI 81 (by decide)) sh_81 hf rfl dX11_move_23 (fun x1 hf => ?_)
      refine ns_iast C w 81 (hI 81 (by decide)) sh_81 hf rfl (List.mem_of_getElem? (i := 0) rfl) dX11_move_24 (fun y2 H locs hf w => ?_)
      refine ns_iinc (lv' := fun x3 => [(4, .int x3), (0, .ref (b 81)), (1, .int l1), (2, .int l2), (3, .int l3)]) C hf dX11_move_25 hl (k := 4) rfl rfl (by decide) (fun _ => rfl) (fun x3 ls hl hf => ?_)
      refine lv_goto (tgt := 3) C.1.1 C.1.2.1 dX11_move_28 (by decide) ?_
      exact K3 w (lv_sub hl [1, 2, 3, 4, 0] rfl) hf
set_option maxHeartbeats 4000000 in
set_option maxRecDepth 100000 in
theorem mX11_move_81 (l : Launch) (D : va_G) (b : Nat → Nat) (ids : List Nat) (hI : ∀ i, i < 107 → i ∈ ids) (N : Nat) (S : ns_S) (p1 : Int32) (p2 : Int32) (p3 : Int32) {o : (Nat → Int32)} (hf : fX11_move N 40 (S.2.1 81) p1 p2 p3 = some o) : ns_M l yX11_move wsX11_move rmX11_move_81 D b ids S [.ref (b 81), .int p1, .int p2, .int p3] none (ns_A S 81 o) := by
  refine ns_start (Wr := wrX11_move_81) (by decide) rfl (Nat.le_of_ble_eq_true rfl) ?_
  intro p e s m below meth c A ls C hr hlk w hl
  have hl : lv_has ls 5 [(0, .ref (b 81)), (1, .int p1), (2, .int p2), (3, .int p3)] := hl
  unfold fX11_move at hf
  refine lv_iconst (v := 0) C.1.1 C.1.2.1 dX11_move_0 (by decide) ?_
  refine lv_istore (lv' := [(4, .int 0), (0, .ref (b 81)), (1, .int p1), (2, .int p2), (3, .int p3)]) C.1.1 C.1.2.1 dX11_move_1 hl (by decide) rfl (fun ls hl => ?_)
  exact wX11_move_81_3 N hI C hr hlk N w (lv_sub hl [1, 2, 3, 4, 0] rfl) hf
abbrev wrX11_move_82 : List (Nat × Nat) := [(1, 82)]
abbrev rmX11_move_82 : Room := { frames := 0, cells := 0, slots := 0, locals := 0 }
set_option maxHeartbeats 4000000 in
set_option maxRecDepth 100000 in
theorem wX11_move_82_3 {p : Program} {l : Launch} {e : Env} {s : State} {m : MethodId} {args : Array Value} {below : List Frame} {meth : Method} {c : Code} {D : va_G} {b : Nat → Nat} {ids : List Nat} {A : Nat → Prop} {S0 : ns_S} {o : (Nat → Int32)} (N : Nat) (hI : ∀ i, i < 107 → i ∈ ids) (C : ns_C p m c cX11_move 5 s args wsX11_move RX11 D A) (hr : meth.sig.returnType = none) (hlk : meth.locks = false) : ∀ n : Nat, ∀ {S : ns_S} {H : Heap} {locs : List Loc} {ls : Array Slot} {l1 : Int32} {l2 : Int32} {l3 : Int32} {l4 : Int32}, ns_W D b ids A s.heap wrX11_move_82 S0 S H locs → lv_has ls 5 [(0, .ref (b 82)), (1, .int l1), (2, .int l2), (3, .int l3), (4, .int l4)] → fX11_move_3 N 40 n (S.2.1 82) l1 l2 l3 l4 = some o → W p l e rmX11_move_82 s m args below meth c H locs 0 0 (MQ below (ns_Q D b ids (ns_A S0 82 o) none A) args s 0 0 A) (F0 m 3 ls []) := by
  intro n
  induction n with
  | zero =>
    intro S H locs ls l1 l2 l3 l4 w hl hf
    cases hf
  | succ n K3 =>
    intro S H locs ls l1 l2 l3 l4 w hl hf
    change gX11_move_3 N 40 (fX11_move_3 N 40 n) (S.2.1 82) l1 l2 l3 l4 = some o at hf
    generalize fX11_move_3 N 40 n = r3 at hf K3
    unfold gX11_move_3 at hf
    refine lv_iload C.1.1 C.1.2.1 dX11_move_3 (lv_at hl 4 rfl) ?_
    refine lv_iload_n C.1.1 C.1.2.1 dX11_move_5 rfl (lv_at hl 1 rfl) ?_
    refine ns_icmp_ge C hf (tgt := 31) dX11_move_6 (by decide) (fun hf => ?_) (fun hf => ?_)
    · have he := Option.some.inj hf
      subst he
      exact ns_vret C w hr hlk rfl rfl dX11_move_31
    · refine lv_aload_n C.1.1 C.1.2.1 dX11_move_9 rfl (lv_at hl 0 rfl) ?_
      refine lv_iload_n C.1.1 C.1.2.1 dX11_move_10 rfl (lv_at hl 1 rfl) ?_
      refine lv_iload_n C.1.1 C.1.2.1 dX11_move_11 rfl (lv_at hl 3 rfl) ?_
      refine lv_imul C.1.1 C.1.2.1 dX11_move_12 ?_
      refine lv_iload C.1.1 C.1.2.1 dX11_move_13 (lv_at hl 4 rfl) ?_
      refine lv_iadd C.1.1 C.1.2.1 dX11_move_15 ?_
      refine lv_aload_n C.1.1 C.1.2.1 dX11_move_16 rfl (lv_at hl 0 rfl) ?_
      refine lv_iload_n C.1.1 C.1.2.1 dX11_move_17 rfl (lv_at hl 1 rfl) ?_
      refine lv_iload_n C.1.1 C.1.2.1 dX11_move_18 rfl (lv_at hl 2 rfl) ?_
      refine lv_imul C.1.1 C.1.2.1 dX11_move_19 ?_
      refine lv_iload C.1.1 C.1.2.1 dX11_move_20 (lv_at hl 4 rfl) ?_
      refine lv_iadd C.1.1 C.1.2.1 dX11_move_22 ?_
      refine ns_iald C w 82 (hI 82 (by decide)) sh_82 hf rfl dX11_move_23 (fun x1 hf => ?_)
      refine ns_iast C w 82 (hI 82 (by decide)) sh_82 hf rfl (List.mem_of_getElem? (i := 0) rfl) dX11_move_24 (fun y2 H locs hf w => ?_)
      refine ns_iinc (lv' := fun x3 => [(4, .int x3), (0, .ref (b 82)), (1, .int l1), (2, .int l2), (3, .int l3)]) C hf dX11_move_25 hl (k := 4) rfl rfl (by decide) (fun _ => rfl) (fun x3 ls hl hf => ?_)
      refine lv_goto (tgt := 3) C.1.1 C.1.2.1 dX11_move_28 (by decide) ?_
      exact K3 w (lv_sub hl [1, 2, 3, 4, 0] rfl) hf
set_option maxHeartbeats 4000000 in
set_option maxRecDepth 100000 in
theorem mX11_move_82 (l : Launch) (D : va_G) (b : Nat → Nat) (ids : List Nat) (hI : ∀ i, i < 107 → i ∈ ids) (N : Nat) (S : ns_S) (p1 : Int32) (p2 : Int32) (p3 : Int32) {o : (Nat → Int32)} (hf : fX11_move N 40 (S.2.1 82) p1 p2 p3 = some o) : ns_M l yX11_move wsX11_move rmX11_move_82 D b ids S [.ref (b 82), .int p1, .int p2, .int p3] none (ns_A S 82 o) := by
  refine ns_start (Wr := wrX11_move_82) (by decide) rfl (Nat.le_of_ble_eq_true rfl) ?_
  intro p e s m below meth c A ls C hr hlk w hl
  have hl : lv_has ls 5 [(0, .ref (b 82)), (1, .int p1), (2, .int p2), (3, .int p3)] := hl
  unfold fX11_move at hf
  refine lv_iconst (v := 0) C.1.1 C.1.2.1 dX11_move_0 (by decide) ?_
  refine lv_istore (lv' := [(4, .int 0), (0, .ref (b 82)), (1, .int p1), (2, .int p2), (3, .int p3)]) C.1.1 C.1.2.1 dX11_move_1 hl (by decide) rfl (fun ls hl => ?_)
  exact wX11_move_82_3 N hI C hr hlk N w (lv_sub hl [1, 2, 3, 4, 0] rfl) hf
abbrev wrX11_move_83 : List (Nat × Nat) := [(1, 83)]
abbrev rmX11_move_83 : Room := { frames := 0, cells := 0, slots := 0, locals := 0 }
set_option maxHeartbeats 4000000 in
set_option maxRecDepth 100000 in
theorem wX11_move_83_3 {p : Program} {l : Launch} {e : Env} {s : State} {m : MethodId} {args : Array Value} {below : List Frame} {meth : Method} {c : Code} {D : va_G} {b : Nat → Nat} {ids : List Nat} {A : Nat → Prop} {S0 : ns_S} {o : (Nat → Int32)} (N : Nat) (hI : ∀ i, i < 107 → i ∈ ids) (C : ns_C p m c cX11_move 5 s args wsX11_move RX11 D A) (hr : meth.sig.returnType = none) (hlk : meth.locks = false) : ∀ n : Nat, ∀ {S : ns_S} {H : Heap} {locs : List Loc} {ls : Array Slot} {l1 : Int32} {l2 : Int32} {l3 : Int32} {l4 : Int32}, ns_W D b ids A s.heap wrX11_move_83 S0 S H locs → lv_has ls 5 [(0, .ref (b 83)), (1, .int l1), (2, .int l2), (3, .int l3), (4, .int l4)] → fX11_move_3 N 40 n (S.2.1 83) l1 l2 l3 l4 = some o → W p l e rmX11_move_83 s m args below meth c H locs 0 0 (MQ below (ns_Q D b ids (ns_A S0 83 o) none A) args s 0 0 A) (F0 m 3 ls []) := by
  intro n
  induction n with
  | zero =>
    intro S H locs ls l1 l2 l3 l4 w hl hf
    cases hf
  | succ n K3 =>
    intro S H locs ls l1 l2 l3 l4 w hl hf
    change gX11_move_3 N 40 (fX11_move_3 N 40 n) (S.2.1 83) l1 l2 l3 l4 = some o at hf
    generalize fX11_move_3 N 40 n = r3 at hf K3
    unfold gX11_move_3 at hf
    refine lv_iload C.1.1 C.1.2.1 dX11_move_3 (lv_at hl 4 rfl) ?_
    refine lv_iload_n C.1.1 C.1.2.1 dX11_move_5 rfl (lv_at hl 1 rfl) ?_
    refine ns_icmp_ge C hf (tgt := 31) dX11_move_6 (by decide) (fun hf => ?_) (fun hf => ?_)
    · have he := Option.some.inj hf
      subst he
      exact ns_vret C w hr hlk rfl rfl dX11_move_31
    · refine lv_aload_n C.1.1 C.1.2.1 dX11_move_9 rfl (lv_at hl 0 rfl) ?_
      refine lv_iload_n C.1.1 C.1.2.1 dX11_move_10 rfl (lv_at hl 1 rfl) ?_
      refine lv_iload_n C.1.1 C.1.2.1 dX11_move_11 rfl (lv_at hl 3 rfl) ?_
      refine lv_imul C.1.1 C.1.2.1 dX11_move_12 ?_
      refine lv_iload C.1.1 C.1.2.1 dX11_move_13 (lv_at hl 4 rfl) ?_
      refine lv_iadd C.1.1 C.1.2.1 dX11_move_15 ?_
      refine lv_aload_n C.1.1 C.1.2.1 dX11_move_16 rfl (lv_at hl 0 rfl) ?_
      refine lv_iload_n C.1.1 C.1.2.1 dX11_move_17 rfl (lv_at hl 1 rfl) ?_
      refine lv_iload_n C.1.1 C.1.2.1 dX11_move_18 rfl (lv_at hl 2 rfl) ?_
      refine lv_imul C.1.1 C.1.2.1 dX11_move_19 ?_
      refine lv_iload C.1.1 C.1.2.1 dX11_move_20 (lv_at hl 4 rfl) ?_
      refine lv_iadd C.1.1 C.1.2.1 dX11_move_22 ?_
      refine ns_iald C w 83 (hI 83 (by decide)) sh_83 hf rfl dX11_move_23 (fun x1 hf => ?_)
      refine ns_iast C w 83 (hI 83 (by decide)) sh_83 hf rfl (List.mem_of_getElem? (i := 0) rfl) dX11_move_24 (fun y2 H locs hf w => ?_)
      refine ns_iinc (lv' := fun x3 => [(4, .int x3), (0, .ref (b 83)), (1, .int l1), (2, .int l2), (3, .int l3)]) C hf dX11_move_25 hl (k := 4) rfl rfl (by decide) (fun _ => rfl) (fun x3 ls hl hf => ?_)
      refine lv_goto (tgt := 3) C.1.1 C.1.2.1 dX11_move_28 (by decide) ?_
      exact K3 w (lv_sub hl [1, 2, 3, 4, 0] rfl) hf
set_option maxHeartbeats 4000000 in
set_option maxRecDepth 100000 in
theorem mX11_move_83 (l : Launch) (D : va_G) (b : Nat → Nat) (ids : List Nat) (hI : ∀ i, i < 107 → i ∈ ids) (N : Nat) (S : ns_S) (p1 : Int32) (p2 : Int32) (p3 : Int32) {o : (Nat → Int32)} (hf : fX11_move N 40 (S.2.1 83) p1 p2 p3 = some o) : ns_M l yX11_move wsX11_move rmX11_move_83 D b ids S [.ref (b 83), .int p1, .int p2, .int p3] none (ns_A S 83 o) := by
  refine ns_start (Wr := wrX11_move_83) (by decide) rfl (Nat.le_of_ble_eq_true rfl) ?_
  intro p e s m below meth c A ls C hr hlk w hl
  have hl : lv_has ls 5 [(0, .ref (b 83)), (1, .int p1), (2, .int p2), (3, .int p3)] := hl
  unfold fX11_move at hf
  refine lv_iconst (v := 0) C.1.1 C.1.2.1 dX11_move_0 (by decide) ?_
  refine lv_istore (lv' := [(4, .int 0), (0, .ref (b 83)), (1, .int p1), (2, .int p2), (3, .int p3)]) C.1.1 C.1.2.1 dX11_move_1 hl (by decide) rfl (fun ls hl => ?_)
  exact wX11_move_83_3 N hI C hr hlk N w (lv_sub hl [1, 2, 3, 4, 0] rfl) hf
abbrev wrX11_move_84 : List (Nat × Nat) := [(1, 84)]
abbrev rmX11_move_84 : Room := { frames := 0, cells := 0, slots := 0, locals := 0 }
set_option maxHeartbeats 4000000 in
set_option maxRecDepth 100000 in
theorem wX11_move_84_3 {p : Program} {l : Launch} {e : Env} {s : State} {m : MethodId} {args : Array Value} {below : List Frame} {meth : Method} {c : Code} {D : va_G} {b : Nat → Nat} {ids : List Nat} {A : Nat → Prop} {S0 : ns_S} {o : (Nat → Int32)} (N : Nat) (hI : ∀ i, i < 107 → i ∈ ids) (C : ns_C p m c cX11_move 5 s args wsX11_move RX11 D A) (hr : meth.sig.returnType = none) (hlk : meth.locks = false) : ∀ n : Nat, ∀ {S : ns_S} {H : Heap} {locs : List Loc} {ls : Array Slot} {l1 : Int32} {l2 : Int32} {l3 : Int32} {l4 : Int32}, ns_W D b ids A s.heap wrX11_move_84 S0 S H locs → lv_has ls 5 [(0, .ref (b 84)), (1, .int l1), (2, .int l2), (3, .int l3), (4, .int l4)] → fX11_move_3 N 120 n (S.2.1 84) l1 l2 l3 l4 = some o → W p l e rmX11_move_84 s m args below meth c H locs 0 0 (MQ below (ns_Q D b ids (ns_A S0 84 o) none A) args s 0 0 A) (F0 m 3 ls []) := by
  intro n
  induction n with
  | zero =>
    intro S H locs ls l1 l2 l3 l4 w hl hf
    cases hf
  | succ n K3 =>
    intro S H locs ls l1 l2 l3 l4 w hl hf
    change gX11_move_3 N 120 (fX11_move_3 N 120 n) (S.2.1 84) l1 l2 l3 l4 = some o at hf
    generalize fX11_move_3 N 120 n = r3 at hf K3
    unfold gX11_move_3 at hf
    refine lv_iload C.1.1 C.1.2.1 dX11_move_3 (lv_at hl 4 rfl) ?_
    refine lv_iload_n C.1.1 C.1.2.1 dX11_move_5 rfl (lv_at hl 1 rfl) ?_
    refine ns_icmp_ge C hf (tgt := 31) dX11_move_6 (by decide) (fun hf => ?_) (fun hf => ?_)
    · have he := Option.some.inj hf
      subst he
      exact ns_vret C w hr hlk rfl rfl dX11_move_31
    · refine lv_aload_n C.1.1 C.1.2.1 dX11_move_9 rfl (lv_at hl 0 rfl) ?_
      refine lv_iload_n C.1.1 C.1.2.1 dX11_move_10 rfl (lv_at hl 1 rfl) ?_
      refine lv_iload_n C.1.1 C.1.2.1 dX11_move_11 rfl (lv_at hl 3 rfl) ?_
      refine lv_imul C.1.1 C.1.2.1 dX11_move_12 ?_
      refine lv_iload C.1.1 C.1.2.1 dX11_move_13 (lv_at hl 4 rfl) ?_
      refine lv_iadd C.1.1 C.1.2.1 dX11_move_15 ?_
      refine lv_aload_n C.1.1 C.1.2.1 dX11_move_16 rfl (lv_at hl 0 rfl) ?_
      refine lv_iload_n C.1.1 C.1.2.1 dX11_move_17 rfl (lv_at hl 1 rfl) ?_
      refine lv_iload_n C.1.1 C.1.2.1 dX11_move_18 rfl (lv_at hl 2 rfl) ?_
      refine lv_imul C.1.1 C.1.2.1 dX11_move_19 ?_
      refine lv_iload C.1.1 C.1.2.1 dX11_move_20 (lv_at hl 4 rfl) ?_
      refine lv_iadd C.1.1 C.1.2.1 dX11_move_22 ?_
      refine ns_iald C w 84 (hI 84 (by decide)) sh_84 hf rfl dX11_move_23 (fun x1 hf => ?_)
      refine ns_iast C w 84 (hI 84 (by decide)) sh_84 hf rfl (List.mem_of_getElem? (i := 0) rfl) dX11_move_24 (fun y2 H locs hf w => ?_)
      refine ns_iinc (lv' := fun x3 => [(4, .int x3), (0, .ref (b 84)), (1, .int l1), (2, .int l2), (3, .int l3)]) C hf dX11_move_25 hl (k := 4) rfl rfl (by decide) (fun _ => rfl) (fun x3 ls hl hf => ?_)
      refine lv_goto (tgt := 3) C.1.1 C.1.2.1 dX11_move_28 (by decide) ?_
      exact K3 w (lv_sub hl [1, 2, 3, 4, 0] rfl) hf
set_option maxHeartbeats 4000000 in
set_option maxRecDepth 100000 in
theorem mX11_move_84 (l : Launch) (D : va_G) (b : Nat → Nat) (ids : List Nat) (hI : ∀ i, i < 107 → i ∈ ids) (N : Nat) (S : ns_S) (p1 : Int32) (p2 : Int32) (p3 : Int32) {o : (Nat → Int32)} (hf : fX11_move N 120 (S.2.1 84) p1 p2 p3 = some o) : ns_M l yX11_move wsX11_move rmX11_move_84 D b ids S [.ref (b 84), .int p1, .int p2, .int p3] none (ns_A S 84 o) := by
  refine ns_start (Wr := wrX11_move_84) (by decide) rfl (Nat.le_of_ble_eq_true rfl) ?_
  intro p e s m below meth c A ls C hr hlk w hl
  have hl : lv_has ls 5 [(0, .ref (b 84)), (1, .int p1), (2, .int p2), (3, .int p3)] := hl
  unfold fX11_move at hf
  refine lv_iconst (v := 0) C.1.1 C.1.2.1 dX11_move_0 (by decide) ?_
  refine lv_istore (lv' := [(4, .int 0), (0, .ref (b 84)), (1, .int p1), (2, .int p2), (3, .int p3)]) C.1.1 C.1.2.1 dX11_move_1 hl (by decide) rfl (fun ls hl => ?_)
  exact wX11_move_84_3 N hI C hr hlk N w (lv_sub hl [1, 2, 3, 4, 0] rfl) hf
abbrev wrX11_move_85 : List (Nat × Nat) := [(1, 85)]
abbrev rmX11_move_85 : Room := { frames := 0, cells := 0, slots := 0, locals := 0 }
set_option maxHeartbeats 4000000 in
set_option maxRecDepth 100000 in
theorem wX11_move_85_3 {p : Program} {l : Launch} {e : Env} {s : State} {m : MethodId} {args : Array Value} {below : List Frame} {meth : Method} {c : Code} {D : va_G} {b : Nat → Nat} {ids : List Nat} {A : Nat → Prop} {S0 : ns_S} {o : (Nat → Int32)} (N : Nat) (hI : ∀ i, i < 107 → i ∈ ids) (C : ns_C p m c cX11_move 5 s args wsX11_move RX11 D A) (hr : meth.sig.returnType = none) (hlk : meth.locks = false) : ∀ n : Nat, ∀ {S : ns_S} {H : Heap} {locs : List Loc} {ls : Array Slot} {l1 : Int32} {l2 : Int32} {l3 : Int32} {l4 : Int32}, ns_W D b ids A s.heap wrX11_move_85 S0 S H locs → lv_has ls 5 [(0, .ref (b 85)), (1, .int l1), (2, .int l2), (3, .int l3), (4, .int l4)] → fX11_move_3 N 120 n (S.2.1 85) l1 l2 l3 l4 = some o → W p l e rmX11_move_85 s m args below meth c H locs 0 0 (MQ below (ns_Q D b ids (ns_A S0 85 o) none A) args s 0 0 A) (F0 m 3 ls []) := by
  intro n
  induction n with
  | zero =>
    intro S H locs ls l1 l2 l3 l4 w hl hf
    cases hf
  | succ n K3 =>
    intro S H locs ls l1 l2 l3 l4 w hl hf
    change gX11_move_3 N 120 (fX11_move_3 N 120 n) (S.2.1 85) l1 l2 l3 l4 = some o at hf
    generalize fX11_move_3 N 120 n = r3 at hf K3
    unfold gX11_move_3 at hf
    refine lv_iload C.1.1 C.1.2.1 dX11_move_3 (lv_at hl 4 rfl) ?_
    refine lv_iload_n C.1.1 C.1.2.1 dX11_move_5 rfl (lv_at hl 1 rfl) ?_
    refine ns_icmp_ge C hf (tgt := 31) dX11_move_6 (by decide) (fun hf => ?_) (fun hf => ?_)
    · have he := Option.some.inj hf
      subst he
      exact ns_vret C w hr hlk rfl rfl dX11_move_31
    · refine lv_aload_n C.1.1 C.1.2.1 dX11_move_9 rfl (lv_at hl 0 rfl) ?_
      refine lv_iload_n C.1.1 C.1.2.1 dX11_move_10 rfl (lv_at hl 1 rfl) ?_
      refine lv_iload_n C.1.1 C.1.2.1 dX11_move_11 rfl (lv_at hl 3 rfl) ?_
      refine lv_imul C.1.1 C.1.2.1 dX11_move_12 ?_
      refine lv_iload C.1.1 C.1.2.1 dX11_move_13 (lv_at hl 4 rfl) ?_
      refine lv_iadd C.1.1 C.1.2.1 dX11_move_15 ?_
      refine lv_aload_n C.1.1 C.1.2.1 dX11_move_16 rfl (lv_at hl 0 rfl) ?_
      refine lv_iload_n C.1.1 C.1.2.1 dX11_move_17 rfl (lv_at hl 1 rfl) ?_
      refine lv_iload_n C.1.1 C.1.2.1 dX11_move_18 rfl (lv_at hl 2 rfl) ?_
      refine lv_imul C.1.1 C.1.2.1 dX11_move_19 ?_
      refine lv_iload C.1.1 C.1.2.1 dX11_move_20 (lv_at hl 4 rfl) ?_
      refine lv_iadd C.1.1 C.1.2.1 dX11_move_22 ?_
      refine ns_iald C w 85 (hI 85 (by decide)) sh_85 hf rfl dX11_move_23 (fun x1 hf => ?_)
      refine ns_iast C w 85 (hI 85 (by decide)) sh_85 hf rfl (List.mem_of_getElem? (i := 0) rfl) dX11_move_24 (fun y2 H locs hf w => ?_)
      refine ns_iinc (lv' := fun x3 => [(4, .int x3), (0, .ref (b 85)), (1, .int l1), (2, .int l2), (3, .int l3)]) C hf dX11_move_25 hl (k := 4) rfl rfl (by decide) (fun _ => rfl) (fun x3 ls hl hf => ?_)
      refine lv_goto (tgt := 3) C.1.1 C.1.2.1 dX11_move_28 (by decide) ?_
      exact K3 w (lv_sub hl [1, 2, 3, 4, 0] rfl) hf
set_option maxHeartbeats 4000000 in
set_option maxRecDepth 100000 in
theorem mX11_move_85 (l : Launch) (D : va_G) (b : Nat → Nat) (ids : List Nat) (hI : ∀ i, i < 107 → i ∈ ids) (N : Nat) (S : ns_S) (p1 : Int32) (p2 : Int32) (p3 : Int32) {o : (Nat → Int32)} (hf : fX11_move N 120 (S.2.1 85) p1 p2 p3 = some o) : ns_M l yX11_move wsX11_move rmX11_move_85 D b ids S [.ref (b 85), .int p1, .int p2, .int p3] none (ns_A S 85 o) := by
  refine ns_start (Wr := wrX11_move_85) (by decide) rfl (Nat.le_of_ble_eq_true rfl) ?_
  intro p e s m below meth c A ls C hr hlk w hl
  have hl : lv_has ls 5 [(0, .ref (b 85)), (1, .int p1), (2, .int p2), (3, .int p3)] := hl
  unfold fX11_move at hf
  refine lv_iconst (v := 0) C.1.1 C.1.2.1 dX11_move_0 (by decide) ?_
  refine lv_istore (lv' := [(4, .int 0), (0, .ref (b 85)), (1, .int p1), (2, .int p2), (3, .int p3)]) C.1.1 C.1.2.1 dX11_move_1 hl (by decide) rfl (fun ls hl => ?_)
  exact wX11_move_85_3 N hI C hr hlk N w (lv_sub hl [1, 2, 3, 4, 0] rfl) hf
abbrev wrX11_move_86 : List (Nat × Nat) := [(1, 86)]
abbrev rmX11_move_86 : Room := { frames := 0, cells := 0, slots := 0, locals := 0 }
set_option maxHeartbeats 4000000 in
set_option maxRecDepth 100000 in
theorem wX11_move_86_3 {p : Program} {l : Launch} {e : Env} {s : State} {m : MethodId} {args : Array Value} {below : List Frame} {meth : Method} {c : Code} {D : va_G} {b : Nat → Nat} {ids : List Nat} {A : Nat → Prop} {S0 : ns_S} {o : (Nat → Int32)} (N : Nat) (hI : ∀ i, i < 107 → i ∈ ids) (C : ns_C p m c cX11_move 5 s args wsX11_move RX11 D A) (hr : meth.sig.returnType = none) (hlk : meth.locks = false) : ∀ n : Nat, ∀ {S : ns_S} {H : Heap} {locs : List Loc} {ls : Array Slot} {l1 : Int32} {l2 : Int32} {l3 : Int32} {l4 : Int32}, ns_W D b ids A s.heap wrX11_move_86 S0 S H locs → lv_has ls 5 [(0, .ref (b 86)), (1, .int l1), (2, .int l2), (3, .int l3), (4, .int l4)] → fX11_move_3 N 24 n (S.2.1 86) l1 l2 l3 l4 = some o → W p l e rmX11_move_86 s m args below meth c H locs 0 0 (MQ below (ns_Q D b ids (ns_A S0 86 o) none A) args s 0 0 A) (F0 m 3 ls []) := by
  intro n
  induction n with
  | zero =>
    intro S H locs ls l1 l2 l3 l4 w hl hf
    cases hf
  | succ n K3 =>
    intro S H locs ls l1 l2 l3 l4 w hl hf
    change gX11_move_3 N 24 (fX11_move_3 N 24 n) (S.2.1 86) l1 l2 l3 l4 = some o at hf
    generalize fX11_move_3 N 24 n = r3 at hf K3
    unfold gX11_move_3 at hf
    refine lv_iload C.1.1 C.1.2.1 dX11_move_3 (lv_at hl 4 rfl) ?_
    refine lv_iload_n C.1.1 C.1.2.1 dX11_move_5 rfl (lv_at hl 1 rfl) ?_
    refine ns_icmp_ge C hf (tgt := 31) dX11_move_6 (by decide) (fun hf => ?_) (fun hf => ?_)
    · have he := Option.some.inj hf
      subst he
      exact ns_vret C w hr hlk rfl rfl dX11_move_31
    · refine lv_aload_n C.1.1 C.1.2.1 dX11_move_9 rfl (lv_at hl 0 rfl) ?_
      refine lv_iload_n C.1.1 C.1.2.1 dX11_move_10 rfl (lv_at hl 1 rfl) ?_
      refine lv_iload_n C.1.1 C.1.2.1 dX11_move_11 rfl (lv_at hl 3 rfl) ?_
      refine lv_imul C.1.1 C.1.2.1 dX11_move_12 ?_
      refine lv_iload C.1.1 C.1.2.1 dX11_move_13 (lv_at hl 4 rfl) ?_
      refine lv_iadd C.1.1 C.1.2.1 dX11_move_15 ?_
      refine lv_aload_n C.1.1 C.1.2.1 dX11_move_16 rfl (lv_at hl 0 rfl) ?_
      refine lv_iload_n C.1.1 C.1.2.1 dX11_move_17 rfl (lv_at hl 1 rfl) ?_
      refine lv_iload_n C.1.1 C.1.2.1 dX11_move_18 rfl (lv_at hl 2 rfl) ?_
      refine lv_imul C.1.1 C.1.2.1 dX11_move_19 ?_
      refine lv_iload C.1.1 C.1.2.1 dX11_move_20 (lv_at hl 4 rfl) ?_
      refine lv_iadd C.1.1 C.1.2.1 dX11_move_22 ?_
      refine ns_iald C w 86 (hI 86 (by decide)) sh_86 hf rfl dX11_move_23 (fun x1 hf => ?_)
      refine ns_iast C w 86 (hI 86 (by decide)) sh_86 hf rfl (List.mem_of_getElem? (i := 0) rfl) dX11_move_24 (fun y2 H locs hf w => ?_)
      refine ns_iinc (lv' := fun x3 => [(4, .int x3), (0, .ref (b 86)), (1, .int l1), (2, .int l2), (3, .int l3)]) C hf dX11_move_25 hl (k := 4) rfl rfl (by decide) (fun _ => rfl) (fun x3 ls hl hf => ?_)
      refine lv_goto (tgt := 3) C.1.1 C.1.2.1 dX11_move_28 (by decide) ?_
      exact K3 w (lv_sub hl [1, 2, 3, 4, 0] rfl) hf
set_option maxHeartbeats 4000000 in
set_option maxRecDepth 100000 in
theorem mX11_move_86 (l : Launch) (D : va_G) (b : Nat → Nat) (ids : List Nat) (hI : ∀ i, i < 107 → i ∈ ids) (N : Nat) (S : ns_S) (p1 : Int32) (p2 : Int32) (p3 : Int32) {o : (Nat → Int32)} (hf : fX11_move N 24 (S.2.1 86) p1 p2 p3 = some o) : ns_M l yX11_move wsX11_move rmX11_move_86 D b ids S [.ref (b 86), .int p1, .int p2, .int p3] none (ns_A S 86 o) := by
  refine ns_start (Wr := wrX11_move_86) (by decide) rfl (Nat.le_of_ble_eq_true rfl) ?_
  intro p e s m below meth c A ls C hr hlk w hl
  have hl : lv_has ls 5 [(0, .ref (b 86)), (1, .int p1), (2, .int p2), (3, .int p3)] := hl
  unfold fX11_move at hf
  refine lv_iconst (v := 0) C.1.1 C.1.2.1 dX11_move_0 (by decide) ?_
  refine lv_istore (lv' := [(4, .int 0), (0, .ref (b 86)), (1, .int p1), (2, .int p2), (3, .int p3)]) C.1.1 C.1.2.1 dX11_move_1 hl (by decide) rfl (fun ls hl => ?_)
  exact wX11_move_86_3 N hI C hr hlk N w (lv_sub hl [1, 2, 3, 4, 0] rfl) hf
abbrev wrX11_move_87 : List (Nat × Nat) := [(1, 87)]
abbrev rmX11_move_87 : Room := { frames := 0, cells := 0, slots := 0, locals := 0 }
set_option maxHeartbeats 4000000 in
set_option maxRecDepth 100000 in
theorem wX11_move_87_3 {p : Program} {l : Launch} {e : Env} {s : State} {m : MethodId} {args : Array Value} {below : List Frame} {meth : Method} {c : Code} {D : va_G} {b : Nat → Nat} {ids : List Nat} {A : Nat → Prop} {S0 : ns_S} {o : (Nat → Int32)} (N : Nat) (hI : ∀ i, i < 107 → i ∈ ids) (C : ns_C p m c cX11_move 5 s args wsX11_move RX11 D A) (hr : meth.sig.returnType = none) (hlk : meth.locks = false) : ∀ n : Nat, ∀ {S : ns_S} {H : Heap} {locs : List Loc} {ls : Array Slot} {l1 : Int32} {l2 : Int32} {l3 : Int32} {l4 : Int32}, ns_W D b ids A s.heap wrX11_move_87 S0 S H locs → lv_has ls 5 [(0, .ref (b 87)), (1, .int l1), (2, .int l2), (3, .int l3), (4, .int l4)] → fX11_move_3 N 20 n (S.2.1 87) l1 l2 l3 l4 = some o → W p l e rmX11_move_87 s m args below meth c H locs 0 0 (MQ below (ns_Q D b ids (ns_A S0 87 o) none A) args s 0 0 A) (F0 m 3 ls []) := by
  intro n
  induction n with
  | zero =>
    intro S H locs ls l1 l2 l3 l4 w hl hf
    cases hf
  | succ n K3 =>
    intro S H locs ls l1 l2 l3 l4 w hl hf
    change gX11_move_3 N 20 (fX11_move_3 N 20 n) (S.2.1 87) l1 l2 l3 l4 = some o at hf
    generalize fX11_move_3 N 20 n = r3 at hf K3
    unfold gX11_move_3 at hf
    refine lv_iload C.1.1 C.1.2.1 dX11_move_3 (lv_at hl 4 rfl) ?_
    refine lv_iload_n C.1.1 C.1.2.1 dX11_move_5 rfl (lv_at hl 1 rfl) ?_
    refine ns_icmp_ge C hf (tgt := 31) dX11_move_6 (by decide) (fun hf => ?_) (fun hf => ?_)
    · have he := Option.some.inj hf
      subst he
      exact ns_vret C w hr hlk rfl rfl dX11_move_31
    · refine lv_aload_n C.1.1 C.1.2.1 dX11_move_9 rfl (lv_at hl 0 rfl) ?_
      refine lv_iload_n C.1.1 C.1.2.1 dX11_move_10 rfl (lv_at hl 1 rfl) ?_
      refine lv_iload_n C.1.1 C.1.2.1 dX11_move_11 rfl (lv_at hl 3 rfl) ?_
      refine lv_imul C.1.1 C.1.2.1 dX11_move_12 ?_
      refine lv_iload C.1.1 C.1.2.1 dX11_move_13 (lv_at hl 4 rfl) ?_
      refine lv_iadd C.1.1 C.1.2.1 dX11_move_15 ?_
      refine lv_aload_n C.1.1 C.1.2.1 dX11_move_16 rfl (lv_at hl 0 rfl) ?_
      refine lv_iload_n C.1.1 C.1.2.1 dX11_move_17 rfl (lv_at hl 1 rfl) ?_
      refine lv_iload_n C.1.1 C.1.2.1 dX11_move_18 rfl (lv_at hl 2 rfl) ?_
      refine lv_imul C.1.1 C.1.2.1 dX11_move_19 ?_
      refine lv_iload C.1.1 C.1.2.1 dX11_move_20 (lv_at hl 4 rfl) ?_
      refine lv_iadd C.1.1 C.1.2.1 dX11_move_22 ?_
      refine ns_iald C w 87 (hI 87 (by decide)) sh_87 hf rfl dX11_move_23 (fun x1 hf => ?_)
      refine ns_iast C w 87 (hI 87 (by decide)) sh_87 hf rfl (List.mem_of_getElem? (i := 0) rfl) dX11_move_24 (fun y2 H locs hf w => ?_)
      refine ns_iinc (lv' := fun x3 => [(4, .int x3), (0, .ref (b 87)), (1, .int l1), (2, .int l2), (3, .int l3)]) C hf dX11_move_25 hl (k := 4) rfl rfl (by decide) (fun _ => rfl) (fun x3 ls hl hf => ?_)
      refine lv_goto (tgt := 3) C.1.1 C.1.2.1 dX11_move_28 (by decide) ?_
      exact K3 w (lv_sub hl [1, 2, 3, 4, 0] rfl) hf
set_option maxHeartbeats 4000000 in
set_option maxRecDepth 100000 in
theorem mX11_move_87 (l : Launch) (D : va_G) (b : Nat → Nat) (ids : List Nat) (hI : ∀ i, i < 107 → i ∈ ids) (N : Nat) (S : ns_S) (p1 : Int32) (p2 : Int32) (p3 : Int32) {o : (Nat → Int32)} (hf : fX11_move N 20 (S.2.1 87) p1 p2 p3 = some o) : ns_M l yX11_move wsX11_move rmX11_move_87 D b ids S [.ref (b 87), .int p1, .int p2, .int p3] none (ns_A S 87 o) := by
  refine ns_start (Wr := wrX11_move_87) (by decide) rfl (Nat.le_of_ble_eq_true rfl) ?_
  intro p e s m below meth c A ls C hr hlk w hl
  have hl : lv_has ls 5 [(0, .ref (b 87)), (1, .int p1), (2, .int p2), (3, .int p3)] := hl
  unfold fX11_move at hf
  refine lv_iconst (v := 0) C.1.1 C.1.2.1 dX11_move_0 (by decide) ?_
  refine lv_istore (lv' := [(4, .int 0), (0, .ref (b 87)), (1, .int p1), (2, .int p2), (3, .int p3)]) C.1.1 C.1.2.1 dX11_move_1 hl (by decide) rfl (fun ls hl => ?_)
  exact wX11_move_87_3 N hI C hr hlk N w (lv_sub hl [1, 2, 3, 4, 0] rfl) hf
abbrev wrX11_move_88 : List (Nat × Nat) := [(1, 88)]
abbrev rmX11_move_88 : Room := { frames := 0, cells := 0, slots := 0, locals := 0 }
set_option maxHeartbeats 4000000 in
set_option maxRecDepth 100000 in
theorem wX11_move_88_3 {p : Program} {l : Launch} {e : Env} {s : State} {m : MethodId} {args : Array Value} {below : List Frame} {meth : Method} {c : Code} {D : va_G} {b : Nat → Nat} {ids : List Nat} {A : Nat → Prop} {S0 : ns_S} {o : (Nat → Int32)} (N : Nat) (hI : ∀ i, i < 107 → i ∈ ids) (C : ns_C p m c cX11_move 5 s args wsX11_move RX11 D A) (hr : meth.sig.returnType = none) (hlk : meth.locks = false) : ∀ n : Nat, ∀ {S : ns_S} {H : Heap} {locs : List Loc} {ls : Array Slot} {l1 : Int32} {l2 : Int32} {l3 : Int32} {l4 : Int32}, ns_W D b ids A s.heap wrX11_move_88 S0 S H locs → lv_has ls 5 [(0, .ref (b 88)), (1, .int l1), (2, .int l2), (3, .int l3), (4, .int l4)] → fX11_move_3 N 4 n (S.2.1 88) l1 l2 l3 l4 = some o → W p l e rmX11_move_88 s m args below meth c H locs 0 0 (MQ below (ns_Q D b ids (ns_A S0 88 o) none A) args s 0 0 A) (F0 m 3 ls []) := by
  intro n
  induction n with
  | zero =>
    intro S H locs ls l1 l2 l3 l4 w hl hf
    cases hf
  | succ n K3 =>
    intro S H locs ls l1 l2 l3 l4 w hl hf
    change gX11_move_3 N 4 (fX11_move_3 N 4 n) (S.2.1 88) l1 l2 l3 l4 = some o at hf
    generalize fX11_move_3 N 4 n = r3 at hf K3
    unfold gX11_move_3 at hf
    refine lv_iload C.1.1 C.1.2.1 dX11_move_3 (lv_at hl 4 rfl) ?_
    refine lv_iload_n C.1.1 C.1.2.1 dX11_move_5 rfl (lv_at hl 1 rfl) ?_
    refine ns_icmp_ge C hf (tgt := 31) dX11_move_6 (by decide) (fun hf => ?_) (fun hf => ?_)
    · have he := Option.some.inj hf
      subst he
      exact ns_vret C w hr hlk rfl rfl dX11_move_31
    · refine lv_aload_n C.1.1 C.1.2.1 dX11_move_9 rfl (lv_at hl 0 rfl) ?_
      refine lv_iload_n C.1.1 C.1.2.1 dX11_move_10 rfl (lv_at hl 1 rfl) ?_
      refine lv_iload_n C.1.1 C.1.2.1 dX11_move_11 rfl (lv_at hl 3 rfl) ?_
      refine lv_imul C.1.1 C.1.2.1 dX11_move_12 ?_
      refine lv_iload C.1.1 C.1.2.1 dX11_move_13 (lv_at hl 4 rfl) ?_
      refine lv_iadd C.1.1 C.1.2.1 dX11_move_15 ?_
      refine lv_aload_n C.1.1 C.1.2.1 dX11_move_16 rfl (lv_at hl 0 rfl) ?_
      refine lv_iload_n C.1.1 C.1.2.1 dX11_move_17 rfl (lv_at hl 1 rfl) ?_
      refine lv_iload_n C.1.1 C.1.2.1 dX11_move_18 rfl (lv_at hl 2 rfl) ?_
      refine lv_imul C.1.1 C.1.2.1 dX11_move_19 ?_
      refine lv_iload C.1.1 C.1.2.1 dX11_move_20 (lv_at hl 4 rfl) ?_
      refine lv_iadd C.1.1 C.1.2.1 dX11_move_22 ?_
      refine ns_iald C w 88 (hI 88 (by decide)) sh_88 hf rfl dX11_move_23 (fun x1 hf => ?_)
      refine ns_iast C w 88 (hI 88 (by decide)) sh_88 hf rfl (List.mem_of_getElem? (i := 0) rfl) dX11_move_24 (fun y2 H locs hf w => ?_)
      refine ns_iinc (lv' := fun x3 => [(4, .int x3), (0, .ref (b 88)), (1, .int l1), (2, .int l2), (3, .int l3)]) C hf dX11_move_25 hl (k := 4) rfl rfl (by decide) (fun _ => rfl) (fun x3 ls hl hf => ?_)
      refine lv_goto (tgt := 3) C.1.1 C.1.2.1 dX11_move_28 (by decide) ?_
      exact K3 w (lv_sub hl [1, 2, 3, 4, 0] rfl) hf
set_option maxHeartbeats 4000000 in
set_option maxRecDepth 100000 in
theorem mX11_move_88 (l : Launch) (D : va_G) (b : Nat → Nat) (ids : List Nat) (hI : ∀ i, i < 107 → i ∈ ids) (N : Nat) (S : ns_S) (p1 : Int32) (p2 : Int32) (p3 : Int32) {o : (Nat → Int32)} (hf : fX11_move N 4 (S.2.1 88) p1 p2 p3 = some o) : ns_M l yX11_move wsX11_move rmX11_move_88 D b ids S [.ref (b 88), .int p1, .int p2, .int p3] none (ns_A S 88 o) := by
  refine ns_start (Wr := wrX11_move_88) (by decide) rfl (Nat.le_of_ble_eq_true rfl) ?_
  intro p e s m below meth c A ls C hr hlk w hl
  have hl : lv_has ls 5 [(0, .ref (b 88)), (1, .int p1), (2, .int p2), (3, .int p3)] := hl
  unfold fX11_move at hf
  refine lv_iconst (v := 0) C.1.1 C.1.2.1 dX11_move_0 (by decide) ?_
  refine lv_istore (lv' := [(4, .int 0), (0, .ref (b 88)), (1, .int p1), (2, .int p2), (3, .int p3)]) C.1.1 C.1.2.1 dX11_move_1 hl (by decide) rfl (fun ls hl => ?_)
  exact wX11_move_88_3 N hI C hr hlk N w (lv_sub hl [1, 2, 3, 4, 0] rfl) hf
abbrev wrX11_move_89 : List (Nat × Nat) := [(1, 89)]
abbrev rmX11_move_89 : Room := { frames := 0, cells := 0, slots := 0, locals := 0 }
set_option maxHeartbeats 4000000 in
set_option maxRecDepth 100000 in
theorem wX11_move_89_3 {p : Program} {l : Launch} {e : Env} {s : State} {m : MethodId} {args : Array Value} {below : List Frame} {meth : Method} {c : Code} {D : va_G} {b : Nat → Nat} {ids : List Nat} {A : Nat → Prop} {S0 : ns_S} {o : (Nat → Int32)} (N : Nat) (hI : ∀ i, i < 107 → i ∈ ids) (C : ns_C p m c cX11_move 5 s args wsX11_move RX11 D A) (hr : meth.sig.returnType = none) (hlk : meth.locks = false) : ∀ n : Nat, ∀ {S : ns_S} {H : Heap} {locs : List Loc} {ls : Array Slot} {l1 : Int32} {l2 : Int32} {l3 : Int32} {l4 : Int32}, ns_W D b ids A s.heap wrX11_move_89 S0 S H locs → lv_has ls 5 [(0, .ref (b 89)), (1, .int l1), (2, .int l2), (3, .int l3), (4, .int l4)] → fX11_move_3 N 64 n (S.2.1 89) l1 l2 l3 l4 = some o → W p l e rmX11_move_89 s m args below meth c H locs 0 0 (MQ below (ns_Q D b ids (ns_A S0 89 o) none A) args s 0 0 A) (F0 m 3 ls []) := by
  intro n
  induction n with
  | zero =>
    intro S H locs ls l1 l2 l3 l4 w hl hf
    cases hf
  | succ n K3 =>
    intro S H locs ls l1 l2 l3 l4 w hl hf
    change gX11_move_3 N 64 (fX11_move_3 N 64 n) (S.2.1 89) l1 l2 l3 l4 = some o at hf
    generalize fX11_move_3 N 64 n = r3 at hf K3
    unfold gX11_move_3 at hf
    refine lv_iload C.1.1 C.1.2.1 dX11_move_3 (lv_at hl 4 rfl) ?_
    refine lv_iload_n C.1.1 C.1.2.1 dX11_move_5 rfl (lv_at hl 1 rfl) ?_
    refine ns_icmp_ge C hf (tgt := 31) dX11_move_6 (by decide) (fun hf => ?_) (fun hf => ?_)
    · have he := Option.some.inj hf
      subst he
      exact ns_vret C w hr hlk rfl rfl dX11_move_31
    · refine lv_aload_n C.1.1 C.1.2.1 dX11_move_9 rfl (lv_at hl 0 rfl) ?_
      refine lv_iload_n C.1.1 C.1.2.1 dX11_move_10 rfl (lv_at hl 1 rfl) ?_
      refine lv_iload_n C.1.1 C.1.2.1 dX11_move_11 rfl (lv_at hl 3 rfl) ?_
      refine lv_imul C.1.1 C.1.2.1 dX11_move_12 ?_
      refine lv_iload C.1.1 C.1.2.1 dX11_move_13 (lv_at hl 4 rfl) ?_
      refine lv_iadd C.1.1 C.1.2.1 dX11_move_15 ?_
      refine lv_aload_n C.1.1 C.1.2.1 dX11_move_16 rfl (lv_at hl 0 rfl) ?_
      refine lv_iload_n C.1.1 C.1.2.1 dX11_move_17 rfl (lv_at hl 1 rfl) ?_
      refine lv_iload_n C.1.1 C.1.2.1 dX11_move_18 rfl (lv_at hl 2 rfl) ?_
      refine lv_imul C.1.1 C.1.2.1 dX11_move_19 ?_
      refine lv_iload C.1.1 C.1.2.1 dX11_move_20 (lv_at hl 4 rfl) ?_
      refine lv_iadd C.1.1 C.1.2.1 dX11_move_22 ?_
      refine ns_iald C w 89 (hI 89 (by decide)) sh_89 hf rfl dX11_move_23 (fun x1 hf => ?_)
      refine ns_iast C w 89 (hI 89 (by decide)) sh_89 hf rfl (List.mem_of_getElem? (i := 0) rfl) dX11_move_24 (fun y2 H locs hf w => ?_)
      refine ns_iinc (lv' := fun x3 => [(4, .int x3), (0, .ref (b 89)), (1, .int l1), (2, .int l2), (3, .int l3)]) C hf dX11_move_25 hl (k := 4) rfl rfl (by decide) (fun _ => rfl) (fun x3 ls hl hf => ?_)
      refine lv_goto (tgt := 3) C.1.1 C.1.2.1 dX11_move_28 (by decide) ?_
      exact K3 w (lv_sub hl [1, 2, 3, 4, 0] rfl) hf
set_option maxHeartbeats 4000000 in
set_option maxRecDepth 100000 in
theorem mX11_move_89 (l : Launch) (D : va_G) (b : Nat → Nat) (ids : List Nat) (hI : ∀ i, i < 107 → i ∈ ids) (N : Nat) (S : ns_S) (p1 : Int32) (p2 : Int32) (p3 : Int32) {o : (Nat → Int32)} (hf : fX11_move N 64 (S.2.1 89) p1 p2 p3 = some o) : ns_M l yX11_move wsX11_move rmX11_move_89 D b ids S [.ref (b 89), .int p1, .int p2, .int p3] none (ns_A S 89 o) := by
  refine ns_start (Wr := wrX11_move_89) (by decide) rfl (Nat.le_of_ble_eq_true rfl) ?_
  intro p e s m below meth c A ls C hr hlk w hl
  have hl : lv_has ls 5 [(0, .ref (b 89)), (1, .int p1), (2, .int p2), (3, .int p3)] := hl
  unfold fX11_move at hf
  refine lv_iconst (v := 0) C.1.1 C.1.2.1 dX11_move_0 (by decide) ?_
  refine lv_istore (lv' := [(4, .int 0), (0, .ref (b 89)), (1, .int p1), (2, .int p2), (3, .int p3)]) C.1.1 C.1.2.1 dX11_move_1 hl (by decide) rfl (fun ls hl => ?_)
  exact wX11_move_89_3 N hI C hr hlk N w (lv_sub hl [1, 2, 3, 4, 0] rfl) hf
abbrev wrX11_move_90 : List (Nat × Nat) := [(1, 90)]
abbrev rmX11_move_90 : Room := { frames := 0, cells := 0, slots := 0, locals := 0 }
set_option maxHeartbeats 4000000 in
set_option maxRecDepth 100000 in
theorem wX11_move_90_3 {p : Program} {l : Launch} {e : Env} {s : State} {m : MethodId} {args : Array Value} {below : List Frame} {meth : Method} {c : Code} {D : va_G} {b : Nat → Nat} {ids : List Nat} {A : Nat → Prop} {S0 : ns_S} {o : (Nat → Int32)} (N : Nat) (hI : ∀ i, i < 107 → i ∈ ids) (C : ns_C p m c cX11_move 5 s args wsX11_move RX11 D A) (hr : meth.sig.returnType = none) (hlk : meth.locks = false) : ∀ n : Nat, ∀ {S : ns_S} {H : Heap} {locs : List Loc} {ls : Array Slot} {l1 : Int32} {l2 : Int32} {l3 : Int32} {l4 : Int32}, ns_W D b ids A s.heap wrX11_move_90 S0 S H locs → lv_has ls 5 [(0, .ref (b 90)), (1, .int l1), (2, .int l2), (3, .int l3), (4, .int l4)] → fX11_move_3 N 256 n (S.2.1 90) l1 l2 l3 l4 = some o → W p l e rmX11_move_90 s m args below meth c H locs 0 0 (MQ below (ns_Q D b ids (ns_A S0 90 o) none A) args s 0 0 A) (F0 m 3 ls []) := by
  intro n
  induction n with
  | zero =>
    intro S H locs ls l1 l2 l3 l4 w hl hf
    cases hf
  | succ n K3 =>
    intro S H locs ls l1 l2 l3 l4 w hl hf
    change gX11_move_3 N 256 (fX11_move_3 N 256 n) (S.2.1 90) l1 l2 l3 l4 = some o at hf
    generalize fX11_move_3 N 256 n = r3 at hf K3
    unfold gX11_move_3 at hf
    refine lv_iload C.1.1 C.1.2.1 dX11_move_3 (lv_at hl 4 rfl) ?_
    refine lv_iload_n C.1.1 C.1.2.1 dX11_move_5 rfl (lv_at hl 1 rfl) ?_
    refine ns_icmp_ge C hf (tgt := 31) dX11_move_6 (by decide) (fun hf => ?_) (fun hf => ?_)
    · have he := Option.some.inj hf
      subst he
      exact ns_vret C w hr hlk rfl rfl dX11_move_31
    · refine lv_aload_n C.1.1 C.1.2.1 dX11_move_9 rfl (lv_at hl 0 rfl) ?_
      refine lv_iload_n C.1.1 C.1.2.1 dX11_move_10 rfl (lv_at hl 1 rfl) ?_
      refine lv_iload_n C.1.1 C.1.2.1 dX11_move_11 rfl (lv_at hl 3 rfl) ?_
      refine lv_imul C.1.1 C.1.2.1 dX11_move_12 ?_
      refine lv_iload C.1.1 C.1.2.1 dX11_move_13 (lv_at hl 4 rfl) ?_
      refine lv_iadd C.1.1 C.1.2.1 dX11_move_15 ?_
      refine lv_aload_n C.1.1 C.1.2.1 dX11_move_16 rfl (lv_at hl 0 rfl) ?_
      refine lv_iload_n C.1.1 C.1.2.1 dX11_move_17 rfl (lv_at hl 1 rfl) ?_
      refine lv_iload_n C.1.1 C.1.2.1 dX11_move_18 rfl (lv_at hl 2 rfl) ?_
      refine lv_imul C.1.1 C.1.2.1 dX11_move_19 ?_
      refine lv_iload C.1.1 C.1.2.1 dX11_move_20 (lv_at hl 4 rfl) ?_
      refine lv_iadd C.1.1 C.1.2.1 dX11_move_22 ?_
      refine ns_iald C w 90 (hI 90 (by decide)) sh_90 hf rfl dX11_move_23 (fun x1 hf => ?_)
      refine ns_iast C w 90 (hI 90 (by decide)) sh_90 hf rfl (List.mem_of_getElem? (i := 0) rfl) dX11_move_24 (fun y2 H locs hf w => ?_)
      refine ns_iinc (lv' := fun x3 => [(4, .int x3), (0, .ref (b 90)), (1, .int l1), (2, .int l2), (3, .int l3)]) C hf dX11_move_25 hl (k := 4) rfl rfl (by decide) (fun _ => rfl) (fun x3 ls hl hf => ?_)
      refine lv_goto (tgt := 3) C.1.1 C.1.2.1 dX11_move_28 (by decide) ?_
      exact K3 w (lv_sub hl [1, 2, 3, 4, 0] rfl) hf
set_option maxHeartbeats 4000000 in
set_option maxRecDepth 100000 in
theorem mX11_move_90 (l : Launch) (D : va_G) (b : Nat → Nat) (ids : List Nat) (hI : ∀ i, i < 107 → i ∈ ids) (N : Nat) (S : ns_S) (p1 : Int32) (p2 : Int32) (p3 : Int32) {o : (Nat → Int32)} (hf : fX11_move N 256 (S.2.1 90) p1 p2 p3 = some o) : ns_M l yX11_move wsX11_move rmX11_move_90 D b ids S [.ref (b 90), .int p1, .int p2, .int p3] none (ns_A S 90 o) := by
  refine ns_start (Wr := wrX11_move_90) (by decide) rfl (Nat.le_of_ble_eq_true rfl) ?_
  intro p e s m below meth c A ls C hr hlk w hl
  have hl : lv_has ls 5 [(0, .ref (b 90)), (1, .int p1), (2, .int p2), (3, .int p3)] := hl
  unfold fX11_move at hf
  refine lv_iconst (v := 0) C.1.1 C.1.2.1 dX11_move_0 (by decide) ?_
  refine lv_istore (lv' := [(4, .int 0), (0, .ref (b 90)), (1, .int p1), (2, .int p2), (3, .int p3)]) C.1.1 C.1.2.1 dX11_move_1 hl (by decide) rfl (fun ls hl => ?_)
  exact wX11_move_90_3 N hI C hr hlk N w (lv_sub hl [1, 2, 3, 4, 0] rfl) hf
abbrev wrX11_move_91 : List (Nat × Nat) := [(1, 91)]
abbrev rmX11_move_91 : Room := { frames := 0, cells := 0, slots := 0, locals := 0 }
set_option maxHeartbeats 4000000 in
set_option maxRecDepth 100000 in
theorem wX11_move_91_3 {p : Program} {l : Launch} {e : Env} {s : State} {m : MethodId} {args : Array Value} {below : List Frame} {meth : Method} {c : Code} {D : va_G} {b : Nat → Nat} {ids : List Nat} {A : Nat → Prop} {S0 : ns_S} {o : (Nat → Int32)} (N : Nat) (hI : ∀ i, i < 107 → i ∈ ids) (C : ns_C p m c cX11_move 5 s args wsX11_move RX11 D A) (hr : meth.sig.returnType = none) (hlk : meth.locks = false) : ∀ n : Nat, ∀ {S : ns_S} {H : Heap} {locs : List Loc} {ls : Array Slot} {l1 : Int32} {l2 : Int32} {l3 : Int32} {l4 : Int32}, ns_W D b ids A s.heap wrX11_move_91 S0 S H locs → lv_has ls 5 [(0, .ref (b 91)), (1, .int l1), (2, .int l2), (3, .int l3), (4, .int l4)] → fX11_move_3 N 256 n (S.2.1 91) l1 l2 l3 l4 = some o → W p l e rmX11_move_91 s m args below meth c H locs 0 0 (MQ below (ns_Q D b ids (ns_A S0 91 o) none A) args s 0 0 A) (F0 m 3 ls []) := by
  intro n
  induction n with
  | zero =>
    intro S H locs ls l1 l2 l3 l4 w hl hf
    cases hf
  | succ n K3 =>
    intro S H locs ls l1 l2 l3 l4 w hl hf
    change gX11_move_3 N 256 (fX11_move_3 N 256 n) (S.2.1 91) l1 l2 l3 l4 = some o at hf
    generalize fX11_move_3 N 256 n = r3 at hf K3
    unfold gX11_move_3 at hf
    refine lv_iload C.1.1 C.1.2.1 dX11_move_3 (lv_at hl 4 rfl) ?_
    refine lv_iload_n C.1.1 C.1.2.1 dX11_move_5 rfl (lv_at hl 1 rfl) ?_
    refine ns_icmp_ge C hf (tgt := 31) dX11_move_6 (by decide) (fun hf => ?_) (fun hf => ?_)
    · have he := Option.some.inj hf
      subst he
      exact ns_vret C w hr hlk rfl rfl dX11_move_31
    · refine lv_aload_n C.1.1 C.1.2.1 dX11_move_9 rfl (lv_at hl 0 rfl) ?_
      refine lv_iload_n C.1.1 C.1.2.1 dX11_move_10 rfl (lv_at hl 1 rfl) ?_
      refine lv_iload_n C.1.1 C.1.2.1 dX11_move_11 rfl (lv_at hl 3 rfl) ?_
      refine lv_imul C.1.1 C.1.2.1 dX11_move_12 ?_
      refine lv_iload C.1.1 C.1.2.1 dX11_move_13 (lv_at hl 4 rfl) ?_
      refine lv_iadd C.1.1 C.1.2.1 dX11_move_15 ?_
      refine lv_aload_n C.1.1 C.1.2.1 dX11_move_16 rfl (lv_at hl 0 rfl) ?_
      refine lv_iload_n C.1.1 C.1.2.1 dX11_move_17 rfl (lv_at hl 1 rfl) ?_
      refine lv_iload_n C.1.1 C.1.2.1 dX11_move_18 rfl (lv_at hl 2 rfl) ?_
      refine lv_imul C.1.1 C.1.2.1 dX11_move_19 ?_
      refine lv_iload C.1.1 C.1.2.1 dX11_move_20 (lv_at hl 4 rfl) ?_
      refine lv_iadd C.1.1 C.1.2.1 dX11_move_22 ?_
      refine ns_iald C w 91 (hI 91 (by decide)) sh_91 hf rfl dX11_move_23 (fun x1 hf => ?_)
      refine ns_iast C w 91 (hI 91 (by decide)) sh_91 hf rfl (List.mem_of_getElem? (i := 0) rfl) dX11_move_24 (fun y2 H locs hf w => ?_)
      refine ns_iinc (lv' := fun x3 => [(4, .int x3), (0, .ref (b 91)), (1, .int l1), (2, .int l2), (3, .int l3)]) C hf dX11_move_25 hl (k := 4) rfl rfl (by decide) (fun _ => rfl) (fun x3 ls hl hf => ?_)
      refine lv_goto (tgt := 3) C.1.1 C.1.2.1 dX11_move_28 (by decide) ?_
      exact K3 w (lv_sub hl [1, 2, 3, 4, 0] rfl) hf
set_option maxHeartbeats 4000000 in
set_option maxRecDepth 100000 in
theorem mX11_move_91 (l : Launch) (D : va_G) (b : Nat → Nat) (ids : List Nat) (hI : ∀ i, i < 107 → i ∈ ids) (N : Nat) (S : ns_S) (p1 : Int32) (p2 : Int32) (p3 : Int32) {o : (Nat → Int32)} (hf : fX11_move N 256 (S.2.1 91) p1 p2 p3 = some o) : ns_M l yX11_move wsX11_move rmX11_move_91 D b ids S [.ref (b 91), .int p1, .int p2, .int p3] none (ns_A S 91 o) := by
  refine ns_start (Wr := wrX11_move_91) (by decide) rfl (Nat.le_of_ble_eq_true rfl) ?_
  intro p e s m below meth c A ls C hr hlk w hl
  have hl : lv_has ls 5 [(0, .ref (b 91)), (1, .int p1), (2, .int p2), (3, .int p3)] := hl
  unfold fX11_move at hf
  refine lv_iconst (v := 0) C.1.1 C.1.2.1 dX11_move_0 (by decide) ?_
  refine lv_istore (lv' := [(4, .int 0), (0, .ref (b 91)), (1, .int p1), (2, .int p2), (3, .int p3)]) C.1.1 C.1.2.1 dX11_move_1 hl (by decide) rfl (fun ls hl => ?_)
  exact wX11_move_91_3 N hI C hr hlk N w (lv_sub hl [1, 2, 3, 4, 0] rfl) hf
abbrev wrX11_move_92 : List (Nat × Nat) := [(1, 92)]
abbrev rmX11_move_92 : Room := { frames := 0, cells := 0, slots := 0, locals := 0 }
set_option maxHeartbeats 4000000 in
set_option maxRecDepth 100000 in
theorem wX11_move_92_3 {p : Program} {l : Launch} {e : Env} {s : State} {m : MethodId} {args : Array Value} {below : List Frame} {meth : Method} {c : Code} {D : va_G} {b : Nat → Nat} {ids : List Nat} {A : Nat → Prop} {S0 : ns_S} {o : (Nat → Int32)} (N : Nat) (hI : ∀ i, i < 107 → i ∈ ids) (C : ns_C p m c cX11_move 5 s args wsX11_move RX11 D A) (hr : meth.sig.returnType = none) (hlk : meth.locks = false) : ∀ n : Nat, ∀ {S : ns_S} {H : Heap} {locs : List Loc} {ls : Array Slot} {l1 : Int32} {l2 : Int32} {l3 : Int32} {l4 : Int32}, ns_W D b ids A s.heap wrX11_move_92 S0 S H locs → lv_has ls 5 [(0, .ref (b 92)), (1, .int l1), (2, .int l2), (3, .int l3), (4, .int l4)] → fX11_move_3 N 256 n (S.2.1 92) l1 l2 l3 l4 = some o → W p l e rmX11_move_92 s m args below meth c H locs 0 0 (MQ below (ns_Q D b ids (ns_A S0 92 o) none A) args s 0 0 A) (F0 m 3 ls []) := by
  intro n
  induction n with
  | zero =>
    intro S H locs ls l1 l2 l3 l4 w hl hf
    cases hf
  | succ n K3 =>
    intro S H locs ls l1 l2 l3 l4 w hl hf
    change gX11_move_3 N 256 (fX11_move_3 N 256 n) (S.2.1 92) l1 l2 l3 l4 = some o at hf
    generalize fX11_move_3 N 256 n = r3 at hf K3
    unfold gX11_move_3 at hf
    refine lv_iload C.1.1 C.1.2.1 dX11_move_3 (lv_at hl 4 rfl) ?_
    refine lv_iload_n C.1.1 C.1.2.1 dX11_move_5 rfl (lv_at hl 1 rfl) ?_
    refine ns_icmp_ge C hf (tgt := 31) dX11_move_6 (by decide) (fun hf => ?_) (fun hf => ?_)
    · have he := Option.some.inj hf
      subst he
      exact ns_vret C w hr hlk rfl rfl dX11_move_31
    · refine lv_aload_n C.1.1 C.1.2.1 dX11_move_9 rfl (lv_at hl 0 rfl) ?_
      refine lv_iload_n C.1.1 C.1.2.1 dX11_move_10 rfl (lv_at hl 1 rfl) ?_
      refine lv_iload_n C.1.1 C.1.2.1 dX11_move_11 rfl (lv_at hl 3 rfl) ?_
      refine lv_imul C.1.1 C.1.2.1 dX11_move_12 ?_
      refine lv_iload C.1.1 C.1.2.1 dX11_move_13 (lv_at hl 4 rfl) ?_
      refine lv_iadd C.1.1 C.1.2.1 dX11_move_15 ?_
      refine lv_aload_n C.1.1 C.1.2.1 dX11_move_16 rfl (lv_at hl 0 rfl) ?_
      refine lv_iload_n C.1.1 C.1.2.1 dX11_move_17 rfl (lv_at hl 1 rfl) ?_
      refine lv_iload_n C.1.1 C.1.2.1 dX11_move_18 rfl (lv_at hl 2 rfl) ?_
      refine lv_imul C.1.1 C.1.2.1 dX11_move_19 ?_
      refine lv_iload C.1.1 C.1.2.1 dX11_move_20 (lv_at hl 4 rfl) ?_
      refine lv_iadd C.1.1 C.1.2.1 dX11_move_22 ?_
      refine ns_iald C w 92 (hI 92 (by decide)) sh_92 hf rfl dX11_move_23 (fun x1 hf => ?_)
      refine ns_iast C w 92 (hI 92 (by decide)) sh_92 hf rfl (List.mem_of_getElem? (i := 0) rfl) dX11_move_24 (fun y2 H locs hf w => ?_)
      refine ns_iinc (lv' := fun x3 => [(4, .int x3), (0, .ref (b 92)), (1, .int l1), (2, .int l2), (3, .int l3)]) C hf dX11_move_25 hl (k := 4) rfl rfl (by decide) (fun _ => rfl) (fun x3 ls hl hf => ?_)
      refine lv_goto (tgt := 3) C.1.1 C.1.2.1 dX11_move_28 (by decide) ?_
      exact K3 w (lv_sub hl [1, 2, 3, 4, 0] rfl) hf
set_option maxHeartbeats 4000000 in
set_option maxRecDepth 100000 in
theorem mX11_move_92 (l : Launch) (D : va_G) (b : Nat → Nat) (ids : List Nat) (hI : ∀ i, i < 107 → i ∈ ids) (N : Nat) (S : ns_S) (p1 : Int32) (p2 : Int32) (p3 : Int32) {o : (Nat → Int32)} (hf : fX11_move N 256 (S.2.1 92) p1 p2 p3 = some o) : ns_M l yX11_move wsX11_move rmX11_move_92 D b ids S [.ref (b 92), .int p1, .int p2, .int p3] none (ns_A S 92 o) := by
  refine ns_start (Wr := wrX11_move_92) (by decide) rfl (Nat.le_of_ble_eq_true rfl) ?_
  intro p e s m below meth c A ls C hr hlk w hl
  have hl : lv_has ls 5 [(0, .ref (b 92)), (1, .int p1), (2, .int p2), (3, .int p3)] := hl
  unfold fX11_move at hf
  refine lv_iconst (v := 0) C.1.1 C.1.2.1 dX11_move_0 (by decide) ?_
  refine lv_istore (lv' := [(4, .int 0), (0, .ref (b 92)), (1, .int p1), (2, .int p2), (3, .int p3)]) C.1.1 C.1.2.1 dX11_move_1 hl (by decide) rfl (fun ls hl => ?_)
  exact wX11_move_92_3 N hI C hr hlk N w (lv_sub hl [1, 2, 3, 4, 0] rfl) hf
abbrev wrX11_move_93 : List (Nat × Nat) := [(1, 93)]
abbrev rmX11_move_93 : Room := { frames := 0, cells := 0, slots := 0, locals := 0 }
set_option maxHeartbeats 4000000 in
set_option maxRecDepth 100000 in
theorem wX11_move_93_3 {p : Program} {l : Launch} {e : Env} {s : State} {m : MethodId} {args : Array Value} {below : List Frame} {meth : Method} {c : Code} {D : va_G} {b : Nat → Nat} {ids : List Nat} {A : Nat → Prop} {S0 : ns_S} {o : (Nat → Int32)} (N : Nat) (hI : ∀ i, i < 107 → i ∈ ids) (C : ns_C p m c cX11_move 5 s args wsX11_move RX11 D A) (hr : meth.sig.returnType = none) (hlk : meth.locks = false) : ∀ n : Nat, ∀ {S : ns_S} {H : Heap} {locs : List Loc} {ls : Array Slot} {l1 : Int32} {l2 : Int32} {l3 : Int32} {l4 : Int32}, ns_W D b ids A s.heap wrX11_move_93 S0 S H locs → lv_has ls 5 [(0, .ref (b 93)), (1, .int l1), (2, .int l2), (3, .int l3), (4, .int l4)] → fX11_move_3 N 64 n (S.2.1 93) l1 l2 l3 l4 = some o → W p l e rmX11_move_93 s m args below meth c H locs 0 0 (MQ below (ns_Q D b ids (ns_A S0 93 o) none A) args s 0 0 A) (F0 m 3 ls []) := by
  intro n
  induction n with
  | zero =>
    intro S H locs ls l1 l2 l3 l4 w hl hf
    cases hf
  | succ n K3 =>
    intro S H locs ls l1 l2 l3 l4 w hl hf
    change gX11_move_3 N 64 (fX11_move_3 N 64 n) (S.2.1 93) l1 l2 l3 l4 = some o at hf
    generalize fX11_move_3 N 64 n = r3 at hf K3
    unfold gX11_move_3 at hf
    refine lv_iload C.1.1 C.1.2.1 dX11_move_3 (lv_at hl 4 rfl) ?_
    refine lv_iload_n C.1.1 C.1.2.1 dX11_move_5 rfl (lv_at hl 1 rfl) ?_
    refine ns_icmp_ge C hf (tgt := 31) dX11_move_6 (by decide) (fun hf => ?_) (fun hf => ?_)
    · have he := Option.some.inj hf
      subst he
      exact ns_vret C w hr hlk rfl rfl dX11_move_31
    · refine lv_aload_n C.1.1 C.1.2.1 dX11_move_9 rfl (lv_at hl 0 rfl) ?_
      refine lv_iload_n C.1.1 C.1.2.1 dX11_move_10 rfl (lv_at hl 1 rfl) ?_
      refine lv_iload_n C.1.1 C.1.2.1 dX11_move_11 rfl (lv_at hl 3 rfl) ?_
      refine lv_imul C.1.1 C.1.2.1 dX11_move_12 ?_
      refine lv_iload C.1.1 C.1.2.1 dX11_move_13 (lv_at hl 4 rfl) ?_
      refine lv_iadd C.1.1 C.1.2.1 dX11_move_15 ?_
      refine lv_aload_n C.1.1 C.1.2.1 dX11_move_16 rfl (lv_at hl 0 rfl) ?_
      refine lv_iload_n C.1.1 C.1.2.1 dX11_move_17 rfl (lv_at hl 1 rfl) ?_
      refine lv_iload_n C.1.1 C.1.2.1 dX11_move_18 rfl (lv_at hl 2 rfl) ?_
      refine lv_imul C.1.1 C.1.2.1 dX11_move_19 ?_
      refine lv_iload C.1.1 C.1.2.1 dX11_move_20 (lv_at hl 4 rfl) ?_
      refine lv_iadd C.1.1 C.1.2.1 dX11_move_22 ?_
      refine ns_iald C w 93 (hI 93 (by decide)) sh_93 hf rfl dX11_move_23 (fun x1 hf => ?_)
      refine ns_iast C w 93 (hI 93 (by decide)) sh_93 hf rfl (List.mem_of_getElem? (i := 0) rfl) dX11_move_24 (fun y2 H locs hf w => ?_)
      refine ns_iinc (lv' := fun x3 => [(4, .int x3), (0, .ref (b 93)), (1, .int l1), (2, .int l2), (3, .int l3)]) C hf dX11_move_25 hl (k := 4) rfl rfl (by decide) (fun _ => rfl) (fun x3 ls hl hf => ?_)
      refine lv_goto (tgt := 3) C.1.1 C.1.2.1 dX11_move_28 (by decide) ?_
      exact K3 w (lv_sub hl [1, 2, 3, 4, 0] rfl) hf
set_option maxHeartbeats 4000000 in
set_option maxRecDepth 100000 in
theorem mX11_move_93 (l : Launch) (D : va_G) (b : Nat → Nat) (ids : List Nat) (hI : ∀ i, i < 107 → i ∈ ids) (N : Nat) (S : ns_S) (p1 : Int32) (p2 : Int32) (p3 : Int32) {o : (Nat → Int32)} (hf : fX11_move N 64 (S.2.1 93) p1 p2 p3 = some o) : ns_M l yX11_move wsX11_move rmX11_move_93 D b ids S [.ref (b 93), .int p1, .int p2, .int p3] none (ns_A S 93 o) := by
  refine ns_start (Wr := wrX11_move_93) (by decide) rfl (Nat.le_of_ble_eq_true rfl) ?_
  intro p e s m below meth c A ls C hr hlk w hl
  have hl : lv_has ls 5 [(0, .ref (b 93)), (1, .int p1), (2, .int p2), (3, .int p3)] := hl
  unfold fX11_move at hf
  refine lv_iconst (v := 0) C.1.1 C.1.2.1 dX11_move_0 (by decide) ?_
  refine lv_istore (lv' := [(4, .int 0), (0, .ref (b 93)), (1, .int p1), (2, .int p2), (3, .int p3)]) C.1.1 C.1.2.1 dX11_move_1 hl (by decide) rfl (fun ls hl => ?_)
  exact wX11_move_93_3 N hI C hr hlk N w (lv_sub hl [1, 2, 3, 4, 0] rfl) hf
abbrev wrX11_move_94 : List (Nat × Nat) := [(1, 94)]
abbrev rmX11_move_94 : Room := { frames := 0, cells := 0, slots := 0, locals := 0 }
set_option maxHeartbeats 4000000 in
set_option maxRecDepth 100000 in
theorem wX11_move_94_3 {p : Program} {l : Launch} {e : Env} {s : State} {m : MethodId} {args : Array Value} {below : List Frame} {meth : Method} {c : Code} {D : va_G} {b : Nat → Nat} {ids : List Nat} {A : Nat → Prop} {S0 : ns_S} {o : (Nat → Int32)} (N : Nat) (hI : ∀ i, i < 107 → i ∈ ids) (C : ns_C p m c cX11_move 5 s args wsX11_move RX11 D A) (hr : meth.sig.returnType = none) (hlk : meth.locks = false) : ∀ n : Nat, ∀ {S : ns_S} {H : Heap} {locs : List Loc} {ls : Array Slot} {l1 : Int32} {l2 : Int32} {l3 : Int32} {l4 : Int32}, ns_W D b ids A s.heap wrX11_move_94 S0 S H locs → lv_has ls 5 [(0, .ref (b 94)), (1, .int l1), (2, .int l2), (3, .int l3), (4, .int l4)] → fX11_move_3 N 64 n (S.2.1 94) l1 l2 l3 l4 = some o → W p l e rmX11_move_94 s m args below meth c H locs 0 0 (MQ below (ns_Q D b ids (ns_A S0 94 o) none A) args s 0 0 A) (F0 m 3 ls []) := by
  intro n
  induction n with
  | zero =>
    intro S H locs ls l1 l2 l3 l4 w hl hf
    cases hf
  | succ n K3 =>
    intro S H locs ls l1 l2 l3 l4 w hl hf
    change gX11_move_3 N 64 (fX11_move_3 N 64 n) (S.2.1 94) l1 l2 l3 l4 = some o at hf
    generalize fX11_move_3 N 64 n = r3 at hf K3
    unfold gX11_move_3 at hf
    refine lv_iload C.1.1 C.1.2.1 dX11_move_3 (lv_at hl 4 rfl) ?_
    refine lv_iload_n C.1.1 C.1.2.1 dX11_move_5 rfl (lv_at hl 1 rfl) ?_
    refine ns_icmp_ge C hf (tgt := 31) dX11_move_6 (by decide) (fun hf => ?_) (fun hf => ?_)
    · have he := Option.some.inj hf
      subst he
      exact ns_vret C w hr hlk rfl rfl dX11_move_31
    · refine lv_aload_n C.1.1 C.1.2.1 dX11_move_9 rfl (lv_at hl 0 rfl) ?_
      refine lv_iload_n C.1.1 C.1.2.1 dX11_move_10 rfl (lv_at hl 1 rfl) ?_
      refine lv_iload_n C.1.1 C.1.2.1 dX11_move_11 rfl (lv_at hl 3 rfl) ?_
      refine lv_imul C.1.1 C.1.2.1 dX11_move_12 ?_
      refine lv_iload C.1.1 C.1.2.1 dX11_move_13 (lv_at hl 4 rfl) ?_
      refine lv_iadd C.1.1 C.1.2.1 dX11_move_15 ?_
      refine lv_aload_n C.1.1 C.1.2.1 dX11_move_16 rfl (lv_at hl 0 rfl) ?_
      refine lv_iload_n C.1.1 C.1.2.1 dX11_move_17 rfl (lv_at hl 1 rfl) ?_
      refine lv_iload_n C.1.1 C.1.2.1 dX11_move_18 rfl (lv_at hl 2 rfl) ?_
      refine lv_imul C.1.1 C.1.2.1 dX11_move_19 ?_
      refine lv_iload C.1.1 C.1.2.1 dX11_move_20 (lv_at hl 4 rfl) ?_
      refine lv_iadd C.1.1 C.1.2.1 dX11_move_22 ?_
      refine ns_iald C w 94 (hI 94 (by decide)) sh_94 hf rfl dX11_move_23 (fun x1 hf => ?_)
      refine ns_iast C w 94 (hI 94 (by decide)) sh_94 hf rfl (List.mem_of_getElem? (i := 0) rfl) dX11_move_24 (fun y2 H locs hf w => ?_)
      refine ns_iinc (lv' := fun x3 => [(4, .int x3), (0, .ref (b 94)), (1, .int l1), (2, .int l2), (3, .int l3)]) C hf dX11_move_25 hl (k := 4) rfl rfl (by decide) (fun _ => rfl) (fun x3 ls hl hf => ?_)
      refine lv_goto (tgt := 3) C.1.1 C.1.2.1 dX11_move_28 (by decide) ?_
      exact K3 w (lv_sub hl [1, 2, 3, 4, 0] rfl) hf
set_option maxHeartbeats 4000000 in
set_option maxRecDepth 100000 in
theorem mX11_move_94 (l : Launch) (D : va_G) (b : Nat → Nat) (ids : List Nat) (hI : ∀ i, i < 107 → i ∈ ids) (N : Nat) (S : ns_S) (p1 : Int32) (p2 : Int32) (p3 : Int32) {o : (Nat → Int32)} (hf : fX11_move N 64 (S.2.1 94) p1 p2 p3 = some o) : ns_M l yX11_move wsX11_move rmX11_move_94 D b ids S [.ref (b 94), .int p1, .int p2, .int p3] none (ns_A S 94 o) := by
  refine ns_start (Wr := wrX11_move_94) (by decide) rfl (Nat.le_of_ble_eq_true rfl) ?_
  intro p e s m below meth c A ls C hr hlk w hl
  have hl : lv_has ls 5 [(0, .ref (b 94)), (1, .int p1), (2, .int p2), (3, .int p3)] := hl
  unfold fX11_move at hf
  refine lv_iconst (v := 0) C.1.1 C.1.2.1 dX11_move_0 (by decide) ?_
  refine lv_istore (lv' := [(4, .int 0), (0, .ref (b 94)), (1, .int p1), (2, .int p2), (3, .int p3)]) C.1.1 C.1.2.1 dX11_move_1 hl (by decide) rfl (fun ls hl => ?_)
  exact wX11_move_94_3 N hI C hr hlk N w (lv_sub hl [1, 2, 3, 4, 0] rfl) hf
abbrev wrX11_move_95 : List (Nat × Nat) := [(1, 95)]
abbrev rmX11_move_95 : Room := { frames := 0, cells := 0, slots := 0, locals := 0 }
set_option maxHeartbeats 4000000 in
set_option maxRecDepth 100000 in
theorem wX11_move_95_3 {p : Program} {l : Launch} {e : Env} {s : State} {m : MethodId} {args : Array Value} {below : List Frame} {meth : Method} {c : Code} {D : va_G} {b : Nat → Nat} {ids : List Nat} {A : Nat → Prop} {S0 : ns_S} {o : (Nat → Int32)} (N : Nat) (hI : ∀ i, i < 107 → i ∈ ids) (C : ns_C p m c cX11_move 5 s args wsX11_move RX11 D A) (hr : meth.sig.returnType = none) (hlk : meth.locks = false) : ∀ n : Nat, ∀ {S : ns_S} {H : Heap} {locs : List Loc} {ls : Array Slot} {l1 : Int32} {l2 : Int32} {l3 : Int32} {l4 : Int32}, ns_W D b ids A s.heap wrX11_move_95 S0 S H locs → lv_has ls 5 [(0, .ref (b 95)), (1, .int l1), (2, .int l2), (3, .int l3), (4, .int l4)] → fX11_move_3 N 64 n (S.2.1 95) l1 l2 l3 l4 = some o → W p l e rmX11_move_95 s m args below meth c H locs 0 0 (MQ below (ns_Q D b ids (ns_A S0 95 o) none A) args s 0 0 A) (F0 m 3 ls []) := by
  intro n
  induction n with
  | zero =>
    intro S H locs ls l1 l2 l3 l4 w hl hf
    cases hf
  | succ n K3 =>
    intro S H locs ls l1 l2 l3 l4 w hl hf
    change gX11_move_3 N 64 (fX11_move_3 N 64 n) (S.2.1 95) l1 l2 l3 l4 = some o at hf
    generalize fX11_move_3 N 64 n = r3 at hf K3
    unfold gX11_move_3 at hf
    refine lv_iload C.1.1 C.1.2.1 dX11_move_3 (lv_at hl 4 rfl) ?_
    refine lv_iload_n C.1.1 C.1.2.1 dX11_move_5 rfl (lv_at hl 1 rfl) ?_
    refine ns_icmp_ge C hf (tgt := 31) dX11_move_6 (by decide) (fun hf => ?_) (fun hf => ?_)
    · have he := Option.some.inj hf
      subst he
      exact ns_vret C w hr hlk rfl rfl dX11_move_31
    · refine lv_aload_n C.1.1 C.1.2.1 dX11_move_9 rfl (lv_at hl 0 rfl) ?_
      refine lv_iload_n C.1.1 C.1.2.1 dX11_move_10 rfl (lv_at hl 1 rfl) ?_
      refine lv_iload_n C.1.1 C.1.2.1 dX11_move_11 rfl (lv_at hl 3 rfl) ?_
      refine lv_imul C.1.1 C.1.2.1 dX11_move_12 ?_
      refine lv_iload C.1.1 C.1.2.1 dX11_move_13 (lv_at hl 4 rfl) ?_
      refine lv_iadd C.1.1 C.1.2.1 dX11_move_15 ?_
      refine lv_aload_n C.1.1 C.1.2.1 dX11_move_16 rfl (lv_at hl 0 rfl) ?_
      refine lv_iload_n C.1.1 C.1.2.1 dX11_move_17 rfl (lv_at hl 1 rfl) ?_
      refine lv_iload_n C.1.1 C.1.2.1 dX11_move_18 rfl (lv_at hl 2 rfl) ?_
      refine lv_imul C.1.1 C.1.2.1 dX11_move_19 ?_
      refine lv_iload C.1.1 C.1.2.1 dX11_move_20 (lv_at hl 4 rfl) ?_
      refine lv_iadd C.1.1 C.1.2.1 dX11_move_22 ?_
      refine ns_iald C w 95 (hI 95 (by decide)) sh_95 hf rfl dX11_move_23 (fun x1 hf => ?_)
      refine ns_iast C w 95 (hI 95 (by decide)) sh_95 hf rfl (List.mem_of_getElem? (i := 0) rfl) dX11_move_24 (fun y2 H locs hf w => ?_)
      refine ns_iinc (lv' := fun x3 => [(4, .int x3), (0, .ref (b 95)), (1, .int l1), (2, .int l2), (3, .int l3)]) C hf dX11_move_25 hl (k := 4) rfl rfl (by decide) (fun _ => rfl) (fun x3 ls hl hf => ?_)
      refine lv_goto (tgt := 3) C.1.1 C.1.2.1 dX11_move_28 (by decide) ?_
      exact K3 w (lv_sub hl [1, 2, 3, 4, 0] rfl) hf
set_option maxHeartbeats 4000000 in
set_option maxRecDepth 100000 in
theorem mX11_move_95 (l : Launch) (D : va_G) (b : Nat → Nat) (ids : List Nat) (hI : ∀ i, i < 107 → i ∈ ids) (N : Nat) (S : ns_S) (p1 : Int32) (p2 : Int32) (p3 : Int32) {o : (Nat → Int32)} (hf : fX11_move N 64 (S.2.1 95) p1 p2 p3 = some o) : ns_M l yX11_move wsX11_move rmX11_move_95 D b ids S [.ref (b 95), .int p1, .int p2, .int p3] none (ns_A S 95 o) := by
  refine ns_start (Wr := wrX11_move_95) (by decide) rfl (Nat.le_of_ble_eq_true rfl) ?_
  intro p e s m below meth c A ls C hr hlk w hl
  have hl : lv_has ls 5 [(0, .ref (b 95)), (1, .int p1), (2, .int p2), (3, .int p3)] := hl
  unfold fX11_move at hf
  refine lv_iconst (v := 0) C.1.1 C.1.2.1 dX11_move_0 (by decide) ?_
  refine lv_istore (lv' := [(4, .int 0), (0, .ref (b 95)), (1, .int p1), (2, .int p2), (3, .int p3)]) C.1.1 C.1.2.1 dX11_move_1 hl (by decide) rfl (fun ls hl => ?_)
  exact wX11_move_95_3 N hI C hr hlk N w (lv_sub hl [1, 2, 3, 4, 0] rfl) hf
theorem lX11_copy_17 : Cond.fieldLink RX11 17 (TX11 4).1 (TX11 4).2.1 (TX11 4).2.2.1 ∈ wsX11_copy := List.mem_of_getElem? (i := 1) rfl
theorem lX11_copy_21 : Cond.fieldLink RX11 21 (TX11 5).1 (TX11 5).2.1 (TX11 5).2.2.1 ∈ wsX11_copy := List.mem_of_getElem? (i := 2) rfl
theorem lX11_copy_24 : Cond.fieldLink RX11 24 (TX11 6).1 (TX11 6).2.1 (TX11 6).2.2.1 ∈ wsX11_copy := List.mem_of_getElem? (i := 3) rfl
theorem lX11_copy_27 : Cond.fieldLink RX11 27 (TX11 7).1 (TX11 7).2.1 (TX11 7).2.2.1 ∈ wsX11_copy := List.mem_of_getElem? (i := 4) rfl
theorem lX11_copy_30 : Cond.fieldLink RX11 30 (TX11 8).1 (TX11 8).2.1 (TX11 8).2.2.1 ∈ wsX11_copy := List.mem_of_getElem? (i := 5) rfl
theorem lX11_copy_33 : Cond.fieldLink RX11 33 (TX11 9).1 (TX11 9).2.1 (TX11 9).2.2.1 ∈ wsX11_copy := List.mem_of_getElem? (i := 6) rfl
theorem lX11_copy_36 : Cond.fieldLink RX11 36 (TX11 10).1 (TX11 10).2.1 (TX11 10).2.2.1 ∈ wsX11_copy := List.mem_of_getElem? (i := 7) rfl
theorem lX11_copy_39 : Cond.fieldLink RX11 39 (TX11 11).1 (TX11 11).2.1 (TX11 11).2.2.1 ∈ wsX11_copy := List.mem_of_getElem? (i := 8) rfl
theorem lX11_copy_42 : Cond.fieldLink RX11 42 (TX11 12).1 (TX11 12).2.1 (TX11 12).2.2.1 ∈ wsX11_copy := List.mem_of_getElem? (i := 9) rfl
theorem lX11_copy_45 : Cond.fieldLink RX11 45 (TX11 13).1 (TX11 13).2.1 (TX11 13).2.2.1 ∈ wsX11_copy := List.mem_of_getElem? (i := 10) rfl
theorem lX11_copy_48 : Cond.fieldLink RX11 48 (TX11 14).1 (TX11 14).2.1 (TX11 14).2.2.1 ∈ wsX11_copy := List.mem_of_getElem? (i := 11) rfl
theorem lX11_copy_51 : Cond.fieldLink RX11 51 (TX11 15).1 (TX11 15).2.1 (TX11 15).2.2.1 ∈ wsX11_copy := List.mem_of_getElem? (i := 12) rfl
theorem lX11_copy_54 : Cond.fieldLink RX11 54 (TX11 16).1 (TX11 16).2.1 (TX11 16).2.2.1 ∈ wsX11_copy := List.mem_of_getElem? (i := 13) rfl
theorem lX11_copy_57 : Cond.fieldLink RX11 57 (TX11 17).1 (TX11 17).2.1 (TX11 17).2.2.1 ∈ wsX11_copy := List.mem_of_getElem? (i := 14) rfl
theorem lX11_copy_60 : Cond.fieldLink RX11 60 (TX11 18).1 (TX11 18).2.1 (TX11 18).2.2.1 ∈ wsX11_copy := List.mem_of_getElem? (i := 15) rfl
theorem lX11_copy_63 : Cond.fieldLink RX11 63 (TX11 19).1 (TX11 19).2.1 (TX11 19).2.2.1 ∈ wsX11_copy := List.mem_of_getElem? (i := 16) rfl
theorem lX11_copy_66 : Cond.fieldLink RX11 66 (TX11 20).1 (TX11 20).2.1 (TX11 20).2.2.1 ∈ wsX11_copy := List.mem_of_getElem? (i := 17) rfl
theorem lX11_copy_69 : Cond.fieldLink RX11 69 (TX11 21).1 (TX11 21).2.1 (TX11 21).2.2.1 ∈ wsX11_copy := List.mem_of_getElem? (i := 18) rfl
theorem lX11_copy_72 : Cond.fieldLink RX11 72 (TX11 22).1 (TX11 22).2.1 (TX11 22).2.2.1 ∈ wsX11_copy := List.mem_of_getElem? (i := 19) rfl
theorem lX11_copy_75 : Cond.fieldLink RX11 75 (TX11 23).1 (TX11 23).2.1 (TX11 23).2.2.1 ∈ wsX11_copy := List.mem_of_getElem? (i := 20) rfl
theorem lX11_copy_78 : Cond.fieldLink RX11 78 (TX11 24).1 (TX11 24).2.1 (TX11 24).2.2.1 ∈ wsX11_copy := List.mem_of_getElem? (i := 21) rfl
theorem lX11_copy_81 : Cond.fieldLink RX11 81 (TX11 25).1 (TX11 25).2.1 (TX11 25).2.2.1 ∈ wsX11_copy := List.mem_of_getElem? (i := 22) rfl
theorem lX11_copy_84 : Cond.fieldLink RX11 84 (TX11 26).1 (TX11 26).2.1 (TX11 26).2.2.1 ∈ wsX11_copy := List.mem_of_getElem? (i := 23) rfl
theorem lX11_copy_87 : Cond.fieldLink RX11 87 (TX11 27).1 (TX11 27).2.1 (TX11 27).2.2.1 ∈ wsX11_copy := List.mem_of_getElem? (i := 24) rfl
theorem lX11_copy_90 : Cond.fieldLink RX11 90 (TX11 28).1 (TX11 28).2.1 (TX11 28).2.2.1 ∈ wsX11_copy := List.mem_of_getElem? (i := 25) rfl
theorem lX11_copy_93 : Cond.fieldLink RX11 93 (TX11 29).1 (TX11 29).2.1 (TX11 29).2.2.1 ∈ wsX11_copy := List.mem_of_getElem? (i := 26) rfl
theorem lX11_copy_96 : Cond.fieldLink RX11 96 (TX11 30).1 (TX11 30).2.1 (TX11 30).2.2.1 ∈ wsX11_copy := List.mem_of_getElem? (i := 27) rfl
theorem lX11_copy_99 : Cond.fieldLink RX11 99 (TX11 31).1 (TX11 31).2.1 (TX11 31).2.2.1 ∈ wsX11_copy := List.mem_of_getElem? (i := 28) rfl
theorem lX11_copy_102 : Cond.fieldLink RX11 102 (TX11 32).1 (TX11 32).2.1 (TX11 32).2.2.1 ∈ wsX11_copy := List.mem_of_getElem? (i := 29) rfl
theorem lX11_copy_105 : Cond.fieldLink RX11 105 (TX11 33).1 (TX11 33).2.1 (TX11 33).2.2.1 ∈ wsX11_copy := List.mem_of_getElem? (i := 30) rfl
theorem lX11_copy_108 : Cond.fieldLink RX11 108 (TX11 34).1 (TX11 34).2.1 (TX11 34).2.2.1 ∈ wsX11_copy := List.mem_of_getElem? (i := 31) rfl
theorem inX11_copy_11 : ∀ w ∈ u_ws RX11 TX11 59, w ∈ wsX11_copy := fun _ h => List.mem_cons_of_mem _ (List.mem_append_right _ h)
theorem hdX11_copy : yX11_copy.cls = RX11 ∧ yX11_copy.cls ≠ "java/lang/invoke/MethodHandle" ∧ yX11_copy.cls ≠ "java/lang/invoke/VarHandle" ∧ (parseMethodDescriptor yX11_copy.desc).map (fun d => d.parameters.length) = some 2 := by decide +kernel
abbrev wrX11_copy_62 : List (Nat × Nat) := [(1, 65), (1, 66), (1, 67), (1, 68), (1, 69), (1, 70), (1, 71), (1, 72), (1, 73), (1, 74), (1, 75), (1, 76), (1, 77), (1, 78), (1, 79), (1, 80), (1, 81), (1, 82), (1, 83), (1, 84), (1, 85), (1, 86), (1, 87), (1, 88), (1, 89), (1, 90), (1, 91), (1, 92), (1, 93), (1, 94), (1, 95)]
abbrev rmX11_copy_62 : Room := { frames := 1, cells := 0, slots := 0, locals := 24 }
set_option maxHeartbeats 4000000 in
set_option maxRecDepth 100000 in
theorem mX11_copy_62 (l : Launch) (D : va_G) (b : Nat → Nat) (ids : List Nat) (hI : ∀ i, i < 107 → i ∈ ids) (N : Nat) (S : ns_S) (p1 : Int32) (p2 : Int32) {o : (Nat → Int32) × (Nat → Int32) × (Nat → Int32) × (Nat → Int32) × (Nat → Int32) × (Nat → Int32) × (Nat → Int32) × (Nat → Int32) × (Nat → Int32) × (Nat → Int32) × (Nat → Int32) × (Nat → Int32) × (Nat → Int32) × (Nat → Int32) × (Nat → Int32) × (Nat → Int32) × (Nat → Int32) × (Nat → Int32) × (Nat → Int32) × (Nat → Int32) × (Nat → Int32) × (Nat → Int32) × (Nat → Int32) × (Nat → Int32) × (Nat → Int32) × (Nat → Int32) × (Nat → Int32) × (Nat → Int32) × (Nat → Int32) × (Nat → Int32) × (Nat → Int32)} (hf : fX11_copy N (S.2.1 65) (S.2.1 66) (S.2.1 67) (S.2.1 68) (S.2.1 69) (S.2.1 70) (S.2.1 71) (S.2.1 72) (S.2.1 73) (S.2.1 74) (S.2.1 75) (S.2.1 76) (S.2.1 77) (S.2.1 78) (S.2.1 79) (S.2.1 80) (S.2.1 81) (S.2.1 82) (S.2.1 83) (S.2.1 84) (S.2.1 85) (S.2.1 86) (S.2.1 87) (S.2.1 88) (S.2.1 89) (S.2.1 90) (S.2.1 91) (S.2.1 92) (S.2.1 93) (S.2.1 94) (S.2.1 95) p1 p2 = some o) : ns_M l yX11_copy wsX11_copy rmX11_copy_62 D b ids S [.ref (b 62), .int p1, .int p2] none (ns_A (ns_A (ns_A (ns_A (ns_A (ns_A (ns_A (ns_A (ns_A (ns_A (ns_A (ns_A (ns_A (ns_A (ns_A (ns_A (ns_A (ns_A (ns_A (ns_A (ns_A (ns_A (ns_A (ns_A (ns_A (ns_A (ns_A (ns_A (ns_A (ns_A (ns_A S 95 o.2.2.2.2.2.2.2.2.2.2.2.2.2.2.2.2.2.2.2.2.2.2.2.2.2.2.2.2.2.2) 94 o.2.2.2.2.2.2.2.2.2.2.2.2.2.2.2.2.2.2.2.2.2.2.2.2.2.2.2.2.2.1) 93 o.2.2.2.2.2.2.2.2.2.2.2.2.2.2.2.2.2.2.2.2.2.2.2.2.2.2.2.2.1) 92 o.2.2.2.2.2.2.2.2.2.2.2.2.2.2.2.2.2.2.2.2.2.2.2.2.2.2.2.1) 91 o.2.2.2.2.2.2.2.2.2.2.2.2.2.2.2.2.2.2.2.2.2.2.2.2.2.2.1) 90 o.2.2.2.2.2.2.2.2.2.2.2.2.2.2.2.2.2.2.2.2.2.2.2.2.2.1) 89 o.2.2.2.2.2.2.2.2.2.2.2.2.2.2.2.2.2.2.2.2.2.2.2.2.1) 88 o.2.2.2.2.2.2.2.2.2.2.2.2.2.2.2.2.2.2.2.2.2.2.2.1) 87 o.2.2.2.2.2.2.2.2.2.2.2.2.2.2.2.2.2.2.2.2.2.2.1) 86 o.2.2.2.2.2.2.2.2.2.2.2.2.2.2.2.2.2.2.2.2.2.1) 85 o.2.2.2.2.2.2.2.2.2.2.2.2.2.2.2.2.2.2.2.2.1) 84 o.2.2.2.2.2.2.2.2.2.2.2.2.2.2.2.2.2.2.2.1) 83 o.2.2.2.2.2.2.2.2.2.2.2.2.2.2.2.2.2.2.1) 82 o.2.2.2.2.2.2.2.2.2.2.2.2.2.2.2.2.2.1) 81 o.2.2.2.2.2.2.2.2.2.2.2.2.2.2.2.2.1) 80 o.2.2.2.2.2.2.2.2.2.2.2.2.2.2.2.1) 79 o.2.2.2.2.2.2.2.2.2.2.2.2.2.2.1) 78 o.2.2.2.2.2.2.2.2.2.2.2.2.2.1) 77 o.2.2.2.2.2.2.2.2.2.2.2.2.1) 76 o.2.2.2.2.2.2.2.2.2.2.2.1) 75 o.2.2.2.2.2.2.2.2.2.2.1) 74 o.2.2.2.2.2.2.2.2.2.1) 73 o.2.2.2.2.2.2.2.2.1) 72 o.2.2.2.2.2.2.2.1) 71 o.2.2.2.2.2.2.1) 70 o.2.2.2.2.2.1) 69 o.2.2.2.2.1) 68 o.2.2.2.1) 67 o.2.2.1) 66 o.2.1) 65 o.1) := by
  refine ns_start (Wr := wrX11_copy_62) (by decide) rfl (Nat.le_of_ble_eq_true rfl) ?_
  intro p e s m below meth c A ls C hr hlk w hl
  have hl : lv_has ls 3 [(0, .ref (b 62)), (1, .int p1), (2, .int p2)] := hl
  unfold fX11_copy at hf
  refine lv_aload_n C.1.1 C.1.2.1 dX11_copy_0 rfl (lv_at hl 0 rfl) ?_
  refine ns_getr C w 62 (hI 62 (by decide)) sh_62 (rfl : vwCl[11]? = some (RX11, TX11, 59)) inX11_copy_11 4 (by decide) rfl lX11_copy_17 dX11_copy_1 ?_
  refine lv_iconst (v := 1) C.1.1 C.1.2.1 dX11_copy_4 (by decide) ?_
  refine lv_iload_n C.1.1 C.1.2.1 dX11_copy_5 rfl (lv_at hl 1 rfl) ?_
  refine lv_iload_n C.1.1 C.1.2.1 dX11_copy_6 rfl (lv_at hl 2 rfl) ?_
  refine ns_callS C w [.ref (b 65), .int 1, .int p1, .int p2] hf (fun u hu => mX11_move_65 l D b ids hI N _ 1 p1 p2 hu) gX11_copy_X11_move rfl rfl rfl hdX11_move ⟨Nat.le_of_ble_eq_true rfl, Nat.le_of_ble_eq_true rfl⟩ (fun u h => (h.A (List.mem_of_getElem? (i := 0) rfl) _)) rfl hl.1 rfl (Nat.le_of_ble_eq_true rfl) ⟨Nat.le_refl _, Nat.le_refl _⟩ dX11_copy_7 (fun o1 H locs hf w => ?_)
  refine lv_aload_n C.1.1 C.1.2.1 dX11_copy_10 rfl (lv_at hl 0 rfl) ?_
  refine ns_getr C w 62 (hI 62 (by decide)) sh_62 (rfl : vwCl[11]? = some (RX11, TX11, 59)) inX11_copy_11 5 (by decide) rfl lX11_copy_21 dX11_copy_11 ?_
  refine lv_iconst (v := 5) C.1.1 C.1.2.1 dX11_copy_14 (by decide) ?_
  refine lv_iload_n C.1.1 C.1.2.1 dX11_copy_15 rfl (lv_at hl 1 rfl) ?_
  refine lv_iload_n C.1.1 C.1.2.1 dX11_copy_16 rfl (lv_at hl 2 rfl) ?_
  refine ns_callS C w [.ref (b 66), .int 5, .int p1, .int p2] hf (fun u hu => mX11_move_66 l D b ids hI N _ 5 p1 p2 hu) gX11_copy_X11_move rfl rfl rfl hdX11_move ⟨Nat.le_of_ble_eq_true rfl, Nat.le_of_ble_eq_true rfl⟩ (fun u h => (h.A (List.mem_of_getElem? (i := 1) rfl) _)) rfl hl.1 rfl (Nat.le_of_ble_eq_true rfl) ⟨Nat.le_refl _, Nat.le_refl _⟩ dX11_copy_17 (fun o2 H locs hf w => ?_)
  refine lv_aload_n C.1.1 C.1.2.1 dX11_copy_20 rfl (lv_at hl 0 rfl) ?_
  refine ns_getr C w 62 (hI 62 (by decide)) sh_62 (rfl : vwCl[11]? = some (RX11, TX11, 59)) inX11_copy_11 6 (by decide) rfl lX11_copy_24 dX11_copy_21 ?_
  refine lv_iconst (v := 1) C.1.1 C.1.2.1 dX11_copy_24 (by decide) ?_
  refine lv_iload_n C.1.1 C.1.2.1 dX11_copy_25 rfl (lv_at hl 1 rfl) ?_
  refine lv_iload_n C.1.1 C.1.2.1 dX11_copy_26 rfl (lv_at hl 2 rfl) ?_
  refine ns_callS C w [.ref (b 67), .int 1, .int p1, .int p2] hf (fun u hu => mX11_move_67 l D b ids hI N _ 1 p1 p2 hu) gX11_copy_X11_move rfl rfl rfl hdX11_move ⟨Nat.le_of_ble_eq_true rfl, Nat.le_of_ble_eq_true rfl⟩ (fun u h => (h.A (List.mem_of_getElem? (i := 2) rfl) _)) rfl hl.1 rfl (Nat.le_of_ble_eq_true rfl) ⟨Nat.le_refl _, Nat.le_refl _⟩ dX11_copy_27 (fun o3 H locs hf w => ?_)
  refine lv_aload_n C.1.1 C.1.2.1 dX11_copy_30 rfl (lv_at hl 0 rfl) ?_
  refine ns_getr C w 62 (hI 62 (by decide)) sh_62 (rfl : vwCl[11]? = some (RX11, TX11, 59)) inX11_copy_11 7 (by decide) rfl lX11_copy_27 dX11_copy_31 ?_
  refine lv_bipush (v := 10) C.1.1 C.1.2.1 dX11_copy_34 (by decide) ?_
  refine lv_iload_n C.1.1 C.1.2.1 dX11_copy_36 rfl (lv_at hl 1 rfl) ?_
  refine lv_iload_n C.1.1 C.1.2.1 dX11_copy_37 rfl (lv_at hl 2 rfl) ?_
  refine ns_callS C w [.ref (b 68), .int 10, .int p1, .int p2] hf (fun u hu => mX11_move_68 l D b ids hI N _ 10 p1 p2 hu) gX11_copy_X11_move rfl rfl rfl hdX11_move ⟨Nat.le_of_ble_eq_true rfl, Nat.le_of_ble_eq_true rfl⟩ (fun u h => (h.A (List.mem_of_getElem? (i := 3) rfl) _)) rfl hl.1 rfl (Nat.le_of_ble_eq_true rfl) ⟨Nat.le_refl _, Nat.le_refl _⟩ dX11_copy_38 (fun o4 H locs hf w => ?_)
  refine lv_aload_n C.1.1 C.1.2.1 dX11_copy_41 rfl (lv_at hl 0 rfl) ?_
  refine ns_getr C w 62 (hI 62 (by decide)) sh_62 (rfl : vwCl[11]? = some (RX11, TX11, 59)) inX11_copy_11 8 (by decide) rfl lX11_copy_30 dX11_copy_42 ?_
  refine lv_bipush (v := 10) C.1.1 C.1.2.1 dX11_copy_45 (by decide) ?_
  refine lv_iload_n C.1.1 C.1.2.1 dX11_copy_47 rfl (lv_at hl 1 rfl) ?_
  refine lv_iload_n C.1.1 C.1.2.1 dX11_copy_48 rfl (lv_at hl 2 rfl) ?_
  refine ns_callS C w [.ref (b 69), .int 10, .int p1, .int p2] hf (fun u hu => mX11_move_69 l D b ids hI N _ 10 p1 p2 hu) gX11_copy_X11_move rfl rfl rfl hdX11_move ⟨Nat.le_of_ble_eq_true rfl, Nat.le_of_ble_eq_true rfl⟩ (fun u h => (h.A (List.mem_of_getElem? (i := 4) rfl) _)) rfl hl.1 rfl (Nat.le_of_ble_eq_true rfl) ⟨Nat.le_refl _, Nat.le_refl _⟩ dX11_copy_49 (fun o5 H locs hf w => ?_)
  refine lv_aload_n C.1.1 C.1.2.1 dX11_copy_52 rfl (lv_at hl 0 rfl) ?_
  refine ns_getr C w 62 (hI 62 (by decide)) sh_62 (rfl : vwCl[11]? = some (RX11, TX11, 59)) inX11_copy_11 9 (by decide) rfl lX11_copy_33 dX11_copy_53 ?_
  refine lv_bipush (v := 10) C.1.1 C.1.2.1 dX11_copy_56 (by decide) ?_
  refine lv_iload_n C.1.1 C.1.2.1 dX11_copy_58 rfl (lv_at hl 1 rfl) ?_
  refine lv_iload_n C.1.1 C.1.2.1 dX11_copy_59 rfl (lv_at hl 2 rfl) ?_
  refine ns_callS C w [.ref (b 70), .int 10, .int p1, .int p2] hf (fun u hu => mX11_move_70 l D b ids hI N _ 10 p1 p2 hu) gX11_copy_X11_move rfl rfl rfl hdX11_move ⟨Nat.le_of_ble_eq_true rfl, Nat.le_of_ble_eq_true rfl⟩ (fun u h => (h.A (List.mem_of_getElem? (i := 5) rfl) _)) rfl hl.1 rfl (Nat.le_of_ble_eq_true rfl) ⟨Nat.le_refl _, Nat.le_refl _⟩ dX11_copy_60 (fun o6 H locs hf w => ?_)
  refine lv_aload_n C.1.1 C.1.2.1 dX11_copy_63 rfl (lv_at hl 0 rfl) ?_
  refine ns_getr C w 62 (hI 62 (by decide)) sh_62 (rfl : vwCl[11]? = some (RX11, TX11, 59)) inX11_copy_11 10 (by decide) rfl lX11_copy_36 dX11_copy_64 ?_
  refine lv_bipush (v := 10) C.1.1 C.1.2.1 dX11_copy_67 (by decide) ?_
  refine lv_iload_n C.1.1 C.1.2.1 dX11_copy_69 rfl (lv_at hl 1 rfl) ?_
  refine lv_iload_n C.1.1 C.1.2.1 dX11_copy_70 rfl (lv_at hl 2 rfl) ?_
  refine ns_callS C w [.ref (b 71), .int 10, .int p1, .int p2] hf (fun u hu => mX11_move_71 l D b ids hI N _ 10 p1 p2 hu) gX11_copy_X11_move rfl rfl rfl hdX11_move ⟨Nat.le_of_ble_eq_true rfl, Nat.le_of_ble_eq_true rfl⟩ (fun u h => (h.A (List.mem_of_getElem? (i := 6) rfl) _)) rfl hl.1 rfl (Nat.le_of_ble_eq_true rfl) ⟨Nat.le_refl _, Nat.le_refl _⟩ dX11_copy_71 (fun o7 H locs hf w => ?_)
  refine lv_aload_n C.1.1 C.1.2.1 dX11_copy_74 rfl (lv_at hl 0 rfl) ?_
  refine ns_getr C w 62 (hI 62 (by decide)) sh_62 (rfl : vwCl[11]? = some (RX11, TX11, 59)) inX11_copy_11 11 (by decide) rfl lX11_copy_39 dX11_copy_75 ?_
  refine lv_bipush (v := 10) C.1.1 C.1.2.1 dX11_copy_78 (by decide) ?_
  refine lv_iload_n C.1.1 C.1.2.1 dX11_copy_80 rfl (lv_at hl 1 rfl) ?_
  refine lv_iload_n C.1.1 C.1.2.1 dX11_copy_81 rfl (lv_at hl 2 rfl) ?_
  refine ns_callS C w [.ref (b 72), .int 10, .int p1, .int p2] hf (fun u hu => mX11_move_72 l D b ids hI N _ 10 p1 p2 hu) gX11_copy_X11_move rfl rfl rfl hdX11_move ⟨Nat.le_of_ble_eq_true rfl, Nat.le_of_ble_eq_true rfl⟩ (fun u h => (h.A (List.mem_of_getElem? (i := 7) rfl) _)) rfl hl.1 rfl (Nat.le_of_ble_eq_true rfl) ⟨Nat.le_refl _, Nat.le_refl _⟩ dX11_copy_82 (fun o8 H locs hf w => ?_)
  refine lv_aload_n C.1.1 C.1.2.1 dX11_copy_85 rfl (lv_at hl 0 rfl) ?_
  refine ns_getr C w 62 (hI 62 (by decide)) sh_62 (rfl : vwCl[11]? = some (RX11, TX11, 59)) inX11_copy_11 12 (by decide) rfl lX11_copy_42 dX11_copy_86 ?_
  refine lv_iconst (v := 1) C.1.1 C.1.2.1 dX11_copy_89 (by decide) ?_
  refine lv_iload_n C.1.1 C.1.2.1 dX11_copy_90 rfl (lv_at hl 1 rfl) ?_
  refine lv_iload_n C.1.1 C.1.2.1 dX11_copy_91 rfl (lv_at hl 2 rfl) ?_
  refine ns_callS C w [.ref (b 73), .int 1, .int p1, .int p2] hf (fun u hu => mX11_move_73 l D b ids hI N _ 1 p1 p2 hu) gX11_copy_X11_move rfl rfl rfl hdX11_move ⟨Nat.le_of_ble_eq_true rfl, Nat.le_of_ble_eq_true rfl⟩ (fun u h => (h.A (List.mem_of_getElem? (i := 8) rfl) _)) rfl hl.1 rfl (Nat.le_of_ble_eq_true rfl) ⟨Nat.le_refl _, Nat.le_refl _⟩ dX11_copy_92 (fun o9 H locs hf w => ?_)
  refine lv_aload_n C.1.1 C.1.2.1 dX11_copy_95 rfl (lv_at hl 0 rfl) ?_
  refine ns_getr C w 62 (hI 62 (by decide)) sh_62 (rfl : vwCl[11]? = some (RX11, TX11, 59)) inX11_copy_11 13 (by decide) rfl lX11_copy_45 dX11_copy_96 ?_
  refine lv_bipush (v := 30) C.1.1 C.1.2.1 dX11_copy_99 (by decide) ?_
  refine lv_iload_n C.1.1 C.1.2.1 dX11_copy_101 rfl (lv_at hl 1 rfl) ?_
  refine lv_iload_n C.1.1 C.1.2.1 dX11_copy_102 rfl (lv_at hl 2 rfl) ?_
  refine ns_callS C w [.ref (b 74), .int 30, .int p1, .int p2] hf (fun u hu => mX11_move_74 l D b ids hI N _ 30 p1 p2 hu) gX11_copy_X11_move rfl rfl rfl hdX11_move ⟨Nat.le_of_ble_eq_true rfl, Nat.le_of_ble_eq_true rfl⟩ (fun u h => (h.A (List.mem_of_getElem? (i := 9) rfl) _)) rfl hl.1 rfl (Nat.le_of_ble_eq_true rfl) ⟨Nat.le_refl _, Nat.le_refl _⟩ dX11_copy_103 (fun o10 H locs hf w => ?_)
  refine lv_aload_n C.1.1 C.1.2.1 dX11_copy_106 rfl (lv_at hl 0 rfl) ?_
  refine ns_getr C w 62 (hI 62 (by decide)) sh_62 (rfl : vwCl[11]? = some (RX11, TX11, 59)) inX11_copy_11 14 (by decide) rfl lX11_copy_48 dX11_copy_107 ?_
  refine lv_bipush (v := 30) C.1.1 C.1.2.1 dX11_copy_110 (by decide) ?_
  refine lv_iload_n C.1.1 C.1.2.1 dX11_copy_112 rfl (lv_at hl 1 rfl) ?_
  refine lv_iload_n C.1.1 C.1.2.1 dX11_copy_113 rfl (lv_at hl 2 rfl) ?_
  refine ns_callS C w [.ref (b 75), .int 30, .int p1, .int p2] hf (fun u hu => mX11_move_75 l D b ids hI N _ 30 p1 p2 hu) gX11_copy_X11_move rfl rfl rfl hdX11_move ⟨Nat.le_of_ble_eq_true rfl, Nat.le_of_ble_eq_true rfl⟩ (fun u h => (h.A (List.mem_of_getElem? (i := 10) rfl) _)) rfl hl.1 rfl (Nat.le_of_ble_eq_true rfl) ⟨Nat.le_refl _, Nat.le_refl _⟩ dX11_copy_114 (fun o11 H locs hf w => ?_)
  refine lv_aload_n C.1.1 C.1.2.1 dX11_copy_117 rfl (lv_at hl 0 rfl) ?_
  refine ns_getr C w 62 (hI 62 (by decide)) sh_62 (rfl : vwCl[11]? = some (RX11, TX11, 59)) inX11_copy_11 15 (by decide) rfl lX11_copy_51 dX11_copy_118 ?_
  refine lv_bipush (v := 30) C.1.1 C.1.2.1 dX11_copy_121 (by decide) ?_
  refine lv_iload_n C.1.1 C.1.2.1 dX11_copy_123 rfl (lv_at hl 1 rfl) ?_
  refine lv_iload_n C.1.1 C.1.2.1 dX11_copy_124 rfl (lv_at hl 2 rfl) ?_
  refine ns_callS C w [.ref (b 76), .int 30, .int p1, .int p2] hf (fun u hu => mX11_move_76 l D b ids hI N _ 30 p1 p2 hu) gX11_copy_X11_move rfl rfl rfl hdX11_move ⟨Nat.le_of_ble_eq_true rfl, Nat.le_of_ble_eq_true rfl⟩ (fun u h => (h.A (List.mem_of_getElem? (i := 11) rfl) _)) rfl hl.1 rfl (Nat.le_of_ble_eq_true rfl) ⟨Nat.le_refl _, Nat.le_refl _⟩ dX11_copy_125 (fun o12 H locs hf w => ?_)
  refine lv_aload_n C.1.1 C.1.2.1 dX11_copy_128 rfl (lv_at hl 0 rfl) ?_
  refine ns_getr C w 62 (hI 62 (by decide)) sh_62 (rfl : vwCl[11]? = some (RX11, TX11, 59)) inX11_copy_11 16 (by decide) rfl lX11_copy_54 dX11_copy_129 ?_
  refine lv_bipush (v := 30) C.1.1 C.1.2.1 dX11_copy_132 (by decide) ?_
  refine lv_iload_n C.1.1 C.1.2.1 dX11_copy_134 rfl (lv_at hl 1 rfl) ?_
  refine lv_iload_n C.1.1 C.1.2.1 dX11_copy_135 rfl (lv_at hl 2 rfl) ?_
  refine ns_callS C w [.ref (b 77), .int 30, .int p1, .int p2] hf (fun u hu => mX11_move_77 l D b ids hI N _ 30 p1 p2 hu) gX11_copy_X11_move rfl rfl rfl hdX11_move ⟨Nat.le_of_ble_eq_true rfl, Nat.le_of_ble_eq_true rfl⟩ (fun u h => (h.A (List.mem_of_getElem? (i := 12) rfl) _)) rfl hl.1 rfl (Nat.le_of_ble_eq_true rfl) ⟨Nat.le_refl _, Nat.le_refl _⟩ dX11_copy_136 (fun o13 H locs hf w => ?_)
  refine lv_aload_n C.1.1 C.1.2.1 dX11_copy_139 rfl (lv_at hl 0 rfl) ?_
  refine ns_getr C w 62 (hI 62 (by decide)) sh_62 (rfl : vwCl[11]? = some (RX11, TX11, 59)) inX11_copy_11 17 (by decide) rfl lX11_copy_57 dX11_copy_140 ?_
  refine lv_sipush (v := 180) C.1.1 C.1.2.1 dX11_copy_143 (by decide) ?_
  refine lv_iload_n C.1.1 C.1.2.1 dX11_copy_146 rfl (lv_at hl 1 rfl) ?_
  refine lv_iload_n C.1.1 C.1.2.1 dX11_copy_147 rfl (lv_at hl 2 rfl) ?_
  refine ns_callS C w [.ref (b 78), .int 180, .int p1, .int p2] hf (fun u hu => mX11_move_78 l D b ids hI N _ 180 p1 p2 hu) gX11_copy_X11_move rfl rfl rfl hdX11_move ⟨Nat.le_of_ble_eq_true rfl, Nat.le_of_ble_eq_true rfl⟩ (fun u h => (h.A (List.mem_of_getElem? (i := 13) rfl) _)) rfl hl.1 rfl (Nat.le_of_ble_eq_true rfl) ⟨Nat.le_refl _, Nat.le_refl _⟩ dX11_copy_148 (fun o14 H locs hf w => ?_)
  refine lv_aload_n C.1.1 C.1.2.1 dX11_copy_151 rfl (lv_at hl 0 rfl) ?_
  refine ns_getr C w 62 (hI 62 (by decide)) sh_62 (rfl : vwCl[11]? = some (RX11, TX11, 59)) inX11_copy_11 18 (by decide) rfl lX11_copy_60 dX11_copy_152 ?_
  refine lv_iconst (v := 1) C.1.1 C.1.2.1 dX11_copy_155 (by decide) ?_
  refine lv_iload_n C.1.1 C.1.2.1 dX11_copy_156 rfl (lv_at hl 1 rfl) ?_
  refine lv_iload_n C.1.1 C.1.2.1 dX11_copy_157 rfl (lv_at hl 2 rfl) ?_
  refine ns_callS C w [.ref (b 79), .int 1, .int p1, .int p2] hf (fun u hu => mX11_move_79 l D b ids hI N _ 1 p1 p2 hu) gX11_copy_X11_move rfl rfl rfl hdX11_move ⟨Nat.le_of_ble_eq_true rfl, Nat.le_of_ble_eq_true rfl⟩ (fun u h => (h.A (List.mem_of_getElem? (i := 14) rfl) _)) rfl hl.1 rfl (Nat.le_of_ble_eq_true rfl) ⟨Nat.le_refl _, Nat.le_refl _⟩ dX11_copy_158 (fun o15 H locs hf w => ?_)
  refine lv_aload_n C.1.1 C.1.2.1 dX11_copy_161 rfl (lv_at hl 0 rfl) ?_
  refine ns_getr C w 62 (hI 62 (by decide)) sh_62 (rfl : vwCl[11]? = some (RX11, TX11, 59)) inX11_copy_11 19 (by decide) rfl lX11_copy_63 dX11_copy_162 ?_
  refine lv_iconst (v := 1) C.1.1 C.1.2.1 dX11_copy_165 (by decide) ?_
  refine lv_iload_n C.1.1 C.1.2.1 dX11_copy_166 rfl (lv_at hl 1 rfl) ?_
  refine lv_iload_n C.1.1 C.1.2.1 dX11_copy_167 rfl (lv_at hl 2 rfl) ?_
  refine ns_callS C w [.ref (b 80), .int 1, .int p1, .int p2] hf (fun u hu => mX11_move_80 l D b ids hI N _ 1 p1 p2 hu) gX11_copy_X11_move rfl rfl rfl hdX11_move ⟨Nat.le_of_ble_eq_true rfl, Nat.le_of_ble_eq_true rfl⟩ (fun u h => (h.A (List.mem_of_getElem? (i := 15) rfl) _)) rfl hl.1 rfl (Nat.le_of_ble_eq_true rfl) ⟨Nat.le_refl _, Nat.le_refl _⟩ dX11_copy_168 (fun o16 H locs hf w => ?_)
  refine lv_aload_n C.1.1 C.1.2.1 dX11_copy_171 rfl (lv_at hl 0 rfl) ?_
  refine ns_getr C w 62 (hI 62 (by decide)) sh_62 (rfl : vwCl[11]? = some (RX11, TX11, 59)) inX11_copy_11 20 (by decide) rfl lX11_copy_66 dX11_copy_172 ?_
  refine lv_bipush (v := 10) C.1.1 C.1.2.1 dX11_copy_175 (by decide) ?_
  refine lv_iload_n C.1.1 C.1.2.1 dX11_copy_177 rfl (lv_at hl 1 rfl) ?_
  refine lv_iload_n C.1.1 C.1.2.1 dX11_copy_178 rfl (lv_at hl 2 rfl) ?_
  refine ns_callS C w [.ref (b 81), .int 10, .int p1, .int p2] hf (fun u hu => mX11_move_81 l D b ids hI N _ 10 p1 p2 hu) gX11_copy_X11_move rfl rfl rfl hdX11_move ⟨Nat.le_of_ble_eq_true rfl, Nat.le_of_ble_eq_true rfl⟩ (fun u h => (h.A (List.mem_of_getElem? (i := 16) rfl) _)) rfl hl.1 rfl (Nat.le_of_ble_eq_true rfl) ⟨Nat.le_refl _, Nat.le_refl _⟩ dX11_copy_179 (fun o17 H locs hf w => ?_)
  refine lv_aload_n C.1.1 C.1.2.1 dX11_copy_182 rfl (lv_at hl 0 rfl) ?_
  refine ns_getr C w 62 (hI 62 (by decide)) sh_62 (rfl : vwCl[11]? = some (RX11, TX11, 59)) inX11_copy_11 21 (by decide) rfl lX11_copy_69 dX11_copy_183 ?_
  refine lv_bipush (v := 10) C.1.1 C.1.2.1 dX11_copy_186 (by decide) ?_
  refine lv_iload_n C.1.1 C.1.2.1 dX11_copy_188 rfl (lv_at hl 1 rfl) ?_
  refine lv_iload_n C.1.1 C.1.2.1 dX11_copy_189 rfl (lv_at hl 2 rfl) ?_
  refine ns_callS C w [.ref (b 82), .int 10, .int p1, .int p2] hf (fun u hu => mX11_move_82 l D b ids hI N _ 10 p1 p2 hu) gX11_copy_X11_move rfl rfl rfl hdX11_move ⟨Nat.le_of_ble_eq_true rfl, Nat.le_of_ble_eq_true rfl⟩ (fun u h => (h.A (List.mem_of_getElem? (i := 17) rfl) _)) rfl hl.1 rfl (Nat.le_of_ble_eq_true rfl) ⟨Nat.le_refl _, Nat.le_refl _⟩ dX11_copy_190 (fun o18 H locs hf w => ?_)
  refine lv_aload_n C.1.1 C.1.2.1 dX11_copy_193 rfl (lv_at hl 0 rfl) ?_
  refine ns_getr C w 62 (hI 62 (by decide)) sh_62 (rfl : vwCl[11]? = some (RX11, TX11, 59)) inX11_copy_11 22 (by decide) rfl lX11_copy_72 dX11_copy_194 ?_
  refine lv_bipush (v := 10) C.1.1 C.1.2.1 dX11_copy_197 (by decide) ?_
  refine lv_iload_n C.1.1 C.1.2.1 dX11_copy_199 rfl (lv_at hl 1 rfl) ?_
  refine lv_iload_n C.1.1 C.1.2.1 dX11_copy_200 rfl (lv_at hl 2 rfl) ?_
  refine ns_callS C w [.ref (b 83), .int 10, .int p1, .int p2] hf (fun u hu => mX11_move_83 l D b ids hI N _ 10 p1 p2 hu) gX11_copy_X11_move rfl rfl rfl hdX11_move ⟨Nat.le_of_ble_eq_true rfl, Nat.le_of_ble_eq_true rfl⟩ (fun u h => (h.A (List.mem_of_getElem? (i := 18) rfl) _)) rfl hl.1 rfl (Nat.le_of_ble_eq_true rfl) ⟨Nat.le_refl _, Nat.le_refl _⟩ dX11_copy_201 (fun o19 H locs hf w => ?_)
  refine lv_aload_n C.1.1 C.1.2.1 dX11_copy_204 rfl (lv_at hl 0 rfl) ?_
  refine ns_getr C w 62 (hI 62 (by decide)) sh_62 (rfl : vwCl[11]? = some (RX11, TX11, 59)) inX11_copy_11 23 (by decide) rfl lX11_copy_75 dX11_copy_205 ?_
  refine lv_bipush (v := 30) C.1.1 C.1.2.1 dX11_copy_208 (by decide) ?_
  refine lv_iload_n C.1.1 C.1.2.1 dX11_copy_210 rfl (lv_at hl 1 rfl) ?_
  refine lv_iload_n C.1.1 C.1.2.1 dX11_copy_211 rfl (lv_at hl 2 rfl) ?_
  refine ns_callS C w [.ref (b 84), .int 30, .int p1, .int p2] hf (fun u hu => mX11_move_84 l D b ids hI N _ 30 p1 p2 hu) gX11_copy_X11_move rfl rfl rfl hdX11_move ⟨Nat.le_of_ble_eq_true rfl, Nat.le_of_ble_eq_true rfl⟩ (fun u h => (h.A (List.mem_of_getElem? (i := 19) rfl) _)) rfl hl.1 rfl (Nat.le_of_ble_eq_true rfl) ⟨Nat.le_refl _, Nat.le_refl _⟩ dX11_copy_212 (fun o20 H locs hf w => ?_)
  refine lv_aload_n C.1.1 C.1.2.1 dX11_copy_215 rfl (lv_at hl 0 rfl) ?_
  refine ns_getr C w 62 (hI 62 (by decide)) sh_62 (rfl : vwCl[11]? = some (RX11, TX11, 59)) inX11_copy_11 24 (by decide) rfl lX11_copy_78 dX11_copy_216 ?_
  refine lv_bipush (v := 30) C.1.1 C.1.2.1 dX11_copy_219 (by decide) ?_
  refine lv_iload_n C.1.1 C.1.2.1 dX11_copy_221 rfl (lv_at hl 1 rfl) ?_
  refine lv_iload_n C.1.1 C.1.2.1 dX11_copy_222 rfl (lv_at hl 2 rfl) ?_
  refine ns_callS C w [.ref (b 85), .int 30, .int p1, .int p2] hf (fun u hu => mX11_move_85 l D b ids hI N _ 30 p1 p2 hu) gX11_copy_X11_move rfl rfl rfl hdX11_move ⟨Nat.le_of_ble_eq_true rfl, Nat.le_of_ble_eq_true rfl⟩ (fun u h => (h.A (List.mem_of_getElem? (i := 20) rfl) _)) rfl hl.1 rfl (Nat.le_of_ble_eq_true rfl) ⟨Nat.le_refl _, Nat.le_refl _⟩ dX11_copy_223 (fun o21 H locs hf w => ?_)
  refine lv_aload_n C.1.1 C.1.2.1 dX11_copy_226 rfl (lv_at hl 0 rfl) ?_
  refine ns_getr C w 62 (hI 62 (by decide)) sh_62 (rfl : vwCl[11]? = some (RX11, TX11, 59)) inX11_copy_11 25 (by decide) rfl lX11_copy_81 dX11_copy_227 ?_
  refine lv_bipush (v := 6) C.1.1 C.1.2.1 dX11_copy_230 (by decide) ?_
  refine lv_iload_n C.1.1 C.1.2.1 dX11_copy_232 rfl (lv_at hl 1 rfl) ?_
  refine lv_iload_n C.1.1 C.1.2.1 dX11_copy_233 rfl (lv_at hl 2 rfl) ?_
  refine ns_callS C w [.ref (b 86), .int 6, .int p1, .int p2] hf (fun u hu => mX11_move_86 l D b ids hI N _ 6 p1 p2 hu) gX11_copy_X11_move rfl rfl rfl hdX11_move ⟨Nat.le_of_ble_eq_true rfl, Nat.le_of_ble_eq_true rfl⟩ (fun u h => (h.A (List.mem_of_getElem? (i := 21) rfl) _)) rfl hl.1 rfl (Nat.le_of_ble_eq_true rfl) ⟨Nat.le_refl _, Nat.le_refl _⟩ dX11_copy_234 (fun o22 H locs hf w => ?_)
  refine lv_aload_n C.1.1 C.1.2.1 dX11_copy_237 rfl (lv_at hl 0 rfl) ?_
  refine ns_getr C w 62 (hI 62 (by decide)) sh_62 (rfl : vwCl[11]? = some (RX11, TX11, 59)) inX11_copy_11 26 (by decide) rfl lX11_copy_84 dX11_copy_238 ?_
  refine lv_iconst (v := 5) C.1.1 C.1.2.1 dX11_copy_241 (by decide) ?_
  refine lv_iload_n C.1.1 C.1.2.1 dX11_copy_242 rfl (lv_at hl 1 rfl) ?_
  refine lv_iload_n C.1.1 C.1.2.1 dX11_copy_243 rfl (lv_at hl 2 rfl) ?_
  refine ns_callS C w [.ref (b 87), .int 5, .int p1, .int p2] hf (fun u hu => mX11_move_87 l D b ids hI N _ 5 p1 p2 hu) gX11_copy_X11_move rfl rfl rfl hdX11_move ⟨Nat.le_of_ble_eq_true rfl, Nat.le_of_ble_eq_true rfl⟩ (fun u h => (h.A (List.mem_of_getElem? (i := 22) rfl) _)) rfl hl.1 rfl (Nat.le_of_ble_eq_true rfl) ⟨Nat.le_refl _, Nat.le_refl _⟩ dX11_copy_244 (fun o23 H locs hf w => ?_)
  refine lv_aload_n C.1.1 C.1.2.1 dX11_copy_247 rfl (lv_at hl 0 rfl) ?_
  refine ns_getr C w 62 (hI 62 (by decide)) sh_62 (rfl : vwCl[11]? = some (RX11, TX11, 59)) inX11_copy_11 27 (by decide) rfl lX11_copy_87 dX11_copy_248 ?_
  refine lv_iconst (v := 1) C.1.1 C.1.2.1 dX11_copy_251 (by decide) ?_
  refine lv_iload_n C.1.1 C.1.2.1 dX11_copy_252 rfl (lv_at hl 1 rfl) ?_
  refine lv_iload_n C.1.1 C.1.2.1 dX11_copy_253 rfl (lv_at hl 2 rfl) ?_
  refine ns_callS C w [.ref (b 88), .int 1, .int p1, .int p2] hf (fun u hu => mX11_move_88 l D b ids hI N _ 1 p1 p2 hu) gX11_copy_X11_move rfl rfl rfl hdX11_move ⟨Nat.le_of_ble_eq_true rfl, Nat.le_of_ble_eq_true rfl⟩ (fun u h => (h.A (List.mem_of_getElem? (i := 23) rfl) _)) rfl hl.1 rfl (Nat.le_of_ble_eq_true rfl) ⟨Nat.le_refl _, Nat.le_refl _⟩ dX11_copy_254 (fun o24 H locs hf w => ?_)
  refine lv_aload_n C.1.1 C.1.2.1 dX11_copy_257 rfl (lv_at hl 0 rfl) ?_
  refine ns_getr C w 62 (hI 62 (by decide)) sh_62 (rfl : vwCl[11]? = some (RX11, TX11, 59)) inX11_copy_11 28 (by decide) rfl lX11_copy_90 dX11_copy_258 ?_
  refine lv_bipush (v := 16) C.1.1 C.1.2.1 dX11_copy_261 (by decide) ?_
  refine lv_iload_n C.1.1 C.1.2.1 dX11_copy_263 rfl (lv_at hl 1 rfl) ?_
  refine lv_iload_n C.1.1 C.1.2.1 dX11_copy_264 rfl (lv_at hl 2 rfl) ?_
  refine ns_callS C w [.ref (b 89), .int 16, .int p1, .int p2] hf (fun u hu => mX11_move_89 l D b ids hI N _ 16 p1 p2 hu) gX11_copy_X11_move rfl rfl rfl hdX11_move ⟨Nat.le_of_ble_eq_true rfl, Nat.le_of_ble_eq_true rfl⟩ (fun u h => (h.A (List.mem_of_getElem? (i := 24) rfl) _)) rfl hl.1 rfl (Nat.le_of_ble_eq_true rfl) ⟨Nat.le_refl _, Nat.le_refl _⟩ dX11_copy_265 (fun o25 H locs hf w => ?_)
  refine lv_aload_n C.1.1 C.1.2.1 dX11_copy_268 rfl (lv_at hl 0 rfl) ?_
  refine ns_getr C w 62 (hI 62 (by decide)) sh_62 (rfl : vwCl[11]? = some (RX11, TX11, 59)) inX11_copy_11 29 (by decide) rfl lX11_copy_93 dX11_copy_269 ?_
  refine lv_bipush (v := 64) C.1.1 C.1.2.1 dX11_copy_272 (by decide) ?_
  refine lv_iload_n C.1.1 C.1.2.1 dX11_copy_274 rfl (lv_at hl 1 rfl) ?_
  refine lv_iload_n C.1.1 C.1.2.1 dX11_copy_275 rfl (lv_at hl 2 rfl) ?_
  refine ns_callS C w [.ref (b 90), .int 64, .int p1, .int p2] hf (fun u hu => mX11_move_90 l D b ids hI N _ 64 p1 p2 hu) gX11_copy_X11_move rfl rfl rfl hdX11_move ⟨Nat.le_of_ble_eq_true rfl, Nat.le_of_ble_eq_true rfl⟩ (fun u h => (h.A (List.mem_of_getElem? (i := 25) rfl) _)) rfl hl.1 rfl (Nat.le_of_ble_eq_true rfl) ⟨Nat.le_refl _, Nat.le_refl _⟩ dX11_copy_276 (fun o26 H locs hf w => ?_)
  refine lv_aload_n C.1.1 C.1.2.1 dX11_copy_279 rfl (lv_at hl 0 rfl) ?_
  refine ns_getr C w 62 (hI 62 (by decide)) sh_62 (rfl : vwCl[11]? = some (RX11, TX11, 59)) inX11_copy_11 30 (by decide) rfl lX11_copy_96 dX11_copy_280 ?_
  refine lv_bipush (v := 64) C.1.1 C.1.2.1 dX11_copy_283 (by decide) ?_
  refine lv_iload_n C.1.1 C.1.2.1 dX11_copy_285 rfl (lv_at hl 1 rfl) ?_
  refine lv_iload_n C.1.1 C.1.2.1 dX11_copy_286 rfl (lv_at hl 2 rfl) ?_
  refine ns_callS C w [.ref (b 91), .int 64, .int p1, .int p2] hf (fun u hu => mX11_move_91 l D b ids hI N _ 64 p1 p2 hu) gX11_copy_X11_move rfl rfl rfl hdX11_move ⟨Nat.le_of_ble_eq_true rfl, Nat.le_of_ble_eq_true rfl⟩ (fun u h => (h.A (List.mem_of_getElem? (i := 26) rfl) _)) rfl hl.1 rfl (Nat.le_of_ble_eq_true rfl) ⟨Nat.le_refl _, Nat.le_refl _⟩ dX11_copy_287 (fun o27 H locs hf w => ?_)
  refine lv_aload_n C.1.1 C.1.2.1 dX11_copy_290 rfl (lv_at hl 0 rfl) ?_
  refine ns_getr C w 62 (hI 62 (by decide)) sh_62 (rfl : vwCl[11]? = some (RX11, TX11, 59)) inX11_copy_11 31 (by decide) rfl lX11_copy_99 dX11_copy_291 ?_
  refine lv_bipush (v := 64) C.1.1 C.1.2.1 dX11_copy_294 (by decide) ?_
  refine lv_iload_n C.1.1 C.1.2.1 dX11_copy_296 rfl (lv_at hl 1 rfl) ?_
  refine lv_iload_n C.1.1 C.1.2.1 dX11_copy_297 rfl (lv_at hl 2 rfl) ?_
  refine ns_callS C w [.ref (b 92), .int 64, .int p1, .int p2] hf (fun u hu => mX11_move_92 l D b ids hI N _ 64 p1 p2 hu) gX11_copy_X11_move rfl rfl rfl hdX11_move ⟨Nat.le_of_ble_eq_true rfl, Nat.le_of_ble_eq_true rfl⟩ (fun u h => (h.A (List.mem_of_getElem? (i := 27) rfl) _)) rfl hl.1 rfl (Nat.le_of_ble_eq_true rfl) ⟨Nat.le_refl _, Nat.le_refl _⟩ dX11_copy_298 (fun o28 H locs hf w => ?_)
  refine lv_aload_n C.1.1 C.1.2.1 dX11_copy_301 rfl (lv_at hl 0 rfl) ?_
  refine ns_getr C w 62 (hI 62 (by decide)) sh_62 (rfl : vwCl[11]? = some (RX11, TX11, 59)) inX11_copy_11 32 (by decide) rfl lX11_copy_102 dX11_copy_302 ?_
  refine lv_bipush (v := 16) C.1.1 C.1.2.1 dX11_copy_305 (by decide) ?_
  refine lv_iload_n C.1.1 C.1.2.1 dX11_copy_307 rfl (lv_at hl 1 rfl) ?_
  refine lv_iload_n C.1.1 C.1.2.1 dX11_copy_308 rfl (lv_at hl 2 rfl) ?_
  refine ns_callS C w [.ref (b 93), .int 16, .int p1, .int p2] hf (fun u hu => mX11_move_93 l D b ids hI N _ 16 p1 p2 hu) gX11_copy_X11_move rfl rfl rfl hdX11_move ⟨Nat.le_of_ble_eq_true rfl, Nat.le_of_ble_eq_true rfl⟩ (fun u h => (h.A (List.mem_of_getElem? (i := 28) rfl) _)) rfl hl.1 rfl (Nat.le_of_ble_eq_true rfl) ⟨Nat.le_refl _, Nat.le_refl _⟩ dX11_copy_309 (fun o29 H locs hf w => ?_)
  refine lv_aload_n C.1.1 C.1.2.1 dX11_copy_312 rfl (lv_at hl 0 rfl) ?_
  refine ns_getr C w 62 (hI 62 (by decide)) sh_62 (rfl : vwCl[11]? = some (RX11, TX11, 59)) inX11_copy_11 33 (by decide) rfl lX11_copy_105 dX11_copy_313 ?_
  refine lv_bipush (v := 16) C.1.1 C.1.2.1 dX11_copy_316 (by decide) ?_
  refine lv_iload_n C.1.1 C.1.2.1 dX11_copy_318 rfl (lv_at hl 1 rfl) ?_
  refine lv_iload_n C.1.1 C.1.2.1 dX11_copy_319 rfl (lv_at hl 2 rfl) ?_
  refine ns_callS C w [.ref (b 94), .int 16, .int p1, .int p2] hf (fun u hu => mX11_move_94 l D b ids hI N _ 16 p1 p2 hu) gX11_copy_X11_move rfl rfl rfl hdX11_move ⟨Nat.le_of_ble_eq_true rfl, Nat.le_of_ble_eq_true rfl⟩ (fun u h => (h.A (List.mem_of_getElem? (i := 29) rfl) _)) rfl hl.1 rfl (Nat.le_of_ble_eq_true rfl) ⟨Nat.le_refl _, Nat.le_refl _⟩ dX11_copy_320 (fun o30 H locs hf w => ?_)
  refine lv_aload_n C.1.1 C.1.2.1 dX11_copy_323 rfl (lv_at hl 0 rfl) ?_
  refine ns_getr C w 62 (hI 62 (by decide)) sh_62 (rfl : vwCl[11]? = some (RX11, TX11, 59)) inX11_copy_11 34 (by decide) rfl lX11_copy_108 dX11_copy_324 ?_
  refine lv_bipush (v := 16) C.1.1 C.1.2.1 dX11_copy_327 (by decide) ?_
  refine lv_iload_n C.1.1 C.1.2.1 dX11_copy_329 rfl (lv_at hl 1 rfl) ?_
  refine lv_iload_n C.1.1 C.1.2.1 dX11_copy_330 rfl (lv_at hl 2 rfl) ?_
  refine ns_callS C w [.ref (b 95), .int 16, .int p1, .int p2] hf (fun u hu => mX11_move_95 l D b ids hI N _ 16 p1 p2 hu) gX11_copy_X11_move rfl rfl rfl hdX11_move ⟨Nat.le_of_ble_eq_true rfl, Nat.le_of_ble_eq_true rfl⟩ (fun u h => (h.A (List.mem_of_getElem? (i := 30) rfl) _)) rfl hl.1 rfl (Nat.le_of_ble_eq_true rfl) ⟨Nat.le_refl _, Nat.le_refl _⟩ dX11_copy_331 (fun o31 H locs hf w => ?_)
  have he := Option.some.inj hf
  subst he
  exact ns_vret C w hr hlk rfl rfl dX11_copy_334
theorem lX11_image_145 : Cond.fieldLink RX11 145 (TX11 58).1 (TX11 58).2.1 (TX11 58).2.2.1 ∈ wsX11_image := List.mem_of_getElem? (i := 2) rfl
theorem lX11_image_179 : Cond.fieldLink RX11 179 (TX11 0).1 (TX11 0).2.1 (TX11 0).2.2.1 ∈ wsX11_image := List.mem_of_getElem? (i := 1) rfl
theorem inX11_image_11 : ∀ w ∈ u_ws RX11 TX11 59, w ∈ wsX11_image := fun _ h => List.mem_cons_of_mem _ (List.mem_append_right _ h)
theorem hdX11_image : yX11_image.cls = RX11 ∧ yX11_image.cls ≠ "java/lang/invoke/MethodHandle" ∧ yX11_image.cls ≠ "java/lang/invoke/VarHandle" ∧ (parseMethodDescriptor yX11_image.desc).map (fun d => d.parameters.length) = some 1 := by decide +kernel
abbrev wrX11_image_62 : List (Nat × Nat) := [(0, 3968), (1, 65), (1, 66), (1, 67), (1, 68), (1, 69), (1, 70), (1, 71), (1, 72), (1, 73), (1, 74), (1, 75), (1, 76), (1, 77), (1, 78), (1, 79), (1, 80), (1, 81), (1, 82), (1, 83), (1, 84), (1, 85), (1, 86), (1, 87), (1, 88), (1, 89), (1, 90), (1, 91), (1, 92), (1, 93), (1, 94), (1, 95), (1, 106)]
abbrev rmX11_image_62 : Room := { frames := 2, cells := 0, slots := 0, locals := 46 }
set_option maxHeartbeats 4000000 in
set_option maxRecDepth 100000 in
theorem mX11_image_62 (l : Launch) (D : va_G) (b : Nat → Nat) (ids : List Nat) (hI : ∀ i, i < 107 → i ∈ ids) (N : Nat) (S : ns_S) (p1 : Int32) {o : Int32 × Int32 × (Nat → Int32) × (Nat → Int32) × (Nat → Int32) × (Nat → Int32) × (Nat → Int32) × (Nat → Int32) × (Nat → Int32) × (Nat → Int32) × (Nat → Int32) × (Nat → Int32) × (Nat → Int32) × (Nat → Int32) × (Nat → Int32) × (Nat → Int32) × (Nat → Int32) × (Nat → Int32) × (Nat → Int32) × (Nat → Int32) × (Nat → Int32) × (Nat → Int32) × (Nat → Int32) × (Nat → Int32) × (Nat → Int32) × (Nat → Int32) × (Nat → Int32) × (Nat → Int32) × (Nat → Int32) × (Nat → Int32) × (Nat → Int32) × (Nat → Int32) × (Nat → Int32) × (Nat → Int32)} (hf : fX11_image N (S.1 3968) (S.2.1 65) (S.2.1 66) (S.2.1 67) (S.2.1 68) (S.2.1 69) (S.2.1 70) (S.2.1 71) (S.2.1 72) (S.2.1 73) (S.2.1 74) (S.2.1 75) (S.2.1 76) (S.2.1 77) (S.2.1 78) (S.2.1 79) (S.2.1 80) (S.2.1 81) (S.2.1 82) (S.2.1 83) (S.2.1 84) (S.2.1 85) (S.2.1 86) (S.2.1 87) (S.2.1 88) (S.2.1 89) (S.2.1 90) (S.2.1 91) (S.2.1 92) (S.2.1 93) (S.2.1 94) (S.2.1 95) (S.2.1 106) p1 = some o) : ns_M l yX11_image wsX11_image rmX11_image_62 D b ids S [.ref (b 62), .int p1] (some (.int o.1)) (ns_I (ns_A (ns_A (ns_A (ns_A (ns_A (ns_A (ns_A (ns_A (ns_A (ns_A (ns_A (ns_A (ns_A (ns_A (ns_A (ns_A (ns_A (ns_A (ns_A (ns_A (ns_A (ns_A (ns_A (ns_A (ns_A (ns_A (ns_A (ns_A (ns_A (ns_A (ns_A (ns_A S 106 o.2.2.2.2.2.2.2.2.2.2.2.2.2.2.2.2.2.2.2.2.2.2.2.2.2.2.2.2.2.2.2.2.2) 95 o.2.2.2.2.2.2.2.2.2.2.2.2.2.2.2.2.2.2.2.2.2.2.2.2.2.2.2.2.2.2.2.2.1) 94 o.2.2.2.2.2.2.2.2.2.2.2.2.2.2.2.2.2.2.2.2.2.2.2.2.2.2.2.2.2.2.2.1) 93 o.2.2.2.2.2.2.2.2.2.2.2.2.2.2.2.2.2.2.2.2.2.2.2.2.2.2.2.2.2.2.1) 92 o.2.2.2.2.2.2.2.2.2.2.2.2.2.2.2.2.2.2.2.2.2.2.2.2.2.2.2.2.2.1) 91 o.2.2.2.2.2.2.2.2.2.2.2.2.2.2.2.2.2.2.2.2.2.2.2.2.2.2.2.2.1) 90 o.2.2.2.2.2.2.2.2.2.2.2.2.2.2.2.2.2.2.2.2.2.2.2.2.2.2.2.1) 89 o.2.2.2.2.2.2.2.2.2.2.2.2.2.2.2.2.2.2.2.2.2.2.2.2.2.2.1) 88 o.2.2.2.2.2.2.2.2.2.2.2.2.2.2.2.2.2.2.2.2.2.2.2.2.2.1) 87 o.2.2.2.2.2.2.2.2.2.2.2.2.2.2.2.2.2.2.2.2.2.2.2.2.1) 86 o.2.2.2.2.2.2.2.2.2.2.2.2.2.2.2.2.2.2.2.2.2.2.2.1) 85 o.2.2.2.2.2.2.2.2.2.2.2.2.2.2.2.2.2.2.2.2.2.2.1) 84 o.2.2.2.2.2.2.2.2.2.2.2.2.2.2.2.2.2.2.2.2.2.1) 83 o.2.2.2.2.2.2.2.2.2.2.2.2.2.2.2.2.2.2.2.2.1) 82 o.2.2.2.2.2.2.2.2.2.2.2.2.2.2.2.2.2.2.2.1) 81 o.2.2.2.2.2.2.2.2.2.2.2.2.2.2.2.2.2.2.1) 80 o.2.2.2.2.2.2.2.2.2.2.2.2.2.2.2.2.2.1) 79 o.2.2.2.2.2.2.2.2.2.2.2.2.2.2.2.2.1) 78 o.2.2.2.2.2.2.2.2.2.2.2.2.2.2.2.1) 77 o.2.2.2.2.2.2.2.2.2.2.2.2.2.2.1) 76 o.2.2.2.2.2.2.2.2.2.2.2.2.2.1) 75 o.2.2.2.2.2.2.2.2.2.2.2.2.1) 74 o.2.2.2.2.2.2.2.2.2.2.2.1) 73 o.2.2.2.2.2.2.2.2.2.2.1) 72 o.2.2.2.2.2.2.2.2.2.1) 71 o.2.2.2.2.2.2.2.2.1) 70 o.2.2.2.2.2.2.2.1) 69 o.2.2.2.2.2.2.1) 68 o.2.2.2.2.2.1) 67 o.2.2.2.2.1) 66 o.2.2.2.1) 65 o.2.2.1) 3968 o.2.1) := by
  refine ns_start (Wr := wrX11_image_62) (by decide) rfl (Nat.le_of_ble_eq_true rfl) ?_
  intro p e s m below meth c A ls C hr hlk w hl
  have hl : lv_has ls 2 [(0, .ref (b 62)), (1, .int p1)] := hl
  unfold fX11_image at hf
  refine lv_aload_n C.1.1 C.1.2.1 dX11_image_0 rfl (lv_at hl 0 rfl) ?_
  refine lv_iconst (v := 0) C.1.1 C.1.2.1 dX11_image_1 (by decide) ?_
  refine ns_puti C w 62 (hI 62 (by decide)) sh_62 (rfl : vwCl[11]? = some (RX11, TX11, 59)) inX11_image_11 tyX11_ok nmX11 0 (by decide) rfl lX11_image_179 rfl rfl rfl (List.mem_of_getElem? (i := 0) rfl) dX11_image_2 (fun H locs w => ?_)
  refine lv_iload_n C.1.1 C.1.2.1 dX11_image_5 rfl (lv_at hl 1 rfl) ?_
  refine lv_iconst (v := 0) C.1.1 C.1.2.1 dX11_image_6 (by decide) ?_
  refine lv_iconst (v := 2) C.1.1 C.1.2.1 dX11_image_7 (by decide) ?_
  refine ns_callS C w [.int p1, .int 0, .int 2] hf (fun u hu => mX11_in l D b ids hI N _ p1 0 2 hu) gX11_image_X11_in rfl rfl rfl hdX11_in ⟨Nat.le_of_ble_eq_true rfl, Nat.le_of_ble_eq_true rfl⟩ (fun u h => h) rfl hl.1 rfl (Nat.le_of_ble_eq_true rfl) ⟨Nat.le_refl _, Nat.le_refl _⟩ dX11_image_8 (fun o1 H locs hf w => ?_)
  refine ns_if_ne C hf (tgt := 16) dX11_image_11 (by decide) (fun hf => ?_) (fun hf => ?_)
  · refine lv_aload_n C.1.1 C.1.2.1 dX11_image_16 rfl (lv_at hl 0 rfl) ?_
    refine lv_iconst (v := 0) C.1.1 C.1.2.1 dX11_image_17 (by decide) ?_
    refine lv_iload_n C.1.1 C.1.2.1 dX11_image_18 rfl (lv_at hl 1 rfl) ?_
    refine lv_iconst (v := 1) C.1.1 C.1.2.1 dX11_image_19 (by decide) ?_
    refine lv_iadd C.1.1 C.1.2.1 dX11_image_20 ?_
    refine ns_callV C w 62 (hI 62 (by decide)) sh_62 (rfl : vwCl[11]? = some (RX11, TX11, 59)) [.int 0, .int (p1 + 1)] hf (fun u hu => mX11_copy_62 l D b ids hI N _ 0 (p1 + 1) hu) gX11_image_X11_copy rfl rfl rfl hdX11_copy ⟨Nat.le_of_ble_eq_true rfl, Nat.le_of_ble_eq_true rfl⟩ (fun u h => (((((((((((((((((((((((((((((((h.A (List.mem_of_getElem? (i := 31) rfl) _).A (List.mem_of_getElem? (i := 30) rfl) _).A (List.mem_of_getElem? (i := 29) rfl) _).A (List.mem_of_getElem? (i := 28) rfl) _).A (List.mem_of_getElem? (i := 27) rfl) _).A (List.mem_of_getElem? (i := 26) rfl) _).A (List.mem_of_getElem? (i := 25) rfl) _).A (List.mem_of_getElem? (i := 24) rfl) _).A (List.mem_of_getElem? (i := 23) rfl) _).A (List.mem_of_getElem? (i := 22) rfl) _).A (List.mem_of_getElem? (i := 21) rfl) _).A (List.mem_of_getElem? (i := 20) rfl) _).A (List.mem_of_getElem? (i := 19) rfl) _).A (List.mem_of_getElem? (i := 18) rfl) _).A (List.mem_of_getElem? (i := 17) rfl) _).A (List.mem_of_getElem? (i := 16) rfl) _).A (List.mem_of_getElem? (i := 15) rfl) _).A (List.mem_of_getElem? (i := 14) rfl) _).A (List.mem_of_getElem? (i := 13) rfl) _).A (List.mem_of_getElem? (i := 12) rfl) _).A (List.mem_of_getElem? (i := 11) rfl) _).A (List.mem_of_getElem? (i := 10) rfl) _).A (List.mem_of_getElem? (i := 9) rfl) _).A (List.mem_of_getElem? (i := 8) rfl) _).A (List.mem_of_getElem? (i := 7) rfl) _).A (List.mem_of_getElem? (i := 6) rfl) _).A (List.mem_of_getElem? (i := 5) rfl) _).A (List.mem_of_getElem? (i := 4) rfl) _).A (List.mem_of_getElem? (i := 3) rfl) _).A (List.mem_of_getElem? (i := 2) rfl) _).A (List.mem_of_getElem? (i := 1) rfl) _)) rfl hl.1 rfl (Nat.le_of_ble_eq_true rfl) ⟨Nat.le_refl _, Nat.le_refl _⟩ dX11_image_21 (fun o2 H locs hf w => ?_)
    refine lv_aload_n C.1.1 C.1.2.1 dX11_image_24 rfl (lv_at hl 0 rfl) ?_
    refine ns_getr C w 62 (hI 62 (by decide)) sh_62 (rfl : vwCl[11]? = some (RX11, TX11, 59)) inX11_image_11 58 (by decide) rfl lX11_image_145 dX11_image_25 ?_
    refine lv_iload_n C.1.1 C.1.2.1 dX11_image_28 rfl (lv_at hl 1 rfl) ?_
    refine lv_iconst (v := 1) C.1.1 C.1.2.1 dX11_image_29 (by decide) ?_
    refine ns_zast C w 106 (hI 106 (by decide)) sh_106 hf rfl (List.mem_of_getElem? (i := 32) rfl) dX11_image_30 (fun y3 H locs hf w => ?_)
    refine lv_iconst (v := 1) C.1.1 C.1.2.1 dX11_image_31 (by decide) ?_
    have he := Option.some.inj hf
    subst he
    exact ns_zret C w hr hlk rfl (Or.inr rfl) rfl dX11_image_32
  · refine lv_iconst (v := 0) C.1.1 C.1.2.1 dX11_image_14 (by decide) ?_
    have he := Option.some.inj hf
    subst he
    exact ns_zret C w hr hlk rfl (Or.inl rfl) rfl dX11_image_15
theorem lX11_again_145 : Cond.fieldLink RX11 145 (TX11 58).1 (TX11 58).2.1 (TX11 58).2.2.1 ∈ wsX11_again := List.mem_of_getElem? (i := 2) rfl
theorem lX11_again_179 : Cond.fieldLink RX11 179 (TX11 0).1 (TX11 0).2.1 (TX11 0).2.2.1 ∈ wsX11_again := List.mem_of_getElem? (i := 1) rfl
theorem inX11_again_11 : ∀ w ∈ u_ws RX11 TX11 59, w ∈ wsX11_again := fun _ h => List.mem_cons_of_mem _ (List.mem_append_right _ h)
theorem hdX11_again : yX11_again.cls = RX11 ∧ yX11_again.cls ≠ "java/lang/invoke/MethodHandle" ∧ yX11_again.cls ≠ "java/lang/invoke/VarHandle" ∧ (parseMethodDescriptor yX11_again.desc).map (fun d => d.parameters.length) = some 1 := by decide +kernel
abbrev wrX11_again_62 : List (Nat × Nat) := [(0, 3968), (1, 65), (1, 66), (1, 67), (1, 68), (1, 69), (1, 70), (1, 71), (1, 72), (1, 73), (1, 74), (1, 75), (1, 76), (1, 77), (1, 78), (1, 79), (1, 80), (1, 81), (1, 82), (1, 83), (1, 84), (1, 85), (1, 86), (1, 87), (1, 88), (1, 89), (1, 90), (1, 91), (1, 92), (1, 93), (1, 94), (1, 95)]
abbrev rmX11_again_62 : Room := { frames := 2, cells := 0, slots := 0, locals := 46 }
set_option maxHeartbeats 4000000 in
set_option maxRecDepth 100000 in
theorem mX11_again_62 (l : Launch) (D : va_G) (b : Nat → Nat) (ids : List Nat) (hI : ∀ i, i < 107 → i ∈ ids) (N : Nat) (S : ns_S) (p1 : Int32) {o : Int32 × Int32 × (Nat → Int32) × (Nat → Int32) × (Nat → Int32) × (Nat → Int32) × (Nat → Int32) × (Nat → Int32) × (Nat → Int32) × (Nat → Int32) × (Nat → Int32) × (Nat → Int32) × (Nat → Int32) × (Nat → Int32) × (Nat → Int32) × (Nat → Int32) × (Nat → Int32) × (Nat → Int32) × (Nat → Int32) × (Nat → Int32) × (Nat → Int32) × (Nat → Int32) × (Nat → Int32) × (Nat → Int32) × (Nat → Int32) × (Nat → Int32) × (Nat → Int32) × (Nat → Int32) × (Nat → Int32) × (Nat → Int32) × (Nat → Int32) × (Nat → Int32) × (Nat → Int32)} (hf : fX11_again N (S.1 3968) (S.2.1 106) (S.2.1 65) (S.2.1 66) (S.2.1 67) (S.2.1 68) (S.2.1 69) (S.2.1 70) (S.2.1 71) (S.2.1 72) (S.2.1 73) (S.2.1 74) (S.2.1 75) (S.2.1 76) (S.2.1 77) (S.2.1 78) (S.2.1 79) (S.2.1 80) (S.2.1 81) (S.2.1 82) (S.2.1 83) (S.2.1 84) (S.2.1 85) (S.2.1 86) (S.2.1 87) (S.2.1 88) (S.2.1 89) (S.2.1 90) (S.2.1 91) (S.2.1 92) (S.2.1 93) (S.2.1 94) (S.2.1 95) p1 = some o) : ns_M l yX11_again wsX11_again rmX11_again_62 D b ids S [.ref (b 62), .int p1] (some (.int o.1)) (ns_I (ns_A (ns_A (ns_A (ns_A (ns_A (ns_A (ns_A (ns_A (ns_A (ns_A (ns_A (ns_A (ns_A (ns_A (ns_A (ns_A (ns_A (ns_A (ns_A (ns_A (ns_A (ns_A (ns_A (ns_A (ns_A (ns_A (ns_A (ns_A (ns_A (ns_A (ns_A S 95 o.2.2.2.2.2.2.2.2.2.2.2.2.2.2.2.2.2.2.2.2.2.2.2.2.2.2.2.2.2.2.2.2) 94 o.2.2.2.2.2.2.2.2.2.2.2.2.2.2.2.2.2.2.2.2.2.2.2.2.2.2.2.2.2.2.2.1) 93 o.2.2.2.2.2.2.2.2.2.2.2.2.2.2.2.2.2.2.2.2.2.2.2.2.2.2.2.2.2.2.1) 92 o.2.2.2.2.2.2.2.2.2.2.2.2.2.2.2.2.2.2.2.2.2.2.2.2.2.2.2.2.2.1) 91 o.2.2.2.2.2.2.2.2.2.2.2.2.2.2.2.2.2.2.2.2.2.2.2.2.2.2.2.2.1) 90 o.2.2.2.2.2.2.2.2.2.2.2.2.2.2.2.2.2.2.2.2.2.2.2.2.2.2.2.1) 89 o.2.2.2.2.2.2.2.2.2.2.2.2.2.2.2.2.2.2.2.2.2.2.2.2.2.2.1) 88 o.2.2.2.2.2.2.2.2.2.2.2.2.2.2.2.2.2.2.2.2.2.2.2.2.2.1) 87 o.2.2.2.2.2.2.2.2.2.2.2.2.2.2.2.2.2.2.2.2.2.2.2.2.1) 86 o.2.2.2.2.2.2.2.2.2.2.2.2.2.2.2.2.2.2.2.2.2.2.2.1) 85 o.2.2.2.2.2.2.2.2.2.2.2.2.2.2.2.2.2.2.2.2.2.2.1) 84 o.2.2.2.2.2.2.2.2.2.2.2.2.2.2.2.2.2.2.2.2.2.1) 83 o.2.2.2.2.2.2.2.2.2.2.2.2.2.2.2.2.2.2.2.2.1) 82 o.2.2.2.2.2.2.2.2.2.2.2.2.2.2.2.2.2.2.2.1) 81 o.2.2.2.2.2.2.2.2.2.2.2.2.2.2.2.2.2.2.1) 80 o.2.2.2.2.2.2.2.2.2.2.2.2.2.2.2.2.2.1) 79 o.2.2.2.2.2.2.2.2.2.2.2.2.2.2.2.2.1) 78 o.2.2.2.2.2.2.2.2.2.2.2.2.2.2.2.1) 77 o.2.2.2.2.2.2.2.2.2.2.2.2.2.2.1) 76 o.2.2.2.2.2.2.2.2.2.2.2.2.2.1) 75 o.2.2.2.2.2.2.2.2.2.2.2.2.1) 74 o.2.2.2.2.2.2.2.2.2.2.2.1) 73 o.2.2.2.2.2.2.2.2.2.2.1) 72 o.2.2.2.2.2.2.2.2.2.1) 71 o.2.2.2.2.2.2.2.2.1) 70 o.2.2.2.2.2.2.2.1) 69 o.2.2.2.2.2.2.1) 68 o.2.2.2.2.2.1) 67 o.2.2.2.2.1) 66 o.2.2.2.1) 65 o.2.2.1) 3968 o.2.1) := by
  refine ns_start (Wr := wrX11_again_62) (by decide) rfl (Nat.le_of_ble_eq_true rfl) ?_
  intro p e s m below meth c A ls C hr hlk w hl
  have hl : lv_has ls 2 [(0, .ref (b 62)), (1, .int p1)] := hl
  unfold fX11_again at hf
  refine lv_aload_n C.1.1 C.1.2.1 dX11_again_0 rfl (lv_at hl 0 rfl) ?_
  refine lv_iconst (v := 0) C.1.1 C.1.2.1 dX11_again_1 (by decide) ?_
  refine ns_puti C w 62 (hI 62 (by decide)) sh_62 (rfl : vwCl[11]? = some (RX11, TX11, 59)) inX11_again_11 tyX11_ok nmX11 0 (by decide) rfl lX11_again_179 rfl rfl rfl (List.mem_of_getElem? (i := 0) rfl) dX11_again_2 (fun H locs w => ?_)
  refine lv_iload_n C.1.1 C.1.2.1 dX11_again_5 rfl (lv_at hl 1 rfl) ?_
  refine lv_iconst (v := 0) C.1.1 C.1.2.1 dX11_again_6 (by decide) ?_
  refine lv_iconst (v := 2) C.1.1 C.1.2.1 dX11_again_7 (by decide) ?_
  refine ns_callS C w [.int p1, .int 0, .int 2] hf (fun u hu => mX11_in l D b ids hI N _ p1 0 2 hu) gX11_again_X11_in rfl rfl rfl hdX11_in ⟨Nat.le_of_ble_eq_true rfl, Nat.le_of_ble_eq_true rfl⟩ (fun u h => h) rfl hl.1 rfl (Nat.le_of_ble_eq_true rfl) ⟨Nat.le_refl _, Nat.le_refl _⟩ dX11_again_8 (fun o1 H locs hf w => ?_)
  refine ns_if_eq C hf (tgt := 23) dX11_again_11 (by decide) (fun hf => ?_) (fun hf => ?_)
  · refine lv_iconst (v := 0) C.1.1 C.1.2.1 dX11_again_23 (by decide) ?_
    have he := Option.some.inj hf
    subst he
    exact ns_zret C w hr hlk rfl (Or.inl rfl) rfl dX11_again_24
  · refine lv_aload_n C.1.1 C.1.2.1 dX11_again_14 rfl (lv_at hl 0 rfl) ?_
    refine ns_getr C w 62 (hI 62 (by decide)) sh_62 (rfl : vwCl[11]? = some (RX11, TX11, 59)) inX11_again_11 58 (by decide) rfl lX11_again_145 dX11_again_15 ?_
    refine lv_iload_n C.1.1 C.1.2.1 dX11_again_18 rfl (lv_at hl 1 rfl) ?_
    refine ns_zald C w 106 (hI 106 (by decide)) sh_106 hf rfl dX11_again_19 (fun x2 hf => ?_)
    refine ns_if_ne C hf (tgt := 25) dX11_again_20 (by decide) (fun hf => ?_) (fun hf => ?_)
    · refine lv_aload_n C.1.1 C.1.2.1 dX11_again_25 rfl (lv_at hl 0 rfl) ?_
      refine lv_iload_n C.1.1 C.1.2.1 dX11_again_26 rfl (lv_at hl 1 rfl) ?_
      refine lv_iconst (v := 1) C.1.1 C.1.2.1 dX11_again_27 (by decide) ?_
      refine lv_iadd C.1.1 C.1.2.1 dX11_again_28 ?_
      refine lv_iconst (v := 0) C.1.1 C.1.2.1 dX11_again_29 (by decide) ?_
      refine ns_callV C w 62 (hI 62 (by decide)) sh_62 (rfl : vwCl[11]? = some (RX11, TX11, 59)) [.int (p1 + 1), .int 0] hf (fun u hu => mX11_copy_62 l D b ids hI N _ (p1 + 1) 0 hu) gX11_again_X11_copy rfl rfl rfl hdX11_copy ⟨Nat.le_of_ble_eq_true rfl, Nat.le_of_ble_eq_true rfl⟩ (fun u h => (((((((((((((((((((((((((((((((h.A (List.mem_of_getElem? (i := 31) rfl) _).A (List.mem_of_getElem? (i := 30) rfl) _).A (List.mem_of_getElem? (i := 29) rfl) _).A (List.mem_of_getElem? (i := 28) rfl) _).A (List.mem_of_getElem? (i := 27) rfl) _).A (List.mem_of_getElem? (i := 26) rfl) _).A (List.mem_of_getElem? (i := 25) rfl) _).A (List.mem_of_getElem? (i := 24) rfl) _).A (List.mem_of_getElem? (i := 23) rfl) _).A (List.mem_of_getElem? (i := 22) rfl) _).A (List.mem_of_getElem? (i := 21) rfl) _).A (List.mem_of_getElem? (i := 20) rfl) _).A (List.mem_of_getElem? (i := 19) rfl) _).A (List.mem_of_getElem? (i := 18) rfl) _).A (List.mem_of_getElem? (i := 17) rfl) _).A (List.mem_of_getElem? (i := 16) rfl) _).A (List.mem_of_getElem? (i := 15) rfl) _).A (List.mem_of_getElem? (i := 14) rfl) _).A (List.mem_of_getElem? (i := 13) rfl) _).A (List.mem_of_getElem? (i := 12) rfl) _).A (List.mem_of_getElem? (i := 11) rfl) _).A (List.mem_of_getElem? (i := 10) rfl) _).A (List.mem_of_getElem? (i := 9) rfl) _).A (List.mem_of_getElem? (i := 8) rfl) _).A (List.mem_of_getElem? (i := 7) rfl) _).A (List.mem_of_getElem? (i := 6) rfl) _).A (List.mem_of_getElem? (i := 5) rfl) _).A (List.mem_of_getElem? (i := 4) rfl) _).A (List.mem_of_getElem? (i := 3) rfl) _).A (List.mem_of_getElem? (i := 2) rfl) _).A (List.mem_of_getElem? (i := 1) rfl) _)) rfl hl.1 rfl (Nat.le_of_ble_eq_true rfl) ⟨Nat.le_refl _, Nat.le_refl _⟩ dX11_again_30 (fun o3 H locs hf w => ?_)
      refine lv_iconst (v := 1) C.1.1 C.1.2.1 dX11_again_33 (by decide) ?_
      have he := Option.some.inj hf
      subst he
      exact ns_zret C w hr hlk rfl (Or.inr rfl) rfl dX11_again_34
    · refine lv_iconst (v := 0) C.1.1 C.1.2.1 dX11_again_23 (by decide) ?_
      have he := Option.some.inj hf
      subst he
      exact ns_zret C w hr hlk rfl (Or.inl rfl) rfl dX11_again_24
theorem lX5_copyFrom_9 : Cond.fieldLink RX5 9 (TX5 1).1 (TX5 1).2.1 (TX5 1).2.2.1 ∈ wsX5_copyFrom := List.mem_of_getElem? (i := 2) rfl
theorem lX5_copyFrom_15 : Cond.fieldLink RX5 15 (TX5 0).1 (TX5 0).2.1 (TX5 0).2.2.1 ∈ wsX5_copyFrom := List.mem_of_getElem? (i := 1) rfl
theorem inX5_copyFrom_5 : ∀ w ∈ u_ws RX5 TX5 2, w ∈ wsX5_copyFrom := fun _ h => List.mem_cons_of_mem _ (List.mem_append_right _ h)
theorem hdX5_copyFrom : yX5_copyFrom.cls = RX5 ∧ yX5_copyFrom.cls ≠ "java/lang/invoke/MethodHandle" ∧ yX5_copyFrom.cls ≠ "java/lang/invoke/VarHandle" ∧ (parseMethodDescriptor yX5_copyFrom.desc).map (fun d => d.parameters.length) = some 1 := by decide +kernel
abbrev wrX5_copyFrom_108_29 : List (Nat × Nat) := [(0, 6912), (1, 109)]
abbrev rmX5_copyFrom_108_29 : Room := { frames := 1, cells := 0, slots := 0, locals := 40 }
set_option maxHeartbeats 4000000 in
set_option maxRecDepth 100000 in
theorem mX5_copyFrom_108_29 (l : Launch) (D : va_G) (b : Nat → Nat) (ids : List Nat) (hI : ∀ i, i < 107 → i ∈ ids) (hJ : ∀ i, 107 ≤ i → i < 140 → i ∈ ids) (N : Nat) (S : ns_S) {o : Int32 × (Nat → Int32)} (hf : fX5_copyFrom N (S.1 1856) (S.1 6912) (S.2.1 30) (S.2.1 109) = some o) : ns_M l yX5_copyFrom wsX5_copyFrom rmX5_copyFrom_108_29 D b ids S [.ref (b 108), .ref (b 29)] none (ns_I (ns_A S 109 o.2) 6912 o.1) := by
  refine ns_start (Wr := wrX5_copyFrom_108_29) (by decide) rfl (Nat.le_of_ble_eq_true rfl) ?_
  intro p e s m below meth c A ls C hr hlk w hl
  have hl : lv_has ls 2 [(0, .ref (b 108)), (1, .ref (b 29))] := hl
  unfold fX5_copyFrom at hf
  refine lv_aload_n C.1.1 C.1.2.1 dX5_copyFrom_0 rfl (lv_at hl 0 rfl) ?_
  refine lv_aload_n C.1.1 C.1.2.1 dX5_copyFrom_1 rfl (lv_at hl 1 rfl) ?_
  refine ns_geti C w 29 (hI 29 (by decide)) sh_29 (rfl : vwCl[5]? = some (RX5, TX5, 2)) inX5_copyFrom_5 0 (by decide) rfl lX5_copyFrom_15 (S.1 1856) rfl dX5_copyFrom_2 ?_
  refine ns_puti C w 108 (hJ 108 (by decide) (by decide)) sh_108 (rfl : vwCl[5]? = some (RX5, TX5, 2)) inX5_copyFrom_5 tyX5_ok nmX5 0 (by decide) rfl lX5_copyFrom_15 rfl rfl rfl (List.mem_of_getElem? (i := 0) rfl) dX5_copyFrom_5 (fun H locs w => ?_)
  refine lv_aload_n C.1.1 C.1.2.1 dX5_copyFrom_8 rfl (lv_at hl 1 rfl) ?_
  refine ns_getr C w 29 (hI 29 (by decide)) sh_29 (rfl : vwCl[5]? = some (RX5, TX5, 2)) inX5_copyFrom_5 1 (by decide) rfl lX5_copyFrom_9 dX5_copyFrom_9 ?_
  refine lv_iconst (v := 0) C.1.1 C.1.2.1 dX5_copyFrom_12 (by decide) ?_
  refine lv_aload_n C.1.1 C.1.2.1 dX5_copyFrom_13 rfl (lv_at hl 0 rfl) ?_
  refine ns_getr C w 108 (hJ 108 (by decide) (by decide)) sh_108 (rfl : vwCl[5]? = some (RX5, TX5, 2)) inX5_copyFrom_5 1 (by decide) rfl lX5_copyFrom_9 dX5_copyFrom_14 ?_
  refine lv_iconst (v := 0) C.1.1 C.1.2.1 dX5_copyFrom_17 (by decide) ?_
  refine lv_iconst (v := 5) C.1.1 C.1.2.1 dX5_copyFrom_18 (by decide) ?_
  refine ns_copy C w 30 109 (hI 30 (by decide)) (hJ 109 (by decide) (by decide)) sh_30 sh_109 hf rfl rfl (List.mem_of_getElem? (i := 1) rfl) (List.mem_of_getElem? (i := 3) rfl) (List.mem_of_getElem? (i := 4) rfl) (List.mem_of_getElem? (i := 5) rfl) (List.mem_of_getElem? (i := 6) rfl) hl.1 (Nat.le_of_ble_eq_true rfl) (Nat.le_of_ble_eq_true rfl) dX5_copyFrom_19 (fun y1 H locs hf w => ?_)
  have he := Option.some.inj hf
  subst he
  exact ns_vret C w hr hlk rfl rfl dX5_copyFrom_22
theorem lX0_copyFrom_9 : Cond.fieldLink RX0 9 (TX0 1).1 (TX0 1).2.1 (TX0 1).2.2.1 ∈ wsX0_copyFrom := List.mem_of_getElem? (i := 2) rfl
theorem lX0_copyFrom_15 : Cond.fieldLink RX0 15 (TX0 2).1 (TX0 2).2.1 (TX0 2).2.2.1 ∈ wsX0_copyFrom := List.mem_of_getElem? (i := 7) rfl
theorem lX0_copyFrom_18 : Cond.fieldLink RX0 18 (TX0 3).1 (TX0 3).2.1 (TX0 3).2.2.1 ∈ wsX0_copyFrom := List.mem_of_getElem? (i := 8) rfl
theorem lX0_copyFrom_21 : Cond.fieldLink RX0 21 (TX0 4).1 (TX0 4).2.1 (TX0 4).2.2.1 ∈ wsX0_copyFrom := List.mem_of_getElem? (i := 9) rfl
theorem lX0_copyFrom_24 : Cond.fieldLink RX0 24 (TX0 5).1 (TX0 5).2.1 (TX0 5).2.2.1 ∈ wsX0_copyFrom := List.mem_of_getElem? (i := 10) rfl
theorem lX0_copyFrom_27 : Cond.fieldLink RX0 27 (TX0 0).1 (TX0 0).2.1 (TX0 0).2.2.1 ∈ wsX0_copyFrom := List.mem_of_getElem? (i := 1) rfl
theorem inX0_copyFrom_0 : ∀ w ∈ u_ws RX0 TX0 6, w ∈ wsX0_copyFrom := fun _ h => List.mem_cons_of_mem _ (List.mem_append_right _ h)
theorem hdX0_copyFrom : yX0_copyFrom.cls = RX0 ∧ yX0_copyFrom.cls ≠ "java/lang/invoke/MethodHandle" ∧ yX0_copyFrom.cls ≠ "java/lang/invoke/VarHandle" ∧ (parseMethodDescriptor yX0_copyFrom.desc).map (fun d => d.parameters.length) = some 1 := by decide +kernel
abbrev wrX0_copyFrom_110_31 : List (Nat × Nat) := [(0, 7040), (1, 111), (1, 112), (1, 113), (1, 114), (1, 115)]
abbrev rmX0_copyFrom_110_31 : Room := { frames := 1, cells := 0, slots := 0, locals := 40 }
set_option maxHeartbeats 4000000 in
set_option maxRecDepth 100000 in
theorem mX0_copyFrom_110_31 (l : Launch) (D : va_G) (b : Nat → Nat) (ids : List Nat) (hI : ∀ i, i < 107 → i ∈ ids) (hJ : ∀ i, 107 ≤ i → i < 140 → i ∈ ids) (N : Nat) (S : ns_S) {o : Int32 × (Nat → Int32) × (Nat → Int32) × (Nat → Int32) × (Nat → Int32) × (Nat → Int32)} (hf : fX0_copyFrom N (S.1 1984) (S.1 7040) (S.2.1 32) (S.2.1 111) (S.2.1 33) (S.2.1 112) (S.2.1 34) (S.2.1 113) (S.2.1 35) (S.2.1 114) (S.2.1 36) (S.2.1 115) = some o) : ns_M l yX0_copyFrom wsX0_copyFrom rmX0_copyFrom_110_31 D b ids S [.ref (b 110), .ref (b 31)] none (ns_I (ns_A (ns_A (ns_A (ns_A (ns_A S 115 o.2.2.2.2.2) 114 o.2.2.2.2.1) 113 o.2.2.2.1) 112 o.2.2.1) 111 o.2.1) 7040 o.1) := by
  refine ns_start (Wr := wrX0_copyFrom_110_31) (by decide) rfl (Nat.le_of_ble_eq_true rfl) ?_
  intro p e s m below meth c A ls C hr hlk w hl
  have hl : lv_has ls 2 [(0, .ref (b 110)), (1, .ref (b 31))] := hl
  unfold fX0_copyFrom at hf
  refine lv_aload_n C.1.1 C.1.2.1 dX0_copyFrom_0 rfl (lv_at hl 0 rfl) ?_
  refine lv_aload_n C.1.1 C.1.2.1 dX0_copyFrom_1 rfl (lv_at hl 1 rfl) ?_
  refine ns_geti C w 31 (hI 31 (by decide)) sh_31 (rfl : vwCl[0]? = some (RX0, TX0, 6)) inX0_copyFrom_0 0 (by decide) rfl lX0_copyFrom_27 (S.1 1984) rfl dX0_copyFrom_2 ?_
  refine ns_puti C w 110 (hJ 110 (by decide) (by decide)) sh_110 (rfl : vwCl[0]? = some (RX0, TX0, 6)) inX0_copyFrom_0 tyX0_ok nmX0 0 (by decide) rfl lX0_copyFrom_27 rfl rfl rfl (List.mem_of_getElem? (i := 0) rfl) dX0_copyFrom_5 (fun H locs w => ?_)
  refine lv_aload_n C.1.1 C.1.2.1 dX0_copyFrom_8 rfl (lv_at hl 1 rfl) ?_
  refine ns_getr C w 31 (hI 31 (by decide)) sh_31 (rfl : vwCl[0]? = some (RX0, TX0, 6)) inX0_copyFrom_0 1 (by decide) rfl lX0_copyFrom_9 dX0_copyFrom_9 ?_
  refine lv_iconst (v := 0) C.1.1 C.1.2.1 dX0_copyFrom_12 (by decide) ?_
  refine lv_aload_n C.1.1 C.1.2.1 dX0_copyFrom_13 rfl (lv_at hl 0 rfl) ?_
  refine ns_getr C w 110 (hJ 110 (by decide) (by decide)) sh_110 (rfl : vwCl[0]? = some (RX0, TX0, 6)) inX0_copyFrom_0 1 (by decide) rfl lX0_copyFrom_9 dX0_copyFrom_14 ?_
  refine lv_iconst (v := 0) C.1.1 C.1.2.1 dX0_copyFrom_17 (by decide) ?_
  refine lv_bipush (v := 10) C.1.1 C.1.2.1 dX0_copyFrom_18 (by decide) ?_
  refine ns_copy C w 32 111 (hI 32 (by decide)) (hJ 111 (by decide) (by decide)) sh_32 sh_111 hf rfl rfl (List.mem_of_getElem? (i := 1) rfl) (List.mem_of_getElem? (i := 3) rfl) (List.mem_of_getElem? (i := 4) rfl) (List.mem_of_getElem? (i := 5) rfl) (List.mem_of_getElem? (i := 6) rfl) hl.1 (Nat.le_of_ble_eq_true rfl) (Nat.le_of_ble_eq_true rfl) dX0_copyFrom_20 (fun y1 H locs hf w => ?_)
  refine lv_aload_n C.1.1 C.1.2.1 dX0_copyFrom_23 rfl (lv_at hl 1 rfl) ?_
  refine ns_getr C w 31 (hI 31 (by decide)) sh_31 (rfl : vwCl[0]? = some (RX0, TX0, 6)) inX0_copyFrom_0 2 (by decide) rfl lX0_copyFrom_15 dX0_copyFrom_24 ?_
  refine lv_iconst (v := 0) C.1.1 C.1.2.1 dX0_copyFrom_27 (by decide) ?_
  refine lv_aload_n C.1.1 C.1.2.1 dX0_copyFrom_28 rfl (lv_at hl 0 rfl) ?_
  refine ns_getr C w 110 (hJ 110 (by decide) (by decide)) sh_110 (rfl : vwCl[0]? = some (RX0, TX0, 6)) inX0_copyFrom_0 2 (by decide) rfl lX0_copyFrom_15 dX0_copyFrom_29 ?_
  refine lv_iconst (v := 0) C.1.1 C.1.2.1 dX0_copyFrom_32 (by decide) ?_
  refine lv_bipush (v := 10) C.1.1 C.1.2.1 dX0_copyFrom_33 (by decide) ?_
  refine ns_copy C w 33 112 (hI 33 (by decide)) (hJ 112 (by decide) (by decide)) sh_33 sh_112 hf rfl rfl (List.mem_of_getElem? (i := 2) rfl) (List.mem_of_getElem? (i := 3) rfl) (List.mem_of_getElem? (i := 4) rfl) (List.mem_of_getElem? (i := 5) rfl) (List.mem_of_getElem? (i := 6) rfl) hl.1 (Nat.le_of_ble_eq_true rfl) (Nat.le_of_ble_eq_true rfl) dX0_copyFrom_35 (fun y2 H locs hf w => ?_)
  refine lv_aload_n C.1.1 C.1.2.1 dX0_copyFrom_38 rfl (lv_at hl 1 rfl) ?_
  refine ns_getr C w 31 (hI 31 (by decide)) sh_31 (rfl : vwCl[0]? = some (RX0, TX0, 6)) inX0_copyFrom_0 3 (by decide) rfl lX0_copyFrom_18 dX0_copyFrom_39 ?_
  refine lv_iconst (v := 0) C.1.1 C.1.2.1 dX0_copyFrom_42 (by decide) ?_
  refine lv_aload_n C.1.1 C.1.2.1 dX0_copyFrom_43 rfl (lv_at hl 0 rfl) ?_
  refine ns_getr C w 110 (hJ 110 (by decide) (by decide)) sh_110 (rfl : vwCl[0]? = some (RX0, TX0, 6)) inX0_copyFrom_0 3 (by decide) rfl lX0_copyFrom_18 dX0_copyFrom_44 ?_
  refine lv_iconst (v := 0) C.1.1 C.1.2.1 dX0_copyFrom_47 (by decide) ?_
  refine lv_bipush (v := 10) C.1.1 C.1.2.1 dX0_copyFrom_48 (by decide) ?_
  refine ns_copy C w 34 113 (hI 34 (by decide)) (hJ 113 (by decide) (by decide)) sh_34 sh_113 hf rfl rfl (List.mem_of_getElem? (i := 3) rfl) (List.mem_of_getElem? (i := 3) rfl) (List.mem_of_getElem? (i := 4) rfl) (List.mem_of_getElem? (i := 5) rfl) (List.mem_of_getElem? (i := 6) rfl) hl.1 (Nat.le_of_ble_eq_true rfl) (Nat.le_of_ble_eq_true rfl) dX0_copyFrom_50 (fun y3 H locs hf w => ?_)
  refine lv_aload_n C.1.1 C.1.2.1 dX0_copyFrom_53 rfl (lv_at hl 1 rfl) ?_
  refine ns_getr C w 31 (hI 31 (by decide)) sh_31 (rfl : vwCl[0]? = some (RX0, TX0, 6)) inX0_copyFrom_0 4 (by decide) rfl lX0_copyFrom_21 dX0_copyFrom_54 ?_
  refine lv_iconst (v := 0) C.1.1 C.1.2.1 dX0_copyFrom_57 (by decide) ?_
  refine lv_aload_n C.1.1 C.1.2.1 dX0_copyFrom_58 rfl (lv_at hl 0 rfl) ?_
  refine ns_getr C w 110 (hJ 110 (by decide) (by decide)) sh_110 (rfl : vwCl[0]? = some (RX0, TX0, 6)) inX0_copyFrom_0 4 (by decide) rfl lX0_copyFrom_21 dX0_copyFrom_59 ?_
  refine lv_iconst (v := 0) C.1.1 C.1.2.1 dX0_copyFrom_62 (by decide) ?_
  refine lv_bipush (v := 10) C.1.1 C.1.2.1 dX0_copyFrom_63 (by decide) ?_
  refine ns_copy C w 35 114 (hI 35 (by decide)) (hJ 114 (by decide) (by decide)) sh_35 sh_114 hf rfl rfl (List.mem_of_getElem? (i := 4) rfl) (List.mem_of_getElem? (i := 3) rfl) (List.mem_of_getElem? (i := 4) rfl) (List.mem_of_getElem? (i := 5) rfl) (List.mem_of_getElem? (i := 6) rfl) hl.1 (Nat.le_of_ble_eq_true rfl) (Nat.le_of_ble_eq_true rfl) dX0_copyFrom_65 (fun y4 H locs hf w => ?_)
  refine lv_aload_n C.1.1 C.1.2.1 dX0_copyFrom_68 rfl (lv_at hl 1 rfl) ?_
  refine ns_getr C w 31 (hI 31 (by decide)) sh_31 (rfl : vwCl[0]? = some (RX0, TX0, 6)) inX0_copyFrom_0 5 (by decide) rfl lX0_copyFrom_24 dX0_copyFrom_69 ?_
  refine lv_iconst (v := 0) C.1.1 C.1.2.1 dX0_copyFrom_72 (by decide) ?_
  refine lv_aload_n C.1.1 C.1.2.1 dX0_copyFrom_73 rfl (lv_at hl 0 rfl) ?_
  refine ns_getr C w 110 (hJ 110 (by decide) (by decide)) sh_110 (rfl : vwCl[0]? = some (RX0, TX0, 6)) inX0_copyFrom_0 5 (by decide) rfl lX0_copyFrom_24 dX0_copyFrom_74 ?_
  refine lv_iconst (v := 0) C.1.1 C.1.2.1 dX0_copyFrom_77 (by decide) ?_
  refine lv_bipush (v := 10) C.1.1 C.1.2.1 dX0_copyFrom_78 (by decide) ?_
  refine ns_copy C w 36 115 (hI 36 (by decide)) (hJ 115 (by decide) (by decide)) sh_36 sh_115 hf rfl rfl (List.mem_of_getElem? (i := 5) rfl) (List.mem_of_getElem? (i := 3) rfl) (List.mem_of_getElem? (i := 4) rfl) (List.mem_of_getElem? (i := 5) rfl) (List.mem_of_getElem? (i := 6) rfl) hl.1 (Nat.le_of_ble_eq_true rfl) (Nat.le_of_ble_eq_true rfl) dX0_copyFrom_80 (fun y5 H locs hf w => ?_)
  have he := Option.some.inj hf
  subst he
  exact ns_vret C w hr hlk rfl rfl dX0_copyFrom_83
theorem lX4_copyFrom_9 : Cond.fieldLink RX4 9 (TX4 1).1 (TX4 1).2.1 (TX4 1).2.2.1 ∈ wsX4_copyFrom := List.mem_of_getElem? (i := 2) rfl
theorem lX4_copyFrom_15 : Cond.fieldLink RX4 15 (TX4 2).1 (TX4 2).2.1 (TX4 2).2.2.1 ∈ wsX4_copyFrom := List.mem_of_getElem? (i := 7) rfl
theorem lX4_copyFrom_18 : Cond.fieldLink RX4 18 (TX4 3).1 (TX4 3).2.1 (TX4 3).2.2.1 ∈ wsX4_copyFrom := List.mem_of_getElem? (i := 8) rfl
theorem lX4_copyFrom_21 : Cond.fieldLink RX4 21 (TX4 4).1 (TX4 4).2.1 (TX4 4).2.2.1 ∈ wsX4_copyFrom := List.mem_of_getElem? (i := 9) rfl
theorem lX4_copyFrom_24 : Cond.fieldLink RX4 24 (TX4 5).1 (TX4 5).2.1 (TX4 5).2.2.1 ∈ wsX4_copyFrom := List.mem_of_getElem? (i := 10) rfl
theorem lX4_copyFrom_27 : Cond.fieldLink RX4 27 (TX4 0).1 (TX4 0).2.1 (TX4 0).2.2.1 ∈ wsX4_copyFrom := List.mem_of_getElem? (i := 1) rfl
theorem inX4_copyFrom_4 : ∀ w ∈ u_ws RX4 TX4 6, w ∈ wsX4_copyFrom := fun _ h => List.mem_cons_of_mem _ (List.mem_append_right _ h)
theorem hdX4_copyFrom : yX4_copyFrom.cls = RX4 ∧ yX4_copyFrom.cls ≠ "java/lang/invoke/MethodHandle" ∧ yX4_copyFrom.cls ≠ "java/lang/invoke/VarHandle" ∧ (parseMethodDescriptor yX4_copyFrom.desc).map (fun d => d.parameters.length) = some 1 := by decide +kernel
abbrev wrX4_copyFrom_116_37 : List (Nat × Nat) := [(0, 7424), (1, 117), (1, 118), (1, 119), (1, 120), (1, 121)]
abbrev rmX4_copyFrom_116_37 : Room := { frames := 1, cells := 0, slots := 0, locals := 40 }
set_option maxHeartbeats 4000000 in
set_option maxRecDepth 100000 in
theorem mX4_copyFrom_116_37 (l : Launch) (D : va_G) (b : Nat → Nat) (ids : List Nat) (hI : ∀ i, i < 107 → i ∈ ids) (hJ : ∀ i, 107 ≤ i → i < 140 → i ∈ ids) (N : Nat) (S : ns_S) {o : Int32 × (Nat → Int32) × (Nat → Int32) × (Nat → Int32) × (Nat → Int32) × (Nat → Int32)} (hf : fX4_copyFrom N (S.1 2368) (S.1 7424) (S.2.1 38) (S.2.1 117) (S.2.1 39) (S.2.1 118) (S.2.1 40) (S.2.1 119) (S.2.1 41) (S.2.1 120) (S.2.1 42) (S.2.1 121) = some o) : ns_M l yX4_copyFrom wsX4_copyFrom rmX4_copyFrom_116_37 D b ids S [.ref (b 116), .ref (b 37)] none (ns_I (ns_A (ns_A (ns_A (ns_A (ns_A S 121 o.2.2.2.2.2) 120 o.2.2.2.2.1) 119 o.2.2.2.1) 118 o.2.2.1) 117 o.2.1) 7424 o.1) := by
  refine ns_start (Wr := wrX4_copyFrom_116_37) (by decide) rfl (Nat.le_of_ble_eq_true rfl) ?_
  intro p e s m below meth c A ls C hr hlk w hl
  have hl : lv_has ls 2 [(0, .ref (b 116)), (1, .ref (b 37))] := hl
  unfold fX4_copyFrom at hf
  refine lv_aload_n C.1.1 C.1.2.1 dX4_copyFrom_0 rfl (lv_at hl 0 rfl) ?_
  refine lv_aload_n C.1.1 C.1.2.1 dX4_copyFrom_1 rfl (lv_at hl 1 rfl) ?_
  refine ns_geti C w 37 (hI 37 (by decide)) sh_37 (rfl : vwCl[4]? = some (RX4, TX4, 6)) inX4_copyFrom_4 0 (by decide) rfl lX4_copyFrom_27 (S.1 2368) rfl dX4_copyFrom_2 ?_
  refine ns_puti C w 116 (hJ 116 (by decide) (by decide)) sh_116 (rfl : vwCl[4]? = some (RX4, TX4, 6)) inX4_copyFrom_4 tyX4_ok nmX4 0 (by decide) rfl lX4_copyFrom_27 rfl rfl rfl (List.mem_of_getElem? (i := 0) rfl) dX4_copyFrom_5 (fun H locs w => ?_)
  refine lv_aload_n C.1.1 C.1.2.1 dX4_copyFrom_8 rfl (lv_at hl 1 rfl) ?_
  refine ns_getr C w 37 (hI 37 (by decide)) sh_37 (rfl : vwCl[4]? = some (RX4, TX4, 6)) inX4_copyFrom_4 1 (by decide) rfl lX4_copyFrom_9 dX4_copyFrom_9 ?_
  refine lv_iconst (v := 0) C.1.1 C.1.2.1 dX4_copyFrom_12 (by decide) ?_
  refine lv_aload_n C.1.1 C.1.2.1 dX4_copyFrom_13 rfl (lv_at hl 0 rfl) ?_
  refine ns_getr C w 116 (hJ 116 (by decide) (by decide)) sh_116 (rfl : vwCl[4]? = some (RX4, TX4, 6)) inX4_copyFrom_4 1 (by decide) rfl lX4_copyFrom_9 dX4_copyFrom_14 ?_
  refine lv_iconst (v := 0) C.1.1 C.1.2.1 dX4_copyFrom_17 (by decide) ?_
  refine lv_bipush (v := 30) C.1.1 C.1.2.1 dX4_copyFrom_18 (by decide) ?_
  refine ns_copy C w 38 117 (hI 38 (by decide)) (hJ 117 (by decide) (by decide)) sh_38 sh_117 hf rfl rfl (List.mem_of_getElem? (i := 1) rfl) (List.mem_of_getElem? (i := 3) rfl) (List.mem_of_getElem? (i := 4) rfl) (List.mem_of_getElem? (i := 5) rfl) (List.mem_of_getElem? (i := 6) rfl) hl.1 (Nat.le_of_ble_eq_true rfl) (Nat.le_of_ble_eq_true rfl) dX4_copyFrom_20 (fun y1 H locs hf w => ?_)
  refine lv_aload_n C.1.1 C.1.2.1 dX4_copyFrom_23 rfl (lv_at hl 1 rfl) ?_
  refine ns_getr C w 37 (hI 37 (by decide)) sh_37 (rfl : vwCl[4]? = some (RX4, TX4, 6)) inX4_copyFrom_4 2 (by decide) rfl lX4_copyFrom_15 dX4_copyFrom_24 ?_
  refine lv_iconst (v := 0) C.1.1 C.1.2.1 dX4_copyFrom_27 (by decide) ?_
  refine lv_aload_n C.1.1 C.1.2.1 dX4_copyFrom_28 rfl (lv_at hl 0 rfl) ?_
  refine ns_getr C w 116 (hJ 116 (by decide) (by decide)) sh_116 (rfl : vwCl[4]? = some (RX4, TX4, 6)) inX4_copyFrom_4 2 (by decide) rfl lX4_copyFrom_15 dX4_copyFrom_29 ?_
  refine lv_iconst (v := 0) C.1.1 C.1.2.1 dX4_copyFrom_32 (by decide) ?_
  refine lv_bipush (v := 30) C.1.1 C.1.2.1 dX4_copyFrom_33 (by decide) ?_
  refine ns_copy C w 39 118 (hI 39 (by decide)) (hJ 118 (by decide) (by decide)) sh_39 sh_118 hf rfl rfl (List.mem_of_getElem? (i := 2) rfl) (List.mem_of_getElem? (i := 3) rfl) (List.mem_of_getElem? (i := 4) rfl) (List.mem_of_getElem? (i := 5) rfl) (List.mem_of_getElem? (i := 6) rfl) hl.1 (Nat.le_of_ble_eq_true rfl) (Nat.le_of_ble_eq_true rfl) dX4_copyFrom_35 (fun y2 H locs hf w => ?_)
  refine lv_aload_n C.1.1 C.1.2.1 dX4_copyFrom_38 rfl (lv_at hl 1 rfl) ?_
  refine ns_getr C w 37 (hI 37 (by decide)) sh_37 (rfl : vwCl[4]? = some (RX4, TX4, 6)) inX4_copyFrom_4 3 (by decide) rfl lX4_copyFrom_18 dX4_copyFrom_39 ?_
  refine lv_iconst (v := 0) C.1.1 C.1.2.1 dX4_copyFrom_42 (by decide) ?_
  refine lv_aload_n C.1.1 C.1.2.1 dX4_copyFrom_43 rfl (lv_at hl 0 rfl) ?_
  refine ns_getr C w 116 (hJ 116 (by decide) (by decide)) sh_116 (rfl : vwCl[4]? = some (RX4, TX4, 6)) inX4_copyFrom_4 3 (by decide) rfl lX4_copyFrom_18 dX4_copyFrom_44 ?_
  refine lv_iconst (v := 0) C.1.1 C.1.2.1 dX4_copyFrom_47 (by decide) ?_
  refine lv_bipush (v := 30) C.1.1 C.1.2.1 dX4_copyFrom_48 (by decide) ?_
  refine ns_copy C w 40 119 (hI 40 (by decide)) (hJ 119 (by decide) (by decide)) sh_40 sh_119 hf rfl rfl (List.mem_of_getElem? (i := 3) rfl) (List.mem_of_getElem? (i := 3) rfl) (List.mem_of_getElem? (i := 4) rfl) (List.mem_of_getElem? (i := 5) rfl) (List.mem_of_getElem? (i := 6) rfl) hl.1 (Nat.le_of_ble_eq_true rfl) (Nat.le_of_ble_eq_true rfl) dX4_copyFrom_50 (fun y3 H locs hf w => ?_)
  refine lv_aload_n C.1.1 C.1.2.1 dX4_copyFrom_53 rfl (lv_at hl 1 rfl) ?_
  refine ns_getr C w 37 (hI 37 (by decide)) sh_37 (rfl : vwCl[4]? = some (RX4, TX4, 6)) inX4_copyFrom_4 4 (by decide) rfl lX4_copyFrom_21 dX4_copyFrom_54 ?_
  refine lv_iconst (v := 0) C.1.1 C.1.2.1 dX4_copyFrom_57 (by decide) ?_
  refine lv_aload_n C.1.1 C.1.2.1 dX4_copyFrom_58 rfl (lv_at hl 0 rfl) ?_
  refine ns_getr C w 116 (hJ 116 (by decide) (by decide)) sh_116 (rfl : vwCl[4]? = some (RX4, TX4, 6)) inX4_copyFrom_4 4 (by decide) rfl lX4_copyFrom_21 dX4_copyFrom_59 ?_
  refine lv_iconst (v := 0) C.1.1 C.1.2.1 dX4_copyFrom_62 (by decide) ?_
  refine lv_bipush (v := 30) C.1.1 C.1.2.1 dX4_copyFrom_63 (by decide) ?_
  refine ns_copy C w 41 120 (hI 41 (by decide)) (hJ 120 (by decide) (by decide)) sh_41 sh_120 hf rfl rfl (List.mem_of_getElem? (i := 4) rfl) (List.mem_of_getElem? (i := 3) rfl) (List.mem_of_getElem? (i := 4) rfl) (List.mem_of_getElem? (i := 5) rfl) (List.mem_of_getElem? (i := 6) rfl) hl.1 (Nat.le_of_ble_eq_true rfl) (Nat.le_of_ble_eq_true rfl) dX4_copyFrom_65 (fun y4 H locs hf w => ?_)
  refine lv_aload_n C.1.1 C.1.2.1 dX4_copyFrom_68 rfl (lv_at hl 1 rfl) ?_
  refine ns_getr C w 37 (hI 37 (by decide)) sh_37 (rfl : vwCl[4]? = some (RX4, TX4, 6)) inX4_copyFrom_4 5 (by decide) rfl lX4_copyFrom_24 dX4_copyFrom_69 ?_
  refine lv_iconst (v := 0) C.1.1 C.1.2.1 dX4_copyFrom_72 (by decide) ?_
  refine lv_aload_n C.1.1 C.1.2.1 dX4_copyFrom_73 rfl (lv_at hl 0 rfl) ?_
  refine ns_getr C w 116 (hJ 116 (by decide) (by decide)) sh_116 (rfl : vwCl[4]? = some (RX4, TX4, 6)) inX4_copyFrom_4 5 (by decide) rfl lX4_copyFrom_24 dX4_copyFrom_74 ?_
  refine lv_iconst (v := 0) C.1.1 C.1.2.1 dX4_copyFrom_77 (by decide) ?_
  refine lv_sipush (v := 180) C.1.1 C.1.2.1 dX4_copyFrom_78 (by decide) ?_
  refine ns_copy C w 42 121 (hI 42 (by decide)) (hJ 121 (by decide) (by decide)) sh_42 sh_121 hf rfl rfl (List.mem_of_getElem? (i := 5) rfl) (List.mem_of_getElem? (i := 3) rfl) (List.mem_of_getElem? (i := 4) rfl) (List.mem_of_getElem? (i := 5) rfl) (List.mem_of_getElem? (i := 6) rfl) hl.1 (Nat.le_of_ble_eq_true rfl) (Nat.le_of_ble_eq_true rfl) dX4_copyFrom_81 (fun y5 H locs hf w => ?_)
  have he := Option.some.inj hf
  subst he
  exact ns_vret C w hr hlk rfl rfl dX4_copyFrom_84
abbrev wrX7_copyFrom_122_43 : List (Nat × Nat) := [(0, 7808), (1, 123), (1, 124), (1, 125), (1, 126)]
abbrev rmX7_copyFrom_122_43 : Room := { frames := 1, cells := 0, slots := 0, locals := 40 }
set_option maxHeartbeats 4000000 in
set_option maxRecDepth 100000 in
theorem mX7_copyFrom_122_43 (l : Launch) (D : va_G) (b : Nat → Nat) (ids : List Nat) (hI : ∀ i, i < 107 → i ∈ ids) (hJ : ∀ i, 107 ≤ i → i < 140 → i ∈ ids) (N : Nat) (S : ns_S) {o : Int32 × (Nat → Int32) × (Nat → Int32) × (Nat → Int32) × (Nat → Int32)} (hf : fX7_copyFrom N (S.1 2752) (S.1 7808) (S.2.1 44) (S.2.1 123) (S.2.1 45) (S.2.1 124) (S.2.1 46) (S.2.1 125) (S.2.1 47) (S.2.1 126) = some o) : ns_M l yX7_copyFrom wsX7_copyFrom rmX7_copyFrom_122_43 D b ids S [.ref (b 122), .ref (b 43)] none (ns_I (ns_A (ns_A (ns_A (ns_A S 126 o.2.2.2.2) 125 o.2.2.2.1) 124 o.2.2.1) 123 o.2.1) 7808 o.1) := by
  refine ns_start (Wr := wrX7_copyFrom_122_43) (by decide) rfl (Nat.le_of_ble_eq_true rfl) ?_
  intro p e s m below meth c A ls C hr hlk w hl
  have hl : lv_has ls 2 [(0, .ref (b 122)), (1, .ref (b 43))] := hl
  unfold fX7_copyFrom at hf
  refine lv_aload_n C.1.1 C.1.2.1 dX7_copyFrom_0 rfl (lv_at hl 0 rfl) ?_
  refine lv_aload_n C.1.1 C.1.2.1 dX7_copyFrom_1 rfl (lv_at hl 1 rfl) ?_
  refine ns_geti C w 43 (hI 43 (by decide)) sh_43 (rfl : vwCl[7]? = some (RX7, TX7, 5)) inX7_copyFrom_7 0 (by decide) rfl lX7_copyFrom_30 (S.1 2752) rfl dX7_copyFrom_2 ?_
  refine ns_puti C w 122 (hJ 122 (by decide) (by decide)) sh_122 (rfl : vwCl[7]? = some (RX7, TX7, 5)) inX7_copyFrom_7 tyX7_ok nmX7 0 (by decide) rfl lX7_copyFrom_30 rfl rfl rfl (List.mem_of_getElem? (i := 0) rfl) dX7_copyFrom_5 (fun H locs w => ?_)
  refine lv_aload_n C.1.1 C.1.2.1 dX7_copyFrom_8 rfl (lv_at hl 1 rfl) ?_
  refine ns_getr C w 43 (hI 43 (by decide)) sh_43 (rfl : vwCl[7]? = some (RX7, TX7, 5)) inX7_copyFrom_7 1 (by decide) rfl lX7_copyFrom_9 dX7_copyFrom_9 ?_
  refine lv_iconst (v := 0) C.1.1 C.1.2.1 dX7_copyFrom_12 (by decide) ?_
  refine lv_aload_n C.1.1 C.1.2.1 dX7_copyFrom_13 rfl (lv_at hl 0 rfl) ?_
  refine ns_getr C w 122 (hJ 122 (by decide) (by decide)) sh_122 (rfl : vwCl[7]? = some (RX7, TX7, 5)) inX7_copyFrom_7 1 (by decide) rfl lX7_copyFrom_9 dX7_copyFrom_14 ?_
  refine lv_iconst (v := 0) C.1.1 C.1.2.1 dX7_copyFrom_17 (by decide) ?_
  refine lv_bipush (v := 10) C.1.1 C.1.2.1 dX7_copyFrom_18 (by decide) ?_
  refine ns_copy C w 44 123 (hI 44 (by decide)) (hJ 123 (by decide) (by decide)) sh_44 sh_123 hf rfl rfl (List.mem_of_getElem? (i := 1) rfl) (List.mem_of_getElem? (i := 3) rfl) (List.mem_of_getElem? (i := 4) rfl) (List.mem_of_getElem? (i := 5) rfl) (List.mem_of_getElem? (i := 6) rfl) hl.1 (Nat.le_of_ble_eq_true rfl) (Nat.le_of_ble_eq_true rfl) dX7_copyFrom_20 (fun y1 H locs hf w => ?_)
  refine lv_aload_n C.1.1 C.1.2.1 dX7_copyFrom_23 rfl (lv_at hl 1 rfl) ?_
  refine ns_getr C w 43 (hI 43 (by decide)) sh_43 (rfl : vwCl[7]? = some (RX7, TX7, 5)) inX7_copyFrom_7 2 (by decide) rfl lX7_copyFrom_15 dX7_copyFrom_24 ?_
  refine lv_iconst (v := 0) C.1.1 C.1.2.1 dX7_copyFrom_27 (by decide) ?_
  refine lv_aload_n C.1.1 C.1.2.1 dX7_copyFrom_28 rfl (lv_at hl 0 rfl) ?_
  refine ns_getr C w 122 (hJ 122 (by decide) (by decide)) sh_122 (rfl : vwCl[7]? = some (RX7, TX7, 5)) inX7_copyFrom_7 2 (by decide) rfl lX7_copyFrom_15 dX7_copyFrom_29 ?_
  refine lv_iconst (v := 0) C.1.1 C.1.2.1 dX7_copyFrom_32 (by decide) ?_
  refine lv_bipush (v := 10) C.1.1 C.1.2.1 dX7_copyFrom_33 (by decide) ?_
  refine ns_copy C w 45 124 (hI 45 (by decide)) (hJ 124 (by decide) (by decide)) sh_45 sh_124 hf rfl rfl (List.mem_of_getElem? (i := 2) rfl) (List.mem_of_getElem? (i := 3) rfl) (List.mem_of_getElem? (i := 4) rfl) (List.mem_of_getElem? (i := 5) rfl) (List.mem_of_getElem? (i := 6) rfl) hl.1 (Nat.le_of_ble_eq_true rfl) (Nat.le_of_ble_eq_true rfl) dX7_copyFrom_35 (fun y2 H locs hf w => ?_)
  refine lv_aload_n C.1.1 C.1.2.1 dX7_copyFrom_38 rfl (lv_at hl 1 rfl) ?_
  refine ns_getr C w 43 (hI 43 (by decide)) sh_43 (rfl : vwCl[7]? = some (RX7, TX7, 5)) inX7_copyFrom_7 3 (by decide) rfl lX7_copyFrom_18 dX7_copyFrom_39 ?_
  refine lv_iconst (v := 0) C.1.1 C.1.2.1 dX7_copyFrom_42 (by decide) ?_
  refine lv_aload_n C.1.1 C.1.2.1 dX7_copyFrom_43 rfl (lv_at hl 0 rfl) ?_
  refine ns_getr C w 122 (hJ 122 (by decide) (by decide)) sh_122 (rfl : vwCl[7]? = some (RX7, TX7, 5)) inX7_copyFrom_7 3 (by decide) rfl lX7_copyFrom_18 dX7_copyFrom_44 ?_
  refine lv_iconst (v := 0) C.1.1 C.1.2.1 dX7_copyFrom_47 (by decide) ?_
  refine lv_bipush (v := 10) C.1.1 C.1.2.1 dX7_copyFrom_48 (by decide) ?_
  refine ns_copy C w 46 125 (hI 46 (by decide)) (hJ 125 (by decide) (by decide)) sh_46 sh_125 hf rfl rfl (List.mem_of_getElem? (i := 3) rfl) (List.mem_of_getElem? (i := 3) rfl) (List.mem_of_getElem? (i := 4) rfl) (List.mem_of_getElem? (i := 5) rfl) (List.mem_of_getElem? (i := 6) rfl) hl.1 (Nat.le_of_ble_eq_true rfl) (Nat.le_of_ble_eq_true rfl) dX7_copyFrom_50 (fun y3 H locs hf w => ?_)
  refine lv_aload_n C.1.1 C.1.2.1 dX7_copyFrom_53 rfl (lv_at hl 1 rfl) ?_
  refine ns_getr C w 43 (hI 43 (by decide)) sh_43 (rfl : vwCl[7]? = some (RX7, TX7, 5)) inX7_copyFrom_7 4 (by decide) rfl lX7_copyFrom_21 dX7_copyFrom_54 ?_
  refine lv_iconst (v := 0) C.1.1 C.1.2.1 dX7_copyFrom_57 (by decide) ?_
  refine lv_aload_n C.1.1 C.1.2.1 dX7_copyFrom_58 rfl (lv_at hl 0 rfl) ?_
  refine ns_getr C w 122 (hJ 122 (by decide) (by decide)) sh_122 (rfl : vwCl[7]? = some (RX7, TX7, 5)) inX7_copyFrom_7 4 (by decide) rfl lX7_copyFrom_21 dX7_copyFrom_59 ?_
  refine lv_iconst (v := 0) C.1.1 C.1.2.1 dX7_copyFrom_62 (by decide) ?_
  refine lv_bipush (v := 30) C.1.1 C.1.2.1 dX7_copyFrom_63 (by decide) ?_
  refine ns_copy C w 47 126 (hI 47 (by decide)) (hJ 126 (by decide) (by decide)) sh_47 sh_126 hf rfl rfl (List.mem_of_getElem? (i := 4) rfl) (List.mem_of_getElem? (i := 3) rfl) (List.mem_of_getElem? (i := 4) rfl) (List.mem_of_getElem? (i := 5) rfl) (List.mem_of_getElem? (i := 6) rfl) hl.1 (Nat.le_of_ble_eq_true rfl) (Nat.le_of_ble_eq_true rfl) dX7_copyFrom_65 (fun y4 H locs hf w => ?_)
  have he := Option.some.inj hf
  subst he
  exact ns_vret C w hr hlk rfl rfl dX7_copyFrom_68
theorem lX8_copyFrom_9 : Cond.fieldLink RX8 9 (TX8 0).1 (TX8 0).2.1 (TX8 0).2.2.1 ∈ wsX8_copyFrom := List.mem_of_getElem? (i := 1) rfl
theorem lX8_copyFrom_15 : Cond.fieldLink RX8 15 (TX8 2).1 (TX8 2).2.1 (TX8 2).2.2.1 ∈ wsX8_copyFrom := List.mem_of_getElem? (i := 3) rfl
theorem lX8_copyFrom_19 : Cond.fieldLink RX8 19 (TX8 3).1 (TX8 3).2.1 (TX8 3).2.2.1 ∈ wsX8_copyFrom := List.mem_of_getElem? (i := 8) rfl
theorem lX8_copyFrom_22 : Cond.fieldLink RX8 22 (TX8 4).1 (TX8 4).2.1 (TX8 4).2.2.1 ∈ wsX8_copyFrom := List.mem_of_getElem? (i := 9) rfl
theorem lX8_copyFrom_25 : Cond.fieldLink RX8 25 (TX8 5).1 (TX8 5).2.1 (TX8 5).2.2.1 ∈ wsX8_copyFrom := List.mem_of_getElem? (i := 10) rfl
theorem lX8_copyFrom_28 : Cond.fieldLink RX8 28 (TX8 1).1 (TX8 1).2.1 (TX8 1).2.2.1 ∈ wsX8_copyFrom := List.mem_of_getElem? (i := 2) rfl
theorem inX8_copyFrom_8 : ∀ w ∈ u_ws RX8 TX8 6, w ∈ wsX8_copyFrom := fun _ h => List.mem_cons_of_mem _ (List.mem_append_right _ h)
theorem hdX8_copyFrom : yX8_copyFrom.cls = RX8 ∧ yX8_copyFrom.cls ≠ "java/lang/invoke/MethodHandle" ∧ yX8_copyFrom.cls ≠ "java/lang/invoke/VarHandle" ∧ (parseMethodDescriptor yX8_copyFrom.desc).map (fun d => d.parameters.length) = some 1 := by decide +kernel
abbrev wrX8_copyFrom_127_48 : List (Nat × Nat) := [(0, 8128), (0, 8129), (1, 128), (1, 129), (1, 130), (1, 131)]
abbrev rmX8_copyFrom_127_48 : Room := { frames := 1, cells := 0, slots := 0, locals := 40 }
set_option maxHeartbeats 4000000 in
set_option maxRecDepth 100000 in
theorem mX8_copyFrom_127_48 (l : Launch) (D : va_G) (b : Nat → Nat) (ids : List Nat) (hI : ∀ i, i < 107 → i ∈ ids) (hJ : ∀ i, 107 ≤ i → i < 140 → i ∈ ids) (N : Nat) (S : ns_S) {o : Int32 × Int32 × (Nat → Int32) × (Nat → Int32) × (Nat → Int32) × (Nat → Int32)} (hf : fX8_copyFrom N (S.1 3072) (S.1 8128) (S.1 3073) (S.1 8129) (S.2.1 49) (S.2.1 128) (S.2.1 50) (S.2.1 129) (S.2.1 51) (S.2.1 130) (S.2.1 52) (S.2.1 131) = some o) : ns_M l yX8_copyFrom wsX8_copyFrom rmX8_copyFrom_127_48 D b ids S [.ref (b 127), .ref (b 48)] none (ns_I (ns_I (ns_A (ns_A (ns_A (ns_A S 131 o.2.2.2.2.2) 130 o.2.2.2.2.1) 129 o.2.2.2.1) 128 o.2.2.1) 8129 o.2.1) 8128 o.1) := by
  refine ns_start (Wr := wrX8_copyFrom_127_48) (by decide) rfl (Nat.le_of_ble_eq_true rfl) ?_
  intro p e s m below meth c A ls C hr hlk w hl
  have hl : lv_has ls 2 [(0, .ref (b 127)), (1, .ref (b 48))] := hl
  unfold fX8_copyFrom at hf
  refine lv_aload_n C.1.1 C.1.2.1 dX8_copyFrom_0 rfl (lv_at hl 0 rfl) ?_
  refine lv_aload_n C.1.1 C.1.2.1 dX8_copyFrom_1 rfl (lv_at hl 1 rfl) ?_
  refine ns_geti C w 48 (hI 48 (by decide)) sh_48 (rfl : vwCl[8]? = some (RX8, TX8, 6)) inX8_copyFrom_8 0 (by decide) rfl lX8_copyFrom_9 (S.1 3072) rfl dX8_copyFrom_2 ?_
  refine ns_puti C w 127 (hJ 127 (by decide) (by decide)) sh_127 (rfl : vwCl[8]? = some (RX8, TX8, 6)) inX8_copyFrom_8 tyX8_ok nmX8 0 (by decide) rfl lX8_copyFrom_9 rfl rfl rfl (List.mem_of_getElem? (i := 0) rfl) dX8_copyFrom_5 (fun H locs w => ?_)
  refine lv_aload_n C.1.1 C.1.2.1 dX8_copyFrom_8 rfl (lv_at hl 0 rfl) ?_
  refine lv_aload_n C.1.1 C.1.2.1 dX8_copyFrom_9 rfl (lv_at hl 1 rfl) ?_
  refine ns_geti C w 48 (hI 48 (by decide)) sh_48 (rfl : vwCl[8]? = some (RX8, TX8, 6)) inX8_copyFrom_8 1 (by decide) rfl lX8_copyFrom_28 (S.1 3073) rfl dX8_copyFrom_10 ?_
  refine ns_puti C w 127 (hJ 127 (by decide) (by decide)) sh_127 (rfl : vwCl[8]? = some (RX8, TX8, 6)) inX8_copyFrom_8 tyX8_ok nmX8 1 (by decide) rfl lX8_copyFrom_28 rfl rfl rfl (List.mem_of_getElem? (i := 1) rfl) dX8_copyFrom_13 (fun H locs w => ?_)
  refine lv_aload_n C.1.1 C.1.2.1 dX8_copyFrom_16 rfl (lv_at hl 1 rfl) ?_
  refine ns_getr C w 48 (hI 48 (by decide)) sh_48 (rfl : vwCl[8]? = some (RX8, TX8, 6)) inX8_copyFrom_8 2 (by decide) rfl lX8_copyFrom_15 dX8_copyFrom_17 ?_
  refine lv_iconst (v := 0) C.1.1 C.1.2.1 dX8_copyFrom_20 (by decide) ?_
  refine lv_aload_n C.1.1 C.1.2.1 dX8_copyFrom_21 rfl (lv_at hl 0 rfl) ?_
  refine ns_getr C w 127 (hJ 127 (by decide) (by decide)) sh_127 (rfl : vwCl[8]? = some (RX8, TX8, 6)) inX8_copyFrom_8 2 (by decide) rfl lX8_copyFrom_15 dX8_copyFrom_22 ?_
  refine lv_iconst (v := 0) C.1.1 C.1.2.1 dX8_copyFrom_25 (by decide) ?_
  refine lv_bipush (v := 30) C.1.1 C.1.2.1 dX8_copyFrom_26 (by decide) ?_
  refine ns_copy C w 49 128 (hI 49 (by decide)) (hJ 128 (by decide) (by decide)) sh_49 sh_128 hf rfl rfl (List.mem_of_getElem? (i := 2) rfl) (List.mem_of_getElem? (i := 4) rfl) (List.mem_of_getElem? (i := 5) rfl) (List.mem_of_getElem? (i := 6) rfl) (List.mem_of_getElem? (i := 7) rfl) hl.1 (Nat.le_of_ble_eq_true rfl) (Nat.le_of_ble_eq_true rfl) dX8_copyFrom_28 (fun y1 H locs hf w => ?_)
  refine lv_aload_n C.1.1 C.1.2.1 dX8_copyFrom_31 rfl (lv_at hl 1 rfl) ?_
  refine ns_getr C w 48 (hI 48 (by decide)) sh_48 (rfl : vwCl[8]? = some (RX8, TX8, 6)) inX8_copyFrom_8 3 (by decide) rfl lX8_copyFrom_19 dX8_copyFrom_32 ?_
  refine lv_iconst (v := 0) C.1.1 C.1.2.1 dX8_copyFrom_35 (by decide) ?_
  refine lv_aload_n C.1.1 C.1.2.1 dX8_copyFrom_36 rfl (lv_at hl 0 rfl) ?_
  refine ns_getr C w 127 (hJ 127 (by decide) (by decide)) sh_127 (rfl : vwCl[8]? = some (RX8, TX8, 6)) inX8_copyFrom_8 3 (by decide) rfl lX8_copyFrom_19 dX8_copyFrom_37 ?_
  refine lv_iconst (v := 0) C.1.1 C.1.2.1 dX8_copyFrom_40 (by decide) ?_
  refine lv_bipush (v := 10) C.1.1 C.1.2.1 dX8_copyFrom_41 (by decide) ?_
  refine ns_copy C w 50 129 (hI 50 (by decide)) (hJ 129 (by decide) (by decide)) sh_50 sh_129 hf rfl rfl (List.mem_of_getElem? (i := 3) rfl) (List.mem_of_getElem? (i := 4) rfl) (List.mem_of_getElem? (i := 5) rfl) (List.mem_of_getElem? (i := 6) rfl) (List.mem_of_getElem? (i := 7) rfl) hl.1 (Nat.le_of_ble_eq_true rfl) (Nat.le_of_ble_eq_true rfl) dX8_copyFrom_43 (fun y2 H locs hf w => ?_)
  refine lv_aload_n C.1.1 C.1.2.1 dX8_copyFrom_46 rfl (lv_at hl 1 rfl) ?_
  refine ns_getr C w 48 (hI 48 (by decide)) sh_48 (rfl : vwCl[8]? = some (RX8, TX8, 6)) inX8_copyFrom_8 4 (by decide) rfl lX8_copyFrom_22 dX8_copyFrom_47 ?_
  refine lv_iconst (v := 0) C.1.1 C.1.2.1 dX8_copyFrom_50 (by decide) ?_
  refine lv_aload_n C.1.1 C.1.2.1 dX8_copyFrom_51 rfl (lv_at hl 0 rfl) ?_
  refine ns_getr C w 127 (hJ 127 (by decide) (by decide)) sh_127 (rfl : vwCl[8]? = some (RX8, TX8, 6)) inX8_copyFrom_8 4 (by decide) rfl lX8_copyFrom_22 dX8_copyFrom_52 ?_
  refine lv_iconst (v := 0) C.1.1 C.1.2.1 dX8_copyFrom_55 (by decide) ?_
  refine lv_bipush (v := 6) C.1.1 C.1.2.1 dX8_copyFrom_56 (by decide) ?_
  refine ns_copy C w 51 130 (hI 51 (by decide)) (hJ 130 (by decide) (by decide)) sh_51 sh_130 hf rfl rfl (List.mem_of_getElem? (i := 4) rfl) (List.mem_of_getElem? (i := 4) rfl) (List.mem_of_getElem? (i := 5) rfl) (List.mem_of_getElem? (i := 6) rfl) (List.mem_of_getElem? (i := 7) rfl) hl.1 (Nat.le_of_ble_eq_true rfl) (Nat.le_of_ble_eq_true rfl) dX8_copyFrom_58 (fun y3 H locs hf w => ?_)
  refine lv_aload_n C.1.1 C.1.2.1 dX8_copyFrom_61 rfl (lv_at hl 1 rfl) ?_
  refine ns_getr C w 48 (hI 48 (by decide)) sh_48 (rfl : vwCl[8]? = some (RX8, TX8, 6)) inX8_copyFrom_8 5 (by decide) rfl lX8_copyFrom_25 dX8_copyFrom_62 ?_
  refine lv_iconst (v := 0) C.1.1 C.1.2.1 dX8_copyFrom_65 (by decide) ?_
  refine lv_aload_n C.1.1 C.1.2.1 dX8_copyFrom_66 rfl (lv_at hl 0 rfl) ?_
  refine ns_getr C w 127 (hJ 127 (by decide) (by decide)) sh_127 (rfl : vwCl[8]? = some (RX8, TX8, 6)) inX8_copyFrom_8 5 (by decide) rfl lX8_copyFrom_25 dX8_copyFrom_67 ?_
  refine lv_iconst (v := 0) C.1.1 C.1.2.1 dX8_copyFrom_70 (by decide) ?_
  refine lv_iconst (v := 5) C.1.1 C.1.2.1 dX8_copyFrom_71 (by decide) ?_
  refine ns_copy C w 52 131 (hI 52 (by decide)) (hJ 131 (by decide) (by decide)) sh_52 sh_131 hf rfl rfl (List.mem_of_getElem? (i := 5) rfl) (List.mem_of_getElem? (i := 4) rfl) (List.mem_of_getElem? (i := 5) rfl) (List.mem_of_getElem? (i := 6) rfl) (List.mem_of_getElem? (i := 7) rfl) hl.1 (Nat.le_of_ble_eq_true rfl) (Nat.le_of_ble_eq_true rfl) dX8_copyFrom_72 (fun y4 H locs hf w => ?_)
  have he := Option.some.inj hf
  subst he
  exact ns_vret C w hr hlk rfl rfl dX8_copyFrom_75
abbrev wrX2_copyFrom_132_53 : List (Nat × Nat) := [(0, 8448), (1, 133), (1, 134), (1, 135), (1, 136), (1, 137), (1, 138), (1, 139)]
abbrev rmX2_copyFrom_132_53 : Room := { frames := 1, cells := 0, slots := 0, locals := 40 }
set_option maxHeartbeats 4000000 in
set_option maxRecDepth 100000 in
theorem mX2_copyFrom_132_53 (l : Launch) (D : va_G) (b : Nat → Nat) (ids : List Nat) (hI : ∀ i, i < 107 → i ∈ ids) (hJ : ∀ i, 107 ≤ i → i < 140 → i ∈ ids) (N : Nat) (S : ns_S) {o : Int32 × (Nat → Int32) × (Nat → Int32) × (Nat → Int32) × (Nat → Int32) × (Nat → Int32) × (Nat → Int32) × (Nat → Int32)} (hf : fX2_copyFrom N (S.1 3392) (S.1 8448) (S.2.1 54) (S.2.1 133) (S.2.1 55) (S.2.1 134) (S.2.1 56) (S.2.1 135) (S.2.1 57) (S.2.1 136) (S.2.1 58) (S.2.1 137) (S.2.1 59) (S.2.1 138) (S.2.1 60) (S.2.1 139) = some o) : ns_M l yX2_copyFrom wsX2_copyFrom rmX2_copyFrom_132_53 D b ids S [.ref (b 132), .ref (b 53)] none (ns_I (ns_A (ns_A (ns_A (ns_A (ns_A (ns_A (ns_A S 139 o.2.2.2.2.2.2.2) 138 o.2.2.2.2.2.2.1) 137 o.2.2.2.2.2.1) 136 o.2.2.2.2.1) 135 o.2.2.2.1) 134 o.2.2.1) 133 o.2.1) 8448 o.1) := by
  refine ns_start (Wr := wrX2_copyFrom_132_53) (by decide) rfl (Nat.le_of_ble_eq_true rfl) ?_
  intro p e s m below meth c A ls C hr hlk w hl
  have hl : lv_has ls 2 [(0, .ref (b 132)), (1, .ref (b 53))] := hl
  unfold fX2_copyFrom at hf
  refine lv_aload_n C.1.1 C.1.2.1 dX2_copyFrom_0 rfl (lv_at hl 0 rfl) ?_
  refine lv_aload_n C.1.1 C.1.2.1 dX2_copyFrom_1 rfl (lv_at hl 1 rfl) ?_
  refine ns_geti C w 53 (hI 53 (by decide)) sh_53 (rfl : vwCl[2]? = some (RX2, TX2, 8)) inX2_copyFrom_2 0 (by decide) rfl lX2_copyFrom_33 (S.1 3392) rfl dX2_copyFrom_2 ?_
  refine ns_puti C w 132 (hJ 132 (by decide) (by decide)) sh_132 (rfl : vwCl[2]? = some (RX2, TX2, 8)) inX2_copyFrom_2 tyX2_ok nmX2 0 (by decide) rfl lX2_copyFrom_33 rfl rfl rfl (List.mem_of_getElem? (i := 0) rfl) dX2_copyFrom_5 (fun H locs w => ?_)
  refine lv_aload_n C.1.1 C.1.2.1 dX2_copyFrom_8 rfl (lv_at hl 1 rfl) ?_
  refine ns_getr C w 53 (hI 53 (by decide)) sh_53 (rfl : vwCl[2]? = some (RX2, TX2, 8)) inX2_copyFrom_2 1 (by decide) rfl lX2_copyFrom_9 dX2_copyFrom_9 ?_
  refine lv_iconst (v := 0) C.1.1 C.1.2.1 dX2_copyFrom_12 (by decide) ?_
  refine lv_aload_n C.1.1 C.1.2.1 dX2_copyFrom_13 rfl (lv_at hl 0 rfl) ?_
  refine ns_getr C w 132 (hJ 132 (by decide) (by decide)) sh_132 (rfl : vwCl[2]? = some (RX2, TX2, 8)) inX2_copyFrom_2 1 (by decide) rfl lX2_copyFrom_9 dX2_copyFrom_14 ?_
  refine lv_iconst (v := 0) C.1.1 C.1.2.1 dX2_copyFrom_17 (by decide) ?_
  refine lv_bipush (v := 16) C.1.1 C.1.2.1 dX2_copyFrom_18 (by decide) ?_
  refine ns_copy C w 54 133 (hI 54 (by decide)) (hJ 133 (by decide) (by decide)) sh_54 sh_133 hf rfl rfl (List.mem_of_getElem? (i := 1) rfl) (List.mem_of_getElem? (i := 3) rfl) (List.mem_of_getElem? (i := 4) rfl) (List.mem_of_getElem? (i := 5) rfl) (List.mem_of_getElem? (i := 6) rfl) hl.1 (Nat.le_of_ble_eq_true rfl) (Nat.le_of_ble_eq_true rfl) dX2_copyFrom_20 (fun y1 H locs hf w => ?_)
  refine lv_aload_n C.1.1 C.1.2.1 dX2_copyFrom_23 rfl (lv_at hl 1 rfl) ?_
  refine ns_getr C w 53 (hI 53 (by decide)) sh_53 (rfl : vwCl[2]? = some (RX2, TX2, 8)) inX2_copyFrom_2 2 (by decide) rfl lX2_copyFrom_15 dX2_copyFrom_24 ?_
  refine lv_iconst (v := 0) C.1.1 C.1.2.1 dX2_copyFrom_27 (by decide) ?_
  refine lv_aload_n C.1.1 C.1.2.1 dX2_copyFrom_28 rfl (lv_at hl 0 rfl) ?_
  refine ns_getr C w 132 (hJ 132 (by decide) (by decide)) sh_132 (rfl : vwCl[2]? = some (RX2, TX2, 8)) inX2_copyFrom_2 2 (by decide) rfl lX2_copyFrom_15 dX2_copyFrom_29 ?_
  refine lv_iconst (v := 0) C.1.1 C.1.2.1 dX2_copyFrom_32 (by decide) ?_
  refine lv_bipush (v := 16) C.1.1 C.1.2.1 dX2_copyFrom_33 (by decide) ?_
  refine ns_copy C w 55 134 (hI 55 (by decide)) (hJ 134 (by decide) (by decide)) sh_55 sh_134 hf rfl rfl (List.mem_of_getElem? (i := 2) rfl) (List.mem_of_getElem? (i := 3) rfl) (List.mem_of_getElem? (i := 4) rfl) (List.mem_of_getElem? (i := 5) rfl) (List.mem_of_getElem? (i := 6) rfl) hl.1 (Nat.le_of_ble_eq_true rfl) (Nat.le_of_ble_eq_true rfl) dX2_copyFrom_35 (fun y2 H locs hf w => ?_)
  refine lv_aload_n C.1.1 C.1.2.1 dX2_copyFrom_38 rfl (lv_at hl 1 rfl) ?_
  refine ns_getr C w 53 (hI 53 (by decide)) sh_53 (rfl : vwCl[2]? = some (RX2, TX2, 8)) inX2_copyFrom_2 3 (by decide) rfl lX2_copyFrom_18 dX2_copyFrom_39 ?_
  refine lv_iconst (v := 0) C.1.1 C.1.2.1 dX2_copyFrom_42 (by decide) ?_
  refine lv_aload_n C.1.1 C.1.2.1 dX2_copyFrom_43 rfl (lv_at hl 0 rfl) ?_
  refine ns_getr C w 132 (hJ 132 (by decide) (by decide)) sh_132 (rfl : vwCl[2]? = some (RX2, TX2, 8)) inX2_copyFrom_2 3 (by decide) rfl lX2_copyFrom_18 dX2_copyFrom_44 ?_
  refine lv_iconst (v := 0) C.1.1 C.1.2.1 dX2_copyFrom_47 (by decide) ?_
  refine lv_bipush (v := 16) C.1.1 C.1.2.1 dX2_copyFrom_48 (by decide) ?_
  refine ns_copy C w 56 135 (hI 56 (by decide)) (hJ 135 (by decide) (by decide)) sh_56 sh_135 hf rfl rfl (List.mem_of_getElem? (i := 3) rfl) (List.mem_of_getElem? (i := 3) rfl) (List.mem_of_getElem? (i := 4) rfl) (List.mem_of_getElem? (i := 5) rfl) (List.mem_of_getElem? (i := 6) rfl) hl.1 (Nat.le_of_ble_eq_true rfl) (Nat.le_of_ble_eq_true rfl) dX2_copyFrom_50 (fun y3 H locs hf w => ?_)
  refine lv_aload_n C.1.1 C.1.2.1 dX2_copyFrom_53 rfl (lv_at hl 1 rfl) ?_
  refine ns_getr C w 53 (hI 53 (by decide)) sh_53 (rfl : vwCl[2]? = some (RX2, TX2, 8)) inX2_copyFrom_2 4 (by decide) rfl lX2_copyFrom_21 dX2_copyFrom_54 ?_
  refine lv_iconst (v := 0) C.1.1 C.1.2.1 dX2_copyFrom_57 (by decide) ?_
  refine lv_aload_n C.1.1 C.1.2.1 dX2_copyFrom_58 rfl (lv_at hl 0 rfl) ?_
  refine ns_getr C w 132 (hJ 132 (by decide) (by decide)) sh_132 (rfl : vwCl[2]? = some (RX2, TX2, 8)) inX2_copyFrom_2 4 (by decide) rfl lX2_copyFrom_21 dX2_copyFrom_59 ?_
  refine lv_iconst (v := 0) C.1.1 C.1.2.1 dX2_copyFrom_62 (by decide) ?_
  refine lv_bipush (v := 16) C.1.1 C.1.2.1 dX2_copyFrom_63 (by decide) ?_
  refine ns_copy C w 57 136 (hI 57 (by decide)) (hJ 136 (by decide) (by decide)) sh_57 sh_136 hf rfl rfl (List.mem_of_getElem? (i := 4) rfl) (List.mem_of_getElem? (i := 3) rfl) (List.mem_of_getElem? (i := 4) rfl) (List.mem_of_getElem? (i := 5) rfl) (List.mem_of_getElem? (i := 6) rfl) hl.1 (Nat.le_of_ble_eq_true rfl) (Nat.le_of_ble_eq_true rfl) dX2_copyFrom_65 (fun y4 H locs hf w => ?_)
  refine lv_aload_n C.1.1 C.1.2.1 dX2_copyFrom_68 rfl (lv_at hl 1 rfl) ?_
  refine ns_getr C w 53 (hI 53 (by decide)) sh_53 (rfl : vwCl[2]? = some (RX2, TX2, 8)) inX2_copyFrom_2 5 (by decide) rfl lX2_copyFrom_24 dX2_copyFrom_69 ?_
  refine lv_iconst (v := 0) C.1.1 C.1.2.1 dX2_copyFrom_72 (by decide) ?_
  refine lv_aload_n C.1.1 C.1.2.1 dX2_copyFrom_73 rfl (lv_at hl 0 rfl) ?_
  refine ns_getr C w 132 (hJ 132 (by decide) (by decide)) sh_132 (rfl : vwCl[2]? = some (RX2, TX2, 8)) inX2_copyFrom_2 5 (by decide) rfl lX2_copyFrom_24 dX2_copyFrom_74 ?_
  refine lv_iconst (v := 0) C.1.1 C.1.2.1 dX2_copyFrom_77 (by decide) ?_
  refine lv_bipush (v := 64) C.1.1 C.1.2.1 dX2_copyFrom_78 (by decide) ?_
  refine ns_copy C w 58 137 (hI 58 (by decide)) (hJ 137 (by decide) (by decide)) sh_58 sh_137 hf rfl rfl (List.mem_of_getElem? (i := 5) rfl) (List.mem_of_getElem? (i := 3) rfl) (List.mem_of_getElem? (i := 4) rfl) (List.mem_of_getElem? (i := 5) rfl) (List.mem_of_getElem? (i := 6) rfl) hl.1 (Nat.le_of_ble_eq_true rfl) (Nat.le_of_ble_eq_true rfl) dX2_copyFrom_80 (fun y5 H locs hf w => ?_)
  refine lv_aload_n C.1.1 C.1.2.1 dX2_copyFrom_83 rfl (lv_at hl 1 rfl) ?_
  refine ns_getr C w 53 (hI 53 (by decide)) sh_53 (rfl : vwCl[2]? = some (RX2, TX2, 8)) inX2_copyFrom_2 6 (by decide) rfl lX2_copyFrom_27 dX2_copyFrom_84 ?_
  refine lv_iconst (v := 0) C.1.1 C.1.2.1 dX2_copyFrom_87 (by decide) ?_
  refine lv_aload_n C.1.1 C.1.2.1 dX2_copyFrom_88 rfl (lv_at hl 0 rfl) ?_
  refine ns_getr C w 132 (hJ 132 (by decide) (by decide)) sh_132 (rfl : vwCl[2]? = some (RX2, TX2, 8)) inX2_copyFrom_2 6 (by decide) rfl lX2_copyFrom_27 dX2_copyFrom_89 ?_
  refine lv_iconst (v := 0) C.1.1 C.1.2.1 dX2_copyFrom_92 (by decide) ?_
  refine lv_bipush (v := 64) C.1.1 C.1.2.1 dX2_copyFrom_93 (by decide) ?_
  refine ns_copy C w 59 138 (hI 59 (by decide)) (hJ 138 (by decide) (by decide)) sh_59 sh_138 hf rfl rfl (List.mem_of_getElem? (i := 6) rfl) (List.mem_of_getElem? (i := 3) rfl) (List.mem_of_getElem? (i := 4) rfl) (List.mem_of_getElem? (i := 5) rfl) (List.mem_of_getElem? (i := 6) rfl) hl.1 (Nat.le_of_ble_eq_true rfl) (Nat.le_of_ble_eq_true rfl) dX2_copyFrom_95 (fun y6 H locs hf w => ?_)
  refine lv_aload_n C.1.1 C.1.2.1 dX2_copyFrom_98 rfl (lv_at hl 1 rfl) ?_
  refine ns_getr C w 53 (hI 53 (by decide)) sh_53 (rfl : vwCl[2]? = some (RX2, TX2, 8)) inX2_copyFrom_2 7 (by decide) rfl lX2_copyFrom_30 dX2_copyFrom_99 ?_
  refine lv_iconst (v := 0) C.1.1 C.1.2.1 dX2_copyFrom_102 (by decide) ?_
  refine lv_aload_n C.1.1 C.1.2.1 dX2_copyFrom_103 rfl (lv_at hl 0 rfl) ?_
  refine ns_getr C w 132 (hJ 132 (by decide) (by decide)) sh_132 (rfl : vwCl[2]? = some (RX2, TX2, 8)) inX2_copyFrom_2 7 (by decide) rfl lX2_copyFrom_30 dX2_copyFrom_104 ?_
  refine lv_iconst (v := 0) C.1.1 C.1.2.1 dX2_copyFrom_107 (by decide) ?_
  refine lv_bipush (v := 64) C.1.1 C.1.2.1 dX2_copyFrom_108 (by decide) ?_
  refine ns_copy C w 60 139 (hI 60 (by decide)) (hJ 139 (by decide) (by decide)) sh_60 sh_139 hf rfl rfl (List.mem_of_getElem? (i := 7) rfl) (List.mem_of_getElem? (i := 3) rfl) (List.mem_of_getElem? (i := 4) rfl) (List.mem_of_getElem? (i := 5) rfl) (List.mem_of_getElem? (i := 6) rfl) hl.1 (Nat.le_of_ble_eq_true rfl) (Nat.le_of_ble_eq_true rfl) dX2_copyFrom_110 (fun y7 H locs hf w => ?_)
  have he := Option.some.inj hf
  subst he
  exact ns_vret C w hr hlk rfl rfl dX2_copyFrom_113
theorem lX6_copyFrom_12 : Cond.fieldLink RX6 12 (TX6 0).1 (TX6 0).2.1 (TX6 0).2.2.1 ∈ wsX6_copyFrom := List.mem_of_getElem? (i := 1) rfl
theorem lX6_copyFrom_21 : Cond.fieldLink RX6 21 (TX6 1).1 (TX6 1).2.1 (TX6 1).2.2.1 ∈ wsX6_copyFrom := List.mem_of_getElem? (i := 2) rfl
theorem lX6_copyFrom_28 : Cond.fieldLink RX6 28 (TX6 2).1 (TX6 2).2.1 (TX6 2).2.2.1 ∈ wsX6_copyFrom := List.mem_of_getElem? (i := 3) rfl
theorem lX6_copyFrom_35 : Cond.fieldLink RX6 35 (TX6 3).1 (TX6 3).2.1 (TX6 3).2.2.1 ∈ wsX6_copyFrom := List.mem_of_getElem? (i := 4) rfl
theorem lX6_copyFrom_42 : Cond.fieldLink RX6 42 (TX6 4).1 (TX6 4).2.1 (TX6 4).2.2.1 ∈ wsX6_copyFrom := List.mem_of_getElem? (i := 5) rfl
theorem lX6_copyFrom_49 : Cond.fieldLink RX6 49 (TX6 5).1 (TX6 5).2.1 (TX6 5).2.2.1 ∈ wsX6_copyFrom := List.mem_of_getElem? (i := 6) rfl
theorem inX6_copyFrom_6 : ∀ w ∈ u_ws RX6 TX6 6, w ∈ wsX6_copyFrom := fun _ h => List.mem_cons_of_mem _ (List.mem_append_left _ (List.mem_append_left _ (List.mem_append_left _ (List.mem_append_left _ (List.mem_append_left _ (List.mem_append_left _ (List.mem_append_right _ h)))))))
theorem hdX6_copyFrom : yX6_copyFrom.cls = RX6 ∧ yX6_copyFrom.cls ≠ "java/lang/invoke/MethodHandle" ∧ yX6_copyFrom.cls ≠ "java/lang/invoke/VarHandle" ∧ (parseMethodDescriptor yX6_copyFrom.desc).map (fun d => d.parameters.length) = some 1 := by decide +kernel
abbrev wrX6_copyFrom_107_28 : List (Nat × Nat) := [(0, 6912), (1, 109), (0, 7040), (1, 111), (1, 112), (1, 113), (1, 114), (1, 115), (0, 7424), (1, 117), (1, 118), (1, 119), (1, 120), (1, 121), (0, 7808), (1, 123), (1, 124), (1, 125), (1, 126), (0, 8128), (0, 8129), (1, 128), (1, 129), (1, 130), (1, 131), (0, 8448), (1, 133), (1, 134), (1, 135), (1, 136), (1, 137), (1, 138), (1, 139)]
abbrev rmX6_copyFrom_107_28 : Room := { frames := 2, cells := 0, slots := 0, locals := 61 }
set_option maxHeartbeats 4000000 in
set_option maxRecDepth 100000 in
theorem mX6_copyFrom_107_28 (l : Launch) (D : va_G) (b : Nat → Nat) (ids : List Nat) (hI : ∀ i, i < 107 → i ∈ ids) (hJ : ∀ i, 107 ≤ i → i < 140 → i ∈ ids) (N : Nat) (S : ns_S) {o : Int32 × (Nat → Int32) × Int32 × (Nat → Int32) × (Nat → Int32) × (Nat → Int32) × (Nat → Int32) × (Nat → Int32) × Int32 × (Nat → Int32) × (Nat → Int32) × (Nat → Int32) × (Nat → Int32) × (Nat → Int32) × Int32 × (Nat → Int32) × (Nat → Int32) × (Nat → Int32) × (Nat → Int32) × Int32 × Int32 × (Nat → Int32) × (Nat → Int32) × (Nat → Int32) × (Nat → Int32) × Int32 × (Nat → Int32) × (Nat → Int32) × (Nat → Int32) × (Nat → Int32) × (Nat → Int32) × (Nat → Int32) × (Nat → Int32)} (hf : fX6_copyFrom N (S.1 1856) (S.1 6912) (S.2.1 30) (S.2.1 109) (S.1 1984) (S.1 7040) (S.2.1 32) (S.2.1 111) (S.2.1 33) (S.2.1 112) (S.2.1 34) (S.2.1 113) (S.2.1 35) (S.2.1 114) (S.2.1 36) (S.2.1 115) (S.1 2368) (S.1 7424) (S.2.1 38) (S.2.1 117) (S.2.1 39) (S.2.1 118) (S.2.1 40) (S.2.1 119) (S.2.1 41) (S.2.1 120) (S.2.1 42) (S.2.1 121) (S.1 2752) (S.1 7808) (S.2.1 44) (S.2.1 123) (S.2.1 45) (S.2.1 124) (S.2.1 46) (S.2.1 125) (S.2.1 47) (S.2.1 126) (S.1 3072) (S.1 8128) (S.1 3073) (S.1 8129) (S.2.1 49) (S.2.1 128) (S.2.1 50) (S.2.1 129) (S.2.1 51) (S.2.1 130) (S.2.1 52) (S.2.1 131) (S.1 3392) (S.1 8448) (S.2.1 54) (S.2.1 133) (S.2.1 55) (S.2.1 134) (S.2.1 56) (S.2.1 135) (S.2.1 57) (S.2.1 136) (S.2.1 58) (S.2.1 137) (S.2.1 59) (S.2.1 138) (S.2.1 60) (S.2.1 139) = some o) : ns_M l yX6_copyFrom wsX6_copyFrom rmX6_copyFrom_107_28 D b ids S [.ref (b 107), .ref (b 28)] none (ns_I (ns_A (ns_I (ns_A (ns_A (ns_A (ns_A (ns_A (ns_I (ns_A (ns_A (ns_A (ns_A (ns_A (ns_I (ns_A (ns_A (ns_A (ns_A (ns_I (ns_I (ns_A (ns_A (ns_A (ns_A (ns_I (ns_A (ns_A (ns_A (ns_A (ns_A (ns_A (ns_A S 139 o.2.2.2.2.2.2.2.2.2.2.2.2.2.2.2.2.2.2.2.2.2.2.2.2.2.2.2.2.2.2.2.2) 138 o.2.2.2.2.2.2.2.2.2.2.2.2.2.2.2.2.2.2.2.2.2.2.2.2.2.2.2.2.2.2.2.1) 137 o.2.2.2.2.2.2.2.2.2.2.2.2.2.2.2.2.2.2.2.2.2.2.2.2.2.2.2.2.2.2.1) 136 o.2.2.2.2.2.2.2.2.2.2.2.2.2.2.2.2.2.2.2.2.2.2.2.2.2.2.2.2.2.1) 135 o.2.2.2.2.2.2.2.2.2.2.2.2.2.2.2.2.2.2.2.2.2.2.2.2.2.2.2.2.1) 134 o.2.2.2.2.2.2.2.2.2.2.2.2.2.2.2.2.2.2.2.2.2.2.2.2.2.2.2.1) 133 o.2.2.2.2.2.2.2.2.2.2.2.2.2.2.2.2.2.2.2.2.2.2.2.2.2.2.1) 8448 o.2.2.2.2.2.2.2.2.2.2.2.2.2.2.2.2.2.2.2.2.2.2.2.2.2.1) 131 o.2.2.2.2.2.2.2.2.2.2.2.2.2.2.2.2.2.2.2.2.2.2.2.2.1) 130 o.2.2.2.2.2.2.2.2.2.2.2.2.2.2.2.2.2.2.2.2.2.2.2.1) 129 o.2.2.2.2.2.2.2.2.2.2.2.2.2.2.2.2.2.2.2.2.2.2.1) 128 o.2.2.2.2.2.2.2.2.2.2.2.2.2.2.2.2.2.2.2.2.2.1) 8129 o.2.2.2.2.2.2.2.2.2.2.2.2.2.2.2.2.2.2.2.2.1) 8128 o.2.2.2.2.2.2.2.2.2.2.2.2.2.2.2.2.2.2.2.1) 126 o.2.2.2.2.2.2.2.2.2.2.2.2.2.2.2.2.2.2.1) 125 o.2.2.2.2.2.2.2.2.2.2.2.2.2.2.2.2.2.1) 124 o.2.2.2.2.2.2.2.2.2.2.2.2.2.2.2.2.1) 123 o.2.2.2.2.2.2.2.2.2.2.2.2.2.2.2.1) 7808 o.2.2.2.2.2.2.2.2.2.2.2.2.2.2.1) 121 o.2.2.2.2.2.2.2.2.2.2.2.2.2.1) 120 o.2.2.2.2.2.2.2.2.2.2.2.2.1) 119 o.2.2.2.2.2.2.2.2.2.2.2.1) 118 o.2.2.2.2.2.2.2.2.2.2.1) 117 o.2.2.2.2.2.2.2.2.2.1) 7424 o.2.2.2.2.2.2.2.2.1) 115 o.2.2.2.2.2.2.2.1) 114 o.2.2.2.2.2.2.1) 113 o.2.2.2.2.2.1) 112 o.2.2.2.2.1) 111 o.2.2.2.1) 7040 o.2.2.1) 109 o.2.1) 6912 o.1) := by
  refine ns_start (Wr := wrX6_copyFrom_107_28) (by decide) rfl (Nat.le_of_ble_eq_true rfl) ?_
  intro p e s m below meth c A ls C hr hlk w hl
  have hl : lv_has ls 2 [(0, .ref (b 107)), (1, .ref (b 28))] := hl
  unfold fX6_copyFrom at hf
  refine lv_aload_n C.1.1 C.1.2.1 dX6_copyFrom_0 rfl (lv_at hl 0 rfl) ?_
  refine ns_getr C w 107 (hJ 107 (by decide) (by decide)) sh_107 (rfl : vwCl[6]? = some (RX6, TX6, 6)) inX6_copyFrom_6 0 (by decide) rfl lX6_copyFrom_12 dX6_copyFrom_1 ?_
  refine lv_aload_n C.1.1 C.1.2.1 dX6_copyFrom_4 rfl (lv_at hl 1 rfl) ?_
  refine ns_getr C w 28 (hI 28 (by decide)) sh_28 (rfl : vwCl[6]? = some (RX6, TX6, 6)) inX6_copyFrom_6 0 (by decide) rfl lX6_copyFrom_12 dX6_copyFrom_5 ?_
  refine ns_callV C w 108 (hJ 108 (by decide) (by decide)) sh_108 (rfl : vwCl[5]? = some (RX5, TX5, 2)) [.ref (b 29)] hf (fun u hu => mX5_copyFrom_108_29 l D b ids hI hJ N _ hu) gX6_copyFrom_X5_copyFrom rfl rfl rfl hdX5_copyFrom ⟨Nat.le_of_ble_eq_true rfl, Nat.le_of_ble_eq_true rfl⟩ (fun u h => ((h.A (List.mem_of_getElem? (i := 1) rfl) _).I (List.mem_of_getElem? (i := 0) rfl) _)) rfl hl.1 rfl (Nat.le_of_ble_eq_true rfl) ⟨Nat.le_refl _, Nat.le_refl _⟩ dX6_copyFrom_8 (fun o1 H locs hf w => ?_)
  refine lv_aload_n C.1.1 C.1.2.1 dX6_copyFrom_11 rfl (lv_at hl 0 rfl) ?_
  refine ns_getr C w 107 (hJ 107 (by decide) (by decide)) sh_107 (rfl : vwCl[6]? = some (RX6, TX6, 6)) inX6_copyFrom_6 1 (by decide) rfl lX6_copyFrom_21 dX6_copyFrom_12 ?_
  refine lv_aload_n C.1.1 C.1.2.1 dX6_copyFrom_15 rfl (lv_at hl 1 rfl) ?_
  refine ns_getr C w 28 (hI 28 (by decide)) sh_28 (rfl : vwCl[6]? = some (RX6, TX6, 6)) inX6_copyFrom_6 1 (by decide) rfl lX6_copyFrom_21 dX6_copyFrom_16 ?_
  refine ns_callV C w 110 (hJ 110 (by decide) (by decide)) sh_110 (rfl : vwCl[0]? = some (RX0, TX0, 6)) [.ref (b 31)] hf (fun u hu => mX0_copyFrom_110_31 l D b ids hI hJ N _ hu) gX6_copyFrom_X0_copyFrom rfl rfl rfl hdX0_copyFrom ⟨Nat.le_of_ble_eq_true rfl, Nat.le_of_ble_eq_true rfl⟩ (fun u h => ((((((h.A (List.mem_of_getElem? (i := 7) rfl) _).A (List.mem_of_getElem? (i := 6) rfl) _).A (List.mem_of_getElem? (i := 5) rfl) _).A (List.mem_of_getElem? (i := 4) rfl) _).A (List.mem_of_getElem? (i := 3) rfl) _).I (List.mem_of_getElem? (i := 2) rfl) _)) rfl hl.1 rfl (Nat.le_of_ble_eq_true rfl) ⟨Nat.le_refl _, Nat.le_refl _⟩ dX6_copyFrom_19 (fun o2 H locs hf w => ?_)
  refine lv_aload_n C.1.1 C.1.2.1 dX6_copyFrom_22 rfl (lv_at hl 0 rfl) ?_
  refine ns_getr C w 107 (hJ 107 (by decide) (by decide)) sh_107 (rfl : vwCl[6]? = some (RX6, TX6, 6)) inX6_copyFrom_6 2 (by decide) rfl lX6_copyFrom_28 dX6_copyFrom_23 ?_
  refine lv_aload_n C.1.1 C.1.2.1 dX6_copyFrom_26 rfl (lv_at hl 1 rfl) ?_
  refine ns_getr C w 28 (hI 28 (by decide)) sh_28 (rfl : vwCl[6]? = some (RX6, TX6, 6)) inX6_copyFrom_6 2 (by decide) rfl lX6_copyFrom_28 dX6_copyFrom_27 ?_
  refine ns_callV C w 116 (hJ 116 (by decide) (by decide)) sh_116 (rfl : vwCl[4]? = some (RX4, TX4, 6)) [.ref (b 37)] hf (fun u hu => mX4_copyFrom_116_37 l D b ids hI hJ N _ hu) gX6_copyFrom_X4_copyFrom rfl rfl rfl hdX4_copyFrom ⟨Nat.le_of_ble_eq_true rfl, Nat.le_of_ble_eq_true rfl⟩ (fun u h => ((((((h.A (List.mem_of_getElem? (i := 13) rfl) _).A (List.mem_of_getElem? (i := 12) rfl) _).A (List.mem_of_getElem? (i := 11) rfl) _).A (List.mem_of_getElem? (i := 10) rfl) _).A (List.mem_of_getElem? (i := 9) rfl) _).I (List.mem_of_getElem? (i := 8) rfl) _)) rfl hl.1 rfl (Nat.le_of_ble_eq_true rfl) ⟨Nat.le_refl _, Nat.le_refl _⟩ dX6_copyFrom_30 (fun o3 H locs hf w => ?_)
  refine lv_aload_n C.1.1 C.1.2.1 dX6_copyFrom_33 rfl (lv_at hl 0 rfl) ?_
  refine ns_getr C w 107 (hJ 107 (by decide) (by decide)) sh_107 (rfl : vwCl[6]? = some (RX6, TX6, 6)) inX6_copyFrom_6 3 (by decide) rfl lX6_copyFrom_35 dX6_copyFrom_34 ?_
  refine lv_aload_n C.1.1 C.1.2.1 dX6_copyFrom_37 rfl (lv_at hl 1 rfl) ?_
  refine ns_getr C w 28 (hI 28 (by decide)) sh_28 (rfl : vwCl[6]? = some (RX6, TX6, 6)) inX6_copyFrom_6 3 (by decide) rfl lX6_copyFrom_35 dX6_copyFrom_38 ?_
  refine ns_callV C w 122 (hJ 122 (by decide) (by decide)) sh_122 (rfl : vwCl[7]? = some (RX7, TX7, 5)) [.ref (b 43)] hf (fun u hu => mX7_copyFrom_122_43 l D b ids hI hJ N _ hu) gX6_copyFrom_X7_copyFrom rfl rfl rfl hdX7_copyFrom ⟨Nat.le_of_ble_eq_true rfl, Nat.le_of_ble_eq_true rfl⟩ (fun u h => (((((h.A (List.mem_of_getElem? (i := 18) rfl) _).A (List.mem_of_getElem? (i := 17) rfl) _).A (List.mem_of_getElem? (i := 16) rfl) _).A (List.mem_of_getElem? (i := 15) rfl) _).I (List.mem_of_getElem? (i := 14) rfl) _)) rfl hl.1 rfl (Nat.le_of_ble_eq_true rfl) ⟨Nat.le_refl _, Nat.le_refl _⟩ dX6_copyFrom_41 (fun o4 H locs hf w => ?_)
  refine lv_aload_n C.1.1 C.1.2.1 dX6_copyFrom_44 rfl (lv_at hl 0 rfl) ?_
  refine ns_getr C w 107 (hJ 107 (by decide) (by decide)) sh_107 (rfl : vwCl[6]? = some (RX6, TX6, 6)) inX6_copyFrom_6 4 (by decide) rfl lX6_copyFrom_42 dX6_copyFrom_45 ?_
  refine lv_aload_n C.1.1 C.1.2.1 dX6_copyFrom_48 rfl (lv_at hl 1 rfl) ?_
  refine ns_getr C w 28 (hI 28 (by decide)) sh_28 (rfl : vwCl[6]? = some (RX6, TX6, 6)) inX6_copyFrom_6 4 (by decide) rfl lX6_copyFrom_42 dX6_copyFrom_49 ?_
  refine ns_callV C w 127 (hJ 127 (by decide) (by decide)) sh_127 (rfl : vwCl[8]? = some (RX8, TX8, 6)) [.ref (b 48)] hf (fun u hu => mX8_copyFrom_127_48 l D b ids hI hJ N _ hu) gX6_copyFrom_X8_copyFrom rfl rfl rfl hdX8_copyFrom ⟨Nat.le_of_ble_eq_true rfl, Nat.le_of_ble_eq_true rfl⟩ (fun u h => ((((((h.A (List.mem_of_getElem? (i := 24) rfl) _).A (List.mem_of_getElem? (i := 23) rfl) _).A (List.mem_of_getElem? (i := 22) rfl) _).A (List.mem_of_getElem? (i := 21) rfl) _).I (List.mem_of_getElem? (i := 20) rfl) _).I (List.mem_of_getElem? (i := 19) rfl) _)) rfl hl.1 rfl (Nat.le_of_ble_eq_true rfl) ⟨Nat.le_refl _, Nat.le_refl _⟩ dX6_copyFrom_52 (fun o5 H locs hf w => ?_)
  refine lv_aload_n C.1.1 C.1.2.1 dX6_copyFrom_55 rfl (lv_at hl 0 rfl) ?_
  refine ns_getr C w 107 (hJ 107 (by decide) (by decide)) sh_107 (rfl : vwCl[6]? = some (RX6, TX6, 6)) inX6_copyFrom_6 5 (by decide) rfl lX6_copyFrom_49 dX6_copyFrom_56 ?_
  refine lv_aload_n C.1.1 C.1.2.1 dX6_copyFrom_59 rfl (lv_at hl 1 rfl) ?_
  refine ns_getr C w 28 (hI 28 (by decide)) sh_28 (rfl : vwCl[6]? = some (RX6, TX6, 6)) inX6_copyFrom_6 5 (by decide) rfl lX6_copyFrom_49 dX6_copyFrom_60 ?_
  refine ns_callV C w 132 (hJ 132 (by decide) (by decide)) sh_132 (rfl : vwCl[2]? = some (RX2, TX2, 8)) [.ref (b 53)] hf (fun u hu => mX2_copyFrom_132_53 l D b ids hI hJ N _ hu) gX6_copyFrom_X2_copyFrom rfl rfl rfl hdX2_copyFrom ⟨Nat.le_of_ble_eq_true rfl, Nat.le_of_ble_eq_true rfl⟩ (fun u h => ((((((((h.A (List.mem_of_getElem? (i := 32) rfl) _).A (List.mem_of_getElem? (i := 31) rfl) _).A (List.mem_of_getElem? (i := 30) rfl) _).A (List.mem_of_getElem? (i := 29) rfl) _).A (List.mem_of_getElem? (i := 28) rfl) _).A (List.mem_of_getElem? (i := 27) rfl) _).A (List.mem_of_getElem? (i := 26) rfl) _).I (List.mem_of_getElem? (i := 25) rfl) _)) rfl hl.1 rfl (Nat.le_of_ble_eq_true rfl) ⟨Nat.le_refl _, Nat.le_refl _⟩ dX6_copyFrom_63 (fun o6 H locs hf w => ?_)
  have he := Option.some.inj hf
  subst he
  exact ns_vret C w hr hlk rfl rfl dX6_copyFrom_66
abbrev wrX5_copyFrom_29_108 : List (Nat × Nat) := [(0, 1856), (1, 30)]
abbrev rmX5_copyFrom_29_108 : Room := { frames := 1, cells := 0, slots := 0, locals := 40 }
set_option maxHeartbeats 4000000 in
set_option maxRecDepth 100000 in
theorem mX5_copyFrom_29_108 (l : Launch) (D : va_G) (b : Nat → Nat) (ids : List Nat) (hI : ∀ i, i < 107 → i ∈ ids) (hJ : ∀ i, 107 ≤ i → i < 140 → i ∈ ids) (N : Nat) (S : ns_S) {o : Int32 × (Nat → Int32)} (hf : fX5_copyFrom N (S.1 6912) (S.1 1856) (S.2.1 109) (S.2.1 30) = some o) : ns_M l yX5_copyFrom wsX5_copyFrom rmX5_copyFrom_29_108 D b ids S [.ref (b 29), .ref (b 108)] none (ns_I (ns_A S 30 o.2) 1856 o.1) := by
  refine ns_start (Wr := wrX5_copyFrom_29_108) (by decide) rfl (Nat.le_of_ble_eq_true rfl) ?_
  intro p e s m below meth c A ls C hr hlk w hl
  have hl : lv_has ls 2 [(0, .ref (b 29)), (1, .ref (b 108))] := hl
  unfold fX5_copyFrom at hf
  refine lv_aload_n C.1.1 C.1.2.1 dX5_copyFrom_0 rfl (lv_at hl 0 rfl) ?_
  refine lv_aload_n C.1.1 C.1.2.1 dX5_copyFrom_1 rfl (lv_at hl 1 rfl) ?_
  refine ns_geti C w 108 (hJ 108 (by decide) (by decide)) sh_108 (rfl : vwCl[5]? = some (RX5, TX5, 2)) inX5_copyFrom_5 0 (by decide) rfl lX5_copyFrom_15 (S.1 6912) rfl dX5_copyFrom_2 ?_
  refine ns_puti C w 29 (hI 29 (by decide)) sh_29 (rfl : vwCl[5]? = some (RX5, TX5, 2)) inX5_copyFrom_5 tyX5_ok nmX5 0 (by decide) rfl lX5_copyFrom_15 rfl rfl rfl (List.mem_of_getElem? (i := 0) rfl) dX5_copyFrom_5 (fun H locs w => ?_)
  refine lv_aload_n C.1.1 C.1.2.1 dX5_copyFrom_8 rfl (lv_at hl 1 rfl) ?_
  refine ns_getr C w 108 (hJ 108 (by decide) (by decide)) sh_108 (rfl : vwCl[5]? = some (RX5, TX5, 2)) inX5_copyFrom_5 1 (by decide) rfl lX5_copyFrom_9 dX5_copyFrom_9 ?_
  refine lv_iconst (v := 0) C.1.1 C.1.2.1 dX5_copyFrom_12 (by decide) ?_
  refine lv_aload_n C.1.1 C.1.2.1 dX5_copyFrom_13 rfl (lv_at hl 0 rfl) ?_
  refine ns_getr C w 29 (hI 29 (by decide)) sh_29 (rfl : vwCl[5]? = some (RX5, TX5, 2)) inX5_copyFrom_5 1 (by decide) rfl lX5_copyFrom_9 dX5_copyFrom_14 ?_
  refine lv_iconst (v := 0) C.1.1 C.1.2.1 dX5_copyFrom_17 (by decide) ?_
  refine lv_iconst (v := 5) C.1.1 C.1.2.1 dX5_copyFrom_18 (by decide) ?_
  refine ns_copy C w 109 30 (hJ 109 (by decide) (by decide)) (hI 30 (by decide)) sh_109 sh_30 hf rfl rfl (List.mem_of_getElem? (i := 1) rfl) (List.mem_of_getElem? (i := 3) rfl) (List.mem_of_getElem? (i := 4) rfl) (List.mem_of_getElem? (i := 5) rfl) (List.mem_of_getElem? (i := 6) rfl) hl.1 (Nat.le_of_ble_eq_true rfl) (Nat.le_of_ble_eq_true rfl) dX5_copyFrom_19 (fun y1 H locs hf w => ?_)
  have he := Option.some.inj hf
  subst he
  exact ns_vret C w hr hlk rfl rfl dX5_copyFrom_22
abbrev wrX0_copyFrom_31_110 : List (Nat × Nat) := [(0, 1984), (1, 32), (1, 33), (1, 34), (1, 35), (1, 36)]
abbrev rmX0_copyFrom_31_110 : Room := { frames := 1, cells := 0, slots := 0, locals := 40 }
set_option maxHeartbeats 4000000 in
set_option maxRecDepth 100000 in
theorem mX0_copyFrom_31_110 (l : Launch) (D : va_G) (b : Nat → Nat) (ids : List Nat) (hI : ∀ i, i < 107 → i ∈ ids) (hJ : ∀ i, 107 ≤ i → i < 140 → i ∈ ids) (N : Nat) (S : ns_S) {o : Int32 × (Nat → Int32) × (Nat → Int32) × (Nat → Int32) × (Nat → Int32) × (Nat → Int32)} (hf : fX0_copyFrom N (S.1 7040) (S.1 1984) (S.2.1 111) (S.2.1 32) (S.2.1 112) (S.2.1 33) (S.2.1 113) (S.2.1 34) (S.2.1 114) (S.2.1 35) (S.2.1 115) (S.2.1 36) = some o) : ns_M l yX0_copyFrom wsX0_copyFrom rmX0_copyFrom_31_110 D b ids S [.ref (b 31), .ref (b 110)] none (ns_I (ns_A (ns_A (ns_A (ns_A (ns_A S 36 o.2.2.2.2.2) 35 o.2.2.2.2.1) 34 o.2.2.2.1) 33 o.2.2.1) 32 o.2.1) 1984 o.1) := by
  refine ns_start (Wr := wrX0_copyFrom_31_110) (by decide) rfl (Nat.le_of_ble_eq_true rfl) ?_
  intro p e s m below meth c A ls C hr hlk w hl
  have hl : lv_has ls 2 [(0, .ref (b 31)), (1, .ref (b 110))] := hl
  unfold fX0_copyFrom at hf
  refine lv_aload_n C.1.1 C.1.2.1 dX0_copyFrom_0 rfl (lv_at hl 0 rfl) ?_
  refine lv_aload_n C.1.1 C.1.2.1 dX0_copyFrom_1 rfl (lv_at hl 1 rfl) ?_
  refine ns_geti C w 110 (hJ 110 (by decide) (by decide)) sh_110 (rfl : vwCl[0]? = some (RX0, TX0, 6)) inX0_copyFrom_0 0 (by decide) rfl lX0_copyFrom_27 (S.1 7040) rfl dX0_copyFrom_2 ?_
  refine ns_puti C w 31 (hI 31 (by decide)) sh_31 (rfl : vwCl[0]? = some (RX0, TX0, 6)) inX0_copyFrom_0 tyX0_ok nmX0 0 (by decide) rfl lX0_copyFrom_27 rfl rfl rfl (List.mem_of_getElem? (i := 0) rfl) dX0_copyFrom_5 (fun H locs w => ?_)
  refine lv_aload_n C.1.1 C.1.2.1 dX0_copyFrom_8 rfl (lv_at hl 1 rfl) ?_
  refine ns_getr C w 110 (hJ 110 (by decide) (by decide)) sh_110 (rfl : vwCl[0]? = some (RX0, TX0, 6)) inX0_copyFrom_0 1 (by decide) rfl lX0_copyFrom_9 dX0_copyFrom_9 ?_
  refine lv_iconst (v := 0) C.1.1 C.1.2.1 dX0_copyFrom_12 (by decide) ?_
  refine lv_aload_n C.1.1 C.1.2.1 dX0_copyFrom_13 rfl (lv_at hl 0 rfl) ?_
  refine ns_getr C w 31 (hI 31 (by decide)) sh_31 (rfl : vwCl[0]? = some (RX0, TX0, 6)) inX0_copyFrom_0 1 (by decide) rfl lX0_copyFrom_9 dX0_copyFrom_14 ?_
  refine lv_iconst (v := 0) C.1.1 C.1.2.1 dX0_copyFrom_17 (by decide) ?_
  refine lv_bipush (v := 10) C.1.1 C.1.2.1 dX0_copyFrom_18 (by decide) ?_
  refine ns_copy C w 111 32 (hJ 111 (by decide) (by decide)) (hI 32 (by decide)) sh_111 sh_32 hf rfl rfl (List.mem_of_getElem? (i := 1) rfl) (List.mem_of_getElem? (i := 3) rfl) (List.mem_of_getElem? (i := 4) rfl) (List.mem_of_getElem? (i := 5) rfl) (List.mem_of_getElem? (i := 6) rfl) hl.1 (Nat.le_of_ble_eq_true rfl) (Nat.le_of_ble_eq_true rfl) dX0_copyFrom_20 (fun y1 H locs hf w => ?_)
  refine lv_aload_n C.1.1 C.1.2.1 dX0_copyFrom_23 rfl (lv_at hl 1 rfl) ?_
  refine ns_getr C w 110 (hJ 110 (by decide) (by decide)) sh_110 (rfl : vwCl[0]? = some (RX0, TX0, 6)) inX0_copyFrom_0 2 (by decide) rfl lX0_copyFrom_15 dX0_copyFrom_24 ?_
  refine lv_iconst (v := 0) C.1.1 C.1.2.1 dX0_copyFrom_27 (by decide) ?_
  refine lv_aload_n C.1.1 C.1.2.1 dX0_copyFrom_28 rfl (lv_at hl 0 rfl) ?_
  refine ns_getr C w 31 (hI 31 (by decide)) sh_31 (rfl : vwCl[0]? = some (RX0, TX0, 6)) inX0_copyFrom_0 2 (by decide) rfl lX0_copyFrom_15 dX0_copyFrom_29 ?_
  refine lv_iconst (v := 0) C.1.1 C.1.2.1 dX0_copyFrom_32 (by decide) ?_
  refine lv_bipush (v := 10) C.1.1 C.1.2.1 dX0_copyFrom_33 (by decide) ?_
  refine ns_copy C w 112 33 (hJ 112 (by decide) (by decide)) (hI 33 (by decide)) sh_112 sh_33 hf rfl rfl (List.mem_of_getElem? (i := 2) rfl) (List.mem_of_getElem? (i := 3) rfl) (List.mem_of_getElem? (i := 4) rfl) (List.mem_of_getElem? (i := 5) rfl) (List.mem_of_getElem? (i := 6) rfl) hl.1 (Nat.le_of_ble_eq_true rfl) (Nat.le_of_ble_eq_true rfl) dX0_copyFrom_35 (fun y2 H locs hf w => ?_)
  refine lv_aload_n C.1.1 C.1.2.1 dX0_copyFrom_38 rfl (lv_at hl 1 rfl) ?_
  refine ns_getr C w 110 (hJ 110 (by decide) (by decide)) sh_110 (rfl : vwCl[0]? = some (RX0, TX0, 6)) inX0_copyFrom_0 3 (by decide) rfl lX0_copyFrom_18 dX0_copyFrom_39 ?_
  refine lv_iconst (v := 0) C.1.1 C.1.2.1 dX0_copyFrom_42 (by decide) ?_
  refine lv_aload_n C.1.1 C.1.2.1 dX0_copyFrom_43 rfl (lv_at hl 0 rfl) ?_
  refine ns_getr C w 31 (hI 31 (by decide)) sh_31 (rfl : vwCl[0]? = some (RX0, TX0, 6)) inX0_copyFrom_0 3 (by decide) rfl lX0_copyFrom_18 dX0_copyFrom_44 ?_
  refine lv_iconst (v := 0) C.1.1 C.1.2.1 dX0_copyFrom_47 (by decide) ?_
  refine lv_bipush (v := 10) C.1.1 C.1.2.1 dX0_copyFrom_48 (by decide) ?_
  refine ns_copy C w 113 34 (hJ 113 (by decide) (by decide)) (hI 34 (by decide)) sh_113 sh_34 hf rfl rfl (List.mem_of_getElem? (i := 3) rfl) (List.mem_of_getElem? (i := 3) rfl) (List.mem_of_getElem? (i := 4) rfl) (List.mem_of_getElem? (i := 5) rfl) (List.mem_of_getElem? (i := 6) rfl) hl.1 (Nat.le_of_ble_eq_true rfl) (Nat.le_of_ble_eq_true rfl) dX0_copyFrom_50 (fun y3 H locs hf w => ?_)
  refine lv_aload_n C.1.1 C.1.2.1 dX0_copyFrom_53 rfl (lv_at hl 1 rfl) ?_
  refine ns_getr C w 110 (hJ 110 (by decide) (by decide)) sh_110 (rfl : vwCl[0]? = some (RX0, TX0, 6)) inX0_copyFrom_0 4 (by decide) rfl lX0_copyFrom_21 dX0_copyFrom_54 ?_
  refine lv_iconst (v := 0) C.1.1 C.1.2.1 dX0_copyFrom_57 (by decide) ?_
  refine lv_aload_n C.1.1 C.1.2.1 dX0_copyFrom_58 rfl (lv_at hl 0 rfl) ?_
  refine ns_getr C w 31 (hI 31 (by decide)) sh_31 (rfl : vwCl[0]? = some (RX0, TX0, 6)) inX0_copyFrom_0 4 (by decide) rfl lX0_copyFrom_21 dX0_copyFrom_59 ?_
  refine lv_iconst (v := 0) C.1.1 C.1.2.1 dX0_copyFrom_62 (by decide) ?_
  refine lv_bipush (v := 10) C.1.1 C.1.2.1 dX0_copyFrom_63 (by decide) ?_
  refine ns_copy C w 114 35 (hJ 114 (by decide) (by decide)) (hI 35 (by decide)) sh_114 sh_35 hf rfl rfl (List.mem_of_getElem? (i := 4) rfl) (List.mem_of_getElem? (i := 3) rfl) (List.mem_of_getElem? (i := 4) rfl) (List.mem_of_getElem? (i := 5) rfl) (List.mem_of_getElem? (i := 6) rfl) hl.1 (Nat.le_of_ble_eq_true rfl) (Nat.le_of_ble_eq_true rfl) dX0_copyFrom_65 (fun y4 H locs hf w => ?_)
  refine lv_aload_n C.1.1 C.1.2.1 dX0_copyFrom_68 rfl (lv_at hl 1 rfl) ?_
  refine ns_getr C w 110 (hJ 110 (by decide) (by decide)) sh_110 (rfl : vwCl[0]? = some (RX0, TX0, 6)) inX0_copyFrom_0 5 (by decide) rfl lX0_copyFrom_24 dX0_copyFrom_69 ?_
  refine lv_iconst (v := 0) C.1.1 C.1.2.1 dX0_copyFrom_72 (by decide) ?_
  refine lv_aload_n C.1.1 C.1.2.1 dX0_copyFrom_73 rfl (lv_at hl 0 rfl) ?_
  refine ns_getr C w 31 (hI 31 (by decide)) sh_31 (rfl : vwCl[0]? = some (RX0, TX0, 6)) inX0_copyFrom_0 5 (by decide) rfl lX0_copyFrom_24 dX0_copyFrom_74 ?_
  refine lv_iconst (v := 0) C.1.1 C.1.2.1 dX0_copyFrom_77 (by decide) ?_
  refine lv_bipush (v := 10) C.1.1 C.1.2.1 dX0_copyFrom_78 (by decide) ?_
  refine ns_copy C w 115 36 (hJ 115 (by decide) (by decide)) (hI 36 (by decide)) sh_115 sh_36 hf rfl rfl (List.mem_of_getElem? (i := 5) rfl) (List.mem_of_getElem? (i := 3) rfl) (List.mem_of_getElem? (i := 4) rfl) (List.mem_of_getElem? (i := 5) rfl) (List.mem_of_getElem? (i := 6) rfl) hl.1 (Nat.le_of_ble_eq_true rfl) (Nat.le_of_ble_eq_true rfl) dX0_copyFrom_80 (fun y5 H locs hf w => ?_)
  have he := Option.some.inj hf
  subst he
  exact ns_vret C w hr hlk rfl rfl dX0_copyFrom_83
abbrev wrX4_copyFrom_37_116 : List (Nat × Nat) := [(0, 2368), (1, 38), (1, 39), (1, 40), (1, 41), (1, 42)]
abbrev rmX4_copyFrom_37_116 : Room := { frames := 1, cells := 0, slots := 0, locals := 40 }
set_option maxHeartbeats 4000000 in
set_option maxRecDepth 100000 in
theorem mX4_copyFrom_37_116 (l : Launch) (D : va_G) (b : Nat → Nat) (ids : List Nat) (hI : ∀ i, i < 107 → i ∈ ids) (hJ : ∀ i, 107 ≤ i → i < 140 → i ∈ ids) (N : Nat) (S : ns_S) {o : Int32 × (Nat → Int32) × (Nat → Int32) × (Nat → Int32) × (Nat → Int32) × (Nat → Int32)} (hf : fX4_copyFrom N (S.1 7424) (S.1 2368) (S.2.1 117) (S.2.1 38) (S.2.1 118) (S.2.1 39) (S.2.1 119) (S.2.1 40) (S.2.1 120) (S.2.1 41) (S.2.1 121) (S.2.1 42) = some o) : ns_M l yX4_copyFrom wsX4_copyFrom rmX4_copyFrom_37_116 D b ids S [.ref (b 37), .ref (b 116)] none (ns_I (ns_A (ns_A (ns_A (ns_A (ns_A S 42 o.2.2.2.2.2) 41 o.2.2.2.2.1) 40 o.2.2.2.1) 39 o.2.2.1) 38 o.2.1) 2368 o.1) := by
  refine ns_start (Wr := wrX4_copyFrom_37_116) (by decide) rfl (Nat.le_of_ble_eq_true rfl) ?_
  intro p e s m below meth c A ls C hr hlk w hl
  have hl : lv_has ls 2 [(0, .ref (b 37)), (1, .ref (b 116))] := hl
  unfold fX4_copyFrom at hf
  refine lv_aload_n C.1.1 C.1.2.1 dX4_copyFrom_0 rfl (lv_at hl 0 rfl) ?_
  refine lv_aload_n C.1.1 C.1.2.1 dX4_copyFrom_1 rfl (lv_at hl 1 rfl) ?_
  refine ns_geti C w 116 (hJ 116 (by decide) (by decide)) sh_116 (rfl : vwCl[4]? = some (RX4, TX4, 6)) inX4_copyFrom_4 0 (by decide) rfl lX4_copyFrom_27 (S.1 7424) rfl dX4_copyFrom_2 ?_
  refine ns_puti C w 37 (hI 37 (by decide)) sh_37 (rfl : vwCl[4]? = some (RX4, TX4, 6)) inX4_copyFrom_4 tyX4_ok nmX4 0 (by decide) rfl lX4_copyFrom_27 rfl rfl rfl (List.mem_of_getElem? (i := 0) rfl) dX4_copyFrom_5 (fun H locs w => ?_)
  refine lv_aload_n C.1.1 C.1.2.1 dX4_copyFrom_8 rfl (lv_at hl 1 rfl) ?_
  refine ns_getr C w 116 (hJ 116 (by decide) (by decide)) sh_116 (rfl : vwCl[4]? = some (RX4, TX4, 6)) inX4_copyFrom_4 1 (by decide) rfl lX4_copyFrom_9 dX4_copyFrom_9 ?_
  refine lv_iconst (v := 0) C.1.1 C.1.2.1 dX4_copyFrom_12 (by decide) ?_
  refine lv_aload_n C.1.1 C.1.2.1 dX4_copyFrom_13 rfl (lv_at hl 0 rfl) ?_
  refine ns_getr C w 37 (hI 37 (by decide)) sh_37 (rfl : vwCl[4]? = some (RX4, TX4, 6)) inX4_copyFrom_4 1 (by decide) rfl lX4_copyFrom_9 dX4_copyFrom_14 ?_
  refine lv_iconst (v := 0) C.1.1 C.1.2.1 dX4_copyFrom_17 (by decide) ?_
  refine lv_bipush (v := 30) C.1.1 C.1.2.1 dX4_copyFrom_18 (by decide) ?_
  refine ns_copy C w 117 38 (hJ 117 (by decide) (by decide)) (hI 38 (by decide)) sh_117 sh_38 hf rfl rfl (List.mem_of_getElem? (i := 1) rfl) (List.mem_of_getElem? (i := 3) rfl) (List.mem_of_getElem? (i := 4) rfl) (List.mem_of_getElem? (i := 5) rfl) (List.mem_of_getElem? (i := 6) rfl) hl.1 (Nat.le_of_ble_eq_true rfl) (Nat.le_of_ble_eq_true rfl) dX4_copyFrom_20 (fun y1 H locs hf w => ?_)
  refine lv_aload_n C.1.1 C.1.2.1 dX4_copyFrom_23 rfl (lv_at hl 1 rfl) ?_
  refine ns_getr C w 116 (hJ 116 (by decide) (by decide)) sh_116 (rfl : vwCl[4]? = some (RX4, TX4, 6)) inX4_copyFrom_4 2 (by decide) rfl lX4_copyFrom_15 dX4_copyFrom_24 ?_
  refine lv_iconst (v := 0) C.1.1 C.1.2.1 dX4_copyFrom_27 (by decide) ?_
  refine lv_aload_n C.1.1 C.1.2.1 dX4_copyFrom_28 rfl (lv_at hl 0 rfl) ?_
  refine ns_getr C w 37 (hI 37 (by decide)) sh_37 (rfl : vwCl[4]? = some (RX4, TX4, 6)) inX4_copyFrom_4 2 (by decide) rfl lX4_copyFrom_15 dX4_copyFrom_29 ?_
  refine lv_iconst (v := 0) C.1.1 C.1.2.1 dX4_copyFrom_32 (by decide) ?_
  refine lv_bipush (v := 30) C.1.1 C.1.2.1 dX4_copyFrom_33 (by decide) ?_
  refine ns_copy C w 118 39 (hJ 118 (by decide) (by decide)) (hI 39 (by decide)) sh_118 sh_39 hf rfl rfl (List.mem_of_getElem? (i := 2) rfl) (List.mem_of_getElem? (i := 3) rfl) (List.mem_of_getElem? (i := 4) rfl) (List.mem_of_getElem? (i := 5) rfl) (List.mem_of_getElem? (i := 6) rfl) hl.1 (Nat.le_of_ble_eq_true rfl) (Nat.le_of_ble_eq_true rfl) dX4_copyFrom_35 (fun y2 H locs hf w => ?_)
  refine lv_aload_n C.1.1 C.1.2.1 dX4_copyFrom_38 rfl (lv_at hl 1 rfl) ?_
  refine ns_getr C w 116 (hJ 116 (by decide) (by decide)) sh_116 (rfl : vwCl[4]? = some (RX4, TX4, 6)) inX4_copyFrom_4 3 (by decide) rfl lX4_copyFrom_18 dX4_copyFrom_39 ?_
  refine lv_iconst (v := 0) C.1.1 C.1.2.1 dX4_copyFrom_42 (by decide) ?_
  refine lv_aload_n C.1.1 C.1.2.1 dX4_copyFrom_43 rfl (lv_at hl 0 rfl) ?_
  refine ns_getr C w 37 (hI 37 (by decide)) sh_37 (rfl : vwCl[4]? = some (RX4, TX4, 6)) inX4_copyFrom_4 3 (by decide) rfl lX4_copyFrom_18 dX4_copyFrom_44 ?_
  refine lv_iconst (v := 0) C.1.1 C.1.2.1 dX4_copyFrom_47 (by decide) ?_
  refine lv_bipush (v := 30) C.1.1 C.1.2.1 dX4_copyFrom_48 (by decide) ?_
  refine ns_copy C w 119 40 (hJ 119 (by decide) (by decide)) (hI 40 (by decide)) sh_119 sh_40 hf rfl rfl (List.mem_of_getElem? (i := 3) rfl) (List.mem_of_getElem? (i := 3) rfl) (List.mem_of_getElem? (i := 4) rfl) (List.mem_of_getElem? (i := 5) rfl) (List.mem_of_getElem? (i := 6) rfl) hl.1 (Nat.le_of_ble_eq_true rfl) (Nat.le_of_ble_eq_true rfl) dX4_copyFrom_50 (fun y3 H locs hf w => ?_)
  refine lv_aload_n C.1.1 C.1.2.1 dX4_copyFrom_53 rfl (lv_at hl 1 rfl) ?_
  refine ns_getr C w 116 (hJ 116 (by decide) (by decide)) sh_116 (rfl : vwCl[4]? = some (RX4, TX4, 6)) inX4_copyFrom_4 4 (by decide) rfl lX4_copyFrom_21 dX4_copyFrom_54 ?_
  refine lv_iconst (v := 0) C.1.1 C.1.2.1 dX4_copyFrom_57 (by decide) ?_
  refine lv_aload_n C.1.1 C.1.2.1 dX4_copyFrom_58 rfl (lv_at hl 0 rfl) ?_
  refine ns_getr C w 37 (hI 37 (by decide)) sh_37 (rfl : vwCl[4]? = some (RX4, TX4, 6)) inX4_copyFrom_4 4 (by decide) rfl lX4_copyFrom_21 dX4_copyFrom_59 ?_
  refine lv_iconst (v := 0) C.1.1 C.1.2.1 dX4_copyFrom_62 (by decide) ?_
  refine lv_bipush (v := 30) C.1.1 C.1.2.1 dX4_copyFrom_63 (by decide) ?_
  refine ns_copy C w 120 41 (hJ 120 (by decide) (by decide)) (hI 41 (by decide)) sh_120 sh_41 hf rfl rfl (List.mem_of_getElem? (i := 4) rfl) (List.mem_of_getElem? (i := 3) rfl) (List.mem_of_getElem? (i := 4) rfl) (List.mem_of_getElem? (i := 5) rfl) (List.mem_of_getElem? (i := 6) rfl) hl.1 (Nat.le_of_ble_eq_true rfl) (Nat.le_of_ble_eq_true rfl) dX4_copyFrom_65 (fun y4 H locs hf w => ?_)
  refine lv_aload_n C.1.1 C.1.2.1 dX4_copyFrom_68 rfl (lv_at hl 1 rfl) ?_
  refine ns_getr C w 116 (hJ 116 (by decide) (by decide)) sh_116 (rfl : vwCl[4]? = some (RX4, TX4, 6)) inX4_copyFrom_4 5 (by decide) rfl lX4_copyFrom_24 dX4_copyFrom_69 ?_
  refine lv_iconst (v := 0) C.1.1 C.1.2.1 dX4_copyFrom_72 (by decide) ?_
  refine lv_aload_n C.1.1 C.1.2.1 dX4_copyFrom_73 rfl (lv_at hl 0 rfl) ?_
  refine ns_getr C w 37 (hI 37 (by decide)) sh_37 (rfl : vwCl[4]? = some (RX4, TX4, 6)) inX4_copyFrom_4 5 (by decide) rfl lX4_copyFrom_24 dX4_copyFrom_74 ?_
  refine lv_iconst (v := 0) C.1.1 C.1.2.1 dX4_copyFrom_77 (by decide) ?_
  refine lv_sipush (v := 180) C.1.1 C.1.2.1 dX4_copyFrom_78 (by decide) ?_
  refine ns_copy C w 121 42 (hJ 121 (by decide) (by decide)) (hI 42 (by decide)) sh_121 sh_42 hf rfl rfl (List.mem_of_getElem? (i := 5) rfl) (List.mem_of_getElem? (i := 3) rfl) (List.mem_of_getElem? (i := 4) rfl) (List.mem_of_getElem? (i := 5) rfl) (List.mem_of_getElem? (i := 6) rfl) hl.1 (Nat.le_of_ble_eq_true rfl) (Nat.le_of_ble_eq_true rfl) dX4_copyFrom_81 (fun y5 H locs hf w => ?_)
  have he := Option.some.inj hf
  subst he
  exact ns_vret C w hr hlk rfl rfl dX4_copyFrom_84
abbrev wrX7_copyFrom_43_122 : List (Nat × Nat) := [(0, 2752), (1, 44), (1, 45), (1, 46), (1, 47)]
abbrev rmX7_copyFrom_43_122 : Room := { frames := 1, cells := 0, slots := 0, locals := 40 }
set_option maxHeartbeats 4000000 in
set_option maxRecDepth 100000 in
theorem mX7_copyFrom_43_122 (l : Launch) (D : va_G) (b : Nat → Nat) (ids : List Nat) (hI : ∀ i, i < 107 → i ∈ ids) (hJ : ∀ i, 107 ≤ i → i < 140 → i ∈ ids) (N : Nat) (S : ns_S) {o : Int32 × (Nat → Int32) × (Nat → Int32) × (Nat → Int32) × (Nat → Int32)} (hf : fX7_copyFrom N (S.1 7808) (S.1 2752) (S.2.1 123) (S.2.1 44) (S.2.1 124) (S.2.1 45) (S.2.1 125) (S.2.1 46) (S.2.1 126) (S.2.1 47) = some o) : ns_M l yX7_copyFrom wsX7_copyFrom rmX7_copyFrom_43_122 D b ids S [.ref (b 43), .ref (b 122)] none (ns_I (ns_A (ns_A (ns_A (ns_A S 47 o.2.2.2.2) 46 o.2.2.2.1) 45 o.2.2.1) 44 o.2.1) 2752 o.1) := by
  refine ns_start (Wr := wrX7_copyFrom_43_122) (by decide) rfl (Nat.le_of_ble_eq_true rfl) ?_
  intro p e s m below meth c A ls C hr hlk w hl
  have hl : lv_has ls 2 [(0, .ref (b 43)), (1, .ref (b 122))] := hl
  unfold fX7_copyFrom at hf
  refine lv_aload_n C.1.1 C.1.2.1 dX7_copyFrom_0 rfl (lv_at hl 0 rfl) ?_
  refine lv_aload_n C.1.1 C.1.2.1 dX7_copyFrom_1 rfl (lv_at hl 1 rfl) ?_
  refine ns_geti C w 122 (hJ 122 (by decide) (by decide)) sh_122 (rfl : vwCl[7]? = some (RX7, TX7, 5)) inX7_copyFrom_7 0 (by decide) rfl lX7_copyFrom_30 (S.1 7808) rfl dX7_copyFrom_2 ?_
  refine ns_puti C w 43 (hI 43 (by decide)) sh_43 (rfl : vwCl[7]? = some (RX7, TX7, 5)) inX7_copyFrom_7 tyX7_ok nmX7 0 (by decide) rfl lX7_copyFrom_30 rfl rfl rfl (List.mem_of_getElem? (i := 0) rfl) dX7_copyFrom_5 (fun H locs w => ?_)
  refine lv_aload_n C.1.1 C.1.2.1 dX7_copyFrom_8 rfl (lv_at hl 1 rfl) ?_
  refine ns_getr C w 122 (hJ 122 (by decide) (by decide)) sh_122 (rfl : vwCl[7]? = some (RX7, TX7, 5)) inX7_copyFrom_7 1 (by decide) rfl lX7_copyFrom_9 dX7_copyFrom_9 ?_
  refine lv_iconst (v := 0) C.1.1 C.1.2.1 dX7_copyFrom_12 (by decide) ?_
  refine lv_aload_n C.1.1 C.1.2.1 dX7_copyFrom_13 rfl (lv_at hl 0 rfl) ?_
  refine ns_getr C w 43 (hI 43 (by decide)) sh_43 (rfl : vwCl[7]? = some (RX7, TX7, 5)) inX7_copyFrom_7 1 (by decide) rfl lX7_copyFrom_9 dX7_copyFrom_14 ?_
  refine lv_iconst (v := 0) C.1.1 C.1.2.1 dX7_copyFrom_17 (by decide) ?_
  refine lv_bipush (v := 10) C.1.1 C.1.2.1 dX7_copyFrom_18 (by decide) ?_
  refine ns_copy C w 123 44 (hJ 123 (by decide) (by decide)) (hI 44 (by decide)) sh_123 sh_44 hf rfl rfl (List.mem_of_getElem? (i := 1) rfl) (List.mem_of_getElem? (i := 3) rfl) (List.mem_of_getElem? (i := 4) rfl) (List.mem_of_getElem? (i := 5) rfl) (List.mem_of_getElem? (i := 6) rfl) hl.1 (Nat.le_of_ble_eq_true rfl) (Nat.le_of_ble_eq_true rfl) dX7_copyFrom_20 (fun y1 H locs hf w => ?_)
  refine lv_aload_n C.1.1 C.1.2.1 dX7_copyFrom_23 rfl (lv_at hl 1 rfl) ?_
  refine ns_getr C w 122 (hJ 122 (by decide) (by decide)) sh_122 (rfl : vwCl[7]? = some (RX7, TX7, 5)) inX7_copyFrom_7 2 (by decide) rfl lX7_copyFrom_15 dX7_copyFrom_24 ?_
  refine lv_iconst (v := 0) C.1.1 C.1.2.1 dX7_copyFrom_27 (by decide) ?_
  refine lv_aload_n C.1.1 C.1.2.1 dX7_copyFrom_28 rfl (lv_at hl 0 rfl) ?_
  refine ns_getr C w 43 (hI 43 (by decide)) sh_43 (rfl : vwCl[7]? = some (RX7, TX7, 5)) inX7_copyFrom_7 2 (by decide) rfl lX7_copyFrom_15 dX7_copyFrom_29 ?_
  refine lv_iconst (v := 0) C.1.1 C.1.2.1 dX7_copyFrom_32 (by decide) ?_
  refine lv_bipush (v := 10) C.1.1 C.1.2.1 dX7_copyFrom_33 (by decide) ?_
  refine ns_copy C w 124 45 (hJ 124 (by decide) (by decide)) (hI 45 (by decide)) sh_124 sh_45 hf rfl rfl (List.mem_of_getElem? (i := 2) rfl) (List.mem_of_getElem? (i := 3) rfl) (List.mem_of_getElem? (i := 4) rfl) (List.mem_of_getElem? (i := 5) rfl) (List.mem_of_getElem? (i := 6) rfl) hl.1 (Nat.le_of_ble_eq_true rfl) (Nat.le_of_ble_eq_true rfl) dX7_copyFrom_35 (fun y2 H locs hf w => ?_)
  refine lv_aload_n C.1.1 C.1.2.1 dX7_copyFrom_38 rfl (lv_at hl 1 rfl) ?_
  refine ns_getr C w 122 (hJ 122 (by decide) (by decide)) sh_122 (rfl : vwCl[7]? = some (RX7, TX7, 5)) inX7_copyFrom_7 3 (by decide) rfl lX7_copyFrom_18 dX7_copyFrom_39 ?_
  refine lv_iconst (v := 0) C.1.1 C.1.2.1 dX7_copyFrom_42 (by decide) ?_
  refine lv_aload_n C.1.1 C.1.2.1 dX7_copyFrom_43 rfl (lv_at hl 0 rfl) ?_
  refine ns_getr C w 43 (hI 43 (by decide)) sh_43 (rfl : vwCl[7]? = some (RX7, TX7, 5)) inX7_copyFrom_7 3 (by decide) rfl lX7_copyFrom_18 dX7_copyFrom_44 ?_
  refine lv_iconst (v := 0) C.1.1 C.1.2.1 dX7_copyFrom_47 (by decide) ?_
  refine lv_bipush (v := 10) C.1.1 C.1.2.1 dX7_copyFrom_48 (by decide) ?_
  refine ns_copy C w 125 46 (hJ 125 (by decide) (by decide)) (hI 46 (by decide)) sh_125 sh_46 hf rfl rfl (List.mem_of_getElem? (i := 3) rfl) (List.mem_of_getElem? (i := 3) rfl) (List.mem_of_getElem? (i := 4) rfl) (List.mem_of_getElem? (i := 5) rfl) (List.mem_of_getElem? (i := 6) rfl) hl.1 (Nat.le_of_ble_eq_true rfl) (Nat.le_of_ble_eq_true rfl) dX7_copyFrom_50 (fun y3 H locs hf w => ?_)
  refine lv_aload_n C.1.1 C.1.2.1 dX7_copyFrom_53 rfl (lv_at hl 1 rfl) ?_
  refine ns_getr C w 122 (hJ 122 (by decide) (by decide)) sh_122 (rfl : vwCl[7]? = some (RX7, TX7, 5)) inX7_copyFrom_7 4 (by decide) rfl lX7_copyFrom_21 dX7_copyFrom_54 ?_
  refine lv_iconst (v := 0) C.1.1 C.1.2.1 dX7_copyFrom_57 (by decide) ?_
  refine lv_aload_n C.1.1 C.1.2.1 dX7_copyFrom_58 rfl (lv_at hl 0 rfl) ?_
  refine ns_getr C w 43 (hI 43 (by decide)) sh_43 (rfl : vwCl[7]? = some (RX7, TX7, 5)) inX7_copyFrom_7 4 (by decide) rfl lX7_copyFrom_21 dX7_copyFrom_59 ?_
  refine lv_iconst (v := 0) C.1.1 C.1.2.1 dX7_copyFrom_62 (by decide) ?_
  refine lv_bipush (v := 30) C.1.1 C.1.2.1 dX7_copyFrom_63 (by decide) ?_
  refine ns_copy C w 126 47 (hJ 126 (by decide) (by decide)) (hI 47 (by decide)) sh_126 sh_47 hf rfl rfl (List.mem_of_getElem? (i := 4) rfl) (List.mem_of_getElem? (i := 3) rfl) (List.mem_of_getElem? (i := 4) rfl) (List.mem_of_getElem? (i := 5) rfl) (List.mem_of_getElem? (i := 6) rfl) hl.1 (Nat.le_of_ble_eq_true rfl) (Nat.le_of_ble_eq_true rfl) dX7_copyFrom_65 (fun y4 H locs hf w => ?_)
  have he := Option.some.inj hf
  subst he
  exact ns_vret C w hr hlk rfl rfl dX7_copyFrom_68
abbrev wrX8_copyFrom_48_127 : List (Nat × Nat) := [(0, 3072), (0, 3073), (1, 49), (1, 50), (1, 51), (1, 52)]
abbrev rmX8_copyFrom_48_127 : Room := { frames := 1, cells := 0, slots := 0, locals := 40 }
set_option maxHeartbeats 4000000 in
set_option maxRecDepth 100000 in
theorem mX8_copyFrom_48_127 (l : Launch) (D : va_G) (b : Nat → Nat) (ids : List Nat) (hI : ∀ i, i < 107 → i ∈ ids) (hJ : ∀ i, 107 ≤ i → i < 140 → i ∈ ids) (N : Nat) (S : ns_S) {o : Int32 × Int32 × (Nat → Int32) × (Nat → Int32) × (Nat → Int32) × (Nat → Int32)} (hf : fX8_copyFrom N (S.1 8128) (S.1 3072) (S.1 8129) (S.1 3073) (S.2.1 128) (S.2.1 49) (S.2.1 129) (S.2.1 50) (S.2.1 130) (S.2.1 51) (S.2.1 131) (S.2.1 52) = some o) : ns_M l yX8_copyFrom wsX8_copyFrom rmX8_copyFrom_48_127 D b ids S [.ref (b 48), .ref (b 127)] none (ns_I (ns_I (ns_A (ns_A (ns_A (ns_A S 52 o.2.2.2.2.2) 51 o.2.2.2.2.1) 50 o.2.2.2.1) 49 o.2.2.1) 3073 o.2.1) 3072 o.1) := by
  refine ns_start (Wr := wrX8_copyFrom_48_127) (by decide) rfl (Nat.le_of_ble_eq_true rfl) ?_
  intro p e s m below meth c A ls C hr hlk w hl
  have hl : lv_has ls 2 [(0, .ref (b 48)), (1, .ref (b 127))] := hl
  unfold fX8_copyFrom at hf
  refine lv_aload_n C.1.1 C.1.2.1 dX8_copyFrom_0 rfl (lv_at hl 0 rfl) ?_
  refine lv_aload_n C.1.1 C.1.2.1 dX8_copyFrom_1 rfl (lv_at hl 1 rfl) ?_
  refine ns_geti C w 127 (hJ 127 (by decide) (by decide)) sh_127 (rfl : vwCl[8]? = some (RX8, TX8, 6)) inX8_copyFrom_8 0 (by decide) rfl lX8_copyFrom_9 (S.1 8128) rfl dX8_copyFrom_2 ?_
  refine ns_puti C w 48 (hI 48 (by decide)) sh_48 (rfl : vwCl[8]? = some (RX8, TX8, 6)) inX8_copyFrom_8 tyX8_ok nmX8 0 (by decide) rfl lX8_copyFrom_9 rfl rfl rfl (List.mem_of_getElem? (i := 0) rfl) dX8_copyFrom_5 (fun H locs w => ?_)
  refine lv_aload_n C.1.1 C.1.2.1 dX8_copyFrom_8 rfl (lv_at hl 0 rfl) ?_
  refine lv_aload_n C.1.1 C.1.2.1 dX8_copyFrom_9 rfl (lv_at hl 1 rfl) ?_
  refine ns_geti C w 127 (hJ 127 (by decide) (by decide)) sh_127 (rfl : vwCl[8]? = some (RX8, TX8, 6)) inX8_copyFrom_8 1 (by decide) rfl lX8_copyFrom_28 (S.1 8129) rfl dX8_copyFrom_10 ?_
  refine ns_puti C w 48 (hI 48 (by decide)) sh_48 (rfl : vwCl[8]? = some (RX8, TX8, 6)) inX8_copyFrom_8 tyX8_ok nmX8 1 (by decide) rfl lX8_copyFrom_28 rfl rfl rfl (List.mem_of_getElem? (i := 1) rfl) dX8_copyFrom_13 (fun H locs w => ?_)
  refine lv_aload_n C.1.1 C.1.2.1 dX8_copyFrom_16 rfl (lv_at hl 1 rfl) ?_
  refine ns_getr C w 127 (hJ 127 (by decide) (by decide)) sh_127 (rfl : vwCl[8]? = some (RX8, TX8, 6)) inX8_copyFrom_8 2 (by decide) rfl lX8_copyFrom_15 dX8_copyFrom_17 ?_
  refine lv_iconst (v := 0) C.1.1 C.1.2.1 dX8_copyFrom_20 (by decide) ?_
  refine lv_aload_n C.1.1 C.1.2.1 dX8_copyFrom_21 rfl (lv_at hl 0 rfl) ?_
  refine ns_getr C w 48 (hI 48 (by decide)) sh_48 (rfl : vwCl[8]? = some (RX8, TX8, 6)) inX8_copyFrom_8 2 (by decide) rfl lX8_copyFrom_15 dX8_copyFrom_22 ?_
  refine lv_iconst (v := 0) C.1.1 C.1.2.1 dX8_copyFrom_25 (by decide) ?_
  refine lv_bipush (v := 30) C.1.1 C.1.2.1 dX8_copyFrom_26 (by decide) ?_
  refine ns_copy C w 128 49 (hJ 128 (by decide) (by decide)) (hI 49 (by decide)) sh_128 sh_49 hf rfl rfl (List.mem_of_getElem? (i := 2) rfl) (List.mem_of_getElem? (i := 4) rfl) (List.mem_of_getElem? (i := 5) rfl) (List.mem_of_getElem? (i := 6) rfl) (List.mem_of_getElem? (i := 7) rfl) hl.1 (Nat.le_of_ble_eq_true rfl) (Nat.le_of_ble_eq_true rfl) dX8_copyFrom_28 (fun y1 H locs hf w => ?_)
  refine lv_aload_n C.1.1 C.1.2.1 dX8_copyFrom_31 rfl (lv_at hl 1 rfl) ?_
  refine ns_getr C w 127 (hJ 127 (by decide) (by decide)) sh_127 (rfl : vwCl[8]? = some (RX8, TX8, 6)) inX8_copyFrom_8 3 (by decide) rfl lX8_copyFrom_19 dX8_copyFrom_32 ?_
  refine lv_iconst (v := 0) C.1.1 C.1.2.1 dX8_copyFrom_35 (by decide) ?_
  refine lv_aload_n C.1.1 C.1.2.1 dX8_copyFrom_36 rfl (lv_at hl 0 rfl) ?_
  refine ns_getr C w 48 (hI 48 (by decide)) sh_48 (rfl : vwCl[8]? = some (RX8, TX8, 6)) inX8_copyFrom_8 3 (by decide) rfl lX8_copyFrom_19 dX8_copyFrom_37 ?_
  refine lv_iconst (v := 0) C.1.1 C.1.2.1 dX8_copyFrom_40 (by decide) ?_
  refine lv_bipush (v := 10) C.1.1 C.1.2.1 dX8_copyFrom_41 (by decide) ?_
  refine ns_copy C w 129 50 (hJ 129 (by decide) (by decide)) (hI 50 (by decide)) sh_129 sh_50 hf rfl rfl (List.mem_of_getElem? (i := 3) rfl) (List.mem_of_getElem? (i := 4) rfl) (List.mem_of_getElem? (i := 5) rfl) (List.mem_of_getElem? (i := 6) rfl) (List.mem_of_getElem? (i := 7) rfl) hl.1 (Nat.le_of_ble_eq_true rfl) (Nat.le_of_ble_eq_true rfl) dX8_copyFrom_43 (fun y2 H locs hf w => ?_)
  refine lv_aload_n C.1.1 C.1.2.1 dX8_copyFrom_46 rfl (lv_at hl 1 rfl) ?_
  refine ns_getr C w 127 (hJ 127 (by decide) (by decide)) sh_127 (rfl : vwCl[8]? = some (RX8, TX8, 6)) inX8_copyFrom_8 4 (by decide) rfl lX8_copyFrom_22 dX8_copyFrom_47 ?_
  refine lv_iconst (v := 0) C.1.1 C.1.2.1 dX8_copyFrom_50 (by decide) ?_
  refine lv_aload_n C.1.1 C.1.2.1 dX8_copyFrom_51 rfl (lv_at hl 0 rfl) ?_
  refine ns_getr C w 48 (hI 48 (by decide)) sh_48 (rfl : vwCl[8]? = some (RX8, TX8, 6)) inX8_copyFrom_8 4 (by decide) rfl lX8_copyFrom_22 dX8_copyFrom_52 ?_
  refine lv_iconst (v := 0) C.1.1 C.1.2.1 dX8_copyFrom_55 (by decide) ?_
  refine lv_bipush (v := 6) C.1.1 C.1.2.1 dX8_copyFrom_56 (by decide) ?_
  refine ns_copy C w 130 51 (hJ 130 (by decide) (by decide)) (hI 51 (by decide)) sh_130 sh_51 hf rfl rfl (List.mem_of_getElem? (i := 4) rfl) (List.mem_of_getElem? (i := 4) rfl) (List.mem_of_getElem? (i := 5) rfl) (List.mem_of_getElem? (i := 6) rfl) (List.mem_of_getElem? (i := 7) rfl) hl.1 (Nat.le_of_ble_eq_true rfl) (Nat.le_of_ble_eq_true rfl) dX8_copyFrom_58 (fun y3 H locs hf w => ?_)
  refine lv_aload_n C.1.1 C.1.2.1 dX8_copyFrom_61 rfl (lv_at hl 1 rfl) ?_
  refine ns_getr C w 127 (hJ 127 (by decide) (by decide)) sh_127 (rfl : vwCl[8]? = some (RX8, TX8, 6)) inX8_copyFrom_8 5 (by decide) rfl lX8_copyFrom_25 dX8_copyFrom_62 ?_
  refine lv_iconst (v := 0) C.1.1 C.1.2.1 dX8_copyFrom_65 (by decide) ?_
  refine lv_aload_n C.1.1 C.1.2.1 dX8_copyFrom_66 rfl (lv_at hl 0 rfl) ?_
  refine ns_getr C w 48 (hI 48 (by decide)) sh_48 (rfl : vwCl[8]? = some (RX8, TX8, 6)) inX8_copyFrom_8 5 (by decide) rfl lX8_copyFrom_25 dX8_copyFrom_67 ?_
  refine lv_iconst (v := 0) C.1.1 C.1.2.1 dX8_copyFrom_70 (by decide) ?_
  refine lv_iconst (v := 5) C.1.1 C.1.2.1 dX8_copyFrom_71 (by decide) ?_
  refine ns_copy C w 131 52 (hJ 131 (by decide) (by decide)) (hI 52 (by decide)) sh_131 sh_52 hf rfl rfl (List.mem_of_getElem? (i := 5) rfl) (List.mem_of_getElem? (i := 4) rfl) (List.mem_of_getElem? (i := 5) rfl) (List.mem_of_getElem? (i := 6) rfl) (List.mem_of_getElem? (i := 7) rfl) hl.1 (Nat.le_of_ble_eq_true rfl) (Nat.le_of_ble_eq_true rfl) dX8_copyFrom_72 (fun y4 H locs hf w => ?_)
  have he := Option.some.inj hf
  subst he
  exact ns_vret C w hr hlk rfl rfl dX8_copyFrom_75
abbrev wrX2_copyFrom_53_132 : List (Nat × Nat) := [(0, 3392), (1, 54), (1, 55), (1, 56), (1, 57), (1, 58), (1, 59), (1, 60)]
abbrev rmX2_copyFrom_53_132 : Room := { frames := 1, cells := 0, slots := 0, locals := 40 }
set_option maxHeartbeats 4000000 in
set_option maxRecDepth 100000 in
theorem mX2_copyFrom_53_132 (l : Launch) (D : va_G) (b : Nat → Nat) (ids : List Nat) (hI : ∀ i, i < 107 → i ∈ ids) (hJ : ∀ i, 107 ≤ i → i < 140 → i ∈ ids) (N : Nat) (S : ns_S) {o : Int32 × (Nat → Int32) × (Nat → Int32) × (Nat → Int32) × (Nat → Int32) × (Nat → Int32) × (Nat → Int32) × (Nat → Int32)} (hf : fX2_copyFrom N (S.1 8448) (S.1 3392) (S.2.1 133) (S.2.1 54) (S.2.1 134) (S.2.1 55) (S.2.1 135) (S.2.1 56) (S.2.1 136) (S.2.1 57) (S.2.1 137) (S.2.1 58) (S.2.1 138) (S.2.1 59) (S.2.1 139) (S.2.1 60) = some o) : ns_M l yX2_copyFrom wsX2_copyFrom rmX2_copyFrom_53_132 D b ids S [.ref (b 53), .ref (b 132)] none (ns_I (ns_A (ns_A (ns_A (ns_A (ns_A (ns_A (ns_A S 60 o.2.2.2.2.2.2.2) 59 o.2.2.2.2.2.2.1) 58 o.2.2.2.2.2.1) 57 o.2.2.2.2.1) 56 o.2.2.2.1) 55 o.2.2.1) 54 o.2.1) 3392 o.1) := by
  refine ns_start (Wr := wrX2_copyFrom_53_132) (by decide) rfl (Nat.le_of_ble_eq_true rfl) ?_
  intro p e s m below meth c A ls C hr hlk w hl
  have hl : lv_has ls 2 [(0, .ref (b 53)), (1, .ref (b 132))] := hl
  unfold fX2_copyFrom at hf
  refine lv_aload_n C.1.1 C.1.2.1 dX2_copyFrom_0 rfl (lv_at hl 0 rfl) ?_
  refine lv_aload_n C.1.1 C.1.2.1 dX2_copyFrom_1 rfl (lv_at hl 1 rfl) ?_
  refine ns_geti C w 132 (hJ 132 (by decide) (by decide)) sh_132 (rfl : vwCl[2]? = some (RX2, TX2, 8)) inX2_copyFrom_2 0 (by decide) rfl lX2_copyFrom_33 (S.1 8448) rfl dX2_copyFrom_2 ?_
  refine ns_puti C w 53 (hI 53 (by decide)) sh_53 (rfl : vwCl[2]? = some (RX2, TX2, 8)) inX2_copyFrom_2 tyX2_ok nmX2 0 (by decide) rfl lX2_copyFrom_33 rfl rfl rfl (List.mem_of_getElem? (i := 0) rfl) dX2_copyFrom_5 (fun H locs w => ?_)
  refine lv_aload_n C.1.1 C.1.2.1 dX2_copyFrom_8 rfl (lv_at hl 1 rfl) ?_
  refine ns_getr C w 132 (hJ 132 (by decide) (by decide)) sh_132 (rfl : vwCl[2]? = some (RX2, TX2, 8)) inX2_copyFrom_2 1 (by decide) rfl lX2_copyFrom_9 dX2_copyFrom_9 ?_
  refine lv_iconst (v := 0) C.1.1 C.1.2.1 dX2_copyFrom_12 (by decide) ?_
  refine lv_aload_n C.1.1 C.1.2.1 dX2_copyFrom_13 rfl (lv_at hl 0 rfl) ?_
  refine ns_getr C w 53 (hI 53 (by decide)) sh_53 (rfl : vwCl[2]? = some (RX2, TX2, 8)) inX2_copyFrom_2 1 (by decide) rfl lX2_copyFrom_9 dX2_copyFrom_14 ?_
  refine lv_iconst (v := 0) C.1.1 C.1.2.1 dX2_copyFrom_17 (by decide) ?_
  refine lv_bipush (v := 16) C.1.1 C.1.2.1 dX2_copyFrom_18 (by decide) ?_
  refine ns_copy C w 133 54 (hJ 133 (by decide) (by decide)) (hI 54 (by decide)) sh_133 sh_54 hf rfl rfl (List.mem_of_getElem? (i := 1) rfl) (List.mem_of_getElem? (i := 3) rfl) (List.mem_of_getElem? (i := 4) rfl) (List.mem_of_getElem? (i := 5) rfl) (List.mem_of_getElem? (i := 6) rfl) hl.1 (Nat.le_of_ble_eq_true rfl) (Nat.le_of_ble_eq_true rfl) dX2_copyFrom_20 (fun y1 H locs hf w => ?_)
  refine lv_aload_n C.1.1 C.1.2.1 dX2_copyFrom_23 rfl (lv_at hl 1 rfl) ?_
  refine ns_getr C w 132 (hJ 132 (by decide) (by decide)) sh_132 (rfl : vwCl[2]? = some (RX2, TX2, 8)) inX2_copyFrom_2 2 (by decide) rfl lX2_copyFrom_15 dX2_copyFrom_24 ?_
  refine lv_iconst (v := 0) C.1.1 C.1.2.1 dX2_copyFrom_27 (by decide) ?_
  refine lv_aload_n C.1.1 C.1.2.1 dX2_copyFrom_28 rfl (lv_at hl 0 rfl) ?_
  refine ns_getr C w 53 (hI 53 (by decide)) sh_53 (rfl : vwCl[2]? = some (RX2, TX2, 8)) inX2_copyFrom_2 2 (by decide) rfl lX2_copyFrom_15 dX2_copyFrom_29 ?_
  refine lv_iconst (v := 0) C.1.1 C.1.2.1 dX2_copyFrom_32 (by decide) ?_
  refine lv_bipush (v := 16) C.1.1 C.1.2.1 dX2_copyFrom_33 (by decide) ?_
  refine ns_copy C w 134 55 (hJ 134 (by decide) (by decide)) (hI 55 (by decide)) sh_134 sh_55 hf rfl rfl (List.mem_of_getElem? (i := 2) rfl) (List.mem_of_getElem? (i := 3) rfl) (List.mem_of_getElem? (i := 4) rfl) (List.mem_of_getElem? (i := 5) rfl) (List.mem_of_getElem? (i := 6) rfl) hl.1 (Nat.le_of_ble_eq_true rfl) (Nat.le_of_ble_eq_true rfl) dX2_copyFrom_35 (fun y2 H locs hf w => ?_)
  refine lv_aload_n C.1.1 C.1.2.1 dX2_copyFrom_38 rfl (lv_at hl 1 rfl) ?_
  refine ns_getr C w 132 (hJ 132 (by decide) (by decide)) sh_132 (rfl : vwCl[2]? = some (RX2, TX2, 8)) inX2_copyFrom_2 3 (by decide) rfl lX2_copyFrom_18 dX2_copyFrom_39 ?_
  refine lv_iconst (v := 0) C.1.1 C.1.2.1 dX2_copyFrom_42 (by decide) ?_
  refine lv_aload_n C.1.1 C.1.2.1 dX2_copyFrom_43 rfl (lv_at hl 0 rfl) ?_
  refine ns_getr C w 53 (hI 53 (by decide)) sh_53 (rfl : vwCl[2]? = some (RX2, TX2, 8)) inX2_copyFrom_2 3 (by decide) rfl lX2_copyFrom_18 dX2_copyFrom_44 ?_
  refine lv_iconst (v := 0) C.1.1 C.1.2.1 dX2_copyFrom_47 (by decide) ?_
  refine lv_bipush (v := 16) C.1.1 C.1.2.1 dX2_copyFrom_48 (by decide) ?_
  refine ns_copy C w 135 56 (hJ 135 (by decide) (by decide)) (hI 56 (by decide)) sh_135 sh_56 hf rfl rfl (List.mem_of_getElem? (i := 3) rfl) (List.mem_of_getElem? (i := 3) rfl) (List.mem_of_getElem? (i := 4) rfl) (List.mem_of_getElem? (i := 5) rfl) (List.mem_of_getElem? (i := 6) rfl) hl.1 (Nat.le_of_ble_eq_true rfl) (Nat.le_of_ble_eq_true rfl) dX2_copyFrom_50 (fun y3 H locs hf w => ?_)
  refine lv_aload_n C.1.1 C.1.2.1 dX2_copyFrom_53 rfl (lv_at hl 1 rfl) ?_
  refine ns_getr C w 132 (hJ 132 (by decide) (by decide)) sh_132 (rfl : vwCl[2]? = some (RX2, TX2, 8)) inX2_copyFrom_2 4 (by decide) rfl lX2_copyFrom_21 dX2_copyFrom_54 ?_
  refine lv_iconst (v := 0) C.1.1 C.1.2.1 dX2_copyFrom_57 (by decide) ?_
  refine lv_aload_n C.1.1 C.1.2.1 dX2_copyFrom_58 rfl (lv_at hl 0 rfl) ?_
  refine ns_getr C w 53 (hI 53 (by decide)) sh_53 (rfl : vwCl[2]? = some (RX2, TX2, 8)) inX2_copyFrom_2 4 (by decide) rfl lX2_copyFrom_21 dX2_copyFrom_59 ?_
  refine lv_iconst (v := 0) C.1.1 C.1.2.1 dX2_copyFrom_62 (by decide) ?_
  refine lv_bipush (v := 16) C.1.1 C.1.2.1 dX2_copyFrom_63 (by decide) ?_
  refine ns_copy C w 136 57 (hJ 136 (by decide) (by decide)) (hI 57 (by decide)) sh_136 sh_57 hf rfl rfl (List.mem_of_getElem? (i := 4) rfl) (List.mem_of_getElem? (i := 3) rfl) (List.mem_of_getElem? (i := 4) rfl) (List.mem_of_getElem? (i := 5) rfl) (List.mem_of_getElem? (i := 6) rfl) hl.1 (Nat.le_of_ble_eq_true rfl) (Nat.le_of_ble_eq_true rfl) dX2_copyFrom_65 (fun y4 H locs hf w => ?_)
  refine lv_aload_n C.1.1 C.1.2.1 dX2_copyFrom_68 rfl (lv_at hl 1 rfl) ?_
  refine ns_getr C w 132 (hJ 132 (by decide) (by decide)) sh_132 (rfl : vwCl[2]? = some (RX2, TX2, 8)) inX2_copyFrom_2 5 (by decide) rfl lX2_copyFrom_24 dX2_copyFrom_69 ?_
  refine lv_iconst (v := 0) C.1.1 C.1.2.1 dX2_copyFrom_72 (by decide) ?_
  refine lv_aload_n C.1.1 C.1.2.1 dX2_copyFrom_73 rfl (lv_at hl 0 rfl) ?_
  refine ns_getr C w 53 (hI 53 (by decide)) sh_53 (rfl : vwCl[2]? = some (RX2, TX2, 8)) inX2_copyFrom_2 5 (by decide) rfl lX2_copyFrom_24 dX2_copyFrom_74 ?_
  refine lv_iconst (v := 0) C.1.1 C.1.2.1 dX2_copyFrom_77 (by decide) ?_
  refine lv_bipush (v := 64) C.1.1 C.1.2.1 dX2_copyFrom_78 (by decide) ?_
  refine ns_copy C w 137 58 (hJ 137 (by decide) (by decide)) (hI 58 (by decide)) sh_137 sh_58 hf rfl rfl (List.mem_of_getElem? (i := 5) rfl) (List.mem_of_getElem? (i := 3) rfl) (List.mem_of_getElem? (i := 4) rfl) (List.mem_of_getElem? (i := 5) rfl) (List.mem_of_getElem? (i := 6) rfl) hl.1 (Nat.le_of_ble_eq_true rfl) (Nat.le_of_ble_eq_true rfl) dX2_copyFrom_80 (fun y5 H locs hf w => ?_)
  refine lv_aload_n C.1.1 C.1.2.1 dX2_copyFrom_83 rfl (lv_at hl 1 rfl) ?_
  refine ns_getr C w 132 (hJ 132 (by decide) (by decide)) sh_132 (rfl : vwCl[2]? = some (RX2, TX2, 8)) inX2_copyFrom_2 6 (by decide) rfl lX2_copyFrom_27 dX2_copyFrom_84 ?_
  refine lv_iconst (v := 0) C.1.1 C.1.2.1 dX2_copyFrom_87 (by decide) ?_
  refine lv_aload_n C.1.1 C.1.2.1 dX2_copyFrom_88 rfl (lv_at hl 0 rfl) ?_
  refine ns_getr C w 53 (hI 53 (by decide)) sh_53 (rfl : vwCl[2]? = some (RX2, TX2, 8)) inX2_copyFrom_2 6 (by decide) rfl lX2_copyFrom_27 dX2_copyFrom_89 ?_
  refine lv_iconst (v := 0) C.1.1 C.1.2.1 dX2_copyFrom_92 (by decide) ?_
  refine lv_bipush (v := 64) C.1.1 C.1.2.1 dX2_copyFrom_93 (by decide) ?_
  refine ns_copy C w 138 59 (hJ 138 (by decide) (by decide)) (hI 59 (by decide)) sh_138 sh_59 hf rfl rfl (List.mem_of_getElem? (i := 6) rfl) (List.mem_of_getElem? (i := 3) rfl) (List.mem_of_getElem? (i := 4) rfl) (List.mem_of_getElem? (i := 5) rfl) (List.mem_of_getElem? (i := 6) rfl) hl.1 (Nat.le_of_ble_eq_true rfl) (Nat.le_of_ble_eq_true rfl) dX2_copyFrom_95 (fun y6 H locs hf w => ?_)
  refine lv_aload_n C.1.1 C.1.2.1 dX2_copyFrom_98 rfl (lv_at hl 1 rfl) ?_
  refine ns_getr C w 132 (hJ 132 (by decide) (by decide)) sh_132 (rfl : vwCl[2]? = some (RX2, TX2, 8)) inX2_copyFrom_2 7 (by decide) rfl lX2_copyFrom_30 dX2_copyFrom_99 ?_
  refine lv_iconst (v := 0) C.1.1 C.1.2.1 dX2_copyFrom_102 (by decide) ?_
  refine lv_aload_n C.1.1 C.1.2.1 dX2_copyFrom_103 rfl (lv_at hl 0 rfl) ?_
  refine ns_getr C w 53 (hI 53 (by decide)) sh_53 (rfl : vwCl[2]? = some (RX2, TX2, 8)) inX2_copyFrom_2 7 (by decide) rfl lX2_copyFrom_30 dX2_copyFrom_104 ?_
  refine lv_iconst (v := 0) C.1.1 C.1.2.1 dX2_copyFrom_107 (by decide) ?_
  refine lv_bipush (v := 64) C.1.1 C.1.2.1 dX2_copyFrom_108 (by decide) ?_
  refine ns_copy C w 139 60 (hJ 139 (by decide) (by decide)) (hI 60 (by decide)) sh_139 sh_60 hf rfl rfl (List.mem_of_getElem? (i := 7) rfl) (List.mem_of_getElem? (i := 3) rfl) (List.mem_of_getElem? (i := 4) rfl) (List.mem_of_getElem? (i := 5) rfl) (List.mem_of_getElem? (i := 6) rfl) hl.1 (Nat.le_of_ble_eq_true rfl) (Nat.le_of_ble_eq_true rfl) dX2_copyFrom_110 (fun y7 H locs hf w => ?_)
  have he := Option.some.inj hf
  subst he
  exact ns_vret C w hr hlk rfl rfl dX2_copyFrom_113
abbrev wrX6_copyFrom_28_107 : List (Nat × Nat) := [(0, 1856), (1, 30), (0, 1984), (1, 32), (1, 33), (1, 34), (1, 35), (1, 36), (0, 2368), (1, 38), (1, 39), (1, 40), (1, 41), (1, 42), (0, 2752), (1, 44), (1, 45), (1, 46), (1, 47), (0, 3072), (0, 3073), (1, 49), (1, 50), (1, 51), (1, 52), (0, 3392), (1, 54), (1, 55), (1, 56), (1, 57), (1, 58), (1, 59), (1, 60)]
abbrev rmX6_copyFrom_28_107 : Room := { frames := 2, cells := 0, slots := 0, locals := 61 }
set_option maxHeartbeats 4000000 in
set_option maxRecDepth 100000 in
theorem mX6_copyFrom_28_107 (l : Launch) (D : va_G) (b : Nat → Nat) (ids : List Nat) (hI : ∀ i, i < 107 → i ∈ ids) (hJ : ∀ i, 107 ≤ i → i < 140 → i ∈ ids) (N : Nat) (S : ns_S) {o : Int32 × (Nat → Int32) × Int32 × (Nat → Int32) × (Nat → Int32) × (Nat → Int32) × (Nat → Int32) × (Nat → Int32) × Int32 × (Nat → Int32) × (Nat → Int32) × (Nat → Int32) × (Nat → Int32) × (Nat → Int32) × Int32 × (Nat → Int32) × (Nat → Int32) × (Nat → Int32) × (Nat → Int32) × Int32 × Int32 × (Nat → Int32) × (Nat → Int32) × (Nat → Int32) × (Nat → Int32) × Int32 × (Nat → Int32) × (Nat → Int32) × (Nat → Int32) × (Nat → Int32) × (Nat → Int32) × (Nat → Int32) × (Nat → Int32)} (hf : fX6_copyFrom N (S.1 6912) (S.1 1856) (S.2.1 109) (S.2.1 30) (S.1 7040) (S.1 1984) (S.2.1 111) (S.2.1 32) (S.2.1 112) (S.2.1 33) (S.2.1 113) (S.2.1 34) (S.2.1 114) (S.2.1 35) (S.2.1 115) (S.2.1 36) (S.1 7424) (S.1 2368) (S.2.1 117) (S.2.1 38) (S.2.1 118) (S.2.1 39) (S.2.1 119) (S.2.1 40) (S.2.1 120) (S.2.1 41) (S.2.1 121) (S.2.1 42) (S.1 7808) (S.1 2752) (S.2.1 123) (S.2.1 44) (S.2.1 124) (S.2.1 45) (S.2.1 125) (S.2.1 46) (S.2.1 126) (S.2.1 47) (S.1 8128) (S.1 3072) (S.1 8129) (S.1 3073) (S.2.1 128) (S.2.1 49) (S.2.1 129) (S.2.1 50) (S.2.1 130) (S.2.1 51) (S.2.1 131) (S.2.1 52) (S.1 8448) (S.1 3392) (S.2.1 133) (S.2.1 54) (S.2.1 134) (S.2.1 55) (S.2.1 135) (S.2.1 56) (S.2.1 136) (S.2.1 57) (S.2.1 137) (S.2.1 58) (S.2.1 138) (S.2.1 59) (S.2.1 139) (S.2.1 60) = some o) : ns_M l yX6_copyFrom wsX6_copyFrom rmX6_copyFrom_28_107 D b ids S [.ref (b 28), .ref (b 107)] none (ns_I (ns_A (ns_I (ns_A (ns_A (ns_A (ns_A (ns_A (ns_I (ns_A (ns_A (ns_A (ns_A (ns_A (ns_I (ns_A (ns_A (ns_A (ns_A (ns_I (ns_I (ns_A (ns_A (ns_A (ns_A (ns_I (ns_A (ns_A (ns_A (ns_A (ns_A (ns_A (ns_A S 60 o.2.2.2.2.2.2.2.2.2.2.2.2.2.2.2.2.2.2.2.2.2.2.2.2.2.2.2.2.2.2.2.2) 59 o.2.2.2.2.2.2.2.2.2.2.2.2.2.2.2.2.2.2.2.2.2.2.2.2.2.2.2.2.2.2.2.1) 58 o.2.2.2.2.2.2.2.2.2.2.2.2.2.2.2.2.2.2.2.2.2.2.2.2.2.2.2.2.2.2.1) 57 o.2.2.2.2.2.2.2.2.2.2.2.2.2.2.2.2.2.2.2.2.2.2.2.2.2.2.2.2.2.1) 56 o.2.2.2.2.2.2.2.2.2.2.2.2.2.2.2.2.2.2.2.2.2.2.2.2.2.2.2.2.1) 55 o.2.2.2.2.2.2.2.2.2.2.2.2.2.2.2.2.2.2.2.2.2.2.2.2.2.2.2.1) 54 o.2.2.2.2.2.2.2.2.2.2.2.2.2.2.2.2.2.2.2.2.2.2.2.2.2.2.1) 3392 o.2.2.2.2.2.2.2.2.2.2.2.2.2.2.2.2.2.2.2.2.2.2.2.2.2.1) 52 o.2.2.2.2.2.2.2.2.2.2.2.2.2.2.2.2.2.2.2.2.2.2.2.2.1) 51 o.2.2.2.2.2.2.2.2.2.2.2.2.2.2.2.2.2.2.2.2.2.2.2.1) 50 o.2.2.2.2.2.2.2.2.2.2.2.2.2.2.2.2.2.2.2.2.2.2.1) 49 o.2.2.2.2.2.2.2.2.2.2.2.2.2.2.2.2.2.2.2.2.2.1) 3073 o.2.2.2.2.2.2.2.2.2.2.2.2.2.2.2.2.2.2.2.2.1) 3072 o.2.2.2.2.2.2.2.2.2.2.2.2.2.2.2.2.2.2.2.1) 47 o.2.2.2.2.2.2.2.2.2.2.2.2.2.2.2.2.2.2.1) 46 o.2.2.2.2.2.2.2.2.2.2.2.2.2.2.2.2.2.1) 45 o.2.2.2.2.2.2.2.2.2.2.2.2.2.2.2.2.1) 44 o.2.2.2.2.2.2.2.2.2.2.2.2.2.2.2.1) 2752 o.2.2.2.2.2.2.2.2.2.2.2.2.2.2.1) 42 o.2.2.2.2.2.2.2.2.2.2.2.2.2.1) 41 o.2.2.2.2.2.2.2.2.2.2.2.2.1) 40 o.2.2.2.2.2.2.2.2.2.2.2.1) 39 o.2.2.2.2.2.2.2.2.2.2.1) 38 o.2.2.2.2.2.2.2.2.2.1) 2368 o.2.2.2.2.2.2.2.2.1) 36 o.2.2.2.2.2.2.2.1) 35 o.2.2.2.2.2.2.1) 34 o.2.2.2.2.2.1) 33 o.2.2.2.2.1) 32 o.2.2.2.1) 1984 o.2.2.1) 30 o.2.1) 1856 o.1) := by
  refine ns_start (Wr := wrX6_copyFrom_28_107) (by decide) rfl (Nat.le_of_ble_eq_true rfl) ?_
  intro p e s m below meth c A ls C hr hlk w hl
  have hl : lv_has ls 2 [(0, .ref (b 28)), (1, .ref (b 107))] := hl
  unfold fX6_copyFrom at hf
  refine lv_aload_n C.1.1 C.1.2.1 dX6_copyFrom_0 rfl (lv_at hl 0 rfl) ?_
  refine ns_getr C w 28 (hI 28 (by decide)) sh_28 (rfl : vwCl[6]? = some (RX6, TX6, 6)) inX6_copyFrom_6 0 (by decide) rfl lX6_copyFrom_12 dX6_copyFrom_1 ?_
  refine lv_aload_n C.1.1 C.1.2.1 dX6_copyFrom_4 rfl (lv_at hl 1 rfl) ?_
  refine ns_getr C w 107 (hJ 107 (by decide) (by decide)) sh_107 (rfl : vwCl[6]? = some (RX6, TX6, 6)) inX6_copyFrom_6 0 (by decide) rfl lX6_copyFrom_12 dX6_copyFrom_5 ?_
  refine ns_callV C w 29 (hI 29 (by decide)) sh_29 (rfl : vwCl[5]? = some (RX5, TX5, 2)) [.ref (b 108)] hf (fun u hu => mX5_copyFrom_29_108 l D b ids hI hJ N _ hu) gX6_copyFrom_X5_copyFrom rfl rfl rfl hdX5_copyFrom ⟨Nat.le_of_ble_eq_true rfl, Nat.le_of_ble_eq_true rfl⟩ (fun u h => ((h.A (List.mem_of_getElem? (i := 1) rfl) _).I (List.mem_of_getElem? (i := 0) rfl) _)) rfl hl.1 rfl (Nat.le_of_ble_eq_true rfl) ⟨Nat.le_refl _, Nat.le_refl _⟩ dX6_copyFrom_8 (fun o1 H locs hf w => ?_)
  refine lv_aload_n C.1.1 C.1.2.1 dX6_copyFrom_11 rfl (lv_at hl 0 rfl) ?_
  refine ns_getr C w 28 (hI 28 (by decide)) sh_28 (rfl : vwCl[6]? = some (RX6, TX6, 6)) inX6_copyFrom_6 1 (by decide) rfl lX6_copyFrom_21 dX6_copyFrom_12 ?_
  refine lv_aload_n C.1.1 C.1.2.1 dX6_copyFrom_15 rfl (lv_at hl 1 rfl) ?_
  refine ns_getr C w 107 (hJ 107 (by decide) (by decide)) sh_107 (rfl : vwCl[6]? = some (RX6, TX6, 6)) inX6_copyFrom_6 1 (by decide) rfl lX6_copyFrom_21 dX6_copyFrom_16 ?_
  refine ns_callV C w 31 (hI 31 (by decide)) sh_31 (rfl : vwCl[0]? = some (RX0, TX0, 6)) [.ref (b 110)] hf (fun u hu => mX0_copyFrom_31_110 l D b ids hI hJ N _ hu) gX6_copyFrom_X0_copyFrom rfl rfl rfl hdX0_copyFrom ⟨Nat.le_of_ble_eq_true rfl, Nat.le_of_ble_eq_true rfl⟩ (fun u h => ((((((h.A (List.mem_of_getElem? (i := 7) rfl) _).A (List.mem_of_getElem? (i := 6) rfl) _).A (List.mem_of_getElem? (i := 5) rfl) _).A (List.mem_of_getElem? (i := 4) rfl) _).A (List.mem_of_getElem? (i := 3) rfl) _).I (List.mem_of_getElem? (i := 2) rfl) _)) rfl hl.1 rfl (Nat.le_of_ble_eq_true rfl) ⟨Nat.le_refl _, Nat.le_refl _⟩ dX6_copyFrom_19 (fun o2 H locs hf w => ?_)
  refine lv_aload_n C.1.1 C.1.2.1 dX6_copyFrom_22 rfl (lv_at hl 0 rfl) ?_
  refine ns_getr C w 28 (hI 28 (by decide)) sh_28 (rfl : vwCl[6]? = some (RX6, TX6, 6)) inX6_copyFrom_6 2 (by decide) rfl lX6_copyFrom_28 dX6_copyFrom_23 ?_
  refine lv_aload_n C.1.1 C.1.2.1 dX6_copyFrom_26 rfl (lv_at hl 1 rfl) ?_
  refine ns_getr C w 107 (hJ 107 (by decide) (by decide)) sh_107 (rfl : vwCl[6]? = some (RX6, TX6, 6)) inX6_copyFrom_6 2 (by decide) rfl lX6_copyFrom_28 dX6_copyFrom_27 ?_
  refine ns_callV C w 37 (hI 37 (by decide)) sh_37 (rfl : vwCl[4]? = some (RX4, TX4, 6)) [.ref (b 116)] hf (fun u hu => mX4_copyFrom_37_116 l D b ids hI hJ N _ hu) gX6_copyFrom_X4_copyFrom rfl rfl rfl hdX4_copyFrom ⟨Nat.le_of_ble_eq_true rfl, Nat.le_of_ble_eq_true rfl⟩ (fun u h => ((((((h.A (List.mem_of_getElem? (i := 13) rfl) _).A (List.mem_of_getElem? (i := 12) rfl) _).A (List.mem_of_getElem? (i := 11) rfl) _).A (List.mem_of_getElem? (i := 10) rfl) _).A (List.mem_of_getElem? (i := 9) rfl) _).I (List.mem_of_getElem? (i := 8) rfl) _)) rfl hl.1 rfl (Nat.le_of_ble_eq_true rfl) ⟨Nat.le_refl _, Nat.le_refl _⟩ dX6_copyFrom_30 (fun o3 H locs hf w => ?_)
  refine lv_aload_n C.1.1 C.1.2.1 dX6_copyFrom_33 rfl (lv_at hl 0 rfl) ?_
  refine ns_getr C w 28 (hI 28 (by decide)) sh_28 (rfl : vwCl[6]? = some (RX6, TX6, 6)) inX6_copyFrom_6 3 (by decide) rfl lX6_copyFrom_35 dX6_copyFrom_34 ?_
  refine lv_aload_n C.1.1 C.1.2.1 dX6_copyFrom_37 rfl (lv_at hl 1 rfl) ?_
  refine ns_getr C w 107 (hJ 107 (by decide) (by decide)) sh_107 (rfl : vwCl[6]? = some (RX6, TX6, 6)) inX6_copyFrom_6 3 (by decide) rfl lX6_copyFrom_35 dX6_copyFrom_38 ?_
  refine ns_callV C w 43 (hI 43 (by decide)) sh_43 (rfl : vwCl[7]? = some (RX7, TX7, 5)) [.ref (b 122)] hf (fun u hu => mX7_copyFrom_43_122 l D b ids hI hJ N _ hu) gX6_copyFrom_X7_copyFrom rfl rfl rfl hdX7_copyFrom ⟨Nat.le_of_ble_eq_true rfl, Nat.le_of_ble_eq_true rfl⟩ (fun u h => (((((h.A (List.mem_of_getElem? (i := 18) rfl) _).A (List.mem_of_getElem? (i := 17) rfl) _).A (List.mem_of_getElem? (i := 16) rfl) _).A (List.mem_of_getElem? (i := 15) rfl) _).I (List.mem_of_getElem? (i := 14) rfl) _)) rfl hl.1 rfl (Nat.le_of_ble_eq_true rfl) ⟨Nat.le_refl _, Nat.le_refl _⟩ dX6_copyFrom_41 (fun o4 H locs hf w => ?_)
  refine lv_aload_n C.1.1 C.1.2.1 dX6_copyFrom_44 rfl (lv_at hl 0 rfl) ?_
  refine ns_getr C w 28 (hI 28 (by decide)) sh_28 (rfl : vwCl[6]? = some (RX6, TX6, 6)) inX6_copyFrom_6 4 (by decide) rfl lX6_copyFrom_42 dX6_copyFrom_45 ?_
  refine lv_aload_n C.1.1 C.1.2.1 dX6_copyFrom_48 rfl (lv_at hl 1 rfl) ?_
  refine ns_getr C w 107 (hJ 107 (by decide) (by decide)) sh_107 (rfl : vwCl[6]? = some (RX6, TX6, 6)) inX6_copyFrom_6 4 (by decide) rfl lX6_copyFrom_42 dX6_copyFrom_49 ?_
  refine ns_callV C w 48 (hI 48 (by decide)) sh_48 (rfl : vwCl[8]? = some (RX8, TX8, 6)) [.ref (b 127)] hf (fun u hu => mX8_copyFrom_48_127 l D b ids hI hJ N _ hu) gX6_copyFrom_X8_copyFrom rfl rfl rfl hdX8_copyFrom ⟨Nat.le_of_ble_eq_true rfl, Nat.le_of_ble_eq_true rfl⟩ (fun u h => ((((((h.A (List.mem_of_getElem? (i := 24) rfl) _).A (List.mem_of_getElem? (i := 23) rfl) _).A (List.mem_of_getElem? (i := 22) rfl) _).A (List.mem_of_getElem? (i := 21) rfl) _).I (List.mem_of_getElem? (i := 20) rfl) _).I (List.mem_of_getElem? (i := 19) rfl) _)) rfl hl.1 rfl (Nat.le_of_ble_eq_true rfl) ⟨Nat.le_refl _, Nat.le_refl _⟩ dX6_copyFrom_52 (fun o5 H locs hf w => ?_)
  refine lv_aload_n C.1.1 C.1.2.1 dX6_copyFrom_55 rfl (lv_at hl 0 rfl) ?_
  refine ns_getr C w 28 (hI 28 (by decide)) sh_28 (rfl : vwCl[6]? = some (RX6, TX6, 6)) inX6_copyFrom_6 5 (by decide) rfl lX6_copyFrom_49 dX6_copyFrom_56 ?_
  refine lv_aload_n C.1.1 C.1.2.1 dX6_copyFrom_59 rfl (lv_at hl 1 rfl) ?_
  refine ns_getr C w 107 (hJ 107 (by decide) (by decide)) sh_107 (rfl : vwCl[6]? = some (RX6, TX6, 6)) inX6_copyFrom_6 5 (by decide) rfl lX6_copyFrom_49 dX6_copyFrom_60 ?_
  refine ns_callV C w 53 (hI 53 (by decide)) sh_53 (rfl : vwCl[2]? = some (RX2, TX2, 8)) [.ref (b 132)] hf (fun u hu => mX2_copyFrom_53_132 l D b ids hI hJ N _ hu) gX6_copyFrom_X2_copyFrom rfl rfl rfl hdX2_copyFrom ⟨Nat.le_of_ble_eq_true rfl, Nat.le_of_ble_eq_true rfl⟩ (fun u h => ((((((((h.A (List.mem_of_getElem? (i := 32) rfl) _).A (List.mem_of_getElem? (i := 31) rfl) _).A (List.mem_of_getElem? (i := 30) rfl) _).A (List.mem_of_getElem? (i := 29) rfl) _).A (List.mem_of_getElem? (i := 28) rfl) _).A (List.mem_of_getElem? (i := 27) rfl) _).A (List.mem_of_getElem? (i := 26) rfl) _).I (List.mem_of_getElem? (i := 25) rfl) _)) rfl hl.1 rfl (Nat.le_of_ble_eq_true rfl) ⟨Nat.le_refl _, Nat.le_refl _⟩ dX6_copyFrom_63 (fun o6 H locs hf w => ?_)
  have he := Option.some.inj hf
  subst he
  exact ns_vret C w hr hlk rfl rfl dX6_copyFrom_66
abbrev wrX5_copyFrom_141_29 : List (Nat × Nat) := [(0, 9024), (1, 142)]
abbrev rmX5_copyFrom_141_29 : Room := { frames := 1, cells := 0, slots := 0, locals := 40 }
set_option maxHeartbeats 4000000 in
set_option maxRecDepth 100000 in
theorem mX5_copyFrom_141_29 (l : Launch) (D : va_G) (b : Nat → Nat) (ids : List Nat) (hI : ∀ i, i < 107 → i ∈ ids) (hJ : ∀ i, 140 ≤ i → i < 173 → i ∈ ids) (N : Nat) (S : ns_S) {o : Int32 × (Nat → Int32)} (hf : fX5_copyFrom N (S.1 1856) (S.1 9024) (S.2.1 30) (S.2.1 142) = some o) : ns_M l yX5_copyFrom wsX5_copyFrom rmX5_copyFrom_141_29 D b ids S [.ref (b 141), .ref (b 29)] none (ns_I (ns_A S 142 o.2) 9024 o.1) := by
  refine ns_start (Wr := wrX5_copyFrom_141_29) (by decide) rfl (Nat.le_of_ble_eq_true rfl) ?_
  intro p e s m below meth c A ls C hr hlk w hl
  have hl : lv_has ls 2 [(0, .ref (b 141)), (1, .ref (b 29))] := hl
  unfold fX5_copyFrom at hf
  refine lv_aload_n C.1.1 C.1.2.1 dX5_copyFrom_0 rfl (lv_at hl 0 rfl) ?_
  refine lv_aload_n C.1.1 C.1.2.1 dX5_copyFrom_1 rfl (lv_at hl 1 rfl) ?_
  refine ns_geti C w 29 (hI 29 (by decide)) sh_29 (rfl : vwCl[5]? = some (RX5, TX5, 2)) inX5_copyFrom_5 0 (by decide) rfl lX5_copyFrom_15 (S.1 1856) rfl dX5_copyFrom_2 ?_
  refine ns_puti C w 141 (hJ 141 (by decide) (by decide)) sh_141 (rfl : vwCl[5]? = some (RX5, TX5, 2)) inX5_copyFrom_5 tyX5_ok nmX5 0 (by decide) rfl lX5_copyFrom_15 rfl rfl rfl (List.mem_of_getElem? (i := 0) rfl) dX5_copyFrom_5 (fun H locs w => ?_)
  refine lv_aload_n C.1.1 C.1.2.1 dX5_copyFrom_8 rfl (lv_at hl 1 rfl) ?_
  refine ns_getr C w 29 (hI 29 (by decide)) sh_29 (rfl : vwCl[5]? = some (RX5, TX5, 2)) inX5_copyFrom_5 1 (by decide) rfl lX5_copyFrom_9 dX5_copyFrom_9 ?_
  refine lv_iconst (v := 0) C.1.1 C.1.2.1 dX5_copyFrom_12 (by decide) ?_
  refine lv_aload_n C.1.1 C.1.2.1 dX5_copyFrom_13 rfl (lv_at hl 0 rfl) ?_
  refine ns_getr C w 141 (hJ 141 (by decide) (by decide)) sh_141 (rfl : vwCl[5]? = some (RX5, TX5, 2)) inX5_copyFrom_5 1 (by decide) rfl lX5_copyFrom_9 dX5_copyFrom_14 ?_
  refine lv_iconst (v := 0) C.1.1 C.1.2.1 dX5_copyFrom_17 (by decide) ?_
  refine lv_iconst (v := 5) C.1.1 C.1.2.1 dX5_copyFrom_18 (by decide) ?_
  refine ns_copy C w 30 142 (hI 30 (by decide)) (hJ 142 (by decide) (by decide)) sh_30 sh_142 hf rfl rfl (List.mem_of_getElem? (i := 1) rfl) (List.mem_of_getElem? (i := 3) rfl) (List.mem_of_getElem? (i := 4) rfl) (List.mem_of_getElem? (i := 5) rfl) (List.mem_of_getElem? (i := 6) rfl) hl.1 (Nat.le_of_ble_eq_true rfl) (Nat.le_of_ble_eq_true rfl) dX5_copyFrom_19 (fun y1 H locs hf w => ?_)
  have he := Option.some.inj hf
  subst he
  exact ns_vret C w hr hlk rfl rfl dX5_copyFrom_22
abbrev wrX0_copyFrom_143_31 : List (Nat × Nat) := [(0, 9152), (1, 144), (1, 145), (1, 146), (1, 147), (1, 148)]
abbrev rmX0_copyFrom_143_31 : Room := { frames := 1, cells := 0, slots := 0, locals := 40 }
set_option maxHeartbeats 4000000 in
set_option maxRecDepth 100000 in
theorem mX0_copyFrom_143_31 (l : Launch) (D : va_G) (b : Nat → Nat) (ids : List Nat) (hI : ∀ i, i < 107 → i ∈ ids) (hJ : ∀ i, 140 ≤ i → i < 173 → i ∈ ids) (N : Nat) (S : ns_S) {o : Int32 × (Nat → Int32) × (Nat → Int32) × (Nat → Int32) × (Nat → Int32) × (Nat → Int32)} (hf : fX0_copyFrom N (S.1 1984) (S.1 9152) (S.2.1 32) (S.2.1 144) (S.2.1 33) (S.2.1 145) (S.2.1 34) (S.2.1 146) (S.2.1 35) (S.2.1 147) (S.2.1 36) (S.2.1 148) = some o) : ns_M l yX0_copyFrom wsX0_copyFrom rmX0_copyFrom_143_31 D b ids S [.ref (b 143), .ref (b 31)] none (ns_I (ns_A (ns_A (ns_A (ns_A (ns_A S 148 o.2.2.2.2.2) 147 o.2.2.2.2.1) 146 o.2.2.2.1) 145 o.2.2.1) 144 o.2.1) 9152 o.1) := by
  refine ns_start (Wr := wrX0_copyFrom_143_31) (by decide) rfl (Nat.le_of_ble_eq_true rfl) ?_
  intro p e s m below meth c A ls C hr hlk w hl
  have hl : lv_has ls 2 [(0, .ref (b 143)), (1, .ref (b 31))] := hl
  unfold fX0_copyFrom at hf
  refine lv_aload_n C.1.1 C.1.2.1 dX0_copyFrom_0 rfl (lv_at hl 0 rfl) ?_
  refine lv_aload_n C.1.1 C.1.2.1 dX0_copyFrom_1 rfl (lv_at hl 1 rfl) ?_
  refine ns_geti C w 31 (hI 31 (by decide)) sh_31 (rfl : vwCl[0]? = some (RX0, TX0, 6)) inX0_copyFrom_0 0 (by decide) rfl lX0_copyFrom_27 (S.1 1984) rfl dX0_copyFrom_2 ?_
  refine ns_puti C w 143 (hJ 143 (by decide) (by decide)) sh_143 (rfl : vwCl[0]? = some (RX0, TX0, 6)) inX0_copyFrom_0 tyX0_ok nmX0 0 (by decide) rfl lX0_copyFrom_27 rfl rfl rfl (List.mem_of_getElem? (i := 0) rfl) dX0_copyFrom_5 (fun H locs w => ?_)
  refine lv_aload_n C.1.1 C.1.2.1 dX0_copyFrom_8 rfl (lv_at hl 1 rfl) ?_
  refine ns_getr C w 31 (hI 31 (by decide)) sh_31 (rfl : vwCl[0]? = some (RX0, TX0, 6)) inX0_copyFrom_0 1 (by decide) rfl lX0_copyFrom_9 dX0_copyFrom_9 ?_
  refine lv_iconst (v := 0) C.1.1 C.1.2.1 dX0_copyFrom_12 (by decide) ?_
  refine lv_aload_n C.1.1 C.1.2.1 dX0_copyFrom_13 rfl (lv_at hl 0 rfl) ?_
  refine ns_getr C w 143 (hJ 143 (by decide) (by decide)) sh_143 (rfl : vwCl[0]? = some (RX0, TX0, 6)) inX0_copyFrom_0 1 (by decide) rfl lX0_copyFrom_9 dX0_copyFrom_14 ?_
  refine lv_iconst (v := 0) C.1.1 C.1.2.1 dX0_copyFrom_17 (by decide) ?_
  refine lv_bipush (v := 10) C.1.1 C.1.2.1 dX0_copyFrom_18 (by decide) ?_
  refine ns_copy C w 32 144 (hI 32 (by decide)) (hJ 144 (by decide) (by decide)) sh_32 sh_144 hf rfl rfl (List.mem_of_getElem? (i := 1) rfl) (List.mem_of_getElem? (i := 3) rfl) (List.mem_of_getElem? (i := 4) rfl) (List.mem_of_getElem? (i := 5) rfl) (List.mem_of_getElem? (i := 6) rfl) hl.1 (Nat.le_of_ble_eq_true rfl) (Nat.le_of_ble_eq_true rfl) dX0_copyFrom_20 (fun y1 H locs hf w => ?_)
  refine lv_aload_n C.1.1 C.1.2.1 dX0_copyFrom_23 rfl (lv_at hl 1 rfl) ?_
  refine ns_getr C w 31 (hI 31 (by decide)) sh_31 (rfl : vwCl[0]? = some (RX0, TX0, 6)) inX0_copyFrom_0 2 (by decide) rfl lX0_copyFrom_15 dX0_copyFrom_24 ?_
  refine lv_iconst (v := 0) C.1.1 C.1.2.1 dX0_copyFrom_27 (by decide) ?_
  refine lv_aload_n C.1.1 C.1.2.1 dX0_copyFrom_28 rfl (lv_at hl 0 rfl) ?_
  refine ns_getr C w 143 (hJ 143 (by decide) (by decide)) sh_143 (rfl : vwCl[0]? = some (RX0, TX0, 6)) inX0_copyFrom_0 2 (by decide) rfl lX0_copyFrom_15 dX0_copyFrom_29 ?_
  refine lv_iconst (v := 0) C.1.1 C.1.2.1 dX0_copyFrom_32 (by decide) ?_
  refine lv_bipush (v := 10) C.1.1 C.1.2.1 dX0_copyFrom_33 (by decide) ?_
  refine ns_copy C w 33 145 (hI 33 (by decide)) (hJ 145 (by decide) (by decide)) sh_33 sh_145 hf rfl rfl (List.mem_of_getElem? (i := 2) rfl) (List.mem_of_getElem? (i := 3) rfl) (List.mem_of_getElem? (i := 4) rfl) (List.mem_of_getElem? (i := 5) rfl) (List.mem_of_getElem? (i := 6) rfl) hl.1 (Nat.le_of_ble_eq_true rfl) (Nat.le_of_ble_eq_true rfl) dX0_copyFrom_35 (fun y2 H locs hf w => ?_)
  refine lv_aload_n C.1.1 C.1.2.1 dX0_copyFrom_38 rfl (lv_at hl 1 rfl) ?_
  refine ns_getr C w 31 (hI 31 (by decide)) sh_31 (rfl : vwCl[0]? = some (RX0, TX0, 6)) inX0_copyFrom_0 3 (by decide) rfl lX0_copyFrom_18 dX0_copyFrom_39 ?_
  refine lv_iconst (v := 0) C.1.1 C.1.2.1 dX0_copyFrom_42 (by decide) ?_
  refine lv_aload_n C.1.1 C.1.2.1 dX0_copyFrom_43 rfl (lv_at hl 0 rfl) ?_
  refine ns_getr C w 143 (hJ 143 (by decide) (by decide)) sh_143 (rfl : vwCl[0]? = some (RX0, TX0, 6)) inX0_copyFrom_0 3 (by decide) rfl lX0_copyFrom_18 dX0_copyFrom_44 ?_
  refine lv_iconst (v := 0) C.1.1 C.1.2.1 dX0_copyFrom_47 (by decide) ?_
  refine lv_bipush (v := 10) C.1.1 C.1.2.1 dX0_copyFrom_48 (by decide) ?_
  refine ns_copy C w 34 146 (hI 34 (by decide)) (hJ 146 (by decide) (by decide)) sh_34 sh_146 hf rfl rfl (List.mem_of_getElem? (i := 3) rfl) (List.mem_of_getElem? (i := 3) rfl) (List.mem_of_getElem? (i := 4) rfl) (List.mem_of_getElem? (i := 5) rfl) (List.mem_of_getElem? (i := 6) rfl) hl.1 (Nat.le_of_ble_eq_true rfl) (Nat.le_of_ble_eq_true rfl) dX0_copyFrom_50 (fun y3 H locs hf w => ?_)
  refine lv_aload_n C.1.1 C.1.2.1 dX0_copyFrom_53 rfl (lv_at hl 1 rfl) ?_
  refine ns_getr C w 31 (hI 31 (by decide)) sh_31 (rfl : vwCl[0]? = some (RX0, TX0, 6)) inX0_copyFrom_0 4 (by decide) rfl lX0_copyFrom_21 dX0_copyFrom_54 ?_
  refine lv_iconst (v := 0) C.1.1 C.1.2.1 dX0_copyFrom_57 (by decide) ?_
  refine lv_aload_n C.1.1 C.1.2.1 dX0_copyFrom_58 rfl (lv_at hl 0 rfl) ?_
  refine ns_getr C w 143 (hJ 143 (by decide) (by decide)) sh_143 (rfl : vwCl[0]? = some (RX0, TX0, 6)) inX0_copyFrom_0 4 (by decide) rfl lX0_copyFrom_21 dX0_copyFrom_59 ?_
  refine lv_iconst (v := 0) C.1.1 C.1.2.1 dX0_copyFrom_62 (by decide) ?_
  refine lv_bipush (v := 10) C.1.1 C.1.2.1 dX0_copyFrom_63 (by decide) ?_
  refine ns_copy C w 35 147 (hI 35 (by decide)) (hJ 147 (by decide) (by decide)) sh_35 sh_147 hf rfl rfl (List.mem_of_getElem? (i := 4) rfl) (List.mem_of_getElem? (i := 3) rfl) (List.mem_of_getElem? (i := 4) rfl) (List.mem_of_getElem? (i := 5) rfl) (List.mem_of_getElem? (i := 6) rfl) hl.1 (Nat.le_of_ble_eq_true rfl) (Nat.le_of_ble_eq_true rfl) dX0_copyFrom_65 (fun y4 H locs hf w => ?_)
  refine lv_aload_n C.1.1 C.1.2.1 dX0_copyFrom_68 rfl (lv_at hl 1 rfl) ?_
  refine ns_getr C w 31 (hI 31 (by decide)) sh_31 (rfl : vwCl[0]? = some (RX0, TX0, 6)) inX0_copyFrom_0 5 (by decide) rfl lX0_copyFrom_24 dX0_copyFrom_69 ?_
  refine lv_iconst (v := 0) C.1.1 C.1.2.1 dX0_copyFrom_72 (by decide) ?_
  refine lv_aload_n C.1.1 C.1.2.1 dX0_copyFrom_73 rfl (lv_at hl 0 rfl) ?_
  refine ns_getr C w 143 (hJ 143 (by decide) (by decide)) sh_143 (rfl : vwCl[0]? = some (RX0, TX0, 6)) inX0_copyFrom_0 5 (by decide) rfl lX0_copyFrom_24 dX0_copyFrom_74 ?_
  refine lv_iconst (v := 0) C.1.1 C.1.2.1 dX0_copyFrom_77 (by decide) ?_
  refine lv_bipush (v := 10) C.1.1 C.1.2.1 dX0_copyFrom_78 (by decide) ?_
  refine ns_copy C w 36 148 (hI 36 (by decide)) (hJ 148 (by decide) (by decide)) sh_36 sh_148 hf rfl rfl (List.mem_of_getElem? (i := 5) rfl) (List.mem_of_getElem? (i := 3) rfl) (List.mem_of_getElem? (i := 4) rfl) (List.mem_of_getElem? (i := 5) rfl) (List.mem_of_getElem? (i := 6) rfl) hl.1 (Nat.le_of_ble_eq_true rfl) (Nat.le_of_ble_eq_true rfl) dX0_copyFrom_80 (fun y5 H locs hf w => ?_)
  have he := Option.some.inj hf
  subst he
  exact ns_vret C w hr hlk rfl rfl dX0_copyFrom_83
abbrev wrX4_copyFrom_149_37 : List (Nat × Nat) := [(0, 9536), (1, 150), (1, 151), (1, 152), (1, 153), (1, 154)]
abbrev rmX4_copyFrom_149_37 : Room := { frames := 1, cells := 0, slots := 0, locals := 40 }
set_option maxHeartbeats 4000000 in
set_option maxRecDepth 100000 in
theorem mX4_copyFrom_149_37 (l : Launch) (D : va_G) (b : Nat → Nat) (ids : List Nat) (hI : ∀ i, i < 107 → i ∈ ids) (hJ : ∀ i, 140 ≤ i → i < 173 → i ∈ ids) (N : Nat) (S : ns_S) {o : Int32 × (Nat → Int32) × (Nat → Int32) × (Nat → Int32) × (Nat → Int32) × (Nat → Int32)} (hf : fX4_copyFrom N (S.1 2368) (S.1 9536) (S.2.1 38) (S.2.1 150) (S.2.1 39) (S.2.1 151) (S.2.1 40) (S.2.1 152) (S.2.1 41) (S.2.1 153) (S.2.1 42) (S.2.1 154) = some o) : ns_M l yX4_copyFrom wsX4_copyFrom rmX4_copyFrom_149_37 D b ids S [.ref (b 149), .ref (b 37)] none (ns_I (ns_A (ns_A (ns_A (ns_A (ns_A S 154 o.2.2.2.2.2) 153 o.2.2.2.2.1) 152 o.2.2.2.1) 151 o.2.2.1) 150 o.2.1) 9536 o.1) := by
  refine ns_start (Wr := wrX4_copyFrom_149_37) (by decide) rfl (Nat.le_of_ble_eq_true rfl) ?_
  intro p e s m below meth c A ls C hr hlk w hl
  have hl : lv_has ls 2 [(0, .ref (b 149)), (1, .ref (b 37))] := hl
  unfold fX4_copyFrom at hf
  refine lv_aload_n C.1.1 C.1.2.1 dX4_copyFrom_0 rfl (lv_at hl 0 rfl) ?_
  refine lv_aload_n C.1.1 C.1.2.1 dX4_copyFrom_1 rfl (lv_at hl 1 rfl) ?_
  refine ns_geti C w 37 (hI 37 (by decide)) sh_37 (rfl : vwCl[4]? = some (RX4, TX4, 6)) inX4_copyFrom_4 0 (by decide) rfl lX4_copyFrom_27 (S.1 2368) rfl dX4_copyFrom_2 ?_
  refine ns_puti C w 149 (hJ 149 (by decide) (by decide)) sh_149 (rfl : vwCl[4]? = some (RX4, TX4, 6)) inX4_copyFrom_4 tyX4_ok nmX4 0 (by decide) rfl lX4_copyFrom_27 rfl rfl rfl (List.mem_of_getElem? (i := 0) rfl) dX4_copyFrom_5 (fun H locs w => ?_)
  refine lv_aload_n C.1.1 C.1.2.1 dX4_copyFrom_8 rfl (lv_at hl 1 rfl) ?_
  refine ns_getr C w 37 (hI 37 (by decide)) sh_37 (rfl : vwCl[4]? = some (RX4, TX4, 6)) inX4_copyFrom_4 1 (by decide) rfl lX4_copyFrom_9 dX4_copyFrom_9 ?_
  refine lv_iconst (v := 0) C.1.1 C.1.2.1 dX4_copyFrom_12 (by decide) ?_
  refine lv_aload_n C.1.1 C.1.2.1 dX4_copyFrom_13 rfl (lv_at hl 0 rfl) ?_
  refine ns_getr C w 149 (hJ 149 (by decide) (by decide)) sh_149 (rfl : vwCl[4]? = some (RX4, TX4, 6)) inX4_copyFrom_4 1 (by decide) rfl lX4_copyFrom_9 dX4_copyFrom_14 ?_
  refine lv_iconst (v := 0) C.1.1 C.1.2.1 dX4_copyFrom_17 (by decide) ?_
  refine lv_bipush (v := 30) C.1.1 C.1.2.1 dX4_copyFrom_18 (by decide) ?_
  refine ns_copy C w 38 150 (hI 38 (by decide)) (hJ 150 (by decide) (by decide)) sh_38 sh_150 hf rfl rfl (List.mem_of_getElem? (i := 1) rfl) (List.mem_of_getElem? (i := 3) rfl) (List.mem_of_getElem? (i := 4) rfl) (List.mem_of_getElem? (i := 5) rfl) (List.mem_of_getElem? (i := 6) rfl) hl.1 (Nat.le_of_ble_eq_true rfl) (Nat.le_of_ble_eq_true rfl) dX4_copyFrom_20 (fun y1 H locs hf w => ?_)
  refine lv_aload_n C.1.1 C.1.2.1 dX4_copyFrom_23 rfl (lv_at hl 1 rfl) ?_
  refine ns_getr C w 37 (hI 37 (by decide)) sh_37 (rfl : vwCl[4]? = some (RX4, TX4, 6)) inX4_copyFrom_4 2 (by decide) rfl lX4_copyFrom_15 dX4_copyFrom_24 ?_
  refine lv_iconst (v := 0) C.1.1 C.1.2.1 dX4_copyFrom_27 (by decide) ?_
  refine lv_aload_n C.1.1 C.1.2.1 dX4_copyFrom_28 rfl (lv_at hl 0 rfl) ?_
  refine ns_getr C w 149 (hJ 149 (by decide) (by decide)) sh_149 (rfl : vwCl[4]? = some (RX4, TX4, 6)) inX4_copyFrom_4 2 (by decide) rfl lX4_copyFrom_15 dX4_copyFrom_29 ?_
  refine lv_iconst (v := 0) C.1.1 C.1.2.1 dX4_copyFrom_32 (by decide) ?_
  refine lv_bipush (v := 30) C.1.1 C.1.2.1 dX4_copyFrom_33 (by decide) ?_
  refine ns_copy C w 39 151 (hI 39 (by decide)) (hJ 151 (by decide) (by decide)) sh_39 sh_151 hf rfl rfl (List.mem_of_getElem? (i := 2) rfl) (List.mem_of_getElem? (i := 3) rfl) (List.mem_of_getElem? (i := 4) rfl) (List.mem_of_getElem? (i := 5) rfl) (List.mem_of_getElem? (i := 6) rfl) hl.1 (Nat.le_of_ble_eq_true rfl) (Nat.le_of_ble_eq_true rfl) dX4_copyFrom_35 (fun y2 H locs hf w => ?_)
  refine lv_aload_n C.1.1 C.1.2.1 dX4_copyFrom_38 rfl (lv_at hl 1 rfl) ?_
  refine ns_getr C w 37 (hI 37 (by decide)) sh_37 (rfl : vwCl[4]? = some (RX4, TX4, 6)) inX4_copyFrom_4 3 (by decide) rfl lX4_copyFrom_18 dX4_copyFrom_39 ?_
  refine lv_iconst (v := 0) C.1.1 C.1.2.1 dX4_copyFrom_42 (by decide) ?_
  refine lv_aload_n C.1.1 C.1.2.1 dX4_copyFrom_43 rfl (lv_at hl 0 rfl) ?_
  refine ns_getr C w 149 (hJ 149 (by decide) (by decide)) sh_149 (rfl : vwCl[4]? = some (RX4, TX4, 6)) inX4_copyFrom_4 3 (by decide) rfl lX4_copyFrom_18 dX4_copyFrom_44 ?_
  refine lv_iconst (v := 0) C.1.1 C.1.2.1 dX4_copyFrom_47 (by decide) ?_
  refine lv_bipush (v := 30) C.1.1 C.1.2.1 dX4_copyFrom_48 (by decide) ?_
  refine ns_copy C w 40 152 (hI 40 (by decide)) (hJ 152 (by decide) (by decide)) sh_40 sh_152 hf rfl rfl (List.mem_of_getElem? (i := 3) rfl) (List.mem_of_getElem? (i := 3) rfl) (List.mem_of_getElem? (i := 4) rfl) (List.mem_of_getElem? (i := 5) rfl) (List.mem_of_getElem? (i := 6) rfl) hl.1 (Nat.le_of_ble_eq_true rfl) (Nat.le_of_ble_eq_true rfl) dX4_copyFrom_50 (fun y3 H locs hf w => ?_)
  refine lv_aload_n C.1.1 C.1.2.1 dX4_copyFrom_53 rfl (lv_at hl 1 rfl) ?_
  refine ns_getr C w 37 (hI 37 (by decide)) sh_37 (rfl : vwCl[4]? = some (RX4, TX4, 6)) inX4_copyFrom_4 4 (by decide) rfl lX4_copyFrom_21 dX4_copyFrom_54 ?_
  refine lv_iconst (v := 0) C.1.1 C.1.2.1 dX4_copyFrom_57 (by decide) ?_
  refine lv_aload_n C.1.1 C.1.2.1 dX4_copyFrom_58 rfl (lv_at hl 0 rfl) ?_
  refine ns_getr C w 149 (hJ 149 (by decide) (by decide)) sh_149 (rfl : vwCl[4]? = some (RX4, TX4, 6)) inX4_copyFrom_4 4 (by decide) rfl lX4_copyFrom_21 dX4_copyFrom_59 ?_
  refine lv_iconst (v := 0) C.1.1 C.1.2.1 dX4_copyFrom_62 (by decide) ?_
  refine lv_bipush (v := 30) C.1.1 C.1.2.1 dX4_copyFrom_63 (by decide) ?_
  refine ns_copy C w 41 153 (hI 41 (by decide)) (hJ 153 (by decide) (by decide)) sh_41 sh_153 hf rfl rfl (List.mem_of_getElem? (i := 4) rfl) (List.mem_of_getElem? (i := 3) rfl) (List.mem_of_getElem? (i := 4) rfl) (List.mem_of_getElem? (i := 5) rfl) (List.mem_of_getElem? (i := 6) rfl) hl.1 (Nat.le_of_ble_eq_true rfl) (Nat.le_of_ble_eq_true rfl) dX4_copyFrom_65 (fun y4 H locs hf w => ?_)
  refine lv_aload_n C.1.1 C.1.2.1 dX4_copyFrom_68 rfl (lv_at hl 1 rfl) ?_
  refine ns_getr C w 37 (hI 37 (by decide)) sh_37 (rfl : vwCl[4]? = some (RX4, TX4, 6)) inX4_copyFrom_4 5 (by decide) rfl lX4_copyFrom_24 dX4_copyFrom_69 ?_
  refine lv_iconst (v := 0) C.1.1 C.1.2.1 dX4_copyFrom_72 (by decide) ?_
  refine lv_aload_n C.1.1 C.1.2.1 dX4_copyFrom_73 rfl (lv_at hl 0 rfl) ?_
  refine ns_getr C w 149 (hJ 149 (by decide) (by decide)) sh_149 (rfl : vwCl[4]? = some (RX4, TX4, 6)) inX4_copyFrom_4 5 (by decide) rfl lX4_copyFrom_24 dX4_copyFrom_74 ?_
  refine lv_iconst (v := 0) C.1.1 C.1.2.1 dX4_copyFrom_77 (by decide) ?_
  refine lv_sipush (v := 180) C.1.1 C.1.2.1 dX4_copyFrom_78 (by decide) ?_
  refine ns_copy C w 42 154 (hI 42 (by decide)) (hJ 154 (by decide) (by decide)) sh_42 sh_154 hf rfl rfl (List.mem_of_getElem? (i := 5) rfl) (List.mem_of_getElem? (i := 3) rfl) (List.mem_of_getElem? (i := 4) rfl) (List.mem_of_getElem? (i := 5) rfl) (List.mem_of_getElem? (i := 6) rfl) hl.1 (Nat.le_of_ble_eq_true rfl) (Nat.le_of_ble_eq_true rfl) dX4_copyFrom_81 (fun y5 H locs hf w => ?_)
  have he := Option.some.inj hf
  subst he
  exact ns_vret C w hr hlk rfl rfl dX4_copyFrom_84
