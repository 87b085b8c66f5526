theorem lX3_planBest_59 : Cond.fieldLink RX3 59 (TX6 1).1 (TX6 1).2.1 (TX6 1).2.2.1 ∈ wsX3_planBest := List.mem_of_getElem? (i := 1) rfl
theorem lX3_planBest_68 : Cond.fieldLink RX3 68 (TX0 0).1 (TX0 0).2.1 (TX0 0).2.2.1 ∈ wsX3_planBest := List.mem_of_getElem? (i := 2) rfl
theorem lX3_planBest_162 : Cond.fieldLink RX3 162 (TX3 9).1 (TX3 9).2.1 (TX3 9).2.2.1 ∈ wsX3_planBest := List.mem_of_getElem? (i := 3) rfl
theorem inX3_planBest_0 : ∀ w ∈ u_ws RX0 TX0 6, w ∈ wsX3_planBest := fun _ h => List.mem_cons_of_mem _ (List.mem_append_left _ (List.mem_append_left _ (List.mem_append_left _ (List.mem_append_left _ (List.mem_append_right _ h)))))
theorem inX3_planBest_3 : ∀ w ∈ u_ws RX3 TX3 10, w ∈ wsX3_planBest := fun _ h => List.mem_cons_of_mem _ (List.mem_append_left _ (List.mem_append_left _ (List.mem_append_left _ (List.mem_append_right _ h))))
theorem inX3_planBest_6 : ∀ w ∈ u_ws RX6 TX6 6, w ∈ wsX3_planBest := fun _ h => List.mem_cons_of_mem _ (List.mem_append_left _ (List.mem_append_left _ (List.mem_append_left _ (List.mem_append_left _ (List.mem_append_left _ (List.mem_append_right _ h))))))
theorem hdX3_planBest : yX3_planBest.cls = RX3 ∧ yX3_planBest.cls ≠ "java/lang/invoke/MethodHandle" ∧ yX3_planBest.cls ≠ "java/lang/invoke/VarHandle" ∧ (parseMethodDescriptor yX3_planBest.desc).map (fun d => d.parameters.length) = some 1 := by decide +kernel
abbrev wrX3_planBest_15_28 : List (Nat × Nat) := [(1, 21), (1, 22), (1, 25), (1, 26), (0, 969), (0, 1024), (1, 17), (1, 18), (1, 19), (1, 20), (1, 23), (1, 24), (0, 968), (1, 27)]
abbrev rmX3_planBest_15_28 : Room := { frames := 4, cells := 0, slots := 0, locals := 95 }
set_option maxHeartbeats 4000000 in
set_option maxRecDepth 100000 in
theorem wX3_planBest_15_28_28 {p : Program} {l : Launch} {e : Env} {s : State} {m : MethodId} {args : Array Value} {below : List Frame} {meth : Method} {c : Code} {D : va_G} {b : Nat → Nat} {ids : List Nat} {A : Nat → Prop} {S0 : ns_S} {o : Int32 × (Nat → Int32) × (Nat → Int32) × (Nat → Int32) × (Nat → Int32) × Int32 × Int32 × (Nat → Int32) × (Nat → Int32) × (Nat → Int32) × (Nat → Int32) × (Nat → Int32) × (Nat → Int32) × Int32 × (Nat → Int32)} (N : Nat) (hI : ∀ i, i < 107 → i ∈ ids) (C : ns_C p m c cX3_planBest 7 s args wsX3_planBest RX3 D A) (hr : meth.sig.returnType = some .int) (hlk : meth.locks = false) : ∀ n : Nat, ∀ {S : ns_S} {H : Heap} {locs : List Loc} {ls : Array Slot} {l2 : Int32} {l3 : Int32} {l4 : Int32} {l5 : Int32}, ns_W D b ids A s.heap wrX3_planBest_15_28 S0 S H locs → lv_has ls 7 [(0, .ref (b 15)), (1, .ref (b 28)), (2, .int l2), (3, .int l3), (4, .int l4), (5, .int l5)] → fX3_planBest_28 N n (S.1 1856) (S.2.1 21) (S.2.1 30) (S.1 1984) (S.2.1 22) (S.2.1 35) (S.2.1 25) (S.2.1 32) (S.1 2368) (S.2.1 26) (S.2.1 41) (S.2.1 42) (S.1 969) (S.2.1 34) (S.1 1024) (S.2.1 17) (S.2.1 18) (S.2.1 19) (S.2.1 20) (S.2.1 23) (S.2.1 24) (S.2.1 33) (S.1 968) (S.2.1 27) (S.2.1 40) l2 l3 l4 l5 = some o → W p l e rmX3_planBest_15_28 s m args below meth c H locs 0 0 (MQ below (ns_Q D b ids (ns_A (ns_A (ns_A (ns_A (ns_I (ns_I (ns_A (ns_A (ns_A (ns_A (ns_A (ns_A (ns_I (ns_A S0 27 o.2.2.2.2.2.2.2.2.2.2.2.2.2.2) 968 o.2.2.2.2.2.2.2.2.2.2.2.2.2.1) 24 o.2.2.2.2.2.2.2.2.2.2.2.2.1) 23 o.2.2.2.2.2.2.2.2.2.2.2.1) 20 o.2.2.2.2.2.2.2.2.2.2.1) 19 o.2.2.2.2.2.2.2.2.2.1) 18 o.2.2.2.2.2.2.2.2.1) 17 o.2.2.2.2.2.2.2.1) 1024 o.2.2.2.2.2.2.1) 969 o.2.2.2.2.2.1) 26 o.2.2.2.2.1) 25 o.2.2.2.1) 22 o.2.2.1) 21 o.2.1) (some (.int o.1)) A) args s 0 0 A) (F0 m 28 ls []) := by
  intro n
  induction n with
  | zero =>
    intro S H locs ls l2 l3 l4 l5 w hl hf
    cases hf
  | succ n K28 =>
    intro S H locs ls l2 l3 l4 l5 w hl hf
    change gX3_planBest_28 N (fX3_planBest_28 N n) (S.1 1856) (S.2.1 21) (S.2.1 30) (S.1 1984) (S.2.1 22) (S.2.1 35) (S.2.1 25) (S.2.1 32) (S.1 2368) (S.2.1 26) (S.2.1 41) (S.2.1 42) (S.1 969) (S.2.1 34) (S.1 1024) (S.2.1 17) (S.2.1 18) (S.2.1 19) (S.2.1 20) (S.2.1 23) (S.2.1 24) (S.2.1 33) (S.1 968) (S.2.1 27) (S.2.1 40) l2 l3 l4 l5 = some o at hf
    generalize fX3_planBest_28 N n = r28 at hf K28
    unfold gX3_planBest_28 at hf
    refine lv_iload C.1.1 C.1.2.1 dX3_planBest_28 (lv_at hl 5 rfl) ?_
    refine lv_iload C.1.1 C.1.2.1 dX3_planBest_30 (lv_at hl 4 rfl) ?_
    refine ns_icmp_ge C hf (tgt := 80) dX3_planBest_32 (by decide) (fun hf => ?_) (fun hf => ?_)
    · refine lv_aload_n C.1.1 C.1.2.1 dX3_planBest_80 rfl (lv_at hl 0 rfl) ?_
      refine lv_aload_n C.1.1 C.1.2.1 dX3_planBest_81 rfl (lv_at hl 1 rfl) ?_
      refine lv_iload_n C.1.1 C.1.2.1 dX3_planBest_82 rfl (lv_at hl 2 rfl) ?_
      refine ns_callV C w 15 (hI 15 (by decide)) sh_15 (rfl : vwCl[3]? = some (RX3, TX3, 10)) [.ref (b 28), .int l2] hf (fun u hu => mX3_furnish_15_28 l D b ids hI N _ l2 hu) gX3_planBest_X3_furnish rfl rfl rfl hdX3_furnish ⟨Nat.le_of_ble_eq_true rfl, Nat.le_of_ble_eq_true rfl⟩ (fun u h => (((((((h.A (List.mem_of_getElem? (i := 11) rfl) _).A (List.mem_of_getElem? (i := 10) rfl) _).A (List.mem_of_getElem? (i := 9) rfl) _).A (List.mem_of_getElem? (i := 8) rfl) _).A (List.mem_of_getElem? (i := 7) rfl) _).A (List.mem_of_getElem? (i := 6) rfl) _).I (List.mem_of_getElem? (i := 5) rfl) _)) rfl hl.1 rfl (Nat.le_of_ble_eq_true rfl) ⟨Nat.le_refl _, Nat.le_refl _⟩ dX3_planBest_83 (fun o1 H locs hf w => ?_)
      refine lv_pop C.1.1 C.1.2.1 dX3_planBest_86 rfl ?_
      refine lv_aload_n C.1.1 C.1.2.1 dX3_planBest_87 rfl (lv_at hl 0 rfl) ?_
      refine lv_aload_n C.1.1 C.1.2.1 dX3_planBest_88 rfl (lv_at hl 1 rfl) ?_
      refine ns_callV C w 15 (hI 15 (by decide)) sh_15 (rfl : vwCl[3]? = some (RX3, TX3, 10)) [.ref (b 28)] hf (fun u hu => mX3_placePupils_15_28 l D b ids hI N _ hu) gX3_planBest_X3_placePupils rfl rfl rfl hdX3_placePupils ⟨Nat.le_of_ble_eq_true rfl, Nat.le_of_ble_eq_true rfl⟩ (fun u h => ((((h.A (List.mem_of_getElem? (i := 8) rfl) _).A (List.mem_of_getElem? (i := 9) rfl) _).A (List.mem_of_getElem? (i := 13) rfl) _).I (List.mem_of_getElem? (i := 12) rfl) _)) rfl hl.1 rfl (Nat.le_of_ble_eq_true rfl) ⟨Nat.le_refl _, Nat.le_refl _⟩ dX3_planBest_89 (fun o2 H locs hf w => ?_)
      refine lv_pop C.1.1 C.1.2.1 dX3_planBest_92 rfl ?_
      refine lv_iload_n C.1.1 C.1.2.1 dX3_planBest_93 rfl (lv_at hl 3 rfl) ?_
      have he := Option.some.inj hf
      subst he
      exact ns_iret C w hr hlk rfl rfl dX3_planBest_94
    · refine lv_iload C.1.1 C.1.2.1 dX3_planBest_35 (lv_at hl 5 rfl) ?_
      refine lv_aload_n C.1.1 C.1.2.1 dX3_planBest_37 rfl (lv_at hl 0 rfl) ?_
      refine ns_geti C w 15 (hI 15 (by decide)) sh_15 (rfl : vwCl[3]? = some (RX3, TX3, 10)) inX3_planBest_3 9 (by decide) rfl lX3_planBest_162 (S.1 969) rfl dX3_planBest_38 ?_
      refine lv_iand C.1.1 C.1.2.1 dX3_planBest_41 ?_
      refine ns_if_ne C hf (tgt := 74) dX3_planBest_42 (by decide) (fun hf => ?_) (fun hf => ?_)
      · refine ns_iinc (lv' := fun x3 => [(5, .int x3), (0, .ref (b 15)), (1, .ref (b 28)), (2, .int l2), (3, .int l3), (4, .int l4)]) C hf dX3_planBest_74 hl (k := 5) rfl rfl (by decide) (fun _ => rfl) (fun x3 ls hl hf => ?_)
        refine lv_goto (tgt := 28) C.1.1 C.1.2.1 dX3_planBest_77 (by decide) ?_
        exact K28 w (lv_sub hl [1, 2, 3, 4, 5, 0] rfl) hf
      · refine lv_aload_n C.1.1 C.1.2.1 dX3_planBest_45 rfl (lv_at hl 0 rfl) ?_
        refine lv_aload_n C.1.1 C.1.2.1 dX3_planBest_46 rfl (lv_at hl 1 rfl) ?_
        refine lv_iload C.1.1 C.1.2.1 dX3_planBest_47 (lv_at hl 5 rfl) ?_
        refine ns_callV C w 15 (hI 15 (by decide)) sh_15 (rfl : vwCl[3]? = some (RX3, TX3, 10)) [.ref (b 28), .int l5] hf (fun u hu => mX3_furnish_15_28 l D b ids hI N _ l5 hu) gX3_planBest_X3_furnish rfl rfl rfl hdX3_furnish ⟨Nat.le_of_ble_eq_true rfl, Nat.le_of_ble_eq_true rfl⟩ (fun u h => (((((((h.A (List.mem_of_getElem? (i := 11) rfl) _).A (List.mem_of_getElem? (i := 10) rfl) _).A (List.mem_of_getElem? (i := 9) rfl) _).A (List.mem_of_getElem? (i := 8) rfl) _).A (List.mem_of_getElem? (i := 7) rfl) _).A (List.mem_of_getElem? (i := 6) rfl) _).I (List.mem_of_getElem? (i := 5) rfl) _)) rfl hl.1 rfl (Nat.le_of_ble_eq_true rfl) ⟨Nat.le_refl _, Nat.le_refl _⟩ dX3_planBest_49 (fun o4 H locs hf w => ?_)
        refine ns_if_eq C hf (tgt := 74) dX3_planBest_52 (by decide) (fun hf => ?_) (fun hf => ?_)
        · refine ns_iinc (lv' := fun x5 => [(5, .int x5), (0, .ref (b 15)), (1, .ref (b 28)), (2, .int l2), (3, .int l3), (4, .int l4)]) C hf dX3_planBest_74 hl (k := 5) rfl rfl (by decide) (fun _ => rfl) (fun x5 ls hl hf => ?_)
          refine lv_goto (tgt := 28) C.1.1 C.1.2.1 dX3_planBest_77 (by decide) ?_
          exact K28 w (lv_sub hl [1, 2, 3, 4, 5, 0] rfl) hf
        · refine lv_aload_n C.1.1 C.1.2.1 dX3_planBest_55 rfl (lv_at hl 0 rfl) ?_
          refine lv_aload_n C.1.1 C.1.2.1 dX3_planBest_56 rfl (lv_at hl 1 rfl) ?_
          refine ns_callV C w 15 (hI 15 (by decide)) sh_15 (rfl : vwCl[3]? = some (RX3, TX3, 10)) [.ref (b 28)] hf (fun u hu => mX3_placePupils_15_28 l D b ids hI N _ hu) gX3_planBest_X3_placePupils rfl rfl rfl hdX3_placePupils ⟨Nat.le_of_ble_eq_true rfl, Nat.le_of_ble_eq_true rfl⟩ (fun u h => ((((h.A (List.mem_of_getElem? (i := 8) rfl) _).A (List.mem_of_getElem? (i := 9) rfl) _).A (List.mem_of_getElem? (i := 13) rfl) _).I (List.mem_of_getElem? (i := 12) rfl) _)) rfl hl.1 rfl (Nat.le_of_ble_eq_true rfl) ⟨Nat.le_refl _, Nat.le_refl _⟩ dX3_planBest_57 (fun o6 H locs hf w => ?_)
          refine lv_istore (lv' := [(6, .int o6.1), (0, .ref (b 15)), (1, .ref (b 28)), (2, .int l2), (3, .int l3), (4, .int l4), (5, .int l5)]) C.1.1 C.1.2.1 dX3_planBest_60 hl (by decide) rfl (fun ls hl => ?_)
          refine lv_iload C.1.1 C.1.2.1 dX3_planBest_62 (lv_at hl 0 rfl) ?_
          refine lv_iload_n C.1.1 C.1.2.1 dX3_planBest_64 rfl (lv_at hl 4 rfl) ?_
          refine ns_icmp_le C hf (tgt := 74) dX3_planBest_65 (by decide) (fun hf => ?_) (fun hf => ?_)
          · refine ns_iinc (lv' := fun x7 => [(5, .int x7), (6, .int o6.1), (0, .ref (b 15)), (1, .ref (b 28)), (2, .int l2), (3, .int l3), (4, .int l4)]) C hf dX3_planBest_74 hl (k := 6) rfl rfl (by decide) (fun _ => rfl) (fun x7 ls hl hf => ?_)
            refine lv_goto (tgt := 28) C.1.1 C.1.2.1 dX3_planBest_77 (by decide) ?_
            exact K28 w (lv_sub hl [2, 3, 4, 5, 6, 0] rfl) hf
          · refine lv_iload C.1.1 C.1.2.1 dX3_planBest_68 (lv_at hl 6 rfl) ?_
            refine lv_istore_n (lv' := [(2, .int l5), (6, .int o6.1), (0, .ref (b 15)), (1, .ref (b 28)), (3, .int l3), (4, .int l4), (5, .int l5)]) C.1.1 C.1.2.1 dX3_planBest_70 rfl hl (by decide) rfl (fun ls hl => ?_)
            refine lv_iload C.1.1 C.1.2.1 dX3_planBest_71 (lv_at hl 1 rfl) ?_
            refine lv_istore_n (lv' := [(3, .int o6.1), (2, .int l5), (6, .int o6.1), (0, .ref (b 15)), (1, .ref (b 28)), (4, .int l4), (5, .int l5)]) C.1.1 C.1.2.1 dX3_planBest_73 rfl hl (by decide) rfl (fun ls hl => ?_)
            refine ns_iinc (lv' := fun x8 => [(5, .int x8), (3, .int o6.1), (2, .int l5), (6, .int o6.1), (0, .ref (b 15)), (1, .ref (b 28)), (4, .int l4)]) C hf dX3_planBest_74 hl (k := 6) rfl rfl (by decide) (fun _ => rfl) (fun x8 ls hl hf => ?_)
            refine lv_goto (tgt := 28) C.1.1 C.1.2.1 dX3_planBest_77 (by decide) ?_
            exact K28 w (lv_sub hl [4, 5, 2, 1, 6, 0] rfl) hf
set_option maxHeartbeats 4000000 in
set_option maxRecDepth 100000 in
theorem mX3_planBest_15_28 (l : Launch) (D : va_G) (b : Nat → Nat) (ids : List Nat) (hI : ∀ i, i < 107 → i ∈ ids) (N : Nat) (S : ns_S) {o : Int32 × (Nat → Int32) × (Nat → Int32) × (Nat → Int32) × (Nat → Int32) × Int32 × Int32 × (Nat → Int32) × (Nat → Int32) × (Nat → Int32) × (Nat → Int32) × (Nat → Int32) × (Nat → Int32) × Int32 × (Nat → Int32)} (hf : fX3_planBest N (S.1 1856) (S.2.1 21) (S.2.1 30) (S.1 1984) (S.2.1 22) (S.2.1 35) (S.2.1 25) (S.2.1 32) (S.1 2368) (S.2.1 26) (S.2.1 41) (S.2.1 42) (S.1 969) (S.2.1 34) (S.1 1024) (S.2.1 17) (S.2.1 18) (S.2.1 19) (S.2.1 20) (S.2.1 23) (S.2.1 24) (S.2.1 33) (S.1 968) (S.2.1 27) (S.2.1 40) = some o) : ns_M l yX3_planBest wsX3_planBest rmX3_planBest_15_28 D b ids S [.ref (b 15), .ref (b 28)] (some (.int o.1)) (ns_A (ns_A (ns_A (ns_A (ns_I (ns_I (ns_A (ns_A (ns_A (ns_A (ns_A (ns_A (ns_I (ns_A S 27 o.2.2.2.2.2.2.2.2.2.2.2.2.2.2) 968 o.2.2.2.2.2.2.2.2.2.2.2.2.2.1) 24 o.2.2.2.2.2.2.2.2.2.2.2.2.1) 23 o.2.2.2.2.2.2.2.2.2.2.2.1) 20 o.2.2.2.2.2.2.2.2.2.2.1) 19 o.2.2.2.2.2.2.2.2.2.1) 18 o.2.2.2.2.2.2.2.2.1) 17 o.2.2.2.2.2.2.2.1) 1024 o.2.2.2.2.2.2.1) 969 o.2.2.2.2.2.1) 26 o.2.2.2.2.1) 25 o.2.2.2.1) 22 o.2.2.1) 21 o.2.1) := by
  refine ns_start (Wr := wrX3_planBest_15_28) (by decide) rfl (Nat.le_of_ble_eq_true rfl) ?_
  intro p e s m below meth c A ls C hr hlk w hl
  have hl : lv_has ls 7 [(0, .ref (b 15)), (1, .ref (b 28))] := hl
  unfold fX3_planBest at hf
  refine lv_aload_n C.1.1 C.1.2.1 dX3_planBest_0 rfl (lv_at hl 0 rfl) ?_
  refine lv_aload_n C.1.1 C.1.2.1 dX3_planBest_1 rfl (lv_at hl 1 rfl) ?_
  refine ns_callV C w 15 (hI 15 (by decide)) sh_15 (rfl : vwCl[3]? = some (RX3, TX3, 10)) [.ref (b 28)] hf (fun u hu => mX3_prepare_15_28 l D b ids hI N _ hu) gX3_planBest_X3_prepare rfl rfl rfl hdX3_prepare ⟨Nat.le_of_ble_eq_true rfl, Nat.le_of_ble_eq_true rfl⟩ (fun u h => ((((h.A (List.mem_of_getElem? (i := 3) rfl) _).A (List.mem_of_getElem? (i := 2) rfl) _).A (List.mem_of_getElem? (i := 1) rfl) _).A (List.mem_of_getElem? (i := 0) rfl) _)) rfl hl.1 rfl (Nat.le_of_ble_eq_true rfl) ⟨Nat.le_refl _, Nat.le_refl _⟩ dX3_planBest_2 (fun o1 H locs hf w => ?_)
  refine lv_aload_n C.1.1 C.1.2.1 dX3_planBest_5 rfl (lv_at hl 0 rfl) ?_
  refine lv_aload_n C.1.1 C.1.2.1 dX3_planBest_6 rfl (lv_at hl 1 rfl) ?_
  refine ns_callV C w 15 (hI 15 (by decide)) sh_15 (rfl : vwCl[3]? = some (RX3, TX3, 10)) [.ref (b 28)] hf (fun u hu => mX3_findHopeless_15_28 l D b ids hI N _ hu) gX3_planBest_X3_findHopeless rfl rfl rfl hdX3_findHopeless ⟨Nat.le_of_ble_eq_true rfl, Nat.le_of_ble_eq_true rfl⟩ (fun u h => (h.I (List.mem_of_getElem? (i := 4) rfl) _)) rfl hl.1 rfl (Nat.le_of_ble_eq_true rfl) ⟨Nat.le_refl _, Nat.le_refl _⟩ dX3_planBest_7 (fun o2 H locs hf w => ?_)
  refine lv_iconst (v := 0) C.1.1 C.1.2.1 dX3_planBest_10 (by decide) ?_
  refine lv_istore_n (lv' := [(2, .int 0), (0, .ref (b 15)), (1, .ref (b 28))]) C.1.1 C.1.2.1 dX3_planBest_11 rfl hl (by decide) rfl (fun ls hl => ?_)
  refine lv_iconst (v := 0) C.1.1 C.1.2.1 dX3_planBest_12 (by decide) ?_
  refine lv_istore_n (lv' := [(3, .int 0), (2, .int 0), (0, .ref (b 15)), (1, .ref (b 28))]) C.1.1 C.1.2.1 dX3_planBest_13 rfl hl (by decide) rfl (fun ls hl => ?_)
  refine lv_iconst (v := 1) C.1.1 C.1.2.1 dX3_planBest_14 (by decide) ?_
  refine lv_aload_n C.1.1 C.1.2.1 dX3_planBest_15 rfl (lv_at hl 3 rfl) ?_
  refine ns_getr C w 28 (hI 28 (by decide)) sh_28 (rfl : vwCl[6]? = some (RX6, TX6, 6)) inX3_planBest_6 1 (by decide) rfl lX3_planBest_59 dX3_planBest_16 ?_
  refine ns_geti C w 31 (hI 31 (by decide)) sh_31 (rfl : vwCl[0]? = some (RX0, TX0, 6)) inX3_planBest_0 0 (by decide) rfl lX3_planBest_68 (S.1 1984) rfl dX3_planBest_19 ?_
  refine lv_ishl C.1.1 C.1.2.1 dX3_planBest_22 ?_
  refine ns_namei hf (fun x3 hf => ?_)
  refine lv_istore (lv' := [(4, .int x3), (3, .int 0), (2, .int 0), (0, .ref (b 15)), (1, .ref (b 28))]) C.1.1 C.1.2.1 dX3_planBest_23 hl (by decide) rfl (fun ls hl => ?_)
  refine lv_iconst (v := 1) C.1.1 C.1.2.1 dX3_planBest_25 (by decide) ?_
  refine lv_istore (lv' := [(5, .int 1), (4, .int x3), (3, .int 0), (2, .int 0), (0, .ref (b 15)), (1, .ref (b 28))]) C.1.1 C.1.2.1 dX3_planBest_26 hl (by decide) rfl (fun ls hl => ?_)
  exact wX3_planBest_15_28_28 N hI C hr hlk N w (lv_sub hl [4, 5, 3, 2, 1, 0] rfl) hf
theorem lX7_copyFrom_9 : Cond.fieldLink RX7 9 (TX7 1).1 (TX7 1).2.1 (TX7 1).2.2.1 ∈ wsX7_copyFrom := List.mem_of_getElem? (i := 2) rfl
theorem lX7_copyFrom_15 : Cond.fieldLink RX7 15 (TX7 2).1 (TX7 2).2.1 (TX7 2).2.2.1 ∈ wsX7_copyFrom := List.mem_of_getElem? (i := 7) rfl
theorem lX7_copyFrom_18 : Cond.fieldLink RX7 18 (TX7 3).1 (TX7 3).2.1 (TX7 3).2.2.1 ∈ wsX7_copyFrom := List.mem_of_getElem? (i := 8) rfl
theorem lX7_copyFrom_21 : Cond.fieldLink RX7 21 (TX7 4).1 (TX7 4).2.1 (TX7 4).2.2.1 ∈ wsX7_copyFrom := List.mem_of_getElem? (i := 9) rfl
theorem lX7_copyFrom_30 : Cond.fieldLink RX7 30 (TX7 0).1 (TX7 0).2.1 (TX7 0).2.2.1 ∈ wsX7_copyFrom := List.mem_of_getElem? (i := 1) rfl
theorem inX7_copyFrom_7 : ∀ w ∈ u_ws RX7 TX7 5, w ∈ wsX7_copyFrom := fun _ h => List.mem_cons_of_mem _ (List.mem_append_right _ h)
theorem hdX7_copyFrom : yX7_copyFrom.cls = RX7 ∧ yX7_copyFrom.cls ≠ "java/lang/invoke/MethodHandle" ∧ yX7_copyFrom.cls ≠ "java/lang/invoke/VarHandle" ∧ (parseMethodDescriptor yX7_copyFrom.desc).map (fun d => d.parameters.length) = some 1 := by decide +kernel
abbrev wrX7_copyFrom_43_16 : List (Nat × Nat) := [(0, 2752), (1, 44), (1, 45), (1, 46), (1, 47)]
abbrev rmX7_copyFrom_43_16 : Room := { frames := 1, cells := 0, slots := 0, locals := 40 }
set_option maxHeartbeats 4000000 in
set_option maxRecDepth 100000 in
theorem mX7_copyFrom_43_16 (l : Launch) (D : va_G) (b : Nat → Nat) (ids : List Nat) (hI : ∀ i, i < 107 → i ∈ ids) (N : Nat) (S : ns_S) {o : Int32 × (Nat → Int32) × (Nat → Int32) × (Nat → Int32) × (Nat → Int32)} (hf : fX7_copyFrom N (S.1 1024) (S.1 2752) (S.2.1 17) (S.2.1 44) (S.2.1 18) (S.2.1 45) (S.2.1 19) (S.2.1 46) (S.2.1 20) (S.2.1 47) = some o) : ns_M l yX7_copyFrom wsX7_copyFrom rmX7_copyFrom_43_16 D b ids S [.ref (b 43), .ref (b 16)] none (ns_I (ns_A (ns_A (ns_A (ns_A S 47 o.2.2.2.2) 46 o.2.2.2.1) 45 o.2.2.1) 44 o.2.1) 2752 o.1) := by
  refine ns_start (Wr := wrX7_copyFrom_43_16) (by decide) rfl (Nat.le_of_ble_eq_true rfl) ?_
  intro p e s m below meth c A ls C hr hlk w hl
  have hl : lv_has ls 2 [(0, .ref (b 43)), (1, .ref (b 16))] := hl
  unfold fX7_copyFrom at hf
  refine lv_aload_n C.1.1 C.1.2.1 dX7_copyFrom_0 rfl (lv_at hl 0 rfl) ?_
  refine lv_aload_n C.1.1 C.1.2.1 dX7_copyFrom_1 rfl (lv_at hl 1 rfl) ?_
  refine ns_geti C w 16 (hI 16 (by decide)) sh_16 (rfl : vwCl[7]? = some (RX7, TX7, 5)) inX7_copyFrom_7 0 (by decide) rfl lX7_copyFrom_30 (S.1 1024) rfl dX7_copyFrom_2 ?_
  refine ns_puti C w 43 (hI 43 (by decide)) sh_43 (rfl : vwCl[7]? = some (RX7, TX7, 5)) inX7_copyFrom_7 tyX7_ok nmX7 0 (by decide) rfl lX7_copyFrom_30 rfl rfl rfl (List.mem_of_getElem? (i := 0) rfl) dX7_copyFrom_5 (fun H locs w => ?_)
  refine lv_aload_n C.1.1 C.1.2.1 dX7_copyFrom_8 rfl (lv_at hl 1 rfl) ?_
  refine ns_getr C w 16 (hI 16 (by decide)) sh_16 (rfl : vwCl[7]? = some (RX7, TX7, 5)) inX7_copyFrom_7 1 (by decide) rfl lX7_copyFrom_9 dX7_copyFrom_9 ?_
  refine lv_iconst (v := 0) C.1.1 C.1.2.1 dX7_copyFrom_12 (by decide) ?_
  refine lv_aload_n C.1.1 C.1.2.1 dX7_copyFrom_13 rfl (lv_at hl 0 rfl) ?_
  refine ns_getr C w 43 (hI 43 (by decide)) sh_43 (rfl : vwCl[7]? = some (RX7, TX7, 5)) inX7_copyFrom_7 1 (by decide) rfl lX7_copyFrom_9 dX7_copyFrom_14 ?_
  refine lv_iconst (v := 0) C.1.1 C.1.2.1 dX7_copyFrom_17 (by decide) ?_
  refine lv_bipush (v := 10) C.1.1 C.1.2.1 dX7_copyFrom_18 (by decide) ?_
  refine ns_copy C w 17 44 (hI 17 (by decide)) (hI 44 (by decide)) sh_17 sh_44 hf rfl rfl (List.mem_of_getElem? (i := 1) rfl) (List.mem_of_getElem? (i := 3) rfl) (List.mem_of_getElem? (i := 4) rfl) (List.mem_of_getElem? (i := 5) rfl) (List.mem_of_getElem? (i := 6) rfl) hl.1 (Nat.le_of_ble_eq_true rfl) (Nat.le_of_ble_eq_true rfl) dX7_copyFrom_20 (fun y1 H locs hf w => ?_)
  refine lv_aload_n C.1.1 C.1.2.1 dX7_copyFrom_23 rfl (lv_at hl 1 rfl) ?_
  refine ns_getr C w 16 (hI 16 (by decide)) sh_16 (rfl : vwCl[7]? = some (RX7, TX7, 5)) inX7_copyFrom_7 2 (by decide) rfl lX7_copyFrom_15 dX7_copyFrom_24 ?_
  refine lv_iconst (v := 0) C.1.1 C.1.2.1 dX7_copyFrom_27 (by decide) ?_
  refine lv_aload_n C.1.1 C.1.2.1 dX7_copyFrom_28 rfl (lv_at hl 0 rfl) ?_
  refine ns_getr C w 43 (hI 43 (by decide)) sh_43 (rfl : vwCl[7]? = some (RX7, TX7, 5)) inX7_copyFrom_7 2 (by decide) rfl lX7_copyFrom_15 dX7_copyFrom_29 ?_
  refine lv_iconst (v := 0) C.1.1 C.1.2.1 dX7_copyFrom_32 (by decide) ?_
  refine lv_bipush (v := 10) C.1.1 C.1.2.1 dX7_copyFrom_33 (by decide) ?_
  refine ns_copy C w 18 45 (hI 18 (by decide)) (hI 45 (by decide)) sh_18 sh_45 hf rfl rfl (List.mem_of_getElem? (i := 2) rfl) (List.mem_of_getElem? (i := 3) rfl) (List.mem_of_getElem? (i := 4) rfl) (List.mem_of_getElem? (i := 5) rfl) (List.mem_of_getElem? (i := 6) rfl) hl.1 (Nat.le_of_ble_eq_true rfl) (Nat.le_of_ble_eq_true rfl) dX7_copyFrom_35 (fun y2 H locs hf w => ?_)
  refine lv_aload_n C.1.1 C.1.2.1 dX7_copyFrom_38 rfl (lv_at hl 1 rfl) ?_
  refine ns_getr C w 16 (hI 16 (by decide)) sh_16 (rfl : vwCl[7]? = some (RX7, TX7, 5)) inX7_copyFrom_7 3 (by decide) rfl lX7_copyFrom_18 dX7_copyFrom_39 ?_
  refine lv_iconst (v := 0) C.1.1 C.1.2.1 dX7_copyFrom_42 (by decide) ?_
  refine lv_aload_n C.1.1 C.1.2.1 dX7_copyFrom_43 rfl (lv_at hl 0 rfl) ?_
  refine ns_getr C w 43 (hI 43 (by decide)) sh_43 (rfl : vwCl[7]? = some (RX7, TX7, 5)) inX7_copyFrom_7 3 (by decide) rfl lX7_copyFrom_18 dX7_copyFrom_44 ?_
  refine lv_iconst (v := 0) C.1.1 C.1.2.1 dX7_copyFrom_47 (by decide) ?_
  refine lv_bipush (v := 10) C.1.1 C.1.2.1 dX7_copyFrom_48 (by decide) ?_
  refine ns_copy C w 19 46 (hI 19 (by decide)) (hI 46 (by decide)) sh_19 sh_46 hf rfl rfl (List.mem_of_getElem? (i := 3) rfl) (List.mem_of_getElem? (i := 3) rfl) (List.mem_of_getElem? (i := 4) rfl) (List.mem_of_getElem? (i := 5) rfl) (List.mem_of_getElem? (i := 6) rfl) hl.1 (Nat.le_of_ble_eq_true rfl) (Nat.le_of_ble_eq_true rfl) dX7_copyFrom_50 (fun y3 H locs hf w => ?_)
  refine lv_aload_n C.1.1 C.1.2.1 dX7_copyFrom_53 rfl (lv_at hl 1 rfl) ?_
  refine ns_getr C w 16 (hI 16 (by decide)) sh_16 (rfl : vwCl[7]? = some (RX7, TX7, 5)) inX7_copyFrom_7 4 (by decide) rfl lX7_copyFrom_21 dX7_copyFrom_54 ?_
  refine lv_iconst (v := 0) C.1.1 C.1.2.1 dX7_copyFrom_57 (by decide) ?_
  refine lv_aload_n C.1.1 C.1.2.1 dX7_copyFrom_58 rfl (lv_at hl 0 rfl) ?_
  refine ns_getr C w 43 (hI 43 (by decide)) sh_43 (rfl : vwCl[7]? = some (RX7, TX7, 5)) inX7_copyFrom_7 4 (by decide) rfl lX7_copyFrom_21 dX7_copyFrom_59 ?_
  refine lv_iconst (v := 0) C.1.1 C.1.2.1 dX7_copyFrom_62 (by decide) ?_
  refine lv_bipush (v := 30) C.1.1 C.1.2.1 dX7_copyFrom_63 (by decide) ?_
  refine ns_copy C w 20 47 (hI 20 (by decide)) (hI 47 (by decide)) sh_20 sh_47 hf rfl rfl (List.mem_of_getElem? (i := 4) rfl) (List.mem_of_getElem? (i := 3) rfl) (List.mem_of_getElem? (i := 4) rfl) (List.mem_of_getElem? (i := 5) rfl) (List.mem_of_getElem? (i := 6) rfl) hl.1 (Nat.le_of_ble_eq_true rfl) (Nat.le_of_ble_eq_true rfl) dX7_copyFrom_65 (fun y4 H locs hf w => ?_)
  have he := Option.some.inj hf
  subst he
  exact ns_vret C w hr hlk rfl rfl dX7_copyFrom_68
abbrev wrJ7_fill_53178_49 : List (Nat × Nat) := [(1, 49)]
abbrev rmJ7_fill_53178_49 : Room := { frames := 0, cells := 0, slots := 0, locals := 0 }
set_option maxHeartbeats 4000000 in
set_option maxRecDepth 100000 in
theorem wJ7_fill_53178_49_5 {p : Program} {l : Launch} {e : Env} {s : State} {m : MethodId} {args : Array Value} {below : List Frame} {meth : Method} {c : Code} {D : va_G} {b : Nat → Nat} {ids : List Nat} {A : Nat → Prop} {S0 : ns_S} {o : (Nat → Int32)} (N : Nat) (hI : ∀ i, i < 107 → i ∈ ids) (C : ns_C p m c cJ7_fill_53178 4 s args wsJ7_fill_53178 RJ7 D A) (hr : meth.sig.returnType = none) (hlk : meth.locks = false) : ∀ n : Nat, ∀ {S : ns_S} {H : Heap} {locs : List Loc} {ls : Array Slot} {l1 : Int32} {l2 : Int32} {l3 : Int32}, ns_W D b ids A s.heap wrJ7_fill_53178_49 S0 S H locs → lv_has ls 4 [(0, .ref (b 49)), (1, .int l1), (2, .int l2), (3, .int l3)] → fJ7_fill_53178_5 N 30 n (S.2.1 49) l1 l2 l3 = some o → W p l e rmJ7_fill_53178_49 s m args below meth c H locs 0 0 (MQ below (ns_Q D b ids (ns_A S0 49 o) none A) args s 0 0 A) (F0 m 5 ls []) := by
  intro n
  induction n with
  | zero =>
    intro S H locs ls l1 l2 l3 w hl hf
    cases hf
  | succ n K5 =>
    intro S H locs ls l1 l2 l3 w hl hf
    change gJ7_fill_53178_5 N 30 (fJ7_fill_53178_5 N 30 n) (S.2.1 49) l1 l2 l3 = some o at hf
    generalize fJ7_fill_53178_5 N 30 n = r5 at hf K5
    unfold gJ7_fill_53178_5 at hf
    refine lv_iload_n C.1.1 C.1.2.1 dJ7_fill_53178_5 rfl (lv_at hl 2 rfl) ?_
    refine lv_iload_n C.1.1 C.1.2.1 dJ7_fill_53178_6 rfl (lv_at hl 3 rfl) ?_
    refine ns_icmp_ge C hf (tgt := 20) dJ7_fill_53178_7 (by decide) (fun hf => ?_) (fun hf => ?_)
    · have he := Option.some.inj hf
      subst he
      exact ns_vret C w hr hlk rfl rfl dJ7_fill_53178_20
    · refine lv_aload_n C.1.1 C.1.2.1 dJ7_fill_53178_10 rfl (lv_at hl 0 rfl) ?_
      refine lv_iload_n C.1.1 C.1.2.1 dJ7_fill_53178_11 rfl (lv_at hl 2 rfl) ?_
      refine lv_iload_n C.1.1 C.1.2.1 dJ7_fill_53178_12 rfl (lv_at hl 1 rfl) ?_
      refine ns_iast C w 49 (hI 49 (by decide)) sh_49 hf rfl (List.mem_of_getElem? (i := 0) rfl) dJ7_fill_53178_13 (fun y1 H locs hf w => ?_)
      refine ns_iinc (lv' := fun x2 => [(2, .int x2), (0, .ref (b 49)), (1, .int l1), (3, .int l3)]) C hf dJ7_fill_53178_14 hl (k := 2) rfl rfl (by decide) (fun _ => rfl) (fun x2 ls hl hf => ?_)
      refine lv_goto (tgt := 5) C.1.1 C.1.2.1 dJ7_fill_53178_17 (by decide) ?_
      exact K5 w (lv_sub hl [1, 2, 0, 3] rfl) hf
set_option maxHeartbeats 4000000 in
set_option maxRecDepth 100000 in
theorem mJ7_fill_53178_49 (l : Launch) (D : va_G) (b : Nat → Nat) (ids : List Nat) (hI : ∀ i, i < 107 → i ∈ ids) (N : Nat) (S : ns_S) (p1 : Int32) {o : (Nat → Int32)} (hf : fJ7_fill_53178 N 30 (S.2.1 49) p1 = some o) : ns_M l yJ7_fill_53178 wsJ7_fill_53178 rmJ7_fill_53178_49 D b ids S [.ref (b 49), .int p1] none (ns_A S 49 o) := by
  refine ns_start (Wr := wrJ7_fill_53178_49) (by decide) rfl (Nat.le_of_ble_eq_true rfl) ?_
  intro p e s m below meth c A ls C hr hlk w hl
  have hl : lv_has ls 4 [(0, .ref (b 49)), (1, .int p1)] := hl
  unfold fJ7_fill_53178 at hf
  refine lv_iconst (v := 0) C.1.1 C.1.2.1 dJ7_fill_53178_0 (by decide) ?_
  refine lv_istore_n (lv' := [(2, .int 0), (0, .ref (b 49)), (1, .int p1)]) C.1.1 C.1.2.1 dJ7_fill_53178_1 rfl hl (by decide) rfl (fun ls hl => ?_)
  refine lv_aload_n C.1.1 C.1.2.1 dJ7_fill_53178_2 rfl (lv_at hl 1 rfl) ?_
  refine ns_alen (v := Int32.ofNat 30) C w 49 (hI 49 (by decide)) sh_49 rfl dJ7_fill_53178_3 ?_
  refine ns_namei hf (fun x1 hf => ?_)
  refine lv_istore_n (lv' := [(3, .int x1), (2, .int 0), (0, .ref (b 49)), (1, .int p1)]) C.1.1 C.1.2.1 dJ7_fill_53178_4 rfl hl (by decide) rfl (fun ls hl => ?_)
  exact wJ7_fill_53178_49_5 N hI C hr hlk N w (lv_sub hl [2, 3, 1, 0] rfl) hf
abbrev wrJ7_fill_53178_50 : List (Nat × Nat) := [(1, 50)]
abbrev rmJ7_fill_53178_50 : Room := { frames := 0, cells := 0, slots := 0, locals := 0 }
set_option maxHeartbeats 4000000 in
set_option maxRecDepth 100000 in
theorem wJ7_fill_53178_50_5 {p : Program} {l : Launch} {e : Env} {s : State} {m : MethodId} {args : Array Value} {below : List Frame} {meth : Method} {c : Code} {D : va_G} {b : Nat → Nat} {ids : List Nat} {A : Nat → Prop} {S0 : ns_S} {o : (Nat → Int32)} (N : Nat) (hI : ∀ i, i < 107 → i ∈ ids) (C : ns_C p m c cJ7_fill_53178 4 s args wsJ7_fill_53178 RJ7 D A) (hr : meth.sig.returnType = none) (hlk : meth.locks = false) : ∀ n : Nat, ∀ {S : ns_S} {H : Heap} {locs : List Loc} {ls : Array Slot} {l1 : Int32} {l2 : Int32} {l3 : Int32}, ns_W D b ids A s.heap wrJ7_fill_53178_50 S0 S H locs → lv_has ls 4 [(0, .ref (b 50)), (1, .int l1), (2, .int l2), (3, .int l3)] → fJ7_fill_53178_5 N 10 n (S.2.1 50) l1 l2 l3 = some o → W p l e rmJ7_fill_53178_50 s m args below meth c H locs 0 0 (MQ below (ns_Q D b ids (ns_A S0 50 o) none A) args s 0 0 A) (F0 m 5 ls []) := by
  intro n
  induction n with
  | zero =>
    intro S H locs ls l1 l2 l3 w hl hf
    cases hf
  | succ n K5 =>
    intro S H locs ls l1 l2 l3 w hl hf
    change gJ7_fill_53178_5 N 10 (fJ7_fill_53178_5 N 10 n) (S.2.1 50) l1 l2 l3 = some o at hf
    generalize fJ7_fill_53178_5 N 10 n = r5 at hf K5
    unfold gJ7_fill_53178_5 at hf
    refine lv_iload_n C.1.1 C.1.2.1 dJ7_fill_53178_5 rfl (lv_at hl 2 rfl) ?_
    refine lv_iload_n C.1.1 C.1.2.1 dJ7_fill_53178_6 rfl (lv_at hl 3 rfl) ?_
    refine ns_icmp_ge C hf (tgt := 20) dJ7_fill_53178_7 (by decide) (fun hf => ?_) (fun hf => ?_)
    · have he := Option.some.inj hf
      subst he
      exact ns_vret C w hr hlk rfl rfl dJ7_fill_53178_20
    · refine lv_aload_n C.1.1 C.1.2.1 dJ7_fill_53178_10 rfl (lv_at hl 0 rfl) ?_
      refine lv_iload_n C.1.1 C.1.2.1 dJ7_fill_53178_11 rfl (lv_at hl 2 rfl) ?_
      refine lv_iload_n C.1.1 C.1.2.1 dJ7_fill_53178_12 rfl (lv_at hl 1 rfl) ?_
      refine ns_iast C w 50 (hI 50 (by decide)) sh_50 hf rfl (List.mem_of_getElem? (i := 0) rfl) dJ7_fill_53178_13 (fun y1 H locs hf w => ?_)
      refine ns_iinc (lv' := fun x2 => [(2, .int x2), (0, .ref (b 50)), (1, .int l1), (3, .int l3)]) C hf dJ7_fill_53178_14 hl (k := 2) rfl rfl (by decide) (fun _ => rfl) (fun x2 ls hl hf => ?_)
      refine lv_goto (tgt := 5) C.1.1 C.1.2.1 dJ7_fill_53178_17 (by decide) ?_
      exact K5 w (lv_sub hl [1, 2, 0, 3] rfl) hf
set_option maxHeartbeats 4000000 in
set_option maxRecDepth 100000 in
theorem mJ7_fill_53178_50 (l : Launch) (D : va_G) (b : Nat → Nat) (ids : List Nat) (hI : ∀ i, i < 107 → i ∈ ids) (N : Nat) (S : ns_S) (p1 : Int32) {o : (Nat → Int32)} (hf : fJ7_fill_53178 N 10 (S.2.1 50) p1 = some o) : ns_M l yJ7_fill_53178 wsJ7_fill_53178 rmJ7_fill_53178_50 D b ids S [.ref (b 50), .int p1] none (ns_A S 50 o) := by
  refine ns_start (Wr := wrJ7_fill_53178_50) (by decide) rfl (Nat.le_of_ble_eq_true rfl) ?_
  intro p e s m below meth c A ls C hr hlk w hl
  have hl : lv_has ls 4 [(0, .ref (b 50)), (1, .int p1)] := hl
  unfold fJ7_fill_53178 at hf
  refine lv_iconst (v := 0) C.1.1 C.1.2.1 dJ7_fill_53178_0 (by decide) ?_
  refine lv_istore_n (lv' := [(2, .int 0), (0, .ref (b 50)), (1, .int p1)]) C.1.1 C.1.2.1 dJ7_fill_53178_1 rfl hl (by decide) rfl (fun ls hl => ?_)
  refine lv_aload_n C.1.1 C.1.2.1 dJ7_fill_53178_2 rfl (lv_at hl 1 rfl) ?_
  refine ns_alen (v := Int32.ofNat 10) C w 50 (hI 50 (by decide)) sh_50 rfl dJ7_fill_53178_3 ?_
  refine ns_namei hf (fun x1 hf => ?_)
  refine lv_istore_n (lv' := [(3, .int x1), (2, .int 0), (0, .ref (b 50)), (1, .int p1)]) C.1.1 C.1.2.1 dJ7_fill_53178_4 rfl hl (by decide) rfl (fun ls hl => ?_)
  exact wJ7_fill_53178_50_5 N hI C hr hlk N w (lv_sub hl [2, 3, 1, 0] rfl) hf
abbrev wrJ7_fill_53178_51 : List (Nat × Nat) := [(1, 51)]
abbrev rmJ7_fill_53178_51 : Room := { frames := 0, cells := 0, slots := 0, locals := 0 }
set_option maxHeartbeats 4000000 in
set_option maxRecDepth 100000 in
theorem wJ7_fill_53178_51_5 {p : Program} {l : Launch} {e : Env} {s : State} {m : MethodId} {args : Array Value} {below : List Frame} {meth : Method} {c : Code} {D : va_G} {b : Nat → Nat} {ids : List Nat} {A : Nat → Prop} {S0 : ns_S} {o : (Nat → Int32)} (N : Nat) (hI : ∀ i, i < 107 → i ∈ ids) (C : ns_C p m c cJ7_fill_53178 4 s args wsJ7_fill_53178 RJ7 D A) (hr : meth.sig.returnType = none) (hlk : meth.locks = false) : ∀ n : Nat, ∀ {S : ns_S} {H : Heap} {locs : List Loc} {ls : Array Slot} {l1 : Int32} {l2 : Int32} {l3 : Int32}, ns_W D b ids A s.heap wrJ7_fill_53178_51 S0 S H locs → lv_has ls 4 [(0, .ref (b 51)), (1, .int l1), (2, .int l2), (3, .int l3)] → fJ7_fill_53178_5 N 6 n (S.2.1 51) l1 l2 l3 = some o → W p l e rmJ7_fill_53178_51 s m args below meth c H locs 0 0 (MQ below (ns_Q D b ids (ns_A S0 51 o) none A) args s 0 0 A) (F0 m 5 ls []) := by
  intro n
  induction n with
  | zero =>
    intro S H locs ls l1 l2 l3 w hl hf
    cases hf
  | succ n K5 =>
    intro S H locs ls l1 l2 l3 w hl hf
    change gJ7_fill_53178_5 N 6 (fJ7_fill_53178_5 N 6 n) (S.2.1 51) l1 l2 l3 = some o at hf
    generalize fJ7_fill_53178_5 N 6 n = r5 at hf K5
    unfold gJ7_fill_53178_5 at hf
    refine lv_iload_n C.1.1 C.1.2.1 dJ7_fill_53178_5 rfl (lv_at hl 2 rfl) ?_
    refine lv_iload_n C.1.1 C.1.2.1 dJ7_fill_53178_6 rfl (lv_at hl 3 rfl) ?_
    refine ns_icmp_ge C hf (tgt := 20) dJ7_fill_53178_7 (by decide) (fun hf => ?_) (fun hf => ?_)
    · have he := Option.some.inj hf
      subst he
      exact ns_vret C w hr hlk rfl rfl dJ7_fill_53178_20
    · refine lv_aload_n C.1.1 C.1.2.1 dJ7_fill_53178_10 rfl (lv_at hl 0 rfl) ?_
      refine lv_iload_n C.1.1 C.1.2.1 dJ7_fill_53178_11 rfl (lv_at hl 2 rfl) ?_
      refine lv_iload_n C.1.1 C.1.2.1 dJ7_fill_53178_12 rfl (lv_at hl 1 rfl) ?_
      refine ns_iast C w 51 (hI 51 (by decide)) sh_51 hf rfl (List.mem_of_getElem? (i := 0) rfl) dJ7_fill_53178_13 (fun y1 H locs hf w => ?_)
      refine ns_iinc (lv' := fun x2 => [(2, .int x2), (0, .ref (b 51)), (1, .int l1), (3, .int l3)]) C hf dJ7_fill_53178_14 hl (k := 2) rfl rfl (by decide) (fun _ => rfl) (fun x2 ls hl hf => ?_)
      refine lv_goto (tgt := 5) C.1.1 C.1.2.1 dJ7_fill_53178_17 (by decide) ?_
      exact K5 w (lv_sub hl [1, 2, 0, 3] rfl) hf
set_option maxHeartbeats 4000000 in
set_option maxRecDepth 100000 in
theorem mJ7_fill_53178_51 (l : Launch) (D : va_G) (b : Nat → Nat) (ids : List Nat) (hI : ∀ i, i < 107 → i ∈ ids) (N : Nat) (S : ns_S) (p1 : Int32) {o : (Nat → Int32)} (hf : fJ7_fill_53178 N 6 (S.2.1 51) p1 = some o) : ns_M l yJ7_fill_53178 wsJ7_fill_53178 rmJ7_fill_53178_51 D b ids S [.ref (b 51), .int p1] none (ns_A S 51 o) := by
  refine ns_start (Wr := wrJ7_fill_53178_51) (by decide) rfl (Nat.le_of_ble_eq_true rfl) ?_
  intro p e s m below meth c A ls C hr hlk w hl
  have hl : lv_has ls 4 [(0, .ref (b 51)), (1, .int p1)] := hl
  unfold fJ7_fill_53178 at hf
  refine lv_iconst (v := 0) C.1.1 C.1.2.1 dJ7_fill_53178_0 (by decide) ?_
  refine lv_istore_n (lv' := [(2, .int 0), (0, .ref (b 51)), (1, .int p1)]) C.1.1 C.1.2.1 dJ7_fill_53178_1 rfl hl (by decide) rfl (fun ls hl => ?_)
  refine lv_aload_n C.1.1 C.1.2.1 dJ7_fill_53178_2 rfl (lv_at hl 1 rfl) ?_
  refine ns_alen (v := Int32.ofNat 6) C w 51 (hI 51 (by decide)) sh_51 rfl dJ7_fill_53178_3 ?_
  refine ns_namei hf (fun x1 hf => ?_)
  refine lv_istore_n (lv' := [(3, .int x1), (2, .int 0), (0, .ref (b 51)), (1, .int p1)]) C.1.1 C.1.2.1 dJ7_fill_53178_4 rfl hl (by decide) rfl (fun ls hl => ?_)
  exact wJ7_fill_53178_51_5 N hI C hr hlk N w (lv_sub hl [2, 3, 1, 0] rfl) hf
abbrev wrJ7_fill_53178_52 : List (Nat × Nat) := [(1, 52)]
abbrev rmJ7_fill_53178_52 : Room := { frames := 0, cells := 0, slots := 0, locals := 0 }
set_option maxHeartbeats 4000000 in
set_option maxRecDepth 100000 in
theorem wJ7_fill_53178_52_5 {p : Program} {l : Launch} {e : Env} {s : State} {m : MethodId} {args : Array Value} {below : List Frame} {meth : Method} {c : Code} {D : va_G} {b : Nat → Nat} {ids : List Nat} {A : Nat → Prop} {S0 : ns_S} {o : (Nat → Int32)} (N : Nat) (hI : ∀ i, i < 107 → i ∈ ids) (C : ns_C p m c cJ7_fill_53178 4 s args wsJ7_fill_53178 RJ7 D A) (hr : meth.sig.returnType = none) (hlk : meth.locks = false) : ∀ n : Nat, ∀ {S : ns_S} {H : Heap} {locs : List Loc} {ls : Array Slot} {l1 : Int32} {l2 : Int32} {l3 : Int32}, ns_W D b ids A s.heap wrJ7_fill_53178_52 S0 S H locs → lv_has ls 4 [(0, .ref (b 52)), (1, .int l1), (2, .int l2), (3, .int l3)] → fJ7_fill_53178_5 N 5 n (S.2.1 52) l1 l2 l3 = some o → W p l e rmJ7_fill_53178_52 s m args below meth c H locs 0 0 (MQ below (ns_Q D b ids (ns_A S0 52 o) none A) args s 0 0 A) (F0 m 5 ls []) := by
  intro n
  induction n with
  | zero =>
    intro S H locs ls l1 l2 l3 w hl hf
    cases hf
  | succ n K5 =>
    intro S H locs ls l1 l2 l3 w hl hf
    change gJ7_fill_53178_5 N 5 (fJ7_fill_53178_5 N 5 n) (S.2.1 52) l1 l2 l3 = some o at hf
    generalize fJ7_fill_53178_5 N 5 n = r5 at hf K5
    unfold gJ7_fill_53178_5 at hf
    refine lv_iload_n C.1.1 C.1.2.1 dJ7_fill_53178_5 rfl (lv_at hl 2 rfl) ?_
    refine lv_iload_n C.1.1 C.1.2.1 dJ7_fill_53178_6 rfl (lv_at hl 3 rfl) ?_
    refine ns_icmp_ge C hf (tgt := 20) dJ7_fill_53178_7 (by decide) (fun hf => ?_) (fun hf => ?_)
    · have he := Option.some.inj hf
      subst he
      exact ns_vret C w hr hlk rfl rfl dJ7_fill_53178_20
    · refine lv_aload_n C.1.1 C.1.2.1 dJ7_fill_53178_10 rfl (lv_at hl 0 rfl) ?_
      refine lv_iload_n C.1.1 C.1.2.1 dJ7_fill_53178_11 rfl (lv_at hl 2 rfl) ?_
      refine lv_iload_n C.1.1 C.1.2.1 dJ7_fill_53178_12 rfl (lv_at hl 1 rfl) ?_
      refine ns_iast C w 52 (hI 52 (by decide)) sh_52 hf rfl (List.mem_of_getElem? (i := 0) rfl) dJ7_fill_53178_13 (fun y1 H locs hf w => ?_)
      refine ns_iinc (lv' := fun x2 => [(2, .int x2), (0, .ref (b 52)), (1, .int l1), (3, .int l3)]) C hf dJ7_fill_53178_14 hl (k := 2) rfl rfl (by decide) (fun _ => rfl) (fun x2 ls hl hf => ?_)
      refine lv_goto (tgt := 5) C.1.1 C.1.2.1 dJ7_fill_53178_17 (by decide) ?_
      exact K5 w (lv_sub hl [1, 2, 0, 3] rfl) hf
set_option maxHeartbeats 4000000 in
set_option maxRecDepth 100000 in
theorem mJ7_fill_53178_52 (l : Launch) (D : va_G) (b : Nat → Nat) (ids : List Nat) (hI : ∀ i, i < 107 → i ∈ ids) (N : Nat) (S : ns_S) (p1 : Int32) {o : (Nat → Int32)} (hf : fJ7_fill_53178 N 5 (S.2.1 52) p1 = some o) : ns_M l yJ7_fill_53178 wsJ7_fill_53178 rmJ7_fill_53178_52 D b ids S [.ref (b 52), .int p1] none (ns_A S 52 o) := by
  refine ns_start (Wr := wrJ7_fill_53178_52) (by decide) rfl (Nat.le_of_ble_eq_true rfl) ?_
  intro p e s m below meth c A ls C hr hlk w hl
  have hl : lv_has ls 4 [(0, .ref (b 52)), (1, .int p1)] := hl
  unfold fJ7_fill_53178 at hf
  refine lv_iconst (v := 0) C.1.1 C.1.2.1 dJ7_fill_53178_0 (by decide) ?_
  refine lv_istore_n (lv' := [(2, .int 0), (0, .ref (b 52)), (1, .int p1)]) C.1.1 C.1.2.1 dJ7_fill_53178_1 rfl hl (by decide) rfl (fun ls hl => ?_)
  refine lv_aload_n C.1.1 C.1.2.1 dJ7_fill_53178_2 rfl (lv_at hl 1 rfl) ?_
  refine ns_alen (v := Int32.ofNat 5) C w 52 (hI 52 (by decide)) sh_52 rfl dJ7_fill_53178_3 ?_
  refine ns_namei hf (fun x1 hf => ?_)
  refine lv_istore_n (lv' := [(3, .int x1), (2, .int 0), (0, .ref (b 52)), (1, .int p1)]) C.1.1 C.1.2.1 dJ7_fill_53178_4 rfl hl (by decide) rfl (fun ls hl => ?_)
  exact wJ7_fill_53178_52_5 N hI C hr hlk N w (lv_sub hl [2, 3, 1, 0] rfl) hf
theorem lX8_beginAnew_9 : Cond.fieldLink RX8 9 (TX8 0).1 (TX8 0).2.1 (TX8 0).2.2.1 ∈ wsX8_beginAnew := List.mem_of_getElem? (i := 1) rfl
theorem lX8_beginAnew_15 : Cond.fieldLink RX8 15 (TX8 2).1 (TX8 2).2.1 (TX8 2).2.2.1 ∈ wsX8_beginAnew := List.mem_of_getElem? (i := 3) rfl
theorem lX8_beginAnew_19 : Cond.fieldLink RX8 19 (TX8 3).1 (TX8 3).2.1 (TX8 3).2.2.1 ∈ wsX8_beginAnew := List.mem_of_getElem? (i := 4) rfl
theorem lX8_beginAnew_22 : Cond.fieldLink RX8 22 (TX8 4).1 (TX8 4).2.1 (TX8 4).2.2.1 ∈ wsX8_beginAnew := List.mem_of_getElem? (i := 5) rfl
theorem lX8_beginAnew_25 : Cond.fieldLink RX8 25 (TX8 5).1 (TX8 5).2.1 (TX8 5).2.2.1 ∈ wsX8_beginAnew := List.mem_of_getElem? (i := 6) rfl
theorem lX8_beginAnew_28 : Cond.fieldLink RX8 28 (TX8 1).1 (TX8 1).2.1 (TX8 1).2.2.1 ∈ wsX8_beginAnew := List.mem_of_getElem? (i := 2) rfl
theorem inX8_beginAnew_8 : ∀ w ∈ u_ws RX8 TX8 6, w ∈ wsX8_beginAnew := fun _ h => List.mem_cons_of_mem _ (List.mem_append_right _ h)
theorem hdX8_beginAnew : yX8_beginAnew.cls = RX8 ∧ yX8_beginAnew.cls ≠ "java/lang/invoke/MethodHandle" ∧ yX8_beginAnew.cls ≠ "java/lang/invoke/VarHandle" ∧ (parseMethodDescriptor yX8_beginAnew.desc).map (fun d => d.parameters.length) = some 1 := by decide +kernel
abbrev wrX8_beginAnew_48 : List (Nat × Nat) := [(0, 3072), (0, 3073), (1, 49), (1, 50), (1, 51), (1, 52)]
abbrev rmX8_beginAnew_48 : Room := { frames := 1, cells := 0, slots := 0, locals := 23 }
set_option maxHeartbeats 4000000 in
set_option maxRecDepth 100000 in
theorem mX8_beginAnew_48 (l : Launch) (D : va_G) (b : Nat → Nat) (ids : List Nat) (hI : ∀ i, i < 107 → i ∈ ids) (N : Nat) (S : ns_S) (p1 : Int32) {o : Int32 × Int32 × (Nat → Int32) × (Nat → Int32) × (Nat → Int32) × (Nat → Int32)} (hf : fX8_beginAnew N (S.1 3072) (S.1 3073) (S.2.1 49) (S.2.1 50) (S.2.1 51) (S.2.1 52) p1 = some o) : ns_M l yX8_beginAnew wsX8_beginAnew rmX8_beginAnew_48 D b ids S [.ref (b 48), .int p1] none (ns_I (ns_I (ns_A (ns_A (ns_A (ns_A S 52 o.2.2.2.2.2) 51 o.2.2.2.2.1) 50 o.2.2.2.1) 49 o.2.2.1) 3073 o.2.1) 3072 o.1) := by
  refine ns_start (Wr := wrX8_beginAnew_48) (by decide) rfl (Nat.le_of_ble_eq_true rfl) ?_
  intro p e s m below meth c A ls C hr hlk w hl
  have hl : lv_has ls 2 [(0, .ref (b 48)), (1, .int p1)] := hl
  unfold fX8_beginAnew at hf
  refine lv_aload_n C.1.1 C.1.2.1 dX8_beginAnew_0 rfl (lv_at hl 0 rfl) ?_
  refine lv_iload_n C.1.1 C.1.2.1 dX8_beginAnew_1 rfl (lv_at hl 1 rfl) ?_
  refine ns_puti C w 48 (hI 48 (by decide)) sh_48 (rfl : vwCl[8]? = some (RX8, TX8, 6)) inX8_beginAnew_8 tyX8_ok nmX8 0 (by decide) rfl lX8_beginAnew_9 rfl rfl rfl (List.mem_of_getElem? (i := 0) rfl) dX8_beginAnew_2 (fun H locs w => ?_)
  refine lv_aload_n C.1.1 C.1.2.1 dX8_beginAnew_5 rfl (lv_at hl 0 rfl) ?_
  refine lv_iconst (v := 0) C.1.1 C.1.2.1 dX8_beginAnew_6 (by decide) ?_
  refine ns_puti C w 48 (hI 48 (by decide)) sh_48 (rfl : vwCl[8]? = some (RX8, TX8, 6)) inX8_beginAnew_8 tyX8_ok nmX8 1 (by decide) rfl lX8_beginAnew_28 rfl rfl rfl (List.mem_of_getElem? (i := 1) rfl) dX8_beginAnew_7 (fun H locs w => ?_)
  refine lv_aload_n C.1.1 C.1.2.1 dX8_beginAnew_10 rfl (lv_at hl 0 rfl) ?_
  refine ns_getr C w 48 (hI 48 (by decide)) sh_48 (rfl : vwCl[8]? = some (RX8, TX8, 6)) inX8_beginAnew_8 2 (by decide) rfl lX8_beginAnew_15 dX8_beginAnew_11 ?_
  refine lv_iconst (v := 0) C.1.1 C.1.2.1 dX8_beginAnew_14 (by decide) ?_
  refine ns_callS C w [.ref (b 49), .int 0] hf (fun u hu => mJ7_fill_53178_49 l D b ids hI N _ 0 hu) gX8_beginAnew_J7_fill_53178 rfl rfl rfl hdJ7_fill_53178 ⟨Nat.le_of_ble_eq_true rfl, Nat.le_of_ble_eq_true rfl⟩ (fun u h => (h.A (List.mem_of_getElem? (i := 2) rfl) _)) rfl hl.1 rfl (Nat.le_of_ble_eq_true rfl) ⟨Nat.le_refl _, Nat.le_refl _⟩ dX8_beginAnew_15 (fun o1 H locs hf w => ?_)
  refine lv_aload_n C.1.1 C.1.2.1 dX8_beginAnew_18 rfl (lv_at hl 0 rfl) ?_
  refine ns_getr C w 48 (hI 48 (by decide)) sh_48 (rfl : vwCl[8]? = some (RX8, TX8, 6)) inX8_beginAnew_8 3 (by decide) rfl lX8_beginAnew_19 dX8_beginAnew_19 ?_
  refine lv_iconst (v := 0) C.1.1 C.1.2.1 dX8_beginAnew_22 (by decide) ?_
  refine ns_callS C w [.ref (b 50), .int 0] hf (fun u hu => mJ7_fill_53178_50 l D b ids hI N _ 0 hu) gX8_beginAnew_J7_fill_53178 rfl rfl rfl hdJ7_fill_53178 ⟨Nat.le_of_ble_eq_true rfl, Nat.le_of_ble_eq_true rfl⟩ (fun u h => (h.A (List.mem_of_getElem? (i := 3) rfl) _)) rfl hl.1 rfl (Nat.le_of_ble_eq_true rfl) ⟨Nat.le_refl _, Nat.le_refl _⟩ dX8_beginAnew_23 (fun o2 H locs hf w => ?_)
  refine lv_aload_n C.1.1 C.1.2.1 dX8_beginAnew_26 rfl (lv_at hl 0 rfl) ?_
  refine ns_getr C w 48 (hI 48 (by decide)) sh_48 (rfl : vwCl[8]? = some (RX8, TX8, 6)) inX8_beginAnew_8 4 (by decide) rfl lX8_beginAnew_22 dX8_beginAnew_27 ?_
  refine lv_iconst (v := 0) C.1.1 C.1.2.1 dX8_beginAnew_30 (by decide) ?_
  refine ns_callS C w [.ref (b 51), .int 0] hf (fun u hu => mJ7_fill_53178_51 l D b ids hI N _ 0 hu) gX8_beginAnew_J7_fill_53178 rfl rfl rfl hdJ7_fill_53178 ⟨Nat.le_of_ble_eq_true rfl, Nat.le_of_ble_eq_true rfl⟩ (fun u h => (h.A (List.mem_of_getElem? (i := 4) rfl) _)) rfl hl.1 rfl (Nat.le_of_ble_eq_true rfl) ⟨Nat.le_refl _, Nat.le_refl _⟩ dX8_beginAnew_31 (fun o3 H locs hf w => ?_)
  refine lv_aload_n C.1.1 C.1.2.1 dX8_beginAnew_34 rfl (lv_at hl 0 rfl) ?_
  refine ns_getr C w 48 (hI 48 (by decide)) sh_48 (rfl : vwCl[8]? = some (RX8, TX8, 6)) inX8_beginAnew_8 5 (by decide) rfl lX8_beginAnew_25 dX8_beginAnew_35 ?_
  refine lv_iconst (v := 0) C.1.1 C.1.2.1 dX8_beginAnew_38 (by decide) ?_
  refine ns_callS C w [.ref (b 52), .int 0] hf (fun u hu => mJ7_fill_53178_52 l D b ids hI N _ 0 hu) gX8_beginAnew_J7_fill_53178 rfl rfl rfl hdJ7_fill_53178 ⟨Nat.le_of_ble_eq_true rfl, Nat.le_of_ble_eq_true rfl⟩ (fun u h => (h.A (List.mem_of_getElem? (i := 5) rfl) _)) rfl hl.1 rfl (Nat.le_of_ble_eq_true rfl) ⟨Nat.le_refl _, Nat.le_refl _⟩ dX8_beginAnew_39 (fun o4 H locs hf w => ?_)
  have he := Option.some.inj hf
  subst he
  exact ns_vret C w hr hlk rfl rfl dX8_beginAnew_42
theorem lX10_open_23 : Cond.fieldLink RX10 23 (TX10 3).1 (TX10 3).2.1 (TX10 3).2.2.1 ∈ wsX10_open := List.mem_of_getElem? (i := 3) rfl
theorem lX10_open_30 : Cond.fieldLink RX10 30 (TX10 4).1 (TX10 4).2.1 (TX10 4).2.2.1 ∈ wsX10_open := List.mem_of_getElem? (i := 1) rfl
theorem lX10_open_76 : Cond.fieldLink RX10 76 (TX6 4).1 (TX6 4).2.1 (TX6 4).2.2.1 ∈ wsX10_open := List.mem_of_getElem? (i := 2) rfl
theorem lX10_open_165 : Cond.fieldLink RX10 165 (TX6 3).1 (TX6 3).2.1 (TX6 3).2.2.1 ∈ wsX10_open := List.mem_of_getElem? (i := 4) rfl
theorem lX10_open_169 : Cond.fieldLink RX10 169 (TX3 0).1 (TX3 0).2.1 (TX3 0).2.2.1 ∈ wsX10_open := List.mem_of_getElem? (i := 5) rfl
theorem inX10_open_3 : ∀ w ∈ u_ws RX3 TX3 10, w ∈ wsX10_open := fun _ h => List.mem_cons_of_mem _ (List.mem_append_left _ (List.mem_append_left _ (List.mem_append_left _ (List.mem_append_left _ (List.mem_append_left _ (List.mem_append_right _ h))))))
theorem inX10_open_6 : ∀ w ∈ u_ws RX6 TX6 6, w ∈ wsX10_open := fun _ h => List.mem_cons_of_mem _ (List.mem_append_left _ (List.mem_append_left _ (List.mem_append_left _ (List.mem_append_left _ (List.mem_append_left _ (List.mem_append_left _ (List.mem_append_right _ h)))))))
theorem inX10_open_10 : ∀ w ∈ u_ws RX10 TX10 6, w ∈ wsX10_open := fun _ h => List.mem_cons_of_mem _ (List.mem_append_left _ (List.mem_append_left _ (List.mem_append_left _ (List.mem_append_left _ (List.mem_append_left _ (List.mem_append_left _ (List.mem_append_left _ (List.mem_append_right _ h))))))))
theorem hdX10_open : yX10_open.cls = RX10 ∧ yX10_open.cls ≠ "java/lang/invoke/MethodHandle" ∧ yX10_open.cls ≠ "java/lang/invoke/VarHandle" ∧ (parseMethodDescriptor yX10_open.desc).map (fun d => d.parameters.length) = some 0 := by decide +kernel
abbrev wrX10_open_0 : List (Nat × Nat) := [(1, 21), (1, 22), (1, 25), (1, 26), (0, 969), (0, 1024), (1, 17), (1, 18), (1, 19), (1, 20), (1, 23), (1, 24), (0, 968), (1, 27), (0, 2752), (1, 44), (1, 45), (1, 46), (1, 47), (0, 3072), (0, 3073), (1, 49), (1, 50), (1, 51), (1, 52)]
abbrev rmX10_open_0 : Room := { frames := 5, cells := 0, slots := 0, locals := 121 }
set_option maxHeartbeats 4000000 in
set_option maxRecDepth 100000 in
theorem mX10_open_0 (l : Launch) (D : va_G) (b : Nat → Nat) (ids : List Nat) (hI : ∀ i, i < 107 → i ∈ ids) (N : Nat) (S : ns_S) {o : Int32 × (Nat → Int32) × (Nat → Int32) × (Nat → Int32) × (Nat → Int32) × Int32 × Int32 × (Nat → Int32) × (Nat → Int32) × (Nat → Int32) × (Nat → Int32) × (Nat → Int32) × (Nat → Int32) × Int32 × (Nat → Int32) × Int32 × (Nat → Int32) × (Nat → Int32) × (Nat → Int32) × (Nat → Int32) × Int32 × Int32 × (Nat → Int32) × (Nat → Int32) × (Nat → Int32) × (Nat → Int32)} (hf : fX10_open N (S.1 3072) (S.1 1856) (S.2.1 21) (S.2.1 30) (S.1 1984) (S.2.1 22) (S.2.1 35) (S.2.1 25) (S.2.1 32) (S.1 2368) (S.2.1 26) (S.2.1 41) (S.2.1 42) (S.1 969) (S.2.1 34) (S.1 1024) (S.2.1 17) (S.2.1 18) (S.2.1 19) (S.2.1 20) (S.2.1 23) (S.2.1 24) (S.2.1 33) (S.1 968) (S.2.1 27) (S.2.1 40) (S.1 2752) (S.2.1 44) (S.2.1 45) (S.2.1 46) (S.2.1 47) (S.1 3073) (S.2.1 49) (S.2.1 50) (S.2.1 51) (S.2.1 52) = some o) : ns_M l yX10_open wsX10_open rmX10_open_0 D b ids S [.ref (b 0)] (some (.int o.1)) (ns_A (ns_A (ns_A (ns_A (ns_I (ns_I (ns_A (ns_A (ns_A (ns_A (ns_A (ns_A (ns_I (ns_A (ns_I (ns_A (ns_A (ns_A (ns_A (ns_I (ns_I (ns_A (ns_A (ns_A (ns_A S 52 o.2.2.2.2.2.2.2.2.2.2.2.2.2.2.2.2.2.2.2.2.2.2.2.2.2) 51 o.2.2.2.2.2.2.2.2.2.2.2.2.2.2.2.2.2.2.2.2.2.2.2.2.1) 50 o.2.2.2.2.2.2.2.2.2.2.2.2.2.2.2.2.2.2.2.2.2.2.2.1) 49 o.2.2.2.2.2.2.2.2.2.2.2.2.2.2.2.2.2.2.2.2.2.2.1) 3073 o.2.2.2.2.2.2.2.2.2.2.2.2.2.2.2.2.2.2.2.2.2.1) 3072 o.2.2.2.2.2.2.2.2.2.2.2.2.2.2.2.2.2.2.2.2.1) 47 o.2.2.2.2.2.2.2.2.2.2.2.2.2.2.2.2.2.2.2.1) 46 o.2.2.2.2.2.2.2.2.2.2.2.2.2.2.2.2.2.2.1) 45 o.2.2.2.2.2.2.2.2.2.2.2.2.2.2.2.2.2.1) 44 o.2.2.2.2.2.2.2.2.2.2.2.2.2.2.2.2.1) 2752 o.2.2.2.2.2.2.2.2.2.2.2.2.2.2.2.1) 27 o.2.2.2.2.2.2.2.2.2.2.2.2.2.2.1) 968 o.2.2.2.2.2.2.2.2.2.2.2.2.2.1) 24 o.2.2.2.2.2.2.2.2.2.2.2.2.1) 23 o.2.2.2.2.2.2.2.2.2.2.2.1) 20 o.2.2.2.2.2.2.2.2.2.2.1) 19 o.2.2.2.2.2.2.2.2.2.1) 18 o.2.2.2.2.2.2.2.2.1) 17 o.2.2.2.2.2.2.2.1) 1024 o.2.2.2.2.2.2.1) 969 o.2.2.2.2.2.1) 26 o.2.2.2.2.1) 25 o.2.2.2.1) 22 o.2.2.1) 21 o.2.1) := by
  refine ns_start (Wr := wrX10_open_0) (by decide) rfl (Nat.le_of_ble_eq_true rfl) ?_
  intro p e s m below meth c A ls C hr hlk w hl
  have hl : lv_has ls 2 [(0, .ref (b 0))] := hl
  unfold fX10_open at hf
  refine lv_aload_n C.1.1 C.1.2.1 dX10_open_0 rfl (lv_at hl 0 rfl) ?_
  refine ns_getr C w 0 (hI 0 (by decide)) sh_0 (rfl : vwCl[10]? = some (RX10, TX10, 6)) inX10_open_10 4 (by decide) rfl lX10_open_30 dX10_open_1 ?_
  refine ns_getr C w 28 (hI 28 (by decide)) sh_28 (rfl : vwCl[6]? = some (RX6, TX6, 6)) inX10_open_6 4 (by decide) rfl lX10_open_76 dX10_open_4 ?_
  refine ns_callV C w 48 (hI 48 (by decide)) sh_48 (rfl : vwCl[8]? = some (RX8, TX8, 6)) [] hf (fun u hu => mX8_isOn_48 l D b ids hI N _ hu) gX10_open_X8_isOn rfl rfl rfl hdX8_isOn ⟨Nat.le_of_ble_eq_true rfl, Nat.le_of_ble_eq_true rfl⟩ (fun u h => h) rfl hl.1 rfl (Nat.le_of_ble_eq_true rfl) ⟨Nat.le_refl _, Nat.le_refl _⟩ dX10_open_7 (fun o1 H locs hf w => ?_)
  refine ns_if_eq C hf (tgt := 15) dX10_open_10 (by decide) (fun hf => ?_) (fun hf => ?_)
  · refine lv_aload_n C.1.1 C.1.2.1 dX10_open_15 rfl (lv_at hl 0 rfl) ?_
    refine ns_getr C w 0 (hI 0 (by decide)) sh_0 (rfl : vwCl[10]? = some (RX10, TX10, 6)) inX10_open_10 3 (by decide) rfl lX10_open_23 dX10_open_16 ?_
    refine lv_aload_n C.1.1 C.1.2.1 dX10_open_19 rfl (lv_at hl 0 rfl) ?_
    refine ns_getr C w 0 (hI 0 (by decide)) sh_0 (rfl : vwCl[10]? = some (RX10, TX10, 6)) inX10_open_10 4 (by decide) rfl lX10_open_30 dX10_open_20 ?_
    refine ns_callV C w 15 (hI 15 (by decide)) sh_15 (rfl : vwCl[3]? = some (RX3, TX3, 10)) [.ref (b 28)] hf (fun u hu => mX3_planBest_15_28 l D b ids hI N _ hu) gX10_open_X3_planBest rfl rfl rfl hdX3_planBest ⟨Nat.le_of_ble_eq_true rfl, Nat.le_of_ble_eq_true rfl⟩ (fun u h => ((((((((((((((h.A (List.mem_of_getElem? (i := 13) rfl) _).I (List.mem_of_getElem? (i := 12) rfl) _).A (List.mem_of_getElem? (i := 11) rfl) _).A (List.mem_of_getElem? (i := 10) rfl) _).A (List.mem_of_getElem? (i := 9) rfl) _).A (List.mem_of_getElem? (i := 8) rfl) _).A (List.mem_of_getElem? (i := 7) rfl) _).A (List.mem_of_getElem? (i := 6) rfl) _).I (List.mem_of_getElem? (i := 5) rfl) _).I (List.mem_of_getElem? (i := 4) rfl) _).A (List.mem_of_getElem? (i := 3) rfl) _).A (List.mem_of_getElem? (i := 2) rfl) _).A (List.mem_of_getElem? (i := 1) rfl) _).A (List.mem_of_getElem? (i := 0) rfl) _)) rfl hl.1 rfl (Nat.le_of_ble_eq_true rfl) ⟨Nat.le_refl _, Nat.le_refl _⟩ dX10_open_23 (fun o2 H locs hf w => ?_)
    refine lv_istore_n (lv' := [(1, .int o2.1), (0, .ref (b 0))]) C.1.1 C.1.2.1 dX10_open_26 rfl hl (by decide) rfl (fun ls hl => ?_)
    refine lv_aload_n C.1.1 C.1.2.1 dX10_open_27 rfl (lv_at hl 1 rfl) ?_
    refine ns_getr C w 0 (hI 0 (by decide)) sh_0 (rfl : vwCl[10]? = some (RX10, TX10, 6)) inX10_open_10 4 (by decide) rfl lX10_open_30 dX10_open_28 ?_
    refine ns_getr C w 28 (hI 28 (by decide)) sh_28 (rfl : vwCl[6]? = some (RX6, TX6, 6)) inX10_open_6 3 (by decide) rfl lX10_open_165 dX10_open_31 ?_
    refine lv_aload_n C.1.1 C.1.2.1 dX10_open_34 rfl (lv_at hl 1 rfl) ?_
    refine ns_getr C w 0 (hI 0 (by decide)) sh_0 (rfl : vwCl[10]? = some (RX10, TX10, 6)) inX10_open_10 3 (by decide) rfl lX10_open_23 dX10_open_35 ?_
    refine ns_getr C w 15 (hI 15 (by decide)) sh_15 (rfl : vwCl[3]? = some (RX3, TX3, 10)) inX10_open_3 0 (by decide) rfl lX10_open_169 dX10_open_38 ?_
    refine ns_callV C w 43 (hI 43 (by decide)) sh_43 (rfl : vwCl[7]? = some (RX7, TX7, 5)) [.ref (b 16)] hf (fun u hu => mX7_copyFrom_43_16 l D b ids hI N _ hu) gX10_open_X7_copyFrom rfl rfl rfl hdX7_copyFrom ⟨Nat.le_of_ble_eq_true rfl, Nat.le_of_ble_eq_true rfl⟩ (fun u h => (((((h.A (List.mem_of_getElem? (i := 18) rfl) _).A (List.mem_of_getElem? (i := 17) rfl) _).A (List.mem_of_getElem? (i := 16) rfl) _).A (List.mem_of_getElem? (i := 15) rfl) _).I (List.mem_of_getElem? (i := 14) rfl) _)) rfl hl.1 rfl (Nat.le_of_ble_eq_true rfl) ⟨Nat.le_refl _, Nat.le_refl _⟩ dX10_open_41 (fun o3 H locs hf w => ?_)
    refine lv_aload_n C.1.1 C.1.2.1 dX10_open_44 rfl (lv_at hl 1 rfl) ?_
    refine ns_getr C w 0 (hI 0 (by decide)) sh_0 (rfl : vwCl[10]? = some (RX10, TX10, 6)) inX10_open_10 4 (by decide) rfl lX10_open_30 dX10_open_45 ?_
    refine ns_getr C w 28 (hI 28 (by decide)) sh_28 (rfl : vwCl[6]? = some (RX6, TX6, 6)) inX10_open_6 4 (by decide) rfl lX10_open_76 dX10_open_48 ?_
    refine lv_iconst (v := 0) C.1.1 C.1.2.1 dX10_open_51 (by decide) ?_
    refine ns_callV C w 48 (hI 48 (by decide)) sh_48 (rfl : vwCl[8]? = some (RX8, TX8, 6)) [.int 0] hf (fun u hu => mX8_beginAnew_48 l D b ids hI N _ 0 hu) gX10_open_X8_beginAnew rfl rfl rfl hdX8_beginAnew ⟨Nat.le_of_ble_eq_true rfl, Nat.le_of_ble_eq_true rfl⟩ (fun u h => ((((((h.A (List.mem_of_getElem? (i := 24) rfl) _).A (List.mem_of_getElem? (i := 23) rfl) _).A (List.mem_of_getElem? (i := 22) rfl) _).A (List.mem_of_getElem? (i := 21) rfl) _).I (List.mem_of_getElem? (i := 20) rfl) _).I (List.mem_of_getElem? (i := 19) rfl) _)) rfl hl.1 rfl (Nat.le_of_ble_eq_true rfl) ⟨Nat.le_refl _, Nat.le_refl _⟩ dX10_open_52 (fun o4 H locs hf w => ?_)
    refine lv_aload_n C.1.1 C.1.2.1 dX10_open_55 rfl (lv_at hl 1 rfl) ?_
    refine ns_getr C w 0 (hI 0 (by decide)) sh_0 (rfl : vwCl[10]? = some (RX10, TX10, 6)) inX10_open_10 4 (by decide) rfl lX10_open_30 dX10_open_56 ?_
    refine ns_callV C w 28 (hI 28 (by decide)) sh_28 (rfl : vwCl[6]? = some (RX6, TX6, 6)) [] hf (fun u hu => mX6_moveUp_28 l D b ids hI N _ hu) gX10_open_X6_moveUp rfl rfl rfl hdX6_moveUp ⟨Nat.le_of_ble_eq_true rfl, Nat.le_of_ble_eq_true rfl⟩ (fun u h => ((((h.I (List.mem_of_getElem? (i := 20) rfl) _).A (List.mem_of_getElem? (i := 21) rfl) _).A (List.mem_of_getElem? (i := 17) rfl) _).A (List.mem_of_getElem? (i := 18) rfl) _)) rfl hl.1 rfl (Nat.le_of_ble_eq_true rfl) ⟨Nat.le_refl _, Nat.le_refl _⟩ dX10_open_59 (fun o5 H locs hf w => ?_)
    refine lv_iload_n C.1.1 C.1.2.1 dX10_open_62 rfl (lv_at hl 0 rfl) ?_
    have he := Option.some.inj hf
    subst he
    exact ns_iret C w hr hlk rfl rfl dX10_open_63
  · refine lv_iconst (v := (-1)) C.1.1 C.1.2.1 dX10_open_13 (by decide) ?_
    have he := Option.some.inj hf
    subst he
    exact ns_iret C w hr hlk rfl rfl dX10_open_14
theorem lX11_begins_66 : Cond.fieldLink RX11 66 (TX11 20).1 (TX11 20).2.1 (TX11 20).2.2.1 ∈ wsX11_begins := List.mem_of_getElem? (i := 1) rfl
theorem lX11_begins_69 : Cond.fieldLink RX11 69 (TX11 21).1 (TX11 21).2.1 (TX11 21).2.2.1 ∈ wsX11_begins := List.mem_of_getElem? (i := 2) rfl
theorem lX11_begins_72 : Cond.fieldLink RX11 72 (TX11 22).1 (TX11 22).2.1 (TX11 22).2.2.1 ∈ wsX11_begins := List.mem_of_getElem? (i := 3) rfl
theorem lX11_begins_75 : Cond.fieldLink RX11 75 (TX11 23).1 (TX11 23).2.1 (TX11 23).2.2.1 ∈ wsX11_begins := List.mem_of_getElem? (i := 4) rfl
theorem lX11_begins_78 : Cond.fieldLink RX11 78 (TX11 24).1 (TX11 24).2.1 (TX11 24).2.2.1 ∈ wsX11_begins := List.mem_of_getElem? (i := 5) rfl
theorem lX11_begins_81 : Cond.fieldLink RX11 81 (TX11 25).1 (TX11 25).2.1 (TX11 25).2.2.1 ∈ wsX11_begins := List.mem_of_getElem? (i := 6) rfl
theorem lX11_begins_84 : Cond.fieldLink RX11 84 (TX11 26).1 (TX11 26).2.1 (TX11 26).2.2.1 ∈ wsX11_begins := List.mem_of_getElem? (i := 7) rfl
theorem inX11_begins_11 : ∀ w ∈ u_ws RX11 TX11 59, w ∈ wsX11_begins := fun _ h => List.mem_cons_of_mem _ (List.mem_append_right _ h)
theorem hdX11_begins : yX11_begins.cls = RX11 ∧ yX11_begins.cls ≠ "java/lang/invoke/MethodHandle" ∧ yX11_begins.cls ≠ "java/lang/invoke/VarHandle" ∧ (parseMethodDescriptor yX11_begins.desc).map (fun d => d.parameters.length) = some 0 := by decide +kernel
abbrev wrX11_begins_62 : List (Nat × Nat) := [(1, 81), (1, 82), (1, 83), (1, 84), (1, 85), (1, 86), (1, 87)]
abbrev rmX11_begins_62 : Room := { frames := 0, cells := 0, slots := 0, locals := 0 }
set_option maxHeartbeats 4000000 in
set_option maxRecDepth 100000 in
theorem wX11_begins_62_86 {p : Program} {l : Launch} {e : Env} {s : State} {m : MethodId} {args : Array Value} {below : List Frame} {meth : Method} {c : Code} {D : va_G} {b : Nat → Nat} {ids : List Nat} {A : Nat → Prop} {S0 : ns_S} {o : (Nat → Int32) × (Nat → Int32) × (Nat → Int32) × (Nat → Int32) × (Nat → Int32) × (Nat → Int32) × (Nat → Int32)} (N : Nat) (hI : ∀ i, i < 107 → i ∈ ids) (C : ns_C p m c cX11_begins 2 s args wsX11_begins RX11 D A) (hr : meth.sig.returnType = none) (hlk : meth.locks = false) : ∀ n : Nat, ∀ {S : ns_S} {H : Heap} {locs : List Loc} {ls : Array Slot} {l1 : Int32}, ns_W D b ids A s.heap wrX11_begins_62 S0 S H locs → lv_has ls 2 [(0, .ref (b 62)), (1, .int l1)] → fX11_begins_86 N n (S.2.1 81) (S.2.1 82) (S.2.1 83) (S.2.1 84) (S.2.1 85) (S.2.1 86) (S.2.1 87) l1 = some o → W p l e rmX11_begins_62 s m args below meth c H locs 0 0 (MQ below (ns_Q D b ids (ns_A (ns_A (ns_A (ns_A (ns_A (ns_A (ns_A S0 87 o.2.2.2.2.2.2) 86 o.2.2.2.2.2.1) 85 o.2.2.2.2.1) 84 o.2.2.2.1) 83 o.2.2.1) 82 o.2.1) 81 o.1) none A) args s 0 0 A) (F0 m 86 ls []) := by
  intro n
  induction n with
  | zero =>
    intro S H locs ls l1 w hl hf
    cases hf
  | succ n K86 =>
    intro S H locs ls l1 w hl hf
    change gX11_begins_86 N (fX11_begins_86 N n) (S.2.1 81) (S.2.1 82) (S.2.1 83) (S.2.1 84) (S.2.1 85) (S.2.1 86) (S.2.1 87) l1 = some o at hf
    generalize fX11_begins_86 N n = r86 at hf K86
    unfold gX11_begins_86 at hf
    refine lv_iload_n C.1.1 C.1.2.1 dX11_begins_86 rfl (lv_at hl 1 rfl) ?_
    refine lv_iconst (v := 5) C.1.1 C.1.2.1 dX11_begins_87 (by decide) ?_
    refine ns_icmp_ge C hf (tgt := 104) dX11_begins_88 (by decide) (fun hf => ?_) (fun hf => ?_)
    · have he := Option.some.inj hf
      subst he
      exact ns_vret C w hr hlk rfl rfl dX11_begins_104
    · refine lv_aload_n C.1.1 C.1.2.1 dX11_begins_91 rfl (lv_at hl 0 rfl) ?_
      refine ns_getr C w 62 (hI 62 (by decide)) sh_62 (rfl : vwCl[11]? = some (RX11, TX11, 59)) inX11_begins_11 26 (by decide) rfl lX11_begins_84 dX11_begins_92 ?_
      refine lv_iload_n C.1.1 C.1.2.1 dX11_begins_95 rfl (lv_at hl 1 rfl) ?_
      refine lv_iconst (v := 0) C.1.1 C.1.2.1 dX11_begins_96 (by decide) ?_
      refine ns_iast C w 87 (hI 87 (by decide)) sh_87 hf rfl (List.mem_of_getElem? (i := 6) rfl) dX11_begins_97 (fun y1 H locs hf w => ?_)
      refine ns_iinc (lv' := fun x2 => [(1, .int x2), (0, .ref (b 62))]) C hf dX11_begins_98 hl (k := 1) rfl rfl (by decide) (fun _ => rfl) (fun x2 ls hl hf => ?_)
      refine lv_goto (tgt := 86) C.1.1 C.1.2.1 dX11_begins_101 (by decide) ?_
      exact K86 w (lv_sub hl [1, 0] rfl) hf
set_option maxHeartbeats 4000000 in
set_option maxRecDepth 100000 in
theorem wX11_begins_62_65 {p : Program} {l : Launch} {e : Env} {s : State} {m : MethodId} {args : Array Value} {below : List Frame} {meth : Method} {c : Code} {D : va_G} {b : Nat → Nat} {ids : List Nat} {A : Nat → Prop} {S0 : ns_S} {o : (Nat → Int32) × (Nat → Int32) × (Nat → Int32) × (Nat → Int32) × (Nat → Int32) × (Nat → Int32) × (Nat → Int32)} (N : Nat) (hI : ∀ i, i < 107 → i ∈ ids) (C : ns_C p m c cX11_begins 2 s args wsX11_begins RX11 D A) (hr : meth.sig.returnType = none) (hlk : meth.locks = false) : ∀ n : Nat, ∀ {S : ns_S} {H : Heap} {locs : List Loc} {ls : Array Slot} {l1 : Int32}, ns_W D b ids A s.heap wrX11_begins_62 S0 S H locs → lv_has ls 2 [(0, .ref (b 62)), (1, .int l1)] → fX11_begins_65 N n (S.2.1 81) (S.2.1 82) (S.2.1 83) (S.2.1 84) (S.2.1 85) (S.2.1 86) (S.2.1 87) l1 = some o → W p l e rmX11_begins_62 s m args below meth c H locs 0 0 (MQ below (ns_Q D b ids (ns_A (ns_A (ns_A (ns_A (ns_A (ns_A (ns_A S0 87 o.2.2.2.2.2.2) 86 o.2.2.2.2.2.1) 85 o.2.2.2.2.1) 84 o.2.2.2.1) 83 o.2.2.1) 82 o.2.1) 81 o.1) none A) args s 0 0 A) (F0 m 65 ls []) := by
  intro n
  induction n with
  | zero =>
    intro S H locs ls l1 w hl hf
    cases hf
  | succ n K65 =>
    intro S H locs ls l1 w hl hf
    change gX11_begins_65 N (fX11_begins_65 N n) (S.2.1 81) (S.2.1 82) (S.2.1 83) (S.2.1 84) (S.2.1 85) (S.2.1 86) (S.2.1 87) l1 = some o at hf
    generalize fX11_begins_65 N n = r65 at hf K65
    unfold gX11_begins_65 at hf
    refine lv_iload_n C.1.1 C.1.2.1 dX11_begins_65 rfl (lv_at hl 1 rfl) ?_
    refine lv_bipush (v := 6) C.1.1 C.1.2.1 dX11_begins_66 (by decide) ?_
    refine ns_icmp_ge C hf (tgt := 84) dX11_begins_68 (by decide) (fun hf => ?_) (fun hf => ?_)
    · refine lv_iconst (v := 0) C.1.1 C.1.2.1 dX11_begins_84 (by decide) ?_
      refine lv_istore_n (lv' := [(1, .int 0), (0, .ref (b 62))]) C.1.1 C.1.2.1 dX11_begins_85 rfl hl (by decide) rfl (fun ls hl => ?_)
      exact wX11_begins_62_86 N hI C hr hlk N w (lv_sub hl [1, 0] rfl) hf
    · refine lv_aload_n C.1.1 C.1.2.1 dX11_begins_71 rfl (lv_at hl 0 rfl) ?_
      refine ns_getr C w 62 (hI 62 (by decide)) sh_62 (rfl : vwCl[11]? = some (RX11, TX11, 59)) inX11_begins_11 25 (by decide) rfl lX11_begins_81 dX11_begins_72 ?_
      refine lv_iload_n C.1.1 C.1.2.1 dX11_begins_75 rfl (lv_at hl 1 rfl) ?_
      refine lv_iconst (v := 0) C.1.1 C.1.2.1 dX11_begins_76 (by decide) ?_
      refine ns_iast C w 86 (hI 86 (by decide)) sh_86 hf rfl (List.mem_of_getElem? (i := 5) rfl) dX11_begins_77 (fun y1 H locs hf w => ?_)
      refine ns_iinc (lv' := fun x2 => [(1, .int x2), (0, .ref (b 62))]) C hf dX11_begins_78 hl (k := 1) rfl rfl (by decide) (fun _ => rfl) (fun x2 ls hl hf => ?_)
      refine lv_goto (tgt := 65) C.1.1 C.1.2.1 dX11_begins_81 (by decide) ?_
      exact K65 w (lv_sub hl [1, 0] rfl) hf
set_option maxHeartbeats 4000000 in
set_option maxRecDepth 100000 in
theorem wX11_begins_62_37 {p : Program} {l : Launch} {e : Env} {s : State} {m : MethodId} {args : Array Value} {below : List Frame} {meth : Method} {c : Code} {D : va_G} {b : Nat → Nat} {ids : List Nat} {A : Nat → Prop} {S0 : ns_S} {o : (Nat → Int32) × (Nat → Int32) × (Nat → Int32) × (Nat → Int32) × (Nat → Int32) × (Nat → Int32) × (Nat → Int32)} (N : Nat) (hI : ∀ i, i < 107 → i ∈ ids) (C : ns_C p m c cX11_begins 2 s args wsX11_begins RX11 D A) (hr : meth.sig.returnType = none) (hlk : meth.locks = false) : ∀ n : Nat, ∀ {S : ns_S} {H : Heap} {locs : List Loc} {ls : Array Slot} {l1 : Int32}, ns_W D b ids A s.heap wrX11_begins_62 S0 S H locs → lv_has ls 2 [(0, .ref (b 62)), (1, .int l1)] → fX11_begins_37 N n (S.2.1 81) (S.2.1 82) (S.2.1 83) (S.2.1 84) (S.2.1 85) (S.2.1 86) (S.2.1 87) l1 = some o → W p l e rmX11_begins_62 s m args below meth c H locs 0 0 (MQ below (ns_Q D b ids (ns_A (ns_A (ns_A (ns_A (ns_A (ns_A (ns_A S0 87 o.2.2.2.2.2.2) 86 o.2.2.2.2.2.1) 85 o.2.2.2.2.1) 84 o.2.2.2.1) 83 o.2.2.1) 82 o.2.1) 81 o.1) none A) args s 0 0 A) (F0 m 37 ls []) := by
  intro n
  induction n with
  | zero =>
    intro S H locs ls l1 w hl hf
    cases hf
  | succ n K37 =>
    intro S H locs ls l1 w hl hf
    change gX11_begins_37 N (fX11_begins_37 N n) (S.2.1 81) (S.2.1 82) (S.2.1 83) (S.2.1 84) (S.2.1 85) (S.2.1 86) (S.2.1 87) l1 = some o at hf
    generalize fX11_begins_37 N n = r37 at hf K37
    unfold gX11_begins_37 at hf
    refine lv_iload_n C.1.1 C.1.2.1 dX11_begins_37 rfl (lv_at hl 1 rfl) ?_
    refine lv_bipush (v := 30) C.1.1 C.1.2.1 dX11_begins_38 (by decide) ?_
    refine ns_icmp_ge C hf (tgt := 63) dX11_begins_40 (by decide) (fun hf => ?_) (fun hf => ?_)
    · refine lv_iconst (v := 0) C.1.1 C.1.2.1 dX11_begins_63 (by decide) ?_
      refine lv_istore_n (lv' := [(1, .int 0), (0, .ref (b 62))]) C.1.1 C.1.2.1 dX11_begins_64 rfl hl (by decide) rfl (fun ls hl => ?_)
      exact wX11_begins_62_65 N hI C hr hlk N w (lv_sub hl [1, 0] rfl) hf
    · refine lv_aload_n C.1.1 C.1.2.1 dX11_begins_43 rfl (lv_at hl 0 rfl) ?_
      refine ns_getr C w 62 (hI 62 (by decide)) sh_62 (rfl : vwCl[11]? = some (RX11, TX11, 59)) inX11_begins_11 23 (by decide) rfl lX11_begins_75 dX11_begins_44 ?_
      refine lv_iload_n C.1.1 C.1.2.1 dX11_begins_47 rfl (lv_at hl 1 rfl) ?_
      refine lv_iconst (v := 0) C.1.1 C.1.2.1 dX11_begins_48 (by decide) ?_
      refine ns_iast C w 84 (hI 84 (by decide)) sh_84 hf rfl (List.mem_of_getElem? (i := 3) rfl) dX11_begins_49 (fun y1 H locs hf w => ?_)
      refine lv_aload_n C.1.1 C.1.2.1 dX11_begins_50 rfl (lv_at hl 0 rfl) ?_
      refine ns_getr C w 62 (hI 62 (by decide)) sh_62 (rfl : vwCl[11]? = some (RX11, TX11, 59)) inX11_begins_11 24 (by decide) rfl lX11_begins_78 dX11_begins_51 ?_
      refine lv_iload_n C.1.1 C.1.2.1 dX11_begins_54 rfl (lv_at hl 1 rfl) ?_
      refine lv_iconst (v := 0) C.1.1 C.1.2.1 dX11_begins_55 (by decide) ?_
      refine ns_iast C w 85 (hI 85 (by decide)) sh_85 hf rfl (List.mem_of_getElem? (i := 4) rfl) dX11_begins_56 (fun y2 H locs hf w => ?_)
      refine ns_iinc (lv' := fun x3 => [(1, .int x3), (0, .ref (b 62))]) C hf dX11_begins_57 hl (k := 1) rfl rfl (by decide) (fun _ => rfl) (fun x3 ls hl hf => ?_)
      refine lv_goto (tgt := 37) C.1.1 C.1.2.1 dX11_begins_60 (by decide) ?_
      exact K37 w (lv_sub hl [1, 0] rfl) hf
set_option maxHeartbeats 4000000 in
set_option maxRecDepth 100000 in
theorem wX11_begins_62_2 {p : Program} {l : Launch} {e : Env} {s : State} {m : MethodId} {args : Array Value} {below : List Frame} {meth : Method} {c : Code} {D : va_G} {b : Nat → Nat} {ids : List Nat} {A : Nat → Prop} {S0 : ns_S} {o : (Nat → Int32) × (Nat → Int32) × (Nat → Int32) × (Nat → Int32) × (Nat → Int32) × (Nat → Int32) × (Nat → Int32)} (N : Nat) (hI : ∀ i, i < 107 → i ∈ ids) (C : ns_C p m c cX11_begins 2 s args wsX11_begins RX11 D A) (hr : meth.sig.returnType = none) (hlk : meth.locks = false) : ∀ n : Nat, ∀ {S : ns_S} {H : Heap} {locs : List Loc} {ls : Array Slot} {l1 : Int32}, ns_W D b ids A s.heap wrX11_begins_62 S0 S H locs → lv_has ls 2 [(0, .ref (b 62)), (1, .int l1)] → fX11_begins_2 N n (S.2.1 81) (S.2.1 82) (S.2.1 83) (S.2.1 84) (S.2.1 85) (S.2.1 86) (S.2.1 87) l1 = some o → W p l e rmX11_begins_62 s m args below meth c H locs 0 0 (MQ below (ns_Q D b ids (ns_A (ns_A (ns_A (ns_A (ns_A (ns_A (ns_A S0 87 o.2.2.2.2.2.2) 86 o.2.2.2.2.2.1) 85 o.2.2.2.2.1) 84 o.2.2.2.1) 83 o.2.2.1) 82 o.2.1) 81 o.1) none A) args s 0 0 A) (F0 m 2 ls []) := by
  intro n
  induction n with
  | zero =>
    intro S H locs ls l1 w hl hf
    cases hf
  | succ n K2 =>
    intro S H locs ls l1 w hl hf
    change gX11_begins_2 N (fX11_begins_2 N n) (S.2.1 81) (S.2.1 82) (S.2.1 83) (S.2.1 84) (S.2.1 85) (S.2.1 86) (S.2.1 87) l1 = some o at hf
    generalize fX11_begins_2 N n = r2 at hf K2
    unfold gX11_begins_2 at hf
    refine lv_iload_n C.1.1 C.1.2.1 dX11_begins_2 rfl (lv_at hl 1 rfl) ?_
    refine lv_bipush (v := 10) C.1.1 C.1.2.1 dX11_begins_3 (by decide) ?_
    refine ns_icmp_ge C hf (tgt := 35) dX11_begins_5 (by decide) (fun hf => ?_) (fun hf => ?_)
    · refine lv_iconst (v := 0) C.1.1 C.1.2.1 dX11_begins_35 (by decide) ?_
      refine lv_istore_n (lv' := [(1, .int 0), (0, .ref (b 62))]) C.1.1 C.1.2.1 dX11_begins_36 rfl hl (by decide) rfl (fun ls hl => ?_)
      exact wX11_begins_62_37 N hI C hr hlk N w (lv_sub hl [1, 0] rfl) hf
    · refine lv_aload_n C.1.1 C.1.2.1 dX11_begins_8 rfl (lv_at hl 0 rfl) ?_
      refine ns_getr C w 62 (hI 62 (by decide)) sh_62 (rfl : vwCl[11]? = some (RX11, TX11, 59)) inX11_begins_11 20 (by decide) rfl lX11_begins_66 dX11_begins_9 ?_
      refine lv_iload_n C.1.1 C.1.2.1 dX11_begins_12 rfl (lv_at hl 1 rfl) ?_
      refine lv_iconst (v := (-1)) C.1.1 C.1.2.1 dX11_begins_13 (by decide) ?_
      refine ns_iast C w 81 (hI 81 (by decide)) sh_81 hf rfl (List.mem_of_getElem? (i := 0) rfl) dX11_begins_14 (fun y1 H locs hf w => ?_)
      refine lv_aload_n C.1.1 C.1.2.1 dX11_begins_15 rfl (lv_at hl 0 rfl) ?_
      refine ns_getr C w 62 (hI 62 (by decide)) sh_62 (rfl : vwCl[11]? = some (RX11, TX11, 59)) inX11_begins_11 21 (by decide) rfl lX11_begins_69 dX11_begins_16 ?_
      refine lv_iload_n C.1.1 C.1.2.1 dX11_begins_19 rfl (lv_at hl 1 rfl) ?_
      refine lv_iconst (v := 0) C.1.1 C.1.2.1 dX11_begins_20 (by decide) ?_
      refine ns_iast C w 82 (hI 82 (by decide)) sh_82 hf rfl (List.mem_of_getElem? (i := 1) rfl) dX11_begins_21 (fun y2 H locs hf w => ?_)
      refine lv_aload_n C.1.1 C.1.2.1 dX11_begins_22 rfl (lv_at hl 0 rfl) ?_
      refine ns_getr C w 62 (hI 62 (by decide)) sh_62 (rfl : vwCl[11]? = some (RX11, TX11, 59)) inX11_begins_11 22 (by decide) rfl lX11_begins_72 dX11_begins_23 ?_
      refine lv_iload_n C.1.1 C.1.2.1 dX11_begins_26 rfl (lv_at hl 1 rfl) ?_
      refine lv_iconst (v := 0) C.1.1 C.1.2.1 dX11_begins_27 (by decide) ?_
      refine ns_iast C w 83 (hI 83 (by decide)) sh_83 hf rfl (List.mem_of_getElem? (i := 2) rfl) dX11_begins_28 (fun y3 H locs hf w => ?_)
      refine ns_iinc (lv' := fun x4 => [(1, .int x4), (0, .ref (b 62))]) C hf dX11_begins_29 hl (k := 1) rfl rfl (by decide) (fun _ => rfl) (fun x4 ls hl hf => ?_)
      refine lv_goto (tgt := 2) C.1.1 C.1.2.1 dX11_begins_32 (by decide) ?_
      exact K2 w (lv_sub hl [1, 0] rfl) hf
set_option maxHeartbeats 4000000 in
set_option maxRecDepth 100000 in
theorem mX11_begins_62 (l : Launch) (D : va_G) (b : Nat → Nat) (ids : List Nat) (hI : ∀ i, i < 107 → i ∈ ids) (N : Nat) (S : ns_S) {o : (Nat → Int32) × (Nat → Int32) × (Nat → Int32) × (Nat → Int32) × (Nat → Int32) × (Nat → Int32) × (Nat → Int32)} (hf : fX11_begins N (S.2.1 81) (S.2.1 82) (S.2.1 83) (S.2.1 84) (S.2.1 85) (S.2.1 86) (S.2.1 87) = some o) : ns_M l yX11_begins wsX11_begins rmX11_begins_62 D b ids S [.ref (b 62)] none (ns_A (ns_A (ns_A (ns_A (ns_A (ns_A (ns_A S 87 o.2.2.2.2.2.2) 86 o.2.2.2.2.2.1) 85 o.2.2.2.2.1) 84 o.2.2.2.1) 83 o.2.2.1) 82 o.2.1) 81 o.1) := by
  refine ns_start (Wr := wrX11_begins_62) (by decide) rfl (Nat.le_of_ble_eq_true rfl) ?_
  intro p e s m below meth c A ls C hr hlk w hl
  have hl : lv_has ls 2 [(0, .ref (b 62))] := hl
  unfold fX11_begins at hf
  refine lv_iconst (v := 0) C.1.1 C.1.2.1 dX11_begins_0 (by decide) ?_
  refine lv_istore_n (lv' := [(1, .int 0), (0, .ref (b 62))]) C.1.1 C.1.2.1 dX11_begins_1 rfl hl (by decide) rfl (fun ls hl => ?_)
  exact wX11_begins_62_2 N hI C hr hlk N w (lv_sub hl [1, 0] rfl) hf
theorem lX11_open_24 : Cond.fieldLink RX11 24 (TX11 6).1 (TX11 6).2.1 (TX11 6).2.2.1 ∈ wsX11_open := List.mem_of_getElem? (i := 3) rfl
theorem lX11_open_42 : Cond.fieldLink RX11 42 (TX11 12).1 (TX11 12).2.1 (TX11 12).2.2.1 ∈ wsX11_open := List.mem_of_getElem? (i := 9) rfl
theorem lX11_open_60 : Cond.fieldLink RX11 60 (TX11 18).1 (TX11 18).2.1 (TX11 18).2.2.1 ∈ wsX11_open := List.mem_of_getElem? (i := 2) rfl
theorem lX11_open_63 : Cond.fieldLink RX11 63 (TX11 19).1 (TX11 19).2.1 (TX11 19).2.2.1 ∈ wsX11_open := List.mem_of_getElem? (i := 4) rfl
theorem lX11_open_66 : Cond.fieldLink RX11 66 (TX11 20).1 (TX11 20).2.1 (TX11 20).2.2.1 ∈ wsX11_open := List.mem_of_getElem? (i := 5) rfl
theorem lX11_open_69 : Cond.fieldLink RX11 69 (TX11 21).1 (TX11 21).2.1 (TX11 21).2.2.1 ∈ wsX11_open := List.mem_of_getElem? (i := 7) rfl
theorem lX11_open_75 : Cond.fieldLink RX11 75 (TX11 23).1 (TX11 23).2.1 (TX11 23).2.2.1 ∈ wsX11_open := List.mem_of_getElem? (i := 10) rfl
theorem lX11_open_136 : Cond.fieldLink RX11 136 (TX11 53).1 (TX11 53).2.1 (TX11 53).2.2.1 ∈ wsX11_open := List.mem_of_getElem? (i := 6) rfl
theorem lX11_open_139 : Cond.fieldLink RX11 139 (TX11 54).1 (TX11 54).2.1 (TX11 54).2.2.1 ∈ wsX11_open := List.mem_of_getElem? (i := 8) rfl
theorem lX11_open_142 : Cond.fieldLink RX11 142 (TX11 55).1 (TX11 55).2.1 (TX11 55).2.2.1 ∈ wsX11_open := List.mem_of_getElem? (i := 11) rfl
theorem lX11_open_179 : Cond.fieldLink RX11 179 (TX11 0).1 (TX11 0).2.1 (TX11 0).2.2.1 ∈ wsX11_open := List.mem_of_getElem? (i := 1) rfl
theorem inX11_open_11 : ∀ w ∈ u_ws RX11 TX11 59, w ∈ wsX11_open := fun _ h => List.mem_cons_of_mem _ (List.mem_append_right _ h)
theorem hdX11_open : yX11_open.cls = RX11 ∧ yX11_open.cls ≠ "java/lang/invoke/MethodHandle" ∧ yX11_open.cls ≠ "java/lang/invoke/VarHandle" ∧ (parseMethodDescriptor yX11_open.desc).map (fun d => d.parameters.length) = some 0 := by decide +kernel
abbrev wrX11_open_62 : List (Nat × Nat) := [(0, 3968), (1, 103), (1, 104), (1, 105), (1, 79), (1, 80), (1, 81), (1, 82), (1, 83), (1, 84), (1, 85), (1, 86), (1, 87)]
abbrev rmX11_open_62 : Room := { frames := 4, cells := 0, slots := 0, locals := 91 }
set_option maxHeartbeats 4000000 in
set_option maxRecDepth 100000 in
theorem wX11_open_62_135 {p : Program} {l : Launch} {e : Env} {s : State} {m : MethodId} {args : Array Value} {below : List Frame} {meth : Method} {c : Code} {D : va_G} {b : Nat → Nat} {ids : List Nat} {A : Nat → Prop} {S0 : ns_S} {o : Int32 × Int32 × (Nat → Int32) × (Nat → Int32) × (Nat → Int32) × (Nat → Int32) × (Nat → Int32) × (Nat → Int32) × (Nat → Int32) × (Nat → Int32) × (Nat → Int32) × (Nat → Int32) × (Nat → Int32) × (Nat → Int32)} (N : Nat) (hI : ∀ i, i < 107 → i ∈ ids) (C : ns_C p m c cX11_open 6 s args wsX11_open RX11 D A) (hr : meth.sig.returnType = some .int) (hlk : meth.locks = false) {r86 : Int32 → (Nat → Int32) → (Nat → Int32) → (Nat → Int32) → (Nat → Int32) → (Nat → Int32) → (Nat → Int32) → (Nat → Int32) → (Nat → Int32) → (Nat → Int32) → (Nat → Int32) → (Nat → Int32) → (Nat → Int32) → (Nat → Int32) → (Nat → Int32) → (Nat → Int32) → (Nat → Int32) → (Nat → Int32) → (Nat → Int32) → (Nat → Int32) → (Nat → Int32) → (Nat → Int32) → (Nat → Int32) → (Nat → Int32) → Int32 → Int32 → Int32 → Option (Int32 × Int32 × (Nat → Int32) × (Nat → Int32) × (Nat → Int32) × (Nat → Int32) × (Nat → Int32) × (Nat → Int32) × (Nat → Int32) × (Nat → Int32) × (Nat → Int32) × (Nat → Int32) × (Nat → Int32) × (Nat → Int32))} (K86 : ∀ {S : ns_S} {H : Heap} {locs : List Loc} {ls : Array Slot} {l1 : Int32} {l3 : Int32} {l4 : Int32}, ns_W D b ids A s.heap wrX11_open_62 S0 S H locs → lv_has ls 6 [(0, .ref (b 62)), (1, .int l1), (3, .int l3), (4, .int l4)] → r86 (S.1 3968) (S.2.1 79) (S.2.1 67) (S.2.1 65) (S.2.1 68) (S.2.1 69) (S.2.1 71) (S.2.1 104) (S.2.1 70) (S.2.1 103) (S.2.1 66) (S.2.1 73) (S.2.1 105) (S.2.1 76) (S.2.1 77) (S.2.1 78) (S.2.1 80) (S.2.1 81) (S.2.1 82) (S.2.1 83) (S.2.1 84) (S.2.1 85) (S.2.1 86) (S.2.1 87) l1 l3 l4 = some o → W p l e rmX11_open_62 s m args below meth c H locs 0 0 (MQ below (ns_Q D b ids (ns_I (ns_A (ns_A (ns_A (ns_A (ns_A (ns_A (ns_A (ns_A (ns_A (ns_A (ns_A (ns_A S0 87 o.2.2.2.2.2.2.2.2.2.2.2.2.2) 86 o.2.2.2.2.2.2.2.2.2.2.2.2.1) 85 o.2.2.2.2.2.2.2.2.2.2.2.1) 84 o.2.2.2.2.2.2.2.2.2.2.1) 83 o.2.2.2.2.2.2.2.2.2.1) 82 o.2.2.2.2.2.2.2.2.1) 81 o.2.2.2.2.2.2.2.1) 80 o.2.2.2.2.2.2.1) 79 o.2.2.2.2.2.1) 105 o.2.2.2.2.1) 104 o.2.2.2.1) 103 o.2.2.1) 3968 o.2.1) (some (.int o.1)) A) args s 0 0 A) (F0 m 86 ls [])) : ∀ {S : ns_S} {H : Heap} {locs : List Loc} {ls : Array Slot} {l1 : Int32} {l3 : Int32} {l4 : Int32} {l5 : Int32} {s1 : Int32} {s2 : Int32}, ns_W D b ids A s.heap wrX11_open_62 S0 S H locs → lv_has ls 6 [(0, .ref (b 62)), (1, .int l1), (3, .int l3), (4, .int l4), (5, .int l5)] → gX11_open_135 N r86 (S.1 3968) (S.2.1 79) (S.2.1 67) (S.2.1 65) (S.2.1 68) (S.2.1 69) (S.2.1 71) (S.2.1 104) (S.2.1 70) (S.2.1 103) (S.2.1 66) (S.2.1 73) (S.2.1 105) (S.2.1 76) (S.2.1 77) (S.2.1 78) (S.2.1 80) (S.2.1 81) (S.2.1 82) (S.2.1 83) (S.2.1 84) (S.2.1 85) (S.2.1 86) (S.2.1 87) l1 l3 l4 l5 s1 s2 = some o → W p l e rmX11_open_62 s m args below meth c H locs 0 0 (MQ below (ns_Q D b ids (ns_I (ns_A (ns_A (ns_A (ns_A (ns_A (ns_A (ns_A (ns_A (ns_A (ns_A (ns_A (ns_A S0 87 o.2.2.2.2.2.2.2.2.2.2.2.2.2) 86 o.2.2.2.2.2.2.2.2.2.2.2.2.1) 85 o.2.2.2.2.2.2.2.2.2.2.2.1) 84 o.2.2.2.2.2.2.2.2.2.2.1) 83 o.2.2.2.2.2.2.2.2.2.1) 82 o.2.2.2.2.2.2.2.2.1) 81 o.2.2.2.2.2.2.2.1) 80 o.2.2.2.2.2.2.1) 79 o.2.2.2.2.2.1) 105 o.2.2.2.2.1) 104 o.2.2.2.1) 103 o.2.2.1) 3968 o.2.1) (some (.int o.1)) A) args s 0 0 A) (F0 m 135 ls [.int s2, .int s1, .ref (b 81)]) := by
  intro S H locs ls l1 l3 l4 l5 s1 s2 w hl hf
  unfold gX11_open_135 at hf
  refine ns_iast C w 81 (hI 81 (by decide)) sh_81 hf rfl (List.mem_of_getElem? (i := 6) rfl) dX11_open_135 (fun y1 H locs hf w => ?_)
  refine lv_aload_n C.1.1 C.1.2.1 dX11_open_136 rfl (lv_at hl 0 rfl) ?_
  refine ns_getr C w 62 (hI 62 (by decide)) sh_62 (rfl : vwCl[11]? = some (RX11, TX11, 59)) inX11_open_11 21 (by decide) rfl lX11_open_69 dX11_open_137 ?_
  refine lv_iload C.1.1 C.1.2.1 dX11_open_140 (lv_at hl 3 rfl) ?_
  refine lv_iload C.1.1 C.1.2.1 dX11_open_142 (lv_at hl 4 rfl) ?_
  refine ns_if_eq C hf (tgt := 157) dX11_open_144 (by decide) (fun hf => ?_) (fun hf => ?_)
  · refine lv_iconst (v := 0) C.1.1 C.1.2.1 dX11_open_157 (by decide) ?_
    refine ns_iast C w 82 (hI 82 (by decide)) sh_82 hf rfl (List.mem_of_getElem? (i := 7) rfl) dX11_open_158 (fun y2 H locs hf w => ?_)
    refine ns_iinc (lv' := fun x3 => [(4, .int x3), (0, .ref (b 62)), (1, .int l1), (3, .int l3), (5, .int l5)]) C hf dX11_open_159 hl (k := 3) rfl rfl (by decide) (fun _ => rfl) (fun x3 ls hl hf => ?_)
    refine lv_goto (tgt := 86) C.1.1 C.1.2.1 dX11_open_162 (by decide) ?_
    exact K86 w (lv_sub hl [1, 2, 3, 0] rfl) hf
  · refine lv_aload_n C.1.1 C.1.2.1 dX11_open_147 rfl (lv_at hl 0 rfl) ?_
    refine ns_getr C w 62 (hI 62 (by decide)) sh_62 (rfl : vwCl[11]? = some (RX11, TX11, 59)) inX11_open_11 54 (by decide) rfl lX11_open_139 dX11_open_148 ?_
    refine lv_iload C.1.1 C.1.2.1 dX11_open_151 (lv_at hl 3 rfl) ?_
    refine ns_iald C w 104 (hI 104 (by decide)) sh_104 hf rfl dX11_open_153 (fun x4 hf => ?_)
    refine lv_goto (tgt := 158) C.1.1 C.1.2.1 dX11_open_154 (by decide) ?_
    refine ns_iast C w 82 (hI 82 (by decide)) sh_82 hf rfl (List.mem_of_getElem? (i := 7) rfl) dX11_open_158 (fun y5 H locs hf w => ?_)
    refine ns_iinc (lv' := fun x6 => [(4, .int x6), (0, .ref (b 62)), (1, .int l1), (3, .int l3), (5, .int l5)]) C hf dX11_open_159 hl (k := 3) rfl rfl (by decide) (fun _ => rfl) (fun x6 ls hl hf => ?_)
    refine lv_goto (tgt := 86) C.1.1 C.1.2.1 dX11_open_162 (by decide) ?_
    exact K86 w (lv_sub hl [1, 2, 3, 0] rfl) hf
set_option maxHeartbeats 4000000 in
set_option maxRecDepth 100000 in
theorem wX11_open_62_111 {p : Program} {l : Launch} {e : Env} {s : State} {m : MethodId} {args : Array Value} {below : List Frame} {meth : Method} {c : Code} {D : va_G} {b : Nat → Nat} {ids : List Nat} {A : Nat → Prop} {S0 : ns_S} {o : Int32 × Int32 × (Nat → Int32) × (Nat → Int32) × (Nat → Int32) × (Nat → Int32) × (Nat → Int32) × (Nat → Int32) × (Nat → Int32) × (Nat → Int32) × (Nat → Int32) × (Nat → Int32) × (Nat → Int32) × (Nat → Int32)} (N : Nat) (hI : ∀ i, i < 107 → i ∈ ids) (C : ns_C p m c cX11_open 6 s args wsX11_open RX11 D A) (hr : meth.sig.returnType = some .int) (hlk : meth.locks = false) {r86 : Int32 → (Nat → Int32) → (Nat → Int32) → (Nat → Int32) → (Nat → Int32) → (Nat → Int32) → (Nat → Int32) → (Nat → Int32) → (Nat → Int32) → (Nat → Int32) → (Nat → Int32) → (Nat → Int32) → (Nat → Int32) → (Nat → Int32) → (Nat → Int32) → (Nat → Int32) → (Nat → Int32) → (Nat → Int32) → (Nat → Int32) → (Nat → Int32) → (Nat → Int32) → (Nat → Int32) → (Nat → Int32) → (Nat → Int32) → Int32 → Int32 → Int32 → Option (Int32 × Int32 × (Nat → Int32) × (Nat → Int32) × (Nat → Int32) × (Nat → Int32) × (Nat → Int32) × (Nat → Int32) × (Nat → Int32) × (Nat → Int32) × (Nat → Int32) × (Nat → Int32) × (Nat → Int32) × (Nat → Int32))} (K86 : ∀ {S : ns_S} {H : Heap} {locs : List Loc} {ls : Array Slot} {l1 : Int32} {l3 : Int32} {l4 : Int32}, ns_W D b ids A s.heap wrX11_open_62 S0 S H locs → lv_has ls 6 [(0, .ref (b 62)), (1, .int l1), (3, .int l3), (4, .int l4)] → r86 (S.1 3968) (S.2.1 79) (S.2.1 67) (S.2.1 65) (S.2.1 68) (S.2.1 69) (S.2.1 71) (S.2.1 104) (S.2.1 70) (S.2.1 103) (S.2.1 66) (S.2.1 73) (S.2.1 105) (S.2.1 76) (S.2.1 77) (S.2.1 78) (S.2.1 80) (S.2.1 81) (S.2.1 82) (S.2.1 83) (S.2.1 84) (S.2.1 85) (S.2.1 86) (S.2.1 87) l1 l3 l4 = some o → W p l e rmX11_open_62 s m args below meth c H locs 0 0 (MQ below (ns_Q D b ids (ns_I (ns_A (ns_A (ns_A (ns_A (ns_A (ns_A (ns_A (ns_A (ns_A (ns_A (ns_A (ns_A S0 87 o.2.2.2.2.2.2.2.2.2.2.2.2.2) 86 o.2.2.2.2.2.2.2.2.2.2.2.2.1) 85 o.2.2.2.2.2.2.2.2.2.2.2.1) 84 o.2.2.2.2.2.2.2.2.2.2.1) 83 o.2.2.2.2.2.2.2.2.2.1) 82 o.2.2.2.2.2.2.2.2.1) 81 o.2.2.2.2.2.2.2.1) 80 o.2.2.2.2.2.2.1) 79 o.2.2.2.2.2.1) 105 o.2.2.2.2.1) 104 o.2.2.2.1) 103 o.2.2.1) 3968 o.2.1) (some (.int o.1)) A) args s 0 0 A) (F0 m 86 ls [])) : ∀ {S : ns_S} {H : Heap} {locs : List Loc} {ls : Array Slot} {l1 : Int32} {l3 : Int32} {l4 : Int32} {s0 : Int32}, ns_W D b ids A s.heap wrX11_open_62 S0 S H locs → lv_has ls 6 [(0, .ref (b 62)), (1, .int l1), (3, .int l3), (4, .int l4)] → gX11_open_111 N r86 (S.1 3968) (S.2.1 79) (S.2.1 67) (S.2.1 65) (S.2.1 68) (S.2.1 69) (S.2.1 71) (S.2.1 104) (S.2.1 70) (S.2.1 103) (S.2.1 66) (S.2.1 73) (S.2.1 105) (S.2.1 76) (S.2.1 77) (S.2.1 78) (S.2.1 80) (S.2.1 81) (S.2.1 82) (S.2.1 83) (S.2.1 84) (S.2.1 85) (S.2.1 86) (S.2.1 87) l1 l3 l4 s0 = some o → W p l e rmX11_open_62 s m args below meth c H locs 0 0 (MQ below (ns_Q D b ids (ns_I (ns_A (ns_A (ns_A (ns_A (ns_A (ns_A (ns_A (ns_A (ns_A (ns_A (ns_A (ns_A S0 87 o.2.2.2.2.2.2.2.2.2.2.2.2.2) 86 o.2.2.2.2.2.2.2.2.2.2.2.2.1) 85 o.2.2.2.2.2.2.2.2.2.2.2.1) 84 o.2.2.2.2.2.2.2.2.2.2.1) 83 o.2.2.2.2.2.2.2.2.2.1) 82 o.2.2.2.2.2.2.2.2.1) 81 o.2.2.2.2.2.2.2.1) 80 o.2.2.2.2.2.2.1) 79 o.2.2.2.2.2.1) 105 o.2.2.2.2.1) 104 o.2.2.2.1) 103 o.2.2.1) 3968 o.2.1) (some (.int o.1)) A) args s 0 0 A) (F0 m 111 ls [.int s0]) := by
  intro S H locs ls l1 l3 l4 s0 w hl hf
  unfold gX11_open_111 at hf
  refine lv_istore (lv' := [(5, .int s0), (0, .ref (b 62)), (1, .int l1), (3, .int l3), (4, .int l4)]) C.1.1 C.1.2.1 dX11_open_111 hl (by decide) rfl (fun ls hl => ?_)
  refine lv_aload_n C.1.1 C.1.2.1 dX11_open_113 rfl (lv_at hl 1 rfl) ?_
  refine ns_getr C w 62 (hI 62 (by decide)) sh_62 (rfl : vwCl[11]? = some (RX11, TX11, 59)) inX11_open_11 20 (by decide) rfl lX11_open_66 dX11_open_114 ?_
  refine lv_iload C.1.1 C.1.2.1 dX11_open_117 (lv_at hl 4 rfl) ?_
  refine lv_iload C.1.1 C.1.2.1 dX11_open_119 (lv_at hl 0 rfl) ?_
  refine ns_if_eq C hf (tgt := 134) dX11_open_121 (by decide) (fun hf => ?_) (fun hf => ?_)
  · refine lv_iconst (v := (-1)) C.1.1 C.1.2.1 dX11_open_134 (by decide) ?_
    exact wX11_open_62_135 N hI C hr hlk K86 w (lv_sub hl [1, 2, 3, 4, 0] rfl) hf
  · refine lv_aload_n C.1.1 C.1.2.1 dX11_open_124 rfl (lv_at hl 1 rfl) ?_
    refine ns_getr C w 62 (hI 62 (by decide)) sh_62 (rfl : vwCl[11]? = some (RX11, TX11, 59)) inX11_open_11 53 (by decide) rfl lX11_open_136 dX11_open_125 ?_
    refine lv_iload C.1.1 C.1.2.1 dX11_open_128 (lv_at hl 4 rfl) ?_
    refine ns_iald C w 103 (hI 103 (by decide)) sh_103 hf rfl dX11_open_130 (fun x1 hf => ?_)
    refine lv_goto (tgt := 135) C.1.1 C.1.2.1 dX11_open_131 (by decide) ?_
    exact wX11_open_62_135 N hI C hr hlk K86 w (lv_sub hl [1, 2, 3, 4, 0] rfl) hf
set_option maxHeartbeats 4000000 in
set_option maxRecDepth 100000 in
theorem wX11_open_62_168 {p : Program} {l : Launch} {e : Env} {s : State} {m : MethodId} {args : Array Value} {below : List Frame} {meth : Method} {c : Code} {D : va_G} {b : Nat → Nat} {ids : List Nat} {A : Nat → Prop} {S0 : ns_S} {o : Int32 × Int32 × (Nat → Int32) × (Nat → Int32) × (Nat → Int32) × (Nat → Int32) × (Nat → Int32) × (Nat → Int32) × (Nat → Int32) × (Nat → Int32) × (Nat → Int32) × (Nat → Int32) × (Nat → Int32) × (Nat → Int32)} (N : Nat) (hI : ∀ i, i < 107 → i ∈ ids) (C : ns_C p m c cX11_open 6 s args wsX11_open RX11 D A) (hr : meth.sig.returnType = some .int) (hlk : meth.locks = false) : ∀ n : Nat, ∀ {S : ns_S} {H : Heap} {locs : List Loc} {ls : Array Slot} {l3 : Int32} {l4 : Int32}, ns_W D b ids A s.heap wrX11_open_62 S0 S H locs → lv_has ls 6 [(0, .ref (b 62)), (3, .int l3), (4, .int l4)] → fX11_open_168 N n (S.1 3968) (S.2.1 79) (S.2.1 67) (S.2.1 65) (S.2.1 68) (S.2.1 69) (S.2.1 71) (S.2.1 104) (S.2.1 70) (S.2.1 103) (S.2.1 66) (S.2.1 73) (S.2.1 105) (S.2.1 76) (S.2.1 77) (S.2.1 78) (S.2.1 80) (S.2.1 81) (S.2.1 82) (S.2.1 83) (S.2.1 84) (S.2.1 85) (S.2.1 86) (S.2.1 87) l3 l4 = some o → W p l e rmX11_open_62 s m args below meth c H locs 0 0 (MQ below (ns_Q D b ids (ns_I (ns_A (ns_A (ns_A (ns_A (ns_A (ns_A (ns_A (ns_A (ns_A (ns_A (ns_A (ns_A S0 87 o.2.2.2.2.2.2.2.2.2.2.2.2.2) 86 o.2.2.2.2.2.2.2.2.2.2.2.2.1) 85 o.2.2.2.2.2.2.2.2.2.2.2.1) 84 o.2.2.2.2.2.2.2.2.2.2.1) 83 o.2.2.2.2.2.2.2.2.2.1) 82 o.2.2.2.2.2.2.2.2.1) 81 o.2.2.2.2.2.2.2.1) 80 o.2.2.2.2.2.2.1) 79 o.2.2.2.2.2.1) 105 o.2.2.2.2.1) 104 o.2.2.2.1) 103 o.2.2.1) 3968 o.2.1) (some (.int o.1)) A) args s 0 0 A) (F0 m 168 ls []) := by
  intro n
  induction n with
  | zero =>
    intro S H locs ls l3 l4 w hl hf
    cases hf
  | succ n K168 =>
    intro S H locs ls l3 l4 w hl hf
    change gX11_open_168 N (fX11_open_168 N n) (S.1 3968) (S.2.1 79) (S.2.1 67) (S.2.1 65) (S.2.1 68) (S.2.1 69) (S.2.1 71) (S.2.1 104) (S.2.1 70) (S.2.1 103) (S.2.1 66) (S.2.1 73) (S.2.1 105) (S.2.1 76) (S.2.1 77) (S.2.1 78) (S.2.1 80) (S.2.1 81) (S.2.1 82) (S.2.1 83) (S.2.1 84) (S.2.1 85) (S.2.1 86) (S.2.1 87) l3 l4 = some o at hf
    generalize fX11_open_168 N n = r168 at hf K168
    unfold gX11_open_168 at hf
    refine lv_iload C.1.1 C.1.2.1 dX11_open_168 (lv_at hl 2 rfl) ?_
    refine lv_aload_n C.1.1 C.1.2.1 dX11_open_170 rfl (lv_at hl 0 rfl) ?_
    refine ns_getr C w 62 (hI 62 (by decide)) sh_62 (rfl : vwCl[11]? = some (RX11, TX11, 59)) inX11_open_11 12 (by decide) rfl lX11_open_42 dX11_open_171 ?_
    refine lv_iconst (v := 0) C.1.1 C.1.2.1 dX11_open_174 (by decide) ?_
    refine ns_iald C w 73 (hI 73 (by decide)) sh_73 hf rfl dX11_open_175 (fun x1 hf => ?_)
    refine ns_icmp_ge C hf (tgt := 199) dX11_open_176 (by decide) (fun hf => ?_) (fun hf => ?_)
    · refine lv_aload_n C.1.1 C.1.2.1 dX11_open_199 rfl (lv_at hl 0 rfl) ?_
      refine ns_callV C w 62 (hI 62 (by decide)) sh_62 (rfl : vwCl[11]? = some (RX11, TX11, 59)) [] hf (fun u hu => mX11_moveUp_62 l D b ids hI N _ hu) gX11_open_X11_moveUp rfl rfl rfl hdX11_moveUp ⟨Nat.le_of_ble_eq_true rfl, Nat.le_of_ble_eq_true rfl⟩ (fun u h => ((h.A (List.mem_of_getElem? (i := 10) rfl) _).A (List.mem_of_getElem? (i := 9) rfl) _)) rfl hl.1 rfl (Nat.le_of_ble_eq_true rfl) ⟨Nat.le_refl _, Nat.le_refl _⟩ dX11_open_200 (fun o2 H locs hf w => ?_)
      refine lv_iload_n C.1.1 C.1.2.1 dX11_open_203 rfl (lv_at hl 1 rfl) ?_
      have he := Option.some.inj hf
      subst he
      exact ns_iret C w hr hlk rfl rfl dX11_open_204
    · refine lv_aload_n C.1.1 C.1.2.1 dX11_open_179 rfl (lv_at hl 0 rfl) ?_
      refine ns_getr C w 62 (hI 62 (by decide)) sh_62 (rfl : vwCl[11]? = some (RX11, TX11, 59)) inX11_open_11 23 (by decide) rfl lX11_open_75 dX11_open_180 ?_
      refine lv_iload C.1.1 C.1.2.1 dX11_open_183 (lv_at hl 2 rfl) ?_
      refine lv_aload_n C.1.1 C.1.2.1 dX11_open_185 rfl (lv_at hl 0 rfl) ?_
      refine ns_getr C w 62 (hI 62 (by decide)) sh_62 (rfl : vwCl[11]? = some (RX11, TX11, 59)) inX11_open_11 55 (by decide) rfl lX11_open_142 dX11_open_186 ?_
      refine lv_iload C.1.1 C.1.2.1 dX11_open_189 (lv_at hl 2 rfl) ?_
      refine ns_iald C w 105 (hI 105 (by decide)) sh_105 hf rfl dX11_open_191 (fun x3 hf => ?_)
      refine ns_iast C w 84 (hI 84 (by decide)) sh_84 hf rfl (List.mem_of_getElem? (i := 9) rfl) dX11_open_192 (fun y4 H locs hf w => ?_)
      refine ns_iinc (lv' := fun x5 => [(4, .int x5), (0, .ref (b 62)), (3, .int l3)]) C hf dX11_open_193 hl (k := 2) rfl rfl (by decide) (fun _ => rfl) (fun x5 ls hl hf => ?_)
      refine lv_goto (tgt := 168) C.1.1 C.1.2.1 dX11_open_196 (by decide) ?_
      exact K168 w (lv_sub hl [1, 2, 0] rfl) hf
set_option maxHeartbeats 4000000 in
set_option maxRecDepth 100000 in
theorem wX11_open_62_86 {p : Program} {l : Launch} {e : Env} {s : State} {m : MethodId} {args : Array Value} {below : List Frame} {meth : Method} {c : Code} {D : va_G} {b : Nat → Nat} {ids : List Nat} {A : Nat → Prop} {S0 : ns_S} {o : Int32 × Int32 × (Nat → Int32) × (Nat → Int32) × (Nat → Int32) × (Nat → Int32) × (Nat → Int32) × (Nat → Int32) × (Nat → Int32) × (Nat → Int32) × (Nat → Int32) × (Nat → Int32) × (Nat → Int32) × (Nat → Int32)} (N : Nat) (hI : ∀ i, i < 107 → i ∈ ids) (C : ns_C p m c cX11_open 6 s args wsX11_open RX11 D A) (hr : meth.sig.returnType = some .int) (hlk : meth.locks = false) : ∀ n : Nat, ∀ {S : ns_S} {H : Heap} {locs : List Loc} {ls : Array Slot} {l1 : Int32} {l3 : Int32} {l4 : Int32}, ns_W D b ids A s.heap wrX11_open_62 S0 S H locs → lv_has ls 6 [(0, .ref (b 62)), (1, .int l1), (3, .int l3), (4, .int l4)] → fX11_open_86 N n (S.1 3968) (S.2.1 79) (S.2.1 67) (S.2.1 65) (S.2.1 68) (S.2.1 69) (S.2.1 71) (S.2.1 104) (S.2.1 70) (S.2.1 103) (S.2.1 66) (S.2.1 73) (S.2.1 105) (S.2.1 76) (S.2.1 77) (S.2.1 78) (S.2.1 80) (S.2.1 81) (S.2.1 82) (S.2.1 83) (S.2.1 84) (S.2.1 85) (S.2.1 86) (S.2.1 87) l1 l3 l4 = some o → W p l e rmX11_open_62 s m args below meth c H locs 0 0 (MQ below (ns_Q D b ids (ns_I (ns_A (ns_A (ns_A (ns_A (ns_A (ns_A (ns_A (ns_A (ns_A (ns_A (ns_A (ns_A S0 87 o.2.2.2.2.2.2.2.2.2.2.2.2.2) 86 o.2.2.2.2.2.2.2.2.2.2.2.2.1) 85 o.2.2.2.2.2.2.2.2.2.2.2.1) 84 o.2.2.2.2.2.2.2.2.2.2.1) 83 o.2.2.2.2.2.2.2.2.2.1) 82 o.2.2.2.2.2.2.2.2.1) 81 o.2.2.2.2.2.2.2.1) 80 o.2.2.2.2.2.2.1) 79 o.2.2.2.2.2.1) 105 o.2.2.2.2.1) 104 o.2.2.2.1) 103 o.2.2.1) 3968 o.2.1) (some (.int o.1)) A) args s 0 0 A) (F0 m 86 ls []) := by
  intro n
  induction n with
  | zero =>
    intro S H locs ls l1 l3 l4 w hl hf
    cases hf
  | succ n K86 =>
    intro S H locs ls l1 l3 l4 w hl hf
    change gX11_open_86 N (fX11_open_86 N n) (S.1 3968) (S.2.1 79) (S.2.1 67) (S.2.1 65) (S.2.1 68) (S.2.1 69) (S.2.1 71) (S.2.1 104) (S.2.1 70) (S.2.1 103) (S.2.1 66) (S.2.1 73) (S.2.1 105) (S.2.1 76) (S.2.1 77) (S.2.1 78) (S.2.1 80) (S.2.1 81) (S.2.1 82) (S.2.1 83) (S.2.1 84) (S.2.1 85) (S.2.1 86) (S.2.1 87) l1 l3 l4 = some o at hf
    generalize fX11_open_86 N n = r86 at hf K86
    unfold gX11_open_86 at hf
    refine lv_iload C.1.1 C.1.2.1 dX11_open_86 (lv_at hl 3 rfl) ?_
    refine lv_aload_n C.1.1 C.1.2.1 dX11_open_88 rfl (lv_at hl 0 rfl) ?_
    refine ns_getr C w 62 (hI 62 (by decide)) sh_62 (rfl : vwCl[11]? = some (RX11, TX11, 59)) inX11_open_11 6 (by decide) rfl lX11_open_24 dX11_open_89 ?_
    refine lv_iconst (v := 0) C.1.1 C.1.2.1 dX11_open_92 (by decide) ?_
    refine ns_iald C w 67 (hI 67 (by decide)) sh_67 hf rfl dX11_open_93 (fun x1 hf => ?_)
    refine ns_icmp_ge C hf (tgt := 165) dX11_open_94 (by decide) (fun hf => ?_) (fun hf => ?_)
    · refine lv_iconst (v := 0) C.1.1 C.1.2.1 dX11_open_165 (by decide) ?_
      refine lv_istore (lv' := [(4, .int 0), (0, .ref (b 62)), (1, .int l1), (3, .int l3)]) C.1.1 C.1.2.1 dX11_open_166 hl (by decide) rfl (fun ls hl => ?_)
      exact wX11_open_62_168 N hI C hr hlk N w (lv_sub hl [1, 3, 0] rfl) hf
    · refine lv_iload_n C.1.1 C.1.2.1 dX11_open_97 rfl (lv_at hl 1 rfl) ?_
      refine lv_iload C.1.1 C.1.2.1 dX11_open_98 (lv_at hl 3 rfl) ?_
      refine lv_ishr C.1.1 C.1.2.1 dX11_open_100 ?_
      refine lv_iconst (v := 1) C.1.1 C.1.2.1 dX11_open_101 (by decide) ?_
      refine lv_iand C.1.1 C.1.2.1 dX11_open_102 ?_
      refine ns_if_eq C hf (tgt := 110) dX11_open_103 (by decide) (fun hf => ?_) (fun hf => ?_)
      · refine lv_iconst (v := 0) C.1.1 C.1.2.1 dX11_open_110 (by decide) ?_
        exact wX11_open_62_111 N hI C hr hlk K86 w (lv_sub hl [0, 1, 2, 3] rfl) hf
      · refine lv_iconst (v := 1) C.1.1 C.1.2.1 dX11_open_106 (by decide) ?_
        refine lv_goto (tgt := 111) C.1.1 C.1.2.1 dX11_open_107 (by decide) ?_
        exact wX11_open_62_111 N hI C hr hlk K86 w (lv_sub hl [0, 1, 2, 3] rfl) hf
set_option maxHeartbeats 4000000 in
set_option maxRecDepth 100000 in
theorem wX11_open_62_23 {p : Program} {l : Launch} {e : Env} {s : State} {m : MethodId} {args : Array Value} {below : List Frame} {meth : Method} {c : Code} {D : va_G} {b : Nat → Nat} {ids : List Nat} {A : Nat → Prop} {S0 : ns_S} {o : Int32 × Int32 × (Nat → Int32) × (Nat → Int32) × (Nat → Int32) × (Nat → Int32) × (Nat → Int32) × (Nat → Int32) × (Nat → Int32) × (Nat → Int32) × (Nat → Int32) × (Nat → Int32) × (Nat → Int32) × (Nat → Int32)} (N : Nat) (hI : ∀ i, i < 107 → i ∈ ids) (C : ns_C p m c cX11_open 6 s args wsX11_open RX11 D A) (hr : meth.sig.returnType = some .int) (hlk : meth.locks = false) : ∀ n : Nat, ∀ {S : ns_S} {H : Heap} {locs : List Loc} {ls : Array Slot} {l1 : Int32} {l2 : Int32} {l3 : Int32}, ns_W D b ids A s.heap wrX11_open_62 S0 S H locs → lv_has ls 6 [(0, .ref (b 62)), (1, .int l1), (2, .int l2), (3, .int l3)] → fX11_open_23 N n (S.1 3968) (S.2.1 79) (S.2.1 67) (S.2.1 65) (S.2.1 68) (S.2.1 69) (S.2.1 71) (S.2.1 104) (S.2.1 70) (S.2.1 103) (S.2.1 66) (S.2.1 73) (S.2.1 105) (S.2.1 76) (S.2.1 77) (S.2.1 78) (S.2.1 80) (S.2.1 81) (S.2.1 82) (S.2.1 83) (S.2.1 84) (S.2.1 85) (S.2.1 86) (S.2.1 87) l1 l2 l3 = some o → W p l e rmX11_open_62 s m args below meth c H locs 0 0 (MQ below (ns_Q D b ids (ns_I (ns_A (ns_A (ns_A (ns_A (ns_A (ns_A (ns_A (ns_A (ns_A (ns_A (ns_A (ns_A S0 87 o.2.2.2.2.2.2.2.2.2.2.2.2.2) 86 o.2.2.2.2.2.2.2.2.2.2.2.2.1) 85 o.2.2.2.2.2.2.2.2.2.2.2.1) 84 o.2.2.2.2.2.2.2.2.2.2.1) 83 o.2.2.2.2.2.2.2.2.2.1) 82 o.2.2.2.2.2.2.2.2.1) 81 o.2.2.2.2.2.2.2.1) 80 o.2.2.2.2.2.2.1) 79 o.2.2.2.2.2.1) 105 o.2.2.2.2.1) 104 o.2.2.2.1) 103 o.2.2.1) 3968 o.2.1) (some (.int o.1)) A) args s 0 0 A) (F0 m 23 ls []) := by
  intro n
  induction n with
  | zero =>
    intro S H locs ls l1 l2 l3 w hl hf
    cases hf
  | succ n K23 =>
    intro S H locs ls l1 l2 l3 w hl hf
    change gX11_open_23 N (fX11_open_23 N n) (S.1 3968) (S.2.1 79) (S.2.1 67) (S.2.1 65) (S.2.1 68) (S.2.1 69) (S.2.1 71) (S.2.1 104) (S.2.1 70) (S.2.1 103) (S.2.1 66) (S.2.1 73) (S.2.1 105) (S.2.1 76) (S.2.1 77) (S.2.1 78) (S.2.1 80) (S.2.1 81) (S.2.1 82) (S.2.1 83) (S.2.1 84) (S.2.1 85) (S.2.1 86) (S.2.1 87) l1 l2 l3 = some o at hf
    generalize fX11_open_23 N n = r23 at hf K23
    unfold gX11_open_23 at hf
    refine lv_iload_n C.1.1 C.1.2.1 dX11_open_23 rfl (lv_at hl 3 rfl) ?_
    refine lv_iconst (v := 1) C.1.1 C.1.2.1 dX11_open_24 (by decide) ?_
    refine lv_aload_n C.1.1 C.1.2.1 dX11_open_25 rfl (lv_at hl 0 rfl) ?_
    refine ns_getr C w 62 (hI 62 (by decide)) sh_62 (rfl : vwCl[11]? = some (RX11, TX11, 59)) inX11_open_11 6 (by decide) rfl lX11_open_24 dX11_open_26 ?_
    refine lv_iconst (v := 0) C.1.1 C.1.2.1 dX11_open_29 (by decide) ?_
    refine ns_iald C w 67 (hI 67 (by decide)) sh_67 hf rfl dX11_open_30 (fun x1 hf => ?_)
    refine lv_ishl C.1.1 C.1.2.1 dX11_open_31 ?_
    refine ns_icmp_ge C hf (tgt := 59) dX11_open_32 (by decide) (fun hf => ?_) (fun hf => ?_)
    · refine lv_aload_n C.1.1 C.1.2.1 dX11_open_59 rfl (lv_at hl 0 rfl) ?_
      refine lv_iload_n C.1.1 C.1.2.1 dX11_open_60 rfl (lv_at hl 1 rfl) ?_
      refine ns_callV C w 62 (hI 62 (by decide)) sh_62 (rfl : vwCl[11]? = some (RX11, TX11, 59)) [.int l1] hf (fun u hu => mX11_placed_62 l D b ids hI N _ l1 hu) gX11_open_X11_placed rfl rfl rfl hdX11_placed ⟨Nat.le_of_ble_eq_true rfl, Nat.le_of_ble_eq_true rfl⟩ (fun u h => (((h.A (List.mem_of_getElem? (i := 3) rfl) _).A (List.mem_of_getElem? (i := 2) rfl) _).A (List.mem_of_getElem? (i := 1) rfl) _)) rfl hl.1 rfl (Nat.le_of_ble_eq_true rfl) ⟨Nat.le_refl _, Nat.le_refl _⟩ dX11_open_61 (fun o2 H locs hf w => ?_)
      refine lv_istore_n (lv' := [(3, .int o2.1), (0, .ref (b 62)), (1, .int l1), (2, .int l2)]) C.1.1 C.1.2.1 dX11_open_64 rfl hl (by decide) rfl (fun ls hl => ?_)
      refine lv_aload_n C.1.1 C.1.2.1 dX11_open_65 rfl (lv_at hl 1 rfl) ?_
      refine ns_getr C w 62 (hI 62 (by decide)) sh_62 (rfl : vwCl[11]? = some (RX11, TX11, 59)) inX11_open_11 18 (by decide) rfl lX11_open_60 dX11_open_66 ?_
      refine lv_iconst (v := 0) C.1.1 C.1.2.1 dX11_open_69 (by decide) ?_
      refine lv_iconst (v := 0) C.1.1 C.1.2.1 dX11_open_70 (by decide) ?_
      refine ns_iast C w 79 (hI 79 (by decide)) sh_79 hf rfl (List.mem_of_getElem? (i := 4) rfl) dX11_open_71 (fun y3 H locs hf w => ?_)
      refine lv_aload_n C.1.1 C.1.2.1 dX11_open_72 rfl (lv_at hl 1 rfl) ?_
      refine ns_getr C w 62 (hI 62 (by decide)) sh_62 (rfl : vwCl[11]? = some (RX11, TX11, 59)) inX11_open_11 19 (by decide) rfl lX11_open_63 dX11_open_73 ?_
      refine lv_iconst (v := 0) C.1.1 C.1.2.1 dX11_open_76 (by decide) ?_
      refine lv_iload_n C.1.1 C.1.2.1 dX11_open_77 rfl (lv_at hl 2 rfl) ?_
      refine ns_iast C w 80 (hI 80 (by decide)) sh_80 hf rfl (List.mem_of_getElem? (i := 5) rfl) dX11_open_78 (fun y4 H locs hf w => ?_)
      refine lv_aload_n C.1.1 C.1.2.1 dX11_open_79 rfl (lv_at hl 1 rfl) ?_
      refine ns_callV C w 62 (hI 62 (by decide)) sh_62 (rfl : vwCl[11]? = some (RX11, TX11, 59)) [] hf (fun u hu => mX11_begins_62 l D b ids hI N _ hu) gX11_open_X11_begins rfl rfl rfl hdX11_begins ⟨Nat.le_of_ble_eq_true rfl, Nat.le_of_ble_eq_true rfl⟩ (fun u h => (((((((h.A (List.mem_of_getElem? (i := 12) rfl) _).A (List.mem_of_getElem? (i := 11) rfl) _).A (List.mem_of_getElem? (i := 10) rfl) _).A (List.mem_of_getElem? (i := 9) rfl) _).A (List.mem_of_getElem? (i := 8) rfl) _).A (List.mem_of_getElem? (i := 7) rfl) _).A (List.mem_of_getElem? (i := 6) rfl) _)) rfl hl.1 rfl (Nat.le_of_ble_eq_true rfl) ⟨Nat.le_refl _, Nat.le_refl _⟩ dX11_open_80 (fun o5 H locs hf w => ?_)
      refine lv_iconst (v := 0) C.1.1 C.1.2.1 dX11_open_83 (by decide) ?_
      refine lv_istore (lv' := [(4, .int 0), (3, .int o2.1), (0, .ref (b 62)), (1, .int l1), (2, .int l2)]) C.1.1 C.1.2.1 dX11_open_84 hl (by decide) rfl (fun ls hl => ?_)
      exact wX11_open_62_86 N hI C hr hlk N w (lv_sub hl [2, 3, 1, 0] rfl) hf
    · refine lv_aload_n C.1.1 C.1.2.1 dX11_open_35 rfl (lv_at hl 0 rfl) ?_
      refine lv_iload_n C.1.1 C.1.2.1 dX11_open_36 rfl (lv_at hl 3 rfl) ?_
      refine ns_callV C w 62 (hI 62 (by decide)) sh_62 (rfl : vwCl[11]? = some (RX11, TX11, 59)) [.int l3] hf (fun u hu => mX11_placed_62 l D b ids hI N _ l3 hu) gX11_open_X11_placed rfl rfl rfl hdX11_placed ⟨Nat.le_of_ble_eq_true rfl, Nat.le_of_ble_eq_true rfl⟩ (fun u h => (((h.A (List.mem_of_getElem? (i := 3) rfl) _).A (List.mem_of_getElem? (i := 2) rfl) _).A (List.mem_of_getElem? (i := 1) rfl) _)) rfl hl.1 rfl (Nat.le_of_ble_eq_true rfl) ⟨Nat.le_refl _, Nat.le_refl _⟩ dX11_open_37 (fun o6 H locs hf w => ?_)
      refine lv_istore (lv' := [(4, .int o6.1), (0, .ref (b 62)), (1, .int l1), (2, .int l2), (3, .int l3)]) C.1.1 C.1.2.1 dX11_open_40 hl (by decide) rfl (fun ls hl => ?_)
      refine lv_iload C.1.1 C.1.2.1 dX11_open_42 (lv_at hl 0 rfl) ?_
      refine lv_iload_n C.1.1 C.1.2.1 dX11_open_44 rfl (lv_at hl 3 rfl) ?_
      refine ns_icmp_le C hf (tgt := 53) dX11_open_45 (by decide) (fun hf => ?_) (fun hf => ?_)
      · refine ns_iinc (lv' := fun x7 => [(3, .int x7), (4, .int o6.1), (0, .ref (b 62)), (1, .int l1), (2, .int l2)]) C hf dX11_open_53 hl (k := 4) rfl rfl (by decide) (fun _ => rfl) (fun x7 ls hl hf => ?_)
        refine lv_goto (tgt := 23) C.1.1 C.1.2.1 dX11_open_56 (by decide) ?_
        exact K23 w (lv_sub hl [2, 3, 4, 0] rfl) hf
      · refine lv_iload C.1.1 C.1.2.1 dX11_open_48 (lv_at hl 0 rfl) ?_
        refine lv_istore_n (lv' := [(2, .int o6.1), (4, .int o6.1), (0, .ref (b 62)), (1, .int l1), (3, .int l3)]) C.1.1 C.1.2.1 dX11_open_50 rfl hl (by decide) rfl (fun ls hl => ?_)
        refine lv_iload_n C.1.1 C.1.2.1 dX11_open_51 rfl (lv_at hl 4 rfl) ?_
        refine lv_istore_n (lv' := [(1, .int l3), (2, .int o6.1), (4, .int o6.1), (0, .ref (b 62)), (3, .int l3)]) C.1.1 C.1.2.1 dX11_open_52 rfl hl (by decide) rfl (fun ls hl => ?_)
        refine ns_iinc (lv' := fun x8 => [(3, .int x8), (1, .int l3), (2, .int o6.1), (4, .int o6.1), (0, .ref (b 62))]) C hf dX11_open_53 hl (k := 4) rfl rfl (by decide) (fun _ => rfl) (fun x8 ls hl hf => ?_)
        refine lv_goto (tgt := 23) C.1.1 C.1.2.1 dX11_open_56 (by decide) ?_
        exact K23 w (lv_sub hl [4, 1, 2, 0] rfl) hf
set_option maxHeartbeats 4000000 in
set_option maxRecDepth 100000 in
theorem mX11_open_62 (l : Launch) (D : va_G) (b : Nat → Nat) (ids : List Nat) (hI : ∀ i, i < 107 → i ∈ ids) (N : Nat) (S : ns_S) {o : Int32 × Int32 × (Nat → Int32) × (Nat → Int32) × (Nat → Int32) × (Nat → Int32) × (Nat → Int32) × (Nat → Int32) × (Nat → Int32) × (Nat → Int32) × (Nat → Int32) × (Nat → Int32) × (Nat → Int32) × (Nat → Int32)} (hf : fX11_open N (S.1 3968) (S.2.1 79) (S.2.1 67) (S.2.1 65) (S.2.1 68) (S.2.1 69) (S.2.1 71) (S.2.1 104) (S.2.1 70) (S.2.1 103) (S.2.1 66) (S.2.1 73) (S.2.1 105) (S.2.1 76) (S.2.1 77) (S.2.1 78) (S.2.1 80) (S.2.1 81) (S.2.1 82) (S.2.1 83) (S.2.1 84) (S.2.1 85) (S.2.1 86) (S.2.1 87) = some o) : ns_M l yX11_open wsX11_open rmX11_open_62 D b ids S [.ref (b 62)] (some (.int o.1)) (ns_I (ns_A (ns_A (ns_A (ns_A (ns_A (ns_A (ns_A (ns_A (ns_A (ns_A (ns_A (ns_A S 87 o.2.2.2.2.2.2.2.2.2.2.2.2.2) 86 o.2.2.2.2.2.2.2.2.2.2.2.2.1) 85 o.2.2.2.2.2.2.2.2.2.2.2.1) 84 o.2.2.2.2.2.2.2.2.2.2.1) 83 o.2.2.2.2.2.2.2.2.2.1) 82 o.2.2.2.2.2.2.2.2.1) 81 o.2.2.2.2.2.2.2.1) 80 o.2.2.2.2.2.2.1) 79 o.2.2.2.2.2.1) 105 o.2.2.2.2.1) 104 o.2.2.2.1) 103 o.2.2.1) 3968 o.2.1) := by
  refine ns_start (Wr := wrX11_open_62) (by decide) rfl (Nat.le_of_ble_eq_true rfl) ?_
  intro p e s m below meth c A ls C hr hlk w hl
  have hl : lv_has ls 6 [(0, .ref (b 62))] := hl
  unfold fX11_open at hf
  refine lv_aload_n C.1.1 C.1.2.1 dX11_open_0 rfl (lv_at hl 0 rfl) ?_
  refine lv_iconst (v := 0) C.1.1 C.1.2.1 dX11_open_1 (by decide) ?_
  refine ns_puti C w 62 (hI 62 (by decide)) sh_62 (rfl : vwCl[11]? = some (RX11, TX11, 59)) inX11_open_11 tyX11_ok nmX11 0 (by decide) rfl lX11_open_179 rfl rfl rfl (List.mem_of_getElem? (i := 0) rfl) dX11_open_2 (fun H locs w => ?_)
  refine lv_aload_n C.1.1 C.1.2.1 dX11_open_5 rfl (lv_at hl 0 rfl) ?_
  refine ns_getr C w 62 (hI 62 (by decide)) sh_62 (rfl : vwCl[11]? = some (RX11, TX11, 59)) inX11_open_11 18 (by decide) rfl lX11_open_60 dX11_open_6 ?_
  refine lv_iconst (v := 0) C.1.1 C.1.2.1 dX11_open_9 (by decide) ?_
  refine ns_iald C w 79 (hI 79 (by decide)) sh_79 hf rfl dX11_open_10 (fun x1 hf => ?_)
  refine lv_iconst (v := (-1)) C.1.1 C.1.2.1 dX11_open_11 (by decide) ?_
  refine ns_icmp_eq C hf (tgt := 17) dX11_open_12 (by decide) (fun hf => ?_) (fun hf => ?_)
  · refine lv_iconst (v := 0) C.1.1 C.1.2.1 dX11_open_17 (by decide) ?_
    refine lv_istore_n (lv' := [(1, .int 0), (0, .ref (b 62))]) C.1.1 C.1.2.1 dX11_open_18 rfl hl (by decide) rfl (fun ls hl => ?_)
    refine lv_iconst (v := 0) C.1.1 C.1.2.1 dX11_open_19 (by decide) ?_
    refine lv_istore_n (lv' := [(2, .int 0), (1, .int 0), (0, .ref (b 62))]) C.1.1 C.1.2.1 dX11_open_20 rfl hl (by decide) rfl (fun ls hl => ?_)
    refine lv_iconst (v := 1) C.1.1 C.1.2.1 dX11_open_21 (by decide) ?_
    refine lv_istore_n (lv' := [(3, .int 1), (2, .int 0), (1, .int 0), (0, .ref (b 62))]) C.1.1 C.1.2.1 dX11_open_22 rfl hl (by decide) rfl (fun ls hl => ?_)
    exact wX11_open_62_23 N hI C hr hlk N w (lv_sub hl [3, 2, 1, 0] rfl) hf
  · refine lv_iconst (v := (-1)) C.1.1 C.1.2.1 dX11_open_15 (by decide) ?_
    have he := Option.some.inj hf
    subst he
    exact ns_iret C w hr hlk rfl rfl dX11_open_16
abbrev wrJ7_fill_53178_44 : List (Nat × Nat) := [(1, 44)]
abbrev rmJ7_fill_53178_44 : Room := { frames := 0, cells := 0, slots := 0, locals := 0 }
set_option maxHeartbeats 4000000 in
set_option maxRecDepth 100000 in
theorem wJ7_fill_53178_44_5 {p : Program} {l : Launch} {e : Env} {s : State} {m : MethodId} {args : Array Value} {below : List Frame} {meth : Method} {c : Code} {D : va_G} {b : Nat → Nat} {ids : List Nat} {A : Nat → Prop} {S0 : ns_S} {o : (Nat → Int32)} (N : Nat) (hI : ∀ i, i < 107 → i ∈ ids) (C : ns_C p m c cJ7_fill_53178 4 s args wsJ7_fill_53178 RJ7 D A) (hr : meth.sig.returnType = none) (hlk : meth.locks = false) : ∀ n : Nat, ∀ {S : ns_S} {H : Heap} {locs : List Loc} {ls : Array Slot} {l1 : Int32} {l2 : Int32} {l3 : Int32}, ns_W D b ids A s.heap wrJ7_fill_53178_44 S0 S H locs → lv_has ls 4 [(0, .ref (b 44)), (1, .int l1), (2, .int l2), (3, .int l3)] → fJ7_fill_53178_5 N 10 n (S.2.1 44) l1 l2 l3 = some o → W p l e rmJ7_fill_53178_44 s m args below meth c H locs 0 0 (MQ below (ns_Q D b ids (ns_A S0 44 o) none A) args s 0 0 A) (F0 m 5 ls []) := by
  intro n
  induction n with
  | zero =>
    intro S H locs ls l1 l2 l3 w hl hf
    cases hf
  | succ n K5 =>
    intro S H locs ls l1 l2 l3 w hl hf
    change gJ7_fill_53178_5 N 10 (fJ7_fill_53178_5 N 10 n) (S.2.1 44) l1 l2 l3 = some o at hf
    generalize fJ7_fill_53178_5 N 10 n = r5 at hf K5
    unfold gJ7_fill_53178_5 at hf
    refine lv_iload_n C.1.1 C.1.2.1 dJ7_fill_53178_5 rfl (lv_at hl 2 rfl) ?_
    refine lv_iload_n C.1.1 C.1.2.1 dJ7_fill_53178_6 rfl (lv_at hl 3 rfl) ?_
    refine ns_icmp_ge C hf (tgt := 20) dJ7_fill_53178_7 (by decide) (fun hf => ?_) (fun hf => ?_)
    · have he := Option.some.inj hf
      subst he
      exact ns_vret C w hr hlk rfl rfl dJ7_fill_53178_20
    · refine lv_aload_n C.1.1 C.1.2.1 dJ7_fill_53178_10 rfl (lv_at hl 0 rfl) ?_
      refine lv_iload_n C.1.1 C.1.2.1 dJ7_fill_53178_11 rfl (lv_at hl 2 rfl) ?_
      refine lv_iload_n C.1.1 C.1.2.1 dJ7_fill_53178_12 rfl (lv_at hl 1 rfl) ?_
      refine ns_iast C w 44 (hI 44 (by decide)) sh_44 hf rfl (List.mem_of_getElem? (i := 0) rfl) dJ7_fill_53178_13 (fun y1 H locs hf w => ?_)
      refine ns_iinc (lv' := fun x2 => [(2, .int x2), (0, .ref (b 44)), (1, .int l1), (3, .int l3)]) C hf dJ7_fill_53178_14 hl (k := 2) rfl rfl (by decide) (fun _ => rfl) (fun x2 ls hl hf => ?_)
      refine lv_goto (tgt := 5) C.1.1 C.1.2.1 dJ7_fill_53178_17 (by decide) ?_
      exact K5 w (lv_sub hl [1, 2, 0, 3] rfl) hf
set_option maxHeartbeats 4000000 in
set_option maxRecDepth 100000 in
theorem mJ7_fill_53178_44 (l : Launch) (D : va_G) (b : Nat → Nat) (ids : List Nat) (hI : ∀ i, i < 107 → i ∈ ids) (N : Nat) (S : ns_S) (p1 : Int32) {o : (Nat → Int32)} (hf : fJ7_fill_53178 N 10 (S.2.1 44) p1 = some o) : ns_M l yJ7_fill_53178 wsJ7_fill_53178 rmJ7_fill_53178_44 D b ids S [.ref (b 44), .int p1] none (ns_A S 44 o) := by
  refine ns_start (Wr := wrJ7_fill_53178_44) (by decide) rfl (Nat.le_of_ble_eq_true rfl) ?_
  intro p e s m below meth c A ls C hr hlk w hl
  have hl : lv_has ls 4 [(0, .ref (b 44)), (1, .int p1)] := hl
  unfold fJ7_fill_53178 at hf
  refine lv_iconst (v := 0) C.1.1 C.1.2.1 dJ7_fill_53178_0 (by decide) ?_
  refine lv_istore_n (lv' := [(2, .int 0), (0, .ref (b 44)), (1, .int p1)]) C.1.1 C.1.2.1 dJ7_fill_53178_1 rfl hl (by decide) rfl (fun ls hl => ?_)
  refine lv_aload_n C.1.1 C.1.2.1 dJ7_fill_53178_2 rfl (lv_at hl 1 rfl) ?_
  refine ns_alen (v := Int32.ofNat 10) C w 44 (hI 44 (by decide)) sh_44 rfl dJ7_fill_53178_3 ?_
  refine ns_namei hf (fun x1 hf => ?_)
  refine lv_istore_n (lv' := [(3, .int x1), (2, .int 0), (0, .ref (b 44)), (1, .int p1)]) C.1.1 C.1.2.1 dJ7_fill_53178_4 rfl hl (by decide) rfl (fun ls hl => ?_)
  exact wJ7_fill_53178_44_5 N hI C hr hlk N w (lv_sub hl [2, 3, 1, 0] rfl) hf
abbrev wrJ7_fill_53178_45 : List (Nat × Nat) := [(1, 45)]
abbrev rmJ7_fill_53178_45 : Room := { frames := 0, cells := 0, slots := 0, locals := 0 }
set_option maxHeartbeats 4000000 in
set_option maxRecDepth 100000 in
theorem wJ7_fill_53178_45_5 {p : Program} {l : Launch} {e : Env} {s : State} {m : MethodId} {args : Array Value} {below : List Frame} {meth : Method} {c : Code} {D : va_G} {b : Nat → Nat} {ids : List Nat} {A : Nat → Prop} {S0 : ns_S} {o : (Nat → Int32)} (N : Nat) (hI : ∀ i, i < 107 → i ∈ ids) (C : ns_C p m c cJ7_fill_53178 4 s args wsJ7_fill_53178 RJ7 D A) (hr : meth.sig.returnType = none) (hlk : meth.locks = false) : ∀ n : Nat, ∀ {S : ns_S} {H : Heap} {locs : List Loc} {ls : Array Slot} {l1 : Int32} {l2 : Int32} {l3 : Int32}, ns_W D b ids A s.heap wrJ7_fill_53178_45 S0 S H locs → lv_has ls 4 [(0, .ref (b 45)), (1, .int l1), (2, .int l2), (3, .int l3)] → fJ7_fill_53178_5 N 10 n (S.2.1 45) l1 l2 l3 = some o → W p l e rmJ7_fill_53178_45 s m args below meth c H locs 0 0 (MQ below (ns_Q D b ids (ns_A S0 45 o) none A) args s 0 0 A) (F0 m 5 ls []) := by
  intro n
  induction n with
  | zero =>
    intro S H locs ls l1 l2 l3 w hl hf
    cases hf
  | succ n K5 =>
    intro S H locs ls l1 l2 l3 w hl hf
    change gJ7_fill_53178_5 N 10 (fJ7_fill_53178_5 N 10 n) (S.2.1 45) l1 l2 l3 = some o at hf
    generalize fJ7_fill_53178_5 N 10 n = r5 at hf K5
    unfold gJ7_fill_53178_5 at hf
    refine lv_iload_n C.1.1 C.1.2.1 dJ7_fill_53178_5 rfl (lv_at hl 2 rfl) ?_
    refine lv_iload_n C.1.1 C.1.2.1 dJ7_fill_53178_6 rfl (lv_at hl 3 rfl) ?_
    refine ns_icmp_ge C hf (tgt := 20) dJ7_fill_53178_7 (by decide) (fun hf => ?_) (fun hf => ?_)
    · have he := Option.some.inj hf
      subst he
      exact ns_vret C w hr hlk rfl rfl dJ7_fill_53178_20
    · refine lv_aload_n C.1.1 C.1.2.1 dJ7_fill_53178_10 rfl (lv_at hl 0 rfl) ?_
      refine lv_iload_n C.1.1 C.1.2.1 dJ7_fill_53178_11 rfl (lv_at hl 2 rfl) ?_
      refine lv_iload_n C.1.1 C.1.2.1 dJ7_fill_53178_12 rfl (lv_at hl 1 rfl) ?_
      refine ns_iast C w 45 (hI 45 (by decide)) sh_45 hf rfl (List.mem_of_getElem? (i := 0) rfl) dJ7_fill_53178_13 (fun y1 H locs hf w => ?_)
      refine ns_iinc (lv' := fun x2 => [(2, .int x2), (0, .ref (b 45)), (1, .int l1), (3, .int l3)]) C hf dJ7_fill_53178_14 hl (k := 2) rfl rfl (by decide) (fun _ => rfl) (fun x2 ls hl hf => ?_)
      refine lv_goto (tgt := 5) C.1.1 C.1.2.1 dJ7_fill_53178_17 (by decide) ?_
      exact K5 w (lv_sub hl [1, 2, 0, 3] rfl) hf
set_option maxHeartbeats 4000000 in
set_option maxRecDepth 100000 in
theorem mJ7_fill_53178_45 (l : Launch) (D : va_G) (b : Nat → Nat) (ids : List Nat) (hI : ∀ i, i < 107 → i ∈ ids) (N : Nat) (S : ns_S) (p1 : Int32) {o : (Nat → Int32)} (hf : fJ7_fill_53178 N 10 (S.2.1 45) p1 = some o) : ns_M l yJ7_fill_53178 wsJ7_fill_53178 rmJ7_fill_53178_45 D b ids S [.ref (b 45), .int p1] none (ns_A S 45 o) := by
  refine ns_start (Wr := wrJ7_fill_53178_45) (by decide) rfl (Nat.le_of_ble_eq_true rfl) ?_
  intro p e s m below meth c A ls C hr hlk w hl
  have hl : lv_has ls 4 [(0, .ref (b 45)), (1, .int p1)] := hl
  unfold fJ7_fill_53178 at hf
  refine lv_iconst (v := 0) C.1.1 C.1.2.1 dJ7_fill_53178_0 (by decide) ?_
  refine lv_istore_n (lv' := [(2, .int 0), (0, .ref (b 45)), (1, .int p1)]) C.1.1 C.1.2.1 dJ7_fill_53178_1 rfl hl (by decide) rfl (fun ls hl => ?_)
  refine lv_aload_n C.1.1 C.1.2.1 dJ7_fill_53178_2 rfl (lv_at hl 1 rfl) ?_
  refine ns_alen (v := Int32.ofNat 10) C w 45 (hI 45 (by decide)) sh_45 rfl dJ7_fill_53178_3 ?_
  refine ns_namei hf (fun x1 hf => ?_)
  refine lv_istore_n (lv' := [(3, .int x1), (2, .int 0), (0, .ref (b 45)), (1, .int p1)]) C.1.1 C.1.2.1 dJ7_fill_53178_4 rfl hl (by decide) rfl (fun ls hl => ?_)
  exact wJ7_fill_53178_45_5 N hI C hr hlk N w (lv_sub hl [2, 3, 1, 0] rfl) hf
abbrev wrJ7_fill_53178_46 : List (Nat × Nat) := [(1, 46)]
abbrev rmJ7_fill_53178_46 : Room := { frames := 0, cells := 0, slots := 0, locals := 0 }
set_option maxHeartbeats 4000000 in
set_option maxRecDepth 100000 in
theorem wJ7_fill_53178_46_5 {p : Program} {l : Launch} {e : Env} {s : State} {m : MethodId} {args : Array Value} {below : List Frame} {meth : Method} {c : Code} {D : va_G} {b : Nat → Nat} {ids : List Nat} {A : Nat → Prop} {S0 : ns_S} {o : (Nat → Int32)} (N : Nat) (hI : ∀ i, i < 107 → i ∈ ids) (C : ns_C p m c cJ7_fill_53178 4 s args wsJ7_fill_53178 RJ7 D A) (hr : meth.sig.returnType = none) (hlk : meth.locks = false) : ∀ n : Nat, ∀ {S : ns_S} {H : Heap} {locs : List Loc} {ls : Array Slot} {l1 : Int32} {l2 : Int32} {l3 : Int32}, ns_W D b ids A s.heap wrJ7_fill_53178_46 S0 S H locs → lv_has ls 4 [(0, .ref (b 46)), (1, .int l1), (2, .int l2), (3, .int l3)] → fJ7_fill_53178_5 N 10 n (S.2.1 46) l1 l2 l3 = some o → W p l e rmJ7_fill_53178_46 s m args below meth c H locs 0 0 (MQ below (ns_Q D b ids (ns_A S0 46 o) none A) args s 0 0 A) (F0 m 5 ls []) := by
  intro n
  induction n with
  | zero =>
    intro S H locs ls l1 l2 l3 w hl hf
    cases hf
  | succ n K5 =>
    intro S H locs ls l1 l2 l3 w hl hf
    change gJ7_fill_53178_5 N 10 (fJ7_fill_53178_5 N 10 n) (S.2.1 46) l1 l2 l3 = some o at hf
    generalize fJ7_fill_53178_5 N 10 n = r5 at hf K5
    unfold gJ7_fill_53178_5 at hf
    refine lv_iload_n C.1.1 C.1.2.1 dJ7_fill_53178_5 rfl (lv_at hl 2 rfl) ?_
    refine lv_iload_n C.1.1 C.1.2.1 dJ7_fill_53178_6 rfl (lv_at hl 3 rfl) ?_
    refine ns_icmp_ge C hf (tgt := 20) dJ7_fill_53178_7 (by decide) (fun hf => ?_) (fun hf => ?_)
    · have he := Option.some.inj hf
      subst he
      exact ns_vret C w hr hlk rfl rfl dJ7_fill_53178_20
    · refine lv_aload_n C.1.1 C.1.2.1 dJ7_fill_53178_10 rfl (lv_at hl 0 rfl) ?_
      refine lv_iload_n C.1.1 C.1.2.1 dJ7_fill_53178_11 rfl (lv_at hl 2 rfl) ?_
      refine lv_iload_n C.1.1 C.1.2.1 dJ7_fill_53178_12 rfl (lv_at hl 1 rfl) ?_
      refine ns_iast C w 46 (hI 46 (by decide)) sh_46 hf rfl (List.mem_of_getElem? (i := 0) rfl) dJ7_fill_53178_13 (fun y1 H locs hf w => ?_)
      refine ns_iinc (lv' := fun x2 => [(2, .int x2), (0, .ref (b 46)), (1, .int l1), (3, .int l3)]) C hf dJ7_fill_53178_14 hl (k := 2) rfl rfl (by decide) (fun _ => rfl) (fun x2 ls hl hf => ?_)
      refine lv_goto (tgt := 5) C.1.1 C.1.2.1 dJ7_fill_53178_17 (by decide) ?_
      exact K5 w (lv_sub hl [1, 2, 0, 3] rfl) hf
set_option maxHeartbeats 4000000 in
set_option maxRecDepth 100000 in
theorem mJ7_fill_53178_46 (l : Launch) (D : va_G) (b : Nat → Nat) (ids : List Nat) (hI : ∀ i, i < 107 → i ∈ ids) (N : Nat) (S : ns_S) (p1 : Int32) {o : (Nat → Int32)} (hf : fJ7_fill_53178 N 10 (S.2.1 46) p1 = some o) : ns_M l yJ7_fill_53178 wsJ7_fill_53178 rmJ7_fill_53178_46 D b ids S [.ref (b 46), .int p1] none (ns_A S 46 o) := by
  refine ns_start (Wr := wrJ7_fill_53178_46) (by decide) rfl (Nat.le_of_ble_eq_true rfl) ?_
  intro p e s m below meth c A ls C hr hlk w hl
  have hl : lv_has ls 4 [(0, .ref (b 46)), (1, .int p1)] := hl
  unfold fJ7_fill_53178 at hf
  refine lv_iconst (v := 0) C.1.1 C.1.2.1 dJ7_fill_53178_0 (by decide) ?_
  refine lv_istore_n (lv' := [(2, .int 0), (0, .ref (b 46)), (1, .int p1)]) C.1.1 C.1.2.1 dJ7_fill_53178_1 rfl hl (by decide) rfl (fun ls hl => ?_)
  refine lv_aload_n C.1.1 C.1.2.1 dJ7_fill_53178_2 rfl (lv_at hl 1 rfl) ?_
  refine ns_alen (v := Int32.ofNat 10) C w 46 (hI 46 (by decide)) sh_46 rfl dJ7_fill_53178_3 ?_
  refine ns_namei hf (fun x1 hf => ?_)
  refine lv_istore_n (lv' := [(3, .int x1), (2, .int 0), (0, .ref (b 46)), (1, .int p1)]) C.1.1 C.1.2.1 dJ7_fill_53178_4 rfl hl (by decide) rfl (fun ls hl => ?_)
  exact wJ7_fill_53178_46_5 N hI C hr hlk N w (lv_sub hl [2, 3, 1, 0] rfl) hf
abbrev wrJ7_fill_53178_47 : List (Nat × Nat) := [(1, 47)]
abbrev rmJ7_fill_53178_47 : Room := { frames := 0, cells := 0, slots := 0, locals := 0 }
set_option maxHeartbeats 4000000 in
set_option maxRecDepth 100000 in
theorem wJ7_fill_53178_47_5 {p : Program} {l : Launch} {e : Env} {s : State} {m : MethodId} {args : Array Value} {below : List Frame} {meth : Method} {c : Code} {D : va_G} {b : Nat → Nat} {ids : List Nat} {A : Nat → Prop} {S0 : ns_S} {o : (Nat → Int32)} (N : Nat) (hI : ∀ i, i < 107 → i ∈ ids) (C : ns_C p m c cJ7_fill_53178 4 s args wsJ7_fill_53178 RJ7 D A) (hr : meth.sig.returnType = none) (hlk : meth.locks = false) : ∀ n : Nat, ∀ {S : ns_S} {H : Heap} {locs : List Loc} {ls : Array Slot} {l1 : Int32} {l2 : Int32} {l3 : Int32}, ns_W D b ids A s.heap wrJ7_fill_53178_47 S0 S H locs → lv_has ls 4 [(0, .ref (b 47)), (1, .int l1), (2, .int l2), (3, .int l3)] → fJ7_fill_53178_5 N 30 n (S.2.1 47) l1 l2 l3 = some o → W p l e rmJ7_fill_53178_47 s m args below meth c H locs 0 0 (MQ below (ns_Q D b ids (ns_A S0 47 o) none A) args s 0 0 A) (F0 m 5 ls []) := by
  intro n
  induction n with
  | zero =>
    intro S H locs ls l1 l2 l3 w hl hf
    cases hf
  | succ n K5 =>
    intro S H locs ls l1 l2 l3 w hl hf
    change gJ7_fill_53178_5 N 30 (fJ7_fill_53178_5 N 30 n) (S.2.1 47) l1 l2 l3 = some o at hf
    generalize fJ7_fill_53178_5 N 30 n = r5 at hf K5
    unfold gJ7_fill_53178_5 at hf
    refine lv_iload_n C.1.1 C.1.2.1 dJ7_fill_53178_5 rfl (lv_at hl 2 rfl) ?_
    refine lv_iload_n C.1.1 C.1.2.1 dJ7_fill_53178_6 rfl (lv_at hl 3 rfl) ?_
    refine ns_icmp_ge C hf (tgt := 20) dJ7_fill_53178_7 (by decide) (fun hf => ?_) (fun hf => ?_)
    · have he := Option.some.inj hf
      subst he
      exact ns_vret C w hr hlk rfl rfl dJ7_fill_53178_20
    · refine lv_aload_n C.1.1 C.1.2.1 dJ7_fill_53178_10 rfl (lv_at hl 0 rfl) ?_
      refine lv_iload_n C.1.1 C.1.2.1 dJ7_fill_53178_11 rfl (lv_at hl 2 rfl) ?_
      refine lv_iload_n C.1.1 C.1.2.1 dJ7_fill_53178_12 rfl (lv_at hl 1 rfl) ?_
      refine ns_iast C w 47 (hI 47 (by decide)) sh_47 hf rfl (List.mem_of_getElem? (i := 0) rfl) dJ7_fill_53178_13 (fun y1 H locs hf w => ?_)
      refine ns_iinc (lv' := fun x2 => [(2, .int x2), (0, .ref (b 47)), (1, .int l1), (3, .int l3)]) C hf dJ7_fill_53178_14 hl (k := 2) rfl rfl (by decide) (fun _ => rfl) (fun x2 ls hl hf => ?_)
      refine lv_goto (tgt := 5) C.1.1 C.1.2.1 dJ7_fill_53178_17 (by decide) ?_
      exact K5 w (lv_sub hl [1, 2, 0, 3] rfl) hf
set_option maxHeartbeats 4000000 in
set_option maxRecDepth 100000 in
theorem mJ7_fill_53178_47 (l : Launch) (D : va_G) (b : Nat → Nat) (ids : List Nat) (hI : ∀ i, i < 107 → i ∈ ids) (N : Nat) (S : ns_S) (p1 : Int32) {o : (Nat → Int32)} (hf : fJ7_fill_53178 N 30 (S.2.1 47) p1 = some o) : ns_M l yJ7_fill_53178 wsJ7_fill_53178 rmJ7_fill_53178_47 D b ids S [.ref (b 47), .int p1] none (ns_A S 47 o) := by
  refine ns_start (Wr := wrJ7_fill_53178_47) (by decide) rfl (Nat.le_of_ble_eq_true rfl) ?_
  intro p e s m below meth c A ls C hr hlk w hl
  have hl : lv_has ls 4 [(0, .ref (b 47)), (1, .int p1)] := hl
  unfold fJ7_fill_53178 at hf
  refine lv_iconst (v := 0) C.1.1 C.1.2.1 dJ7_fill_53178_0 (by decide) ?_
  refine lv_istore_n (lv' := [(2, .int 0), (0, .ref (b 47)), (1, .int p1)]) C.1.1 C.1.2.1 dJ7_fill_53178_1 rfl hl (by decide) rfl (fun ls hl => ?_)
  refine lv_aload_n C.1.1 C.1.2.1 dJ7_fill_53178_2 rfl (lv_at hl 1 rfl) ?_
  refine ns_alen (v := Int32.ofNat 30) C w 47 (hI 47 (by decide)) sh_47 rfl dJ7_fill_53178_3 ?_
  refine ns_namei hf (fun x1 hf => ?_)
  refine lv_istore_n (lv' := [(3, .int x1), (2, .int 0), (0, .ref (b 47)), (1, .int p1)]) C.1.1 C.1.2.1 dJ7_fill_53178_4 rfl hl (by decide) rfl (fun ls hl => ?_)
  exact wJ7_fill_53178_47_5 N hI C hr hlk N w (lv_sub hl [2, 3, 1, 0] rfl) hf
abbrev wrX7_clear_43 : List (Nat × Nat) := [(0, 2752), (1, 44), (1, 45), (1, 46), (1, 47)]
abbrev rmX7_clear_43 : Room := { frames := 1, cells := 0, slots := 0, locals := 23 }
set_option maxHeartbeats 4000000 in
set_option maxRecDepth 100000 in
theorem mX7_clear_43 (l : Launch) (D : va_G) (b : Nat → Nat) (ids : List Nat) (hI : ∀ i, i < 107 → i ∈ ids) (N : Nat) (S : ns_S) {o : Int32 × (Nat → Int32) × (Nat → Int32) × (Nat → Int32) × (Nat → Int32)} (hf : fX7_clear N (S.1 2752) (S.2.1 44) (S.2.1 45) (S.2.1 46) (S.2.1 47) = some o) : ns_M l yX7_clear wsX7_clear rmX7_clear_43 D b ids S [.ref (b 43)] none (ns_I (ns_A (ns_A (ns_A (ns_A S 47 o.2.2.2.2) 46 o.2.2.2.1) 45 o.2.2.1) 44 o.2.1) 2752 o.1) := by
  refine ns_start (Wr := wrX7_clear_43) (by decide) rfl (Nat.le_of_ble_eq_true rfl) ?_
  intro p e s m below meth c A ls C hr hlk w hl
  have hl : lv_has ls 1 [(0, .ref (b 43))] := hl
  unfold fX7_clear at hf
  refine lv_aload_n C.1.1 C.1.2.1 dX7_clear_0 rfl (lv_at hl 0 rfl) ?_
  refine lv_iconst (v := 0) C.1.1 C.1.2.1 dX7_clear_1 (by decide) ?_
  refine ns_puti C w 43 (hI 43 (by decide)) sh_43 (rfl : vwCl[7]? = some (RX7, TX7, 5)) inX7_clear_7 tyX7_ok nmX7 0 (by decide) rfl lX7_clear_30 rfl rfl rfl (List.mem_of_getElem? (i := 0) rfl) dX7_clear_2 (fun H locs w => ?_)
  refine lv_aload_n C.1.1 C.1.2.1 dX7_clear_5 rfl (lv_at hl 0 rfl) ?_
  refine ns_getr C w 43 (hI 43 (by decide)) sh_43 (rfl : vwCl[7]? = some (RX7, TX7, 5)) inX7_clear_7 1 (by decide) rfl lX7_clear_9 dX7_clear_6 ?_
  refine lv_iconst (v := (-1)) C.1.1 C.1.2.1 dX7_clear_9 (by decide) ?_
  refine ns_callS C w [.ref (b 44), .int (-1)] hf (fun u hu => mJ7_fill_53178_44 l D b ids hI N _ (-1) hu) gX7_clear_J7_fill_53178 rfl rfl rfl hdJ7_fill_53178 ⟨Nat.le_of_ble_eq_true rfl, Nat.le_of_ble_eq_true rfl⟩ (fun u h => (h.A (List.mem_of_getElem? (i := 1) rfl) _)) rfl hl.1 rfl (Nat.le_of_ble_eq_true rfl) ⟨Nat.le_refl _, Nat.le_refl _⟩ dX7_clear_10 (fun o1 H locs hf w => ?_)
  refine lv_aload_n C.1.1 C.1.2.1 dX7_clear_13 rfl (lv_at hl 0 rfl) ?_
  refine ns_getr C w 43 (hI 43 (by decide)) sh_43 (rfl : vwCl[7]? = some (RX7, TX7, 5)) inX7_clear_7 2 (by decide) rfl lX7_clear_15 dX7_clear_14 ?_
  refine lv_iconst (v := 0) C.1.1 C.1.2.1 dX7_clear_17 (by decide) ?_
  refine ns_callS C w [.ref (b 45), .int 0] hf (fun u hu => mJ7_fill_53178_45 l D b ids hI N _ 0 hu) gX7_clear_J7_fill_53178 rfl rfl rfl hdJ7_fill_53178 ⟨Nat.le_of_ble_eq_true rfl, Nat.le_of_ble_eq_true rfl⟩ (fun u h => (h.A (List.mem_of_getElem? (i := 2) rfl) _)) rfl hl.1 rfl (Nat.le_of_ble_eq_true rfl) ⟨Nat.le_refl _, Nat.le_refl _⟩ dX7_clear_18 (fun o2 H locs hf w => ?_)
  refine lv_aload_n C.1.1 C.1.2.1 dX7_clear_21 rfl (lv_at hl 0 rfl) ?_
  refine ns_getr C w 43 (hI 43 (by decide)) sh_43 (rfl : vwCl[7]? = some (RX7, TX7, 5)) inX7_clear_7 3 (by decide) rfl lX7_clear_18 dX7_clear_22 ?_
  refine lv_iconst (v := 0) C.1.1 C.1.2.1 dX7_clear_25 (by decide) ?_
  refine ns_callS C w [.ref (b 46), .int 0] hf (fun u hu => mJ7_fill_53178_46 l D b ids hI N _ 0 hu) gX7_clear_J7_fill_53178 rfl rfl rfl hdJ7_fill_53178 ⟨Nat.le_of_ble_eq_true rfl, Nat.le_of_ble_eq_true rfl⟩ (fun u h => (h.A (List.mem_of_getElem? (i := 3) rfl) _)) rfl hl.1 rfl (Nat.le_of_ble_eq_true rfl) ⟨Nat.le_refl _, Nat.le_refl _⟩ dX7_clear_26 (fun o3 H locs hf w => ?_)
  refine lv_aload_n C.1.1 C.1.2.1 dX7_clear_29 rfl (lv_at hl 0 rfl) ?_
  refine ns_getr C w 43 (hI 43 (by decide)) sh_43 (rfl : vwCl[7]? = some (RX7, TX7, 5)) inX7_clear_7 4 (by decide) rfl lX7_clear_21 dX7_clear_30 ?_
  refine lv_iconst (v := 0) C.1.1 C.1.2.1 dX7_clear_33 (by decide) ?_
  refine ns_callS C w [.ref (b 47), .int 0] hf (fun u hu => mJ7_fill_53178_47 l D b ids hI N _ 0 hu) gX7_clear_J7_fill_53178 rfl rfl rfl hdJ7_fill_53178 ⟨Nat.le_of_ble_eq_true rfl, Nat.le_of_ble_eq_true rfl⟩ (fun u h => (h.A (List.mem_of_getElem? (i := 4) rfl) _)) rfl hl.1 rfl (Nat.le_of_ble_eq_true rfl) ⟨Nat.le_refl _, Nat.le_refl _⟩ dX7_clear_34 (fun o4 H locs hf w => ?_)
  have he := Option.some.inj hf
  subst he
  exact ns_vret C w hr hlk rfl rfl dX7_clear_37
theorem lX10_close_30 : Cond.fieldLink RX10 30 (TX10 4).1 (TX10 4).2.1 (TX10 4).2.2.1 ∈ wsX10_close := List.mem_of_getElem? (i := 1) rfl
theorem lX10_close_76 : Cond.fieldLink RX10 76 (TX6 4).1 (TX6 4).2.1 (TX6 4).2.2.1 ∈ wsX10_close := List.mem_of_getElem? (i := 2) rfl
theorem lX10_close_165 : Cond.fieldLink RX10 165 (TX6 3).1 (TX6 3).2.1 (TX6 3).2.2.1 ∈ wsX10_close := List.mem_of_getElem? (i := 4) rfl
theorem lX10_close_180 : Cond.fieldLink RX10 180 (TX8 0).1 (TX8 0).2.1 (TX8 0).2.2.1 ∈ wsX10_close := List.mem_of_getElem? (i := 3) rfl
theorem inX10_close_6 : ∀ w ∈ u_ws RX6 TX6 6, w ∈ wsX10_close := fun _ h => List.mem_cons_of_mem _ (List.mem_append_left _ (List.mem_append_left _ (List.mem_append_right _ h)))
theorem inX10_close_8 : ∀ w ∈ u_ws RX8 TX8 6, w ∈ wsX10_close := fun _ h => List.mem_cons_of_mem _ (List.mem_append_left _ (List.mem_append_right _ h))
theorem inX10_close_10 : ∀ w ∈ u_ws RX10 TX10 6, w ∈ wsX10_close := fun _ h => List.mem_cons_of_mem _ (List.mem_append_left _ (List.mem_append_left _ (List.mem_append_left _ (List.mem_append_right _ h))))
theorem hdX10_close : yX10_close.cls = RX10 ∧ yX10_close.cls ≠ "java/lang/invoke/MethodHandle" ∧ yX10_close.cls ≠ "java/lang/invoke/VarHandle" ∧ (parseMethodDescriptor yX10_close.desc).map (fun d => d.parameters.length) = some 0 := by decide +kernel
abbrev wrX10_close_0 : List (Nat × Nat) := [(0, 2752), (1, 44), (1, 45), (1, 46), (1, 47), (0, 3072), (0, 3073), (1, 49), (1, 50), (1, 51), (1, 52)]
abbrev rmX10_close_0 : Room := { frames := 2, cells := 0, slots := 0, locals := 44 }
set_option maxHeartbeats 4000000 in
set_option maxRecDepth 100000 in
theorem mX10_close_0 (l : Launch) (D : va_G) (b : Nat → Nat) (ids : List Nat) (hI : ∀ i, i < 107 → i ∈ ids) (N : Nat) (S : ns_S) {o : Int32 × Int32 × (Nat → Int32) × (Nat → Int32) × (Nat → Int32) × (Nat → Int32) × Int32 × Int32 × (Nat → Int32) × (Nat → Int32) × (Nat → Int32) × (Nat → Int32)} (hf : fX10_close N (S.1 3072) (S.1 2752) (S.2.1 44) (S.2.1 45) (S.2.1 46) (S.2.1 47) (S.1 3073) (S.2.1 49) (S.2.1 50) (S.2.1 51) (S.2.1 52) = some o) : ns_M l yX10_close wsX10_close rmX10_close_0 D b ids S [.ref (b 0)] (some (.int o.1)) (ns_I (ns_A (ns_A (ns_A (ns_A (ns_I (ns_I (ns_A (ns_A (ns_A (ns_A S 52 o.2.2.2.2.2.2.2.2.2.2.2) 51 o.2.2.2.2.2.2.2.2.2.2.1) 50 o.2.2.2.2.2.2.2.2.2.1) 49 o.2.2.2.2.2.2.2.2.1) 3073 o.2.2.2.2.2.2.2.1) 3072 o.2.2.2.2.2.2.1) 47 o.2.2.2.2.2.1) 46 o.2.2.2.2.1) 45 o.2.2.2.1) 44 o.2.2.1) 2752 o.2.1) := by
  refine ns_start (Wr := wrX10_close_0) (by decide) rfl (Nat.le_of_ble_eq_true rfl) ?_
  intro p e s m below meth c A ls C hr hlk w hl
  have hl : lv_has ls 2 [(0, .ref (b 0))] := hl
  unfold fX10_close at hf
  refine lv_aload_n C.1.1 C.1.2.1 dX10_close_0 rfl (lv_at hl 0 rfl) ?_
  refine ns_getr C w 0 (hI 0 (by decide)) sh_0 (rfl : vwCl[10]? = some (RX10, TX10, 6)) inX10_close_10 4 (by decide) rfl lX10_close_30 dX10_close_1 ?_
  refine ns_getr C w 28 (hI 28 (by decide)) sh_28 (rfl : vwCl[6]? = some (RX6, TX6, 6)) inX10_close_6 4 (by decide) rfl lX10_close_76 dX10_close_4 ?_
  refine ns_callV C w 48 (hI 48 (by decide)) sh_48 (rfl : vwCl[8]? = some (RX8, TX8, 6)) [] hf (fun u hu => mX8_isOn_48 l D b ids hI N _ hu) gX10_close_X8_isOn rfl rfl rfl hdX8_isOn ⟨Nat.le_of_ble_eq_true rfl, Nat.le_of_ble_eq_true rfl⟩ (fun u h => h) rfl hl.1 rfl (Nat.le_of_ble_eq_true rfl) ⟨Nat.le_refl _, Nat.le_refl _⟩ dX10_close_7 (fun o1 H locs hf w => ?_)
  refine ns_if_ne C hf (tgt := 15) dX10_close_10 (by decide) (fun hf => ?_) (fun hf => ?_)
  · refine lv_aload_n C.1.1 C.1.2.1 dX10_close_15 rfl (lv_at hl 0 rfl) ?_
    refine ns_getr C w 0 (hI 0 (by decide)) sh_0 (rfl : vwCl[10]? = some (RX10, TX10, 6)) inX10_close_10 4 (by decide) rfl lX10_close_30 dX10_close_16 ?_
    refine ns_getr C w 28 (hI 28 (by decide)) sh_28 (rfl : vwCl[6]? = some (RX6, TX6, 6)) inX10_close_6 4 (by decide) rfl lX10_close_76 dX10_close_19 ?_
    refine ns_geti C w 48 (hI 48 (by decide)) sh_48 (rfl : vwCl[8]? = some (RX8, TX8, 6)) inX10_close_8 0 (by decide) rfl lX10_close_180 (S.1 3072) rfl dX10_close_22 ?_
    refine lv_istore_n (lv' := [(1, .int (S.1 3072)), (0, .ref (b 0))]) C.1.1 C.1.2.1 dX10_close_25 rfl hl (by decide) rfl (fun ls hl => ?_)
    refine lv_aload_n C.1.1 C.1.2.1 dX10_close_26 rfl (lv_at hl 1 rfl) ?_
    refine ns_getr C w 0 (hI 0 (by decide)) sh_0 (rfl : vwCl[10]? = some (RX10, TX10, 6)) inX10_close_10 4 (by decide) rfl lX10_close_30 dX10_close_27 ?_
    refine ns_getr C w 28 (hI 28 (by decide)) sh_28 (rfl : vwCl[6]? = some (RX6, TX6, 6)) inX10_close_6 3 (by decide) rfl lX10_close_165 dX10_close_30 ?_
    refine ns_callV C w 43 (hI 43 (by decide)) sh_43 (rfl : vwCl[7]? = some (RX7, TX7, 5)) [] hf (fun u hu => mX7_clear_43 l D b ids hI N _ hu) gX10_close_X7_clear rfl rfl rfl hdX7_clear ⟨Nat.le_of_ble_eq_true rfl, Nat.le_of_ble_eq_true rfl⟩ (fun u h => (((((h.A (List.mem_of_getElem? (i := 4) rfl) _).A (List.mem_of_getElem? (i := 3) rfl) _).A (List.mem_of_getElem? (i := 2) rfl) _).A (List.mem_of_getElem? (i := 1) rfl) _).I (List.mem_of_getElem? (i := 0) rfl) _)) rfl hl.1 rfl (Nat.le_of_ble_eq_true rfl) ⟨Nat.le_refl _, Nat.le_refl _⟩ dX10_close_33 (fun o2 H locs hf w => ?_)
    refine lv_aload_n C.1.1 C.1.2.1 dX10_close_36 rfl (lv_at hl 1 rfl) ?_
    refine ns_getr C w 0 (hI 0 (by decide)) sh_0 (rfl : vwCl[10]? = some (RX10, TX10, 6)) inX10_close_10 4 (by decide) rfl lX10_close_30 dX10_close_37 ?_
    refine ns_getr C w 28 (hI 28 (by decide)) sh_28 (rfl : vwCl[6]? = some (RX6, TX6, 6)) inX10_close_6 4 (by decide) rfl lX10_close_76 dX10_close_40 ?_
    refine lv_iconst (v := (-1)) C.1.1 C.1.2.1 dX10_close_43 (by decide) ?_
    refine ns_callV C w 48 (hI 48 (by decide)) sh_48 (rfl : vwCl[8]? = some (RX8, TX8, 6)) [.int (-1)] hf (fun u hu => mX8_beginAnew_48 l D b ids hI N _ (-1) hu) gX10_close_X8_beginAnew rfl rfl rfl hdX8_beginAnew ⟨Nat.le_of_ble_eq_true rfl, Nat.le_of_ble_eq_true rfl⟩ (fun u h => ((((((h.A (List.mem_of_getElem? (i := 10) rfl) _).A (List.mem_of_getElem? (i := 9) rfl) _).A (List.mem_of_getElem? (i := 8) rfl) _).A (List.mem_of_getElem? (i := 7) rfl) _).I (List.mem_of_getElem? (i := 6) rfl) _).I (List.mem_of_getElem? (i := 5) rfl) _)) rfl hl.1 rfl (Nat.le_of_ble_eq_true rfl) ⟨Nat.le_refl _, Nat.le_refl _⟩ dX10_close_44 (fun o3 H locs hf w => ?_)
    refine lv_iload_n C.1.1 C.1.2.1 dX10_close_47 rfl (lv_at hl 0 rfl) ?_
    have he := Option.some.inj hf
    subst he
    exact ns_iret C w hr hlk rfl rfl dX10_close_48
  · refine lv_iconst (v := (-1)) C.1.1 C.1.2.1 dX10_close_13 (by decide) ?_
    have he := Option.some.inj hf
    subst he
    exact ns_iret C w hr hlk rfl rfl dX10_close_14
theorem lX11_close_60 : Cond.fieldLink RX11 60 (TX11 18).1 (TX11 18).2.1 (TX11 18).2.2.1 ∈ wsX11_close := List.mem_of_getElem? (i := 2) rfl
theorem lX11_close_63 : Cond.fieldLink RX11 63 (TX11 19).1 (TX11 19).2.1 (TX11 19).2.2.1 ∈ wsX11_close := List.mem_of_getElem? (i := 3) rfl
theorem lX11_close_179 : Cond.fieldLink RX11 179 (TX11 0).1 (TX11 0).2.1 (TX11 0).2.2.1 ∈ wsX11_close := List.mem_of_getElem? (i := 1) rfl
theorem inX11_close_11 : ∀ w ∈ u_ws RX11 TX11 59, w ∈ wsX11_close := fun _ h => List.mem_cons_of_mem _ (List.mem_append_right _ h)
theorem hdX11_close : yX11_close.cls = RX11 ∧ yX11_close.cls ≠ "java/lang/invoke/MethodHandle" ∧ yX11_close.cls ≠ "java/lang/invoke/VarHandle" ∧ (parseMethodDescriptor yX11_close.desc).map (fun d => d.parameters.length) = some 0 := by decide +kernel
abbrev wrX11_close_62 : List (Nat × Nat) := [(0, 3968), (1, 79), (1, 80), (1, 81), (1, 82), (1, 83), (1, 84), (1, 85), (1, 86), (1, 87)]
abbrev rmX11_close_62 : Room := { frames := 1, cells := 0, slots := 0, locals := 21 }
set_option maxHeartbeats 4000000 in
set_option maxRecDepth 100000 in
theorem mX11_close_62 (l : Launch) (D : va_G) (b : Nat → Nat) (ids : List Nat) (hI : ∀ i, i < 107 → i ∈ ids) (N : Nat) (S : ns_S) {o : Int32 × Int32 × (Nat → Int32) × (Nat → Int32) × (Nat → Int32) × (Nat → Int32) × (Nat → Int32) × (Nat → Int32) × (Nat → Int32) × (Nat → Int32) × (Nat → Int32)} (hf : fX11_close N (S.1 3968) (S.2.1 79) (S.2.1 80) (S.2.1 81) (S.2.1 82) (S.2.1 83) (S.2.1 84) (S.2.1 85) (S.2.1 86) (S.2.1 87) = some o) : ns_M l yX11_close wsX11_close rmX11_close_62 D b ids S [.ref (b 62)] (some (.int o.1)) (ns_I (ns_A (ns_A (ns_A (ns_A (ns_A (ns_A (ns_A (ns_A (ns_A S 87 o.2.2.2.2.2.2.2.2.2.2) 86 o.2.2.2.2.2.2.2.2.2.1) 85 o.2.2.2.2.2.2.2.2.1) 84 o.2.2.2.2.2.2.2.1) 83 o.2.2.2.2.2.2.1) 82 o.2.2.2.2.2.1) 81 o.2.2.2.2.1) 80 o.2.2.2.1) 79 o.2.2.1) 3968 o.2.1) := by
  refine ns_start (Wr := wrX11_close_62) (by decide) rfl (Nat.le_of_ble_eq_true rfl) ?_
  intro p e s m below meth c A ls C hr hlk w hl
  have hl : lv_has ls 2 [(0, .ref (b 62))] := hl
  unfold fX11_close at hf
  refine lv_aload_n C.1.1 C.1.2.1 dX11_close_0 rfl (lv_at hl 0 rfl) ?_
  refine lv_iconst (v := 0) C.1.1 C.1.2.1 dX11_close_1 (by decide) ?_
  refine ns_puti C w 62 (hI 62 (by decide)) sh_62 (rfl : vwCl[11]? = some (RX11, TX11, 59)) inX11_close_11 tyX11_ok nmX11 0 (by decide) rfl lX11_close_179 rfl rfl rfl (List.mem_of_getElem? (i := 0) rfl) dX11_close_2 (fun H locs w => ?_)
  refine lv_aload_n C.1.1 C.1.2.1 dX11_close_5 rfl (lv_at hl 0 rfl) ?_
  refine ns_getr C w 62 (hI 62 (by decide)) sh_62 (rfl : vwCl[11]? = some (RX11, TX11, 59)) inX11_close_11 18 (by decide) rfl lX11_close_60 dX11_close_6 ?_
  refine lv_iconst (v := 0) C.1.1 C.1.2.1 dX11_close_9 (by decide) ?_
  refine ns_iald C w 79 (hI 79 (by decide)) sh_79 hf rfl dX11_close_10 (fun x1 hf => ?_)
  refine lv_iconst (v := (-1)) C.1.1 C.1.2.1 dX11_close_11 (by decide) ?_
  refine ns_icmp_ne C hf (tgt := 17) dX11_close_12 (by decide) (fun hf => ?_) (fun hf => ?_)
  · refine lv_aload_n C.1.1 C.1.2.1 dX11_close_17 rfl (lv_at hl 0 rfl) ?_
    refine ns_getr C w 62 (hI 62 (by decide)) sh_62 (rfl : vwCl[11]? = some (RX11, TX11, 59)) inX11_close_11 18 (by decide) rfl lX11_close_60 dX11_close_18 ?_
    refine lv_iconst (v := 0) C.1.1 C.1.2.1 dX11_close_21 (by decide) ?_
    refine ns_iald C w 79 (hI 79 (by decide)) sh_79 hf rfl dX11_close_22 (fun x2 hf => ?_)
    refine lv_istore_n (lv' := [(1, .int x2), (0, .ref (b 62))]) C.1.1 C.1.2.1 dX11_close_23 rfl hl (by decide) rfl (fun ls hl => ?_)
    refine lv_aload_n C.1.1 C.1.2.1 dX11_close_24 rfl (lv_at hl 1 rfl) ?_
    refine ns_getr C w 62 (hI 62 (by decide)) sh_62 (rfl : vwCl[11]? = some (RX11, TX11, 59)) inX11_close_11 18 (by decide) rfl lX11_close_60 dX11_close_25 ?_
    refine lv_iconst (v := 0) C.1.1 C.1.2.1 dX11_close_28 (by decide) ?_
    refine lv_iconst (v := (-1)) C.1.1 C.1.2.1 dX11_close_29 (by decide) ?_
    refine ns_iast C w 79 (hI 79 (by decide)) sh_79 hf rfl (List.mem_of_getElem? (i := 1) rfl) dX11_close_30 (fun y3 H locs hf w => ?_)
    refine lv_aload_n C.1.1 C.1.2.1 dX11_close_31 rfl (lv_at hl 1 rfl) ?_
    refine ns_getr C w 62 (hI 62 (by decide)) sh_62 (rfl : vwCl[11]? = some (RX11, TX11, 59)) inX11_close_11 19 (by decide) rfl lX11_close_63 dX11_close_32 ?_
    refine lv_iconst (v := 0) C.1.1 C.1.2.1 dX11_close_35 (by decide) ?_
    refine lv_iconst (v := 0) C.1.1 C.1.2.1 dX11_close_36 (by decide) ?_
    refine ns_iast C w 80 (hI 80 (by decide)) sh_80 hf rfl (List.mem_of_getElem? (i := 2) rfl) dX11_close_37 (fun y4 H locs hf w => ?_)
    refine lv_aload_n C.1.1 C.1.2.1 dX11_close_38 rfl (lv_at hl 1 rfl) ?_
    refine ns_callV C w 62 (hI 62 (by decide)) sh_62 (rfl : vwCl[11]? = some (RX11, TX11, 59)) [] hf (fun u hu => mX11_begins_62 l D b ids hI N _ hu) gX11_close_X11_begins rfl rfl rfl hdX11_begins ⟨Nat.le_of_ble_eq_true rfl, Nat.le_of_ble_eq_true rfl⟩ (fun u h => (((((((h.A (List.mem_of_getElem? (i := 9) rfl) _).A (List.mem_of_getElem? (i := 8) rfl) _).A (List.mem_of_getElem? (i := 7) rfl) _).A (List.mem_of_getElem? (i := 6) rfl) _).A (List.mem_of_getElem? (i := 5) rfl) _).A (List.mem_of_getElem? (i := 4) rfl) _).A (List.mem_of_getElem? (i := 3) rfl) _)) rfl hl.1 rfl (Nat.le_of_ble_eq_true rfl) ⟨Nat.le_refl _, Nat.le_refl _⟩ dX11_close_39 (fun o5 H locs hf w => ?_)
    refine lv_iload_n C.1.1 C.1.2.1 dX11_close_42 rfl (lv_at hl 0 rfl) ?_
    have he := Option.some.inj hf
    subst he
    exact ns_iret C w hr hlk rfl rfl dX11_close_43
  · refine lv_iconst (v := (-1)) C.1.1 C.1.2.1 dX11_close_15 (by decide) ?_
    have he := Option.some.inj hf
    subst he
    exact ns_iret C w hr hlk rfl rfl dX11_close_16
theorem lX6_countWeekOf_21 : Cond.fieldLink RX6 21 (TX6 1).1 (TX6 1).2.1 (TX6 1).2.2.1 ∈ wsX6_countWeekOf := List.mem_of_getElem? (i := 4) rfl
theorem lX6_countWeekOf_35 : Cond.fieldLink RX6 35 (TX6 3).1 (TX6 3).2.1 (TX6 3).2.2.1 ∈ wsX6_countWeekOf := List.mem_of_getElem? (i := 6) rfl
theorem lX6_countWeekOf_42 : Cond.fieldLink RX6 42 (TX6 4).1 (TX6 4).2.1 (TX6 4).2.2.1 ∈ wsX6_countWeekOf := List.mem_of_getElem? (i := 1) rfl
theorem lX6_countWeekOf_154 : Cond.fieldLink RX6 154 (TX8 3).1 (TX8 3).2.1 (TX8 3).2.2.1 ∈ wsX6_countWeekOf := List.mem_of_getElem? (i := 2) rfl
theorem lX6_countWeekOf_157 : Cond.fieldLink RX6 157 (TX8 4).1 (TX8 4).2.1 (TX8 4).2.2.1 ∈ wsX6_countWeekOf := List.mem_of_getElem? (i := 3) rfl
theorem lX6_countWeekOf_160 : Cond.fieldLink RX6 160 (TX0 2).1 (TX0 2).2.1 (TX0 2).2.2.1 ∈ wsX6_countWeekOf := List.mem_of_getElem? (i := 5) rfl
theorem lX6_countWeekOf_163 : Cond.fieldLink RX6 163 (TX7 1).1 (TX7 1).2.1 (TX7 1).2.2.1 ∈ wsX6_countWeekOf := List.mem_of_getElem? (i := 7) rfl
theorem lX6_countWeekOf_166 : Cond.fieldLink RX6 166 (TX8 5).1 (TX8 5).2.1 (TX8 5).2.2.1 ∈ wsX6_countWeekOf := List.mem_of_getElem? (i := 8) rfl
theorem inX6_countWeekOf_0 : ∀ w ∈ u_ws RX0 TX0 6, w ∈ wsX6_countWeekOf := fun _ h => List.mem_cons_of_mem _ (List.mem_append_left _ (List.mem_append_right _ h))
theorem inX6_countWeekOf_6 : ∀ w ∈ u_ws RX6 TX6 6, w ∈ wsX6_countWeekOf := fun _ h => List.mem_cons_of_mem _ (List.mem_append_left _ (List.mem_append_left _ (List.mem_append_left _ (List.mem_append_right _ h))))
theorem inX6_countWeekOf_7 : ∀ w ∈ u_ws RX7 TX7 5, w ∈ wsX6_countWeekOf := fun _ h => List.mem_cons_of_mem _ (List.mem_append_right _ h)
theorem inX6_countWeekOf_8 : ∀ w ∈ u_ws RX8 TX8 6, w ∈ wsX6_countWeekOf := fun _ h => List.mem_cons_of_mem _ (List.mem_append_left _ (List.mem_append_left _ (List.mem_append_right _ h)))
theorem hdX6_countWeekOf : yX6_countWeekOf.cls = RX6 ∧ yX6_countWeekOf.cls ≠ "java/lang/invoke/MethodHandle" ∧ yX6_countWeekOf.cls ≠ "java/lang/invoke/VarHandle" ∧ (parseMethodDescriptor yX6_countWeekOf.desc).map (fun d => d.parameters.length) = some 1 := by decide +kernel
abbrev wrX6_countWeekOf_28 : List (Nat × Nat) := [(1, 50), (1, 51), (1, 52)]
abbrev rmX6_countWeekOf_28 : Room := { frames := 0, cells := 0, slots := 0, locals := 0 }
set_option maxHeartbeats 4000000 in
set_option maxRecDepth 100000 in
theorem mX6_countWeekOf_28 (l : Launch) (D : va_G) (b : Nat → Nat) (ids : List Nat) (hI : ∀ i, i < 107 → i ∈ ids) (N : Nat) (S : ns_S) (p1 : Int32) {o : (Nat → Int32) × (Nat → Int32) × (Nat → Int32)} (hf : fX6_countWeekOf N (S.2.1 50) (S.2.1 33) (S.2.1 51) (S.2.1 44) (S.2.1 52) p1 = some o) : ns_M l yX6_countWeekOf wsX6_countWeekOf rmX6_countWeekOf_28 D b ids S [.ref (b 28), .int p1] none (ns_A (ns_A (ns_A S 52 o.2.2) 51 o.2.1) 50 o.1) := by
  refine ns_start (Wr := wrX6_countWeekOf_28) (by decide) rfl (Nat.le_of_ble_eq_true rfl) ?_
  intro p e s m below meth c A ls C hr hlk w hl
  have hl : lv_has ls 3 [(0, .ref (b 28)), (1, .int p1)] := hl
  unfold fX6_countWeekOf at hf
  refine lv_aload_n C.1.1 C.1.2.1 dX6_countWeekOf_0 rfl (lv_at hl 0 rfl) ?_
  refine ns_getr C w 28 (hI 28 (by decide)) sh_28 (rfl : vwCl[6]? = some (RX6, TX6, 6)) inX6_countWeekOf_6 4 (by decide) rfl lX6_countWeekOf_42 dX6_countWeekOf_1 ?_
  refine ns_getr C w 48 (hI 48 (by decide)) sh_48 (rfl : vwCl[8]? = some (RX8, TX8, 6)) inX6_countWeekOf_8 3 (by decide) rfl lX6_countWeekOf_154 dX6_countWeekOf_4 ?_
  refine lv_iload_n C.1.1 C.1.2.1 dX6_countWeekOf_7 rfl (lv_at hl 1 rfl) ?_
  refine lv_dup2_11 C.1.1 C.1.2.1 dX6_countWeekOf_8 rfl rfl ?_
  refine ns_iald C w 50 (hI 50 (by decide)) sh_50 hf rfl dX6_countWeekOf_9 (fun x1 hf => ?_)
  refine lv_iconst (v := 1) C.1.1 C.1.2.1 dX6_countWeekOf_10 (by decide) ?_
  refine lv_iadd C.1.1 C.1.2.1 dX6_countWeekOf_11 ?_
  refine ns_iast C w 50 (hI 50 (by decide)) sh_50 hf rfl (List.mem_of_getElem? (i := 0) rfl) dX6_countWeekOf_12 (fun y2 H locs hf w => ?_)
  refine lv_aload_n C.1.1 C.1.2.1 dX6_countWeekOf_13 rfl (lv_at hl 0 rfl) ?_
  refine ns_getr C w 28 (hI 28 (by decide)) sh_28 (rfl : vwCl[6]? = some (RX6, TX6, 6)) inX6_countWeekOf_6 4 (by decide) rfl lX6_countWeekOf_42 dX6_countWeekOf_14 ?_
  refine ns_getr C w 48 (hI 48 (by decide)) sh_48 (rfl : vwCl[8]? = some (RX8, TX8, 6)) inX6_countWeekOf_8 4 (by decide) rfl lX6_countWeekOf_157 dX6_countWeekOf_17 ?_
  refine lv_aload_n C.1.1 C.1.2.1 dX6_countWeekOf_20 rfl (lv_at hl 0 rfl) ?_
  refine ns_getr C w 28 (hI 28 (by decide)) sh_28 (rfl : vwCl[6]? = some (RX6, TX6, 6)) inX6_countWeekOf_6 1 (by decide) rfl lX6_countWeekOf_21 dX6_countWeekOf_21 ?_
  refine ns_getr C w 31 (hI 31 (by decide)) sh_31 (rfl : vwCl[0]? = some (RX0, TX0, 6)) inX6_countWeekOf_0 2 (by decide) rfl lX6_countWeekOf_160 dX6_countWeekOf_24 ?_
  refine lv_iload_n C.1.1 C.1.2.1 dX6_countWeekOf_27 rfl (lv_at hl 1 rfl) ?_
  refine ns_iald C w 33 (hI 33 (by decide)) sh_33 hf rfl dX6_countWeekOf_28 (fun x3 hf => ?_)
  refine lv_dup2_11 C.1.1 C.1.2.1 dX6_countWeekOf_29 rfl rfl ?_
  refine ns_iald C w 51 (hI 51 (by decide)) sh_51 hf rfl dX6_countWeekOf_30 (fun x4 hf => ?_)
  refine lv_iconst (v := 2) C.1.1 C.1.2.1 dX6_countWeekOf_31 (by decide) ?_
  refine lv_iadd C.1.1 C.1.2.1 dX6_countWeekOf_32 ?_
  refine ns_iast C w 51 (hI 51 (by decide)) sh_51 hf rfl (List.mem_of_getElem? (i := 1) rfl) dX6_countWeekOf_33 (fun y5 H locs hf w => ?_)
  refine lv_aload_n C.1.1 C.1.2.1 dX6_countWeekOf_34 rfl (lv_at hl 0 rfl) ?_
  refine ns_getr C w 28 (hI 28 (by decide)) sh_28 (rfl : vwCl[6]? = some (RX6, TX6, 6)) inX6_countWeekOf_6 3 (by decide) rfl lX6_countWeekOf_35 dX6_countWeekOf_35 ?_
  refine ns_getr C w 43 (hI 43 (by decide)) sh_43 (rfl : vwCl[7]? = some (RX7, TX7, 5)) inX6_countWeekOf_7 1 (by decide) rfl lX6_countWeekOf_163 dX6_countWeekOf_38 ?_
  refine lv_iload_n C.1.1 C.1.2.1 dX6_countWeekOf_41 rfl (lv_at hl 1 rfl) ?_
  refine ns_iald C w 44 (hI 44 (by decide)) sh_44 hf rfl dX6_countWeekOf_42 (fun x6 hf => ?_)
  refine lv_istore_n (lv' := [(2, .int x6), (0, .ref (b 28)), (1, .int p1)]) C.1.1 C.1.2.1 dX6_countWeekOf_43 rfl hl (by decide) rfl (fun ls hl => ?_)
  refine lv_iload_n C.1.1 C.1.2.1 dX6_countWeekOf_44 rfl (lv_at hl 0 rfl) ?_
  refine lv_iconst (v := (-1)) C.1.1 C.1.2.1 dX6_countWeekOf_45 (by decide) ?_
  refine ns_icmp_eq C hf (tgt := 62) dX6_countWeekOf_46 (by decide) (fun hf => ?_) (fun hf => ?_)
  · have he := Option.some.inj hf
    subst he
    exact ns_vret C w hr hlk rfl rfl dX6_countWeekOf_62
  · refine lv_aload_n C.1.1 C.1.2.1 dX6_countWeekOf_49 rfl (lv_at hl 1 rfl) ?_
    refine ns_getr C w 28 (hI 28 (by decide)) sh_28 (rfl : vwCl[6]? = some (RX6, TX6, 6)) inX6_countWeekOf_6 4 (by decide) rfl lX6_countWeekOf_42 dX6_countWeekOf_50 ?_
    refine ns_getr C w 48 (hI 48 (by decide)) sh_48 (rfl : vwCl[8]? = some (RX8, TX8, 6)) inX6_countWeekOf_8 5 (by decide) rfl lX6_countWeekOf_166 dX6_countWeekOf_53 ?_
    refine lv_iload_n C.1.1 C.1.2.1 dX6_countWeekOf_56 rfl (lv_at hl 0 rfl) ?_
    refine lv_dup2_11 C.1.1 C.1.2.1 dX6_countWeekOf_57 rfl rfl ?_
    refine ns_iald C w 52 (hI 52 (by decide)) sh_52 hf rfl dX6_countWeekOf_58 (fun x7 hf => ?_)
    refine lv_iconst (v := 2) C.1.1 C.1.2.1 dX6_countWeekOf_59 (by decide) ?_
    refine lv_iadd C.1.1 C.1.2.1 dX6_countWeekOf_60 ?_
    refine ns_iast C w 52 (hI 52 (by decide)) sh_52 hf rfl (List.mem_of_getElem? (i := 2) rfl) dX6_countWeekOf_61 (fun y8 H locs hf w => ?_)
    have he := Option.some.inj hf
    subst he
    exact ns_vret C w hr hlk rfl rfl dX6_countWeekOf_62
theorem lX7_cancel_9 : Cond.fieldLink RX7 9 (TX7 1).1 (TX7 1).2.1 (TX7 1).2.2.1 ∈ wsX7_cancel := List.mem_of_getElem? (i := 2) rfl
theorem lX7_cancel_15 : Cond.fieldLink RX7 15 (TX7 2).1 (TX7 2).2.1 (TX7 2).2.2.1 ∈ wsX7_cancel := List.mem_of_getElem? (i := 3) rfl
theorem lX7_cancel_18 : Cond.fieldLink RX7 18 (TX7 3).1 (TX7 3).2.1 (TX7 3).2.2.1 ∈ wsX7_cancel := List.mem_of_getElem? (i := 4) rfl
theorem lX7_cancel_21 : Cond.fieldLink RX7 21 (TX7 4).1 (TX7 4).2.1 (TX7 4).2.2.1 ∈ wsX7_cancel := List.mem_of_getElem? (i := 5) rfl
theorem lX7_cancel_30 : Cond.fieldLink RX7 30 (TX7 0).1 (TX7 0).2.1 (TX7 0).2.2.1 ∈ wsX7_cancel := List.mem_of_getElem? (i := 1) rfl
theorem inX7_cancel_7 : ∀ w ∈ u_ws RX7 TX7 5, w ∈ wsX7_cancel := fun _ h => List.mem_cons_of_mem _ (List.mem_append_right _ h)
theorem hdX7_cancel : yX7_cancel.cls = RX7 ∧ yX7_cancel.cls ≠ "java/lang/invoke/MethodHandle" ∧ yX7_cancel.cls ≠ "java/lang/invoke/VarHandle" ∧ (parseMethodDescriptor yX7_cancel.desc).map (fun d => d.parameters.length) = some 1 := by decide +kernel
abbrev wrX7_cancel_43 : List (Nat × Nat) := [(0, 2752), (1, 44), (1, 45), (1, 46), (1, 47)]
abbrev rmX7_cancel_43 : Room := { frames := 0, cells := 0, slots := 0, locals := 0 }
set_option maxHeartbeats 4000000 in
set_option maxRecDepth 100000 in
theorem wX7_cancel_43_39 {p : Program} {l : Launch} {e : Env} {s : State} {m : MethodId} {args : Array Value} {below : List Frame} {meth : Method} {c : Code} {D : va_G} {b : Nat → Nat} {ids : List Nat} {A : Nat → Prop} {S0 : ns_S} {o : Int32 × (Nat → Int32) × (Nat → Int32) × (Nat → Int32) × (Nat → Int32)} (N : Nat) (hI : ∀ i, i < 107 → i ∈ ids) (C : ns_C p m c cX7_cancel 4 s args wsX7_cancel RX7 D A) (hr : meth.sig.returnType = none) (hlk : meth.locks = false) : ∀ n : Nat, ∀ {S : ns_S} {H : Heap} {locs : List Loc} {ls : Array Slot} {l2 : Int32} {l3 : Int32}, ns_W D b ids A s.heap wrX7_cancel_43 S0 S H locs → lv_has ls 4 [(0, .ref (b 43)), (2, .int l2), (3, .int l3)] → fX7_cancel_39 N n (S.1 2752) (S.2.1 44) (S.2.1 45) (S.2.1 46) (S.2.1 47) l2 l3 = some o → W p l e rmX7_cancel_43 s m args below meth c H locs 0 0 (MQ below (ns_Q D b ids (ns_I (ns_A (ns_A (ns_A (ns_A S0 47 o.2.2.2.2) 46 o.2.2.2.1) 45 o.2.2.1) 44 o.2.1) 2752 o.1) none A) args s 0 0 A) (F0 m 39 ls []) := by
  intro n
  induction n with
  | zero =>
    intro S H locs ls l2 l3 w hl hf
    cases hf
  | succ n K39 =>
    intro S H locs ls l2 l3 w hl hf
    change gX7_cancel_39 N (fX7_cancel_39 N n) (S.1 2752) (S.2.1 44) (S.2.1 45) (S.2.1 46) (S.2.1 47) l2 l3 = some o at hf
    generalize fX7_cancel_39 N n = r39 at hf K39
    unfold gX7_cancel_39 at hf
    refine lv_iload_n C.1.1 C.1.2.1 dX7_cancel_39 rfl (lv_at hl 2 rfl) ?_
    refine lv_bipush (v := 30) C.1.1 C.1.2.1 dX7_cancel_40 (by decide) ?_
    refine ns_icmp_ge C hf (tgt := 61) dX7_cancel_42 (by decide) (fun hf => ?_) (fun hf => ?_)
    · have he := Option.some.inj hf
      subst he
      exact ns_vret C w hr hlk rfl rfl dX7_cancel_61
    · refine lv_aload_n C.1.1 C.1.2.1 dX7_cancel_45 rfl (lv_at hl 0 rfl) ?_
      refine ns_getr C w 43 (hI 43 (by decide)) sh_43 (rfl : vwCl[7]? = some (RX7, TX7, 5)) inX7_cancel_7 4 (by decide) rfl lX7_cancel_21 dX7_cancel_46 ?_
      refine lv_iload_n C.1.1 C.1.2.1 dX7_cancel_49 rfl (lv_at hl 2 rfl) ?_
      refine lv_dup2_11 C.1.1 C.1.2.1 dX7_cancel_50 rfl rfl ?_
      refine ns_iald C w 47 (hI 47 (by decide)) sh_47 hf rfl dX7_cancel_51 (fun x1 hf => ?_)
      refine lv_iload_n C.1.1 C.1.2.1 dX7_cancel_52 rfl (lv_at hl 1 rfl) ?_
      refine lv_iand C.1.1 C.1.2.1 dX7_cancel_53 ?_
      refine ns_iast C w 47 (hI 47 (by decide)) sh_47 hf rfl (List.mem_of_getElem? (i := 4) rfl) dX7_cancel_54 (fun y2 H locs hf w => ?_)
      refine ns_iinc (lv' := fun x3 => [(3, .int x3), (0, .ref (b 43)), (2, .int l2)]) C hf dX7_cancel_55 hl (k := 2) rfl rfl (by decide) (fun _ => rfl) (fun x3 ls hl hf => ?_)
      refine lv_goto (tgt := 39) C.1.1 C.1.2.1 dX7_cancel_58 (by decide) ?_
      exact K39 w (lv_sub hl [1, 2, 0] rfl) hf
set_option maxHeartbeats 4000000 in
set_option maxRecDepth 100000 in
theorem mX7_cancel_43 (l : Launch) (D : va_G) (b : Nat → Nat) (ids : List Nat) (hI : ∀ i, i < 107 → i ∈ ids) (N : Nat) (S : ns_S) (p1 : Int32) {o : Int32 × (Nat → Int32) × (Nat → Int32) × (Nat → Int32) × (Nat → Int32)} (hf : fX7_cancel N (S.1 2752) (S.2.1 44) (S.2.1 45) (S.2.1 46) (S.2.1 47) p1 = some o) : ns_M l yX7_cancel wsX7_cancel rmX7_cancel_43 D b ids S [.ref (b 43), .int p1] none (ns_I (ns_A (ns_A (ns_A (ns_A S 47 o.2.2.2.2) 46 o.2.2.2.1) 45 o.2.2.1) 44 o.2.1) 2752 o.1) := by
  refine ns_start (Wr := wrX7_cancel_43) (by decide) rfl (Nat.le_of_ble_eq_true rfl) ?_
  intro p e s m below meth c A ls C hr hlk w hl
  have hl : lv_has ls 4 [(0, .ref (b 43)), (1, .int p1)] := hl
  unfold fX7_cancel at hf
  refine lv_iconst (v := 1) C.1.1 C.1.2.1 dX7_cancel_0 (by decide) ?_
  refine lv_iload_n C.1.1 C.1.2.1 dX7_cancel_1 rfl (lv_at hl 1 rfl) ?_
  refine lv_ishl C.1.1 C.1.2.1 dX7_cancel_2 ?_
  refine lv_iconst (v := (-1)) C.1.1 C.1.2.1 dX7_cancel_3 (by decide) ?_
  refine lv_ixor C.1.1 C.1.2.1 dX7_cancel_4 ?_
  refine ns_namei hf (fun x1 hf => ?_)
  refine lv_istore_n (lv' := [(2, .int x1), (0, .ref (b 43)), (1, .int p1)]) C.1.1 C.1.2.1 dX7_cancel_5 rfl hl (by decide) rfl (fun ls hl => ?_)
  refine lv_aload_n C.1.1 C.1.2.1 dX7_cancel_6 rfl (lv_at hl 1 rfl) ?_
  refine lv_dup C.1.1 C.1.2.1 dX7_cancel_7 rfl ?_
  refine ns_geti C w 43 (hI 43 (by decide)) sh_43 (rfl : vwCl[7]? = some (RX7, TX7, 5)) inX7_cancel_7 0 (by decide) rfl lX7_cancel_30 (S.1 2752) rfl dX7_cancel_8 ?_
  refine lv_iload_n C.1.1 C.1.2.1 dX7_cancel_11 rfl (lv_at hl 0 rfl) ?_
  refine lv_iand C.1.1 C.1.2.1 dX7_cancel_12 ?_
  refine ns_namei hf (fun x2 hf => ?_)
  refine ns_puti C w 43 (hI 43 (by decide)) sh_43 (rfl : vwCl[7]? = some (RX7, TX7, 5)) inX7_cancel_7 tyX7_ok nmX7 0 (by decide) rfl lX7_cancel_30 rfl rfl rfl (List.mem_of_getElem? (i := 0) rfl) dX7_cancel_13 (fun H locs w => ?_)
  refine lv_aload_n C.1.1 C.1.2.1 dX7_cancel_16 rfl (lv_at hl 1 rfl) ?_
  refine ns_getr C w 43 (hI 43 (by decide)) sh_43 (rfl : vwCl[7]? = some (RX7, TX7, 5)) inX7_cancel_7 1 (by decide) rfl lX7_cancel_9 dX7_cancel_17 ?_
  refine lv_iload_n C.1.1 C.1.2.1 dX7_cancel_20 rfl (lv_at hl 2 rfl) ?_
  refine lv_iconst (v := (-1)) C.1.1 C.1.2.1 dX7_cancel_21 (by decide) ?_
  refine ns_iast C w 44 (hI 44 (by decide)) sh_44 hf rfl (List.mem_of_getElem? (i := 1) rfl) dX7_cancel_22 (fun y3 H locs hf w => ?_)
  refine lv_aload_n C.1.1 C.1.2.1 dX7_cancel_23 rfl (lv_at hl 1 rfl) ?_
  refine ns_getr C w 43 (hI 43 (by decide)) sh_43 (rfl : vwCl[7]? = some (RX7, TX7, 5)) inX7_cancel_7 2 (by decide) rfl lX7_cancel_15 dX7_cancel_24 ?_
  refine lv_iload_n C.1.1 C.1.2.1 dX7_cancel_27 rfl (lv_at hl 2 rfl) ?_
  refine lv_iconst (v := 0) C.1.1 C.1.2.1 dX7_cancel_28 (by decide) ?_
  refine ns_iast C w 45 (hI 45 (by decide)) sh_45 hf rfl (List.mem_of_getElem? (i := 2) rfl) dX7_cancel_29 (fun y4 H locs hf w => ?_)
  refine lv_aload_n C.1.1 C.1.2.1 dX7_cancel_30 rfl (lv_at hl 1 rfl) ?_
  refine ns_getr C w 43 (hI 43 (by decide)) sh_43 (rfl : vwCl[7]? = some (RX7, TX7, 5)) inX7_cancel_7 3 (by decide) rfl lX7_cancel_18 dX7_cancel_31 ?_
  refine lv_iload_n C.1.1 C.1.2.1 dX7_cancel_34 rfl (lv_at hl 2 rfl) ?_
  refine lv_iconst (v := 0) C.1.1 C.1.2.1 dX7_cancel_35 (by decide) ?_
  refine ns_iast C w 46 (hI 46 (by decide)) sh_46 hf rfl (List.mem_of_getElem? (i := 3) rfl) dX7_cancel_36 (fun y5 H locs hf w => ?_)
  refine lv_iconst (v := 0) C.1.1 C.1.2.1 dX7_cancel_37 (by decide) ?_
  refine lv_istore_n (lv' := [(3, .int 0), (2, .int x1), (0, .ref (b 43)), (1, .int p1)]) C.1.1 C.1.2.1 dX7_cancel_38 rfl hl (by decide) rfl (fun ls hl => ?_)
  exact wX7_cancel_43_39 N hI C hr hlk N w (lv_sub hl [2, 1, 0] rfl) hf
theorem lX6_passWeek_21 : Cond.fieldLink RX6 21 (TX6 1).1 (TX6 1).2.1 (TX6 1).2.2.1 ∈ wsX6_passWeek := List.mem_of_getElem? (i := 3) rfl
theorem lX6_passWeek_35 : Cond.fieldLink RX6 35 (TX6 3).1 (TX6 3).2.1 (TX6 3).2.2.1 ∈ wsX6_passWeek := List.mem_of_getElem? (i := 5) rfl
theorem lX6_passWeek_42 : Cond.fieldLink RX6 42 (TX6 4).1 (TX6 4).2.1 (TX6 4).2.2.1 ∈ wsX6_passWeek := List.mem_of_getElem? (i := 1) rfl
theorem lX6_passWeek_72 : Cond.fieldLink RX6 72 (TX0 0).1 (TX0 0).2.1 (TX0 0).2.2.1 ∈ wsX6_passWeek := List.mem_of_getElem? (i := 4) rfl
theorem lX6_passWeek_135 : Cond.fieldLink RX6 135 (TX8 0).1 (TX8 0).2.1 (TX8 0).2.2.1 ∈ wsX6_passWeek := List.mem_of_getElem? (i := 2) rfl
theorem lX6_passWeek_142 : Cond.fieldLink RX6 142 (TX7 3).1 (TX7 3).2.1 (TX7 3).2.2.1 ∈ wsX6_passWeek := List.mem_of_getElem? (i := 6) rfl
theorem lX6_passWeek_145 : Cond.fieldLink RX6 145 (TX0 3).1 (TX0 3).2.1 (TX0 3).2.2.1 ∈ wsX6_passWeek := List.mem_of_getElem? (i := 7) rfl
theorem inX6_passWeek_0 : ∀ w ∈ u_ws RX0 TX0 6, w ∈ wsX6_passWeek := fun _ h => List.mem_cons_of_mem _ (List.mem_append_left _ (List.mem_append_left _ (List.mem_append_right _ h)))
theorem inX6_passWeek_6 : ∀ w ∈ u_ws RX6 TX6 6, w ∈ wsX6_passWeek := fun _ h => List.mem_cons_of_mem _ (List.mem_append_left _ (List.mem_append_left _ (List.mem_append_left _ (List.mem_append_left _ (List.mem_append_right _ h)))))
theorem inX6_passWeek_7 : ∀ w ∈ u_ws RX7 TX7 5, w ∈ wsX6_passWeek := fun _ h => List.mem_cons_of_mem _ (List.mem_append_left _ (List.mem_append_right _ h))
theorem inX6_passWeek_8 : ∀ w ∈ u_ws RX8 TX8 6, w ∈ wsX6_passWeek := fun _ h => List.mem_cons_of_mem _ (List.mem_append_left _ (List.mem_append_left _ (List.mem_append_left _ (List.mem_append_right _ h))))
theorem hdX6_passWeek : yX6_passWeek.cls = RX6 ∧ yX6_passWeek.cls ≠ "java/lang/invoke/MethodHandle" ∧ yX6_passWeek.cls ≠ "java/lang/invoke/VarHandle" ∧ (parseMethodDescriptor yX6_passWeek.desc).map (fun d => d.parameters.length) = some 0 := by decide +kernel
abbrev wrX6_passWeek_28 : List (Nat × Nat) := [(0, 3072), (1, 50), (1, 51), (1, 52), (1, 47), (1, 46), (1, 49), (0, 3073), (0, 2752), (1, 44), (1, 45)]
abbrev rmX6_passWeek_28 : Room := { frames := 5, cells := 0, slots := 0, locals := 114 }
set_option maxHeartbeats 4000000 in
set_option maxRecDepth 100000 in
theorem wX6_passWeek_28_50 {p : Program} {l : Launch} {e : Env} {s : State} {m : MethodId} {args : Array Value} {below : List Frame} {meth : Method} {c : Code} {D : va_G} {b : Nat → Nat} {ids : List Nat} {A : Nat → Prop} {S0 : ns_S} {o : Int32 × (Nat → Int32) × (Nat → Int32) × (Nat → Int32) × (Nat → Int32) × (Nat → Int32) × (Nat → Int32) × Int32 × Int32 × (Nat → Int32) × (Nat → Int32)} (N : Nat) (hI : ∀ i, i < 107 → i ∈ ids) (C : ns_C p m c cX6_passWeek 2 s args wsX6_passWeek RX6 D A) (hr : meth.sig.returnType = none) (hlk : meth.locks = false) : ∀ n : Nat, ∀ {S : ns_S} {H : Heap} {locs : List Loc} {ls : Array Slot} {l1 : Int32}, ns_W D b ids A s.heap wrX6_passWeek_28 S0 S H locs → lv_has ls 2 [(0, .ref (b 28)), (1, .int l1)] → fX6_passWeek_50 N n (S.1 3072) (S.1 1984) (S.1 2752) (S.2.1 50) (S.2.1 33) (S.2.1 51) (S.2.1 44) (S.2.1 52) (S.1 2368) (S.2.1 41) (S.2.1 42) (S.2.1 46) (S.2.1 45) (S.2.1 47) (S.2.1 32) (S.2.1 40) (S.2.1 49) (S.1 3073) (S.2.1 34) l1 = some o → W p l e rmX6_passWeek_28 s m args below meth c H locs 0 0 (MQ below (ns_Q D b ids (ns_I (ns_A (ns_A (ns_A (ns_A (ns_A (ns_A (ns_I (ns_I (ns_A (ns_A S0 45 o.2.2.2.2.2.2.2.2.2.2) 44 o.2.2.2.2.2.2.2.2.2.1) 2752 o.2.2.2.2.2.2.2.2.1) 3073 o.2.2.2.2.2.2.2.1) 49 o.2.2.2.2.2.2.1) 46 o.2.2.2.2.2.1) 47 o.2.2.2.2.1) 52 o.2.2.2.1) 51 o.2.2.1) 50 o.2.1) 3072 o.1) none A) args s 0 0 A) (F0 m 50 ls []) := by
  intro n
  induction n with
  | zero =>
    intro S H locs ls l1 w hl hf
    cases hf
  | succ n K50 =>
    intro S H locs ls l1 w hl hf
    change gX6_passWeek_50 N (fX6_passWeek_50 N n) (S.1 3072) (S.1 1984) (S.1 2752) (S.2.1 50) (S.2.1 33) (S.2.1 51) (S.2.1 44) (S.2.1 52) (S.1 2368) (S.2.1 41) (S.2.1 42) (S.2.1 46) (S.2.1 45) (S.2.1 47) (S.2.1 32) (S.2.1 40) (S.2.1 49) (S.1 3073) (S.2.1 34) l1 = some o at hf
    generalize fX6_passWeek_50 N n = r50 at hf K50
    unfold gX6_passWeek_50 at hf
    refine lv_iload_n C.1.1 C.1.2.1 dX6_passWeek_50 rfl (lv_at hl 1 rfl) ?_
    refine lv_aload_n C.1.1 C.1.2.1 dX6_passWeek_51 rfl (lv_at hl 0 rfl) ?_
    refine ns_getr C w 28 (hI 28 (by decide)) sh_28 (rfl : vwCl[6]? = some (RX6, TX6, 6)) inX6_passWeek_6 1 (by decide) rfl lX6_passWeek_21 dX6_passWeek_52 ?_
    refine ns_geti C w 31 (hI 31 (by decide)) sh_31 (rfl : vwCl[0]? = some (RX0, TX0, 6)) inX6_passWeek_0 0 (by decide) rfl lX6_passWeek_72 (S.1 1984) rfl dX6_passWeek_55 ?_
    refine ns_icmp_ge C hf (tgt := 109) dX6_passWeek_58 (by decide) (fun hf => ?_) (fun hf => ?_)
    · refine lv_aload_n C.1.1 C.1.2.1 dX6_passWeek_109 rfl (lv_at hl 0 rfl) ?_
      refine ns_callV C w 28 (hI 28 (by decide)) sh_28 (rfl : vwCl[6]? = some (RX6, TX6, 6)) [] hf (fun u hu => mX6_moveUp_28 l D b ids hI N _ hu) gX6_passWeek_X6_moveUp rfl rfl rfl hdX6_moveUp ⟨Nat.le_of_ble_eq_true rfl, Nat.le_of_ble_eq_true rfl⟩ (fun u h => ((((h.I (List.mem_of_getElem? (i := 7) rfl) _).A (List.mem_of_getElem? (i := 6) rfl) _).A (List.mem_of_getElem? (i := 5) rfl) _).A (List.mem_of_getElem? (i := 4) rfl) _)) rfl hl.1 rfl (Nat.le_of_ble_eq_true rfl) ⟨Nat.le_refl _, Nat.le_refl _⟩ dX6_passWeek_110 (fun o1 H locs hf w => ?_)
      have he := Option.some.inj hf
      subst he
      exact ns_vret C w hr hlk rfl rfl dX6_passWeek_113
    · refine lv_aload_n C.1.1 C.1.2.1 dX6_passWeek_61 rfl (lv_at hl 0 rfl) ?_
      refine ns_getr C w 28 (hI 28 (by decide)) sh_28 (rfl : vwCl[6]? = some (RX6, TX6, 6)) inX6_passWeek_6 3 (by decide) rfl lX6_passWeek_35 dX6_passWeek_62 ?_
      refine lv_iload_n C.1.1 C.1.2.1 dX6_passWeek_65 rfl (lv_at hl 1 rfl) ?_
      refine ns_callV C w 43 (hI 43 (by decide)) sh_43 (rfl : vwCl[7]? = some (RX7, TX7, 5)) [.int l1] hf (fun u hu => mX7_isHeld_43 l D b ids hI N _ l1 hu) gX6_passWeek_X7_isHeld rfl rfl rfl hdX7_isHeld ⟨Nat.le_of_ble_eq_true rfl, Nat.le_of_ble_eq_true rfl⟩ (fun u h => h) rfl hl.1 rfl (Nat.le_of_ble_eq_true rfl) ⟨Nat.le_refl _, Nat.le_refl _⟩ dX6_passWeek_66 (fun o2 H locs hf w => ?_)
      refine ns_if_eq C hf (tgt := 103) dX6_passWeek_69 (by decide) (fun hf => ?_) (fun hf => ?_)
      · refine ns_iinc (lv' := fun x3 => [(1, .int x3), (0, .ref (b 28))]) C hf dX6_passWeek_103 hl (k := 1) rfl rfl (by decide) (fun _ => rfl) (fun x3 ls hl hf => ?_)
        refine lv_goto (tgt := 50) C.1.1 C.1.2.1 dX6_passWeek_106 (by decide) ?_
        exact K50 w (lv_sub hl [1, 0] rfl) hf
      · refine lv_iconst (v := 2) C.1.1 C.1.2.1 dX6_passWeek_72 (by decide) ?_
        refine lv_aload_n C.1.1 C.1.2.1 dX6_passWeek_73 rfl (lv_at hl 0 rfl) ?_
        refine ns_getr C w 28 (hI 28 (by decide)) sh_28 (rfl : vwCl[6]? = some (RX6, TX6, 6)) inX6_passWeek_6 3 (by decide) rfl lX6_passWeek_35 dX6_passWeek_74 ?_
        refine ns_getr C w 43 (hI 43 (by decide)) sh_43 (rfl : vwCl[7]? = some (RX7, TX7, 5)) inX6_passWeek_7 3 (by decide) rfl lX6_passWeek_142 dX6_passWeek_77 ?_
        refine lv_iload_n C.1.1 C.1.2.1 dX6_passWeek_80 rfl (lv_at hl 1 rfl) ?_
        refine ns_iald C w 46 (hI 46 (by decide)) sh_46 hf rfl dX6_passWeek_81 (fun x4 hf => ?_)
        refine lv_imul C.1.1 C.1.2.1 dX6_passWeek_82 ?_
        refine lv_aload_n C.1.1 C.1.2.1 dX6_passWeek_83 rfl (lv_at hl 0 rfl) ?_
        refine ns_getr C w 28 (hI 28 (by decide)) sh_28 (rfl : vwCl[6]? = some (RX6, TX6, 6)) inX6_passWeek_6 1 (by decide) rfl lX6_passWeek_21 dX6_passWeek_84 ?_
        refine ns_getr C w 31 (hI 31 (by decide)) sh_31 (rfl : vwCl[0]? = some (RX0, TX0, 6)) inX6_passWeek_0 3 (by decide) rfl lX6_passWeek_145 dX6_passWeek_87 ?_
        refine lv_iload_n C.1.1 C.1.2.1 dX6_passWeek_90 rfl (lv_at hl 1 rfl) ?_
        refine ns_iald C w 34 (hI 34 (by decide)) sh_34 hf rfl dX6_passWeek_91 (fun x5 hf => ?_)
        refine ns_icmp_ge C hf (tgt := 103) dX6_passWeek_92 (by decide) (fun hf => ?_) (fun hf => ?_)
        · refine ns_iinc (lv' := fun x6 => [(1, .int x6), (0, .ref (b 28))]) C hf dX6_passWeek_103 hl (k := 1) rfl rfl (by decide) (fun _ => rfl) (fun x6 ls hl hf => ?_)
          refine lv_goto (tgt := 50) C.1.1 C.1.2.1 dX6_passWeek_106 (by decide) ?_
          exact K50 w (lv_sub hl [1, 0] rfl) hf
        · refine lv_aload_n C.1.1 C.1.2.1 dX6_passWeek_95 rfl (lv_at hl 0 rfl) ?_
          refine ns_getr C w 28 (hI 28 (by decide)) sh_28 (rfl : vwCl[6]? = some (RX6, TX6, 6)) inX6_passWeek_6 3 (by decide) rfl lX6_passWeek_35 dX6_passWeek_96 ?_
          refine lv_iload_n C.1.1 C.1.2.1 dX6_passWeek_99 rfl (lv_at hl 1 rfl) ?_
          refine ns_callV C w 43 (hI 43 (by decide)) sh_43 (rfl : vwCl[7]? = some (RX7, TX7, 5)) [.int l1] hf (fun u hu => mX7_cancel_43 l D b ids hI N _ l1 hu) gX6_passWeek_X7_cancel rfl rfl rfl hdX7_cancel ⟨Nat.le_of_ble_eq_true rfl, Nat.le_of_ble_eq_true rfl⟩ (fun u h => (((((h.A (List.mem_of_getElem? (i := 4) rfl) _).A (List.mem_of_getElem? (i := 5) rfl) _).A (List.mem_of_getElem? (i := 10) rfl) _).A (List.mem_of_getElem? (i := 9) rfl) _).I (List.mem_of_getElem? (i := 8) rfl) _)) rfl hl.1 rfl (Nat.le_of_ble_eq_true rfl) ⟨Nat.le_refl _, Nat.le_refl _⟩ dX6_passWeek_100 (fun o7 H locs hf w => ?_)
          refine ns_iinc (lv' := fun x8 => [(1, .int x8), (0, .ref (b 28))]) C hf dX6_passWeek_103 hl (k := 1) rfl rfl (by decide) (fun _ => rfl) (fun x8 ls hl hf => ?_)
          refine lv_goto (tgt := 50) C.1.1 C.1.2.1 dX6_passWeek_106 (by decide) ?_
          exact K50 w (lv_sub hl [1, 0] rfl) hf
set_option maxHeartbeats 4000000 in
set_option maxRecDepth 100000 in
theorem wX6_passWeek_28_15 {p : Program} {l : Launch} {e : Env} {s : State} {m : MethodId} {args : Array Value} {below : List Frame} {meth : Method} {c : Code} {D : va_G} {b : Nat → Nat} {ids : List Nat} {A : Nat → Prop} {S0 : ns_S} {o : Int32 × (Nat → Int32) × (Nat → Int32) × (Nat → Int32) × (Nat → Int32) × (Nat → Int32) × (Nat → Int32) × Int32 × Int32 × (Nat → Int32) × (Nat → Int32)} (N : Nat) (hI : ∀ i, i < 107 → i ∈ ids) (C : ns_C p m c cX6_passWeek 2 s args wsX6_passWeek RX6 D A) (hr : meth.sig.returnType = none) (hlk : meth.locks = false) : ∀ n : Nat, ∀ {S : ns_S} {H : Heap} {locs : List Loc} {ls : Array Slot} {l1 : Int32}, ns_W D b ids A s.heap wrX6_passWeek_28 S0 S H locs → lv_has ls 2 [(0, .ref (b 28)), (1, .int l1)] → fX6_passWeek_15 N n (S.1 3072) (S.1 1984) (S.1 2752) (S.2.1 50) (S.2.1 33) (S.2.1 51) (S.2.1 44) (S.2.1 52) (S.1 2368) (S.2.1 41) (S.2.1 42) (S.2.1 46) (S.2.1 45) (S.2.1 47) (S.2.1 32) (S.2.1 40) (S.2.1 49) (S.1 3073) (S.2.1 34) l1 = some o → W p l e rmX6_passWeek_28 s m args below meth c H locs 0 0 (MQ below (ns_Q D b ids (ns_I (ns_A (ns_A (ns_A (ns_A (ns_A (ns_A (ns_I (ns_I (ns_A (ns_A S0 45 o.2.2.2.2.2.2.2.2.2.2) 44 o.2.2.2.2.2.2.2.2.2.1) 2752 o.2.2.2.2.2.2.2.2.1) 3073 o.2.2.2.2.2.2.2.1) 49 o.2.2.2.2.2.2.1) 46 o.2.2.2.2.2.1) 47 o.2.2.2.2.1) 52 o.2.2.2.1) 51 o.2.2.1) 50 o.2.1) 3072 o.1) none A) args s 0 0 A) (F0 m 15 ls []) := by
  intro n
  induction n with
  | zero =>
    intro S H locs ls l1 w hl hf
    cases hf
  | succ n K15 =>
    intro S H locs ls l1 w hl hf
    change gX6_passWeek_15 N (fX6_passWeek_15 N n) (S.1 3072) (S.1 1984) (S.1 2752) (S.2.1 50) (S.2.1 33) (S.2.1 51) (S.2.1 44) (S.2.1 52) (S.1 2368) (S.2.1 41) (S.2.1 42) (S.2.1 46) (S.2.1 45) (S.2.1 47) (S.2.1 32) (S.2.1 40) (S.2.1 49) (S.1 3073) (S.2.1 34) l1 = some o at hf
    generalize fX6_passWeek_15 N n = r15 at hf K15
    unfold gX6_passWeek_15 at hf
    refine lv_iload_n C.1.1 C.1.2.1 dX6_passWeek_15 rfl (lv_at hl 1 rfl) ?_
    refine lv_aload_n C.1.1 C.1.2.1 dX6_passWeek_16 rfl (lv_at hl 0 rfl) ?_
    refine ns_getr C w 28 (hI 28 (by decide)) sh_28 (rfl : vwCl[6]? = some (RX6, TX6, 6)) inX6_passWeek_6 1 (by decide) rfl lX6_passWeek_21 dX6_passWeek_17 ?_
    refine ns_geti C w 31 (hI 31 (by decide)) sh_31 (rfl : vwCl[0]? = some (RX0, TX0, 6)) inX6_passWeek_0 0 (by decide) rfl lX6_passWeek_72 (S.1 1984) rfl dX6_passWeek_20 ?_
    refine ns_icmp_ge C hf (tgt := 48) dX6_passWeek_23 (by decide) (fun hf => ?_) (fun hf => ?_)
    · refine lv_iconst (v := 0) C.1.1 C.1.2.1 dX6_passWeek_48 (by decide) ?_
      refine lv_istore_n (lv' := [(1, .int 0), (0, .ref (b 28))]) C.1.1 C.1.2.1 dX6_passWeek_49 rfl hl (by decide) rfl (fun ls hl => ?_)
      exact wX6_passWeek_28_50 N hI C hr hlk N w (lv_sub hl [1, 0] rfl) hf
    · refine lv_aload_n C.1.1 C.1.2.1 dX6_passWeek_26 rfl (lv_at hl 0 rfl) ?_
      refine ns_getr C w 28 (hI 28 (by decide)) sh_28 (rfl : vwCl[6]? = some (RX6, TX6, 6)) inX6_passWeek_6 3 (by decide) rfl lX6_passWeek_35 dX6_passWeek_27 ?_
      refine lv_iload_n C.1.1 C.1.2.1 dX6_passWeek_30 rfl (lv_at hl 1 rfl) ?_
      refine ns_callV C w 43 (hI 43 (by decide)) sh_43 (rfl : vwCl[7]? = some (RX7, TX7, 5)) [.int l1] hf (fun u hu => mX7_isHeld_43 l D b ids hI N _ l1 hu) gX6_passWeek_X7_isHeld rfl rfl rfl hdX7_isHeld ⟨Nat.le_of_ble_eq_true rfl, Nat.le_of_ble_eq_true rfl⟩ (fun u h => h) rfl hl.1 rfl (Nat.le_of_ble_eq_true rfl) ⟨Nat.le_refl _, Nat.le_refl _⟩ dX6_passWeek_31 (fun o1 H locs hf w => ?_)
      refine ns_if_eq C hf (tgt := 42) dX6_passWeek_34 (by decide) (fun hf => ?_) (fun hf => ?_)
      · refine ns_iinc (lv' := fun x2 => [(1, .int x2), (0, .ref (b 28))]) C hf dX6_passWeek_42 hl (k := 1) rfl rfl (by decide) (fun _ => rfl) (fun x2 ls hl hf => ?_)
        refine lv_goto (tgt := 15) C.1.1 C.1.2.1 dX6_passWeek_45 (by decide) ?_
        exact K15 w (lv_sub hl [1, 0] rfl) hf
      · refine lv_aload_n C.1.1 C.1.2.1 dX6_passWeek_37 rfl (lv_at hl 0 rfl) ?_
        refine lv_iload_n C.1.1 C.1.2.1 dX6_passWeek_38 rfl (lv_at hl 1 rfl) ?_
        refine ns_callV C w 28 (hI 28 (by decide)) sh_28 (rfl : vwCl[6]? = some (RX6, TX6, 6)) [.int l1] hf (fun u hu => mX6_countWeekOf_28 l D b ids hI N _ l1 hu) gX6_passWeek_X6_countWeekOf rfl rfl rfl hdX6_countWeekOf ⟨Nat.le_of_ble_eq_true rfl, Nat.le_of_ble_eq_true rfl⟩ (fun u h => (((h.A (List.mem_of_getElem? (i := 3) rfl) _).A (List.mem_of_getElem? (i := 2) rfl) _).A (List.mem_of_getElem? (i := 1) rfl) _)) rfl hl.1 rfl (Nat.le_of_ble_eq_true rfl) ⟨Nat.le_refl _, Nat.le_refl _⟩ dX6_passWeek_39 (fun o3 H locs hf w => ?_)
        refine ns_iinc (lv' := fun x4 => [(1, .int x4), (0, .ref (b 28))]) C hf dX6_passWeek_42 hl (k := 1) rfl rfl (by decide) (fun _ => rfl) (fun x4 ls hl hf => ?_)
        refine lv_goto (tgt := 15) C.1.1 C.1.2.1 dX6_passWeek_45 (by decide) ?_
        exact K15 w (lv_sub hl [1, 0] rfl) hf
set_option maxHeartbeats 4000000 in
set_option maxRecDepth 100000 in
theorem mX6_passWeek_28 (l : Launch) (D : va_G) (b : Nat → Nat) (ids : List Nat) (hI : ∀ i, i < 107 → i ∈ ids) (N : Nat) (S : ns_S) {o : Int32 × (Nat → Int32) × (Nat → Int32) × (Nat → Int32) × (Nat → Int32) × (Nat → Int32) × (Nat → Int32) × Int32 × Int32 × (Nat → Int32) × (Nat → Int32)} (hf : fX6_passWeek N (S.1 3072) (S.1 1984) (S.1 2752) (S.2.1 50) (S.2.1 33) (S.2.1 51) (S.2.1 44) (S.2.1 52) (S.1 2368) (S.2.1 41) (S.2.1 42) (S.2.1 46) (S.2.1 45) (S.2.1 47) (S.2.1 32) (S.2.1 40) (S.2.1 49) (S.1 3073) (S.2.1 34) = some o) : ns_M l yX6_passWeek wsX6_passWeek rmX6_passWeek_28 D b ids S [.ref (b 28)] none (ns_I (ns_A (ns_A (ns_A (ns_A (ns_A (ns_A (ns_I (ns_I (ns_A (ns_A S 45 o.2.2.2.2.2.2.2.2.2.2) 44 o.2.2.2.2.2.2.2.2.2.1) 2752 o.2.2.2.2.2.2.2.2.1) 3073 o.2.2.2.2.2.2.2.1) 49 o.2.2.2.2.2.2.1) 46 o.2.2.2.2.2.1) 47 o.2.2.2.2.1) 52 o.2.2.2.1) 51 o.2.2.1) 50 o.2.1) 3072 o.1) := by
  refine ns_start (Wr := wrX6_passWeek_28) (by decide) rfl (Nat.le_of_ble_eq_true rfl) ?_
  intro p e s m below meth c A ls C hr hlk w hl
  have hl : lv_has ls 2 [(0, .ref (b 28))] := hl
  unfold fX6_passWeek at hf
  refine lv_aload_n C.1.1 C.1.2.1 dX6_passWeek_0 rfl (lv_at hl 0 rfl) ?_
  refine ns_getr C w 28 (hI 28 (by decide)) sh_28 (rfl : vwCl[6]? = some (RX6, TX6, 6)) inX6_passWeek_6 4 (by decide) rfl lX6_passWeek_42 dX6_passWeek_1 ?_
  refine lv_dup C.1.1 C.1.2.1 dX6_passWeek_4 rfl ?_
  refine ns_geti C w 48 (hI 48 (by decide)) sh_48 (rfl : vwCl[8]? = some (RX8, TX8, 6)) inX6_passWeek_8 0 (by decide) rfl lX6_passWeek_135 (S.1 3072) rfl dX6_passWeek_5 ?_
  refine lv_iconst (v := 1) C.1.1 C.1.2.1 dX6_passWeek_8 (by decide) ?_
  refine lv_iadd C.1.1 C.1.2.1 dX6_passWeek_9 ?_
  refine ns_namei hf (fun x1 hf => ?_)
  refine ns_puti C w 48 (hI 48 (by decide)) sh_48 (rfl : vwCl[8]? = some (RX8, TX8, 6)) inX6_passWeek_8 tyX8_ok nmX8 0 (by decide) rfl lX6_passWeek_135 rfl rfl rfl (List.mem_of_getElem? (i := 0) rfl) dX6_passWeek_10 (fun H locs w => ?_)
  refine lv_iconst (v := 0) C.1.1 C.1.2.1 dX6_passWeek_13 (by decide) ?_
  refine lv_istore_n (lv' := [(1, .int 0), (0, .ref (b 28))]) C.1.1 C.1.2.1 dX6_passWeek_14 rfl hl (by decide) rfl (fun ls hl => ?_)
  exact wX6_passWeek_28_15 N hI C hr hlk N w (lv_sub hl [1, 0] rfl) hf
theorem lX10_weeks_30 : Cond.fieldLink RX10 30 (TX10 4).1 (TX10 4).2.1 (TX10 4).2.2.1 ∈ wsX10_weeks := List.mem_of_getElem? (i := 1) rfl
theorem lX10_weeks_76 : Cond.fieldLink RX10 76 (TX6 4).1 (TX6 4).2.1 (TX6 4).2.2.1 ∈ wsX10_weeks := List.mem_of_getElem? (i := 2) rfl
theorem lX10_weeks_180 : Cond.fieldLink RX10 180 (TX8 0).1 (TX8 0).2.1 (TX8 0).2.2.1 ∈ wsX10_weeks := List.mem_of_getElem? (i := 3) rfl
theorem inX10_weeks_6 : ∀ w ∈ u_ws RX6 TX6 6, w ∈ wsX10_weeks := fun _ h => List.mem_cons_of_mem _ (List.mem_append_left _ (List.mem_append_left _ (List.mem_append_left _ (List.mem_append_left _ (List.mem_append_right _ h)))))
theorem inX10_weeks_8 : ∀ w ∈ u_ws RX8 TX8 6, w ∈ wsX10_weeks := fun _ h => List.mem_cons_of_mem _ (List.mem_append_left _ (List.mem_append_left _ (List.mem_append_left _ (List.mem_append_right _ h))))
theorem inX10_weeks_10 : ∀ w ∈ u_ws RX10 TX10 6, w ∈ wsX10_weeks := fun _ h => List.mem_cons_of_mem _ (List.mem_append_left _ (List.mem_append_left _ (List.mem_append_left _ (List.mem_append_left _ (List.mem_append_left _ (List.mem_append_right _ h))))))
theorem hdX10_weeks : yX10_weeks.cls = RX10 ∧ yX10_weeks.cls ≠ "java/lang/invoke/MethodHandle" ∧ yX10_weeks.cls ≠ "java/lang/invoke/VarHandle" ∧ (parseMethodDescriptor yX10_weeks.desc).map (fun d => d.parameters.length) = some 1 := by decide +kernel
abbrev wrX10_weeks_0 : List (Nat × Nat) := [(0, 3072), (1, 50), (1, 51), (1, 52), (1, 47), (1, 46), (1, 49), (0, 3073), (0, 2752), (1, 44), (1, 45)]
abbrev rmX10_weeks_0 : Room := { frames := 6, cells := 0, slots := 0, locals := 135 }
set_option maxHeartbeats 4000000 in
set_option maxRecDepth 100000 in
theorem wX10_weeks_0_27 {p : Program} {l : Launch} {e : Env} {s : State} {m : MethodId} {args : Array Value} {below : List Frame} {meth : Method} {c : Code} {D : va_G} {b : Nat → Nat} {ids : List Nat} {A : Nat → Prop} {S0 : ns_S} {o : Int32 × Int32 × (Nat → Int32) × (Nat → Int32) × (Nat → Int32) × (Nat → Int32) × (Nat → Int32) × (Nat → Int32) × Int32 × Int32 × (Nat → Int32) × (Nat → Int32)} (N : Nat) (hI : ∀ i, i < 107 → i ∈ ids) (C : ns_C p m c cX10_weeks 3 s args wsX10_weeks RX10 D A) (hr : meth.sig.returnType = some .int) (hlk : meth.locks = false) : ∀ n : Nat, ∀ {S : ns_S} {H : Heap} {locs : List Loc} {ls : Array Slot} {l1 : Int32} {l2 : Int32}, ns_W D b ids A s.heap wrX10_weeks_0 S0 S H locs → lv_has ls 3 [(0, .ref (b 0)), (1, .int l1), (2, .int l2)] → fX10_weeks_27 N n (S.1 3072) (S.1 1984) (S.1 2752) (S.2.1 50) (S.2.1 33) (S.2.1 51) (S.2.1 44) (S.2.1 52) (S.1 2368) (S.2.1 41) (S.2.1 42) (S.2.1 46) (S.2.1 45) (S.2.1 47) (S.2.1 32) (S.2.1 40) (S.2.1 49) (S.1 3073) (S.2.1 34) l1 l2 = some o → W p l e rmX10_weeks_0 s m args below meth c H locs 0 0 (MQ below (ns_Q D b ids (ns_I (ns_A (ns_A (ns_A (ns_A (ns_A (ns_A (ns_I (ns_I (ns_A (ns_A S0 45 o.2.2.2.2.2.2.2.2.2.2.2) 44 o.2.2.2.2.2.2.2.2.2.2.1) 2752 o.2.2.2.2.2.2.2.2.2.1) 3073 o.2.2.2.2.2.2.2.2.1) 49 o.2.2.2.2.2.2.2.1) 46 o.2.2.2.2.2.2.1) 47 o.2.2.2.2.2.1) 52 o.2.2.2.2.1) 51 o.2.2.2.1) 50 o.2.2.1) 3072 o.2.1) (some (.int o.1)) A) args s 0 0 A) (F0 m 27 ls []) := by
  intro n
  induction n with
  | zero =>
    intro S H locs ls l1 l2 w hl hf
    cases hf
  | succ n K27 =>
    intro S H locs ls l1 l2 w hl hf
    change gX10_weeks_27 N (fX10_weeks_27 N n) (S.1 3072) (S.1 1984) (S.1 2752) (S.2.1 50) (S.2.1 33) (S.2.1 51) (S.2.1 44) (S.2.1 52) (S.1 2368) (S.2.1 41) (S.2.1 42) (S.2.1 46) (S.2.1 45) (S.2.1 47) (S.2.1 32) (S.2.1 40) (S.2.1 49) (S.1 3073) (S.2.1 34) l1 l2 = some o at hf
    generalize fX10_weeks_27 N n = r27 at hf K27
    unfold gX10_weeks_27 at hf
    refine lv_iload_n C.1.1 C.1.2.1 dX10_weeks_27 rfl (lv_at hl 2 rfl) ?_
    refine lv_iload_n C.1.1 C.1.2.1 dX10_weeks_28 rfl (lv_at hl 1 rfl) ?_
    refine ns_icmp_ge C hf (tgt := 45) dX10_weeks_29 (by decide) (fun hf => ?_) (fun hf => ?_)
    · refine lv_aload_n C.1.1 C.1.2.1 dX10_weeks_45 rfl (lv_at hl 0 rfl) ?_
      refine ns_getr C w 0 (hI 0 (by decide)) sh_0 (rfl : vwCl[10]? = some (RX10, TX10, 6)) inX10_weeks_10 4 (by decide) rfl lX10_weeks_30 dX10_weeks_46 ?_
      refine ns_getr C w 28 (hI 28 (by decide)) sh_28 (rfl : vwCl[6]? = some (RX6, TX6, 6)) inX10_weeks_6 4 (by decide) rfl lX10_weeks_76 dX10_weeks_49 ?_
      refine ns_geti C w 48 (hI 48 (by decide)) sh_48 (rfl : vwCl[8]? = some (RX8, TX8, 6)) inX10_weeks_8 0 (by decide) rfl lX10_weeks_180 (S.1 3072) rfl dX10_weeks_52 ?_
      have he := Option.some.inj hf
      subst he
      exact ns_iret C w hr hlk rfl rfl dX10_weeks_55
    · refine lv_aload_n C.1.1 C.1.2.1 dX10_weeks_32 rfl (lv_at hl 0 rfl) ?_
      refine ns_getr C w 0 (hI 0 (by decide)) sh_0 (rfl : vwCl[10]? = some (RX10, TX10, 6)) inX10_weeks_10 4 (by decide) rfl lX10_weeks_30 dX10_weeks_33 ?_
      refine ns_callV C w 28 (hI 28 (by decide)) sh_28 (rfl : vwCl[6]? = some (RX6, TX6, 6)) [] hf (fun u hu => mX6_passWeek_28 l D b ids hI N _ hu) gX10_weeks_X6_passWeek rfl rfl rfl hdX6_passWeek ⟨Nat.le_of_ble_eq_true rfl, Nat.le_of_ble_eq_true rfl⟩ (fun u h => (((((((((((h.A (List.mem_of_getElem? (i := 10) rfl) _).A (List.mem_of_getElem? (i := 9) rfl) _).I (List.mem_of_getElem? (i := 8) rfl) _).I (List.mem_of_getElem? (i := 7) rfl) _).A (List.mem_of_getElem? (i := 6) rfl) _).A (List.mem_of_getElem? (i := 5) rfl) _).A (List.mem_of_getElem? (i := 4) rfl) _).A (List.mem_of_getElem? (i := 3) rfl) _).A (List.mem_of_getElem? (i := 2) rfl) _).A (List.mem_of_getElem? (i := 1) rfl) _).I (List.mem_of_getElem? (i := 0) rfl) _)) rfl hl.1 rfl (Nat.le_of_ble_eq_true rfl) ⟨Nat.le_refl _, Nat.le_refl _⟩ dX10_weeks_36 (fun o1 H locs hf w => ?_)
      refine ns_iinc (lv' := fun x2 => [(2, .int x2), (0, .ref (b 0)), (1, .int l1)]) C hf dX10_weeks_39 hl (k := 2) rfl rfl (by decide) (fun _ => rfl) (fun x2 ls hl hf => ?_)
      refine lv_goto (tgt := 27) C.1.1 C.1.2.1 dX10_weeks_42 (by decide) ?_
      exact K27 w (lv_sub hl [1, 2, 0] rfl) hf
set_option maxHeartbeats 4000000 in
set_option maxRecDepth 100000 in
theorem mX10_weeks_0 (l : Launch) (D : va_G) (b : Nat → Nat) (ids : List Nat) (hI : ∀ i, i < 107 → i ∈ ids) (N : Nat) (S : ns_S) (p1 : Int32) {o : Int32 × Int32 × (Nat → Int32) × (Nat → Int32) × (Nat → Int32) × (Nat → Int32) × (Nat → Int32) × (Nat → Int32) × Int32 × Int32 × (Nat → Int32) × (Nat → Int32)} (hf : fX10_weeks N (S.1 3072) (S.1 1984) (S.1 2752) (S.2.1 50) (S.2.1 33) (S.2.1 51) (S.2.1 44) (S.2.1 52) (S.1 2368) (S.2.1 41) (S.2.1 42) (S.2.1 46) (S.2.1 45) (S.2.1 47) (S.2.1 32) (S.2.1 40) (S.2.1 49) (S.1 3073) (S.2.1 34) p1 = some o) : ns_M l yX10_weeks wsX10_weeks rmX10_weeks_0 D b ids S [.ref (b 0), .int p1] (some (.int o.1)) (ns_I (ns_A (ns_A (ns_A (ns_A (ns_A (ns_A (ns_I (ns_I (ns_A (ns_A S 45 o.2.2.2.2.2.2.2.2.2.2.2) 44 o.2.2.2.2.2.2.2.2.2.2.1) 2752 o.2.2.2.2.2.2.2.2.2.1) 3073 o.2.2.2.2.2.2.2.2.1) 49 o.2.2.2.2.2.2.2.1) 46 o.2.2.2.2.2.2.1) 47 o.2.2.2.2.2.1) 52 o.2.2.2.2.1) 51 o.2.2.2.1) 50 o.2.2.1) 3072 o.2.1) := by
  refine ns_start (Wr := wrX10_weeks_0) (by decide) rfl (Nat.le_of_ble_eq_true rfl) ?_
  intro p e s m below meth c A ls C hr hlk w hl
  have hl : lv_has ls 3 [(0, .ref (b 0)), (1, .int p1)] := hl
  unfold fX10_weeks at hf
  refine lv_aload_n C.1.1 C.1.2.1 dX10_weeks_0 rfl (lv_at hl 0 rfl) ?_
  refine ns_getr C w 0 (hI 0 (by decide)) sh_0 (rfl : vwCl[10]? = some (RX10, TX10, 6)) inX10_weeks_10 4 (by decide) rfl lX10_weeks_30 dX10_weeks_1 ?_
  refine ns_getr C w 28 (hI 28 (by decide)) sh_28 (rfl : vwCl[6]? = some (RX6, TX6, 6)) inX10_weeks_6 4 (by decide) rfl lX10_weeks_76 dX10_weeks_4 ?_
  refine ns_callV C w 48 (hI 48 (by decide)) sh_48 (rfl : vwCl[8]? = some (RX8, TX8, 6)) [] hf (fun u hu => mX8_isOn_48 l D b ids hI N _ hu) gX10_weeks_X8_isOn rfl rfl rfl hdX8_isOn ⟨Nat.le_of_ble_eq_true rfl, Nat.le_of_ble_eq_true rfl⟩ (fun u h => h) rfl hl.1 rfl (Nat.le_of_ble_eq_true rfl) ⟨Nat.le_refl _, Nat.le_refl _⟩ dX10_weeks_7 (fun o1 H locs hf w => ?_)
  refine ns_if_eq C hf (tgt := 23) dX10_weeks_10 (by decide) (fun hf => ?_) (fun hf => ?_)
  · refine lv_iconst (v := (-1)) C.1.1 C.1.2.1 dX10_weeks_23 (by decide) ?_
    have he := Option.some.inj hf
    subst he
    exact ns_iret C w hr hlk rfl rfl dX10_weeks_24
  · refine lv_iload_n C.1.1 C.1.2.1 dX10_weeks_13 rfl (lv_at hl 1 rfl) ?_
    refine lv_iconst (v := 1) C.1.1 C.1.2.1 dX10_weeks_14 (by decide) ?_
    refine lv_bipush (v := 20) C.1.1 C.1.2.1 dX10_weeks_15 (by decide) ?_
    refine ns_callS C w [.int p1, .int 1, .int 20] hf (fun u hu => mX10_isWithin l D b ids hI N _ p1 1 20 hu) gX10_weeks_X10_isWithin rfl rfl rfl hdX10_isWithin ⟨Nat.le_of_ble_eq_true rfl, Nat.le_of_ble_eq_true rfl⟩ (fun u h => h) rfl hl.1 rfl (Nat.le_of_ble_eq_true rfl) ⟨Nat.le_refl _, Nat.le_refl _⟩ dX10_weeks_17 (fun o2 H locs hf w => ?_)
    refine ns_if_ne C hf (tgt := 25) dX10_weeks_20 (by decide) (fun hf => ?_) (fun hf => ?_)
    · refine lv_iconst (v := 0) C.1.1 C.1.2.1 dX10_weeks_25 (by decide) ?_
      refine lv_istore_n (lv' := [(2, .int 0), (0, .ref (b 0)), (1, .int p1)]) C.1.1 C.1.2.1 dX10_weeks_26 rfl hl (by decide) rfl (fun ls hl => ?_)
      exact wX10_weeks_0_27 N hI C hr hlk N w (lv_sub hl [1, 2, 0] rfl) hf
    · refine lv_iconst (v := (-1)) C.1.1 C.1.2.1 dX10_weeks_23 (by decide) ?_
      have he := Option.some.inj hf
      subst he
      exact ns_iret C w hr hlk rfl rfl dX10_weeks_24
theorem lX11_falls_42 : Cond.fieldLink RX11 42 (TX11 12).1 (TX11 12).2.1 (TX11 12).2.2.1 ∈ wsX11_falls := List.mem_of_getElem? (i := 4) rfl
theorem lX11_falls_63 : Cond.fieldLink RX11 63 (TX11 19).1 (TX11 19).2.1 (TX11 19).2.2.1 ∈ wsX11_falls := List.mem_of_getElem? (i := 1) rfl
theorem lX11_falls_66 : Cond.fieldLink RX11 66 (TX11 20).1 (TX11 20).2.1 (TX11 20).2.2.1 ∈ wsX11_falls := List.mem_of_getElem? (i := 2) rfl
theorem lX11_falls_69 : Cond.fieldLink RX11 69 (TX11 21).1 (TX11 21).2.1 (TX11 21).2.2.1 ∈ wsX11_falls := List.mem_of_getElem? (i := 3) rfl
theorem lX11_falls_75 : Cond.fieldLink RX11 75 (TX11 23).1 (TX11 23).2.1 (TX11 23).2.2.1 ∈ wsX11_falls := List.mem_of_getElem? (i := 5) rfl
theorem inX11_falls_11 : ∀ w ∈ u_ws RX11 TX11 59, w ∈ wsX11_falls := fun _ h => List.mem_cons_of_mem _ (List.mem_append_right _ h)
theorem hdX11_falls : yX11_falls.cls = RX11 ∧ yX11_falls.cls ≠ "java/lang/invoke/MethodHandle" ∧ yX11_falls.cls ≠ "java/lang/invoke/VarHandle" ∧ (parseMethodDescriptor yX11_falls.desc).map (fun d => d.parameters.length) = some 1 := by decide +kernel
abbrev wrX11_falls_62 : List (Nat × Nat) := [(1, 80), (1, 81), (1, 82), (1, 84)]
abbrev rmX11_falls_62 : Room := { frames := 0, cells := 0, slots := 0, locals := 0 }
set_option maxHeartbeats 4000000 in
set_option maxRecDepth 100000 in
theorem wX11_falls_62_30 {p : Program} {l : Launch} {e : Env} {s : State} {m : MethodId} {args : Array Value} {below : List Frame} {meth : Method} {c : Code} {D : va_G} {b : Nat → Nat} {ids : List Nat} {A : Nat → Prop} {S0 : ns_S} {o : (Nat → Int32) × (Nat → Int32) × (Nat → Int32) × (Nat → Int32)} (N : Nat) (hI : ∀ i, i < 107 → i ∈ ids) (C : ns_C p m c cX11_falls 3 s args wsX11_falls RX11 D A) (hr : meth.sig.returnType = none) (hlk : meth.locks = false) : ∀ n : Nat, ∀ {S : ns_S} {H : Heap} {locs : List Loc} {ls : Array Slot} {l1 : Int32} {l2 : Int32}, ns_W D b ids A s.heap wrX11_falls_62 S0 S H locs → lv_has ls 3 [(0, .ref (b 62)), (1, .int l1), (2, .int l2)] → fX11_falls_30 N n (S.2.1 80) (S.2.1 81) (S.2.1 82) (S.2.1 73) (S.2.1 84) l1 l2 = some o → W p l e rmX11_falls_62 s m args below meth c H locs 0 0 (MQ below (ns_Q D b ids (ns_A (ns_A (ns_A (ns_A S0 84 o.2.2.2) 82 o.2.2.1) 81 o.2.1) 80 o.1) none A) args s 0 0 A) (F0 m 30 ls []) := by
  intro n
  induction n with
  | zero =>
    intro S H locs ls l1 l2 w hl hf
    cases hf
  | succ n K30 =>
    intro S H locs ls l1 l2 w hl hf
    change gX11_falls_30 N (fX11_falls_30 N n) (S.2.1 80) (S.2.1 81) (S.2.1 82) (S.2.1 73) (S.2.1 84) l1 l2 = some o at hf
    generalize fX11_falls_30 N n = r30 at hf K30
    unfold gX11_falls_30 at hf
    refine lv_iload_n C.1.1 C.1.2.1 dX11_falls_30 rfl (lv_at hl 2 rfl) ?_
    refine lv_aload_n C.1.1 C.1.2.1 dX11_falls_31 rfl (lv_at hl 0 rfl) ?_
    refine ns_getr C w 62 (hI 62 (by decide)) sh_62 (rfl : vwCl[11]? = some (RX11, TX11, 59)) inX11_falls_11 12 (by decide) rfl lX11_falls_42 dX11_falls_32 ?_
    refine lv_iconst (v := 0) C.1.1 C.1.2.1 dX11_falls_35 (by decide) ?_
    refine ns_iald C w 73 (hI 73 (by decide)) sh_73 hf rfl dX11_falls_36 (fun x1 hf => ?_)
    refine ns_icmp_ge C hf (tgt := 60) dX11_falls_37 (by decide) (fun hf => ?_) (fun hf => ?_)
    · have he := Option.some.inj hf
      subst he
      exact ns_vret C w hr hlk rfl rfl dX11_falls_60
    · refine lv_aload_n C.1.1 C.1.2.1 dX11_falls_40 rfl (lv_at hl 0 rfl) ?_
      refine ns_getr C w 62 (hI 62 (by decide)) sh_62 (rfl : vwCl[11]? = some (RX11, TX11, 59)) inX11_falls_11 23 (by decide) rfl lX11_falls_75 dX11_falls_41 ?_
      refine lv_iload_n C.1.1 C.1.2.1 dX11_falls_44 rfl (lv_at hl 2 rfl) ?_
      refine lv_dup2_11 C.1.1 C.1.2.1 dX11_falls_45 rfl rfl ?_
      refine ns_iald C w 84 (hI 84 (by decide)) sh_84 hf rfl dX11_falls_46 (fun x2 hf => ?_)
      refine lv_iconst (v := 1) C.1.1 C.1.2.1 dX11_falls_47 (by decide) ?_
      refine lv_iload_n C.1.1 C.1.2.1 dX11_falls_48 rfl (lv_at hl 1 rfl) ?_
      refine lv_ishl C.1.1 C.1.2.1 dX11_falls_49 ?_
      refine lv_iconst (v := (-1)) C.1.1 C.1.2.1 dX11_falls_50 (by decide) ?_
      refine lv_ixor C.1.1 C.1.2.1 dX11_falls_51 ?_
      refine lv_iand C.1.1 C.1.2.1 dX11_falls_52 ?_
      refine ns_iast C w 84 (hI 84 (by decide)) sh_84 hf rfl (List.mem_of_getElem? (i := 3) rfl) dX11_falls_53 (fun y3 H locs hf w => ?_)
      refine ns_iinc (lv' := fun x4 => [(2, .int x4), (0, .ref (b 62)), (1, .int l1)]) C hf dX11_falls_54 hl (k := 2) rfl rfl (by decide) (fun _ => rfl) (fun x4 ls hl hf => ?_)
      refine lv_goto (tgt := 30) C.1.1 C.1.2.1 dX11_falls_57 (by decide) ?_
      exact K30 w (lv_sub hl [1, 2, 0] rfl) hf
set_option maxHeartbeats 4000000 in
set_option maxRecDepth 100000 in
theorem mX11_falls_62 (l : Launch) (D : va_G) (b : Nat → Nat) (ids : List Nat) (hI : ∀ i, i < 107 → i ∈ ids) (N : Nat) (S : ns_S) (p1 : Int32) {o : (Nat → Int32) × (Nat → Int32) × (Nat → Int32) × (Nat → Int32)} (hf : fX11_falls N (S.2.1 80) (S.2.1 81) (S.2.1 82) (S.2.1 73) (S.2.1 84) p1 = some o) : ns_M l yX11_falls wsX11_falls rmX11_falls_62 D b ids S [.ref (b 62), .int p1] none (ns_A (ns_A (ns_A (ns_A S 84 o.2.2.2) 82 o.2.2.1) 81 o.2.1) 80 o.1) := by
  refine ns_start (Wr := wrX11_falls_62) (by decide) rfl (Nat.le_of_ble_eq_true rfl) ?_
  intro p e s m below meth c A ls C hr hlk w hl
  have hl : lv_has ls 3 [(0, .ref (b 62)), (1, .int p1)] := hl
  unfold fX11_falls at hf
  refine lv_aload_n C.1.1 C.1.2.1 dX11_falls_0 rfl (lv_at hl 0 rfl) ?_
  refine ns_getr C w 62 (hI 62 (by decide)) sh_62 (rfl : vwCl[11]? = some (RX11, TX11, 59)) inX11_falls_11 19 (by decide) rfl lX11_falls_63 dX11_falls_1 ?_
  refine lv_iconst (v := 0) C.1.1 C.1.2.1 dX11_falls_4 (by decide) ?_
  refine lv_dup2_11 C.1.1 C.1.2.1 dX11_falls_5 rfl rfl ?_
  refine ns_iald C w 80 (hI 80 (by decide)) sh_80 hf rfl dX11_falls_6 (fun x1 hf => ?_)
  refine lv_iconst (v := 1) C.1.1 C.1.2.1 dX11_falls_7 (by decide) ?_
  refine lv_iload_n C.1.1 C.1.2.1 dX11_falls_8 rfl (lv_at hl 1 rfl) ?_
  refine lv_ishl C.1.1 C.1.2.1 dX11_falls_9 ?_
  refine lv_iconst (v := (-1)) C.1.1 C.1.2.1 dX11_falls_10 (by decide) ?_
  refine lv_ixor C.1.1 C.1.2.1 dX11_falls_11 ?_
  refine lv_iand C.1.1 C.1.2.1 dX11_falls_12 ?_
  refine ns_iast C w 80 (hI 80 (by decide)) sh_80 hf rfl (List.mem_of_getElem? (i := 0) rfl) dX11_falls_13 (fun y2 H locs hf w => ?_)
  refine lv_aload_n C.1.1 C.1.2.1 dX11_falls_14 rfl (lv_at hl 0 rfl) ?_
  refine ns_getr C w 62 (hI 62 (by decide)) sh_62 (rfl : vwCl[11]? = some (RX11, TX11, 59)) inX11_falls_11 20 (by decide) rfl lX11_falls_66 dX11_falls_15 ?_
  refine lv_iload_n C.1.1 C.1.2.1 dX11_falls_18 rfl (lv_at hl 1 rfl) ?_
  refine lv_iconst (v := (-1)) C.1.1 C.1.2.1 dX11_falls_19 (by decide) ?_
  refine ns_iast C w 81 (hI 81 (by decide)) sh_81 hf rfl (List.mem_of_getElem? (i := 1) rfl) dX11_falls_20 (fun y3 H locs hf w => ?_)
  refine lv_aload_n C.1.1 C.1.2.1 dX11_falls_21 rfl (lv_at hl 0 rfl) ?_
  refine ns_getr C w 62 (hI 62 (by decide)) sh_62 (rfl : vwCl[11]? = some (RX11, TX11, 59)) inX11_falls_11 21 (by decide) rfl lX11_falls_69 dX11_falls_22 ?_
  refine lv_iload_n C.1.1 C.1.2.1 dX11_falls_25 rfl (lv_at hl 1 rfl) ?_
  refine lv_iconst (v := 0) C.1.1 C.1.2.1 dX11_falls_26 (by decide) ?_
  refine ns_iast C w 82 (hI 82 (by decide)) sh_82 hf rfl (List.mem_of_getElem? (i := 2) rfl) dX11_falls_27 (fun y4 H locs hf w => ?_)
  refine lv_iconst (v := 0) C.1.1 C.1.2.1 dX11_falls_28 (by decide) ?_
  refine lv_istore_n (lv' := [(2, .int 0), (0, .ref (b 62)), (1, .int p1)]) C.1.1 C.1.2.1 dX11_falls_29 rfl hl (by decide) rfl (fun ls hl => ?_)
  exact wX11_falls_62_30 N hI C hr hlk N w (lv_sub hl [1, 2, 0] rfl) hf
theorem lX11_weeks_24 : Cond.fieldLink RX11 24 (TX11 6).1 (TX11 6).2.1 (TX11 6).2.2.1 ∈ wsX11_weeks := List.mem_of_getElem? (i := 3) rfl
theorem lX11_weeks_30 : Cond.fieldLink RX11 30 (TX11 8).1 (TX11 8).2.1 (TX11 8).2.2.1 ∈ wsX11_weeks := List.mem_of_getElem? (i := 7) rfl
theorem lX11_weeks_33 : Cond.fieldLink RX11 33 (TX11 9).1 (TX11 9).2.1 (TX11 9).2.2.1 ∈ wsX11_weeks := List.mem_of_getElem? (i := 10) rfl
theorem lX11_weeks_60 : Cond.fieldLink RX11 60 (TX11 18).1 (TX11 18).2.1 (TX11 18).2.2.1 ∈ wsX11_weeks := List.mem_of_getElem? (i := 2) rfl
theorem lX11_weeks_63 : Cond.fieldLink RX11 63 (TX11 19).1 (TX11 19).2.1 (TX11 19).2.2.1 ∈ wsX11_weeks := List.mem_of_getElem? (i := 4) rfl
theorem lX11_weeks_66 : Cond.fieldLink RX11 66 (TX11 20).1 (TX11 20).2.1 (TX11 20).2.2.1 ∈ wsX11_weeks := List.mem_of_getElem? (i := 9) rfl
theorem lX11_weeks_72 : Cond.fieldLink RX11 72 (TX11 22).1 (TX11 22).2.1 (TX11 22).2.2.1 ∈ wsX11_weeks := List.mem_of_getElem? (i := 5) rfl
theorem lX11_weeks_81 : Cond.fieldLink RX11 81 (TX11 25).1 (TX11 25).2.1 (TX11 25).2.2.1 ∈ wsX11_weeks := List.mem_of_getElem? (i := 6) rfl
theorem lX11_weeks_84 : Cond.fieldLink RX11 84 (TX11 26).1 (TX11 26).2.1 (TX11 26).2.2.1 ∈ wsX11_weeks := List.mem_of_getElem? (i := 8) rfl
theorem lX11_weeks_179 : Cond.fieldLink RX11 179 (TX11 0).1 (TX11 0).2.1 (TX11 0).2.2.1 ∈ wsX11_weeks := List.mem_of_getElem? (i := 1) rfl
theorem inX11_weeks_11 : ∀ w ∈ u_ws RX11 TX11 59, w ∈ wsX11_weeks := fun _ h => List.mem_cons_of_mem _ (List.mem_append_right _ h)
theorem hdX11_weeks : yX11_weeks.cls = RX11 ∧ yX11_weeks.cls ≠ "java/lang/invoke/MethodHandle" ∧ yX11_weeks.cls ≠ "java/lang/invoke/VarHandle" ∧ (parseMethodDescriptor yX11_weeks.desc).map (fun d => d.parameters.length) = some 1 := by decide +kernel
abbrev wrX11_weeks_62 : List (Nat × Nat) := [(0, 3968), (1, 83), (1, 86), (1, 87), (1, 79), (1, 84), (1, 85), (1, 80), (1, 81), (1, 82)]
abbrev rmX11_weeks_62 : Room := { frames := 4, cells := 0, slots := 0, locals := 91 }
set_option maxHeartbeats 4000000 in
set_option maxRecDepth 100000 in
theorem wX11_weeks_62_107 {p : Program} {l : Launch} {e : Env} {s : State} {m : MethodId} {args : Array Value} {below : List Frame} {meth : Method} {c : Code} {D : va_G} {b : Nat → Nat} {ids : List Nat} {A : Nat → Prop} {S0 : ns_S} {o : Int32 × Int32 × (Nat → Int32) × (Nat → Int32) × (Nat → Int32) × (Nat → Int32) × (Nat → Int32) × (Nat → Int32) × (Nat → Int32) × (Nat → Int32) × (Nat → Int32)} (N : Nat) (hI : ∀ i, i < 107 → i ∈ ids) (C : ns_C p m c cX11_weeks 4 s args wsX11_weeks RX11 D A) (hr : meth.sig.returnType = some .int) (hlk : meth.locks = false) {r29 : Int32 → (Nat → Int32) → (Nat → Int32) → (Nat → Int32) → (Nat → Int32) → (Nat → Int32) → (Nat → Int32) → (Nat → Int32) → (Nat → Int32) → (Nat → Int32) → (Nat → Int32) → (Nat → Int32) → (Nat → Int32) → (Nat → Int32) → (Nat → Int32) → (Nat → Int32) → (Nat → Int32) → (Nat → Int32) → Int32 → Int32 → Option (Int32 × Int32 × (Nat → Int32) × (Nat → Int32) × (Nat → Int32) × (Nat → Int32) × (Nat → Int32) × (Nat → Int32) × (Nat → Int32) × (Nat → Int32) × (Nat → Int32))} (K29 : ∀ {S : ns_S} {H : Heap} {locs : List Loc} {ls : Array Slot} {l1 : Int32} {l2 : Int32}, ns_W D b ids A s.heap wrX11_weeks_62 S0 S H locs → lv_has ls 4 [(0, .ref (b 62)), (1, .int l1), (2, .int l2)] → r29 (S.1 3968) (S.2.1 79) (S.2.1 67) (S.2.1 80) (S.2.1 83) (S.2.1 69) (S.2.1 86) (S.2.1 81) (S.2.1 87) (S.2.1 73) (S.2.1 77) (S.2.1 78) (S.2.1 84) (S.2.1 68) (S.2.1 76) (S.2.1 82) (S.2.1 85) (S.2.1 70) l1 l2 = some o → W p l e rmX11_weeks_62 s m args below meth c H locs 0 0 (MQ below (ns_Q D b ids (ns_I (ns_A (ns_A (ns_A (ns_A (ns_A (ns_A (ns_A (ns_A (ns_A S0 82 o.2.2.2.2.2.2.2.2.2.2) 81 o.2.2.2.2.2.2.2.2.2.1) 80 o.2.2.2.2.2.2.2.2.1) 85 o.2.2.2.2.2.2.2.1) 84 o.2.2.2.2.2.2.1) 79 o.2.2.2.2.2.1) 87 o.2.2.2.2.1) 86 o.2.2.2.1) 83 o.2.2.1) 3968 o.2.1) (some (.int o.1)) A) args s 0 0 A) (F0 m 29 ls [])) : ∀ n : Nat, ∀ {S : ns_S} {H : Heap} {locs : List Loc} {ls : Array Slot} {l1 : Int32} {l2 : Int32} {l3 : Int32}, ns_W D b ids A s.heap wrX11_weeks_62 S0 S H locs → lv_has ls 4 [(0, .ref (b 62)), (1, .int l1), (2, .int l2), (3, .int l3)] → fX11_weeks_107 N r29 n (S.1 3968) (S.2.1 79) (S.2.1 67) (S.2.1 80) (S.2.1 83) (S.2.1 69) (S.2.1 86) (S.2.1 81) (S.2.1 87) (S.2.1 73) (S.2.1 77) (S.2.1 78) (S.2.1 84) (S.2.1 68) (S.2.1 76) (S.2.1 82) (S.2.1 85) (S.2.1 70) l1 l2 l3 = some o → W p l e rmX11_weeks_62 s m args below meth c H locs 0 0 (MQ below (ns_Q D b ids (ns_I (ns_A (ns_A (ns_A (ns_A (ns_A (ns_A (ns_A (ns_A (ns_A S0 82 o.2.2.2.2.2.2.2.2.2.2) 81 o.2.2.2.2.2.2.2.2.2.1) 80 o.2.2.2.2.2.2.2.2.1) 85 o.2.2.2.2.2.2.2.1) 84 o.2.2.2.2.2.2.1) 79 o.2.2.2.2.2.1) 87 o.2.2.2.2.1) 86 o.2.2.2.1) 83 o.2.2.1) 3968 o.2.1) (some (.int o.1)) A) args s 0 0 A) (F0 m 107 ls []) := by
  intro n
  induction n with
  | zero =>
    intro S H locs ls l1 l2 l3 w hl hf
    cases hf
  | succ n K107 =>
    intro S H locs ls l1 l2 l3 w hl hf
    change gX11_weeks_107 N r29 (fX11_weeks_107 N r29 n) (S.1 3968) (S.2.1 79) (S.2.1 67) (S.2.1 80) (S.2.1 83) (S.2.1 69) (S.2.1 86) (S.2.1 81) (S.2.1 87) (S.2.1 73) (S.2.1 77) (S.2.1 78) (S.2.1 84) (S.2.1 68) (S.2.1 76) (S.2.1 82) (S.2.1 85) (S.2.1 70) l1 l2 l3 = some o at hf
    generalize fX11_weeks_107 N r29 n = r107 at hf K107
    unfold gX11_weeks_107 at hf
    refine lv_iload_n C.1.1 C.1.2.1 dX11_weeks_107 rfl (lv_at hl 3 rfl) ?_
    refine lv_aload_n C.1.1 C.1.2.1 dX11_weeks_108 rfl (lv_at hl 0 rfl) ?_
    refine ns_getr C w 62 (hI 62 (by decide)) sh_62 (rfl : vwCl[11]? = some (RX11, TX11, 59)) inX11_weeks_11 6 (by decide) rfl lX11_weeks_24 dX11_weeks_109 ?_
    refine lv_iconst (v := 0) C.1.1 C.1.2.1 dX11_weeks_112 (by decide) ?_
    refine ns_iald C w 67 (hI 67 (by decide)) sh_67 hf rfl dX11_weeks_113 (fun x1 hf => ?_)
    refine ns_icmp_ge C hf (tgt := 157) dX11_weeks_114 (by decide) (fun hf => ?_) (fun hf => ?_)
    · refine lv_aload_n C.1.1 C.1.2.1 dX11_weeks_157 rfl (lv_at hl 0 rfl) ?_
      refine ns_getr C w 62 (hI 62 (by decide)) sh_62 (rfl : vwCl[11]? = some (RX11, TX11, 59)) inX11_weeks_11 18 (by decide) rfl lX11_weeks_60 dX11_weeks_158 ?_
      refine lv_iconst (v := 0) C.1.1 C.1.2.1 dX11_weeks_161 (by decide) ?_
      refine lv_dup2_11 C.1.1 C.1.2.1 dX11_weeks_162 rfl rfl ?_
      refine ns_iald C w 79 (hI 79 (by decide)) sh_79 hf rfl dX11_weeks_163 (fun x2 hf => ?_)
      refine lv_iconst (v := 1) C.1.1 C.1.2.1 dX11_weeks_164 (by decide) ?_
      refine lv_iadd C.1.1 C.1.2.1 dX11_weeks_165 ?_
      refine ns_iast C w 79 (hI 79 (by decide)) sh_79 hf rfl (List.mem_of_getElem? (i := 4) rfl) dX11_weeks_166 (fun y3 H locs hf w => ?_)
      refine lv_aload_n C.1.1 C.1.2.1 dX11_weeks_167 rfl (lv_at hl 0 rfl) ?_
      refine ns_callV C w 62 (hI 62 (by decide)) sh_62 (rfl : vwCl[11]? = some (RX11, TX11, 59)) [] hf (fun u hu => mX11_moveUp_62 l D b ids hI N _ hu) gX11_weeks_X11_moveUp rfl rfl rfl hdX11_moveUp ⟨Nat.le_of_ble_eq_true rfl, Nat.le_of_ble_eq_true rfl⟩ (fun u h => ((h.A (List.mem_of_getElem? (i := 6) rfl) _).A (List.mem_of_getElem? (i := 5) rfl) _)) rfl hl.1 rfl (Nat.le_of_ble_eq_true rfl) ⟨Nat.le_refl _, Nat.le_refl _⟩ dX11_weeks_168 (fun o4 H locs hf w => ?_)
      refine ns_iinc (lv' := fun x5 => [(2, .int x5), (0, .ref (b 62)), (1, .int l1), (3, .int l3)]) C hf dX11_weeks_171 hl (k := 2) rfl rfl (by decide) (fun _ => rfl) (fun x5 ls hl hf => ?_)
      refine lv_goto (tgt := 29) C.1.1 C.1.2.1 dX11_weeks_174 (by decide) ?_
      exact K29 w (lv_sub hl [1, 2, 0] rfl) hf
    · refine lv_aload_n C.1.1 C.1.2.1 dX11_weeks_117 rfl (lv_at hl 0 rfl) ?_
      refine ns_getr C w 62 (hI 62 (by decide)) sh_62 (rfl : vwCl[11]? = some (RX11, TX11, 59)) inX11_weeks_11 19 (by decide) rfl lX11_weeks_63 dX11_weeks_118 ?_
      refine lv_iconst (v := 0) C.1.1 C.1.2.1 dX11_weeks_121 (by decide) ?_
      refine ns_iald C w 80 (hI 80 (by decide)) sh_80 hf rfl dX11_weeks_122 (fun x6 hf => ?_)
      refine lv_iload_n C.1.1 C.1.2.1 dX11_weeks_123 rfl (lv_at hl 3 rfl) ?_
      refine lv_ishr C.1.1 C.1.2.1 dX11_weeks_124 ?_
      refine lv_iconst (v := 1) C.1.1 C.1.2.1 dX11_weeks_125 (by decide) ?_
      refine lv_iand C.1.1 C.1.2.1 dX11_weeks_126 ?_
      refine ns_if_eq C hf (tgt := 151) dX11_weeks_127 (by decide) (fun hf => ?_) (fun hf => ?_)
      · refine ns_iinc (lv' := fun x7 => [(3, .int x7), (0, .ref (b 62)), (1, .int l1), (2, .int l2)]) C hf dX11_weeks_151 hl (k := 3) rfl rfl (by decide) (fun _ => rfl) (fun x7 ls hl hf => ?_)
        refine lv_goto (tgt := 107) C.1.1 C.1.2.1 dX11_weeks_154 (by decide) ?_
        exact K107 w (lv_sub hl [1, 2, 3, 0] rfl) hf
      · refine lv_iconst (v := 2) C.1.1 C.1.2.1 dX11_weeks_130 (by decide) ?_
        refine lv_aload_n C.1.1 C.1.2.1 dX11_weeks_131 rfl (lv_at hl 0 rfl) ?_
        refine lv_iload_n C.1.1 C.1.2.1 dX11_weeks_132 rfl (lv_at hl 3 rfl) ?_
        refine ns_callV C w 62 (hI 62 (by decide)) sh_62 (rfl : vwCl[11]? = some (RX11, TX11, 59)) [.int l3] hf (fun u hu => mX11_hasNow_62 l D b ids hI N _ l3 hu) gX11_weeks_X11_hasNow rfl rfl rfl hdX11_hasNow ⟨Nat.le_of_ble_eq_true rfl, Nat.le_of_ble_eq_true rfl⟩ (fun u h => h) rfl hl.1 rfl (Nat.le_of_ble_eq_true rfl) ⟨Nat.le_refl _, Nat.le_refl _⟩ dX11_weeks_133 (fun o8 H locs hf w => ?_)
        refine lv_imul C.1.1 C.1.2.1 dX11_weeks_136 ?_
        refine lv_aload_n C.1.1 C.1.2.1 dX11_weeks_137 rfl (lv_at hl 0 rfl) ?_
        refine ns_getr C w 62 (hI 62 (by decide)) sh_62 (rfl : vwCl[11]? = some (RX11, TX11, 59)) inX11_weeks_11 9 (by decide) rfl lX11_weeks_33 dX11_weeks_138 ?_
        refine lv_iload_n C.1.1 C.1.2.1 dX11_weeks_141 rfl (lv_at hl 3 rfl) ?_
        refine ns_iald C w 70 (hI 70 (by decide)) sh_70 hf rfl dX11_weeks_142 (fun x9 hf => ?_)
        refine ns_icmp_ge C hf (tgt := 151) dX11_weeks_143 (by decide) (fun hf => ?_) (fun hf => ?_)
        · refine ns_iinc (lv' := fun x10 => [(3, .int x10), (0, .ref (b 62)), (1, .int l1), (2, .int l2)]) C hf dX11_weeks_151 hl (k := 3) rfl rfl (by decide) (fun _ => rfl) (fun x10 ls hl hf => ?_)
          refine lv_goto (tgt := 107) C.1.1 C.1.2.1 dX11_weeks_154 (by decide) ?_
          exact K107 w (lv_sub hl [1, 2, 3, 0] rfl) hf
        · refine lv_aload_n C.1.1 C.1.2.1 dX11_weeks_146 rfl (lv_at hl 0 rfl) ?_
          refine lv_iload_n C.1.1 C.1.2.1 dX11_weeks_147 rfl (lv_at hl 3 rfl) ?_
          refine ns_callV C w 62 (hI 62 (by decide)) sh_62 (rfl : vwCl[11]? = some (RX11, TX11, 59)) [.int l3] hf (fun u hu => mX11_falls_62 l D b ids hI N _ l3 hu) gX11_weeks_X11_falls rfl rfl rfl hdX11_falls ⟨Nat.le_of_ble_eq_true rfl, Nat.le_of_ble_eq_true rfl⟩ (fun u h => ((((h.A (List.mem_of_getElem? (i := 5) rfl) _).A (List.mem_of_getElem? (i := 9) rfl) _).A (List.mem_of_getElem? (i := 8) rfl) _).A (List.mem_of_getElem? (i := 7) rfl) _)) rfl hl.1 rfl (Nat.le_of_ble_eq_true rfl) ⟨Nat.le_refl _, Nat.le_refl _⟩ dX11_weeks_148 (fun o11 H locs hf w => ?_)
          refine ns_iinc (lv' := fun x12 => [(3, .int x12), (0, .ref (b 62)), (1, .int l1), (2, .int l2)]) C hf dX11_weeks_151 hl (k := 3) rfl rfl (by decide) (fun _ => rfl) (fun x12 ls hl hf => ?_)
          refine lv_goto (tgt := 107) C.1.1 C.1.2.1 dX11_weeks_154 (by decide) ?_
          exact K107 w (lv_sub hl [1, 2, 3, 0] rfl) hf
set_option maxHeartbeats 4000000 in
set_option maxRecDepth 100000 in
theorem wX11_weeks_62_36 {p : Program} {l : Launch} {e : Env} {s : State} {m : MethodId} {args : Array Value} {below : List Frame} {meth : Method} {c : Code} {D : va_G} {b : Nat → Nat} {ids : List Nat} {A : Nat → Prop} {S0 : ns_S} {o : Int32 × Int32 × (Nat → Int32) × (Nat → Int32) × (Nat → Int32) × (Nat → Int32) × (Nat → Int32) × (Nat → Int32) × (Nat → Int32) × (Nat → Int32) × (Nat → Int32)} (N : Nat) (hI : ∀ i, i < 107 → i ∈ ids) (C : ns_C p m c cX11_weeks 4 s args wsX11_weeks RX11 D A) (hr : meth.sig.returnType = some .int) (hlk : meth.locks = false) {r29 : Int32 → (Nat → Int32) → (Nat → Int32) → (Nat → Int32) → (Nat → Int32) → (Nat → Int32) → (Nat → Int32) → (Nat → Int32) → (Nat → Int32) → (Nat → Int32) → (Nat → Int32) → (Nat → Int32) → (Nat → Int32) → (Nat → Int32) → (Nat → Int32) → (Nat → Int32) → (Nat → Int32) → (Nat → Int32) → Int32 → Int32 → Option (Int32 × Int32 × (Nat → Int32) × (Nat → Int32) × (Nat → Int32) × (Nat → Int32) × (Nat → Int32) × (Nat → Int32) × (Nat → Int32) × (Nat → Int32) × (Nat → Int32))} (K29 : ∀ {S : ns_S} {H : Heap} {locs : List Loc} {ls : Array Slot} {l1 : Int32} {l2 : Int32}, ns_W D b ids A s.heap wrX11_weeks_62 S0 S H locs → lv_has ls 4 [(0, .ref (b 62)), (1, .int l1), (2, .int l2)] → r29 (S.1 3968) (S.2.1 79) (S.2.1 67) (S.2.1 80) (S.2.1 83) (S.2.1 69) (S.2.1 86) (S.2.1 81) (S.2.1 87) (S.2.1 73) (S.2.1 77) (S.2.1 78) (S.2.1 84) (S.2.1 68) (S.2.1 76) (S.2.1 82) (S.2.1 85) (S.2.1 70) l1 l2 = some o → W p l e rmX11_weeks_62 s m args below meth c H locs 0 0 (MQ below (ns_Q D b ids (ns_I (ns_A (ns_A (ns_A (ns_A (ns_A (ns_A (ns_A (ns_A (ns_A S0 82 o.2.2.2.2.2.2.2.2.2.2) 81 o.2.2.2.2.2.2.2.2.2.1) 80 o.2.2.2.2.2.2.2.2.1) 85 o.2.2.2.2.2.2.2.1) 84 o.2.2.2.2.2.2.1) 79 o.2.2.2.2.2.1) 87 o.2.2.2.2.1) 86 o.2.2.2.1) 83 o.2.2.1) 3968 o.2.1) (some (.int o.1)) A) args s 0 0 A) (F0 m 29 ls [])) : ∀ n : Nat, ∀ {S : ns_S} {H : Heap} {locs : List Loc} {ls : Array Slot} {l1 : Int32} {l2 : Int32} {l3 : Int32}, ns_W D b ids A s.heap wrX11_weeks_62 S0 S H locs → lv_has ls 4 [(0, .ref (b 62)), (1, .int l1), (2, .int l2), (3, .int l3)] → fX11_weeks_36 N r29 n (S.1 3968) (S.2.1 79) (S.2.1 67) (S.2.1 80) (S.2.1 83) (S.2.1 69) (S.2.1 86) (S.2.1 81) (S.2.1 87) (S.2.1 73) (S.2.1 77) (S.2.1 78) (S.2.1 84) (S.2.1 68) (S.2.1 76) (S.2.1 82) (S.2.1 85) (S.2.1 70) l1 l2 l3 = some o → W p l e rmX11_weeks_62 s m args below meth c H locs 0 0 (MQ below (ns_Q D b ids (ns_I (ns_A (ns_A (ns_A (ns_A (ns_A (ns_A (ns_A (ns_A (ns_A S0 82 o.2.2.2.2.2.2.2.2.2.2) 81 o.2.2.2.2.2.2.2.2.2.1) 80 o.2.2.2.2.2.2.2.2.1) 85 o.2.2.2.2.2.2.2.1) 84 o.2.2.2.2.2.2.1) 79 o.2.2.2.2.2.1) 87 o.2.2.2.2.1) 86 o.2.2.2.1) 83 o.2.2.1) 3968 o.2.1) (some (.int o.1)) A) args s 0 0 A) (F0 m 36 ls []) := by
  intro n
  induction n with
  | zero =>
    intro S H locs ls l1 l2 l3 w hl hf
    cases hf
  | succ n K36 =>
    intro S H locs ls l1 l2 l3 w hl hf
    change gX11_weeks_36 N r29 (fX11_weeks_36 N r29 n) (S.1 3968) (S.2.1 79) (S.2.1 67) (S.2.1 80) (S.2.1 83) (S.2.1 69) (S.2.1 86) (S.2.1 81) (S.2.1 87) (S.2.1 73) (S.2.1 77) (S.2.1 78) (S.2.1 84) (S.2.1 68) (S.2.1 76) (S.2.1 82) (S.2.1 85) (S.2.1 70) l1 l2 l3 = some o at hf
    generalize fX11_weeks_36 N r29 n = r36 at hf K36
    unfold gX11_weeks_36 at hf
    refine lv_iload_n C.1.1 C.1.2.1 dX11_weeks_36 rfl (lv_at hl 3 rfl) ?_
    refine lv_aload_n C.1.1 C.1.2.1 dX11_weeks_37 rfl (lv_at hl 0 rfl) ?_
    refine ns_getr C w 62 (hI 62 (by decide)) sh_62 (rfl : vwCl[11]? = some (RX11, TX11, 59)) inX11_weeks_11 6 (by decide) rfl lX11_weeks_24 dX11_weeks_38 ?_
    refine lv_iconst (v := 0) C.1.1 C.1.2.1 dX11_weeks_41 (by decide) ?_
    refine ns_iald C w 67 (hI 67 (by decide)) sh_67 hf rfl dX11_weeks_42 (fun x1 hf => ?_)
    refine ns_icmp_ge C hf (tgt := 105) dX11_weeks_43 (by decide) (fun hf => ?_) (fun hf => ?_)
    · refine lv_iconst (v := 0) C.1.1 C.1.2.1 dX11_weeks_105 (by decide) ?_
      refine lv_istore_n (lv' := [(3, .int 0), (0, .ref (b 62)), (1, .int l1), (2, .int l2)]) C.1.1 C.1.2.1 dX11_weeks_106 rfl hl (by decide) rfl (fun ls hl => ?_)
      exact wX11_weeks_62_107 N hI C hr hlk K29 N w (lv_sub hl [1, 2, 3, 0] rfl) hf
    · refine lv_aload_n C.1.1 C.1.2.1 dX11_weeks_46 rfl (lv_at hl 0 rfl) ?_
      refine ns_getr C w 62 (hI 62 (by decide)) sh_62 (rfl : vwCl[11]? = some (RX11, TX11, 59)) inX11_weeks_11 19 (by decide) rfl lX11_weeks_63 dX11_weeks_47 ?_
      refine lv_iconst (v := 0) C.1.1 C.1.2.1 dX11_weeks_50 (by decide) ?_
      refine ns_iald C w 80 (hI 80 (by decide)) sh_80 hf rfl dX11_weeks_51 (fun x2 hf => ?_)
      refine lv_iload_n C.1.1 C.1.2.1 dX11_weeks_52 rfl (lv_at hl 3 rfl) ?_
      refine lv_ishr C.1.1 C.1.2.1 dX11_weeks_53 ?_
      refine lv_iconst (v := 1) C.1.1 C.1.2.1 dX11_weeks_54 (by decide) ?_
      refine lv_iand C.1.1 C.1.2.1 dX11_weeks_55 ?_
      refine ns_if_eq C hf (tgt := 99) dX11_weeks_56 (by decide) (fun hf => ?_) (fun hf => ?_)
      · refine ns_iinc (lv' := fun x3 => [(3, .int x3), (0, .ref (b 62)), (1, .int l1), (2, .int l2)]) C hf dX11_weeks_99 hl (k := 3) rfl rfl (by decide) (fun _ => rfl) (fun x3 ls hl hf => ?_)
        refine lv_goto (tgt := 36) C.1.1 C.1.2.1 dX11_weeks_102 (by decide) ?_
        exact K36 w (lv_sub hl [1, 2, 3, 0] rfl) hf
      · refine lv_aload_n C.1.1 C.1.2.1 dX11_weeks_59 rfl (lv_at hl 0 rfl) ?_
        refine ns_getr C w 62 (hI 62 (by decide)) sh_62 (rfl : vwCl[11]? = some (RX11, TX11, 59)) inX11_weeks_11 22 (by decide) rfl lX11_weeks_72 dX11_weeks_60 ?_
        refine lv_iload_n C.1.1 C.1.2.1 dX11_weeks_63 rfl (lv_at hl 3 rfl) ?_
        refine lv_dup2_11 C.1.1 C.1.2.1 dX11_weeks_64 rfl rfl ?_
        refine ns_iald C w 83 (hI 83 (by decide)) sh_83 hf rfl dX11_weeks_65 (fun x4 hf => ?_)
        refine lv_iconst (v := 1) C.1.1 C.1.2.1 dX11_weeks_66 (by decide) ?_
        refine lv_iadd C.1.1 C.1.2.1 dX11_weeks_67 ?_
        refine ns_iast C w 83 (hI 83 (by decide)) sh_83 hf rfl (List.mem_of_getElem? (i := 1) rfl) dX11_weeks_68 (fun y5 H locs hf w => ?_)
        refine lv_aload_n C.1.1 C.1.2.1 dX11_weeks_69 rfl (lv_at hl 0 rfl) ?_
        refine ns_getr C w 62 (hI 62 (by decide)) sh_62 (rfl : vwCl[11]? = some (RX11, TX11, 59)) inX11_weeks_11 25 (by decide) rfl lX11_weeks_81 dX11_weeks_70 ?_
        refine lv_aload_n C.1.1 C.1.2.1 dX11_weeks_73 rfl (lv_at hl 0 rfl) ?_
        refine ns_getr C w 62 (hI 62 (by decide)) sh_62 (rfl : vwCl[11]? = some (RX11, TX11, 59)) inX11_weeks_11 8 (by decide) rfl lX11_weeks_30 dX11_weeks_74 ?_
        refine lv_iload_n C.1.1 C.1.2.1 dX11_weeks_77 rfl (lv_at hl 3 rfl) ?_
        refine ns_iald C w 69 (hI 69 (by decide)) sh_69 hf rfl dX11_weeks_78 (fun x6 hf => ?_)
        refine lv_dup2_11 C.1.1 C.1.2.1 dX11_weeks_79 rfl rfl ?_
        refine ns_iald C w 86 (hI 86 (by decide)) sh_86 hf rfl dX11_weeks_80 (fun x7 hf => ?_)
        refine lv_iconst (v := 2) C.1.1 C.1.2.1 dX11_weeks_81 (by decide) ?_
        refine lv_iadd C.1.1 C.1.2.1 dX11_weeks_82 ?_
        refine ns_iast C w 86 (hI 86 (by decide)) sh_86 hf rfl (List.mem_of_getElem? (i := 2) rfl) dX11_weeks_83 (fun y8 H locs hf w => ?_)
        refine lv_aload_n C.1.1 C.1.2.1 dX11_weeks_84 rfl (lv_at hl 0 rfl) ?_
        refine ns_getr C w 62 (hI 62 (by decide)) sh_62 (rfl : vwCl[11]? = some (RX11, TX11, 59)) inX11_weeks_11 26 (by decide) rfl lX11_weeks_84 dX11_weeks_85 ?_
        refine lv_aload_n C.1.1 C.1.2.1 dX11_weeks_88 rfl (lv_at hl 0 rfl) ?_
        refine ns_getr C w 62 (hI 62 (by decide)) sh_62 (rfl : vwCl[11]? = some (RX11, TX11, 59)) inX11_weeks_11 20 (by decide) rfl lX11_weeks_66 dX11_weeks_89 ?_
        refine lv_iload_n C.1.1 C.1.2.1 dX11_weeks_92 rfl (lv_at hl 3 rfl) ?_
        refine ns_iald C w 81 (hI 81 (by decide)) sh_81 hf rfl dX11_weeks_93 (fun x9 hf => ?_)
        refine lv_dup2_11 C.1.1 C.1.2.1 dX11_weeks_94 rfl rfl ?_
        refine ns_iald C w 87 (hI 87 (by decide)) sh_87 hf rfl dX11_weeks_95 (fun x10 hf => ?_)
        refine lv_iconst (v := 2) C.1.1 C.1.2.1 dX11_weeks_96 (by decide) ?_
        refine lv_iadd C.1.1 C.1.2.1 dX11_weeks_97 ?_
        refine ns_iast C w 87 (hI 87 (by decide)) sh_87 hf rfl (List.mem_of_getElem? (i := 3) rfl) dX11_weeks_98 (fun y11 H locs hf w => ?_)
        refine ns_iinc (lv' := fun x12 => [(3, .int x12), (0, .ref (b 62)), (1, .int l1), (2, .int l2)]) C hf dX11_weeks_99 hl (k := 3) rfl rfl (by decide) (fun _ => rfl) (fun x12 ls hl hf => ?_)
        refine lv_goto (tgt := 36) C.1.1 C.1.2.1 dX11_weeks_102 (by decide) ?_
        exact K36 w (lv_sub hl [1, 2, 3, 0] rfl) hf
set_option maxHeartbeats 4000000 in
set_option maxRecDepth 100000 in
theorem wX11_weeks_62_29 {p : Program} {l : Launch} {e : Env} {s : State} {m : MethodId} {args : Array Value} {below : List Frame} {meth : Method} {c : Code} {D : va_G} {b : Nat → Nat} {ids : List Nat} {A : Nat → Prop} {S0 : ns_S} {o : Int32 × Int32 × (Nat → Int32) × (Nat → Int32) × (Nat → Int32) × (Nat → Int32) × (Nat → Int32) × (Nat → Int32) × (Nat → Int32) × (Nat → Int32) × (Nat → Int32)} (N : Nat) (hI : ∀ i, i < 107 → i ∈ ids) (C : ns_C p m c cX11_weeks 4 s args wsX11_weeks RX11 D A) (hr : meth.sig.returnType = some .int) (hlk : meth.locks = false) : ∀ n : Nat, ∀ {S : ns_S} {H : Heap} {locs : List Loc} {ls : Array Slot} {l1 : Int32} {l2 : Int32}, ns_W D b ids A s.heap wrX11_weeks_62 S0 S H locs → lv_has ls 4 [(0, .ref (b 62)), (1, .int l1), (2, .int l2)] → fX11_weeks_29 N n (S.1 3968) (S.2.1 79) (S.2.1 67) (S.2.1 80) (S.2.1 83) (S.2.1 69) (S.2.1 86) (S.2.1 81) (S.2.1 87) (S.2.1 73) (S.2.1 77) (S.2.1 78) (S.2.1 84) (S.2.1 68) (S.2.1 76) (S.2.1 82) (S.2.1 85) (S.2.1 70) l1 l2 = some o → W p l e rmX11_weeks_62 s m args below meth c H locs 0 0 (MQ below (ns_Q D b ids (ns_I (ns_A (ns_A (ns_A (ns_A (ns_A (ns_A (ns_A (ns_A (ns_A S0 82 o.2.2.2.2.2.2.2.2.2.2) 81 o.2.2.2.2.2.2.2.2.2.1) 80 o.2.2.2.2.2.2.2.2.1) 85 o.2.2.2.2.2.2.2.1) 84 o.2.2.2.2.2.2.1) 79 o.2.2.2.2.2.1) 87 o.2.2.2.2.1) 86 o.2.2.2.1) 83 o.2.2.1) 3968 o.2.1) (some (.int o.1)) A) args s 0 0 A) (F0 m 29 ls []) := by
  intro n
  induction n with
  | zero =>
    intro S H locs ls l1 l2 w hl hf
    cases hf
  | succ n K29 =>
    intro S H locs ls l1 l2 w hl hf
    change gX11_weeks_29 N (fX11_weeks_29 N n) (S.1 3968) (S.2.1 79) (S.2.1 67) (S.2.1 80) (S.2.1 83) (S.2.1 69) (S.2.1 86) (S.2.1 81) (S.2.1 87) (S.2.1 73) (S.2.1 77) (S.2.1 78) (S.2.1 84) (S.2.1 68) (S.2.1 76) (S.2.1 82) (S.2.1 85) (S.2.1 70) l1 l2 = some o at hf
    generalize fX11_weeks_29 N n = r29 at hf K29
    unfold gX11_weeks_29 at hf
    refine lv_iload_n C.1.1 C.1.2.1 dX11_weeks_29 rfl (lv_at hl 2 rfl) ?_
    refine lv_iload_n C.1.1 C.1.2.1 dX11_weeks_30 rfl (lv_at hl 1 rfl) ?_
    refine ns_icmp_ge C hf (tgt := 177) dX11_weeks_31 (by decide) (fun hf => ?_) (fun hf => ?_)
    · refine lv_aload_n C.1.1 C.1.2.1 dX11_weeks_177 rfl (lv_at hl 0 rfl) ?_
      refine ns_getr C w 62 (hI 62 (by decide)) sh_62 (rfl : vwCl[11]? = some (RX11, TX11, 59)) inX11_weeks_11 18 (by decide) rfl lX11_weeks_60 dX11_weeks_178 ?_
      refine lv_iconst (v := 0) C.1.1 C.1.2.1 dX11_weeks_181 (by decide) ?_
      refine ns_iald C w 79 (hI 79 (by decide)) sh_79 hf rfl dX11_weeks_182 (fun x1 hf => ?_)
      have he := Option.some.inj hf
      subst he
      exact ns_iret C w hr hlk rfl rfl dX11_weeks_183
    · refine lv_iconst (v := 0) C.1.1 C.1.2.1 dX11_weeks_34 (by decide) ?_
      refine lv_istore_n (lv' := [(3, .int 0), (0, .ref (b 62)), (1, .int l1), (2, .int l2)]) C.1.1 C.1.2.1 dX11_weeks_35 rfl hl (by decide) rfl (fun ls hl => ?_)
      exact wX11_weeks_62_36 N hI C hr hlk K29 N w (lv_sub hl [1, 2, 3, 0] rfl) hf
set_option maxHeartbeats 4000000 in
set_option maxRecDepth 100000 in
theorem mX11_weeks_62 (l : Launch) (D : va_G) (b : Nat → Nat) (ids : List Nat) (hI : ∀ i, i < 107 → i ∈ ids) (N : Nat) (S : ns_S) (p1 : Int32) {o : Int32 × Int32 × (Nat → Int32) × (Nat → Int32) × (Nat → Int32) × (Nat → Int32) × (Nat → Int32) × (Nat → Int32) × (Nat → Int32) × (Nat → Int32) × (Nat → Int32)} (hf : fX11_weeks N (S.1 3968) (S.2.1 79) (S.2.1 67) (S.2.1 80) (S.2.1 83) (S.2.1 69) (S.2.1 86) (S.2.1 81) (S.2.1 87) (S.2.1 73) (S.2.1 77) (S.2.1 78) (S.2.1 84) (S.2.1 68) (S.2.1 76) (S.2.1 82) (S.2.1 85) (S.2.1 70) p1 = some o) : ns_M l yX11_weeks wsX11_weeks rmX11_weeks_62 D b ids S [.ref (b 62), .int p1] (some (.int o.1)) (ns_I (ns_A (ns_A (ns_A (ns_A (ns_A (ns_A (ns_A (ns_A (ns_A S 82 o.2.2.2.2.2.2.2.2.2.2) 81 o.2.2.2.2.2.2.2.2.2.1) 80 o.2.2.2.2.2.2.2.2.1) 85 o.2.2.2.2.2.2.2.1) 84 o.2.2.2.2.2.2.1) 79 o.2.2.2.2.2.1) 87 o.2.2.2.2.1) 86 o.2.2.2.1) 83 o.2.2.1) 3968 o.2.1) := by
  refine ns_start (Wr := wrX11_weeks_62) (by decide) rfl (Nat.le_of_ble_eq_true rfl) ?_
  intro p e s m below meth c A ls C hr hlk w hl
  have hl : lv_has ls 4 [(0, .ref (b 62)), (1, .int p1)] := hl
  unfold fX11_weeks at hf
  refine lv_aload_n C.1.1 C.1.2.1 dX11_weeks_0 rfl (lv_at hl 0 rfl) ?_
  refine lv_iconst (v := 0) C.1.1 C.1.2.1 dX11_weeks_1 (by decide) ?_
  refine ns_puti C w 62 (hI 62 (by decide)) sh_62 (rfl : vwCl[11]? = some (RX11, TX11, 59)) inX11_weeks_11 tyX11_ok nmX11 0 (by decide) rfl lX11_weeks_179 rfl rfl rfl (List.mem_of_getElem? (i := 0) rfl) dX11_weeks_2 (fun H locs w => ?_)
  refine lv_aload_n C.1.1 C.1.2.1 dX11_weeks_5 rfl (lv_at hl 0 rfl) ?_
  refine ns_getr C w 62 (hI 62 (by decide)) sh_62 (rfl : vwCl[11]? = some (RX11, TX11, 59)) inX11_weeks_11 18 (by decide) rfl lX11_weeks_60 dX11_weeks_6 ?_
  refine lv_iconst (v := 0) C.1.1 C.1.2.1 dX11_weeks_9 (by decide) ?_
  refine ns_iald C w 79 (hI 79 (by decide)) sh_79 hf rfl dX11_weeks_10 (fun x1 hf => ?_)
  refine lv_iconst (v := (-1)) C.1.1 C.1.2.1 dX11_weeks_11 (by decide) ?_
  refine ns_icmp_eq C hf (tgt := 25) dX11_weeks_12 (by decide) (fun hf => ?_) (fun hf => ?_)
  · refine lv_iconst (v := (-1)) C.1.1 C.1.2.1 dX11_weeks_25 (by decide) ?_
    have he := Option.some.inj hf
    subst he
    exact ns_iret C w hr hlk rfl rfl dX11_weeks_26
  · refine lv_iload_n C.1.1 C.1.2.1 dX11_weeks_15 rfl (lv_at hl 1 rfl) ?_
    refine lv_iconst (v := 1) C.1.1 C.1.2.1 dX11_weeks_16 (by decide) ?_
    refine lv_bipush (v := 20) C.1.1 C.1.2.1 dX11_weeks_17 (by decide) ?_
    refine ns_callS C w [.int p1, .int 1, .int 20] hf (fun u hu => mX11_in l D b ids hI N _ p1 1 20 hu) gX11_weeks_X11_in rfl rfl rfl hdX11_in ⟨Nat.le_of_ble_eq_true rfl, Nat.le_of_ble_eq_true rfl⟩ (fun u h => h) rfl hl.1 rfl (Nat.le_of_ble_eq_true rfl) ⟨Nat.le_refl _, Nat.le_refl _⟩ dX11_weeks_19 (fun o2 H locs hf w => ?_)
    refine ns_if_ne C hf (tgt := 27) dX11_weeks_22 (by decide) (fun hf => ?_) (fun hf => ?_)
    · refine lv_iconst (v := 0) C.1.1 C.1.2.1 dX11_weeks_27 (by decide) ?_
      refine lv_istore_n (lv' := [(2, .int 0), (0, .ref (b 62)), (1, .int p1)]) C.1.1 C.1.2.1 dX11_weeks_28 rfl hl (by decide) rfl (fun ls hl => ?_)
      exact wX11_weeks_62_29 N hI C hr hlk N w (lv_sub hl [1, 2, 0] rfl) hf
    · refine lv_iconst (v := (-1)) C.1.1 C.1.2.1 dX11_weeks_25 (by decide) ?_
      have he := Option.some.inj hf
      subst he
      exact ns_iret C w hr hlk rfl rfl dX11_weeks_26
theorem lX4_dropWish_21 : Cond.fieldLink RX4 21 (TX4 4).1 (TX4 4).2.1 (TX4 4).2.2.1 ∈ wsX4_dropWish := List.mem_of_getElem? (i := 1) rfl
theorem lX4_dropWish_24 : Cond.fieldLink RX4 24 (TX4 5).1 (TX4 5).2.1 (TX4 5).2.2.1 ∈ wsX4_dropWish := List.mem_of_getElem? (i := 2) rfl
theorem inX4_dropWish_4 : ∀ w ∈ u_ws RX4 TX4 6, w ∈ wsX4_dropWish := fun _ h => List.mem_cons_of_mem _ (List.mem_append_right _ h)
theorem hdX4_dropWish : yX4_dropWish.cls = RX4 ∧ yX4_dropWish.cls ≠ "java/lang/invoke/MethodHandle" ∧ yX4_dropWish.cls ≠ "java/lang/invoke/VarHandle" ∧ (parseMethodDescriptor yX4_dropWish.desc).map (fun d => d.parameters.length) = some 2 := by decide +kernel
abbrev wrX4_dropWish_37 : List (Nat × Nat) := [(1, 41), (1, 42)]
abbrev rmX4_dropWish_37 : Room := { frames := 2, cells := 0, slots := 0, locals := 45 }
set_option maxHeartbeats 4000000 in
set_option maxRecDepth 100000 in
theorem wX4_dropWish_37_26 {p : Program} {l : Launch} {e : Env} {s : State} {m : MethodId} {args : Array Value} {below : List Frame} {meth : Method} {c : Code} {D : va_G} {b : Nat → Nat} {ids : List Nat} {A : Nat → Prop} {S0 : ns_S} {o : (Nat → Int32) × (Nat → Int32)} (N : Nat) (hI : ∀ i, i < 107 → i ∈ ids) (C : ns_C p m c cX4_dropWish 6 s args wsX4_dropWish RX4 D A) (hr : meth.sig.returnType = none) (hlk : meth.locks = false) : ∀ n : Nat, ∀ {S : ns_S} {H : Heap} {locs : List Loc} {ls : Array Slot} {l1 : Int32} {l4 : Int32} {l5 : Int32}, ns_W D b ids A s.heap wrX4_dropWish_37 S0 S H locs → lv_has ls 6 [(0, .ref (b 37)), (1, .int l1), (4, .int l4), (5, .int l5)] → fX4_dropWish_26 N n (S.2.1 41) (S.2.1 42) l1 l4 l5 = some o → W p l e rmX4_dropWish_37 s m args below meth c H locs 0 0 (MQ below (ns_Q D b ids (ns_A (ns_A S0 42 o.2) 41 o.1) none A) args s 0 0 A) (F0 m 26 ls []) := by
  intro n
  induction n with
  | zero =>
    intro S H locs ls l1 l4 l5 w hl hf
    cases hf
  | succ n K26 =>
    intro S H locs ls l1 l4 l5 w hl hf
    change gX4_dropWish_26 N (fX4_dropWish_26 N n) (S.2.1 41) (S.2.1 42) l1 l4 l5 = some o at hf
    generalize fX4_dropWish_26 N n = r26 at hf K26
    unfold gX4_dropWish_26 at hf
    refine lv_iload C.1.1 C.1.2.1 dX4_dropWish_26 (lv_at hl 3 rfl) ?_
    refine lv_iload C.1.1 C.1.2.1 dX4_dropWish_28 (lv_at hl 2 rfl) ?_
    refine ns_icmp_ge C hf (tgt := 60) dX4_dropWish_30 (by decide) (fun hf => ?_) (fun hf => ?_)
    · refine lv_aload_n C.1.1 C.1.2.1 dX4_dropWish_60 rfl (lv_at hl 0 rfl) ?_
      refine ns_getr C w 37 (hI 37 (by decide)) sh_37 (rfl : vwCl[4]? = some (RX4, TX4, 6)) inX4_dropWish_4 4 (by decide) rfl lX4_dropWish_21 dX4_dropWish_61 ?_
      refine lv_iload_n C.1.1 C.1.2.1 dX4_dropWish_64 rfl (lv_at hl 1 rfl) ?_
      refine lv_iload C.1.1 C.1.2.1 dX4_dropWish_65 (lv_at hl 2 rfl) ?_
      refine ns_iast C w 41 (hI 41 (by decide)) sh_41 hf rfl (List.mem_of_getElem? (i := 0) rfl) dX4_dropWish_67 (fun y1 H locs hf w => ?_)
      have he := Option.some.inj hf
      subst he
      exact ns_vret C w hr hlk rfl rfl dX4_dropWish_68
    · refine lv_aload_n C.1.1 C.1.2.1 dX4_dropWish_33 rfl (lv_at hl 0 rfl) ?_
      refine ns_getr C w 37 (hI 37 (by decide)) sh_37 (rfl : vwCl[4]? = some (RX4, TX4, 6)) inX4_dropWish_4 5 (by decide) rfl lX4_dropWish_24 dX4_dropWish_34 ?_
      refine lv_iload_n C.1.1 C.1.2.1 dX4_dropWish_37 rfl (lv_at hl 1 rfl) ?_
      refine lv_bipush (v := 6) C.1.1 C.1.2.1 dX4_dropWish_38 (by decide) ?_
      refine lv_imul C.1.1 C.1.2.1 dX4_dropWish_40 ?_
      refine lv_iload C.1.1 C.1.2.1 dX4_dropWish_41 (lv_at hl 3 rfl) ?_
      refine lv_iadd C.1.1 C.1.2.1 dX4_dropWish_43 ?_
      refine lv_aload_n C.1.1 C.1.2.1 dX4_dropWish_44 rfl (lv_at hl 0 rfl) ?_
      refine lv_iload_n C.1.1 C.1.2.1 dX4_dropWish_45 rfl (lv_at hl 1 rfl) ?_
      refine lv_iload C.1.1 C.1.2.1 dX4_dropWish_46 (lv_at hl 3 rfl) ?_
      refine lv_iconst (v := 1) C.1.1 C.1.2.1 dX4_dropWish_48 (by decide) ?_
      refine lv_iadd C.1.1 C.1.2.1 dX4_dropWish_49 ?_
      refine ns_callV C w 37 (hI 37 (by decide)) sh_37 (rfl : vwCl[4]? = some (RX4, TX4, 6)) [.int l1, .int (l5 + 1)] hf (fun u hu => mX4_courseOfRank_37 l D b ids hI N _ l1 (l5 + 1) hu) gX4_dropWish_X4_courseOfRank rfl rfl rfl hdX4_courseOfRank ⟨Nat.le_of_ble_eq_true rfl, Nat.le_of_ble_eq_true rfl⟩ (fun u h => h) rfl hl.1 rfl (Nat.le_of_ble_eq_true rfl) ⟨Nat.le_refl _, Nat.le_refl _⟩ dX4_dropWish_50 (fun o2 H locs hf w => ?_)
      refine ns_iast C w 42 (hI 42 (by decide)) sh_42 hf rfl (List.mem_of_getElem? (i := 1) rfl) dX4_dropWish_53 (fun y3 H locs hf w => ?_)
      refine ns_iinc (lv' := fun x4 => [(5, .int x4), (0, .ref (b 37)), (1, .int l1), (4, .int l4)]) C hf dX4_dropWish_54 hl (k := 3) rfl rfl (by decide) (fun _ => rfl) (fun x4 ls hl hf => ?_)
      refine lv_goto (tgt := 26) C.1.1 C.1.2.1 dX4_dropWish_57 (by decide) ?_
      exact K26 w (lv_sub hl [1, 2, 3, 0] rfl) hf
set_option maxHeartbeats 4000000 in
set_option maxRecDepth 100000 in
theorem mX4_dropWish_37 (l : Launch) (D : va_G) (b : Nat → Nat) (ids : List Nat) (hI : ∀ i, i < 107 → i ∈ ids) (N : Nat) (S : ns_S) (p1 : Int32) (p2 : Int32) {o : (Nat → Int32) × (Nat → Int32)} (hf : fX4_dropWish N (S.2.1 41) (S.2.1 42) p1 p2 = some o) : ns_M l yX4_dropWish wsX4_dropWish rmX4_dropWish_37 D b ids S [.ref (b 37), .int p1, .int p2] none (ns_A (ns_A S 42 o.2) 41 o.1) := by
  refine ns_start (Wr := wrX4_dropWish_37) (by decide) rfl (Nat.le_of_ble_eq_true rfl) ?_
  intro p e s m below meth c A ls C hr hlk w hl
  have hl : lv_has ls 6 [(0, .ref (b 37)), (1, .int p1), (2, .int p2)] := hl
  unfold fX4_dropWish at hf
  refine lv_aload_n C.1.1 C.1.2.1 dX4_dropWish_0 rfl (lv_at hl 0 rfl) ?_
  refine lv_iload_n C.1.1 C.1.2.1 dX4_dropWish_1 rfl (lv_at hl 1 rfl) ?_
  refine lv_iload_n C.1.1 C.1.2.1 dX4_dropWish_2 rfl (lv_at hl 2 rfl) ?_
  refine ns_callV C w 37 (hI 37 (by decide)) sh_37 (rfl : vwCl[4]? = some (RX4, TX4, 6)) [.int p1, .int p2] hf (fun u hu => mX4_rankOf_37 l D b ids hI N _ p1 p2 hu) gX4_dropWish_X4_rankOf rfl rfl rfl hdX4_rankOf ⟨Nat.le_of_ble_eq_true rfl, Nat.le_of_ble_eq_true rfl⟩ (fun u h => h) rfl hl.1 rfl (Nat.le_of_ble_eq_true rfl) ⟨Nat.le_refl _, Nat.le_refl _⟩ dX4_dropWish_3 (fun o1 H locs hf w => ?_)
  refine lv_istore_n (lv' := [(3, .int o1), (0, .ref (b 37)), (1, .int p1), (2, .int p2)]) C.1.1 C.1.2.1 dX4_dropWish_6 rfl hl (by decide) rfl (fun ls hl => ?_)
  refine lv_iload_n C.1.1 C.1.2.1 dX4_dropWish_7 rfl (lv_at hl 0 rfl) ?_
  refine lv_iconst (v := (-1)) C.1.1 C.1.2.1 dX4_dropWish_8 (by decide) ?_
  refine ns_icmp_ne C hf (tgt := 13) dX4_dropWish_9 (by decide) (fun hf => ?_) (fun hf => ?_)
  · refine lv_aload_n C.1.1 C.1.2.1 dX4_dropWish_13 rfl (lv_at hl 1 rfl) ?_
    refine ns_getr C w 37 (hI 37 (by decide)) sh_37 (rfl : vwCl[4]? = some (RX4, TX4, 6)) inX4_dropWish_4 4 (by decide) rfl lX4_dropWish_21 dX4_dropWish_14 ?_
    refine lv_iload_n C.1.1 C.1.2.1 dX4_dropWish_17 rfl (lv_at hl 2 rfl) ?_
    refine ns_iald C w 41 (hI 41 (by decide)) sh_41 hf rfl dX4_dropWish_18 (fun x2 hf => ?_)
    refine lv_iconst (v := 1) C.1.1 C.1.2.1 dX4_dropWish_19 (by decide) ?_
    refine lv_isub C.1.1 C.1.2.1 dX4_dropWish_20 ?_
    refine ns_namei hf (fun x3 hf => ?_)
    refine lv_istore (lv' := [(4, .int x3), (3, .int o1), (0, .ref (b 37)), (1, .int p1), (2, .int p2)]) C.1.1 C.1.2.1 dX4_dropWish_21 hl (by decide) rfl (fun ls hl => ?_)
    refine lv_iload_n C.1.1 C.1.2.1 dX4_dropWish_23 rfl (lv_at hl 1 rfl) ?_
    refine lv_istore (lv' := [(5, .int o1), (4, .int x3), (3, .int o1), (0, .ref (b 37)), (1, .int p1), (2, .int p2)]) C.1.1 C.1.2.1 dX4_dropWish_24 hl (by decide) rfl (fun ls hl => ?_)
    exact wX4_dropWish_37_26 N hI C hr hlk N w (lv_sub hl [3, 4, 1, 0] rfl) hf
  · have he := Option.some.inj hf
    subst he
    exact ns_vret C w hr hlk rfl rfl dX4_dropWish_12
theorem lX10_quit_30 : Cond.fieldLink RX10 30 (TX10 4).1 (TX10 4).2.1 (TX10 4).2.2.1 ∈ wsX10_quit := List.mem_of_getElem? (i := 1) rfl
theorem lX10_quit_119 : Cond.fieldLink RX10 119 (TX6 2).1 (TX6 2).2.1 (TX6 2).2.2.1 ∈ wsX10_quit := List.mem_of_getElem? (i := 3) rfl
theorem lX10_quit_165 : Cond.fieldLink RX10 165 (TX6 3).1 (TX6 3).2.1 (TX6 3).2.2.1 ∈ wsX10_quit := List.mem_of_getElem? (i := 2) rfl
theorem inX10_quit_6 : ∀ w ∈ u_ws RX6 TX6 6, w ∈ wsX10_quit := fun _ h => List.mem_cons_of_mem _ (List.mem_append_left _ (List.mem_append_left _ (List.mem_append_left _ (List.mem_append_left _ (List.mem_append_right _ h)))))
theorem inX10_quit_10 : ∀ w ∈ u_ws RX10 TX10 6, w ∈ wsX10_quit := fun _ h => List.mem_cons_of_mem _ (List.mem_append_left _ (List.mem_append_left _ (List.mem_append_left _ (List.mem_append_left _ (List.mem_append_left _ (List.mem_append_right _ h))))))
theorem hdX10_quit : yX10_quit.cls = RX10 ∧ yX10_quit.cls ≠ "java/lang/invoke/MethodHandle" ∧ yX10_quit.cls ≠ "java/lang/invoke/VarHandle" ∧ (parseMethodDescriptor yX10_quit.desc).map (fun d => d.parameters.length) = some 2 := by decide +kernel
abbrev wrX10_quit_0 : List (Nat × Nat) := [(1, 47), (1, 46), (1, 41), (1, 42), (1, 49), (0, 3073)]
abbrev rmX10_quit_0 : Room := { frames := 5, cells := 0, slots := 0, locals := 114 }
set_option maxHeartbeats 4000000 in
set_option maxRecDepth 100000 in
theorem mX10_quit_0 (l : Launch) (D : va_G) (b : Nat → Nat) (ids : List Nat) (hI : ∀ i, i < 107 → i ∈ ids) (N : Nat) (S : ns_S) (p1 : Int32) (p2 : Int32) {o : Int32 × (Nat → Int32) × (Nat → Int32) × (Nat → Int32) × (Nat → Int32) × (Nat → Int32) × Int32} (hf : fX10_quit N (S.1 2368) (S.1 1984) (S.2.1 47) (S.2.1 46) (S.2.1 41) (S.2.1 42) (S.2.1 45) (S.1 2752) (S.2.1 32) (S.2.1 40) (S.2.1 49) (S.1 3073) p1 p2 = some o) : ns_M l yX10_quit wsX10_quit rmX10_quit_0 D b ids S [.ref (b 0), .int p1, .int p2] (some (.int o.1)) (ns_A (ns_A (ns_A (ns_A (ns_A (ns_I S 3073 o.2.2.2.2.2.2) 49 o.2.2.2.2.2.1) 42 o.2.2.2.2.1) 41 o.2.2.2.1) 46 o.2.2.1) 47 o.2.1) := by
  refine ns_start (Wr := wrX10_quit_0) (by decide) rfl (Nat.le_of_ble_eq_true rfl) ?_
  intro p e s m below meth c A ls C hr hlk w hl
  have hl : lv_has ls 3 [(0, .ref (b 0)), (1, .int p1), (2, .int p2)] := hl
  unfold fX10_quit at hf
  refine lv_aload_n C.1.1 C.1.2.1 dX10_quit_0 rfl (lv_at hl 0 rfl) ?_
  refine lv_iload_n C.1.1 C.1.2.1 dX10_quit_1 rfl (lv_at hl 1 rfl) ?_
  refine ns_callV C w 0 (hI 0 (by decide)) sh_0 (rfl : vwCl[10]? = some (RX10, TX10, 6)) [.int p1] hf (fun u hu => mX10_isPupil_0 l D b ids hI N _ p1 hu) gX10_quit_X10_isPupil rfl rfl rfl hdX10_isPupil ⟨Nat.le_of_ble_eq_true rfl, Nat.le_of_ble_eq_true rfl⟩ (fun u h => h) rfl hl.1 rfl (Nat.le_of_ble_eq_true rfl) ⟨Nat.le_refl _, Nat.le_refl _⟩ dX10_quit_2 (fun o1 H locs hf w => ?_)
  refine ns_if_eq C hf (tgt := 31) dX10_quit_5 (by decide) (fun hf => ?_) (fun hf => ?_)
  · refine lv_iconst (v := 0) C.1.1 C.1.2.1 dX10_quit_31 (by decide) ?_
    have he := Option.some.inj hf
    subst he
    exact ns_zret C w hr hlk rfl (Or.inl rfl) rfl dX10_quit_32
  · refine lv_aload_n C.1.1 C.1.2.1 dX10_quit_8 rfl (lv_at hl 0 rfl) ?_
    refine lv_iload_n C.1.1 C.1.2.1 dX10_quit_9 rfl (lv_at hl 2 rfl) ?_
    refine ns_callV C w 0 (hI 0 (by decide)) sh_0 (rfl : vwCl[10]? = some (RX10, TX10, 6)) [.int p2] hf (fun u hu => mX10_isCourse_0 l D b ids hI N _ p2 hu) gX10_quit_X10_isCourse rfl rfl rfl hdX10_isCourse ⟨Nat.le_of_ble_eq_true rfl, Nat.le_of_ble_eq_true rfl⟩ (fun u h => h) rfl hl.1 rfl (Nat.le_of_ble_eq_true rfl) ⟨Nat.le_refl _, Nat.le_refl _⟩ dX10_quit_10 (fun o2 H locs hf w => ?_)
    refine ns_if_eq C hf (tgt := 31) dX10_quit_13 (by decide) (fun hf => ?_) (fun hf => ?_)
    · refine lv_iconst (v := 0) C.1.1 C.1.2.1 dX10_quit_31 (by decide) ?_
      have he := Option.some.inj hf
      subst he
      exact ns_zret C w hr hlk rfl (Or.inl rfl) rfl dX10_quit_32
    · refine lv_aload_n C.1.1 C.1.2.1 dX10_quit_16 rfl (lv_at hl 0 rfl) ?_
      refine ns_getr C w 0 (hI 0 (by decide)) sh_0 (rfl : vwCl[10]? = some (RX10, TX10, 6)) inX10_quit_10 4 (by decide) rfl lX10_quit_30 dX10_quit_17 ?_
      refine ns_getr C w 28 (hI 28 (by decide)) sh_28 (rfl : vwCl[6]? = some (RX6, TX6, 6)) inX10_quit_6 3 (by decide) rfl lX10_quit_165 dX10_quit_20 ?_
      refine lv_iload_n C.1.1 C.1.2.1 dX10_quit_23 rfl (lv_at hl 1 rfl) ?_
      refine lv_iload_n C.1.1 C.1.2.1 dX10_quit_24 rfl (lv_at hl 2 rfl) ?_
      refine ns_callV C w 43 (hI 43 (by decide)) sh_43 (rfl : vwCl[7]? = some (RX7, TX7, 5)) [.int p1, .int p2] hf (fun u hu => mX7_hasCourse_43 l D b ids hI N _ p1 p2 hu) gX10_quit_X7_hasCourse rfl rfl rfl hdX7_hasCourse ⟨Nat.le_of_ble_eq_true rfl, Nat.le_of_ble_eq_true rfl⟩ (fun u h => h) rfl hl.1 rfl (Nat.le_of_ble_eq_true rfl) ⟨Nat.le_refl _, Nat.le_refl _⟩ dX10_quit_25 (fun o3 H locs hf w => ?_)
      refine ns_if_ne C hf (tgt := 33) dX10_quit_28 (by decide) (fun hf => ?_) (fun hf => ?_)
      · refine lv_aload_n C.1.1 C.1.2.1 dX10_quit_33 rfl (lv_at hl 0 rfl) ?_
        refine ns_getr C w 0 (hI 0 (by decide)) sh_0 (rfl : vwCl[10]? = some (RX10, TX10, 6)) inX10_quit_10 4 (by decide) rfl lX10_quit_30 dX10_quit_34 ?_
        refine ns_getr C w 28 (hI 28 (by decide)) sh_28 (rfl : vwCl[6]? = some (RX6, TX6, 6)) inX10_quit_6 3 (by decide) rfl lX10_quit_165 dX10_quit_37 ?_
        refine lv_iload_n C.1.1 C.1.2.1 dX10_quit_40 rfl (lv_at hl 1 rfl) ?_
        refine lv_iload_n C.1.1 C.1.2.1 dX10_quit_41 rfl (lv_at hl 2 rfl) ?_
        refine ns_callV C w 43 (hI 43 (by decide)) sh_43 (rfl : vwCl[7]? = some (RX7, TX7, 5)) [.int p1, .int p2] hf (fun u hu => mX7_takeAway_43 l D b ids hI N _ p1 p2 hu) gX10_quit_X7_takeAway rfl rfl rfl hdX7_takeAway ⟨Nat.le_of_ble_eq_true rfl, Nat.le_of_ble_eq_true rfl⟩ (fun u h => ((h.A (List.mem_of_getElem? (i := 1) rfl) _).A (List.mem_of_getElem? (i := 0) rfl) _)) rfl hl.1 rfl (Nat.le_of_ble_eq_true rfl) ⟨Nat.le_refl _, Nat.le_refl _⟩ dX10_quit_42 (fun o4 H locs hf w => ?_)
        refine lv_aload_n C.1.1 C.1.2.1 dX10_quit_45 rfl (lv_at hl 0 rfl) ?_
        refine ns_getr C w 0 (hI 0 (by decide)) sh_0 (rfl : vwCl[10]? = some (RX10, TX10, 6)) inX10_quit_10 4 (by decide) rfl lX10_quit_30 dX10_quit_46 ?_
        refine ns_getr C w 28 (hI 28 (by decide)) sh_28 (rfl : vwCl[6]? = some (RX6, TX6, 6)) inX10_quit_6 2 (by decide) rfl lX10_quit_119 dX10_quit_49 ?_
        refine lv_iload_n C.1.1 C.1.2.1 dX10_quit_52 rfl (lv_at hl 1 rfl) ?_
        refine lv_iload_n C.1.1 C.1.2.1 dX10_quit_53 rfl (lv_at hl 2 rfl) ?_
        refine ns_callV C w 37 (hI 37 (by decide)) sh_37 (rfl : vwCl[4]? = some (RX4, TX4, 6)) [.int p1, .int p2] hf (fun u hu => mX4_dropWish_37 l D b ids hI N _ p1 p2 hu) gX10_quit_X4_dropWish rfl rfl rfl hdX4_dropWish ⟨Nat.le_of_ble_eq_true rfl, Nat.le_of_ble_eq_true rfl⟩ (fun u h => ((h.A (List.mem_of_getElem? (i := 3) rfl) _).A (List.mem_of_getElem? (i := 2) rfl) _)) rfl hl.1 rfl (Nat.le_of_ble_eq_true rfl) ⟨Nat.le_refl _, Nat.le_refl _⟩ dX10_quit_54 (fun o5 H locs hf w => ?_)
        refine lv_aload_n C.1.1 C.1.2.1 dX10_quit_57 rfl (lv_at hl 0 rfl) ?_
        refine ns_getr C w 0 (hI 0 (by decide)) sh_0 (rfl : vwCl[10]? = some (RX10, TX10, 6)) inX10_quit_10 4 (by decide) rfl lX10_quit_30 dX10_quit_58 ?_
        refine ns_callV C w 28 (hI 28 (by decide)) sh_28 (rfl : vwCl[6]? = some (RX6, TX6, 6)) [] hf (fun u hu => mX6_moveUp_28 l D b ids hI N _ hu) gX10_quit_X6_moveUp rfl rfl rfl hdX6_moveUp ⟨Nat.le_of_ble_eq_true rfl, Nat.le_of_ble_eq_true rfl⟩ (fun u h => ((((h.I (List.mem_of_getElem? (i := 5) rfl) _).A (List.mem_of_getElem? (i := 4) rfl) _).A (List.mem_of_getElem? (i := 1) rfl) _).A (List.mem_of_getElem? (i := 0) rfl) _)) rfl hl.1 rfl (Nat.le_of_ble_eq_true rfl) ⟨Nat.le_refl _, Nat.le_refl _⟩ dX10_quit_61 (fun o6 H locs hf w => ?_)
        refine lv_iconst (v := 1) C.1.1 C.1.2.1 dX10_quit_64 (by decide) ?_
        have he := Option.some.inj hf
        subst he
        exact ns_zret C w hr hlk rfl (Or.inr rfl) rfl dX10_quit_65
      · refine lv_iconst (v := 0) C.1.1 C.1.2.1 dX10_quit_31 (by decide) ?_
        have he := Option.some.inj hf
        subst he
        exact ns_zret C w hr hlk rfl (Or.inl rfl) rfl dX10_quit_32
theorem lX11_quit_54 : Cond.fieldLink RX11 54 (TX11 16).1 (TX11 16).2.1 (TX11 16).2.2.1 ∈ wsX11_quit := List.mem_of_getElem? (i := 3) rfl
theorem lX11_quit_57 : Cond.fieldLink RX11 57 (TX11 17).1 (TX11 17).2.1 (TX11 17).2.2.1 ∈ wsX11_quit := List.mem_of_getElem? (i := 4) rfl
theorem lX11_quit_75 : Cond.fieldLink RX11 75 (TX11 23).1 (TX11 23).2.1 (TX11 23).2.2.1 ∈ wsX11_quit := List.mem_of_getElem? (i := 2) rfl
theorem lX11_quit_179 : Cond.fieldLink RX11 179 (TX11 0).1 (TX11 0).2.1 (TX11 0).2.2.1 ∈ wsX11_quit := List.mem_of_getElem? (i := 1) rfl
theorem inX11_quit_11 : ∀ w ∈ u_ws RX11 TX11 59, w ∈ wsX11_quit := fun _ h => List.mem_cons_of_mem _ (List.mem_append_right _ h)
theorem hdX11_quit : yX11_quit.cls = RX11 ∧ yX11_quit.cls ≠ "java/lang/invoke/MethodHandle" ∧ yX11_quit.cls ≠ "java/lang/invoke/VarHandle" ∧ (parseMethodDescriptor yX11_quit.desc).map (fun d => d.parameters.length) = some 2 := by decide +kernel
abbrev wrX11_quit_62 : List (Nat × Nat) := [(0, 3968), (1, 84), (1, 77), (1, 85), (1, 78)]
abbrev rmX11_quit_62 : Room := { frames := 4, cells := 0, slots := 0, locals := 91 }
set_option maxHeartbeats 4000000 in
set_option maxRecDepth 100000 in
theorem wX11_quit_62_57 {p : Program} {l : Launch} {e : Env} {s : State} {m : MethodId} {args : Array Value} {below : List Frame} {meth : Method} {c : Code} {D : va_G} {b : Nat → Nat} {ids : List Nat} {A : Nat → Prop} {S0 : ns_S} {o : Int32 × Int32 × (Nat → Int32) × (Nat → Int32) × (Nat → Int32) × (Nat → Int32)} (N : Nat) (hI : ∀ i, i < 107 → i ∈ ids) (C : ns_C p m c cX11_quit 4 s args wsX11_quit RX11 D A) (hr : meth.sig.returnType = some .boolean) (hlk : meth.locks = false) : ∀ n : Nat, ∀ {S : ns_S} {H : Heap} {locs : List Loc} {ls : Array Slot} {l1 : Int32} {l3 : Int32}, ns_W D b ids A s.heap wrX11_quit_62 S0 S H locs → lv_has ls 4 [(0, .ref (b 62)), (1, .int l1), (3, .int l3)] → fX11_quit_57 N n (S.1 3968) (S.2.1 73) (S.2.1 67) (S.2.1 84) (S.2.1 77) (S.2.1 78) (S.2.1 79) (S.2.1 80) (S.2.1 68) (S.2.1 76) (S.2.1 82) (S.2.1 85) l1 l3 = some o → W p l e rmX11_quit_62 s m args below meth c H locs 0 0 (MQ below (ns_Q D b ids (ns_I (ns_A (ns_A (ns_A (ns_A S0 78 o.2.2.2.2.2) 85 o.2.2.2.2.1) 77 o.2.2.2.1) 84 o.2.2.1) 3968 o.2.1) (some (.int o.1)) A) args s 0 0 A) (F0 m 57 ls []) := by
  intro n
  induction n with
  | zero =>
    intro S H locs ls l1 l3 w hl hf
    cases hf
  | succ n K57 =>
    intro S H locs ls l1 l3 w hl hf
    change gX11_quit_57 N (fX11_quit_57 N n) (S.1 3968) (S.2.1 73) (S.2.1 67) (S.2.1 84) (S.2.1 77) (S.2.1 78) (S.2.1 79) (S.2.1 80) (S.2.1 68) (S.2.1 76) (S.2.1 82) (S.2.1 85) l1 l3 = some o at hf
    generalize fX11_quit_57 N n = r57 at hf K57
    unfold gX11_quit_57 at hf
    refine lv_iload_n C.1.1 C.1.2.1 dX11_quit_57 rfl (lv_at hl 2 rfl) ?_
    refine lv_iconst (v := 1) C.1.1 C.1.2.1 dX11_quit_58 (by decide) ?_
    refine lv_iadd C.1.1 C.1.2.1 dX11_quit_59 ?_
    refine lv_aload_n C.1.1 C.1.2.1 dX11_quit_60 rfl (lv_at hl 0 rfl) ?_
    refine ns_getr C w 62 (hI 62 (by decide)) sh_62 (rfl : vwCl[11]? = some (RX11, TX11, 59)) inX11_quit_11 16 (by decide) rfl lX11_quit_54 dX11_quit_61 ?_
    refine lv_iload_n C.1.1 C.1.2.1 dX11_quit_64 rfl (lv_at hl 1 rfl) ?_
    refine ns_iald C w 77 (hI 77 (by decide)) sh_77 hf rfl dX11_quit_65 (fun x1 hf => ?_)
    refine ns_icmp_ge C hf (tgt := 99) dX11_quit_66 (by decide) (fun hf => ?_) (fun hf => ?_)
    · refine lv_aload_n C.1.1 C.1.2.1 dX11_quit_99 rfl (lv_at hl 0 rfl) ?_
      refine ns_getr C w 62 (hI 62 (by decide)) sh_62 (rfl : vwCl[11]? = some (RX11, TX11, 59)) inX11_quit_11 16 (by decide) rfl lX11_quit_54 dX11_quit_100 ?_
      refine lv_iload_n C.1.1 C.1.2.1 dX11_quit_103 rfl (lv_at hl 1 rfl) ?_
      refine lv_dup2_11 C.1.1 C.1.2.1 dX11_quit_104 rfl rfl ?_
      refine ns_iald C w 77 (hI 77 (by decide)) sh_77 hf rfl dX11_quit_105 (fun x2 hf => ?_)
      refine lv_iconst (v := 1) C.1.1 C.1.2.1 dX11_quit_106 (by decide) ?_
      refine lv_isub C.1.1 C.1.2.1 dX11_quit_107 ?_
      refine ns_iast C w 77 (hI 77 (by decide)) sh_77 hf rfl (List.mem_of_getElem? (i := 2) rfl) dX11_quit_108 (fun y3 H locs hf w => ?_)
      refine lv_aload_n C.1.1 C.1.2.1 dX11_quit_109 rfl (lv_at hl 0 rfl) ?_
      refine ns_callV C w 62 (hI 62 (by decide)) sh_62 (rfl : vwCl[11]? = some (RX11, TX11, 59)) [] hf (fun u hu => mX11_moveUp_62 l D b ids hI N _ hu) gX11_quit_X11_moveUp rfl rfl rfl hdX11_moveUp ⟨Nat.le_of_ble_eq_true rfl, Nat.le_of_ble_eq_true rfl⟩ (fun u h => ((h.A (List.mem_of_getElem? (i := 3) rfl) _).A (List.mem_of_getElem? (i := 1) rfl) _)) rfl hl.1 rfl (Nat.le_of_ble_eq_true rfl) ⟨Nat.le_refl _, Nat.le_refl _⟩ dX11_quit_110 (fun o4 H locs hf w => ?_)
      refine lv_iconst (v := 1) C.1.1 C.1.2.1 dX11_quit_113 (by decide) ?_
      have he := Option.some.inj hf
      subst he
      exact ns_zret C w hr hlk rfl (Or.inr rfl) rfl dX11_quit_114
    · refine lv_aload_n C.1.1 C.1.2.1 dX11_quit_69 rfl (lv_at hl 0 rfl) ?_
      refine ns_getr C w 62 (hI 62 (by decide)) sh_62 (rfl : vwCl[11]? = some (RX11, TX11, 59)) inX11_quit_11 17 (by decide) rfl lX11_quit_57 dX11_quit_70 ?_
      refine lv_bipush (v := 6) C.1.1 C.1.2.1 dX11_quit_73 (by decide) ?_
      refine lv_iload_n C.1.1 C.1.2.1 dX11_quit_75 rfl (lv_at hl 1 rfl) ?_
      refine lv_imul C.1.1 C.1.2.1 dX11_quit_76 ?_
      refine lv_iload_n C.1.1 C.1.2.1 dX11_quit_77 rfl (lv_at hl 2 rfl) ?_
      refine lv_iadd C.1.1 C.1.2.1 dX11_quit_78 ?_
      refine lv_aload_n C.1.1 C.1.2.1 dX11_quit_79 rfl (lv_at hl 0 rfl) ?_
      refine ns_getr C w 62 (hI 62 (by decide)) sh_62 (rfl : vwCl[11]? = some (RX11, TX11, 59)) inX11_quit_11 17 (by decide) rfl lX11_quit_57 dX11_quit_80 ?_
      refine lv_bipush (v := 6) C.1.1 C.1.2.1 dX11_quit_83 (by decide) ?_
      refine lv_iload_n C.1.1 C.1.2.1 dX11_quit_85 rfl (lv_at hl 1 rfl) ?_
      refine lv_imul C.1.1 C.1.2.1 dX11_quit_86 ?_
      refine lv_iload_n C.1.1 C.1.2.1 dX11_quit_87 rfl (lv_at hl 2 rfl) ?_
      refine lv_iadd C.1.1 C.1.2.1 dX11_quit_88 ?_
      refine lv_iconst (v := 1) C.1.1 C.1.2.1 dX11_quit_89 (by decide) ?_
      refine lv_iadd C.1.1 C.1.2.1 dX11_quit_90 ?_
      refine ns_iald C w 78 (hI 78 (by decide)) sh_78 hf rfl dX11_quit_91 (fun x5 hf => ?_)
      refine ns_iast C w 78 (hI 78 (by decide)) sh_78 hf rfl (List.mem_of_getElem? (i := 4) rfl) dX11_quit_92 (fun y6 H locs hf w => ?_)
      refine ns_iinc (lv' := fun x7 => [(3, .int x7), (0, .ref (b 62)), (1, .int l1)]) C hf dX11_quit_93 hl (k := 2) rfl rfl (by decide) (fun _ => rfl) (fun x7 ls hl hf => ?_)
      refine lv_goto (tgt := 57) C.1.1 C.1.2.1 dX11_quit_96 (by decide) ?_
      exact K57 w (lv_sub hl [1, 2, 0] rfl) hf
set_option maxHeartbeats 4000000 in
set_option maxRecDepth 100000 in
theorem mX11_quit_62 (l : Launch) (D : va_G) (b : Nat → Nat) (ids : List Nat) (hI : ∀ i, i < 107 → i ∈ ids) (N : Nat) (S : ns_S) (p1 : Int32) (p2 : Int32) {o : Int32 × Int32 × (Nat → Int32) × (Nat → Int32) × (Nat → Int32) × (Nat → Int32)} (hf : fX11_quit N (S.1 3968) (S.2.1 73) (S.2.1 67) (S.2.1 84) (S.2.1 77) (S.2.1 78) (S.2.1 79) (S.2.1 80) (S.2.1 68) (S.2.1 76) (S.2.1 82) (S.2.1 85) p1 p2 = some o) : ns_M l yX11_quit wsX11_quit rmX11_quit_62 D b ids S [.ref (b 62), .int p1, .int p2] (some (.int o.1)) (ns_I (ns_A (ns_A (ns_A (ns_A S 78 o.2.2.2.2.2) 85 o.2.2.2.2.1) 77 o.2.2.2.1) 84 o.2.2.1) 3968 o.2.1) := by
  refine ns_start (Wr := wrX11_quit_62) (by decide) rfl (Nat.le_of_ble_eq_true rfl) ?_
  intro p e s m below meth c A ls C hr hlk w hl
  have hl : lv_has ls 4 [(0, .ref (b 62)), (1, .int p1), (2, .int p2)] := hl
  unfold fX11_quit at hf
  refine lv_aload_n C.1.1 C.1.2.1 dX11_quit_0 rfl (lv_at hl 0 rfl) ?_
  refine lv_iconst (v := 0) C.1.1 C.1.2.1 dX11_quit_1 (by decide) ?_
  refine ns_puti C w 62 (hI 62 (by decide)) sh_62 (rfl : vwCl[11]? = some (RX11, TX11, 59)) inX11_quit_11 tyX11_ok nmX11 0 (by decide) rfl lX11_quit_179 rfl rfl rfl (List.mem_of_getElem? (i := 0) rfl) dX11_quit_2 (fun H locs w => ?_)
  refine lv_aload_n C.1.1 C.1.2.1 dX11_quit_5 rfl (lv_at hl 0 rfl) ?_
  refine lv_iload_n C.1.1 C.1.2.1 dX11_quit_6 rfl (lv_at hl 1 rfl) ?_
  refine ns_callV C w 62 (hI 62 (by decide)) sh_62 (rfl : vwCl[11]? = some (RX11, TX11, 59)) [.int p1] hf (fun u hu => mX11_isPupil_62 l D b ids hI N _ p1 hu) gX11_quit_X11_isPupil rfl rfl rfl hdX11_isPupil ⟨Nat.le_of_ble_eq_true rfl, Nat.le_of_ble_eq_true rfl⟩ (fun u h => h) rfl hl.1 rfl (Nat.le_of_ble_eq_true rfl) ⟨Nat.le_refl _, Nat.le_refl _⟩ dX11_quit_7 (fun o1 H locs hf w => ?_)
  refine ns_if_eq C hf (tgt := 34) dX11_quit_10 (by decide) (fun hf => ?_) (fun hf => ?_)
  · refine lv_iconst (v := 0) C.1.1 C.1.2.1 dX11_quit_34 (by decide) ?_
    have he := Option.some.inj hf
    subst he
    exact ns_zret C w hr hlk rfl (Or.inl rfl) rfl dX11_quit_35
  · refine lv_aload_n C.1.1 C.1.2.1 dX11_quit_13 rfl (lv_at hl 0 rfl) ?_
    refine lv_iload_n C.1.1 C.1.2.1 dX11_quit_14 rfl (lv_at hl 2 rfl) ?_
    refine ns_callV C w 62 (hI 62 (by decide)) sh_62 (rfl : vwCl[11]? = some (RX11, TX11, 59)) [.int p2] hf (fun u hu => mX11_isCourse_62 l D b ids hI N _ p2 hu) gX11_quit_X11_isCourse rfl rfl rfl hdX11_isCourse ⟨Nat.le_of_ble_eq_true rfl, Nat.le_of_ble_eq_true rfl⟩ (fun u h => h) rfl hl.1 rfl (Nat.le_of_ble_eq_true rfl) ⟨Nat.le_refl _, Nat.le_refl _⟩ dX11_quit_15 (fun o2 H locs hf w => ?_)
    refine ns_if_eq C hf (tgt := 34) dX11_quit_18 (by decide) (fun hf => ?_) (fun hf => ?_)
    · refine lv_iconst (v := 0) C.1.1 C.1.2.1 dX11_quit_34 (by decide) ?_
      have he := Option.some.inj hf
      subst he
      exact ns_zret C w hr hlk rfl (Or.inl rfl) rfl dX11_quit_35
    · refine lv_aload_n C.1.1 C.1.2.1 dX11_quit_21 rfl (lv_at hl 0 rfl) ?_
      refine ns_getr C w 62 (hI 62 (by decide)) sh_62 (rfl : vwCl[11]? = some (RX11, TX11, 59)) inX11_quit_11 23 (by decide) rfl lX11_quit_75 dX11_quit_22 ?_
      refine lv_iload_n C.1.1 C.1.2.1 dX11_quit_25 rfl (lv_at hl 1 rfl) ?_
      refine ns_iald C w 84 (hI 84 (by decide)) sh_84 hf rfl dX11_quit_26 (fun x3 hf => ?_)
      refine lv_iload_n C.1.1 C.1.2.1 dX11_quit_27 rfl (lv_at hl 2 rfl) ?_
      refine lv_ishr C.1.1 C.1.2.1 dX11_quit_28 ?_
      refine lv_iconst (v := 1) C.1.1 C.1.2.1 dX11_quit_29 (by decide) ?_
      refine lv_iand C.1.1 C.1.2.1 dX11_quit_30 ?_
      refine ns_if_ne C hf (tgt := 36) dX11_quit_31 (by decide) (fun hf => ?_) (fun hf => ?_)
      · refine lv_aload_n C.1.1 C.1.2.1 dX11_quit_36 rfl (lv_at hl 0 rfl) ?_
        refine ns_getr C w 62 (hI 62 (by decide)) sh_62 (rfl : vwCl[11]? = some (RX11, TX11, 59)) inX11_quit_11 23 (by decide) rfl lX11_quit_75 dX11_quit_37 ?_
        refine lv_iload_n C.1.1 C.1.2.1 dX11_quit_40 rfl (lv_at hl 1 rfl) ?_
        refine lv_dup2_11 C.1.1 C.1.2.1 dX11_quit_41 rfl rfl ?_
        refine ns_iald C w 84 (hI 84 (by decide)) sh_84 hf rfl dX11_quit_42 (fun x4 hf => ?_)
        refine lv_iconst (v := 1) C.1.1 C.1.2.1 dX11_quit_43 (by decide) ?_
        refine lv_iload_n C.1.1 C.1.2.1 dX11_quit_44 rfl (lv_at hl 2 rfl) ?_
        refine lv_ishl C.1.1 C.1.2.1 dX11_quit_45 ?_
        refine lv_iconst (v := (-1)) C.1.1 C.1.2.1 dX11_quit_46 (by decide) ?_
        refine lv_ixor C.1.1 C.1.2.1 dX11_quit_47 ?_
        refine lv_iand C.1.1 C.1.2.1 dX11_quit_48 ?_
        refine ns_iast C w 84 (hI 84 (by decide)) sh_84 hf rfl (List.mem_of_getElem? (i := 1) rfl) dX11_quit_49 (fun y5 H locs hf w => ?_)
        refine lv_aload_n C.1.1 C.1.2.1 dX11_quit_50 rfl (lv_at hl 0 rfl) ?_
        refine lv_iload_n C.1.1 C.1.2.1 dX11_quit_51 rfl (lv_at hl 1 rfl) ?_
        refine lv_iload_n C.1.1 C.1.2.1 dX11_quit_52 rfl (lv_at hl 2 rfl) ?_
        refine ns_callV C w 62 (hI 62 (by decide)) sh_62 (rfl : vwCl[11]? = some (RX11, TX11, 59)) [.int p1, .int p2] hf (fun u hu => mX11_rank_62 l D b ids hI N _ p1 p2 hu) gX11_quit_X11_rank rfl rfl rfl hdX11_rank ⟨Nat.le_of_ble_eq_true rfl, Nat.le_of_ble_eq_true rfl⟩ (fun u h => h) rfl hl.1 rfl (Nat.le_of_ble_eq_true rfl) ⟨Nat.le_refl _, Nat.le_refl _⟩ dX11_quit_53 (fun o6 H locs hf w => ?_)
        refine lv_istore_n (lv' := [(3, .int o6), (0, .ref (b 62)), (1, .int p1), (2, .int p2)]) C.1.1 C.1.2.1 dX11_quit_56 rfl hl (by decide) rfl (fun ls hl => ?_)
        exact wX11_quit_62_57 N hI C hr hlk N w (lv_sub hl [1, 2, 0] rfl) hf
      · refine lv_iconst (v := 0) C.1.1 C.1.2.1 dX11_quit_34 (by decide) ?_
        have he := Option.some.inj hf
        subst he
        exact ns_zret C w hr hlk rfl (Or.inl rfl) rfl dX11_quit_35
theorem lX10_tell_30 : Cond.fieldLink RX10 30 (TX10 4).1 (TX10 4).2.1 (TX10 4).2.2.1 ∈ wsX10_tell := List.mem_of_getElem? (i := 1) rfl
theorem lX10_tell_76 : Cond.fieldLink RX10 76 (TX6 4).1 (TX6 4).2.1 (TX6 4).2.2.1 ∈ wsX10_tell := List.mem_of_getElem? (i := 12) rfl
theorem lX10_tell_97 : Cond.fieldLink RX10 97 (TX6 1).1 (TX6 1).2.1 (TX6 1).2.2.1 ∈ wsX10_tell := List.mem_of_getElem? (i := 2) rfl
theorem lX10_tell_104 : Cond.fieldLink RX10 104 (TX0 1).1 (TX0 1).2.1 (TX0 1).2.2.1 ∈ wsX10_tell := List.mem_of_getElem? (i := 3) rfl
theorem lX10_tell_107 : Cond.fieldLink RX10 107 (TX0 2).1 (TX0 2).2.1 (TX0 2).2.2.1 ∈ wsX10_tell := List.mem_of_getElem? (i := 4) rfl
theorem lX10_tell_110 : Cond.fieldLink RX10 110 (TX0 3).1 (TX0 3).2.1 (TX0 3).2.2.1 ∈ wsX10_tell := List.mem_of_getElem? (i := 5) rfl
theorem lX10_tell_113 : Cond.fieldLink RX10 113 (TX0 4).1 (TX0 4).2.1 (TX0 4).2.2.1 ∈ wsX10_tell := List.mem_of_getElem? (i := 6) rfl
theorem lX10_tell_116 : Cond.fieldLink RX10 116 (TX0 5).1 (TX0 5).2.1 (TX0 5).2.2.1 ∈ wsX10_tell := List.mem_of_getElem? (i := 7) rfl
theorem lX10_tell_165 : Cond.fieldLink RX10 165 (TX6 3).1 (TX6 3).2.1 (TX6 3).2.2.1 ∈ wsX10_tell := List.mem_of_getElem? (i := 8) rfl
theorem lX10_tell_203 : Cond.fieldLink RX10 203 (TX7 1).1 (TX7 1).2.1 (TX7 1).2.2.1 ∈ wsX10_tell := List.mem_of_getElem? (i := 9) rfl
theorem lX10_tell_206 : Cond.fieldLink RX10 206 (TX7 2).1 (TX7 2).2.1 (TX7 2).2.2.1 ∈ wsX10_tell := List.mem_of_getElem? (i := 10) rfl
theorem lX10_tell_209 : Cond.fieldLink RX10 209 (TX7 3).1 (TX7 3).2.1 (TX7 3).2.2.1 ∈ wsX10_tell := List.mem_of_getElem? (i := 11) rfl
theorem lX10_tell_212 : Cond.fieldLink RX10 212 (TX8 3).1 (TX8 3).2.1 (TX8 3).2.2.1 ∈ wsX10_tell := List.mem_of_getElem? (i := 13) rfl
theorem inX10_tell_0 : ∀ w ∈ u_ws RX0 TX0 6, w ∈ wsX10_tell := fun _ h => List.mem_cons_of_mem _ (List.mem_append_left _ (List.mem_append_left _ (List.mem_append_right _ h)))
theorem inX10_tell_6 : ∀ w ∈ u_ws RX6 TX6 6, w ∈ wsX10_tell := fun _ h => List.mem_cons_of_mem _ (List.mem_append_left _ (List.mem_append_left _ (List.mem_append_left _ (List.mem_append_right _ h))))
theorem inX10_tell_7 : ∀ w ∈ u_ws RX7 TX7 5, w ∈ wsX10_tell := fun _ h => List.mem_cons_of_mem _ (List.mem_append_left _ (List.mem_append_right _ h))
theorem inX10_tell_8 : ∀ w ∈ u_ws RX8 TX8 6, w ∈ wsX10_tell := fun _ h => List.mem_cons_of_mem _ (List.mem_append_right _ h)
theorem inX10_tell_10 : ∀ w ∈ u_ws RX10 TX10 6, w ∈ wsX10_tell := fun _ h => List.mem_cons_of_mem _ (List.mem_append_left _ (List.mem_append_left _ (List.mem_append_left _ (List.mem_append_left _ (List.mem_append_right _ h)))))
theorem hdX10_tell : yX10_tell.cls = RX10 ∧ yX10_tell.cls ≠ "java/lang/invoke/MethodHandle" ∧ yX10_tell.cls ≠ "java/lang/invoke/VarHandle" ∧ (parseMethodDescriptor yX10_tell.desc).map (fun d => d.parameters.length) = some 2 := by decide +kernel
abbrev wrX10_tell_0 : List (Nat × Nat) := []
abbrev rmX10_tell_0 : Room := { frames := 2, cells := 0, slots := 0, locals := 43 }
set_option maxHeartbeats 4000000 in
set_option maxRecDepth 100000 in
theorem mX10_tell_0 (l : Launch) (D : va_G) (b : Nat → Nat) (ids : List Nat) (hI : ∀ i, i < 107 → i ∈ ids) (N : Nat) (S : ns_S) (p1 : Int32) (p2 : Int32) {o : Int32} (hf : fX10_tell N (S.1 1984) (S.2.1 32) (S.2.1 33) (S.2.1 34) (S.2.1 35) (S.2.1 36) (S.1 2752) (S.2.1 44) (S.2.1 45) (S.2.1 46) (S.2.1 50) p1 p2 = some o) : ns_M l yX10_tell wsX10_tell rmX10_tell_0 D b ids S [.ref (b 0), .int p1, .int p2] (some (.int o)) S := by
  refine ns_start (Wr := wrX10_tell_0) (by decide) rfl (Nat.le_of_ble_eq_true rfl) ?_
  intro p e s m below meth c A ls C hr hlk w hl
  have hl : lv_has ls 3 [(0, .ref (b 0)), (1, .int p1), (2, .int p2)] := hl
  unfold fX10_tell at hf
  refine lv_aload_n C.1.1 C.1.2.1 dX10_tell_0 rfl (lv_at hl 0 rfl) ?_
  refine lv_iload_n C.1.1 C.1.2.1 dX10_tell_1 rfl (lv_at hl 1 rfl) ?_
  refine ns_callV C w 0 (hI 0 (by decide)) sh_0 (rfl : vwCl[10]? = some (RX10, TX10, 6)) [.int p1] hf (fun u hu => mX10_isCourse_0 l D b ids hI N _ p1 hu) gX10_tell_X10_isCourse rfl rfl rfl hdX10_isCourse ⟨Nat.le_of_ble_eq_true rfl, Nat.le_of_ble_eq_true rfl⟩ (fun u h => h) rfl hl.1 rfl (Nat.le_of_ble_eq_true rfl) ⟨Nat.le_refl _, Nat.le_refl _⟩ dX10_tell_2 (fun o1 H locs hf w => ?_)
  refine ns_if_ne C hf (tgt := 10) dX10_tell_5 (by decide) (fun hf => ?_) (fun hf => ?_)
  · refine lv_iload_n C.1.1 C.1.2.1 dX10_tell_10 rfl (lv_at hl 2 rfl) ?_
    by_cases h_0 : p2 = 0
    · rw [if_pos h_0] at hf
      refine lv_tableIn (tgt := 64) C.1.1 C.1.2.1 dX10_tell_11 (by rw [h_0]; decide) (by rw [h_0]; decide) (by rw [h_0]; rfl) (by decide) ?_
      refine lv_aload_n C.1.1 C.1.2.1 dX10_tell_64 rfl (lv_at hl 0 rfl) ?_
      refine ns_getr C w 0 (hI 0 (by decide)) sh_0 (rfl : vwCl[10]? = some (RX10, TX10, 6)) inX10_tell_10 4 (by decide) rfl lX10_tell_30 dX10_tell_65 ?_
      refine ns_getr C w 28 (hI 28 (by decide)) sh_28 (rfl : vwCl[6]? = some (RX6, TX6, 6)) inX10_tell_6 1 (by decide) rfl lX10_tell_97 dX10_tell_68 ?_
      refine ns_getr C w 31 (hI 31 (by decide)) sh_31 (rfl : vwCl[0]? = some (RX0, TX0, 6)) inX10_tell_0 1 (by decide) rfl lX10_tell_104 dX10_tell_71 ?_
      refine lv_iload_n C.1.1 C.1.2.1 dX10_tell_74 rfl (lv_at hl 1 rfl) ?_
      refine ns_iald C w 32 (hI 32 (by decide)) sh_32 hf rfl dX10_tell_75 (fun x2 hf => ?_)
      have he := Option.some.inj hf
      subst he
      exact ns_iret C w hr hlk rfl rfl dX10_tell_76
    rw [if_neg h_0] at hf
    by_cases h_1 : p2 = 1
    · rw [if_pos h_1] at hf
      refine lv_tableIn (tgt := 77) C.1.1 C.1.2.1 dX10_tell_11 (by rw [h_1]; decide) (by rw [h_1]; decide) (by rw [h_1]; rfl) (by decide) ?_
      refine lv_aload_n C.1.1 C.1.2.1 dX10_tell_77 rfl (lv_at hl 0 rfl) ?_
      refine ns_getr C w 0 (hI 0 (by decide)) sh_0 (rfl : vwCl[10]? = some (RX10, TX10, 6)) inX10_tell_10 4 (by decide) rfl lX10_tell_30 dX10_tell_78 ?_
      refine ns_getr C w 28 (hI 28 (by decide)) sh_28 (rfl : vwCl[6]? = some (RX6, TX6, 6)) inX10_tell_6 1 (by decide) rfl lX10_tell_97 dX10_tell_81 ?_
      refine ns_getr C w 31 (hI 31 (by decide)) sh_31 (rfl : vwCl[0]? = some (RX0, TX0, 6)) inX10_tell_0 2 (by decide) rfl lX10_tell_107 dX10_tell_84 ?_
      refine lv_iload_n C.1.1 C.1.2.1 dX10_tell_87 rfl (lv_at hl 1 rfl) ?_
      refine ns_iald C w 33 (hI 33 (by decide)) sh_33 hf rfl dX10_tell_88 (fun x3 hf => ?_)
      have he := Option.some.inj hf
      subst he
      exact ns_iret C w hr hlk rfl rfl dX10_tell_89
    rw [if_neg h_1] at hf
    by_cases h_2 : p2 = 2
    · rw [if_pos h_2] at hf
      refine lv_tableIn (tgt := 90) C.1.1 C.1.2.1 dX10_tell_11 (by rw [h_2]; decide) (by rw [h_2]; decide) (by rw [h_2]; rfl) (by decide) ?_
      refine lv_aload_n C.1.1 C.1.2.1 dX10_tell_90 rfl (lv_at hl 0 rfl) ?_
      refine ns_getr C w 0 (hI 0 (by decide)) sh_0 (rfl : vwCl[10]? = some (RX10, TX10, 6)) inX10_tell_10 4 (by decide) rfl lX10_tell_30 dX10_tell_91 ?_
      refine ns_getr C w 28 (hI 28 (by decide)) sh_28 (rfl : vwCl[6]? = some (RX6, TX6, 6)) inX10_tell_6 1 (by decide) rfl lX10_tell_97 dX10_tell_94 ?_
      refine ns_getr C w 31 (hI 31 (by decide)) sh_31 (rfl : vwCl[0]? = some (RX0, TX0, 6)) inX10_tell_0 3 (by decide) rfl lX10_tell_110 dX10_tell_97 ?_
      refine lv_iload_n C.1.1 C.1.2.1 dX10_tell_100 rfl (lv_at hl 1 rfl) ?_
      refine ns_iald C w 34 (hI 34 (by decide)) sh_34 hf rfl dX10_tell_101 (fun x4 hf => ?_)
      have he := Option.some.inj hf
      subst he
      exact ns_iret C w hr hlk rfl rfl dX10_tell_102
    rw [if_neg h_2] at hf
    by_cases h_3 : p2 = 3
    · rw [if_pos h_3] at hf
      refine lv_tableIn (tgt := 103) C.1.1 C.1.2.1 dX10_tell_11 (by rw [h_3]; decide) (by rw [h_3]; decide) (by rw [h_3]; rfl) (by decide) ?_
      refine lv_aload_n C.1.1 C.1.2.1 dX10_tell_103 rfl (lv_at hl 0 rfl) ?_
      refine ns_getr C w 0 (hI 0 (by decide)) sh_0 (rfl : vwCl[10]? = some (RX10, TX10, 6)) inX10_tell_10 4 (by decide) rfl lX10_tell_30 dX10_tell_104 ?_
      refine ns_getr C w 28 (hI 28 (by decide)) sh_28 (rfl : vwCl[6]? = some (RX6, TX6, 6)) inX10_tell_6 1 (by decide) rfl lX10_tell_97 dX10_tell_107 ?_
      refine ns_getr C w 31 (hI 31 (by decide)) sh_31 (rfl : vwCl[0]? = some (RX0, TX0, 6)) inX10_tell_0 4 (by decide) rfl lX10_tell_113 dX10_tell_110 ?_
      refine lv_iload_n C.1.1 C.1.2.1 dX10_tell_113 rfl (lv_at hl 1 rfl) ?_
      refine ns_iald C w 35 (hI 35 (by decide)) sh_35 hf rfl dX10_tell_114 (fun x5 hf => ?_)
      have he := Option.some.inj hf
      subst he
      exact ns_iret C w hr hlk rfl rfl dX10_tell_115
    rw [if_neg h_3] at hf
    by_cases h_4 : p2 = 4
    · rw [if_pos h_4] at hf
      refine lv_tableIn (tgt := 116) C.1.1 C.1.2.1 dX10_tell_11 (by rw [h_4]; decide) (by rw [h_4]; decide) (by rw [h_4]; rfl) (by decide) ?_
      refine lv_aload_n C.1.1 C.1.2.1 dX10_tell_116 rfl (lv_at hl 0 rfl) ?_
      refine ns_getr C w 0 (hI 0 (by decide)) sh_0 (rfl : vwCl[10]? = some (RX10, TX10, 6)) inX10_tell_10 4 (by decide) rfl lX10_tell_30 dX10_tell_117 ?_
      refine ns_getr C w 28 (hI 28 (by decide)) sh_28 (rfl : vwCl[6]? = some (RX6, TX6, 6)) inX10_tell_6 1 (by decide) rfl lX10_tell_97 dX10_tell_120 ?_
      refine ns_getr C w 31 (hI 31 (by decide)) sh_31 (rfl : vwCl[0]? = some (RX0, TX0, 6)) inX10_tell_0 5 (by decide) rfl lX10_tell_116 dX10_tell_123 ?_
      refine lv_iload_n C.1.1 C.1.2.1 dX10_tell_126 rfl (lv_at hl 1 rfl) ?_
      refine ns_iald C w 36 (hI 36 (by decide)) sh_36 hf rfl dX10_tell_127 (fun x6 hf => ?_)
      have he := Option.some.inj hf
      subst he
      exact ns_iret C w hr hlk rfl rfl dX10_tell_128
    rw [if_neg h_4] at hf
    by_cases h_5 : p2 = 5
    · rw [if_pos h_5] at hf
      refine lv_tableIn (tgt := 129) C.1.1 C.1.2.1 dX10_tell_11 (by rw [h_5]; decide) (by rw [h_5]; decide) (by rw [h_5]; rfl) (by decide) ?_
      refine lv_aload_n C.1.1 C.1.2.1 dX10_tell_129 rfl (lv_at hl 0 rfl) ?_
      refine ns_getr C w 0 (hI 0 (by decide)) sh_0 (rfl : vwCl[10]? = some (RX10, TX10, 6)) inX10_tell_10 4 (by decide) rfl lX10_tell_30 dX10_tell_130 ?_
      refine ns_getr C w 28 (hI 28 (by decide)) sh_28 (rfl : vwCl[6]? = some (RX6, TX6, 6)) inX10_tell_6 3 (by decide) rfl lX10_tell_165 dX10_tell_133 ?_
      refine lv_iload_n C.1.1 C.1.2.1 dX10_tell_136 rfl (lv_at hl 1 rfl) ?_
      refine ns_callV C w 43 (hI 43 (by decide)) sh_43 (rfl : vwCl[7]? = some (RX7, TX7, 5)) [.int p1] hf (fun u hu => mX7_isHeld_43 l D b ids hI N _ p1 hu) gX10_tell_X7_isHeld rfl rfl rfl hdX7_isHeld ⟨Nat.le_of_ble_eq_true rfl, Nat.le_of_ble_eq_true rfl⟩ (fun u h => h) rfl hl.1 rfl (Nat.le_of_ble_eq_true rfl) ⟨Nat.le_refl _, Nat.le_refl _⟩ dX10_tell_137 (fun o7 H locs hf w => ?_)
      refine ns_if_eq C hf (tgt := 147) dX10_tell_140 (by decide) (fun hf => ?_) (fun hf => ?_)
      · refine lv_iconst (v := 0) C.1.1 C.1.2.1 dX10_tell_147 (by decide) ?_
        have he := Option.some.inj hf
        subst he
        exact ns_iret C w hr hlk rfl rfl dX10_tell_148
      · refine lv_iconst (v := 1) C.1.1 C.1.2.1 dX10_tell_143 (by decide) ?_
        refine lv_goto (tgt := 148) C.1.1 C.1.2.1 dX10_tell_144 (by decide) ?_
        have he := Option.some.inj hf
        subst he
        exact ns_iret C w hr hlk rfl rfl dX10_tell_148
    rw [if_neg h_5] at hf
    by_cases h_6 : p2 = 6
    · rw [if_pos h_6] at hf
      refine lv_tableIn (tgt := 149) C.1.1 C.1.2.1 dX10_tell_11 (by rw [h_6]; decide) (by rw [h_6]; decide) (by rw [h_6]; rfl) (by decide) ?_
      refine lv_aload_n C.1.1 C.1.2.1 dX10_tell_149 rfl (lv_at hl 0 rfl) ?_
      refine ns_getr C w 0 (hI 0 (by decide)) sh_0 (rfl : vwCl[10]? = some (RX10, TX10, 6)) inX10_tell_10 4 (by decide) rfl lX10_tell_30 dX10_tell_150 ?_
      refine ns_getr C w 28 (hI 28 (by decide)) sh_28 (rfl : vwCl[6]? = some (RX6, TX6, 6)) inX10_tell_6 3 (by decide) rfl lX10_tell_165 dX10_tell_153 ?_
      refine ns_getr C w 43 (hI 43 (by decide)) sh_43 (rfl : vwCl[7]? = some (RX7, TX7, 5)) inX10_tell_7 1 (by decide) rfl lX10_tell_203 dX10_tell_156 ?_
      refine lv_iload_n C.1.1 C.1.2.1 dX10_tell_159 rfl (lv_at hl 1 rfl) ?_
      refine ns_iald C w 44 (hI 44 (by decide)) sh_44 hf rfl dX10_tell_160 (fun x8 hf => ?_)
      have he := Option.some.inj hf
      subst he
      exact ns_iret C w hr hlk rfl rfl dX10_tell_161
    rw [if_neg h_6] at hf
    by_cases h_7 : p2 = 7
    · rw [if_pos h_7] at hf
      refine lv_tableIn (tgt := 162) C.1.1 C.1.2.1 dX10_tell_11 (by rw [h_7]; decide) (by rw [h_7]; decide) (by rw [h_7]; rfl) (by decide) ?_
      refine lv_aload_n C.1.1 C.1.2.1 dX10_tell_162 rfl (lv_at hl 0 rfl) ?_
      refine ns_getr C w 0 (hI 0 (by decide)) sh_0 (rfl : vwCl[10]? = some (RX10, TX10, 6)) inX10_tell_10 4 (by decide) rfl lX10_tell_30 dX10_tell_163 ?_
      refine ns_getr C w 28 (hI 28 (by decide)) sh_28 (rfl : vwCl[6]? = some (RX6, TX6, 6)) inX10_tell_6 3 (by decide) rfl lX10_tell_165 dX10_tell_166 ?_
      refine ns_getr C w 43 (hI 43 (by decide)) sh_43 (rfl : vwCl[7]? = some (RX7, TX7, 5)) inX10_tell_7 2 (by decide) rfl lX10_tell_206 dX10_tell_169 ?_
      refine lv_iload_n C.1.1 C.1.2.1 dX10_tell_172 rfl (lv_at hl 1 rfl) ?_
      refine ns_iald C w 45 (hI 45 (by decide)) sh_45 hf rfl dX10_tell_173 (fun x9 hf => ?_)
      have he := Option.some.inj hf
      subst he
      exact ns_iret C w hr hlk rfl rfl dX10_tell_174
    rw [if_neg h_7] at hf
    by_cases h_8 : p2 = 8
    · rw [if_pos h_8] at hf
      refine lv_tableIn (tgt := 175) C.1.1 C.1.2.1 dX10_tell_11 (by rw [h_8]; decide) (by rw [h_8]; decide) (by rw [h_8]; rfl) (by decide) ?_
      refine lv_aload_n C.1.1 C.1.2.1 dX10_tell_175 rfl (lv_at hl 0 rfl) ?_
      refine ns_getr C w 0 (hI 0 (by decide)) sh_0 (rfl : vwCl[10]? = some (RX10, TX10, 6)) inX10_tell_10 4 (by decide) rfl lX10_tell_30 dX10_tell_176 ?_
      refine ns_getr C w 28 (hI 28 (by decide)) sh_28 (rfl : vwCl[6]? = some (RX6, TX6, 6)) inX10_tell_6 3 (by decide) rfl lX10_tell_165 dX10_tell_179 ?_
      refine ns_getr C w 43 (hI 43 (by decide)) sh_43 (rfl : vwCl[7]? = some (RX7, TX7, 5)) inX10_tell_7 3 (by decide) rfl lX10_tell_209 dX10_tell_182 ?_
      refine lv_iload_n C.1.1 C.1.2.1 dX10_tell_185 rfl (lv_at hl 1 rfl) ?_
      refine ns_iald C w 46 (hI 46 (by decide)) sh_46 hf rfl dX10_tell_186 (fun x10 hf => ?_)
      have he := Option.some.inj hf
      subst he
      exact ns_iret C w hr hlk rfl rfl dX10_tell_187
    rw [if_neg h_8] at hf
    by_cases h_9 : p2 = 9
    · rw [if_pos h_9] at hf
      refine lv_tableIn (tgt := 188) C.1.1 C.1.2.1 dX10_tell_11 (by rw [h_9]; decide) (by rw [h_9]; decide) (by rw [h_9]; rfl) (by decide) ?_
      refine lv_aload_n C.1.1 C.1.2.1 dX10_tell_188 rfl (lv_at hl 0 rfl) ?_
      refine ns_getr C w 0 (hI 0 (by decide)) sh_0 (rfl : vwCl[10]? = some (RX10, TX10, 6)) inX10_tell_10 4 (by decide) rfl lX10_tell_30 dX10_tell_189 ?_
      refine ns_getr C w 28 (hI 28 (by decide)) sh_28 (rfl : vwCl[6]? = some (RX6, TX6, 6)) inX10_tell_6 4 (by decide) rfl lX10_tell_76 dX10_tell_192 ?_
      refine ns_getr C w 48 (hI 48 (by decide)) sh_48 (rfl : vwCl[8]? = some (RX8, TX8, 6)) inX10_tell_8 3 (by decide) rfl lX10_tell_212 dX10_tell_195 ?_
      refine lv_iload_n C.1.1 C.1.2.1 dX10_tell_198 rfl (lv_at hl 1 rfl) ?_
      refine ns_iald C w 50 (hI 50 (by decide)) sh_50 hf rfl dX10_tell_199 (fun x11 hf => ?_)
      have he := Option.some.inj hf
      subst he
      exact ns_iret C w hr hlk rfl rfl dX10_tell_200
    rw [if_neg h_9] at hf
    refine lv_tableOut (tgt := 201) C.1.1 C.1.2.1 dX10_tell_11 (ns_out (by decide) (by decide) (fun k h1 h2 => ?_)) (by decide) ?_
    · rcases (by omega : k = 0 ∨ k = 1 ∨ k = 2 ∨ k = 3 ∨ k = 4 ∨ k = 5 ∨ k = 6 ∨ k = 7 ∨ k = 8 ∨ k = 9) with rfl | rfl | rfl | rfl | rfl | rfl | rfl | rfl | rfl | rfl
      · exact h_0
      · exact h_1
      · exact h_2
      · exact h_3
      · exact h_4
      · exact h_5
      · exact h_6
      · exact h_7
      · exact h_8
      · exact h_9
    · refine lv_iconst (v := (-1)) C.1.1 C.1.2.1 dX10_tell_201 (by decide) ?_
      have he := Option.some.inj hf
      subst he
      exact ns_iret C w hr hlk rfl rfl dX10_tell_202
  · refine lv_iconst (v := (-1)) C.1.1 C.1.2.1 dX10_tell_8 (by decide) ?_
    have he := Option.some.inj hf
    subst he
    exact ns_iret C w hr hlk rfl rfl dX10_tell_9
theorem lX11_tell_27 : Cond.fieldLink RX11 27 (TX11 7).1 (TX11 7).2.1 (TX11 7).2.2.1 ∈ wsX11_tell := List.mem_of_getElem? (i := 2) rfl
theorem lX11_tell_30 : Cond.fieldLink RX11 30 (TX11 8).1 (TX11 8).2.1 (TX11 8).2.2.1 ∈ wsX11_tell := List.mem_of_getElem? (i := 3) rfl
theorem lX11_tell_33 : Cond.fieldLink RX11 33 (TX11 9).1 (TX11 9).2.1 (TX11 9).2.2.1 ∈ wsX11_tell := List.mem_of_getElem? (i := 4) rfl
theorem lX11_tell_36 : Cond.fieldLink RX11 36 (TX11 10).1 (TX11 10).2.1 (TX11 10).2.2.1 ∈ wsX11_tell := List.mem_of_getElem? (i := 5) rfl
theorem lX11_tell_39 : Cond.fieldLink RX11 39 (TX11 11).1 (TX11 11).2.1 (TX11 11).2.2.1 ∈ wsX11_tell := List.mem_of_getElem? (i := 6) rfl
theorem lX11_tell_63 : Cond.fieldLink RX11 63 (TX11 19).1 (TX11 19).2.1 (TX11 19).2.2.1 ∈ wsX11_tell := List.mem_of_getElem? (i := 7) rfl
theorem lX11_tell_66 : Cond.fieldLink RX11 66 (TX11 20).1 (TX11 20).2.1 (TX11 20).2.2.1 ∈ wsX11_tell := List.mem_of_getElem? (i := 8) rfl
theorem lX11_tell_69 : Cond.fieldLink RX11 69 (TX11 21).1 (TX11 21).2.1 (TX11 21).2.2.1 ∈ wsX11_tell := List.mem_of_getElem? (i := 9) rfl
theorem lX11_tell_72 : Cond.fieldLink RX11 72 (TX11 22).1 (TX11 22).2.1 (TX11 22).2.2.1 ∈ wsX11_tell := List.mem_of_getElem? (i := 10) rfl
theorem lX11_tell_179 : Cond.fieldLink RX11 179 (TX11 0).1 (TX11 0).2.1 (TX11 0).2.2.1 ∈ wsX11_tell := List.mem_of_getElem? (i := 1) rfl
theorem inX11_tell_11 : ∀ w ∈ u_ws RX11 TX11 59, w ∈ wsX11_tell := fun _ h => List.mem_cons_of_mem _ (List.mem_append_right _ h)
theorem hdX11_tell : yX11_tell.cls = RX11 ∧ yX11_tell.cls ≠ "java/lang/invoke/MethodHandle" ∧ yX11_tell.cls ≠ "java/lang/invoke/VarHandle" ∧ (parseMethodDescriptor yX11_tell.desc).map (fun d => d.parameters.length) = some 2 := by decide +kernel
abbrev wrX11_tell_62 : List (Nat × Nat) := [(0, 3968)]
abbrev rmX11_tell_62 : Room := { frames := 2, cells := 0, slots := 0, locals := 43 }
set_option maxHeartbeats 4000000 in
set_option maxRecDepth 100000 in
theorem mX11_tell_62 (l : Launch) (D : va_G) (b : Nat → Nat) (ids : List Nat) (hI : ∀ i, i < 107 → i ∈ ids) (N : Nat) (S : ns_S) (p1 : Int32) (p2 : Int32) {o : Int32 × Int32} (hf : fX11_tell N (S.1 3968) (S.2.1 67) (S.2.1 68) (S.2.1 69) (S.2.1 70) (S.2.1 71) (S.2.1 72) (S.2.1 80) (S.2.1 81) (S.2.1 82) (S.2.1 73) (S.2.1 84) (S.2.1 83) p1 p2 = some o) : ns_M l yX11_tell wsX11_tell rmX11_tell_62 D b ids S [.ref (b 62), .int p1, .int p2] (some (.int o.1)) (ns_I S 3968 o.2) := by
  refine ns_start (Wr := wrX11_tell_62) (by decide) rfl (Nat.le_of_ble_eq_true rfl) ?_
  intro p e s m below meth c A ls C hr hlk w hl
  have hl : lv_has ls 3 [(0, .ref (b 62)), (1, .int p1), (2, .int p2)] := hl
  unfold fX11_tell at hf
  refine lv_aload_n C.1.1 C.1.2.1 dX11_tell_0 rfl (lv_at hl 0 rfl) ?_
  refine lv_iconst (v := 0) C.1.1 C.1.2.1 dX11_tell_1 (by decide) ?_
  refine ns_puti C w 62 (hI 62 (by decide)) sh_62 (rfl : vwCl[11]? = some (RX11, TX11, 59)) inX11_tell_11 tyX11_ok nmX11 0 (by decide) rfl lX11_tell_179 rfl rfl rfl (List.mem_of_getElem? (i := 0) rfl) dX11_tell_2 (fun H locs w => ?_)
  refine lv_aload_n C.1.1 C.1.2.1 dX11_tell_5 rfl (lv_at hl 0 rfl) ?_
  refine lv_iload_n C.1.1 C.1.2.1 dX11_tell_6 rfl (lv_at hl 1 rfl) ?_
  refine ns_callV C w 62 (hI 62 (by decide)) sh_62 (rfl : vwCl[11]? = some (RX11, TX11, 59)) [.int p1] hf (fun u hu => mX11_isCourse_62 l D b ids hI N _ p1 hu) gX11_tell_X11_isCourse rfl rfl rfl hdX11_isCourse ⟨Nat.le_of_ble_eq_true rfl, Nat.le_of_ble_eq_true rfl⟩ (fun u h => h) rfl hl.1 rfl (Nat.le_of_ble_eq_true rfl) ⟨Nat.le_refl _, Nat.le_refl _⟩ dX11_tell_7 (fun o1 H locs hf w => ?_)
  refine ns_if_ne C hf (tgt := 15) dX11_tell_10 (by decide) (fun hf => ?_) (fun hf => ?_)
  · refine lv_iload_n C.1.1 C.1.2.1 dX11_tell_15 rfl (lv_at hl 2 rfl) ?_
    by_cases h_0 : p2 = 0
    · rw [if_pos h_0] at hf
      refine lv_tableIn (tgt := 72) C.1.1 C.1.2.1 dX11_tell_16 (by rw [h_0]; decide) (by rw [h_0]; decide) (by rw [h_0]; rfl) (by decide) ?_
      refine lv_aload_n C.1.1 C.1.2.1 dX11_tell_72 rfl (lv_at hl 0 rfl) ?_
      refine ns_getr C w 62 (hI 62 (by decide)) sh_62 (rfl : vwCl[11]? = some (RX11, TX11, 59)) inX11_tell_11 7 (by decide) rfl lX11_tell_27 dX11_tell_73 ?_
      refine lv_iload_n C.1.1 C.1.2.1 dX11_tell_76 rfl (lv_at hl 1 rfl) ?_
      refine ns_iald C w 68 (hI 68 (by decide)) sh_68 hf rfl dX11_tell_77 (fun x2 hf => ?_)
      have he := Option.some.inj hf
      subst he
      exact ns_iret C w hr hlk rfl rfl dX11_tell_78
    rw [if_neg h_0] at hf
    by_cases h_1 : p2 = 1
    · rw [if_pos h_1] at hf
      refine lv_tableIn (tgt := 79) C.1.1 C.1.2.1 dX11_tell_16 (by rw [h_1]; decide) (by rw [h_1]; decide) (by rw [h_1]; rfl) (by decide) ?_
      refine lv_aload_n C.1.1 C.1.2.1 dX11_tell_79 rfl (lv_at hl 0 rfl) ?_
      refine ns_getr C w 62 (hI 62 (by decide)) sh_62 (rfl : vwCl[11]? = some (RX11, TX11, 59)) inX11_tell_11 8 (by decide) rfl lX11_tell_30 dX11_tell_80 ?_
      refine lv_iload_n C.1.1 C.1.2.1 dX11_tell_83 rfl (lv_at hl 1 rfl) ?_
      refine ns_iald C w 69 (hI 69 (by decide)) sh_69 hf rfl dX11_tell_84 (fun x3 hf => ?_)
      have he := Option.some.inj hf
      subst he
      exact ns_iret C w hr hlk rfl rfl dX11_tell_85
    rw [if_neg h_1] at hf
    by_cases h_2 : p2 = 2
    · rw [if_pos h_2] at hf
      refine lv_tableIn (tgt := 86) C.1.1 C.1.2.1 dX11_tell_16 (by rw [h_2]; decide) (by rw [h_2]; decide) (by rw [h_2]; rfl) (by decide) ?_
      refine lv_aload_n C.1.1 C.1.2.1 dX11_tell_86 rfl (lv_at hl 0 rfl) ?_
      refine ns_getr C w 62 (hI 62 (by decide)) sh_62 (rfl : vwCl[11]? = some (RX11, TX11, 59)) inX11_tell_11 9 (by decide) rfl lX11_tell_33 dX11_tell_87 ?_
      refine lv_iload_n C.1.1 C.1.2.1 dX11_tell_90 rfl (lv_at hl 1 rfl) ?_
      refine ns_iald C w 70 (hI 70 (by decide)) sh_70 hf rfl dX11_tell_91 (fun x4 hf => ?_)
      have he := Option.some.inj hf
      subst he
      exact ns_iret C w hr hlk rfl rfl dX11_tell_92
    rw [if_neg h_2] at hf
    by_cases h_3 : p2 = 3
    · rw [if_pos h_3] at hf
      refine lv_tableIn (tgt := 93) C.1.1 C.1.2.1 dX11_tell_16 (by rw [h_3]; decide) (by rw [h_3]; decide) (by rw [h_3]; rfl) (by decide) ?_
      refine lv_aload_n C.1.1 C.1.2.1 dX11_tell_93 rfl (lv_at hl 0 rfl) ?_
      refine ns_getr C w 62 (hI 62 (by decide)) sh_62 (rfl : vwCl[11]? = some (RX11, TX11, 59)) inX11_tell_11 10 (by decide) rfl lX11_tell_36 dX11_tell_94 ?_
      refine lv_iload_n C.1.1 C.1.2.1 dX11_tell_97 rfl (lv_at hl 1 rfl) ?_
      refine ns_iald C w 71 (hI 71 (by decide)) sh_71 hf rfl dX11_tell_98 (fun x5 hf => ?_)
      have he := Option.some.inj hf
      subst he
      exact ns_iret C w hr hlk rfl rfl dX11_tell_99
    rw [if_neg h_3] at hf
    by_cases h_4 : p2 = 4
    · rw [if_pos h_4] at hf
      refine lv_tableIn (tgt := 100) C.1.1 C.1.2.1 dX11_tell_16 (by rw [h_4]; decide) (by rw [h_4]; decide) (by rw [h_4]; rfl) (by decide) ?_
      refine lv_aload_n C.1.1 C.1.2.1 dX11_tell_100 rfl (lv_at hl 0 rfl) ?_
      refine ns_getr C w 62 (hI 62 (by decide)) sh_62 (rfl : vwCl[11]? = some (RX11, TX11, 59)) inX11_tell_11 11 (by decide) rfl lX11_tell_39 dX11_tell_101 ?_
      refine lv_iload_n C.1.1 C.1.2.1 dX11_tell_104 rfl (lv_at hl 1 rfl) ?_
      refine ns_iald C w 72 (hI 72 (by decide)) sh_72 hf rfl dX11_tell_105 (fun x6 hf => ?_)
      have he := Option.some.inj hf
      subst he
      exact ns_iret C w hr hlk rfl rfl dX11_tell_106
    rw [if_neg h_4] at hf
    by_cases h_5 : p2 = 5
    · rw [if_pos h_5] at hf
      refine lv_tableIn (tgt := 107) C.1.1 C.1.2.1 dX11_tell_16 (by rw [h_5]; decide) (by rw [h_5]; decide) (by rw [h_5]; rfl) (by decide) ?_
      refine lv_aload_n C.1.1 C.1.2.1 dX11_tell_107 rfl (lv_at hl 0 rfl) ?_
      refine ns_getr C w 62 (hI 62 (by decide)) sh_62 (rfl : vwCl[11]? = some (RX11, TX11, 59)) inX11_tell_11 19 (by decide) rfl lX11_tell_63 dX11_tell_108 ?_
      refine lv_iconst (v := 0) C.1.1 C.1.2.1 dX11_tell_111 (by decide) ?_
      refine ns_iald C w 80 (hI 80 (by decide)) sh_80 hf rfl dX11_tell_112 (fun x7 hf => ?_)
      refine lv_iload_n C.1.1 C.1.2.1 dX11_tell_113 rfl (lv_at hl 1 rfl) ?_
      refine lv_ishr C.1.1 C.1.2.1 dX11_tell_114 ?_
      refine lv_iconst (v := 1) C.1.1 C.1.2.1 dX11_tell_115 (by decide) ?_
      refine lv_iand C.1.1 C.1.2.1 dX11_tell_116 ?_
      have he := Option.some.inj hf
      subst he
      exact ns_iret C w hr hlk rfl rfl dX11_tell_117
    rw [if_neg h_5] at hf
    by_cases h_6 : p2 = 6
    · rw [if_pos h_6] at hf
      refine lv_tableIn (tgt := 118) C.1.1 C.1.2.1 dX11_tell_16 (by rw [h_6]; decide) (by rw [h_6]; decide) (by rw [h_6]; rfl) (by decide) ?_
      refine lv_aload_n C.1.1 C.1.2.1 dX11_tell_118 rfl (lv_at hl 0 rfl) ?_
      refine ns_getr C w 62 (hI 62 (by decide)) sh_62 (rfl : vwCl[11]? = some (RX11, TX11, 59)) inX11_tell_11 20 (by decide) rfl lX11_tell_66 dX11_tell_119 ?_
      refine lv_iload_n C.1.1 C.1.2.1 dX11_tell_122 rfl (lv_at hl 1 rfl) ?_
      refine ns_iald C w 81 (hI 81 (by decide)) sh_81 hf rfl dX11_tell_123 (fun x8 hf => ?_)
      have he := Option.some.inj hf
      subst he
      exact ns_iret C w hr hlk rfl rfl dX11_tell_124
    rw [if_neg h_6] at hf
    by_cases h_7 : p2 = 7
    · rw [if_pos h_7] at hf
      refine lv_tableIn (tgt := 125) C.1.1 C.1.2.1 dX11_tell_16 (by rw [h_7]; decide) (by rw [h_7]; decide) (by rw [h_7]; rfl) (by decide) ?_
      refine lv_aload_n C.1.1 C.1.2.1 dX11_tell_125 rfl (lv_at hl 0 rfl) ?_
      refine ns_getr C w 62 (hI 62 (by decide)) sh_62 (rfl : vwCl[11]? = some (RX11, TX11, 59)) inX11_tell_11 21 (by decide) rfl lX11_tell_69 dX11_tell_126 ?_
      refine lv_iload_n C.1.1 C.1.2.1 dX11_tell_129 rfl (lv_at hl 1 rfl) ?_
      refine ns_iald C w 82 (hI 82 (by decide)) sh_82 hf rfl dX11_tell_130 (fun x9 hf => ?_)
      have he := Option.some.inj hf
      subst he
      exact ns_iret C w hr hlk rfl rfl dX11_tell_131
    rw [if_neg h_7] at hf
    by_cases h_8 : p2 = 8
    · rw [if_pos h_8] at hf
      refine lv_tableIn (tgt := 132) C.1.1 C.1.2.1 dX11_tell_16 (by rw [h_8]; decide) (by rw [h_8]; decide) (by rw [h_8]; rfl) (by decide) ?_
      refine lv_aload_n C.1.1 C.1.2.1 dX11_tell_132 rfl (lv_at hl 0 rfl) ?_
      refine lv_iload_n C.1.1 C.1.2.1 dX11_tell_133 rfl (lv_at hl 1 rfl) ?_
      refine ns_callV C w 62 (hI 62 (by decide)) sh_62 (rfl : vwCl[11]? = some (RX11, TX11, 59)) [.int p1] hf (fun u hu => mX11_hasNow_62 l D b ids hI N _ p1 hu) gX11_tell_X11_hasNow rfl rfl rfl hdX11_hasNow ⟨Nat.le_of_ble_eq_true rfl, Nat.le_of_ble_eq_true rfl⟩ (fun u h => h) rfl hl.1 rfl (Nat.le_of_ble_eq_true rfl) ⟨Nat.le_refl _, Nat.le_refl _⟩ dX11_tell_134 (fun o10 H locs hf w => ?_)
      have he := Option.some.inj hf
      subst he
      exact ns_iret C w hr hlk rfl rfl dX11_tell_137
    rw [if_neg h_8] at hf
    by_cases h_9 : p2 = 9
    · rw [if_pos h_9] at hf
      refine lv_tableIn (tgt := 138) C.1.1 C.1.2.1 dX11_tell_16 (by rw [h_9]; decide) (by rw [h_9]; decide) (by rw [h_9]; rfl) (by decide) ?_
      refine lv_aload_n C.1.1 C.1.2.1 dX11_tell_138 rfl (lv_at hl 0 rfl) ?_
      refine ns_getr C w 62 (hI 62 (by decide)) sh_62 (rfl : vwCl[11]? = some (RX11, TX11, 59)) inX11_tell_11 22 (by decide) rfl lX11_tell_72 dX11_tell_139 ?_
      refine lv_iload_n C.1.1 C.1.2.1 dX11_tell_142 rfl (lv_at hl 1 rfl) ?_
      refine ns_iald C w 83 (hI 83 (by decide)) sh_83 hf rfl dX11_tell_143 (fun x11 hf => ?_)
      have he := Option.some.inj hf
      subst he
      exact ns_iret C w hr hlk rfl rfl dX11_tell_144
    rw [if_neg h_9] at hf
    refine lv_tableOut (tgt := 145) C.1.1 C.1.2.1 dX11_tell_16 (ns_out (by decide) (by decide) (fun k h1 h2 => ?_)) (by decide) ?_
    · rcases (by omega : k = 0 ∨ k = 1 ∨ k = 2 ∨ k = 3 ∨ k = 4 ∨ k = 5 ∨ k = 6 ∨ k = 7 ∨ k = 8 ∨ k = 9) with rfl | rfl | rfl | rfl | rfl | rfl | rfl | rfl | rfl | rfl
      · exact h_0
      · exact h_1
      · exact h_2
      · exact h_3
      · exact h_4
      · exact h_5
      · exact h_6
      · exact h_7
      · exact h_8
      · exact h_9
    · refine lv_iconst (v := (-1)) C.1.1 C.1.2.1 dX11_tell_145 (by decide) ?_
      have he := Option.some.inj hf
      subst he
      exact ns_iret C w hr hlk rfl rfl dX11_tell_146
  · refine lv_iconst (v := (-1)) C.1.1 C.1.2.1 dX11_tell_13 (by decide) ?_
    have he := Option.some.inj hf
    subst he
    exact ns_iret C w hr hlk rfl rfl dX11_tell_14
theorem lX6_pointsOf_28 : Cond.fieldLink RX6 28 (TX6 2).1 (TX6 2).2.1 (TX6 2).2.2.1 ∈ wsX6_pointsOf := List.mem_of_getElem? (i := 1) rfl
theorem lX6_pointsOf_35 : Cond.fieldLink RX6 35 (TX6 3).1 (TX6 3).2.1 (TX6 3).2.2.1 ∈ wsX6_pointsOf := List.mem_of_getElem? (i := 3) rfl
theorem lX6_pointsOf_107 : Cond.fieldLink RX6 107 (TX4 4).1 (TX4 4).2.1 (TX4 4).2.2.1 ∈ wsX6_pointsOf := List.mem_of_getElem? (i := 2) rfl
theorem inX6_pointsOf_4 : ∀ w ∈ u_ws RX4 TX4 6, w ∈ wsX6_pointsOf := fun _ h => List.mem_cons_of_mem _ (List.mem_append_left _ (List.mem_append_right _ h))
theorem inX6_pointsOf_6 : ∀ w ∈ u_ws RX6 TX6 6, w ∈ wsX6_pointsOf := fun _ h => List.mem_cons_of_mem _ (List.mem_append_left _ (List.mem_append_left _ (List.mem_append_right _ h)))
theorem hdX6_pointsOf : yX6_pointsOf.cls = RX6 ∧ yX6_pointsOf.cls ≠ "java/lang/invoke/MethodHandle" ∧ yX6_pointsOf.cls ≠ "java/lang/invoke/VarHandle" ∧ (parseMethodDescriptor yX6_pointsOf.desc).map (fun d => d.parameters.length) = some 1 := by decide +kernel
abbrev wrX6_pointsOf_28 : List (Nat × Nat) := []
abbrev rmX6_pointsOf_28 : Room := { frames := 1, cells := 0, slots := 0, locals := 22 }
set_option maxHeartbeats 4000000 in
set_option maxRecDepth 100000 in
theorem wX6_pointsOf_28_4 {p : Program} {l : Launch} {e : Env} {s : State} {m : MethodId} {args : Array Value} {below : List Frame} {meth : Method} {c : Code} {D : va_G} {b : Nat → Nat} {ids : List Nat} {A : Nat → Prop} {S0 : ns_S} {o : Int32} (N : Nat) (hI : ∀ i, i < 107 → i ∈ ids) (C : ns_C p m c cX6_pointsOf 4 s args wsX6_pointsOf RX6 D A) (hr : meth.sig.returnType = some .int) (hlk : meth.locks = false) : ∀ n : Nat, ∀ {S : ns_S} {H : Heap} {locs : List Loc} {ls : Array Slot} {l1 : Int32} {l2 : Int32} {l3 : Int32}, ns_W D b ids A s.heap wrX6_pointsOf_28 S0 S H locs → lv_has ls 4 [(0, .ref (b 28)), (1, .int l1), (2, .int l2), (3, .int l3)] → fX6_pointsOf_4 N n (S.2.1 41) (S.2.1 42) (S.2.1 47) l1 l2 l3 = some o → W p l e rmX6_pointsOf_28 s m args below meth c H locs 0 0 (MQ below (ns_Q D b ids S0 (some (.int o)) A) args s 0 0 A) (F0 m 4 ls []) := by
  intro n
  induction n with
  | zero =>
    intro S H locs ls l1 l2 l3 w hl hf
    cases hf
  | succ n K4 =>
    intro S H locs ls l1 l2 l3 w hl hf
    change gX6_pointsOf_4 N (fX6_pointsOf_4 N n) (S.2.1 41) (S.2.1 42) (S.2.1 47) l1 l2 l3 = some o at hf
    generalize fX6_pointsOf_4 N n = r4 at hf K4
    unfold gX6_pointsOf_4 at hf
    refine lv_iload_n C.1.1 C.1.2.1 dX6_pointsOf_4 rfl (lv_at hl 3 rfl) ?_
    refine lv_aload_n C.1.1 C.1.2.1 dX6_pointsOf_5 rfl (lv_at hl 0 rfl) ?_
    refine ns_getr C w 28 (hI 28 (by decide)) sh_28 (rfl : vwCl[6]? = some (RX6, TX6, 6)) inX6_pointsOf_6 2 (by decide) rfl lX6_pointsOf_28 dX6_pointsOf_6 ?_
    refine ns_getr C w 37 (hI 37 (by decide)) sh_37 (rfl : vwCl[4]? = some (RX4, TX4, 6)) inX6_pointsOf_4 4 (by decide) rfl lX6_pointsOf_107 dX6_pointsOf_9 ?_
    refine lv_iload_n C.1.1 C.1.2.1 dX6_pointsOf_12 rfl (lv_at hl 1 rfl) ?_
    refine ns_iald C w 41 (hI 41 (by decide)) sh_41 hf rfl dX6_pointsOf_13 (fun x1 hf => ?_)
    refine ns_icmp_ge C hf (tgt := 50) dX6_pointsOf_14 (by decide) (fun hf => ?_) (fun hf => ?_)
    · refine lv_iload_n C.1.1 C.1.2.1 dX6_pointsOf_50 rfl (lv_at hl 2 rfl) ?_
      have he := Option.some.inj hf
      subst he
      exact ns_iret C w hr hlk rfl rfl dX6_pointsOf_51
    · refine lv_aload_n C.1.1 C.1.2.1 dX6_pointsOf_17 rfl (lv_at hl 0 rfl) ?_
      refine ns_getr C w 28 (hI 28 (by decide)) sh_28 (rfl : vwCl[6]? = some (RX6, TX6, 6)) inX6_pointsOf_6 3 (by decide) rfl lX6_pointsOf_35 dX6_pointsOf_18 ?_
      refine lv_iload_n C.1.1 C.1.2.1 dX6_pointsOf_21 rfl (lv_at hl 1 rfl) ?_
      refine lv_aload_n C.1.1 C.1.2.1 dX6_pointsOf_22 rfl (lv_at hl 0 rfl) ?_
      refine ns_getr C w 28 (hI 28 (by decide)) sh_28 (rfl : vwCl[6]? = some (RX6, TX6, 6)) inX6_pointsOf_6 2 (by decide) rfl lX6_pointsOf_28 dX6_pointsOf_23 ?_
      refine lv_iload_n C.1.1 C.1.2.1 dX6_pointsOf_26 rfl (lv_at hl 1 rfl) ?_
      refine lv_iload_n C.1.1 C.1.2.1 dX6_pointsOf_27 rfl (lv_at hl 3 rfl) ?_
      refine ns_callV C w 37 (hI 37 (by decide)) sh_37 (rfl : vwCl[4]? = some (RX4, TX4, 6)) [.int l1, .int l3] hf (fun u hu => mX4_courseOfRank_37 l D b ids hI N _ l1 l3 hu) gX6_pointsOf_X4_courseOfRank rfl rfl rfl hdX4_courseOfRank ⟨Nat.le_of_ble_eq_true rfl, Nat.le_of_ble_eq_true rfl⟩ (fun u h => h) rfl hl.1 rfl (Nat.le_of_ble_eq_true rfl) ⟨Nat.le_refl _, Nat.le_refl _⟩ dX6_pointsOf_28 (fun o2 H locs hf w => ?_)
      refine ns_callV C w 43 (hI 43 (by decide)) sh_43 (rfl : vwCl[7]? = some (RX7, TX7, 5)) [.int l1, .int o2] hf (fun u hu => mX7_hasCourse_43 l D b ids hI N _ l1 o2 hu) gX6_pointsOf_X7_hasCourse rfl rfl rfl hdX7_hasCourse ⟨Nat.le_of_ble_eq_true rfl, Nat.le_of_ble_eq_true rfl⟩ (fun u h => h) rfl hl.1 rfl (Nat.le_of_ble_eq_true rfl) ⟨Nat.le_refl _, Nat.le_refl _⟩ dX6_pointsOf_31 (fun o3 H locs hf w => ?_)
      refine ns_if_eq C hf (tgt := 44) dX6_pointsOf_34 (by decide) (fun hf => ?_) (fun hf => ?_)
      · refine ns_iinc (lv' := fun x4 => [(3, .int x4), (0, .ref (b 28)), (1, .int l1), (2, .int l2)]) C hf dX6_pointsOf_44 hl (k := 3) rfl rfl (by decide) (fun _ => rfl) (fun x4 ls hl hf => ?_)
        refine lv_goto (tgt := 4) C.1.1 C.1.2.1 dX6_pointsOf_47 (by decide) ?_
        exact K4 w (lv_sub hl [1, 2, 3, 0] rfl) hf
      · refine lv_iload_n C.1.1 C.1.2.1 dX6_pointsOf_37 rfl (lv_at hl 2 rfl) ?_
        refine lv_bipush (v := 6) C.1.1 C.1.2.1 dX6_pointsOf_38 (by decide) ?_
        refine lv_iload_n C.1.1 C.1.2.1 dX6_pointsOf_40 rfl (lv_at hl 3 rfl) ?_
        refine lv_isub C.1.1 C.1.2.1 dX6_pointsOf_41 ?_
        refine lv_iadd C.1.1 C.1.2.1 dX6_pointsOf_42 ?_
        refine ns_namei hf (fun x5 hf => ?_)
        refine lv_istore_n (lv' := [(2, .int x5), (0, .ref (b 28)), (1, .int l1), (3, .int l3)]) C.1.1 C.1.2.1 dX6_pointsOf_43 rfl hl (by decide) rfl (fun ls hl => ?_)
        refine ns_iinc (lv' := fun x6 => [(3, .int x6), (2, .int x5), (0, .ref (b 28)), (1, .int l1)]) C hf dX6_pointsOf_44 hl (k := 3) rfl rfl (by decide) (fun _ => rfl) (fun x6 ls hl hf => ?_)
        refine lv_goto (tgt := 4) C.1.1 C.1.2.1 dX6_pointsOf_47 (by decide) ?_
        exact K4 w (lv_sub hl [2, 3, 1, 0] rfl) hf
set_option maxHeartbeats 4000000 in
set_option maxRecDepth 100000 in
theorem mX6_pointsOf_28 (l : Launch) (D : va_G) (b : Nat → Nat) (ids : List Nat) (hI : ∀ i, i < 107 → i ∈ ids) (N : Nat) (S : ns_S) (p1 : Int32) {o : Int32} (hf : fX6_pointsOf N (S.2.1 41) (S.2.1 42) (S.2.1 47) p1 = some o) : ns_M l yX6_pointsOf wsX6_pointsOf rmX6_pointsOf_28 D b ids S [.ref (b 28), .int p1] (some (.int o)) S := by
  refine ns_start (Wr := wrX6_pointsOf_28) (by decide) rfl (Nat.le_of_ble_eq_true rfl) ?_
  intro p e s m below meth c A ls C hr hlk w hl
  have hl : lv_has ls 4 [(0, .ref (b 28)), (1, .int p1)] := hl
  unfold fX6_pointsOf at hf
  refine lv_iconst (v := 0) C.1.1 C.1.2.1 dX6_pointsOf_0 (by decide) ?_
  refine lv_istore_n (lv' := [(2, .int 0), (0, .ref (b 28)), (1, .int p1)]) C.1.1 C.1.2.1 dX6_pointsOf_1 rfl hl (by decide) rfl (fun ls hl => ?_)
  refine lv_iconst (v := 0) C.1.1 C.1.2.1 dX6_pointsOf_2 (by decide) ?_
  refine lv_istore_n (lv' := [(3, .int 0), (2, .int 0), (0, .ref (b 28)), (1, .int p1)]) C.1.1 C.1.2.1 dX6_pointsOf_3 rfl hl (by decide) rfl (fun ls hl => ?_)
  exact wX6_pointsOf_28_4 N hI C hr hlk N w (lv_sub hl [2, 3, 1, 0] rfl) hf
theorem lX10_person_30 : Cond.fieldLink RX10 30 (TX10 4).1 (TX10 4).2.1 (TX10 4).2.2.1 ∈ wsX10_person := List.mem_of_getElem? (i := 1) rfl
theorem lX10_person_76 : Cond.fieldLink RX10 76 (TX6 4).1 (TX6 4).2.1 (TX6 4).2.2.1 ∈ wsX10_person := List.mem_of_getElem? (i := 9) rfl
theorem lX10_person_119 : Cond.fieldLink RX10 119 (TX6 2).1 (TX6 2).2.1 (TX6 2).2.2.1 ∈ wsX10_person := List.mem_of_getElem? (i := 2) rfl
theorem lX10_person_126 : Cond.fieldLink RX10 126 (TX4 1).1 (TX4 1).2.1 (TX4 1).2.2.1 ∈ wsX10_person := List.mem_of_getElem? (i := 4) rfl
theorem lX10_person_129 : Cond.fieldLink RX10 129 (TX4 2).1 (TX4 2).2.1 (TX4 2).2.2.1 ∈ wsX10_person := List.mem_of_getElem? (i := 5) rfl
theorem lX10_person_132 : Cond.fieldLink RX10 132 (TX4 3).1 (TX4 3).2.1 (TX4 3).2.2.1 ∈ wsX10_person := List.mem_of_getElem? (i := 6) rfl
theorem lX10_person_142 : Cond.fieldLink RX10 142 (TX4 4).1 (TX4 4).2.1 (TX4 4).2.2.1 ∈ wsX10_person := List.mem_of_getElem? (i := 3) rfl
theorem lX10_person_165 : Cond.fieldLink RX10 165 (TX6 3).1 (TX6 3).2.1 (TX6 3).2.2.1 ∈ wsX10_person := List.mem_of_getElem? (i := 7) rfl
theorem lX10_person_221 : Cond.fieldLink RX10 221 (TX7 4).1 (TX7 4).2.1 (TX7 4).2.2.1 ∈ wsX10_person := List.mem_of_getElem? (i := 8) rfl
theorem lX10_person_228 : Cond.fieldLink RX10 228 (TX8 2).1 (TX8 2).2.1 (TX8 2).2.2.1 ∈ wsX10_person := List.mem_of_getElem? (i := 10) rfl
theorem inX10_person_4 : ∀ w ∈ u_ws RX4 TX4 6, w ∈ wsX10_person := fun _ h => List.mem_cons_of_mem _ (List.mem_append_left _ (List.mem_append_left _ (List.mem_append_left _ (List.mem_append_right _ h))))
theorem inX10_person_6 : ∀ w ∈ u_ws RX6 TX6 6, w ∈ wsX10_person := fun _ h => List.mem_cons_of_mem _ (List.mem_append_left _ (List.mem_append_left _ (List.mem_append_left _ (List.mem_append_left _ (List.mem_append_right _ h)))))
theorem inX10_person_7 : ∀ w ∈ u_ws RX7 TX7 5, w ∈ wsX10_person := fun _ h => List.mem_cons_of_mem _ (List.mem_append_left _ (List.mem_append_left _ (List.mem_append_right _ h)))
theorem inX10_person_8 : ∀ w ∈ u_ws RX8 TX8 6, w ∈ wsX10_person := fun _ h => List.mem_cons_of_mem _ (List.mem_append_left _ (List.mem_append_right _ h))
theorem inX10_person_10 : ∀ w ∈ u_ws RX10 TX10 6, w ∈ wsX10_person := fun _ h => List.mem_cons_of_mem _ (List.mem_append_left _ (List.mem_append_left _ (List.mem_append_left _ (List.mem_append_left _ (List.mem_append_left _ (List.mem_append_right _ h))))))
theorem hdX10_person : yX10_person.cls = RX10 ∧ yX10_person.cls ≠ "java/lang/invoke/MethodHandle" ∧ yX10_person.cls ≠ "java/lang/invoke/VarHandle" ∧ (parseMethodDescriptor yX10_person.desc).map (fun d => d.parameters.length) = some 2 := by decide +kernel
abbrev wrX10_person_0 : List (Nat × Nat) := []
abbrev rmX10_person_0 : Room := { frames := 2, cells := 0, slots := 0, locals := 45 }
set_option maxHeartbeats 4000000 in
set_option maxRecDepth 100000 in
theorem wX10_person_0_76 {p : Program} {l : Launch} {e : Env} {s : State} {m : MethodId} {args : Array Value} {below : List Frame} {meth : Method} {c : Code} {D : va_G} {b : Nat → Nat} {ids : List Nat} {A : Nat → Prop} {S0 : ns_S} {o : Int32} (N : Nat) (hI : ∀ i, i < 107 → i ∈ ids) (C : ns_C p m c cX10_person 3 s args wsX10_person RX10 D A) (hr : meth.sig.returnType = some .int) (hlk : meth.locks = false) : ∀ {S : ns_S} {H : Heap} {locs : List Loc} {ls : Array Slot} {l1 : Int32} {l2 : Int32}, ns_W D b ids A s.heap wrX10_person_0 S0 S H locs → lv_has ls 3 [(0, .ref (b 0)), (1, .int l1), (2, .int l2)] → gX10_person_76 N (S.1 2368) (S.1 1984) (S.2.1 32) (S.2.1 47) (S.2.1 41) (S.2.1 42) (S.2.1 38) (S.2.1 39) (S.2.1 40) (S.2.1 49) l1 l2 = some o → W p l e rmX10_person_0 s m args below meth c H locs 0 0 (MQ below (ns_Q D b ids S0 (some (.int o)) A) args s 0 0 A) (F0 m 76 ls []) := by
  intro S H locs ls l1 l2 w hl hf
  unfold gX10_person_76 at hf
  refine lv_iload_n C.1.1 C.1.2.1 dX10_person_76 rfl (lv_at hl 2 rfl) ?_
  by_cases h_0 : l2 = 0
  · rw [if_pos h_0] at hf
    refine lv_tableIn (tgt := 120) C.1.1 C.1.2.1 dX10_person_77 (by rw [h_0]; decide) (by rw [h_0]; decide) (by rw [h_0]; rfl) (by decide) ?_
    refine lv_aload_n C.1.1 C.1.2.1 dX10_person_120 rfl (lv_at hl 0 rfl) ?_
    refine ns_getr C w 0 (hI 0 (by decide)) sh_0 (rfl : vwCl[10]? = some (RX10, TX10, 6)) inX10_person_10 4 (by decide) rfl lX10_person_30 dX10_person_121 ?_
    refine ns_getr C w 28 (hI 28 (by decide)) sh_28 (rfl : vwCl[6]? = some (RX6, TX6, 6)) inX10_person_6 2 (by decide) rfl lX10_person_119 dX10_person_124 ?_
    refine ns_getr C w 37 (hI 37 (by decide)) sh_37 (rfl : vwCl[4]? = some (RX4, TX4, 6)) inX10_person_4 1 (by decide) rfl lX10_person_126 dX10_person_127 ?_
    refine lv_iload_n C.1.1 C.1.2.1 dX10_person_130 rfl (lv_at hl 1 rfl) ?_
    refine ns_iald C w 38 (hI 38 (by decide)) sh_38 hf rfl dX10_person_131 (fun x1 hf => ?_)
    have he := Option.some.inj hf
    subst he
    exact ns_iret C w hr hlk rfl rfl dX10_person_132
  rw [if_neg h_0] at hf
  by_cases h_1 : l2 = 1
  · rw [if_pos h_1] at hf
    refine lv_tableIn (tgt := 133) C.1.1 C.1.2.1 dX10_person_77 (by rw [h_1]; decide) (by rw [h_1]; decide) (by rw [h_1]; rfl) (by decide) ?_
    refine lv_aload_n C.1.1 C.1.2.1 dX10_person_133 rfl (lv_at hl 0 rfl) ?_
    refine ns_getr C w 0 (hI 0 (by decide)) sh_0 (rfl : vwCl[10]? = some (RX10, TX10, 6)) inX10_person_10 4 (by decide) rfl lX10_person_30 dX10_person_134 ?_
    refine ns_getr C w 28 (hI 28 (by decide)) sh_28 (rfl : vwCl[6]? = some (RX6, TX6, 6)) inX10_person_6 2 (by decide) rfl lX10_person_119 dX10_person_137 ?_
    refine ns_getr C w 37 (hI 37 (by decide)) sh_37 (rfl : vwCl[4]? = some (RX4, TX4, 6)) inX10_person_4 2 (by decide) rfl lX10_person_129 dX10_person_140 ?_
    refine lv_iload_n C.1.1 C.1.2.1 dX10_person_143 rfl (lv_at hl 1 rfl) ?_
    refine ns_iald C w 39 (hI 39 (by decide)) sh_39 hf rfl dX10_person_144 (fun x2 hf => ?_)
    have he := Option.some.inj hf
    subst he
    exact ns_iret C w hr hlk rfl rfl dX10_person_145
  rw [if_neg h_1] at hf
  by_cases h_2 : l2 = 2
  · rw [if_pos h_2] at hf
    refine lv_tableIn (tgt := 146) C.1.1 C.1.2.1 dX10_person_77 (by rw [h_2]; decide) (by rw [h_2]; decide) (by rw [h_2]; rfl) (by decide) ?_
    refine lv_aload_n C.1.1 C.1.2.1 dX10_person_146 rfl (lv_at hl 0 rfl) ?_
    refine ns_getr C w 0 (hI 0 (by decide)) sh_0 (rfl : vwCl[10]? = some (RX10, TX10, 6)) inX10_person_10 4 (by decide) rfl lX10_person_30 dX10_person_147 ?_
    refine ns_getr C w 28 (hI 28 (by decide)) sh_28 (rfl : vwCl[6]? = some (RX6, TX6, 6)) inX10_person_6 2 (by decide) rfl lX10_person_119 dX10_person_150 ?_
    refine ns_getr C w 37 (hI 37 (by decide)) sh_37 (rfl : vwCl[4]? = some (RX4, TX4, 6)) inX10_person_4 3 (by decide) rfl lX10_person_132 dX10_person_153 ?_
    refine lv_iload_n C.1.1 C.1.2.1 dX10_person_156 rfl (lv_at hl 1 rfl) ?_
    refine ns_iald C w 40 (hI 40 (by decide)) sh_40 hf rfl dX10_person_157 (fun x3 hf => ?_)
    have he := Option.some.inj hf
    subst he
    exact ns_iret C w hr hlk rfl rfl dX10_person_158
  rw [if_neg h_2] at hf
  by_cases h_3 : l2 = 3
  · rw [if_pos h_3] at hf
    refine lv_tableIn (tgt := 159) C.1.1 C.1.2.1 dX10_person_77 (by rw [h_3]; decide) (by rw [h_3]; decide) (by rw [h_3]; rfl) (by decide) ?_
    refine lv_aload_n C.1.1 C.1.2.1 dX10_person_159 rfl (lv_at hl 0 rfl) ?_
    refine ns_getr C w 0 (hI 0 (by decide)) sh_0 (rfl : vwCl[10]? = some (RX10, TX10, 6)) inX10_person_10 4 (by decide) rfl lX10_person_30 dX10_person_160 ?_
    refine ns_getr C w 28 (hI 28 (by decide)) sh_28 (rfl : vwCl[6]? = some (RX6, TX6, 6)) inX10_person_6 3 (by decide) rfl lX10_person_165 dX10_person_163 ?_
    refine ns_getr C w 43 (hI 43 (by decide)) sh_43 (rfl : vwCl[7]? = some (RX7, TX7, 5)) inX10_person_7 4 (by decide) rfl lX10_person_221 dX10_person_166 ?_
    refine lv_iload_n C.1.1 C.1.2.1 dX10_person_169 rfl (lv_at hl 1 rfl) ?_
    refine ns_iald C w 47 (hI 47 (by decide)) sh_47 hf rfl dX10_person_170 (fun x4 hf => ?_)
    have he := Option.some.inj hf
    subst he
    exact ns_iret C w hr hlk rfl rfl dX10_person_171
  rw [if_neg h_3] at hf
  by_cases h_4 : l2 = 4
  · rw [if_pos h_4] at hf
    refine lv_tableIn (tgt := 172) C.1.1 C.1.2.1 dX10_person_77 (by rw [h_4]; decide) (by rw [h_4]; decide) (by rw [h_4]; rfl) (by decide) ?_
    refine lv_aload_n C.1.1 C.1.2.1 dX10_person_172 rfl (lv_at hl 0 rfl) ?_
    refine ns_getr C w 0 (hI 0 (by decide)) sh_0 (rfl : vwCl[10]? = some (RX10, TX10, 6)) inX10_person_10 4 (by decide) rfl lX10_person_30 dX10_person_173 ?_
    refine ns_getr C w 28 (hI 28 (by decide)) sh_28 (rfl : vwCl[6]? = some (RX6, TX6, 6)) inX10_person_6 2 (by decide) rfl lX10_person_119 dX10_person_176 ?_
    refine ns_getr C w 37 (hI 37 (by decide)) sh_37 (rfl : vwCl[4]? = some (RX4, TX4, 6)) inX10_person_4 4 (by decide) rfl lX10_person_142 dX10_person_179 ?_
    refine lv_iload_n C.1.1 C.1.2.1 dX10_person_182 rfl (lv_at hl 1 rfl) ?_
    refine ns_iald C w 41 (hI 41 (by decide)) sh_41 hf rfl dX10_person_183 (fun x5 hf => ?_)
    have he := Option.some.inj hf
    subst he
    exact ns_iret C w hr hlk rfl rfl dX10_person_184
  rw [if_neg h_4] at hf
  by_cases h_5 : l2 = 5
  · rw [if_pos h_5] at hf
    refine lv_tableIn (tgt := 185) C.1.1 C.1.2.1 dX10_person_77 (by rw [h_5]; decide) (by rw [h_5]; decide) (by rw [h_5]; rfl) (by decide) ?_
    refine lv_aload_n C.1.1 C.1.2.1 dX10_person_185 rfl (lv_at hl 0 rfl) ?_
    refine ns_getr C w 0 (hI 0 (by decide)) sh_0 (rfl : vwCl[10]? = some (RX10, TX10, 6)) inX10_person_10 4 (by decide) rfl lX10_person_30 dX10_person_186 ?_
    refine lv_iload_n C.1.1 C.1.2.1 dX10_person_189 rfl (lv_at hl 1 rfl) ?_
    refine ns_callV C w 28 (hI 28 (by decide)) sh_28 (rfl : vwCl[6]? = some (RX6, TX6, 6)) [.int l1] hf (fun u hu => mX6_pointsOf_28 l D b ids hI N _ l1 hu) gX10_person_X6_pointsOf rfl rfl rfl hdX6_pointsOf ⟨Nat.le_of_ble_eq_true rfl, Nat.le_of_ble_eq_true rfl⟩ (fun u h => h) rfl hl.1 rfl (Nat.le_of_ble_eq_true rfl) ⟨Nat.le_refl _, Nat.le_refl _⟩ dX10_person_190 (fun o6 H locs hf w => ?_)
    have he := Option.some.inj hf
    subst he
    exact ns_iret C w hr hlk rfl rfl dX10_person_193
  rw [if_neg h_5] at hf
  by_cases h_6 : l2 = 6
  · rw [if_pos h_6] at hf
    refine lv_tableIn (tgt := 194) C.1.1 C.1.2.1 dX10_person_77 (by rw [h_6]; decide) (by rw [h_6]; decide) (by rw [h_6]; rfl) (by decide) ?_
    refine lv_aload_n C.1.1 C.1.2.1 dX10_person_194 rfl (lv_at hl 0 rfl) ?_
    refine ns_getr C w 0 (hI 0 (by decide)) sh_0 (rfl : vwCl[10]? = some (RX10, TX10, 6)) inX10_person_10 4 (by decide) rfl lX10_person_30 dX10_person_195 ?_
    refine ns_getr C w 28 (hI 28 (by decide)) sh_28 (rfl : vwCl[6]? = some (RX6, TX6, 6)) inX10_person_6 4 (by decide) rfl lX10_person_76 dX10_person_198 ?_
    refine ns_getr C w 48 (hI 48 (by decide)) sh_48 (rfl : vwCl[8]? = some (RX8, TX8, 6)) inX10_person_8 2 (by decide) rfl lX10_person_228 dX10_person_201 ?_
    refine lv_iload_n C.1.1 C.1.2.1 dX10_person_204 rfl (lv_at hl 1 rfl) ?_
    refine ns_iald C w 49 (hI 49 (by decide)) sh_49 hf rfl dX10_person_205 (fun x7 hf => ?_)
    have he := Option.some.inj hf
    subst he
    exact ns_iret C w hr hlk rfl rfl dX10_person_206
  rw [if_neg h_6] at hf
  refine lv_tableOut (tgt := 207) C.1.1 C.1.2.1 dX10_person_77 (ns_out (by decide) (by decide) (fun k h1 h2 => ?_)) (by decide) ?_
  · rcases (by omega : k = 0 ∨ k = 1 ∨ k = 2 ∨ k = 3 ∨ k = 4 ∨ k = 5 ∨ k = 6) with rfl | rfl | rfl | rfl | rfl | rfl | rfl
    · exact h_0
    · exact h_1
    · exact h_2
    · exact h_3
    · exact h_4
    · exact h_5
    · exact h_6
  · refine lv_iconst (v := (-1)) C.1.1 C.1.2.1 dX10_person_207 (by decide) ?_
    have he := Option.some.inj hf
    subst he
    exact ns_iret C w hr hlk rfl rfl dX10_person_208
set_option maxHeartbeats 4000000 in
set_option maxRecDepth 100000 in
theorem wX10_person_0_35 {p : Program} {l : Launch} {e : Env} {s : State} {m : MethodId} {args : Array Value} {below : List Frame} {meth : Method} {c : Code} {D : va_G} {b : Nat → Nat} {ids : List Nat} {A : Nat → Prop} {S0 : ns_S} {o : Int32} (N : Nat) (hI : ∀ i, i < 107 → i ∈ ids) (C : ns_C p m c cX10_person 3 s args wsX10_person RX10 D A) (hr : meth.sig.returnType = some .int) (hlk : meth.locks = false) : ∀ {S : ns_S} {H : Heap} {locs : List Loc} {ls : Array Slot} {l1 : Int32} {l2 : Int32}, ns_W D b ids A s.heap wrX10_person_0 S0 S H locs → lv_has ls 3 [(0, .ref (b 0)), (1, .int l1), (2, .int l2)] → gX10_person_35 N (S.1 2368) (S.1 1984) (S.2.1 32) (S.2.1 47) (S.2.1 41) (S.2.1 42) (S.2.1 38) (S.2.1 39) (S.2.1 40) (S.2.1 49) l1 l2 = some o → W p l e rmX10_person_0 s m args below meth c H locs 0 0 (MQ below (ns_Q D b ids S0 (some (.int o)) A) args s 0 0 A) (F0 m 35 ls []) := by
  intro S H locs ls l1 l2 w hl hf
  unfold gX10_person_35 at hf
  refine lv_iload_n C.1.1 C.1.2.1 dX10_person_35 rfl (lv_at hl 2 rfl) ?_
  refine lv_bipush (v := 10) C.1.1 C.1.2.1 dX10_person_36 (by decide) ?_
  refine ns_icmp_lt C hf (tgt := 76) dX10_person_38 (by decide) (fun hf => ?_) (fun hf => ?_)
  · exact wX10_person_0_76 N hI C hr hlk w (lv_sub hl [0, 1, 2] rfl) hf
  · refine lv_iload_n C.1.1 C.1.2.1 dX10_person_41 rfl (lv_at hl 2 rfl) ?_
    refine lv_bipush (v := 10) C.1.1 C.1.2.1 dX10_person_42 (by decide) ?_
    refine lv_aload_n C.1.1 C.1.2.1 dX10_person_44 rfl (lv_at hl 0 rfl) ?_
    refine ns_getr C w 0 (hI 0 (by decide)) sh_0 (rfl : vwCl[10]? = some (RX10, TX10, 6)) inX10_person_10 4 (by decide) rfl lX10_person_30 dX10_person_45 ?_
    refine ns_getr C w 28 (hI 28 (by decide)) sh_28 (rfl : vwCl[6]? = some (RX6, TX6, 6)) inX10_person_6 2 (by decide) rfl lX10_person_119 dX10_person_48 ?_
    refine ns_getr C w 37 (hI 37 (by decide)) sh_37 (rfl : vwCl[4]? = some (RX4, TX4, 6)) inX10_person_4 4 (by decide) rfl lX10_person_142 dX10_person_51 ?_
    refine lv_iload_n C.1.1 C.1.2.1 dX10_person_54 rfl (lv_at hl 1 rfl) ?_
    refine ns_iald C w 41 (hI 41 (by decide)) sh_41 hf rfl dX10_person_55 (fun x1 hf => ?_)
    refine lv_iadd C.1.1 C.1.2.1 dX10_person_56 ?_
    refine ns_icmp_ge C hf (tgt := 76) dX10_person_57 (by decide) (fun hf => ?_) (fun hf => ?_)
    · exact wX10_person_0_76 N hI C hr hlk w (lv_sub hl [0, 1, 2] rfl) hf
    · refine lv_aload_n C.1.1 C.1.2.1 dX10_person_60 rfl (lv_at hl 0 rfl) ?_
      refine ns_getr C w 0 (hI 0 (by decide)) sh_0 (rfl : vwCl[10]? = some (RX10, TX10, 6)) inX10_person_10 4 (by decide) rfl lX10_person_30 dX10_person_61 ?_
      refine ns_getr C w 28 (hI 28 (by decide)) sh_28 (rfl : vwCl[6]? = some (RX6, TX6, 6)) inX10_person_6 2 (by decide) rfl lX10_person_119 dX10_person_64 ?_
      refine lv_iload_n C.1.1 C.1.2.1 dX10_person_67 rfl (lv_at hl 1 rfl) ?_
      refine lv_iload_n C.1.1 C.1.2.1 dX10_person_68 rfl (lv_at hl 2 rfl) ?_
      refine lv_bipush (v := 10) C.1.1 C.1.2.1 dX10_person_69 (by decide) ?_
      refine lv_isub C.1.1 C.1.2.1 dX10_person_71 ?_
      refine ns_callV C w 37 (hI 37 (by decide)) sh_37 (rfl : vwCl[4]? = some (RX4, TX4, 6)) [.int l1, .int (l2 - 10)] hf (fun u hu => mX4_courseOfRank_37 l D b ids hI N _ l1 (l2 - 10) hu) gX10_person_X4_courseOfRank rfl rfl rfl hdX4_courseOfRank ⟨Nat.le_of_ble_eq_true rfl, Nat.le_of_ble_eq_true rfl⟩ (fun u h => h) rfl hl.1 rfl (Nat.le_of_ble_eq_true rfl) ⟨Nat.le_refl _, Nat.le_refl _⟩ dX10_person_72 (fun o2 H locs hf w => ?_)
      have he := Option.some.inj hf
      subst he
      exact ns_iret C w hr hlk rfl rfl dX10_person_75
set_option maxHeartbeats 4000000 in
set_option maxRecDepth 100000 in
theorem mX10_person_0 (l : Launch) (D : va_G) (b : Nat → Nat) (ids : List Nat) (hI : ∀ i, i < 107 → i ∈ ids) (N : Nat) (S : ns_S) (p1 : Int32) (p2 : Int32) {o : Int32} (hf : fX10_person N (S.1 2368) (S.1 1984) (S.2.1 32) (S.2.1 47) (S.2.1 41) (S.2.1 42) (S.2.1 38) (S.2.1 39) (S.2.1 40) (S.2.1 49) p1 p2 = some o) : ns_M l yX10_person wsX10_person rmX10_person_0 D b ids S [.ref (b 0), .int p1, .int p2] (some (.int o)) S := by
  refine ns_start (Wr := wrX10_person_0) (by decide) rfl (Nat.le_of_ble_eq_true rfl) ?_
  intro p e s m below meth c A ls C hr hlk w hl
  have hl : lv_has ls 3 [(0, .ref (b 0)), (1, .int p1), (2, .int p2)] := hl
  unfold fX10_person at hf
  refine lv_aload_n C.1.1 C.1.2.1 dX10_person_0 rfl (lv_at hl 0 rfl) ?_
  refine lv_iload_n C.1.1 C.1.2.1 dX10_person_1 rfl (lv_at hl 1 rfl) ?_
  refine ns_callV C w 0 (hI 0 (by decide)) sh_0 (rfl : vwCl[10]? = some (RX10, TX10, 6)) [.int p1] hf (fun u hu => mX10_isPupil_0 l D b ids hI N _ p1 hu) gX10_person_X10_isPupil rfl rfl rfl hdX10_isPupil ⟨Nat.le_of_ble_eq_true rfl, Nat.le_of_ble_eq_true rfl⟩ (fun u h => h) rfl hl.1 rfl (Nat.le_of_ble_eq_true rfl) ⟨Nat.le_refl _, Nat.le_refl _⟩ dX10_person_2 (fun o1 H locs hf w => ?_)
  refine ns_if_ne C hf (tgt := 10) dX10_person_5 (by decide) (fun hf => ?_) (fun hf => ?_)
  · refine lv_iload_n C.1.1 C.1.2.1 dX10_person_10 rfl (lv_at hl 2 rfl) ?_
    refine lv_bipush (v := 20) C.1.1 C.1.2.1 dX10_person_11 (by decide) ?_
    refine ns_icmp_lt C hf (tgt := 35) dX10_person_13 (by decide) (fun hf => ?_) (fun hf => ?_)
    · exact wX10_person_0_35 N hI C hr hlk w (lv_sub hl [0, 1, 2] rfl) hf
    · refine lv_iload_n C.1.1 C.1.2.1 dX10_person_16 rfl (lv_at hl 2 rfl) ?_
      refine lv_bipush (v := 25) C.1.1 C.1.2.1 dX10_person_17 (by decide) ?_
      refine ns_icmp_ge C hf (tgt := 35) dX10_person_19 (by decide) (fun hf => ?_) (fun hf => ?_)
      · exact wX10_person_0_35 N hI C hr hlk w (lv_sub hl [0, 1, 2] rfl) hf
      · refine lv_aload_n C.1.1 C.1.2.1 dX10_person_22 rfl (lv_at hl 0 rfl) ?_
        refine ns_getr C w 0 (hI 0 (by decide)) sh_0 (rfl : vwCl[10]? = some (RX10, TX10, 6)) inX10_person_10 4 (by decide) rfl lX10_person_30 dX10_person_23 ?_
        refine lv_iload_n C.1.1 C.1.2.1 dX10_person_26 rfl (lv_at hl 1 rfl) ?_
        refine lv_iload_n C.1.1 C.1.2.1 dX10_person_27 rfl (lv_at hl 2 rfl) ?_
        refine lv_bipush (v := 20) C.1.1 C.1.2.1 dX10_person_28 (by decide) ?_
        refine lv_isub C.1.1 C.1.2.1 dX10_person_30 ?_
        refine ns_callV C w 28 (hI 28 (by decide)) sh_28 (rfl : vwCl[6]? = some (RX6, TX6, 6)) [.int p1, .int (p2 - 20)] hf (fun u hu => mX6_courseOn_28 l D b ids hI N _ p1 (p2 - 20) hu) gX10_person_X6_courseOn rfl rfl rfl hdX6_courseOn ⟨Nat.le_of_ble_eq_true rfl, Nat.le_of_ble_eq_true rfl⟩ (fun u h => h) rfl hl.1 rfl (Nat.le_of_ble_eq_true rfl) ⟨Nat.le_refl _, Nat.le_refl _⟩ dX10_person_31 (fun o2 H locs hf w => ?_)
        have he := Option.some.inj hf
        subst he
        exact ns_iret C w hr hlk rfl rfl dX10_person_34
  · refine lv_iconst (v := (-1)) C.1.1 C.1.2.1 dX10_person_8 (by decide) ?_
    have he := Option.some.inj hf
    subst he
    exact ns_iret C w hr hlk rfl rfl dX10_person_9
theorem lX11_pointsOf_54 : Cond.fieldLink RX11 54 (TX11 16).1 (TX11 16).2.1 (TX11 16).2.2.1 ∈ wsX11_pointsOf := List.mem_of_getElem? (i := 1) rfl
theorem lX11_pointsOf_57 : Cond.fieldLink RX11 57 (TX11 17).1 (TX11 17).2.1 (TX11 17).2.2.1 ∈ wsX11_pointsOf := List.mem_of_getElem? (i := 3) rfl
theorem lX11_pointsOf_75 : Cond.fieldLink RX11 75 (TX11 23).1 (TX11 23).2.1 (TX11 23).2.2.1 ∈ wsX11_pointsOf := List.mem_of_getElem? (i := 2) rfl
theorem inX11_pointsOf_11 : ∀ w ∈ u_ws RX11 TX11 59, w ∈ wsX11_pointsOf := fun _ h => List.mem_cons_of_mem _ (List.mem_append_right _ h)
theorem hdX11_pointsOf : yX11_pointsOf.cls = RX11 ∧ yX11_pointsOf.cls ≠ "java/lang/invoke/MethodHandle" ∧ yX11_pointsOf.cls ≠ "java/lang/invoke/VarHandle" ∧ (parseMethodDescriptor yX11_pointsOf.desc).map (fun d => d.parameters.length) = some 1 := by decide +kernel
abbrev wrX11_pointsOf_62 : List (Nat × Nat) := []
abbrev rmX11_pointsOf_62 : Room := { frames := 0, cells := 0, slots := 0, locals := 0 }
set_option maxHeartbeats 4000000 in
set_option maxRecDepth 100000 in
theorem wX11_pointsOf_62_4 {p : Program} {l : Launch} {e : Env} {s : State} {m : MethodId} {args : Array Value} {below : List Frame} {meth : Method} {c : Code} {D : va_G} {b : Nat → Nat} {ids : List Nat} {A : Nat → Prop} {S0 : ns_S} {o : Int32} (N : Nat) (hI : ∀ i, i < 107 → i ∈ ids) (C : ns_C p m c cX11_pointsOf 4 s args wsX11_pointsOf RX11 D A) (hr : meth.sig.returnType = some .int) (hlk : meth.locks = false) : ∀ n : Nat, ∀ {S : ns_S} {H : Heap} {locs : List Loc} {ls : Array Slot} {l1 : Int32} {l2 : Int32} {l3 : Int32}, ns_W D b ids A s.heap wrX11_pointsOf_62 S0 S H locs → lv_has ls 4 [(0, .ref (b 62)), (1, .int l1), (2, .int l2), (3, .int l3)] → fX11_pointsOf_4 N n (S.2.1 77) (S.2.1 84) (S.2.1 78) l1 l2 l3 = some o → W p l e rmX11_pointsOf_62 s m args below meth c H locs 0 0 (MQ below (ns_Q D b ids S0 (some (.int o)) A) args s 0 0 A) (F0 m 4 ls []) := by
  intro n
  induction n with
  | zero =>
    intro S H locs ls l1 l2 l3 w hl hf
    cases hf
  | succ n K4 =>
    intro S H locs ls l1 l2 l3 w hl hf
    change gX11_pointsOf_4 N (fX11_pointsOf_4 N n) (S.2.1 77) (S.2.1 84) (S.2.1 78) l1 l2 l3 = some o at hf
    generalize fX11_pointsOf_4 N n = r4 at hf K4
    unfold gX11_pointsOf_4 at hf
    refine lv_iload_n C.1.1 C.1.2.1 dX11_pointsOf_4 rfl (lv_at hl 3 rfl) ?_
    refine lv_aload_n C.1.1 C.1.2.1 dX11_pointsOf_5 rfl (lv_at hl 0 rfl) ?_
    refine ns_getr C w 62 (hI 62 (by decide)) sh_62 (rfl : vwCl[11]? = some (RX11, TX11, 59)) inX11_pointsOf_11 16 (by decide) rfl lX11_pointsOf_54 dX11_pointsOf_6 ?_
    refine lv_iload_n C.1.1 C.1.2.1 dX11_pointsOf_9 rfl (lv_at hl 1 rfl) ?_
    refine ns_iald C w 77 (hI 77 (by decide)) sh_77 hf rfl dX11_pointsOf_10 (fun x1 hf => ?_)
    refine ns_icmp_ge C hf (tgt := 54) dX11_pointsOf_11 (by decide) (fun hf => ?_) (fun hf => ?_)
    · refine lv_iload_n C.1.1 C.1.2.1 dX11_pointsOf_54 rfl (lv_at hl 2 rfl) ?_
      have he := Option.some.inj hf
      subst he
      exact ns_iret C w hr hlk rfl rfl dX11_pointsOf_55
    · refine lv_iload_n C.1.1 C.1.2.1 dX11_pointsOf_14 rfl (lv_at hl 2 rfl) ?_
      refine lv_aload_n C.1.1 C.1.2.1 dX11_pointsOf_15 rfl (lv_at hl 0 rfl) ?_
      refine ns_getr C w 62 (hI 62 (by decide)) sh_62 (rfl : vwCl[11]? = some (RX11, TX11, 59)) inX11_pointsOf_11 23 (by decide) rfl lX11_pointsOf_75 dX11_pointsOf_16 ?_
      refine lv_iload_n C.1.1 C.1.2.1 dX11_pointsOf_19 rfl (lv_at hl 1 rfl) ?_
      refine ns_iald C w 84 (hI 84 (by decide)) sh_84 hf rfl dX11_pointsOf_20 (fun x2 hf => ?_)
      refine lv_aload_n C.1.1 C.1.2.1 dX11_pointsOf_21 rfl (lv_at hl 0 rfl) ?_
      refine ns_getr C w 62 (hI 62 (by decide)) sh_62 (rfl : vwCl[11]? = some (RX11, TX11, 59)) inX11_pointsOf_11 17 (by decide) rfl lX11_pointsOf_57 dX11_pointsOf_22 ?_
      refine lv_bipush (v := 6) C.1.1 C.1.2.1 dX11_pointsOf_25 (by decide) ?_
      refine lv_iload_n C.1.1 C.1.2.1 dX11_pointsOf_27 rfl (lv_at hl 1 rfl) ?_
      refine lv_imul C.1.1 C.1.2.1 dX11_pointsOf_28 ?_
      refine lv_iload_n C.1.1 C.1.2.1 dX11_pointsOf_29 rfl (lv_at hl 3 rfl) ?_
      refine lv_iadd C.1.1 C.1.2.1 dX11_pointsOf_30 ?_
      refine ns_iald C w 78 (hI 78 (by decide)) sh_78 hf rfl dX11_pointsOf_31 (fun x3 hf => ?_)
      refine lv_ishr C.1.1 C.1.2.1 dX11_pointsOf_32 ?_
      refine lv_iconst (v := 1) C.1.1 C.1.2.1 dX11_pointsOf_33 (by decide) ?_
      refine lv_iand C.1.1 C.1.2.1 dX11_pointsOf_34 ?_
      refine ns_if_eq C hf (tgt := 45) dX11_pointsOf_35 (by decide) (fun hf => ?_) (fun hf => ?_)
      · refine lv_iconst (v := 0) C.1.1 C.1.2.1 dX11_pointsOf_45 (by decide) ?_
        refine lv_iadd C.1.1 C.1.2.1 dX11_pointsOf_46 ?_
        refine ns_namei hf (fun x4 hf => ?_)
        refine lv_istore_n (lv' := [(2, .int x4), (0, .ref (b 62)), (1, .int l1), (3, .int l3)]) C.1.1 C.1.2.1 dX11_pointsOf_47 rfl hl (by decide) rfl (fun ls hl => ?_)
        refine ns_iinc (lv' := fun x5 => [(3, .int x5), (2, .int x4), (0, .ref (b 62)), (1, .int l1)]) C hf dX11_pointsOf_48 hl (k := 3) rfl rfl (by decide) (fun _ => rfl) (fun x5 ls hl hf => ?_)
        refine lv_goto (tgt := 4) C.1.1 C.1.2.1 dX11_pointsOf_51 (by decide) ?_
        exact K4 w (lv_sub hl [2, 3, 1, 0] rfl) hf
      · refine lv_bipush (v := 6) C.1.1 C.1.2.1 dX11_pointsOf_38 (by decide) ?_
        refine lv_iload_n C.1.1 C.1.2.1 dX11_pointsOf_40 rfl (lv_at hl 3 rfl) ?_
        refine lv_isub C.1.1 C.1.2.1 dX11_pointsOf_41 ?_
        refine lv_goto (tgt := 46) C.1.1 C.1.2.1 dX11_pointsOf_42 (by decide) ?_
        refine lv_iadd C.1.1 C.1.2.1 dX11_pointsOf_46 ?_
        refine ns_namei hf (fun x6 hf => ?_)
        refine lv_istore_n (lv' := [(2, .int x6), (0, .ref (b 62)), (1, .int l1), (3, .int l3)]) C.1.1 C.1.2.1 dX11_pointsOf_47 rfl hl (by decide) rfl (fun ls hl => ?_)
        refine ns_iinc (lv' := fun x7 => [(3, .int x7), (2, .int x6), (0, .ref (b 62)), (1, .int l1)]) C hf dX11_pointsOf_48 hl (k := 3) rfl rfl (by decide) (fun _ => rfl) (fun x7 ls hl hf => ?_)
        refine lv_goto (tgt := 4) C.1.1 C.1.2.1 dX11_pointsOf_51 (by decide) ?_
        exact K4 w (lv_sub hl [2, 3, 1, 0] rfl) hf
set_option maxHeartbeats 4000000 in
set_option maxRecDepth 100000 in
theorem mX11_pointsOf_62 (l : Launch) (D : va_G) (b : Nat → Nat) (ids : List Nat) (hI : ∀ i, i < 107 → i ∈ ids) (N : Nat) (S : ns_S) (p1 : Int32) {o : Int32} (hf : fX11_pointsOf N (S.2.1 77) (S.2.1 84) (S.2.1 78) p1 = some o) : ns_M l yX11_pointsOf wsX11_pointsOf rmX11_pointsOf_62 D b ids S [.ref (b 62), .int p1] (some (.int o)) S := by
  refine ns_start (Wr := wrX11_pointsOf_62) (by decide) rfl (Nat.le_of_ble_eq_true rfl) ?_
  intro p e s m below meth c A ls C hr hlk w hl
  have hl : lv_has ls 4 [(0, .ref (b 62)), (1, .int p1)] := hl
  unfold fX11_pointsOf at hf
  refine lv_iconst (v := 0) C.1.1 C.1.2.1 dX11_pointsOf_0 (by decide) ?_
  refine lv_istore_n (lv' := [(2, .int 0), (0, .ref (b 62)), (1, .int p1)]) C.1.1 C.1.2.1 dX11_pointsOf_1 rfl hl (by decide) rfl (fun ls hl => ?_)
  refine lv_iconst (v := 0) C.1.1 C.1.2.1 dX11_pointsOf_2 (by decide) ?_
  refine lv_istore_n (lv' := [(3, .int 0), (2, .int 0), (0, .ref (b 62)), (1, .int p1)]) C.1.1 C.1.2.1 dX11_pointsOf_3 rfl hl (by decide) rfl (fun ls hl => ?_)
  exact wX11_pointsOf_62_4 N hI C hr hlk N w (lv_sub hl [2, 3, 1, 0] rfl) hf
