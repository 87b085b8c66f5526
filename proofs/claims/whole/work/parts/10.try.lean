/-! NightSchool.isWithin(III)Z -/
noncomputable def fX10_isWithin (N : Nat) (p0 : Int32) (p1 : Int32) (p2 : Int32) : Option (Int32) := (if p0 < p1 then some 0 else (if p2 < p0 then some 0 else some 1))
theorem hdX10_isWithin : yX10_isWithin.cls ≠ "java/lang/invoke/MethodHandle" ∧ yX10_isWithin.cls ≠ "java/lang/invoke/VarHandle" ∧ (parseMethodDescriptor yX10_isWithin.desc).map (fun d => d.parameters.length) = some 3 := by decide +kernel
abbrev wrX10_isWithin : List (Nat × Nat) := []
abbrev rmX10_isWithin : Room := { frames := 0, cells := 0, slots := 0, locals := 0 }
set_option maxHeartbeats 4000000 in
set_option maxRecDepth 100000 in
theorem mX10_isWithin (l : Launch) (D : va_G) (b : Nat → Nat) (ids : List Nat) (hI : ∀ i, i < 107 → i ∈ ids) (N : Nat) (S : ns_S) (p0 : Int32) (p1 : Int32) (p2 : Int32) {o : Int32} (hf : fX10_isWithin N p0 p1 p2 = some o) : ns_M l yX10_isWithin wsX10_isWithin rmX10_isWithin D b ids S [.int p0, .int p1, .int p2] (some (.int o)) S := by
  refine ns_start (Wr := wrX10_isWithin) (by decide) rfl (Nat.le_of_ble_eq_true rfl) ?_
  intro p e s m below meth c A ls C hr hlk w hl
  have hl : lv_has ls 3 [(0, .int p0), (1, .int p1), (2, .int p2)] := hl
  unfold fX10_isWithin at hf
  refine lv_iload_n C.1.1 C.1.2.1 dX10_isWithin_0 rfl (lv_at hl 0 rfl) ?_
  refine lv_iload_n C.1.1 C.1.2.1 dX10_isWithin_1 rfl (lv_at hl 1 rfl) ?_
  refine ns_icmp_lt C hf (tgt := 14) dX10_isWithin_2 (by decide) (fun hf => ?_) (fun hf => ?_)
  · refine lv_iconst (v := 0) C.1.1 C.1.2.1 dX10_isWithin_14 (by decide) ?_
    have he := Option.some.inj hf
    subst he
    exact ns_zret C w hr hlk rfl (Or.inl rfl) rfl dX10_isWithin_15
  · refine lv_iload_n C.1.1 C.1.2.1 dX10_isWithin_5 rfl (lv_at hl 0 rfl) ?_
    refine lv_iload_n C.1.1 C.1.2.1 dX10_isWithin_6 rfl (lv_at hl 2 rfl) ?_
    refine ns_icmp_gt C hf (tgt := 14) dX10_isWithin_7 (by decide) (fun hf => ?_) (fun hf => ?_)
    · refine lv_iconst (v := 0) C.1.1 C.1.2.1 dX10_isWithin_14 (by decide) ?_
      have he := Option.some.inj hf
      subst he
      exact ns_zret C w hr hlk rfl (Or.inl rfl) rfl dX10_isWithin_15
    · refine lv_iconst (v := 1) C.1.1 C.1.2.1 dX10_isWithin_10 (by decide) ?_
      refine lv_goto (tgt := 15) C.1.1 C.1.2.1 dX10_isWithin_11 (by decide) ?_
      have he := Option.some.inj hf
      subst he
      exact ns_zret C w hr hlk rfl (Or.inr rfl) rfl dX10_isWithin_15
/-! NightSchool$Seating.isHeld(I)Z -/
noncomputable def fX7_isHeld (N : Nat) (v_seating_held : Int32) (p1 : Int32) : Option (Int32) := (if ((v_seating_held >>> (p1 &&& 31)) &&& 1) = 0 then some 0 else some 1)
theorem lX7_isHeld_30 : Cond.fieldLink RX7 30 (TX7 0).1 (TX7 0).2.1 (TX7 0).2.2.1 ∈ wsX7_isHeld := List.mem_of_getElem? (i := 1) rfl
theorem inX7_isHeld_7 : ∀ w ∈ u_ws RX7 TX7 5, w ∈ wsX7_isHeld := fun _ h => List.mem_cons_of_mem _ (List.mem_append_right _ h)
theorem hdX7_isHeld : yX7_isHeld.cls = RX7 ∧ yX7_isHeld.cls ≠ "java/lang/invoke/MethodHandle" ∧ yX7_isHeld.cls ≠ "java/lang/invoke/VarHandle" ∧ (parseMethodDescriptor yX7_isHeld.desc).map (fun d => d.parameters.length) = some 1 := by decide +kernel
abbrev wrX7_isHeld_43 : List (Nat × Nat) := []
abbrev rmX7_isHeld_43 : Room := { frames := 0, cells := 0, slots := 0, locals := 0 }
set_option maxHeartbeats 4000000 in
set_option maxRecDepth 100000 in
theorem mX7_isHeld_43 (l : Launch) (D : va_G) (b : Nat → Nat) (ids : List Nat) (hI : ∀ i, i < 107 → i ∈ ids) (N : Nat) (S : ns_S) (p1 : Int32) {o : Int32} (hf : fX7_isHeld N (S.1 2752) p1 = some o) : ns_M l yX7_isHeld wsX7_isHeld rmX7_isHeld_43 D b ids S [.ref (b 43), .int p1] (some (.int o)) S := by
  refine ns_start (Wr := wrX7_isHeld_43) (by decide) rfl (Nat.le_of_ble_eq_true rfl) ?_
  intro p e s m below meth c A ls C hr hlk w hl
  have hl : lv_has ls 2 [(0, .ref (b 43)), (1, .int p1)] := hl
  unfold fX7_isHeld at hf
  refine lv_aload_n C.1.1 C.1.2.1 dX7_isHeld_0 rfl (lv_at hl 0 rfl) ?_
  refine ns_geti C w 43 (hI 43 (by decide)) sh_43 (rfl : vwCl[7]? = some (RX7, TX7, 5)) inX7_isHeld_7 0 (by decide) rfl lX7_isHeld_30 (S.1 2752) rfl dX7_isHeld_1 ?_
  refine lv_iload_n C.1.1 C.1.2.1 dX7_isHeld_4 rfl (lv_at hl 1 rfl) ?_
  refine lv_ishr C.1.1 C.1.2.1 dX7_isHeld_5 ?_
  refine lv_iconst (v := 1) C.1.1 C.1.2.1 dX7_isHeld_6 (by decide) ?_
  refine lv_iand C.1.1 C.1.2.1 dX7_isHeld_7 ?_
  refine ns_if_eq C hf (tgt := 15) dX7_isHeld_8 (by decide) (fun hf => ?_) (fun hf => ?_)
  · refine lv_iconst (v := 0) C.1.1 C.1.2.1 dX7_isHeld_15 (by decide) ?_
    have he := Option.some.inj hf
    subst he
    exact ns_zret C w hr hlk rfl (Or.inl rfl) rfl dX7_isHeld_16
  · refine lv_iconst (v := 1) C.1.1 C.1.2.1 dX7_isHeld_11 (by decide) ?_
    refine lv_goto (tgt := 16) C.1.1 C.1.2.1 dX7_isHeld_12 (by decide) ?_
    have he := Option.some.inj hf
    subst he
    exact ns_zret C w hr hlk rfl (Or.inr rfl) rfl dX7_isHeld_16
/-! NightSchool$Seating.give(II)V -/
noncomputable def fX7_give (N : Nat) (v_seating_has : (Nat → Int32)) (v_seating_taken : (Nat → Int32)) (p1 : Int32) (p2 : Int32) : Option ((Nat → Int32) × (Nat → Int32)) := (ns_ald v_seating_has 30 p1).bind fun x1 => (ns_ast v_seating_has 30 p1 (x1 ||| (1 <<< (p2 &&& 31)))).bind fun y2 => (ns_ald v_seating_taken 10 p2).bind fun x3 => (ns_ast v_seating_taken 10 p2 (x3 + 1)).bind fun y4 => some (y2, y4)
theorem lX7_give_18 : Cond.fieldLink RX7 18 (TX7 3).1 (TX7 3).2.1 (TX7 3).2.2.1 ∈ wsX7_give := List.mem_of_getElem? (i := 2) rfl
theorem lX7_give_21 : Cond.fieldLink RX7 21 (TX7 4).1 (TX7 4).2.1 (TX7 4).2.2.1 ∈ wsX7_give := List.mem_of_getElem? (i := 1) rfl
theorem inX7_give_7 : ∀ w ∈ u_ws RX7 TX7 5, w ∈ wsX7_give := fun _ h => List.mem_cons_of_mem _ (List.mem_append_right _ h)
theorem hdX7_give : yX7_give.cls = RX7 ∧ yX7_give.cls ≠ "java/lang/invoke/MethodHandle" ∧ yX7_give.cls ≠ "java/lang/invoke/VarHandle" ∧ (parseMethodDescriptor yX7_give.desc).map (fun d => d.parameters.length) = some 2 := by decide +kernel
abbrev wrX7_give_43 : List (Nat × Nat) := [(1, 47), (1, 46)]
abbrev rmX7_give_43 : Room := { frames := 0, cells := 0, slots := 0, locals := 0 }
set_option maxHeartbeats 4000000 in
set_option maxRecDepth 100000 in
theorem mX7_give_43 (l : Launch) (D : va_G) (b : Nat → Nat) (ids : List Nat) (hI : ∀ i, i < 107 → i ∈ ids) (N : Nat) (S : ns_S) (p1 : Int32) (p2 : Int32) {o : (Nat → Int32) × (Nat → Int32)} (hf : fX7_give N (S.2.1 47) (S.2.1 46) p1 p2 = some o) : ns_M l yX7_give wsX7_give rmX7_give_43 D b ids S [.ref (b 43), .int p1, .int p2] none (ns_A (ns_A S 46 o.2) 47 o.1) := by
  refine ns_start (Wr := wrX7_give_43) (by decide) rfl (Nat.le_of_ble_eq_true rfl) ?_
  intro p e s m below meth c A ls C hr hlk w hl
  have hl : lv_has ls 3 [(0, .ref (b 43)), (1, .int p1), (2, .int p2)] := hl
  unfold fX7_give at hf
  refine lv_aload_n C.1.1 C.1.2.1 dX7_give_0 rfl (lv_at hl 0 rfl) ?_
  refine ns_getr C w 43 (hI 43 (by decide)) sh_43 (rfl : vwCl[7]? = some (RX7, TX7, 5)) inX7_give_7 4 (by decide) rfl lX7_give_21 dX7_give_1 ?_
  refine lv_iload_n C.1.1 C.1.2.1 dX7_give_4 rfl (lv_at hl 1 rfl) ?_
  refine lv_dup2_11 C.1.1 C.1.2.1 dX7_give_5 rfl rfl ?_
  refine ns_iald C w 47 (hI 47 (by decide)) sh_47 hf rfl dX7_give_6 (fun x1 hf => ?_)
  refine lv_iconst (v := 1) C.1.1 C.1.2.1 dX7_give_7 (by decide) ?_
  refine lv_iload_n C.1.1 C.1.2.1 dX7_give_8 rfl (lv_at hl 2 rfl) ?_
  refine lv_ishl C.1.1 C.1.2.1 dX7_give_9 ?_
  refine lv_ior C.1.1 C.1.2.1 dX7_give_10 ?_
  refine ns_iast C w 47 (hI 47 (by decide)) sh_47 hf rfl (List.mem_of_getElem? (i := 0) rfl) dX7_give_11 (fun y2 H locs hf w => ?_)
  refine lv_aload_n C.1.1 C.1.2.1 dX7_give_12 rfl (lv_at hl 0 rfl) ?_
  refine ns_getr C w 43 (hI 43 (by decide)) sh_43 (rfl : vwCl[7]? = some (RX7, TX7, 5)) inX7_give_7 3 (by decide) rfl lX7_give_18 dX7_give_13 ?_
  refine lv_iload_n C.1.1 C.1.2.1 dX7_give_16 rfl (lv_at hl 2 rfl) ?_
  refine lv_dup2_11 C.1.1 C.1.2.1 dX7_give_17 rfl rfl ?_
  refine ns_iald C w 46 (hI 46 (by decide)) sh_46 hf rfl dX7_give_18 (fun x3 hf => ?_)
  refine lv_iconst (v := 1) C.1.1 C.1.2.1 dX7_give_19 (by decide) ?_
  refine lv_iadd C.1.1 C.1.2.1 dX7_give_20 ?_
  refine ns_iast C w 46 (hI 46 (by decide)) sh_46 hf rfl (List.mem_of_getElem? (i := 1) rfl) dX7_give_21 (fun y4 H locs hf w => ?_)
  have he := Option.some.inj hf
  subst he
  exact ns_vret C w hr hlk rfl rfl dX7_give_22
/-! NightSchool$Pupils.courseOfRank(II)I -/
noncomputable def fX4_courseOfRank (N : Nat) (v_pupils_wishes : (Nat → Int32)) (p1 : Int32) (p2 : Int32) : Option (Int32) := (ns_ald v_pupils_wishes 180 ((p1 * 6) + p2)).bind fun x1 => some x1
theorem lX4_courseOfRank_24 : Cond.fieldLink RX4 24 (TX4 5).1 (TX4 5).2.1 (TX4 5).2.2.1 ∈ wsX4_courseOfRank := List.mem_of_getElem? (i := 1) rfl
theorem inX4_courseOfRank_4 : ∀ w ∈ u_ws RX4 TX4 6, w ∈ wsX4_courseOfRank := fun _ h => List.mem_cons_of_mem _ (List.mem_append_right _ h)
theorem hdX4_courseOfRank : yX4_courseOfRank.cls = RX4 ∧ yX4_courseOfRank.cls ≠ "java/lang/invoke/MethodHandle" ∧ yX4_courseOfRank.cls ≠ "java/lang/invoke/VarHandle" ∧ (parseMethodDescriptor yX4_courseOfRank.desc).map (fun d => d.parameters.length) = some 2 := by decide +kernel
abbrev wrX4_courseOfRank_37 : List (Nat × Nat) := []
abbrev rmX4_courseOfRank_37 : Room := { frames := 0, cells := 0, slots := 0, locals := 0 }
set_option maxHeartbeats 4000000 in
set_option maxRecDepth 100000 in
theorem mX4_courseOfRank_37 (l : Launch) (D : va_G) (b : Nat → Nat) (ids : List Nat) (hI : ∀ i, i < 107 → i ∈ ids) (N : Nat) (S : ns_S) (p1 : Int32) (p2 : Int32) {o : Int32} (hf : fX4_courseOfRank N (S.2.1 42) p1 p2 = some o) : ns_M l yX4_courseOfRank wsX4_courseOfRank rmX4_courseOfRank_37 D b ids S [.ref (b 37), .int p1, .int p2] (some (.int o)) S := by
  refine ns_start (Wr := wrX4_courseOfRank_37) (by decide) rfl (Nat.le_of_ble_eq_true rfl) ?_
  intro p e s m below meth c A ls C hr hlk w hl
  have hl : lv_has ls 3 [(0, .ref (b 37)), (1, .int p1), (2, .int p2)] := hl
  unfold fX4_courseOfRank at hf
  refine lv_aload_n C.1.1 C.1.2.1 dX4_courseOfRank_0 rfl (lv_at hl 0 rfl) ?_
  refine ns_getr C w 37 (hI 37 (by decide)) sh_37 (rfl : vwCl[4]? = some (RX4, TX4, 6)) inX4_courseOfRank_4 5 (by decide) rfl lX4_courseOfRank_24 dX4_courseOfRank_1 ?_
  refine lv_iload_n C.1.1 C.1.2.1 dX4_courseOfRank_4 rfl (lv_at hl 1 rfl) ?_
  refine lv_bipush (v := 6) C.1.1 C.1.2.1 dX4_courseOfRank_5 (by decide) ?_
  refine lv_imul C.1.1 C.1.2.1 dX4_courseOfRank_7 ?_
  refine lv_iload_n C.1.1 C.1.2.1 dX4_courseOfRank_8 rfl (lv_at hl 2 rfl) ?_
  refine lv_iadd C.1.1 C.1.2.1 dX4_courseOfRank_9 ?_
  refine ns_iald C w 42 (hI 42 (by decide)) sh_42 hf rfl dX4_courseOfRank_10 (fun x1 hf => ?_)
  have he := Option.some.inj hf
  subst he
  exact ns_iret C w hr hlk rfl rfl dX4_courseOfRank_11
/-! NightSchool$Pupils.rankOf(II)I -/
noncomputable def gX4_rankOf_2 (N : Nat) (r2 : (Nat → Int32) → (Nat → Int32) → Int32 → Int32 → Int32 → Option (Int32)) (v_pupils_wishCount : (Nat → Int32)) (v_pupils_wishes : (Nat → Int32)) (l1 : Int32) (l2 : Int32) (l3 : Int32) : Option (Int32) := (ns_ald v_pupils_wishCount 30 l1).bind fun x1 => (if x1 ≤ l3 then some (-1) else (fX4_courseOfRank N v_pupils_wishes l1 l3).bind fun o2 => (if o2 = l2 then some l3 else ns_let (l3 + 1) fun x3 => r2 v_pupils_wishCount v_pupils_wishes l1 l2 x3))
noncomputable def fX4_rankOf_2 (N : Nat) (n : Nat) : (Nat → Int32) → (Nat → Int32) → Int32 → Int32 → Int32 → Option (Int32) := Nat.rec (motive := fun _ => (Nat → Int32) → (Nat → Int32) → Int32 → Int32 → Int32 → Option (Int32)) (fun _ _ _ _ _ => none) (fun _ r => gX4_rankOf_2 N r) n
noncomputable def fX4_rankOf (N : Nat) (v_pupils_wishCount : (Nat → Int32)) (v_pupils_wishes : (Nat → Int32)) (p1 : Int32) (p2 : Int32) : Option (Int32) := fX4_rankOf_2 N N v_pupils_wishCount v_pupils_wishes p1 p2 0
theorem lX4_rankOf_21 : Cond.fieldLink RX4 21 (TX4 4).1 (TX4 4).2.1 (TX4 4).2.2.1 ∈ wsX4_rankOf := List.mem_of_getElem? (i := 1) rfl
theorem inX4_rankOf_4 : ∀ w ∈ u_ws RX4 TX4 6, w ∈ wsX4_rankOf := fun _ h => List.mem_cons_of_mem _ (List.mem_append_right _ h)
theorem hdX4_rankOf : yX4_rankOf.cls = RX4 ∧ yX4_rankOf.cls ≠ "java/lang/invoke/MethodHandle" ∧ yX4_rankOf.cls ≠ "java/lang/invoke/VarHandle" ∧ (parseMethodDescriptor yX4_rankOf.desc).map (fun d => d.parameters.length) = some 2 := by decide +kernel
abbrev wrX4_rankOf_37 : List (Nat × Nat) := []
abbrev rmX4_rankOf_37 : Room := { frames := 1, cells := 0, slots := 0, locals := 22 }
set_option maxHeartbeats 4000000 in
set_option maxRecDepth 100000 in
theorem wX4_rankOf_37_2 {p : Program} {l : Launch} {e : Env} {s : State} {m : MethodId} {args : Array Value} {below : List Frame} {meth : Method} {c : Code} {D : va_G} {b : Nat → Nat} {ids : List Nat} {A : Nat → Prop} {S0 : ns_S} {o : Int32} (N : Nat) (hI : ∀ i, i < 107 → i ∈ ids) (C : ns_C p m c cX4_rankOf 4 s args wsX4_rankOf RX4 D A) (hr : meth.sig.returnType = some .int) (hlk : meth.locks = false) : ∀ n : Nat, ∀ {S : ns_S} {H : Heap} {locs : List Loc} {ls : Array Slot} {l1 : Int32} {l2 : Int32} {l3 : Int32}, ns_W D b ids A s.heap wrX4_rankOf_37 S0 S H locs → lv_has ls 4 [(0, .ref (b 37)), (1, .int l1), (2, .int l2), (3, .int l3)] → fX4_rankOf_2 N n (S.2.1 41) (S.2.1 42) l1 l2 l3 = some o → W p l e rmX4_rankOf_37 s m args below meth c H locs 0 0 (MQ below (ns_Q D b ids S0 (some (.int o)) A) args s 0 0 A) (F0 m 2 ls []) := by
  intro n
  induction n with
  | zero =>
    intro S H locs ls l1 l2 l3 w hl hf
    cases hf
  | succ n K2 =>
    intro S H locs ls l1 l2 l3 w hl hf
    change gX4_rankOf_2 N (fX4_rankOf_2 N n) (S.2.1 41) (S.2.1 42) l1 l2 l3 = some o at hf
    generalize fX4_rankOf_2 N n = r2 at hf K2
    unfold gX4_rankOf_2 at hf
    refine lv_iload_n C.1.1 C.1.2.1 dX4_rankOf_2 rfl (lv_at hl 3 rfl) ?_
    refine lv_aload_n C.1.1 C.1.2.1 dX4_rankOf_3 rfl (lv_at hl 0 rfl) ?_
    refine ns_getr C w 37 (hI 37 (by decide)) sh_37 (rfl : vwCl[4]? = some (RX4, TX4, 6)) inX4_rankOf_4 4 (by decide) rfl lX4_rankOf_21 dX4_rankOf_4 ?_
    refine lv_iload_n C.1.1 C.1.2.1 dX4_rankOf_7 rfl (lv_at hl 1 rfl) ?_
    refine ns_iald C w 41 (hI 41 (by decide)) sh_41 hf rfl dX4_rankOf_8 (fun x1 hf => ?_)
    refine ns_icmp_ge C hf (tgt := 30) dX4_rankOf_9 (by decide) (fun hf => ?_) (fun hf => ?_)
    · refine lv_iconst (v := (-1)) C.1.1 C.1.2.1 dX4_rankOf_30 (by decide) ?_
      have he := Option.some.inj hf
      subst he
      exact ns_iret C w hr hlk rfl rfl dX4_rankOf_31
    · refine lv_aload_n C.1.1 C.1.2.1 dX4_rankOf_12 rfl (lv_at hl 0 rfl) ?_
      refine lv_iload_n C.1.1 C.1.2.1 dX4_rankOf_13 rfl (lv_at hl 1 rfl) ?_
      refine lv_iload_n C.1.1 C.1.2.1 dX4_rankOf_14 rfl (lv_at hl 3 rfl) ?_
      refine ns_callV C w 37 (hI 37 (by decide)) sh_37 (rfl : vwCl[4]? = some (RX4, TX4, 6)) [.int l1, .int l3] hf (fun u hu => mX4_courseOfRank_37 l D b ids hI N _ l1 l3 hu) gX4_rankOf_X4_courseOfRank rfl rfl rfl hdX4_courseOfRank ⟨Nat.le_of_ble_eq_true rfl, Nat.le_of_ble_eq_true rfl⟩ (fun u h => h) rfl hl.1 rfl (Nat.le_of_ble_eq_true rfl) ⟨Nat.le_refl _, Nat.le_refl _⟩ dX4_rankOf_15 (fun o2 H locs hf w => ?_)
      refine lv_iload_n C.1.1 C.1.2.1 dX4_rankOf_18 rfl (lv_at hl 2 rfl) ?_
      refine ns_icmp_ne C hf (tgt := 24) dX4_rankOf_19 (by decide) (fun hf => ?_) (fun hf => ?_)
      · refine ns_iinc (lv' := fun x3 => [(3, .int x3), (0, .ref (b 37)), (1, .int l1), (2, .int l2)]) C hf dX4_rankOf_24 hl (k := 3) rfl rfl (by decide) (fun _ => rfl) (fun x3 ls hl hf => ?_)
        refine lv_goto (tgt := 2) C.1.1 C.1.2.1 dX4_rankOf_27 (by decide) ?_
        exact K2 w (lv_sub hl [1, 2, 3, 0] rfl) hf
      · refine lv_iload_n C.1.1 C.1.2.1 dX4_rankOf_22 rfl (lv_at hl 3 rfl) ?_
        have he := Option.some.inj hf
        subst he
        exact ns_iret C w hr hlk rfl rfl dX4_rankOf_23
set_option maxHeartbeats 4000000 in
set_option maxRecDepth 100000 in
theorem mX4_rankOf_37 (l : Launch) (D : va_G) (b : Nat → Nat) (ids : List Nat) (hI : ∀ i, i < 107 → i ∈ ids) (N : Nat) (S : ns_S) (p1 : Int32) (p2 : Int32) {o : Int32} (hf : fX4_rankOf N (S.2.1 41) (S.2.1 42) p1 p2 = some o) : ns_M l yX4_rankOf wsX4_rankOf rmX4_rankOf_37 D b ids S [.ref (b 37), .int p1, .int p2] (some (.int o)) S := by
  refine ns_start (Wr := wrX4_rankOf_37) (by decide) rfl (Nat.le_of_ble_eq_true rfl) ?_
  intro p e s m below meth c A ls C hr hlk w hl
  have hl : lv_has ls 4 [(0, .ref (b 37)), (1, .int p1), (2, .int p2)] := hl
  unfold fX4_rankOf at hf
  refine lv_iconst (v := 0) C.1.1 C.1.2.1 dX4_rankOf_0 (by decide) ?_
  refine lv_istore_n (lv' := [(3, .int 0), (0, .ref (b 37)), (1, .int p1), (2, .int p2)]) C.1.1 C.1.2.1 dX4_rankOf_1 rfl hl (by decide) rfl (fun ls hl => ?_)
  exact wX4_rankOf_37_2 N hI C hr hlk N w (lv_sub hl [1, 2, 3, 0] rfl) hf
/-! NightSchool$Seating.hasCourse(II)Z -/
noncomputable def fX7_hasCourse (N : Nat) (v_seating_has : (Nat → Int32)) (p1 : Int32) (p2 : Int32) : Option (Int32) := (ns_ald v_seating_has 30 p1).bind fun x1 => (if ((x1 >>> (p2 &&& 31)) &&& 1) = 0 then some 0 else some 1)
theorem lX7_hasCourse_21 : Cond.fieldLink RX7 21 (TX7 4).1 (TX7 4).2.1 (TX7 4).2.2.1 ∈ wsX7_hasCourse := List.mem_of_getElem? (i := 1) rfl
theorem inX7_hasCourse_7 : ∀ w ∈ u_ws RX7 TX7 5, w ∈ wsX7_hasCourse := fun _ h => List.mem_cons_of_mem _ (List.mem_append_right _ h)
theorem hdX7_hasCourse : yX7_hasCourse.cls = RX7 ∧ yX7_hasCourse.cls ≠ "java/lang/invoke/MethodHandle" ∧ yX7_hasCourse.cls ≠ "java/lang/invoke/VarHandle" ∧ (parseMethodDescriptor yX7_hasCourse.desc).map (fun d => d.parameters.length) = some 2 := by decide +kernel
abbrev wrX7_hasCourse_43 : List (Nat × Nat) := []
abbrev rmX7_hasCourse_43 : Room := { frames := 0, cells := 0, slots := 0, locals := 0 }
set_option maxHeartbeats 4000000 in
set_option maxRecDepth 100000 in
theorem mX7_hasCourse_43 (l : Launch) (D : va_G) (b : Nat → Nat) (ids : List Nat) (hI : ∀ i, i < 107 → i ∈ ids) (N : Nat) (S : ns_S) (p1 : Int32) (p2 : Int32) {o : Int32} (hf : fX7_hasCourse N (S.2.1 47) p1 p2 = some o) : ns_M l yX7_hasCourse wsX7_hasCourse rmX7_hasCourse_43 D b ids S [.ref (b 43), .int p1, .int p2] (some (.int o)) S := by
  refine ns_start (Wr := wrX7_hasCourse_43) (by decide) rfl (Nat.le_of_ble_eq_true rfl) ?_
  intro p e s m below meth c A ls C hr hlk w hl
  have hl : lv_has ls 3 [(0, .ref (b 43)), (1, .int p1), (2, .int p2)] := hl
  unfold fX7_hasCourse at hf
  refine lv_aload_n C.1.1 C.1.2.1 dX7_hasCourse_0 rfl (lv_at hl 0 rfl) ?_
  refine ns_getr C w 43 (hI 43 (by decide)) sh_43 (rfl : vwCl[7]? = some (RX7, TX7, 5)) inX7_hasCourse_7 4 (by decide) rfl lX7_hasCourse_21 dX7_hasCourse_1 ?_
  refine lv_iload_n C.1.1 C.1.2.1 dX7_hasCourse_4 rfl (lv_at hl 1 rfl) ?_
  refine ns_iald C w 47 (hI 47 (by decide)) sh_47 hf rfl dX7_hasCourse_5 (fun x1 hf => ?_)
  refine lv_iload_n C.1.1 C.1.2.1 dX7_hasCourse_6 rfl (lv_at hl 2 rfl) ?_
  refine lv_ishr C.1.1 C.1.2.1 dX7_hasCourse_7 ?_
  refine lv_iconst (v := 1) C.1.1 C.1.2.1 dX7_hasCourse_8 (by decide) ?_
  refine lv_iand C.1.1 C.1.2.1 dX7_hasCourse_9 ?_
  refine ns_if_eq C hf (tgt := 17) dX7_hasCourse_10 (by decide) (fun hf => ?_) (fun hf => ?_)
  · refine lv_iconst (v := 0) C.1.1 C.1.2.1 dX7_hasCourse_17 (by decide) ?_
    have he := Option.some.inj hf
    subst he
    exact ns_zret C w hr hlk rfl (Or.inl rfl) rfl dX7_hasCourse_18
  · refine lv_iconst (v := 1) C.1.1 C.1.2.1 dX7_hasCourse_13 (by decide) ?_
    refine lv_goto (tgt := 18) C.1.1 C.1.2.1 dX7_hasCourse_14 (by decide) ?_
    have he := Option.some.inj hf
    subst he
    exact ns_zret C w hr hlk rfl (Or.inr rfl) rfl dX7_hasCourse_18
/-! NightSchool$School.courseOn(II)I -/
noncomputable def gX6_courseOn_2 (N : Nat) (r2 : Int32 → (Nat → Int32) → (Nat → Int32) → Int32 → Int32 → Int32 → Option (Int32)) (v_courses_count : Int32) (v_courses_evening : (Nat → Int32)) (v_seating_has : (Nat → Int32)) (l1 : Int32) (l2 : Int32) (l3 : Int32) : Option (Int32) := (if v_courses_count ≤ l3 then some (-1) else (ns_ald v_courses_evening 10 l3).bind fun x1 => (if x1 = l2 then (fX7_hasCourse N v_seating_has l1 l3).bind fun o3 => (if o3 = 0 then ns_let (l3 + 1) fun x4 => r2 v_courses_count v_courses_evening v_seating_has l1 l2 x4 else some l3) else ns_let (l3 + 1) fun x2 => r2 v_courses_count v_courses_evening v_seating_has l1 l2 x2))
noncomputable def fX6_courseOn_2 (N : Nat) (n : Nat) : Int32 → (Nat → Int32) → (Nat → Int32) → Int32 → Int32 → Int32 → Option (Int32) := Nat.rec (motive := fun _ => Int32 → (Nat → Int32) → (Nat → Int32) → Int32 → Int32 → Int32 → Option (Int32)) (fun _ _ _ _ _ _ => none) (fun _ r => gX6_courseOn_2 N r) n
noncomputable def fX6_courseOn (N : Nat) (v_courses_count : Int32) (v_courses_evening : (Nat → Int32)) (v_seating_has : (Nat → Int32)) (p1 : Int32) (p2 : Int32) : Option (Int32) := fX6_courseOn_2 N N v_courses_count v_courses_evening v_seating_has p1 p2 0
theorem lX6_courseOn_21 : Cond.fieldLink RX6 21 (TX6 1).1 (TX6 1).2.1 (TX6 1).2.2.1 ∈ wsX6_courseOn := List.mem_of_getElem? (i := 1) rfl
theorem lX6_courseOn_35 : Cond.fieldLink RX6 35 (TX6 3).1 (TX6 3).2.1 (TX6 3).2.2.1 ∈ wsX6_courseOn := List.mem_of_getElem? (i := 4) rfl
theorem lX6_courseOn_72 : Cond.fieldLink RX6 72 (TX0 0).1 (TX0 0).2.1 (TX0 0).2.2.1 ∈ wsX6_courseOn := List.mem_of_getElem? (i := 2) rfl
theorem lX6_courseOn_76 : Cond.fieldLink RX6 76 (TX0 1).1 (TX0 1).2.1 (TX0 1).2.2.1 ∈ wsX6_courseOn := List.mem_of_getElem? (i := 3) rfl
theorem inX6_courseOn_0 : ∀ w ∈ u_ws RX0 TX0 6, w ∈ wsX6_courseOn := fun _ h => List.mem_cons_of_mem _ (List.mem_append_left _ (List.mem_append_right _ h))
theorem inX6_courseOn_6 : ∀ w ∈ u_ws RX6 TX6 6, w ∈ wsX6_courseOn := fun _ h => List.mem_cons_of_mem _ (List.mem_append_left _ (List.mem_append_left _ (List.mem_append_right _ h)))
theorem hdX6_courseOn : yX6_courseOn.cls = RX6 ∧ yX6_courseOn.cls ≠ "java/lang/invoke/MethodHandle" ∧ yX6_courseOn.cls ≠ "java/lang/invoke/VarHandle" ∧ (parseMethodDescriptor yX6_courseOn.desc).map (fun d => d.parameters.length) = some 2 := by decide +kernel
abbrev wrX6_courseOn_28 : List (Nat × Nat) := []
abbrev rmX6_courseOn_28 : Room := { frames := 1, cells := 0, slots := 0, locals := 22 }
set_option maxHeartbeats 4000000 in
set_option maxRecDepth 100000 in
theorem wX6_courseOn_28_2 {p : Program} {l : Launch} {e : Env} {s : State} {m : MethodId} {args : Array Value} {below : List Frame} {meth : Method} {c : Code} {D : va_G} {b : Nat → Nat} {ids : List Nat} {A : Nat → Prop} {S0 : ns_S} {o : Int32} (N : Nat) (hI : ∀ i, i < 107 → i ∈ ids) (C : ns_C p m c cX6_courseOn 4 s args wsX6_courseOn RX6 D A) (hr : meth.sig.returnType = some .int) (hlk : meth.locks = false) : ∀ n : Nat, ∀ {S : ns_S} {H : Heap} {locs : List Loc} {ls : Array Slot} {l1 : Int32} {l2 : Int32} {l3 : Int32}, ns_W D b ids A s.heap wrX6_courseOn_28 S0 S H locs → lv_has ls 4 [(0, .ref (b 28)), (1, .int l1), (2, .int l2), (3, .int l3)] → fX6_courseOn_2 N n (S.1 1984) (S.2.1 32) (S.2.1 47) l1 l2 l3 = some o → W p l e rmX6_courseOn_28 s m args below meth c H locs 0 0 (MQ below (ns_Q D b ids S0 (some (.int o)) A) args s 0 0 A) (F0 m 2 ls []) := by
  intro n
  induction n with
  | zero =>
    intro S H locs ls l1 l2 l3 w hl hf
    cases hf
  | succ n K2 =>
    intro S H locs ls l1 l2 l3 w hl hf
    change gX6_courseOn_2 N (fX6_courseOn_2 N n) (S.1 1984) (S.2.1 32) (S.2.1 47) l1 l2 l3 = some o at hf
    generalize fX6_courseOn_2 N n = r2 at hf K2
    unfold gX6_courseOn_2 at hf
    refine lv_iload_n C.1.1 C.1.2.1 dX6_courseOn_2 rfl (lv_at hl 3 rfl) ?_
    refine lv_aload_n C.1.1 C.1.2.1 dX6_courseOn_3 rfl (lv_at hl 0 rfl) ?_
    refine ns_getr C w 28 (hI 28 (by decide)) sh_28 (rfl : vwCl[6]? = some (RX6, TX6, 6)) inX6_courseOn_6 1 (by decide) rfl lX6_courseOn_21 dX6_courseOn_4 ?_
    refine ns_geti C w 31 (hI 31 (by decide)) sh_31 (rfl : vwCl[0]? = some (RX0, TX0, 6)) inX6_courseOn_0 0 (by decide) rfl lX6_courseOn_72 (S.1 1984) rfl dX6_courseOn_7 ?_
    refine ns_icmp_ge C hf (tgt := 46) dX6_courseOn_10 (by decide) (fun hf => ?_) (fun hf => ?_)
    · refine lv_iconst (v := (-1)) C.1.1 C.1.2.1 dX6_courseOn_46 (by decide) ?_
      have he := Option.some.inj hf
      subst he
      exact ns_iret C w hr hlk rfl rfl dX6_courseOn_47
    · refine lv_aload_n C.1.1 C.1.2.1 dX6_courseOn_13 rfl (lv_at hl 0 rfl) ?_
      refine ns_getr C w 28 (hI 28 (by decide)) sh_28 (rfl : vwCl[6]? = some (RX6, TX6, 6)) inX6_courseOn_6 1 (by decide) rfl lX6_courseOn_21 dX6_courseOn_14 ?_
      refine ns_getr C w 31 (hI 31 (by decide)) sh_31 (rfl : vwCl[0]? = some (RX0, TX0, 6)) inX6_courseOn_0 1 (by decide) rfl lX6_courseOn_76 dX6_courseOn_17 ?_
      refine lv_iload_n C.1.1 C.1.2.1 dX6_courseOn_20 rfl (lv_at hl 3 rfl) ?_
      refine ns_iald C w 32 (hI 32 (by decide)) sh_32 hf rfl dX6_courseOn_21 (fun x1 hf => ?_)
      refine lv_iload_n C.1.1 C.1.2.1 dX6_courseOn_22 rfl (lv_at hl 2 rfl) ?_
      refine ns_icmp_ne C hf (tgt := 40) dX6_courseOn_23 (by decide) (fun hf => ?_) (fun hf => ?_)
      · refine ns_iinc (lv' := fun x2 => [(3, .int x2), (0, .ref (b 28)), (1, .int l1), (2, .int l2)]) C hf dX6_courseOn_40 hl (k := 3) rfl rfl (by decide) (fun _ => rfl) (fun x2 ls hl hf => ?_)
        refine lv_goto (tgt := 2) C.1.1 C.1.2.1 dX6_courseOn_43 (by decide) ?_
        exact K2 w (lv_sub hl [1, 2, 3, 0] rfl) hf
      · refine lv_aload_n C.1.1 C.1.2.1 dX6_courseOn_26 rfl (lv_at hl 0 rfl) ?_
        refine ns_getr C w 28 (hI 28 (by decide)) sh_28 (rfl : vwCl[6]? = some (RX6, TX6, 6)) inX6_courseOn_6 3 (by decide) rfl lX6_courseOn_35 dX6_courseOn_27 ?_
        refine lv_iload_n C.1.1 C.1.2.1 dX6_courseOn_30 rfl (lv_at hl 1 rfl) ?_
        refine lv_iload_n C.1.1 C.1.2.1 dX6_courseOn_31 rfl (lv_at hl 3 rfl) ?_
        refine ns_callV C w 43 (hI 43 (by decide)) sh_43 (rfl : vwCl[7]? = some (RX7, TX7, 5)) [.int l1, .int l3] hf (fun u hu => mX7_hasCourse_43 l D b ids hI N _ l1 l3 hu) gX6_courseOn_X7_hasCourse rfl rfl rfl hdX7_hasCourse ⟨Nat.le_of_ble_eq_true rfl, Nat.le_of_ble_eq_true rfl⟩ (fun u h => h) rfl hl.1 rfl (Nat.le_of_ble_eq_true rfl) ⟨Nat.le_refl _, Nat.le_refl _⟩ dX6_courseOn_32 (fun o3 H locs hf w => ?_)
        refine ns_if_eq C hf (tgt := 40) dX6_courseOn_35 (by decide) (fun hf => ?_) (fun hf => ?_)
        · refine ns_iinc (lv' := fun x4 => [(3, .int x4), (0, .ref (b 28)), (1, .int l1), (2, .int l2)]) C hf dX6_courseOn_40 hl (k := 3) rfl rfl (by decide) (fun _ => rfl) (fun x4 ls hl hf => ?_)
          refine lv_goto (tgt := 2) C.1.1 C.1.2.1 dX6_courseOn_43 (by decide) ?_
          exact K2 w (lv_sub hl [1, 2, 3, 0] rfl) hf
        · refine lv_iload_n C.1.1 C.1.2.1 dX6_courseOn_38 rfl (lv_at hl 3 rfl) ?_
          have he := Option.some.inj hf
          subst he
          exact ns_iret C w hr hlk rfl rfl dX6_courseOn_39
set_option maxHeartbeats 4000000 in
set_option maxRecDepth 100000 in
theorem mX6_courseOn_28 (l : Launch) (D : va_G) (b : Nat → Nat) (ids : List Nat) (hI : ∀ i, i < 107 → i ∈ ids) (N : Nat) (S : ns_S) (p1 : Int32) (p2 : Int32) {o : Int32} (hf : fX6_courseOn N (S.1 1984) (S.2.1 32) (S.2.1 47) p1 p2 = some o) : ns_M l yX6_courseOn wsX6_courseOn rmX6_courseOn_28 D b ids S [.ref (b 28), .int p1, .int p2] (some (.int o)) S := by
  refine ns_start (Wr := wrX6_courseOn_28) (by decide) rfl (Nat.le_of_ble_eq_true rfl) ?_
  intro p e s m below meth c A ls C hr hlk w hl
  have hl : lv_has ls 4 [(0, .ref (b 28)), (1, .int p1), (2, .int p2)] := hl
  unfold fX6_courseOn at hf
  refine lv_iconst (v := 0) C.1.1 C.1.2.1 dX6_courseOn_0 (by decide) ?_
  refine lv_istore_n (lv' := [(3, .int 0), (0, .ref (b 28)), (1, .int p1), (2, .int p2)]) C.1.1 C.1.2.1 dX6_courseOn_1 rfl hl (by decide) rfl (fun ls hl => ?_)
  exact wX6_courseOn_28_2 N hI C hr hlk N w (lv_sub hl [1, 2, 3, 0] rfl) hf
/-! java/lang/Integer.bitCount(I)I -/
noncomputable def fJ6_bitCount_0f7a4 (N : Nat) (p0 : Int32) : Option (Int32) := ns_let (p0 - (((p0.toUInt32 >>> ((1 : Int32).toUInt32 &&& Int32.toUInt32 31)).toInt32) &&& 1431655765)) fun x1 => ns_let ((x1 &&& 858993459) + (((x1.toUInt32 >>> ((2 : Int32).toUInt32 &&& Int32.toUInt32 31)).toInt32) &&& 858993459)) fun x2 => ns_let ((x2 + ((x2.toUInt32 >>> ((4 : Int32).toUInt32 &&& Int32.toUInt32 31)).toInt32)) &&& 252645135) fun x3 => ns_let (x3 + ((x3.toUInt32 >>> ((8 : Int32).toUInt32 &&& Int32.toUInt32 31)).toInt32)) fun x4 => ns_let (x4 + ((x4.toUInt32 >>> ((16 : Int32).toUInt32 &&& Int32.toUInt32 31)).toInt32)) fun x5 => some (x5 &&& 63)
theorem hdJ6_bitCount_0f7a4 : yJ6_bitCount_0f7a4.cls ≠ "java/lang/invoke/MethodHandle" ∧ yJ6_bitCount_0f7a4.cls ≠ "java/lang/invoke/VarHandle" ∧ (parseMethodDescriptor yJ6_bitCount_0f7a4.desc).map (fun d => d.parameters.length) = some 1 := by decide +kernel
abbrev wrJ6_bitCount_0f7a4 : List (Nat × Nat) := []
abbrev rmJ6_bitCount_0f7a4 : Room := { frames := 0, cells := 0, slots := 0, locals := 0 }
set_option maxHeartbeats 4000000 in
set_option maxRecDepth 100000 in
theorem mJ6_bitCount_0f7a4 (l : Launch) (D : va_G) (b : Nat → Nat) (ids : List Nat) (hI : ∀ i, i < 107 → i ∈ ids) (N : Nat) (S : ns_S) (p0 : Int32) {o : Int32} (hf : fJ6_bitCount_0f7a4 N p0 = some o) : ns_M l yJ6_bitCount_0f7a4 wsJ6_bitCount_0f7a4 rmJ6_bitCount_0f7a4 D b ids S [.int p0] (some (.int o)) S := by
  refine ns_start (Wr := wrJ6_bitCount_0f7a4) (by decide) rfl (Nat.le_of_ble_eq_true rfl) ?_
  intro p e s m below meth c A ls C hr hlk w hl
  have hl : lv_has ls 1 [(0, .int p0)] := hl
  unfold fJ6_bitCount_0f7a4 at hf
  refine lv_iload_n C.1.1 C.1.2.1 dJ6_bitCount_0f7a4_0 rfl (lv_at hl 0 rfl) ?_
  refine lv_iload_n C.1.1 C.1.2.1 dJ6_bitCount_0f7a4_1 rfl (lv_at hl 0 rfl) ?_
  refine lv_iconst (v := 1) C.1.1 C.1.2.1 dJ6_bitCount_0f7a4_2 (by decide) ?_
  refine lv_iushr (v := (p0.toUInt32 >>> ((1 : Int32).toUInt32 &&& Int32.toUInt32 31)).toInt32) C.1.1 C.1.2.1 dJ6_bitCount_0f7a4_3 rfl ?_
  refine lv_ldcw (v := 1431655765) C.1.1 C.1.2.1 C.1.2.2.2.1 (C.1.2.2.2.2 (.constant RJ6 265 (1431655765)) (List.mem_of_getElem? (i := 1) rfl)) dJ6_bitCount_0f7a4_4 ?_
  refine lv_iand C.1.1 C.1.2.1 dJ6_bitCount_0f7a4_7 ?_
  refine lv_isub C.1.1 C.1.2.1 dJ6_bitCount_0f7a4_8 ?_
  refine ns_namei hf (fun x1 hf => ?_)
  refine lv_istore_n (lv' := [(0, .int x1)]) C.1.1 C.1.2.1 dJ6_bitCount_0f7a4_9 rfl hl (by decide) rfl (fun ls hl => ?_)
  refine lv_iload_n C.1.1 C.1.2.1 dJ6_bitCount_0f7a4_10 rfl (lv_at hl 0 rfl) ?_
  refine lv_ldcw (v := 858993459) C.1.1 C.1.2.1 C.1.2.2.2.1 (C.1.2.2.2.2 (.constant RJ6 266 (858993459)) (List.mem_of_getElem? (i := 2) rfl)) dJ6_bitCount_0f7a4_11 ?_
  refine lv_iand C.1.1 C.1.2.1 dJ6_bitCount_0f7a4_14 ?_
  refine lv_iload_n C.1.1 C.1.2.1 dJ6_bitCount_0f7a4_15 rfl (lv_at hl 0 rfl) ?_
  refine lv_iconst (v := 2) C.1.1 C.1.2.1 dJ6_bitCount_0f7a4_16 (by decide) ?_
  refine lv_iushr (v := (x1.toUInt32 >>> ((2 : Int32).toUInt32 &&& Int32.toUInt32 31)).toInt32) C.1.1 C.1.2.1 dJ6_bitCount_0f7a4_17 rfl ?_
  refine lv_ldcw (v := 858993459) C.1.1 C.1.2.1 C.1.2.2.2.1 (C.1.2.2.2.2 (.constant RJ6 266 (858993459)) (List.mem_of_getElem? (i := 2) rfl)) dJ6_bitCount_0f7a4_18 ?_
  refine lv_iand C.1.1 C.1.2.1 dJ6_bitCount_0f7a4_21 ?_
  refine lv_iadd C.1.1 C.1.2.1 dJ6_bitCount_0f7a4_22 ?_
  refine ns_namei hf (fun x2 hf => ?_)
  refine lv_istore_n (lv' := [(0, .int x2)]) C.1.1 C.1.2.1 dJ6_bitCount_0f7a4_23 rfl hl (by decide) rfl (fun ls hl => ?_)
  refine lv_iload_n C.1.1 C.1.2.1 dJ6_bitCount_0f7a4_24 rfl (lv_at hl 0 rfl) ?_
  refine lv_iload_n C.1.1 C.1.2.1 dJ6_bitCount_0f7a4_25 rfl (lv_at hl 0 rfl) ?_
  refine lv_iconst (v := 4) C.1.1 C.1.2.1 dJ6_bitCount_0f7a4_26 (by decide) ?_
  refine lv_iushr (v := (x2.toUInt32 >>> ((4 : Int32).toUInt32 &&& Int32.toUInt32 31)).toInt32) C.1.1 C.1.2.1 dJ6_bitCount_0f7a4_27 rfl ?_
  refine lv_iadd C.1.1 C.1.2.1 dJ6_bitCount_0f7a4_28 ?_
  refine lv_ldcw (v := 252645135) C.1.1 C.1.2.1 C.1.2.2.2.1 (C.1.2.2.2.2 (.constant RJ6 267 (252645135)) (List.mem_of_getElem? (i := 3) rfl)) dJ6_bitCount_0f7a4_29 ?_
  refine lv_iand C.1.1 C.1.2.1 dJ6_bitCount_0f7a4_32 ?_
  refine ns_namei hf (fun x3 hf => ?_)
  refine lv_istore_n (lv' := [(0, .int x3)]) C.1.1 C.1.2.1 dJ6_bitCount_0f7a4_33 rfl hl (by decide) rfl (fun ls hl => ?_)
  refine lv_iload_n C.1.1 C.1.2.1 dJ6_bitCount_0f7a4_34 rfl (lv_at hl 0 rfl) ?_
  refine lv_iload_n C.1.1 C.1.2.1 dJ6_bitCount_0f7a4_35 rfl (lv_at hl 0 rfl) ?_
  refine lv_bipush (v := 8) C.1.1 C.1.2.1 dJ6_bitCount_0f7a4_36 (by decide) ?_
  refine lv_iushr (v := (x3.toUInt32 >>> ((8 : Int32).toUInt32 &&& Int32.toUInt32 31)).toInt32) C.1.1 C.1.2.1 dJ6_bitCount_0f7a4_38 rfl ?_
  refine lv_iadd C.1.1 C.1.2.1 dJ6_bitCount_0f7a4_39 ?_
  refine ns_namei hf (fun x4 hf => ?_)
  refine lv_istore_n (lv' := [(0, .int x4)]) C.1.1 C.1.2.1 dJ6_bitCount_0f7a4_40 rfl hl (by decide) rfl (fun ls hl => ?_)
  refine lv_iload_n C.1.1 C.1.2.1 dJ6_bitCount_0f7a4_41 rfl (lv_at hl 0 rfl) ?_
  refine lv_iload_n C.1.1 C.1.2.1 dJ6_bitCount_0f7a4_42 rfl (lv_at hl 0 rfl) ?_
  refine lv_bipush (v := 16) C.1.1 C.1.2.1 dJ6_bitCount_0f7a4_43 (by decide) ?_
  refine lv_iushr (v := (x4.toUInt32 >>> ((16 : Int32).toUInt32 &&& Int32.toUInt32 31)).toInt32) C.1.1 C.1.2.1 dJ6_bitCount_0f7a4_45 rfl ?_
  refine lv_iadd C.1.1 C.1.2.1 dJ6_bitCount_0f7a4_46 ?_
  refine ns_namei hf (fun x5 hf => ?_)
  refine lv_istore_n (lv' := [(0, .int x5)]) C.1.1 C.1.2.1 dJ6_bitCount_0f7a4_47 rfl hl (by decide) rfl (fun ls hl => ?_)
  refine lv_iload_n C.1.1 C.1.2.1 dJ6_bitCount_0f7a4_48 rfl (lv_at hl 0 rfl) ?_
  refine lv_bipush (v := 63) C.1.1 C.1.2.1 dJ6_bitCount_0f7a4_49 (by decide) ?_
  refine lv_iand C.1.1 C.1.2.1 dJ6_bitCount_0f7a4_51 ?_
  have he := Option.some.inj hf
  subst he
  exact ns_iret C w hr hlk rfl rfl dJ6_bitCount_0f7a4_52
/-! NightSchool$Seating.coursesOf(I)I -/
noncomputable def fX7_coursesOf (N : Nat) (v_seating_has : (Nat → Int32)) (p1 : Int32) : Option (Int32) := (ns_ald v_seating_has 30 p1).bind fun x1 => (fJ6_bitCount_0f7a4 N x1).bind fun o2 => some o2
theorem lX7_coursesOf_21 : Cond.fieldLink RX7 21 (TX7 4).1 (TX7 4).2.1 (TX7 4).2.2.1 ∈ wsX7_coursesOf := List.mem_of_getElem? (i := 1) rfl
theorem inX7_coursesOf_7 : ∀ w ∈ u_ws RX7 TX7 5, w ∈ wsX7_coursesOf := fun _ h => List.mem_cons_of_mem _ (List.mem_append_right _ h)
theorem hdX7_coursesOf : yX7_coursesOf.cls = RX7 ∧ yX7_coursesOf.cls ≠ "java/lang/invoke/MethodHandle" ∧ yX7_coursesOf.cls ≠ "java/lang/invoke/VarHandle" ∧ (parseMethodDescriptor yX7_coursesOf.desc).map (fun d => d.parameters.length) = some 1 := by decide +kernel
abbrev wrX7_coursesOf_43 : List (Nat × Nat) := []
abbrev rmX7_coursesOf_43 : Room := { frames := 1, cells := 0, slots := 0, locals := 20 }
set_option maxHeartbeats 4000000 in
set_option maxRecDepth 100000 in
theorem mX7_coursesOf_43 (l : Launch) (D : va_G) (b : Nat → Nat) (ids : List Nat) (hI : ∀ i, i < 107 → i ∈ ids) (N : Nat) (S : ns_S) (p1 : Int32) {o : Int32} (hf : fX7_coursesOf N (S.2.1 47) p1 = some o) : ns_M l yX7_coursesOf wsX7_coursesOf rmX7_coursesOf_43 D b ids S [.ref (b 43), .int p1] (some (.int o)) S := by
  refine ns_start (Wr := wrX7_coursesOf_43) (by decide) rfl (Nat.le_of_ble_eq_true rfl) ?_
  intro p e s m below meth c A ls C hr hlk w hl
  have hl : lv_has ls 2 [(0, .ref (b 43)), (1, .int p1)] := hl
  unfold fX7_coursesOf at hf
  refine lv_aload_n C.1.1 C.1.2.1 dX7_coursesOf_0 rfl (lv_at hl 0 rfl) ?_
  refine ns_getr C w 43 (hI 43 (by decide)) sh_43 (rfl : vwCl[7]? = some (RX7, TX7, 5)) inX7_coursesOf_7 4 (by decide) rfl lX7_coursesOf_21 dX7_coursesOf_1 ?_
  refine lv_iload_n C.1.1 C.1.2.1 dX7_coursesOf_4 rfl (lv_at hl 1 rfl) ?_
  refine ns_iald C w 47 (hI 47 (by decide)) sh_47 hf rfl dX7_coursesOf_5 (fun x1 hf => ?_)
  refine ns_callS C w [.int x1] hf (fun u hu => mJ6_bitCount_0f7a4 l D b ids hI N _ x1 hu) gX7_coursesOf_J6_bitCount_0f7a4 rfl rfl rfl hdJ6_bitCount_0f7a4 ⟨Nat.le_of_ble_eq_true rfl, Nat.le_of_ble_eq_true rfl⟩ (fun u h => h) rfl hl.1 rfl (Nat.le_of_ble_eq_true rfl) ⟨Nat.le_refl _, Nat.le_refl _⟩ dX7_coursesOf_6 (fun o2 H locs hf w => ?_)
  have he := Option.some.inj hf
  subst he
  exact ns_iret C w hr hlk rfl rfl dX7_coursesOf_9
/-! NightSchool$School.reasonFor(II)I -/
noncomputable def fX6_reasonFor (N : Nat) (v_seating_has : (Nat → Int32)) (v_pupils_wishCount : (Nat → Int32)) (v_pupils_wishes : (Nat → Int32)) (v_seating_held : Int32) (v_courses_evening : (Nat → Int32)) (v_courses_count : Int32) (v_pupils_wants : (Nat → Int32)) (p1 : Int32) (p2 : Int32) : Option (Int32) := (fX7_hasCourse N v_seating_has p1 p2).bind fun o1 => (if o1 = 0 then (fX4_rankOf N v_pupils_wishCount v_pupils_wishes p1 p2).bind fun o2 => (if o2 = (-1) then some 1 else (fX7_isHeld N v_seating_held p2).bind fun o3 => (if o3 = 0 then some 2 else (ns_ald v_courses_evening 10 p2).bind fun x4 => (fX6_courseOn N v_courses_count v_courses_evening v_seating_has p1 x4).bind fun o5 => (if o5 = (-1) then (fX7_coursesOf N v_seating_has p1).bind fun o6 => (ns_ald v_pupils_wants 30 p1).bind fun x7 => (if o6 < x7 then some 5 else some 4) else (fX4_rankOf N v_pupils_wishCount v_pupils_wishes p1 o5).bind fun o8 => (if o2 ≤ o8 then some 5 else some 3)))) else some 0)
theorem lX6_reasonFor_21 : Cond.fieldLink RX6 21 (TX6 1).1 (TX6 1).2.1 (TX6 1).2.2.1 ∈ wsX6_reasonFor := List.mem_of_getElem? (i := 3) rfl
theorem lX6_reasonFor_28 : Cond.fieldLink RX6 28 (TX6 2).1 (TX6 2).2.1 (TX6 2).2.2.1 ∈ wsX6_reasonFor := List.mem_of_getElem? (i := 2) rfl
theorem lX6_reasonFor_35 : Cond.fieldLink RX6 35 (TX6 3).1 (TX6 3).2.1 (TX6 3).2.2.1 ∈ wsX6_reasonFor := List.mem_of_getElem? (i := 1) rfl
theorem lX6_reasonFor_76 : Cond.fieldLink RX6 76 (TX0 1).1 (TX0 1).2.1 (TX0 1).2.2.1 ∈ wsX6_reasonFor := List.mem_of_getElem? (i := 4) rfl
theorem lX6_reasonFor_99 : Cond.fieldLink RX6 99 (TX4 3).1 (TX4 3).2.1 (TX4 3).2.2.1 ∈ wsX6_reasonFor := List.mem_of_getElem? (i := 5) rfl
theorem inX6_reasonFor_0 : ∀ w ∈ u_ws RX0 TX0 6, w ∈ wsX6_reasonFor := fun _ h => List.mem_cons_of_mem _ (List.mem_append_left _ (List.mem_append_left _ (List.mem_append_right _ h)))
theorem inX6_reasonFor_4 : ∀ w ∈ u_ws RX4 TX4 6, w ∈ wsX6_reasonFor := fun _ h => List.mem_cons_of_mem _ (List.mem_append_left _ (List.mem_append_right _ h))
theorem inX6_reasonFor_6 : ∀ w ∈ u_ws RX6 TX6 6, w ∈ wsX6_reasonFor := fun _ h => List.mem_cons_of_mem _ (List.mem_append_left _ (List.mem_append_left _ (List.mem_append_left _ (List.mem_append_right _ h))))
theorem hdX6_reasonFor : yX6_reasonFor.cls = RX6 ∧ yX6_reasonFor.cls ≠ "java/lang/invoke/MethodHandle" ∧ yX6_reasonFor.cls ≠ "java/lang/invoke/VarHandle" ∧ (parseMethodDescriptor yX6_reasonFor.desc).map (fun d => d.parameters.length) = some 2 := by decide +kernel
abbrev wrX6_reasonFor_28 : List (Nat × Nat) := []
abbrev rmX6_reasonFor_28 : Room := { frames := 2, cells := 0, slots := 0, locals := 45 }
set_option maxHeartbeats 4000000 in
set_option maxRecDepth 100000 in
theorem mX6_reasonFor_28 (l : Launch) (D : va_G) (b : Nat → Nat) (ids : List Nat) (hI : ∀ i, i < 107 → i ∈ ids) (N : Nat) (S : ns_S) (p1 : Int32) (p2 : Int32) {o : Int32} (hf : fX6_reasonFor N (S.2.1 47) (S.2.1 41) (S.2.1 42) (S.1 2752) (S.2.1 32) (S.1 1984) (S.2.1 40) p1 p2 = some o) : ns_M l yX6_reasonFor wsX6_reasonFor rmX6_reasonFor_28 D b ids S [.ref (b 28), .int p1, .int p2] (some (.int o)) S := by
  refine ns_start (Wr := wrX6_reasonFor_28) (by decide) rfl (Nat.le_of_ble_eq_true rfl) ?_
  intro p e s m below meth c A ls C hr hlk w hl
  have hl : lv_has ls 5 [(0, .ref (b 28)), (1, .int p1), (2, .int p2)] := hl
  unfold fX6_reasonFor at hf
  refine lv_aload_n C.1.1 C.1.2.1 dX6_reasonFor_0 rfl (lv_at hl 0 rfl) ?_
  refine ns_getr C w 28 (hI 28 (by decide)) sh_28 (rfl : vwCl[6]? = some (RX6, TX6, 6)) inX6_reasonFor_6 3 (by decide) rfl lX6_reasonFor_35 dX6_reasonFor_1 ?_
  refine lv_iload_n C.1.1 C.1.2.1 dX6_reasonFor_4 rfl (lv_at hl 1 rfl) ?_
  refine lv_iload_n C.1.1 C.1.2.1 dX6_reasonFor_5 rfl (lv_at hl 2 rfl) ?_
  refine ns_callV C w 43 (hI 43 (by decide)) sh_43 (rfl : vwCl[7]? = some (RX7, TX7, 5)) [.int p1, .int p2] hf (fun u hu => mX7_hasCourse_43 l D b ids hI N _ p1 p2 hu) gX6_reasonFor_X7_hasCourse rfl rfl rfl hdX7_hasCourse ⟨Nat.le_of_ble_eq_true rfl, Nat.le_of_ble_eq_true rfl⟩ (fun u h => h) rfl hl.1 rfl (Nat.le_of_ble_eq_true rfl) ⟨Nat.le_refl _, Nat.le_refl _⟩ dX6_reasonFor_6 (fun o1 H locs hf w => ?_)
  refine ns_if_eq C hf (tgt := 14) dX6_reasonFor_9 (by decide) (fun hf => ?_) (fun hf => ?_)
  · refine lv_aload_n C.1.1 C.1.2.1 dX6_reasonFor_14 rfl (lv_at hl 0 rfl) ?_
    refine ns_getr C w 28 (hI 28 (by decide)) sh_28 (rfl : vwCl[6]? = some (RX6, TX6, 6)) inX6_reasonFor_6 2 (by decide) rfl lX6_reasonFor_28 dX6_reasonFor_15 ?_
    refine lv_iload_n C.1.1 C.1.2.1 dX6_reasonFor_18 rfl (lv_at hl 1 rfl) ?_
    refine lv_iload_n C.1.1 C.1.2.1 dX6_reasonFor_19 rfl (lv_at hl 2 rfl) ?_
    refine ns_callV C w 37 (hI 37 (by decide)) sh_37 (rfl : vwCl[4]? = some (RX4, TX4, 6)) [.int p1, .int p2] hf (fun u hu => mX4_rankOf_37 l D b ids hI N _ p1 p2 hu) gX6_reasonFor_X4_rankOf rfl rfl rfl hdX4_rankOf ⟨Nat.le_of_ble_eq_true rfl, Nat.le_of_ble_eq_true rfl⟩ (fun u h => h) rfl hl.1 rfl (Nat.le_of_ble_eq_true rfl) ⟨Nat.le_refl _, Nat.le_refl _⟩ dX6_reasonFor_20 (fun o2 H locs hf w => ?_)
    refine lv_istore_n (lv' := [(3, .int o2), (0, .ref (b 28)), (1, .int p1), (2, .int p2)]) C.1.1 C.1.2.1 dX6_reasonFor_23 rfl hl (by decide) rfl (fun ls hl => ?_)
    refine lv_iload_n C.1.1 C.1.2.1 dX6_reasonFor_24 rfl (lv_at hl 0 rfl) ?_
    refine lv_iconst (v := (-1)) C.1.1 C.1.2.1 dX6_reasonFor_25 (by decide) ?_
    refine ns_icmp_ne C hf (tgt := 31) dX6_reasonFor_26 (by decide) (fun hf => ?_) (fun hf => ?_)
    · refine lv_aload_n C.1.1 C.1.2.1 dX6_reasonFor_31 rfl (lv_at hl 1 rfl) ?_
      refine ns_getr C w 28 (hI 28 (by decide)) sh_28 (rfl : vwCl[6]? = some (RX6, TX6, 6)) inX6_reasonFor_6 3 (by decide) rfl lX6_reasonFor_35 dX6_reasonFor_32 ?_
      refine lv_iload_n C.1.1 C.1.2.1 dX6_reasonFor_35 rfl (lv_at hl 3 rfl) ?_
      refine ns_callV C w 43 (hI 43 (by decide)) sh_43 (rfl : vwCl[7]? = some (RX7, TX7, 5)) [.int p2] hf (fun u hu => mX7_isHeld_43 l D b ids hI N _ p2 hu) gX6_reasonFor_X7_isHeld rfl rfl rfl hdX7_isHeld ⟨Nat.le_of_ble_eq_true rfl, Nat.le_of_ble_eq_true rfl⟩ (fun u h => h) rfl hl.1 rfl (Nat.le_of_ble_eq_true rfl) ⟨Nat.le_refl _, Nat.le_refl _⟩ dX6_reasonFor_36 (fun o3 H locs hf w => ?_)
      refine ns_if_ne C hf (tgt := 44) dX6_reasonFor_39 (by decide) (fun hf => ?_) (fun hf => ?_)
      · refine lv_aload_n C.1.1 C.1.2.1 dX6_reasonFor_44 rfl (lv_at hl 1 rfl) ?_
        refine lv_iload_n C.1.1 C.1.2.1 dX6_reasonFor_45 rfl (lv_at hl 2 rfl) ?_
        refine lv_aload_n C.1.1 C.1.2.1 dX6_reasonFor_46 rfl (lv_at hl 1 rfl) ?_
        refine ns_getr C w 28 (hI 28 (by decide)) sh_28 (rfl : vwCl[6]? = some (RX6, TX6, 6)) inX6_reasonFor_6 1 (by decide) rfl lX6_reasonFor_21 dX6_reasonFor_47 ?_
        refine ns_getr C w 31 (hI 31 (by decide)) sh_31 (rfl : vwCl[0]? = some (RX0, TX0, 6)) inX6_reasonFor_0 1 (by decide) rfl lX6_reasonFor_76 dX6_reasonFor_50 ?_
        refine lv_iload_n C.1.1 C.1.2.1 dX6_reasonFor_53 rfl (lv_at hl 3 rfl) ?_
        refine ns_iald C w 32 (hI 32 (by decide)) sh_32 hf rfl dX6_reasonFor_54 (fun x4 hf => ?_)
        refine ns_callV C w 28 (hI 28 (by decide)) sh_28 (rfl : vwCl[6]? = some (RX6, TX6, 6)) [.int p1, .int x4] hf (fun u hu => mX6_courseOn_28 l D b ids hI N _ p1 x4 hu) gX6_reasonFor_X6_courseOn rfl rfl rfl hdX6_courseOn ⟨Nat.le_of_ble_eq_true rfl, Nat.le_of_ble_eq_true rfl⟩ (fun u h => h) rfl hl.1 rfl (Nat.le_of_ble_eq_true rfl) ⟨Nat.le_refl _, Nat.le_refl _⟩ dX6_reasonFor_55 (fun o5 H locs hf w => ?_)
        refine lv_istore (lv' := [(4, .int o5), (3, .int o2), (0, .ref (b 28)), (1, .int p1), (2, .int p2)]) C.1.1 C.1.2.1 dX6_reasonFor_58 hl (by decide) rfl (fun ls hl => ?_)
        refine lv_iload C.1.1 C.1.2.1 dX6_reasonFor_60 (lv_at hl 0 rfl) ?_
        refine lv_iconst (v := (-1)) C.1.1 C.1.2.1 dX6_reasonFor_62 (by decide) ?_
        refine ns_icmp_eq C hf (tgt := 86) dX6_reasonFor_63 (by decide) (fun hf => ?_) (fun hf => ?_)
        · refine lv_aload_n C.1.1 C.1.2.1 dX6_reasonFor_86 rfl (lv_at hl 2 rfl) ?_
          refine ns_getr C w 28 (hI 28 (by decide)) sh_28 (rfl : vwCl[6]? = some (RX6, TX6, 6)) inX6_reasonFor_6 3 (by decide) rfl lX6_reasonFor_35 dX6_reasonFor_87 ?_
          refine lv_iload_n C.1.1 C.1.2.1 dX6_reasonFor_90 rfl (lv_at hl 3 rfl) ?_
          refine ns_callV C w 43 (hI 43 (by decide)) sh_43 (rfl : vwCl[7]? = some (RX7, TX7, 5)) [.int p1] hf (fun u hu => mX7_coursesOf_43 l D b ids hI N _ p1 hu) gX6_reasonFor_X7_coursesOf rfl rfl rfl hdX7_coursesOf ⟨Nat.le_of_ble_eq_true rfl, Nat.le_of_ble_eq_true rfl⟩ (fun u h => h) rfl hl.1 rfl (Nat.le_of_ble_eq_true rfl) ⟨Nat.le_refl _, Nat.le_refl _⟩ dX6_reasonFor_91 (fun o6 H locs hf w => ?_)
          refine lv_aload_n C.1.1 C.1.2.1 dX6_reasonFor_94 rfl (lv_at hl 2 rfl) ?_
          refine ns_getr C w 28 (hI 28 (by decide)) sh_28 (rfl : vwCl[6]? = some (RX6, TX6, 6)) inX6_reasonFor_6 2 (by decide) rfl lX6_reasonFor_28 dX6_reasonFor_95 ?_
          refine ns_getr C w 37 (hI 37 (by decide)) sh_37 (rfl : vwCl[4]? = some (RX4, TX4, 6)) inX6_reasonFor_4 3 (by decide) rfl lX6_reasonFor_99 dX6_reasonFor_98 ?_
          refine lv_iload_n C.1.1 C.1.2.1 dX6_reasonFor_101 rfl (lv_at hl 3 rfl) ?_
          refine ns_iald C w 40 (hI 40 (by decide)) sh_40 hf rfl dX6_reasonFor_102 (fun x7 hf => ?_)
          refine ns_icmp_lt C hf (tgt := 110) dX6_reasonFor_103 (by decide) (fun hf => ?_) (fun hf => ?_)
          · refine lv_iconst (v := 5) C.1.1 C.1.2.1 dX6_reasonFor_110 (by decide) ?_
            have he := Option.some.inj hf
            subst he
            exact ns_iret C w hr hlk rfl rfl dX6_reasonFor_111
          · refine lv_iconst (v := 4) C.1.1 C.1.2.1 dX6_reasonFor_106 (by decide) ?_
            refine lv_goto (tgt := 111) C.1.1 C.1.2.1 dX6_reasonFor_107 (by decide) ?_
            have he := Option.some.inj hf
            subst he
            exact ns_iret C w hr hlk rfl rfl dX6_reasonFor_111
        · refine lv_aload_n C.1.1 C.1.2.1 dX6_reasonFor_66 rfl (lv_at hl 2 rfl) ?_
          refine ns_getr C w 28 (hI 28 (by decide)) sh_28 (rfl : vwCl[6]? = some (RX6, TX6, 6)) inX6_reasonFor_6 2 (by decide) rfl lX6_reasonFor_28 dX6_reasonFor_67 ?_
          refine lv_iload_n C.1.1 C.1.2.1 dX6_reasonFor_70 rfl (lv_at hl 3 rfl) ?_
          refine lv_iload C.1.1 C.1.2.1 dX6_reasonFor_71 (lv_at hl 0 rfl) ?_
          refine ns_callV C w 37 (hI 37 (by decide)) sh_37 (rfl : vwCl[4]? = some (RX4, TX4, 6)) [.int p1, .int o5] hf (fun u hu => mX4_rankOf_37 l D b ids hI N _ p1 o5 hu) gX6_reasonFor_X4_rankOf rfl rfl rfl hdX4_rankOf ⟨Nat.le_of_ble_eq_true rfl, Nat.le_of_ble_eq_true rfl⟩ (fun u h => h) rfl hl.1 rfl (Nat.le_of_ble_eq_true rfl) ⟨Nat.le_refl _, Nat.le_refl _⟩ dX6_reasonFor_73 (fun o8 H locs hf w => ?_)
          refine lv_iload_n C.1.1 C.1.2.1 dX6_reasonFor_76 rfl (lv_at hl 1 rfl) ?_
          refine ns_icmp_ge C hf (tgt := 84) dX6_reasonFor_77 (by decide) (fun hf => ?_) (fun hf => ?_)
          · refine lv_iconst (v := 5) C.1.1 C.1.2.1 dX6_reasonFor_84 (by decide) ?_
            have he := Option.some.inj hf
            subst he
            exact ns_iret C w hr hlk rfl rfl dX6_reasonFor_85
          · refine lv_iconst (v := 3) C.1.1 C.1.2.1 dX6_reasonFor_80 (by decide) ?_
            refine lv_goto (tgt := 85) C.1.1 C.1.2.1 dX6_reasonFor_81 (by decide) ?_
            have he := Option.some.inj hf
            subst he
            exact ns_iret C w hr hlk rfl rfl dX6_reasonFor_85
      · refine lv_iconst (v := 2) C.1.1 C.1.2.1 dX6_reasonFor_42 (by decide) ?_
        have he := Option.some.inj hf
        subst he
        exact ns_iret C w hr hlk rfl rfl dX6_reasonFor_43
    · refine lv_iconst (v := 1) C.1.1 C.1.2.1 dX6_reasonFor_29 (by decide) ?_
      have he := Option.some.inj hf
      subst he
      exact ns_iret C w hr hlk rfl rfl dX6_reasonFor_30
  · refine lv_iconst (v := 0) C.1.1 C.1.2.1 dX6_reasonFor_12 (by decide) ?_
    have he := Option.some.inj hf
    subst he
    exact ns_iret C w hr hlk rfl rfl dX6_reasonFor_13
