theorem lX11_person_45 : Cond.fieldLink RX11 45 (TX11 13).1 (TX11 13).2.1 (TX11 13).2.2.1 ∈ wsX11_person := List.mem_of_getElem? (i := 2) rfl
theorem lX11_person_48 : Cond.fieldLink RX11 48 (TX11 14).1 (TX11 14).2.1 (TX11 14).2.2.1 ∈ wsX11_person := List.mem_of_getElem? (i := 3) rfl
theorem lX11_person_51 : Cond.fieldLink RX11 51 (TX11 15).1 (TX11 15).2.1 (TX11 15).2.2.1 ∈ wsX11_person := List.mem_of_getElem? (i := 4) rfl
theorem lX11_person_54 : Cond.fieldLink RX11 54 (TX11 16).1 (TX11 16).2.1 (TX11 16).2.2.1 ∈ wsX11_person := List.mem_of_getElem? (i := 6) rfl
theorem lX11_person_57 : Cond.fieldLink RX11 57 (TX11 17).1 (TX11 17).2.1 (TX11 17).2.2.1 ∈ wsX11_person := List.mem_of_getElem? (i := 8) rfl
theorem lX11_person_75 : Cond.fieldLink RX11 75 (TX11 23).1 (TX11 23).2.1 (TX11 23).2.2.1 ∈ wsX11_person := List.mem_of_getElem? (i := 5) rfl
theorem lX11_person_78 : Cond.fieldLink RX11 78 (TX11 24).1 (TX11 24).2.1 (TX11 24).2.2.1 ∈ wsX11_person := List.mem_of_getElem? (i := 7) rfl
theorem lX11_person_179 : Cond.fieldLink RX11 179 (TX11 0).1 (TX11 0).2.1 (TX11 0).2.2.1 ∈ wsX11_person := List.mem_of_getElem? (i := 1) rfl
theorem inX11_person_11 : ∀ w ∈ u_ws RX11 TX11 59, w ∈ wsX11_person := fun _ h => List.mem_cons_of_mem _ (List.mem_append_right _ h)
theorem hdX11_person : yX11_person.cls = RX11 ∧ yX11_person.cls ≠ "java/lang/invoke/MethodHandle" ∧ yX11_person.cls ≠ "java/lang/invoke/VarHandle" ∧ (parseMethodDescriptor yX11_person.desc).map (fun d => d.parameters.length) = some 2 := by decide +kernel
abbrev wrX11_person_62 : List (Nat × Nat) := [(0, 3968)]
abbrev rmX11_person_62 : Room := { frames := 2, cells := 0, slots := 0, locals := 43 }
set_option maxHeartbeats 4000000 in
set_option maxRecDepth 100000 in
theorem mX11_person_62 (l : Launch) (D : va_G) (b : Nat → Nat) (ids : List Nat) (hI : ∀ i, i < 107 → i ∈ ids) (N : Nat) (S : ns_S) (p1 : Int32) (p2 : Int32) {o : Int32 × Int32} (hf : fX11_person N (S.1 3968) (S.2.1 73) (S.2.1 74) (S.2.1 75) (S.2.1 76) (S.2.1 84) (S.2.1 77) (S.2.1 78) (S.2.1 85) (S.2.1 67) (S.2.1 68) p1 p2 = some o) : ns_M l yX11_person wsX11_person rmX11_person_62 D b ids S [.ref (b 62), .int p1, .int p2] (some (.int o.1)) (ns_I S 3968 o.2) := by
  refine ns_start (Wr := wrX11_person_62) (by decide) rfl (Nat.le_of_ble_eq_true rfl) ?_
  intro p e s m below meth c A ls C hr hlk w hl
  have hl : lv_has ls 3 [(0, .ref (b 62)), (1, .int p1), (2, .int p2)] := hl
  unfold fX11_person at hf
  refine lv_aload_n C.1.1 C.1.2.1 dX11_person_0 rfl (lv_at hl 0 rfl) ?_
  refine lv_iconst (v := 0) C.1.1 C.1.2.1 dX11_person_1 (by decide) ?_
  refine ns_puti C w 62 (hI 62 (by decide)) sh_62 (rfl : vwCl[11]? = some (RX11, TX11, 59)) inX11_person_11 tyX11_ok nmX11 0 (by decide) rfl lX11_person_179 rfl rfl rfl (List.mem_of_getElem? (i := 0) rfl) dX11_person_2 (fun H locs w => ?_)
  refine lv_aload_n C.1.1 C.1.2.1 dX11_person_5 rfl (lv_at hl 0 rfl) ?_
  refine lv_iload_n C.1.1 C.1.2.1 dX11_person_6 rfl (lv_at hl 1 rfl) ?_
  refine ns_callV C w 62 (hI 62 (by decide)) sh_62 (rfl : vwCl[11]? = some (RX11, TX11, 59)) [.int p1] hf (fun u hu => mX11_isPupil_62 l D b ids hI N _ p1 hu) gX11_person_X11_isPupil rfl rfl rfl hdX11_isPupil ⟨Nat.le_of_ble_eq_true rfl, Nat.le_of_ble_eq_true rfl⟩ (fun u h => h) rfl hl.1 rfl (Nat.le_of_ble_eq_true rfl) ⟨Nat.le_refl _, Nat.le_refl _⟩ dX11_person_7 (fun o1 H locs hf w => ?_)
  refine ns_if_ne C hf (tgt := 15) dX11_person_10 (by decide) (fun hf => ?_) (fun hf => ?_)
  · refine lv_iload_n C.1.1 C.1.2.1 dX11_person_15 rfl (lv_at hl 2 rfl) ?_
    by_cases h_0 : p2 = 0
    · rw [if_pos h_0] at hf
      refine lv_tableIn (tgt := 60) C.1.1 C.1.2.1 dX11_person_16 (by rw [h_0]; decide) (by rw [h_0]; decide) (by rw [h_0]; rfl) (by decide) ?_
      refine lv_aload_n C.1.1 C.1.2.1 dX11_person_60 rfl (lv_at hl 0 rfl) ?_
      refine ns_getr C w 62 (hI 62 (by decide)) sh_62 (rfl : vwCl[11]? = some (RX11, TX11, 59)) inX11_person_11 13 (by decide) rfl lX11_person_45 dX11_person_61 ?_
      refine lv_iload_n C.1.1 C.1.2.1 dX11_person_64 rfl (lv_at hl 1 rfl) ?_
      refine ns_iald C w 74 (hI 74 (by decide)) sh_74 hf rfl dX11_person_65 (fun x2 hf => ?_)
      have he := Option.some.inj hf
      subst he
      exact ns_iret C w hr hlk rfl rfl dX11_person_66
    rw [if_neg h_0] at hf
    by_cases h_1 : p2 = 1
    · rw [if_pos h_1] at hf
      refine lv_tableIn (tgt := 67) C.1.1 C.1.2.1 dX11_person_16 (by rw [h_1]; decide) (by rw [h_1]; decide) (by rw [h_1]; rfl) (by decide) ?_
      refine lv_aload_n C.1.1 C.1.2.1 dX11_person_67 rfl (lv_at hl 0 rfl) ?_
      refine ns_getr C w 62 (hI 62 (by decide)) sh_62 (rfl : vwCl[11]? = some (RX11, TX11, 59)) inX11_person_11 14 (by decide) rfl lX11_person_48 dX11_person_68 ?_
      refine lv_iload_n C.1.1 C.1.2.1 dX11_person_71 rfl (lv_at hl 1 rfl) ?_
      refine ns_iald C w 75 (hI 75 (by decide)) sh_75 hf rfl dX11_person_72 (fun x3 hf => ?_)
      have he := Option.some.inj hf
      subst he
      exact ns_iret C w hr hlk rfl rfl dX11_person_73
    rw [if_neg h_1] at hf
    by_cases h_2 : p2 = 2
    · rw [if_pos h_2] at hf
      refine lv_tableIn (tgt := 74) C.1.1 C.1.2.1 dX11_person_16 (by rw [h_2]; decide) (by rw [h_2]; decide) (by rw [h_2]; rfl) (by decide) ?_
      refine lv_aload_n C.1.1 C.1.2.1 dX11_person_74 rfl (lv_at hl 0 rfl) ?_
      refine ns_getr C w 62 (hI 62 (by decide)) sh_62 (rfl : vwCl[11]? = some (RX11, TX11, 59)) inX11_person_11 15 (by decide) rfl lX11_person_51 dX11_person_75 ?_
      refine lv_iload_n C.1.1 C.1.2.1 dX11_person_78 rfl (lv_at hl 1 rfl) ?_
      refine ns_iald C w 76 (hI 76 (by decide)) sh_76 hf rfl dX11_person_79 (fun x4 hf => ?_)
      have he := Option.some.inj hf
      subst he
      exact ns_iret C w hr hlk rfl rfl dX11_person_80
    rw [if_neg h_2] at hf
    by_cases h_3 : p2 = 3
    · rw [if_pos h_3] at hf
      refine lv_tableIn (tgt := 81) C.1.1 C.1.2.1 dX11_person_16 (by rw [h_3]; decide) (by rw [h_3]; decide) (by rw [h_3]; rfl) (by decide) ?_
      refine lv_aload_n C.1.1 C.1.2.1 dX11_person_81 rfl (lv_at hl 0 rfl) ?_
      refine ns_getr C w 62 (hI 62 (by decide)) sh_62 (rfl : vwCl[11]? = some (RX11, TX11, 59)) inX11_person_11 23 (by decide) rfl lX11_person_75 dX11_person_82 ?_
      refine lv_iload_n C.1.1 C.1.2.1 dX11_person_85 rfl (lv_at hl 1 rfl) ?_
      refine ns_iald C w 84 (hI 84 (by decide)) sh_84 hf rfl dX11_person_86 (fun x5 hf => ?_)
      have he := Option.some.inj hf
      subst he
      exact ns_iret C w hr hlk rfl rfl dX11_person_87
    rw [if_neg h_3] at hf
    by_cases h_4 : p2 = 4
    · rw [if_pos h_4] at hf
      refine lv_tableIn (tgt := 88) C.1.1 C.1.2.1 dX11_person_16 (by rw [h_4]; decide) (by rw [h_4]; decide) (by rw [h_4]; rfl) (by decide) ?_
      refine lv_aload_n C.1.1 C.1.2.1 dX11_person_88 rfl (lv_at hl 0 rfl) ?_
      refine ns_getr C w 62 (hI 62 (by decide)) sh_62 (rfl : vwCl[11]? = some (RX11, TX11, 59)) inX11_person_11 16 (by decide) rfl lX11_person_54 dX11_person_89 ?_
      refine lv_iload_n C.1.1 C.1.2.1 dX11_person_92 rfl (lv_at hl 1 rfl) ?_
      refine ns_iald C w 77 (hI 77 (by decide)) sh_77 hf rfl dX11_person_93 (fun x6 hf => ?_)
      have he := Option.some.inj hf
      subst he
      exact ns_iret C w hr hlk rfl rfl dX11_person_94
    rw [if_neg h_4] at hf
    by_cases h_5 : p2 = 5
    · rw [if_pos h_5] at hf
      refine lv_tableIn (tgt := 95) C.1.1 C.1.2.1 dX11_person_16 (by rw [h_5]; decide) (by rw [h_5]; decide) (by rw [h_5]; rfl) (by decide) ?_
      refine lv_aload_n C.1.1 C.1.2.1 dX11_person_95 rfl (lv_at hl 0 rfl) ?_
      refine lv_iload_n C.1.1 C.1.2.1 dX11_person_96 rfl (lv_at hl 1 rfl) ?_
      refine ns_callV C w 62 (hI 62 (by decide)) sh_62 (rfl : vwCl[11]? = some (RX11, TX11, 59)) [.int p1] hf (fun u hu => mX11_pointsOf_62 l D b ids hI N _ p1 hu) gX11_person_X11_pointsOf rfl rfl rfl hdX11_pointsOf ⟨Nat.le_of_ble_eq_true rfl, Nat.le_of_ble_eq_true rfl⟩ (fun u h => h) rfl hl.1 rfl (Nat.le_of_ble_eq_true rfl) ⟨Nat.le_refl _, Nat.le_refl _⟩ dX11_person_97 (fun o7 H locs hf w => ?_)
      have he := Option.some.inj hf
      subst he
      exact ns_iret C w hr hlk rfl rfl dX11_person_100
    rw [if_neg h_5] at hf
    by_cases h_6 : p2 = 6
    · rw [if_pos h_6] at hf
      refine lv_tableIn (tgt := 101) C.1.1 C.1.2.1 dX11_person_16 (by rw [h_6]; decide) (by rw [h_6]; decide) (by rw [h_6]; rfl) (by decide) ?_
      refine lv_aload_n C.1.1 C.1.2.1 dX11_person_101 rfl (lv_at hl 0 rfl) ?_
      refine ns_getr C w 62 (hI 62 (by decide)) sh_62 (rfl : vwCl[11]? = some (RX11, TX11, 59)) inX11_person_11 24 (by decide) rfl lX11_person_78 dX11_person_102 ?_
      refine lv_iload_n C.1.1 C.1.2.1 dX11_person_105 rfl (lv_at hl 1 rfl) ?_
      refine ns_iald C w 85 (hI 85 (by decide)) sh_85 hf rfl dX11_person_106 (fun x8 hf => ?_)
      have he := Option.some.inj hf
      subst he
      exact ns_iret C w hr hlk rfl rfl dX11_person_107
    rw [if_neg h_6] at hf
    refine lv_tableOut (tgt := 108) C.1.1 C.1.2.1 dX11_person_16 (ns_out (by decide) (by decide) (fun k h1 h2 => ?_)) (by decide) ?_
    · rcases (by omega : k = 0 ∨ k = 1 ∨ k = 2 ∨ k = 3 ∨ k = 4 ∨ k = 5 ∨ k = 6) with rfl | rfl | rfl | rfl | rfl | rfl | rfl
      · exact h_0
      · exact h_1
      · exact h_2
      · exact h_3
      · exact h_4
      · exact h_5
      · exact h_6
    · refine lv_iload_n C.1.1 C.1.2.1 dX11_person_108 rfl (lv_at hl 2 rfl) ?_
      refine lv_bipush (v := 10) C.1.1 C.1.2.1 dX11_person_109 (by decide) ?_
      refine lv_bipush (v := 9) C.1.1 C.1.2.1 dX11_person_111 (by decide) ?_
      refine lv_aload_n C.1.1 C.1.2.1 dX11_person_113 rfl (lv_at hl 0 rfl) ?_
      refine ns_getr C w 62 (hI 62 (by decide)) sh_62 (rfl : vwCl[11]? = some (RX11, TX11, 59)) inX11_person_11 16 (by decide) rfl lX11_person_54 dX11_person_114 ?_
      refine lv_iload_n C.1.1 C.1.2.1 dX11_person_117 rfl (lv_at hl 1 rfl) ?_
      refine ns_iald C w 77 (hI 77 (by decide)) sh_77 hf rfl dX11_person_118 (fun x9 hf => ?_)
      refine lv_iadd C.1.1 C.1.2.1 dX11_person_119 ?_
      refine ns_callS C w [.int p2, .int 10, .int (9 + x9)] hf (fun u hu => mX11_in l D b ids hI N _ p2 10 (9 + x9) hu) gX11_person_X11_in rfl rfl rfl hdX11_in ⟨Nat.le_of_ble_eq_true rfl, Nat.le_of_ble_eq_true rfl⟩ (fun u h => h) rfl hl.1 rfl (Nat.le_of_ble_eq_true rfl) ⟨Nat.le_refl _, Nat.le_refl _⟩ dX11_person_120 (fun o10 H locs hf w => ?_)
      refine ns_if_eq C hf (tgt := 141) dX11_person_123 (by decide) (fun hf => ?_) (fun hf => ?_)
      · refine lv_iload_n C.1.1 C.1.2.1 dX11_person_141 rfl (lv_at hl 2 rfl) ?_
        refine lv_bipush (v := 20) C.1.1 C.1.2.1 dX11_person_142 (by decide) ?_
        refine lv_bipush (v := 24) C.1.1 C.1.2.1 dX11_person_144 (by decide) ?_
        refine ns_callS C w [.int p2, .int 20, .int 24] hf (fun u hu => mX11_in l D b ids hI N _ p2 20 24 hu) gX11_person_X11_in rfl rfl rfl hdX11_in ⟨Nat.le_of_ble_eq_true rfl, Nat.le_of_ble_eq_true rfl⟩ (fun u h => h) rfl hl.1 rfl (Nat.le_of_ble_eq_true rfl) ⟨Nat.le_refl _, Nat.le_refl _⟩ dX11_person_146 (fun o11 H locs hf w => ?_)
        refine ns_if_eq C hf (tgt := 164) dX11_person_149 (by decide) (fun hf => ?_) (fun hf => ?_)
        · refine lv_iconst (v := (-1)) C.1.1 C.1.2.1 dX11_person_164 (by decide) ?_
          have he := Option.some.inj hf
          subst he
          exact ns_iret C w hr hlk rfl rfl dX11_person_165
        · refine lv_aload_n C.1.1 C.1.2.1 dX11_person_152 rfl (lv_at hl 0 rfl) ?_
          refine lv_iload_n C.1.1 C.1.2.1 dX11_person_153 rfl (lv_at hl 1 rfl) ?_
          refine lv_iload_n C.1.1 C.1.2.1 dX11_person_154 rfl (lv_at hl 2 rfl) ?_
          refine lv_bipush (v := 20) C.1.1 C.1.2.1 dX11_person_155 (by decide) ?_
          refine lv_isub C.1.1 C.1.2.1 dX11_person_157 ?_
          refine ns_callV C w 62 (hI 62 (by decide)) sh_62 (rfl : vwCl[11]? = some (RX11, TX11, 59)) [.int p1, .int (p2 - 20)] hf (fun u hu => mX11_on_62 l D b ids hI N _ p1 (p2 - 20) hu) gX11_person_X11_on rfl rfl rfl hdX11_on ⟨Nat.le_of_ble_eq_true rfl, Nat.le_of_ble_eq_true rfl⟩ (fun u h => h) rfl hl.1 rfl (Nat.le_of_ble_eq_true rfl) ⟨Nat.le_refl _, Nat.le_refl _⟩ dX11_person_158 (fun o12 H locs hf w => ?_)
          refine lv_goto (tgt := 165) C.1.1 C.1.2.1 dX11_person_161 (by decide) ?_
          have he := Option.some.inj hf
          subst he
          exact ns_iret C w hr hlk rfl rfl dX11_person_165
      · refine lv_aload_n C.1.1 C.1.2.1 dX11_person_126 rfl (lv_at hl 0 rfl) ?_
        refine ns_getr C w 62 (hI 62 (by decide)) sh_62 (rfl : vwCl[11]? = some (RX11, TX11, 59)) inX11_person_11 17 (by decide) rfl lX11_person_57 dX11_person_127 ?_
        refine lv_bipush (v := 6) C.1.1 C.1.2.1 dX11_person_130 (by decide) ?_
        refine lv_iload_n C.1.1 C.1.2.1 dX11_person_132 rfl (lv_at hl 1 rfl) ?_
        refine lv_imul C.1.1 C.1.2.1 dX11_person_133 ?_
        refine lv_iload_n C.1.1 C.1.2.1 dX11_person_134 rfl (lv_at hl 2 rfl) ?_
        refine lv_iadd C.1.1 C.1.2.1 dX11_person_135 ?_
        refine lv_bipush (v := 10) C.1.1 C.1.2.1 dX11_person_136 (by decide) ?_
        refine lv_isub C.1.1 C.1.2.1 dX11_person_138 ?_
        refine ns_iald C w 78 (hI 78 (by decide)) sh_78 hf rfl dX11_person_139 (fun x13 hf => ?_)
        have he := Option.some.inj hf
        subst he
        exact ns_iret C w hr hlk rfl rfl dX11_person_140
  · refine lv_iconst (v := (-1)) C.1.1 C.1.2.1 dX11_person_13 (by decide) ?_
    have he := Option.some.inj hf
    subst he
    exact ns_iret C w hr hlk rfl rfl dX11_person_14
theorem lX10_why_30 : Cond.fieldLink RX10 30 (TX10 4).1 (TX10 4).2.1 (TX10 4).2.2.1 ∈ wsX10_why := List.mem_of_getElem? (i := 1) rfl
theorem inX10_why_10 : ∀ w ∈ u_ws RX10 TX10 6, w ∈ wsX10_why := fun _ h => List.mem_cons_of_mem _ (List.mem_append_left _ (List.mem_append_left _ (List.mem_append_left _ (List.mem_append_left _ (List.mem_append_right _ h)))))
theorem hdX10_why : yX10_why.cls = RX10 ∧ yX10_why.cls ≠ "java/lang/invoke/MethodHandle" ∧ yX10_why.cls ≠ "java/lang/invoke/VarHandle" ∧ (parseMethodDescriptor yX10_why.desc).map (fun d => d.parameters.length) = some 2 := by decide +kernel
abbrev wrX10_why_0 : List (Nat × Nat) := []
abbrev rmX10_why_0 : Room := { frames := 3, cells := 0, slots := 0, locals := 69 }
set_option maxHeartbeats 4000000 in
set_option maxRecDepth 100000 in
theorem mX10_why_0 (l : Launch) (D : va_G) (b : Nat → Nat) (ids : List Nat) (hI : ∀ i, i < 107 → i ∈ ids) (N : Nat) (S : ns_S) (p1 : Int32) (p2 : Int32) {o : Int32} (hf : fX10_why N (S.1 2368) (S.1 1984) (S.2.1 47) (S.2.1 41) (S.2.1 42) (S.1 2752) (S.2.1 32) (S.2.1 40) p1 p2 = some o) : ns_M l yX10_why wsX10_why rmX10_why_0 D b ids S [.ref (b 0), .int p1, .int p2] (some (.int o)) S := by
  refine ns_start (Wr := wrX10_why_0) (by decide) rfl (Nat.le_of_ble_eq_true rfl) ?_
  intro p e s m below meth c A ls C hr hlk w hl
  have hl : lv_has ls 3 [(0, .ref (b 0)), (1, .int p1), (2, .int p2)] := hl
  unfold fX10_why at hf
  refine lv_aload_n C.1.1 C.1.2.1 dX10_why_0 rfl (lv_at hl 0 rfl) ?_
  refine lv_iload_n C.1.1 C.1.2.1 dX10_why_1 rfl (lv_at hl 1 rfl) ?_
  refine ns_callV C w 0 (hI 0 (by decide)) sh_0 (rfl : vwCl[10]? = some (RX10, TX10, 6)) [.int p1] hf (fun u hu => mX10_isPupil_0 l D b ids hI N _ p1 hu) gX10_why_X10_isPupil rfl rfl rfl hdX10_isPupil ⟨Nat.le_of_ble_eq_true rfl, Nat.le_of_ble_eq_true rfl⟩ (fun u h => h) rfl hl.1 rfl (Nat.le_of_ble_eq_true rfl) ⟨Nat.le_refl _, Nat.le_refl _⟩ dX10_why_2 (fun o1 H locs hf w => ?_)
  refine ns_if_eq C hf (tgt := 28) dX10_why_5 (by decide) (fun hf => ?_) (fun hf => ?_)
  · refine lv_iconst (v := (-1)) C.1.1 C.1.2.1 dX10_why_28 (by decide) ?_
    have he := Option.some.inj hf
    subst he
    exact ns_iret C w hr hlk rfl rfl dX10_why_29
  · refine lv_aload_n C.1.1 C.1.2.1 dX10_why_8 rfl (lv_at hl 0 rfl) ?_
    refine lv_iload_n C.1.1 C.1.2.1 dX10_why_9 rfl (lv_at hl 2 rfl) ?_
    refine ns_callV C w 0 (hI 0 (by decide)) sh_0 (rfl : vwCl[10]? = some (RX10, TX10, 6)) [.int p2] hf (fun u hu => mX10_isCourse_0 l D b ids hI N _ p2 hu) gX10_why_X10_isCourse rfl rfl rfl hdX10_isCourse ⟨Nat.le_of_ble_eq_true rfl, Nat.le_of_ble_eq_true rfl⟩ (fun u h => h) rfl hl.1 rfl (Nat.le_of_ble_eq_true rfl) ⟨Nat.le_refl _, Nat.le_refl _⟩ dX10_why_10 (fun o2 H locs hf w => ?_)
    refine ns_if_eq C hf (tgt := 28) dX10_why_13 (by decide) (fun hf => ?_) (fun hf => ?_)
    · refine lv_iconst (v := (-1)) C.1.1 C.1.2.1 dX10_why_28 (by decide) ?_
      have he := Option.some.inj hf
      subst he
      exact ns_iret C w hr hlk rfl rfl dX10_why_29
    · refine lv_aload_n C.1.1 C.1.2.1 dX10_why_16 rfl (lv_at hl 0 rfl) ?_
      refine ns_getr C w 0 (hI 0 (by decide)) sh_0 (rfl : vwCl[10]? = some (RX10, TX10, 6)) inX10_why_10 4 (by decide) rfl lX10_why_30 dX10_why_17 ?_
      refine lv_iload_n C.1.1 C.1.2.1 dX10_why_20 rfl (lv_at hl 1 rfl) ?_
      refine lv_iload_n C.1.1 C.1.2.1 dX10_why_21 rfl (lv_at hl 2 rfl) ?_
      refine ns_callV C w 28 (hI 28 (by decide)) sh_28 (rfl : vwCl[6]? = some (RX6, TX6, 6)) [.int p1, .int p2] hf (fun u hu => mX6_reasonFor_28 l D b ids hI N _ p1 p2 hu) gX10_why_X6_reasonFor rfl rfl rfl hdX6_reasonFor ⟨Nat.le_of_ble_eq_true rfl, Nat.le_of_ble_eq_true rfl⟩ (fun u h => h) rfl hl.1 rfl (Nat.le_of_ble_eq_true rfl) ⟨Nat.le_refl _, Nat.le_refl _⟩ dX10_why_22 (fun o3 H locs hf w => ?_)
      refine lv_goto (tgt := 29) C.1.1 C.1.2.1 dX10_why_25 (by decide) ?_
      have he := Option.some.inj hf
      subst he
      exact ns_iret C w hr hlk rfl rfl dX10_why_29
theorem lX11_why_179 : Cond.fieldLink RX11 179 (TX11 0).1 (TX11 0).2.1 (TX11 0).2.2.1 ∈ wsX11_why := List.mem_of_getElem? (i := 1) rfl
theorem inX11_why_11 : ∀ w ∈ u_ws RX11 TX11 59, w ∈ wsX11_why := fun _ h => List.mem_cons_of_mem _ (List.mem_append_right _ h)
theorem hdX11_why : yX11_why.cls = RX11 ∧ yX11_why.cls ≠ "java/lang/invoke/MethodHandle" ∧ yX11_why.cls ≠ "java/lang/invoke/VarHandle" ∧ (parseMethodDescriptor yX11_why.desc).map (fun d => d.parameters.length) = some 2 := by decide +kernel
abbrev wrX11_why_62 : List (Nat × Nat) := [(0, 3968)]
abbrev rmX11_why_62 : Room := { frames := 2, cells := 0, slots := 0, locals := 46 }
set_option maxHeartbeats 4000000 in
set_option maxRecDepth 100000 in
theorem mX11_why_62 (l : Launch) (D : va_G) (b : Nat → Nat) (ids : List Nat) (hI : ∀ i, i < 107 → i ∈ ids) (N : Nat) (S : ns_S) (p1 : Int32) (p2 : Int32) {o : Int32 × Int32} (hf : fX11_why N (S.1 3968) (S.2.1 73) (S.2.1 67) (S.2.1 84) (S.2.1 77) (S.2.1 78) (S.2.1 80) (S.2.1 68) (S.2.1 76) (S.2.1 82) p1 p2 = some o) : ns_M l yX11_why wsX11_why rmX11_why_62 D b ids S [.ref (b 62), .int p1, .int p2] (some (.int o.1)) (ns_I S 3968 o.2) := by
  refine ns_start (Wr := wrX11_why_62) (by decide) rfl (Nat.le_of_ble_eq_true rfl) ?_
  intro p e s m below meth c A ls C hr hlk w hl
  have hl : lv_has ls 3 [(0, .ref (b 62)), (1, .int p1), (2, .int p2)] := hl
  unfold fX11_why at hf
  refine lv_aload_n C.1.1 C.1.2.1 dX11_why_0 rfl (lv_at hl 0 rfl) ?_
  refine lv_iconst (v := 0) C.1.1 C.1.2.1 dX11_why_1 (by decide) ?_
  refine ns_puti C w 62 (hI 62 (by decide)) sh_62 (rfl : vwCl[11]? = some (RX11, TX11, 59)) inX11_why_11 tyX11_ok nmX11 0 (by decide) rfl lX11_why_179 rfl rfl rfl (List.mem_of_getElem? (i := 0) rfl) dX11_why_2 (fun H locs w => ?_)
  refine lv_aload_n C.1.1 C.1.2.1 dX11_why_5 rfl (lv_at hl 0 rfl) ?_
  refine lv_iload_n C.1.1 C.1.2.1 dX11_why_6 rfl (lv_at hl 1 rfl) ?_
  refine ns_callV C w 62 (hI 62 (by decide)) sh_62 (rfl : vwCl[11]? = some (RX11, TX11, 59)) [.int p1] hf (fun u hu => mX11_isPupil_62 l D b ids hI N _ p1 hu) gX11_why_X11_isPupil rfl rfl rfl hdX11_isPupil ⟨Nat.le_of_ble_eq_true rfl, Nat.le_of_ble_eq_true rfl⟩ (fun u h => h) rfl hl.1 rfl (Nat.le_of_ble_eq_true rfl) ⟨Nat.le_refl _, Nat.le_refl _⟩ dX11_why_7 (fun o1 H locs hf w => ?_)
  refine ns_if_eq C hf (tgt := 30) dX11_why_10 (by decide) (fun hf => ?_) (fun hf => ?_)
  · refine lv_iconst (v := (-1)) C.1.1 C.1.2.1 dX11_why_30 (by decide) ?_
    have he := Option.some.inj hf
    subst he
    exact ns_iret C w hr hlk rfl rfl dX11_why_31
  · refine lv_aload_n C.1.1 C.1.2.1 dX11_why_13 rfl (lv_at hl 0 rfl) ?_
    refine lv_iload_n C.1.1 C.1.2.1 dX11_why_14 rfl (lv_at hl 2 rfl) ?_
    refine ns_callV C w 62 (hI 62 (by decide)) sh_62 (rfl : vwCl[11]? = some (RX11, TX11, 59)) [.int p2] hf (fun u hu => mX11_isCourse_62 l D b ids hI N _ p2 hu) gX11_why_X11_isCourse rfl rfl rfl hdX11_isCourse ⟨Nat.le_of_ble_eq_true rfl, Nat.le_of_ble_eq_true rfl⟩ (fun u h => h) rfl hl.1 rfl (Nat.le_of_ble_eq_true rfl) ⟨Nat.le_refl _, Nat.le_refl _⟩ dX11_why_15 (fun o2 H locs hf w => ?_)
    refine ns_if_eq C hf (tgt := 30) dX11_why_18 (by decide) (fun hf => ?_) (fun hf => ?_)
    · refine lv_iconst (v := (-1)) C.1.1 C.1.2.1 dX11_why_30 (by decide) ?_
      have he := Option.some.inj hf
      subst he
      exact ns_iret C w hr hlk rfl rfl dX11_why_31
    · refine lv_aload_n C.1.1 C.1.2.1 dX11_why_21 rfl (lv_at hl 0 rfl) ?_
      refine lv_iload_n C.1.1 C.1.2.1 dX11_why_22 rfl (lv_at hl 1 rfl) ?_
      refine lv_iload_n C.1.1 C.1.2.1 dX11_why_23 rfl (lv_at hl 2 rfl) ?_
      refine ns_callV C w 62 (hI 62 (by decide)) sh_62 (rfl : vwCl[11]? = some (RX11, TX11, 59)) [.int p1, .int p2] hf (fun u hu => mX11_reason_62 l D b ids hI N _ p1 p2 hu) gX11_why_X11_reason rfl rfl rfl hdX11_reason ⟨Nat.le_of_ble_eq_true rfl, Nat.le_of_ble_eq_true rfl⟩ (fun u h => h) rfl hl.1 rfl (Nat.le_of_ble_eq_true rfl) ⟨Nat.le_refl _, Nat.le_refl _⟩ dX11_why_24 (fun o3 H locs hf w => ?_)
      refine lv_goto (tgt := 31) C.1.1 C.1.2.1 dX11_why_27 (by decide) ?_
      have he := Option.some.inj hf
      subst he
      exact ns_iret C w hr hlk rfl rfl dX11_why_31
theorem lX10_hours_30 : Cond.fieldLink RX10 30 (TX10 4).1 (TX10 4).2.1 (TX10 4).2.2.1 ∈ wsX10_hours := List.mem_of_getElem? (i := 1) rfl
theorem lX10_hours_72 : Cond.fieldLink RX10 72 (TX6 0).1 (TX6 0).2.1 (TX6 0).2.2.1 ∈ wsX10_hours := List.mem_of_getElem? (i := 4) rfl
theorem lX10_hours_76 : Cond.fieldLink RX10 76 (TX6 4).1 (TX6 4).2.1 (TX6 4).2.2.1 ∈ wsX10_hours := List.mem_of_getElem? (i := 2) rfl
theorem lX10_hours_86 : Cond.fieldLink RX10 86 (TX5 0).1 (TX5 0).2.1 (TX5 0).2.2.1 ∈ wsX10_hours := List.mem_of_getElem? (i := 5) rfl
theorem lX10_hours_234 : Cond.fieldLink RX10 234 (TX8 4).1 (TX8 4).2.1 (TX8 4).2.2.1 ∈ wsX10_hours := List.mem_of_getElem? (i := 3) rfl
theorem lX10_hours_237 : Cond.fieldLink RX10 237 (TX8 5).1 (TX8 5).2.1 (TX8 5).2.2.1 ∈ wsX10_hours := List.mem_of_getElem? (i := 6) rfl
theorem inX10_hours_5 : ∀ w ∈ u_ws RX5 TX5 2, w ∈ wsX10_hours := fun _ h => List.mem_cons_of_mem _ (List.mem_append_right _ h)
theorem inX10_hours_6 : ∀ w ∈ u_ws RX6 TX6 6, w ∈ wsX10_hours := fun _ h => List.mem_cons_of_mem _ (List.mem_append_left _ (List.mem_append_left _ (List.mem_append_right _ h)))
theorem inX10_hours_8 : ∀ w ∈ u_ws RX8 TX8 6, w ∈ wsX10_hours := fun _ h => List.mem_cons_of_mem _ (List.mem_append_left _ (List.mem_append_right _ h))
theorem inX10_hours_10 : ∀ w ∈ u_ws RX10 TX10 6, w ∈ wsX10_hours := fun _ h => List.mem_cons_of_mem _ (List.mem_append_left _ (List.mem_append_left _ (List.mem_append_left _ (List.mem_append_right _ h))))
theorem hdX10_hours : yX10_hours.cls = RX10 ∧ yX10_hours.cls ≠ "java/lang/invoke/MethodHandle" ∧ yX10_hours.cls ≠ "java/lang/invoke/VarHandle" ∧ (parseMethodDescriptor yX10_hours.desc).map (fun d => d.parameters.length) = some 2 := by decide +kernel
abbrev wrX10_hours_0 : List (Nat × Nat) := []
abbrev rmX10_hours_0 : Room := { frames := 1, cells := 0, slots := 0, locals := 22 }
set_option maxHeartbeats 4000000 in
set_option maxRecDepth 100000 in
theorem wX10_hours_0_26 {p : Program} {l : Launch} {e : Env} {s : State} {m : MethodId} {args : Array Value} {below : List Frame} {meth : Method} {c : Code} {D : va_G} {b : Nat → Nat} {ids : List Nat} {A : Nat → Prop} {S0 : ns_S} {o : Int32} (N : Nat) (hI : ∀ i, i < 107 → i ∈ ids) (C : ns_C p m c cX10_hours 3 s args wsX10_hours RX10 D A) (hr : meth.sig.returnType = some .int) (hlk : meth.locks = false) : ∀ {S : ns_S} {H : Heap} {locs : List Loc} {ls : Array Slot} {l1 : Int32} {l2 : Int32}, ns_W D b ids A s.heap wrX10_hours_0 S0 S H locs → lv_has ls 3 [(0, .ref (b 0)), (1, .int l1), (2, .int l2)] → gX10_hours_26 N (S.2.1 51) (S.1 1856) (S.2.1 52) l1 l2 = some o → W p l e rmX10_hours_0 s m args below meth c H locs 0 0 (MQ below (ns_Q D b ids S0 (some (.int o)) A) args s 0 0 A) (F0 m 26 ls []) := by
  intro S H locs ls l1 l2 w hl hf
  unfold gX10_hours_26 at hf
  refine lv_iload_n C.1.1 C.1.2.1 dX10_hours_26 rfl (lv_at hl 1 rfl) ?_
  refine lv_iconst (v := 1) C.1.1 C.1.2.1 dX10_hours_27 (by decide) ?_
  refine ns_icmp_ne C hf (tgt := 64) dX10_hours_28 (by decide) (fun hf => ?_) (fun hf => ?_)
  · refine lv_iconst (v := (-1)) C.1.1 C.1.2.1 dX10_hours_64 (by decide) ?_
    have he := Option.some.inj hf
    subst he
    exact ns_iret C w hr hlk rfl rfl dX10_hours_65
  · refine lv_iload_n C.1.1 C.1.2.1 dX10_hours_31 rfl (lv_at hl 2 rfl) ?_
    refine lv_iconst (v := 0) C.1.1 C.1.2.1 dX10_hours_32 (by decide) ?_
    refine lv_aload_n C.1.1 C.1.2.1 dX10_hours_33 rfl (lv_at hl 0 rfl) ?_
    refine ns_getr C w 0 (hI 0 (by decide)) sh_0 (rfl : vwCl[10]? = some (RX10, TX10, 6)) inX10_hours_10 4 (by decide) rfl lX10_hours_30 dX10_hours_34 ?_
    refine ns_getr C w 28 (hI 28 (by decide)) sh_28 (rfl : vwCl[6]? = some (RX6, TX6, 6)) inX10_hours_6 0 (by decide) rfl lX10_hours_72 dX10_hours_37 ?_
    refine ns_geti C w 29 (hI 29 (by decide)) sh_29 (rfl : vwCl[5]? = some (RX5, TX5, 2)) inX10_hours_5 0 (by decide) rfl lX10_hours_86 (S.1 1856) rfl dX10_hours_40 ?_
    refine lv_iconst (v := 1) C.1.1 C.1.2.1 dX10_hours_43 (by decide) ?_
    refine lv_isub C.1.1 C.1.2.1 dX10_hours_44 ?_
    refine ns_callS C w [.int l2, .int 0, .int ((S.1 1856) - 1)] hf (fun u hu => mX10_isWithin l D b ids hI N _ l2 0 ((S.1 1856) - 1) hu) gX10_hours_X10_isWithin rfl rfl rfl hdX10_isWithin ⟨Nat.le_of_ble_eq_true rfl, Nat.le_of_ble_eq_true rfl⟩ (fun u h => h) rfl hl.1 rfl (Nat.le_of_ble_eq_true rfl) ⟨Nat.le_refl _, Nat.le_refl _⟩ dX10_hours_45 (fun o1 H locs hf w => ?_)
    refine ns_if_eq C hf (tgt := 64) dX10_hours_48 (by decide) (fun hf => ?_) (fun hf => ?_)
    · refine lv_iconst (v := (-1)) C.1.1 C.1.2.1 dX10_hours_64 (by decide) ?_
      have he := Option.some.inj hf
      subst he
      exact ns_iret C w hr hlk rfl rfl dX10_hours_65
    · refine lv_aload_n C.1.1 C.1.2.1 dX10_hours_51 rfl (lv_at hl 0 rfl) ?_
      refine ns_getr C w 0 (hI 0 (by decide)) sh_0 (rfl : vwCl[10]? = some (RX10, TX10, 6)) inX10_hours_10 4 (by decide) rfl lX10_hours_30 dX10_hours_52 ?_
      refine ns_getr C w 28 (hI 28 (by decide)) sh_28 (rfl : vwCl[6]? = some (RX6, TX6, 6)) inX10_hours_6 4 (by decide) rfl lX10_hours_76 dX10_hours_55 ?_
      refine ns_getr C w 48 (hI 48 (by decide)) sh_48 (rfl : vwCl[8]? = some (RX8, TX8, 6)) inX10_hours_8 5 (by decide) rfl lX10_hours_237 dX10_hours_58 ?_
      refine lv_iload_n C.1.1 C.1.2.1 dX10_hours_61 rfl (lv_at hl 2 rfl) ?_
      refine ns_iald C w 52 (hI 52 (by decide)) sh_52 hf rfl dX10_hours_62 (fun x2 hf => ?_)
      have he := Option.some.inj hf
      subst he
      exact ns_iret C w hr hlk rfl rfl dX10_hours_63
set_option maxHeartbeats 4000000 in
set_option maxRecDepth 100000 in
theorem mX10_hours_0 (l : Launch) (D : va_G) (b : Nat → Nat) (ids : List Nat) (hI : ∀ i, i < 107 → i ∈ ids) (N : Nat) (S : ns_S) (p1 : Int32) (p2 : Int32) {o : Int32} (hf : fX10_hours N (S.2.1 51) (S.1 1856) (S.2.1 52) p1 p2 = some o) : ns_M l yX10_hours wsX10_hours rmX10_hours_0 D b ids S [.ref (b 0), .int p1, .int p2] (some (.int o)) S := by
  refine ns_start (Wr := wrX10_hours_0) (by decide) rfl (Nat.le_of_ble_eq_true rfl) ?_
  intro p e s m below meth c A ls C hr hlk w hl
  have hl : lv_has ls 3 [(0, .ref (b 0)), (1, .int p1), (2, .int p2)] := hl
  unfold fX10_hours at hf
  refine lv_iload_n C.1.1 C.1.2.1 dX10_hours_0 rfl (lv_at hl 1 rfl) ?_
  refine ns_if_ne C hf (tgt := 26) dX10_hours_1 (by decide) (fun hf => ?_) (fun hf => ?_)
  · exact wX10_hours_0_26 N hI C hr hlk w (lv_sub hl [0, 1, 2] rfl) hf
  · refine lv_iload_n C.1.1 C.1.2.1 dX10_hours_4 rfl (lv_at hl 2 rfl) ?_
    refine lv_iconst (v := 0) C.1.1 C.1.2.1 dX10_hours_5 (by decide) ?_
    refine lv_iconst (v := 5) C.1.1 C.1.2.1 dX10_hours_6 (by decide) ?_
    refine ns_callS C w [.int p2, .int 0, .int 5] hf (fun u hu => mX10_isWithin l D b ids hI N _ p2 0 5 hu) gX10_hours_X10_isWithin rfl rfl rfl hdX10_isWithin ⟨Nat.le_of_ble_eq_true rfl, Nat.le_of_ble_eq_true rfl⟩ (fun u h => h) rfl hl.1 rfl (Nat.le_of_ble_eq_true rfl) ⟨Nat.le_refl _, Nat.le_refl _⟩ dX10_hours_7 (fun o1 H locs hf w => ?_)
    refine ns_if_eq C hf (tgt := 26) dX10_hours_10 (by decide) (fun hf => ?_) (fun hf => ?_)
    · exact wX10_hours_0_26 N hI C hr hlk w (lv_sub hl [0, 1, 2] rfl) hf
    · refine lv_aload_n C.1.1 C.1.2.1 dX10_hours_13 rfl (lv_at hl 0 rfl) ?_
      refine ns_getr C w 0 (hI 0 (by decide)) sh_0 (rfl : vwCl[10]? = some (RX10, TX10, 6)) inX10_hours_10 4 (by decide) rfl lX10_hours_30 dX10_hours_14 ?_
      refine ns_getr C w 28 (hI 28 (by decide)) sh_28 (rfl : vwCl[6]? = some (RX6, TX6, 6)) inX10_hours_6 4 (by decide) rfl lX10_hours_76 dX10_hours_17 ?_
      refine ns_getr C w 48 (hI 48 (by decide)) sh_48 (rfl : vwCl[8]? = some (RX8, TX8, 6)) inX10_hours_8 4 (by decide) rfl lX10_hours_234 dX10_hours_20 ?_
      refine lv_iload_n C.1.1 C.1.2.1 dX10_hours_23 rfl (lv_at hl 2 rfl) ?_
      refine ns_iald C w 51 (hI 51 (by decide)) sh_51 hf rfl dX10_hours_24 (fun x2 hf => ?_)
      have he := Option.some.inj hf
      subst he
      exact ns_iret C w hr hlk rfl rfl dX10_hours_25
theorem lX11_hours_17 : Cond.fieldLink RX11 17 (TX11 4).1 (TX11 4).2.1 (TX11 4).2.2.1 ∈ wsX11_hours := List.mem_of_getElem? (i := 3) rfl
theorem lX11_hours_81 : Cond.fieldLink RX11 81 (TX11 25).1 (TX11 25).2.1 (TX11 25).2.2.1 ∈ wsX11_hours := List.mem_of_getElem? (i := 2) rfl
theorem lX11_hours_84 : Cond.fieldLink RX11 84 (TX11 26).1 (TX11 26).2.1 (TX11 26).2.2.1 ∈ wsX11_hours := List.mem_of_getElem? (i := 4) rfl
theorem lX11_hours_179 : Cond.fieldLink RX11 179 (TX11 0).1 (TX11 0).2.1 (TX11 0).2.2.1 ∈ wsX11_hours := List.mem_of_getElem? (i := 1) rfl
theorem inX11_hours_11 : ∀ w ∈ u_ws RX11 TX11 59, w ∈ wsX11_hours := fun _ h => List.mem_cons_of_mem _ (List.mem_append_right _ h)
theorem hdX11_hours : yX11_hours.cls = RX11 ∧ yX11_hours.cls ≠ "java/lang/invoke/MethodHandle" ∧ yX11_hours.cls ≠ "java/lang/invoke/VarHandle" ∧ (parseMethodDescriptor yX11_hours.desc).map (fun d => d.parameters.length) = some 2 := by decide +kernel
abbrev wrX11_hours_62 : List (Nat × Nat) := [(0, 3968)]
abbrev rmX11_hours_62 : Room := { frames := 1, cells := 0, slots := 0, locals := 22 }
set_option maxHeartbeats 4000000 in
set_option maxRecDepth 100000 in
theorem mX11_hours_62 (l : Launch) (D : va_G) (b : Nat → Nat) (ids : List Nat) (hI : ∀ i, i < 107 → i ∈ ids) (N : Nat) (S : ns_S) (p1 : Int32) (p2 : Int32) {o : Int32 × Int32} (hf : fX11_hours N (S.1 3968) (S.2.1 65) (S.2.1 87) (S.2.1 86) p1 p2 = some o) : ns_M l yX11_hours wsX11_hours rmX11_hours_62 D b ids S [.ref (b 62), .int p1, .int p2] (some (.int o.1)) (ns_I S 3968 o.2) := by
  refine ns_start (Wr := wrX11_hours_62) (by decide) rfl (Nat.le_of_ble_eq_true rfl) ?_
  intro p e s m below meth c A ls C hr hlk w hl
  have hl : lv_has ls 3 [(0, .ref (b 62)), (1, .int p1), (2, .int p2)] := hl
  unfold fX11_hours at hf
  refine lv_aload_n C.1.1 C.1.2.1 dX11_hours_0 rfl (lv_at hl 0 rfl) ?_
  refine lv_iconst (v := 0) C.1.1 C.1.2.1 dX11_hours_1 (by decide) ?_
  refine ns_puti C w 62 (hI 62 (by decide)) sh_62 (rfl : vwCl[11]? = some (RX11, TX11, 59)) inX11_hours_11 tyX11_ok nmX11 0 (by decide) rfl lX11_hours_179 rfl rfl rfl (List.mem_of_getElem? (i := 0) rfl) dX11_hours_2 (fun H locs w => ?_)
  refine lv_iload_n C.1.1 C.1.2.1 dX11_hours_5 rfl (lv_at hl 1 rfl) ?_
  refine ns_if_ne C hf (tgt := 29) dX11_hours_6 (by decide) (fun hf => ?_) (fun hf => ?_)
  · refine lv_iload_n C.1.1 C.1.2.1 dX11_hours_29 rfl (lv_at hl 1 rfl) ?_
    refine lv_iconst (v := 1) C.1.1 C.1.2.1 dX11_hours_30 (by decide) ?_
    refine ns_icmp_ne C hf (tgt := 59) dX11_hours_31 (by decide) (fun hf => ?_) (fun hf => ?_)
    · refine lv_iconst (v := (-1)) C.1.1 C.1.2.1 dX11_hours_59 (by decide) ?_
      have he := Option.some.inj hf
      subst he
      exact ns_iret C w hr hlk rfl rfl dX11_hours_60
    · refine lv_iload_n C.1.1 C.1.2.1 dX11_hours_34 rfl (lv_at hl 2 rfl) ?_
      refine lv_iconst (v := 0) C.1.1 C.1.2.1 dX11_hours_35 (by decide) ?_
      refine lv_aload_n C.1.1 C.1.2.1 dX11_hours_36 rfl (lv_at hl 0 rfl) ?_
      refine ns_getr C w 62 (hI 62 (by decide)) sh_62 (rfl : vwCl[11]? = some (RX11, TX11, 59)) inX11_hours_11 4 (by decide) rfl lX11_hours_17 dX11_hours_37 ?_
      refine lv_iconst (v := 0) C.1.1 C.1.2.1 dX11_hours_40 (by decide) ?_
      refine ns_iald C w 65 (hI 65 (by decide)) sh_65 hf rfl dX11_hours_41 (fun x1 hf => ?_)
      refine lv_iconst (v := 1) C.1.1 C.1.2.1 dX11_hours_42 (by decide) ?_
      refine lv_isub C.1.1 C.1.2.1 dX11_hours_43 ?_
      refine ns_callS C w [.int p2, .int 0, .int (x1 - 1)] hf (fun u hu => mX11_in l D b ids hI N _ p2 0 (x1 - 1) hu) gX11_hours_X11_in rfl rfl rfl hdX11_in ⟨Nat.le_of_ble_eq_true rfl, Nat.le_of_ble_eq_true rfl⟩ (fun u h => h) rfl hl.1 rfl (Nat.le_of_ble_eq_true rfl) ⟨Nat.le_refl _, Nat.le_refl _⟩ dX11_hours_44 (fun o2 H locs hf w => ?_)
      refine ns_if_eq C hf (tgt := 59) dX11_hours_47 (by decide) (fun hf => ?_) (fun hf => ?_)
      · refine lv_iconst (v := (-1)) C.1.1 C.1.2.1 dX11_hours_59 (by decide) ?_
        have he := Option.some.inj hf
        subst he
        exact ns_iret C w hr hlk rfl rfl dX11_hours_60
      · refine lv_aload_n C.1.1 C.1.2.1 dX11_hours_50 rfl (lv_at hl 0 rfl) ?_
        refine ns_getr C w 62 (hI 62 (by decide)) sh_62 (rfl : vwCl[11]? = some (RX11, TX11, 59)) inX11_hours_11 26 (by decide) rfl lX11_hours_84 dX11_hours_51 ?_
        refine lv_iload_n C.1.1 C.1.2.1 dX11_hours_54 rfl (lv_at hl 2 rfl) ?_
        refine ns_iald C w 87 (hI 87 (by decide)) sh_87 hf rfl dX11_hours_55 (fun x3 hf => ?_)
        refine lv_goto (tgt := 60) C.1.1 C.1.2.1 dX11_hours_56 (by decide) ?_
        have he := Option.some.inj hf
        subst he
        exact ns_iret C w hr hlk rfl rfl dX11_hours_60
  · refine lv_iload_n C.1.1 C.1.2.1 dX11_hours_9 rfl (lv_at hl 2 rfl) ?_
    refine lv_iconst (v := 0) C.1.1 C.1.2.1 dX11_hours_10 (by decide) ?_
    refine lv_iconst (v := 5) C.1.1 C.1.2.1 dX11_hours_11 (by decide) ?_
    refine ns_callS C w [.int p2, .int 0, .int 5] hf (fun u hu => mX11_in l D b ids hI N _ p2 0 5 hu) gX11_hours_X11_in rfl rfl rfl hdX11_in ⟨Nat.le_of_ble_eq_true rfl, Nat.le_of_ble_eq_true rfl⟩ (fun u h => h) rfl hl.1 rfl (Nat.le_of_ble_eq_true rfl) ⟨Nat.le_refl _, Nat.le_refl _⟩ dX11_hours_12 (fun o4 H locs hf w => ?_)
    refine ns_if_eq C hf (tgt := 27) dX11_hours_15 (by decide) (fun hf => ?_) (fun hf => ?_)
    · refine lv_iconst (v := (-1)) C.1.1 C.1.2.1 dX11_hours_27 (by decide) ?_
      have he := Option.some.inj hf
      subst he
      exact ns_iret C w hr hlk rfl rfl dX11_hours_28
    · refine lv_aload_n C.1.1 C.1.2.1 dX11_hours_18 rfl (lv_at hl 0 rfl) ?_
      refine ns_getr C w 62 (hI 62 (by decide)) sh_62 (rfl : vwCl[11]? = some (RX11, TX11, 59)) inX11_hours_11 25 (by decide) rfl lX11_hours_81 dX11_hours_19 ?_
      refine lv_iload_n C.1.1 C.1.2.1 dX11_hours_22 rfl (lv_at hl 2 rfl) ?_
      refine ns_iald C w 86 (hI 86 (by decide)) sh_86 hf rfl dX11_hours_23 (fun x5 hf => ?_)
      refine lv_goto (tgt := 28) C.1.1 C.1.2.1 dX11_hours_24 (by decide) ?_
      have he := Option.some.inj hf
      subst he
      exact ns_iret C w hr hlk rfl rfl dX11_hours_28
theorem lX6_pricesOf_21 : Cond.fieldLink RX6 21 (TX6 1).1 (TX6 1).2.1 (TX6 1).2.2.1 ∈ wsX6_pricesOf := List.mem_of_getElem? (i := 1) rfl
theorem lX6_pricesOf_35 : Cond.fieldLink RX6 35 (TX6 3).1 (TX6 3).2.1 (TX6 3).2.2.1 ∈ wsX6_pricesOf := List.mem_of_getElem? (i := 3) rfl
theorem lX6_pricesOf_72 : Cond.fieldLink RX6 72 (TX0 0).1 (TX0 0).2.1 (TX0 0).2.2.1 ∈ wsX6_pricesOf := List.mem_of_getElem? (i := 2) rfl
theorem lX6_pricesOf_187 : Cond.fieldLink RX6 187 (TX0 5).1 (TX0 5).2.1 (TX0 5).2.2.1 ∈ wsX6_pricesOf := List.mem_of_getElem? (i := 4) rfl
theorem inX6_pricesOf_0 : ∀ w ∈ u_ws RX0 TX0 6, w ∈ wsX6_pricesOf := fun _ h => List.mem_cons_of_mem _ (List.mem_append_left _ (List.mem_append_right _ h))
theorem inX6_pricesOf_6 : ∀ w ∈ u_ws RX6 TX6 6, w ∈ wsX6_pricesOf := fun _ h => List.mem_cons_of_mem _ (List.mem_append_left _ (List.mem_append_left _ (List.mem_append_right _ h)))
theorem hdX6_pricesOf : yX6_pricesOf.cls = RX6 ∧ yX6_pricesOf.cls ≠ "java/lang/invoke/MethodHandle" ∧ yX6_pricesOf.cls ≠ "java/lang/invoke/VarHandle" ∧ (parseMethodDescriptor yX6_pricesOf.desc).map (fun d => d.parameters.length) = some 1 := by decide +kernel
abbrev wrX6_pricesOf_28 : List (Nat × Nat) := []
abbrev rmX6_pricesOf_28 : Room := { frames := 1, cells := 0, slots := 0, locals := 22 }
set_option maxHeartbeats 4000000 in
set_option maxRecDepth 100000 in
theorem wX6_pricesOf_28_5 {p : Program} {l : Launch} {e : Env} {s : State} {m : MethodId} {args : Array Value} {below : List Frame} {meth : Method} {c : Code} {D : va_G} {b : Nat → Nat} {ids : List Nat} {A : Nat → Prop} {S0 : ns_S} {o : Int64} (N : Nat) (hI : ∀ i, i < 107 → i ∈ ids) (C : ns_C p m c cX6_pricesOf 5 s args wsX6_pricesOf RX6 D A) (hr : meth.sig.returnType = some .long) (hlk : meth.locks = false) : ∀ n : Nat, ∀ {S : ns_S} {H : Heap} {locs : List Loc} {ls : Array Slot} {l1 : Int32} {l2 : Int64} {l4 : Int32}, ns_W D b ids A s.heap wrX6_pricesOf_28 S0 S H locs → lv_has ls 5 [(0, .ref (b 28)), (1, .int l1), (2, .long l2), (4, .int l4)] → fX6_pricesOf_5 N n (S.1 1984) (S.2.1 47) (S.2.1 36) l1 l2 l4 = some o → W p l e rmX6_pricesOf_28 s m args below meth c H locs 0 0 (MQ below (ns_Q D b ids S0 (some (.long o)) A) args s 0 0 A) (F0 m 5 ls []) := by
  intro n
  induction n with
  | zero =>
    intro S H locs ls l1 l2 l4 w hl hf
    cases hf
  | succ n K5 =>
    intro S H locs ls l1 l2 l4 w hl hf
    change gX6_pricesOf_5 N (fX6_pricesOf_5 N n) (S.1 1984) (S.2.1 47) (S.2.1 36) l1 l2 l4 = some o at hf
    generalize fX6_pricesOf_5 N n = r5 at hf K5
    unfold gX6_pricesOf_5 at hf
    refine lv_iload C.1.1 C.1.2.1 dX6_pricesOf_5 (lv_at hl 3 rfl) ?_
    refine lv_aload_n C.1.1 C.1.2.1 dX6_pricesOf_7 rfl (lv_at hl 0 rfl) ?_
    refine ns_getr C w 28 (hI 28 (by decide)) sh_28 (rfl : vwCl[6]? = some (RX6, TX6, 6)) inX6_pricesOf_6 1 (by decide) rfl lX6_pricesOf_21 dX6_pricesOf_8 ?_
    refine ns_geti C w 31 (hI 31 (by decide)) sh_31 (rfl : vwCl[0]? = some (RX0, TX0, 6)) inX6_pricesOf_0 0 (by decide) rfl lX6_pricesOf_72 (S.1 1984) rfl dX6_pricesOf_11 ?_
    refine ns_icmp_ge C hf (tgt := 50) dX6_pricesOf_14 (by decide) (fun hf => ?_) (fun hf => ?_)
    · refine lv_lload_n C.1.1 C.1.2.1 dX6_pricesOf_50 rfl (lv_at hl 2 rfl) ?_
      have he := Option.some.inj hf
      subst he
      exact ns_lret C w hr hlk rfl rfl dX6_pricesOf_51
    · refine lv_aload_n C.1.1 C.1.2.1 dX6_pricesOf_17 rfl (lv_at hl 0 rfl) ?_
      refine ns_getr C w 28 (hI 28 (by decide)) sh_28 (rfl : vwCl[6]? = some (RX6, TX6, 6)) inX6_pricesOf_6 3 (by decide) rfl lX6_pricesOf_35 dX6_pricesOf_18 ?_
      refine lv_iload_n C.1.1 C.1.2.1 dX6_pricesOf_21 rfl (lv_at hl 1 rfl) ?_
      refine lv_iload C.1.1 C.1.2.1 dX6_pricesOf_22 (lv_at hl 3 rfl) ?_
      refine ns_callV C w 43 (hI 43 (by decide)) sh_43 (rfl : vwCl[7]? = some (RX7, TX7, 5)) [.int l1, .int l4] hf (fun u hu => mX7_hasCourse_43 l D b ids hI N _ l1 l4 hu) gX6_pricesOf_X7_hasCourse rfl rfl rfl hdX7_hasCourse ⟨Nat.le_of_ble_eq_true rfl, Nat.le_of_ble_eq_true rfl⟩ (fun u h => h) rfl hl.1 rfl (Nat.le_of_ble_eq_true rfl) ⟨Nat.le_refl _, Nat.le_refl _⟩ dX6_pricesOf_24 (fun o1 H locs hf w => ?_)
      refine ns_if_eq C hf (tgt := 44) dX6_pricesOf_27 (by decide) (fun hf => ?_) (fun hf => ?_)
      · refine ns_iinc (lv' := fun x2 => [(4, .int x2), (0, .ref (b 28)), (1, .int l1), (2, .long l2)]) C hf dX6_pricesOf_44 hl (k := 3) rfl rfl (by decide) (fun _ => rfl) (fun x2 ls hl hf => ?_)
        refine lv_goto (tgt := 5) C.1.1 C.1.2.1 dX6_pricesOf_47 (by decide) ?_
        exact K5 w (lv_sub hl [1, 2, 3, 0] rfl) hf
      · refine lv_lload_n C.1.1 C.1.2.1 dX6_pricesOf_30 rfl (lv_at hl 2 rfl) ?_
        refine lv_aload_n C.1.1 C.1.2.1 dX6_pricesOf_31 rfl (lv_at hl 0 rfl) ?_
        refine ns_getr C w 28 (hI 28 (by decide)) sh_28 (rfl : vwCl[6]? = some (RX6, TX6, 6)) inX6_pricesOf_6 1 (by decide) rfl lX6_pricesOf_21 dX6_pricesOf_32 ?_
        refine ns_getr C w 31 (hI 31 (by decide)) sh_31 (rfl : vwCl[0]? = some (RX0, TX0, 6)) inX6_pricesOf_0 5 (by decide) rfl lX6_pricesOf_187 dX6_pricesOf_35 ?_
        refine lv_iload C.1.1 C.1.2.1 dX6_pricesOf_38 (lv_at hl 3 rfl) ?_
        refine ns_iald C w 36 (hI 36 (by decide)) sh_36 hf rfl dX6_pricesOf_40 (fun x3 hf => ?_)
        refine lv_i2l (v := x3.toInt64) C.1.1 C.1.2.1 dX6_pricesOf_41 rfl ?_
        refine lv_ladd C.1.1 C.1.2.1 dX6_pricesOf_42 ?_
        refine ns_namel hf (fun x4 hf => ?_)
        refine lv_lstore_n (lv' := [(2, .long x4), (0, .ref (b 28)), (1, .int l1), (4, .int l4)]) C.1.1 C.1.2.1 dX6_pricesOf_43 rfl hl (by decide) rfl (fun ls hl => ?_)
        refine ns_iinc (lv' := fun x5 => [(4, .int x5), (2, .long x4), (0, .ref (b 28)), (1, .int l1)]) C hf dX6_pricesOf_44 hl (k := 3) rfl rfl (by decide) (fun _ => rfl) (fun x5 ls hl hf => ?_)
        refine lv_goto (tgt := 5) C.1.1 C.1.2.1 dX6_pricesOf_47 (by decide) ?_
        exact K5 w (lv_sub hl [2, 3, 1, 0] rfl) hf
set_option maxHeartbeats 4000000 in
set_option maxRecDepth 100000 in
theorem mX6_pricesOf_28 (l : Launch) (D : va_G) (b : Nat → Nat) (ids : List Nat) (hI : ∀ i, i < 107 → i ∈ ids) (N : Nat) (S : ns_S) (p1 : Int32) {o : Int64} (hf : fX6_pricesOf N (S.1 1984) (S.2.1 47) (S.2.1 36) p1 = some o) : ns_M l yX6_pricesOf wsX6_pricesOf rmX6_pricesOf_28 D b ids S [.ref (b 28), .int p1] (some (.long o)) S := by
  refine ns_start (Wr := wrX6_pricesOf_28) (by decide) rfl (Nat.le_of_ble_eq_true rfl) ?_
  intro p e s m below meth c A ls C hr hlk w hl
  have hl : lv_has ls 5 [(0, .ref (b 28)), (1, .int p1)] := hl
  unfold fX6_pricesOf at hf
  refine lv_lconst (v := 0) C.1.1 C.1.2.1 dX6_pricesOf_0 (by decide) ?_
  refine lv_lstore_n (lv' := [(2, .long 0), (0, .ref (b 28)), (1, .int p1)]) C.1.1 C.1.2.1 dX6_pricesOf_1 rfl hl (by decide) rfl (fun ls hl => ?_)
  refine lv_iconst (v := 0) C.1.1 C.1.2.1 dX6_pricesOf_2 (by decide) ?_
  refine lv_istore (lv' := [(4, .int 0), (2, .long 0), (0, .ref (b 28)), (1, .int p1)]) C.1.1 C.1.2.1 dX6_pricesOf_3 hl (by decide) rfl (fun ls hl => ?_)
  exact wX6_pricesOf_28_5 N hI C hr hlk N w (lv_sub hl [2, 3, 1, 0] rfl) hf
theorem lX6_hasFirstWish_28 : Cond.fieldLink RX6 28 (TX6 2).1 (TX6 2).2.1 (TX6 2).2.2.1 ∈ wsX6_hasFirstWish := List.mem_of_getElem? (i := 1) rfl
theorem lX6_hasFirstWish_35 : Cond.fieldLink RX6 35 (TX6 3).1 (TX6 3).2.1 (TX6 3).2.2.1 ∈ wsX6_hasFirstWish := List.mem_of_getElem? (i := 3) rfl
theorem lX6_hasFirstWish_107 : Cond.fieldLink RX6 107 (TX4 4).1 (TX4 4).2.1 (TX4 4).2.2.1 ∈ wsX6_hasFirstWish := List.mem_of_getElem? (i := 2) rfl
theorem inX6_hasFirstWish_4 : ∀ w ∈ u_ws RX4 TX4 6, w ∈ wsX6_hasFirstWish := fun _ h => List.mem_cons_of_mem _ (List.mem_append_left _ (List.mem_append_right _ h))
theorem inX6_hasFirstWish_6 : ∀ w ∈ u_ws RX6 TX6 6, w ∈ wsX6_hasFirstWish := fun _ h => List.mem_cons_of_mem _ (List.mem_append_left _ (List.mem_append_left _ (List.mem_append_right _ h)))
theorem hdX6_hasFirstWish : yX6_hasFirstWish.cls = RX6 ∧ yX6_hasFirstWish.cls ≠ "java/lang/invoke/MethodHandle" ∧ yX6_hasFirstWish.cls ≠ "java/lang/invoke/VarHandle" ∧ (parseMethodDescriptor yX6_hasFirstWish.desc).map (fun d => d.parameters.length) = some 1 := by decide +kernel
abbrev wrX6_hasFirstWish_28 : List (Nat × Nat) := []
abbrev rmX6_hasFirstWish_28 : Room := { frames := 1, cells := 0, slots := 0, locals := 22 }
set_option maxHeartbeats 4000000 in
set_option maxRecDepth 100000 in
theorem mX6_hasFirstWish_28 (l : Launch) (D : va_G) (b : Nat → Nat) (ids : List Nat) (hI : ∀ i, i < 107 → i ∈ ids) (N : Nat) (S : ns_S) (p1 : Int32) {o : Int32} (hf : fX6_hasFirstWish N (S.2.1 41) (S.2.1 42) (S.2.1 47) p1 = some o) : ns_M l yX6_hasFirstWish wsX6_hasFirstWish rmX6_hasFirstWish_28 D b ids S [.ref (b 28), .int p1] (some (.int o)) S := by
  refine ns_start (Wr := wrX6_hasFirstWish_28) (by decide) rfl (Nat.le_of_ble_eq_true rfl) ?_
  intro p e s m below meth c A ls C hr hlk w hl
  have hl : lv_has ls 2 [(0, .ref (b 28)), (1, .int p1)] := hl
  unfold fX6_hasFirstWish at hf
  refine lv_aload_n C.1.1 C.1.2.1 dX6_hasFirstWish_0 rfl (lv_at hl 0 rfl) ?_
  refine ns_getr C w 28 (hI 28 (by decide)) sh_28 (rfl : vwCl[6]? = some (RX6, TX6, 6)) inX6_hasFirstWish_6 2 (by decide) rfl lX6_hasFirstWish_28 dX6_hasFirstWish_1 ?_
  refine ns_getr C w 37 (hI 37 (by decide)) sh_37 (rfl : vwCl[4]? = some (RX4, TX4, 6)) inX6_hasFirstWish_4 4 (by decide) rfl lX6_hasFirstWish_107 dX6_hasFirstWish_4 ?_
  refine lv_iload_n C.1.1 C.1.2.1 dX6_hasFirstWish_7 rfl (lv_at hl 1 rfl) ?_
  refine ns_iald C w 41 (hI 41 (by decide)) sh_41 hf rfl dX6_hasFirstWish_8 (fun x1 hf => ?_)
  refine ns_if_le C hf (tgt := 36) dX6_hasFirstWish_9 (by decide) (fun hf => ?_) (fun hf => ?_)
  · refine lv_iconst (v := 0) C.1.1 C.1.2.1 dX6_hasFirstWish_36 (by decide) ?_
    have he := Option.some.inj hf
    subst he
    exact ns_zret C w hr hlk rfl (Or.inl rfl) rfl dX6_hasFirstWish_37
  · refine lv_aload_n C.1.1 C.1.2.1 dX6_hasFirstWish_12 rfl (lv_at hl 0 rfl) ?_
    refine ns_getr C w 28 (hI 28 (by decide)) sh_28 (rfl : vwCl[6]? = some (RX6, TX6, 6)) inX6_hasFirstWish_6 3 (by decide) rfl lX6_hasFirstWish_35 dX6_hasFirstWish_13 ?_
    refine lv_iload_n C.1.1 C.1.2.1 dX6_hasFirstWish_16 rfl (lv_at hl 1 rfl) ?_
    refine lv_aload_n C.1.1 C.1.2.1 dX6_hasFirstWish_17 rfl (lv_at hl 0 rfl) ?_
    refine ns_getr C w 28 (hI 28 (by decide)) sh_28 (rfl : vwCl[6]? = some (RX6, TX6, 6)) inX6_hasFirstWish_6 2 (by decide) rfl lX6_hasFirstWish_28 dX6_hasFirstWish_18 ?_
    refine lv_iload_n C.1.1 C.1.2.1 dX6_hasFirstWish_21 rfl (lv_at hl 1 rfl) ?_
    refine lv_iconst (v := 0) C.1.1 C.1.2.1 dX6_hasFirstWish_22 (by decide) ?_
    refine ns_callV C w 37 (hI 37 (by decide)) sh_37 (rfl : vwCl[4]? = some (RX4, TX4, 6)) [.int p1, .int 0] hf (fun u hu => mX4_courseOfRank_37 l D b ids hI N _ p1 0 hu) gX6_hasFirstWish_X4_courseOfRank rfl rfl rfl hdX4_courseOfRank ⟨Nat.le_of_ble_eq_true rfl, Nat.le_of_ble_eq_true rfl⟩ (fun u h => h) rfl hl.1 rfl (Nat.le_of_ble_eq_true rfl) ⟨Nat.le_refl _, Nat.le_refl _⟩ dX6_hasFirstWish_23 (fun o2 H locs hf w => ?_)
    refine ns_callV C w 43 (hI 43 (by decide)) sh_43 (rfl : vwCl[7]? = some (RX7, TX7, 5)) [.int p1, .int o2] hf (fun u hu => mX7_hasCourse_43 l D b ids hI N _ p1 o2 hu) gX6_hasFirstWish_X7_hasCourse rfl rfl rfl hdX7_hasCourse ⟨Nat.le_of_ble_eq_true rfl, Nat.le_of_ble_eq_true rfl⟩ (fun u h => h) rfl hl.1 rfl (Nat.le_of_ble_eq_true rfl) ⟨Nat.le_refl _, Nat.le_refl _⟩ dX6_hasFirstWish_26 (fun o3 H locs hf w => ?_)
    refine ns_if_eq C hf (tgt := 36) dX6_hasFirstWish_29 (by decide) (fun hf => ?_) (fun hf => ?_)
    · refine lv_iconst (v := 0) C.1.1 C.1.2.1 dX6_hasFirstWish_36 (by decide) ?_
      have he := Option.some.inj hf
      subst he
      exact ns_zret C w hr hlk rfl (Or.inl rfl) rfl dX6_hasFirstWish_37
    · refine lv_iconst (v := 1) C.1.1 C.1.2.1 dX6_hasFirstWish_32 (by decide) ?_
      refine lv_goto (tgt := 37) C.1.1 C.1.2.1 dX6_hasFirstWish_33 (by decide) ?_
      have he := Option.some.inj hf
      subst he
      exact ns_zret C w hr hlk rfl (Or.inr rfl) rfl dX6_hasFirstWish_37
theorem lX6_valueOf_28 : Cond.fieldLink RX6 28 (TX6 2).1 (TX6 2).2.1 (TX6 2).2.2.1 ∈ wsX6_valueOf := List.mem_of_getElem? (i := 1) rfl
theorem lX6_valueOf_35 : Cond.fieldLink RX6 35 (TX6 3).1 (TX6 3).2.1 (TX6 3).2.2.1 ∈ wsX6_valueOf := List.mem_of_getElem? (i := 4) rfl
theorem lX6_valueOf_42 : Cond.fieldLink RX6 42 (TX6 4).1 (TX6 4).2.1 (TX6 4).2.2.1 ∈ wsX6_valueOf := List.mem_of_getElem? (i := 5) rfl
theorem lX6_valueOf_135 : Cond.fieldLink RX6 135 (TX8 0).1 (TX8 0).2.1 (TX8 0).2.2.1 ∈ wsX6_valueOf := List.mem_of_getElem? (i := 6) rfl
theorem lX6_valueOf_204 : Cond.fieldLink RX6 204 (TX4 1).1 (TX4 1).2.1 (TX4 1).2.2.1 ∈ wsX6_valueOf := List.mem_of_getElem? (i := 2) rfl
theorem lX6_valueOf_207 : Cond.fieldLink RX6 207 (TX4 2).1 (TX4 2).2.1 (TX4 2).2.2.1 ∈ wsX6_valueOf := List.mem_of_getElem? (i := 3) rfl
theorem inX6_valueOf_4 : ∀ w ∈ u_ws RX4 TX4 6, w ∈ wsX6_valueOf := fun _ h => List.mem_cons_of_mem _ (List.mem_append_left _ (List.mem_append_left _ (List.mem_append_right _ h)))
theorem inX6_valueOf_6 : ∀ w ∈ u_ws RX6 TX6 6, w ∈ wsX6_valueOf := fun _ h => List.mem_cons_of_mem _ (List.mem_append_left _ (List.mem_append_left _ (List.mem_append_left _ (List.mem_append_right _ h))))
theorem inX6_valueOf_8 : ∀ w ∈ u_ws RX8 TX8 6, w ∈ wsX6_valueOf := fun _ h => List.mem_cons_of_mem _ (List.mem_append_left _ (List.mem_append_right _ h))
theorem hdX6_valueOf : yX6_valueOf.cls = RX6 ∧ yX6_valueOf.cls ≠ "java/lang/invoke/MethodHandle" ∧ yX6_valueOf.cls ≠ "java/lang/invoke/VarHandle" ∧ (parseMethodDescriptor yX6_valueOf.desc).map (fun d => d.parameters.length) = some 3 := by decide +kernel
abbrev wrX6_valueOf_28 : List (Nat × Nat) := []
abbrev rmX6_valueOf_28 : Room := { frames := 2, cells := 0, slots := 0, locals := 43 }
set_option maxHeartbeats 4000000 in
set_option maxRecDepth 100000 in
theorem mX6_valueOf_28 (l : Launch) (D : va_G) (b : Nat → Nat) (ids : List Nat) (hI : ∀ i, i < 107 → i ∈ ids) (N : Nat) (S : ns_S) (p1 : Int32) (p2 : Int32) (p3 : Int64) {o : Int64} (hf : fX6_valueOf N (S.2.1 38) (S.2.1 39) (S.2.1 47) (S.2.1 41) (S.2.1 42) (S.1 3072) p1 p2 p3 = some o) : ns_M l yX6_valueOf wsX6_valueOf rmX6_valueOf_28 D b ids S [.ref (b 28), .int p1, .int p2, .long p3] (some (.long o)) S := by
  refine ns_start (Wr := wrX6_valueOf_28) (by decide) rfl (Nat.le_of_ble_eq_true rfl) ?_
  intro p e s m below meth c A ls C hr hlk w hl
  have hl : lv_has ls 5 [(0, .ref (b 28)), (1, .int p1), (2, .int p2), (3, .long p3)] := hl
  unfold fX6_valueOf at hf
  refine lv_iload_n C.1.1 C.1.2.1 dX6_valueOf_0 rfl (lv_at hl 1 rfl) ?_
  by_cases h_203 : p1 = 203
  · rw [if_pos h_203] at hf
    refine lv_tableIn (tgt := 40) C.1.1 C.1.2.1 dX6_valueOf_1 (by rw [h_203]; decide) (by rw [h_203]; decide) (by rw [h_203]; rfl) (by decide) ?_
    refine lv_aload_n C.1.1 C.1.2.1 dX6_valueOf_40 rfl (lv_at hl 0 rfl) ?_
    refine ns_getr C w 28 (hI 28 (by decide)) sh_28 (rfl : vwCl[6]? = some (RX6, TX6, 6)) inX6_valueOf_6 2 (by decide) rfl lX6_valueOf_28 dX6_valueOf_41 ?_
    refine ns_getr C w 37 (hI 37 (by decide)) sh_37 (rfl : vwCl[4]? = some (RX4, TX4, 6)) inX6_valueOf_4 1 (by decide) rfl lX6_valueOf_204 dX6_valueOf_44 ?_
    refine lv_iload_n C.1.1 C.1.2.1 dX6_valueOf_47 rfl (lv_at hl 2 rfl) ?_
    refine ns_iald C w 38 (hI 38 (by decide)) sh_38 hf rfl dX6_valueOf_48 (fun x1 hf => ?_)
    refine lv_i2l (v := x1.toInt64) C.1.1 C.1.2.1 dX6_valueOf_49 rfl ?_
    have he := Option.some.inj hf
    subst he
    exact ns_lret C w hr hlk rfl rfl dX6_valueOf_50
  rw [if_neg h_203] at hf
  by_cases h_204 : p1 = 204
  · rw [if_pos h_204] at hf
    refine lv_tableIn (tgt := 51) C.1.1 C.1.2.1 dX6_valueOf_1 (by rw [h_204]; decide) (by rw [h_204]; decide) (by rw [h_204]; rfl) (by decide) ?_
    refine lv_aload_n C.1.1 C.1.2.1 dX6_valueOf_51 rfl (lv_at hl 0 rfl) ?_
    refine ns_getr C w 28 (hI 28 (by decide)) sh_28 (rfl : vwCl[6]? = some (RX6, TX6, 6)) inX6_valueOf_6 2 (by decide) rfl lX6_valueOf_28 dX6_valueOf_52 ?_
    refine ns_getr C w 37 (hI 37 (by decide)) sh_37 (rfl : vwCl[4]? = some (RX4, TX4, 6)) inX6_valueOf_4 2 (by decide) rfl lX6_valueOf_207 dX6_valueOf_55 ?_
    refine lv_iload_n C.1.1 C.1.2.1 dX6_valueOf_58 rfl (lv_at hl 2 rfl) ?_
    refine ns_iald C w 39 (hI 39 (by decide)) sh_39 hf rfl dX6_valueOf_59 (fun x2 hf => ?_)
    refine lv_i2l (v := x2.toInt64) C.1.1 C.1.2.1 dX6_valueOf_60 rfl ?_
    have he := Option.some.inj hf
    subst he
    exact ns_lret C w hr hlk rfl rfl dX6_valueOf_61
  rw [if_neg h_204] at hf
  by_cases h_205 : p1 = 205
  · rw [if_pos h_205] at hf
    refine lv_tableIn (tgt := 62) C.1.1 C.1.2.1 dX6_valueOf_1 (by rw [h_205]; decide) (by rw [h_205]; decide) (by rw [h_205]; rfl) (by decide) ?_
    refine lv_aload_n C.1.1 C.1.2.1 dX6_valueOf_62 rfl (lv_at hl 0 rfl) ?_
    refine ns_getr C w 28 (hI 28 (by decide)) sh_28 (rfl : vwCl[6]? = some (RX6, TX6, 6)) inX6_valueOf_6 3 (by decide) rfl lX6_valueOf_35 dX6_valueOf_63 ?_
    refine lv_iload_n C.1.1 C.1.2.1 dX6_valueOf_66 rfl (lv_at hl 2 rfl) ?_
    refine ns_callV C w 43 (hI 43 (by decide)) sh_43 (rfl : vwCl[7]? = some (RX7, TX7, 5)) [.int p2] hf (fun u hu => mX7_coursesOf_43 l D b ids hI N _ p2 hu) gX6_valueOf_X7_coursesOf rfl rfl rfl hdX7_coursesOf ⟨Nat.le_of_ble_eq_true rfl, Nat.le_of_ble_eq_true rfl⟩ (fun u h => h) rfl hl.1 rfl (Nat.le_of_ble_eq_true rfl) ⟨Nat.le_refl _, Nat.le_refl _⟩ dX6_valueOf_67 (fun o3 H locs hf w => ?_)
    refine lv_i2l (v := o3.toInt64) C.1.1 C.1.2.1 dX6_valueOf_70 rfl ?_
    have he := Option.some.inj hf
    subst he
    exact ns_lret C w hr hlk rfl rfl dX6_valueOf_71
  rw [if_neg h_205] at hf
  by_cases h_206 : p1 = 206
  · rw [if_pos h_206] at hf
    refine lv_tableIn (tgt := 109) C.1.1 C.1.2.1 dX6_valueOf_1 (by rw [h_206]; decide) (by rw [h_206]; decide) (by rw [h_206]; rfl) (by decide) ?_
    refine lv_lload_n C.1.1 C.1.2.1 dX6_valueOf_109 rfl (lv_at hl 3 rfl) ?_
    have he := Option.some.inj hf
    subst he
    exact ns_lret C w hr hlk rfl rfl dX6_valueOf_110
  rw [if_neg h_206] at hf
  by_cases h_207 : p1 = 207
  · rw [if_pos h_207] at hf
    refine lv_tableIn (tgt := 72) C.1.1 C.1.2.1 dX6_valueOf_1 (by rw [h_207]; decide) (by rw [h_207]; decide) (by rw [h_207]; rfl) (by decide) ?_
    refine lv_aload_n C.1.1 C.1.2.1 dX6_valueOf_72 rfl (lv_at hl 0 rfl) ?_
    refine lv_iload_n C.1.1 C.1.2.1 dX6_valueOf_73 rfl (lv_at hl 2 rfl) ?_
    refine ns_callV C w 28 (hI 28 (by decide)) sh_28 (rfl : vwCl[6]? = some (RX6, TX6, 6)) [.int p2] hf (fun u hu => mX6_hasFirstWish_28 l D b ids hI N _ p2 hu) gX6_valueOf_X6_hasFirstWish rfl rfl rfl hdX6_hasFirstWish ⟨Nat.le_of_ble_eq_true rfl, Nat.le_of_ble_eq_true rfl⟩ (fun u h => h) rfl hl.1 rfl (Nat.le_of_ble_eq_true rfl) ⟨Nat.le_refl _, Nat.le_refl _⟩ dX6_valueOf_74 (fun o4 H locs hf w => ?_)
    refine ns_if_eq C hf (tgt := 84) dX6_valueOf_77 (by decide) (fun hf => ?_) (fun hf => ?_)
    · refine lv_lconst (v := 0) C.1.1 C.1.2.1 dX6_valueOf_84 (by decide) ?_
      have he := Option.some.inj hf
      subst he
      exact ns_lret C w hr hlk rfl rfl dX6_valueOf_85
    · refine lv_lconst (v := 1) C.1.1 C.1.2.1 dX6_valueOf_80 (by decide) ?_
      refine lv_goto (tgt := 85) C.1.1 C.1.2.1 dX6_valueOf_81 (by decide) ?_
      have he := Option.some.inj hf
      subst he
      exact ns_lret C w hr hlk rfl rfl dX6_valueOf_85
  rw [if_neg h_207] at hf
  by_cases h_208 : p1 = 208
  · rw [if_pos h_208] at hf
    refine lv_tableIn (tgt := 86) C.1.1 C.1.2.1 dX6_valueOf_1 (by rw [h_208]; decide) (by rw [h_208]; decide) (by rw [h_208]; rfl) (by decide) ?_
    refine lv_aload_n C.1.1 C.1.2.1 dX6_valueOf_86 rfl (lv_at hl 0 rfl) ?_
    refine ns_getr C w 28 (hI 28 (by decide)) sh_28 (rfl : vwCl[6]? = some (RX6, TX6, 6)) inX6_valueOf_6 4 (by decide) rfl lX6_valueOf_42 dX6_valueOf_87 ?_
    refine ns_callV C w 48 (hI 48 (by decide)) sh_48 (rfl : vwCl[8]? = some (RX8, TX8, 6)) [] hf (fun u hu => mX8_isOn_48 l D b ids hI N _ hu) gX6_valueOf_X8_isOn rfl rfl rfl hdX8_isOn ⟨Nat.le_of_ble_eq_true rfl, Nat.le_of_ble_eq_true rfl⟩ (fun u h => h) rfl hl.1 rfl (Nat.le_of_ble_eq_true rfl) ⟨Nat.le_refl _, Nat.le_refl _⟩ dX6_valueOf_90 (fun o5 H locs hf w => ?_)
    refine ns_if_eq C hf (tgt := 107) dX6_valueOf_93 (by decide) (fun hf => ?_) (fun hf => ?_)
    · refine lv_lconst (v := 0) C.1.1 C.1.2.1 dX6_valueOf_107 (by decide) ?_
      have he := Option.some.inj hf
      subst he
      exact ns_lret C w hr hlk rfl rfl dX6_valueOf_108
    · refine lv_aload_n C.1.1 C.1.2.1 dX6_valueOf_96 rfl (lv_at hl 0 rfl) ?_
      refine ns_getr C w 28 (hI 28 (by decide)) sh_28 (rfl : vwCl[6]? = some (RX6, TX6, 6)) inX6_valueOf_6 4 (by decide) rfl lX6_valueOf_42 dX6_valueOf_97 ?_
      refine ns_geti C w 48 (hI 48 (by decide)) sh_48 (rfl : vwCl[8]? = some (RX8, TX8, 6)) inX6_valueOf_8 0 (by decide) rfl lX6_valueOf_135 (S.1 3072) rfl dX6_valueOf_100 ?_
      refine lv_i2l (v := (S.1 3072).toInt64) C.1.1 C.1.2.1 dX6_valueOf_103 rfl ?_
      refine lv_goto (tgt := 108) C.1.1 C.1.2.1 dX6_valueOf_104 (by decide) ?_
      have he := Option.some.inj hf
      subst he
      exact ns_lret C w hr hlk rfl rfl dX6_valueOf_108
  rw [if_neg h_208] at hf
  refine lv_tableOut (tgt := 109) C.1.1 C.1.2.1 dX6_valueOf_1 (ns_out (by decide) (by decide) (fun k h1 h2 => ?_)) (by decide) ?_
  · rcases (by omega : k = 203 ∨ k = 204 ∨ k = 205 ∨ k = 206 ∨ k = 207 ∨ k = 208) with rfl | rfl | rfl | rfl | rfl | rfl
    · exact h_203
    · exact h_204
    · exact h_205
    · exact h_206
    · exact h_207
    · exact h_208
  · refine lv_lload_n C.1.1 C.1.2.1 dX6_valueOf_109 rfl (lv_at hl 3 rfl) ?_
    have he := Option.some.inj hf
    subst he
    exact ns_lret C w hr hlk rfl rfl dX6_valueOf_110
theorem lX2_testHolds_27 : Cond.fieldLink RX2 27 (TX2 6).1 (TX2 6).2.1 (TX2 6).2.2.1 ∈ wsX2_testHolds := List.mem_of_getElem? (i := 1) rfl
theorem lX2_testHolds_30 : Cond.fieldLink RX2 30 (TX2 7).1 (TX2 7).2.1 (TX2 7).2.2.1 ∈ wsX2_testHolds := List.mem_of_getElem? (i := 2) rfl
theorem inX2_testHolds_2 : ∀ w ∈ u_ws RX2 TX2 8, w ∈ wsX2_testHolds := fun _ h => List.mem_cons_of_mem _ (List.mem_append_right _ h)
theorem hdX2_testHolds : yX2_testHolds.cls = RX2 ∧ yX2_testHolds.cls ≠ "java/lang/invoke/MethodHandle" ∧ yX2_testHolds.cls ≠ "java/lang/invoke/VarHandle" ∧ (parseMethodDescriptor yX2_testHolds.desc).map (fun d => d.parameters.length) = some 2 := by decide +kernel
abbrev wrX2_testHolds_53 : List (Nat × Nat) := []
abbrev rmX2_testHolds_53 : Room := { frames := 0, cells := 0, slots := 0, locals := 0 }
set_option maxHeartbeats 4000000 in
set_option maxRecDepth 100000 in
theorem mX2_testHolds_53 (l : Launch) (D : va_G) (b : Nat → Nat) (ids : List Nat) (hI : ∀ i, i < 107 → i ∈ ids) (N : Nat) (S : ns_S) (p1 : Int32) (p2 : Int64) {o : Int32} (hf : fX2_testHolds N (S.2.1 59) (S.2.1 60) p1 p2 = some o) : ns_M l yX2_testHolds wsX2_testHolds rmX2_testHolds_53 D b ids S [.ref (b 53), .int p1, .long p2] (some (.int o)) S := by
  refine ns_start (Wr := wrX2_testHolds_53) (by decide) rfl (Nat.le_of_ble_eq_true rfl) ?_
  intro p e s m below meth c A ls C hr hlk w hl
  have hl : lv_has ls 4 [(0, .ref (b 53)), (1, .int p1), (2, .long p2)] := hl
  unfold fX2_testHolds at hf
  refine lv_aload_n C.1.1 C.1.2.1 dX2_testHolds_0 rfl (lv_at hl 0 rfl) ?_
  refine ns_getr C w 53 (hI 53 (by decide)) sh_53 (rfl : vwCl[2]? = some (RX2, TX2, 8)) inX2_testHolds_2 6 (by decide) rfl lX2_testHolds_27 dX2_testHolds_1 ?_
  refine lv_iload_n C.1.1 C.1.2.1 dX2_testHolds_4 rfl (lv_at hl 1 rfl) ?_
  refine ns_iald C w 59 (hI 59 (by decide)) sh_59 hf rfl dX2_testHolds_5 (fun x1 hf => ?_)
  by_cases h_60 : x1 = 60
  · rw [if_pos h_60] at hf
    refine lv_lookup (tgt := 32) (off := 26) C.1.1 C.1.2.1 dX2_testHolds_6 (by decide) (by rw [h_60] <;> rfl) (by decide) ?_
    refine lv_lload_n C.1.1 C.1.2.1 dX2_testHolds_32 rfl (lv_at hl 2 rfl) ?_
    refine lv_aload_n C.1.1 C.1.2.1 dX2_testHolds_33 rfl (lv_at hl 0 rfl) ?_
    refine ns_getr C w 53 (hI 53 (by decide)) sh_53 (rfl : vwCl[2]? = some (RX2, TX2, 8)) inX2_testHolds_2 7 (by decide) rfl lX2_testHolds_30 dX2_testHolds_34 ?_
    refine lv_iload_n C.1.1 C.1.2.1 dX2_testHolds_37 rfl (lv_at hl 1 rfl) ?_
    refine ns_iald C w 60 (hI 60 (by decide)) sh_60 hf rfl dX2_testHolds_38 (fun x2 hf => ?_)
    refine lv_i2l (v := x2.toInt64) C.1.1 C.1.2.1 dX2_testHolds_39 rfl ?_
    refine W.lcmp C.1.1 C.1.2.1 dX2_testHolds_40 ?_
    refine ns_if_ge C hf (tgt := 48) dX2_testHolds_41 (by decide) (fun hf => ?_) (fun hf => ?_)
    · refine lv_iconst (v := 0) C.1.1 C.1.2.1 dX2_testHolds_48 (by decide) ?_
      have he := Option.some.inj hf
      subst he
      exact ns_zret C w hr hlk rfl (Or.inl rfl) rfl dX2_testHolds_49
    · refine lv_iconst (v := 1) C.1.1 C.1.2.1 dX2_testHolds_44 (by decide) ?_
      refine lv_goto (tgt := 49) C.1.1 C.1.2.1 dX2_testHolds_45 (by decide) ?_
      have he := Option.some.inj hf
      subst he
      exact ns_zret C w hr hlk rfl (Or.inr rfl) rfl dX2_testHolds_49
  rw [if_neg h_60] at hf
  by_cases h_62 : x1 = 62
  · rw [if_pos h_62] at hf
    refine lv_lookup (tgt := 50) (off := 44) C.1.1 C.1.2.1 dX2_testHolds_6 (by decide) (by rw [h_62] <;> rfl) (by decide) ?_
    refine lv_lload_n C.1.1 C.1.2.1 dX2_testHolds_50 rfl (lv_at hl 2 rfl) ?_
    refine lv_aload_n C.1.1 C.1.2.1 dX2_testHolds_51 rfl (lv_at hl 0 rfl) ?_
    refine ns_getr C w 53 (hI 53 (by decide)) sh_53 (rfl : vwCl[2]? = some (RX2, TX2, 8)) inX2_testHolds_2 7 (by decide) rfl lX2_testHolds_30 dX2_testHolds_52 ?_
    refine lv_iload_n C.1.1 C.1.2.1 dX2_testHolds_55 rfl (lv_at hl 1 rfl) ?_
    refine ns_iald C w 60 (hI 60 (by decide)) sh_60 hf rfl dX2_testHolds_56 (fun x3 hf => ?_)
    refine lv_i2l (v := x3.toInt64) C.1.1 C.1.2.1 dX2_testHolds_57 rfl ?_
    refine W.lcmp C.1.1 C.1.2.1 dX2_testHolds_58 ?_
    refine ns_if_le C hf (tgt := 66) dX2_testHolds_59 (by decide) (fun hf => ?_) (fun hf => ?_)
    · refine lv_iconst (v := 0) C.1.1 C.1.2.1 dX2_testHolds_66 (by decide) ?_
      have he := Option.some.inj hf
      subst he
      exact ns_zret C w hr hlk rfl (Or.inl rfl) rfl dX2_testHolds_67
    · refine lv_iconst (v := 1) C.1.1 C.1.2.1 dX2_testHolds_62 (by decide) ?_
      refine lv_goto (tgt := 67) C.1.1 C.1.2.1 dX2_testHolds_63 (by decide) ?_
      have he := Option.some.inj hf
      subst he
      exact ns_zret C w hr hlk rfl (Or.inr rfl) rfl dX2_testHolds_67
  rw [if_neg h_62] at hf
  refine lv_lookup (tgt := 68) (off := 62) C.1.1 C.1.2.1 dX2_testHolds_6 (by decide) (by rw [lv_osw h_60 (by decide), lv_osw h_62 (by decide)] <;> rfl) (by decide) ?_
  refine lv_lload_n C.1.1 C.1.2.1 dX2_testHolds_68 rfl (lv_at hl 2 rfl) ?_
  refine lv_aload_n C.1.1 C.1.2.1 dX2_testHolds_69 rfl (lv_at hl 0 rfl) ?_
  refine ns_getr C w 53 (hI 53 (by decide)) sh_53 (rfl : vwCl[2]? = some (RX2, TX2, 8)) inX2_testHolds_2 7 (by decide) rfl lX2_testHolds_30 dX2_testHolds_70 ?_
  refine lv_iload_n C.1.1 C.1.2.1 dX2_testHolds_73 rfl (lv_at hl 1 rfl) ?_
  refine ns_iald C w 60 (hI 60 (by decide)) sh_60 hf rfl dX2_testHolds_74 (fun x4 hf => ?_)
  refine lv_i2l (v := x4.toInt64) C.1.1 C.1.2.1 dX2_testHolds_75 rfl ?_
  refine W.lcmp C.1.1 C.1.2.1 dX2_testHolds_76 ?_
  refine ns_if_ne C hf (tgt := 84) dX2_testHolds_77 (by decide) (fun hf => ?_) (fun hf => ?_)
  · refine lv_iconst (v := 0) C.1.1 C.1.2.1 dX2_testHolds_84 (by decide) ?_
    have he := Option.some.inj hf
    subst he
    exact ns_zret C w hr hlk rfl (Or.inl rfl) rfl dX2_testHolds_85
  · refine lv_iconst (v := 1) C.1.1 C.1.2.1 dX2_testHolds_80 (by decide) ?_
    refine lv_goto (tgt := 85) C.1.1 C.1.2.1 dX2_testHolds_81 (by decide) ?_
    have he := Option.some.inj hf
    subst he
    exact ns_zret C w hr hlk rfl (Or.inr rfl) rfl dX2_testHolds_85
theorem lX6_allTestsHold_49 : Cond.fieldLink RX6 49 (TX6 5).1 (TX6 5).2.1 (TX6 5).2.2.1 ∈ wsX6_allTestsHold := List.mem_of_getElem? (i := 1) rfl
theorem lX6_allTestsHold_190 : Cond.fieldLink RX6 190 (TX2 4).1 (TX2 4).2.1 (TX2 4).2.2.1 ∈ wsX6_allTestsHold := List.mem_of_getElem? (i := 2) rfl
theorem lX6_allTestsHold_193 : Cond.fieldLink RX6 193 (TX2 5).1 (TX2 5).2.1 (TX2 5).2.2.1 ∈ wsX6_allTestsHold := List.mem_of_getElem? (i := 3) rfl
theorem inX6_allTestsHold_2 : ∀ w ∈ u_ws RX2 TX2 8, w ∈ wsX6_allTestsHold := fun _ h => List.mem_cons_of_mem _ (List.mem_append_left _ (List.mem_append_left _ (List.mem_append_left _ (List.mem_append_right _ h))))
theorem inX6_allTestsHold_6 : ∀ w ∈ u_ws RX6 TX6 6, w ∈ wsX6_allTestsHold := fun _ h => List.mem_cons_of_mem _ (List.mem_append_left _ (List.mem_append_left _ (List.mem_append_left _ (List.mem_append_left _ (List.mem_append_right _ h)))))
theorem hdX6_allTestsHold : yX6_allTestsHold.cls = RX6 ∧ yX6_allTestsHold.cls ≠ "java/lang/invoke/MethodHandle" ∧ yX6_allTestsHold.cls ≠ "java/lang/invoke/VarHandle" ∧ (parseMethodDescriptor yX6_allTestsHold.desc).map (fun d => d.parameters.length) = some 3 := by decide +kernel
abbrev wrX6_allTestsHold_28 : List (Nat × Nat) := []
abbrev rmX6_allTestsHold_28 : Room := { frames := 3, cells := 0, slots := 0, locals := 67 }
set_option maxHeartbeats 4000000 in
set_option maxRecDepth 100000 in
theorem wX6_allTestsHold_28_3 {p : Program} {l : Launch} {e : Env} {s : State} {m : MethodId} {args : Array Value} {below : List Frame} {meth : Method} {c : Code} {D : va_G} {b : Nat → Nat} {ids : List Nat} {A : Nat → Prop} {S0 : ns_S} {o : Int32} (N : Nat) (hI : ∀ i, i < 107 → i ∈ ids) (C : ns_C p m c cX6_allTestsHold 7 s args wsX6_allTestsHold RX6 D A) (hr : meth.sig.returnType = some .boolean) (hlk : meth.locks = false) : ∀ n : Nat, ∀ {S : ns_S} {H : Heap} {locs : List Loc} {ls : Array Slot} {l1 : Int32} {l2 : Int32} {l3 : Int64} {l5 : Int32}, ns_W D b ids A s.heap wrX6_allTestsHold_28 S0 S H locs → lv_has ls 7 [(0, .ref (b 28)), (1, .int l1), (2, .int l2), (3, .long l3), (5, .int l5)] → fX6_allTestsHold_3 N n (S.2.1 57) (S.2.1 58) (S.2.1 38) (S.2.1 39) (S.2.1 47) (S.2.1 41) (S.2.1 42) (S.1 3072) (S.2.1 59) (S.2.1 60) l1 l2 l3 l5 = some o → W p l e rmX6_allTestsHold_28 s m args below meth c H locs 0 0 (MQ below (ns_Q D b ids S0 (some (.int o)) A) args s 0 0 A) (F0 m 3 ls []) := by
  intro n
  induction n with
  | zero =>
    intro S H locs ls l1 l2 l3 l5 w hl hf
    cases hf
  | succ n K3 =>
    intro S H locs ls l1 l2 l3 l5 w hl hf
    change gX6_allTestsHold_3 N (fX6_allTestsHold_3 N n) (S.2.1 57) (S.2.1 58) (S.2.1 38) (S.2.1 39) (S.2.1 47) (S.2.1 41) (S.2.1 42) (S.1 3072) (S.2.1 59) (S.2.1 60) l1 l2 l3 l5 = some o at hf
    generalize fX6_allTestsHold_3 N n = r3 at hf K3
    unfold gX6_allTestsHold_3 at hf
    refine lv_iload C.1.1 C.1.2.1 dX6_allTestsHold_3 (lv_at hl 4 rfl) ?_
    refine lv_aload_n C.1.1 C.1.2.1 dX6_allTestsHold_5 rfl (lv_at hl 0 rfl) ?_
    refine ns_getr C w 28 (hI 28 (by decide)) sh_28 (rfl : vwCl[6]? = some (RX6, TX6, 6)) inX6_allTestsHold_6 5 (by decide) rfl lX6_allTestsHold_49 dX6_allTestsHold_6 ?_
    refine ns_getr C w 53 (hI 53 (by decide)) sh_53 (rfl : vwCl[2]? = some (RX2, TX2, 8)) inX6_allTestsHold_2 4 (by decide) rfl lX6_allTestsHold_190 dX6_allTestsHold_9 ?_
    refine lv_iload_n C.1.1 C.1.2.1 dX6_allTestsHold_12 rfl (lv_at hl 2 rfl) ?_
    refine ns_iald C w 57 (hI 57 (by decide)) sh_57 hf rfl dX6_allTestsHold_13 (fun x1 hf => ?_)
    refine ns_icmp_ge C hf (tgt := 61) dX6_allTestsHold_14 (by decide) (fun hf => ?_) (fun hf => ?_)
    · refine lv_iconst (v := 1) C.1.1 C.1.2.1 dX6_allTestsHold_61 (by decide) ?_
      have he := Option.some.inj hf
      subst he
      exact ns_zret C w hr hlk rfl (Or.inr rfl) rfl dX6_allTestsHold_62
    · refine lv_iload_n C.1.1 C.1.2.1 dX6_allTestsHold_17 rfl (lv_at hl 2 rfl) ?_
      refine lv_iconst (v := 4) C.1.1 C.1.2.1 dX6_allTestsHold_18 (by decide) ?_
      refine lv_imul C.1.1 C.1.2.1 dX6_allTestsHold_19 ?_
      refine lv_iload C.1.1 C.1.2.1 dX6_allTestsHold_20 (lv_at hl 4 rfl) ?_
      refine lv_iadd C.1.1 C.1.2.1 dX6_allTestsHold_22 ?_
      refine ns_namei hf (fun x2 hf => ?_)
      refine lv_istore (lv' := [(6, .int x2), (0, .ref (b 28)), (1, .int l1), (2, .int l2), (3, .long l3), (5, .int l5)]) C.1.1 C.1.2.1 dX6_allTestsHold_23 hl (by decide) rfl (fun ls hl => ?_)
      refine lv_aload_n C.1.1 C.1.2.1 dX6_allTestsHold_25 rfl (lv_at hl 1 rfl) ?_
      refine ns_getr C w 28 (hI 28 (by decide)) sh_28 (rfl : vwCl[6]? = some (RX6, TX6, 6)) inX6_allTestsHold_6 5 (by decide) rfl lX6_allTestsHold_49 dX6_allTestsHold_26 ?_
      refine lv_iload C.1.1 C.1.2.1 dX6_allTestsHold_29 (lv_at hl 0 rfl) ?_
      refine lv_aload_n C.1.1 C.1.2.1 dX6_allTestsHold_31 rfl (lv_at hl 1 rfl) ?_
      refine lv_aload_n C.1.1 C.1.2.1 dX6_allTestsHold_32 rfl (lv_at hl 1 rfl) ?_
      refine ns_getr C w 28 (hI 28 (by decide)) sh_28 (rfl : vwCl[6]? = some (RX6, TX6, 6)) inX6_allTestsHold_6 5 (by decide) rfl lX6_allTestsHold_49 dX6_allTestsHold_33 ?_
      refine ns_getr C w 53 (hI 53 (by decide)) sh_53 (rfl : vwCl[2]? = some (RX2, TX2, 8)) inX6_allTestsHold_2 5 (by decide) rfl lX6_allTestsHold_193 dX6_allTestsHold_36 ?_
      refine lv_iload C.1.1 C.1.2.1 dX6_allTestsHold_39 (lv_at hl 0 rfl) ?_
      refine ns_iald C w 58 (hI 58 (by decide)) sh_58 hf rfl dX6_allTestsHold_41 (fun x3 hf => ?_)
      refine lv_iload_n C.1.1 C.1.2.1 dX6_allTestsHold_42 rfl (lv_at hl 2 rfl) ?_
      refine lv_lload_n C.1.1 C.1.2.1 dX6_allTestsHold_43 rfl (lv_at hl 4 rfl) ?_
      refine ns_callV C w 28 (hI 28 (by decide)) sh_28 (rfl : vwCl[6]? = some (RX6, TX6, 6)) [.int x3, .int l1, .long l3] hf (fun u hu => mX6_valueOf_28 l D b ids hI N _ x3 l1 l3 hu) gX6_allTestsHold_X6_valueOf rfl rfl rfl hdX6_valueOf ⟨Nat.le_of_ble_eq_true rfl, Nat.le_of_ble_eq_true rfl⟩ (fun u h => h) rfl hl.1 rfl (Nat.le_of_ble_eq_true rfl) ⟨Nat.le_refl _, Nat.le_refl _⟩ dX6_allTestsHold_44 (fun o4 H locs hf w => ?_)
      refine ns_callV C w 53 (hI 53 (by decide)) sh_53 (rfl : vwCl[2]? = some (RX2, TX2, 8)) [.int x2, .long o4] hf (fun u hu => mX2_testHolds_53 l D b ids hI N _ x2 o4 hu) gX6_allTestsHold_X2_testHolds rfl rfl rfl hdX2_testHolds ⟨Nat.le_of_ble_eq_true rfl, Nat.le_of_ble_eq_true rfl⟩ (fun u h => h) rfl hl.1 rfl (Nat.le_of_ble_eq_true rfl) ⟨Nat.le_refl _, Nat.le_refl _⟩ dX6_allTestsHold_47 (fun o5 H locs hf w => ?_)
      refine ns_if_ne C hf (tgt := 55) dX6_allTestsHold_50 (by decide) (fun hf => ?_) (fun hf => ?_)
      · refine ns_iinc (lv' := fun x6 => [(5, .int x6), (6, .int x2), (0, .ref (b 28)), (1, .int l1), (2, .int l2), (3, .long l3)]) C hf dX6_allTestsHold_55 hl (k := 5) rfl rfl (by decide) (fun _ => rfl) (fun x6 ls hl hf => ?_)
        refine lv_goto (tgt := 3) C.1.1 C.1.2.1 dX6_allTestsHold_58 (by decide) ?_
        exact K3 w (lv_sub hl [2, 3, 4, 5, 0] rfl) hf
      · refine lv_iconst (v := 0) C.1.1 C.1.2.1 dX6_allTestsHold_53 (by decide) ?_
        have he := Option.some.inj hf
        subst he
        exact ns_zret C w hr hlk rfl (Or.inl rfl) rfl dX6_allTestsHold_54
set_option maxHeartbeats 4000000 in
set_option maxRecDepth 100000 in
theorem mX6_allTestsHold_28 (l : Launch) (D : va_G) (b : Nat → Nat) (ids : List Nat) (hI : ∀ i, i < 107 → i ∈ ids) (N : Nat) (S : ns_S) (p1 : Int32) (p2 : Int32) (p3 : Int64) {o : Int32} (hf : fX6_allTestsHold N (S.2.1 57) (S.2.1 58) (S.2.1 38) (S.2.1 39) (S.2.1 47) (S.2.1 41) (S.2.1 42) (S.1 3072) (S.2.1 59) (S.2.1 60) p1 p2 p3 = some o) : ns_M l yX6_allTestsHold wsX6_allTestsHold rmX6_allTestsHold_28 D b ids S [.ref (b 28), .int p1, .int p2, .long p3] (some (.int o)) S := by
  refine ns_start (Wr := wrX6_allTestsHold_28) (by decide) rfl (Nat.le_of_ble_eq_true rfl) ?_
  intro p e s m below meth c A ls C hr hlk w hl
  have hl : lv_has ls 7 [(0, .ref (b 28)), (1, .int p1), (2, .int p2), (3, .long p3)] := hl
  unfold fX6_allTestsHold at hf
  refine lv_iconst (v := 0) C.1.1 C.1.2.1 dX6_allTestsHold_0 (by decide) ?_
  refine lv_istore (lv' := [(5, .int 0), (0, .ref (b 28)), (1, .int p1), (2, .int p2), (3, .long p3)]) C.1.1 C.1.2.1 dX6_allTestsHold_1 hl (by decide) rfl (fun ls hl => ?_)
  exact wX6_allTestsHold_28_3 N hI C hr hlk N w (lv_sub hl [1, 2, 3, 4, 0] rfl) hf
theorem lX2_sumAfterAct_9 : Cond.fieldLink RX2 9 (TX2 1).1 (TX2 1).2.1 (TX2 1).2.2.1 ∈ wsX2_sumAfterAct := List.mem_of_getElem? (i := 1) rfl
theorem lX2_sumAfterAct_15 : Cond.fieldLink RX2 15 (TX2 2).1 (TX2 2).2.1 (TX2 2).2.2.1 ∈ wsX2_sumAfterAct := List.mem_of_getElem? (i := 3) rfl
theorem lX2_sumAfterAct_18 : Cond.fieldLink RX2 18 (TX2 3).1 (TX2 3).2.1 (TX2 3).2.2.1 ∈ wsX2_sumAfterAct := List.mem_of_getElem? (i := 11) rfl
theorem inX2_sumAfterAct_2 : ∀ w ∈ u_ws RX2 TX2 8, w ∈ wsX2_sumAfterAct := fun _ h => List.mem_cons_of_mem _ (List.mem_append_right _ h)
theorem hdX2_sumAfterAct : yX2_sumAfterAct.cls = RX2 ∧ yX2_sumAfterAct.cls ≠ "java/lang/invoke/MethodHandle" ∧ yX2_sumAfterAct.cls ≠ "java/lang/invoke/VarHandle" ∧ (parseMethodDescriptor yX2_sumAfterAct.desc).map (fun d => d.parameters.length) = some 2 := by decide +kernel
abbrev wrX2_sumAfterAct_53 : List (Nat × Nat) := []
abbrev rmX2_sumAfterAct_53 : Room := { frames := 1, cells := 0, slots := 0, locals := 23 }
set_option maxHeartbeats 4000000 in
set_option maxRecDepth 100000 in
theorem mX2_sumAfterAct_53 (l : Launch) (D : va_G) (b : Nat → Nat) (ids : List Nat) (hI : ∀ i, i < 107 → i ∈ ids) (N : Nat) (S : ns_S) (p1 : Int32) (p2 : Int64) {o : Int64} (hf : fX2_sumAfterAct N (S.2.1 54) (S.2.1 55) (S.2.1 56) p1 p2 = some o) : ns_M l yX2_sumAfterAct wsX2_sumAfterAct rmX2_sumAfterAct_53 D b ids S [.ref (b 53), .int p1, .long p2] (some (.long o)) S := by
  refine ns_start (Wr := wrX2_sumAfterAct_53) (by decide) rfl (Nat.le_of_ble_eq_true rfl) ?_
  intro p e s m below meth c A ls C hr hlk w hl
  have hl : lv_has ls 4 [(0, .ref (b 53)), (1, .int p1), (2, .long p2)] := hl
  unfold fX2_sumAfterAct at hf
  refine lv_aload_n C.1.1 C.1.2.1 dX2_sumAfterAct_0 rfl (lv_at hl 0 rfl) ?_
  refine ns_getr C w 53 (hI 53 (by decide)) sh_53 (rfl : vwCl[2]? = some (RX2, TX2, 8)) inX2_sumAfterAct_2 1 (by decide) rfl lX2_sumAfterAct_9 dX2_sumAfterAct_1 ?_
  refine lv_iload_n C.1.1 C.1.2.1 dX2_sumAfterAct_4 rfl (lv_at hl 1 rfl) ?_
  refine ns_iald C w 54 (hI 54 (by decide)) sh_54 hf rfl dX2_sumAfterAct_5 (fun x1 hf => ?_)
  by_cases h_209 : x1 = 209
  · rw [if_pos h_209] at hf
    refine lv_tableIn (tgt := 44) C.1.1 C.1.2.1 dX2_sumAfterAct_6 (by rw [h_209]; decide) (by rw [h_209]; decide) (by rw [h_209]; rfl) (by decide) ?_
    refine lv_ldc2 (v := 1000000000) C.1.1 C.1.2.1 C.1.2.2.2.1 (C.1.2.2.2.2 (.constantLong RX2 43 (1000000000)) (List.mem_of_getElem? (i := 2) rfl)) dX2_sumAfterAct_44 ?_
    refine lv_lload_n C.1.1 C.1.2.1 dX2_sumAfterAct_47 rfl (lv_at hl 2 rfl) ?_
    refine lv_aload_n C.1.1 C.1.2.1 dX2_sumAfterAct_48 rfl (lv_at hl 0 rfl) ?_
    refine ns_getr C w 53 (hI 53 (by decide)) sh_53 (rfl : vwCl[2]? = some (RX2, TX2, 8)) inX2_sumAfterAct_2 2 (by decide) rfl lX2_sumAfterAct_15 dX2_sumAfterAct_49 ?_
    refine lv_iload_n C.1.1 C.1.2.1 dX2_sumAfterAct_52 rfl (lv_at hl 1 rfl) ?_
    refine ns_iald C w 55 (hI 55 (by decide)) sh_55 hf rfl dX2_sumAfterAct_53 (fun x2 hf => ?_)
    refine lv_i2l (v := x2.toInt64) C.1.1 C.1.2.1 dX2_sumAfterAct_54 rfl ?_
    refine lv_ladd C.1.1 C.1.2.1 dX2_sumAfterAct_55 ?_
    refine va_mmin_long C.1.1 C.1.2.1 (by rw [C.1.2.2.1, hl.1]) C.1.2.2.2.1 (C.1.2.2.2.2 _ (List.mem_of_getElem? (i := 4) rfl)) (C.1.2.2.2.2 _ (List.mem_of_getElem? (i := 5) rfl)) (C.1.2.2.2.2 _ (List.mem_of_getElem? (i := 6) rfl)) (C.1.2.2.2.2 _ (List.mem_of_getElem? (i := 7) rfl)) (Nat.le_of_ble_eq_true rfl) (Nat.le_of_ble_eq_true rfl) (Nat.le_refl _) (Nat.le_refl _) dX2_sumAfterAct_56 ?_
    have he := Option.some.inj hf
    subst he
    exact ns_lret C w hr hlk rfl rfl dX2_sumAfterAct_59
  rw [if_neg h_209] at hf
  by_cases h_210 : x1 = 210
  · rw [if_pos h_210] at hf
    refine lv_tableIn (tgt := 60) C.1.1 C.1.2.1 dX2_sumAfterAct_6 (by rw [h_210]; decide) (by rw [h_210]; decide) (by rw [h_210]; rfl) (by decide) ?_
    refine lv_lconst (v := 0) C.1.1 C.1.2.1 dX2_sumAfterAct_60 (by decide) ?_
    refine lv_lload_n C.1.1 C.1.2.1 dX2_sumAfterAct_61 rfl (lv_at hl 2 rfl) ?_
    refine lv_aload_n C.1.1 C.1.2.1 dX2_sumAfterAct_62 rfl (lv_at hl 0 rfl) ?_
    refine ns_getr C w 53 (hI 53 (by decide)) sh_53 (rfl : vwCl[2]? = some (RX2, TX2, 8)) inX2_sumAfterAct_2 2 (by decide) rfl lX2_sumAfterAct_15 dX2_sumAfterAct_63 ?_
    refine lv_iload_n C.1.1 C.1.2.1 dX2_sumAfterAct_66 rfl (lv_at hl 1 rfl) ?_
    refine ns_iald C w 55 (hI 55 (by decide)) sh_55 hf rfl dX2_sumAfterAct_67 (fun x3 hf => ?_)
    refine lv_i2l (v := x3.toInt64) C.1.1 C.1.2.1 dX2_sumAfterAct_68 rfl ?_
    refine lv_lsub C.1.1 C.1.2.1 dX2_sumAfterAct_69 ?_
    refine va_mmax_long C.1.1 C.1.2.1 (by rw [C.1.2.2.1, hl.1]) C.1.2.2.2.1 (C.1.2.2.2.2 _ (List.mem_of_getElem? (i := 8) rfl)) (C.1.2.2.2.2 _ (List.mem_of_getElem? (i := 9) rfl)) (C.1.2.2.2.2 _ (List.mem_of_getElem? (i := 6) rfl)) (C.1.2.2.2.2 _ (List.mem_of_getElem? (i := 10) rfl)) (Nat.le_of_ble_eq_true rfl) (Nat.le_of_ble_eq_true rfl) (Nat.le_refl _) (Nat.le_refl _) dX2_sumAfterAct_70 ?_
    have he := Option.some.inj hf
    subst he
    exact ns_lret C w hr hlk rfl rfl dX2_sumAfterAct_73
  rw [if_neg h_210] at hf
  by_cases h_211 : x1 = 211
  · rw [if_pos h_211] at hf
    refine lv_tableIn (tgt := 74) C.1.1 C.1.2.1 dX2_sumAfterAct_6 (by rw [h_211]; decide) (by rw [h_211]; decide) (by rw [h_211]; rfl) (by decide) ?_
    refine lv_aload_n C.1.1 C.1.2.1 dX2_sumAfterAct_74 rfl (lv_at hl 0 rfl) ?_
    refine ns_getr C w 53 (hI 53 (by decide)) sh_53 (rfl : vwCl[2]? = some (RX2, TX2, 8)) inX2_sumAfterAct_2 3 (by decide) rfl lX2_sumAfterAct_18 dX2_sumAfterAct_75 ?_
    refine lv_iload_n C.1.1 C.1.2.1 dX2_sumAfterAct_78 rfl (lv_at hl 1 rfl) ?_
    refine ns_iald C w 56 (hI 56 (by decide)) sh_56 hf rfl dX2_sumAfterAct_79 (fun x4 hf => ?_)
    refine ns_if_ne C hf (tgt := 87) dX2_sumAfterAct_80 (by decide) (fun hf => ?_) (fun hf => ?_)
    · refine lv_ldc2 (v := 1000000000) C.1.1 C.1.2.1 C.1.2.2.2.1 (C.1.2.2.2.2 (.constantLong RX2 43 (1000000000)) (List.mem_of_getElem? (i := 2) rfl)) dX2_sumAfterAct_87 ?_
      refine lv_lload_n C.1.1 C.1.2.1 dX2_sumAfterAct_90 rfl (lv_at hl 2 rfl) ?_
      refine lv_aload_n C.1.1 C.1.2.1 dX2_sumAfterAct_91 rfl (lv_at hl 0 rfl) ?_
      refine ns_getr C w 53 (hI 53 (by decide)) sh_53 (rfl : vwCl[2]? = some (RX2, TX2, 8)) inX2_sumAfterAct_2 2 (by decide) rfl lX2_sumAfterAct_15 dX2_sumAfterAct_92 ?_
      refine lv_iload_n C.1.1 C.1.2.1 dX2_sumAfterAct_95 rfl (lv_at hl 1 rfl) ?_
      refine ns_iald C w 55 (hI 55 (by decide)) sh_55 hf rfl dX2_sumAfterAct_96 (fun x5 hf => ?_)
      refine lv_i2l (v := x5.toInt64) C.1.1 C.1.2.1 dX2_sumAfterAct_97 rfl ?_
      refine lv_lmul C.1.1 C.1.2.1 dX2_sumAfterAct_98 ?_
      refine lv_aload_n C.1.1 C.1.2.1 dX2_sumAfterAct_99 rfl (lv_at hl 0 rfl) ?_
      refine ns_getr C w 53 (hI 53 (by decide)) sh_53 (rfl : vwCl[2]? = some (RX2, TX2, 8)) inX2_sumAfterAct_2 3 (by decide) rfl lX2_sumAfterAct_18 dX2_sumAfterAct_100 ?_
      refine lv_iload_n C.1.1 C.1.2.1 dX2_sumAfterAct_103 rfl (lv_at hl 1 rfl) ?_
      refine ns_iald C w 56 (hI 56 (by decide)) sh_56 hf rfl dX2_sumAfterAct_104 (fun x6 hf => ?_)
      refine lv_i2l (v := x6.toInt64) C.1.1 C.1.2.1 dX2_sumAfterAct_105 rfl ?_
      refine ns_ldiv C hf dX2_sumAfterAct_106 (fun x7 hf => ?_)
      refine va_mmin_long C.1.1 C.1.2.1 (by rw [C.1.2.2.1, hl.1]) C.1.2.2.2.1 (C.1.2.2.2.2 _ (List.mem_of_getElem? (i := 4) rfl)) (C.1.2.2.2.2 _ (List.mem_of_getElem? (i := 5) rfl)) (C.1.2.2.2.2 _ (List.mem_of_getElem? (i := 6) rfl)) (C.1.2.2.2.2 _ (List.mem_of_getElem? (i := 7) rfl)) (Nat.le_of_ble_eq_true rfl) (Nat.le_of_ble_eq_true rfl) (Nat.le_refl _) (Nat.le_refl _) dX2_sumAfterAct_107 ?_
      have he := Option.some.inj hf
      subst he
      exact ns_lret C w hr hlk rfl rfl dX2_sumAfterAct_110
    · refine lv_lload_n C.1.1 C.1.2.1 dX2_sumAfterAct_83 rfl (lv_at hl 2 rfl) ?_
      refine lv_goto (tgt := 110) C.1.1 C.1.2.1 dX2_sumAfterAct_84 (by decide) ?_
      have he := Option.some.inj hf
      subst he
      exact ns_lret C w hr hlk rfl rfl dX2_sumAfterAct_110
  rw [if_neg h_211] at hf
  by_cases h_212 : x1 = 212
  · rw [if_pos h_212] at hf
    refine lv_tableIn (tgt := 111) C.1.1 C.1.2.1 dX2_sumAfterAct_6 (by rw [h_212]; decide) (by rw [h_212]; decide) (by rw [h_212]; rfl) (by decide) ?_
    refine lv_lload_n C.1.1 C.1.2.1 dX2_sumAfterAct_111 rfl (lv_at hl 2 rfl) ?_
    refine lv_aload_n C.1.1 C.1.2.1 dX2_sumAfterAct_112 rfl (lv_at hl 0 rfl) ?_
    refine ns_getr C w 53 (hI 53 (by decide)) sh_53 (rfl : vwCl[2]? = some (RX2, TX2, 8)) inX2_sumAfterAct_2 2 (by decide) rfl lX2_sumAfterAct_15 dX2_sumAfterAct_113 ?_
    refine lv_iload_n C.1.1 C.1.2.1 dX2_sumAfterAct_116 rfl (lv_at hl 1 rfl) ?_
    refine ns_iald C w 55 (hI 55 (by decide)) sh_55 hf rfl dX2_sumAfterAct_117 (fun x8 hf => ?_)
    refine lv_i2l (v := x8.toInt64) C.1.1 C.1.2.1 dX2_sumAfterAct_118 rfl ?_
    refine va_mmax_long C.1.1 C.1.2.1 (by rw [C.1.2.2.1, hl.1]) C.1.2.2.2.1 (C.1.2.2.2.2 _ (List.mem_of_getElem? (i := 8) rfl)) (C.1.2.2.2.2 _ (List.mem_of_getElem? (i := 9) rfl)) (C.1.2.2.2.2 _ (List.mem_of_getElem? (i := 6) rfl)) (C.1.2.2.2.2 _ (List.mem_of_getElem? (i := 10) rfl)) (Nat.le_of_ble_eq_true rfl) (Nat.le_of_ble_eq_true rfl) (Nat.le_refl _) (Nat.le_refl _) dX2_sumAfterAct_119 ?_
    have he := Option.some.inj hf
    subst he
    exact ns_lret C w hr hlk rfl rfl dX2_sumAfterAct_122
  rw [if_neg h_212] at hf
  by_cases h_213 : x1 = 213
  · rw [if_pos h_213] at hf
    refine lv_tableIn (tgt := 123) C.1.1 C.1.2.1 dX2_sumAfterAct_6 (by rw [h_213]; decide) (by rw [h_213]; decide) (by rw [h_213]; rfl) (by decide) ?_
    refine lv_lload_n C.1.1 C.1.2.1 dX2_sumAfterAct_123 rfl (lv_at hl 2 rfl) ?_
    refine lv_aload_n C.1.1 C.1.2.1 dX2_sumAfterAct_124 rfl (lv_at hl 0 rfl) ?_
    refine ns_getr C w 53 (hI 53 (by decide)) sh_53 (rfl : vwCl[2]? = some (RX2, TX2, 8)) inX2_sumAfterAct_2 2 (by decide) rfl lX2_sumAfterAct_15 dX2_sumAfterAct_125 ?_
    refine lv_iload_n C.1.1 C.1.2.1 dX2_sumAfterAct_128 rfl (lv_at hl 1 rfl) ?_
    refine ns_iald C w 55 (hI 55 (by decide)) sh_55 hf rfl dX2_sumAfterAct_129 (fun x9 hf => ?_)
    refine lv_i2l (v := x9.toInt64) C.1.1 C.1.2.1 dX2_sumAfterAct_130 rfl ?_
    refine va_mmin_long C.1.1 C.1.2.1 (by rw [C.1.2.2.1, hl.1]) C.1.2.2.2.1 (C.1.2.2.2.2 _ (List.mem_of_getElem? (i := 4) rfl)) (C.1.2.2.2.2 _ (List.mem_of_getElem? (i := 5) rfl)) (C.1.2.2.2.2 _ (List.mem_of_getElem? (i := 6) rfl)) (C.1.2.2.2.2 _ (List.mem_of_getElem? (i := 7) rfl)) (Nat.le_of_ble_eq_true rfl) (Nat.le_of_ble_eq_true rfl) (Nat.le_refl _) (Nat.le_refl _) dX2_sumAfterAct_131 ?_
    have he := Option.some.inj hf
    subst he
    exact ns_lret C w hr hlk rfl rfl dX2_sumAfterAct_134
  rw [if_neg h_213] at hf
  by_cases h_214 : x1 = 214
  · rw [if_pos h_214] at hf
    refine lv_tableIn (tgt := 135) C.1.1 C.1.2.1 dX2_sumAfterAct_6 (by rw [h_214]; decide) (by rw [h_214]; decide) (by rw [h_214]; rfl) (by decide) ?_
    refine lv_lconst (v := 0) C.1.1 C.1.2.1 dX2_sumAfterAct_135 (by decide) ?_
    have he := Option.some.inj hf
    subst he
    exact ns_lret C w hr hlk rfl rfl dX2_sumAfterAct_136
  rw [if_neg h_214] at hf
  refine lv_tableOut (tgt := 137) C.1.1 C.1.2.1 dX2_sumAfterAct_6 (ns_out (by decide) (by decide) (fun k h1 h2 => ?_)) (by decide) ?_
  · rcases (by omega : k = 209 ∨ k = 210 ∨ k = 211 ∨ k = 212 ∨ k = 213 ∨ k = 214) with rfl | rfl | rfl | rfl | rfl | rfl
    · exact h_209
    · exact h_210
    · exact h_211
    · exact h_212
    · exact h_213
    · exact h_214
  · refine lv_lload_n C.1.1 C.1.2.1 dX2_sumAfterAct_137 rfl (lv_at hl 2 rfl) ?_
    have he := Option.some.inj hf
    subst he
    exact ns_lret C w hr hlk rfl rfl dX2_sumAfterAct_138
theorem lX6_sumBehind_49 : Cond.fieldLink RX6 49 (TX6 5).1 (TX6 5).2.1 (TX6 5).2.2.1 ∈ wsX6_sumBehind := List.mem_of_getElem? (i := 1) rfl
theorem lX6_sumBehind_180 : Cond.fieldLink RX6 180 (TX2 1).1 (TX2 1).2.1 (TX2 1).2.2.1 ∈ wsX6_sumBehind := List.mem_of_getElem? (i := 2) rfl
theorem inX6_sumBehind_2 : ∀ w ∈ u_ws RX2 TX2 8, w ∈ wsX6_sumBehind := fun _ h => List.mem_cons_of_mem _ (List.mem_append_left _ (List.mem_append_left _ (List.mem_append_left _ (List.mem_append_left _ (List.mem_append_right _ h)))))
theorem inX6_sumBehind_6 : ∀ w ∈ u_ws RX6 TX6 6, w ∈ wsX6_sumBehind := fun _ h => List.mem_cons_of_mem _ (List.mem_append_left _ (List.mem_append_left _ (List.mem_append_left _ (List.mem_append_left _ (List.mem_append_left _ (List.mem_append_right _ h))))))
theorem hdX6_sumBehind : yX6_sumBehind.cls = RX6 ∧ yX6_sumBehind.cls ≠ "java/lang/invoke/MethodHandle" ∧ yX6_sumBehind.cls ≠ "java/lang/invoke/VarHandle" ∧ (parseMethodDescriptor yX6_sumBehind.desc).map (fun d => d.parameters.length) = some 2 := by decide +kernel
abbrev wrX6_sumBehind_28 : List (Nat × Nat) := []
abbrev rmX6_sumBehind_28 : Room := { frames := 4, cells := 0, slots := 0, locals := 93 }
set_option maxHeartbeats 4000000 in
set_option maxRecDepth 100000 in
theorem wX6_sumBehind_28_9 {p : Program} {l : Launch} {e : Env} {s : State} {m : MethodId} {args : Array Value} {below : List Frame} {meth : Method} {c : Code} {D : va_G} {b : Nat → Nat} {ids : List Nat} {A : Nat → Prop} {S0 : ns_S} {o : Int32} (N : Nat) (hI : ∀ i, i < 107 → i ∈ ids) (C : ns_C p m c cX6_sumBehind 6 s args wsX6_sumBehind RX6 D A) (hr : meth.sig.returnType = some .int) (hlk : meth.locks = false) : ∀ n : Nat, ∀ {S : ns_S} {H : Heap} {locs : List Loc} {ls : Array Slot} {l1 : Int32} {l2 : Int32} {l3 : Int64} {l5 : Int32}, ns_W D b ids A s.heap wrX6_sumBehind_28 S0 S H locs → lv_has ls 6 [(0, .ref (b 28)), (1, .int l1), (2, .int l2), (3, .long l3), (5, .int l5)] → fX6_sumBehind_9 N n (S.1 1984) (S.2.1 47) (S.2.1 36) (S.2.1 57) (S.2.1 58) (S.2.1 38) (S.2.1 39) (S.2.1 41) (S.2.1 42) (S.1 3072) (S.2.1 59) (S.2.1 60) (S.2.1 54) (S.2.1 55) (S.2.1 56) l1 l2 l3 l5 = some o → W p l e rmX6_sumBehind_28 s m args below meth c H locs 0 0 (MQ below (ns_Q D b ids S0 (some (.int o)) A) args s 0 0 A) (F0 m 9 ls []) := by
  intro n
  induction n with
  | zero =>
    intro S H locs ls l1 l2 l3 l5 w hl hf
    cases hf
  | succ n K9 =>
    intro S H locs ls l1 l2 l3 l5 w hl hf
    change gX6_sumBehind_9 N (fX6_sumBehind_9 N n) (S.1 1984) (S.2.1 47) (S.2.1 36) (S.2.1 57) (S.2.1 58) (S.2.1 38) (S.2.1 39) (S.2.1 41) (S.2.1 42) (S.1 3072) (S.2.1 59) (S.2.1 60) (S.2.1 54) (S.2.1 55) (S.2.1 56) l1 l2 l3 l5 = some o at hf
    generalize fX6_sumBehind_9 N n = r9 at hf K9
    unfold gX6_sumBehind_9 at hf
    refine lv_iload C.1.1 C.1.2.1 dX6_sumBehind_9 (lv_at hl 4 rfl) ?_
    refine lv_iload_n C.1.1 C.1.2.1 dX6_sumBehind_11 rfl (lv_at hl 2 rfl) ?_
    refine ns_icmp_ge C hf (tgt := 62) dX6_sumBehind_12 (by decide) (fun hf => ?_) (fun hf => ?_)
    · refine lv_lload_n C.1.1 C.1.2.1 dX6_sumBehind_62 rfl (lv_at hl 3 rfl) ?_
      refine lv_l2i (v := l3.toInt32) C.1.1 C.1.2.1 dX6_sumBehind_63 rfl ?_
      have he := Option.some.inj hf
      subst he
      exact ns_iret C w hr hlk rfl rfl dX6_sumBehind_64
    · refine lv_aload_n C.1.1 C.1.2.1 dX6_sumBehind_15 rfl (lv_at hl 0 rfl) ?_
      refine lv_iload_n C.1.1 C.1.2.1 dX6_sumBehind_16 rfl (lv_at hl 1 rfl) ?_
      refine lv_iload C.1.1 C.1.2.1 dX6_sumBehind_17 (lv_at hl 4 rfl) ?_
      refine lv_lload_n C.1.1 C.1.2.1 dX6_sumBehind_19 rfl (lv_at hl 3 rfl) ?_
      refine ns_callV C w 28 (hI 28 (by decide)) sh_28 (rfl : vwCl[6]? = some (RX6, TX6, 6)) [.int l1, .int l5, .long l3] hf (fun u hu => mX6_allTestsHold_28 l D b ids hI N _ l1 l5 l3 hu) gX6_sumBehind_X6_allTestsHold rfl rfl rfl hdX6_allTestsHold ⟨Nat.le_of_ble_eq_true rfl, Nat.le_of_ble_eq_true rfl⟩ (fun u h => h) rfl hl.1 rfl (Nat.le_of_ble_eq_true rfl) ⟨Nat.le_refl _, Nat.le_refl _⟩ dX6_sumBehind_20 (fun o1 H locs hf w => ?_)
      refine ns_if_eq C hf (tgt := 56) dX6_sumBehind_23 (by decide) (fun hf => ?_) (fun hf => ?_)
      · refine ns_iinc (lv' := fun x2 => [(5, .int x2), (0, .ref (b 28)), (1, .int l1), (2, .int l2), (3, .long l3)]) C hf dX6_sumBehind_56 hl (k := 4) rfl rfl (by decide) (fun _ => rfl) (fun x2 ls hl hf => ?_)
        refine lv_goto (tgt := 9) C.1.1 C.1.2.1 dX6_sumBehind_59 (by decide) ?_
        exact K9 w (lv_sub hl [1, 2, 3, 4, 0] rfl) hf
      · refine lv_aload_n C.1.1 C.1.2.1 dX6_sumBehind_26 rfl (lv_at hl 0 rfl) ?_
        refine ns_getr C w 28 (hI 28 (by decide)) sh_28 (rfl : vwCl[6]? = some (RX6, TX6, 6)) inX6_sumBehind_6 5 (by decide) rfl lX6_sumBehind_49 dX6_sumBehind_27 ?_
        refine ns_getr C w 53 (hI 53 (by decide)) sh_53 (rfl : vwCl[2]? = some (RX2, TX2, 8)) inX6_sumBehind_2 1 (by decide) rfl lX6_sumBehind_180 dX6_sumBehind_30 ?_
        refine lv_iload C.1.1 C.1.2.1 dX6_sumBehind_33 (lv_at hl 4 rfl) ?_
        refine ns_iald C w 54 (hI 54 (by decide)) sh_54 hf rfl dX6_sumBehind_35 (fun x3 hf => ?_)
        refine lv_sipush (v := 215) C.1.1 C.1.2.1 dX6_sumBehind_36 (by decide) ?_
        refine ns_icmp_ne C hf (tgt := 45) dX6_sumBehind_39 (by decide) (fun hf => ?_) (fun hf => ?_)
        · refine lv_aload_n C.1.1 C.1.2.1 dX6_sumBehind_45 rfl (lv_at hl 0 rfl) ?_
          refine ns_getr C w 28 (hI 28 (by decide)) sh_28 (rfl : vwCl[6]? = some (RX6, TX6, 6)) inX6_sumBehind_6 5 (by decide) rfl lX6_sumBehind_49 dX6_sumBehind_46 ?_
          refine lv_iload C.1.1 C.1.2.1 dX6_sumBehind_49 (lv_at hl 4 rfl) ?_
          refine lv_lload_n C.1.1 C.1.2.1 dX6_sumBehind_51 rfl (lv_at hl 3 rfl) ?_
          refine ns_callV C w 53 (hI 53 (by decide)) sh_53 (rfl : vwCl[2]? = some (RX2, TX2, 8)) [.int l5, .long l3] hf (fun u hu => mX2_sumAfterAct_53 l D b ids hI N _ l5 l3 hu) gX6_sumBehind_X2_sumAfterAct rfl rfl rfl hdX2_sumAfterAct ⟨Nat.le_of_ble_eq_true rfl, Nat.le_of_ble_eq_true rfl⟩ (fun u h => h) rfl hl.1 rfl (Nat.le_of_ble_eq_true rfl) ⟨Nat.le_refl _, Nat.le_refl _⟩ dX6_sumBehind_52 (fun o4 H locs hf w => ?_)
          refine lv_lstore_n (lv' := [(3, .long o4), (0, .ref (b 28)), (1, .int l1), (2, .int l2), (5, .int l5)]) C.1.1 C.1.2.1 dX6_sumBehind_55 rfl hl (by decide) rfl (fun ls hl => ?_)
          refine ns_iinc (lv' := fun x5 => [(5, .int x5), (3, .long o4), (0, .ref (b 28)), (1, .int l1), (2, .int l2)]) C hf dX6_sumBehind_56 hl (k := 4) rfl rfl (by decide) (fun _ => rfl) (fun x5 ls hl hf => ?_)
          refine lv_goto (tgt := 9) C.1.1 C.1.2.1 dX6_sumBehind_59 (by decide) ?_
          exact K9 w (lv_sub hl [2, 3, 4, 1, 0] rfl) hf
        · refine lv_goto (tgt := 62) C.1.1 C.1.2.1 dX6_sumBehind_42 (by decide) ?_
          refine lv_lload_n C.1.1 C.1.2.1 dX6_sumBehind_62 rfl (lv_at hl 3 rfl) ?_
          refine lv_l2i (v := l3.toInt32) C.1.1 C.1.2.1 dX6_sumBehind_63 rfl ?_
          have he := Option.some.inj hf
          subst he
          exact ns_iret C w hr hlk rfl rfl dX6_sumBehind_64
set_option maxHeartbeats 4000000 in
set_option maxRecDepth 100000 in
theorem mX6_sumBehind_28 (l : Launch) (D : va_G) (b : Nat → Nat) (ids : List Nat) (hI : ∀ i, i < 107 → i ∈ ids) (N : Nat) (S : ns_S) (p1 : Int32) (p2 : Int32) {o : Int32} (hf : fX6_sumBehind N (S.1 1984) (S.2.1 47) (S.2.1 36) (S.2.1 57) (S.2.1 58) (S.2.1 38) (S.2.1 39) (S.2.1 41) (S.2.1 42) (S.1 3072) (S.2.1 59) (S.2.1 60) (S.2.1 54) (S.2.1 55) (S.2.1 56) p1 p2 = some o) : ns_M l yX6_sumBehind wsX6_sumBehind rmX6_sumBehind_28 D b ids S [.ref (b 28), .int p1, .int p2] (some (.int o)) S := by
  refine ns_start (Wr := wrX6_sumBehind_28) (by decide) rfl (Nat.le_of_ble_eq_true rfl) ?_
  intro p e s m below meth c A ls C hr hlk w hl
  have hl : lv_has ls 6 [(0, .ref (b 28)), (1, .int p1), (2, .int p2)] := hl
  unfold fX6_sumBehind at hf
  refine lv_aload_n C.1.1 C.1.2.1 dX6_sumBehind_0 rfl (lv_at hl 0 rfl) ?_
  refine lv_iload_n C.1.1 C.1.2.1 dX6_sumBehind_1 rfl (lv_at hl 1 rfl) ?_
  refine ns_callV C w 28 (hI 28 (by decide)) sh_28 (rfl : vwCl[6]? = some (RX6, TX6, 6)) [.int p1] hf (fun u hu => mX6_pricesOf_28 l D b ids hI N _ p1 hu) gX6_sumBehind_X6_pricesOf rfl rfl rfl hdX6_pricesOf ⟨Nat.le_of_ble_eq_true rfl, Nat.le_of_ble_eq_true rfl⟩ (fun u h => h) rfl hl.1 rfl (Nat.le_of_ble_eq_true rfl) ⟨Nat.le_refl _, Nat.le_refl _⟩ dX6_sumBehind_2 (fun o1 H locs hf w => ?_)
  refine lv_lstore_n (lv' := [(3, .long o1), (0, .ref (b 28)), (1, .int p1), (2, .int p2)]) C.1.1 C.1.2.1 dX6_sumBehind_5 rfl hl (by decide) rfl (fun ls hl => ?_)
  refine lv_iconst (v := 0) C.1.1 C.1.2.1 dX6_sumBehind_6 (by decide) ?_
  refine lv_istore (lv' := [(5, .int 0), (3, .long o1), (0, .ref (b 28)), (1, .int p1), (2, .int p2)]) C.1.1 C.1.2.1 dX6_sumBehind_7 hl (by decide) rfl (fun ls hl => ?_)
  exact wX6_sumBehind_28_9 N hI C hr hlk N w (lv_sub hl [2, 3, 4, 1, 0] rfl) hf
theorem lX10_bill_30 : Cond.fieldLink RX10 30 (TX10 4).1 (TX10 4).2.1 (TX10 4).2.2.1 ∈ wsX10_bill := List.mem_of_getElem? (i := 1) rfl
theorem lX10_bill_50 : Cond.fieldLink RX10 50 (TX6 5).1 (TX6 5).2.1 (TX6 5).2.2.1 ∈ wsX10_bill := List.mem_of_getElem? (i := 2) rfl
theorem lX10_bill_63 : Cond.fieldLink RX10 63 (TX2 0).1 (TX2 0).2.1 (TX2 0).2.2.1 ∈ wsX10_bill := List.mem_of_getElem? (i := 3) rfl
theorem inX10_bill_2 : ∀ w ∈ u_ws RX2 TX2 8, w ∈ wsX10_bill := fun _ h => List.mem_cons_of_mem _ (List.mem_append_left _ (List.mem_append_left _ (List.mem_append_left _ (List.mem_append_left _ (List.mem_append_right _ h)))))
theorem inX10_bill_6 : ∀ w ∈ u_ws RX6 TX6 6, w ∈ wsX10_bill := fun _ h => List.mem_cons_of_mem _ (List.mem_append_left _ (List.mem_append_left _ (List.mem_append_left _ (List.mem_append_left _ (List.mem_append_left _ (List.mem_append_right _ h))))))
theorem inX10_bill_10 : ∀ w ∈ u_ws RX10 TX10 6, w ∈ wsX10_bill := fun _ h => List.mem_cons_of_mem _ (List.mem_append_left _ (List.mem_append_left _ (List.mem_append_left _ (List.mem_append_left _ (List.mem_append_left _ (List.mem_append_left _ (List.mem_append_right _ h)))))))
theorem hdX10_bill : yX10_bill.cls = RX10 ∧ yX10_bill.cls ≠ "java/lang/invoke/MethodHandle" ∧ yX10_bill.cls ≠ "java/lang/invoke/VarHandle" ∧ (parseMethodDescriptor yX10_bill.desc).map (fun d => d.parameters.length) = some 1 := by decide +kernel
abbrev wrX10_bill_0 : List (Nat × Nat) := []
abbrev rmX10_bill_0 : Room := { frames := 5, cells := 0, slots := 0, locals := 118 }
set_option maxHeartbeats 4000000 in
set_option maxRecDepth 100000 in
theorem mX10_bill_0 (l : Launch) (D : va_G) (b : Nat → Nat) (ids : List Nat) (hI : ∀ i, i < 107 → i ∈ ids) (N : Nat) (S : ns_S) (p1 : Int32) {o : Int32} (hf : fX10_bill N (S.1 2368) (S.1 3392) (S.1 1984) (S.2.1 47) (S.2.1 36) (S.2.1 57) (S.2.1 58) (S.2.1 38) (S.2.1 39) (S.2.1 41) (S.2.1 42) (S.1 3072) (S.2.1 59) (S.2.1 60) (S.2.1 54) (S.2.1 55) (S.2.1 56) p1 = some o) : ns_M l yX10_bill wsX10_bill rmX10_bill_0 D b ids S [.ref (b 0), .int p1] (some (.int o)) S := by
  refine ns_start (Wr := wrX10_bill_0) (by decide) rfl (Nat.le_of_ble_eq_true rfl) ?_
  intro p e s m below meth c A ls C hr hlk w hl
  have hl : lv_has ls 2 [(0, .ref (b 0)), (1, .int p1)] := hl
  unfold fX10_bill at hf
  refine lv_aload_n C.1.1 C.1.2.1 dX10_bill_0 rfl (lv_at hl 0 rfl) ?_
  refine lv_iload_n C.1.1 C.1.2.1 dX10_bill_1 rfl (lv_at hl 1 rfl) ?_
  refine ns_callV C w 0 (hI 0 (by decide)) sh_0 (rfl : vwCl[10]? = some (RX10, TX10, 6)) [.int p1] hf (fun u hu => mX10_isPupil_0 l D b ids hI N _ p1 hu) gX10_bill_X10_isPupil rfl rfl rfl hdX10_isPupil ⟨Nat.le_of_ble_eq_true rfl, Nat.le_of_ble_eq_true rfl⟩ (fun u h => h) rfl hl.1 rfl (Nat.le_of_ble_eq_true rfl) ⟨Nat.le_refl _, Nat.le_refl _⟩ dX10_bill_2 (fun o1 H locs hf w => ?_)
  refine ns_if_eq C hf (tgt := 29) dX10_bill_5 (by decide) (fun hf => ?_) (fun hf => ?_)
  · refine lv_iconst (v := (-1)) C.1.1 C.1.2.1 dX10_bill_29 (by decide) ?_
    have he := Option.some.inj hf
    subst he
    exact ns_iret C w hr hlk rfl rfl dX10_bill_30
  · refine lv_aload_n C.1.1 C.1.2.1 dX10_bill_8 rfl (lv_at hl 0 rfl) ?_
    refine ns_getr C w 0 (hI 0 (by decide)) sh_0 (rfl : vwCl[10]? = some (RX10, TX10, 6)) inX10_bill_10 4 (by decide) rfl lX10_bill_30 dX10_bill_9 ?_
    refine lv_iload_n C.1.1 C.1.2.1 dX10_bill_12 rfl (lv_at hl 1 rfl) ?_
    refine lv_aload_n C.1.1 C.1.2.1 dX10_bill_13 rfl (lv_at hl 0 rfl) ?_
    refine ns_getr C w 0 (hI 0 (by decide)) sh_0 (rfl : vwCl[10]? = some (RX10, TX10, 6)) inX10_bill_10 4 (by decide) rfl lX10_bill_30 dX10_bill_14 ?_
    refine ns_getr C w 28 (hI 28 (by decide)) sh_28 (rfl : vwCl[6]? = some (RX6, TX6, 6)) inX10_bill_6 5 (by decide) rfl lX10_bill_50 dX10_bill_17 ?_
    refine ns_geti C w 53 (hI 53 (by decide)) sh_53 (rfl : vwCl[2]? = some (RX2, TX2, 8)) inX10_bill_2 0 (by decide) rfl lX10_bill_63 (S.1 3392) rfl dX10_bill_20 ?_
    refine ns_callV C w 28 (hI 28 (by decide)) sh_28 (rfl : vwCl[6]? = some (RX6, TX6, 6)) [.int p1, .int (S.1 3392)] hf (fun u hu => mX6_sumBehind_28 l D b ids hI N _ p1 (S.1 3392) hu) gX10_bill_X6_sumBehind rfl rfl rfl hdX6_sumBehind ⟨Nat.le_of_ble_eq_true rfl, Nat.le_of_ble_eq_true rfl⟩ (fun u h => h) rfl hl.1 rfl (Nat.le_of_ble_eq_true rfl) ⟨Nat.le_refl _, Nat.le_refl _⟩ dX10_bill_23 (fun o2 H locs hf w => ?_)
    refine lv_goto (tgt := 30) C.1.1 C.1.2.1 dX10_bill_26 (by decide) ?_
    have he := Option.some.inj hf
    subst he
    exact ns_iret C w hr hlk rfl rfl dX10_bill_30
theorem lX11_beginBill_24 : Cond.fieldLink RX11 24 (TX11 6).1 (TX11 6).2.1 (TX11 6).2.2.1 ∈ wsX11_beginBill := List.mem_of_getElem? (i := 3) rfl
theorem lX11_beginBill_39 : Cond.fieldLink RX11 39 (TX11 11).1 (TX11 11).2.1 (TX11 11).2.2.1 ∈ wsX11_beginBill := List.mem_of_getElem? (i := 5) rfl
theorem lX11_beginBill_75 : Cond.fieldLink RX11 75 (TX11 23).1 (TX11 23).2.1 (TX11 23).2.2.1 ∈ wsX11_beginBill := List.mem_of_getElem? (i := 4) rfl
theorem lX11_beginBill_319 : Cond.fieldLink RX11 319 (TX11 56).1 (TX11 56).2.1 (TX11 56).2.2.1 ∈ wsX11_beginBill := List.mem_of_getElem? (i := 1) rfl
theorem lX11_beginBill_323 : Cond.fieldLink RX11 323 (TX11 57).1 (TX11 57).2.1 (TX11 57).2.2.1 ∈ wsX11_beginBill := List.mem_of_getElem? (i := 2) rfl
theorem inX11_beginBill_11 : ∀ w ∈ u_ws RX11 TX11 59, w ∈ wsX11_beginBill := fun _ h => List.mem_cons_of_mem _ (List.mem_append_right _ h)
theorem hdX11_beginBill : yX11_beginBill.cls = RX11 ∧ yX11_beginBill.cls ≠ "java/lang/invoke/MethodHandle" ∧ yX11_beginBill.cls ≠ "java/lang/invoke/VarHandle" ∧ (parseMethodDescriptor yX11_beginBill.desc).map (fun d => d.parameters.length) = some 1 := by decide +kernel
abbrev wrX11_beginBill_62 : List (Nat × Nat) := [(2, 4024), (0, 4025)]
abbrev rmX11_beginBill_62 : Room := { frames := 0, cells := 0, slots := 0, locals := 0 }
set_option maxHeartbeats 4000000 in
set_option maxRecDepth 100000 in
theorem wX11_beginBill_62_12 {p : Program} {l : Launch} {e : Env} {s : State} {m : MethodId} {args : Array Value} {below : List Frame} {meth : Method} {c : Code} {D : va_G} {b : Nat → Nat} {ids : List Nat} {A : Nat → Prop} {S0 : ns_S} {o : Int64 × Int32} (N : Nat) (hI : ∀ i, i < 107 → i ∈ ids) (C : ns_C p m c cX11_beginBill 3 s args wsX11_beginBill RX11 D A) (hr : meth.sig.returnType = none) (hlk : meth.locks = false) : ∀ n : Nat, ∀ {S : ns_S} {H : Heap} {locs : List Loc} {ls : Array Slot} {l1 : Int32} {l2 : Int32}, ns_W D b ids A s.heap wrX11_beginBill_62 S0 S H locs → lv_has ls 3 [(0, .ref (b 62)), (1, .int l1), (2, .int l2)] → fX11_beginBill_12 N n (S.2.2.1 4024) (S.1 4025) (S.2.1 67) (S.2.1 84) (S.2.1 72) l1 l2 = some o → W p l e rmX11_beginBill_62 s m args below meth c H locs 0 0 (MQ below (ns_Q D b ids (ns_L (ns_I S0 4025 o.2) 4024 o.1) none A) args s 0 0 A) (F0 m 12 ls []) := by
  intro n
  induction n with
  | zero =>
    intro S H locs ls l1 l2 w hl hf
    cases hf
  | succ n K12 =>
    intro S H locs ls l1 l2 w hl hf
    change gX11_beginBill_12 N (fX11_beginBill_12 N n) (S.2.2.1 4024) (S.1 4025) (S.2.1 67) (S.2.1 84) (S.2.1 72) l1 l2 = some o at hf
    generalize fX11_beginBill_12 N n = r12 at hf K12
    unfold gX11_beginBill_12 at hf
    refine lv_iload_n C.1.1 C.1.2.1 dX11_beginBill_12 rfl (lv_at hl 2 rfl) ?_
    refine lv_aload_n C.1.1 C.1.2.1 dX11_beginBill_13 rfl (lv_at hl 0 rfl) ?_
    refine ns_getr C w 62 (hI 62 (by decide)) sh_62 (rfl : vwCl[11]? = some (RX11, TX11, 59)) inX11_beginBill_11 6 (by decide) rfl lX11_beginBill_24 dX11_beginBill_14 ?_
    refine lv_iconst (v := 0) C.1.1 C.1.2.1 dX11_beginBill_17 (by decide) ?_
    refine ns_iald C w 67 (hI 67 (by decide)) sh_67 hf rfl dX11_beginBill_18 (fun x1 hf => ?_)
    refine ns_icmp_ge C hf (tgt := 61) dX11_beginBill_19 (by decide) (fun hf => ?_) (fun hf => ?_)
    · have he := Option.some.inj hf
      subst he
      exact ns_vret C w hr hlk rfl rfl dX11_beginBill_61
    · refine lv_aload_n C.1.1 C.1.2.1 dX11_beginBill_22 rfl (lv_at hl 0 rfl) ?_
      refine lv_dup C.1.1 C.1.2.1 dX11_beginBill_23 rfl ?_
      refine ns_getl C w 62 (hI 62 (by decide)) sh_62 (rfl : vwCl[11]? = some (RX11, TX11, 59)) inX11_beginBill_11 56 (by decide) rfl lX11_beginBill_319 (S.2.2.1 4024) rfl dX11_beginBill_24 ?_
      refine lv_aload_n C.1.1 C.1.2.1 dX11_beginBill_27 rfl (lv_at hl 0 rfl) ?_
      refine ns_getr C w 62 (hI 62 (by decide)) sh_62 (rfl : vwCl[11]? = some (RX11, TX11, 59)) inX11_beginBill_11 23 (by decide) rfl lX11_beginBill_75 dX11_beginBill_28 ?_
      refine lv_iload_n C.1.1 C.1.2.1 dX11_beginBill_31 rfl (lv_at hl 1 rfl) ?_
      refine ns_iald C w 84 (hI 84 (by decide)) sh_84 hf rfl dX11_beginBill_32 (fun x2 hf => ?_)
      refine lv_iload_n C.1.1 C.1.2.1 dX11_beginBill_33 rfl (lv_at hl 2 rfl) ?_
      refine lv_ishr C.1.1 C.1.2.1 dX11_beginBill_34 ?_
      refine lv_iconst (v := 1) C.1.1 C.1.2.1 dX11_beginBill_35 (by decide) ?_
      refine lv_iand C.1.1 C.1.2.1 dX11_beginBill_36 ?_
      refine ns_if_eq C hf (tgt := 50) dX11_beginBill_37 (by decide) (fun hf => ?_) (fun hf => ?_)
      · refine lv_lconst (v := 0) C.1.1 C.1.2.1 dX11_beginBill_50 (by decide) ?_
        refine lv_ladd C.1.1 C.1.2.1 dX11_beginBill_51 ?_
        refine ns_namel hf (fun x3 hf => ?_)
        refine ns_putl C w 62 (hI 62 (by decide)) sh_62 (rfl : vwCl[11]? = some (RX11, TX11, 59)) inX11_beginBill_11 tyX11_ok nmX11 56 (by decide) rfl lX11_beginBill_319 rfl rfl rfl (List.mem_of_getElem? (i := 0) rfl) dX11_beginBill_52 (fun H locs w => ?_)
        refine ns_iinc (lv' := fun x4 => [(2, .int x4), (0, .ref (b 62)), (1, .int l1)]) C hf dX11_beginBill_55 hl (k := 2) rfl rfl (by decide) (fun _ => rfl) (fun x4 ls hl hf => ?_)
        refine lv_goto (tgt := 12) C.1.1 C.1.2.1 dX11_beginBill_58 (by decide) ?_
        exact K12 w (lv_sub hl [1, 2, 0] rfl) hf
      · refine lv_aload_n C.1.1 C.1.2.1 dX11_beginBill_40 rfl (lv_at hl 0 rfl) ?_
        refine ns_getr C w 62 (hI 62 (by decide)) sh_62 (rfl : vwCl[11]? = some (RX11, TX11, 59)) inX11_beginBill_11 11 (by decide) rfl lX11_beginBill_39 dX11_beginBill_41 ?_
        refine lv_iload_n C.1.1 C.1.2.1 dX11_beginBill_44 rfl (lv_at hl 2 rfl) ?_
        refine ns_iald C w 72 (hI 72 (by decide)) sh_72 hf rfl dX11_beginBill_45 (fun x5 hf => ?_)
        refine lv_i2l (v := x5.toInt64) C.1.1 C.1.2.1 dX11_beginBill_46 rfl ?_
        refine lv_goto (tgt := 51) C.1.1 C.1.2.1 dX11_beginBill_47 (by decide) ?_
        refine lv_ladd C.1.1 C.1.2.1 dX11_beginBill_51 ?_
        refine ns_namel hf (fun x6 hf => ?_)
        refine ns_putl C w 62 (hI 62 (by decide)) sh_62 (rfl : vwCl[11]? = some (RX11, TX11, 59)) inX11_beginBill_11 tyX11_ok nmX11 56 (by decide) rfl lX11_beginBill_319 rfl rfl rfl (List.mem_of_getElem? (i := 0) rfl) dX11_beginBill_52 (fun H locs w => ?_)
        refine ns_iinc (lv' := fun x7 => [(2, .int x7), (0, .ref (b 62)), (1, .int l1)]) C hf dX11_beginBill_55 hl (k := 2) rfl rfl (by decide) (fun _ => rfl) (fun x7 ls hl hf => ?_)
        refine lv_goto (tgt := 12) C.1.1 C.1.2.1 dX11_beginBill_58 (by decide) ?_
        exact K12 w (lv_sub hl [1, 2, 0] rfl) hf
set_option maxHeartbeats 4000000 in
set_option maxRecDepth 100000 in
theorem mX11_beginBill_62 (l : Launch) (D : va_G) (b : Nat → Nat) (ids : List Nat) (hI : ∀ i, i < 107 → i ∈ ids) (N : Nat) (S : ns_S) (p1 : Int32) {o : Int64 × Int32} (hf : fX11_beginBill N (S.2.2.1 4024) (S.1 4025) (S.2.1 67) (S.2.1 84) (S.2.1 72) p1 = some o) : ns_M l yX11_beginBill wsX11_beginBill rmX11_beginBill_62 D b ids S [.ref (b 62), .int p1] none (ns_L (ns_I S 4025 o.2) 4024 o.1) := by
  refine ns_start (Wr := wrX11_beginBill_62) (by decide) rfl (Nat.le_of_ble_eq_true rfl) ?_
  intro p e s m below meth c A ls C hr hlk w hl
  have hl : lv_has ls 3 [(0, .ref (b 62)), (1, .int p1)] := hl
  unfold fX11_beginBill at hf
  refine lv_aload_n C.1.1 C.1.2.1 dX11_beginBill_0 rfl (lv_at hl 0 rfl) ?_
  refine lv_lconst (v := 0) C.1.1 C.1.2.1 dX11_beginBill_1 (by decide) ?_
  refine ns_putl C w 62 (hI 62 (by decide)) sh_62 (rfl : vwCl[11]? = some (RX11, TX11, 59)) inX11_beginBill_11 tyX11_ok nmX11 56 (by decide) rfl lX11_beginBill_319 rfl rfl rfl (List.mem_of_getElem? (i := 0) rfl) dX11_beginBill_2 (fun H locs w => ?_)
  refine lv_aload_n C.1.1 C.1.2.1 dX11_beginBill_5 rfl (lv_at hl 0 rfl) ?_
  refine lv_iconst (v := 0) C.1.1 C.1.2.1 dX11_beginBill_6 (by decide) ?_
  refine ns_puti C w 62 (hI 62 (by decide)) sh_62 (rfl : vwCl[11]? = some (RX11, TX11, 59)) inX11_beginBill_11 tyX11_ok nmX11 57 (by decide) rfl lX11_beginBill_323 rfl rfl rfl (List.mem_of_getElem? (i := 1) rfl) dX11_beginBill_7 (fun H locs w => ?_)
  refine lv_iconst (v := 0) C.1.1 C.1.2.1 dX11_beginBill_10 (by decide) ?_
  refine lv_istore_n (lv' := [(2, .int 0), (0, .ref (b 62)), (1, .int p1)]) C.1.1 C.1.2.1 dX11_beginBill_11 rfl hl (by decide) rfl (fun ls hl => ?_)
  exact wX11_beginBill_62_12 N hI C hr hlk N w (lv_sub hl [1, 2, 0] rfl) hf
theorem lX11_tested_45 : Cond.fieldLink RX11 45 (TX11 13).1 (TX11 13).2.1 (TX11 13).2.2.1 ∈ wsX11_tested := List.mem_of_getElem? (i := 1) rfl
theorem lX11_tested_48 : Cond.fieldLink RX11 48 (TX11 14).1 (TX11 14).2.1 (TX11 14).2.2.1 ∈ wsX11_tested := List.mem_of_getElem? (i := 2) rfl
theorem lX11_tested_54 : Cond.fieldLink RX11 54 (TX11 16).1 (TX11 16).2.1 (TX11 16).2.2.1 ∈ wsX11_tested := List.mem_of_getElem? (i := 5) rfl
theorem lX11_tested_57 : Cond.fieldLink RX11 57 (TX11 17).1 (TX11 17).2.1 (TX11 17).2.2.1 ∈ wsX11_tested := List.mem_of_getElem? (i := 6) rfl
theorem lX11_tested_60 : Cond.fieldLink RX11 60 (TX11 18).1 (TX11 18).2.1 (TX11 18).2.2.1 ∈ wsX11_tested := List.mem_of_getElem? (i := 7) rfl
theorem lX11_tested_75 : Cond.fieldLink RX11 75 (TX11 23).1 (TX11 23).2.1 (TX11 23).2.2.1 ∈ wsX11_tested := List.mem_of_getElem? (i := 3) rfl
theorem lX11_tested_319 : Cond.fieldLink RX11 319 (TX11 56).1 (TX11 56).2.1 (TX11 56).2.2.1 ∈ wsX11_tested := List.mem_of_getElem? (i := 4) rfl
theorem inX11_tested_11 : ∀ w ∈ u_ws RX11 TX11 59, w ∈ wsX11_tested := fun _ h => List.mem_cons_of_mem _ (List.mem_append_right _ h)
theorem hdX11_tested : yX11_tested.cls = RX11 ∧ yX11_tested.cls ≠ "java/lang/invoke/MethodHandle" ∧ yX11_tested.cls ≠ "java/lang/invoke/VarHandle" ∧ (parseMethodDescriptor yX11_tested.desc).map (fun d => d.parameters.length) = some 2 := by decide +kernel
abbrev wrX11_tested_62 : List (Nat × Nat) := []
abbrev rmX11_tested_62 : Room := { frames := 1, cells := 0, slots := 0, locals := 22 }
set_option maxHeartbeats 4000000 in
set_option maxRecDepth 100000 in
theorem mX11_tested_62 (l : Launch) (D : va_G) (b : Nat → Nat) (ids : List Nat) (hI : ∀ i, i < 107 → i ∈ ids) (N : Nat) (S : ns_S) (p1 : Int32) (p2 : Int32) {o : Int64} (hf : fX11_tested N (S.2.1 74) (S.2.1 75) (S.2.1 84) (S.2.2.1 4024) (S.2.1 77) (S.2.1 78) (S.2.1 79) p1 p2 = some o) : ns_M l yX11_tested wsX11_tested rmX11_tested_62 D b ids S [.ref (b 62), .int p1, .int p2] (some (.long o)) S := by
  refine ns_start (Wr := wrX11_tested_62) (by decide) rfl (Nat.le_of_ble_eq_true rfl) ?_
  intro p e s m below meth c A ls C hr hlk w hl
  have hl : lv_has ls 3 [(0, .ref (b 62)), (1, .int p1), (2, .int p2)] := hl
  unfold fX11_tested at hf
  refine lv_iload_n C.1.1 C.1.2.1 dX11_tested_0 rfl (lv_at hl 2 rfl) ?_
  by_cases h_2 : p2 = 2
  · rw [if_pos h_2] at hf
    refine lv_tableIn (tgt := 36) C.1.1 C.1.2.1 dX11_tested_1 (by rw [h_2]; decide) (by rw [h_2]; decide) (by rw [h_2]; rfl) (by decide) ?_
    refine lv_aload_n C.1.1 C.1.2.1 dX11_tested_36 rfl (lv_at hl 0 rfl) ?_
    refine ns_getr C w 62 (hI 62 (by decide)) sh_62 (rfl : vwCl[11]? = some (RX11, TX11, 59)) inX11_tested_11 13 (by decide) rfl lX11_tested_45 dX11_tested_37 ?_
    refine lv_iload_n C.1.1 C.1.2.1 dX11_tested_40 rfl (lv_at hl 1 rfl) ?_
    refine ns_iald C w 74 (hI 74 (by decide)) sh_74 hf rfl dX11_tested_41 (fun x1 hf => ?_)
    refine lv_i2l (v := x1.toInt64) C.1.1 C.1.2.1 dX11_tested_42 rfl ?_
    have he := Option.some.inj hf
    subst he
    exact ns_lret C w hr hlk rfl rfl dX11_tested_43
  rw [if_neg h_2] at hf
  by_cases h_3 : p2 = 3
  · rw [if_pos h_3] at hf
    refine lv_tableIn (tgt := 44) C.1.1 C.1.2.1 dX11_tested_1 (by rw [h_3]; decide) (by rw [h_3]; decide) (by rw [h_3]; rfl) (by decide) ?_
    refine lv_aload_n C.1.1 C.1.2.1 dX11_tested_44 rfl (lv_at hl 0 rfl) ?_
    refine ns_getr C w 62 (hI 62 (by decide)) sh_62 (rfl : vwCl[11]? = some (RX11, TX11, 59)) inX11_tested_11 14 (by decide) rfl lX11_tested_48 dX11_tested_45 ?_
    refine lv_iload_n C.1.1 C.1.2.1 dX11_tested_48 rfl (lv_at hl 1 rfl) ?_
    refine ns_iald C w 75 (hI 75 (by decide)) sh_75 hf rfl dX11_tested_49 (fun x2 hf => ?_)
    refine lv_i2l (v := x2.toInt64) C.1.1 C.1.2.1 dX11_tested_50 rfl ?_
    have he := Option.some.inj hf
    subst he
    exact ns_lret C w hr hlk rfl rfl dX11_tested_51
  rw [if_neg h_3] at hf
  by_cases h_4 : p2 = 4
  · rw [if_pos h_4] at hf
    refine lv_tableIn (tgt := 52) C.1.1 C.1.2.1 dX11_tested_1 (by rw [h_4]; decide) (by rw [h_4]; decide) (by rw [h_4]; rfl) (by decide) ?_
    refine lv_aload_n C.1.1 C.1.2.1 dX11_tested_52 rfl (lv_at hl 0 rfl) ?_
    refine ns_getr C w 62 (hI 62 (by decide)) sh_62 (rfl : vwCl[11]? = some (RX11, TX11, 59)) inX11_tested_11 23 (by decide) rfl lX11_tested_75 dX11_tested_53 ?_
    refine lv_iload_n C.1.1 C.1.2.1 dX11_tested_56 rfl (lv_at hl 1 rfl) ?_
    refine ns_iald C w 84 (hI 84 (by decide)) sh_84 hf rfl dX11_tested_57 (fun x3 hf => ?_)
    refine ns_callS C w [.int x3] hf (fun u hu => mX11_ones l D b ids hI N _ x3 hu) gX11_tested_X11_ones rfl rfl rfl hdX11_ones ⟨Nat.le_of_ble_eq_true rfl, Nat.le_of_ble_eq_true rfl⟩ (fun u h => h) rfl hl.1 rfl (Nat.le_of_ble_eq_true rfl) ⟨Nat.le_refl _, Nat.le_refl _⟩ dX11_tested_58 (fun o4 H locs hf w => ?_)
    refine lv_i2l (v := o4.toInt64) C.1.1 C.1.2.1 dX11_tested_61 rfl ?_
    have he := Option.some.inj hf
    subst he
    exact ns_lret C w hr hlk rfl rfl dX11_tested_62
  rw [if_neg h_4] at hf
  by_cases h_5 : p2 = 5
  · rw [if_pos h_5] at hf
    refine lv_tableIn (tgt := 63) C.1.1 C.1.2.1 dX11_tested_1 (by rw [h_5]; decide) (by rw [h_5]; decide) (by rw [h_5]; rfl) (by decide) ?_
    refine lv_aload_n C.1.1 C.1.2.1 dX11_tested_63 rfl (lv_at hl 0 rfl) ?_
    refine ns_getl C w 62 (hI 62 (by decide)) sh_62 (rfl : vwCl[11]? = some (RX11, TX11, 59)) inX11_tested_11 56 (by decide) rfl lX11_tested_319 (S.2.2.1 4024) rfl dX11_tested_64 ?_
    have he := Option.some.inj hf
    subst he
    exact ns_lret C w hr hlk rfl rfl dX11_tested_67
  rw [if_neg h_5] at hf
  by_cases h_6 : p2 = 6
  · rw [if_pos h_6] at hf
    refine lv_tableIn (tgt := 68) C.1.1 C.1.2.1 dX11_tested_1 (by rw [h_6]; decide) (by rw [h_6]; decide) (by rw [h_6]; rfl) (by decide) ?_
    refine lv_aload_n C.1.1 C.1.2.1 dX11_tested_68 rfl (lv_at hl 0 rfl) ?_
    refine ns_getr C w 62 (hI 62 (by decide)) sh_62 (rfl : vwCl[11]? = some (RX11, TX11, 59)) inX11_tested_11 16 (by decide) rfl lX11_tested_54 dX11_tested_69 ?_
    refine lv_iload_n C.1.1 C.1.2.1 dX11_tested_72 rfl (lv_at hl 1 rfl) ?_
    refine ns_iald C w 77 (hI 77 (by decide)) sh_77 hf rfl dX11_tested_73 (fun x5 hf => ?_)
    refine ns_if_le C hf (tgt := 102) dX11_tested_74 (by decide) (fun hf => ?_) (fun hf => ?_)
    · refine lv_lconst (v := 0) C.1.1 C.1.2.1 dX11_tested_102 (by decide) ?_
      have he := Option.some.inj hf
      subst he
      exact ns_lret C w hr hlk rfl rfl dX11_tested_103
    · refine lv_aload_n C.1.1 C.1.2.1 dX11_tested_77 rfl (lv_at hl 0 rfl) ?_
      refine ns_getr C w 62 (hI 62 (by decide)) sh_62 (rfl : vwCl[11]? = some (RX11, TX11, 59)) inX11_tested_11 23 (by decide) rfl lX11_tested_75 dX11_tested_78 ?_
      refine lv_iload_n C.1.1 C.1.2.1 dX11_tested_81 rfl (lv_at hl 1 rfl) ?_
      refine ns_iald C w 84 (hI 84 (by decide)) sh_84 hf rfl dX11_tested_82 (fun x6 hf => ?_)
      refine lv_aload_n C.1.1 C.1.2.1 dX11_tested_83 rfl (lv_at hl 0 rfl) ?_
      refine ns_getr C w 62 (hI 62 (by decide)) sh_62 (rfl : vwCl[11]? = some (RX11, TX11, 59)) inX11_tested_11 17 (by decide) rfl lX11_tested_57 dX11_tested_84 ?_
      refine lv_bipush (v := 6) C.1.1 C.1.2.1 dX11_tested_87 (by decide) ?_
      refine lv_iload_n C.1.1 C.1.2.1 dX11_tested_89 rfl (lv_at hl 1 rfl) ?_
      refine lv_imul C.1.1 C.1.2.1 dX11_tested_90 ?_
      refine ns_iald C w 78 (hI 78 (by decide)) sh_78 hf rfl dX11_tested_91 (fun x7 hf => ?_)
      refine lv_ishr C.1.1 C.1.2.1 dX11_tested_92 ?_
      refine lv_iconst (v := 1) C.1.1 C.1.2.1 dX11_tested_93 (by decide) ?_
      refine lv_iand C.1.1 C.1.2.1 dX11_tested_94 ?_
      refine ns_if_eq C hf (tgt := 102) dX11_tested_95 (by decide) (fun hf => ?_) (fun hf => ?_)
      · refine lv_lconst (v := 0) C.1.1 C.1.2.1 dX11_tested_102 (by decide) ?_
        have he := Option.some.inj hf
        subst he
        exact ns_lret C w hr hlk rfl rfl dX11_tested_103
      · refine lv_lconst (v := 1) C.1.1 C.1.2.1 dX11_tested_98 (by decide) ?_
        refine lv_goto (tgt := 103) C.1.1 C.1.2.1 dX11_tested_99 (by decide) ?_
        have he := Option.some.inj hf
        subst he
        exact ns_lret C w hr hlk rfl rfl dX11_tested_103
  rw [if_neg h_6] at hf
  refine lv_tableOut (tgt := 104) C.1.1 C.1.2.1 dX11_tested_1 (ns_out (by decide) (by decide) (fun k h1 h2 => ?_)) (by decide) ?_
  · rcases (by omega : k = 2 ∨ k = 3 ∨ k = 4 ∨ k = 5 ∨ k = 6) with rfl | rfl | rfl | rfl | rfl
    · exact h_2
    · exact h_3
    · exact h_4
    · exact h_5
    · exact h_6
  · refine lv_aload_n C.1.1 C.1.2.1 dX11_tested_104 rfl (lv_at hl 0 rfl) ?_
    refine ns_getr C w 62 (hI 62 (by decide)) sh_62 (rfl : vwCl[11]? = some (RX11, TX11, 59)) inX11_tested_11 18 (by decide) rfl lX11_tested_60 dX11_tested_105 ?_
    refine lv_iconst (v := 0) C.1.1 C.1.2.1 dX11_tested_108 (by decide) ?_
    refine ns_iald C w 79 (hI 79 (by decide)) sh_79 hf rfl dX11_tested_109 (fun x8 hf => ?_)
    refine lv_iconst (v := (-1)) C.1.1 C.1.2.1 dX11_tested_110 (by decide) ?_
    refine ns_icmp_ne C hf (tgt := 118) dX11_tested_111 (by decide) (fun hf => ?_) (fun hf => ?_)
    · refine lv_aload_n C.1.1 C.1.2.1 dX11_tested_118 rfl (lv_at hl 0 rfl) ?_
      refine ns_getr C w 62 (hI 62 (by decide)) sh_62 (rfl : vwCl[11]? = some (RX11, TX11, 59)) inX11_tested_11 18 (by decide) rfl lX11_tested_60 dX11_tested_119 ?_
      refine lv_iconst (v := 0) C.1.1 C.1.2.1 dX11_tested_122 (by decide) ?_
      refine ns_iald C w 79 (hI 79 (by decide)) sh_79 hf rfl dX11_tested_123 (fun x9 hf => ?_)
      refine lv_i2l (v := x9.toInt64) C.1.1 C.1.2.1 dX11_tested_124 rfl ?_
      have he := Option.some.inj hf
      subst he
      exact ns_lret C w hr hlk rfl rfl dX11_tested_125
    · refine lv_lconst (v := 0) C.1.1 C.1.2.1 dX11_tested_114 (by decide) ?_
      refine lv_goto (tgt := 125) C.1.1 C.1.2.1 dX11_tested_115 (by decide) ?_
      have he := Option.some.inj hf
      subst he
      exact ns_lret C w hr hlk rfl rfl dX11_tested_125
theorem lX11_holds_90 : Cond.fieldLink RX11 90 (TX11 28).1 (TX11 28).2.1 (TX11 28).2.2.1 ∈ wsX11_holds := List.mem_of_getElem? (i := 1) rfl
theorem lX11_holds_93 : Cond.fieldLink RX11 93 (TX11 29).1 (TX11 29).2.1 (TX11 29).2.2.1 ∈ wsX11_holds := List.mem_of_getElem? (i := 2) rfl
theorem lX11_holds_96 : Cond.fieldLink RX11 96 (TX11 30).1 (TX11 30).2.1 (TX11 30).2.2.1 ∈ wsX11_holds := List.mem_of_getElem? (i := 4) rfl
theorem lX11_holds_99 : Cond.fieldLink RX11 99 (TX11 31).1 (TX11 31).2.1 (TX11 31).2.2.1 ∈ wsX11_holds := List.mem_of_getElem? (i := 3) rfl
theorem inX11_holds_11 : ∀ w ∈ u_ws RX11 TX11 59, w ∈ wsX11_holds := fun _ h => List.mem_cons_of_mem _ (List.mem_append_right _ h)
theorem hdX11_holds : yX11_holds.cls = RX11 ∧ yX11_holds.cls ≠ "java/lang/invoke/MethodHandle" ∧ yX11_holds.cls ≠ "java/lang/invoke/VarHandle" ∧ (parseMethodDescriptor yX11_holds.desc).map (fun d => d.parameters.length) = some 2 := by decide +kernel
abbrev wrX11_holds_62 : List (Nat × Nat) := []
abbrev rmX11_holds_62 : Room := { frames := 2, cells := 0, slots := 0, locals := 44 }
set_option maxHeartbeats 4000000 in
set_option maxRecDepth 100000 in
theorem wX11_holds_62_112 {p : Program} {l : Launch} {e : Env} {s : State} {m : MethodId} {args : Array Value} {below : List Frame} {meth : Method} {c : Code} {D : va_G} {b : Nat → Nat} {ids : List Nat} {A : Nat → Prop} {S0 : ns_S} {o : Int32} (N : Nat) (hI : ∀ i, i < 107 → i ∈ ids) (C : ns_C p m c cX11_holds 10 s args wsX11_holds RX11 D A) (hr : meth.sig.returnType = some .boolean) (hlk : meth.locks = false) {r2 : (Nat → Int32) → (Nat → Int32) → (Nat → Int32) → (Nat → Int32) → (Nat → Int32) → Int64 → (Nat → Int32) → (Nat → Int32) → (Nat → Int32) → (Nat → Int32) → (Nat → Int32) → Int32 → Int32 → Int32 → Option (Int32)} (K2 : ∀ {S : ns_S} {H : Heap} {locs : List Loc} {ls : Array Slot} {l1 : Int32} {l2 : Int32} {l3 : Int32}, ns_W D b ids A s.heap wrX11_holds_62 S0 S H locs → lv_has ls 10 [(0, .ref (b 62)), (1, .int l1), (2, .int l2), (3, .int l3)] → r2 (S.2.1 89) (S.2.1 90) (S.2.1 74) (S.2.1 75) (S.2.1 84) (S.2.2.1 4024) (S.2.1 77) (S.2.1 78) (S.2.1 79) (S.2.1 92) (S.2.1 91) l1 l2 l3 = some o → W p l e rmX11_holds_62 s m args below meth c H locs 0 0 (MQ below (ns_Q D b ids S0 (some (.int o)) A) args s 0 0 A) (F0 m 2 ls [])) : ∀ {S : ns_S} {H : Heap} {locs : List Loc} {ls : Array Slot} {l1 : Int32} {l2 : Int32} {l3 : Int32} {s0 : Int32}, ns_W D b ids A s.heap wrX11_holds_62 S0 S H locs → lv_has ls 10 [(0, .ref (b 62)), (1, .int l1), (2, .int l2), (3, .int l3)] → gX11_holds_112 N r2 (S.2.1 89) (S.2.1 90) (S.2.1 74) (S.2.1 75) (S.2.1 84) (S.2.2.1 4024) (S.2.1 77) (S.2.1 78) (S.2.1 79) (S.2.1 92) (S.2.1 91) l1 l2 l3 s0 = some o → W p l e rmX11_holds_62 s m args below meth c H locs 0 0 (MQ below (ns_Q D b ids S0 (some (.int o)) A) args s 0 0 A) (F0 m 112 ls [.int s0]) := by
  intro S H locs ls l1 l2 l3 s0 w hl hf
  unfold gX11_holds_112 at hf
  refine lv_istore (lv' := [(9, .int s0), (0, .ref (b 62)), (1, .int l1), (2, .int l2), (3, .int l3)]) C.1.1 C.1.2.1 dX11_holds_112 hl (by decide) rfl (fun ls hl => ?_)
  refine lv_iload C.1.1 C.1.2.1 dX11_holds_114 (lv_at hl 0 rfl) ?_
  refine ns_if_ne C hf (tgt := 121) dX11_holds_116 (by decide) (fun hf => ?_) (fun hf => ?_)
  · refine ns_iinc (lv' := fun x1 => [(3, .int x1), (9, .int s0), (0, .ref (b 62)), (1, .int l1), (2, .int l2)]) C hf dX11_holds_121 hl (k := 4) rfl rfl (by decide) (fun _ => rfl) (fun x1 ls hl hf => ?_)
    refine lv_goto (tgt := 2) C.1.1 C.1.2.1 dX11_holds_124 (by decide) ?_
    exact K2 w (lv_sub hl [2, 3, 4, 0] rfl) hf
  · refine lv_iconst (v := 0) C.1.1 C.1.2.1 dX11_holds_119 (by decide) ?_
    have he := Option.some.inj hf
    subst he
    exact ns_zret C w hr hlk rfl (Or.inl rfl) rfl dX11_holds_120
set_option maxHeartbeats 4000000 in
set_option maxRecDepth 100000 in
theorem wX11_holds_62_2 {p : Program} {l : Launch} {e : Env} {s : State} {m : MethodId} {args : Array Value} {below : List Frame} {meth : Method} {c : Code} {D : va_G} {b : Nat → Nat} {ids : List Nat} {A : Nat → Prop} {S0 : ns_S} {o : Int32} (N : Nat) (hI : ∀ i, i < 107 → i ∈ ids) (C : ns_C p m c cX11_holds 10 s args wsX11_holds RX11 D A) (hr : meth.sig.returnType = some .boolean) (hlk : meth.locks = false) : ∀ n : Nat, ∀ {S : ns_S} {H : Heap} {locs : List Loc} {ls : Array Slot} {l1 : Int32} {l2 : Int32} {l3 : Int32}, ns_W D b ids A s.heap wrX11_holds_62 S0 S H locs → lv_has ls 10 [(0, .ref (b 62)), (1, .int l1), (2, .int l2), (3, .int l3)] → fX11_holds_2 N n (S.2.1 89) (S.2.1 90) (S.2.1 74) (S.2.1 75) (S.2.1 84) (S.2.2.1 4024) (S.2.1 77) (S.2.1 78) (S.2.1 79) (S.2.1 92) (S.2.1 91) l1 l2 l3 = some o → W p l e rmX11_holds_62 s m args below meth c H locs 0 0 (MQ below (ns_Q D b ids S0 (some (.int o)) A) args s 0 0 A) (F0 m 2 ls []) := by
  intro n
  induction n with
  | zero =>
    intro S H locs ls l1 l2 l3 w hl hf
    cases hf
  | succ n K2 =>
    intro S H locs ls l1 l2 l3 w hl hf
    change gX11_holds_2 N (fX11_holds_2 N n) (S.2.1 89) (S.2.1 90) (S.2.1 74) (S.2.1 75) (S.2.1 84) (S.2.2.1 4024) (S.2.1 77) (S.2.1 78) (S.2.1 79) (S.2.1 92) (S.2.1 91) l1 l2 l3 = some o at hf
    generalize fX11_holds_2 N n = r2 at hf K2
    unfold gX11_holds_2 at hf
    refine lv_iload_n C.1.1 C.1.2.1 dX11_holds_2 rfl (lv_at hl 3 rfl) ?_
    refine lv_aload_n C.1.1 C.1.2.1 dX11_holds_3 rfl (lv_at hl 0 rfl) ?_
    refine ns_getr C w 62 (hI 62 (by decide)) sh_62 (rfl : vwCl[11]? = some (RX11, TX11, 59)) inX11_holds_11 28 (by decide) rfl lX11_holds_90 dX11_holds_4 ?_
    refine lv_iload_n C.1.1 C.1.2.1 dX11_holds_7 rfl (lv_at hl 2 rfl) ?_
    refine ns_iald C w 89 (hI 89 (by decide)) sh_89 hf rfl dX11_holds_8 (fun x1 hf => ?_)
    refine ns_icmp_ge C hf (tgt := 127) dX11_holds_9 (by decide) (fun hf => ?_) (fun hf => ?_)
    · refine lv_iconst (v := 1) C.1.1 C.1.2.1 dX11_holds_127 (by decide) ?_
      have he := Option.some.inj hf
      subst he
      exact ns_zret C w hr hlk rfl (Or.inr rfl) rfl dX11_holds_128
    · refine lv_iconst (v := 4) C.1.1 C.1.2.1 dX11_holds_12 (by decide) ?_
      refine lv_iload_n C.1.1 C.1.2.1 dX11_holds_13 rfl (lv_at hl 2 rfl) ?_
      refine lv_imul C.1.1 C.1.2.1 dX11_holds_14 ?_
      refine lv_iload_n C.1.1 C.1.2.1 dX11_holds_15 rfl (lv_at hl 3 rfl) ?_
      refine lv_iadd C.1.1 C.1.2.1 dX11_holds_16 ?_
      refine ns_namei hf (fun x2 hf => ?_)
      refine lv_istore (lv' := [(4, .int x2), (0, .ref (b 62)), (1, .int l1), (2, .int l2), (3, .int l3)]) C.1.1 C.1.2.1 dX11_holds_17 hl (by decide) rfl (fun ls hl => ?_)
      refine lv_aload_n C.1.1 C.1.2.1 dX11_holds_19 rfl (lv_at hl 1 rfl) ?_
      refine lv_iload_n C.1.1 C.1.2.1 dX11_holds_20 rfl (lv_at hl 2 rfl) ?_
      refine lv_aload_n C.1.1 C.1.2.1 dX11_holds_21 rfl (lv_at hl 1 rfl) ?_
      refine ns_getr C w 62 (hI 62 (by decide)) sh_62 (rfl : vwCl[11]? = some (RX11, TX11, 59)) inX11_holds_11 29 (by decide) rfl lX11_holds_93 dX11_holds_22 ?_
      refine lv_iload C.1.1 C.1.2.1 dX11_holds_25 (lv_at hl 0 rfl) ?_
      refine ns_iald C w 90 (hI 90 (by decide)) sh_90 hf rfl dX11_holds_27 (fun x3 hf => ?_)
      refine ns_callV C w 62 (hI 62 (by decide)) sh_62 (rfl : vwCl[11]? = some (RX11, TX11, 59)) [.int l1, .int x3] hf (fun u hu => mX11_tested_62 l D b ids hI N _ l1 x3 hu) gX11_holds_X11_tested rfl rfl rfl hdX11_tested ⟨Nat.le_of_ble_eq_true rfl, Nat.le_of_ble_eq_true rfl⟩ (fun u h => h) rfl hl.1 rfl (Nat.le_of_ble_eq_true rfl) ⟨Nat.le_refl _, Nat.le_refl _⟩ dX11_holds_28 (fun o4 H locs hf w => ?_)
      refine lv_lstore (lv' := [(5, .long o4), (4, .int x2), (0, .ref (b 62)), (1, .int l1), (2, .int l2), (3, .int l3)]) C.1.1 C.1.2.1 dX11_holds_31 hl (by decide) rfl (fun ls hl => ?_)
      refine lv_aload_n C.1.1 C.1.2.1 dX11_holds_33 rfl (lv_at hl 2 rfl) ?_
      refine ns_getr C w 62 (hI 62 (by decide)) sh_62 (rfl : vwCl[11]? = some (RX11, TX11, 59)) inX11_holds_11 31 (by decide) rfl lX11_holds_99 dX11_holds_34 ?_
      refine lv_iload C.1.1 C.1.2.1 dX11_holds_37 (lv_at hl 1 rfl) ?_
      refine ns_iald C w 92 (hI 92 (by decide)) sh_92 hf rfl dX11_holds_39 (fun x5 hf => ?_)
      refine lv_i2l (v := x5.toInt64) C.1.1 C.1.2.1 dX11_holds_40 rfl ?_
      refine ns_namel hf (fun x6 hf => ?_)
      refine lv_lstore (lv' := [(7, .long x6), (5, .long o4), (4, .int x2), (0, .ref (b 62)), (1, .int l1), (2, .int l2), (3, .int l3)]) C.1.1 C.1.2.1 dX11_holds_41 hl (by decide) rfl (fun ls hl => ?_)
      refine lv_aload_n C.1.1 C.1.2.1 dX11_holds_43 rfl (lv_at hl 3 rfl) ?_
      refine ns_getr C w 62 (hI 62 (by decide)) sh_62 (rfl : vwCl[11]? = some (RX11, TX11, 59)) inX11_holds_11 30 (by decide) rfl lX11_holds_96 dX11_holds_44 ?_
      refine lv_iload C.1.1 C.1.2.1 dX11_holds_47 (lv_at hl 2 rfl) ?_
      refine ns_iald C w 91 (hI 91 (by decide)) sh_91 hf rfl dX11_holds_49 (fun x7 hf => ?_)
      refine lv_bipush (v := 60) C.1.1 C.1.2.1 dX11_holds_50 (by decide) ?_
      refine ns_icmp_ne C hf (tgt := 71) dX11_holds_52 (by decide) (fun hf => ?_) (fun hf => ?_)
      · refine lv_aload_n C.1.1 C.1.2.1 dX11_holds_71 rfl (lv_at hl 3 rfl) ?_
        refine ns_getr C w 62 (hI 62 (by decide)) sh_62 (rfl : vwCl[11]? = some (RX11, TX11, 59)) inX11_holds_11 30 (by decide) rfl lX11_holds_96 dX11_holds_72 ?_
        refine lv_iload C.1.1 C.1.2.1 dX11_holds_75 (lv_at hl 2 rfl) ?_
        refine ns_iald C w 91 (hI 91 (by decide)) sh_91 hf rfl dX11_holds_77 (fun x8 hf => ?_)
        refine lv_bipush (v := 62) C.1.1 C.1.2.1 dX11_holds_78 (by decide) ?_
        refine ns_icmp_ne C hf (tgt := 99) dX11_holds_80 (by decide) (fun hf => ?_) (fun hf => ?_)
        · refine lv_lload C.1.1 C.1.2.1 dX11_holds_99 (lv_at hl 1 rfl) ?_
          refine lv_lload C.1.1 C.1.2.1 dX11_holds_101 (lv_at hl 0 rfl) ?_
          refine W.lcmp C.1.1 C.1.2.1 dX11_holds_103 ?_
          refine ns_if_ne C hf (tgt := 111) dX11_holds_104 (by decide) (fun hf => ?_) (fun hf => ?_)
          · refine lv_iconst (v := 0) C.1.1 C.1.2.1 dX11_holds_111 (by decide) ?_
            exact wX11_holds_62_112 N hI C hr hlk K2 w (lv_sub hl [3, 4, 5, 6] rfl) hf
          · refine lv_iconst (v := 1) C.1.1 C.1.2.1 dX11_holds_107 (by decide) ?_
            refine lv_goto (tgt := 112) C.1.1 C.1.2.1 dX11_holds_108 (by decide) ?_
            exact wX11_holds_62_112 N hI C hr hlk K2 w (lv_sub hl [3, 4, 5, 6] rfl) hf
        · refine lv_lload C.1.1 C.1.2.1 dX11_holds_83 (lv_at hl 1 rfl) ?_
          refine lv_lload C.1.1 C.1.2.1 dX11_holds_85 (lv_at hl 0 rfl) ?_
          refine W.lcmp C.1.1 C.1.2.1 dX11_holds_87 ?_
          refine ns_if_le C hf (tgt := 95) dX11_holds_88 (by decide) (fun hf => ?_) (fun hf => ?_)
          · refine lv_iconst (v := 0) C.1.1 C.1.2.1 dX11_holds_95 (by decide) ?_
            refine lv_goto (tgt := 112) C.1.1 C.1.2.1 dX11_holds_96 (by decide) ?_
            exact wX11_holds_62_112 N hI C hr hlk K2 w (lv_sub hl [3, 4, 5, 6] rfl) hf
          · refine lv_iconst (v := 1) C.1.1 C.1.2.1 dX11_holds_91 (by decide) ?_
            refine lv_goto (tgt := 112) C.1.1 C.1.2.1 dX11_holds_92 (by decide) ?_
            exact wX11_holds_62_112 N hI C hr hlk K2 w (lv_sub hl [3, 4, 5, 6] rfl) hf
      · refine lv_lload C.1.1 C.1.2.1 dX11_holds_55 (lv_at hl 1 rfl) ?_
        refine lv_lload C.1.1 C.1.2.1 dX11_holds_57 (lv_at hl 0 rfl) ?_
        refine W.lcmp C.1.1 C.1.2.1 dX11_holds_59 ?_
        refine ns_if_ge C hf (tgt := 67) dX11_holds_60 (by decide) (fun hf => ?_) (fun hf => ?_)
        · refine lv_iconst (v := 0) C.1.1 C.1.2.1 dX11_holds_67 (by decide) ?_
          refine lv_goto (tgt := 112) C.1.1 C.1.2.1 dX11_holds_68 (by decide) ?_
          exact wX11_holds_62_112 N hI C hr hlk K2 w (lv_sub hl [3, 4, 5, 6] rfl) hf
        · refine lv_iconst (v := 1) C.1.1 C.1.2.1 dX11_holds_63 (by decide) ?_
          refine lv_goto (tgt := 112) C.1.1 C.1.2.1 dX11_holds_64 (by decide) ?_
          exact wX11_holds_62_112 N hI C hr hlk K2 w (lv_sub hl [3, 4, 5, 6] rfl) hf
set_option maxHeartbeats 4000000 in
set_option maxRecDepth 100000 in
theorem mX11_holds_62 (l : Launch) (D : va_G) (b : Nat → Nat) (ids : List Nat) (hI : ∀ i, i < 107 → i ∈ ids) (N : Nat) (S : ns_S) (p1 : Int32) (p2 : Int32) {o : Int32} (hf : fX11_holds N (S.2.1 89) (S.2.1 90) (S.2.1 74) (S.2.1 75) (S.2.1 84) (S.2.2.1 4024) (S.2.1 77) (S.2.1 78) (S.2.1 79) (S.2.1 92) (S.2.1 91) p1 p2 = some o) : ns_M l yX11_holds wsX11_holds rmX11_holds_62 D b ids S [.ref (b 62), .int p1, .int p2] (some (.int o)) S := by
  refine ns_start (Wr := wrX11_holds_62) (by decide) rfl (Nat.le_of_ble_eq_true rfl) ?_
  intro p e s m below meth c A ls C hr hlk w hl
  have hl : lv_has ls 10 [(0, .ref (b 62)), (1, .int p1), (2, .int p2)] := hl
  unfold fX11_holds at hf
  refine lv_iconst (v := 0) C.1.1 C.1.2.1 dX11_holds_0 (by decide) ?_
  refine lv_istore_n (lv' := [(3, .int 0), (0, .ref (b 62)), (1, .int p1), (2, .int p2)]) C.1.1 C.1.2.1 dX11_holds_1 rfl hl (by decide) rfl (fun ls hl => ?_)
  exact wX11_holds_62_2 N hI C hr hlk N w (lv_sub hl [1, 2, 3, 0] rfl) hf
theorem lX11_bills_102 : Cond.fieldLink RX11 102 (TX11 32).1 (TX11 32).2.1 (TX11 32).2.2.1 ∈ wsX11_bills := List.mem_of_getElem? (i := 3) rfl
theorem lX11_bills_105 : Cond.fieldLink RX11 105 (TX11 33).1 (TX11 33).2.1 (TX11 33).2.2.1 ∈ wsX11_bills := List.mem_of_getElem? (i := 2) rfl
theorem lX11_bills_108 : Cond.fieldLink RX11 108 (TX11 34).1 (TX11 34).2.1 (TX11 34).2.2.1 ∈ wsX11_bills := List.mem_of_getElem? (i := 5) rfl
theorem lX11_bills_319 : Cond.fieldLink RX11 319 (TX11 56).1 (TX11 56).2.1 (TX11 56).2.2.1 ∈ wsX11_bills := List.mem_of_getElem? (i := 4) rfl
theorem lX11_bills_323 : Cond.fieldLink RX11 323 (TX11 57).1 (TX11 57).2.1 (TX11 57).2.2.1 ∈ wsX11_bills := List.mem_of_getElem? (i := 1) rfl
theorem inX11_bills_11 : ∀ w ∈ u_ws RX11 TX11 59, w ∈ wsX11_bills := fun _ h => List.mem_cons_of_mem _ (List.mem_append_right _ h)
theorem hdX11_bills : yX11_bills.cls = RX11 ∧ yX11_bills.cls ≠ "java/lang/invoke/MethodHandle" ∧ yX11_bills.cls ≠ "java/lang/invoke/VarHandle" ∧ (parseMethodDescriptor yX11_bills.desc).map (fun d => d.parameters.length) = some 2 := by decide +kernel
abbrev wrX11_bills_62 : List (Nat × Nat) := [(2, 4024), (0, 4025)]
abbrev rmX11_bills_62 : Room := { frames := 3, cells := 0, slots := 0, locals := 73 }
set_option maxHeartbeats 4000000 in
set_option maxRecDepth 100000 in
theorem wX11_bills_62_189 {p : Program} {l : Launch} {e : Env} {s : State} {m : MethodId} {args : Array Value} {below : List Frame} {meth : Method} {c : Code} {D : va_G} {b : Nat → Nat} {ids : List Nat} {A : Nat → Prop} {S0 : ns_S} {o : Int64 × Int32} (N : Nat) (hI : ∀ i, i < 107 → i ∈ ids) (C : ns_C p m c cX11_bills 5 s args wsX11_bills RX11 D A) (hr : meth.sig.returnType = none) (hlk : meth.locks = false) : ∀ {S : ns_S} {H : Heap} {locs : List Loc} {ls : Array Slot}, ns_W D b ids A s.heap wrX11_bills_62 S0 S H locs → lv_has ls 5 [(0, .ref (b 62))] → gX11_bills_189 N (S.1 4025) (S.2.1 89) (S.2.1 90) (S.2.1 74) (S.2.1 75) (S.2.1 84) (S.2.2.1 4024) (S.2.1 77) (S.2.1 78) (S.2.1 79) (S.2.1 92) (S.2.1 91) (S.2.1 94) (S.2.1 93) (S.2.1 95) = some o → W p l e rmX11_bills_62 s m args below meth c H locs 0 0 (MQ below (ns_Q D b ids (ns_L (ns_I S0 4025 o.2) 4024 o.1) none A) args s 0 0 A) (F0 m 189 ls []) := by
  intro S H locs ls w hl hf
  unfold gX11_bills_189 at hf
  refine lv_aload_n C.1.1 C.1.2.1 dX11_bills_189 rfl (lv_at hl 0 rfl) ?_
  refine lv_aload_n C.1.1 C.1.2.1 dX11_bills_190 rfl (lv_at hl 0 rfl) ?_
  refine ns_getl C w 62 (hI 62 (by decide)) sh_62 (rfl : vwCl[11]? = some (RX11, TX11, 59)) inX11_bills_11 56 (by decide) rfl lX11_bills_319 (S.2.2.1 4024) rfl dX11_bills_191 ?_
  refine lv_ldc2 (v := 1000000000) C.1.1 C.1.2.1 C.1.2.2.2.1 (C.1.2.2.2.2 (.constantLong RX11 334 (1000000000)) (List.mem_of_getElem? (i := 6) rfl)) dX11_bills_194 ?_
  refine W.lcmp C.1.1 C.1.2.1 dX11_bills_197 ?_
  refine ns_if_le C hf (tgt := 207) dX11_bills_198 (by decide) (fun hf => ?_) (fun hf => ?_)
  · refine lv_aload_n C.1.1 C.1.2.1 dX11_bills_207 rfl (lv_at hl 0 rfl) ?_
    refine ns_getl C w 62 (hI 62 (by decide)) sh_62 (rfl : vwCl[11]? = some (RX11, TX11, 59)) inX11_bills_11 56 (by decide) rfl lX11_bills_319 (S.2.2.1 4024) rfl dX11_bills_208 ?_
    refine ns_putl C w 62 (hI 62 (by decide)) sh_62 (rfl : vwCl[11]? = some (RX11, TX11, 59)) inX11_bills_11 tyX11_ok nmX11 56 (by decide) rfl lX11_bills_319 rfl rfl rfl (List.mem_of_getElem? (i := 0) rfl) dX11_bills_211 (fun H locs w => ?_)
    have he := Option.some.inj hf
    subst he
    exact ns_vret C w hr hlk rfl rfl dX11_bills_214
  · refine lv_ldc2 (v := 1000000000) C.1.1 C.1.2.1 C.1.2.2.2.1 (C.1.2.2.2.2 (.constantLong RX11 334 (1000000000)) (List.mem_of_getElem? (i := 6) rfl)) dX11_bills_201 ?_
    refine lv_goto (tgt := 211) C.1.1 C.1.2.1 dX11_bills_204 (by decide) ?_
    refine ns_putl C w 62 (hI 62 (by decide)) sh_62 (rfl : vwCl[11]? = some (RX11, TX11, 59)) inX11_bills_11 tyX11_ok nmX11 56 (by decide) rfl lX11_bills_319 rfl rfl rfl (List.mem_of_getElem? (i := 0) rfl) dX11_bills_211 (fun H locs w => ?_)
    have he := Option.some.inj hf
    subst he
    exact ns_vret C w hr hlk rfl rfl dX11_bills_214
set_option maxHeartbeats 4000000 in
set_option maxRecDepth 100000 in
theorem wX11_bills_62_101 {p : Program} {l : Launch} {e : Env} {s : State} {m : MethodId} {args : Array Value} {below : List Frame} {meth : Method} {c : Code} {D : va_G} {b : Nat → Nat} {ids : List Nat} {A : Nat → Prop} {S0 : ns_S} {o : Int64 × Int32} (N : Nat) (hI : ∀ i, i < 107 → i ∈ ids) (C : ns_C p m c cX11_bills 5 s args wsX11_bills RX11 D A) (hr : meth.sig.returnType = none) (hlk : meth.locks = false) : ∀ {S : ns_S} {H : Heap} {locs : List Loc} {ls : Array Slot} {s1 : Int64}, ns_W D b ids A s.heap wrX11_bills_62 S0 S H locs → lv_has ls 5 [(0, .ref (b 62))] → gX11_bills_101 N (S.1 4025) (S.2.1 89) (S.2.1 90) (S.2.1 74) (S.2.1 75) (S.2.1 84) (S.2.2.1 4024) (S.2.1 77) (S.2.1 78) (S.2.1 79) (S.2.1 92) (S.2.1 91) (S.2.1 94) (S.2.1 93) (S.2.1 95) s1 = some o → W p l e rmX11_bills_62 s m args below meth c H locs 0 0 (MQ below (ns_Q D b ids (ns_L (ns_I S0 4025 o.2) 4024 o.1) none A) args s 0 0 A) (F0 m 101 ls [.long s1, .ref (b 62)]) := by
  intro S H locs ls s1 w hl hf
  unfold gX11_bills_101 at hf
  refine ns_putl C w 62 (hI 62 (by decide)) sh_62 (rfl : vwCl[11]? = some (RX11, TX11, 59)) inX11_bills_11 tyX11_ok nmX11 56 (by decide) rfl lX11_bills_319 rfl rfl rfl (List.mem_of_getElem? (i := 0) rfl) dX11_bills_101 (fun H locs w => ?_)
  refine lv_goto (tgt := 189) C.1.1 C.1.2.1 dX11_bills_104 (by decide) ?_
  exact wX11_bills_62_189 N hI C hr hlk w (lv_sub hl [0] rfl) hf
set_option maxHeartbeats 4000000 in
set_option maxRecDepth 100000 in
theorem wX11_bills_62_146 {p : Program} {l : Launch} {e : Env} {s : State} {m : MethodId} {args : Array Value} {below : List Frame} {meth : Method} {c : Code} {D : va_G} {b : Nat → Nat} {ids : List Nat} {A : Nat → Prop} {S0 : ns_S} {o : Int64 × Int32} (N : Nat) (hI : ∀ i, i < 107 → i ∈ ids) (C : ns_C p m c cX11_bills 5 s args wsX11_bills RX11 D A) (hr : meth.sig.returnType = none) (hlk : meth.locks = false) : ∀ {S : ns_S} {H : Heap} {locs : List Loc} {ls : Array Slot} {s1 : Int64}, ns_W D b ids A s.heap wrX11_bills_62 S0 S H locs → lv_has ls 5 [(0, .ref (b 62))] → gX11_bills_146 N (S.1 4025) (S.2.1 89) (S.2.1 90) (S.2.1 74) (S.2.1 75) (S.2.1 84) (S.2.2.1 4024) (S.2.1 77) (S.2.1 78) (S.2.1 79) (S.2.1 92) (S.2.1 91) (S.2.1 94) (S.2.1 93) (S.2.1 95) s1 = some o → W p l e rmX11_bills_62 s m args below meth c H locs 0 0 (MQ below (ns_Q D b ids (ns_L (ns_I S0 4025 o.2) 4024 o.1) none A) args s 0 0 A) (F0 m 146 ls [.long s1, .ref (b 62)]) := by
  intro S H locs ls s1 w hl hf
  unfold gX11_bills_146 at hf
  refine ns_putl C w 62 (hI 62 (by decide)) sh_62 (rfl : vwCl[11]? = some (RX11, TX11, 59)) inX11_bills_11 tyX11_ok nmX11 56 (by decide) rfl lX11_bills_319 rfl rfl rfl (List.mem_of_getElem? (i := 0) rfl) dX11_bills_146 (fun H locs w => ?_)
  refine lv_goto (tgt := 189) C.1.1 C.1.2.1 dX11_bills_149 (by decide) ?_
  exact wX11_bills_62_189 N hI C hr hlk w (lv_sub hl [0] rfl) hf
set_option maxHeartbeats 4000000 in
set_option maxRecDepth 100000 in
theorem wX11_bills_62_170 {p : Program} {l : Launch} {e : Env} {s : State} {m : MethodId} {args : Array Value} {below : List Frame} {meth : Method} {c : Code} {D : va_G} {b : Nat → Nat} {ids : List Nat} {A : Nat → Prop} {S0 : ns_S} {o : Int64 × Int32} (N : Nat) (hI : ∀ i, i < 107 → i ∈ ids) (C : ns_C p m c cX11_bills 5 s args wsX11_bills RX11 D A) (hr : meth.sig.returnType = none) (hlk : meth.locks = false) : ∀ {S : ns_S} {H : Heap} {locs : List Loc} {ls : Array Slot} {s1 : Int64}, ns_W D b ids A s.heap wrX11_bills_62 S0 S H locs → lv_has ls 5 [(0, .ref (b 62))] → gX11_bills_170 N (S.1 4025) (S.2.1 89) (S.2.1 90) (S.2.1 74) (S.2.1 75) (S.2.1 84) (S.2.2.1 4024) (S.2.1 77) (S.2.1 78) (S.2.1 79) (S.2.1 92) (S.2.1 91) (S.2.1 94) (S.2.1 93) (S.2.1 95) s1 = some o → W p l e rmX11_bills_62 s m args below meth c H locs 0 0 (MQ below (ns_Q D b ids (ns_L (ns_I S0 4025 o.2) 4024 o.1) none A) args s 0 0 A) (F0 m 170 ls [.long s1, .ref (b 62)]) := by
  intro S H locs ls s1 w hl hf
  unfold gX11_bills_170 at hf
  refine ns_putl C w 62 (hI 62 (by decide)) sh_62 (rfl : vwCl[11]? = some (RX11, TX11, 59)) inX11_bills_11 tyX11_ok nmX11 56 (by decide) rfl lX11_bills_319 rfl rfl rfl (List.mem_of_getElem? (i := 0) rfl) dX11_bills_170 (fun H locs w => ?_)
  refine lv_goto (tgt := 189) C.1.1 C.1.2.1 dX11_bills_173 (by decide) ?_
  exact wX11_bills_62_189 N hI C hr hlk w (lv_sub hl [0] rfl) hf
set_option maxHeartbeats 4000000 in
set_option maxRecDepth 100000 in
theorem mX11_bills_62 (l : Launch) (D : va_G) (b : Nat → Nat) (ids : List Nat) (hI : ∀ i, i < 107 → i ∈ ids) (N : Nat) (S : ns_S) (p1 : Int32) (p2 : Int32) {o : Int64 × Int32} (hf : fX11_bills N (S.1 4025) (S.2.1 89) (S.2.1 90) (S.2.1 74) (S.2.1 75) (S.2.1 84) (S.2.2.1 4024) (S.2.1 77) (S.2.1 78) (S.2.1 79) (S.2.1 92) (S.2.1 91) (S.2.1 94) (S.2.1 93) (S.2.1 95) p1 p2 = some o) : ns_M l yX11_bills wsX11_bills rmX11_bills_62 D b ids S [.ref (b 62), .int p1, .int p2] none (ns_L (ns_I S 4025 o.2) 4024 o.1) := by
  refine ns_start (Wr := wrX11_bills_62) (by decide) rfl (Nat.le_of_ble_eq_true rfl) ?_
  intro p e s m below meth c A ls C hr hlk w hl
  have hl : lv_has ls 5 [(0, .ref (b 62)), (1, .int p1), (2, .int p2)] := hl
  unfold fX11_bills at hf
  refine lv_aload_n C.1.1 C.1.2.1 dX11_bills_0 rfl (lv_at hl 0 rfl) ?_
  refine ns_geti C w 62 (hI 62 (by decide)) sh_62 (rfl : vwCl[11]? = some (RX11, TX11, 59)) inX11_bills_11 57 (by decide) rfl lX11_bills_323 (S.1 4025) rfl dX11_bills_1 ?_
  refine ns_if_ne C hf (tgt := 16) dX11_bills_4 (by decide) (fun hf => ?_) (fun hf => ?_)
  · have he := Option.some.inj hf
    subst he
    exact ns_vret C w hr hlk rfl rfl dX11_bills_16
  · refine lv_aload_n C.1.1 C.1.2.1 dX11_bills_7 rfl (lv_at hl 0 rfl) ?_
    refine lv_iload_n C.1.1 C.1.2.1 dX11_bills_8 rfl (lv_at hl 1 rfl) ?_
    refine lv_iload_n C.1.1 C.1.2.1 dX11_bills_9 rfl (lv_at hl 2 rfl) ?_
    refine ns_callV C w 62 (hI 62 (by decide)) sh_62 (rfl : vwCl[11]? = some (RX11, TX11, 59)) [.int p1, .int p2] hf (fun u hu => mX11_holds_62 l D b ids hI N _ p1 p2 hu) gX11_bills_X11_holds rfl rfl rfl hdX11_holds ⟨Nat.le_of_ble_eq_true rfl, Nat.le_of_ble_eq_true rfl⟩ (fun u h => h) rfl hl.1 rfl (Nat.le_of_ble_eq_true rfl) ⟨Nat.le_refl _, Nat.le_refl _⟩ dX11_bills_10 (fun o1 H locs hf w => ?_)
    refine ns_if_ne C hf (tgt := 17) dX11_bills_13 (by decide) (fun hf => ?_) (fun hf => ?_)
    · refine lv_aload_n C.1.1 C.1.2.1 dX11_bills_17 rfl (lv_at hl 0 rfl) ?_
      refine ns_getr C w 62 (hI 62 (by decide)) sh_62 (rfl : vwCl[11]? = some (RX11, TX11, 59)) inX11_bills_11 33 (by decide) rfl lX11_bills_105 dX11_bills_18 ?_
      refine lv_iload_n C.1.1 C.1.2.1 dX11_bills_21 rfl (lv_at hl 2 rfl) ?_
      refine ns_iald C w 94 (hI 94 (by decide)) sh_94 hf rfl dX11_bills_22 (fun x2 hf => ?_)
      refine lv_i2l (v := x2.toInt64) C.1.1 C.1.2.1 dX11_bills_23 rfl ?_
      refine ns_namel hf (fun x3 hf => ?_)
      refine lv_lstore_n (lv' := [(3, .long x3), (0, .ref (b 62)), (1, .int p1), (2, .int p2)]) C.1.1 C.1.2.1 dX11_bills_24 rfl hl (by decide) rfl (fun ls hl => ?_)
      refine lv_aload_n C.1.1 C.1.2.1 dX11_bills_25 rfl (lv_at hl 1 rfl) ?_
      refine ns_getr C w 62 (hI 62 (by decide)) sh_62 (rfl : vwCl[11]? = some (RX11, TX11, 59)) inX11_bills_11 32 (by decide) rfl lX11_bills_102 dX11_bills_26 ?_
      refine lv_iload_n C.1.1 C.1.2.1 dX11_bills_29 rfl (lv_at hl 3 rfl) ?_
      refine ns_iald C w 93 (hI 93 (by decide)) sh_93 hf rfl dX11_bills_30 (fun x4 hf => ?_)
      by_cases h_8 : x4 = 8
      · rw [if_pos h_8] at hf
        refine lv_tableIn (tgt := 68) C.1.1 C.1.2.1 dX11_bills_31 (by rw [h_8]; decide) (by rw [h_8]; decide) (by rw [h_8]; rfl) (by decide) ?_
        refine lv_aload_n C.1.1 C.1.2.1 dX11_bills_68 rfl (lv_at hl 1 rfl) ?_
        refine lv_dup C.1.1 C.1.2.1 dX11_bills_69 rfl ?_
        refine ns_getl C w 62 (hI 62 (by decide)) sh_62 (rfl : vwCl[11]? = some (RX11, TX11, 59)) inX11_bills_11 56 (by decide) rfl lX11_bills_319 (S.2.2.1 4024) rfl dX11_bills_70 ?_
        refine lv_lload_n C.1.1 C.1.2.1 dX11_bills_73 rfl (lv_at hl 0 rfl) ?_
        refine lv_ladd C.1.1 C.1.2.1 dX11_bills_74 ?_
        refine ns_namel hf (fun x5 hf => ?_)
        refine ns_putl C w 62 (hI 62 (by decide)) sh_62 (rfl : vwCl[11]? = some (RX11, TX11, 59)) inX11_bills_11 tyX11_ok nmX11 56 (by decide) rfl lX11_bills_319 rfl rfl rfl (List.mem_of_getElem? (i := 0) rfl) dX11_bills_75 (fun H locs w => ?_)
        refine lv_goto (tgt := 189) C.1.1 C.1.2.1 dX11_bills_78 (by decide) ?_
        exact wX11_bills_62_189 N hI C hr hlk w (lv_sub hl [1] rfl) hf
      rw [if_neg h_8] at hf
      by_cases h_9 : x4 = 9
      · rw [if_pos h_9] at hf
        refine lv_tableIn (tgt := 81) C.1.1 C.1.2.1 dX11_bills_31 (by rw [h_9]; decide) (by rw [h_9]; decide) (by rw [h_9]; rfl) (by decide) ?_
        refine lv_aload_n C.1.1 C.1.2.1 dX11_bills_81 rfl (lv_at hl 1 rfl) ?_
        refine lv_aload_n C.1.1 C.1.2.1 dX11_bills_82 rfl (lv_at hl 1 rfl) ?_
        refine ns_getl C w 62 (hI 62 (by decide)) sh_62 (rfl : vwCl[11]? = some (RX11, TX11, 59)) inX11_bills_11 56 (by decide) rfl lX11_bills_319 (S.2.2.1 4024) rfl dX11_bills_83 ?_
        refine lv_lload_n C.1.1 C.1.2.1 dX11_bills_86 rfl (lv_at hl 0 rfl) ?_
        refine W.lcmp C.1.1 C.1.2.1 dX11_bills_87 ?_
        refine ns_if_le C hf (tgt := 100) dX11_bills_88 (by decide) (fun hf => ?_) (fun hf => ?_)
        · refine lv_lconst (v := 0) C.1.1 C.1.2.1 dX11_bills_100 (by decide) ?_
          exact wX11_bills_62_101 N hI C hr hlk w (lv_sub hl [1] rfl) hf
        · refine lv_aload_n C.1.1 C.1.2.1 dX11_bills_91 rfl (lv_at hl 1 rfl) ?_
          refine ns_getl C w 62 (hI 62 (by decide)) sh_62 (rfl : vwCl[11]? = some (RX11, TX11, 59)) inX11_bills_11 56 (by decide) rfl lX11_bills_319 (S.2.2.1 4024) rfl dX11_bills_92 ?_
          refine lv_lload_n C.1.1 C.1.2.1 dX11_bills_95 rfl (lv_at hl 0 rfl) ?_
          refine lv_lsub C.1.1 C.1.2.1 dX11_bills_96 ?_
          refine lv_goto (tgt := 101) C.1.1 C.1.2.1 dX11_bills_97 (by decide) ?_
          exact wX11_bills_62_101 N hI C hr hlk w (lv_sub hl [1] rfl) hf
      rw [if_neg h_9] at hf
      by_cases h_10 : x4 = 10
      · rw [if_pos h_10] at hf
        refine lv_tableIn (tgt := 107) C.1.1 C.1.2.1 dX11_bills_31 (by rw [h_10]; decide) (by rw [h_10]; decide) (by rw [h_10]; rfl) (by decide) ?_
        refine lv_aload_n C.1.1 C.1.2.1 dX11_bills_107 rfl (lv_at hl 1 rfl) ?_
        refine lv_aload_n C.1.1 C.1.2.1 dX11_bills_108 rfl (lv_at hl 1 rfl) ?_
        refine ns_getl C w 62 (hI 62 (by decide)) sh_62 (rfl : vwCl[11]? = some (RX11, TX11, 59)) inX11_bills_11 56 (by decide) rfl lX11_bills_319 (S.2.2.1 4024) rfl dX11_bills_109 ?_
        refine lv_lload_n C.1.1 C.1.2.1 dX11_bills_112 rfl (lv_at hl 0 rfl) ?_
        refine lv_lmul C.1.1 C.1.2.1 dX11_bills_113 ?_
        refine lv_aload_n C.1.1 C.1.2.1 dX11_bills_114 rfl (lv_at hl 1 rfl) ?_
        refine ns_getr C w 62 (hI 62 (by decide)) sh_62 (rfl : vwCl[11]? = some (RX11, TX11, 59)) inX11_bills_11 34 (by decide) rfl lX11_bills_108 dX11_bills_115 ?_
        refine lv_iload_n C.1.1 C.1.2.1 dX11_bills_118 rfl (lv_at hl 3 rfl) ?_
        refine ns_iald C w 95 (hI 95 (by decide)) sh_95 hf rfl dX11_bills_119 (fun x6 hf => ?_)
        refine lv_i2l (v := x6.toInt64) C.1.1 C.1.2.1 dX11_bills_120 rfl ?_
        refine ns_ldiv C hf dX11_bills_121 (fun x7 hf => ?_)
        refine ns_putl C w 62 (hI 62 (by decide)) sh_62 (rfl : vwCl[11]? = some (RX11, TX11, 59)) inX11_bills_11 tyX11_ok nmX11 56 (by decide) rfl lX11_bills_319 rfl rfl rfl (List.mem_of_getElem? (i := 0) rfl) dX11_bills_122 (fun H locs w => ?_)
        refine lv_goto (tgt := 189) C.1.1 C.1.2.1 dX11_bills_125 (by decide) ?_
        exact wX11_bills_62_189 N hI C hr hlk w (lv_sub hl [1] rfl) hf
      rw [if_neg h_10] at hf
      by_cases h_11 : x4 = 11
      · rw [if_pos h_11] at hf
        refine lv_tableIn (tgt := 128) C.1.1 C.1.2.1 dX11_bills_31 (by rw [h_11]; decide) (by rw [h_11]; decide) (by rw [h_11]; rfl) (by decide) ?_
        refine lv_aload_n C.1.1 C.1.2.1 dX11_bills_128 rfl (lv_at hl 1 rfl) ?_
        refine lv_aload_n C.1.1 C.1.2.1 dX11_bills_129 rfl (lv_at hl 1 rfl) ?_
        refine ns_getl C w 62 (hI 62 (by decide)) sh_62 (rfl : vwCl[11]? = some (RX11, TX11, 59)) inX11_bills_11 56 (by decide) rfl lX11_bills_319 (S.2.2.1 4024) rfl dX11_bills_130 ?_
        refine lv_lload_n C.1.1 C.1.2.1 dX11_bills_133 rfl (lv_at hl 0 rfl) ?_
        refine W.lcmp C.1.1 C.1.2.1 dX11_bills_134 ?_
        refine ns_if_ge C hf (tgt := 142) dX11_bills_135 (by decide) (fun hf => ?_) (fun hf => ?_)
        · refine lv_aload_n C.1.1 C.1.2.1 dX11_bills_142 rfl (lv_at hl 1 rfl) ?_
          refine ns_getl C w 62 (hI 62 (by decide)) sh_62 (rfl : vwCl[11]? = some (RX11, TX11, 59)) inX11_bills_11 56 (by decide) rfl lX11_bills_319 (S.2.2.1 4024) rfl dX11_bills_143 ?_
          exact wX11_bills_62_146 N hI C hr hlk w (lv_sub hl [1] rfl) hf
        · refine lv_lload_n C.1.1 C.1.2.1 dX11_bills_138 rfl (lv_at hl 0 rfl) ?_
          refine lv_goto (tgt := 146) C.1.1 C.1.2.1 dX11_bills_139 (by decide) ?_
          exact wX11_bills_62_146 N hI C hr hlk w (lv_sub hl [1] rfl) hf
      rw [if_neg h_11] at hf
      by_cases h_12 : x4 = 12
      · rw [if_pos h_12] at hf
        refine lv_tableIn (tgt := 152) C.1.1 C.1.2.1 dX11_bills_31 (by rw [h_12]; decide) (by rw [h_12]; decide) (by rw [h_12]; rfl) (by decide) ?_
        refine lv_aload_n C.1.1 C.1.2.1 dX11_bills_152 rfl (lv_at hl 1 rfl) ?_
        refine lv_aload_n C.1.1 C.1.2.1 dX11_bills_153 rfl (lv_at hl 1 rfl) ?_
        refine ns_getl C w 62 (hI 62 (by decide)) sh_62 (rfl : vwCl[11]? = some (RX11, TX11, 59)) inX11_bills_11 56 (by decide) rfl lX11_bills_319 (S.2.2.1 4024) rfl dX11_bills_154 ?_
        refine lv_lload_n C.1.1 C.1.2.1 dX11_bills_157 rfl (lv_at hl 0 rfl) ?_
        refine W.lcmp C.1.1 C.1.2.1 dX11_bills_158 ?_
        refine ns_if_le C hf (tgt := 166) dX11_bills_159 (by decide) (fun hf => ?_) (fun hf => ?_)
        · refine lv_aload_n C.1.1 C.1.2.1 dX11_bills_166 rfl (lv_at hl 1 rfl) ?_
          refine ns_getl C w 62 (hI 62 (by decide)) sh_62 (rfl : vwCl[11]? = some (RX11, TX11, 59)) inX11_bills_11 56 (by decide) rfl lX11_bills_319 (S.2.2.1 4024) rfl dX11_bills_167 ?_
          exact wX11_bills_62_170 N hI C hr hlk w (lv_sub hl [1] rfl) hf
        · refine lv_lload_n C.1.1 C.1.2.1 dX11_bills_162 rfl (lv_at hl 0 rfl) ?_
          refine lv_goto (tgt := 170) C.1.1 C.1.2.1 dX11_bills_163 (by decide) ?_
          exact wX11_bills_62_170 N hI C hr hlk w (lv_sub hl [1] rfl) hf
      rw [if_neg h_12] at hf
      by_cases h_13 : x4 = 13
      · rw [if_pos h_13] at hf
        refine lv_tableIn (tgt := 176) C.1.1 C.1.2.1 dX11_bills_31 (by rw [h_13]; decide) (by rw [h_13]; decide) (by rw [h_13]; rfl) (by decide) ?_
        refine lv_aload_n C.1.1 C.1.2.1 dX11_bills_176 rfl (lv_at hl 1 rfl) ?_
        refine lv_lconst (v := 0) C.1.1 C.1.2.1 dX11_bills_177 (by decide) ?_
        refine ns_putl C w 62 (hI 62 (by decide)) sh_62 (rfl : vwCl[11]? = some (RX11, TX11, 59)) inX11_bills_11 tyX11_ok nmX11 56 (by decide) rfl lX11_bills_319 rfl rfl rfl (List.mem_of_getElem? (i := 0) rfl) dX11_bills_178 (fun H locs w => ?_)
        refine lv_goto (tgt := 189) C.1.1 C.1.2.1 dX11_bills_181 (by decide) ?_
        exact wX11_bills_62_189 N hI C hr hlk w (lv_sub hl [1] rfl) hf
      rw [if_neg h_13] at hf
      refine lv_tableOut (tgt := 184) C.1.1 C.1.2.1 dX11_bills_31 (ns_out (by decide) (by decide) (fun k h1 h2 => ?_)) (by decide) ?_
      · rcases (by omega : k = 8 ∨ k = 9 ∨ k = 10 ∨ k = 11 ∨ k = 12 ∨ k = 13) with rfl | rfl | rfl | rfl | rfl | rfl
        · exact h_8
        · exact h_9
        · exact h_10
        · exact h_11
        · exact h_12
        · exact h_13
      · refine lv_aload_n C.1.1 C.1.2.1 dX11_bills_184 rfl (lv_at hl 1 rfl) ?_
        refine lv_iconst (v := 1) C.1.1 C.1.2.1 dX11_bills_185 (by decide) ?_
        refine ns_puti C w 62 (hI 62 (by decide)) sh_62 (rfl : vwCl[11]? = some (RX11, TX11, 59)) inX11_bills_11 tyX11_ok nmX11 57 (by decide) rfl lX11_bills_323 rfl rfl rfl (List.mem_of_getElem? (i := 1) rfl) dX11_bills_186 (fun H locs w => ?_)
        exact wX11_bills_62_189 N hI C hr hlk w (lv_sub hl [1] rfl) hf
    · have he := Option.some.inj hf
      subst he
      exact ns_vret C w hr hlk rfl rfl dX11_bills_16
theorem lX11_bill_87 : Cond.fieldLink RX11 87 (TX11 27).1 (TX11 27).2.1 (TX11 27).2.2.1 ∈ wsX11_bill := List.mem_of_getElem? (i := 2) rfl
theorem lX11_bill_179 : Cond.fieldLink RX11 179 (TX11 0).1 (TX11 0).2.1 (TX11 0).2.2.1 ∈ wsX11_bill := List.mem_of_getElem? (i := 1) rfl
theorem lX11_bill_319 : Cond.fieldLink RX11 319 (TX11 56).1 (TX11 56).2.1 (TX11 56).2.2.1 ∈ wsX11_bill := List.mem_of_getElem? (i := 3) rfl
theorem inX11_bill_11 : ∀ w ∈ u_ws RX11 TX11 59, w ∈ wsX11_bill := fun _ h => List.mem_cons_of_mem _ (List.mem_append_right _ h)
theorem hdX11_bill : yX11_bill.cls = RX11 ∧ yX11_bill.cls ≠ "java/lang/invoke/MethodHandle" ∧ yX11_bill.cls ≠ "java/lang/invoke/VarHandle" ∧ (parseMethodDescriptor yX11_bill.desc).map (fun d => d.parameters.length) = some 1 := by decide +kernel
abbrev wrX11_bill_62 : List (Nat × Nat) := [(0, 3968), (2, 4024), (0, 4025)]
abbrev rmX11_bill_62 : Room := { frames := 4, cells := 0, slots := 0, locals := 97 }
set_option maxHeartbeats 4000000 in
set_option maxRecDepth 100000 in
theorem wX11_bill_62_22 {p : Program} {l : Launch} {e : Env} {s : State} {m : MethodId} {args : Array Value} {below : List Frame} {meth : Method} {c : Code} {D : va_G} {b : Nat → Nat} {ids : List Nat} {A : Nat → Prop} {S0 : ns_S} {o : Int32 × Int32 × Int64 × Int32} (N : Nat) (hI : ∀ i, i < 107 → i ∈ ids) (C : ns_C p m c cX11_bill 3 s args wsX11_bill RX11 D A) (hr : meth.sig.returnType = some .int) (hlk : meth.locks = false) : ∀ n : Nat, ∀ {S : ns_S} {H : Heap} {locs : List Loc} {ls : Array Slot} {l1 : Int32} {l2 : Int32}, ns_W D b ids A s.heap wrX11_bill_62 S0 S H locs → lv_has ls 3 [(0, .ref (b 62)), (1, .int l1), (2, .int l2)] → fX11_bill_22 N n (S.1 3968) (S.2.1 73) (S.2.2.1 4024) (S.1 4025) (S.2.1 67) (S.2.1 84) (S.2.1 72) (S.2.1 88) (S.2.1 89) (S.2.1 90) (S.2.1 74) (S.2.1 75) (S.2.1 77) (S.2.1 78) (S.2.1 79) (S.2.1 92) (S.2.1 91) (S.2.1 94) (S.2.1 93) (S.2.1 95) l1 l2 = some o → W p l e rmX11_bill_62 s m args below meth c H locs 0 0 (MQ below (ns_Q D b ids (ns_I (ns_L (ns_I S0 4025 o.2.2.2) 4024 o.2.2.1) 3968 o.2.1) (some (.int o.1)) A) args s 0 0 A) (F0 m 22 ls []) := by
  intro n
  induction n with
  | zero =>
    intro S H locs ls l1 l2 w hl hf
    cases hf
  | succ n K22 =>
    intro S H locs ls l1 l2 w hl hf
    change gX11_bill_22 N (fX11_bill_22 N n) (S.1 3968) (S.2.1 73) (S.2.2.1 4024) (S.1 4025) (S.2.1 67) (S.2.1 84) (S.2.1 72) (S.2.1 88) (S.2.1 89) (S.2.1 90) (S.2.1 74) (S.2.1 75) (S.2.1 77) (S.2.1 78) (S.2.1 79) (S.2.1 92) (S.2.1 91) (S.2.1 94) (S.2.1 93) (S.2.1 95) l1 l2 = some o at hf
    generalize fX11_bill_22 N n = r22 at hf K22
    unfold gX11_bill_22 at hf
    refine lv_iload_n C.1.1 C.1.2.1 dX11_bill_22 rfl (lv_at hl 2 rfl) ?_
    refine lv_aload_n C.1.1 C.1.2.1 dX11_bill_23 rfl (lv_at hl 0 rfl) ?_
    refine ns_getr C w 62 (hI 62 (by decide)) sh_62 (rfl : vwCl[11]? = some (RX11, TX11, 59)) inX11_bill_11 27 (by decide) rfl lX11_bill_87 dX11_bill_24 ?_
    refine lv_iconst (v := 0) C.1.1 C.1.2.1 dX11_bill_27 (by decide) ?_
    refine ns_iald C w 88 (hI 88 (by decide)) sh_88 hf rfl dX11_bill_28 (fun x1 hf => ?_)
    refine ns_icmp_ge C hf (tgt := 44) dX11_bill_29 (by decide) (fun hf => ?_) (fun hf => ?_)
    · refine lv_aload_n C.1.1 C.1.2.1 dX11_bill_44 rfl (lv_at hl 0 rfl) ?_
      refine ns_getl C w 62 (hI 62 (by decide)) sh_62 (rfl : vwCl[11]? = some (RX11, TX11, 59)) inX11_bill_11 56 (by decide) rfl lX11_bill_319 (S.2.2.1 4024) rfl dX11_bill_45 ?_
      refine lv_l2i (v := (S.2.2.1 4024).toInt32) C.1.1 C.1.2.1 dX11_bill_48 rfl ?_
      have he := Option.some.inj hf
      subst he
      exact ns_iret C w hr hlk rfl rfl dX11_bill_49
    · refine lv_aload_n C.1.1 C.1.2.1 dX11_bill_32 rfl (lv_at hl 0 rfl) ?_
      refine lv_iload_n C.1.1 C.1.2.1 dX11_bill_33 rfl (lv_at hl 1 rfl) ?_
      refine lv_iload_n C.1.1 C.1.2.1 dX11_bill_34 rfl (lv_at hl 2 rfl) ?_
      refine ns_callV C w 62 (hI 62 (by decide)) sh_62 (rfl : vwCl[11]? = some (RX11, TX11, 59)) [.int l1, .int l2] hf (fun u hu => mX11_bills_62 l D b ids hI N _ l1 l2 hu) gX11_bill_X11_bills rfl rfl rfl hdX11_bills ⟨Nat.le_of_ble_eq_true rfl, Nat.le_of_ble_eq_true rfl⟩ (fun u h => ((h.I (List.mem_of_getElem? (i := 2) rfl) _).L (List.mem_of_getElem? (i := 1) rfl) _)) rfl hl.1 rfl (Nat.le_of_ble_eq_true rfl) ⟨Nat.le_refl _, Nat.le_refl _⟩ dX11_bill_35 (fun o2 H locs hf w => ?_)
      refine ns_iinc (lv' := fun x3 => [(2, .int x3), (0, .ref (b 62)), (1, .int l1)]) C hf dX11_bill_38 hl (k := 2) rfl rfl (by decide) (fun _ => rfl) (fun x3 ls hl hf => ?_)
      refine lv_goto (tgt := 22) C.1.1 C.1.2.1 dX11_bill_41 (by decide) ?_
      exact K22 w (lv_sub hl [1, 2, 0] rfl) hf
set_option maxHeartbeats 4000000 in
set_option maxRecDepth 100000 in
theorem mX11_bill_62 (l : Launch) (D : va_G) (b : Nat → Nat) (ids : List Nat) (hI : ∀ i, i < 107 → i ∈ ids) (N : Nat) (S : ns_S) (p1 : Int32) {o : Int32 × Int32 × Int64 × Int32} (hf : fX11_bill N (S.1 3968) (S.2.1 73) (S.2.2.1 4024) (S.1 4025) (S.2.1 67) (S.2.1 84) (S.2.1 72) (S.2.1 88) (S.2.1 89) (S.2.1 90) (S.2.1 74) (S.2.1 75) (S.2.1 77) (S.2.1 78) (S.2.1 79) (S.2.1 92) (S.2.1 91) (S.2.1 94) (S.2.1 93) (S.2.1 95) p1 = some o) : ns_M l yX11_bill wsX11_bill rmX11_bill_62 D b ids S [.ref (b 62), .int p1] (some (.int o.1)) (ns_I (ns_L (ns_I S 4025 o.2.2.2) 4024 o.2.2.1) 3968 o.2.1) := by
  refine ns_start (Wr := wrX11_bill_62) (by decide) rfl (Nat.le_of_ble_eq_true rfl) ?_
  intro p e s m below meth c A ls C hr hlk w hl
  have hl : lv_has ls 3 [(0, .ref (b 62)), (1, .int p1)] := hl
  unfold fX11_bill at hf
  refine lv_aload_n C.1.1 C.1.2.1 dX11_bill_0 rfl (lv_at hl 0 rfl) ?_
  refine lv_iconst (v := 0) C.1.1 C.1.2.1 dX11_bill_1 (by decide) ?_
  refine ns_puti C w 62 (hI 62 (by decide)) sh_62 (rfl : vwCl[11]? = some (RX11, TX11, 59)) inX11_bill_11 tyX11_ok nmX11 0 (by decide) rfl lX11_bill_179 rfl rfl rfl (List.mem_of_getElem? (i := 0) rfl) dX11_bill_2 (fun H locs w => ?_)
  refine lv_aload_n C.1.1 C.1.2.1 dX11_bill_5 rfl (lv_at hl 0 rfl) ?_
  refine lv_iload_n C.1.1 C.1.2.1 dX11_bill_6 rfl (lv_at hl 1 rfl) ?_
  refine ns_callV C w 62 (hI 62 (by decide)) sh_62 (rfl : vwCl[11]? = some (RX11, TX11, 59)) [.int p1] hf (fun u hu => mX11_isPupil_62 l D b ids hI N _ p1 hu) gX11_bill_X11_isPupil rfl rfl rfl hdX11_isPupil ⟨Nat.le_of_ble_eq_true rfl, Nat.le_of_ble_eq_true rfl⟩ (fun u h => h) rfl hl.1 rfl (Nat.le_of_ble_eq_true rfl) ⟨Nat.le_refl _, Nat.le_refl _⟩ dX11_bill_7 (fun o1 H locs hf w => ?_)
  refine ns_if_ne C hf (tgt := 15) dX11_bill_10 (by decide) (fun hf => ?_) (fun hf => ?_)
  · refine lv_aload_n C.1.1 C.1.2.1 dX11_bill_15 rfl (lv_at hl 0 rfl) ?_
    refine lv_iload_n C.1.1 C.1.2.1 dX11_bill_16 rfl (lv_at hl 1 rfl) ?_
    refine ns_callV C w 62 (hI 62 (by decide)) sh_62 (rfl : vwCl[11]? = some (RX11, TX11, 59)) [.int p1] hf (fun u hu => mX11_beginBill_62 l D b ids hI N _ p1 hu) gX11_bill_X11_beginBill rfl rfl rfl hdX11_beginBill ⟨Nat.le_of_ble_eq_true rfl, Nat.le_of_ble_eq_true rfl⟩ (fun u h => ((h.I (List.mem_of_getElem? (i := 2) rfl) _).L (List.mem_of_getElem? (i := 1) rfl) _)) rfl hl.1 rfl (Nat.le_of_ble_eq_true rfl) ⟨Nat.le_refl _, Nat.le_refl _⟩ dX11_bill_17 (fun o2 H locs hf w => ?_)
    refine lv_iconst (v := 0) C.1.1 C.1.2.1 dX11_bill_20 (by decide) ?_
    refine lv_istore_n (lv' := [(2, .int 0), (0, .ref (b 62)), (1, .int p1)]) C.1.1 C.1.2.1 dX11_bill_21 rfl hl (by decide) rfl (fun ls hl => ?_)
    exact wX11_bill_62_22 N hI C hr hlk N w (lv_sub hl [1, 2, 0] rfl) hf
  · refine lv_iconst (v := (-1)) C.1.1 C.1.2.1 dX11_bill_13 (by decide) ?_
    have he := Option.some.inj hf
    subst he
    exact ns_iret C w hr hlk rfl rfl dX11_bill_14
theorem lX10_line_30 : Cond.fieldLink RX10 30 (TX10 4).1 (TX10 4).2.1 (TX10 4).2.2.1 ∈ wsX10_line := List.mem_of_getElem? (i := 1) rfl
theorem lX10_line_50 : Cond.fieldLink RX10 50 (TX6 5).1 (TX6 5).2.1 (TX6 5).2.2.1 ∈ wsX10_line := List.mem_of_getElem? (i := 2) rfl
theorem lX10_line_63 : Cond.fieldLink RX10 63 (TX2 0).1 (TX2 0).2.1 (TX2 0).2.2.1 ∈ wsX10_line := List.mem_of_getElem? (i := 3) rfl
theorem inX10_line_2 : ∀ w ∈ u_ws RX2 TX2 8, w ∈ wsX10_line := fun _ h => List.mem_cons_of_mem _ (List.mem_append_left _ (List.mem_append_left _ (List.mem_append_left _ (List.mem_append_left _ (List.mem_append_right _ h)))))
theorem inX10_line_6 : ∀ w ∈ u_ws RX6 TX6 6, w ∈ wsX10_line := fun _ h => List.mem_cons_of_mem _ (List.mem_append_left _ (List.mem_append_left _ (List.mem_append_left _ (List.mem_append_left _ (List.mem_append_left _ (List.mem_append_right _ h))))))
theorem inX10_line_10 : ∀ w ∈ u_ws RX10 TX10 6, w ∈ wsX10_line := fun _ h => List.mem_cons_of_mem _ (List.mem_append_left _ (List.mem_append_left _ (List.mem_append_left _ (List.mem_append_left _ (List.mem_append_left _ (List.mem_append_left _ (List.mem_append_right _ h)))))))
theorem hdX10_line : yX10_line.cls = RX10 ∧ yX10_line.cls ≠ "java/lang/invoke/MethodHandle" ∧ yX10_line.cls ≠ "java/lang/invoke/VarHandle" ∧ (parseMethodDescriptor yX10_line.desc).map (fun d => d.parameters.length) = some 2 := by decide +kernel
abbrev wrX10_line_0 : List (Nat × Nat) := []
abbrev rmX10_line_0 : Room := { frames := 5, cells := 0, slots := 0, locals := 118 }
set_option maxHeartbeats 4000000 in
set_option maxRecDepth 100000 in
theorem mX10_line_0 (l : Launch) (D : va_G) (b : Nat → Nat) (ids : List Nat) (hI : ∀ i, i < 107 → i ∈ ids) (N : Nat) (S : ns_S) (p1 : Int32) (p2 : Int32) {o : Int32} (hf : fX10_line N (S.1 2368) (S.1 3392) (S.1 1984) (S.2.1 47) (S.2.1 36) (S.2.1 57) (S.2.1 58) (S.2.1 38) (S.2.1 39) (S.2.1 41) (S.2.1 42) (S.1 3072) (S.2.1 59) (S.2.1 60) (S.2.1 54) (S.2.1 55) (S.2.1 56) p1 p2 = some o) : ns_M l yX10_line wsX10_line rmX10_line_0 D b ids S [.ref (b 0), .int p1, .int p2] (some (.int o)) S := by
  refine ns_start (Wr := wrX10_line_0) (by decide) rfl (Nat.le_of_ble_eq_true rfl) ?_
  intro p e s m below meth c A ls C hr hlk w hl
  have hl : lv_has ls 3 [(0, .ref (b 0)), (1, .int p1), (2, .int p2)] := hl
  unfold fX10_line at hf
  refine lv_aload_n C.1.1 C.1.2.1 dX10_line_0 rfl (lv_at hl 0 rfl) ?_
  refine lv_iload_n C.1.1 C.1.2.1 dX10_line_1 rfl (lv_at hl 1 rfl) ?_
  refine ns_callV C w 0 (hI 0 (by decide)) sh_0 (rfl : vwCl[10]? = some (RX10, TX10, 6)) [.int p1] hf (fun u hu => mX10_isPupil_0 l D b ids hI N _ p1 hu) gX10_line_X10_isPupil rfl rfl rfl hdX10_isPupil ⟨Nat.le_of_ble_eq_true rfl, Nat.le_of_ble_eq_true rfl⟩ (fun u h => h) rfl hl.1 rfl (Nat.le_of_ble_eq_true rfl) ⟨Nat.le_refl _, Nat.le_refl _⟩ dX10_line_2 (fun o1 H locs hf w => ?_)
  refine ns_if_eq C hf (tgt := 28) dX10_line_5 (by decide) (fun hf => ?_) (fun hf => ?_)
  · refine lv_ldc (v := (-2000000000)) C.1.1 C.1.2.1 C.1.2.2.2.1 (C.1.2.2.2.2 (.constant RX10 243 (-2000000000)) (List.mem_of_getElem? (i := 4) rfl)) dX10_line_28 ?_
    have he := Option.some.inj hf
    subst he
    exact ns_iret C w hr hlk rfl rfl dX10_line_30
  · refine lv_iload_n C.1.1 C.1.2.1 dX10_line_8 rfl (lv_at hl 2 rfl) ?_
    refine lv_iconst (v := 0) C.1.1 C.1.2.1 dX10_line_9 (by decide) ?_
    refine lv_aload_n C.1.1 C.1.2.1 dX10_line_10 rfl (lv_at hl 0 rfl) ?_
    refine ns_getr C w 0 (hI 0 (by decide)) sh_0 (rfl : vwCl[10]? = some (RX10, TX10, 6)) inX10_line_10 4 (by decide) rfl lX10_line_30 dX10_line_11 ?_
    refine ns_getr C w 28 (hI 28 (by decide)) sh_28 (rfl : vwCl[6]? = some (RX6, TX6, 6)) inX10_line_6 5 (by decide) rfl lX10_line_50 dX10_line_14 ?_
    refine ns_geti C w 53 (hI 53 (by decide)) sh_53 (rfl : vwCl[2]? = some (RX2, TX2, 8)) inX10_line_2 0 (by decide) rfl lX10_line_63 (S.1 3392) rfl dX10_line_17 ?_
    refine lv_iconst (v := 1) C.1.1 C.1.2.1 dX10_line_20 (by decide) ?_
    refine lv_isub C.1.1 C.1.2.1 dX10_line_21 ?_
    refine ns_callS C w [.int p2, .int 0, .int ((S.1 3392) - 1)] hf (fun u hu => mX10_isWithin l D b ids hI N _ p2 0 ((S.1 3392) - 1) hu) gX10_line_X10_isWithin rfl rfl rfl hdX10_isWithin ⟨Nat.le_of_ble_eq_true rfl, Nat.le_of_ble_eq_true rfl⟩ (fun u h => h) rfl hl.1 rfl (Nat.le_of_ble_eq_true rfl) ⟨Nat.le_refl _, Nat.le_refl _⟩ dX10_line_22 (fun o2 H locs hf w => ?_)
    refine ns_if_ne C hf (tgt := 31) dX10_line_25 (by decide) (fun hf => ?_) (fun hf => ?_)
    · refine lv_aload_n C.1.1 C.1.2.1 dX10_line_31 rfl (lv_at hl 0 rfl) ?_
      refine ns_getr C w 0 (hI 0 (by decide)) sh_0 (rfl : vwCl[10]? = some (RX10, TX10, 6)) inX10_line_10 4 (by decide) rfl lX10_line_30 dX10_line_32 ?_
      refine lv_iload_n C.1.1 C.1.2.1 dX10_line_35 rfl (lv_at hl 1 rfl) ?_
      refine lv_iload_n C.1.1 C.1.2.1 dX10_line_36 rfl (lv_at hl 2 rfl) ?_
      refine lv_iconst (v := 1) C.1.1 C.1.2.1 dX10_line_37 (by decide) ?_
      refine lv_iadd C.1.1 C.1.2.1 dX10_line_38 ?_
      refine ns_callV C w 28 (hI 28 (by decide)) sh_28 (rfl : vwCl[6]? = some (RX6, TX6, 6)) [.int p1, .int (p2 + 1)] hf (fun u hu => mX6_sumBehind_28 l D b ids hI N _ p1 (p2 + 1) hu) gX10_line_X6_sumBehind rfl rfl rfl hdX6_sumBehind ⟨Nat.le_of_ble_eq_true rfl, Nat.le_of_ble_eq_true rfl⟩ (fun u h => h) rfl hl.1 rfl (Nat.le_of_ble_eq_true rfl) ⟨Nat.le_refl _, Nat.le_refl _⟩ dX10_line_39 (fun o3 H locs hf w => ?_)
      refine lv_aload_n C.1.1 C.1.2.1 dX10_line_42 rfl (lv_at hl 0 rfl) ?_
      refine ns_getr C w 0 (hI 0 (by decide)) sh_0 (rfl : vwCl[10]? = some (RX10, TX10, 6)) inX10_line_10 4 (by decide) rfl lX10_line_30 dX10_line_43 ?_
      refine lv_iload_n C.1.1 C.1.2.1 dX10_line_46 rfl (lv_at hl 1 rfl) ?_
      refine lv_iload_n C.1.1 C.1.2.1 dX10_line_47 rfl (lv_at hl 2 rfl) ?_
      refine ns_callV C w 28 (hI 28 (by decide)) sh_28 (rfl : vwCl[6]? = some (RX6, TX6, 6)) [.int p1, .int p2] hf (fun u hu => mX6_sumBehind_28 l D b ids hI N _ p1 p2 hu) gX10_line_X6_sumBehind rfl rfl rfl hdX6_sumBehind ⟨Nat.le_of_ble_eq_true rfl, Nat.le_of_ble_eq_true rfl⟩ (fun u h => h) rfl hl.1 rfl (Nat.le_of_ble_eq_true rfl) ⟨Nat.le_refl _, Nat.le_refl _⟩ dX10_line_48 (fun o4 H locs hf w => ?_)
      refine lv_isub C.1.1 C.1.2.1 dX10_line_51 ?_
      have he := Option.some.inj hf
      subst he
      exact ns_iret C w hr hlk rfl rfl dX10_line_52
    · refine lv_ldc (v := (-2000000000)) C.1.1 C.1.2.1 C.1.2.2.2.1 (C.1.2.2.2.2 (.constant RX10 243 (-2000000000)) (List.mem_of_getElem? (i := 4) rfl)) dX10_line_28 ?_
      have he := Option.some.inj hf
      subst he
      exact ns_iret C w hr hlk rfl rfl dX10_line_30
theorem lX11_line_87 : Cond.fieldLink RX11 87 (TX11 27).1 (TX11 27).2.1 (TX11 27).2.2.1 ∈ wsX11_line := List.mem_of_getElem? (i := 2) rfl
theorem lX11_line_179 : Cond.fieldLink RX11 179 (TX11 0).1 (TX11 0).2.1 (TX11 0).2.2.1 ∈ wsX11_line := List.mem_of_getElem? (i := 1) rfl
theorem lX11_line_319 : Cond.fieldLink RX11 319 (TX11 56).1 (TX11 56).2.1 (TX11 56).2.2.1 ∈ wsX11_line := List.mem_of_getElem? (i := 4) rfl
theorem inX11_line_11 : ∀ w ∈ u_ws RX11 TX11 59, w ∈ wsX11_line := fun _ h => List.mem_cons_of_mem _ (List.mem_append_right _ h)
theorem hdX11_line : yX11_line.cls = RX11 ∧ yX11_line.cls ≠ "java/lang/invoke/MethodHandle" ∧ yX11_line.cls ≠ "java/lang/invoke/VarHandle" ∧ (parseMethodDescriptor yX11_line.desc).map (fun d => d.parameters.length) = some 2 := by decide +kernel
abbrev wrX11_line_62 : List (Nat × Nat) := [(0, 3968), (2, 4024), (0, 4025)]
abbrev rmX11_line_62 : Room := { frames := 4, cells := 0, slots := 0, locals := 97 }
set_option maxHeartbeats 4000000 in
set_option maxRecDepth 100000 in
theorem wX11_line_62_46 {p : Program} {l : Launch} {e : Env} {s : State} {m : MethodId} {args : Array Value} {below : List Frame} {meth : Method} {c : Code} {D : va_G} {b : Nat → Nat} {ids : List Nat} {A : Nat → Prop} {S0 : ns_S} {o : Int32 × Int32 × Int64 × Int32} (N : Nat) (hI : ∀ i, i < 107 → i ∈ ids) (C : ns_C p m c cX11_line 6 s args wsX11_line RX11 D A) (hr : meth.sig.returnType = some .int) (hlk : meth.locks = false) : ∀ n : Nat, ∀ {S : ns_S} {H : Heap} {locs : List Loc} {ls : Array Slot} {l1 : Int32} {l2 : Int32} {l3 : Int64} {l5 : Int32}, ns_W D b ids A s.heap wrX11_line_62 S0 S H locs → lv_has ls 6 [(0, .ref (b 62)), (1, .int l1), (2, .int l2), (3, .long l3), (5, .int l5)] → fX11_line_46 N n (S.1 3968) (S.2.1 73) (S.2.1 88) (S.2.2.1 4024) (S.1 4025) (S.2.1 67) (S.2.1 84) (S.2.1 72) (S.2.1 89) (S.2.1 90) (S.2.1 74) (S.2.1 75) (S.2.1 77) (S.2.1 78) (S.2.1 79) (S.2.1 92) (S.2.1 91) (S.2.1 94) (S.2.1 93) (S.2.1 95) l1 l2 l3 l5 = some o → W p l e rmX11_line_62 s m args below meth c H locs 0 0 (MQ below (ns_Q D b ids (ns_I (ns_L (ns_I S0 4025 o.2.2.2) 4024 o.2.2.1) 3968 o.2.1) (some (.int o.1)) A) args s 0 0 A) (F0 m 46 ls []) := by
  intro n
  induction n with
  | zero =>
    intro S H locs ls l1 l2 l3 l5 w hl hf
    cases hf
  | succ n K46 =>
    intro S H locs ls l1 l2 l3 l5 w hl hf
    change gX11_line_46 N (fX11_line_46 N n) (S.1 3968) (S.2.1 73) (S.2.1 88) (S.2.2.1 4024) (S.1 4025) (S.2.1 67) (S.2.1 84) (S.2.1 72) (S.2.1 89) (S.2.1 90) (S.2.1 74) (S.2.1 75) (S.2.1 77) (S.2.1 78) (S.2.1 79) (S.2.1 92) (S.2.1 91) (S.2.1 94) (S.2.1 93) (S.2.1 95) l1 l2 l3 l5 = some o at hf
    generalize fX11_line_46 N n = r46 at hf K46
    unfold gX11_line_46 at hf
    refine lv_iload C.1.1 C.1.2.1 dX11_line_46 (lv_at hl 4 rfl) ?_
    refine lv_iload_n C.1.1 C.1.2.1 dX11_line_48 rfl (lv_at hl 2 rfl) ?_
    refine ns_icmp_gt C hf (tgt := 70) dX11_line_49 (by decide) (fun hf => ?_) (fun hf => ?_)
    · refine lv_aload_n C.1.1 C.1.2.1 dX11_line_70 rfl (lv_at hl 0 rfl) ?_
      refine ns_getl C w 62 (hI 62 (by decide)) sh_62 (rfl : vwCl[11]? = some (RX11, TX11, 59)) inX11_line_11 56 (by decide) rfl lX11_line_319 (S.2.2.1 4024) rfl dX11_line_71 ?_
      refine lv_lload_n C.1.1 C.1.2.1 dX11_line_74 rfl (lv_at hl 3 rfl) ?_
      refine lv_lsub C.1.1 C.1.2.1 dX11_line_75 ?_
      refine lv_l2i (v := ((S.2.2.1 4024) - l3).toInt32) C.1.1 C.1.2.1 dX11_line_76 rfl ?_
      have he := Option.some.inj hf
      subst he
      exact ns_iret C w hr hlk rfl rfl dX11_line_77
    · refine lv_aload_n C.1.1 C.1.2.1 dX11_line_52 rfl (lv_at hl 0 rfl) ?_
      refine ns_getl C w 62 (hI 62 (by decide)) sh_62 (rfl : vwCl[11]? = some (RX11, TX11, 59)) inX11_line_11 56 (by decide) rfl lX11_line_319 (S.2.2.1 4024) rfl dX11_line_53 ?_
      refine lv_lstore_n (lv' := [(3, .long (S.2.2.1 4024)), (0, .ref (b 62)), (1, .int l1), (2, .int l2), (5, .int l5)]) C.1.1 C.1.2.1 dX11_line_56 rfl hl (by decide) rfl (fun ls hl => ?_)
      refine lv_aload_n C.1.1 C.1.2.1 dX11_line_57 rfl (lv_at hl 1 rfl) ?_
      refine lv_iload_n C.1.1 C.1.2.1 dX11_line_58 rfl (lv_at hl 2 rfl) ?_
      refine lv_iload C.1.1 C.1.2.1 dX11_line_59 (lv_at hl 4 rfl) ?_
      refine ns_callV C w 62 (hI 62 (by decide)) sh_62 (rfl : vwCl[11]? = some (RX11, TX11, 59)) [.int l1, .int l5] hf (fun u hu => mX11_bills_62 l D b ids hI N _ l1 l5 hu) gX11_line_X11_bills rfl rfl rfl hdX11_bills ⟨Nat.le_of_ble_eq_true rfl, Nat.le_of_ble_eq_true rfl⟩ (fun u h => ((h.I (List.mem_of_getElem? (i := 2) rfl) _).L (List.mem_of_getElem? (i := 1) rfl) _)) rfl hl.1 rfl (Nat.le_of_ble_eq_true rfl) ⟨Nat.le_refl _, Nat.le_refl _⟩ dX11_line_61 (fun o1 H locs hf w => ?_)
      refine ns_iinc (lv' := fun x2 => [(5, .int x2), (3, .long (S.2.2.1 4024)), (0, .ref (b 62)), (1, .int l1), (2, .int l2)]) C hf dX11_line_64 hl (k := 4) rfl rfl (by decide) (fun _ => rfl) (fun x2 ls hl hf => ?_)
      refine lv_goto (tgt := 46) C.1.1 C.1.2.1 dX11_line_67 (by decide) ?_
      exact K46 w (lv_sub hl [2, 3, 4, 1, 0] rfl) hf
set_option maxHeartbeats 4000000 in
set_option maxRecDepth 100000 in
theorem mX11_line_62 (l : Launch) (D : va_G) (b : Nat → Nat) (ids : List Nat) (hI : ∀ i, i < 107 → i ∈ ids) (N : Nat) (S : ns_S) (p1 : Int32) (p2 : Int32) {o : Int32 × Int32 × Int64 × Int32} (hf : fX11_line N (S.1 3968) (S.2.1 73) (S.2.1 88) (S.2.2.1 4024) (S.1 4025) (S.2.1 67) (S.2.1 84) (S.2.1 72) (S.2.1 89) (S.2.1 90) (S.2.1 74) (S.2.1 75) (S.2.1 77) (S.2.1 78) (S.2.1 79) (S.2.1 92) (S.2.1 91) (S.2.1 94) (S.2.1 93) (S.2.1 95) p1 p2 = some o) : ns_M l yX11_line wsX11_line rmX11_line_62 D b ids S [.ref (b 62), .int p1, .int p2] (some (.int o.1)) (ns_I (ns_L (ns_I S 4025 o.2.2.2) 4024 o.2.2.1) 3968 o.2.1) := by
  refine ns_start (Wr := wrX11_line_62) (by decide) rfl (Nat.le_of_ble_eq_true rfl) ?_
  intro p e s m below meth c A ls C hr hlk w hl
  have hl : lv_has ls 6 [(0, .ref (b 62)), (1, .int p1), (2, .int p2)] := hl
  unfold fX11_line at hf
  refine lv_aload_n C.1.1 C.1.2.1 dX11_line_0 rfl (lv_at hl 0 rfl) ?_
  refine lv_iconst (v := 0) C.1.1 C.1.2.1 dX11_line_1 (by decide) ?_
  refine ns_puti C w 62 (hI 62 (by decide)) sh_62 (rfl : vwCl[11]? = some (RX11, TX11, 59)) inX11_line_11 tyX11_ok nmX11 0 (by decide) rfl lX11_line_179 rfl rfl rfl (List.mem_of_getElem? (i := 0) rfl) dX11_line_2 (fun H locs w => ?_)
  refine lv_aload_n C.1.1 C.1.2.1 dX11_line_5 rfl (lv_at hl 0 rfl) ?_
  refine lv_iload_n C.1.1 C.1.2.1 dX11_line_6 rfl (lv_at hl 1 rfl) ?_
  refine ns_callV C w 62 (hI 62 (by decide)) sh_62 (rfl : vwCl[11]? = some (RX11, TX11, 59)) [.int p1] hf (fun u hu => mX11_isPupil_62 l D b ids hI N _ p1 hu) gX11_line_X11_isPupil rfl rfl rfl hdX11_isPupil ⟨Nat.le_of_ble_eq_true rfl, Nat.le_of_ble_eq_true rfl⟩ (fun u h => h) rfl hl.1 rfl (Nat.le_of_ble_eq_true rfl) ⟨Nat.le_refl _, Nat.le_refl _⟩ dX11_line_7 (fun o1 H locs hf w => ?_)
  refine ns_if_eq C hf (tgt := 29) dX11_line_10 (by decide) (fun hf => ?_) (fun hf => ?_)
  · refine lv_ldcw (v := (-2000000000)) C.1.1 C.1.2.1 C.1.2.2.2.1 (C.1.2.2.2.2 (.constant RX11 342 (-2000000000)) (List.mem_of_getElem? (i := 3) rfl)) dX11_line_29 ?_
    have he := Option.some.inj hf
    subst he
    exact ns_iret C w hr hlk rfl rfl dX11_line_32
  · refine lv_iload_n C.1.1 C.1.2.1 dX11_line_13 rfl (lv_at hl 2 rfl) ?_
    refine lv_iconst (v := 0) C.1.1 C.1.2.1 dX11_line_14 (by decide) ?_
    refine lv_aload_n C.1.1 C.1.2.1 dX11_line_15 rfl (lv_at hl 0 rfl) ?_
    refine ns_getr C w 62 (hI 62 (by decide)) sh_62 (rfl : vwCl[11]? = some (RX11, TX11, 59)) inX11_line_11 27 (by decide) rfl lX11_line_87 dX11_line_16 ?_
    refine lv_iconst (v := 0) C.1.1 C.1.2.1 dX11_line_19 (by decide) ?_
    refine ns_iald C w 88 (hI 88 (by decide)) sh_88 hf rfl dX11_line_20 (fun x2 hf => ?_)
    refine lv_iconst (v := 1) C.1.1 C.1.2.1 dX11_line_21 (by decide) ?_
    refine lv_isub C.1.1 C.1.2.1 dX11_line_22 ?_
    refine ns_callS C w [.int p2, .int 0, .int (x2 - 1)] hf (fun u hu => mX11_in l D b ids hI N _ p2 0 (x2 - 1) hu) gX11_line_X11_in rfl rfl rfl hdX11_in ⟨Nat.le_of_ble_eq_true rfl, Nat.le_of_ble_eq_true rfl⟩ (fun u h => h) rfl hl.1 rfl (Nat.le_of_ble_eq_true rfl) ⟨Nat.le_refl _, Nat.le_refl _⟩ dX11_line_23 (fun o3 H locs hf w => ?_)
    refine ns_if_ne C hf (tgt := 33) dX11_line_26 (by decide) (fun hf => ?_) (fun hf => ?_)
    · refine lv_aload_n C.1.1 C.1.2.1 dX11_line_33 rfl (lv_at hl 0 rfl) ?_
      refine lv_iload_n C.1.1 C.1.2.1 dX11_line_34 rfl (lv_at hl 1 rfl) ?_
      refine ns_callV C w 62 (hI 62 (by decide)) sh_62 (rfl : vwCl[11]? = some (RX11, TX11, 59)) [.int p1] hf (fun u hu => mX11_beginBill_62 l D b ids hI N _ p1 hu) gX11_line_X11_beginBill rfl rfl rfl hdX11_beginBill ⟨Nat.le_of_ble_eq_true rfl, Nat.le_of_ble_eq_true rfl⟩ (fun u h => ((h.I (List.mem_of_getElem? (i := 2) rfl) _).L (List.mem_of_getElem? (i := 1) rfl) _)) rfl hl.1 rfl (Nat.le_of_ble_eq_true rfl) ⟨Nat.le_refl _, Nat.le_refl _⟩ dX11_line_35 (fun o4 H locs hf w => ?_)
      refine lv_aload_n C.1.1 C.1.2.1 dX11_line_38 rfl (lv_at hl 0 rfl) ?_
      refine ns_getl C w 62 (hI 62 (by decide)) sh_62 (rfl : vwCl[11]? = some (RX11, TX11, 59)) inX11_line_11 56 (by decide) rfl lX11_line_319 (o4.1) rfl dX11_line_39 ?_
      refine lv_lstore_n (lv' := [(3, .long o4.1), (0, .ref (b 62)), (1, .int p1), (2, .int p2)]) C.1.1 C.1.2.1 dX11_line_42 rfl hl (by decide) rfl (fun ls hl => ?_)
      refine lv_iconst (v := 0) C.1.1 C.1.2.1 dX11_line_43 (by decide) ?_
      refine lv_istore (lv' := [(5, .int 0), (3, .long o4.1), (0, .ref (b 62)), (1, .int p1), (2, .int p2)]) C.1.1 C.1.2.1 dX11_line_44 hl (by decide) rfl (fun ls hl => ?_)
      exact wX11_line_62_46 N hI C hr hlk N w (lv_sub hl [2, 3, 4, 1, 0] rfl) hf
    · refine lv_ldcw (v := (-2000000000)) C.1.1 C.1.2.1 C.1.2.2.2.1 (C.1.2.2.2.2 (.constant RX11 342 (-2000000000)) (List.mem_of_getElem? (i := 3) rfl)) dX11_line_29 ?_
      have he := Option.some.inj hf
      subst he
      exact ns_iret C w hr hlk rfl rfl dX11_line_32
theorem lX6_placesHad_21 : Cond.fieldLink RX6 21 (TX6 1).1 (TX6 1).2.1 (TX6 1).2.2.1 ∈ wsX6_placesHad := List.mem_of_getElem? (i := 1) rfl
theorem lX6_placesHad_35 : Cond.fieldLink RX6 35 (TX6 3).1 (TX6 3).2.1 (TX6 3).2.2.1 ∈ wsX6_placesHad := List.mem_of_getElem? (i := 3) rfl
theorem lX6_placesHad_72 : Cond.fieldLink RX6 72 (TX0 0).1 (TX0 0).2.1 (TX0 0).2.2.1 ∈ wsX6_placesHad := List.mem_of_getElem? (i := 2) rfl
theorem lX6_placesHad_142 : Cond.fieldLink RX6 142 (TX7 3).1 (TX7 3).2.1 (TX7 3).2.2.1 ∈ wsX6_placesHad := List.mem_of_getElem? (i := 4) rfl
theorem inX6_placesHad_0 : ∀ w ∈ u_ws RX0 TX0 6, w ∈ wsX6_placesHad := fun _ h => List.mem_cons_of_mem _ (List.mem_append_left _ (List.mem_append_right _ h))
theorem inX6_placesHad_6 : ∀ w ∈ u_ws RX6 TX6 6, w ∈ wsX6_placesHad := fun _ h => List.mem_cons_of_mem _ (List.mem_append_left _ (List.mem_append_left _ (List.mem_append_right _ h)))
theorem inX6_placesHad_7 : ∀ w ∈ u_ws RX7 TX7 5, w ∈ wsX6_placesHad := fun _ h => List.mem_cons_of_mem _ (List.mem_append_right _ h)
theorem hdX6_placesHad : yX6_placesHad.cls = RX6 ∧ yX6_placesHad.cls ≠ "java/lang/invoke/MethodHandle" ∧ yX6_placesHad.cls ≠ "java/lang/invoke/VarHandle" ∧ (parseMethodDescriptor yX6_placesHad.desc).map (fun d => d.parameters.length) = some 0 := by decide +kernel
abbrev wrX6_placesHad_28 : List (Nat × Nat) := []
abbrev rmX6_placesHad_28 : Room := { frames := 0, cells := 0, slots := 0, locals := 0 }
set_option maxHeartbeats 4000000 in
set_option maxRecDepth 100000 in
theorem wX6_placesHad_28_4 {p : Program} {l : Launch} {e : Env} {s : State} {m : MethodId} {args : Array Value} {below : List Frame} {meth : Method} {c : Code} {D : va_G} {b : Nat → Nat} {ids : List Nat} {A : Nat → Prop} {S0 : ns_S} {o : Int32} (N : Nat) (hI : ∀ i, i < 107 → i ∈ ids) (C : ns_C p m c cX6_placesHad 3 s args wsX6_placesHad RX6 D A) (hr : meth.sig.returnType = some .int) (hlk : meth.locks = false) : ∀ n : Nat, ∀ {S : ns_S} {H : Heap} {locs : List Loc} {ls : Array Slot} {l1 : Int32} {l2 : Int32}, ns_W D b ids A s.heap wrX6_placesHad_28 S0 S H locs → lv_has ls 3 [(0, .ref (b 28)), (1, .int l1), (2, .int l2)] → fX6_placesHad_4 N n (S.1 1984) (S.2.1 46) l1 l2 = some o → W p l e rmX6_placesHad_28 s m args below meth c H locs 0 0 (MQ below (ns_Q D b ids S0 (some (.int o)) A) args s 0 0 A) (F0 m 4 ls []) := by
  intro n
  induction n with
  | zero =>
    intro S H locs ls l1 l2 w hl hf
    cases hf
  | succ n K4 =>
    intro S H locs ls l1 l2 w hl hf
    change gX6_placesHad_4 N (fX6_placesHad_4 N n) (S.1 1984) (S.2.1 46) l1 l2 = some o at hf
    generalize fX6_placesHad_4 N n = r4 at hf K4
    unfold gX6_placesHad_4 at hf
    refine lv_iload_n C.1.1 C.1.2.1 dX6_placesHad_4 rfl (lv_at hl 2 rfl) ?_
    refine lv_aload_n C.1.1 C.1.2.1 dX6_placesHad_5 rfl (lv_at hl 0 rfl) ?_
    refine ns_getr C w 28 (hI 28 (by decide)) sh_28 (rfl : vwCl[6]? = some (RX6, TX6, 6)) inX6_placesHad_6 1 (by decide) rfl lX6_placesHad_21 dX6_placesHad_6 ?_
    refine ns_geti C w 31 (hI 31 (by decide)) sh_31 (rfl : vwCl[0]? = some (RX0, TX0, 6)) inX6_placesHad_0 0 (by decide) rfl lX6_placesHad_72 (S.1 1984) rfl dX6_placesHad_9 ?_
    refine ns_icmp_ge C hf (tgt := 33) dX6_placesHad_12 (by decide) (fun hf => ?_) (fun hf => ?_)
    · refine lv_iload_n C.1.1 C.1.2.1 dX6_placesHad_33 rfl (lv_at hl 1 rfl) ?_
      have he := Option.some.inj hf
      subst he
      exact ns_iret C w hr hlk rfl rfl dX6_placesHad_34
    · refine lv_iload_n C.1.1 C.1.2.1 dX6_placesHad_15 rfl (lv_at hl 1 rfl) ?_
      refine lv_aload_n C.1.1 C.1.2.1 dX6_placesHad_16 rfl (lv_at hl 0 rfl) ?_
      refine ns_getr C w 28 (hI 28 (by decide)) sh_28 (rfl : vwCl[6]? = some (RX6, TX6, 6)) inX6_placesHad_6 3 (by decide) rfl lX6_placesHad_35 dX6_placesHad_17 ?_
      refine ns_getr C w 43 (hI 43 (by decide)) sh_43 (rfl : vwCl[7]? = some (RX7, TX7, 5)) inX6_placesHad_7 3 (by decide) rfl lX6_placesHad_142 dX6_placesHad_20 ?_
      refine lv_iload_n C.1.1 C.1.2.1 dX6_placesHad_23 rfl (lv_at hl 2 rfl) ?_
      refine ns_iald C w 46 (hI 46 (by decide)) sh_46 hf rfl dX6_placesHad_24 (fun x1 hf => ?_)
      refine lv_iadd C.1.1 C.1.2.1 dX6_placesHad_25 ?_
      refine ns_namei hf (fun x2 hf => ?_)
      refine lv_istore_n (lv' := [(1, .int x2), (0, .ref (b 28)), (2, .int l2)]) C.1.1 C.1.2.1 dX6_placesHad_26 rfl hl (by decide) rfl (fun ls hl => ?_)
      refine ns_iinc (lv' := fun x3 => [(2, .int x3), (1, .int x2), (0, .ref (b 28))]) C hf dX6_placesHad_27 hl (k := 2) rfl rfl (by decide) (fun _ => rfl) (fun x3 ls hl hf => ?_)
      refine lv_goto (tgt := 4) C.1.1 C.1.2.1 dX6_placesHad_30 (by decide) ?_
      exact K4 w (lv_sub hl [2, 1, 0] rfl) hf
set_option maxHeartbeats 4000000 in
set_option maxRecDepth 100000 in
theorem mX6_placesHad_28 (l : Launch) (D : va_G) (b : Nat → Nat) (ids : List Nat) (hI : ∀ i, i < 107 → i ∈ ids) (N : Nat) (S : ns_S) {o : Int32} (hf : fX6_placesHad N (S.1 1984) (S.2.1 46) = some o) : ns_M l yX6_placesHad wsX6_placesHad rmX6_placesHad_28 D b ids S [.ref (b 28)] (some (.int o)) S := by
  refine ns_start (Wr := wrX6_placesHad_28) (by decide) rfl (Nat.le_of_ble_eq_true rfl) ?_
  intro p e s m below meth c A ls C hr hlk w hl
  have hl : lv_has ls 3 [(0, .ref (b 28))] := hl
  unfold fX6_placesHad at hf
  refine lv_iconst (v := 0) C.1.1 C.1.2.1 dX6_placesHad_0 (by decide) ?_
  refine lv_istore_n (lv' := [(1, .int 0), (0, .ref (b 28))]) C.1.1 C.1.2.1 dX6_placesHad_1 rfl hl (by decide) rfl (fun ls hl => ?_)
  refine lv_iconst (v := 0) C.1.1 C.1.2.1 dX6_placesHad_2 (by decide) ?_
  refine lv_istore_n (lv' := [(2, .int 0), (1, .int 0), (0, .ref (b 28))]) C.1.1 C.1.2.1 dX6_placesHad_3 rfl hl (by decide) rfl (fun ls hl => ?_)
  exact wX6_placesHad_28_4 N hI C hr hlk N w (lv_sub hl [2, 1, 0] rfl) hf
theorem lX6_pointsInAll_28 : Cond.fieldLink RX6 28 (TX6 2).1 (TX6 2).2.1 (TX6 2).2.2.1 ∈ wsX6_pointsInAll := List.mem_of_getElem? (i := 1) rfl
theorem lX6_pointsInAll_106 : Cond.fieldLink RX6 106 (TX4 0).1 (TX4 0).2.1 (TX4 0).2.2.1 ∈ wsX6_pointsInAll := List.mem_of_getElem? (i := 2) rfl
theorem inX6_pointsInAll_4 : ∀ w ∈ u_ws RX4 TX4 6, w ∈ wsX6_pointsInAll := fun _ h => List.mem_cons_of_mem _ (List.mem_append_left _ (List.mem_append_right _ h))
theorem inX6_pointsInAll_6 : ∀ w ∈ u_ws RX6 TX6 6, w ∈ wsX6_pointsInAll := fun _ h => List.mem_cons_of_mem _ (List.mem_append_left _ (List.mem_append_left _ (List.mem_append_right _ h)))
theorem hdX6_pointsInAll : yX6_pointsInAll.cls = RX6 ∧ yX6_pointsInAll.cls ≠ "java/lang/invoke/MethodHandle" ∧ yX6_pointsInAll.cls ≠ "java/lang/invoke/VarHandle" ∧ (parseMethodDescriptor yX6_pointsInAll.desc).map (fun d => d.parameters.length) = some 0 := by decide +kernel
abbrev wrX6_pointsInAll_28 : List (Nat × Nat) := []
abbrev rmX6_pointsInAll_28 : Room := { frames := 2, cells := 0, slots := 0, locals := 45 }
set_option maxHeartbeats 4000000 in
set_option maxRecDepth 100000 in
theorem wX6_pointsInAll_28_4 {p : Program} {l : Launch} {e : Env} {s : State} {m : MethodId} {args : Array Value} {below : List Frame} {meth : Method} {c : Code} {D : va_G} {b : Nat → Nat} {ids : List Nat} {A : Nat → Prop} {S0 : ns_S} {o : Int32} (N : Nat) (hI : ∀ i, i < 107 → i ∈ ids) (C : ns_C p m c cX6_pointsInAll 3 s args wsX6_pointsInAll RX6 D A) (hr : meth.sig.returnType = some .int) (hlk : meth.locks = false) : ∀ n : Nat, ∀ {S : ns_S} {H : Heap} {locs : List Loc} {ls : Array Slot} {l1 : Int32} {l2 : Int32}, ns_W D b ids A s.heap wrX6_pointsInAll_28 S0 S H locs → lv_has ls 3 [(0, .ref (b 28)), (1, .int l1), (2, .int l2)] → fX6_pointsInAll_4 N n (S.1 2368) (S.2.1 41) (S.2.1 42) (S.2.1 47) l1 l2 = some o → W p l e rmX6_pointsInAll_28 s m args below meth c H locs 0 0 (MQ below (ns_Q D b ids S0 (some (.int o)) A) args s 0 0 A) (F0 m 4 ls []) := by
  intro n
  induction n with
  | zero =>
    intro S H locs ls l1 l2 w hl hf
    cases hf
  | succ n K4 =>
    intro S H locs ls l1 l2 w hl hf
    change gX6_pointsInAll_4 N (fX6_pointsInAll_4 N n) (S.1 2368) (S.2.1 41) (S.2.1 42) (S.2.1 47) l1 l2 = some o at hf
    generalize fX6_pointsInAll_4 N n = r4 at hf K4
    unfold gX6_pointsInAll_4 at hf
    refine lv_iload_n C.1.1 C.1.2.1 dX6_pointsInAll_4 rfl (lv_at hl 2 rfl) ?_
    refine lv_aload_n C.1.1 C.1.2.1 dX6_pointsInAll_5 rfl (lv_at hl 0 rfl) ?_
    refine ns_getr C w 28 (hI 28 (by decide)) sh_28 (rfl : vwCl[6]? = some (RX6, TX6, 6)) inX6_pointsInAll_6 2 (by decide) rfl lX6_pointsInAll_28 dX6_pointsInAll_6 ?_
    refine ns_geti C w 37 (hI 37 (by decide)) sh_37 (rfl : vwCl[4]? = some (RX4, TX4, 6)) inX6_pointsInAll_4 0 (by decide) rfl lX6_pointsInAll_106 (S.1 2368) rfl dX6_pointsInAll_9 ?_
    refine ns_icmp_ge C hf (tgt := 29) dX6_pointsInAll_12 (by decide) (fun hf => ?_) (fun hf => ?_)
    · refine lv_iload_n C.1.1 C.1.2.1 dX6_pointsInAll_29 rfl (lv_at hl 1 rfl) ?_
      have he := Option.some.inj hf
      subst he
      exact ns_iret C w hr hlk rfl rfl dX6_pointsInAll_30
    · refine lv_iload_n C.1.1 C.1.2.1 dX6_pointsInAll_15 rfl (lv_at hl 1 rfl) ?_
      refine lv_aload_n C.1.1 C.1.2.1 dX6_pointsInAll_16 rfl (lv_at hl 0 rfl) ?_
      refine lv_iload_n C.1.1 C.1.2.1 dX6_pointsInAll_17 rfl (lv_at hl 2 rfl) ?_
      refine ns_callV C w 28 (hI 28 (by decide)) sh_28 (rfl : vwCl[6]? = some (RX6, TX6, 6)) [.int l2] hf (fun u hu => mX6_pointsOf_28 l D b ids hI N _ l2 hu) gX6_pointsInAll_X6_pointsOf rfl rfl rfl hdX6_pointsOf ⟨Nat.le_of_ble_eq_true rfl, Nat.le_of_ble_eq_true rfl⟩ (fun u h => h) rfl hl.1 rfl (Nat.le_of_ble_eq_true rfl) ⟨Nat.le_refl _, Nat.le_refl _⟩ dX6_pointsInAll_18 (fun o1 H locs hf w => ?_)
      refine lv_iadd C.1.1 C.1.2.1 dX6_pointsInAll_21 ?_
      refine ns_namei hf (fun x2 hf => ?_)
      refine lv_istore_n (lv' := [(1, .int x2), (0, .ref (b 28)), (2, .int l2)]) C.1.1 C.1.2.1 dX6_pointsInAll_22 rfl hl (by decide) rfl (fun ls hl => ?_)
      refine ns_iinc (lv' := fun x3 => [(2, .int x3), (1, .int x2), (0, .ref (b 28))]) C hf dX6_pointsInAll_23 hl (k := 2) rfl rfl (by decide) (fun _ => rfl) (fun x3 ls hl hf => ?_)
      refine lv_goto (tgt := 4) C.1.1 C.1.2.1 dX6_pointsInAll_26 (by decide) ?_
      exact K4 w (lv_sub hl [2, 1, 0] rfl) hf
set_option maxHeartbeats 4000000 in
set_option maxRecDepth 100000 in
theorem mX6_pointsInAll_28 (l : Launch) (D : va_G) (b : Nat → Nat) (ids : List Nat) (hI : ∀ i, i < 107 → i ∈ ids) (N : Nat) (S : ns_S) {o : Int32} (hf : fX6_pointsInAll N (S.1 2368) (S.2.1 41) (S.2.1 42) (S.2.1 47) = some o) : ns_M l yX6_pointsInAll wsX6_pointsInAll rmX6_pointsInAll_28 D b ids S [.ref (b 28)] (some (.int o)) S := by
  refine ns_start (Wr := wrX6_pointsInAll_28) (by decide) rfl (Nat.le_of_ble_eq_true rfl) ?_
  intro p e s m below meth c A ls C hr hlk w hl
  have hl : lv_has ls 3 [(0, .ref (b 28))] := hl
  unfold fX6_pointsInAll at hf
  refine lv_iconst (v := 0) C.1.1 C.1.2.1 dX6_pointsInAll_0 (by decide) ?_
  refine lv_istore_n (lv' := [(1, .int 0), (0, .ref (b 28))]) C.1.1 C.1.2.1 dX6_pointsInAll_1 rfl hl (by decide) rfl (fun ls hl => ?_)
  refine lv_iconst (v := 0) C.1.1 C.1.2.1 dX6_pointsInAll_2 (by decide) ?_
  refine lv_istore_n (lv' := [(2, .int 0), (1, .int 0), (0, .ref (b 28))]) C.1.1 C.1.2.1 dX6_pointsInAll_3 rfl hl (by decide) rfl (fun ls hl => ?_)
  exact wX6_pointsInAll_28_4 N hI C hr hlk N w (lv_sub hl [2, 1, 0] rfl) hf
theorem lX10_count_30 : Cond.fieldLink RX10 30 (TX10 4).1 (TX10 4).2.1 (TX10 4).2.2.1 ∈ wsX10_count := List.mem_of_getElem? (i := 1) rfl
theorem lX10_count_50 : Cond.fieldLink RX10 50 (TX6 5).1 (TX6 5).2.1 (TX6 5).2.2.1 ∈ wsX10_count := List.mem_of_getElem? (i := 12) rfl
theorem lX10_count_63 : Cond.fieldLink RX10 63 (TX2 0).1 (TX2 0).2.1 (TX2 0).2.2.1 ∈ wsX10_count := List.mem_of_getElem? (i := 13) rfl
theorem lX10_count_72 : Cond.fieldLink RX10 72 (TX6 0).1 (TX6 0).2.1 (TX6 0).2.2.1 ∈ wsX10_count := List.mem_of_getElem? (i := 2) rfl
theorem lX10_count_76 : Cond.fieldLink RX10 76 (TX6 4).1 (TX6 4).2.1 (TX6 4).2.2.1 ∈ wsX10_count := List.mem_of_getElem? (i := 10) rfl
theorem lX10_count_86 : Cond.fieldLink RX10 86 (TX5 0).1 (TX5 0).2.1 (TX5 0).2.2.1 ∈ wsX10_count := List.mem_of_getElem? (i := 3) rfl
theorem lX10_count_97 : Cond.fieldLink RX10 97 (TX6 1).1 (TX6 1).2.1 (TX6 1).2.2.1 ∈ wsX10_count := List.mem_of_getElem? (i := 4) rfl
theorem lX10_count_101 : Cond.fieldLink RX10 101 (TX0 0).1 (TX0 0).2.1 (TX0 0).2.2.1 ∈ wsX10_count := List.mem_of_getElem? (i := 5) rfl
theorem lX10_count_119 : Cond.fieldLink RX10 119 (TX6 2).1 (TX6 2).2.1 (TX6 2).2.2.1 ∈ wsX10_count := List.mem_of_getElem? (i := 6) rfl
theorem lX10_count_123 : Cond.fieldLink RX10 123 (TX4 0).1 (TX4 0).2.1 (TX4 0).2.2.1 ∈ wsX10_count := List.mem_of_getElem? (i := 7) rfl
theorem lX10_count_165 : Cond.fieldLink RX10 165 (TX6 3).1 (TX6 3).2.1 (TX6 3).2.2.1 ∈ wsX10_count := List.mem_of_getElem? (i := 8) rfl
theorem lX10_count_180 : Cond.fieldLink RX10 180 (TX8 0).1 (TX8 0).2.1 (TX8 0).2.2.1 ∈ wsX10_count := List.mem_of_getElem? (i := 11) rfl
theorem lX10_count_244 : Cond.fieldLink RX10 244 (TX7 0).1 (TX7 0).2.1 (TX7 0).2.2.1 ∈ wsX10_count := List.mem_of_getElem? (i := 9) rfl
theorem lX10_count_259 : Cond.fieldLink RX10 259 (TX8 1).1 (TX8 1).2.1 (TX8 1).2.2.1 ∈ wsX10_count := List.mem_of_getElem? (i := 14) rfl
theorem inX10_count_0 : ∀ w ∈ u_ws RX0 TX0 6, w ∈ wsX10_count := fun _ h => List.mem_cons_of_mem _ (List.mem_append_left _ (List.mem_append_left _ (List.mem_append_left _ (List.mem_append_left _ (List.mem_append_right _ h)))))
theorem inX10_count_2 : ∀ w ∈ u_ws RX2 TX2 8, w ∈ wsX10_count := fun _ h => List.mem_cons_of_mem _ (List.mem_append_right _ h)
theorem inX10_count_4 : ∀ w ∈ u_ws RX4 TX4 6, w ∈ wsX10_count := fun _ h => List.mem_cons_of_mem _ (List.mem_append_left _ (List.mem_append_left _ (List.mem_append_left _ (List.mem_append_right _ h))))
theorem inX10_count_5 : ∀ w ∈ u_ws RX5 TX5 2, w ∈ wsX10_count := fun _ h => List.mem_cons_of_mem _ (List.mem_append_left _ (List.mem_append_left _ (List.mem_append_left _ (List.mem_append_left _ (List.mem_append_left _ (List.mem_append_right _ h))))))
theorem inX10_count_6 : ∀ w ∈ u_ws RX6 TX6 6, w ∈ wsX10_count := fun _ h => List.mem_cons_of_mem _ (List.mem_append_left _ (List.mem_append_left _ (List.mem_append_left _ (List.mem_append_left _ (List.mem_append_left _ (List.mem_append_left _ (List.mem_append_right _ h)))))))
theorem inX10_count_7 : ∀ w ∈ u_ws RX7 TX7 5, w ∈ wsX10_count := fun _ h => List.mem_cons_of_mem _ (List.mem_append_left _ (List.mem_append_left _ (List.mem_append_right _ h)))
theorem inX10_count_8 : ∀ w ∈ u_ws RX8 TX8 6, w ∈ wsX10_count := fun _ h => List.mem_cons_of_mem _ (List.mem_append_left _ (List.mem_append_right _ h))
theorem inX10_count_10 : ∀ w ∈ u_ws RX10 TX10 6, w ∈ wsX10_count := fun _ h => List.mem_cons_of_mem _ (List.mem_append_left _ (List.mem_append_left _ (List.mem_append_left _ (List.mem_append_left _ (List.mem_append_left _ (List.mem_append_left _ (List.mem_append_left _ (List.mem_append_right _ h))))))))
theorem hdX10_count : yX10_count.cls = RX10 ∧ yX10_count.cls ≠ "java/lang/invoke/MethodHandle" ∧ yX10_count.cls ≠ "java/lang/invoke/VarHandle" ∧ (parseMethodDescriptor yX10_count.desc).map (fun d => d.parameters.length) = some 1 := by decide +kernel
abbrev wrX10_count_0 : List (Nat × Nat) := []
abbrev rmX10_count_0 : Room := { frames := 3, cells := 0, slots := 0, locals := 67 }
set_option maxHeartbeats 4000000 in
set_option maxRecDepth 100000 in
theorem mX10_count_0 (l : Launch) (D : va_G) (b : Nat → Nat) (ids : List Nat) (hI : ∀ i, i < 107 → i ∈ ids) (N : Nat) (S : ns_S) (p1 : Int32) {o : Int32} (hf : fX10_count N (S.1 1856) (S.1 1984) (S.1 2368) (S.1 2752) (S.2.1 46) (S.2.1 41) (S.2.1 42) (S.2.1 47) (S.1 3072) (S.1 3392) (S.1 3073) p1 = some o) : ns_M l yX10_count wsX10_count rmX10_count_0 D b ids S [.ref (b 0), .int p1] (some (.int o)) S := by
  refine ns_start (Wr := wrX10_count_0) (by decide) rfl (Nat.le_of_ble_eq_true rfl) ?_
  intro p e s m below meth c A ls C hr hlk w hl
  have hl : lv_has ls 2 [(0, .ref (b 0)), (1, .int p1)] := hl
  unfold fX10_count at hf
  refine lv_iload_n C.1.1 C.1.2.1 dX10_count_0 rfl (lv_at hl 1 rfl) ?_
  by_cases h_0 : p1 = 0
  · rw [if_pos h_0] at hf
    refine lv_tableIn (tgt := 52) C.1.1 C.1.2.1 dX10_count_1 (by rw [h_0]; decide) (by rw [h_0]; decide) (by rw [h_0]; rfl) (by decide) ?_
    refine lv_aload_n C.1.1 C.1.2.1 dX10_count_52 rfl (lv_at hl 0 rfl) ?_
    refine ns_getr C w 0 (hI 0 (by decide)) sh_0 (rfl : vwCl[10]? = some (RX10, TX10, 6)) inX10_count_10 4 (by decide) rfl lX10_count_30 dX10_count_53 ?_
    refine ns_getr C w 28 (hI 28 (by decide)) sh_28 (rfl : vwCl[6]? = some (RX6, TX6, 6)) inX10_count_6 0 (by decide) rfl lX10_count_72 dX10_count_56 ?_
    refine ns_geti C w 29 (hI 29 (by decide)) sh_29 (rfl : vwCl[5]? = some (RX5, TX5, 2)) inX10_count_5 0 (by decide) rfl lX10_count_86 (S.1 1856) rfl dX10_count_59 ?_
    have he := Option.some.inj hf
    subst he
    exact ns_iret C w hr hlk rfl rfl dX10_count_62
  rw [if_neg h_0] at hf
  by_cases h_1 : p1 = 1
  · rw [if_pos h_1] at hf
    refine lv_tableIn (tgt := 63) C.1.1 C.1.2.1 dX10_count_1 (by rw [h_1]; decide) (by rw [h_1]; decide) (by rw [h_1]; rfl) (by decide) ?_
    refine lv_aload_n C.1.1 C.1.2.1 dX10_count_63 rfl (lv_at hl 0 rfl) ?_
    refine ns_getr C w 0 (hI 0 (by decide)) sh_0 (rfl : vwCl[10]? = some (RX10, TX10, 6)) inX10_count_10 4 (by decide) rfl lX10_count_30 dX10_count_64 ?_
    refine ns_getr C w 28 (hI 28 (by decide)) sh_28 (rfl : vwCl[6]? = some (RX6, TX6, 6)) inX10_count_6 1 (by decide) rfl lX10_count_97 dX10_count_67 ?_
    refine ns_geti C w 31 (hI 31 (by decide)) sh_31 (rfl : vwCl[0]? = some (RX0, TX0, 6)) inX10_count_0 0 (by decide) rfl lX10_count_101 (S.1 1984) rfl dX10_count_70 ?_
    have he := Option.some.inj hf
    subst he
    exact ns_iret C w hr hlk rfl rfl dX10_count_73
  rw [if_neg h_1] at hf
  by_cases h_2 : p1 = 2
  · rw [if_pos h_2] at hf
    refine lv_tableIn (tgt := 74) C.1.1 C.1.2.1 dX10_count_1 (by rw [h_2]; decide) (by rw [h_2]; decide) (by rw [h_2]; rfl) (by decide) ?_
    refine lv_aload_n C.1.1 C.1.2.1 dX10_count_74 rfl (lv_at hl 0 rfl) ?_
    refine ns_getr C w 0 (hI 0 (by decide)) sh_0 (rfl : vwCl[10]? = some (RX10, TX10, 6)) inX10_count_10 4 (by decide) rfl lX10_count_30 dX10_count_75 ?_
    refine ns_getr C w 28 (hI 28 (by decide)) sh_28 (rfl : vwCl[6]? = some (RX6, TX6, 6)) inX10_count_6 2 (by decide) rfl lX10_count_119 dX10_count_78 ?_
    refine ns_geti C w 37 (hI 37 (by decide)) sh_37 (rfl : vwCl[4]? = some (RX4, TX4, 6)) inX10_count_4 0 (by decide) rfl lX10_count_123 (S.1 2368) rfl dX10_count_81 ?_
    have he := Option.some.inj hf
    subst he
    exact ns_iret C w hr hlk rfl rfl dX10_count_84
  rw [if_neg h_2] at hf
  by_cases h_3 : p1 = 3
  · rw [if_pos h_3] at hf
    refine lv_tableIn (tgt := 85) C.1.1 C.1.2.1 dX10_count_1 (by rw [h_3]; decide) (by rw [h_3]; decide) (by rw [h_3]; rfl) (by decide) ?_
    refine lv_aload_n C.1.1 C.1.2.1 dX10_count_85 rfl (lv_at hl 0 rfl) ?_
    refine ns_getr C w 0 (hI 0 (by decide)) sh_0 (rfl : vwCl[10]? = some (RX10, TX10, 6)) inX10_count_10 4 (by decide) rfl lX10_count_30 dX10_count_86 ?_
    refine ns_getr C w 28 (hI 28 (by decide)) sh_28 (rfl : vwCl[6]? = some (RX6, TX6, 6)) inX10_count_6 3 (by decide) rfl lX10_count_165 dX10_count_89 ?_
    refine ns_geti C w 43 (hI 43 (by decide)) sh_43 (rfl : vwCl[7]? = some (RX7, TX7, 5)) inX10_count_7 0 (by decide) rfl lX10_count_244 (S.1 2752) rfl dX10_count_92 ?_
    refine ns_callS C w [.int (S.1 2752)] hf (fun u hu => mJ6_bitCount_0f7a4 l D b ids hI N _ (S.1 2752) hu) gX10_count_J6_bitCount_0f7a4 rfl rfl rfl hdJ6_bitCount_0f7a4 ⟨Nat.le_of_ble_eq_true rfl, Nat.le_of_ble_eq_true rfl⟩ (fun u h => h) rfl hl.1 rfl (Nat.le_of_ble_eq_true rfl) ⟨Nat.le_refl _, Nat.le_refl _⟩ dX10_count_95 (fun o1 H locs hf w => ?_)
    have he := Option.some.inj hf
    subst he
    exact ns_iret C w hr hlk rfl rfl dX10_count_98
  rw [if_neg h_3] at hf
  by_cases h_4 : p1 = 4
  · rw [if_pos h_4] at hf
    refine lv_tableIn (tgt := 99) C.1.1 C.1.2.1 dX10_count_1 (by rw [h_4]; decide) (by rw [h_4]; decide) (by rw [h_4]; rfl) (by decide) ?_
    refine lv_aload_n C.1.1 C.1.2.1 dX10_count_99 rfl (lv_at hl 0 rfl) ?_
    refine ns_getr C w 0 (hI 0 (by decide)) sh_0 (rfl : vwCl[10]? = some (RX10, TX10, 6)) inX10_count_10 4 (by decide) rfl lX10_count_30 dX10_count_100 ?_
    refine ns_callV C w 28 (hI 28 (by decide)) sh_28 (rfl : vwCl[6]? = some (RX6, TX6, 6)) [] hf (fun u hu => mX6_placesHad_28 l D b ids hI N _ hu) gX10_count_X6_placesHad rfl rfl rfl hdX6_placesHad ⟨Nat.le_of_ble_eq_true rfl, Nat.le_of_ble_eq_true rfl⟩ (fun u h => h) rfl hl.1 rfl (Nat.le_of_ble_eq_true rfl) ⟨Nat.le_refl _, Nat.le_refl _⟩ dX10_count_103 (fun o2 H locs hf w => ?_)
    have he := Option.some.inj hf
    subst he
    exact ns_iret C w hr hlk rfl rfl dX10_count_106
  rw [if_neg h_4] at hf
  by_cases h_5 : p1 = 5
  · rw [if_pos h_5] at hf
    refine lv_tableIn (tgt := 107) C.1.1 C.1.2.1 dX10_count_1 (by rw [h_5]; decide) (by rw [h_5]; decide) (by rw [h_5]; rfl) (by decide) ?_
    refine lv_aload_n C.1.1 C.1.2.1 dX10_count_107 rfl (lv_at hl 0 rfl) ?_
    refine ns_getr C w 0 (hI 0 (by decide)) sh_0 (rfl : vwCl[10]? = some (RX10, TX10, 6)) inX10_count_10 4 (by decide) rfl lX10_count_30 dX10_count_108 ?_
    refine ns_callV C w 28 (hI 28 (by decide)) sh_28 (rfl : vwCl[6]? = some (RX6, TX6, 6)) [] hf (fun u hu => mX6_pointsInAll_28 l D b ids hI N _ hu) gX10_count_X6_pointsInAll rfl rfl rfl hdX6_pointsInAll ⟨Nat.le_of_ble_eq_true rfl, Nat.le_of_ble_eq_true rfl⟩ (fun u h => h) rfl hl.1 rfl (Nat.le_of_ble_eq_true rfl) ⟨Nat.le_refl _, Nat.le_refl _⟩ dX10_count_111 (fun o3 H locs hf w => ?_)
    have he := Option.some.inj hf
    subst he
    exact ns_iret C w hr hlk rfl rfl dX10_count_114
  rw [if_neg h_5] at hf
  by_cases h_6 : p1 = 6
  · rw [if_pos h_6] at hf
    refine lv_tableIn (tgt := 115) C.1.1 C.1.2.1 dX10_count_1 (by rw [h_6]; decide) (by rw [h_6]; decide) (by rw [h_6]; rfl) (by decide) ?_
    refine lv_aload_n C.1.1 C.1.2.1 dX10_count_115 rfl (lv_at hl 0 rfl) ?_
    refine ns_getr C w 0 (hI 0 (by decide)) sh_0 (rfl : vwCl[10]? = some (RX10, TX10, 6)) inX10_count_10 4 (by decide) rfl lX10_count_30 dX10_count_116 ?_
    refine ns_getr C w 28 (hI 28 (by decide)) sh_28 (rfl : vwCl[6]? = some (RX6, TX6, 6)) inX10_count_6 4 (by decide) rfl lX10_count_76 dX10_count_119 ?_
    refine ns_geti C w 48 (hI 48 (by decide)) sh_48 (rfl : vwCl[8]? = some (RX8, TX8, 6)) inX10_count_8 0 (by decide) rfl lX10_count_180 (S.1 3072) rfl dX10_count_122 ?_
    have he := Option.some.inj hf
    subst he
    exact ns_iret C w hr hlk rfl rfl dX10_count_125
  rw [if_neg h_6] at hf
  by_cases h_7 : p1 = 7
  · rw [if_pos h_7] at hf
    refine lv_tableIn (tgt := 126) C.1.1 C.1.2.1 dX10_count_1 (by rw [h_7]; decide) (by rw [h_7]; decide) (by rw [h_7]; rfl) (by decide) ?_
    refine lv_aload_n C.1.1 C.1.2.1 dX10_count_126 rfl (lv_at hl 0 rfl) ?_
    refine ns_getr C w 0 (hI 0 (by decide)) sh_0 (rfl : vwCl[10]? = some (RX10, TX10, 6)) inX10_count_10 4 (by decide) rfl lX10_count_30 dX10_count_127 ?_
    refine ns_getr C w 28 (hI 28 (by decide)) sh_28 (rfl : vwCl[6]? = some (RX6, TX6, 6)) inX10_count_6 5 (by decide) rfl lX10_count_50 dX10_count_130 ?_
    refine ns_geti C w 53 (hI 53 (by decide)) sh_53 (rfl : vwCl[2]? = some (RX2, TX2, 8)) inX10_count_2 0 (by decide) rfl lX10_count_63 (S.1 3392) rfl dX10_count_133 ?_
    have he := Option.some.inj hf
    subst he
    exact ns_iret C w hr hlk rfl rfl dX10_count_136
  rw [if_neg h_7] at hf
  by_cases h_8 : p1 = 8
  · rw [if_pos h_8] at hf
    refine lv_tableIn (tgt := 137) C.1.1 C.1.2.1 dX10_count_1 (by rw [h_8]; decide) (by rw [h_8]; decide) (by rw [h_8]; rfl) (by decide) ?_
    refine lv_aload_n C.1.1 C.1.2.1 dX10_count_137 rfl (lv_at hl 0 rfl) ?_
    refine ns_getr C w 0 (hI 0 (by decide)) sh_0 (rfl : vwCl[10]? = some (RX10, TX10, 6)) inX10_count_10 4 (by decide) rfl lX10_count_30 dX10_count_138 ?_
    refine ns_getr C w 28 (hI 28 (by decide)) sh_28 (rfl : vwCl[6]? = some (RX6, TX6, 6)) inX10_count_6 4 (by decide) rfl lX10_count_76 dX10_count_141 ?_
    refine ns_geti C w 48 (hI 48 (by decide)) sh_48 (rfl : vwCl[8]? = some (RX8, TX8, 6)) inX10_count_8 1 (by decide) rfl lX10_count_259 (S.1 3073) rfl dX10_count_144 ?_
    have he := Option.some.inj hf
    subst he
    exact ns_iret C w hr hlk rfl rfl dX10_count_147
  rw [if_neg h_8] at hf
  refine lv_tableOut (tgt := 148) C.1.1 C.1.2.1 dX10_count_1 (ns_out (by decide) (by decide) (fun k h1 h2 => ?_)) (by decide) ?_
  · rcases (by omega : k = 0 ∨ k = 1 ∨ k = 2 ∨ k = 3 ∨ k = 4 ∨ k = 5 ∨ k = 6 ∨ k = 7 ∨ k = 8) with rfl | rfl | rfl | rfl | rfl | rfl | rfl | rfl | rfl
    · exact h_0
    · exact h_1
    · exact h_2
    · exact h_3
    · exact h_4
    · exact h_5
    · exact h_6
    · exact h_7
    · exact h_8
  · refine lv_iconst (v := (-1)) C.1.1 C.1.2.1 dX10_count_148 (by decide) ?_
    have he := Option.some.inj hf
    subst he
    exact ns_iret C w hr hlk rfl rfl dX10_count_149
theorem lX11_count_17 : Cond.fieldLink RX11 17 (TX11 4).1 (TX11 4).2.1 (TX11 4).2.2.1 ∈ wsX11_count := List.mem_of_getElem? (i := 2) rfl
theorem lX11_count_24 : Cond.fieldLink RX11 24 (TX11 6).1 (TX11 6).2.1 (TX11 6).2.2.1 ∈ wsX11_count := List.mem_of_getElem? (i := 3) rfl
theorem lX11_count_42 : Cond.fieldLink RX11 42 (TX11 12).1 (TX11 12).2.1 (TX11 12).2.2.1 ∈ wsX11_count := List.mem_of_getElem? (i := 4) rfl
theorem lX11_count_60 : Cond.fieldLink RX11 60 (TX11 18).1 (TX11 18).2.1 (TX11 18).2.2.1 ∈ wsX11_count := List.mem_of_getElem? (i := 7) rfl
theorem lX11_count_63 : Cond.fieldLink RX11 63 (TX11 19).1 (TX11 19).2.1 (TX11 19).2.2.1 ∈ wsX11_count := List.mem_of_getElem? (i := 5) rfl
theorem lX11_count_75 : Cond.fieldLink RX11 75 (TX11 23).1 (TX11 23).2.1 (TX11 23).2.2.1 ∈ wsX11_count := List.mem_of_getElem? (i := 6) rfl
theorem lX11_count_78 : Cond.fieldLink RX11 78 (TX11 24).1 (TX11 24).2.1 (TX11 24).2.2.1 ∈ wsX11_count := List.mem_of_getElem? (i := 9) rfl
theorem lX11_count_87 : Cond.fieldLink RX11 87 (TX11 27).1 (TX11 27).2.1 (TX11 27).2.2.1 ∈ wsX11_count := List.mem_of_getElem? (i := 8) rfl
theorem lX11_count_179 : Cond.fieldLink RX11 179 (TX11 0).1 (TX11 0).2.1 (TX11 0).2.2.1 ∈ wsX11_count := List.mem_of_getElem? (i := 1) rfl
theorem inX11_count_11 : ∀ w ∈ u_ws RX11 TX11 59, w ∈ wsX11_count := fun _ h => List.mem_cons_of_mem _ (List.mem_append_right _ h)
theorem hdX11_count : yX11_count.cls = RX11 ∧ yX11_count.cls ≠ "java/lang/invoke/MethodHandle" ∧ yX11_count.cls ≠ "java/lang/invoke/VarHandle" ∧ (parseMethodDescriptor yX11_count.desc).map (fun d => d.parameters.length) = some 1 := by decide +kernel
abbrev wrX11_count_62 : List (Nat × Nat) := [(0, 3968)]
abbrev rmX11_count_62 : Room := { frames := 1, cells := 0, slots := 0, locals := 23 }
set_option maxHeartbeats 4000000 in
set_option maxRecDepth 100000 in
theorem wX11_count_62_93 {p : Program} {l : Launch} {e : Env} {s : State} {m : MethodId} {args : Array Value} {below : List Frame} {meth : Method} {c : Code} {D : va_G} {b : Nat → Nat} {ids : List Nat} {A : Nat → Prop} {S0 : ns_S} {o : Int32 × Int32} (N : Nat) (hI : ∀ i, i < 107 → i ∈ ids) (C : ns_C p m c cX11_count 4 s args wsX11_count RX11 D A) (hr : meth.sig.returnType = some .int) (hlk : meth.locks = false) : ∀ n : Nat, ∀ {S : ns_S} {H : Heap} {locs : List Loc} {ls : Array Slot} {l2 : Int32} {l3 : Int32}, ns_W D b ids A s.heap wrX11_count_62 S0 S H locs → lv_has ls 4 [(0, .ref (b 62)), (2, .int l2), (3, .int l3)] → fX11_count_93 N n (S.1 3968) (S.2.1 65) (S.2.1 67) (S.2.1 73) (S.2.1 80) (S.2.1 79) (S.2.1 88) (S.2.1 85) (S.2.1 77) (S.2.1 84) (S.2.1 78) l2 l3 = some o → W p l e rmX11_count_62 s m args below meth c H locs 0 0 (MQ below (ns_Q D b ids (ns_I S0 3968 o.2) (some (.int o.1)) A) args s 0 0 A) (F0 m 93 ls []) := by
  intro n
  induction n with
  | zero =>
    intro S H locs ls l2 l3 w hl hf
    cases hf
  | succ n K93 =>
    intro S H locs ls l2 l3 w hl hf
    change gX11_count_93 N (fX11_count_93 N n) (S.1 3968) (S.2.1 65) (S.2.1 67) (S.2.1 73) (S.2.1 80) (S.2.1 79) (S.2.1 88) (S.2.1 85) (S.2.1 77) (S.2.1 84) (S.2.1 78) l2 l3 = some o at hf
    generalize fX11_count_93 N n = r93 at hf K93
    unfold gX11_count_93 at hf
    refine lv_iload_n C.1.1 C.1.2.1 dX11_count_93 rfl (lv_at hl 2 rfl) ?_
    refine lv_aload_n C.1.1 C.1.2.1 dX11_count_94 rfl (lv_at hl 0 rfl) ?_
    refine ns_getr C w 62 (hI 62 (by decide)) sh_62 (rfl : vwCl[11]? = some (RX11, TX11, 59)) inX11_count_11 12 (by decide) rfl lX11_count_42 dX11_count_95 ?_
    refine lv_iconst (v := 0) C.1.1 C.1.2.1 dX11_count_98 (by decide) ?_
    refine ns_iald C w 73 (hI 73 (by decide)) sh_73 hf rfl dX11_count_99 (fun x1 hf => ?_)
    refine ns_icmp_ge C hf (tgt := 121) dX11_count_100 (by decide) (fun hf => ?_) (fun hf => ?_)
    · refine lv_iload_n C.1.1 C.1.2.1 dX11_count_121 rfl (lv_at hl 1 rfl) ?_
      have he := Option.some.inj hf
      subst he
      exact ns_iret C w hr hlk rfl rfl dX11_count_122
    · refine lv_iload_n C.1.1 C.1.2.1 dX11_count_103 rfl (lv_at hl 1 rfl) ?_
      refine lv_aload_n C.1.1 C.1.2.1 dX11_count_104 rfl (lv_at hl 0 rfl) ?_
      refine ns_getr C w 62 (hI 62 (by decide)) sh_62 (rfl : vwCl[11]? = some (RX11, TX11, 59)) inX11_count_11 23 (by decide) rfl lX11_count_75 dX11_count_105 ?_
      refine lv_iload_n C.1.1 C.1.2.1 dX11_count_108 rfl (lv_at hl 2 rfl) ?_
      refine ns_iald C w 84 (hI 84 (by decide)) sh_84 hf rfl dX11_count_109 (fun x2 hf => ?_)
      refine ns_callS C w [.int x2] hf (fun u hu => mX11_ones l D b ids hI N _ x2 hu) gX11_count_X11_ones rfl rfl rfl hdX11_ones ⟨Nat.le_of_ble_eq_true rfl, Nat.le_of_ble_eq_true rfl⟩ (fun u h => h) rfl hl.1 rfl (Nat.le_of_ble_eq_true rfl) ⟨Nat.le_refl _, Nat.le_refl _⟩ dX11_count_110 (fun o3 H locs hf w => ?_)
      refine lv_iadd C.1.1 C.1.2.1 dX11_count_113 ?_
      refine ns_namei hf (fun x4 hf => ?_)
      refine lv_istore_n (lv' := [(2, .int x4), (0, .ref (b 62)), (3, .int l3)]) C.1.1 C.1.2.1 dX11_count_114 rfl hl (by decide) rfl (fun ls hl => ?_)
      refine ns_iinc (lv' := fun x5 => [(3, .int x5), (2, .int x4), (0, .ref (b 62))]) C hf dX11_count_115 hl (k := 2) rfl rfl (by decide) (fun _ => rfl) (fun x5 ls hl hf => ?_)
      refine lv_goto (tgt := 93) C.1.1 C.1.2.1 dX11_count_118 (by decide) ?_
      exact K93 w (lv_sub hl [2, 1, 0] rfl) hf
set_option maxHeartbeats 4000000 in
set_option maxRecDepth 100000 in
theorem wX11_count_62_125 {p : Program} {l : Launch} {e : Env} {s : State} {m : MethodId} {args : Array Value} {below : List Frame} {meth : Method} {c : Code} {D : va_G} {b : Nat → Nat} {ids : List Nat} {A : Nat → Prop} {S0 : ns_S} {o : Int32 × Int32} (N : Nat) (hI : ∀ i, i < 107 → i ∈ ids) (C : ns_C p m c cX11_count 4 s args wsX11_count RX11 D A) (hr : meth.sig.returnType = some .int) (hlk : meth.locks = false) : ∀ n : Nat, ∀ {S : ns_S} {H : Heap} {locs : List Loc} {ls : Array Slot} {l2 : Int32} {l3 : Int32}, ns_W D b ids A s.heap wrX11_count_62 S0 S H locs → lv_has ls 4 [(0, .ref (b 62)), (2, .int l2), (3, .int l3)] → fX11_count_125 N n (S.1 3968) (S.2.1 65) (S.2.1 67) (S.2.1 73) (S.2.1 80) (S.2.1 79) (S.2.1 88) (S.2.1 85) (S.2.1 77) (S.2.1 84) (S.2.1 78) l2 l3 = some o → W p l e rmX11_count_62 s m args below meth c H locs 0 0 (MQ below (ns_Q D b ids (ns_I S0 3968 o.2) (some (.int o.1)) A) args s 0 0 A) (F0 m 125 ls []) := by
  intro n
  induction n with
  | zero =>
    intro S H locs ls l2 l3 w hl hf
    cases hf
  | succ n K125 =>
    intro S H locs ls l2 l3 w hl hf
    change gX11_count_125 N (fX11_count_125 N n) (S.1 3968) (S.2.1 65) (S.2.1 67) (S.2.1 73) (S.2.1 80) (S.2.1 79) (S.2.1 88) (S.2.1 85) (S.2.1 77) (S.2.1 84) (S.2.1 78) l2 l3 = some o at hf
    generalize fX11_count_125 N n = r125 at hf K125
    unfold gX11_count_125 at hf
    refine lv_iload_n C.1.1 C.1.2.1 dX11_count_125 rfl (lv_at hl 2 rfl) ?_
    refine lv_aload_n C.1.1 C.1.2.1 dX11_count_126 rfl (lv_at hl 0 rfl) ?_
    refine ns_getr C w 62 (hI 62 (by decide)) sh_62 (rfl : vwCl[11]? = some (RX11, TX11, 59)) inX11_count_11 12 (by decide) rfl lX11_count_42 dX11_count_127 ?_
    refine lv_iconst (v := 0) C.1.1 C.1.2.1 dX11_count_130 (by decide) ?_
    refine ns_iald C w 73 (hI 73 (by decide)) sh_73 hf rfl dX11_count_131 (fun x1 hf => ?_)
    refine ns_icmp_ge C hf (tgt := 149) dX11_count_132 (by decide) (fun hf => ?_) (fun hf => ?_)
    · refine lv_iload_n C.1.1 C.1.2.1 dX11_count_149 rfl (lv_at hl 1 rfl) ?_
      have he := Option.some.inj hf
      subst he
      exact ns_iret C w hr hlk rfl rfl dX11_count_150
    · refine lv_iload_n C.1.1 C.1.2.1 dX11_count_135 rfl (lv_at hl 1 rfl) ?_
      refine lv_aload_n C.1.1 C.1.2.1 dX11_count_136 rfl (lv_at hl 0 rfl) ?_
      refine lv_iload_n C.1.1 C.1.2.1 dX11_count_137 rfl (lv_at hl 2 rfl) ?_
      refine ns_callV C w 62 (hI 62 (by decide)) sh_62 (rfl : vwCl[11]? = some (RX11, TX11, 59)) [.int l3] hf (fun u hu => mX11_pointsOf_62 l D b ids hI N _ l3 hu) gX11_count_X11_pointsOf rfl rfl rfl hdX11_pointsOf ⟨Nat.le_of_ble_eq_true rfl, Nat.le_of_ble_eq_true rfl⟩ (fun u h => h) rfl hl.1 rfl (Nat.le_of_ble_eq_true rfl) ⟨Nat.le_refl _, Nat.le_refl _⟩ dX11_count_138 (fun o2 H locs hf w => ?_)
      refine lv_iadd C.1.1 C.1.2.1 dX11_count_141 ?_
      refine ns_namei hf (fun x3 hf => ?_)
      refine lv_istore_n (lv' := [(2, .int x3), (0, .ref (b 62)), (3, .int l3)]) C.1.1 C.1.2.1 dX11_count_142 rfl hl (by decide) rfl (fun ls hl => ?_)
      refine ns_iinc (lv' := fun x4 => [(3, .int x4), (2, .int x3), (0, .ref (b 62))]) C hf dX11_count_143 hl (k := 2) rfl rfl (by decide) (fun _ => rfl) (fun x4 ls hl hf => ?_)
      refine lv_goto (tgt := 125) C.1.1 C.1.2.1 dX11_count_146 (by decide) ?_
      exact K125 w (lv_sub hl [2, 1, 0] rfl) hf
set_option maxHeartbeats 4000000 in
set_option maxRecDepth 100000 in
theorem wX11_count_62_167 {p : Program} {l : Launch} {e : Env} {s : State} {m : MethodId} {args : Array Value} {below : List Frame} {meth : Method} {c : Code} {D : va_G} {b : Nat → Nat} {ids : List Nat} {A : Nat → Prop} {S0 : ns_S} {o : Int32 × Int32} (N : Nat) (hI : ∀ i, i < 107 → i ∈ ids) (C : ns_C p m c cX11_count 4 s args wsX11_count RX11 D A) (hr : meth.sig.returnType = some .int) (hlk : meth.locks = false) : ∀ n : Nat, ∀ {S : ns_S} {H : Heap} {locs : List Loc} {ls : Array Slot} {l2 : Int32} {l3 : Int32}, ns_W D b ids A s.heap wrX11_count_62 S0 S H locs → lv_has ls 4 [(0, .ref (b 62)), (2, .int l2), (3, .int l3)] → fX11_count_167 N n (S.1 3968) (S.2.1 65) (S.2.1 67) (S.2.1 73) (S.2.1 80) (S.2.1 79) (S.2.1 88) (S.2.1 85) (S.2.1 77) (S.2.1 84) (S.2.1 78) l2 l3 = some o → W p l e rmX11_count_62 s m args below meth c H locs 0 0 (MQ below (ns_Q D b ids (ns_I S0 3968 o.2) (some (.int o.1)) A) args s 0 0 A) (F0 m 167 ls []) := by
  intro n
  induction n with
  | zero =>
    intro S H locs ls l2 l3 w hl hf
    cases hf
  | succ n K167 =>
    intro S H locs ls l2 l3 w hl hf
    change gX11_count_167 N (fX11_count_167 N n) (S.1 3968) (S.2.1 65) (S.2.1 67) (S.2.1 73) (S.2.1 80) (S.2.1 79) (S.2.1 88) (S.2.1 85) (S.2.1 77) (S.2.1 84) (S.2.1 78) l2 l3 = some o at hf
    generalize fX11_count_167 N n = r167 at hf K167
    unfold gX11_count_167 at hf
    refine lv_iload_n C.1.1 C.1.2.1 dX11_count_167 rfl (lv_at hl 2 rfl) ?_
    refine lv_aload_n C.1.1 C.1.2.1 dX11_count_168 rfl (lv_at hl 0 rfl) ?_
    refine ns_getr C w 62 (hI 62 (by decide)) sh_62 (rfl : vwCl[11]? = some (RX11, TX11, 59)) inX11_count_11 12 (by decide) rfl lX11_count_42 dX11_count_169 ?_
    refine lv_iconst (v := 0) C.1.1 C.1.2.1 dX11_count_172 (by decide) ?_
    refine ns_iald C w 73 (hI 73 (by decide)) sh_73 hf rfl dX11_count_173 (fun x1 hf => ?_)
    refine ns_icmp_ge C hf (tgt := 192) dX11_count_174 (by decide) (fun hf => ?_) (fun hf => ?_)
    · refine lv_iload_n C.1.1 C.1.2.1 dX11_count_192 rfl (lv_at hl 1 rfl) ?_
      have he := Option.some.inj hf
      subst he
      exact ns_iret C w hr hlk rfl rfl dX11_count_193
    · refine lv_iload_n C.1.1 C.1.2.1 dX11_count_177 rfl (lv_at hl 1 rfl) ?_
      refine lv_aload_n C.1.1 C.1.2.1 dX11_count_178 rfl (lv_at hl 0 rfl) ?_
      refine ns_getr C w 62 (hI 62 (by decide)) sh_62 (rfl : vwCl[11]? = some (RX11, TX11, 59)) inX11_count_11 24 (by decide) rfl lX11_count_78 dX11_count_179 ?_
      refine lv_iload_n C.1.1 C.1.2.1 dX11_count_182 rfl (lv_at hl 2 rfl) ?_
      refine ns_iald C w 85 (hI 85 (by decide)) sh_85 hf rfl dX11_count_183 (fun x2 hf => ?_)
      refine lv_iadd C.1.1 C.1.2.1 dX11_count_184 ?_
      refine ns_namei hf (fun x3 hf => ?_)
      refine lv_istore_n (lv' := [(2, .int x3), (0, .ref (b 62)), (3, .int l3)]) C.1.1 C.1.2.1 dX11_count_185 rfl hl (by decide) rfl (fun ls hl => ?_)
      refine ns_iinc (lv' := fun x4 => [(3, .int x4), (2, .int x3), (0, .ref (b 62))]) C hf dX11_count_186 hl (k := 2) rfl rfl (by decide) (fun _ => rfl) (fun x4 ls hl hf => ?_)
      refine lv_goto (tgt := 167) C.1.1 C.1.2.1 dX11_count_189 (by decide) ?_
      exact K167 w (lv_sub hl [2, 1, 0] rfl) hf
set_option maxHeartbeats 4000000 in
set_option maxRecDepth 100000 in
theorem mX11_count_62 (l : Launch) (D : va_G) (b : Nat → Nat) (ids : List Nat) (hI : ∀ i, i < 107 → i ∈ ids) (N : Nat) (S : ns_S) (p1 : Int32) {o : Int32 × Int32} (hf : fX11_count N (S.1 3968) (S.2.1 65) (S.2.1 67) (S.2.1 73) (S.2.1 80) (S.2.1 79) (S.2.1 88) (S.2.1 85) (S.2.1 77) (S.2.1 84) (S.2.1 78) p1 = some o) : ns_M l yX11_count wsX11_count rmX11_count_62 D b ids S [.ref (b 62), .int p1] (some (.int o.1)) (ns_I S 3968 o.2) := by
  refine ns_start (Wr := wrX11_count_62) (by decide) rfl (Nat.le_of_ble_eq_true rfl) ?_
  intro p e s m below meth c A ls C hr hlk w hl
  have hl : lv_has ls 4 [(0, .ref (b 62)), (1, .int p1)] := hl
  unfold fX11_count at hf
  refine lv_aload_n C.1.1 C.1.2.1 dX11_count_0 rfl (lv_at hl 0 rfl) ?_
  refine lv_iconst (v := 0) C.1.1 C.1.2.1 dX11_count_1 (by decide) ?_
  refine ns_puti C w 62 (hI 62 (by decide)) sh_62 (rfl : vwCl[11]? = some (RX11, TX11, 59)) inX11_count_11 tyX11_ok nmX11 0 (by decide) rfl lX11_count_179 rfl rfl rfl (List.mem_of_getElem? (i := 0) rfl) dX11_count_2 (fun H locs w => ?_)
  refine lv_iconst (v := 0) C.1.1 C.1.2.1 dX11_count_5 (by decide) ?_
  refine lv_istore_n (lv' := [(2, .int 0), (0, .ref (b 62)), (1, .int p1)]) C.1.1 C.1.2.1 dX11_count_6 rfl hl (by decide) rfl (fun ls hl => ?_)
  refine lv_iload_n C.1.1 C.1.2.1 dX11_count_7 rfl (lv_at hl 2 rfl) ?_
  by_cases h_0 : p1 = 0
  · rw [if_pos h_0] at hf
    refine lv_tableIn (tgt := 60) C.1.1 C.1.2.1 dX11_count_8 (by rw [h_0]; decide) (by rw [h_0]; decide) (by rw [h_0]; rfl) (by decide) ?_
    refine lv_aload_n C.1.1 C.1.2.1 dX11_count_60 rfl (lv_at hl 1 rfl) ?_
    refine ns_getr C w 62 (hI 62 (by decide)) sh_62 (rfl : vwCl[11]? = some (RX11, TX11, 59)) inX11_count_11 4 (by decide) rfl lX11_count_17 dX11_count_61 ?_
    refine lv_iconst (v := 0) C.1.1 C.1.2.1 dX11_count_64 (by decide) ?_
    refine ns_iald C w 65 (hI 65 (by decide)) sh_65 hf rfl dX11_count_65 (fun x1 hf => ?_)
    have he := Option.some.inj hf
    subst he
    exact ns_iret C w hr hlk rfl rfl dX11_count_66
  rw [if_neg h_0] at hf
  by_cases h_1 : p1 = 1
  · rw [if_pos h_1] at hf
    refine lv_tableIn (tgt := 67) C.1.1 C.1.2.1 dX11_count_8 (by rw [h_1]; decide) (by rw [h_1]; decide) (by rw [h_1]; rfl) (by decide) ?_
    refine lv_aload_n C.1.1 C.1.2.1 dX11_count_67 rfl (lv_at hl 1 rfl) ?_
    refine ns_getr C w 62 (hI 62 (by decide)) sh_62 (rfl : vwCl[11]? = some (RX11, TX11, 59)) inX11_count_11 6 (by decide) rfl lX11_count_24 dX11_count_68 ?_
    refine lv_iconst (v := 0) C.1.1 C.1.2.1 dX11_count_71 (by decide) ?_
    refine ns_iald C w 67 (hI 67 (by decide)) sh_67 hf rfl dX11_count_72 (fun x2 hf => ?_)
    have he := Option.some.inj hf
    subst he
    exact ns_iret C w hr hlk rfl rfl dX11_count_73
  rw [if_neg h_1] at hf
  by_cases h_2 : p1 = 2
  · rw [if_pos h_2] at hf
    refine lv_tableIn (tgt := 74) C.1.1 C.1.2.1 dX11_count_8 (by rw [h_2]; decide) (by rw [h_2]; decide) (by rw [h_2]; rfl) (by decide) ?_
    refine lv_aload_n C.1.1 C.1.2.1 dX11_count_74 rfl (lv_at hl 1 rfl) ?_
    refine ns_getr C w 62 (hI 62 (by decide)) sh_62 (rfl : vwCl[11]? = some (RX11, TX11, 59)) inX11_count_11 12 (by decide) rfl lX11_count_42 dX11_count_75 ?_
    refine lv_iconst (v := 0) C.1.1 C.1.2.1 dX11_count_78 (by decide) ?_
    refine ns_iald C w 73 (hI 73 (by decide)) sh_73 hf rfl dX11_count_79 (fun x3 hf => ?_)
    have he := Option.some.inj hf
    subst he
    exact ns_iret C w hr hlk rfl rfl dX11_count_80
  rw [if_neg h_2] at hf
  by_cases h_3 : p1 = 3
  · rw [if_pos h_3] at hf
    refine lv_tableIn (tgt := 81) C.1.1 C.1.2.1 dX11_count_8 (by rw [h_3]; decide) (by rw [h_3]; decide) (by rw [h_3]; rfl) (by decide) ?_
    refine lv_aload_n C.1.1 C.1.2.1 dX11_count_81 rfl (lv_at hl 1 rfl) ?_
    refine ns_getr C w 62 (hI 62 (by decide)) sh_62 (rfl : vwCl[11]? = some (RX11, TX11, 59)) inX11_count_11 19 (by decide) rfl lX11_count_63 dX11_count_82 ?_
    refine lv_iconst (v := 0) C.1.1 C.1.2.1 dX11_count_85 (by decide) ?_
    refine ns_iald C w 80 (hI 80 (by decide)) sh_80 hf rfl dX11_count_86 (fun x4 hf => ?_)
    refine ns_callS C w [.int x4] hf (fun u hu => mX11_ones l D b ids hI N _ x4 hu) gX11_count_X11_ones rfl rfl rfl hdX11_ones ⟨Nat.le_of_ble_eq_true rfl, Nat.le_of_ble_eq_true rfl⟩ (fun u h => h) rfl hl.1 rfl (Nat.le_of_ble_eq_true rfl) ⟨Nat.le_refl _, Nat.le_refl _⟩ dX11_count_87 (fun o5 H locs hf w => ?_)
    have he := Option.some.inj hf
    subst he
    exact ns_iret C w hr hlk rfl rfl dX11_count_90
  rw [if_neg h_3] at hf
  by_cases h_4 : p1 = 4
  · rw [if_pos h_4] at hf
    refine lv_tableIn (tgt := 91) C.1.1 C.1.2.1 dX11_count_8 (by rw [h_4]; decide) (by rw [h_4]; decide) (by rw [h_4]; rfl) (by decide) ?_
    refine lv_iconst (v := 0) C.1.1 C.1.2.1 dX11_count_91 (by decide) ?_
    refine lv_istore_n (lv' := [(3, .int 0), (2, .int 0), (0, .ref (b 62)), (1, .int p1)]) C.1.1 C.1.2.1 dX11_count_92 rfl hl (by decide) rfl (fun ls hl => ?_)
    exact wX11_count_62_93 N hI C hr hlk N w (lv_sub hl [2, 1, 0] rfl) hf
  rw [if_neg h_4] at hf
  by_cases h_5 : p1 = 5
  · rw [if_pos h_5] at hf
    refine lv_tableIn (tgt := 123) C.1.1 C.1.2.1 dX11_count_8 (by rw [h_5]; decide) (by rw [h_5]; decide) (by rw [h_5]; rfl) (by decide) ?_
    refine lv_iconst (v := 0) C.1.1 C.1.2.1 dX11_count_123 (by decide) ?_
    refine lv_istore_n (lv' := [(3, .int 0), (2, .int 0), (0, .ref (b 62)), (1, .int p1)]) C.1.1 C.1.2.1 dX11_count_124 rfl hl (by decide) rfl (fun ls hl => ?_)
    exact wX11_count_62_125 N hI C hr hlk N w (lv_sub hl [2, 1, 0] rfl) hf
  rw [if_neg h_5] at hf
  by_cases h_6 : p1 = 6
  · rw [if_pos h_6] at hf
    refine lv_tableIn (tgt := 151) C.1.1 C.1.2.1 dX11_count_8 (by rw [h_6]; decide) (by rw [h_6]; decide) (by rw [h_6]; rfl) (by decide) ?_
    refine lv_aload_n C.1.1 C.1.2.1 dX11_count_151 rfl (lv_at hl 1 rfl) ?_
    refine ns_getr C w 62 (hI 62 (by decide)) sh_62 (rfl : vwCl[11]? = some (RX11, TX11, 59)) inX11_count_11 18 (by decide) rfl lX11_count_60 dX11_count_152 ?_
    refine lv_iconst (v := 0) C.1.1 C.1.2.1 dX11_count_155 (by decide) ?_
    refine ns_iald C w 79 (hI 79 (by decide)) sh_79 hf rfl dX11_count_156 (fun x6 hf => ?_)
    have he := Option.some.inj hf
    subst he
    exact ns_iret C w hr hlk rfl rfl dX11_count_157
  rw [if_neg h_6] at hf
  by_cases h_7 : p1 = 7
  · rw [if_pos h_7] at hf
    refine lv_tableIn (tgt := 158) C.1.1 C.1.2.1 dX11_count_8 (by rw [h_7]; decide) (by rw [h_7]; decide) (by rw [h_7]; rfl) (by decide) ?_
    refine lv_aload_n C.1.1 C.1.2.1 dX11_count_158 rfl (lv_at hl 1 rfl) ?_
    refine ns_getr C w 62 (hI 62 (by decide)) sh_62 (rfl : vwCl[11]? = some (RX11, TX11, 59)) inX11_count_11 27 (by decide) rfl lX11_count_87 dX11_count_159 ?_
    refine lv_iconst (v := 0) C.1.1 C.1.2.1 dX11_count_162 (by decide) ?_
    refine ns_iald C w 88 (hI 88 (by decide)) sh_88 hf rfl dX11_count_163 (fun x7 hf => ?_)
    have he := Option.some.inj hf
    subst he
    exact ns_iret C w hr hlk rfl rfl dX11_count_164
  rw [if_neg h_7] at hf
  by_cases h_8 : p1 = 8
  · rw [if_pos h_8] at hf
    refine lv_tableIn (tgt := 165) C.1.1 C.1.2.1 dX11_count_8 (by rw [h_8]; decide) (by rw [h_8]; decide) (by rw [h_8]; rfl) (by decide) ?_
    refine lv_iconst (v := 0) C.1.1 C.1.2.1 dX11_count_165 (by decide) ?_
    refine lv_istore_n (lv' := [(3, .int 0), (2, .int 0), (0, .ref (b 62)), (1, .int p1)]) C.1.1 C.1.2.1 dX11_count_166 rfl hl (by decide) rfl (fun ls hl => ?_)
    exact wX11_count_62_167 N hI C hr hlk N w (lv_sub hl [2, 1, 0] rfl) hf
  rw [if_neg h_8] at hf
  refine lv_tableOut (tgt := 194) C.1.1 C.1.2.1 dX11_count_8 (ns_out (by decide) (by decide) (fun k h1 h2 => ?_)) (by decide) ?_
  · rcases (by omega : k = 0 ∨ k = 1 ∨ k = 2 ∨ k = 3 ∨ k = 4 ∨ k = 5 ∨ k = 6 ∨ k = 7 ∨ k = 8) with rfl | rfl | rfl | rfl | rfl | rfl | rfl | rfl | rfl
    · exact h_0
    · exact h_1
    · exact h_2
    · exact h_3
    · exact h_4
    · exact h_5
    · exact h_6
    · exact h_7
    · exact h_8
  · refine lv_iconst (v := (-1)) C.1.1 C.1.2.1 dX11_count_194 (by decide) ?_
    have he := Option.some.inj hf
    subst he
    exact ns_iret C w hr hlk rfl rfl dX11_count_195
theorem lX10_waits_30 : Cond.fieldLink RX10 30 (TX10 4).1 (TX10 4).2.1 (TX10 4).2.2.1 ∈ wsX10_waits := List.mem_of_getElem? (i := 1) rfl
theorem lX10_waits_119 : Cond.fieldLink RX10 119 (TX6 2).1 (TX6 2).2.1 (TX6 2).2.2.1 ∈ wsX10_waits := List.mem_of_getElem? (i := 2) rfl
theorem lX10_waits_123 : Cond.fieldLink RX10 123 (TX4 0).1 (TX4 0).2.1 (TX4 0).2.2.1 ∈ wsX10_waits := List.mem_of_getElem? (i := 3) rfl
theorem inX10_waits_4 : ∀ w ∈ u_ws RX4 TX4 6, w ∈ wsX10_waits := fun _ h => List.mem_cons_of_mem _ (List.mem_append_left _ (List.mem_append_left _ (List.mem_append_right _ h)))
theorem inX10_waits_6 : ∀ w ∈ u_ws RX6 TX6 6, w ∈ wsX10_waits := fun _ h => List.mem_cons_of_mem _ (List.mem_append_left _ (List.mem_append_left _ (List.mem_append_left _ (List.mem_append_right _ h))))
theorem inX10_waits_10 : ∀ w ∈ u_ws RX10 TX10 6, w ∈ wsX10_waits := fun _ h => List.mem_cons_of_mem _ (List.mem_append_left _ (List.mem_append_left _ (List.mem_append_left _ (List.mem_append_left _ (List.mem_append_right _ h)))))
theorem hdX10_waits : yX10_waits.cls = RX10 ∧ yX10_waits.cls ≠ "java/lang/invoke/MethodHandle" ∧ yX10_waits.cls ≠ "java/lang/invoke/VarHandle" ∧ (parseMethodDescriptor yX10_waits.desc).map (fun d => d.parameters.length) = some 2 := by decide +kernel
abbrev wrX10_waits_0 : List (Nat × Nat) := []
abbrev rmX10_waits_0 : Room := { frames := 3, cells := 0, slots := 0, locals := 69 }
set_option maxHeartbeats 4000000 in
set_option maxRecDepth 100000 in
theorem wX10_waits_0_19 {p : Program} {l : Launch} {e : Env} {s : State} {m : MethodId} {args : Array Value} {below : List Frame} {meth : Method} {c : Code} {D : va_G} {b : Nat → Nat} {ids : List Nat} {A : Nat → Prop} {S0 : ns_S} {o : Int32} (N : Nat) (hI : ∀ i, i < 107 → i ∈ ids) (C : ns_C p m c cX10_waits 5 s args wsX10_waits RX10 D A) (hr : meth.sig.returnType = some .int) (hlk : meth.locks = false) : ∀ n : Nat, ∀ {S : ns_S} {H : Heap} {locs : List Loc} {ls : Array Slot} {l1 : Int32} {l2 : Int32} {l3 : Int32} {l4 : Int32}, ns_W D b ids A s.heap wrX10_waits_0 S0 S H locs → lv_has ls 5 [(0, .ref (b 0)), (1, .int l1), (2, .int l2), (3, .int l3), (4, .int l4)] → fX10_waits_19 N n (S.1 1984) (S.1 2368) (S.2.1 47) (S.2.1 41) (S.2.1 42) (S.1 2752) (S.2.1 32) (S.2.1 40) l1 l2 l3 l4 = some o → W p l e rmX10_waits_0 s m args below meth c H locs 0 0 (MQ below (ns_Q D b ids S0 (some (.int o)) A) args s 0 0 A) (F0 m 19 ls []) := by
  intro n
  induction n with
  | zero =>
    intro S H locs ls l1 l2 l3 l4 w hl hf
    cases hf
  | succ n K19 =>
    intro S H locs ls l1 l2 l3 l4 w hl hf
    change gX10_waits_19 N (fX10_waits_19 N n) (S.1 1984) (S.1 2368) (S.2.1 47) (S.2.1 41) (S.2.1 42) (S.1 2752) (S.2.1 32) (S.2.1 40) l1 l2 l3 l4 = some o at hf
    generalize fX10_waits_19 N n = r19 at hf K19
    unfold gX10_waits_19 at hf
    refine lv_iload C.1.1 C.1.2.1 dX10_waits_19 (lv_at hl 4 rfl) ?_
    refine lv_aload_n C.1.1 C.1.2.1 dX10_waits_21 rfl (lv_at hl 0 rfl) ?_
    refine ns_getr C w 0 (hI 0 (by decide)) sh_0 (rfl : vwCl[10]? = some (RX10, TX10, 6)) inX10_waits_10 4 (by decide) rfl lX10_waits_30 dX10_waits_22 ?_
    refine ns_getr C w 28 (hI 28 (by decide)) sh_28 (rfl : vwCl[6]? = some (RX6, TX6, 6)) inX10_waits_6 2 (by decide) rfl lX10_waits_119 dX10_waits_25 ?_
    refine ns_geti C w 37 (hI 37 (by decide)) sh_37 (rfl : vwCl[4]? = some (RX4, TX4, 6)) inX10_waits_4 0 (by decide) rfl lX10_waits_123 (S.1 2368) rfl dX10_waits_28 ?_
    refine ns_icmp_ge C hf (tgt := 65) dX10_waits_31 (by decide) (fun hf => ?_) (fun hf => ?_)
    · refine lv_iconst (v := (-1)) C.1.1 C.1.2.1 dX10_waits_65 (by decide) ?_
      have he := Option.some.inj hf
      subst he
      exact ns_iret C w hr hlk rfl rfl dX10_waits_66
    · refine lv_aload_n C.1.1 C.1.2.1 dX10_waits_34 rfl (lv_at hl 0 rfl) ?_
      refine ns_getr C w 0 (hI 0 (by decide)) sh_0 (rfl : vwCl[10]? = some (RX10, TX10, 6)) inX10_waits_10 4 (by decide) rfl lX10_waits_30 dX10_waits_35 ?_
      refine lv_iload C.1.1 C.1.2.1 dX10_waits_38 (lv_at hl 4 rfl) ?_
      refine lv_iload_n C.1.1 C.1.2.1 dX10_waits_40 rfl (lv_at hl 1 rfl) ?_
      refine ns_callV C w 28 (hI 28 (by decide)) sh_28 (rfl : vwCl[6]? = some (RX6, TX6, 6)) [.int l4, .int l1] hf (fun u hu => mX6_reasonFor_28 l D b ids hI N _ l4 l1 hu) gX10_waits_X6_reasonFor rfl rfl rfl hdX6_reasonFor ⟨Nat.le_of_ble_eq_true rfl, Nat.le_of_ble_eq_true rfl⟩ (fun u h => h) rfl hl.1 rfl (Nat.le_of_ble_eq_true rfl) ⟨Nat.le_refl _, Nat.le_refl _⟩ dX10_waits_41 (fun o1 H locs hf w => ?_)
      refine lv_iconst (v := 5) C.1.1 C.1.2.1 dX10_waits_44 (by decide) ?_
      refine ns_icmp_ne C hf (tgt := 59) dX10_waits_45 (by decide) (fun hf => ?_) (fun hf => ?_)
      · refine ns_iinc (lv' := fun x2 => [(4, .int x2), (0, .ref (b 0)), (1, .int l1), (2, .int l2), (3, .int l3)]) C hf dX10_waits_59 hl (k := 4) rfl rfl (by decide) (fun _ => rfl) (fun x2 ls hl hf => ?_)
        refine lv_goto (tgt := 19) C.1.1 C.1.2.1 dX10_waits_62 (by decide) ?_
        exact K19 w (lv_sub hl [1, 2, 3, 4, 0] rfl) hf
      · refine lv_iload_n C.1.1 C.1.2.1 dX10_waits_48 rfl (lv_at hl 3 rfl) ?_
        refine lv_iload_n C.1.1 C.1.2.1 dX10_waits_49 rfl (lv_at hl 2 rfl) ?_
        refine ns_icmp_ne C hf (tgt := 56) dX10_waits_50 (by decide) (fun hf => ?_) (fun hf => ?_)
        · refine ns_iinc (lv' := fun x3 => [(3, .int x3), (0, .ref (b 0)), (1, .int l1), (2, .int l2), (4, .int l4)]) C hf dX10_waits_56 hl (k := 3) rfl rfl (by decide) (fun _ => rfl) (fun x3 ls hl hf => ?_)
          refine ns_iinc (lv' := fun x4 => [(4, .int x4), (3, .int x3), (0, .ref (b 0)), (1, .int l1), (2, .int l2)]) C hf dX10_waits_59 hl (k := 4) rfl rfl (by decide) (fun _ => rfl) (fun x4 ls hl hf => ?_)
          refine lv_goto (tgt := 19) C.1.1 C.1.2.1 dX10_waits_62 (by decide) ?_
          exact K19 w (lv_sub hl [2, 3, 4, 1, 0] rfl) hf
        · refine lv_iload C.1.1 C.1.2.1 dX10_waits_53 (lv_at hl 4 rfl) ?_
          have he := Option.some.inj hf
          subst he
          exact ns_iret C w hr hlk rfl rfl dX10_waits_55
set_option maxHeartbeats 4000000 in
set_option maxRecDepth 100000 in
theorem mX10_waits_0 (l : Launch) (D : va_G) (b : Nat → Nat) (ids : List Nat) (hI : ∀ i, i < 107 → i ∈ ids) (N : Nat) (S : ns_S) (p1 : Int32) (p2 : Int32) {o : Int32} (hf : fX10_waits N (S.1 1984) (S.1 2368) (S.2.1 47) (S.2.1 41) (S.2.1 42) (S.1 2752) (S.2.1 32) (S.2.1 40) p1 p2 = some o) : ns_M l yX10_waits wsX10_waits rmX10_waits_0 D b ids S [.ref (b 0), .int p1, .int p2] (some (.int o)) S := by
  refine ns_start (Wr := wrX10_waits_0) (by decide) rfl (Nat.le_of_ble_eq_true rfl) ?_
  intro p e s m below meth c A ls C hr hlk w hl
  have hl : lv_has ls 5 [(0, .ref (b 0)), (1, .int p1), (2, .int p2)] := hl
  unfold fX10_waits at hf
  refine lv_aload_n C.1.1 C.1.2.1 dX10_waits_0 rfl (lv_at hl 0 rfl) ?_
  refine lv_iload_n C.1.1 C.1.2.1 dX10_waits_1 rfl (lv_at hl 1 rfl) ?_
  refine ns_callV C w 0 (hI 0 (by decide)) sh_0 (rfl : vwCl[10]? = some (RX10, TX10, 6)) [.int p1] hf (fun u hu => mX10_isCourse_0 l D b ids hI N _ p1 hu) gX10_waits_X10_isCourse rfl rfl rfl hdX10_isCourse ⟨Nat.le_of_ble_eq_true rfl, Nat.le_of_ble_eq_true rfl⟩ (fun u h => h) rfl hl.1 rfl (Nat.le_of_ble_eq_true rfl) ⟨Nat.le_refl _, Nat.le_refl _⟩ dX10_waits_2 (fun o1 H locs hf w => ?_)
  refine ns_if_eq C hf (tgt := 12) dX10_waits_5 (by decide) (fun hf => ?_) (fun hf => ?_)
  · refine lv_iconst (v := (-1)) C.1.1 C.1.2.1 dX10_waits_12 (by decide) ?_
    have he := Option.some.inj hf
    subst he
    exact ns_iret C w hr hlk rfl rfl dX10_waits_13
  · refine lv_iload_n C.1.1 C.1.2.1 dX10_waits_8 rfl (lv_at hl 2 rfl) ?_
    refine ns_if_ge C hf (tgt := 14) dX10_waits_9 (by decide) (fun hf => ?_) (fun hf => ?_)
    · refine lv_iconst (v := 0) C.1.1 C.1.2.1 dX10_waits_14 (by decide) ?_
      refine lv_istore_n (lv' := [(3, .int 0), (0, .ref (b 0)), (1, .int p1), (2, .int p2)]) C.1.1 C.1.2.1 dX10_waits_15 rfl hl (by decide) rfl (fun ls hl => ?_)
      refine lv_iconst (v := 0) C.1.1 C.1.2.1 dX10_waits_16 (by decide) ?_
      refine lv_istore (lv' := [(4, .int 0), (3, .int 0), (0, .ref (b 0)), (1, .int p1), (2, .int p2)]) C.1.1 C.1.2.1 dX10_waits_17 hl (by decide) rfl (fun ls hl => ?_)
      exact wX10_waits_0_19 N hI C hr hlk N w (lv_sub hl [2, 3, 4, 1, 0] rfl) hf
    · refine lv_iconst (v := (-1)) C.1.1 C.1.2.1 dX10_waits_12 (by decide) ?_
      have he := Option.some.inj hf
      subst he
      exact ns_iret C w hr hlk rfl rfl dX10_waits_13
theorem lX11_waits_42 : Cond.fieldLink RX11 42 (TX11 12).1 (TX11 12).2.1 (TX11 12).2.2.1 ∈ wsX11_waits := List.mem_of_getElem? (i := 2) rfl
theorem lX11_waits_179 : Cond.fieldLink RX11 179 (TX11 0).1 (TX11 0).2.1 (TX11 0).2.2.1 ∈ wsX11_waits := List.mem_of_getElem? (i := 1) rfl
theorem inX11_waits_11 : ∀ w ∈ u_ws RX11 TX11 59, w ∈ wsX11_waits := fun _ h => List.mem_cons_of_mem _ (List.mem_append_right _ h)
theorem hdX11_waits : yX11_waits.cls = RX11 ∧ yX11_waits.cls ≠ "java/lang/invoke/MethodHandle" ∧ yX11_waits.cls ≠ "java/lang/invoke/VarHandle" ∧ (parseMethodDescriptor yX11_waits.desc).map (fun d => d.parameters.length) = some 2 := by decide +kernel
abbrev wrX11_waits_62 : List (Nat × Nat) := [(0, 3968)]
abbrev rmX11_waits_62 : Room := { frames := 2, cells := 0, slots := 0, locals := 46 }
set_option maxHeartbeats 4000000 in
set_option maxRecDepth 100000 in
theorem wX11_waits_62_10 {p : Program} {l : Launch} {e : Env} {s : State} {m : MethodId} {args : Array Value} {below : List Frame} {meth : Method} {c : Code} {D : va_G} {b : Nat → Nat} {ids : List Nat} {A : Nat → Prop} {S0 : ns_S} {o : Int32 × Int32} (N : Nat) (hI : ∀ i, i < 107 → i ∈ ids) (C : ns_C p m c cX11_waits 5 s args wsX11_waits RX11 D A) (hr : meth.sig.returnType = some .int) (hlk : meth.locks = false) : ∀ n : Nat, ∀ {S : ns_S} {H : Heap} {locs : List Loc} {ls : Array Slot} {l1 : Int32} {l3 : Int32} {l4 : Int32}, ns_W D b ids A s.heap wrX11_waits_62 S0 S H locs → lv_has ls 5 [(0, .ref (b 62)), (1, .int l1), (3, .int l3), (4, .int l4)] → fX11_waits_10 N n (S.1 3968) (S.2.1 73) (S.2.1 67) (S.2.1 84) (S.2.1 77) (S.2.1 78) (S.2.1 80) (S.2.1 68) (S.2.1 76) (S.2.1 82) l1 l3 l4 = some o → W p l e rmX11_waits_62 s m args below meth c H locs 0 0 (MQ below (ns_Q D b ids (ns_I S0 3968 o.2) (some (.int o.1)) A) args s 0 0 A) (F0 m 10 ls []) := by
  intro n
  induction n with
  | zero =>
    intro S H locs ls l1 l3 l4 w hl hf
    cases hf
  | succ n K10 =>
    intro S H locs ls l1 l3 l4 w hl hf
    change gX11_waits_10 N (fX11_waits_10 N n) (S.1 3968) (S.2.1 73) (S.2.1 67) (S.2.1 84) (S.2.1 77) (S.2.1 78) (S.2.1 80) (S.2.1 68) (S.2.1 76) (S.2.1 82) l1 l3 l4 = some o at hf
    generalize fX11_waits_10 N n = r10 at hf K10
    unfold gX11_waits_10 at hf
    refine lv_iload C.1.1 C.1.2.1 dX11_waits_10 (lv_at hl 3 rfl) ?_
    refine lv_aload_n C.1.1 C.1.2.1 dX11_waits_12 rfl (lv_at hl 0 rfl) ?_
    refine ns_getr C w 62 (hI 62 (by decide)) sh_62 (rfl : vwCl[11]? = some (RX11, TX11, 59)) inX11_waits_11 12 (by decide) rfl lX11_waits_42 dX11_waits_13 ?_
    refine lv_iconst (v := 0) C.1.1 C.1.2.1 dX11_waits_16 (by decide) ?_
    refine ns_iald C w 73 (hI 73 (by decide)) sh_73 hf rfl dX11_waits_17 (fun x1 hf => ?_)
    refine ns_icmp_ge C hf (tgt := 63) dX11_waits_18 (by decide) (fun hf => ?_) (fun hf => ?_)
    · refine lv_iconst (v := (-1)) C.1.1 C.1.2.1 dX11_waits_63 (by decide) ?_
      have he := Option.some.inj hf
      subst he
      exact ns_iret C w hr hlk rfl rfl dX11_waits_64
    · refine lv_aload_n C.1.1 C.1.2.1 dX11_waits_21 rfl (lv_at hl 0 rfl) ?_
      refine lv_iload_n C.1.1 C.1.2.1 dX11_waits_22 rfl (lv_at hl 1 rfl) ?_
      refine ns_callV C w 62 (hI 62 (by decide)) sh_62 (rfl : vwCl[11]? = some (RX11, TX11, 59)) [.int l1] hf (fun u hu => mX11_isCourse_62 l D b ids hI N _ l1 hu) gX11_waits_X11_isCourse rfl rfl rfl hdX11_isCourse ⟨Nat.le_of_ble_eq_true rfl, Nat.le_of_ble_eq_true rfl⟩ (fun u h => h) rfl hl.1 rfl (Nat.le_of_ble_eq_true rfl) ⟨Nat.le_refl _, Nat.le_refl _⟩ dX11_waits_23 (fun o2 H locs hf w => ?_)
      refine ns_if_eq C hf (tgt := 63) dX11_waits_26 (by decide) (fun hf => ?_) (fun hf => ?_)
      · refine lv_iconst (v := (-1)) C.1.1 C.1.2.1 dX11_waits_63 (by decide) ?_
        have he := Option.some.inj hf
        subst he
        exact ns_iret C w hr hlk rfl rfl dX11_waits_64
      · refine lv_iload_n C.1.1 C.1.2.1 dX11_waits_29 rfl (lv_at hl 2 rfl) ?_
        refine ns_if_lt C hf (tgt := 63) dX11_waits_30 (by decide) (fun hf => ?_) (fun hf => ?_)
        · refine lv_iconst (v := (-1)) C.1.1 C.1.2.1 dX11_waits_63 (by decide) ?_
          have he := Option.some.inj hf
          subst he
          exact ns_iret C w hr hlk rfl rfl dX11_waits_64
        · refine lv_aload_n C.1.1 C.1.2.1 dX11_waits_33 rfl (lv_at hl 0 rfl) ?_
          refine lv_iload C.1.1 C.1.2.1 dX11_waits_34 (lv_at hl 3 rfl) ?_
          refine lv_iload_n C.1.1 C.1.2.1 dX11_waits_36 rfl (lv_at hl 1 rfl) ?_
          refine ns_callV C w 62 (hI 62 (by decide)) sh_62 (rfl : vwCl[11]? = some (RX11, TX11, 59)) [.int l4, .int l1] hf (fun u hu => mX11_reason_62 l D b ids hI N _ l4 l1 hu) gX11_waits_X11_reason rfl rfl rfl hdX11_reason ⟨Nat.le_of_ble_eq_true rfl, Nat.le_of_ble_eq_true rfl⟩ (fun u h => h) rfl hl.1 rfl (Nat.le_of_ble_eq_true rfl) ⟨Nat.le_refl _, Nat.le_refl _⟩ dX11_waits_37 (fun o3 H locs hf w => ?_)
          refine lv_iconst (v := 5) C.1.1 C.1.2.1 dX11_waits_40 (by decide) ?_
          refine ns_icmp_eq C hf (tgt := 47) dX11_waits_41 (by decide) (fun hf => ?_) (fun hf => ?_)
          · refine lv_iload_n C.1.1 C.1.2.1 dX11_waits_47 rfl (lv_at hl 2 rfl) ?_
            refine ns_if_ne C hf (tgt := 54) dX11_waits_48 (by decide) (fun hf => ?_) (fun hf => ?_)
            · refine ns_iinc (lv' := fun x4 => [(3, .int x4), (0, .ref (b 62)), (1, .int l1), (4, .int l4)]) C hf dX11_waits_54 hl (k := 2) rfl rfl (by decide) (fun _ => rfl) (fun x4 ls hl hf => ?_)
              refine ns_iinc (lv' := fun x5 => [(4, .int x5), (3, .int x4), (0, .ref (b 62)), (1, .int l1)]) C hf dX11_waits_57 hl (k := 3) rfl rfl (by decide) (fun _ => rfl) (fun x5 ls hl hf => ?_)
              refine lv_goto (tgt := 10) C.1.1 C.1.2.1 dX11_waits_60 (by decide) ?_
              exact K10 w (lv_sub hl [2, 3, 1, 0] rfl) hf
            · refine lv_iload C.1.1 C.1.2.1 dX11_waits_51 (lv_at hl 3 rfl) ?_
              have he := Option.some.inj hf
              subst he
              exact ns_iret C w hr hlk rfl rfl dX11_waits_53
          · refine lv_goto (tgt := 57) C.1.1 C.1.2.1 dX11_waits_44 (by decide) ?_
            refine ns_iinc (lv' := fun x6 => [(4, .int x6), (0, .ref (b 62)), (1, .int l1), (3, .int l3)]) C hf dX11_waits_57 hl (k := 3) rfl rfl (by decide) (fun _ => rfl) (fun x6 ls hl hf => ?_)
            refine lv_goto (tgt := 10) C.1.1 C.1.2.1 dX11_waits_60 (by decide) ?_
            exact K10 w (lv_sub hl [1, 2, 3, 0] rfl) hf
set_option maxHeartbeats 4000000 in
set_option maxRecDepth 100000 in
theorem mX11_waits_62 (l : Launch) (D : va_G) (b : Nat → Nat) (ids : List Nat) (hI : ∀ i, i < 107 → i ∈ ids) (N : Nat) (S : ns_S) (p1 : Int32) (p2 : Int32) {o : Int32 × Int32} (hf : fX11_waits N (S.1 3968) (S.2.1 73) (S.2.1 67) (S.2.1 84) (S.2.1 77) (S.2.1 78) (S.2.1 80) (S.2.1 68) (S.2.1 76) (S.2.1 82) p1 p2 = some o) : ns_M l yX11_waits wsX11_waits rmX11_waits_62 D b ids S [.ref (b 62), .int p1, .int p2] (some (.int o.1)) (ns_I S 3968 o.2) := by
  refine ns_start (Wr := wrX11_waits_62) (by decide) rfl (Nat.le_of_ble_eq_true rfl) ?_
  intro p e s m below meth c A ls C hr hlk w hl
  have hl : lv_has ls 5 [(0, .ref (b 62)), (1, .int p1), (2, .int p2)] := hl
  unfold fX11_waits at hf
  refine lv_aload_n C.1.1 C.1.2.1 dX11_waits_0 rfl (lv_at hl 0 rfl) ?_
  refine lv_iconst (v := 0) C.1.1 C.1.2.1 dX11_waits_1 (by decide) ?_
  refine ns_puti C w 62 (hI 62 (by decide)) sh_62 (rfl : vwCl[11]? = some (RX11, TX11, 59)) inX11_waits_11 tyX11_ok nmX11 0 (by decide) rfl lX11_waits_179 rfl rfl rfl (List.mem_of_getElem? (i := 0) rfl) dX11_waits_2 (fun H locs w => ?_)
  refine lv_iload_n C.1.1 C.1.2.1 dX11_waits_5 rfl (lv_at hl 2 rfl) ?_
  refine lv_istore_n (lv' := [(3, .int p2), (0, .ref (b 62)), (1, .int p1), (2, .int p2)]) C.1.1 C.1.2.1 dX11_waits_6 rfl hl (by decide) rfl (fun ls hl => ?_)
  refine lv_iconst (v := 0) C.1.1 C.1.2.1 dX11_waits_7 (by decide) ?_
  refine lv_istore (lv' := [(4, .int 0), (3, .int p2), (0, .ref (b 62)), (1, .int p1), (2, .int p2)]) C.1.1 C.1.2.1 dX11_waits_8 hl (by decide) rfl (fun ls hl => ?_)
  exact wX11_waits_62_10 N hI C hr hlk N w (lv_sub hl [2, 3, 1, 0] rfl) hf
theorem hdX11_move : yX11_move.cls ≠ "java/lang/invoke/MethodHandle" ∧ yX11_move.cls ≠ "java/lang/invoke/VarHandle" ∧ (parseMethodDescriptor yX11_move.desc).map (fun d => d.parameters.length) = some 4 := by decide +kernel
abbrev wrX11_move_65 : List (Nat × Nat) := [(1, 65)]
abbrev rmX11_move_65 : Room := { frames := 0, cells := 0, slots := 0, locals := 0 }
set_option maxHeartbeats 4000000 in
set_option maxRecDepth 100000 in
theorem wX11_move_65_3 {p : Program} {l : Launch} {e : Env} {s : State} {m : MethodId} {args : Array Value} {below : List Frame} {meth : Method} {c : Code} {D : va_G} {b : Nat → Nat} {ids : List Nat} {A : Nat → Prop} {S0 : ns_S} {o : (Nat → Int32)} (N : Nat) (hI : ∀ i, i < 107 → i ∈ ids) (C : ns_C p m c cX11_move 5 s args wsX11_move RX11 D A) (hr : meth.sig.returnType = none) (hlk : meth.locks = false) : ∀ n : Nat, ∀ {S : ns_S} {H : Heap} {locs : List Loc} {ls : Array Slot} {l1 : Int32} {l2 : Int32} {l3 : Int32} {l4 : Int32}, ns_W D b ids A s.heap wrX11_move_65 S0 S H locs → lv_has ls 5 [(0, .ref (b 65)), (1, .int l1), (2, .int l2), (3, .int l3), (4, .int l4)] → fX11_move_3 N 4 n (S.2.1 65) l1 l2 l3 l4 = some o → W p l e rmX11_move_65 s m args below meth c H locs 0 0 (MQ below (ns_Q D b ids (ns_A S0 65 o) none A) args s 0 0 A) (F0 m 3 ls []) := by
  intro n
  induction n with
  | zero =>
    intro S H locs ls l1 l2 l3 l4 w hl hf
    cases hf
  | succ n K3 =>
    intro S H locs ls l1 l2 l3 l4 w hl hf
    change gX11_move_3 N 4 (fX11_move_3 N 4 n) (S.2.1 65) l1 l2 l3 l4 = some o at hf
    generalize fX11_move_3 N 4 n = r3 at hf K3
    unfold gX11_move_3 at hf
    refine lv_iload C.1.1 C.1.2.1 dX11_move_3 (lv_at hl 4 rfl) ?_
    refine lv_iload_n C.1.1 C.1.2.1 dX11_move_5 rfl (lv_at hl 1 rfl) ?_
    refine ns_icmp_ge C hf (tgt := 31) dX11_move_6 (by decide) (fun hf => ?_) (fun hf => ?_)
    · have he := Option.some.inj hf
      subst he
      exact ns_vret C w hr hlk rfl rfl dX11_move_31
    · refine lv_aload_n C.1.1 C.1.2.1 dX11_move_9 rfl (lv_at hl 0 rfl) ?_
      refine lv_iload_n C.1.1 C.1.2.1 dX11_move_10 rfl (lv_at hl 1 rfl) ?_
      refine lv_iload_n C.1.1 C.1.2.1 dX11_move_11 rfl (lv_at hl 3 rfl) ?_
      refine lv_imul C.1.1 C.1.2.1 dX11_move_12 ?_
      refine lv_iload C.1.1 C.1.2.1 dX11_move_13 (lv_at hl 4 rfl) ?_
      refine lv_iadd C.1.1 C.1.2.1 dX11_move_15 ?_
      refine lv_aload_n C.1.1 C.1.2.1 dX11_move_16 rfl (lv_at hl 0 rfl) ?_
      refine lv_iload_n C.1.1 C.1.2.1 dX11_move_17 rfl (lv_at hl 1 rfl) ?_
      refine lv_iload_n C.1.1 C.1.2.1 dX11_move_18 rfl (lv_at hl 2 rfl) ?_
      refine lv_imul C.1.1 C.1.2.1 dX11_move_19 ?_
      refine lv_iload C.1.1 C.1.2.1 dX11_move_20 (lv_at hl 4 rfl) ?_
      refine lv_iadd C.1.1 C.1.2.1 dX11_move_22 ?_
      refine ns_iald C w 65 (hI 65 (by decide)) sh_65 hf rfl dX11_move_23 (fun x1 hf => ?_)
      refine ns_iast C w 65 (hI 65 (by decide)) sh_65 hf rfl (List.mem_of_getElem? (i := 0) rfl) dX11_move_24 (fun y2 H locs hf w => ?_)
      refine ns_iinc (lv' := fun x3 => [(4, .int x3), (0, .ref (b 65)), (1, .int l1), (2, .int l2), (3, .int l3)]) C hf dX11_move_25 hl (k := 4) rfl rfl (by decide) (fun _ => rfl) (fun x3 ls hl hf => ?_)
      refine lv_goto (tgt := 3) C.1.1 C.1.2.1 dX11_move_28 (by decide) ?_
      exact K3 w (lv_sub hl [1, 2, 3, 4, 0] rfl) hf
set_option maxHeartbeats 4000000 in
set_option maxRecDepth 100000 in
theorem mX11_move_65 (l : Launch) (D : va_G) (b : Nat → Nat) (ids : List Nat) (hI : ∀ i, i < 107 → i ∈ ids) (N : Nat) (S : ns_S) (p1 : Int32) (p2 : Int32) (p3 : Int32) {o : (Nat → Int32)} (hf : fX11_move N 4 (S.2.1 65) p1 p2 p3 = some o) : ns_M l yX11_move wsX11_move rmX11_move_65 D b ids S [.ref (b 65), .int p1, .int p2, .int p3] none (ns_A S 65 o) := by
  refine ns_start (Wr := wrX11_move_65) (by decide) rfl (Nat.le_of_ble_eq_true rfl) ?_
  intro p e s m below meth c A ls C hr hlk w hl
  have hl : lv_has ls 5 [(0, .ref (b 65)), (1, .int p1), (2, .int p2), (3, .int p3)] := hl
  unfold fX11_move at hf
  refine lv_iconst (v := 0) C.1.1 C.1.2.1 dX11_move_0 (by decide) ?_
  refine lv_istore (lv' := [(4, .int 0), (0, .ref (b 65)), (1, .int p1), (2, .int p2), (3, .int p3)]) C.1.1 C.1.2.1 dX11_move_1 hl (by decide) rfl (fun ls hl => ?_)
  exact wX11_move_65_3 N hI C hr hlk N w (lv_sub hl [1, 2, 3, 4, 0] rfl) hf
abbrev wrX11_move_66 : List (Nat × Nat) := [(1, 66)]
abbrev rmX11_move_66 : Room := { frames := 0, cells := 0, slots := 0, locals := 0 }
set_option maxHeartbeats 4000000 in
set_option maxRecDepth 100000 in
theorem wX11_move_66_3 {p : Program} {l : Launch} {e : Env} {s : State} {m : MethodId} {args : Array Value} {below : List Frame} {meth : Method} {c : Code} {D : va_G} {b : Nat → Nat} {ids : List Nat} {A : Nat → Prop} {S0 : ns_S} {o : (Nat → Int32)} (N : Nat) (hI : ∀ i, i < 107 → i ∈ ids) (C : ns_C p m c cX11_move 5 s args wsX11_move RX11 D A) (hr : meth.sig.returnType = none) (hlk : meth.locks = false) : ∀ n : Nat, ∀ {S : ns_S} {H : Heap} {locs : List Loc} {ls : Array Slot} {l1 : Int32} {l2 : Int32} {l3 : Int32} {l4 : Int32}, ns_W D b ids A s.heap wrX11_move_66 S0 S H locs → lv_has ls 5 [(0, .ref (b 66)), (1, .int l1), (2, .int l2), (3, .int l3), (4, .int l4)] → fX11_move_3 N 20 n (S.2.1 66) l1 l2 l3 l4 = some o → W p l e rmX11_move_66 s m args below meth c H locs 0 0 (MQ below (ns_Q D b ids (ns_A S0 66 o) none A) args s 0 0 A) (F0 m 3 ls []) := by
  intro n
  induction n with
  | zero =>
    intro S H locs ls l1 l2 l3 l4 w hl hf
    cases hf
  | succ n K3 =>
    intro S H locs ls l1 l2 l3 l4 w hl hf
    change gX11_move_3 N 20 (fX11_move_3 N 20 n) (S.2.1 66) l1 l2 l3 l4 = some o at hf
    generalize fX11_move_3 N 20 n = r3 at hf K3
    unfold gX11_move_3 at hf
    refine lv_iload C.1.1 C.1.2.1 dX11_move_3 (lv_at hl 4 rfl) ?_
    refine lv_iload_n C.1.1 C.1.2.1 dX11_move_5 rfl (lv_at hl 1 rfl) ?_
    refine ns_icmp_ge C hf (tgt := 31) dX11_move_6 (by decide) (fun hf => ?_) (fun hf => ?_)
    · have he := Option.some.inj hf
      subst he
      exact ns_vret C w hr hlk rfl rfl dX11_move_31
    · refine lv_aload_n C.1.1 C.1.2.1 dX11_move_9 rfl (lv_at hl 0 rfl) ?_
      refine lv_iload_n C.1.1 C.1.2.1 dX11_move_10 rfl (lv_at hl 1 rfl) ?_
      refine lv_iload_n C.1.1 C.1.2.1 dX11_move_11 rfl (lv_at hl 3 rfl) ?_
      refine lv_imul C.1.1 C.1.2.1 dX11_move_12 ?_
      refine lv_iload C.1.1 C.1.2.1 dX11_move_13 (lv_at hl 4 rfl) ?_
      refine lv_iadd C.1.1 C.1.2.1 dX11_move_15 ?_
      refine lv_aload_n C.1.1 C.1.2.1 dX11_move_16 rfl (lv_at hl 0 rfl) ?_
      refine lv_iload_n C.1.1 C.1.2.1 dX11_move_17 rfl (lv_at hl 1 rfl) ?_
      refine lv_iload_n C.1.1 C.1.2.1 dX11_move_18 rfl (lv_at hl 2 rfl) ?_
      refine lv_imul C.1.1 C.1.2.1 dX11_move_19 ?_
      refine lv_iload C.1.1 C.1.2.1 dX11_move_20 (lv_at hl 4 rfl) ?_
      refine lv_iadd C.1.1 C.1.2.1 dX11_move_22 ?_
      refine ns_iald C w 66 (hI 66 (by decide)) sh_66 hf rfl dX11_move_23 (fun x1 hf => ?_)
      refine ns_iast C w 66 (hI 66 (by decide)) sh_66 hf rfl (List.mem_of_getElem? (i := 0) rfl) dX11_move_24 (fun y2 H locs hf w => ?_)
      refine ns_iinc (lv' := fun x3 => [(4, .int x3), (0, .ref (b 66)), (1, .int l1), (2, .int l2), (3, .int l3)]) C hf dX11_move_25 hl (k := 4) rfl rfl (by decide) (fun _ => rfl) (fun x3 ls hl hf => ?_)
      refine lv_goto (tgt := 3) C.1.1 C.1.2.1 dX11_move_28 (by decide) ?_
      exact K3 w (lv_sub hl [1, 2, 3, 4, 0] rfl) hf
set_option maxHeartbeats 4000000 in
set_option maxRecDepth 100000 in
theorem mX11_move_66 (l : Launch) (D : va_G) (b : Nat → Nat) (ids : List Nat) (hI : ∀ i, i < 107 → i ∈ ids) (N : Nat) (S : ns_S) (p1 : Int32) (p2 : Int32) (p3 : Int32) {o : (Nat → Int32)} (hf : fX11_move N 20 (S.2.1 66) p1 p2 p3 = some o) : ns_M l yX11_move wsX11_move rmX11_move_66 D b ids S [.ref (b 66), .int p1, .int p2, .int p3] none (ns_A S 66 o) := by
  refine ns_start (Wr := wrX11_move_66) (by decide) rfl (Nat.le_of_ble_eq_true rfl) ?_
  intro p e s m below meth c A ls C hr hlk w hl
  have hl : lv_has ls 5 [(0, .ref (b 66)), (1, .int p1), (2, .int p2), (3, .int p3)] := hl
  unfold fX11_move at hf
  refine lv_iconst (v := 0) C.1.1 C.1.2.1 dX11_move_0 (by decide) ?_
  refine lv_istore (lv' := [(4, .int 0), (0, .ref (b 66)), (1, .int p1), (2, .int p2), (3, .int p3)]) C.1.1 C.1.2.1 dX11_move_1 hl (by decide) rfl (fun ls hl => ?_)
  exact wX11_move_66_3 N hI C hr hlk N w (lv_sub hl [1, 2, 3, 4, 0] rfl) hf
abbrev wrX11_move_67 : List (Nat × Nat) := [(1, 67)]
abbrev rmX11_move_67 : Room := { frames := 0, cells := 0, slots := 0, locals := 0 }
set_option maxHeartbeats 4000000 in
set_option maxRecDepth 100000 in
theorem wX11_move_67_3 {p : Program} {l : Launch} {e : Env} {s : State} {m : MethodId} {args : Array Value} {below : List Frame} {meth : Method} {c : Code} {D : va_G} {b : Nat → Nat} {ids : List Nat} {A : Nat → Prop} {S0 : ns_S} {o : (Nat → Int32)} (N : Nat) (hI : ∀ i, i < 107 → i ∈ ids) (C : ns_C p m c cX11_move 5 s args wsX11_move RX11 D A) (hr : meth.sig.returnType = none) (hlk : meth.locks = false) : ∀ n : Nat, ∀ {S : ns_S} {H : Heap} {locs : List Loc} {ls : Array Slot} {l1 : Int32} {l2 : Int32} {l3 : Int32} {l4 : Int32}, ns_W D b ids A s.heap wrX11_move_67 S0 S H locs → lv_has ls 5 [(0, .ref (b 67)), (1, .int l1), (2, .int l2), (3, .int l3), (4, .int l4)] → fX11_move_3 N 4 n (S.2.1 67) l1 l2 l3 l4 = some o → W p l e rmX11_move_67 s m args below meth c H locs 0 0 (MQ below (ns_Q D b ids (ns_A S0 67 o) none A) args s 0 0 A) (F0 m 3 ls []) := by
  intro n
  induction n with
  | zero =>
    intro S H locs ls l1 l2 l3 l4 w hl hf
    cases hf
  | succ n K3 =>
    intro S H locs ls l1 l2 l3 l4 w hl hf
    change gX11_move_3 N 4 (fX11_move_3 N 4 n) (S.2.1 67) l1 l2 l3 l4 = some o at hf
    generalize fX11_move_3 N 4 n = r3 at hf K3
    unfold gX11_move_3 at hf
    refine lv_iload C.1.1 C.1.2.1 dX11_move_3 (lv_at hl 4 rfl) ?_
    refine lv_iload_n C.1.1 C.1.2.1 dX11_move_5 rfl (lv_at hl 1 rfl) ?_
    refine ns_icmp_ge C hf (tgt := 31) dX11_move_6 (by decide) (fun hf => ?_) (fun hf => ?_)
    · have he := Option.some.inj hf
      subst he
      exact ns_vret C w hr hlk rfl rfl dX11_move_31
    · refine lv_aload_n C.1.1 C.1.2.1 dX11_move_9 rfl (lv_at hl 0 rfl) ?_
      refine lv_iload_n C.1.1 C.1.2.1 dX11_move_10 rfl (lv_at hl 1 rfl) ?_
      refine lv_iload_n C.1.1 C.1.2.1 dX11_move_11 rfl (lv_at hl 3 rfl) ?_
      refine lv_imul C.1.1 C.1.2.1 dX11_move_12 ?_
      refine lv_iload C.1.1 C.1.2.1 dX11_move_13 (lv_at hl 4 rfl) ?_
      refine lv_iadd C.1.1 C.1.2.1 dX11_move_15 ?_
      refine lv_aload_n C.1.1 C.1.2.1 dX11_move_16 rfl (lv_at hl 0 rfl) ?_
      refine lv_iload_n C.1.1 C.1.2.1 dX11_move_17 rfl (lv_at hl 1 rfl) ?_
      refine lv_iload_n C.1.1 C.1.2.1 dX11_move_18 rfl (lv_at hl 2 rfl) ?_
      refine lv_imul C.1.1 C.1.2.1 dX11_move_19 ?_
      refine lv_iload C.1.1 C.1.2.1 dX11_move_20 (lv_at hl 4 rfl) ?_
      refine lv_iadd C.1.1 C.1.2.1 dX11_move_22 ?_
      refine ns_iald C w 67 (hI 67 (by decide)) sh_67 hf rfl dX11_move_23 (fun x1 hf => ?_)
      refine ns_iast C w 67 (hI 67 (by decide)) sh_67 hf rfl (List.mem_of_getElem? (i := 0) rfl) dX11_move_24 (fun y2 H locs hf w => ?_)
      refine ns_iinc (lv' := fun x3 => [(4, .int x3), (0, .ref (b 67)), (1, .int l1), (2, .int l2), (3, .int l3)]) C hf dX11_move_25 hl (k := 4) rfl rfl (by decide) (fun _ => rfl) (fun x3 ls hl hf => ?_)
      refine lv_goto (tgt := 3) C.1.1 C.1.2.1 dX11_move_28 (by decide) ?_
      exact K3 w (lv_sub hl [1, 2, 3, 4, 0] rfl) hf
set_option maxHeartbeats 4000000 in
set_option maxRecDepth 100000 in
theorem mX11_move_67 (l : Launch) (D : va_G) (b : Nat → Nat) (ids : List Nat) (hI : ∀ i, i < 107 → i ∈ ids) (N : Nat) (S : ns_S) (p1 : Int32) (p2 : Int32) (p3 : Int32) {o : (Nat → Int32)} (hf : fX11_move N 4 (S.2.1 67) p1 p2 p3 = some o) : ns_M l yX11_move wsX11_move rmX11_move_67 D b ids S [.ref (b 67), .int p1, .int p2, .int p3] none (ns_A S 67 o) := by
  refine ns_start (Wr := wrX11_move_67) (by decide) rfl (Nat.le_of_ble_eq_true rfl) ?_
  intro p e s m below meth c A ls C hr hlk w hl
  have hl : lv_has ls 5 [(0, .ref (b 67)), (1, .int p1), (2, .int p2), (3, .int p3)] := hl
  unfold fX11_move at hf
  refine lv_iconst (v := 0) C.1.1 C.1.2.1 dX11_move_0 (by decide) ?_
  refine lv_istore (lv' := [(4, .int 0), (0, .ref (b 67)), (1, .int p1), (2, .int p2), (3, .int p3)]) C.1.1 C.1.2.1 dX11_move_1 hl (by decide) rfl (fun ls hl => ?_)
  exact wX11_move_67_3 N hI C hr hlk N w (lv_sub hl [1, 2, 3, 4, 0] rfl) hf
abbrev wrX11_move_68 : List (Nat × Nat) := [(1, 68)]
abbrev rmX11_move_68 : Room := { frames := 0, cells := 0, slots := 0, locals := 0 }
set_option maxHeartbeats 4000000 in
set_option maxRecDepth 100000 in
theorem wX11_move_68_3 {p : Program} {l : Launch} {e : Env} {s : State} {m : MethodId} {args : Array Value} {below : List Frame} {meth : Method} {c : Code} {D : va_G} {b : Nat → Nat} {ids : List Nat} {A : Nat → Prop} {S0 : ns_S} {o : (Nat → Int32)} (N : Nat) (hI : ∀ i, i < 107 → i ∈ ids) (C : ns_C p m c cX11_move 5 s args wsX11_move RX11 D A) (hr : meth.sig.returnType = none) (hlk : meth.locks = false) : ∀ n : Nat, ∀ {S : ns_S} {H : Heap} {locs : List Loc} {ls : Array Slot} {l1 : Int32} {l2 : Int32} {l3 : Int32} {l4 : Int32}, ns_W D b ids A s.heap wrX11_move_68 S0 S H locs → lv_has ls 5 [(0, .ref (b 68)), (1, .int l1), (2, .int l2), (3, .int l3), (4, .int l4)] → fX11_move_3 N 40 n (S.2.1 68) l1 l2 l3 l4 = some o → W p l e rmX11_move_68 s m args below meth c H locs 0 0 (MQ below (ns_Q D b ids (ns_A S0 68 o) none A) args s 0 0 A) (F0 m 3 ls []) := by
  intro n
  induction n with
  | zero =>
    intro S H locs ls l1 l2 l3 l4 w hl hf
    cases hf
  | succ n K3 =>
    intro S H locs ls l1 l2 l3 l4 w hl hf
    change gX11_move_3 N 40 (fX11_move_3 N 40 n) (S.2.1 68) l1 l2 l3 l4 = some o at hf
    generalize fX11_move_3 N 40 n = r3 at hf K3
    unfold gX11_move_3 at hf
    refine lv_iload C.1.1 C.1.2.1 dX11_move_3 (lv_at hl 4 rfl) ?_
    refine lv_iload_n C.1.1 C.1.2.1 dX11_move_5 rfl (lv_at hl 1 rfl) ?_
    refine ns_icmp_ge C hf (tgt := 31) dX11_move_6 (by decide) (fun hf => ?_) (fun hf => ?_)
    · have he := Option.some.inj hf
      subst he
      exact ns_vret C w hr hlk rfl rfl dX11_move_31
    · refine lv_aload_n C.1.1 C.1.2.1 dX11_move_9 rfl (lv_at hl 0 rfl) ?_
      refine lv_iload_n C.1.1 C.1.2.1 dX11_move_10 rfl (lv_at hl 1 rfl) ?_
      refine lv_iload_n C.1.1 C.1.2.1 dX11_move_11 rfl (lv_at hl 3 rfl) ?_
      refine lv_imul C.1.1 C.1.2.1 dX11_move_12 ?_
      refine lv_iload C.1.1 C.1.2.1 dX11_move_13 (lv_at hl 4 rfl) ?_
      refine lv_iadd C.1.1 C.1.2.1 dX11_move_15 ?_
      refine lv_aload_n C.1.1 C.1.2.1 dX11_move_16 rfl (lv_at hl 0 rfl) ?_
      refine lv_iload_n C.1.1 C.1.2.1 dX11_move_17 rfl (lv_at hl 1 rfl) ?_
      refine lv_iload_n C.1.1 C.1.2.1 dX11_move_18 rfl (lv_at hl 2 rfl) ?_
      refine lv_imul C.1.1 C.1.2.1 dX11_move_19 ?_
      refine lv_iload C.1.1 C.1.2.1 dX11_move_20 (lv_at hl 4 rfl) ?_
      refine lv_iadd C.1.1 C.1.2.1 dX11_move_22 ?_
      refine ns_iald C w 68 (hI 68 (by decide)) sh_68 hf rfl dX11_move_23 (fun x1 hf => ?_)
      refine ns_iast C w 68 (hI 68 (by decide)) sh_68 hf rfl (List.mem_of_getElem? (i := 0) rfl) dX11_move_24 (fun y2 H locs hf w => ?_)
      refine ns_iinc (lv' := fun x3 => [(4, .int x3), (0, .ref (b 68)), (1, .int l1), (2, .int l2), (3, .int l3)]) C hf dX11_move_25 hl (k := 4) rfl rfl (by decide) (fun _ => rfl) (fun x3 ls hl hf => ?_)
      refine lv_goto (tgt := 3) C.1.1 C.1.2.1 dX11_move_28 (by decide) ?_
      exact K3 w (lv_sub hl [1, 2, 3, 4, 0] rfl) hf
set_option maxHeartbeats 4000000 in
set_option maxRecDepth 100000 in
theorem mX11_move_68 (l : Launch) (D : va_G) (b : Nat → Nat) (ids : List Nat) (hI : ∀ i, i < 107 → i ∈ ids) (N : Nat) (S : ns_S) (p1 : Int32) (p2 : Int32) (p3 : Int32) {o : (Nat → Int32)} (hf : fX11_move N 40 (S.2.1 68) p1 p2 p3 = some o) : ns_M l yX11_move wsX11_move rmX11_move_68 D b ids S [.ref (b 68), .int p1, .int p2, .int p3] none (ns_A S 68 o) := by
  refine ns_start (Wr := wrX11_move_68) (by decide) rfl (Nat.le_of_ble_eq_true rfl) ?_
  intro p e s m below meth c A ls C hr hlk w hl
  have hl : lv_has ls 5 [(0, .ref (b 68)), (1, .int p1), (2, .int p2), (3, .int p3)] := hl
  unfold fX11_move at hf
  refine lv_iconst (v := 0) C.1.1 C.1.2.1 dX11_move_0 (by decide) ?_
  refine lv_istore (lv' := [(4, .int 0), (0, .ref (b 68)), (1, .int p1), (2, .int p2), (3, .int p3)]) C.1.1 C.1.2.1 dX11_move_1 hl (by decide) rfl (fun ls hl => ?_)
  exact wX11_move_68_3 N hI C hr hlk N w (lv_sub hl [1, 2, 3, 4, 0] rfl) hf
abbrev wrX11_move_69 : List (Nat × Nat) := [(1, 69)]
abbrev rmX11_move_69 : Room := { frames := 0, cells := 0, slots := 0, locals := 0 }
set_option maxHeartbeats 4000000 in
set_option maxRecDepth 100000 in
theorem wX11_move_69_3 {p : Program} {l : Launch} {e : Env} {s : State} {m : MethodId} {args : Array Value} {below : List Frame} {meth : Method} {c : Code} {D : va_G} {b : Nat → Nat} {ids : List Nat} {A : Nat → Prop} {S0 : ns_S} {o : (Nat → Int32)} (N : Nat) (hI : ∀ i, i < 107 → i ∈ ids) (C : ns_C p m c cX11_move 5 s args wsX11_move RX11 D A) (hr : meth.sig.returnType = none) (hlk : meth.locks = false) : ∀ n : Nat, ∀ {S : ns_S} {H : Heap} {locs : List Loc} {ls : Array Slot} {l1 : Int32} {l2 : Int32} {l3 : Int32} {l4 : Int32}, ns_W D b ids A s.heap wrX11_move_69 S0 S H locs → lv_has ls 5 [(0, .ref (b 69)), (1, .int l1), (2, .int l2), (3, .int l3), (4, .int l4)] → fX11_move_3 N 40 n (S.2.1 69) l1 l2 l3 l4 = some o → W p l e rmX11_move_69 s m args below meth c H locs 0 0 (MQ below (ns_Q D b ids (ns_A S0 69 o) none A) args s 0 0 A) (F0 m 3 ls []) := by
  intro n
  induction n with
  | zero =>
    intro S H locs ls l1 l2 l3 l4 w hl hf
    cases hf
  | succ n K3 =>
    intro S H locs ls l1 l2 l3 l4 w hl hf
    change gX11_move_3 N 40 (fX11_move_3 N 40 n) (S.2.1 69) l1 l2 l3 l4 = some o at hf
    generalize fX11_move_3 N 40 n = r3 at hf K3
    unfold gX11_move_3 at hf
    refine lv_iload C.1.1 C.1.2.1 dX11_move_3 (lv_at hl 4 rfl) ?_
    refine lv_iload_n C.1.1 C.1.2.1 dX11_move_5 rfl (lv_at hl 1 rfl) ?_
    refine ns_icmp_ge C hf (tgt := 31) dX11_move_6 (by decide) (fun hf => ?_) (fun hf => ?_)
    · have he := Option.some.inj hf
      subst he
      exact ns_vret C w hr hlk rfl rfl dX11_move_31
    · refine lv_aload_n C.1.1 C.1.2.1 dX11_move_9 rfl (lv_at hl 0 rfl) ?_
      refine lv_iload_n C.1.1 C.1.2.1 dX11_move_10 rfl (lv_at hl 1 rfl) ?_
      refine lv_iload_n C.1.1 C.1.2.1 dX11_move_11 rfl (lv_at hl 3 rfl) ?_
      refine lv_imul C.1.1 C.1.2.1 dX11_move_12 ?_
      refine lv_iload C.1.1 C.1.2.1 dX11_move_13 (lv_at hl 4 rfl) ?_
      refine lv_iadd C.1.1 C.1.2.1 dX11_move_15 ?_
      refine lv_aload_n C.1.1 C.1.2.1 dX11_move_16 rfl (lv_at hl 0 rfl) ?_
      refine lv_iload_n C.1.1 C.1.2.1 dX11_move_17 rfl (lv_at hl 1 rfl) ?_
      refine lv_iload_n C.1.1 C.1.2.1 dX11_move_18 rfl (lv_at hl 2 rfl) ?_
      refine lv_imul C.1.1 C.1.2.1 dX11_move_19 ?_
      refine lv_iload C.1.1 C.1.2.1 dX11_move_20 (lv_at hl 4 rfl) ?_
      refine lv_iadd C.1.1 C.1.2.1 dX11_move_22 ?_
      refine ns_iald C w 69 (hI 69 (by decide)) sh_69 hf rfl dX11_move_23 (fun x1 hf => ?_)
      refine ns_iast C w 69 (hI 69 (by decide)) sh_69 hf rfl (List.mem_of_getElem? (i := 0) rfl) dX11_move_24 (fun y2 H locs hf w => ?_)
      refine ns_iinc (lv' := fun x3 => [(4, .int x3), (0, .ref (b 69)), (1, .int l1), (2, .int l2), (3, .int l3)]) C hf dX11_move_25 hl (k := 4) rfl rfl (by decide) (fun _ => rfl) (fun x3 ls hl hf => ?_)
      refine lv_goto (tgt := 3) C.1.1 C.1.2.1 dX11_move_28 (by decide) ?_
      exact K3 w (lv_sub hl [1, 2, 3, 4, 0] rfl) hf
set_option maxHeartbeats 4000000 in
set_option maxRecDepth 100000 in
theorem mX11_move_69 (l : Launch) (D : va_G) (b : Nat → Nat) (ids : List Nat) (hI : ∀ i, i < 107 → i ∈ ids) (N : Nat) (S : ns_S) (p1 : Int32) (p2 : Int32) (p3 : Int32) {o : (Nat → Int32)} (hf : fX11_move N 40 (S.2.1 69) p1 p2 p3 = some o) : ns_M l yX11_move wsX11_move rmX11_move_69 D b ids S [.ref (b 69), .int p1, .int p2, .int p3] none (ns_A S 69 o) := by
  refine ns_start (Wr := wrX11_move_69) (by decide) rfl (Nat.le_of_ble_eq_true rfl) ?_
  intro p e s m below meth c A ls C hr hlk w hl
  have hl : lv_has ls 5 [(0, .ref (b 69)), (1, .int p1), (2, .int p2), (3, .int p3)] := hl
  unfold fX11_move at hf
  refine lv_iconst (v := 0) C.1.1 C.1.2.1 dX11_move_0 (by decide) ?_
  refine lv_istore (lv' := [(4, .int 0), (0, .ref (b 69)), (1, .int p1), (2, .int p2), (3, .int p3)]) C.1.1 C.1.2.1 dX11_move_1 hl (by decide) rfl (fun ls hl => ?_)
  exact wX11_move_69_3 N hI C hr hlk N w (lv_sub hl [1, 2, 3, 4, 0] rfl) hf
abbrev wrX11_move_70 : List (Nat × Nat) := [(1, 70)]
abbrev rmX11_move_70 : Room := { frames := 0, cells := 0, slots := 0, locals := 0 }
set_option maxHeartbeats 4000000 in
set_option maxRecDepth 100000 in
theorem wX11_move_70_3 {p : Program} {l : Launch} {e : Env} {s : State} {m : MethodId} {args : Array Value} {below : List Frame} {meth : Method} {c : Code} {D : va_G} {b : Nat → Nat} {ids : List Nat} {A : Nat → Prop} {S0 : ns_S} {o : (Nat → Int32)} (N : Nat) (hI : ∀ i, i < 107 → i ∈ ids) (C : ns_C p m c cX11_move 5 s args wsX11_move RX11 D A) (hr : meth.sig.returnType = none) (hlk : meth.locks = false) : ∀ n : Nat, ∀ {S : ns_S} {H : Heap} {locs : List Loc} {ls : Array Slot} {l1 : Int32} {l2 : Int32} {l3 : Int32} {l4 : Int32}, ns_W D b ids A s.heap wrX11_move_70 S0 S H locs → lv_has ls 5 [(0, .ref (b 70)), (1, .int l1), (2, .int l2), (3, .int l3), (4, .int l4)] → fX11_move_3 N 40 n (S.2.1 70) l1 l2 l3 l4 = some o → W p l e rmX11_move_70 s m args below meth c H locs 0 0 (MQ below (ns_Q D b ids (ns_A S0 70 o) none A) args s 0 0 A) (F0 m 3 ls []) := by
  intro n
  induction n with
  | zero =>
    intro S H locs ls l1 l2 l3 l4 w hl hf
    cases hf
  | succ n K3 =>
    intro S H locs ls l1 l2 l3 l4 w hl hf
    change gX11_move_3 N 40 (fX11_move_3 N 40 n) (S.2.1 70) l1 l2 l3 l4 = some o at hf
    generalize fX11_move_3 N 40 n = r3 at hf K3
    unfold gX11_move_3 at hf
    refine lv_iload C.1.1 C.1.2.1 dX11_move_3 (lv_at hl 4 rfl) ?_
    refine lv_iload_n C.1.1 C.1.2.1 dX11_move_5 rfl (lv_at hl 1 rfl) ?_
    refine ns_icmp_ge C hf (tgt := 31) dX11_move_6 (by decide) (fun hf => ?_) (fun hf => ?_)
    · have he := Option.some.inj hf
      subst he
      exact ns_vret C w hr hlk rfl rfl dX11_move_31
    · refine lv_aload_n C.1.1 C.1.2.1 dX11_move_9 rfl (lv_at hl 0 rfl) ?_
      refine lv_iload_n C.1.1 C.1.2.1 dX11_move_10 rfl (lv_at hl 1 rfl) ?_
      refine lv_iload_n C.1.1 C.1.2.1 dX11_move_11 rfl (lv_at hl 3 rfl) ?_
      refine lv_imul C.1.1 C.1.2.1 dX11_move_12 ?_
      refine lv_iload C.1.1 C.1.2.1 dX11_move_13 (lv_at hl 4 rfl) ?_
      refine lv_iadd C.1.1 C.1.2.1 dX11_move_15 ?_
      refine lv_aload_n C.1.1 C.1.2.1 dX11_move_16 rfl (lv_at hl 0 rfl) ?_
      refine lv_iload_n C.1.1 C.1.2.1 dX11_move_17 rfl (lv_at hl 1 rfl) ?_
      refine lv_iload_n C.1.1 C.1.2.1 dX11_move_18 rfl (lv_at hl 2 rfl) ?_
      refine lv_imul C.1.1 C.1.2.1 dX11_move_19 ?_
      refine lv_iload C.1.1 C.1.2.1 dX11_move_20 (lv_at hl 4 rfl) ?_
      refine lv_iadd C.1.1 C.1.2.1 dX11_move_22 ?_
      refine ns_iald C w 70 (hI 70 (by decide)) sh_70 hf rfl dX11_move_23 (fun x1 hf => ?_)
      refine ns_iast C w 70 (hI 70 (by decide)) sh_70 hf rfl (List.mem_of_getElem? (i := 0) rfl) dX11_move_24 (fun y2 H locs hf w => ?_)
      refine ns_iinc (lv' := fun x3 => [(4, .int x3), (0, .ref (b 70)), (1, .int l1), (2, .int l2), (3, .int l3)]) C hf dX11_move_25 hl (k := 4) rfl rfl (by decide) (fun _ => rfl) (fun x3 ls hl hf => ?_)
      refine lv_goto (tgt := 3) C.1.1 C.1.2.1 dX11_move_28 (by decide) ?_
      exact K3 w (lv_sub hl [1, 2, 3, 4, 0] rfl) hf
set_option maxHeartbeats 4000000 in
set_option maxRecDepth 100000 in
theorem mX11_move_70 (l : Launch) (D : va_G) (b : Nat → Nat) (ids : List Nat) (hI : ∀ i, i < 107 → i ∈ ids) (N : Nat) (S : ns_S) (p1 : Int32) (p2 : Int32) (p3 : Int32) {o : (Nat → Int32)} (hf : fX11_move N 40 (S.2.1 70) p1 p2 p3 = some o) : ns_M l yX11_move wsX11_move rmX11_move_70 D b ids S [.ref (b 70), .int p1, .int p2, .int p3] none (ns_A S 70 o) := by
  refine ns_start (Wr := wrX11_move_70) (by decide) rfl (Nat.le_of_ble_eq_true rfl) ?_
  intro p e s m below meth c A ls C hr hlk w hl
  have hl : lv_has ls 5 [(0, .ref (b 70)), (1, .int p1), (2, .int p2), (3, .int p3)] := hl
  unfold fX11_move at hf
  refine lv_iconst (v := 0) C.1.1 C.1.2.1 dX11_move_0 (by decide) ?_
  refine lv_istore (lv' := [(4, .int 0), (0, .ref (b 70)), (1, .int p1), (2, .int p2), (3, .int p3)]) C.1.1 C.1.2.1 dX11_move_1 hl (by decide) rfl (fun ls hl => ?_)
  exact wX11_move_70_3 N hI C hr hlk N w (lv_sub hl [1, 2, 3, 4, 0] rfl) hf
abbrev wrX11_move_71 : List (Nat × Nat) := [(1, 71)]
abbrev rmX11_move_71 : Room := { frames := 0, cells := 0, slots := 0, locals := 0 }
set_option maxHeartbeats 4000000 in
set_option maxRecDepth 100000 in
theorem wX11_move_71_3 {p : Program} {l : Launch} {e : Env} {s : State} {m : MethodId} {args : Array Value} {below : List Frame} {meth : Method} {c : Code} {D : va_G} {b : Nat → Nat} {ids : List Nat} {A : Nat → Prop} {S0 : ns_S} {o : (Nat → Int32)} (N : Nat) (hI : ∀ i, i < 107 → i ∈ ids) (C : ns_C p m c cX11_move 5 s args wsX11_move RX11 D A) (hr : meth.sig.returnType = none) (hlk : meth.locks = false) : ∀ n : Nat, ∀ {S : ns_S} {H : Heap} {locs : List Loc} {ls : Array Slot} {l1 : Int32} {l2 : Int32} {l3 : Int32} {l4 : Int32}, ns_W D b ids A s.heap wrX11_move_71 S0 S H locs → lv_has ls 5 [(0, .ref (b 71)), (1, .int l1), (2, .int l2), (3, .int l3), (4, .int l4)] → fX11_move_3 N 40 n (S.2.1 71) l1 l2 l3 l4 = some o → W p l e rmX11_move_71 s m args below meth c H locs 0 0 (MQ below (ns_Q D b ids (ns_A S0 71 o) none A) args s 0 0 A) (F0 m 3 ls []) := by
  intro n
  induction n with
  | zero =>
    intro S H locs ls l1 l2 l3 l4 w hl hf
    cases hf
  | succ n K3 =>
    intro S H locs ls l1 l2 l3 l4 w hl hf
    change gX11_move_3 N 40 (fX11_move_3 N 40 n) (S.2.1 71) l1 l2 l3 l4 = some o at hf
    generalize fX11_move_3 N 40 n = r3 at hf K3
    unfold gX11_move_3 at hf
    refine lv_iload C.1.1 C.1.2.1 dX11_move_3 (lv_at hl 4 rfl) ?_
    refine lv_iload_n C.1.1 C.1.2.1 dX11_move_5 rfl (lv_at hl 1 rfl) ?_
    refine ns_icmp_ge C hf (tgt := 31) dX11_move_6 (by decide) (fun hf => ?_) (fun hf => ?_)
    · have he := Option.some.inj hf
      subst he
      exact ns_vret C w hr hlk rfl rfl dX11_move_31
    · refine lv_aload_n C.1.1 C.1.2.1 dX11_move_9 rfl (lv_at hl 0 rfl) ?_
      refine lv_iload_n C.1.1 C.1.2.1 dX11_move_10 rfl (lv_at hl 1 rfl) ?_
      refine lv_iload_n C.1.1 C.1.2.1 dX11_move_11 rfl (lv_at hl 3 rfl) ?_
      refine lv_imul C.1.1 C.1.2.1 dX11_move_12 ?_
      refine lv_iload C.1.1 C.1.2.1 dX11_move_13 (lv_at hl 4 rfl) ?_
      refine lv_iadd C.1.1 C.1.2.1 dX11_move_15 ?_
      refine lv_aload_n C.1.1 C.1.2.1 dX11_move_16 rfl (lv_at hl 0 rfl) ?_
      refine lv_iload_n C.1.1 C.1.2.1 dX11_move_17 rfl (lv_at hl 1 rfl) ?_
      refine lv_iload_n C.1.1 C.1.2.1 dX11_move_18 rfl (lv_at hl 2 rfl) ?_
      refine lv_imul C.1.1 C.1.2.1 dX11_move_19 ?_
      refine lv_iload C.1.1 C.1.2.1 dX11_move_20 (lv_at hl 4 rfl) ?_
      refine lv_iadd C.1.1 C.1.2.1 dX11_move_22 ?_
      refine ns_iald C w 71 (hI 71 (by decide)) sh_71 hf rfl dX11_move_23 (fun x1 hf => ?_)
      refine ns_iast C w 71 (hI 71 (by decide)) sh_71 hf rfl (List.mem_of_getElem? (i := 0) rfl) dX11_move_24 (fun y2 H locs hf w => ?_)
      refine ns_iinc (lv' := fun x3 => [(4, .int x3), (0, .ref (b 71)), (1, .int l1), (2, .int l2), (3, .int l3)]) C hf dX11_move_25 hl (k := 4) rfl rfl (by decide) (fun _ => rfl) (fun x3 ls hl hf => ?_)
      refine lv_goto (tgt := 3) C.1.1 C.1.2.1 dX11_move_28 (by decide) ?_
      exact K3 w (lv_sub hl [1, 2, 3, 4, 0] rfl) hf
set_option maxHeartbeats 4000000 in
set_option maxRecDepth 100000 in
theorem mX11_move_71 (l : Launch) (D : va_G) (b : Nat → Nat) (ids : List Nat) (hI : ∀ i, i < 107 → i ∈ ids) (N : Nat) (S : ns_S) (p1 : Int32) (p2 : Int32) (p3 : Int32) {o : (Nat → Int32)} (hf : fX11_move N 40 (S.2.1 71) p1 p2 p3 = some o) : ns_M l yX11_move wsX11_move rmX11_move_71 D b ids S [.ref (b 71), .int p1, .int p2, .int p3] none (ns_A S 71 o) := by
  refine ns_start (Wr := wrX11_move_71) (by decide) rfl (Nat.le_of_ble_eq_true rfl) ?_
  intro p e s m below meth c A ls C hr hlk w hl
  have hl : lv_has ls 5 [(0, .ref (b 71)), (1, .int p1), (2, .int p2), (3, .int p3)] := hl
  unfold fX11_move at hf
  refine lv_iconst (v := 0) C.1.1 C.1.2.1 dX11_move_0 (by decide) ?_
  refine lv_istore (lv' := [(4, .int 0), (0, .ref (b 71)), (1, .int p1), (2, .int p2), (3, .int p3)]) C.1.1 C.1.2.1 dX11_move_1 hl (by decide) rfl (fun ls hl => ?_)
  exact wX11_move_71_3 N hI C hr hlk N w (lv_sub hl [1, 2, 3, 4, 0] rfl) hf
abbrev wrX11_move_72 : List (Nat × Nat) := [(1, 72)]
abbrev rmX11_move_72 : Room := { frames := 0, cells := 0, slots := 0, locals := 0 }
set_option maxHeartbeats 4000000 in
set_option maxRecDepth 100000 in
theorem wX11_move_72_3 {p : Program} {l : Launch} {e : Env} {s : State} {m : MethodId} {args : Array Value} {below : List Frame} {meth : Method} {c : Code} {D : va_G} {b : Nat → Nat} {ids : List Nat} {A : Nat → Prop} {S0 : ns_S} {o : (Nat → Int32)} (N : Nat) (hI : ∀ i, i < 107 → i ∈ ids) (C : ns_C p m c cX11_move 5 s args wsX11_move RX11 D A) (hr : meth.sig.returnType = none) (hlk : meth.locks = false) : ∀ n : Nat, ∀ {S : ns_S} {H : Heap} {locs : List Loc} {ls : Array Slot} {l1 : Int32} {l2 : Int32} {l3 : Int32} {l4 : Int32}, ns_W D b ids A s.heap wrX11_move_72 S0 S H locs → lv_has ls 5 [(0, .ref (b 72)), (1, .int l1), (2, .int l2), (3, .int l3), (4, .int l4)] → fX11_move_3 N 40 n (S.2.1 72) l1 l2 l3 l4 = some o → W p l e rmX11_move_72 s m args below meth c H locs 0 0 (MQ below (ns_Q D b ids (ns_A S0 72 o) none A) args s 0 0 A) (F0 m 3 ls []) := by
  intro n
  induction n with
  | zero =>
    intro S H locs ls l1 l2 l3 l4 w hl hf
    cases hf
  | succ n K3 =>
    intro S H locs ls l1 l2 l3 l4 w hl hf
    change gX11_move_3 N 40 (fX11_move_3 N 40 n) (S.2.1 72) l1 l2 l3 l4 = some o at hf
    generalize fX11_move_3 N 40 n = r3 at hf K3
    unfold gX11_move_3 at hf
    refine lv_iload C.1.1 C.1.2.1 dX11_move_3 (lv_at hl 4 rfl) ?_
    refine lv_iload_n C.1.1 C.1.2.1 dX11_move_5 rfl (lv_at hl 1 rfl) ?_
    refine ns_icmp_ge C hf (tgt := 31) dX11_move_6 (by decide) (fun hf => ?_) (fun hf => ?_)
    · have he := Option.some.inj hf
      subst he
      exact ns_vret C w hr hlk rfl rfl dX11_move_31
    · refine lv_aload_n C.1.1 C.1.2.1 dX11_move_9 rfl (lv_at hl 0 rfl) ?_
      refine lv_iload_n C.1.1 C.1.2.1 dX11_move_10 rfl (lv_at hl 1 rfl) ?_
      refine lv_iload_n C.1.1 C.1.2.1 dX11_move_11 rfl (lv_at hl 3 rfl) ?_
      refine lv_imul C.1.1 C.1.2.1 dX11_move_12 ?_
      refine lv_iload C.1.1 C.1.2.1 dX11_move_13 (lv_at hl 4 rfl) ?_
      refine lv_iadd C.1.1 C.1.2.1 dX11_move_15 ?_
      refine lv_aload_n C.1.1 C.1.2.1 dX11_move_16 rfl (lv_at hl 0 rfl) ?_
      refine lv_iload_n C.1.1 C.1.2.1 dX11_move_17 rfl (lv_at hl 1 rfl) ?_
      refine lv_iload_n C.1.1 C.1.2.1 dX11_move_18 rfl (lv_at hl 2 rfl) ?_
      refine lv_imul C.1.1 C.1.2.1 dX11_move_19 ?_
      refine lv_iload C.1.1 C.1.2.1 dX11_move_20 (lv_at hl 4 rfl) ?_
      refine lv_iadd C.1.1 C.1.2.1 dX11_move_22 ?_
      refine ns_iald C w 72 (hI 72 (by decide)) sh_72 hf rfl dX11_move_23 (fun x1 hf => ?_)
      refine ns_iast C w 72 (hI 72 (by decide)) sh_72 hf rfl (List.mem_of_getElem? (i := 0) rfl) dX11_move_24 (fun y2 H locs hf w => ?_)
      refine ns_iinc (lv' := fun x3 => [(4, .int x3), (0, .ref (b 72)), (1, .int l1), (2, .int l2), (3, .int l3)]) C hf dX11_move_25 hl (k := 4) rfl rfl (by decide) (fun _ => rfl) (fun x3 ls hl hf => ?_)
      refine lv_goto (tgt := 3) C.1.1 C.1.2.1 dX11_move_28 (by decide) ?_
      exact K3 w (lv_sub hl [1, 2, 3, 4, 0] rfl) hf
set_option maxHeartbeats 4000000 in
set_option maxRecDepth 100000 in
theorem mX11_move_72 (l : Launch) (D : va_G) (b : Nat → Nat) (ids : List Nat) (hI : ∀ i, i < 107 → i ∈ ids) (N : Nat) (S : ns_S) (p1 : Int32) (p2 : Int32) (p3 : Int32) {o : (Nat → Int32)} (hf : fX11_move N 40 (S.2.1 72) p1 p2 p3 = some o) : ns_M l yX11_move wsX11_move rmX11_move_72 D b ids S [.ref (b 72), .int p1, .int p2, .int p3] none (ns_A S 72 o) := by
  refine ns_start (Wr := wrX11_move_72) (by decide) rfl (Nat.le_of_ble_eq_true rfl) ?_
  intro p e s m below meth c A ls C hr hlk w hl
  have hl : lv_has ls 5 [(0, .ref (b 72)), (1, .int p1), (2, .int p2), (3, .int p3)] := hl
  unfold fX11_move at hf
  refine lv_iconst (v := 0) C.1.1 C.1.2.1 dX11_move_0 (by decide) ?_
  refine lv_istore (lv' := [(4, .int 0), (0, .ref (b 72)), (1, .int p1), (2, .int p2), (3, .int p3)]) C.1.1 C.1.2.1 dX11_move_1 hl (by decide) rfl (fun ls hl => ?_)
  exact wX11_move_72_3 N hI C hr hlk N w (lv_sub hl [1, 2, 3, 4, 0] rfl) hf
abbrev wrX11_move_73 : List (Nat × Nat) := [(1, 73)]
abbrev rmX11_move_73 : Room := { frames := 0, cells := 0, slots := 0, locals := 0 }
set_option maxHeartbeats 4000000 in
set_option maxRecDepth 100000 in
theorem wX11_move_73_3 {p : Program} {l : Launch} {e : Env} {s : State} {m : MethodId} {args : Array Value} {below : List Frame} {meth : Method} {c : Code} {D : va_G} {b : Nat → Nat} {ids : List Nat} {A : Nat → Prop} {S0 : ns_S} {o : (Nat → Int32)} (N : Nat) (hI : ∀ i, i < 107 → i ∈ ids) (C : ns_C p m c cX11_move 5 s args wsX11_move RX11 D A) (hr : meth.sig.returnType = none) (hlk : meth.locks = false) : ∀ n : Nat, ∀ {S : ns_S} {H : Heap} {locs : List Loc} {ls : Array Slot} {l1 : Int32} {l2 : Int32} {l3 : Int32} {l4 : Int32}, ns_W D b ids A s.heap wrX11_move_73 S0 S H locs → lv_has ls 5 [(0, .ref (b 73)), (1, .int l1), (2, .int l2), (3, .int l3), (4, .int l4)] → fX11_move_3 N 4 n (S.2.1 73) l1 l2 l3 l4 = some o → W p l e rmX11_move_73 s m args below meth c H locs 0 0 (MQ below (ns_Q D b ids (ns_A S0 73 o) none A) args s 0 0 A) (F0 m 3 ls []) := by
  intro n
  induction n with
  | zero =>
    intro S H locs ls l1 l2 l3 l4 w hl hf
    cases hf
  | succ n K3 =>
    intro S H locs ls l1 l2 l3 l4 w hl hf
    change gX11_move_3 N 4 (fX11_move_3 N 4 n) (S.2.1 73) l1 l2 l3 l4 = some o at hf
    generalize fX11_move_3 N 4 n = r3 at hf K3
    unfold gX11_move_3 at hf
    refine lv_iload C.1.1 C.1.2.1 dX11_move_3 (lv_at hl 4 rfl) ?_
    refine lv_iload_n C.1.1 C.1.2.1 dX11_move_5 rfl (lv_at hl 1 rfl) ?_
    refine ns_icmp_ge C hf (tgt := 31) dX11_move_6 (by decide) (fun hf => ?_) (fun hf => ?_)
    · have he := Option.some.inj hf
      subst he
      exact ns_vret C w hr hlk rfl rfl dX11_move_31
    · refine lv_aload_n C.1.1 C.1.2.1 dX11_move_9 rfl (lv_at hl 0 rfl) ?_
      refine lv_iload_n C.1.1 C.1.2.1 dX11_move_10 rfl (lv_at hl 1 rfl) ?_
      refine lv_iload_n C.1.1 C.1.2.1 dX11_move_11 rfl (lv_at hl 3 rfl) ?_
      refine lv_imul C.1.1 C.1.2.1 dX11_move_12 ?_
      refine lv_iload C.1.1 C.1.2.1 dX11_move_13 (lv_at hl 4 rfl) ?_
      refine lv_iadd C.1.1 C.1.2.1 dX11_move_15 ?_
      refine lv_aload_n C.1.1 C.1.2.1 dX11_move_16 rfl (lv_at hl 0 rfl) ?_
      refine lv_iload_n C.1.1 C.1.2.1 dX11_move_17 rfl (lv_at hl 1 rfl) ?_
      refine lv_iload_n C.1.1 C.1.2.1 dX11_move_18 rfl (lv_at hl 2 rfl) ?_
      refine lv_imul C.1.1 C.1.2.1 dX11_move_19 ?_
      refine lv_iload C.1.1 C.1.2.1 dX11_move_20 (lv_at hl 4 rfl) ?_
      refine lv_iadd C.1.1 C.1.2.1 dX11_move_22 ?_
      refine ns_iald C w 73 (hI 73 (by decide)) sh_73 hf rfl dX11_move_23 (fun x1 hf => ?_)
      refine ns_iast C w 73 (hI 73 (by decide)) sh_73 hf rfl (List.mem_of_getElem? (i := 0) rfl) dX11_move_24 (fun y2 H locs hf w => ?_)
      refine ns_iinc (lv' := fun x3 => [(4, .int x3), (0, .ref (b 73)), (1, .int l1), (2, .int l2), (3, .int l3)]) C hf dX11_move_25 hl (k := 4) rfl rfl (by decide) (fun _ => rfl) (fun x3 ls hl hf => ?_)
      refine lv_goto (tgt := 3) C.1.1 C.1.2.1 dX11_move_28 (by decide) ?_
      exact K3 w (lv_sub hl [1, 2, 3, 4, 0] rfl) hf
set_option maxHeartbeats 4000000 in
set_option maxRecDepth 100000 in
theorem mX11_move_73 (l : Launch) (D : va_G) (b : Nat → Nat) (ids : List Nat) (hI : ∀ i, i < 107 → i ∈ ids) (N : Nat) (S : ns_S) (p1 : Int32) (p2 : Int32) (p3 : Int32) {o : (Nat → Int32)} (hf : fX11_move N 4 (S.2.1 73) p1 p2 p3 = some o) : ns_M l yX11_move wsX11_move rmX11_move_73 D b ids S [.ref (b 73), .int p1, .int p2, .int p3] none (ns_A S 73 o) := by
  refine ns_start (Wr := wrX11_move_73) (by decide) rfl (Nat.le_of_ble_eq_true rfl) ?_
  intro p e s m below meth c A ls C hr hlk w hl
  have hl : lv_has ls 5 [(0, .ref (b 73)), (1, .int p1), (2, .int p2), (3, .int p3)] := hl
  unfold fX11_move at hf
  refine lv_iconst (v := 0) C.1.1 C.1.2.1 dX11_move_0 (by decide) ?_
  refine lv_istore (lv' := [(4, .int 0), (0, .ref (b 73)), (1, .int p1), (2, .int p2), (3, .int p3)]) C.1.1 C.1.2.1 dX11_move_1 hl (by decide) rfl (fun ls hl => ?_)
  exact wX11_move_73_3 N hI C hr hlk N w (lv_sub hl [1, 2, 3, 4, 0] rfl) hf
abbrev wrX11_move_74 : List (Nat × Nat) := [(1, 74)]
abbrev rmX11_move_74 : Room := { frames := 0, cells := 0, slots := 0, locals := 0 }
set_option maxHeartbeats 4000000 in
set_option maxRecDepth 100000 in
theorem wX11_move_74_3 {p : Program} {l : Launch} {e : Env} {s : State} {m : MethodId} {args : Array Value} {below : List Frame} {meth : Method} {c : Code} {D : va_G} {b : Nat → Nat} {ids : List Nat} {A : Nat → Prop} {S0 : ns_S} {o : (Nat → Int32)} (N : Nat) (hI : ∀ i, i < 107 → i ∈ ids) (C : ns_C p m c cX11_move 5 s args wsX11_move RX11 D A) (hr : meth.sig.returnType = none) (hlk : meth.locks = false) : ∀ n : Nat, ∀ {S : ns_S} {H : Heap} {locs : List Loc} {ls : Array Slot} {l1 : Int32} {l2 : Int32} {l3 : Int32} {l4 : Int32}, ns_W D b ids A s.heap wrX11_move_74 S0 S H locs → lv_has ls 5 [(0, .ref (b 74)), (1, .int l1), (2, .int l2), (3, .int l3), (4, .int l4)] → fX11_move_3 N 120 n (S.2.1 74) l1 l2 l3 l4 = some o → W p l e rmX11_move_74 s m args below meth c H locs 0 0 (MQ below (ns_Q D b ids (ns_A S0 74 o) none A) args s 0 0 A) (F0 m 3 ls []) := by
  intro n
  induction n with
  | zero =>
    intro S H locs ls l1 l2 l3 l4 w hl hf
    cases hf
  | succ n K3 =>
    intro S H locs ls l1 l2 l3 l4 w hl hf
    change gX11_move_3 N 120 (fX11_move_3 N 120 n) (S.2.1 74) l1 l2 l3 l4 = some o at hf
    generalize fX11_move_3 N 120 n = r3 at hf K3
    unfold gX11_move_3 at hf
    refine lv_iload C.1.1 C.1.2.1 dX11_move_3 (lv_at hl 4 rfl) ?_
    refine lv_iload_n C.1.1 C.1.2.1 dX11_move_5 rfl (lv_at hl 1 rfl) ?_
    refine ns_icmp_ge C hf (tgt := 31) dX11_move_6 (by decide) (fun hf => ?_) (fun hf => ?_)
    · have he := Option.some.inj hf
      subst he
      exact ns_vret C w hr hlk rfl rfl dX11_move_31
    · refine lv_aload_n C.1.1 C.1.2.1 dX11_move_9 rfl (lv_at hl 0 rfl) ?_
      refine lv_iload_n C.1.1 C.1.2.1 dX11_move_10 rfl (lv_at hl 1 rfl) ?_
      refine lv_iload_n C.1.1 C.1.2.1 dX11_move_11 rfl (lv_at hl 3 rfl) ?_
      refine lv_imul C.1.1 C.1.2.1 dX11_move_12 ?_
      refine lv_iload C.1.1 C.1.2.1 dX11_move_13 (lv_at hl 4 rfl) ?_
      refine lv_iadd C.1.1 C.1.2.1 dX11_move_15 ?_
      refine lv_aload_n C.1.1 C.1.2.1 dX11_move_16 rfl (lv_at hl 0 rfl) ?_
      refine lv_iload_n C.1.1 C.1.2.1 dX11_move_17 rfl (lv_at hl 1 rfl) ?_
      refine lv_iload_n C.1.1 C.1.2.1 dX11_move_18 rfl (lv_at hl 2 rfl) ?_
      refine lv_imul C.1.1 C.1.2.1 dX11_move_19 ?_
      refine lv_iload C.1.1 C.1.2.1 dX11_move_20 (lv_at hl 4 rfl) ?_
      refine lv_iadd C.1.1 C.1.2.1 dX11_move_22 ?_
      refine ns_iald C w 74 (hI 74 (by decide)) sh_74 hf rfl dX11_move_23 (fun x1 hf => ?_)
      refine ns_iast C w 74 (hI 74 (by decide)) sh_74 hf rfl (List.mem_of_getElem? (i := 0) rfl) dX11_move_24 (fun y2 H locs hf w => ?_)
      refine ns_iinc (lv' := fun x3 => [(4, .int x3), (0, .ref (b 74)), (1, .int l1), (2, .int l2), (3, .int l3)]) C hf dX11_move_25 hl (k := 4) rfl rfl (by decide) (fun _ => rfl) (fun x3 ls hl hf => ?_)
      refine lv_goto (tgt := 3) C.1.1 C.1.2.1 dX11_move_28 (by decide) ?_
      exact K3 w (lv_sub hl [1, 2, 3, 4, 0] rfl) hf
set_option maxHeartbeats 4000000 in
set_option maxRecDepth 100000 in
theorem mX11_move_74 (l : Launch) (D : va_G) (b : Nat → Nat) (ids : List Nat) (hI : ∀ i, i < 107 → i ∈ ids) (N : Nat) (S : ns_S) (p1 : Int32) (p2 : Int32) (p3 : Int32) {o : (Nat → Int32)} (hf : fX11_move N 120 (S.2.1 74) p1 p2 p3 = some o) : ns_M l yX11_move wsX11_move rmX11_move_74 D b ids S [.ref (b 74), .int p1, .int p2, .int p3] none (ns_A S 74 o) := by
  refine ns_start (Wr := wrX11_move_74) (by decide) rfl (Nat.le_of_ble_eq_true rfl) ?_
  intro p e s m below meth c A ls C hr hlk w hl
  have hl : lv_has ls 5 [(0, .ref (b 74)), (1, .int p1), (2, .int p2), (3, .int p3)] := hl
  unfold fX11_move at hf
  refine lv_iconst (v := 0) C.1.1 C.1.2.1 dX11_move_0 (by decide) ?_
  refine lv_istore (lv' := [(4, .int 0), (0, .ref (b 74)), (1, .int p1), (2, .int p2), (3, .int p3)]) C.1.1 C.1.2.1 dX11_move_1 hl (by decide) rfl (fun ls hl => ?_)
  exact wX11_move_74_3 N hI C hr hlk N w (lv_sub hl [1, 2, 3, 4, 0] rfl) hf
