abbrev wrX7_copyFrom_155_43 : List (Nat × Nat) := [(0, 9920), (1, 156), (1, 157), (1, 158), (1, 159)]
abbrev rmX7_copyFrom_155_43 : Room := { frames := 1, cells := 0, slots := 0, locals := 40 }
set_option maxHeartbeats 4000000 in
set_option maxRecDepth 100000 in
theorem mX7_copyFrom_155_43 (l : Launch) (D : va_G) (b : Nat → Nat) (ids : List Nat) (hI : ∀ i, i < 107 → i ∈ ids) (hJ : ∀ i, 140 ≤ i → i < 173 → i ∈ ids) (N : Nat) (S : ns_S) {o : Int32 × (Nat → Int32) × (Nat → Int32) × (Nat → Int32) × (Nat → Int32)} (hf : fX7_copyFrom N (S.1 2752) (S.1 9920) (S.2.1 44) (S.2.1 156) (S.2.1 45) (S.2.1 157) (S.2.1 46) (S.2.1 158) (S.2.1 47) (S.2.1 159) = some o) : ns_M l yX7_copyFrom wsX7_copyFrom rmX7_copyFrom_155_43 D b ids S [.ref (b 155), .ref (b 43)] none (ns_I (ns_A (ns_A (ns_A (ns_A S 159 o.2.2.2.2) 158 o.2.2.2.1) 157 o.2.2.1) 156 o.2.1) 9920 o.1) := by
  refine ns_start (Wr := wrX7_copyFrom_155_43) (by decide) rfl (Nat.le_of_ble_eq_true rfl) ?_
  intro p e s m below meth c A ls C hr hlk w hl
  have hl : lv_has ls 2 [(0, .ref (b 155)), (1, .ref (b 43))] := hl
  unfold fX7_copyFrom at hf
  refine lv_aload_n C.1.1 C.1.2.1 dX7_copyFrom_0 rfl (lv_at hl 0 rfl) ?_
  refine lv_aload_n C.1.1 C.1.2.1 dX7_copyFrom_1 rfl (lv_at hl 1 rfl) ?_
  refine ns_geti C w 43 (hI 43 (by decide)) sh_43 (rfl : vwCl[7]? = some (RX7, TX7, 5)) inX7_copyFrom_7 0 (by decide) rfl lX7_copyFrom_30 (S.1 2752) rfl dX7_copyFrom_2 ?_
  refine ns_puti C w 155 (hJ 155 (by decide) (by decide)) sh_155 (rfl : vwCl[7]? = some (RX7, TX7, 5)) inX7_copyFrom_7 tyX7_ok nmX7 0 (by decide) rfl lX7_copyFrom_30 rfl rfl rfl (List.mem_of_getElem? (i := 0) rfl) dX7_copyFrom_5 (fun H locs w => ?_)
  refine lv_aload_n C.1.1 C.1.2.1 dX7_copyFrom_8 rfl (lv_at hl 1 rfl) ?_
  refine ns_getr C w 43 (hI 43 (by decide)) sh_43 (rfl : vwCl[7]? = some (RX7, TX7, 5)) inX7_copyFrom_7 1 (by decide) rfl lX7_copyFrom_9 dX7_copyFrom_9 ?_
  refine lv_iconst (v := 0) C.1.1 C.1.2.1 dX7_copyFrom_12 (by decide) ?_
  refine lv_aload_n C.1.1 C.1.2.1 dX7_copyFrom_13 rfl (lv_at hl 0 rfl) ?_
  refine ns_getr C w 155 (hJ 155 (by decide) (by decide)) sh_155 (rfl : vwCl[7]? = some (RX7, TX7, 5)) inX7_copyFrom_7 1 (by decide) rfl lX7_copyFrom_9 dX7_copyFrom_14 ?_
  refine lv_iconst (v := 0) C.1.1 C.1.2.1 dX7_copyFrom_17 (by decide) ?_
  refine lv_bipush (v := 10) C.1.1 C.1.2.1 dX7_copyFrom_18 (by decide) ?_
  refine ns_copy C w 44 156 (hI 44 (by decide)) (hJ 156 (by decide) (by decide)) sh_44 sh_156 hf rfl rfl (List.mem_of_getElem? (i := 1) rfl) (List.mem_of_getElem? (i := 3) rfl) (List.mem_of_getElem? (i := 4) rfl) (List.mem_of_getElem? (i := 5) rfl) (List.mem_of_getElem? (i := 6) rfl) hl.1 (Nat.le_of_ble_eq_true rfl) (Nat.le_of_ble_eq_true rfl) dX7_copyFrom_20 (fun y1 H locs hf w => ?_)
  refine lv_aload_n C.1.1 C.1.2.1 dX7_copyFrom_23 rfl (lv_at hl 1 rfl) ?_
  refine ns_getr C w 43 (hI 43 (by decide)) sh_43 (rfl : vwCl[7]? = some (RX7, TX7, 5)) inX7_copyFrom_7 2 (by decide) rfl lX7_copyFrom_15 dX7_copyFrom_24 ?_
  refine lv_iconst (v := 0) C.1.1 C.1.2.1 dX7_copyFrom_27 (by decide) ?_
  refine lv_aload_n C.1.1 C.1.2.1 dX7_copyFrom_28 rfl (lv_at hl 0 rfl) ?_
  refine ns_getr C w 155 (hJ 155 (by decide) (by decide)) sh_155 (rfl : vwCl[7]? = some (RX7, TX7, 5)) inX7_copyFrom_7 2 (by decide) rfl lX7_copyFrom_15 dX7_copyFrom_29 ?_
  refine lv_iconst (v := 0) C.1.1 C.1.2.1 dX7_copyFrom_32 (by decide) ?_
  refine lv_bipush (v := 10) C.1.1 C.1.2.1 dX7_copyFrom_33 (by decide) ?_
  refine ns_copy C w 45 157 (hI 45 (by decide)) (hJ 157 (by decide) (by decide)) sh_45 sh_157 hf rfl rfl (List.mem_of_getElem? (i := 2) rfl) (List.mem_of_getElem? (i := 3) rfl) (List.mem_of_getElem? (i := 4) rfl) (List.mem_of_getElem? (i := 5) rfl) (List.mem_of_getElem? (i := 6) rfl) hl.1 (Nat.le_of_ble_eq_true rfl) (Nat.le_of_ble_eq_true rfl) dX7_copyFrom_35 (fun y2 H locs hf w => ?_)
  refine lv_aload_n C.1.1 C.1.2.1 dX7_copyFrom_38 rfl (lv_at hl 1 rfl) ?_
  refine ns_getr C w 43 (hI 43 (by decide)) sh_43 (rfl : vwCl[7]? = some (RX7, TX7, 5)) inX7_copyFrom_7 3 (by decide) rfl lX7_copyFrom_18 dX7_copyFrom_39 ?_
  refine lv_iconst (v := 0) C.1.1 C.1.2.1 dX7_copyFrom_42 (by decide) ?_
  refine lv_aload_n C.1.1 C.1.2.1 dX7_copyFrom_43 rfl (lv_at hl 0 rfl) ?_
  refine ns_getr C w 155 (hJ 155 (by decide) (by decide)) sh_155 (rfl : vwCl[7]? = some (RX7, TX7, 5)) inX7_copyFrom_7 3 (by decide) rfl lX7_copyFrom_18 dX7_copyFrom_44 ?_
  refine lv_iconst (v := 0) C.1.1 C.1.2.1 dX7_copyFrom_47 (by decide) ?_
  refine lv_bipush (v := 10) C.1.1 C.1.2.1 dX7_copyFrom_48 (by decide) ?_
  refine ns_copy C w 46 158 (hI 46 (by decide)) (hJ 158 (by decide) (by decide)) sh_46 sh_158 hf rfl rfl (List.mem_of_getElem? (i := 3) rfl) (List.mem_of_getElem? (i := 3) rfl) (List.mem_of_getElem? (i := 4) rfl) (List.mem_of_getElem? (i := 5) rfl) (List.mem_of_getElem? (i := 6) rfl) hl.1 (Nat.le_of_ble_eq_true rfl) (Nat.le_of_ble_eq_true rfl) dX7_copyFrom_50 (fun y3 H locs hf w => ?_)
  refine lv_aload_n C.1.1 C.1.2.1 dX7_copyFrom_53 rfl (lv_at hl 1 rfl) ?_
  refine ns_getr C w 43 (hI 43 (by decide)) sh_43 (rfl : vwCl[7]? = some (RX7, TX7, 5)) inX7_copyFrom_7 4 (by decide) rfl lX7_copyFrom_21 dX7_copyFrom_54 ?_
  refine lv_iconst (v := 0) C.1.1 C.1.2.1 dX7_copyFrom_57 (by decide) ?_
  refine lv_aload_n C.1.1 C.1.2.1 dX7_copyFrom_58 rfl (lv_at hl 0 rfl) ?_
  refine ns_getr C w 155 (hJ 155 (by decide) (by decide)) sh_155 (rfl : vwCl[7]? = some (RX7, TX7, 5)) inX7_copyFrom_7 4 (by decide) rfl lX7_copyFrom_21 dX7_copyFrom_59 ?_
  refine lv_iconst (v := 0) C.1.1 C.1.2.1 dX7_copyFrom_62 (by decide) ?_
  refine lv_bipush (v := 30) C.1.1 C.1.2.1 dX7_copyFrom_63 (by decide) ?_
  refine ns_copy C w 47 159 (hI 47 (by decide)) (hJ 159 (by decide) (by decide)) sh_47 sh_159 hf rfl rfl (List.mem_of_getElem? (i := 4) rfl) (List.mem_of_getElem? (i := 3) rfl) (List.mem_of_getElem? (i := 4) rfl) (List.mem_of_getElem? (i := 5) rfl) (List.mem_of_getElem? (i := 6) rfl) hl.1 (Nat.le_of_ble_eq_true rfl) (Nat.le_of_ble_eq_true rfl) dX7_copyFrom_65 (fun y4 H locs hf w => ?_)
  have he := Option.some.inj hf
  subst he
  exact ns_vret C w hr hlk rfl rfl dX7_copyFrom_68
abbrev wrX8_copyFrom_160_48 : List (Nat × Nat) := [(0, 10240), (0, 10241), (1, 161), (1, 162), (1, 163), (1, 164)]
abbrev rmX8_copyFrom_160_48 : Room := { frames := 1, cells := 0, slots := 0, locals := 40 }
set_option maxHeartbeats 4000000 in
set_option maxRecDepth 100000 in
theorem mX8_copyFrom_160_48 (l : Launch) (D : va_G) (b : Nat → Nat) (ids : List Nat) (hI : ∀ i, i < 107 → i ∈ ids) (hJ : ∀ i, 140 ≤ i → i < 173 → i ∈ ids) (N : Nat) (S : ns_S) {o : Int32 × Int32 × (Nat → Int32) × (Nat → Int32) × (Nat → Int32) × (Nat → Int32)} (hf : fX8_copyFrom N (S.1 3072) (S.1 10240) (S.1 3073) (S.1 10241) (S.2.1 49) (S.2.1 161) (S.2.1 50) (S.2.1 162) (S.2.1 51) (S.2.1 163) (S.2.1 52) (S.2.1 164) = some o) : ns_M l yX8_copyFrom wsX8_copyFrom rmX8_copyFrom_160_48 D b ids S [.ref (b 160), .ref (b 48)] none (ns_I (ns_I (ns_A (ns_A (ns_A (ns_A S 164 o.2.2.2.2.2) 163 o.2.2.2.2.1) 162 o.2.2.2.1) 161 o.2.2.1) 10241 o.2.1) 10240 o.1) := by
  refine ns_start (Wr := wrX8_copyFrom_160_48) (by decide) rfl (Nat.le_of_ble_eq_true rfl) ?_
  intro p e s m below meth c A ls C hr hlk w hl
  have hl : lv_has ls 2 [(0, .ref (b 160)), (1, .ref (b 48))] := hl
  unfold fX8_copyFrom at hf
  refine lv_aload_n C.1.1 C.1.2.1 dX8_copyFrom_0 rfl (lv_at hl 0 rfl) ?_
  refine lv_aload_n C.1.1 C.1.2.1 dX8_copyFrom_1 rfl (lv_at hl 1 rfl) ?_
  refine ns_geti C w 48 (hI 48 (by decide)) sh_48 (rfl : vwCl[8]? = some (RX8, TX8, 6)) inX8_copyFrom_8 0 (by decide) rfl lX8_copyFrom_9 (S.1 3072) rfl dX8_copyFrom_2 ?_
  refine ns_puti C w 160 (hJ 160 (by decide) (by decide)) sh_160 (rfl : vwCl[8]? = some (RX8, TX8, 6)) inX8_copyFrom_8 tyX8_ok nmX8 0 (by decide) rfl lX8_copyFrom_9 rfl rfl rfl (List.mem_of_getElem? (i := 0) rfl) dX8_copyFrom_5 (fun H locs w => ?_)
  refine lv_aload_n C.1.1 C.1.2.1 dX8_copyFrom_8 rfl (lv_at hl 0 rfl) ?_
  refine lv_aload_n C.1.1 C.1.2.1 dX8_copyFrom_9 rfl (lv_at hl 1 rfl) ?_
  refine ns_geti C w 48 (hI 48 (by decide)) sh_48 (rfl : vwCl[8]? = some (RX8, TX8, 6)) inX8_copyFrom_8 1 (by decide) rfl lX8_copyFrom_28 (S.1 3073) rfl dX8_copyFrom_10 ?_
  refine ns_puti C w 160 (hJ 160 (by decide) (by decide)) sh_160 (rfl : vwCl[8]? = some (RX8, TX8, 6)) inX8_copyFrom_8 tyX8_ok nmX8 1 (by decide) rfl lX8_copyFrom_28 rfl rfl rfl (List.mem_of_getElem? (i := 1) rfl) dX8_copyFrom_13 (fun H locs w => ?_)
  refine lv_aload_n C.1.1 C.1.2.1 dX8_copyFrom_16 rfl (lv_at hl 1 rfl) ?_
  refine ns_getr C w 48 (hI 48 (by decide)) sh_48 (rfl : vwCl[8]? = some (RX8, TX8, 6)) inX8_copyFrom_8 2 (by decide) rfl lX8_copyFrom_15 dX8_copyFrom_17 ?_
  refine lv_iconst (v := 0) C.1.1 C.1.2.1 dX8_copyFrom_20 (by decide) ?_
  refine lv_aload_n C.1.1 C.1.2.1 dX8_copyFrom_21 rfl (lv_at hl 0 rfl) ?_
  refine ns_getr C w 160 (hJ 160 (by decide) (by decide)) sh_160 (rfl : vwCl[8]? = some (RX8, TX8, 6)) inX8_copyFrom_8 2 (by decide) rfl lX8_copyFrom_15 dX8_copyFrom_22 ?_
  refine lv_iconst (v := 0) C.1.1 C.1.2.1 dX8_copyFrom_25 (by decide) ?_
  refine lv_bipush (v := 30) C.1.1 C.1.2.1 dX8_copyFrom_26 (by decide) ?_
  refine ns_copy C w 49 161 (hI 49 (by decide)) (hJ 161 (by decide) (by decide)) sh_49 sh_161 hf rfl rfl (List.mem_of_getElem? (i := 2) rfl) (List.mem_of_getElem? (i := 4) rfl) (List.mem_of_getElem? (i := 5) rfl) (List.mem_of_getElem? (i := 6) rfl) (List.mem_of_getElem? (i := 7) rfl) hl.1 (Nat.le_of_ble_eq_true rfl) (Nat.le_of_ble_eq_true rfl) dX8_copyFrom_28 (fun y1 H locs hf w => ?_)
  refine lv_aload_n C.1.1 C.1.2.1 dX8_copyFrom_31 rfl (lv_at hl 1 rfl) ?_
  refine ns_getr C w 48 (hI 48 (by decide)) sh_48 (rfl : vwCl[8]? = some (RX8, TX8, 6)) inX8_copyFrom_8 3 (by decide) rfl lX8_copyFrom_19 dX8_copyFrom_32 ?_
  refine lv_iconst (v := 0) C.1.1 C.1.2.1 dX8_copyFrom_35 (by decide) ?_
  refine lv_aload_n C.1.1 C.1.2.1 dX8_copyFrom_36 rfl (lv_at hl 0 rfl) ?_
  refine ns_getr C w 160 (hJ 160 (by decide) (by decide)) sh_160 (rfl : vwCl[8]? = some (RX8, TX8, 6)) inX8_copyFrom_8 3 (by decide) rfl lX8_copyFrom_19 dX8_copyFrom_37 ?_
  refine lv_iconst (v := 0) C.1.1 C.1.2.1 dX8_copyFrom_40 (by decide) ?_
  refine lv_bipush (v := 10) C.1.1 C.1.2.1 dX8_copyFrom_41 (by decide) ?_
  refine ns_copy C w 50 162 (hI 50 (by decide)) (hJ 162 (by decide) (by decide)) sh_50 sh_162 hf rfl rfl (List.mem_of_getElem? (i := 3) rfl) (List.mem_of_getElem? (i := 4) rfl) (List.mem_of_getElem? (i := 5) rfl) (List.mem_of_getElem? (i := 6) rfl) (List.mem_of_getElem? (i := 7) rfl) hl.1 (Nat.le_of_ble_eq_true rfl) (Nat.le_of_ble_eq_true rfl) dX8_copyFrom_43 (fun y2 H locs hf w => ?_)
  refine lv_aload_n C.1.1 C.1.2.1 dX8_copyFrom_46 rfl (lv_at hl 1 rfl) ?_
  refine ns_getr C w 48 (hI 48 (by decide)) sh_48 (rfl : vwCl[8]? = some (RX8, TX8, 6)) inX8_copyFrom_8 4 (by decide) rfl lX8_copyFrom_22 dX8_copyFrom_47 ?_
  refine lv_iconst (v := 0) C.1.1 C.1.2.1 dX8_copyFrom_50 (by decide) ?_
  refine lv_aload_n C.1.1 C.1.2.1 dX8_copyFrom_51 rfl (lv_at hl 0 rfl) ?_
  refine ns_getr C w 160 (hJ 160 (by decide) (by decide)) sh_160 (rfl : vwCl[8]? = some (RX8, TX8, 6)) inX8_copyFrom_8 4 (by decide) rfl lX8_copyFrom_22 dX8_copyFrom_52 ?_
  refine lv_iconst (v := 0) C.1.1 C.1.2.1 dX8_copyFrom_55 (by decide) ?_
  refine lv_bipush (v := 6) C.1.1 C.1.2.1 dX8_copyFrom_56 (by decide) ?_
  refine ns_copy C w 51 163 (hI 51 (by decide)) (hJ 163 (by decide) (by decide)) sh_51 sh_163 hf rfl rfl (List.mem_of_getElem? (i := 4) rfl) (List.mem_of_getElem? (i := 4) rfl) (List.mem_of_getElem? (i := 5) rfl) (List.mem_of_getElem? (i := 6) rfl) (List.mem_of_getElem? (i := 7) rfl) hl.1 (Nat.le_of_ble_eq_true rfl) (Nat.le_of_ble_eq_true rfl) dX8_copyFrom_58 (fun y3 H locs hf w => ?_)
  refine lv_aload_n C.1.1 C.1.2.1 dX8_copyFrom_61 rfl (lv_at hl 1 rfl) ?_
  refine ns_getr C w 48 (hI 48 (by decide)) sh_48 (rfl : vwCl[8]? = some (RX8, TX8, 6)) inX8_copyFrom_8 5 (by decide) rfl lX8_copyFrom_25 dX8_copyFrom_62 ?_
  refine lv_iconst (v := 0) C.1.1 C.1.2.1 dX8_copyFrom_65 (by decide) ?_
  refine lv_aload_n C.1.1 C.1.2.1 dX8_copyFrom_66 rfl (lv_at hl 0 rfl) ?_
  refine ns_getr C w 160 (hJ 160 (by decide) (by decide)) sh_160 (rfl : vwCl[8]? = some (RX8, TX8, 6)) inX8_copyFrom_8 5 (by decide) rfl lX8_copyFrom_25 dX8_copyFrom_67 ?_
  refine lv_iconst (v := 0) C.1.1 C.1.2.1 dX8_copyFrom_70 (by decide) ?_
  refine lv_iconst (v := 5) C.1.1 C.1.2.1 dX8_copyFrom_71 (by decide) ?_
  refine ns_copy C w 52 164 (hI 52 (by decide)) (hJ 164 (by decide) (by decide)) sh_52 sh_164 hf rfl rfl (List.mem_of_getElem? (i := 5) rfl) (List.mem_of_getElem? (i := 4) rfl) (List.mem_of_getElem? (i := 5) rfl) (List.mem_of_getElem? (i := 6) rfl) (List.mem_of_getElem? (i := 7) rfl) hl.1 (Nat.le_of_ble_eq_true rfl) (Nat.le_of_ble_eq_true rfl) dX8_copyFrom_72 (fun y4 H locs hf w => ?_)
  have he := Option.some.inj hf
  subst he
  exact ns_vret C w hr hlk rfl rfl dX8_copyFrom_75
abbrev wrX2_copyFrom_165_53 : List (Nat × Nat) := [(0, 10560), (1, 166), (1, 167), (1, 168), (1, 169), (1, 170), (1, 171), (1, 172)]
abbrev rmX2_copyFrom_165_53 : Room := { frames := 1, cells := 0, slots := 0, locals := 40 }
set_option maxHeartbeats 4000000 in
set_option maxRecDepth 100000 in
theorem mX2_copyFrom_165_53 (l : Launch) (D : va_G) (b : Nat → Nat) (ids : List Nat) (hI : ∀ i, i < 107 → i ∈ ids) (hJ : ∀ i, 140 ≤ i → i < 173 → i ∈ ids) (N : Nat) (S : ns_S) {o : Int32 × (Nat → Int32) × (Nat → Int32) × (Nat → Int32) × (Nat → Int32) × (Nat → Int32) × (Nat → Int32) × (Nat → Int32)} (hf : fX2_copyFrom N (S.1 3392) (S.1 10560) (S.2.1 54) (S.2.1 166) (S.2.1 55) (S.2.1 167) (S.2.1 56) (S.2.1 168) (S.2.1 57) (S.2.1 169) (S.2.1 58) (S.2.1 170) (S.2.1 59) (S.2.1 171) (S.2.1 60) (S.2.1 172) = some o) : ns_M l yX2_copyFrom wsX2_copyFrom rmX2_copyFrom_165_53 D b ids S [.ref (b 165), .ref (b 53)] none (ns_I (ns_A (ns_A (ns_A (ns_A (ns_A (ns_A (ns_A S 172 o.2.2.2.2.2.2.2) 171 o.2.2.2.2.2.2.1) 170 o.2.2.2.2.2.1) 169 o.2.2.2.2.1) 168 o.2.2.2.1) 167 o.2.2.1) 166 o.2.1) 10560 o.1) := by
  refine ns_start (Wr := wrX2_copyFrom_165_53) (by decide) rfl (Nat.le_of_ble_eq_true rfl) ?_
  intro p e s m below meth c A ls C hr hlk w hl
  have hl : lv_has ls 2 [(0, .ref (b 165)), (1, .ref (b 53))] := hl
  unfold fX2_copyFrom at hf
  refine lv_aload_n C.1.1 C.1.2.1 dX2_copyFrom_0 rfl (lv_at hl 0 rfl) ?_
  refine lv_aload_n C.1.1 C.1.2.1 dX2_copyFrom_1 rfl (lv_at hl 1 rfl) ?_
  refine ns_geti C w 53 (hI 53 (by decide)) sh_53 (rfl : vwCl[2]? = some (RX2, TX2, 8)) inX2_copyFrom_2 0 (by decide) rfl lX2_copyFrom_33 (S.1 3392) rfl dX2_copyFrom_2 ?_
  refine ns_puti C w 165 (hJ 165 (by decide) (by decide)) sh_165 (rfl : vwCl[2]? = some (RX2, TX2, 8)) inX2_copyFrom_2 tyX2_ok nmX2 0 (by decide) rfl lX2_copyFrom_33 rfl rfl rfl (List.mem_of_getElem? (i := 0) rfl) dX2_copyFrom_5 (fun H locs w => ?_)
  refine lv_aload_n C.1.1 C.1.2.1 dX2_copyFrom_8 rfl (lv_at hl 1 rfl) ?_
  refine ns_getr C w 53 (hI 53 (by decide)) sh_53 (rfl : vwCl[2]? = some (RX2, TX2, 8)) inX2_copyFrom_2 1 (by decide) rfl lX2_copyFrom_9 dX2_copyFrom_9 ?_
  refine lv_iconst (v := 0) C.1.1 C.1.2.1 dX2_copyFrom_12 (by decide) ?_
  refine lv_aload_n C.1.1 C.1.2.1 dX2_copyFrom_13 rfl (lv_at hl 0 rfl) ?_
  refine ns_getr C w 165 (hJ 165 (by decide) (by decide)) sh_165 (rfl : vwCl[2]? = some (RX2, TX2, 8)) inX2_copyFrom_2 1 (by decide) rfl lX2_copyFrom_9 dX2_copyFrom_14 ?_
  refine lv_iconst (v := 0) C.1.1 C.1.2.1 dX2_copyFrom_17 (by decide) ?_
  refine lv_bipush (v := 16) C.1.1 C.1.2.1 dX2_copyFrom_18 (by decide) ?_
  refine ns_copy C w 54 166 (hI 54 (by decide)) (hJ 166 (by decide) (by decide)) sh_54 sh_166 hf rfl rfl (List.mem_of_getElem? (i := 1) rfl) (List.mem_of_getElem? (i := 3) rfl) (List.mem_of_getElem? (i := 4) rfl) (List.mem_of_getElem? (i := 5) rfl) (List.mem_of_getElem? (i := 6) rfl) hl.1 (Nat.le_of_ble_eq_true rfl) (Nat.le_of_ble_eq_true rfl) dX2_copyFrom_20 (fun y1 H locs hf w => ?_)
  refine lv_aload_n C.1.1 C.1.2.1 dX2_copyFrom_23 rfl (lv_at hl 1 rfl) ?_
  refine ns_getr C w 53 (hI 53 (by decide)) sh_53 (rfl : vwCl[2]? = some (RX2, TX2, 8)) inX2_copyFrom_2 2 (by decide) rfl lX2_copyFrom_15 dX2_copyFrom_24 ?_
  refine lv_iconst (v := 0) C.1.1 C.1.2.1 dX2_copyFrom_27 (by decide) ?_
  refine lv_aload_n C.1.1 C.1.2.1 dX2_copyFrom_28 rfl (lv_at hl 0 rfl) ?_
  refine ns_getr C w 165 (hJ 165 (by decide) (by decide)) sh_165 (rfl : vwCl[2]? = some (RX2, TX2, 8)) inX2_copyFrom_2 2 (by decide) rfl lX2_copyFrom_15 dX2_copyFrom_29 ?_
  refine lv_iconst (v := 0) C.1.1 C.1.2.1 dX2_copyFrom_32 (by decide) ?_
  refine lv_bipush (v := 16) C.1.1 C.1.2.1 dX2_copyFrom_33 (by decide) ?_
  refine ns_copy C w 55 167 (hI 55 (by decide)) (hJ 167 (by decide) (by decide)) sh_55 sh_167 hf rfl rfl (List.mem_of_getElem? (i := 2) rfl) (List.mem_of_getElem? (i := 3) rfl) (List.mem_of_getElem? (i := 4) rfl) (List.mem_of_getElem? (i := 5) rfl) (List.mem_of_getElem? (i := 6) rfl) hl.1 (Nat.le_of_ble_eq_true rfl) (Nat.le_of_ble_eq_true rfl) dX2_copyFrom_35 (fun y2 H locs hf w => ?_)
  refine lv_aload_n C.1.1 C.1.2.1 dX2_copyFrom_38 rfl (lv_at hl 1 rfl) ?_
  refine ns_getr C w 53 (hI 53 (by decide)) sh_53 (rfl : vwCl[2]? = some (RX2, TX2, 8)) inX2_copyFrom_2 3 (by decide) rfl lX2_copyFrom_18 dX2_copyFrom_39 ?_
  refine lv_iconst (v := 0) C.1.1 C.1.2.1 dX2_copyFrom_42 (by decide) ?_
  refine lv_aload_n C.1.1 C.1.2.1 dX2_copyFrom_43 rfl (lv_at hl 0 rfl) ?_
  refine ns_getr C w 165 (hJ 165 (by decide) (by decide)) sh_165 (rfl : vwCl[2]? = some (RX2, TX2, 8)) inX2_copyFrom_2 3 (by decide) rfl lX2_copyFrom_18 dX2_copyFrom_44 ?_
  refine lv_iconst (v := 0) C.1.1 C.1.2.1 dX2_copyFrom_47 (by decide) ?_
  refine lv_bipush (v := 16) C.1.1 C.1.2.1 dX2_copyFrom_48 (by decide) ?_
  refine ns_copy C w 56 168 (hI 56 (by decide)) (hJ 168 (by decide) (by decide)) sh_56 sh_168 hf rfl rfl (List.mem_of_getElem? (i := 3) rfl) (List.mem_of_getElem? (i := 3) rfl) (List.mem_of_getElem? (i := 4) rfl) (List.mem_of_getElem? (i := 5) rfl) (List.mem_of_getElem? (i := 6) rfl) hl.1 (Nat.le_of_ble_eq_true rfl) (Nat.le_of_ble_eq_true rfl) dX2_copyFrom_50 (fun y3 H locs hf w => ?_)
  refine lv_aload_n C.1.1 C.1.2.1 dX2_copyFrom_53 rfl (lv_at hl 1 rfl) ?_
  refine ns_getr C w 53 (hI 53 (by decide)) sh_53 (rfl : vwCl[2]? = some (RX2, TX2, 8)) inX2_copyFrom_2 4 (by decide) rfl lX2_copyFrom_21 dX2_copyFrom_54 ?_
  refine lv_iconst (v := 0) C.1.1 C.1.2.1 dX2_copyFrom_57 (by decide) ?_
  refine lv_aload_n C.1.1 C.1.2.1 dX2_copyFrom_58 rfl (lv_at hl 0 rfl) ?_
  refine ns_getr C w 165 (hJ 165 (by decide) (by decide)) sh_165 (rfl : vwCl[2]? = some (RX2, TX2, 8)) inX2_copyFrom_2 4 (by decide) rfl lX2_copyFrom_21 dX2_copyFrom_59 ?_
  refine lv_iconst (v := 0) C.1.1 C.1.2.1 dX2_copyFrom_62 (by decide) ?_
  refine lv_bipush (v := 16) C.1.1 C.1.2.1 dX2_copyFrom_63 (by decide) ?_
  refine ns_copy C w 57 169 (hI 57 (by decide)) (hJ 169 (by decide) (by decide)) sh_57 sh_169 hf rfl rfl (List.mem_of_getElem? (i := 4) rfl) (List.mem_of_getElem? (i := 3) rfl) (List.mem_of_getElem? (i := 4) rfl) (List.mem_of_getElem? (i := 5) rfl) (List.mem_of_getElem? (i := 6) rfl) hl.1 (Nat.le_of_ble_eq_true rfl) (Nat.le_of_ble_eq_true rfl) dX2_copyFrom_65 (fun y4 H locs hf w => ?_)
  refine lv_aload_n C.1.1 C.1.2.1 dX2_copyFrom_68 rfl (lv_at hl 1 rfl) ?_
  refine ns_getr C w 53 (hI 53 (by decide)) sh_53 (rfl : vwCl[2]? = some (RX2, TX2, 8)) inX2_copyFrom_2 5 (by decide) rfl lX2_copyFrom_24 dX2_copyFrom_69 ?_
  refine lv_iconst (v := 0) C.1.1 C.1.2.1 dX2_copyFrom_72 (by decide) ?_
  refine lv_aload_n C.1.1 C.1.2.1 dX2_copyFrom_73 rfl (lv_at hl 0 rfl) ?_
  refine ns_getr C w 165 (hJ 165 (by decide) (by decide)) sh_165 (rfl : vwCl[2]? = some (RX2, TX2, 8)) inX2_copyFrom_2 5 (by decide) rfl lX2_copyFrom_24 dX2_copyFrom_74 ?_
  refine lv_iconst (v := 0) C.1.1 C.1.2.1 dX2_copyFrom_77 (by decide) ?_
  refine lv_bipush (v := 64) C.1.1 C.1.2.1 dX2_copyFrom_78 (by decide) ?_
  refine ns_copy C w 58 170 (hI 58 (by decide)) (hJ 170 (by decide) (by decide)) sh_58 sh_170 hf rfl rfl (List.mem_of_getElem? (i := 5) rfl) (List.mem_of_getElem? (i := 3) rfl) (List.mem_of_getElem? (i := 4) rfl) (List.mem_of_getElem? (i := 5) rfl) (List.mem_of_getElem? (i := 6) rfl) hl.1 (Nat.le_of_ble_eq_true rfl) (Nat.le_of_ble_eq_true rfl) dX2_copyFrom_80 (fun y5 H locs hf w => ?_)
  refine lv_aload_n C.1.1 C.1.2.1 dX2_copyFrom_83 rfl (lv_at hl 1 rfl) ?_
  refine ns_getr C w 53 (hI 53 (by decide)) sh_53 (rfl : vwCl[2]? = some (RX2, TX2, 8)) inX2_copyFrom_2 6 (by decide) rfl lX2_copyFrom_27 dX2_copyFrom_84 ?_
  refine lv_iconst (v := 0) C.1.1 C.1.2.1 dX2_copyFrom_87 (by decide) ?_
  refine lv_aload_n C.1.1 C.1.2.1 dX2_copyFrom_88 rfl (lv_at hl 0 rfl) ?_
  refine ns_getr C w 165 (hJ 165 (by decide) (by decide)) sh_165 (rfl : vwCl[2]? = some (RX2, TX2, 8)) inX2_copyFrom_2 6 (by decide) rfl lX2_copyFrom_27 dX2_copyFrom_89 ?_
  refine lv_iconst (v := 0) C.1.1 C.1.2.1 dX2_copyFrom_92 (by decide) ?_
  refine lv_bipush (v := 64) C.1.1 C.1.2.1 dX2_copyFrom_93 (by decide) ?_
  refine ns_copy C w 59 171 (hI 59 (by decide)) (hJ 171 (by decide) (by decide)) sh_59 sh_171 hf rfl rfl (List.mem_of_getElem? (i := 6) rfl) (List.mem_of_getElem? (i := 3) rfl) (List.mem_of_getElem? (i := 4) rfl) (List.mem_of_getElem? (i := 5) rfl) (List.mem_of_getElem? (i := 6) rfl) hl.1 (Nat.le_of_ble_eq_true rfl) (Nat.le_of_ble_eq_true rfl) dX2_copyFrom_95 (fun y6 H locs hf w => ?_)
  refine lv_aload_n C.1.1 C.1.2.1 dX2_copyFrom_98 rfl (lv_at hl 1 rfl) ?_
  refine ns_getr C w 53 (hI 53 (by decide)) sh_53 (rfl : vwCl[2]? = some (RX2, TX2, 8)) inX2_copyFrom_2 7 (by decide) rfl lX2_copyFrom_30 dX2_copyFrom_99 ?_
  refine lv_iconst (v := 0) C.1.1 C.1.2.1 dX2_copyFrom_102 (by decide) ?_
  refine lv_aload_n C.1.1 C.1.2.1 dX2_copyFrom_103 rfl (lv_at hl 0 rfl) ?_
  refine ns_getr C w 165 (hJ 165 (by decide) (by decide)) sh_165 (rfl : vwCl[2]? = some (RX2, TX2, 8)) inX2_copyFrom_2 7 (by decide) rfl lX2_copyFrom_30 dX2_copyFrom_104 ?_
  refine lv_iconst (v := 0) C.1.1 C.1.2.1 dX2_copyFrom_107 (by decide) ?_
  refine lv_bipush (v := 64) C.1.1 C.1.2.1 dX2_copyFrom_108 (by decide) ?_
  refine ns_copy C w 60 172 (hI 60 (by decide)) (hJ 172 (by decide) (by decide)) sh_60 sh_172 hf rfl rfl (List.mem_of_getElem? (i := 7) rfl) (List.mem_of_getElem? (i := 3) rfl) (List.mem_of_getElem? (i := 4) rfl) (List.mem_of_getElem? (i := 5) rfl) (List.mem_of_getElem? (i := 6) rfl) hl.1 (Nat.le_of_ble_eq_true rfl) (Nat.le_of_ble_eq_true rfl) dX2_copyFrom_110 (fun y7 H locs hf w => ?_)
  have he := Option.some.inj hf
  subst he
  exact ns_vret C w hr hlk rfl rfl dX2_copyFrom_113
abbrev wrX6_copyFrom_140_28 : List (Nat × Nat) := [(0, 9024), (1, 142), (0, 9152), (1, 144), (1, 145), (1, 146), (1, 147), (1, 148), (0, 9536), (1, 150), (1, 151), (1, 152), (1, 153), (1, 154), (0, 9920), (1, 156), (1, 157), (1, 158), (1, 159), (0, 10240), (0, 10241), (1, 161), (1, 162), (1, 163), (1, 164), (0, 10560), (1, 166), (1, 167), (1, 168), (1, 169), (1, 170), (1, 171), (1, 172)]
abbrev rmX6_copyFrom_140_28 : Room := { frames := 2, cells := 0, slots := 0, locals := 61 }
set_option maxHeartbeats 4000000 in
set_option maxRecDepth 100000 in
theorem mX6_copyFrom_140_28 (l : Launch) (D : va_G) (b : Nat → Nat) (ids : List Nat) (hI : ∀ i, i < 107 → i ∈ ids) (hJ : ∀ i, 140 ≤ i → i < 173 → i ∈ ids) (N : Nat) (S : ns_S) {o : Int32 × (Nat → Int32) × Int32 × (Nat → Int32) × (Nat → Int32) × (Nat → Int32) × (Nat → Int32) × (Nat → Int32) × Int32 × (Nat → Int32) × (Nat → Int32) × (Nat → Int32) × (Nat → Int32) × (Nat → Int32) × Int32 × (Nat → Int32) × (Nat → Int32) × (Nat → Int32) × (Nat → Int32) × Int32 × Int32 × (Nat → Int32) × (Nat → Int32) × (Nat → Int32) × (Nat → Int32) × Int32 × (Nat → Int32) × (Nat → Int32) × (Nat → Int32) × (Nat → Int32) × (Nat → Int32) × (Nat → Int32) × (Nat → Int32)} (hf : fX6_copyFrom N (S.1 1856) (S.1 9024) (S.2.1 30) (S.2.1 142) (S.1 1984) (S.1 9152) (S.2.1 32) (S.2.1 144) (S.2.1 33) (S.2.1 145) (S.2.1 34) (S.2.1 146) (S.2.1 35) (S.2.1 147) (S.2.1 36) (S.2.1 148) (S.1 2368) (S.1 9536) (S.2.1 38) (S.2.1 150) (S.2.1 39) (S.2.1 151) (S.2.1 40) (S.2.1 152) (S.2.1 41) (S.2.1 153) (S.2.1 42) (S.2.1 154) (S.1 2752) (S.1 9920) (S.2.1 44) (S.2.1 156) (S.2.1 45) (S.2.1 157) (S.2.1 46) (S.2.1 158) (S.2.1 47) (S.2.1 159) (S.1 3072) (S.1 10240) (S.1 3073) (S.1 10241) (S.2.1 49) (S.2.1 161) (S.2.1 50) (S.2.1 162) (S.2.1 51) (S.2.1 163) (S.2.1 52) (S.2.1 164) (S.1 3392) (S.1 10560) (S.2.1 54) (S.2.1 166) (S.2.1 55) (S.2.1 167) (S.2.1 56) (S.2.1 168) (S.2.1 57) (S.2.1 169) (S.2.1 58) (S.2.1 170) (S.2.1 59) (S.2.1 171) (S.2.1 60) (S.2.1 172) = some o) : ns_M l yX6_copyFrom wsX6_copyFrom rmX6_copyFrom_140_28 D b ids S [.ref (b 140), .ref (b 28)] none (ns_I (ns_A (ns_I (ns_A (ns_A (ns_A (ns_A (ns_A (ns_I (ns_A (ns_A (ns_A (ns_A (ns_A (ns_I (ns_A (ns_A (ns_A (ns_A (ns_I (ns_I (ns_A (ns_A (ns_A (ns_A (ns_I (ns_A (ns_A (ns_A (ns_A (ns_A (ns_A (ns_A S 172 o.2.2.2.2.2.2.2.2.2.2.2.2.2.2.2.2.2.2.2.2.2.2.2.2.2.2.2.2.2.2.2.2) 171 o.2.2.2.2.2.2.2.2.2.2.2.2.2.2.2.2.2.2.2.2.2.2.2.2.2.2.2.2.2.2.2.1) 170 o.2.2.2.2.2.2.2.2.2.2.2.2.2.2.2.2.2.2.2.2.2.2.2.2.2.2.2.2.2.2.1) 169 o.2.2.2.2.2.2.2.2.2.2.2.2.2.2.2.2.2.2.2.2.2.2.2.2.2.2.2.2.2.1) 168 o.2.2.2.2.2.2.2.2.2.2.2.2.2.2.2.2.2.2.2.2.2.2.2.2.2.2.2.2.1) 167 o.2.2.2.2.2.2.2.2.2.2.2.2.2.2.2.2.2.2.2.2.2.2.2.2.2.2.2.1) 166 o.2.2.2.2.2.2.2.2.2.2.2.2.2.2.2.2.2.2.2.2.2.2.2.2.2.2.1) 10560 o.2.2.2.2.2.2.2.2.2.2.2.2.2.2.2.2.2.2.2.2.2.2.2.2.2.1) 164 o.2.2.2.2.2.2.2.2.2.2.2.2.2.2.2.2.2.2.2.2.2.2.2.2.1) 163 o.2.2.2.2.2.2.2.2.2.2.2.2.2.2.2.2.2.2.2.2.2.2.2.1) 162 o.2.2.2.2.2.2.2.2.2.2.2.2.2.2.2.2.2.2.2.2.2.2.1) 161 o.2.2.2.2.2.2.2.2.2.2.2.2.2.2.2.2.2.2.2.2.2.1) 10241 o.2.2.2.2.2.2.2.2.2.2.2.2.2.2.2.2.2.2.2.2.1) 10240 o.2.2.2.2.2.2.2.2.2.2.2.2.2.2.2.2.2.2.2.1) 159 o.2.2.2.2.2.2.2.2.2.2.2.2.2.2.2.2.2.2.1) 158 o.2.2.2.2.2.2.2.2.2.2.2.2.2.2.2.2.2.1) 157 o.2.2.2.2.2.2.2.2.2.2.2.2.2.2.2.2.1) 156 o.2.2.2.2.2.2.2.2.2.2.2.2.2.2.2.1) 9920 o.2.2.2.2.2.2.2.2.2.2.2.2.2.2.1) 154 o.2.2.2.2.2.2.2.2.2.2.2.2.2.1) 153 o.2.2.2.2.2.2.2.2.2.2.2.2.1) 152 o.2.2.2.2.2.2.2.2.2.2.2.1) 151 o.2.2.2.2.2.2.2.2.2.2.1) 150 o.2.2.2.2.2.2.2.2.2.1) 9536 o.2.2.2.2.2.2.2.2.1) 148 o.2.2.2.2.2.2.2.1) 147 o.2.2.2.2.2.2.1) 146 o.2.2.2.2.2.1) 145 o.2.2.2.2.1) 144 o.2.2.2.1) 9152 o.2.2.1) 142 o.2.1) 9024 o.1) := by
  refine ns_start (Wr := wrX6_copyFrom_140_28) (by decide) rfl (Nat.le_of_ble_eq_true rfl) ?_
  intro p e s m below meth c A ls C hr hlk w hl
  have hl : lv_has ls 2 [(0, .ref (b 140)), (1, .ref (b 28))] := hl
  unfold fX6_copyFrom at hf
  refine lv_aload_n C.1.1 C.1.2.1 dX6_copyFrom_0 rfl (lv_at hl 0 rfl) ?_
  refine ns_getr C w 140 (hJ 140 (by decide) (by decide)) sh_140 (rfl : vwCl[6]? = some (RX6, TX6, 6)) inX6_copyFrom_6 0 (by decide) rfl lX6_copyFrom_12 dX6_copyFrom_1 ?_
  refine lv_aload_n C.1.1 C.1.2.1 dX6_copyFrom_4 rfl (lv_at hl 1 rfl) ?_
  refine ns_getr C w 28 (hI 28 (by decide)) sh_28 (rfl : vwCl[6]? = some (RX6, TX6, 6)) inX6_copyFrom_6 0 (by decide) rfl lX6_copyFrom_12 dX6_copyFrom_5 ?_
  refine ns_callV C w 141 (hJ 141 (by decide) (by decide)) sh_141 (rfl : vwCl[5]? = some (RX5, TX5, 2)) [.ref (b 29)] hf (fun u hu => mX5_copyFrom_141_29 l D b ids hI hJ N _ hu) gX6_copyFrom_X5_copyFrom rfl rfl rfl hdX5_copyFrom ⟨Nat.le_of_ble_eq_true rfl, Nat.le_of_ble_eq_true rfl⟩ (fun u h => ((h.A (List.mem_of_getElem? (i := 1) rfl) _).I (List.mem_of_getElem? (i := 0) rfl) _)) rfl hl.1 rfl (Nat.le_of_ble_eq_true rfl) ⟨Nat.le_refl _, Nat.le_refl _⟩ dX6_copyFrom_8 (fun o1 H locs hf w => ?_)
  refine lv_aload_n C.1.1 C.1.2.1 dX6_copyFrom_11 rfl (lv_at hl 0 rfl) ?_
  refine ns_getr C w 140 (hJ 140 (by decide) (by decide)) sh_140 (rfl : vwCl[6]? = some (RX6, TX6, 6)) inX6_copyFrom_6 1 (by decide) rfl lX6_copyFrom_21 dX6_copyFrom_12 ?_
  refine lv_aload_n C.1.1 C.1.2.1 dX6_copyFrom_15 rfl (lv_at hl 1 rfl) ?_
  refine ns_getr C w 28 (hI 28 (by decide)) sh_28 (rfl : vwCl[6]? = some (RX6, TX6, 6)) inX6_copyFrom_6 1 (by decide) rfl lX6_copyFrom_21 dX6_copyFrom_16 ?_
  refine ns_callV C w 143 (hJ 143 (by decide) (by decide)) sh_143 (rfl : vwCl[0]? = some (RX0, TX0, 6)) [.ref (b 31)] hf (fun u hu => mX0_copyFrom_143_31 l D b ids hI hJ N _ hu) gX6_copyFrom_X0_copyFrom rfl rfl rfl hdX0_copyFrom ⟨Nat.le_of_ble_eq_true rfl, Nat.le_of_ble_eq_true rfl⟩ (fun u h => ((((((h.A (List.mem_of_getElem? (i := 7) rfl) _).A (List.mem_of_getElem? (i := 6) rfl) _).A (List.mem_of_getElem? (i := 5) rfl) _).A (List.mem_of_getElem? (i := 4) rfl) _).A (List.mem_of_getElem? (i := 3) rfl) _).I (List.mem_of_getElem? (i := 2) rfl) _)) rfl hl.1 rfl (Nat.le_of_ble_eq_true rfl) ⟨Nat.le_refl _, Nat.le_refl _⟩ dX6_copyFrom_19 (fun o2 H locs hf w => ?_)
  refine lv_aload_n C.1.1 C.1.2.1 dX6_copyFrom_22 rfl (lv_at hl 0 rfl) ?_
  refine ns_getr C w 140 (hJ 140 (by decide) (by decide)) sh_140 (rfl : vwCl[6]? = some (RX6, TX6, 6)) inX6_copyFrom_6 2 (by decide) rfl lX6_copyFrom_28 dX6_copyFrom_23 ?_
  refine lv_aload_n C.1.1 C.1.2.1 dX6_copyFrom_26 rfl (lv_at hl 1 rfl) ?_
  refine ns_getr C w 28 (hI 28 (by decide)) sh_28 (rfl : vwCl[6]? = some (RX6, TX6, 6)) inX6_copyFrom_6 2 (by decide) rfl lX6_copyFrom_28 dX6_copyFrom_27 ?_
  refine ns_callV C w 149 (hJ 149 (by decide) (by decide)) sh_149 (rfl : vwCl[4]? = some (RX4, TX4, 6)) [.ref (b 37)] hf (fun u hu => mX4_copyFrom_149_37 l D b ids hI hJ N _ hu) gX6_copyFrom_X4_copyFrom rfl rfl rfl hdX4_copyFrom ⟨Nat.le_of_ble_eq_true rfl, Nat.le_of_ble_eq_true rfl⟩ (fun u h => ((((((h.A (List.mem_of_getElem? (i := 13) rfl) _).A (List.mem_of_getElem? (i := 12) rfl) _).A (List.mem_of_getElem? (i := 11) rfl) _).A (List.mem_of_getElem? (i := 10) rfl) _).A (List.mem_of_getElem? (i := 9) rfl) _).I (List.mem_of_getElem? (i := 8) rfl) _)) rfl hl.1 rfl (Nat.le_of_ble_eq_true rfl) ⟨Nat.le_refl _, Nat.le_refl _⟩ dX6_copyFrom_30 (fun o3 H locs hf w => ?_)
  refine lv_aload_n C.1.1 C.1.2.1 dX6_copyFrom_33 rfl (lv_at hl 0 rfl) ?_
  refine ns_getr C w 140 (hJ 140 (by decide) (by decide)) sh_140 (rfl : vwCl[6]? = some (RX6, TX6, 6)) inX6_copyFrom_6 3 (by decide) rfl lX6_copyFrom_35 dX6_copyFrom_34 ?_
  refine lv_aload_n C.1.1 C.1.2.1 dX6_copyFrom_37 rfl (lv_at hl 1 rfl) ?_
  refine ns_getr C w 28 (hI 28 (by decide)) sh_28 (rfl : vwCl[6]? = some (RX6, TX6, 6)) inX6_copyFrom_6 3 (by decide) rfl lX6_copyFrom_35 dX6_copyFrom_38 ?_
  refine ns_callV C w 155 (hJ 155 (by decide) (by decide)) sh_155 (rfl : vwCl[7]? = some (RX7, TX7, 5)) [.ref (b 43)] hf (fun u hu => mX7_copyFrom_155_43 l D b ids hI hJ N _ hu) gX6_copyFrom_X7_copyFrom rfl rfl rfl hdX7_copyFrom ⟨Nat.le_of_ble_eq_true rfl, Nat.le_of_ble_eq_true rfl⟩ (fun u h => (((((h.A (List.mem_of_getElem? (i := 18) rfl) _).A (List.mem_of_getElem? (i := 17) rfl) _).A (List.mem_of_getElem? (i := 16) rfl) _).A (List.mem_of_getElem? (i := 15) rfl) _).I (List.mem_of_getElem? (i := 14) rfl) _)) rfl hl.1 rfl (Nat.le_of_ble_eq_true rfl) ⟨Nat.le_refl _, Nat.le_refl _⟩ dX6_copyFrom_41 (fun o4 H locs hf w => ?_)
  refine lv_aload_n C.1.1 C.1.2.1 dX6_copyFrom_44 rfl (lv_at hl 0 rfl) ?_
  refine ns_getr C w 140 (hJ 140 (by decide) (by decide)) sh_140 (rfl : vwCl[6]? = some (RX6, TX6, 6)) inX6_copyFrom_6 4 (by decide) rfl lX6_copyFrom_42 dX6_copyFrom_45 ?_
  refine lv_aload_n C.1.1 C.1.2.1 dX6_copyFrom_48 rfl (lv_at hl 1 rfl) ?_
  refine ns_getr C w 28 (hI 28 (by decide)) sh_28 (rfl : vwCl[6]? = some (RX6, TX6, 6)) inX6_copyFrom_6 4 (by decide) rfl lX6_copyFrom_42 dX6_copyFrom_49 ?_
  refine ns_callV C w 160 (hJ 160 (by decide) (by decide)) sh_160 (rfl : vwCl[8]? = some (RX8, TX8, 6)) [.ref (b 48)] hf (fun u hu => mX8_copyFrom_160_48 l D b ids hI hJ N _ hu) gX6_copyFrom_X8_copyFrom rfl rfl rfl hdX8_copyFrom ⟨Nat.le_of_ble_eq_true rfl, Nat.le_of_ble_eq_true rfl⟩ (fun u h => ((((((h.A (List.mem_of_getElem? (i := 24) rfl) _).A (List.mem_of_getElem? (i := 23) rfl) _).A (List.mem_of_getElem? (i := 22) rfl) _).A (List.mem_of_getElem? (i := 21) rfl) _).I (List.mem_of_getElem? (i := 20) rfl) _).I (List.mem_of_getElem? (i := 19) rfl) _)) rfl hl.1 rfl (Nat.le_of_ble_eq_true rfl) ⟨Nat.le_refl _, Nat.le_refl _⟩ dX6_copyFrom_52 (fun o5 H locs hf w => ?_)
  refine lv_aload_n C.1.1 C.1.2.1 dX6_copyFrom_55 rfl (lv_at hl 0 rfl) ?_
  refine ns_getr C w 140 (hJ 140 (by decide) (by decide)) sh_140 (rfl : vwCl[6]? = some (RX6, TX6, 6)) inX6_copyFrom_6 5 (by decide) rfl lX6_copyFrom_49 dX6_copyFrom_56 ?_
  refine lv_aload_n C.1.1 C.1.2.1 dX6_copyFrom_59 rfl (lv_at hl 1 rfl) ?_
  refine ns_getr C w 28 (hI 28 (by decide)) sh_28 (rfl : vwCl[6]? = some (RX6, TX6, 6)) inX6_copyFrom_6 5 (by decide) rfl lX6_copyFrom_49 dX6_copyFrom_60 ?_
  refine ns_callV C w 165 (hJ 165 (by decide) (by decide)) sh_165 (rfl : vwCl[2]? = some (RX2, TX2, 8)) [.ref (b 53)] hf (fun u hu => mX2_copyFrom_165_53 l D b ids hI hJ N _ hu) gX6_copyFrom_X2_copyFrom rfl rfl rfl hdX2_copyFrom ⟨Nat.le_of_ble_eq_true rfl, Nat.le_of_ble_eq_true rfl⟩ (fun u h => ((((((((h.A (List.mem_of_getElem? (i := 32) rfl) _).A (List.mem_of_getElem? (i := 31) rfl) _).A (List.mem_of_getElem? (i := 30) rfl) _).A (List.mem_of_getElem? (i := 29) rfl) _).A (List.mem_of_getElem? (i := 28) rfl) _).A (List.mem_of_getElem? (i := 27) rfl) _).A (List.mem_of_getElem? (i := 26) rfl) _).I (List.mem_of_getElem? (i := 25) rfl) _)) rfl hl.1 rfl (Nat.le_of_ble_eq_true rfl) ⟨Nat.le_refl _, Nat.le_refl _⟩ dX6_copyFrom_63 (fun o6 H locs hf w => ?_)
  have he := Option.some.inj hf
  subst he
  exact ns_vret C w hr hlk rfl rfl dX6_copyFrom_66
abbrev wrX5_copyFrom_29_141 : List (Nat × Nat) := [(0, 1856), (1, 30)]
abbrev rmX5_copyFrom_29_141 : Room := { frames := 1, cells := 0, slots := 0, locals := 40 }
set_option maxHeartbeats 4000000 in
set_option maxRecDepth 100000 in
theorem mX5_copyFrom_29_141 (l : Launch) (D : va_G) (b : Nat → Nat) (ids : List Nat) (hI : ∀ i, i < 107 → i ∈ ids) (hJ : ∀ i, 140 ≤ i → i < 173 → i ∈ ids) (N : Nat) (S : ns_S) {o : Int32 × (Nat → Int32)} (hf : fX5_copyFrom N (S.1 9024) (S.1 1856) (S.2.1 142) (S.2.1 30) = some o) : ns_M l yX5_copyFrom wsX5_copyFrom rmX5_copyFrom_29_141 D b ids S [.ref (b 29), .ref (b 141)] none (ns_I (ns_A S 30 o.2) 1856 o.1) := by
  refine ns_start (Wr := wrX5_copyFrom_29_141) (by decide) rfl (Nat.le_of_ble_eq_true rfl) ?_
  intro p e s m below meth c A ls C hr hlk w hl
  have hl : lv_has ls 2 [(0, .ref (b 29)), (1, .ref (b 141))] := hl
  unfold fX5_copyFrom at hf
  refine lv_aload_n C.1.1 C.1.2.1 dX5_copyFrom_0 rfl (lv_at hl 0 rfl) ?_
  refine lv_aload_n C.1.1 C.1.2.1 dX5_copyFrom_1 rfl (lv_at hl 1 rfl) ?_
  refine ns_geti C w 141 (hJ 141 (by decide) (by decide)) sh_141 (rfl : vwCl[5]? = some (RX5, TX5, 2)) inX5_copyFrom_5 0 (by decide) rfl lX5_copyFrom_15 (S.1 9024) rfl dX5_copyFrom_2 ?_
  refine ns_puti C w 29 (hI 29 (by decide)) sh_29 (rfl : vwCl[5]? = some (RX5, TX5, 2)) inX5_copyFrom_5 tyX5_ok nmX5 0 (by decide) rfl lX5_copyFrom_15 rfl rfl rfl (List.mem_of_getElem? (i := 0) rfl) dX5_copyFrom_5 (fun H locs w => ?_)
  refine lv_aload_n C.1.1 C.1.2.1 dX5_copyFrom_8 rfl (lv_at hl 1 rfl) ?_
  refine ns_getr C w 141 (hJ 141 (by decide) (by decide)) sh_141 (rfl : vwCl[5]? = some (RX5, TX5, 2)) inX5_copyFrom_5 1 (by decide) rfl lX5_copyFrom_9 dX5_copyFrom_9 ?_
  refine lv_iconst (v := 0) C.1.1 C.1.2.1 dX5_copyFrom_12 (by decide) ?_
  refine lv_aload_n C.1.1 C.1.2.1 dX5_copyFrom_13 rfl (lv_at hl 0 rfl) ?_
  refine ns_getr C w 29 (hI 29 (by decide)) sh_29 (rfl : vwCl[5]? = some (RX5, TX5, 2)) inX5_copyFrom_5 1 (by decide) rfl lX5_copyFrom_9 dX5_copyFrom_14 ?_
  refine lv_iconst (v := 0) C.1.1 C.1.2.1 dX5_copyFrom_17 (by decide) ?_
  refine lv_iconst (v := 5) C.1.1 C.1.2.1 dX5_copyFrom_18 (by decide) ?_
  refine ns_copy C w 142 30 (hJ 142 (by decide) (by decide)) (hI 30 (by decide)) sh_142 sh_30 hf rfl rfl (List.mem_of_getElem? (i := 1) rfl) (List.mem_of_getElem? (i := 3) rfl) (List.mem_of_getElem? (i := 4) rfl) (List.mem_of_getElem? (i := 5) rfl) (List.mem_of_getElem? (i := 6) rfl) hl.1 (Nat.le_of_ble_eq_true rfl) (Nat.le_of_ble_eq_true rfl) dX5_copyFrom_19 (fun y1 H locs hf w => ?_)
  have he := Option.some.inj hf
  subst he
  exact ns_vret C w hr hlk rfl rfl dX5_copyFrom_22
abbrev wrX0_copyFrom_31_143 : List (Nat × Nat) := [(0, 1984), (1, 32), (1, 33), (1, 34), (1, 35), (1, 36)]
abbrev rmX0_copyFrom_31_143 : Room := { frames := 1, cells := 0, slots := 0, locals := 40 }
set_option maxHeartbeats 4000000 in
set_option maxRecDepth 100000 in
theorem mX0_copyFrom_31_143 (l : Launch) (D : va_G) (b : Nat → Nat) (ids : List Nat) (hI : ∀ i, i < 107 → i ∈ ids) (hJ : ∀ i, 140 ≤ i → i < 173 → i ∈ ids) (N : Nat) (S : ns_S) {o : Int32 × (Nat → Int32) × (Nat → Int32) × (Nat → Int32) × (Nat → Int32) × (Nat → Int32)} (hf : fX0_copyFrom N (S.1 9152) (S.1 1984) (S.2.1 144) (S.2.1 32) (S.2.1 145) (S.2.1 33) (S.2.1 146) (S.2.1 34) (S.2.1 147) (S.2.1 35) (S.2.1 148) (S.2.1 36) = some o) : ns_M l yX0_copyFrom wsX0_copyFrom rmX0_copyFrom_31_143 D b ids S [.ref (b 31), .ref (b 143)] none (ns_I (ns_A (ns_A (ns_A (ns_A (ns_A S 36 o.2.2.2.2.2) 35 o.2.2.2.2.1) 34 o.2.2.2.1) 33 o.2.2.1) 32 o.2.1) 1984 o.1) := by
  refine ns_start (Wr := wrX0_copyFrom_31_143) (by decide) rfl (Nat.le_of_ble_eq_true rfl) ?_
  intro p e s m below meth c A ls C hr hlk w hl
  have hl : lv_has ls 2 [(0, .ref (b 31)), (1, .ref (b 143))] := hl
  unfold fX0_copyFrom at hf
  refine lv_aload_n C.1.1 C.1.2.1 dX0_copyFrom_0 rfl (lv_at hl 0 rfl) ?_
  refine lv_aload_n C.1.1 C.1.2.1 dX0_copyFrom_1 rfl (lv_at hl 1 rfl) ?_
  refine ns_geti C w 143 (hJ 143 (by decide) (by decide)) sh_143 (rfl : vwCl[0]? = some (RX0, TX0, 6)) inX0_copyFrom_0 0 (by decide) rfl lX0_copyFrom_27 (S.1 9152) rfl dX0_copyFrom_2 ?_
  refine ns_puti C w 31 (hI 31 (by decide)) sh_31 (rfl : vwCl[0]? = some (RX0, TX0, 6)) inX0_copyFrom_0 tyX0_ok nmX0 0 (by decide) rfl lX0_copyFrom_27 rfl rfl rfl (List.mem_of_getElem? (i := 0) rfl) dX0_copyFrom_5 (fun H locs w => ?_)
  refine lv_aload_n C.1.1 C.1.2.1 dX0_copyFrom_8 rfl (lv_at hl 1 rfl) ?_
  refine ns_getr C w 143 (hJ 143 (by decide) (by decide)) sh_143 (rfl : vwCl[0]? = some (RX0, TX0, 6)) inX0_copyFrom_0 1 (by decide) rfl lX0_copyFrom_9 dX0_copyFrom_9 ?_
  refine lv_iconst (v := 0) C.1.1 C.1.2.1 dX0_copyFrom_12 (by decide) ?_
  refine lv_aload_n C.1.1 C.1.2.1 dX0_copyFrom_13 rfl (lv_at hl 0 rfl) ?_
  refine ns_getr C w 31 (hI 31 (by decide)) sh_31 (rfl : vwCl[0]? = some (RX0, TX0, 6)) inX0_copyFrom_0 1 (by decide) rfl lX0_copyFrom_9 dX0_copyFrom_14 ?_
  refine lv_iconst (v := 0) C.1.1 C.1.2.1 dX0_copyFrom_17 (by decide) ?_
  refine lv_bipush (v := 10) C.1.1 C.1.2.1 dX0_copyFrom_18 (by decide) ?_
  refine ns_copy C w 144 32 (hJ 144 (by decide) (by decide)) (hI 32 (by decide)) sh_144 sh_32 hf rfl rfl (List.mem_of_getElem? (i := 1) rfl) (List.mem_of_getElem? (i := 3) rfl) (List.mem_of_getElem? (i := 4) rfl) (List.mem_of_getElem? (i := 5) rfl) (List.mem_of_getElem? (i := 6) rfl) hl.1 (Nat.le_of_ble_eq_true rfl) (Nat.le_of_ble_eq_true rfl) dX0_copyFrom_20 (fun y1 H locs hf w => ?_)
  refine lv_aload_n C.1.1 C.1.2.1 dX0_copyFrom_23 rfl (lv_at hl 1 rfl) ?_
  refine ns_getr C w 143 (hJ 143 (by decide) (by decide)) sh_143 (rfl : vwCl[0]? = some (RX0, TX0, 6)) inX0_copyFrom_0 2 (by decide) rfl lX0_copyFrom_15 dX0_copyFrom_24 ?_
  refine lv_iconst (v := 0) C.1.1 C.1.2.1 dX0_copyFrom_27 (by decide) ?_
  refine lv_aload_n C.1.1 C.1.2.1 dX0_copyFrom_28 rfl (lv_at hl 0 rfl) ?_
  refine ns_getr C w 31 (hI 31 (by decide)) sh_31 (rfl : vwCl[0]? = some (RX0, TX0, 6)) inX0_copyFrom_0 2 (by decide) rfl lX0_copyFrom_15 dX0_copyFrom_29 ?_
  refine lv_iconst (v := 0) C.1.1 C.1.2.1 dX0_copyFrom_32 (by decide) ?_
  refine lv_bipush (v := 10) C.1.1 C.1.2.1 dX0_copyFrom_33 (by decide) ?_
  refine ns_copy C w 145 33 (hJ 145 (by decide) (by decide)) (hI 33 (by decide)) sh_145 sh_33 hf rfl rfl (List.mem_of_getElem? (i := 2) rfl) (List.mem_of_getElem? (i := 3) rfl) (List.mem_of_getElem? (i := 4) rfl) (List.mem_of_getElem? (i := 5) rfl) (List.mem_of_getElem? (i := 6) rfl) hl.1 (Nat.le_of_ble_eq_true rfl) (Nat.le_of_ble_eq_true rfl) dX0_copyFrom_35 (fun y2 H locs hf w => ?_)
  refine lv_aload_n C.1.1 C.1.2.1 dX0_copyFrom_38 rfl (lv_at hl 1 rfl) ?_
  refine ns_getr C w 143 (hJ 143 (by decide) (by decide)) sh_143 (rfl : vwCl[0]? = some (RX0, TX0, 6)) inX0_copyFrom_0 3 (by decide) rfl lX0_copyFrom_18 dX0_copyFrom_39 ?_
  refine lv_iconst (v := 0) C.1.1 C.1.2.1 dX0_copyFrom_42 (by decide) ?_
  refine lv_aload_n C.1.1 C.1.2.1 dX0_copyFrom_43 rfl (lv_at hl 0 rfl) ?_
  refine ns_getr C w 31 (hI 31 (by decide)) sh_31 (rfl : vwCl[0]? = some (RX0, TX0, 6)) inX0_copyFrom_0 3 (by decide) rfl lX0_copyFrom_18 dX0_copyFrom_44 ?_
  refine lv_iconst (v := 0) C.1.1 C.1.2.1 dX0_copyFrom_47 (by decide) ?_
  refine lv_bipush (v := 10) C.1.1 C.1.2.1 dX0_copyFrom_48 (by decide) ?_
  refine ns_copy C w 146 34 (hJ 146 (by decide) (by decide)) (hI 34 (by decide)) sh_146 sh_34 hf rfl rfl (List.mem_of_getElem? (i := 3) rfl) (List.mem_of_getElem? (i := 3) rfl) (List.mem_of_getElem? (i := 4) rfl) (List.mem_of_getElem? (i := 5) rfl) (List.mem_of_getElem? (i := 6) rfl) hl.1 (Nat.le_of_ble_eq_true rfl) (Nat.le_of_ble_eq_true rfl) dX0_copyFrom_50 (fun y3 H locs hf w => ?_)
  refine lv_aload_n C.1.1 C.1.2.1 dX0_copyFrom_53 rfl (lv_at hl 1 rfl) ?_
  refine ns_getr C w 143 (hJ 143 (by decide) (by decide)) sh_143 (rfl : vwCl[0]? = some (RX0, TX0, 6)) inX0_copyFrom_0 4 (by decide) rfl lX0_copyFrom_21 dX0_copyFrom_54 ?_
  refine lv_iconst (v := 0) C.1.1 C.1.2.1 dX0_copyFrom_57 (by decide) ?_
  refine lv_aload_n C.1.1 C.1.2.1 dX0_copyFrom_58 rfl (lv_at hl 0 rfl) ?_
  refine ns_getr C w 31 (hI 31 (by decide)) sh_31 (rfl : vwCl[0]? = some (RX0, TX0, 6)) inX0_copyFrom_0 4 (by decide) rfl lX0_copyFrom_21 dX0_copyFrom_59 ?_
  refine lv_iconst (v := 0) C.1.1 C.1.2.1 dX0_copyFrom_62 (by decide) ?_
  refine lv_bipush (v := 10) C.1.1 C.1.2.1 dX0_copyFrom_63 (by decide) ?_
  refine ns_copy C w 147 35 (hJ 147 (by decide) (by decide)) (hI 35 (by decide)) sh_147 sh_35 hf rfl rfl (List.mem_of_getElem? (i := 4) rfl) (List.mem_of_getElem? (i := 3) rfl) (List.mem_of_getElem? (i := 4) rfl) (List.mem_of_getElem? (i := 5) rfl) (List.mem_of_getElem? (i := 6) rfl) hl.1 (Nat.le_of_ble_eq_true rfl) (Nat.le_of_ble_eq_true rfl) dX0_copyFrom_65 (fun y4 H locs hf w => ?_)
  refine lv_aload_n C.1.1 C.1.2.1 dX0_copyFrom_68 rfl (lv_at hl 1 rfl) ?_
  refine ns_getr C w 143 (hJ 143 (by decide) (by decide)) sh_143 (rfl : vwCl[0]? = some (RX0, TX0, 6)) inX0_copyFrom_0 5 (by decide) rfl lX0_copyFrom_24 dX0_copyFrom_69 ?_
  refine lv_iconst (v := 0) C.1.1 C.1.2.1 dX0_copyFrom_72 (by decide) ?_
  refine lv_aload_n C.1.1 C.1.2.1 dX0_copyFrom_73 rfl (lv_at hl 0 rfl) ?_
  refine ns_getr C w 31 (hI 31 (by decide)) sh_31 (rfl : vwCl[0]? = some (RX0, TX0, 6)) inX0_copyFrom_0 5 (by decide) rfl lX0_copyFrom_24 dX0_copyFrom_74 ?_
  refine lv_iconst (v := 0) C.1.1 C.1.2.1 dX0_copyFrom_77 (by decide) ?_
  refine lv_bipush (v := 10) C.1.1 C.1.2.1 dX0_copyFrom_78 (by decide) ?_
  refine ns_copy C w 148 36 (hJ 148 (by decide) (by decide)) (hI 36 (by decide)) sh_148 sh_36 hf rfl rfl (List.mem_of_getElem? (i := 5) rfl) (List.mem_of_getElem? (i := 3) rfl) (List.mem_of_getElem? (i := 4) rfl) (List.mem_of_getElem? (i := 5) rfl) (List.mem_of_getElem? (i := 6) rfl) hl.1 (Nat.le_of_ble_eq_true rfl) (Nat.le_of_ble_eq_true rfl) dX0_copyFrom_80 (fun y5 H locs hf w => ?_)
  have he := Option.some.inj hf
  subst he
  exact ns_vret C w hr hlk rfl rfl dX0_copyFrom_83
abbrev wrX4_copyFrom_37_149 : List (Nat × Nat) := [(0, 2368), (1, 38), (1, 39), (1, 40), (1, 41), (1, 42)]
abbrev rmX4_copyFrom_37_149 : Room := { frames := 1, cells := 0, slots := 0, locals := 40 }
set_option maxHeartbeats 4000000 in
set_option maxRecDepth 100000 in
theorem mX4_copyFrom_37_149 (l : Launch) (D : va_G) (b : Nat → Nat) (ids : List Nat) (hI : ∀ i, i < 107 → i ∈ ids) (hJ : ∀ i, 140 ≤ i → i < 173 → i ∈ ids) (N : Nat) (S : ns_S) {o : Int32 × (Nat → Int32) × (Nat → Int32) × (Nat → Int32) × (Nat → Int32) × (Nat → Int32)} (hf : fX4_copyFrom N (S.1 9536) (S.1 2368) (S.2.1 150) (S.2.1 38) (S.2.1 151) (S.2.1 39) (S.2.1 152) (S.2.1 40) (S.2.1 153) (S.2.1 41) (S.2.1 154) (S.2.1 42) = some o) : ns_M l yX4_copyFrom wsX4_copyFrom rmX4_copyFrom_37_149 D b ids S [.ref (b 37), .ref (b 149)] none (ns_I (ns_A (ns_A (ns_A (ns_A (ns_A S 42 o.2.2.2.2.2) 41 o.2.2.2.2.1) 40 o.2.2.2.1) 39 o.2.2.1) 38 o.2.1) 2368 o.1) := by
  refine ns_start (Wr := wrX4_copyFrom_37_149) (by decide) rfl (Nat.le_of_ble_eq_true rfl) ?_
  intro p e s m below meth c A ls C hr hlk w hl
  have hl : lv_has ls 2 [(0, .ref (b 37)), (1, .ref (b 149))] := hl
  unfold fX4_copyFrom at hf
  refine lv_aload_n C.1.1 C.1.2.1 dX4_copyFrom_0 rfl (lv_at hl 0 rfl) ?_
  refine lv_aload_n C.1.1 C.1.2.1 dX4_copyFrom_1 rfl (lv_at hl 1 rfl) ?_
  refine ns_geti C w 149 (hJ 149 (by decide) (by decide)) sh_149 (rfl : vwCl[4]? = some (RX4, TX4, 6)) inX4_copyFrom_4 0 (by decide) rfl lX4_copyFrom_27 (S.1 9536) rfl dX4_copyFrom_2 ?_
  refine ns_puti C w 37 (hI 37 (by decide)) sh_37 (rfl : vwCl[4]? = some (RX4, TX4, 6)) inX4_copyFrom_4 tyX4_ok nmX4 0 (by decide) rfl lX4_copyFrom_27 rfl rfl rfl (List.mem_of_getElem? (i := 0) rfl) dX4_copyFrom_5 (fun H locs w => ?_)
  refine lv_aload_n C.1.1 C.1.2.1 dX4_copyFrom_8 rfl (lv_at hl 1 rfl) ?_
  refine ns_getr C w 149 (hJ 149 (by decide) (by decide)) sh_149 (rfl : vwCl[4]? = some (RX4, TX4, 6)) inX4_copyFrom_4 1 (by decide) rfl lX4_copyFrom_9 dX4_copyFrom_9 ?_
  refine lv_iconst (v := 0) C.1.1 C.1.2.1 dX4_copyFrom_12 (by decide) ?_
  refine lv_aload_n C.1.1 C.1.2.1 dX4_copyFrom_13 rfl (lv_at hl 0 rfl) ?_
  refine ns_getr C w 37 (hI 37 (by decide)) sh_37 (rfl : vwCl[4]? = some (RX4, TX4, 6)) inX4_copyFrom_4 1 (by decide) rfl lX4_copyFrom_9 dX4_copyFrom_14 ?_
  refine lv_iconst (v := 0) C.1.1 C.1.2.1 dX4_copyFrom_17 (by decide) ?_
  refine lv_bipush (v := 30) C.1.1 C.1.2.1 dX4_copyFrom_18 (by decide) ?_
  refine ns_copy C w 150 38 (hJ 150 (by decide) (by decide)) (hI 38 (by decide)) sh_150 sh_38 hf rfl rfl (List.mem_of_getElem? (i := 1) rfl) (List.mem_of_getElem? (i := 3) rfl) (List.mem_of_getElem? (i := 4) rfl) (List.mem_of_getElem? (i := 5) rfl) (List.mem_of_getElem? (i := 6) rfl) hl.1 (Nat.le_of_ble_eq_true rfl) (Nat.le_of_ble_eq_true rfl) dX4_copyFrom_20 (fun y1 H locs hf w => ?_)
  refine lv_aload_n C.1.1 C.1.2.1 dX4_copyFrom_23 rfl (lv_at hl 1 rfl) ?_
  refine ns_getr C w 149 (hJ 149 (by decide) (by decide)) sh_149 (rfl : vwCl[4]? = some (RX4, TX4, 6)) inX4_copyFrom_4 2 (by decide) rfl lX4_copyFrom_15 dX4_copyFrom_24 ?_
  refine lv_iconst (v := 0) C.1.1 C.1.2.1 dX4_copyFrom_27 (by decide) ?_
  refine lv_aload_n C.1.1 C.1.2.1 dX4_copyFrom_28 rfl (lv_at hl 0 rfl) ?_
  refine ns_getr C w 37 (hI 37 (by decide)) sh_37 (rfl : vwCl[4]? = some (RX4, TX4, 6)) inX4_copyFrom_4 2 (by decide) rfl lX4_copyFrom_15 dX4_copyFrom_29 ?_
  refine lv_iconst (v := 0) C.1.1 C.1.2.1 dX4_copyFrom_32 (by decide) ?_
  refine lv_bipush (v := 30) C.1.1 C.1.2.1 dX4_copyFrom_33 (by decide) ?_
  refine ns_copy C w 151 39 (hJ 151 (by decide) (by decide)) (hI 39 (by decide)) sh_151 sh_39 hf rfl rfl (List.mem_of_getElem? (i := 2) rfl) (List.mem_of_getElem? (i := 3) rfl) (List.mem_of_getElem? (i := 4) rfl) (List.mem_of_getElem? (i := 5) rfl) (List.mem_of_getElem? (i := 6) rfl) hl.1 (Nat.le_of_ble_eq_true rfl) (Nat.le_of_ble_eq_true rfl) dX4_copyFrom_35 (fun y2 H locs hf w => ?_)
  refine lv_aload_n C.1.1 C.1.2.1 dX4_copyFrom_38 rfl (lv_at hl 1 rfl) ?_
  refine ns_getr C w 149 (hJ 149 (by decide) (by decide)) sh_149 (rfl : vwCl[4]? = some (RX4, TX4, 6)) inX4_copyFrom_4 3 (by decide) rfl lX4_copyFrom_18 dX4_copyFrom_39 ?_
  refine lv_iconst (v := 0) C.1.1 C.1.2.1 dX4_copyFrom_42 (by decide) ?_
  refine lv_aload_n C.1.1 C.1.2.1 dX4_copyFrom_43 rfl (lv_at hl 0 rfl) ?_
  refine ns_getr C w 37 (hI 37 (by decide)) sh_37 (rfl : vwCl[4]? = some (RX4, TX4, 6)) inX4_copyFrom_4 3 (by decide) rfl lX4_copyFrom_18 dX4_copyFrom_44 ?_
  refine lv_iconst (v := 0) C.1.1 C.1.2.1 dX4_copyFrom_47 (by decide) ?_
  refine lv_bipush (v := 30) C.1.1 C.1.2.1 dX4_copyFrom_48 (by decide) ?_
  refine ns_copy C w 152 40 (hJ 152 (by decide) (by decide)) (hI 40 (by decide)) sh_152 sh_40 hf rfl rfl (List.mem_of_getElem? (i := 3) rfl) (List.mem_of_getElem? (i := 3) rfl) (List.mem_of_getElem? (i := 4) rfl) (List.mem_of_getElem? (i := 5) rfl) (List.mem_of_getElem? (i := 6) rfl) hl.1 (Nat.le_of_ble_eq_true rfl) (Nat.le_of_ble_eq_true rfl) dX4_copyFrom_50 (fun y3 H locs hf w => ?_)
  refine lv_aload_n C.1.1 C.1.2.1 dX4_copyFrom_53 rfl (lv_at hl 1 rfl) ?_
  refine ns_getr C w 149 (hJ 149 (by decide) (by decide)) sh_149 (rfl : vwCl[4]? = some (RX4, TX4, 6)) inX4_copyFrom_4 4 (by decide) rfl lX4_copyFrom_21 dX4_copyFrom_54 ?_
  refine lv_iconst (v := 0) C.1.1 C.1.2.1 dX4_copyFrom_57 (by decide) ?_
  refine lv_aload_n C.1.1 C.1.2.1 dX4_copyFrom_58 rfl (lv_at hl 0 rfl) ?_
  refine ns_getr C w 37 (hI 37 (by decide)) sh_37 (rfl : vwCl[4]? = some (RX4, TX4, 6)) inX4_copyFrom_4 4 (by decide) rfl lX4_copyFrom_21 dX4_copyFrom_59 ?_
  refine lv_iconst (v := 0) C.1.1 C.1.2.1 dX4_copyFrom_62 (by decide) ?_
  refine lv_bipush (v := 30) C.1.1 C.1.2.1 dX4_copyFrom_63 (by decide) ?_
  refine ns_copy C w 153 41 (hJ 153 (by decide) (by decide)) (hI 41 (by decide)) sh_153 sh_41 hf rfl rfl (List.mem_of_getElem? (i := 4) rfl) (List.mem_of_getElem? (i := 3) rfl) (List.mem_of_getElem? (i := 4) rfl) (List.mem_of_getElem? (i := 5) rfl) (List.mem_of_getElem? (i := 6) rfl) hl.1 (Nat.le_of_ble_eq_true rfl) (Nat.le_of_ble_eq_true rfl) dX4_copyFrom_65 (fun y4 H locs hf w => ?_)
  refine lv_aload_n C.1.1 C.1.2.1 dX4_copyFrom_68 rfl (lv_at hl 1 rfl) ?_
  refine ns_getr C w 149 (hJ 149 (by decide) (by decide)) sh_149 (rfl : vwCl[4]? = some (RX4, TX4, 6)) inX4_copyFrom_4 5 (by decide) rfl lX4_copyFrom_24 dX4_copyFrom_69 ?_
  refine lv_iconst (v := 0) C.1.1 C.1.2.1 dX4_copyFrom_72 (by decide) ?_
  refine lv_aload_n C.1.1 C.1.2.1 dX4_copyFrom_73 rfl (lv_at hl 0 rfl) ?_
  refine ns_getr C w 37 (hI 37 (by decide)) sh_37 (rfl : vwCl[4]? = some (RX4, TX4, 6)) inX4_copyFrom_4 5 (by decide) rfl lX4_copyFrom_24 dX4_copyFrom_74 ?_
  refine lv_iconst (v := 0) C.1.1 C.1.2.1 dX4_copyFrom_77 (by decide) ?_
  refine lv_sipush (v := 180) C.1.1 C.1.2.1 dX4_copyFrom_78 (by decide) ?_
  refine ns_copy C w 154 42 (hJ 154 (by decide) (by decide)) (hI 42 (by decide)) sh_154 sh_42 hf rfl rfl (List.mem_of_getElem? (i := 5) rfl) (List.mem_of_getElem? (i := 3) rfl) (List.mem_of_getElem? (i := 4) rfl) (List.mem_of_getElem? (i := 5) rfl) (List.mem_of_getElem? (i := 6) rfl) hl.1 (Nat.le_of_ble_eq_true rfl) (Nat.le_of_ble_eq_true rfl) dX4_copyFrom_81 (fun y5 H locs hf w => ?_)
  have he := Option.some.inj hf
  subst he
  exact ns_vret C w hr hlk rfl rfl dX4_copyFrom_84
abbrev wrX7_copyFrom_43_155 : List (Nat × Nat) := [(0, 2752), (1, 44), (1, 45), (1, 46), (1, 47)]
abbrev rmX7_copyFrom_43_155 : Room := { frames := 1, cells := 0, slots := 0, locals := 40 }
set_option maxHeartbeats 4000000 in
set_option maxRecDepth 100000 in
theorem mX7_copyFrom_43_155 (l : Launch) (D : va_G) (b : Nat → Nat) (ids : List Nat) (hI : ∀ i, i < 107 → i ∈ ids) (hJ : ∀ i, 140 ≤ i → i < 173 → i ∈ ids) (N : Nat) (S : ns_S) {o : Int32 × (Nat → Int32) × (Nat → Int32) × (Nat → Int32) × (Nat → Int32)} (hf : fX7_copyFrom N (S.1 9920) (S.1 2752) (S.2.1 156) (S.2.1 44) (S.2.1 157) (S.2.1 45) (S.2.1 158) (S.2.1 46) (S.2.1 159) (S.2.1 47) = some o) : ns_M l yX7_copyFrom wsX7_copyFrom rmX7_copyFrom_43_155 D b ids S [.ref (b 43), .ref (b 155)] none (ns_I (ns_A (ns_A (ns_A (ns_A S 47 o.2.2.2.2) 46 o.2.2.2.1) 45 o.2.2.1) 44 o.2.1) 2752 o.1) := by
  refine ns_start (Wr := wrX7_copyFrom_43_155) (by decide) rfl (Nat.le_of_ble_eq_true rfl) ?_
  intro p e s m below meth c A ls C hr hlk w hl
  have hl : lv_has ls 2 [(0, .ref (b 43)), (1, .ref (b 155))] := hl
  unfold fX7_copyFrom at hf
  refine lv_aload_n C.1.1 C.1.2.1 dX7_copyFrom_0 rfl (lv_at hl 0 rfl) ?_
  refine lv_aload_n C.1.1 C.1.2.1 dX7_copyFrom_1 rfl (lv_at hl 1 rfl) ?_
  refine ns_geti C w 155 (hJ 155 (by decide) (by decide)) sh_155 (rfl : vwCl[7]? = some (RX7, TX7, 5)) inX7_copyFrom_7 0 (by decide) rfl lX7_copyFrom_30 (S.1 9920) rfl dX7_copyFrom_2 ?_
  refine ns_puti C w 43 (hI 43 (by decide)) sh_43 (rfl : vwCl[7]? = some (RX7, TX7, 5)) inX7_copyFrom_7 tyX7_ok nmX7 0 (by decide) rfl lX7_copyFrom_30 rfl rfl rfl (List.mem_of_getElem? (i := 0) rfl) dX7_copyFrom_5 (fun H locs w => ?_)
  refine lv_aload_n C.1.1 C.1.2.1 dX7_copyFrom_8 rfl (lv_at hl 1 rfl) ?_
  refine ns_getr C w 155 (hJ 155 (by decide) (by decide)) sh_155 (rfl : vwCl[7]? = some (RX7, TX7, 5)) inX7_copyFrom_7 1 (by decide) rfl lX7_copyFrom_9 dX7_copyFrom_9 ?_
  refine lv_iconst (v := 0) C.1.1 C.1.2.1 dX7_copyFrom_12 (by decide) ?_
  refine lv_aload_n C.1.1 C.1.2.1 dX7_copyFrom_13 rfl (lv_at hl 0 rfl) ?_
  refine ns_getr C w 43 (hI 43 (by decide)) sh_43 (rfl : vwCl[7]? = some (RX7, TX7, 5)) inX7_copyFrom_7 1 (by decide) rfl lX7_copyFrom_9 dX7_copyFrom_14 ?_
  refine lv_iconst (v := 0) C.1.1 C.1.2.1 dX7_copyFrom_17 (by decide) ?_
  refine lv_bipush (v := 10) C.1.1 C.1.2.1 dX7_copyFrom_18 (by decide) ?_
  refine ns_copy C w 156 44 (hJ 156 (by decide) (by decide)) (hI 44 (by decide)) sh_156 sh_44 hf rfl rfl (List.mem_of_getElem? (i := 1) rfl) (List.mem_of_getElem? (i := 3) rfl) (List.mem_of_getElem? (i := 4) rfl) (List.mem_of_getElem? (i := 5) rfl) (List.mem_of_getElem? (i := 6) rfl) hl.1 (Nat.le_of_ble_eq_true rfl) (Nat.le_of_ble_eq_true rfl) dX7_copyFrom_20 (fun y1 H locs hf w => ?_)
  refine lv_aload_n C.1.1 C.1.2.1 dX7_copyFrom_23 rfl (lv_at hl 1 rfl) ?_
  refine ns_getr C w 155 (hJ 155 (by decide) (by decide)) sh_155 (rfl : vwCl[7]? = some (RX7, TX7, 5)) inX7_copyFrom_7 2 (by decide) rfl lX7_copyFrom_15 dX7_copyFrom_24 ?_
  refine lv_iconst (v := 0) C.1.1 C.1.2.1 dX7_copyFrom_27 (by decide) ?_
  refine lv_aload_n C.1.1 C.1.2.1 dX7_copyFrom_28 rfl (lv_at hl 0 rfl) ?_
  refine ns_getr C w 43 (hI 43 (by decide)) sh_43 (rfl : vwCl[7]? = some (RX7, TX7, 5)) inX7_copyFrom_7 2 (by decide) rfl lX7_copyFrom_15 dX7_copyFrom_29 ?_
  refine lv_iconst (v := 0) C.1.1 C.1.2.1 dX7_copyFrom_32 (by decide) ?_
  refine lv_bipush (v := 10) C.1.1 C.1.2.1 dX7_copyFrom_33 (by decide) ?_
  refine ns_copy C w 157 45 (hJ 157 (by decide) (by decide)) (hI 45 (by decide)) sh_157 sh_45 hf rfl rfl (List.mem_of_getElem? (i := 2) rfl) (List.mem_of_getElem? (i := 3) rfl) (List.mem_of_getElem? (i := 4) rfl) (List.mem_of_getElem? (i := 5) rfl) (List.mem_of_getElem? (i := 6) rfl) hl.1 (Nat.le_of_ble_eq_true rfl) (Nat.le_of_ble_eq_true rfl) dX7_copyFrom_35 (fun y2 H locs hf w => ?_)
  refine lv_aload_n C.1.1 C.1.2.1 dX7_copyFrom_38 rfl (lv_at hl 1 rfl) ?_
  refine ns_getr C w 155 (hJ 155 (by decide) (by decide)) sh_155 (rfl : vwCl[7]? = some (RX7, TX7, 5)) inX7_copyFrom_7 3 (by decide) rfl lX7_copyFrom_18 dX7_copyFrom_39 ?_
  refine lv_iconst (v := 0) C.1.1 C.1.2.1 dX7_copyFrom_42 (by decide) ?_
  refine lv_aload_n C.1.1 C.1.2.1 dX7_copyFrom_43 rfl (lv_at hl 0 rfl) ?_
  refine ns_getr C w 43 (hI 43 (by decide)) sh_43 (rfl : vwCl[7]? = some (RX7, TX7, 5)) inX7_copyFrom_7 3 (by decide) rfl lX7_copyFrom_18 dX7_copyFrom_44 ?_
  refine lv_iconst (v := 0) C.1.1 C.1.2.1 dX7_copyFrom_47 (by decide) ?_
  refine lv_bipush (v := 10) C.1.1 C.1.2.1 dX7_copyFrom_48 (by decide) ?_
  refine ns_copy C w 158 46 (hJ 158 (by decide) (by decide)) (hI 46 (by decide)) sh_158 sh_46 hf rfl rfl (List.mem_of_getElem? (i := 3) rfl) (List.mem_of_getElem? (i := 3) rfl) (List.mem_of_getElem? (i := 4) rfl) (List.mem_of_getElem? (i := 5) rfl) (List.mem_of_getElem? (i := 6) rfl) hl.1 (Nat.le_of_ble_eq_true rfl) (Nat.le_of_ble_eq_true rfl) dX7_copyFrom_50 (fun y3 H locs hf w => ?_)
  refine lv_aload_n C.1.1 C.1.2.1 dX7_copyFrom_53 rfl (lv_at hl 1 rfl) ?_
  refine ns_getr C w 155 (hJ 155 (by decide) (by decide)) sh_155 (rfl : vwCl[7]? = some (RX7, TX7, 5)) inX7_copyFrom_7 4 (by decide) rfl lX7_copyFrom_21 dX7_copyFrom_54 ?_
  refine lv_iconst (v := 0) C.1.1 C.1.2.1 dX7_copyFrom_57 (by decide) ?_
  refine lv_aload_n C.1.1 C.1.2.1 dX7_copyFrom_58 rfl (lv_at hl 0 rfl) ?_
  refine ns_getr C w 43 (hI 43 (by decide)) sh_43 (rfl : vwCl[7]? = some (RX7, TX7, 5)) inX7_copyFrom_7 4 (by decide) rfl lX7_copyFrom_21 dX7_copyFrom_59 ?_
  refine lv_iconst (v := 0) C.1.1 C.1.2.1 dX7_copyFrom_62 (by decide) ?_
  refine lv_bipush (v := 30) C.1.1 C.1.2.1 dX7_copyFrom_63 (by decide) ?_
  refine ns_copy C w 159 47 (hJ 159 (by decide) (by decide)) (hI 47 (by decide)) sh_159 sh_47 hf rfl rfl (List.mem_of_getElem? (i := 4) rfl) (List.mem_of_getElem? (i := 3) rfl) (List.mem_of_getElem? (i := 4) rfl) (List.mem_of_getElem? (i := 5) rfl) (List.mem_of_getElem? (i := 6) rfl) hl.1 (Nat.le_of_ble_eq_true rfl) (Nat.le_of_ble_eq_true rfl) dX7_copyFrom_65 (fun y4 H locs hf w => ?_)
  have he := Option.some.inj hf
  subst he
  exact ns_vret C w hr hlk rfl rfl dX7_copyFrom_68
abbrev wrX8_copyFrom_48_160 : List (Nat × Nat) := [(0, 3072), (0, 3073), (1, 49), (1, 50), (1, 51), (1, 52)]
abbrev rmX8_copyFrom_48_160 : Room := { frames := 1, cells := 0, slots := 0, locals := 40 }
set_option maxHeartbeats 4000000 in
set_option maxRecDepth 100000 in
theorem mX8_copyFrom_48_160 (l : Launch) (D : va_G) (b : Nat → Nat) (ids : List Nat) (hI : ∀ i, i < 107 → i ∈ ids) (hJ : ∀ i, 140 ≤ i → i < 173 → i ∈ ids) (N : Nat) (S : ns_S) {o : Int32 × Int32 × (Nat → Int32) × (Nat → Int32) × (Nat → Int32) × (Nat → Int32)} (hf : fX8_copyFrom N (S.1 10240) (S.1 3072) (S.1 10241) (S.1 3073) (S.2.1 161) (S.2.1 49) (S.2.1 162) (S.2.1 50) (S.2.1 163) (S.2.1 51) (S.2.1 164) (S.2.1 52) = some o) : ns_M l yX8_copyFrom wsX8_copyFrom rmX8_copyFrom_48_160 D b ids S [.ref (b 48), .ref (b 160)] none (ns_I (ns_I (ns_A (ns_A (ns_A (ns_A S 52 o.2.2.2.2.2) 51 o.2.2.2.2.1) 50 o.2.2.2.1) 49 o.2.2.1) 3073 o.2.1) 3072 o.1) := by
  refine ns_start (Wr := wrX8_copyFrom_48_160) (by decide) rfl (Nat.le_of_ble_eq_true rfl) ?_
  intro p e s m below meth c A ls C hr hlk w hl
  have hl : lv_has ls 2 [(0, .ref (b 48)), (1, .ref (b 160))] := hl
  unfold fX8_copyFrom at hf
  refine lv_aload_n C.1.1 C.1.2.1 dX8_copyFrom_0 rfl (lv_at hl 0 rfl) ?_
  refine lv_aload_n C.1.1 C.1.2.1 dX8_copyFrom_1 rfl (lv_at hl 1 rfl) ?_
  refine ns_geti C w 160 (hJ 160 (by decide) (by decide)) sh_160 (rfl : vwCl[8]? = some (RX8, TX8, 6)) inX8_copyFrom_8 0 (by decide) rfl lX8_copyFrom_9 (S.1 10240) rfl dX8_copyFrom_2 ?_
  refine ns_puti C w 48 (hI 48 (by decide)) sh_48 (rfl : vwCl[8]? = some (RX8, TX8, 6)) inX8_copyFrom_8 tyX8_ok nmX8 0 (by decide) rfl lX8_copyFrom_9 rfl rfl rfl (List.mem_of_getElem? (i := 0) rfl) dX8_copyFrom_5 (fun H locs w => ?_)
  refine lv_aload_n C.1.1 C.1.2.1 dX8_copyFrom_8 rfl (lv_at hl 0 rfl) ?_
  refine lv_aload_n C.1.1 C.1.2.1 dX8_copyFrom_9 rfl (lv_at hl 1 rfl) ?_
  refine ns_geti C w 160 (hJ 160 (by decide) (by decide)) sh_160 (rfl : vwCl[8]? = some (RX8, TX8, 6)) inX8_copyFrom_8 1 (by decide) rfl lX8_copyFrom_28 (S.1 10241) rfl dX8_copyFrom_10 ?_
  refine ns_puti C w 48 (hI 48 (by decide)) sh_48 (rfl : vwCl[8]? = some (RX8, TX8, 6)) inX8_copyFrom_8 tyX8_ok nmX8 1 (by decide) rfl lX8_copyFrom_28 rfl rfl rfl (List.mem_of_getElem? (i := 1) rfl) dX8_copyFrom_13 (fun H locs w => ?_)
  refine lv_aload_n C.1.1 C.1.2.1 dX8_copyFrom_16 rfl (lv_at hl 1 rfl) ?_
  refine ns_getr C w 160 (hJ 160 (by decide) (by decide)) sh_160 (rfl : vwCl[8]? = some (RX8, TX8, 6)) inX8_copyFrom_8 2 (by decide) rfl lX8_copyFrom_15 dX8_copyFrom_17 ?_
  refine lv_iconst (v := 0) C.1.1 C.1.2.1 dX8_copyFrom_20 (by decide) ?_
  refine lv_aload_n C.1.1 C.1.2.1 dX8_copyFrom_21 rfl (lv_at hl 0 rfl) ?_
  refine ns_getr C w 48 (hI 48 (by decide)) sh_48 (rfl : vwCl[8]? = some (RX8, TX8, 6)) inX8_copyFrom_8 2 (by decide) rfl lX8_copyFrom_15 dX8_copyFrom_22 ?_
  refine lv_iconst (v := 0) C.1.1 C.1.2.1 dX8_copyFrom_25 (by decide) ?_
  refine lv_bipush (v := 30) C.1.1 C.1.2.1 dX8_copyFrom_26 (by decide) ?_
  refine ns_copy C w 161 49 (hJ 161 (by decide) (by decide)) (hI 49 (by decide)) sh_161 sh_49 hf rfl rfl (List.mem_of_getElem? (i := 2) rfl) (List.mem_of_getElem? (i := 4) rfl) (List.mem_of_getElem? (i := 5) rfl) (List.mem_of_getElem? (i := 6) rfl) (List.mem_of_getElem? (i := 7) rfl) hl.1 (Nat.le_of_ble_eq_true rfl) (Nat.le_of_ble_eq_true rfl) dX8_copyFrom_28 (fun y1 H locs hf w => ?_)
  refine lv_aload_n C.1.1 C.1.2.1 dX8_copyFrom_31 rfl (lv_at hl 1 rfl) ?_
  refine ns_getr C w 160 (hJ 160 (by decide) (by decide)) sh_160 (rfl : vwCl[8]? = some (RX8, TX8, 6)) inX8_copyFrom_8 3 (by decide) rfl lX8_copyFrom_19 dX8_copyFrom_32 ?_
  refine lv_iconst (v := 0) C.1.1 C.1.2.1 dX8_copyFrom_35 (by decide) ?_
  refine lv_aload_n C.1.1 C.1.2.1 dX8_copyFrom_36 rfl (lv_at hl 0 rfl) ?_
  refine ns_getr C w 48 (hI 48 (by decide)) sh_48 (rfl : vwCl[8]? = some (RX8, TX8, 6)) inX8_copyFrom_8 3 (by decide) rfl lX8_copyFrom_19 dX8_copyFrom_37 ?_
  refine lv_iconst (v := 0) C.1.1 C.1.2.1 dX8_copyFrom_40 (by decide) ?_
  refine lv_bipush (v := 10) C.1.1 C.1.2.1 dX8_copyFrom_41 (by decide) ?_
  refine ns_copy C w 162 50 (hJ 162 (by decide) (by decide)) (hI 50 (by decide)) sh_162 sh_50 hf rfl rfl (List.mem_of_getElem? (i := 3) rfl) (List.mem_of_getElem? (i := 4) rfl) (List.mem_of_getElem? (i := 5) rfl) (List.mem_of_getElem? (i := 6) rfl) (List.mem_of_getElem? (i := 7) rfl) hl.1 (Nat.le_of_ble_eq_true rfl) (Nat.le_of_ble_eq_true rfl) dX8_copyFrom_43 (fun y2 H locs hf w => ?_)
  refine lv_aload_n C.1.1 C.1.2.1 dX8_copyFrom_46 rfl (lv_at hl 1 rfl) ?_
  refine ns_getr C w 160 (hJ 160 (by decide) (by decide)) sh_160 (rfl : vwCl[8]? = some (RX8, TX8, 6)) inX8_copyFrom_8 4 (by decide) rfl lX8_copyFrom_22 dX8_copyFrom_47 ?_
  refine lv_iconst (v := 0) C.1.1 C.1.2.1 dX8_copyFrom_50 (by decide) ?_
  refine lv_aload_n C.1.1 C.1.2.1 dX8_copyFrom_51 rfl (lv_at hl 0 rfl) ?_
  refine ns_getr C w 48 (hI 48 (by decide)) sh_48 (rfl : vwCl[8]? = some (RX8, TX8, 6)) inX8_copyFrom_8 4 (by decide) rfl lX8_copyFrom_22 dX8_copyFrom_52 ?_
  refine lv_iconst (v := 0) C.1.1 C.1.2.1 dX8_copyFrom_55 (by decide) ?_
  refine lv_bipush (v := 6) C.1.1 C.1.2.1 dX8_copyFrom_56 (by decide) ?_
  refine ns_copy C w 163 51 (hJ 163 (by decide) (by decide)) (hI 51 (by decide)) sh_163 sh_51 hf rfl rfl (List.mem_of_getElem? (i := 4) rfl) (List.mem_of_getElem? (i := 4) rfl) (List.mem_of_getElem? (i := 5) rfl) (List.mem_of_getElem? (i := 6) rfl) (List.mem_of_getElem? (i := 7) rfl) hl.1 (Nat.le_of_ble_eq_true rfl) (Nat.le_of_ble_eq_true rfl) dX8_copyFrom_58 (fun y3 H locs hf w => ?_)
  refine lv_aload_n C.1.1 C.1.2.1 dX8_copyFrom_61 rfl (lv_at hl 1 rfl) ?_
  refine ns_getr C w 160 (hJ 160 (by decide) (by decide)) sh_160 (rfl : vwCl[8]? = some (RX8, TX8, 6)) inX8_copyFrom_8 5 (by decide) rfl lX8_copyFrom_25 dX8_copyFrom_62 ?_
  refine lv_iconst (v := 0) C.1.1 C.1.2.1 dX8_copyFrom_65 (by decide) ?_
  refine lv_aload_n C.1.1 C.1.2.1 dX8_copyFrom_66 rfl (lv_at hl 0 rfl) ?_
  refine ns_getr C w 48 (hI 48 (by decide)) sh_48 (rfl : vwCl[8]? = some (RX8, TX8, 6)) inX8_copyFrom_8 5 (by decide) rfl lX8_copyFrom_25 dX8_copyFrom_67 ?_
  refine lv_iconst (v := 0) C.1.1 C.1.2.1 dX8_copyFrom_70 (by decide) ?_
  refine lv_iconst (v := 5) C.1.1 C.1.2.1 dX8_copyFrom_71 (by decide) ?_
  refine ns_copy C w 164 52 (hJ 164 (by decide) (by decide)) (hI 52 (by decide)) sh_164 sh_52 hf rfl rfl (List.mem_of_getElem? (i := 5) rfl) (List.mem_of_getElem? (i := 4) rfl) (List.mem_of_getElem? (i := 5) rfl) (List.mem_of_getElem? (i := 6) rfl) (List.mem_of_getElem? (i := 7) rfl) hl.1 (Nat.le_of_ble_eq_true rfl) (Nat.le_of_ble_eq_true rfl) dX8_copyFrom_72 (fun y4 H locs hf w => ?_)
  have he := Option.some.inj hf
  subst he
  exact ns_vret C w hr hlk rfl rfl dX8_copyFrom_75
abbrev wrX2_copyFrom_53_165 : List (Nat × Nat) := [(0, 3392), (1, 54), (1, 55), (1, 56), (1, 57), (1, 58), (1, 59), (1, 60)]
abbrev rmX2_copyFrom_53_165 : Room := { frames := 1, cells := 0, slots := 0, locals := 40 }
set_option maxHeartbeats 4000000 in
set_option maxRecDepth 100000 in
theorem mX2_copyFrom_53_165 (l : Launch) (D : va_G) (b : Nat → Nat) (ids : List Nat) (hI : ∀ i, i < 107 → i ∈ ids) (hJ : ∀ i, 140 ≤ i → i < 173 → i ∈ ids) (N : Nat) (S : ns_S) {o : Int32 × (Nat → Int32) × (Nat → Int32) × (Nat → Int32) × (Nat → Int32) × (Nat → Int32) × (Nat → Int32) × (Nat → Int32)} (hf : fX2_copyFrom N (S.1 10560) (S.1 3392) (S.2.1 166) (S.2.1 54) (S.2.1 167) (S.2.1 55) (S.2.1 168) (S.2.1 56) (S.2.1 169) (S.2.1 57) (S.2.1 170) (S.2.1 58) (S.2.1 171) (S.2.1 59) (S.2.1 172) (S.2.1 60) = some o) : ns_M l yX2_copyFrom wsX2_copyFrom rmX2_copyFrom_53_165 D b ids S [.ref (b 53), .ref (b 165)] none (ns_I (ns_A (ns_A (ns_A (ns_A (ns_A (ns_A (ns_A S 60 o.2.2.2.2.2.2.2) 59 o.2.2.2.2.2.2.1) 58 o.2.2.2.2.2.1) 57 o.2.2.2.2.1) 56 o.2.2.2.1) 55 o.2.2.1) 54 o.2.1) 3392 o.1) := by
  refine ns_start (Wr := wrX2_copyFrom_53_165) (by decide) rfl (Nat.le_of_ble_eq_true rfl) ?_
  intro p e s m below meth c A ls C hr hlk w hl
  have hl : lv_has ls 2 [(0, .ref (b 53)), (1, .ref (b 165))] := hl
  unfold fX2_copyFrom at hf
  refine lv_aload_n C.1.1 C.1.2.1 dX2_copyFrom_0 rfl (lv_at hl 0 rfl) ?_
  refine lv_aload_n C.1.1 C.1.2.1 dX2_copyFrom_1 rfl (lv_at hl 1 rfl) ?_
  refine ns_geti C w 165 (hJ 165 (by decide) (by decide)) sh_165 (rfl : vwCl[2]? = some (RX2, TX2, 8)) inX2_copyFrom_2 0 (by decide) rfl lX2_copyFrom_33 (S.1 10560) rfl dX2_copyFrom_2 ?_
  refine ns_puti C w 53 (hI 53 (by decide)) sh_53 (rfl : vwCl[2]? = some (RX2, TX2, 8)) inX2_copyFrom_2 tyX2_ok nmX2 0 (by decide) rfl lX2_copyFrom_33 rfl rfl rfl (List.mem_of_getElem? (i := 0) rfl) dX2_copyFrom_5 (fun H locs w => ?_)
  refine lv_aload_n C.1.1 C.1.2.1 dX2_copyFrom_8 rfl (lv_at hl 1 rfl) ?_
  refine ns_getr C w 165 (hJ 165 (by decide) (by decide)) sh_165 (rfl : vwCl[2]? = some (RX2, TX2, 8)) inX2_copyFrom_2 1 (by decide) rfl lX2_copyFrom_9 dX2_copyFrom_9 ?_
  refine lv_iconst (v := 0) C.1.1 C.1.2.1 dX2_copyFrom_12 (by decide) ?_
  refine lv_aload_n C.1.1 C.1.2.1 dX2_copyFrom_13 rfl (lv_at hl 0 rfl) ?_
  refine ns_getr C w 53 (hI 53 (by decide)) sh_53 (rfl : vwCl[2]? = some (RX2, TX2, 8)) inX2_copyFrom_2 1 (by decide) rfl lX2_copyFrom_9 dX2_copyFrom_14 ?_
  refine lv_iconst (v := 0) C.1.1 C.1.2.1 dX2_copyFrom_17 (by decide) ?_
  refine lv_bipush (v := 16) C.1.1 C.1.2.1 dX2_copyFrom_18 (by decide) ?_
  refine ns_copy C w 166 54 (hJ 166 (by decide) (by decide)) (hI 54 (by decide)) sh_166 sh_54 hf rfl rfl (List.mem_of_getElem? (i := 1) rfl) (List.mem_of_getElem? (i := 3) rfl) (List.mem_of_getElem? (i := 4) rfl) (List.mem_of_getElem? (i := 5) rfl) (List.mem_of_getElem? (i := 6) rfl) hl.1 (Nat.le_of_ble_eq_true rfl) (Nat.le_of_ble_eq_true rfl) dX2_copyFrom_20 (fun y1 H locs hf w => ?_)
  refine lv_aload_n C.1.1 C.1.2.1 dX2_copyFrom_23 rfl (lv_at hl 1 rfl) ?_
  refine ns_getr C w 165 (hJ 165 (by decide) (by decide)) sh_165 (rfl : vwCl[2]? = some (RX2, TX2, 8)) inX2_copyFrom_2 2 (by decide) rfl lX2_copyFrom_15 dX2_copyFrom_24 ?_
  refine lv_iconst (v := 0) C.1.1 C.1.2.1 dX2_copyFrom_27 (by decide) ?_
  refine lv_aload_n C.1.1 C.1.2.1 dX2_copyFrom_28 rfl (lv_at hl 0 rfl) ?_
  refine ns_getr C w 53 (hI 53 (by decide)) sh_53 (rfl : vwCl[2]? = some (RX2, TX2, 8)) inX2_copyFrom_2 2 (by decide) rfl lX2_copyFrom_15 dX2_copyFrom_29 ?_
  refine lv_iconst (v := 0) C.1.1 C.1.2.1 dX2_copyFrom_32 (by decide) ?_
  refine lv_bipush (v := 16) C.1.1 C.1.2.1 dX2_copyFrom_33 (by decide) ?_
  refine ns_copy C w 167 55 (hJ 167 (by decide) (by decide)) (hI 55 (by decide)) sh_167 sh_55 hf rfl rfl (List.mem_of_getElem? (i := 2) rfl) (List.mem_of_getElem? (i := 3) rfl) (List.mem_of_getElem? (i := 4) rfl) (List.mem_of_getElem? (i := 5) rfl) (List.mem_of_getElem? (i := 6) rfl) hl.1 (Nat.le_of_ble_eq_true rfl) (Nat.le_of_ble_eq_true rfl) dX2_copyFrom_35 (fun y2 H locs hf w => ?_)
  refine lv_aload_n C.1.1 C.1.2.1 dX2_copyFrom_38 rfl (lv_at hl 1 rfl) ?_
  refine ns_getr C w 165 (hJ 165 (by decide) (by decide)) sh_165 (rfl : vwCl[2]? = some (RX2, TX2, 8)) inX2_copyFrom_2 3 (by decide) rfl lX2_copyFrom_18 dX2_copyFrom_39 ?_
  refine lv_iconst (v := 0) C.1.1 C.1.2.1 dX2_copyFrom_42 (by decide) ?_
  refine lv_aload_n C.1.1 C.1.2.1 dX2_copyFrom_43 rfl (lv_at hl 0 rfl) ?_
  refine ns_getr C w 53 (hI 53 (by decide)) sh_53 (rfl : vwCl[2]? = some (RX2, TX2, 8)) inX2_copyFrom_2 3 (by decide) rfl lX2_copyFrom_18 dX2_copyFrom_44 ?_
  refine lv_iconst (v := 0) C.1.1 C.1.2.1 dX2_copyFrom_47 (by decide) ?_
  refine lv_bipush (v := 16) C.1.1 C.1.2.1 dX2_copyFrom_48 (by decide) ?_
  refine ns_copy C w 168 56 (hJ 168 (by decide) (by decide)) (hI 56 (by decide)) sh_168 sh_56 hf rfl rfl (List.mem_of_getElem? (i := 3) rfl) (List.mem_of_getElem? (i := 3) rfl) (List.mem_of_getElem? (i := 4) rfl) (List.mem_of_getElem? (i := 5) rfl) (List.mem_of_getElem? (i := 6) rfl) hl.1 (Nat.le_of_ble_eq_true rfl) (Nat.le_of_ble_eq_true rfl) dX2_copyFrom_50 (fun y3 H locs hf w => ?_)
  refine lv_aload_n C.1.1 C.1.2.1 dX2_copyFrom_53 rfl (lv_at hl 1 rfl) ?_
  refine ns_getr C w 165 (hJ 165 (by decide) (by decide)) sh_165 (rfl : vwCl[2]? = some (RX2, TX2, 8)) inX2_copyFrom_2 4 (by decide) rfl lX2_copyFrom_21 dX2_copyFrom_54 ?_
  refine lv_iconst (v := 0) C.1.1 C.1.2.1 dX2_copyFrom_57 (by decide) ?_
  refine lv_aload_n C.1.1 C.1.2.1 dX2_copyFrom_58 rfl (lv_at hl 0 rfl) ?_
  refine ns_getr C w 53 (hI 53 (by decide)) sh_53 (rfl : vwCl[2]? = some (RX2, TX2, 8)) inX2_copyFrom_2 4 (by decide) rfl lX2_copyFrom_21 dX2_copyFrom_59 ?_
  refine lv_iconst (v := 0) C.1.1 C.1.2.1 dX2_copyFrom_62 (by decide) ?_
  refine lv_bipush (v := 16) C.1.1 C.1.2.1 dX2_copyFrom_63 (by decide) ?_
  refine ns_copy C w 169 57 (hJ 169 (by decide) (by decide)) (hI 57 (by decide)) sh_169 sh_57 hf rfl rfl (List.mem_of_getElem? (i := 4) rfl) (List.mem_of_getElem? (i := 3) rfl) (List.mem_of_getElem? (i := 4) rfl) (List.mem_of_getElem? (i := 5) rfl) (List.mem_of_getElem? (i := 6) rfl) hl.1 (Nat.le_of_ble_eq_true rfl) (Nat.le_of_ble_eq_true rfl) dX2_copyFrom_65 (fun y4 H locs hf w => ?_)
  refine lv_aload_n C.1.1 C.1.2.1 dX2_copyFrom_68 rfl (lv_at hl 1 rfl) ?_
  refine ns_getr C w 165 (hJ 165 (by decide) (by decide)) sh_165 (rfl : vwCl[2]? = some (RX2, TX2, 8)) inX2_copyFrom_2 5 (by decide) rfl lX2_copyFrom_24 dX2_copyFrom_69 ?_
  refine lv_iconst (v := 0) C.1.1 C.1.2.1 dX2_copyFrom_72 (by decide) ?_
  refine lv_aload_n C.1.1 C.1.2.1 dX2_copyFrom_73 rfl (lv_at hl 0 rfl) ?_
  refine ns_getr C w 53 (hI 53 (by decide)) sh_53 (rfl : vwCl[2]? = some (RX2, TX2, 8)) inX2_copyFrom_2 5 (by decide) rfl lX2_copyFrom_24 dX2_copyFrom_74 ?_
  refine lv_iconst (v := 0) C.1.1 C.1.2.1 dX2_copyFrom_77 (by decide) ?_
  refine lv_bipush (v := 64) C.1.1 C.1.2.1 dX2_copyFrom_78 (by decide) ?_
  refine ns_copy C w 170 58 (hJ 170 (by decide) (by decide)) (hI 58 (by decide)) sh_170 sh_58 hf rfl rfl (List.mem_of_getElem? (i := 5) rfl) (List.mem_of_getElem? (i := 3) rfl) (List.mem_of_getElem? (i := 4) rfl) (List.mem_of_getElem? (i := 5) rfl) (List.mem_of_getElem? (i := 6) rfl) hl.1 (Nat.le_of_ble_eq_true rfl) (Nat.le_of_ble_eq_true rfl) dX2_copyFrom_80 (fun y5 H locs hf w => ?_)
  refine lv_aload_n C.1.1 C.1.2.1 dX2_copyFrom_83 rfl (lv_at hl 1 rfl) ?_
  refine ns_getr C w 165 (hJ 165 (by decide) (by decide)) sh_165 (rfl : vwCl[2]? = some (RX2, TX2, 8)) inX2_copyFrom_2 6 (by decide) rfl lX2_copyFrom_27 dX2_copyFrom_84 ?_
  refine lv_iconst (v := 0) C.1.1 C.1.2.1 dX2_copyFrom_87 (by decide) ?_
  refine lv_aload_n C.1.1 C.1.2.1 dX2_copyFrom_88 rfl (lv_at hl 0 rfl) ?_
  refine ns_getr C w 53 (hI 53 (by decide)) sh_53 (rfl : vwCl[2]? = some (RX2, TX2, 8)) inX2_copyFrom_2 6 (by decide) rfl lX2_copyFrom_27 dX2_copyFrom_89 ?_
  refine lv_iconst (v := 0) C.1.1 C.1.2.1 dX2_copyFrom_92 (by decide) ?_
  refine lv_bipush (v := 64) C.1.1 C.1.2.1 dX2_copyFrom_93 (by decide) ?_
  refine ns_copy C w 171 59 (hJ 171 (by decide) (by decide)) (hI 59 (by decide)) sh_171 sh_59 hf rfl rfl (List.mem_of_getElem? (i := 6) rfl) (List.mem_of_getElem? (i := 3) rfl) (List.mem_of_getElem? (i := 4) rfl) (List.mem_of_getElem? (i := 5) rfl) (List.mem_of_getElem? (i := 6) rfl) hl.1 (Nat.le_of_ble_eq_true rfl) (Nat.le_of_ble_eq_true rfl) dX2_copyFrom_95 (fun y6 H locs hf w => ?_)
  refine lv_aload_n C.1.1 C.1.2.1 dX2_copyFrom_98 rfl (lv_at hl 1 rfl) ?_
  refine ns_getr C w 165 (hJ 165 (by decide) (by decide)) sh_165 (rfl : vwCl[2]? = some (RX2, TX2, 8)) inX2_copyFrom_2 7 (by decide) rfl lX2_copyFrom_30 dX2_copyFrom_99 ?_
  refine lv_iconst (v := 0) C.1.1 C.1.2.1 dX2_copyFrom_102 (by decide) ?_
  refine lv_aload_n C.1.1 C.1.2.1 dX2_copyFrom_103 rfl (lv_at hl 0 rfl) ?_
  refine ns_getr C w 53 (hI 53 (by decide)) sh_53 (rfl : vwCl[2]? = some (RX2, TX2, 8)) inX2_copyFrom_2 7 (by decide) rfl lX2_copyFrom_30 dX2_copyFrom_104 ?_
  refine lv_iconst (v := 0) C.1.1 C.1.2.1 dX2_copyFrom_107 (by decide) ?_
  refine lv_bipush (v := 64) C.1.1 C.1.2.1 dX2_copyFrom_108 (by decide) ?_
  refine ns_copy C w 172 60 (hJ 172 (by decide) (by decide)) (hI 60 (by decide)) sh_172 sh_60 hf rfl rfl (List.mem_of_getElem? (i := 7) rfl) (List.mem_of_getElem? (i := 3) rfl) (List.mem_of_getElem? (i := 4) rfl) (List.mem_of_getElem? (i := 5) rfl) (List.mem_of_getElem? (i := 6) rfl) hl.1 (Nat.le_of_ble_eq_true rfl) (Nat.le_of_ble_eq_true rfl) dX2_copyFrom_110 (fun y7 H locs hf w => ?_)
  have he := Option.some.inj hf
  subst he
  exact ns_vret C w hr hlk rfl rfl dX2_copyFrom_113
abbrev wrX6_copyFrom_28_140 : List (Nat × Nat) := [(0, 1856), (1, 30), (0, 1984), (1, 32), (1, 33), (1, 34), (1, 35), (1, 36), (0, 2368), (1, 38), (1, 39), (1, 40), (1, 41), (1, 42), (0, 2752), (1, 44), (1, 45), (1, 46), (1, 47), (0, 3072), (0, 3073), (1, 49), (1, 50), (1, 51), (1, 52), (0, 3392), (1, 54), (1, 55), (1, 56), (1, 57), (1, 58), (1, 59), (1, 60)]
abbrev rmX6_copyFrom_28_140 : Room := { frames := 2, cells := 0, slots := 0, locals := 61 }
set_option maxHeartbeats 4000000 in
set_option maxRecDepth 100000 in
theorem mX6_copyFrom_28_140 (l : Launch) (D : va_G) (b : Nat → Nat) (ids : List Nat) (hI : ∀ i, i < 107 → i ∈ ids) (hJ : ∀ i, 140 ≤ i → i < 173 → i ∈ ids) (N : Nat) (S : ns_S) {o : Int32 × (Nat → Int32) × Int32 × (Nat → Int32) × (Nat → Int32) × (Nat → Int32) × (Nat → Int32) × (Nat → Int32) × Int32 × (Nat → Int32) × (Nat → Int32) × (Nat → Int32) × (Nat → Int32) × (Nat → Int32) × Int32 × (Nat → Int32) × (Nat → Int32) × (Nat → Int32) × (Nat → Int32) × Int32 × Int32 × (Nat → Int32) × (Nat → Int32) × (Nat → Int32) × (Nat → Int32) × Int32 × (Nat → Int32) × (Nat → Int32) × (Nat → Int32) × (Nat → Int32) × (Nat → Int32) × (Nat → Int32) × (Nat → Int32)} (hf : fX6_copyFrom N (S.1 9024) (S.1 1856) (S.2.1 142) (S.2.1 30) (S.1 9152) (S.1 1984) (S.2.1 144) (S.2.1 32) (S.2.1 145) (S.2.1 33) (S.2.1 146) (S.2.1 34) (S.2.1 147) (S.2.1 35) (S.2.1 148) (S.2.1 36) (S.1 9536) (S.1 2368) (S.2.1 150) (S.2.1 38) (S.2.1 151) (S.2.1 39) (S.2.1 152) (S.2.1 40) (S.2.1 153) (S.2.1 41) (S.2.1 154) (S.2.1 42) (S.1 9920) (S.1 2752) (S.2.1 156) (S.2.1 44) (S.2.1 157) (S.2.1 45) (S.2.1 158) (S.2.1 46) (S.2.1 159) (S.2.1 47) (S.1 10240) (S.1 3072) (S.1 10241) (S.1 3073) (S.2.1 161) (S.2.1 49) (S.2.1 162) (S.2.1 50) (S.2.1 163) (S.2.1 51) (S.2.1 164) (S.2.1 52) (S.1 10560) (S.1 3392) (S.2.1 166) (S.2.1 54) (S.2.1 167) (S.2.1 55) (S.2.1 168) (S.2.1 56) (S.2.1 169) (S.2.1 57) (S.2.1 170) (S.2.1 58) (S.2.1 171) (S.2.1 59) (S.2.1 172) (S.2.1 60) = some o) : ns_M l yX6_copyFrom wsX6_copyFrom rmX6_copyFrom_28_140 D b ids S [.ref (b 28), .ref (b 140)] none (ns_I (ns_A (ns_I (ns_A (ns_A (ns_A (ns_A (ns_A (ns_I (ns_A (ns_A (ns_A (ns_A (ns_A (ns_I (ns_A (ns_A (ns_A (ns_A (ns_I (ns_I (ns_A (ns_A (ns_A (ns_A (ns_I (ns_A (ns_A (ns_A (ns_A (ns_A (ns_A (ns_A S 60 o.2.2.2.2.2.2.2.2.2.2.2.2.2.2.2.2.2.2.2.2.2.2.2.2.2.2.2.2.2.2.2.2) 59 o.2.2.2.2.2.2.2.2.2.2.2.2.2.2.2.2.2.2.2.2.2.2.2.2.2.2.2.2.2.2.2.1) 58 o.2.2.2.2.2.2.2.2.2.2.2.2.2.2.2.2.2.2.2.2.2.2.2.2.2.2.2.2.2.2.1) 57 o.2.2.2.2.2.2.2.2.2.2.2.2.2.2.2.2.2.2.2.2.2.2.2.2.2.2.2.2.2.1) 56 o.2.2.2.2.2.2.2.2.2.2.2.2.2.2.2.2.2.2.2.2.2.2.2.2.2.2.2.2.1) 55 o.2.2.2.2.2.2.2.2.2.2.2.2.2.2.2.2.2.2.2.2.2.2.2.2.2.2.2.1) 54 o.2.2.2.2.2.2.2.2.2.2.2.2.2.2.2.2.2.2.2.2.2.2.2.2.2.2.1) 3392 o.2.2.2.2.2.2.2.2.2.2.2.2.2.2.2.2.2.2.2.2.2.2.2.2.2.1) 52 o.2.2.2.2.2.2.2.2.2.2.2.2.2.2.2.2.2.2.2.2.2.2.2.2.1) 51 o.2.2.2.2.2.2.2.2.2.2.2.2.2.2.2.2.2.2.2.2.2.2.2.1) 50 o.2.2.2.2.2.2.2.2.2.2.2.2.2.2.2.2.2.2.2.2.2.2.1) 49 o.2.2.2.2.2.2.2.2.2.2.2.2.2.2.2.2.2.2.2.2.2.1) 3073 o.2.2.2.2.2.2.2.2.2.2.2.2.2.2.2.2.2.2.2.2.1) 3072 o.2.2.2.2.2.2.2.2.2.2.2.2.2.2.2.2.2.2.2.1) 47 o.2.2.2.2.2.2.2.2.2.2.2.2.2.2.2.2.2.2.1) 46 o.2.2.2.2.2.2.2.2.2.2.2.2.2.2.2.2.2.1) 45 o.2.2.2.2.2.2.2.2.2.2.2.2.2.2.2.2.1) 44 o.2.2.2.2.2.2.2.2.2.2.2.2.2.2.2.1) 2752 o.2.2.2.2.2.2.2.2.2.2.2.2.2.2.1) 42 o.2.2.2.2.2.2.2.2.2.2.2.2.2.1) 41 o.2.2.2.2.2.2.2.2.2.2.2.2.1) 40 o.2.2.2.2.2.2.2.2.2.2.2.1) 39 o.2.2.2.2.2.2.2.2.2.2.1) 38 o.2.2.2.2.2.2.2.2.2.1) 2368 o.2.2.2.2.2.2.2.2.1) 36 o.2.2.2.2.2.2.2.1) 35 o.2.2.2.2.2.2.1) 34 o.2.2.2.2.2.1) 33 o.2.2.2.2.1) 32 o.2.2.2.1) 1984 o.2.2.1) 30 o.2.1) 1856 o.1) := by
  refine ns_start (Wr := wrX6_copyFrom_28_140) (by decide) rfl (Nat.le_of_ble_eq_true rfl) ?_
  intro p e s m below meth c A ls C hr hlk w hl
  have hl : lv_has ls 2 [(0, .ref (b 28)), (1, .ref (b 140))] := hl
  unfold fX6_copyFrom at hf
  refine lv_aload_n C.1.1 C.1.2.1 dX6_copyFrom_0 rfl (lv_at hl 0 rfl) ?_
  refine ns_getr C w 28 (hI 28 (by decide)) sh_28 (rfl : vwCl[6]? = some (RX6, TX6, 6)) inX6_copyFrom_6 0 (by decide) rfl lX6_copyFrom_12 dX6_copyFrom_1 ?_
  refine lv_aload_n C.1.1 C.1.2.1 dX6_copyFrom_4 rfl (lv_at hl 1 rfl) ?_
  refine ns_getr C w 140 (hJ 140 (by decide) (by decide)) sh_140 (rfl : vwCl[6]? = some (RX6, TX6, 6)) inX6_copyFrom_6 0 (by decide) rfl lX6_copyFrom_12 dX6_copyFrom_5 ?_
  refine ns_callV C w 29 (hI 29 (by decide)) sh_29 (rfl : vwCl[5]? = some (RX5, TX5, 2)) [.ref (b 141)] hf (fun u hu => mX5_copyFrom_29_141 l D b ids hI hJ N _ hu) gX6_copyFrom_X5_copyFrom rfl rfl rfl hdX5_copyFrom ⟨Nat.le_of_ble_eq_true rfl, Nat.le_of_ble_eq_true rfl⟩ (fun u h => ((h.A (List.mem_of_getElem? (i := 1) rfl) _).I (List.mem_of_getElem? (i := 0) rfl) _)) rfl hl.1 rfl (Nat.le_of_ble_eq_true rfl) ⟨Nat.le_refl _, Nat.le_refl _⟩ dX6_copyFrom_8 (fun o1 H locs hf w => ?_)
  refine lv_aload_n C.1.1 C.1.2.1 dX6_copyFrom_11 rfl (lv_at hl 0 rfl) ?_
  refine ns_getr C w 28 (hI 28 (by decide)) sh_28 (rfl : vwCl[6]? = some (RX6, TX6, 6)) inX6_copyFrom_6 1 (by decide) rfl lX6_copyFrom_21 dX6_copyFrom_12 ?_
  refine lv_aload_n C.1.1 C.1.2.1 dX6_copyFrom_15 rfl (lv_at hl 1 rfl) ?_
  refine ns_getr C w 140 (hJ 140 (by decide) (by decide)) sh_140 (rfl : vwCl[6]? = some (RX6, TX6, 6)) inX6_copyFrom_6 1 (by decide) rfl lX6_copyFrom_21 dX6_copyFrom_16 ?_
  refine ns_callV C w 31 (hI 31 (by decide)) sh_31 (rfl : vwCl[0]? = some (RX0, TX0, 6)) [.ref (b 143)] hf (fun u hu => mX0_copyFrom_31_143 l D b ids hI hJ N _ hu) gX6_copyFrom_X0_copyFrom rfl rfl rfl hdX0_copyFrom ⟨Nat.le_of_ble_eq_true rfl, Nat.le_of_ble_eq_true rfl⟩ (fun u h => ((((((h.A (List.mem_of_getElem? (i := 7) rfl) _).A (List.mem_of_getElem? (i := 6) rfl) _).A (List.mem_of_getElem? (i := 5) rfl) _).A (List.mem_of_getElem? (i := 4) rfl) _).A (List.mem_of_getElem? (i := 3) rfl) _).I (List.mem_of_getElem? (i := 2) rfl) _)) rfl hl.1 rfl (Nat.le_of_ble_eq_true rfl) ⟨Nat.le_refl _, Nat.le_refl _⟩ dX6_copyFrom_19 (fun o2 H locs hf w => ?_)
  refine lv_aload_n C.1.1 C.1.2.1 dX6_copyFrom_22 rfl (lv_at hl 0 rfl) ?_
  refine ns_getr C w 28 (hI 28 (by decide)) sh_28 (rfl : vwCl[6]? = some (RX6, TX6, 6)) inX6_copyFrom_6 2 (by decide) rfl lX6_copyFrom_28 dX6_copyFrom_23 ?_
  refine lv_aload_n C.1.1 C.1.2.1 dX6_copyFrom_26 rfl (lv_at hl 1 rfl) ?_
  refine ns_getr C w 140 (hJ 140 (by decide) (by decide)) sh_140 (rfl : vwCl[6]? = some (RX6, TX6, 6)) inX6_copyFrom_6 2 (by decide) rfl lX6_copyFrom_28 dX6_copyFrom_27 ?_
  refine ns_callV C w 37 (hI 37 (by decide)) sh_37 (rfl : vwCl[4]? = some (RX4, TX4, 6)) [.ref (b 149)] hf (fun u hu => mX4_copyFrom_37_149 l D b ids hI hJ N _ hu) gX6_copyFrom_X4_copyFrom rfl rfl rfl hdX4_copyFrom ⟨Nat.le_of_ble_eq_true rfl, Nat.le_of_ble_eq_true rfl⟩ (fun u h => ((((((h.A (List.mem_of_getElem? (i := 13) rfl) _).A (List.mem_of_getElem? (i := 12) rfl) _).A (List.mem_of_getElem? (i := 11) rfl) _).A (List.mem_of_getElem? (i := 10) rfl) _).A (List.mem_of_getElem? (i := 9) rfl) _).I (List.mem_of_getElem? (i := 8) rfl) _)) rfl hl.1 rfl (Nat.le_of_ble_eq_true rfl) ⟨Nat.le_refl _, Nat.le_refl _⟩ dX6_copyFrom_30 (fun o3 H locs hf w => ?_)
  refine lv_aload_n C.1.1 C.1.2.1 dX6_copyFrom_33 rfl (lv_at hl 0 rfl) ?_
  refine ns_getr C w 28 (hI 28 (by decide)) sh_28 (rfl : vwCl[6]? = some (RX6, TX6, 6)) inX6_copyFrom_6 3 (by decide) rfl lX6_copyFrom_35 dX6_copyFrom_34 ?_
  refine lv_aload_n C.1.1 C.1.2.1 dX6_copyFrom_37 rfl (lv_at hl 1 rfl) ?_
  refine ns_getr C w 140 (hJ 140 (by decide) (by decide)) sh_140 (rfl : vwCl[6]? = some (RX6, TX6, 6)) inX6_copyFrom_6 3 (by decide) rfl lX6_copyFrom_35 dX6_copyFrom_38 ?_
  refine ns_callV C w 43 (hI 43 (by decide)) sh_43 (rfl : vwCl[7]? = some (RX7, TX7, 5)) [.ref (b 155)] hf (fun u hu => mX7_copyFrom_43_155 l D b ids hI hJ N _ hu) gX6_copyFrom_X7_copyFrom rfl rfl rfl hdX7_copyFrom ⟨Nat.le_of_ble_eq_true rfl, Nat.le_of_ble_eq_true rfl⟩ (fun u h => (((((h.A (List.mem_of_getElem? (i := 18) rfl) _).A (List.mem_of_getElem? (i := 17) rfl) _).A (List.mem_of_getElem? (i := 16) rfl) _).A (List.mem_of_getElem? (i := 15) rfl) _).I (List.mem_of_getElem? (i := 14) rfl) _)) rfl hl.1 rfl (Nat.le_of_ble_eq_true rfl) ⟨Nat.le_refl _, Nat.le_refl _⟩ dX6_copyFrom_41 (fun o4 H locs hf w => ?_)
  refine lv_aload_n C.1.1 C.1.2.1 dX6_copyFrom_44 rfl (lv_at hl 0 rfl) ?_
  refine ns_getr C w 28 (hI 28 (by decide)) sh_28 (rfl : vwCl[6]? = some (RX6, TX6, 6)) inX6_copyFrom_6 4 (by decide) rfl lX6_copyFrom_42 dX6_copyFrom_45 ?_
  refine lv_aload_n C.1.1 C.1.2.1 dX6_copyFrom_48 rfl (lv_at hl 1 rfl) ?_
  refine ns_getr C w 140 (hJ 140 (by decide) (by decide)) sh_140 (rfl : vwCl[6]? = some (RX6, TX6, 6)) inX6_copyFrom_6 4 (by decide) rfl lX6_copyFrom_42 dX6_copyFrom_49 ?_
  refine ns_callV C w 48 (hI 48 (by decide)) sh_48 (rfl : vwCl[8]? = some (RX8, TX8, 6)) [.ref (b 160)] hf (fun u hu => mX8_copyFrom_48_160 l D b ids hI hJ N _ hu) gX6_copyFrom_X8_copyFrom rfl rfl rfl hdX8_copyFrom ⟨Nat.le_of_ble_eq_true rfl, Nat.le_of_ble_eq_true rfl⟩ (fun u h => ((((((h.A (List.mem_of_getElem? (i := 24) rfl) _).A (List.mem_of_getElem? (i := 23) rfl) _).A (List.mem_of_getElem? (i := 22) rfl) _).A (List.mem_of_getElem? (i := 21) rfl) _).I (List.mem_of_getElem? (i := 20) rfl) _).I (List.mem_of_getElem? (i := 19) rfl) _)) rfl hl.1 rfl (Nat.le_of_ble_eq_true rfl) ⟨Nat.le_refl _, Nat.le_refl _⟩ dX6_copyFrom_52 (fun o5 H locs hf w => ?_)
  refine lv_aload_n C.1.1 C.1.2.1 dX6_copyFrom_55 rfl (lv_at hl 0 rfl) ?_
  refine ns_getr C w 28 (hI 28 (by decide)) sh_28 (rfl : vwCl[6]? = some (RX6, TX6, 6)) inX6_copyFrom_6 5 (by decide) rfl lX6_copyFrom_49 dX6_copyFrom_56 ?_
  refine lv_aload_n C.1.1 C.1.2.1 dX6_copyFrom_59 rfl (lv_at hl 1 rfl) ?_
  refine ns_getr C w 140 (hJ 140 (by decide) (by decide)) sh_140 (rfl : vwCl[6]? = some (RX6, TX6, 6)) inX6_copyFrom_6 5 (by decide) rfl lX6_copyFrom_49 dX6_copyFrom_60 ?_
  refine ns_callV C w 53 (hI 53 (by decide)) sh_53 (rfl : vwCl[2]? = some (RX2, TX2, 8)) [.ref (b 165)] hf (fun u hu => mX2_copyFrom_53_165 l D b ids hI hJ N _ hu) gX6_copyFrom_X2_copyFrom rfl rfl rfl hdX2_copyFrom ⟨Nat.le_of_ble_eq_true rfl, Nat.le_of_ble_eq_true rfl⟩ (fun u h => ((((((((h.A (List.mem_of_getElem? (i := 32) rfl) _).A (List.mem_of_getElem? (i := 31) rfl) _).A (List.mem_of_getElem? (i := 30) rfl) _).A (List.mem_of_getElem? (i := 29) rfl) _).A (List.mem_of_getElem? (i := 28) rfl) _).A (List.mem_of_getElem? (i := 27) rfl) _).A (List.mem_of_getElem? (i := 26) rfl) _).I (List.mem_of_getElem? (i := 25) rfl) _)) rfl hl.1 rfl (Nat.le_of_ble_eq_true rfl) ⟨Nat.le_refl _, Nat.le_refl _⟩ dX6_copyFrom_63 (fun o6 H locs hf w => ?_)
  have he := Option.some.inj hf
  subst he
  exact ns_vret C w hr hlk rfl rfl dX6_copyFrom_66
abbrev wrX5_copyFrom_174_29 : List (Nat × Nat) := [(0, 11136), (1, 175)]
abbrev rmX5_copyFrom_174_29 : Room := { frames := 1, cells := 0, slots := 0, locals := 40 }
set_option maxHeartbeats 4000000 in
set_option maxRecDepth 100000 in
theorem mX5_copyFrom_174_29 (l : Launch) (D : va_G) (b : Nat → Nat) (ids : List Nat) (hI : ∀ i, i < 107 → i ∈ ids) (hJ : ∀ i, 173 ≤ i → i < 206 → i ∈ ids) (N : Nat) (S : ns_S) {o : Int32 × (Nat → Int32)} (hf : fX5_copyFrom N (S.1 1856) (S.1 11136) (S.2.1 30) (S.2.1 175) = some o) : ns_M l yX5_copyFrom wsX5_copyFrom rmX5_copyFrom_174_29 D b ids S [.ref (b 174), .ref (b 29)] none (ns_I (ns_A S 175 o.2) 11136 o.1) := by
  refine ns_start (Wr := wrX5_copyFrom_174_29) (by decide) rfl (Nat.le_of_ble_eq_true rfl) ?_
  intro p e s m below meth c A ls C hr hlk w hl
  have hl : lv_has ls 2 [(0, .ref (b 174)), (1, .ref (b 29))] := hl
  unfold fX5_copyFrom at hf
  refine lv_aload_n C.1.1 C.1.2.1 dX5_copyFrom_0 rfl (lv_at hl 0 rfl) ?_
  refine lv_aload_n C.1.1 C.1.2.1 dX5_copyFrom_1 rfl (lv_at hl 1 rfl) ?_
  refine ns_geti C w 29 (hI 29 (by decide)) sh_29 (rfl : vwCl[5]? = some (RX5, TX5, 2)) inX5_copyFrom_5 0 (by decide) rfl lX5_copyFrom_15 (S.1 1856) rfl dX5_copyFrom_2 ?_
  refine ns_puti C w 174 (hJ 174 (by decide) (by decide)) sh_174 (rfl : vwCl[5]? = some (RX5, TX5, 2)) inX5_copyFrom_5 tyX5_ok nmX5 0 (by decide) rfl lX5_copyFrom_15 rfl rfl rfl (List.mem_of_getElem? (i := 0) rfl) dX5_copyFrom_5 (fun H locs w => ?_)
  refine lv_aload_n C.1.1 C.1.2.1 dX5_copyFrom_8 rfl (lv_at hl 1 rfl) ?_
  refine ns_getr C w 29 (hI 29 (by decide)) sh_29 (rfl : vwCl[5]? = some (RX5, TX5, 2)) inX5_copyFrom_5 1 (by decide) rfl lX5_copyFrom_9 dX5_copyFrom_9 ?_
  refine lv_iconst (v := 0) C.1.1 C.1.2.1 dX5_copyFrom_12 (by decide) ?_
  refine lv_aload_n C.1.1 C.1.2.1 dX5_copyFrom_13 rfl (lv_at hl 0 rfl) ?_
  refine ns_getr C w 174 (hJ 174 (by decide) (by decide)) sh_174 (rfl : vwCl[5]? = some (RX5, TX5, 2)) inX5_copyFrom_5 1 (by decide) rfl lX5_copyFrom_9 dX5_copyFrom_14 ?_
  refine lv_iconst (v := 0) C.1.1 C.1.2.1 dX5_copyFrom_17 (by decide) ?_
  refine lv_iconst (v := 5) C.1.1 C.1.2.1 dX5_copyFrom_18 (by decide) ?_
  refine ns_copy C w 30 175 (hI 30 (by decide)) (hJ 175 (by decide) (by decide)) sh_30 sh_175 hf rfl rfl (List.mem_of_getElem? (i := 1) rfl) (List.mem_of_getElem? (i := 3) rfl) (List.mem_of_getElem? (i := 4) rfl) (List.mem_of_getElem? (i := 5) rfl) (List.mem_of_getElem? (i := 6) rfl) hl.1 (Nat.le_of_ble_eq_true rfl) (Nat.le_of_ble_eq_true rfl) dX5_copyFrom_19 (fun y1 H locs hf w => ?_)
  have he := Option.some.inj hf
  subst he
  exact ns_vret C w hr hlk rfl rfl dX5_copyFrom_22
abbrev wrX0_copyFrom_176_31 : List (Nat × Nat) := [(0, 11264), (1, 177), (1, 178), (1, 179), (1, 180), (1, 181)]
abbrev rmX0_copyFrom_176_31 : Room := { frames := 1, cells := 0, slots := 0, locals := 40 }
set_option maxHeartbeats 4000000 in
set_option maxRecDepth 100000 in
theorem mX0_copyFrom_176_31 (l : Launch) (D : va_G) (b : Nat → Nat) (ids : List Nat) (hI : ∀ i, i < 107 → i ∈ ids) (hJ : ∀ i, 173 ≤ i → i < 206 → i ∈ ids) (N : Nat) (S : ns_S) {o : Int32 × (Nat → Int32) × (Nat → Int32) × (Nat → Int32) × (Nat → Int32) × (Nat → Int32)} (hf : fX0_copyFrom N (S.1 1984) (S.1 11264) (S.2.1 32) (S.2.1 177) (S.2.1 33) (S.2.1 178) (S.2.1 34) (S.2.1 179) (S.2.1 35) (S.2.1 180) (S.2.1 36) (S.2.1 181) = some o) : ns_M l yX0_copyFrom wsX0_copyFrom rmX0_copyFrom_176_31 D b ids S [.ref (b 176), .ref (b 31)] none (ns_I (ns_A (ns_A (ns_A (ns_A (ns_A S 181 o.2.2.2.2.2) 180 o.2.2.2.2.1) 179 o.2.2.2.1) 178 o.2.2.1) 177 o.2.1) 11264 o.1) := by
  refine ns_start (Wr := wrX0_copyFrom_176_31) (by decide) rfl (Nat.le_of_ble_eq_true rfl) ?_
  intro p e s m below meth c A ls C hr hlk w hl
  have hl : lv_has ls 2 [(0, .ref (b 176)), (1, .ref (b 31))] := hl
  unfold fX0_copyFrom at hf
  refine lv_aload_n C.1.1 C.1.2.1 dX0_copyFrom_0 rfl (lv_at hl 0 rfl) ?_
  refine lv_aload_n C.1.1 C.1.2.1 dX0_copyFrom_1 rfl (lv_at hl 1 rfl) ?_
  refine ns_geti C w 31 (hI 31 (by decide)) sh_31 (rfl : vwCl[0]? = some (RX0, TX0, 6)) inX0_copyFrom_0 0 (by decide) rfl lX0_copyFrom_27 (S.1 1984) rfl dX0_copyFrom_2 ?_
  refine ns_puti C w 176 (hJ 176 (by decide) (by decide)) sh_176 (rfl : vwCl[0]? = some (RX0, TX0, 6)) inX0_copyFrom_0 tyX0_ok nmX0 0 (by decide) rfl lX0_copyFrom_27 rfl rfl rfl (List.mem_of_getElem? (i := 0) rfl) dX0_copyFrom_5 (fun H locs w => ?_)
  refine lv_aload_n C.1.1 C.1.2.1 dX0_copyFrom_8 rfl (lv_at hl 1 rfl) ?_
  refine ns_getr C w 31 (hI 31 (by decide)) sh_31 (rfl : vwCl[0]? = some (RX0, TX0, 6)) inX0_copyFrom_0 1 (by decide) rfl lX0_copyFrom_9 dX0_copyFrom_9 ?_
  refine lv_iconst (v := 0) C.1.1 C.1.2.1 dX0_copyFrom_12 (by decide) ?_
  refine lv_aload_n C.1.1 C.1.2.1 dX0_copyFrom_13 rfl (lv_at hl 0 rfl) ?_
  refine ns_getr C w 176 (hJ 176 (by decide) (by decide)) sh_176 (rfl : vwCl[0]? = some (RX0, TX0, 6)) inX0_copyFrom_0 1 (by decide) rfl lX0_copyFrom_9 dX0_copyFrom_14 ?_
  refine lv_iconst (v := 0) C.1.1 C.1.2.1 dX0_copyFrom_17 (by decide) ?_
  refine lv_bipush (v := 10) C.1.1 C.1.2.1 dX0_copyFrom_18 (by decide) ?_
  refine ns_copy C w 32 177 (hI 32 (by decide)) (hJ 177 (by decide) (by decide)) sh_32 sh_177 hf rfl rfl (List.mem_of_getElem? (i := 1) rfl) (List.mem_of_getElem? (i := 3) rfl) (List.mem_of_getElem? (i := 4) rfl) (List.mem_of_getElem? (i := 5) rfl) (List.mem_of_getElem? (i := 6) rfl) hl.1 (Nat.le_of_ble_eq_true rfl) (Nat.le_of_ble_eq_true rfl) dX0_copyFrom_20 (fun y1 H locs hf w => ?_)
  refine lv_aload_n C.1.1 C.1.2.1 dX0_copyFrom_23 rfl (lv_at hl 1 rfl) ?_
  refine ns_getr C w 31 (hI 31 (by decide)) sh_31 (rfl : vwCl[0]? = some (RX0, TX0, 6)) inX0_copyFrom_0 2 (by decide) rfl lX0_copyFrom_15 dX0_copyFrom_24 ?_
  refine lv_iconst (v := 0) C.1.1 C.1.2.1 dX0_copyFrom_27 (by decide) ?_
  refine lv_aload_n C.1.1 C.1.2.1 dX0_copyFrom_28 rfl (lv_at hl 0 rfl) ?_
  refine ns_getr C w 176 (hJ 176 (by decide) (by decide)) sh_176 (rfl : vwCl[0]? = some (RX0, TX0, 6)) inX0_copyFrom_0 2 (by decide) rfl lX0_copyFrom_15 dX0_copyFrom_29 ?_
  refine lv_iconst (v := 0) C.1.1 C.1.2.1 dX0_copyFrom_32 (by decide) ?_
  refine lv_bipush (v := 10) C.1.1 C.1.2.1 dX0_copyFrom_33 (by decide) ?_
  refine ns_copy C w 33 178 (hI 33 (by decide)) (hJ 178 (by decide) (by decide)) sh_33 sh_178 hf rfl rfl (List.mem_of_getElem? (i := 2) rfl) (List.mem_of_getElem? (i := 3) rfl) (List.mem_of_getElem? (i := 4) rfl) (List.mem_of_getElem? (i := 5) rfl) (List.mem_of_getElem? (i := 6) rfl) hl.1 (Nat.le_of_ble_eq_true rfl) (Nat.le_of_ble_eq_true rfl) dX0_copyFrom_35 (fun y2 H locs hf w => ?_)
  refine lv_aload_n C.1.1 C.1.2.1 dX0_copyFrom_38 rfl (lv_at hl 1 rfl) ?_
  refine ns_getr C w 31 (hI 31 (by decide)) sh_31 (rfl : vwCl[0]? = some (RX0, TX0, 6)) inX0_copyFrom_0 3 (by decide) rfl lX0_copyFrom_18 dX0_copyFrom_39 ?_
  refine lv_iconst (v := 0) C.1.1 C.1.2.1 dX0_copyFrom_42 (by decide) ?_
  refine lv_aload_n C.1.1 C.1.2.1 dX0_copyFrom_43 rfl (lv_at hl 0 rfl) ?_
  refine ns_getr C w 176 (hJ 176 (by decide) (by decide)) sh_176 (rfl : vwCl[0]? = some (RX0, TX0, 6)) inX0_copyFrom_0 3 (by decide) rfl lX0_copyFrom_18 dX0_copyFrom_44 ?_
  refine lv_iconst (v := 0) C.1.1 C.1.2.1 dX0_copyFrom_47 (by decide) ?_
  refine lv_bipush (v := 10) C.1.1 C.1.2.1 dX0_copyFrom_48 (by decide) ?_
  refine ns_copy C w 34 179 (hI 34 (by decide)) (hJ 179 (by decide) (by decide)) sh_34 sh_179 hf rfl rfl (List.mem_of_getElem? (i := 3) rfl) (List.mem_of_getElem? (i := 3) rfl) (List.mem_of_getElem? (i := 4) rfl) (List.mem_of_getElem? (i := 5) rfl) (List.mem_of_getElem? (i := 6) rfl) hl.1 (Nat.le_of_ble_eq_true rfl) (Nat.le_of_ble_eq_true rfl) dX0_copyFrom_50 (fun y3 H locs hf w => ?_)
  refine lv_aload_n C.1.1 C.1.2.1 dX0_copyFrom_53 rfl (lv_at hl 1 rfl) ?_
  refine ns_getr C w 31 (hI 31 (by decide)) sh_31 (rfl : vwCl[0]? = some (RX0, TX0, 6)) inX0_copyFrom_0 4 (by decide) rfl lX0_copyFrom_21 dX0_copyFrom_54 ?_
  refine lv_iconst (v := 0) C.1.1 C.1.2.1 dX0_copyFrom_57 (by decide) ?_
  refine lv_aload_n C.1.1 C.1.2.1 dX0_copyFrom_58 rfl (lv_at hl 0 rfl) ?_
  refine ns_getr C w 176 (hJ 176 (by decide) (by decide)) sh_176 (rfl : vwCl[0]? = some (RX0, TX0, 6)) inX0_copyFrom_0 4 (by decide) rfl lX0_copyFrom_21 dX0_copyFrom_59 ?_
  refine lv_iconst (v := 0) C.1.1 C.1.2.1 dX0_copyFrom_62 (by decide) ?_
  refine lv_bipush (v := 10) C.1.1 C.1.2.1 dX0_copyFrom_63 (by decide) ?_
  refine ns_copy C w 35 180 (hI 35 (by decide)) (hJ 180 (by decide) (by decide)) sh_35 sh_180 hf rfl rfl (List.mem_of_getElem? (i := 4) rfl) (List.mem_of_getElem? (i := 3) rfl) (List.mem_of_getElem? (i := 4) rfl) (List.mem_of_getElem? (i := 5) rfl) (List.mem_of_getElem? (i := 6) rfl) hl.1 (Nat.le_of_ble_eq_true rfl) (Nat.le_of_ble_eq_true rfl) dX0_copyFrom_65 (fun y4 H locs hf w => ?_)
  refine lv_aload_n C.1.1 C.1.2.1 dX0_copyFrom_68 rfl (lv_at hl 1 rfl) ?_
  refine ns_getr C w 31 (hI 31 (by decide)) sh_31 (rfl : vwCl[0]? = some (RX0, TX0, 6)) inX0_copyFrom_0 5 (by decide) rfl lX0_copyFrom_24 dX0_copyFrom_69 ?_
  refine lv_iconst (v := 0) C.1.1 C.1.2.1 dX0_copyFrom_72 (by decide) ?_
  refine lv_aload_n C.1.1 C.1.2.1 dX0_copyFrom_73 rfl (lv_at hl 0 rfl) ?_
  refine ns_getr C w 176 (hJ 176 (by decide) (by decide)) sh_176 (rfl : vwCl[0]? = some (RX0, TX0, 6)) inX0_copyFrom_0 5 (by decide) rfl lX0_copyFrom_24 dX0_copyFrom_74 ?_
  refine lv_iconst (v := 0) C.1.1 C.1.2.1 dX0_copyFrom_77 (by decide) ?_
  refine lv_bipush (v := 10) C.1.1 C.1.2.1 dX0_copyFrom_78 (by decide) ?_
  refine ns_copy C w 36 181 (hI 36 (by decide)) (hJ 181 (by decide) (by decide)) sh_36 sh_181 hf rfl rfl (List.mem_of_getElem? (i := 5) rfl) (List.mem_of_getElem? (i := 3) rfl) (List.mem_of_getElem? (i := 4) rfl) (List.mem_of_getElem? (i := 5) rfl) (List.mem_of_getElem? (i := 6) rfl) hl.1 (Nat.le_of_ble_eq_true rfl) (Nat.le_of_ble_eq_true rfl) dX0_copyFrom_80 (fun y5 H locs hf w => ?_)
  have he := Option.some.inj hf
  subst he
  exact ns_vret C w hr hlk rfl rfl dX0_copyFrom_83
abbrev wrX4_copyFrom_182_37 : List (Nat × Nat) := [(0, 11648), (1, 183), (1, 184), (1, 185), (1, 186), (1, 187)]
abbrev rmX4_copyFrom_182_37 : Room := { frames := 1, cells := 0, slots := 0, locals := 40 }
set_option maxHeartbeats 4000000 in
set_option maxRecDepth 100000 in
theorem mX4_copyFrom_182_37 (l : Launch) (D : va_G) (b : Nat → Nat) (ids : List Nat) (hI : ∀ i, i < 107 → i ∈ ids) (hJ : ∀ i, 173 ≤ i → i < 206 → i ∈ ids) (N : Nat) (S : ns_S) {o : Int32 × (Nat → Int32) × (Nat → Int32) × (Nat → Int32) × (Nat → Int32) × (Nat → Int32)} (hf : fX4_copyFrom N (S.1 2368) (S.1 11648) (S.2.1 38) (S.2.1 183) (S.2.1 39) (S.2.1 184) (S.2.1 40) (S.2.1 185) (S.2.1 41) (S.2.1 186) (S.2.1 42) (S.2.1 187) = some o) : ns_M l yX4_copyFrom wsX4_copyFrom rmX4_copyFrom_182_37 D b ids S [.ref (b 182), .ref (b 37)] none (ns_I (ns_A (ns_A (ns_A (ns_A (ns_A S 187 o.2.2.2.2.2) 186 o.2.2.2.2.1) 185 o.2.2.2.1) 184 o.2.2.1) 183 o.2.1) 11648 o.1) := by
  refine ns_start (Wr := wrX4_copyFrom_182_37) (by decide) rfl (Nat.le_of_ble_eq_true rfl) ?_
  intro p e s m below meth c A ls C hr hlk w hl
  have hl : lv_has ls 2 [(0, .ref (b 182)), (1, .ref (b 37))] := hl
  unfold fX4_copyFrom at hf
  refine lv_aload_n C.1.1 C.1.2.1 dX4_copyFrom_0 rfl (lv_at hl 0 rfl) ?_
  refine lv_aload_n C.1.1 C.1.2.1 dX4_copyFrom_1 rfl (lv_at hl 1 rfl) ?_
  refine ns_geti C w 37 (hI 37 (by decide)) sh_37 (rfl : vwCl[4]? = some (RX4, TX4, 6)) inX4_copyFrom_4 0 (by decide) rfl lX4_copyFrom_27 (S.1 2368) rfl dX4_copyFrom_2 ?_
  refine ns_puti C w 182 (hJ 182 (by decide) (by decide)) sh_182 (rfl : vwCl[4]? = some (RX4, TX4, 6)) inX4_copyFrom_4 tyX4_ok nmX4 0 (by decide) rfl lX4_copyFrom_27 rfl rfl rfl (List.mem_of_getElem? (i := 0) rfl) dX4_copyFrom_5 (fun H locs w => ?_)
  refine lv_aload_n C.1.1 C.1.2.1 dX4_copyFrom_8 rfl (lv_at hl 1 rfl) ?_
  refine ns_getr C w 37 (hI 37 (by decide)) sh_37 (rfl : vwCl[4]? = some (RX4, TX4, 6)) inX4_copyFrom_4 1 (by decide) rfl lX4_copyFrom_9 dX4_copyFrom_9 ?_
  refine lv_iconst (v := 0) C.1.1 C.1.2.1 dX4_copyFrom_12 (by decide) ?_
  refine lv_aload_n C.1.1 C.1.2.1 dX4_copyFrom_13 rfl (lv_at hl 0 rfl) ?_
  refine ns_getr C w 182 (hJ 182 (by decide) (by decide)) sh_182 (rfl : vwCl[4]? = some (RX4, TX4, 6)) inX4_copyFrom_4 1 (by decide) rfl lX4_copyFrom_9 dX4_copyFrom_14 ?_
  refine lv_iconst (v := 0) C.1.1 C.1.2.1 dX4_copyFrom_17 (by decide) ?_
  refine lv_bipush (v := 30) C.1.1 C.1.2.1 dX4_copyFrom_18 (by decide) ?_
  refine ns_copy C w 38 183 (hI 38 (by decide)) (hJ 183 (by decide) (by decide)) sh_38 sh_183 hf rfl rfl (List.mem_of_getElem? (i := 1) rfl) (List.mem_of_getElem? (i := 3) rfl) (List.mem_of_getElem? (i := 4) rfl) (List.mem_of_getElem? (i := 5) rfl) (List.mem_of_getElem? (i := 6) rfl) hl.1 (Nat.le_of_ble_eq_true rfl) (Nat.le_of_ble_eq_true rfl) dX4_copyFrom_20 (fun y1 H locs hf w => ?_)
  refine lv_aload_n C.1.1 C.1.2.1 dX4_copyFrom_23 rfl (lv_at hl 1 rfl) ?_
  refine ns_getr C w 37 (hI 37 (by decide)) sh_37 (rfl : vwCl[4]? = some (RX4, TX4, 6)) inX4_copyFrom_4 2 (by decide) rfl lX4_copyFrom_15 dX4_copyFrom_24 ?_
  refine lv_iconst (v := 0) C.1.1 C.1.2.1 dX4_copyFrom_27 (by decide) ?_
  refine lv_aload_n C.1.1 C.1.2.1 dX4_copyFrom_28 rfl (lv_at hl 0 rfl) ?_
  refine ns_getr C w 182 (hJ 182 (by decide) (by decide)) sh_182 (rfl : vwCl[4]? = some (RX4, TX4, 6)) inX4_copyFrom_4 2 (by decide) rfl lX4_copyFrom_15 dX4_copyFrom_29 ?_
  refine lv_iconst (v := 0) C.1.1 C.1.2.1 dX4_copyFrom_32 (by decide) ?_
  refine lv_bipush (v := 30) C.1.1 C.1.2.1 dX4_copyFrom_33 (by decide) ?_
  refine ns_copy C w 39 184 (hI 39 (by decide)) (hJ 184 (by decide) (by decide)) sh_39 sh_184 hf rfl rfl (List.mem_of_getElem? (i := 2) rfl) (List.mem_of_getElem? (i := 3) rfl) (List.mem_of_getElem? (i := 4) rfl) (List.mem_of_getElem? (i := 5) rfl) (List.mem_of_getElem? (i := 6) rfl) hl.1 (Nat.le_of_ble_eq_true rfl) (Nat.le_of_ble_eq_true rfl) dX4_copyFrom_35 (fun y2 H locs hf w => ?_)
  refine lv_aload_n C.1.1 C.1.2.1 dX4_copyFrom_38 rfl (lv_at hl 1 rfl) ?_
  refine ns_getr C w 37 (hI 37 (by decide)) sh_37 (rfl : vwCl[4]? = some (RX4, TX4, 6)) inX4_copyFrom_4 3 (by decide) rfl lX4_copyFrom_18 dX4_copyFrom_39 ?_
  refine lv_iconst (v := 0) C.1.1 C.1.2.1 dX4_copyFrom_42 (by decide) ?_
  refine lv_aload_n C.1.1 C.1.2.1 dX4_copyFrom_43 rfl (lv_at hl 0 rfl) ?_
  refine ns_getr C w 182 (hJ 182 (by decide) (by decide)) sh_182 (rfl : vwCl[4]? = some (RX4, TX4, 6)) inX4_copyFrom_4 3 (by decide) rfl lX4_copyFrom_18 dX4_copyFrom_44 ?_
  refine lv_iconst (v := 0) C.1.1 C.1.2.1 dX4_copyFrom_47 (by decide) ?_
  refine lv_bipush (v := 30) C.1.1 C.1.2.1 dX4_copyFrom_48 (by decide) ?_
  refine ns_copy C w 40 185 (hI 40 (by decide)) (hJ 185 (by decide) (by decide)) sh_40 sh_185 hf rfl rfl (List.mem_of_getElem? (i := 3) rfl) (List.mem_of_getElem? (i := 3) rfl) (List.mem_of_getElem? (i := 4) rfl) (List.mem_of_getElem? (i := 5) rfl) (List.mem_of_getElem? (i := 6) rfl) hl.1 (Nat.le_of_ble_eq_true rfl) (Nat.le_of_ble_eq_true rfl) dX4_copyFrom_50 (fun y3 H locs hf w => ?_)
  refine lv_aload_n C.1.1 C.1.2.1 dX4_copyFrom_53 rfl (lv_at hl 1 rfl) ?_
  refine ns_getr C w 37 (hI 37 (by decide)) sh_37 (rfl : vwCl[4]? = some (RX4, TX4, 6)) inX4_copyFrom_4 4 (by decide) rfl lX4_copyFrom_21 dX4_copyFrom_54 ?_
  refine lv_iconst (v := 0) C.1.1 C.1.2.1 dX4_copyFrom_57 (by decide) ?_
  refine lv_aload_n C.1.1 C.1.2.1 dX4_copyFrom_58 rfl (lv_at hl 0 rfl) ?_
  refine ns_getr C w 182 (hJ 182 (by decide) (by decide)) sh_182 (rfl : vwCl[4]? = some (RX4, TX4, 6)) inX4_copyFrom_4 4 (by decide) rfl lX4_copyFrom_21 dX4_copyFrom_59 ?_
  refine lv_iconst (v := 0) C.1.1 C.1.2.1 dX4_copyFrom_62 (by decide) ?_
  refine lv_bipush (v := 30) C.1.1 C.1.2.1 dX4_copyFrom_63 (by decide) ?_
  refine ns_copy C w 41 186 (hI 41 (by decide)) (hJ 186 (by decide) (by decide)) sh_41 sh_186 hf rfl rfl (List.mem_of_getElem? (i := 4) rfl) (List.mem_of_getElem? (i := 3) rfl) (List.mem_of_getElem? (i := 4) rfl) (List.mem_of_getElem? (i := 5) rfl) (List.mem_of_getElem? (i := 6) rfl) hl.1 (Nat.le_of_ble_eq_true rfl) (Nat.le_of_ble_eq_true rfl) dX4_copyFrom_65 (fun y4 H locs hf w => ?_)
  refine lv_aload_n C.1.1 C.1.2.1 dX4_copyFrom_68 rfl (lv_at hl 1 rfl) ?_
  refine ns_getr C w 37 (hI 37 (by decide)) sh_37 (rfl : vwCl[4]? = some (RX4, TX4, 6)) inX4_copyFrom_4 5 (by decide) rfl lX4_copyFrom_24 dX4_copyFrom_69 ?_
  refine lv_iconst (v := 0) C.1.1 C.1.2.1 dX4_copyFrom_72 (by decide) ?_
  refine lv_aload_n C.1.1 C.1.2.1 dX4_copyFrom_73 rfl (lv_at hl 0 rfl) ?_
  refine ns_getr C w 182 (hJ 182 (by decide) (by decide)) sh_182 (rfl : vwCl[4]? = some (RX4, TX4, 6)) inX4_copyFrom_4 5 (by decide) rfl lX4_copyFrom_24 dX4_copyFrom_74 ?_
  refine lv_iconst (v := 0) C.1.1 C.1.2.1 dX4_copyFrom_77 (by decide) ?_
  refine lv_sipush (v := 180) C.1.1 C.1.2.1 dX4_copyFrom_78 (by decide) ?_
  refine ns_copy C w 42 187 (hI 42 (by decide)) (hJ 187 (by decide) (by decide)) sh_42 sh_187 hf rfl rfl (List.mem_of_getElem? (i := 5) rfl) (List.mem_of_getElem? (i := 3) rfl) (List.mem_of_getElem? (i := 4) rfl) (List.mem_of_getElem? (i := 5) rfl) (List.mem_of_getElem? (i := 6) rfl) hl.1 (Nat.le_of_ble_eq_true rfl) (Nat.le_of_ble_eq_true rfl) dX4_copyFrom_81 (fun y5 H locs hf w => ?_)
  have he := Option.some.inj hf
  subst he
  exact ns_vret C w hr hlk rfl rfl dX4_copyFrom_84
abbrev wrX7_copyFrom_188_43 : List (Nat × Nat) := [(0, 12032), (1, 189), (1, 190), (1, 191), (1, 192)]
abbrev rmX7_copyFrom_188_43 : Room := { frames := 1, cells := 0, slots := 0, locals := 40 }
set_option maxHeartbeats 4000000 in
set_option maxRecDepth 100000 in
theorem mX7_copyFrom_188_43 (l : Launch) (D : va_G) (b : Nat → Nat) (ids : List Nat) (hI : ∀ i, i < 107 → i ∈ ids) (hJ : ∀ i, 173 ≤ i → i < 206 → i ∈ ids) (N : Nat) (S : ns_S) {o : Int32 × (Nat → Int32) × (Nat → Int32) × (Nat → Int32) × (Nat → Int32)} (hf : fX7_copyFrom N (S.1 2752) (S.1 12032) (S.2.1 44) (S.2.1 189) (S.2.1 45) (S.2.1 190) (S.2.1 46) (S.2.1 191) (S.2.1 47) (S.2.1 192) = some o) : ns_M l yX7_copyFrom wsX7_copyFrom rmX7_copyFrom_188_43 D b ids S [.ref (b 188), .ref (b 43)] none (ns_I (ns_A (ns_A (ns_A (ns_A S 192 o.2.2.2.2) 191 o.2.2.2.1) 190 o.2.2.1) 189 o.2.1) 12032 o.1) := by
  refine ns_start (Wr := wrX7_copyFrom_188_43) (by decide) rfl (Nat.le_of_ble_eq_true rfl) ?_
  intro p e s m below meth c A ls C hr hlk w hl
  have hl : lv_has ls 2 [(0, .ref (b 188)), (1, .ref (b 43))] := hl
  unfold fX7_copyFrom at hf
  refine lv_aload_n C.1.1 C.1.2.1 dX7_copyFrom_0 rfl (lv_at hl 0 rfl) ?_
  refine lv_aload_n C.1.1 C.1.2.1 dX7_copyFrom_1 rfl (lv_at hl 1 rfl) ?_
  refine ns_geti C w 43 (hI 43 (by decide)) sh_43 (rfl : vwCl[7]? = some (RX7, TX7, 5)) inX7_copyFrom_7 0 (by decide) rfl lX7_copyFrom_30 (S.1 2752) rfl dX7_copyFrom_2 ?_
  refine ns_puti C w 188 (hJ 188 (by decide) (by decide)) sh_188 (rfl : vwCl[7]? = some (RX7, TX7, 5)) inX7_copyFrom_7 tyX7_ok nmX7 0 (by decide) rfl lX7_copyFrom_30 rfl rfl rfl (List.mem_of_getElem? (i := 0) rfl) dX7_copyFrom_5 (fun H locs w => ?_)
  refine lv_aload_n C.1.1 C.1.2.1 dX7_copyFrom_8 rfl (lv_at hl 1 rfl) ?_
  refine ns_getr C w 43 (hI 43 (by decide)) sh_43 (rfl : vwCl[7]? = some (RX7, TX7, 5)) inX7_copyFrom_7 1 (by decide) rfl lX7_copyFrom_9 dX7_copyFrom_9 ?_
  refine lv_iconst (v := 0) C.1.1 C.1.2.1 dX7_copyFrom_12 (by decide) ?_
  refine lv_aload_n C.1.1 C.1.2.1 dX7_copyFrom_13 rfl (lv_at hl 0 rfl) ?_
  refine ns_getr C w 188 (hJ 188 (by decide) (by decide)) sh_188 (rfl : vwCl[7]? = some (RX7, TX7, 5)) inX7_copyFrom_7 1 (by decide) rfl lX7_copyFrom_9 dX7_copyFrom_14 ?_
  refine lv_iconst (v := 0) C.1.1 C.1.2.1 dX7_copyFrom_17 (by decide) ?_
  refine lv_bipush (v := 10) C.1.1 C.1.2.1 dX7_copyFrom_18 (by decide) ?_
  refine ns_copy C w 44 189 (hI 44 (by decide)) (hJ 189 (by decide) (by decide)) sh_44 sh_189 hf rfl rfl (List.mem_of_getElem? (i := 1) rfl) (List.mem_of_getElem? (i := 3) rfl) (List.mem_of_getElem? (i := 4) rfl) (List.mem_of_getElem? (i := 5) rfl) (List.mem_of_getElem? (i := 6) rfl) hl.1 (Nat.le_of_ble_eq_true rfl) (Nat.le_of_ble_eq_true rfl) dX7_copyFrom_20 (fun y1 H locs hf w => ?_)
  refine lv_aload_n C.1.1 C.1.2.1 dX7_copyFrom_23 rfl (lv_at hl 1 rfl) ?_
  refine ns_getr C w 43 (hI 43 (by decide)) sh_43 (rfl : vwCl[7]? = some (RX7, TX7, 5)) inX7_copyFrom_7 2 (by decide) rfl lX7_copyFrom_15 dX7_copyFrom_24 ?_
  refine lv_iconst (v := 0) C.1.1 C.1.2.1 dX7_copyFrom_27 (by decide) ?_
  refine lv_aload_n C.1.1 C.1.2.1 dX7_copyFrom_28 rfl (lv_at hl 0 rfl) ?_
  refine ns_getr C w 188 (hJ 188 (by decide) (by decide)) sh_188 (rfl : vwCl[7]? = some (RX7, TX7, 5)) inX7_copyFrom_7 2 (by decide) rfl lX7_copyFrom_15 dX7_copyFrom_29 ?_
  refine lv_iconst (v := 0) C.1.1 C.1.2.1 dX7_copyFrom_32 (by decide) ?_
  refine lv_bipush (v := 10) C.1.1 C.1.2.1 dX7_copyFrom_33 (by decide) ?_
  refine ns_copy C w 45 190 (hI 45 (by decide)) (hJ 190 (by decide) (by decide)) sh_45 sh_190 hf rfl rfl (List.mem_of_getElem? (i := 2) rfl) (List.mem_of_getElem? (i := 3) rfl) (List.mem_of_getElem? (i := 4) rfl) (List.mem_of_getElem? (i := 5) rfl) (List.mem_of_getElem? (i := 6) rfl) hl.1 (Nat.le_of_ble_eq_true rfl) (Nat.le_of_ble_eq_true rfl) dX7_copyFrom_35 (fun y2 H locs hf w => ?_)
  refine lv_aload_n C.1.1 C.1.2.1 dX7_copyFrom_38 rfl (lv_at hl 1 rfl) ?_
  refine ns_getr C w 43 (hI 43 (by decide)) sh_43 (rfl : vwCl[7]? = some (RX7, TX7, 5)) inX7_copyFrom_7 3 (by decide) rfl lX7_copyFrom_18 dX7_copyFrom_39 ?_
  refine lv_iconst (v := 0) C.1.1 C.1.2.1 dX7_copyFrom_42 (by decide) ?_
  refine lv_aload_n C.1.1 C.1.2.1 dX7_copyFrom_43 rfl (lv_at hl 0 rfl) ?_
  refine ns_getr C w 188 (hJ 188 (by decide) (by decide)) sh_188 (rfl : vwCl[7]? = some (RX7, TX7, 5)) inX7_copyFrom_7 3 (by decide) rfl lX7_copyFrom_18 dX7_copyFrom_44 ?_
  refine lv_iconst (v := 0) C.1.1 C.1.2.1 dX7_copyFrom_47 (by decide) ?_
  refine lv_bipush (v := 10) C.1.1 C.1.2.1 dX7_copyFrom_48 (by decide) ?_
  refine ns_copy C w 46 191 (hI 46 (by decide)) (hJ 191 (by decide) (by decide)) sh_46 sh_191 hf rfl rfl (List.mem_of_getElem? (i := 3) rfl) (List.mem_of_getElem? (i := 3) rfl) (List.mem_of_getElem? (i := 4) rfl) (List.mem_of_getElem? (i := 5) rfl) (List.mem_of_getElem? (i := 6) rfl) hl.1 (Nat.le_of_ble_eq_true rfl) (Nat.le_of_ble_eq_true rfl) dX7_copyFrom_50 (fun y3 H locs hf w => ?_)
  refine lv_aload_n C.1.1 C.1.2.1 dX7_copyFrom_53 rfl (lv_at hl 1 rfl) ?_
  refine ns_getr C w 43 (hI 43 (by decide)) sh_43 (rfl : vwCl[7]? = some (RX7, TX7, 5)) inX7_copyFrom_7 4 (by decide) rfl lX7_copyFrom_21 dX7_copyFrom_54 ?_
  refine lv_iconst (v := 0) C.1.1 C.1.2.1 dX7_copyFrom_57 (by decide) ?_
  refine lv_aload_n C.1.1 C.1.2.1 dX7_copyFrom_58 rfl (lv_at hl 0 rfl) ?_
  refine ns_getr C w 188 (hJ 188 (by decide) (by decide)) sh_188 (rfl : vwCl[7]? = some (RX7, TX7, 5)) inX7_copyFrom_7 4 (by decide) rfl lX7_copyFrom_21 dX7_copyFrom_59 ?_
  refine lv_iconst (v := 0) C.1.1 C.1.2.1 dX7_copyFrom_62 (by decide) ?_
  refine lv_bipush (v := 30) C.1.1 C.1.2.1 dX7_copyFrom_63 (by decide) ?_
  refine ns_copy C w 47 192 (hI 47 (by decide)) (hJ 192 (by decide) (by decide)) sh_47 sh_192 hf rfl rfl (List.mem_of_getElem? (i := 4) rfl) (List.mem_of_getElem? (i := 3) rfl) (List.mem_of_getElem? (i := 4) rfl) (List.mem_of_getElem? (i := 5) rfl) (List.mem_of_getElem? (i := 6) rfl) hl.1 (Nat.le_of_ble_eq_true rfl) (Nat.le_of_ble_eq_true rfl) dX7_copyFrom_65 (fun y4 H locs hf w => ?_)
  have he := Option.some.inj hf
  subst he
  exact ns_vret C w hr hlk rfl rfl dX7_copyFrom_68
abbrev wrX8_copyFrom_193_48 : List (Nat × Nat) := [(0, 12352), (0, 12353), (1, 194), (1, 195), (1, 196), (1, 197)]
abbrev rmX8_copyFrom_193_48 : Room := { frames := 1, cells := 0, slots := 0, locals := 40 }
set_option maxHeartbeats 4000000 in
set_option maxRecDepth 100000 in
theorem mX8_copyFrom_193_48 (l : Launch) (D : va_G) (b : Nat → Nat) (ids : List Nat) (hI : ∀ i, i < 107 → i ∈ ids) (hJ : ∀ i, 173 ≤ i → i < 206 → i ∈ ids) (N : Nat) (S : ns_S) {o : Int32 × Int32 × (Nat → Int32) × (Nat → Int32) × (Nat → Int32) × (Nat → Int32)} (hf : fX8_copyFrom N (S.1 3072) (S.1 12352) (S.1 3073) (S.1 12353) (S.2.1 49) (S.2.1 194) (S.2.1 50) (S.2.1 195) (S.2.1 51) (S.2.1 196) (S.2.1 52) (S.2.1 197) = some o) : ns_M l yX8_copyFrom wsX8_copyFrom rmX8_copyFrom_193_48 D b ids S [.ref (b 193), .ref (b 48)] none (ns_I (ns_I (ns_A (ns_A (ns_A (ns_A S 197 o.2.2.2.2.2) 196 o.2.2.2.2.1) 195 o.2.2.2.1) 194 o.2.2.1) 12353 o.2.1) 12352 o.1) := by
  refine ns_start (Wr := wrX8_copyFrom_193_48) (by decide) rfl (Nat.le_of_ble_eq_true rfl) ?_
  intro p e s m below meth c A ls C hr hlk w hl
  have hl : lv_has ls 2 [(0, .ref (b 193)), (1, .ref (b 48))] := hl
  unfold fX8_copyFrom at hf
  refine lv_aload_n C.1.1 C.1.2.1 dX8_copyFrom_0 rfl (lv_at hl 0 rfl) ?_
  refine lv_aload_n C.1.1 C.1.2.1 dX8_copyFrom_1 rfl (lv_at hl 1 rfl) ?_
  refine ns_geti C w 48 (hI 48 (by decide)) sh_48 (rfl : vwCl[8]? = some (RX8, TX8, 6)) inX8_copyFrom_8 0 (by decide) rfl lX8_copyFrom_9 (S.1 3072) rfl dX8_copyFrom_2 ?_
  refine ns_puti C w 193 (hJ 193 (by decide) (by decide)) sh_193 (rfl : vwCl[8]? = some (RX8, TX8, 6)) inX8_copyFrom_8 tyX8_ok nmX8 0 (by decide) rfl lX8_copyFrom_9 rfl rfl rfl (List.mem_of_getElem? (i := 0) rfl) dX8_copyFrom_5 (fun H locs w => ?_)
  refine lv_aload_n C.1.1 C.1.2.1 dX8_copyFrom_8 rfl (lv_at hl 0 rfl) ?_
  refine lv_aload_n C.1.1 C.1.2.1 dX8_copyFrom_9 rfl (lv_at hl 1 rfl) ?_
  refine ns_geti C w 48 (hI 48 (by decide)) sh_48 (rfl : vwCl[8]? = some (RX8, TX8, 6)) inX8_copyFrom_8 1 (by decide) rfl lX8_copyFrom_28 (S.1 3073) rfl dX8_copyFrom_10 ?_
  refine ns_puti C w 193 (hJ 193 (by decide) (by decide)) sh_193 (rfl : vwCl[8]? = some (RX8, TX8, 6)) inX8_copyFrom_8 tyX8_ok nmX8 1 (by decide) rfl lX8_copyFrom_28 rfl rfl rfl (List.mem_of_getElem? (i := 1) rfl) dX8_copyFrom_13 (fun H locs w => ?_)
  refine lv_aload_n C.1.1 C.1.2.1 dX8_copyFrom_16 rfl (lv_at hl 1 rfl) ?_
  refine ns_getr C w 48 (hI 48 (by decide)) sh_48 (rfl : vwCl[8]? = some (RX8, TX8, 6)) inX8_copyFrom_8 2 (by decide) rfl lX8_copyFrom_15 dX8_copyFrom_17 ?_
  refine lv_iconst (v := 0) C.1.1 C.1.2.1 dX8_copyFrom_20 (by decide) ?_
  refine lv_aload_n C.1.1 C.1.2.1 dX8_copyFrom_21 rfl (lv_at hl 0 rfl) ?_
  refine ns_getr C w 193 (hJ 193 (by decide) (by decide)) sh_193 (rfl : vwCl[8]? = some (RX8, TX8, 6)) inX8_copyFrom_8 2 (by decide) rfl lX8_copyFrom_15 dX8_copyFrom_22 ?_
  refine lv_iconst (v := 0) C.1.1 C.1.2.1 dX8_copyFrom_25 (by decide) ?_
  refine lv_bipush (v := 30) C.1.1 C.1.2.1 dX8_copyFrom_26 (by decide) ?_
  refine ns_copy C w 49 194 (hI 49 (by decide)) (hJ 194 (by decide) (by decide)) sh_49 sh_194 hf rfl rfl (List.mem_of_getElem? (i := 2) rfl) (List.mem_of_getElem? (i := 4) rfl) (List.mem_of_getElem? (i := 5) rfl) (List.mem_of_getElem? (i := 6) rfl) (List.mem_of_getElem? (i := 7) rfl) hl.1 (Nat.le_of_ble_eq_true rfl) (Nat.le_of_ble_eq_true rfl) dX8_copyFrom_28 (fun y1 H locs hf w => ?_)
  refine lv_aload_n C.1.1 C.1.2.1 dX8_copyFrom_31 rfl (lv_at hl 1 rfl) ?_
  refine ns_getr C w 48 (hI 48 (by decide)) sh_48 (rfl : vwCl[8]? = some (RX8, TX8, 6)) inX8_copyFrom_8 3 (by decide) rfl lX8_copyFrom_19 dX8_copyFrom_32 ?_
  refine lv_iconst (v := 0) C.1.1 C.1.2.1 dX8_copyFrom_35 (by decide) ?_
  refine lv_aload_n C.1.1 C.1.2.1 dX8_copyFrom_36 rfl (lv_at hl 0 rfl) ?_
  refine ns_getr C w 193 (hJ 193 (by decide) (by decide)) sh_193 (rfl : vwCl[8]? = some (RX8, TX8, 6)) inX8_copyFrom_8 3 (by decide) rfl lX8_copyFrom_19 dX8_copyFrom_37 ?_
  refine lv_iconst (v := 0) C.1.1 C.1.2.1 dX8_copyFrom_40 (by decide) ?_
  refine lv_bipush (v := 10) C.1.1 C.1.2.1 dX8_copyFrom_41 (by decide) ?_
  refine ns_copy C w 50 195 (hI 50 (by decide)) (hJ 195 (by decide) (by decide)) sh_50 sh_195 hf rfl rfl (List.mem_of_getElem? (i := 3) rfl) (List.mem_of_getElem? (i := 4) rfl) (List.mem_of_getElem? (i := 5) rfl) (List.mem_of_getElem? (i := 6) rfl) (List.mem_of_getElem? (i := 7) rfl) hl.1 (Nat.le_of_ble_eq_true rfl) (Nat.le_of_ble_eq_true rfl) dX8_copyFrom_43 (fun y2 H locs hf w => ?_)
  refine lv_aload_n C.1.1 C.1.2.1 dX8_copyFrom_46 rfl (lv_at hl 1 rfl) ?_
  refine ns_getr C w 48 (hI 48 (by decide)) sh_48 (rfl : vwCl[8]? = some (RX8, TX8, 6)) inX8_copyFrom_8 4 (by decide) rfl lX8_copyFrom_22 dX8_copyFrom_47 ?_
  refine lv_iconst (v := 0) C.1.1 C.1.2.1 dX8_copyFrom_50 (by decide) ?_
  refine lv_aload_n C.1.1 C.1.2.1 dX8_copyFrom_51 rfl (lv_at hl 0 rfl) ?_
  refine ns_getr C w 193 (hJ 193 (by decide) (by decide)) sh_193 (rfl : vwCl[8]? = some (RX8, TX8, 6)) inX8_copyFrom_8 4 (by decide) rfl lX8_copyFrom_22 dX8_copyFrom_52 ?_
  refine lv_iconst (v := 0) C.1.1 C.1.2.1 dX8_copyFrom_55 (by decide) ?_
  refine lv_bipush (v := 6) C.1.1 C.1.2.1 dX8_copyFrom_56 (by decide) ?_
  refine ns_copy C w 51 196 (hI 51 (by decide)) (hJ 196 (by decide) (by decide)) sh_51 sh_196 hf rfl rfl (List.mem_of_getElem? (i := 4) rfl) (List.mem_of_getElem? (i := 4) rfl) (List.mem_of_getElem? (i := 5) rfl) (List.mem_of_getElem? (i := 6) rfl) (List.mem_of_getElem? (i := 7) rfl) hl.1 (Nat.le_of_ble_eq_true rfl) (Nat.le_of_ble_eq_true rfl) dX8_copyFrom_58 (fun y3 H locs hf w => ?_)
  refine lv_aload_n C.1.1 C.1.2.1 dX8_copyFrom_61 rfl (lv_at hl 1 rfl) ?_
  refine ns_getr C w 48 (hI 48 (by decide)) sh_48 (rfl : vwCl[8]? = some (RX8, TX8, 6)) inX8_copyFrom_8 5 (by decide) rfl lX8_copyFrom_25 dX8_copyFrom_62 ?_
  refine lv_iconst (v := 0) C.1.1 C.1.2.1 dX8_copyFrom_65 (by decide) ?_
  refine lv_aload_n C.1.1 C.1.2.1 dX8_copyFrom_66 rfl (lv_at hl 0 rfl) ?_
  refine ns_getr C w 193 (hJ 193 (by decide) (by decide)) sh_193 (rfl : vwCl[8]? = some (RX8, TX8, 6)) inX8_copyFrom_8 5 (by decide) rfl lX8_copyFrom_25 dX8_copyFrom_67 ?_
  refine lv_iconst (v := 0) C.1.1 C.1.2.1 dX8_copyFrom_70 (by decide) ?_
  refine lv_iconst (v := 5) C.1.1 C.1.2.1 dX8_copyFrom_71 (by decide) ?_
  refine ns_copy C w 52 197 (hI 52 (by decide)) (hJ 197 (by decide) (by decide)) sh_52 sh_197 hf rfl rfl (List.mem_of_getElem? (i := 5) rfl) (List.mem_of_getElem? (i := 4) rfl) (List.mem_of_getElem? (i := 5) rfl) (List.mem_of_getElem? (i := 6) rfl) (List.mem_of_getElem? (i := 7) rfl) hl.1 (Nat.le_of_ble_eq_true rfl) (Nat.le_of_ble_eq_true rfl) dX8_copyFrom_72 (fun y4 H locs hf w => ?_)
  have he := Option.some.inj hf
  subst he
  exact ns_vret C w hr hlk rfl rfl dX8_copyFrom_75
abbrev wrX2_copyFrom_198_53 : List (Nat × Nat) := [(0, 12672), (1, 199), (1, 200), (1, 201), (1, 202), (1, 203), (1, 204), (1, 205)]
abbrev rmX2_copyFrom_198_53 : Room := { frames := 1, cells := 0, slots := 0, locals := 40 }
set_option maxHeartbeats 4000000 in
set_option maxRecDepth 100000 in
theorem mX2_copyFrom_198_53 (l : Launch) (D : va_G) (b : Nat → Nat) (ids : List Nat) (hI : ∀ i, i < 107 → i ∈ ids) (hJ : ∀ i, 173 ≤ i → i < 206 → i ∈ ids) (N : Nat) (S : ns_S) {o : Int32 × (Nat → Int32) × (Nat → Int32) × (Nat → Int32) × (Nat → Int32) × (Nat → Int32) × (Nat → Int32) × (Nat → Int32)} (hf : fX2_copyFrom N (S.1 3392) (S.1 12672) (S.2.1 54) (S.2.1 199) (S.2.1 55) (S.2.1 200) (S.2.1 56) (S.2.1 201) (S.2.1 57) (S.2.1 202) (S.2.1 58) (S.2.1 203) (S.2.1 59) (S.2.1 204) (S.2.1 60) (S.2.1 205) = some o) : ns_M l yX2_copyFrom wsX2_copyFrom rmX2_copyFrom_198_53 D b ids S [.ref (b 198), .ref (b 53)] none (ns_I (ns_A (ns_A (ns_A (ns_A (ns_A (ns_A (ns_A S 205 o.2.2.2.2.2.2.2) 204 o.2.2.2.2.2.2.1) 203 o.2.2.2.2.2.1) 202 o.2.2.2.2.1) 201 o.2.2.2.1) 200 o.2.2.1) 199 o.2.1) 12672 o.1) := by
  refine ns_start (Wr := wrX2_copyFrom_198_53) (by decide) rfl (Nat.le_of_ble_eq_true rfl) ?_
  intro p e s m below meth c A ls C hr hlk w hl
  have hl : lv_has ls 2 [(0, .ref (b 198)), (1, .ref (b 53))] := hl
  unfold fX2_copyFrom at hf
  refine lv_aload_n C.1.1 C.1.2.1 dX2_copyFrom_0 rfl (lv_at hl 0 rfl) ?_
  refine lv_aload_n C.1.1 C.1.2.1 dX2_copyFrom_1 rfl (lv_at hl 1 rfl) ?_
  refine ns_geti C w 53 (hI 53 (by decide)) sh_53 (rfl : vwCl[2]? = some (RX2, TX2, 8)) inX2_copyFrom_2 0 (by decide) rfl lX2_copyFrom_33 (S.1 3392) rfl dX2_copyFrom_2 ?_
  refine ns_puti C w 198 (hJ 198 (by decide) (by decide)) sh_198 (rfl : vwCl[2]? = some (RX2, TX2, 8)) inX2_copyFrom_2 tyX2_ok nmX2 0 (by decide) rfl lX2_copyFrom_33 rfl rfl rfl (List.mem_of_getElem? (i := 0) rfl) dX2_copyFrom_5 (fun H locs w => ?_)
  refine lv_aload_n C.1.1 C.1.2.1 dX2_copyFrom_8 rfl (lv_at hl 1 rfl) ?_
  refine ns_getr C w 53 (hI 53 (by decide)) sh_53 (rfl : vwCl[2]? = some (RX2, TX2, 8)) inX2_copyFrom_2 1 (by decide) rfl lX2_copyFrom_9 dX2_copyFrom_9 ?_
  refine lv_iconst (v := 0) C.1.1 C.1.2.1 dX2_copyFrom_12 (by decide) ?_
  refine lv_aload_n C.1.1 C.1.2.1 dX2_copyFrom_13 rfl (lv_at hl 0 rfl) ?_
  refine ns_getr C w 198 (hJ 198 (by decide) (by decide)) sh_198 (rfl : vwCl[2]? = some (RX2, TX2, 8)) inX2_copyFrom_2 1 (by decide) rfl lX2_copyFrom_9 dX2_copyFrom_14 ?_
  refine lv_iconst (v := 0) C.1.1 C.1.2.1 dX2_copyFrom_17 (by decide) ?_
  refine lv_bipush (v := 16) C.1.1 C.1.2.1 dX2_copyFrom_18 (by decide) ?_
  refine ns_copy C w 54 199 (hI 54 (by decide)) (hJ 199 (by decide) (by decide)) sh_54 sh_199 hf rfl rfl (List.mem_of_getElem? (i := 1) rfl) (List.mem_of_getElem? (i := 3) rfl) (List.mem_of_getElem? (i := 4) rfl) (List.mem_of_getElem? (i := 5) rfl) (List.mem_of_getElem? (i := 6) rfl) hl.1 (Nat.le_of_ble_eq_true rfl) (Nat.le_of_ble_eq_true rfl) dX2_copyFrom_20 (fun y1 H locs hf w => ?_)
  refine lv_aload_n C.1.1 C.1.2.1 dX2_copyFrom_23 rfl (lv_at hl 1 rfl) ?_
  refine ns_getr C w 53 (hI 53 (by decide)) sh_53 (rfl : vwCl[2]? = some (RX2, TX2, 8)) inX2_copyFrom_2 2 (by decide) rfl lX2_copyFrom_15 dX2_copyFrom_24 ?_
  refine lv_iconst (v := 0) C.1.1 C.1.2.1 dX2_copyFrom_27 (by decide) ?_
  refine lv_aload_n C.1.1 C.1.2.1 dX2_copyFrom_28 rfl (lv_at hl 0 rfl) ?_
  refine ns_getr C w 198 (hJ 198 (by decide) (by decide)) sh_198 (rfl : vwCl[2]? = some (RX2, TX2, 8)) inX2_copyFrom_2 2 (by decide) rfl lX2_copyFrom_15 dX2_copyFrom_29 ?_
  refine lv_iconst (v := 0) C.1.1 C.1.2.1 dX2_copyFrom_32 (by decide) ?_
  refine lv_bipush (v := 16) C.1.1 C.1.2.1 dX2_copyFrom_33 (by decide) ?_
  refine ns_copy C w 55 200 (hI 55 (by decide)) (hJ 200 (by decide) (by decide)) sh_55 sh_200 hf rfl rfl (List.mem_of_getElem? (i := 2) rfl) (List.mem_of_getElem? (i := 3) rfl) (List.mem_of_getElem? (i := 4) rfl) (List.mem_of_getElem? (i := 5) rfl) (List.mem_of_getElem? (i := 6) rfl) hl.1 (Nat.le_of_ble_eq_true rfl) (Nat.le_of_ble_eq_true rfl) dX2_copyFrom_35 (fun y2 H locs hf w => ?_)
  refine lv_aload_n C.1.1 C.1.2.1 dX2_copyFrom_38 rfl (lv_at hl 1 rfl) ?_
  refine ns_getr C w 53 (hI 53 (by decide)) sh_53 (rfl : vwCl[2]? = some (RX2, TX2, 8)) inX2_copyFrom_2 3 (by decide) rfl lX2_copyFrom_18 dX2_copyFrom_39 ?_
  refine lv_iconst (v := 0) C.1.1 C.1.2.1 dX2_copyFrom_42 (by decide) ?_
  refine lv_aload_n C.1.1 C.1.2.1 dX2_copyFrom_43 rfl (lv_at hl 0 rfl) ?_
  refine ns_getr C w 198 (hJ 198 (by decide) (by decide)) sh_198 (rfl : vwCl[2]? = some (RX2, TX2, 8)) inX2_copyFrom_2 3 (by decide) rfl lX2_copyFrom_18 dX2_copyFrom_44 ?_
  refine lv_iconst (v := 0) C.1.1 C.1.2.1 dX2_copyFrom_47 (by decide) ?_
  refine lv_bipush (v := 16) C.1.1 C.1.2.1 dX2_copyFrom_48 (by decide) ?_
  refine ns_copy C w 56 201 (hI 56 (by decide)) (hJ 201 (by decide) (by decide)) sh_56 sh_201 hf rfl rfl (List.mem_of_getElem? (i := 3) rfl) (List.mem_of_getElem? (i := 3) rfl) (List.mem_of_getElem? (i := 4) rfl) (List.mem_of_getElem? (i := 5) rfl) (List.mem_of_getElem? (i := 6) rfl) hl.1 (Nat.le_of_ble_eq_true rfl) (Nat.le_of_ble_eq_true rfl) dX2_copyFrom_50 (fun y3 H locs hf w => ?_)
  refine lv_aload_n C.1.1 C.1.2.1 dX2_copyFrom_53 rfl (lv_at hl 1 rfl) ?_
  refine ns_getr C w 53 (hI 53 (by decide)) sh_53 (rfl : vwCl[2]? = some (RX2, TX2, 8)) inX2_copyFrom_2 4 (by decide) rfl lX2_copyFrom_21 dX2_copyFrom_54 ?_
  refine lv_iconst (v := 0) C.1.1 C.1.2.1 dX2_copyFrom_57 (by decide) ?_
  refine lv_aload_n C.1.1 C.1.2.1 dX2_copyFrom_58 rfl (lv_at hl 0 rfl) ?_
  refine ns_getr C w 198 (hJ 198 (by decide) (by decide)) sh_198 (rfl : vwCl[2]? = some (RX2, TX2, 8)) inX2_copyFrom_2 4 (by decide) rfl lX2_copyFrom_21 dX2_copyFrom_59 ?_
  refine lv_iconst (v := 0) C.1.1 C.1.2.1 dX2_copyFrom_62 (by decide) ?_
  refine lv_bipush (v := 16) C.1.1 C.1.2.1 dX2_copyFrom_63 (by decide) ?_
  refine ns_copy C w 57 202 (hI 57 (by decide)) (hJ 202 (by decide) (by decide)) sh_57 sh_202 hf rfl rfl (List.mem_of_getElem? (i := 4) rfl) (List.mem_of_getElem? (i := 3) rfl) (List.mem_of_getElem? (i := 4) rfl) (List.mem_of_getElem? (i := 5) rfl) (List.mem_of_getElem? (i := 6) rfl) hl.1 (Nat.le_of_ble_eq_true rfl) (Nat.le_of_ble_eq_true rfl) dX2_copyFrom_65 (fun y4 H locs hf w => ?_)
  refine lv_aload_n C.1.1 C.1.2.1 dX2_copyFrom_68 rfl (lv_at hl 1 rfl) ?_
  refine ns_getr C w 53 (hI 53 (by decide)) sh_53 (rfl : vwCl[2]? = some (RX2, TX2, 8)) inX2_copyFrom_2 5 (by decide) rfl lX2_copyFrom_24 dX2_copyFrom_69 ?_
  refine lv_iconst (v := 0) C.1.1 C.1.2.1 dX2_copyFrom_72 (by decide) ?_
  refine lv_aload_n C.1.1 C.1.2.1 dX2_copyFrom_73 rfl (lv_at hl 0 rfl) ?_
  refine ns_getr C w 198 (hJ 198 (by decide) (by decide)) sh_198 (rfl : vwCl[2]? = some (RX2, TX2, 8)) inX2_copyFrom_2 5 (by decide) rfl lX2_copyFrom_24 dX2_copyFrom_74 ?_
  refine lv_iconst (v := 0) C.1.1 C.1.2.1 dX2_copyFrom_77 (by decide) ?_
  refine lv_bipush (v := 64) C.1.1 C.1.2.1 dX2_copyFrom_78 (by decide) ?_
  refine ns_copy C w 58 203 (hI 58 (by decide)) (hJ 203 (by decide) (by decide)) sh_58 sh_203 hf rfl rfl (List.mem_of_getElem? (i := 5) rfl) (List.mem_of_getElem? (i := 3) rfl) (List.mem_of_getElem? (i := 4) rfl) (List.mem_of_getElem? (i := 5) rfl) (List.mem_of_getElem? (i := 6) rfl) hl.1 (Nat.le_of_ble_eq_true rfl) (Nat.le_of_ble_eq_true rfl) dX2_copyFrom_80 (fun y5 H locs hf w => ?_)
  refine lv_aload_n C.1.1 C.1.2.1 dX2_copyFrom_83 rfl (lv_at hl 1 rfl) ?_
  refine ns_getr C w 53 (hI 53 (by decide)) sh_53 (rfl : vwCl[2]? = some (RX2, TX2, 8)) inX2_copyFrom_2 6 (by decide) rfl lX2_copyFrom_27 dX2_copyFrom_84 ?_
  refine lv_iconst (v := 0) C.1.1 C.1.2.1 dX2_copyFrom_87 (by decide) ?_
  refine lv_aload_n C.1.1 C.1.2.1 dX2_copyFrom_88 rfl (lv_at hl 0 rfl) ?_
  refine ns_getr C w 198 (hJ 198 (by decide) (by decide)) sh_198 (rfl : vwCl[2]? = some (RX2, TX2, 8)) inX2_copyFrom_2 6 (by decide) rfl lX2_copyFrom_27 dX2_copyFrom_89 ?_
  refine lv_iconst (v := 0) C.1.1 C.1.2.1 dX2_copyFrom_92 (by decide) ?_
  refine lv_bipush (v := 64) C.1.1 C.1.2.1 dX2_copyFrom_93 (by decide) ?_
  refine ns_copy C w 59 204 (hI 59 (by decide)) (hJ 204 (by decide) (by decide)) sh_59 sh_204 hf rfl rfl (List.mem_of_getElem? (i := 6) rfl) (List.mem_of_getElem? (i := 3) rfl) (List.mem_of_getElem? (i := 4) rfl) (List.mem_of_getElem? (i := 5) rfl) (List.mem_of_getElem? (i := 6) rfl) hl.1 (Nat.le_of_ble_eq_true rfl) (Nat.le_of_ble_eq_true rfl) dX2_copyFrom_95 (fun y6 H locs hf w => ?_)
  refine lv_aload_n C.1.1 C.1.2.1 dX2_copyFrom_98 rfl (lv_at hl 1 rfl) ?_
  refine ns_getr C w 53 (hI 53 (by decide)) sh_53 (rfl : vwCl[2]? = some (RX2, TX2, 8)) inX2_copyFrom_2 7 (by decide) rfl lX2_copyFrom_30 dX2_copyFrom_99 ?_
  refine lv_iconst (v := 0) C.1.1 C.1.2.1 dX2_copyFrom_102 (by decide) ?_
  refine lv_aload_n C.1.1 C.1.2.1 dX2_copyFrom_103 rfl (lv_at hl 0 rfl) ?_
  refine ns_getr C w 198 (hJ 198 (by decide) (by decide)) sh_198 (rfl : vwCl[2]? = some (RX2, TX2, 8)) inX2_copyFrom_2 7 (by decide) rfl lX2_copyFrom_30 dX2_copyFrom_104 ?_
  refine lv_iconst (v := 0) C.1.1 C.1.2.1 dX2_copyFrom_107 (by decide) ?_
  refine lv_bipush (v := 64) C.1.1 C.1.2.1 dX2_copyFrom_108 (by decide) ?_
  refine ns_copy C w 60 205 (hI 60 (by decide)) (hJ 205 (by decide) (by decide)) sh_60 sh_205 hf rfl rfl (List.mem_of_getElem? (i := 7) rfl) (List.mem_of_getElem? (i := 3) rfl) (List.mem_of_getElem? (i := 4) rfl) (List.mem_of_getElem? (i := 5) rfl) (List.mem_of_getElem? (i := 6) rfl) hl.1 (Nat.le_of_ble_eq_true rfl) (Nat.le_of_ble_eq_true rfl) dX2_copyFrom_110 (fun y7 H locs hf w => ?_)
  have he := Option.some.inj hf
  subst he
  exact ns_vret C w hr hlk rfl rfl dX2_copyFrom_113
abbrev wrX6_copyFrom_173_28 : List (Nat × Nat) := [(0, 11136), (1, 175), (0, 11264), (1, 177), (1, 178), (1, 179), (1, 180), (1, 181), (0, 11648), (1, 183), (1, 184), (1, 185), (1, 186), (1, 187), (0, 12032), (1, 189), (1, 190), (1, 191), (1, 192), (0, 12352), (0, 12353), (1, 194), (1, 195), (1, 196), (1, 197), (0, 12672), (1, 199), (1, 200), (1, 201), (1, 202), (1, 203), (1, 204), (1, 205)]
abbrev rmX6_copyFrom_173_28 : Room := { frames := 2, cells := 0, slots := 0, locals := 61 }
set_option maxHeartbeats 4000000 in
set_option maxRecDepth 100000 in
theorem mX6_copyFrom_173_28 (l : Launch) (D : va_G) (b : Nat → Nat) (ids : List Nat) (hI : ∀ i, i < 107 → i ∈ ids) (hJ : ∀ i, 173 ≤ i → i < 206 → i ∈ ids) (N : Nat) (S : ns_S) {o : Int32 × (Nat → Int32) × Int32 × (Nat → Int32) × (Nat → Int32) × (Nat → Int32) × (Nat → Int32) × (Nat → Int32) × Int32 × (Nat → Int32) × (Nat → Int32) × (Nat → Int32) × (Nat → Int32) × (Nat → Int32) × Int32 × (Nat → Int32) × (Nat → Int32) × (Nat → Int32) × (Nat → Int32) × Int32 × Int32 × (Nat → Int32) × (Nat → Int32) × (Nat → Int32) × (Nat → Int32) × Int32 × (Nat → Int32) × (Nat → Int32) × (Nat → Int32) × (Nat → Int32) × (Nat → Int32) × (Nat → Int32) × (Nat → Int32)} (hf : fX6_copyFrom N (S.1 1856) (S.1 11136) (S.2.1 30) (S.2.1 175) (S.1 1984) (S.1 11264) (S.2.1 32) (S.2.1 177) (S.2.1 33) (S.2.1 178) (S.2.1 34) (S.2.1 179) (S.2.1 35) (S.2.1 180) (S.2.1 36) (S.2.1 181) (S.1 2368) (S.1 11648) (S.2.1 38) (S.2.1 183) (S.2.1 39) (S.2.1 184) (S.2.1 40) (S.2.1 185) (S.2.1 41) (S.2.1 186) (S.2.1 42) (S.2.1 187) (S.1 2752) (S.1 12032) (S.2.1 44) (S.2.1 189) (S.2.1 45) (S.2.1 190) (S.2.1 46) (S.2.1 191) (S.2.1 47) (S.2.1 192) (S.1 3072) (S.1 12352) (S.1 3073) (S.1 12353) (S.2.1 49) (S.2.1 194) (S.2.1 50) (S.2.1 195) (S.2.1 51) (S.2.1 196) (S.2.1 52) (S.2.1 197) (S.1 3392) (S.1 12672) (S.2.1 54) (S.2.1 199) (S.2.1 55) (S.2.1 200) (S.2.1 56) (S.2.1 201) (S.2.1 57) (S.2.1 202) (S.2.1 58) (S.2.1 203) (S.2.1 59) (S.2.1 204) (S.2.1 60) (S.2.1 205) = some o) : ns_M l yX6_copyFrom wsX6_copyFrom rmX6_copyFrom_173_28 D b ids S [.ref (b 173), .ref (b 28)] none (ns_I (ns_A (ns_I (ns_A (ns_A (ns_A (ns_A (ns_A (ns_I (ns_A (ns_A (ns_A (ns_A (ns_A (ns_I (ns_A (ns_A (ns_A (ns_A (ns_I (ns_I (ns_A (ns_A (ns_A (ns_A (ns_I (ns_A (ns_A (ns_A (ns_A (ns_A (ns_A (ns_A S 205 o.2.2.2.2.2.2.2.2.2.2.2.2.2.2.2.2.2.2.2.2.2.2.2.2.2.2.2.2.2.2.2.2) 204 o.2.2.2.2.2.2.2.2.2.2.2.2.2.2.2.2.2.2.2.2.2.2.2.2.2.2.2.2.2.2.2.1) 203 o.2.2.2.2.2.2.2.2.2.2.2.2.2.2.2.2.2.2.2.2.2.2.2.2.2.2.2.2.2.2.1) 202 o.2.2.2.2.2.2.2.2.2.2.2.2.2.2.2.2.2.2.2.2.2.2.2.2.2.2.2.2.2.1) 201 o.2.2.2.2.2.2.2.2.2.2.2.2.2.2.2.2.2.2.2.2.2.2.2.2.2.2.2.2.1) 200 o.2.2.2.2.2.2.2.2.2.2.2.2.2.2.2.2.2.2.2.2.2.2.2.2.2.2.2.1) 199 o.2.2.2.2.2.2.2.2.2.2.2.2.2.2.2.2.2.2.2.2.2.2.2.2.2.2.1) 12672 o.2.2.2.2.2.2.2.2.2.2.2.2.2.2.2.2.2.2.2.2.2.2.2.2.2.1) 197 o.2.2.2.2.2.2.2.2.2.2.2.2.2.2.2.2.2.2.2.2.2.2.2.2.1) 196 o.2.2.2.2.2.2.2.2.2.2.2.2.2.2.2.2.2.2.2.2.2.2.2.1) 195 o.2.2.2.2.2.2.2.2.2.2.2.2.2.2.2.2.2.2.2.2.2.2.1) 194 o.2.2.2.2.2.2.2.2.2.2.2.2.2.2.2.2.2.2.2.2.2.1) 12353 o.2.2.2.2.2.2.2.2.2.2.2.2.2.2.2.2.2.2.2.2.1) 12352 o.2.2.2.2.2.2.2.2.2.2.2.2.2.2.2.2.2.2.2.1) 192 o.2.2.2.2.2.2.2.2.2.2.2.2.2.2.2.2.2.2.1) 191 o.2.2.2.2.2.2.2.2.2.2.2.2.2.2.2.2.2.1) 190 o.2.2.2.2.2.2.2.2.2.2.2.2.2.2.2.2.1) 189 o.2.2.2.2.2.2.2.2.2.2.2.2.2.2.2.1) 12032 o.2.2.2.2.2.2.2.2.2.2.2.2.2.2.1) 187 o.2.2.2.2.2.2.2.2.2.2.2.2.2.1) 186 o.2.2.2.2.2.2.2.2.2.2.2.2.1) 185 o.2.2.2.2.2.2.2.2.2.2.2.1) 184 o.2.2.2.2.2.2.2.2.2.2.1) 183 o.2.2.2.2.2.2.2.2.2.1) 11648 o.2.2.2.2.2.2.2.2.1) 181 o.2.2.2.2.2.2.2.1) 180 o.2.2.2.2.2.2.1) 179 o.2.2.2.2.2.1) 178 o.2.2.2.2.1) 177 o.2.2.2.1) 11264 o.2.2.1) 175 o.2.1) 11136 o.1) := by
  refine ns_start (Wr := wrX6_copyFrom_173_28) (by decide) rfl (Nat.le_of_ble_eq_true rfl) ?_
  intro p e s m below meth c A ls C hr hlk w hl
  have hl : lv_has ls 2 [(0, .ref (b 173)), (1, .ref (b 28))] := hl
  unfold fX6_copyFrom at hf
  refine lv_aload_n C.1.1 C.1.2.1 dX6_copyFrom_0 rfl (lv_at hl 0 rfl) ?_
  refine ns_getr C w 173 (hJ 173 (by decide) (by decide)) sh_173 (rfl : vwCl[6]? = some (RX6, TX6, 6)) inX6_copyFrom_6 0 (by decide) rfl lX6_copyFrom_12 dX6_copyFrom_1 ?_
  refine lv_aload_n C.1.1 C.1.2.1 dX6_copyFrom_4 rfl (lv_at hl 1 rfl) ?_
  refine ns_getr C w 28 (hI 28 (by decide)) sh_28 (rfl : vwCl[6]? = some (RX6, TX6, 6)) inX6_copyFrom_6 0 (by decide) rfl lX6_copyFrom_12 dX6_copyFrom_5 ?_
  refine ns_callV C w 174 (hJ 174 (by decide) (by decide)) sh_174 (rfl : vwCl[5]? = some (RX5, TX5, 2)) [.ref (b 29)] hf (fun u hu => mX5_copyFrom_174_29 l D b ids hI hJ N _ hu) gX6_copyFrom_X5_copyFrom rfl rfl rfl hdX5_copyFrom ⟨Nat.le_of_ble_eq_true rfl, Nat.le_of_ble_eq_true rfl⟩ (fun u h => ((h.A (List.mem_of_getElem? (i := 1) rfl) _).I (List.mem_of_getElem? (i := 0) rfl) _)) rfl hl.1 rfl (Nat.le_of_ble_eq_true rfl) ⟨Nat.le_refl _, Nat.le_refl _⟩ dX6_copyFrom_8 (fun o1 H locs hf w => ?_)
  refine lv_aload_n C.1.1 C.1.2.1 dX6_copyFrom_11 rfl (lv_at hl 0 rfl) ?_
  refine ns_getr C w 173 (hJ 173 (by decide) (by decide)) sh_173 (rfl : vwCl[6]? = some (RX6, TX6, 6)) inX6_copyFrom_6 1 (by decide) rfl lX6_copyFrom_21 dX6_copyFrom_12 ?_
  refine lv_aload_n C.1.1 C.1.2.1 dX6_copyFrom_15 rfl (lv_at hl 1 rfl) ?_
  refine ns_getr C w 28 (hI 28 (by decide)) sh_28 (rfl : vwCl[6]? = some (RX6, TX6, 6)) inX6_copyFrom_6 1 (by decide) rfl lX6_copyFrom_21 dX6_copyFrom_16 ?_
  refine ns_callV C w 176 (hJ 176 (by decide) (by decide)) sh_176 (rfl : vwCl[0]? = some (RX0, TX0, 6)) [.ref (b 31)] hf (fun u hu => mX0_copyFrom_176_31 l D b ids hI hJ N _ hu) gX6_copyFrom_X0_copyFrom rfl rfl rfl hdX0_copyFrom ⟨Nat.le_of_ble_eq_true rfl, Nat.le_of_ble_eq_true rfl⟩ (fun u h => ((((((h.A (List.mem_of_getElem? (i := 7) rfl) _).A (List.mem_of_getElem? (i := 6) rfl) _).A (List.mem_of_getElem? (i := 5) rfl) _).A (List.mem_of_getElem? (i := 4) rfl) _).A (List.mem_of_getElem? (i := 3) rfl) _).I (List.mem_of_getElem? (i := 2) rfl) _)) rfl hl.1 rfl (Nat.le_of_ble_eq_true rfl) ⟨Nat.le_refl _, Nat.le_refl _⟩ dX6_copyFrom_19 (fun o2 H locs hf w => ?_)
  refine lv_aload_n C.1.1 C.1.2.1 dX6_copyFrom_22 rfl (lv_at hl 0 rfl) ?_
  refine ns_getr C w 173 (hJ 173 (by decide) (by decide)) sh_173 (rfl : vwCl[6]? = some (RX6, TX6, 6)) inX6_copyFrom_6 2 (by decide) rfl lX6_copyFrom_28 dX6_copyFrom_23 ?_
  refine lv_aload_n C.1.1 C.1.2.1 dX6_copyFrom_26 rfl (lv_at hl 1 rfl) ?_
  refine ns_getr C w 28 (hI 28 (by decide)) sh_28 (rfl : vwCl[6]? = some (RX6, TX6, 6)) inX6_copyFrom_6 2 (by decide) rfl lX6_copyFrom_28 dX6_copyFrom_27 ?_
  refine ns_callV C w 182 (hJ 182 (by decide) (by decide)) sh_182 (rfl : vwCl[4]? = some (RX4, TX4, 6)) [.ref (b 37)] hf (fun u hu => mX4_copyFrom_182_37 l D b ids hI hJ N _ hu) gX6_copyFrom_X4_copyFrom rfl rfl rfl hdX4_copyFrom ⟨Nat.le_of_ble_eq_true rfl, Nat.le_of_ble_eq_true rfl⟩ (fun u h => ((((((h.A (List.mem_of_getElem? (i := 13) rfl) _).A (List.mem_of_getElem? (i := 12) rfl) _).A (List.mem_of_getElem? (i := 11) rfl) _).A (List.mem_of_getElem? (i := 10) rfl) _).A (List.mem_of_getElem? (i := 9) rfl) _).I (List.mem_of_getElem? (i := 8) rfl) _)) rfl hl.1 rfl (Nat.le_of_ble_eq_true rfl) ⟨Nat.le_refl _, Nat.le_refl _⟩ dX6_copyFrom_30 (fun o3 H locs hf w => ?_)
  refine lv_aload_n C.1.1 C.1.2.1 dX6_copyFrom_33 rfl (lv_at hl 0 rfl) ?_
  refine ns_getr C w 173 (hJ 173 (by decide) (by decide)) sh_173 (rfl : vwCl[6]? = some (RX6, TX6, 6)) inX6_copyFrom_6 3 (by decide) rfl lX6_copyFrom_35 dX6_copyFrom_34 ?_
  refine lv_aload_n C.1.1 C.1.2.1 dX6_copyFrom_37 rfl (lv_at hl 1 rfl) ?_
  refine ns_getr C w 28 (hI 28 (by decide)) sh_28 (rfl : vwCl[6]? = some (RX6, TX6, 6)) inX6_copyFrom_6 3 (by decide) rfl lX6_copyFrom_35 dX6_copyFrom_38 ?_
  refine ns_callV C w 188 (hJ 188 (by decide) (by decide)) sh_188 (rfl : vwCl[7]? = some (RX7, TX7, 5)) [.ref (b 43)] hf (fun u hu => mX7_copyFrom_188_43 l D b ids hI hJ N _ hu) gX6_copyFrom_X7_copyFrom rfl rfl rfl hdX7_copyFrom ⟨Nat.le_of_ble_eq_true rfl, Nat.le_of_ble_eq_true rfl⟩ (fun u h => (((((h.A (List.mem_of_getElem? (i := 18) rfl) _).A (List.mem_of_getElem? (i := 17) rfl) _).A (List.mem_of_getElem? (i := 16) rfl) _).A (List.mem_of_getElem? (i := 15) rfl) _).I (List.mem_of_getElem? (i := 14) rfl) _)) rfl hl.1 rfl (Nat.le_of_ble_eq_true rfl) ⟨Nat.le_refl _, Nat.le_refl _⟩ dX6_copyFrom_41 (fun o4 H locs hf w => ?_)
  refine lv_aload_n C.1.1 C.1.2.1 dX6_copyFrom_44 rfl (lv_at hl 0 rfl) ?_
  refine ns_getr C w 173 (hJ 173 (by decide) (by decide)) sh_173 (rfl : vwCl[6]? = some (RX6, TX6, 6)) inX6_copyFrom_6 4 (by decide) rfl lX6_copyFrom_42 dX6_copyFrom_45 ?_
  refine lv_aload_n C.1.1 C.1.2.1 dX6_copyFrom_48 rfl (lv_at hl 1 rfl) ?_
  refine ns_getr C w 28 (hI 28 (by decide)) sh_28 (rfl : vwCl[6]? = some (RX6, TX6, 6)) inX6_copyFrom_6 4 (by decide) rfl lX6_copyFrom_42 dX6_copyFrom_49 ?_
  refine ns_callV C w 193 (hJ 193 (by decide) (by decide)) sh_193 (rfl : vwCl[8]? = some (RX8, TX8, 6)) [.ref (b 48)] hf (fun u hu => mX8_copyFrom_193_48 l D b ids hI hJ N _ hu) gX6_copyFrom_X8_copyFrom rfl rfl rfl hdX8_copyFrom ⟨Nat.le_of_ble_eq_true rfl, Nat.le_of_ble_eq_true rfl⟩ (fun u h => ((((((h.A (List.mem_of_getElem? (i := 24) rfl) _).A (List.mem_of_getElem? (i := 23) rfl) _).A (List.mem_of_getElem? (i := 22) rfl) _).A (List.mem_of_getElem? (i := 21) rfl) _).I (List.mem_of_getElem? (i := 20) rfl) _).I (List.mem_of_getElem? (i := 19) rfl) _)) rfl hl.1 rfl (Nat.le_of_ble_eq_true rfl) ⟨Nat.le_refl _, Nat.le_refl _⟩ dX6_copyFrom_52 (fun o5 H locs hf w => ?_)
  refine lv_aload_n C.1.1 C.1.2.1 dX6_copyFrom_55 rfl (lv_at hl 0 rfl) ?_
  refine ns_getr C w 173 (hJ 173 (by decide) (by decide)) sh_173 (rfl : vwCl[6]? = some (RX6, TX6, 6)) inX6_copyFrom_6 5 (by decide) rfl lX6_copyFrom_49 dX6_copyFrom_56 ?_
  refine lv_aload_n C.1.1 C.1.2.1 dX6_copyFrom_59 rfl (lv_at hl 1 rfl) ?_
  refine ns_getr C w 28 (hI 28 (by decide)) sh_28 (rfl : vwCl[6]? = some (RX6, TX6, 6)) inX6_copyFrom_6 5 (by decide) rfl lX6_copyFrom_49 dX6_copyFrom_60 ?_
  refine ns_callV C w 198 (hJ 198 (by decide) (by decide)) sh_198 (rfl : vwCl[2]? = some (RX2, TX2, 8)) [.ref (b 53)] hf (fun u hu => mX2_copyFrom_198_53 l D b ids hI hJ N _ hu) gX6_copyFrom_X2_copyFrom rfl rfl rfl hdX2_copyFrom ⟨Nat.le_of_ble_eq_true rfl, Nat.le_of_ble_eq_true rfl⟩ (fun u h => ((((((((h.A (List.mem_of_getElem? (i := 32) rfl) _).A (List.mem_of_getElem? (i := 31) rfl) _).A (List.mem_of_getElem? (i := 30) rfl) _).A (List.mem_of_getElem? (i := 29) rfl) _).A (List.mem_of_getElem? (i := 28) rfl) _).A (List.mem_of_getElem? (i := 27) rfl) _).A (List.mem_of_getElem? (i := 26) rfl) _).I (List.mem_of_getElem? (i := 25) rfl) _)) rfl hl.1 rfl (Nat.le_of_ble_eq_true rfl) ⟨Nat.le_refl _, Nat.le_refl _⟩ dX6_copyFrom_63 (fun o6 H locs hf w => ?_)
  have he := Option.some.inj hf
  subst he
  exact ns_vret C w hr hlk rfl rfl dX6_copyFrom_66
abbrev wrX5_copyFrom_29_174 : List (Nat × Nat) := [(0, 1856), (1, 30)]
abbrev rmX5_copyFrom_29_174 : Room := { frames := 1, cells := 0, slots := 0, locals := 40 }
set_option maxHeartbeats 4000000 in
set_option maxRecDepth 100000 in
theorem mX5_copyFrom_29_174 (l : Launch) (D : va_G) (b : Nat → Nat) (ids : List Nat) (hI : ∀ i, i < 107 → i ∈ ids) (hJ : ∀ i, 173 ≤ i → i < 206 → i ∈ ids) (N : Nat) (S : ns_S) {o : Int32 × (Nat → Int32)} (hf : fX5_copyFrom N (S.1 11136) (S.1 1856) (S.2.1 175) (S.2.1 30) = some o) : ns_M l yX5_copyFrom wsX5_copyFrom rmX5_copyFrom_29_174 D b ids S [.ref (b 29), .ref (b 174)] none (ns_I (ns_A S 30 o.2) 1856 o.1) := by
  refine ns_start (Wr := wrX5_copyFrom_29_174) (by decide) rfl (Nat.le_of_ble_eq_true rfl) ?_
  intro p e s m below meth c A ls C hr hlk w hl
  have hl : lv_has ls 2 [(0, .ref (b 29)), (1, .ref (b 174))] := hl
  unfold fX5_copyFrom at hf
  refine lv_aload_n C.1.1 C.1.2.1 dX5_copyFrom_0 rfl (lv_at hl 0 rfl) ?_
  refine lv_aload_n C.1.1 C.1.2.1 dX5_copyFrom_1 rfl (lv_at hl 1 rfl) ?_
  refine ns_geti C w 174 (hJ 174 (by decide) (by decide)) sh_174 (rfl : vwCl[5]? = some (RX5, TX5, 2)) inX5_copyFrom_5 0 (by decide) rfl lX5_copyFrom_15 (S.1 11136) rfl dX5_copyFrom_2 ?_
  refine ns_puti C w 29 (hI 29 (by decide)) sh_29 (rfl : vwCl[5]? = some (RX5, TX5, 2)) inX5_copyFrom_5 tyX5_ok nmX5 0 (by decide) rfl lX5_copyFrom_15 rfl rfl rfl (List.mem_of_getElem? (i := 0) rfl) dX5_copyFrom_5 (fun H locs w => ?_)
  refine lv_aload_n C.1.1 C.1.2.1 dX5_copyFrom_8 rfl (lv_at hl 1 rfl) ?_
  refine ns_getr C w 174 (hJ 174 (by decide) (by decide)) sh_174 (rfl : vwCl[5]? = some (RX5, TX5, 2)) inX5_copyFrom_5 1 (by decide) rfl lX5_copyFrom_9 dX5_copyFrom_9 ?_
  refine lv_iconst (v := 0) C.1.1 C.1.2.1 dX5_copyFrom_12 (by decide) ?_
  refine lv_aload_n C.1.1 C.1.2.1 dX5_copyFrom_13 rfl (lv_at hl 0 rfl) ?_
  refine ns_getr C w 29 (hI 29 (by decide)) sh_29 (rfl : vwCl[5]? = some (RX5, TX5, 2)) inX5_copyFrom_5 1 (by decide) rfl lX5_copyFrom_9 dX5_copyFrom_14 ?_
  refine lv_iconst (v := 0) C.1.1 C.1.2.1 dX5_copyFrom_17 (by decide) ?_
  refine lv_iconst (v := 5) C.1.1 C.1.2.1 dX5_copyFrom_18 (by decide) ?_
  refine ns_copy C w 175 30 (hJ 175 (by decide) (by decide)) (hI 30 (by decide)) sh_175 sh_30 hf rfl rfl (List.mem_of_getElem? (i := 1) rfl) (List.mem_of_getElem? (i := 3) rfl) (List.mem_of_getElem? (i := 4) rfl) (List.mem_of_getElem? (i := 5) rfl) (List.mem_of_getElem? (i := 6) rfl) hl.1 (Nat.le_of_ble_eq_true rfl) (Nat.le_of_ble_eq_true rfl) dX5_copyFrom_19 (fun y1 H locs hf w => ?_)
  have he := Option.some.inj hf
  subst he
  exact ns_vret C w hr hlk rfl rfl dX5_copyFrom_22
abbrev wrX0_copyFrom_31_176 : List (Nat × Nat) := [(0, 1984), (1, 32), (1, 33), (1, 34), (1, 35), (1, 36)]
abbrev rmX0_copyFrom_31_176 : Room := { frames := 1, cells := 0, slots := 0, locals := 40 }
set_option maxHeartbeats 4000000 in
set_option maxRecDepth 100000 in
theorem mX0_copyFrom_31_176 (l : Launch) (D : va_G) (b : Nat → Nat) (ids : List Nat) (hI : ∀ i, i < 107 → i ∈ ids) (hJ : ∀ i, 173 ≤ i → i < 206 → i ∈ ids) (N : Nat) (S : ns_S) {o : Int32 × (Nat → Int32) × (Nat → Int32) × (Nat → Int32) × (Nat → Int32) × (Nat → Int32)} (hf : fX0_copyFrom N (S.1 11264) (S.1 1984) (S.2.1 177) (S.2.1 32) (S.2.1 178) (S.2.1 33) (S.2.1 179) (S.2.1 34) (S.2.1 180) (S.2.1 35) (S.2.1 181) (S.2.1 36) = some o) : ns_M l yX0_copyFrom wsX0_copyFrom rmX0_copyFrom_31_176 D b ids S [.ref (b 31), .ref (b 176)] none (ns_I (ns_A (ns_A (ns_A (ns_A (ns_A S 36 o.2.2.2.2.2) 35 o.2.2.2.2.1) 34 o.2.2.2.1) 33 o.2.2.1) 32 o.2.1) 1984 o.1) := by
  refine ns_start (Wr := wrX0_copyFrom_31_176) (by decide) rfl (Nat.le_of_ble_eq_true rfl) ?_
  intro p e s m below meth c A ls C hr hlk w hl
  have hl : lv_has ls 2 [(0, .ref (b 31)), (1, .ref (b 176))] := hl
  unfold fX0_copyFrom at hf
  refine lv_aload_n C.1.1 C.1.2.1 dX0_copyFrom_0 rfl (lv_at hl 0 rfl) ?_
  refine lv_aload_n C.1.1 C.1.2.1 dX0_copyFrom_1 rfl (lv_at hl 1 rfl) ?_
  refine ns_geti C w 176 (hJ 176 (by decide) (by decide)) sh_176 (rfl : vwCl[0]? = some (RX0, TX0, 6)) inX0_copyFrom_0 0 (by decide) rfl lX0_copyFrom_27 (S.1 11264) rfl dX0_copyFrom_2 ?_
  refine ns_puti C w 31 (hI 31 (by decide)) sh_31 (rfl : vwCl[0]? = some (RX0, TX0, 6)) inX0_copyFrom_0 tyX0_ok nmX0 0 (by decide) rfl lX0_copyFrom_27 rfl rfl rfl (List.mem_of_getElem? (i := 0) rfl) dX0_copyFrom_5 (fun H locs w => ?_)
  refine lv_aload_n C.1.1 C.1.2.1 dX0_copyFrom_8 rfl (lv_at hl 1 rfl) ?_
  refine ns_getr C w 176 (hJ 176 (by decide) (by decide)) sh_176 (rfl : vwCl[0]? = some (RX0, TX0, 6)) inX0_copyFrom_0 1 (by decide) rfl lX0_copyFrom_9 dX0_copyFrom_9 ?_
  refine lv_iconst (v := 0) C.1.1 C.1.2.1 dX0_copyFrom_12 (by decide) ?_
  refine lv_aload_n C.1.1 C.1.2.1 dX0_copyFrom_13 rfl (lv_at hl 0 rfl) ?_
  refine ns_getr C w 31 (hI 31 (by decide)) sh_31 (rfl : vwCl[0]? = some (RX0, TX0, 6)) inX0_copyFrom_0 1 (by decide) rfl lX0_copyFrom_9 dX0_copyFrom_14 ?_
  refine lv_iconst (v := 0) C.1.1 C.1.2.1 dX0_copyFrom_17 (by decide) ?_
  refine lv_bipush (v := 10) C.1.1 C.1.2.1 dX0_copyFrom_18 (by decide) ?_
  refine ns_copy C w 177 32 (hJ 177 (by decide) (by decide)) (hI 32 (by decide)) sh_177 sh_32 hf rfl rfl (List.mem_of_getElem? (i := 1) rfl) (List.mem_of_getElem? (i := 3) rfl) (List.mem_of_getElem? (i := 4) rfl) (List.mem_of_getElem? (i := 5) rfl) (List.mem_of_getElem? (i := 6) rfl) hl.1 (Nat.le_of_ble_eq_true rfl) (Nat.le_of_ble_eq_true rfl) dX0_copyFrom_20 (fun y1 H locs hf w => ?_)
  refine lv_aload_n C.1.1 C.1.2.1 dX0_copyFrom_23 rfl (lv_at hl 1 rfl) ?_
  refine ns_getr C w 176 (hJ 176 (by decide) (by decide)) sh_176 (rfl : vwCl[0]? = some (RX0, TX0, 6)) inX0_copyFrom_0 2 (by decide) rfl lX0_copyFrom_15 dX0_copyFrom_24 ?_
  refine lv_iconst (v := 0) C.1.1 C.1.2.1 dX0_copyFrom_27 (by decide) ?_
  refine lv_aload_n C.1.1 C.1.2.1 dX0_copyFrom_28 rfl (lv_at hl 0 rfl) ?_
  refine ns_getr C w 31 (hI 31 (by decide)) sh_31 (rfl : vwCl[0]? = some (RX0, TX0, 6)) inX0_copyFrom_0 2 (by decide) rfl lX0_copyFrom_15 dX0_copyFrom_29 ?_
  refine lv_iconst (v := 0) C.1.1 C.1.2.1 dX0_copyFrom_32 (by decide) ?_
  refine lv_bipush (v := 10) C.1.1 C.1.2.1 dX0_copyFrom_33 (by decide) ?_
  refine ns_copy C w 178 33 (hJ 178 (by decide) (by decide)) (hI 33 (by decide)) sh_178 sh_33 hf rfl rfl (List.mem_of_getElem? (i := 2) rfl) (List.mem_of_getElem? (i := 3) rfl) (List.mem_of_getElem? (i := 4) rfl) (List.mem_of_getElem? (i := 5) rfl) (List.mem_of_getElem? (i := 6) rfl) hl.1 (Nat.le_of_ble_eq_true rfl) (Nat.le_of_ble_eq_true rfl) dX0_copyFrom_35 (fun y2 H locs hf w => ?_)
  refine lv_aload_n C.1.1 C.1.2.1 dX0_copyFrom_38 rfl (lv_at hl 1 rfl) ?_
  refine ns_getr C w 176 (hJ 176 (by decide) (by decide)) sh_176 (rfl : vwCl[0]? = some (RX0, TX0, 6)) inX0_copyFrom_0 3 (by decide) rfl lX0_copyFrom_18 dX0_copyFrom_39 ?_
  refine lv_iconst (v := 0) C.1.1 C.1.2.1 dX0_copyFrom_42 (by decide) ?_
  refine lv_aload_n C.1.1 C.1.2.1 dX0_copyFrom_43 rfl (lv_at hl 0 rfl) ?_
  refine ns_getr C w 31 (hI 31 (by decide)) sh_31 (rfl : vwCl[0]? = some (RX0, TX0, 6)) inX0_copyFrom_0 3 (by decide) rfl lX0_copyFrom_18 dX0_copyFrom_44 ?_
  refine lv_iconst (v := 0) C.1.1 C.1.2.1 dX0_copyFrom_47 (by decide) ?_
  refine lv_bipush (v := 10) C.1.1 C.1.2.1 dX0_copyFrom_48 (by decide) ?_
  refine ns_copy C w 179 34 (hJ 179 (by decide) (by decide)) (hI 34 (by decide)) sh_179 sh_34 hf rfl rfl (List.mem_of_getElem? (i := 3) rfl) (List.mem_of_getElem? (i := 3) rfl) (List.mem_of_getElem? (i := 4) rfl) (List.mem_of_getElem? (i := 5) rfl) (List.mem_of_getElem? (i := 6) rfl) hl.1 (Nat.le_of_ble_eq_true rfl) (Nat.le_of_ble_eq_true rfl) dX0_copyFrom_50 (fun y3 H locs hf w => ?_)
  refine lv_aload_n C.1.1 C.1.2.1 dX0_copyFrom_53 rfl (lv_at hl 1 rfl) ?_
  refine ns_getr C w 176 (hJ 176 (by decide) (by decide)) sh_176 (rfl : vwCl[0]? = some (RX0, TX0, 6)) inX0_copyFrom_0 4 (by decide) rfl lX0_copyFrom_21 dX0_copyFrom_54 ?_
  refine lv_iconst (v := 0) C.1.1 C.1.2.1 dX0_copyFrom_57 (by decide) ?_
  refine lv_aload_n C.1.1 C.1.2.1 dX0_copyFrom_58 rfl (lv_at hl 0 rfl) ?_
  refine ns_getr C w 31 (hI 31 (by decide)) sh_31 (rfl : vwCl[0]? = some (RX0, TX0, 6)) inX0_copyFrom_0 4 (by decide) rfl lX0_copyFrom_21 dX0_copyFrom_59 ?_
  refine lv_iconst (v := 0) C.1.1 C.1.2.1 dX0_copyFrom_62 (by decide) ?_
  refine lv_bipush (v := 10) C.1.1 C.1.2.1 dX0_copyFrom_63 (by decide) ?_
  refine ns_copy C w 180 35 (hJ 180 (by decide) (by decide)) (hI 35 (by decide)) sh_180 sh_35 hf rfl rfl (List.mem_of_getElem? (i := 4) rfl) (List.mem_of_getElem? (i := 3) rfl) (List.mem_of_getElem? (i := 4) rfl) (List.mem_of_getElem? (i := 5) rfl) (List.mem_of_getElem? (i := 6) rfl) hl.1 (Nat.le_of_ble_eq_true rfl) (Nat.le_of_ble_eq_true rfl) dX0_copyFrom_65 (fun y4 H locs hf w => ?_)
  refine lv_aload_n C.1.1 C.1.2.1 dX0_copyFrom_68 rfl (lv_at hl 1 rfl) ?_
  refine ns_getr C w 176 (hJ 176 (by decide) (by decide)) sh_176 (rfl : vwCl[0]? = some (RX0, TX0, 6)) inX0_copyFrom_0 5 (by decide) rfl lX0_copyFrom_24 dX0_copyFrom_69 ?_
  refine lv_iconst (v := 0) C.1.1 C.1.2.1 dX0_copyFrom_72 (by decide) ?_
  refine lv_aload_n C.1.1 C.1.2.1 dX0_copyFrom_73 rfl (lv_at hl 0 rfl) ?_
  refine ns_getr C w 31 (hI 31 (by decide)) sh_31 (rfl : vwCl[0]? = some (RX0, TX0, 6)) inX0_copyFrom_0 5 (by decide) rfl lX0_copyFrom_24 dX0_copyFrom_74 ?_
  refine lv_iconst (v := 0) C.1.1 C.1.2.1 dX0_copyFrom_77 (by decide) ?_
  refine lv_bipush (v := 10) C.1.1 C.1.2.1 dX0_copyFrom_78 (by decide) ?_
  refine ns_copy C w 181 36 (hJ 181 (by decide) (by decide)) (hI 36 (by decide)) sh_181 sh_36 hf rfl rfl (List.mem_of_getElem? (i := 5) rfl) (List.mem_of_getElem? (i := 3) rfl) (List.mem_of_getElem? (i := 4) rfl) (List.mem_of_getElem? (i := 5) rfl) (List.mem_of_getElem? (i := 6) rfl) hl.1 (Nat.le_of_ble_eq_true rfl) (Nat.le_of_ble_eq_true rfl) dX0_copyFrom_80 (fun y5 H locs hf w => ?_)
  have he := Option.some.inj hf
  subst he
  exact ns_vret C w hr hlk rfl rfl dX0_copyFrom_83
abbrev wrX4_copyFrom_37_182 : List (Nat × Nat) := [(0, 2368), (1, 38), (1, 39), (1, 40), (1, 41), (1, 42)]
abbrev rmX4_copyFrom_37_182 : Room := { frames := 1, cells := 0, slots := 0, locals := 40 }
set_option maxHeartbeats 4000000 in
set_option maxRecDepth 100000 in
theorem mX4_copyFrom_37_182 (l : Launch) (D : va_G) (b : Nat → Nat) (ids : List Nat) (hI : ∀ i, i < 107 → i ∈ ids) (hJ : ∀ i, 173 ≤ i → i < 206 → i ∈ ids) (N : Nat) (S : ns_S) {o : Int32 × (Nat → Int32) × (Nat → Int32) × (Nat → Int32) × (Nat → Int32) × (Nat → Int32)} (hf : fX4_copyFrom N (S.1 11648) (S.1 2368) (S.2.1 183) (S.2.1 38) (S.2.1 184) (S.2.1 39) (S.2.1 185) (S.2.1 40) (S.2.1 186) (S.2.1 41) (S.2.1 187) (S.2.1 42) = some o) : ns_M l yX4_copyFrom wsX4_copyFrom rmX4_copyFrom_37_182 D b ids S [.ref (b 37), .ref (b 182)] none (ns_I (ns_A (ns_A (ns_A (ns_A (ns_A S 42 o.2.2.2.2.2) 41 o.2.2.2.2.1) 40 o.2.2.2.1) 39 o.2.2.1) 38 o.2.1) 2368 o.1) := by
  refine ns_start (Wr := wrX4_copyFrom_37_182) (by decide) rfl (Nat.le_of_ble_eq_true rfl) ?_
  intro p e s m below meth c A ls C hr hlk w hl
  have hl : lv_has ls 2 [(0, .ref (b 37)), (1, .ref (b 182))] := hl
  unfold fX4_copyFrom at hf
  refine lv_aload_n C.1.1 C.1.2.1 dX4_copyFrom_0 rfl (lv_at hl 0 rfl) ?_
  refine lv_aload_n C.1.1 C.1.2.1 dX4_copyFrom_1 rfl (lv_at hl 1 rfl) ?_
  refine ns_geti C w 182 (hJ 182 (by decide) (by decide)) sh_182 (rfl : vwCl[4]? = some (RX4, TX4, 6)) inX4_copyFrom_4 0 (by decide) rfl lX4_copyFrom_27 (S.1 11648) rfl dX4_copyFrom_2 ?_
  refine ns_puti C w 37 (hI 37 (by decide)) sh_37 (rfl : vwCl[4]? = some (RX4, TX4, 6)) inX4_copyFrom_4 tyX4_ok nmX4 0 (by decide) rfl lX4_copyFrom_27 rfl rfl rfl (List.mem_of_getElem? (i := 0) rfl) dX4_copyFrom_5 (fun H locs w => ?_)
  refine lv_aload_n C.1.1 C.1.2.1 dX4_copyFrom_8 rfl (lv_at hl 1 rfl) ?_
  refine ns_getr C w 182 (hJ 182 (by decide) (by decide)) sh_182 (rfl : vwCl[4]? = some (RX4, TX4, 6)) inX4_copyFrom_4 1 (by decide) rfl lX4_copyFrom_9 dX4_copyFrom_9 ?_
  refine lv_iconst (v := 0) C.1.1 C.1.2.1 dX4_copyFrom_12 (by decide) ?_
  refine lv_aload_n C.1.1 C.1.2.1 dX4_copyFrom_13 rfl (lv_at hl 0 rfl) ?_
  refine ns_getr C w 37 (hI 37 (by decide)) sh_37 (rfl : vwCl[4]? = some (RX4, TX4, 6)) inX4_copyFrom_4 1 (by decide) rfl lX4_copyFrom_9 dX4_copyFrom_14 ?_
  refine lv_iconst (v := 0) C.1.1 C.1.2.1 dX4_copyFrom_17 (by decide) ?_
  refine lv_bipush (v := 30) C.1.1 C.1.2.1 dX4_copyFrom_18 (by decide) ?_
  refine ns_copy C w 183 38 (hJ 183 (by decide) (by decide)) (hI 38 (by decide)) sh_183 sh_38 hf rfl rfl (List.mem_of_getElem? (i := 1) rfl) (List.mem_of_getElem? (i := 3) rfl) (List.mem_of_getElem? (i := 4) rfl) (List.mem_of_getElem? (i := 5) rfl) (List.mem_of_getElem? (i := 6) rfl) hl.1 (Nat.le_of_ble_eq_true rfl) (Nat.le_of_ble_eq_true rfl) dX4_copyFrom_20 (fun y1 H locs hf w => ?_)
  refine lv_aload_n C.1.1 C.1.2.1 dX4_copyFrom_23 rfl (lv_at hl 1 rfl) ?_
  refine ns_getr C w 182 (hJ 182 (by decide) (by decide)) sh_182 (rfl : vwCl[4]? = some (RX4, TX4, 6)) inX4_copyFrom_4 2 (by decide) rfl lX4_copyFrom_15 dX4_copyFrom_24 ?_
  refine lv_iconst (v := 0) C.1.1 C.1.2.1 dX4_copyFrom_27 (by decide) ?_
  refine lv_aload_n C.1.1 C.1.2.1 dX4_copyFrom_28 rfl (lv_at hl 0 rfl) ?_
  refine ns_getr C w 37 (hI 37 (by decide)) sh_37 (rfl : vwCl[4]? = some (RX4, TX4, 6)) inX4_copyFrom_4 2 (by decide) rfl lX4_copyFrom_15 dX4_copyFrom_29 ?_
  refine lv_iconst (v := 0) C.1.1 C.1.2.1 dX4_copyFrom_32 (by decide) ?_
  refine lv_bipush (v := 30) C.1.1 C.1.2.1 dX4_copyFrom_33 (by decide) ?_
  refine ns_copy C w 184 39 (hJ 184 (by decide) (by decide)) (hI 39 (by decide)) sh_184 sh_39 hf rfl rfl (List.mem_of_getElem? (i := 2) rfl) (List.mem_of_getElem? (i := 3) rfl) (List.mem_of_getElem? (i := 4) rfl) (List.mem_of_getElem? (i := 5) rfl) (List.mem_of_getElem? (i := 6) rfl) hl.1 (Nat.le_of_ble_eq_true rfl) (Nat.le_of_ble_eq_true rfl) dX4_copyFrom_35 (fun y2 H locs hf w => ?_)
  refine lv_aload_n C.1.1 C.1.2.1 dX4_copyFrom_38 rfl (lv_at hl 1 rfl) ?_
  refine ns_getr C w 182 (hJ 182 (by decide) (by decide)) sh_182 (rfl : vwCl[4]? = some (RX4, TX4, 6)) inX4_copyFrom_4 3 (by decide) rfl lX4_copyFrom_18 dX4_copyFrom_39 ?_
  refine lv_iconst (v := 0) C.1.1 C.1.2.1 dX4_copyFrom_42 (by decide) ?_
  refine lv_aload_n C.1.1 C.1.2.1 dX4_copyFrom_43 rfl (lv_at hl 0 rfl) ?_
  refine ns_getr C w 37 (hI 37 (by decide)) sh_37 (rfl : vwCl[4]? = some (RX4, TX4, 6)) inX4_copyFrom_4 3 (by decide) rfl lX4_copyFrom_18 dX4_copyFrom_44 ?_
  refine lv_iconst (v := 0) C.1.1 C.1.2.1 dX4_copyFrom_47 (by decide) ?_
  refine lv_bipush (v := 30) C.1.1 C.1.2.1 dX4_copyFrom_48 (by decide) ?_
  refine ns_copy C w 185 40 (hJ 185 (by decide) (by decide)) (hI 40 (by decide)) sh_185 sh_40 hf rfl rfl (List.mem_of_getElem? (i := 3) rfl) (List.mem_of_getElem? (i := 3) rfl) (List.mem_of_getElem? (i := 4) rfl) (List.mem_of_getElem? (i := 5) rfl) (List.mem_of_getElem? (i := 6) rfl) hl.1 (Nat.le_of_ble_eq_true rfl) (Nat.le_of_ble_eq_true rfl) dX4_copyFrom_50 (fun y3 H locs hf w => ?_)
  refine lv_aload_n C.1.1 C.1.2.1 dX4_copyFrom_53 rfl (lv_at hl 1 rfl) ?_
  refine ns_getr C w 182 (hJ 182 (by decide) (by decide)) sh_182 (rfl : vwCl[4]? = some (RX4, TX4, 6)) inX4_copyFrom_4 4 (by decide) rfl lX4_copyFrom_21 dX4_copyFrom_54 ?_
  refine lv_iconst (v := 0) C.1.1 C.1.2.1 dX4_copyFrom_57 (by decide) ?_
  refine lv_aload_n C.1.1 C.1.2.1 dX4_copyFrom_58 rfl (lv_at hl 0 rfl) ?_
  refine ns_getr C w 37 (hI 37 (by decide)) sh_37 (rfl : vwCl[4]? = some (RX4, TX4, 6)) inX4_copyFrom_4 4 (by decide) rfl lX4_copyFrom_21 dX4_copyFrom_59 ?_
  refine lv_iconst (v := 0) C.1.1 C.1.2.1 dX4_copyFrom_62 (by decide) ?_
  refine lv_bipush (v := 30) C.1.1 C.1.2.1 dX4_copyFrom_63 (by decide) ?_
  refine ns_copy C w 186 41 (hJ 186 (by decide) (by decide)) (hI 41 (by decide)) sh_186 sh_41 hf rfl rfl (List.mem_of_getElem? (i := 4) rfl) (List.mem_of_getElem? (i := 3) rfl) (List.mem_of_getElem? (i := 4) rfl) (List.mem_of_getElem? (i := 5) rfl) (List.mem_of_getElem? (i := 6) rfl) hl.1 (Nat.le_of_ble_eq_true rfl) (Nat.le_of_ble_eq_true rfl) dX4_copyFrom_65 (fun y4 H locs hf w => ?_)
  refine lv_aload_n C.1.1 C.1.2.1 dX4_copyFrom_68 rfl (lv_at hl 1 rfl) ?_
  refine ns_getr C w 182 (hJ 182 (by decide) (by decide)) sh_182 (rfl : vwCl[4]? = some (RX4, TX4, 6)) inX4_copyFrom_4 5 (by decide) rfl lX4_copyFrom_24 dX4_copyFrom_69 ?_
  refine lv_iconst (v := 0) C.1.1 C.1.2.1 dX4_copyFrom_72 (by decide) ?_
  refine lv_aload_n C.1.1 C.1.2.1 dX4_copyFrom_73 rfl (lv_at hl 0 rfl) ?_
  refine ns_getr C w 37 (hI 37 (by decide)) sh_37 (rfl : vwCl[4]? = some (RX4, TX4, 6)) inX4_copyFrom_4 5 (by decide) rfl lX4_copyFrom_24 dX4_copyFrom_74 ?_
  refine lv_iconst (v := 0) C.1.1 C.1.2.1 dX4_copyFrom_77 (by decide) ?_
  refine lv_sipush (v := 180) C.1.1 C.1.2.1 dX4_copyFrom_78 (by decide) ?_
  refine ns_copy C w 187 42 (hJ 187 (by decide) (by decide)) (hI 42 (by decide)) sh_187 sh_42 hf rfl rfl (List.mem_of_getElem? (i := 5) rfl) (List.mem_of_getElem? (i := 3) rfl) (List.mem_of_getElem? (i := 4) rfl) (List.mem_of_getElem? (i := 5) rfl) (List.mem_of_getElem? (i := 6) rfl) hl.1 (Nat.le_of_ble_eq_true rfl) (Nat.le_of_ble_eq_true rfl) dX4_copyFrom_81 (fun y5 H locs hf w => ?_)
  have he := Option.some.inj hf
  subst he
  exact ns_vret C w hr hlk rfl rfl dX4_copyFrom_84
abbrev wrX7_copyFrom_43_188 : List (Nat × Nat) := [(0, 2752), (1, 44), (1, 45), (1, 46), (1, 47)]
abbrev rmX7_copyFrom_43_188 : Room := { frames := 1, cells := 0, slots := 0, locals := 40 }
set_option maxHeartbeats 4000000 in
set_option maxRecDepth 100000 in
theorem mX7_copyFrom_43_188 (l : Launch) (D : va_G) (b : Nat → Nat) (ids : List Nat) (hI : ∀ i, i < 107 → i ∈ ids) (hJ : ∀ i, 173 ≤ i → i < 206 → i ∈ ids) (N : Nat) (S : ns_S) {o : Int32 × (Nat → Int32) × (Nat → Int32) × (Nat → Int32) × (Nat → Int32)} (hf : fX7_copyFrom N (S.1 12032) (S.1 2752) (S.2.1 189) (S.2.1 44) (S.2.1 190) (S.2.1 45) (S.2.1 191) (S.2.1 46) (S.2.1 192) (S.2.1 47) = some o) : ns_M l yX7_copyFrom wsX7_copyFrom rmX7_copyFrom_43_188 D b ids S [.ref (b 43), .ref (b 188)] none (ns_I (ns_A (ns_A (ns_A (ns_A S 47 o.2.2.2.2) 46 o.2.2.2.1) 45 o.2.2.1) 44 o.2.1) 2752 o.1) := by
  refine ns_start (Wr := wrX7_copyFrom_43_188) (by decide) rfl (Nat.le_of_ble_eq_true rfl) ?_
  intro p e s m below meth c A ls C hr hlk w hl
  have hl : lv_has ls 2 [(0, .ref (b 43)), (1, .ref (b 188))] := hl
  unfold fX7_copyFrom at hf
  refine lv_aload_n C.1.1 C.1.2.1 dX7_copyFrom_0 rfl (lv_at hl 0 rfl) ?_
  refine lv_aload_n C.1.1 C.1.2.1 dX7_copyFrom_1 rfl (lv_at hl 1 rfl) ?_
  refine ns_geti C w 188 (hJ 188 (by decide) (by decide)) sh_188 (rfl : vwCl[7]? = some (RX7, TX7, 5)) inX7_copyFrom_7 0 (by decide) rfl lX7_copyFrom_30 (S.1 12032) rfl dX7_copyFrom_2 ?_
  refine ns_puti C w 43 (hI 43 (by decide)) sh_43 (rfl : vwCl[7]? = some (RX7, TX7, 5)) inX7_copyFrom_7 tyX7_ok nmX7 0 (by decide) rfl lX7_copyFrom_30 rfl rfl rfl (List.mem_of_getElem? (i := 0) rfl) dX7_copyFrom_5 (fun H locs w => ?_)
  refine lv_aload_n C.1.1 C.1.2.1 dX7_copyFrom_8 rfl (lv_at hl 1 rfl) ?_
  refine ns_getr C w 188 (hJ 188 (by decide) (by decide)) sh_188 (rfl : vwCl[7]? = some (RX7, TX7, 5)) inX7_copyFrom_7 1 (by decide) rfl lX7_copyFrom_9 dX7_copyFrom_9 ?_
  refine lv_iconst (v := 0) C.1.1 C.1.2.1 dX7_copyFrom_12 (by decide) ?_
  refine lv_aload_n C.1.1 C.1.2.1 dX7_copyFrom_13 rfl (lv_at hl 0 rfl) ?_
  refine ns_getr C w 43 (hI 43 (by decide)) sh_43 (rfl : vwCl[7]? = some (RX7, TX7, 5)) inX7_copyFrom_7 1 (by decide) rfl lX7_copyFrom_9 dX7_copyFrom_14 ?_
  refine lv_iconst (v := 0) C.1.1 C.1.2.1 dX7_copyFrom_17 (by decide) ?_
  refine lv_bipush (v := 10) C.1.1 C.1.2.1 dX7_copyFrom_18 (by decide) ?_
  refine ns_copy C w 189 44 (hJ 189 (by decide) (by decide)) (hI 44 (by decide)) sh_189 sh_44 hf rfl rfl (List.mem_of_getElem? (i := 1) rfl) (List.mem_of_getElem? (i := 3) rfl) (List.mem_of_getElem? (i := 4) rfl) (List.mem_of_getElem? (i := 5) rfl) (List.mem_of_getElem? (i := 6) rfl) hl.1 (Nat.le_of_ble_eq_true rfl) (Nat.le_of_ble_eq_true rfl) dX7_copyFrom_20 (fun y1 H locs hf w => ?_)
  refine lv_aload_n C.1.1 C.1.2.1 dX7_copyFrom_23 rfl (lv_at hl 1 rfl) ?_
  refine ns_getr C w 188 (hJ 188 (by decide) (by decide)) sh_188 (rfl : vwCl[7]? = some (RX7, TX7, 5)) inX7_copyFrom_7 2 (by decide) rfl lX7_copyFrom_15 dX7_copyFrom_24 ?_
  refine lv_iconst (v := 0) C.1.1 C.1.2.1 dX7_copyFrom_27 (by decide) ?_
  refine lv_aload_n C.1.1 C.1.2.1 dX7_copyFrom_28 rfl (lv_at hl 0 rfl) ?_
  refine ns_getr C w 43 (hI 43 (by decide)) sh_43 (rfl : vwCl[7]? = some (RX7, TX7, 5)) inX7_copyFrom_7 2 (by decide) rfl lX7_copyFrom_15 dX7_copyFrom_29 ?_
  refine lv_iconst (v := 0) C.1.1 C.1.2.1 dX7_copyFrom_32 (by decide) ?_
  refine lv_bipush (v := 10) C.1.1 C.1.2.1 dX7_copyFrom_33 (by decide) ?_
  refine ns_copy C w 190 45 (hJ 190 (by decide) (by decide)) (hI 45 (by decide)) sh_190 sh_45 hf rfl rfl (List.mem_of_getElem? (i := 2) rfl) (List.mem_of_getElem? (i := 3) rfl) (List.mem_of_getElem? (i := 4) rfl) (List.mem_of_getElem? (i := 5) rfl) (List.mem_of_getElem? (i := 6) rfl) hl.1 (Nat.le_of_ble_eq_true rfl) (Nat.le_of_ble_eq_true rfl) dX7_copyFrom_35 (fun y2 H locs hf w => ?_)
  refine lv_aload_n C.1.1 C.1.2.1 dX7_copyFrom_38 rfl (lv_at hl 1 rfl) ?_
  refine ns_getr C w 188 (hJ 188 (by decide) (by decide)) sh_188 (rfl : vwCl[7]? = some (RX7, TX7, 5)) inX7_copyFrom_7 3 (by decide) rfl lX7_copyFrom_18 dX7_copyFrom_39 ?_
  refine lv_iconst (v := 0) C.1.1 C.1.2.1 dX7_copyFrom_42 (by decide) ?_
  refine lv_aload_n C.1.1 C.1.2.1 dX7_copyFrom_43 rfl (lv_at hl 0 rfl) ?_
  refine ns_getr C w 43 (hI 43 (by decide)) sh_43 (rfl : vwCl[7]? = some (RX7, TX7, 5)) inX7_copyFrom_7 3 (by decide) rfl lX7_copyFrom_18 dX7_copyFrom_44 ?_
  refine lv_iconst (v := 0) C.1.1 C.1.2.1 dX7_copyFrom_47 (by decide) ?_
  refine lv_bipush (v := 10) C.1.1 C.1.2.1 dX7_copyFrom_48 (by decide) ?_
  refine ns_copy C w 191 46 (hJ 191 (by decide) (by decide)) (hI 46 (by decide)) sh_191 sh_46 hf rfl rfl (List.mem_of_getElem? (i := 3) rfl) (List.mem_of_getElem? (i := 3) rfl) (List.mem_of_getElem? (i := 4) rfl) (List.mem_of_getElem? (i := 5) rfl) (List.mem_of_getElem? (i := 6) rfl) hl.1 (Nat.le_of_ble_eq_true rfl) (Nat.le_of_ble_eq_true rfl) dX7_copyFrom_50 (fun y3 H locs hf w => ?_)
  refine lv_aload_n C.1.1 C.1.2.1 dX7_copyFrom_53 rfl (lv_at hl 1 rfl) ?_
  refine ns_getr C w 188 (hJ 188 (by decide) (by decide)) sh_188 (rfl : vwCl[7]? = some (RX7, TX7, 5)) inX7_copyFrom_7 4 (by decide) rfl lX7_copyFrom_21 dX7_copyFrom_54 ?_
  refine lv_iconst (v := 0) C.1.1 C.1.2.1 dX7_copyFrom_57 (by decide) ?_
  refine lv_aload_n C.1.1 C.1.2.1 dX7_copyFrom_58 rfl (lv_at hl 0 rfl) ?_
  refine ns_getr C w 43 (hI 43 (by decide)) sh_43 (rfl : vwCl[7]? = some (RX7, TX7, 5)) inX7_copyFrom_7 4 (by decide) rfl lX7_copyFrom_21 dX7_copyFrom_59 ?_
  refine lv_iconst (v := 0) C.1.1 C.1.2.1 dX7_copyFrom_62 (by decide) ?_
  refine lv_bipush (v := 30) C.1.1 C.1.2.1 dX7_copyFrom_63 (by decide) ?_
  refine ns_copy C w 192 47 (hJ 192 (by decide) (by decide)) (hI 47 (by decide)) sh_192 sh_47 hf rfl rfl (List.mem_of_getElem? (i := 4) rfl) (List.mem_of_getElem? (i := 3) rfl) (List.mem_of_getElem? (i := 4) rfl) (List.mem_of_getElem? (i := 5) rfl) (List.mem_of_getElem? (i := 6) rfl) hl.1 (Nat.le_of_ble_eq_true rfl) (Nat.le_of_ble_eq_true rfl) dX7_copyFrom_65 (fun y4 H locs hf w => ?_)
  have he := Option.some.inj hf
  subst he
  exact ns_vret C w hr hlk rfl rfl dX7_copyFrom_68
abbrev wrX8_copyFrom_48_193 : List (Nat × Nat) := [(0, 3072), (0, 3073), (1, 49), (1, 50), (1, 51), (1, 52)]
abbrev rmX8_copyFrom_48_193 : Room := { frames := 1, cells := 0, slots := 0, locals := 40 }
set_option maxHeartbeats 4000000 in
set_option maxRecDepth 100000 in
theorem mX8_copyFrom_48_193 (l : Launch) (D : va_G) (b : Nat → Nat) (ids : List Nat) (hI : ∀ i, i < 107 → i ∈ ids) (hJ : ∀ i, 173 ≤ i → i < 206 → i ∈ ids) (N : Nat) (S : ns_S) {o : Int32 × Int32 × (Nat → Int32) × (Nat → Int32) × (Nat → Int32) × (Nat → Int32)} (hf : fX8_copyFrom N (S.1 12352) (S.1 3072) (S.1 12353) (S.1 3073) (S.2.1 194) (S.2.1 49) (S.2.1 195) (S.2.1 50) (S.2.1 196) (S.2.1 51) (S.2.1 197) (S.2.1 52) = some o) : ns_M l yX8_copyFrom wsX8_copyFrom rmX8_copyFrom_48_193 D b ids S [.ref (b 48), .ref (b 193)] none (ns_I (ns_I (ns_A (ns_A (ns_A (ns_A S 52 o.2.2.2.2.2) 51 o.2.2.2.2.1) 50 o.2.2.2.1) 49 o.2.2.1) 3073 o.2.1) 3072 o.1) := by
  refine ns_start (Wr := wrX8_copyFrom_48_193) (by decide) rfl (Nat.le_of_ble_eq_true rfl) ?_
  intro p e s m below meth c A ls C hr hlk w hl
  have hl : lv_has ls 2 [(0, .ref (b 48)), (1, .ref (b 193))] := hl
  unfold fX8_copyFrom at hf
  refine lv_aload_n C.1.1 C.1.2.1 dX8_copyFrom_0 rfl (lv_at hl 0 rfl) ?_
  refine lv_aload_n C.1.1 C.1.2.1 dX8_copyFrom_1 rfl (lv_at hl 1 rfl) ?_
  refine ns_geti C w 193 (hJ 193 (by decide) (by decide)) sh_193 (rfl : vwCl[8]? = some (RX8, TX8, 6)) inX8_copyFrom_8 0 (by decide) rfl lX8_copyFrom_9 (S.1 12352) rfl dX8_copyFrom_2 ?_
  refine ns_puti C w 48 (hI 48 (by decide)) sh_48 (rfl : vwCl[8]? = some (RX8, TX8, 6)) inX8_copyFrom_8 tyX8_ok nmX8 0 (by decide) rfl lX8_copyFrom_9 rfl rfl rfl (List.mem_of_getElem? (i := 0) rfl) dX8_copyFrom_5 (fun H locs w => ?_)
  refine lv_aload_n C.1.1 C.1.2.1 dX8_copyFrom_8 rfl (lv_at hl 0 rfl) ?_
  refine lv_aload_n C.1.1 C.1.2.1 dX8_copyFrom_9 rfl (lv_at hl 1 rfl) ?_
  refine ns_geti C w 193 (hJ 193 (by decide) (by decide)) sh_193 (rfl : vwCl[8]? = some (RX8, TX8, 6)) inX8_copyFrom_8 1 (by decide) rfl lX8_copyFrom_28 (S.1 12353) rfl dX8_copyFrom_10 ?_
  refine ns_puti C w 48 (hI 48 (by decide)) sh_48 (rfl : vwCl[8]? = some (RX8, TX8, 6)) inX8_copyFrom_8 tyX8_ok nmX8 1 (by decide) rfl lX8_copyFrom_28 rfl rfl rfl (List.mem_of_getElem? (i := 1) rfl) dX8_copyFrom_13 (fun H locs w => ?_)
  refine lv_aload_n C.1.1 C.1.2.1 dX8_copyFrom_16 rfl (lv_at hl 1 rfl) ?_
  refine ns_getr C w 193 (hJ 193 (by decide) (by decide)) sh_193 (rfl : vwCl[8]? = some (RX8, TX8, 6)) inX8_copyFrom_8 2 (by decide) rfl lX8_copyFrom_15 dX8_copyFrom_17 ?_
  refine lv_iconst (v := 0) C.1.1 C.1.2.1 dX8_copyFrom_20 (by decide) ?_
  refine lv_aload_n C.1.1 C.1.2.1 dX8_copyFrom_21 rfl (lv_at hl 0 rfl) ?_
  refine ns_getr C w 48 (hI 48 (by decide)) sh_48 (rfl : vwCl[8]? = some (RX8, TX8, 6)) inX8_copyFrom_8 2 (by decide) rfl lX8_copyFrom_15 dX8_copyFrom_22 ?_
  refine lv_iconst (v := 0) C.1.1 C.1.2.1 dX8_copyFrom_25 (by decide) ?_
  refine lv_bipush (v := 30) C.1.1 C.1.2.1 dX8_copyFrom_26 (by decide) ?_
  refine ns_copy C w 194 49 (hJ 194 (by decide) (by decide)) (hI 49 (by decide)) sh_194 sh_49 hf rfl rfl (List.mem_of_getElem? (i := 2) rfl) (List.mem_of_getElem? (i := 4) rfl) (List.mem_of_getElem? (i := 5) rfl) (List.mem_of_getElem? (i := 6) rfl) (List.mem_of_getElem? (i := 7) rfl) hl.1 (Nat.le_of_ble_eq_true rfl) (Nat.le_of_ble_eq_true rfl) dX8_copyFrom_28 (fun y1 H locs hf w => ?_)
  refine lv_aload_n C.1.1 C.1.2.1 dX8_copyFrom_31 rfl (lv_at hl 1 rfl) ?_
  refine ns_getr C w 193 (hJ 193 (by decide) (by decide)) sh_193 (rfl : vwCl[8]? = some (RX8, TX8, 6)) inX8_copyFrom_8 3 (by decide) rfl lX8_copyFrom_19 dX8_copyFrom_32 ?_
  refine lv_iconst (v := 0) C.1.1 C.1.2.1 dX8_copyFrom_35 (by decide) ?_
  refine lv_aload_n C.1.1 C.1.2.1 dX8_copyFrom_36 rfl (lv_at hl 0 rfl) ?_
  refine ns_getr C w 48 (hI 48 (by decide)) sh_48 (rfl : vwCl[8]? = some (RX8, TX8, 6)) inX8_copyFrom_8 3 (by decide) rfl lX8_copyFrom_19 dX8_copyFrom_37 ?_
  refine lv_iconst (v := 0) C.1.1 C.1.2.1 dX8_copyFrom_40 (by decide) ?_
  refine lv_bipush (v := 10) C.1.1 C.1.2.1 dX8_copyFrom_41 (by decide) ?_
  refine ns_copy C w 195 50 (hJ 195 (by decide) (by decide)) (hI 50 (by decide)) sh_195 sh_50 hf rfl rfl (List.mem_of_getElem? (i := 3) rfl) (List.mem_of_getElem? (i := 4) rfl) (List.mem_of_getElem? (i := 5) rfl) (List.mem_of_getElem? (i := 6) rfl) (List.mem_of_getElem? (i := 7) rfl) hl.1 (Nat.le_of_ble_eq_true rfl) (Nat.le_of_ble_eq_true rfl) dX8_copyFrom_43 (fun y2 H locs hf w => ?_)
  refine lv_aload_n C.1.1 C.1.2.1 dX8_copyFrom_46 rfl (lv_at hl 1 rfl) ?_
  refine ns_getr C w 193 (hJ 193 (by decide) (by decide)) sh_193 (rfl : vwCl[8]? = some (RX8, TX8, 6)) inX8_copyFrom_8 4 (by decide) rfl lX8_copyFrom_22 dX8_copyFrom_47 ?_
  refine lv_iconst (v := 0) C.1.1 C.1.2.1 dX8_copyFrom_50 (by decide) ?_
  refine lv_aload_n C.1.1 C.1.2.1 dX8_copyFrom_51 rfl (lv_at hl 0 rfl) ?_
  refine ns_getr C w 48 (hI 48 (by decide)) sh_48 (rfl : vwCl[8]? = some (RX8, TX8, 6)) inX8_copyFrom_8 4 (by decide) rfl lX8_copyFrom_22 dX8_copyFrom_52 ?_
  refine lv_iconst (v := 0) C.1.1 C.1.2.1 dX8_copyFrom_55 (by decide) ?_
  refine lv_bipush (v := 6) C.1.1 C.1.2.1 dX8_copyFrom_56 (by decide) ?_
  refine ns_copy C w 196 51 (hJ 196 (by decide) (by decide)) (hI 51 (by decide)) sh_196 sh_51 hf rfl rfl (List.mem_of_getElem? (i := 4) rfl) (List.mem_of_getElem? (i := 4) rfl) (List.mem_of_getElem? (i := 5) rfl) (List.mem_of_getElem? (i := 6) rfl) (List.mem_of_getElem? (i := 7) rfl) hl.1 (Nat.le_of_ble_eq_true rfl) (Nat.le_of_ble_eq_true rfl) dX8_copyFrom_58 (fun y3 H locs hf w => ?_)
  refine lv_aload_n C.1.1 C.1.2.1 dX8_copyFrom_61 rfl (lv_at hl 1 rfl) ?_
  refine ns_getr C w 193 (hJ 193 (by decide) (by decide)) sh_193 (rfl : vwCl[8]? = some (RX8, TX8, 6)) inX8_copyFrom_8 5 (by decide) rfl lX8_copyFrom_25 dX8_copyFrom_62 ?_
  refine lv_iconst (v := 0) C.1.1 C.1.2.1 dX8_copyFrom_65 (by decide) ?_
  refine lv_aload_n C.1.1 C.1.2.1 dX8_copyFrom_66 rfl (lv_at hl 0 rfl) ?_
  refine ns_getr C w 48 (hI 48 (by decide)) sh_48 (rfl : vwCl[8]? = some (RX8, TX8, 6)) inX8_copyFrom_8 5 (by decide) rfl lX8_copyFrom_25 dX8_copyFrom_67 ?_
  refine lv_iconst (v := 0) C.1.1 C.1.2.1 dX8_copyFrom_70 (by decide) ?_
  refine lv_iconst (v := 5) C.1.1 C.1.2.1 dX8_copyFrom_71 (by decide) ?_
  refine ns_copy C w 197 52 (hJ 197 (by decide) (by decide)) (hI 52 (by decide)) sh_197 sh_52 hf rfl rfl (List.mem_of_getElem? (i := 5) rfl) (List.mem_of_getElem? (i := 4) rfl) (List.mem_of_getElem? (i := 5) rfl) (List.mem_of_getElem? (i := 6) rfl) (List.mem_of_getElem? (i := 7) rfl) hl.1 (Nat.le_of_ble_eq_true rfl) (Nat.le_of_ble_eq_true rfl) dX8_copyFrom_72 (fun y4 H locs hf w => ?_)
  have he := Option.some.inj hf
  subst he
  exact ns_vret C w hr hlk rfl rfl dX8_copyFrom_75
abbrev wrX2_copyFrom_53_198 : List (Nat × Nat) := [(0, 3392), (1, 54), (1, 55), (1, 56), (1, 57), (1, 58), (1, 59), (1, 60)]
abbrev rmX2_copyFrom_53_198 : Room := { frames := 1, cells := 0, slots := 0, locals := 40 }
set_option maxHeartbeats 4000000 in
set_option maxRecDepth 100000 in
theorem mX2_copyFrom_53_198 (l : Launch) (D : va_G) (b : Nat → Nat) (ids : List Nat) (hI : ∀ i, i < 107 → i ∈ ids) (hJ : ∀ i, 173 ≤ i → i < 206 → i ∈ ids) (N : Nat) (S : ns_S) {o : Int32 × (Nat → Int32) × (Nat → Int32) × (Nat → Int32) × (Nat → Int32) × (Nat → Int32) × (Nat → Int32) × (Nat → Int32)} (hf : fX2_copyFrom N (S.1 12672) (S.1 3392) (S.2.1 199) (S.2.1 54) (S.2.1 200) (S.2.1 55) (S.2.1 201) (S.2.1 56) (S.2.1 202) (S.2.1 57) (S.2.1 203) (S.2.1 58) (S.2.1 204) (S.2.1 59) (S.2.1 205) (S.2.1 60) = some o) : ns_M l yX2_copyFrom wsX2_copyFrom rmX2_copyFrom_53_198 D b ids S [.ref (b 53), .ref (b 198)] none (ns_I (ns_A (ns_A (ns_A (ns_A (ns_A (ns_A (ns_A S 60 o.2.2.2.2.2.2.2) 59 o.2.2.2.2.2.2.1) 58 o.2.2.2.2.2.1) 57 o.2.2.2.2.1) 56 o.2.2.2.1) 55 o.2.2.1) 54 o.2.1) 3392 o.1) := by
  refine ns_start (Wr := wrX2_copyFrom_53_198) (by decide) rfl (Nat.le_of_ble_eq_true rfl) ?_
  intro p e s m below meth c A ls C hr hlk w hl
  have hl : lv_has ls 2 [(0, .ref (b 53)), (1, .ref (b 198))] := hl
  unfold fX2_copyFrom at hf
  refine lv_aload_n C.1.1 C.1.2.1 dX2_copyFrom_0 rfl (lv_at hl 0 rfl) ?_
  refine lv_aload_n C.1.1 C.1.2.1 dX2_copyFrom_1 rfl (lv_at hl 1 rfl) ?_
  refine ns_geti C w 198 (hJ 198 (by decide) (by decide)) sh_198 (rfl : vwCl[2]? = some (RX2, TX2, 8)) inX2_copyFrom_2 0 (by decide) rfl lX2_copyFrom_33 (S.1 12672) rfl dX2_copyFrom_2 ?_
  refine ns_puti C w 53 (hI 53 (by decide)) sh_53 (rfl : vwCl[2]? = some (RX2, TX2, 8)) inX2_copyFrom_2 tyX2_ok nmX2 0 (by decide) rfl lX2_copyFrom_33 rfl rfl rfl (List.mem_of_getElem? (i := 0) rfl) dX2_copyFrom_5 (fun H locs w => ?_)
  refine lv_aload_n C.1.1 C.1.2.1 dX2_copyFrom_8 rfl (lv_at hl 1 rfl) ?_
  refine ns_getr C w 198 (hJ 198 (by decide) (by decide)) sh_198 (rfl : vwCl[2]? = some (RX2, TX2, 8)) inX2_copyFrom_2 1 (by decide) rfl lX2_copyFrom_9 dX2_copyFrom_9 ?_
  refine lv_iconst (v := 0) C.1.1 C.1.2.1 dX2_copyFrom_12 (by decide) ?_
  refine lv_aload_n C.1.1 C.1.2.1 dX2_copyFrom_13 rfl (lv_at hl 0 rfl) ?_
  refine ns_getr C w 53 (hI 53 (by decide)) sh_53 (rfl : vwCl[2]? = some (RX2, TX2, 8)) inX2_copyFrom_2 1 (by decide) rfl lX2_copyFrom_9 dX2_copyFrom_14 ?_
  refine lv_iconst (v := 0) C.1.1 C.1.2.1 dX2_copyFrom_17 (by decide) ?_
  refine lv_bipush (v := 16) C.1.1 C.1.2.1 dX2_copyFrom_18 (by decide) ?_
  refine ns_copy C w 199 54 (hJ 199 (by decide) (by decide)) (hI 54 (by decide)) sh_199 sh_54 hf rfl rfl (List.mem_of_getElem? (i := 1) rfl) (List.mem_of_getElem? (i := 3) rfl) (List.mem_of_getElem? (i := 4) rfl) (List.mem_of_getElem? (i := 5) rfl) (List.mem_of_getElem? (i := 6) rfl) hl.1 (Nat.le_of_ble_eq_true rfl) (Nat.le_of_ble_eq_true rfl) dX2_copyFrom_20 (fun y1 H locs hf w => ?_)
  refine lv_aload_n C.1.1 C.1.2.1 dX2_copyFrom_23 rfl (lv_at hl 1 rfl) ?_
  refine ns_getr C w 198 (hJ 198 (by decide) (by decide)) sh_198 (rfl : vwCl[2]? = some (RX2, TX2, 8)) inX2_copyFrom_2 2 (by decide) rfl lX2_copyFrom_15 dX2_copyFrom_24 ?_
  refine lv_iconst (v := 0) C.1.1 C.1.2.1 dX2_copyFrom_27 (by decide) ?_
  refine lv_aload_n C.1.1 C.1.2.1 dX2_copyFrom_28 rfl (lv_at hl 0 rfl) ?_
  refine ns_getr C w 53 (hI 53 (by decide)) sh_53 (rfl : vwCl[2]? = some (RX2, TX2, 8)) inX2_copyFrom_2 2 (by decide) rfl lX2_copyFrom_15 dX2_copyFrom_29 ?_
  refine lv_iconst (v := 0) C.1.1 C.1.2.1 dX2_copyFrom_32 (by decide) ?_
  refine lv_bipush (v := 16) C.1.1 C.1.2.1 dX2_copyFrom_33 (by decide) ?_
  refine ns_copy C w 200 55 (hJ 200 (by decide) (by decide)) (hI 55 (by decide)) sh_200 sh_55 hf rfl rfl (List.mem_of_getElem? (i := 2) rfl) (List.mem_of_getElem? (i := 3) rfl) (List.mem_of_getElem? (i := 4) rfl) (List.mem_of_getElem? (i := 5) rfl) (List.mem_of_getElem? (i := 6) rfl) hl.1 (Nat.le_of_ble_eq_true rfl) (Nat.le_of_ble_eq_true rfl) dX2_copyFrom_35 (fun y2 H locs hf w => ?_)
  refine lv_aload_n C.1.1 C.1.2.1 dX2_copyFrom_38 rfl (lv_at hl 1 rfl) ?_
  refine ns_getr C w 198 (hJ 198 (by decide) (by decide)) sh_198 (rfl : vwCl[2]? = some (RX2, TX2, 8)) inX2_copyFrom_2 3 (by decide) rfl lX2_copyFrom_18 dX2_copyFrom_39 ?_
  refine lv_iconst (v := 0) C.1.1 C.1.2.1 dX2_copyFrom_42 (by decide) ?_
  refine lv_aload_n C.1.1 C.1.2.1 dX2_copyFrom_43 rfl (lv_at hl 0 rfl) ?_
  refine ns_getr C w 53 (hI 53 (by decide)) sh_53 (rfl : vwCl[2]? = some (RX2, TX2, 8)) inX2_copyFrom_2 3 (by decide) rfl lX2_copyFrom_18 dX2_copyFrom_44 ?_
  refine lv_iconst (v := 0) C.1.1 C.1.2.1 dX2_copyFrom_47 (by decide) ?_
  refine lv_bipush (v := 16) C.1.1 C.1.2.1 dX2_copyFrom_48 (by decide) ?_
  refine ns_copy C w 201 56 (hJ 201 (by decide) (by decide)) (hI 56 (by decide)) sh_201 sh_56 hf rfl rfl (List.mem_of_getElem? (i := 3) rfl) (List.mem_of_getElem? (i := 3) rfl) (List.mem_of_getElem? (i := 4) rfl) (List.mem_of_getElem? (i := 5) rfl) (List.mem_of_getElem? (i := 6) rfl) hl.1 (Nat.le_of_ble_eq_true rfl) (Nat.le_of_ble_eq_true rfl) dX2_copyFrom_50 (fun y3 H locs hf w => ?_)
  refine lv_aload_n C.1.1 C.1.2.1 dX2_copyFrom_53 rfl (lv_at hl 1 rfl) ?_
  refine ns_getr C w 198 (hJ 198 (by decide) (by decide)) sh_198 (rfl : vwCl[2]? = some (RX2, TX2, 8)) inX2_copyFrom_2 4 (by decide) rfl lX2_copyFrom_21 dX2_copyFrom_54 ?_
  refine lv_iconst (v := 0) C.1.1 C.1.2.1 dX2_copyFrom_57 (by decide) ?_
  refine lv_aload_n C.1.1 C.1.2.1 dX2_copyFrom_58 rfl (lv_at hl 0 rfl) ?_
  refine ns_getr C w 53 (hI 53 (by decide)) sh_53 (rfl : vwCl[2]? = some (RX2, TX2, 8)) inX2_copyFrom_2 4 (by decide) rfl lX2_copyFrom_21 dX2_copyFrom_59 ?_
  refine lv_iconst (v := 0) C.1.1 C.1.2.1 dX2_copyFrom_62 (by decide) ?_
  refine lv_bipush (v := 16) C.1.1 C.1.2.1 dX2_copyFrom_63 (by decide) ?_
  refine ns_copy C w 202 57 (hJ 202 (by decide) (by decide)) (hI 57 (by decide)) sh_202 sh_57 hf rfl rfl (List.mem_of_getElem? (i := 4) rfl) (List.mem_of_getElem? (i := 3) rfl) (List.mem_of_getElem? (i := 4) rfl) (List.mem_of_getElem? (i := 5) rfl) (List.mem_of_getElem? (i := 6) rfl) hl.1 (Nat.le_of_ble_eq_true rfl) (Nat.le_of_ble_eq_true rfl) dX2_copyFrom_65 (fun y4 H locs hf w => ?_)
  refine lv_aload_n C.1.1 C.1.2.1 dX2_copyFrom_68 rfl (lv_at hl 1 rfl) ?_
  refine ns_getr C w 198 (hJ 198 (by decide) (by decide)) sh_198 (rfl : vwCl[2]? = some (RX2, TX2, 8)) inX2_copyFrom_2 5 (by decide) rfl lX2_copyFrom_24 dX2_copyFrom_69 ?_
  refine lv_iconst (v := 0) C.1.1 C.1.2.1 dX2_copyFrom_72 (by decide) ?_
  refine lv_aload_n C.1.1 C.1.2.1 dX2_copyFrom_73 rfl (lv_at hl 0 rfl) ?_
  refine ns_getr C w 53 (hI 53 (by decide)) sh_53 (rfl : vwCl[2]? = some (RX2, TX2, 8)) inX2_copyFrom_2 5 (by decide) rfl lX2_copyFrom_24 dX2_copyFrom_74 ?_
  refine lv_iconst (v := 0) C.1.1 C.1.2.1 dX2_copyFrom_77 (by decide) ?_
  refine lv_bipush (v := 64) C.1.1 C.1.2.1 dX2_copyFrom_78 (by decide) ?_
  refine ns_copy C w 203 58 (hJ 203 (by decide) (by decide)) (hI 58 (by decide)) sh_203 sh_58 hf rfl rfl (List.mem_of_getElem? (i := 5) rfl) (List.mem_of_getElem? (i := 3) rfl) (List.mem_of_getElem? (i := 4) rfl) (List.mem_of_getElem? (i := 5) rfl) (List.mem_of_getElem? (i := 6) rfl) hl.1 (Nat.le_of_ble_eq_true rfl) (Nat.le_of_ble_eq_true rfl) dX2_copyFrom_80 (fun y5 H locs hf w => ?_)
  refine lv_aload_n C.1.1 C.1.2.1 dX2_copyFrom_83 rfl (lv_at hl 1 rfl) ?_
  refine ns_getr C w 198 (hJ 198 (by decide) (by decide)) sh_198 (rfl : vwCl[2]? = some (RX2, TX2, 8)) inX2_copyFrom_2 6 (by decide) rfl lX2_copyFrom_27 dX2_copyFrom_84 ?_
  refine lv_iconst (v := 0) C.1.1 C.1.2.1 dX2_copyFrom_87 (by decide) ?_
  refine lv_aload_n C.1.1 C.1.2.1 dX2_copyFrom_88 rfl (lv_at hl 0 rfl) ?_
  refine ns_getr C w 53 (hI 53 (by decide)) sh_53 (rfl : vwCl[2]? = some (RX2, TX2, 8)) inX2_copyFrom_2 6 (by decide) rfl lX2_copyFrom_27 dX2_copyFrom_89 ?_
  refine lv_iconst (v := 0) C.1.1 C.1.2.1 dX2_copyFrom_92 (by decide) ?_
  refine lv_bipush (v := 64) C.1.1 C.1.2.1 dX2_copyFrom_93 (by decide) ?_
  refine ns_copy C w 204 59 (hJ 204 (by decide) (by decide)) (hI 59 (by decide)) sh_204 sh_59 hf rfl rfl (List.mem_of_getElem? (i := 6) rfl) (List.mem_of_getElem? (i := 3) rfl) (List.mem_of_getElem? (i := 4) rfl) (List.mem_of_getElem? (i := 5) rfl) (List.mem_of_getElem? (i := 6) rfl) hl.1 (Nat.le_of_ble_eq_true rfl) (Nat.le_of_ble_eq_true rfl) dX2_copyFrom_95 (fun y6 H locs hf w => ?_)
  refine lv_aload_n C.1.1 C.1.2.1 dX2_copyFrom_98 rfl (lv_at hl 1 rfl) ?_
  refine ns_getr C w 198 (hJ 198 (by decide) (by decide)) sh_198 (rfl : vwCl[2]? = some (RX2, TX2, 8)) inX2_copyFrom_2 7 (by decide) rfl lX2_copyFrom_30 dX2_copyFrom_99 ?_
  refine lv_iconst (v := 0) C.1.1 C.1.2.1 dX2_copyFrom_102 (by decide) ?_
  refine lv_aload_n C.1.1 C.1.2.1 dX2_copyFrom_103 rfl (lv_at hl 0 rfl) ?_
  refine ns_getr C w 53 (hI 53 (by decide)) sh_53 (rfl : vwCl[2]? = some (RX2, TX2, 8)) inX2_copyFrom_2 7 (by decide) rfl lX2_copyFrom_30 dX2_copyFrom_104 ?_
  refine lv_iconst (v := 0) C.1.1 C.1.2.1 dX2_copyFrom_107 (by decide) ?_
  refine lv_bipush (v := 64) C.1.1 C.1.2.1 dX2_copyFrom_108 (by decide) ?_
  refine ns_copy C w 205 60 (hJ 205 (by decide) (by decide)) (hI 60 (by decide)) sh_205 sh_60 hf rfl rfl (List.mem_of_getElem? (i := 7) rfl) (List.mem_of_getElem? (i := 3) rfl) (List.mem_of_getElem? (i := 4) rfl) (List.mem_of_getElem? (i := 5) rfl) (List.mem_of_getElem? (i := 6) rfl) hl.1 (Nat.le_of_ble_eq_true rfl) (Nat.le_of_ble_eq_true rfl) dX2_copyFrom_110 (fun y7 H locs hf w => ?_)
  have he := Option.some.inj hf
  subst he
  exact ns_vret C w hr hlk rfl rfl dX2_copyFrom_113
abbrev wrX6_copyFrom_28_173 : List (Nat × Nat) := [(0, 1856), (1, 30), (0, 1984), (1, 32), (1, 33), (1, 34), (1, 35), (1, 36), (0, 2368), (1, 38), (1, 39), (1, 40), (1, 41), (1, 42), (0, 2752), (1, 44), (1, 45), (1, 46), (1, 47), (0, 3072), (0, 3073), (1, 49), (1, 50), (1, 51), (1, 52), (0, 3392), (1, 54), (1, 55), (1, 56), (1, 57), (1, 58), (1, 59), (1, 60)]
abbrev rmX6_copyFrom_28_173 : Room := { frames := 2, cells := 0, slots := 0, locals := 61 }
set_option maxHeartbeats 4000000 in
set_option maxRecDepth 100000 in
theorem mX6_copyFrom_28_173 (l : Launch) (D : va_G) (b : Nat → Nat) (ids : List Nat) (hI : ∀ i, i < 107 → i ∈ ids) (hJ : ∀ i, 173 ≤ i → i < 206 → i ∈ ids) (N : Nat) (S : ns_S) {o : Int32 × (Nat → Int32) × Int32 × (Nat → Int32) × (Nat → Int32) × (Nat → Int32) × (Nat → Int32) × (Nat → Int32) × Int32 × (Nat → Int32) × (Nat → Int32) × (Nat → Int32) × (Nat → Int32) × (Nat → Int32) × Int32 × (Nat → Int32) × (Nat → Int32) × (Nat → Int32) × (Nat → Int32) × Int32 × Int32 × (Nat → Int32) × (Nat → Int32) × (Nat → Int32) × (Nat → Int32) × Int32 × (Nat → Int32) × (Nat → Int32) × (Nat → Int32) × (Nat → Int32) × (Nat → Int32) × (Nat → Int32) × (Nat → Int32)} (hf : fX6_copyFrom N (S.1 11136) (S.1 1856) (S.2.1 175) (S.2.1 30) (S.1 11264) (S.1 1984) (S.2.1 177) (S.2.1 32) (S.2.1 178) (S.2.1 33) (S.2.1 179) (S.2.1 34) (S.2.1 180) (S.2.1 35) (S.2.1 181) (S.2.1 36) (S.1 11648) (S.1 2368) (S.2.1 183) (S.2.1 38) (S.2.1 184) (S.2.1 39) (S.2.1 185) (S.2.1 40) (S.2.1 186) (S.2.1 41) (S.2.1 187) (S.2.1 42) (S.1 12032) (S.1 2752) (S.2.1 189) (S.2.1 44) (S.2.1 190) (S.2.1 45) (S.2.1 191) (S.2.1 46) (S.2.1 192) (S.2.1 47) (S.1 12352) (S.1 3072) (S.1 12353) (S.1 3073) (S.2.1 194) (S.2.1 49) (S.2.1 195) (S.2.1 50) (S.2.1 196) (S.2.1 51) (S.2.1 197) (S.2.1 52) (S.1 12672) (S.1 3392) (S.2.1 199) (S.2.1 54) (S.2.1 200) (S.2.1 55) (S.2.1 201) (S.2.1 56) (S.2.1 202) (S.2.1 57) (S.2.1 203) (S.2.1 58) (S.2.1 204) (S.2.1 59) (S.2.1 205) (S.2.1 60) = some o) : ns_M l yX6_copyFrom wsX6_copyFrom rmX6_copyFrom_28_173 D b ids S [.ref (b 28), .ref (b 173)] none (ns_I (ns_A (ns_I (ns_A (ns_A (ns_A (ns_A (ns_A (ns_I (ns_A (ns_A (ns_A (ns_A (ns_A (ns_I (ns_A (ns_A (ns_A (ns_A (ns_I (ns_I (ns_A (ns_A (ns_A (ns_A (ns_I (ns_A (ns_A (ns_A (ns_A (ns_A (ns_A (ns_A S 60 o.2.2.2.2.2.2.2.2.2.2.2.2.2.2.2.2.2.2.2.2.2.2.2.2.2.2.2.2.2.2.2.2) 59 o.2.2.2.2.2.2.2.2.2.2.2.2.2.2.2.2.2.2.2.2.2.2.2.2.2.2.2.2.2.2.2.1) 58 o.2.2.2.2.2.2.2.2.2.2.2.2.2.2.2.2.2.2.2.2.2.2.2.2.2.2.2.2.2.2.1) 57 o.2.2.2.2.2.2.2.2.2.2.2.2.2.2.2.2.2.2.2.2.2.2.2.2.2.2.2.2.2.1) 56 o.2.2.2.2.2.2.2.2.2.2.2.2.2.2.2.2.2.2.2.2.2.2.2.2.2.2.2.2.1) 55 o.2.2.2.2.2.2.2.2.2.2.2.2.2.2.2.2.2.2.2.2.2.2.2.2.2.2.2.1) 54 o.2.2.2.2.2.2.2.2.2.2.2.2.2.2.2.2.2.2.2.2.2.2.2.2.2.2.1) 3392 o.2.2.2.2.2.2.2.2.2.2.2.2.2.2.2.2.2.2.2.2.2.2.2.2.2.1) 52 o.2.2.2.2.2.2.2.2.2.2.2.2.2.2.2.2.2.2.2.2.2.2.2.2.1) 51 o.2.2.2.2.2.2.2.2.2.2.2.2.2.2.2.2.2.2.2.2.2.2.2.1) 50 o.2.2.2.2.2.2.2.2.2.2.2.2.2.2.2.2.2.2.2.2.2.2.1) 49 o.2.2.2.2.2.2.2.2.2.2.2.2.2.2.2.2.2.2.2.2.2.1) 3073 o.2.2.2.2.2.2.2.2.2.2.2.2.2.2.2.2.2.2.2.2.1) 3072 o.2.2.2.2.2.2.2.2.2.2.2.2.2.2.2.2.2.2.2.1) 47 o.2.2.2.2.2.2.2.2.2.2.2.2.2.2.2.2.2.2.1) 46 o.2.2.2.2.2.2.2.2.2.2.2.2.2.2.2.2.2.1) 45 o.2.2.2.2.2.2.2.2.2.2.2.2.2.2.2.2.1) 44 o.2.2.2.2.2.2.2.2.2.2.2.2.2.2.2.1) 2752 o.2.2.2.2.2.2.2.2.2.2.2.2.2.2.1) 42 o.2.2.2.2.2.2.2.2.2.2.2.2.2.1) 41 o.2.2.2.2.2.2.2.2.2.2.2.2.1) 40 o.2.2.2.2.2.2.2.2.2.2.2.1) 39 o.2.2.2.2.2.2.2.2.2.2.1) 38 o.2.2.2.2.2.2.2.2.2.1) 2368 o.2.2.2.2.2.2.2.2.1) 36 o.2.2.2.2.2.2.2.1) 35 o.2.2.2.2.2.2.1) 34 o.2.2.2.2.2.1) 33 o.2.2.2.2.1) 32 o.2.2.2.1) 1984 o.2.2.1) 30 o.2.1) 1856 o.1) := by
  refine ns_start (Wr := wrX6_copyFrom_28_173) (by decide) rfl (Nat.le_of_ble_eq_true rfl) ?_
  intro p e s m below meth c A ls C hr hlk w hl
  have hl : lv_has ls 2 [(0, .ref (b 28)), (1, .ref (b 173))] := hl
  unfold fX6_copyFrom at hf
  refine lv_aload_n C.1.1 C.1.2.1 dX6_copyFrom_0 rfl (lv_at hl 0 rfl) ?_
  refine ns_getr C w 28 (hI 28 (by decide)) sh_28 (rfl : vwCl[6]? = some (RX6, TX6, 6)) inX6_copyFrom_6 0 (by decide) rfl lX6_copyFrom_12 dX6_copyFrom_1 ?_
  refine lv_aload_n C.1.1 C.1.2.1 dX6_copyFrom_4 rfl (lv_at hl 1 rfl) ?_
  refine ns_getr C w 173 (hJ 173 (by decide) (by decide)) sh_173 (rfl : vwCl[6]? = some (RX6, TX6, 6)) inX6_copyFrom_6 0 (by decide) rfl lX6_copyFrom_12 dX6_copyFrom_5 ?_
  refine ns_callV C w 29 (hI 29 (by decide)) sh_29 (rfl : vwCl[5]? = some (RX5, TX5, 2)) [.ref (b 174)] hf (fun u hu => mX5_copyFrom_29_174 l D b ids hI hJ N _ hu) gX6_copyFrom_X5_copyFrom rfl rfl rfl hdX5_copyFrom ⟨Nat.le_of_ble_eq_true rfl, Nat.le_of_ble_eq_true rfl⟩ (fun u h => ((h.A (List.mem_of_getElem? (i := 1) rfl) _).I (List.mem_of_getElem? (i := 0) rfl) _)) rfl hl.1 rfl (Nat.le_of_ble_eq_true rfl) ⟨Nat.le_refl _, Nat.le_refl _⟩ dX6_copyFrom_8 (fun o1 H locs hf w => ?_)
  refine lv_aload_n C.1.1 C.1.2.1 dX6_copyFrom_11 rfl (lv_at hl 0 rfl) ?_
  refine ns_getr C w 28 (hI 28 (by decide)) sh_28 (rfl : vwCl[6]? = some (RX6, TX6, 6)) inX6_copyFrom_6 1 (by decide) rfl lX6_copyFrom_21 dX6_copyFrom_12 ?_
  refine lv_aload_n C.1.1 C.1.2.1 dX6_copyFrom_15 rfl (lv_at hl 1 rfl) ?_
  refine ns_getr C w 173 (hJ 173 (by decide) (by decide)) sh_173 (rfl : vwCl[6]? = some (RX6, TX6, 6)) inX6_copyFrom_6 1 (by decide) rfl lX6_copyFrom_21 dX6_copyFrom_16 ?_
  refine ns_callV C w 31 (hI 31 (by decide)) sh_31 (rfl : vwCl[0]? = some (RX0, TX0, 6)) [.ref (b 176)] hf (fun u hu => mX0_copyFrom_31_176 l D b ids hI hJ N _ hu) gX6_copyFrom_X0_copyFrom rfl rfl rfl hdX0_copyFrom ⟨Nat.le_of_ble_eq_true rfl, Nat.le_of_ble_eq_true rfl⟩ (fun u h => ((((((h.A (List.mem_of_getElem? (i := 7) rfl) _).A (List.mem_of_getElem? (i := 6) rfl) _).A (List.mem_of_getElem? (i := 5) rfl) _).A (List.mem_of_getElem? (i := 4) rfl) _).A (List.mem_of_getElem? (i := 3) rfl) _).I (List.mem_of_getElem? (i := 2) rfl) _)) rfl hl.1 rfl (Nat.le_of_ble_eq_true rfl) ⟨Nat.le_refl _, Nat.le_refl _⟩ dX6_copyFrom_19 (fun o2 H locs hf w => ?_)
  refine lv_aload_n C.1.1 C.1.2.1 dX6_copyFrom_22 rfl (lv_at hl 0 rfl) ?_
  refine ns_getr C w 28 (hI 28 (by decide)) sh_28 (rfl : vwCl[6]? = some (RX6, TX6, 6)) inX6_copyFrom_6 2 (by decide) rfl lX6_copyFrom_28 dX6_copyFrom_23 ?_
  refine lv_aload_n C.1.1 C.1.2.1 dX6_copyFrom_26 rfl (lv_at hl 1 rfl) ?_
  refine ns_getr C w 173 (hJ 173 (by decide) (by decide)) sh_173 (rfl : vwCl[6]? = some (RX6, TX6, 6)) inX6_copyFrom_6 2 (by decide) rfl lX6_copyFrom_28 dX6_copyFrom_27 ?_
  refine ns_callV C w 37 (hI 37 (by decide)) sh_37 (rfl : vwCl[4]? = some (RX4, TX4, 6)) [.ref (b 182)] hf (fun u hu => mX4_copyFrom_37_182 l D b ids hI hJ N _ hu) gX6_copyFrom_X4_copyFrom rfl rfl rfl hdX4_copyFrom ⟨Nat.le_of_ble_eq_true rfl, Nat.le_of_ble_eq_true rfl⟩ (fun u h => ((((((h.A (List.mem_of_getElem? (i := 13) rfl) _).A (List.mem_of_getElem? (i := 12) rfl) _).A (List.mem_of_getElem? (i := 11) rfl) _).A (List.mem_of_getElem? (i := 10) rfl) _).A (List.mem_of_getElem? (i := 9) rfl) _).I (List.mem_of_getElem? (i := 8) rfl) _)) rfl hl.1 rfl (Nat.le_of_ble_eq_true rfl) ⟨Nat.le_refl _, Nat.le_refl _⟩ dX6_copyFrom_30 (fun o3 H locs hf w => ?_)
  refine lv_aload_n C.1.1 C.1.2.1 dX6_copyFrom_33 rfl (lv_at hl 0 rfl) ?_
  refine ns_getr C w 28 (hI 28 (by decide)) sh_28 (rfl : vwCl[6]? = some (RX6, TX6, 6)) inX6_copyFrom_6 3 (by decide) rfl lX6_copyFrom_35 dX6_copyFrom_34 ?_
  refine lv_aload_n C.1.1 C.1.2.1 dX6_copyFrom_37 rfl (lv_at hl 1 rfl) ?_
  refine ns_getr C w 173 (hJ 173 (by decide) (by decide)) sh_173 (rfl : vwCl[6]? = some (RX6, TX6, 6)) inX6_copyFrom_6 3 (by decide) rfl lX6_copyFrom_35 dX6_copyFrom_38 ?_
  refine ns_callV C w 43 (hI 43 (by decide)) sh_43 (rfl : vwCl[7]? = some (RX7, TX7, 5)) [.ref (b 188)] hf (fun u hu => mX7_copyFrom_43_188 l D b ids hI hJ N _ hu) gX6_copyFrom_X7_copyFrom rfl rfl rfl hdX7_copyFrom ⟨Nat.le_of_ble_eq_true rfl, Nat.le_of_ble_eq_true rfl⟩ (fun u h => (((((h.A (List.mem_of_getElem? (i := 18) rfl) _).A (List.mem_of_getElem? (i := 17) rfl) _).A (List.mem_of_getElem? (i := 16) rfl) _).A (List.mem_of_getElem? (i := 15) rfl) _).I (List.mem_of_getElem? (i := 14) rfl) _)) rfl hl.1 rfl (Nat.le_of_ble_eq_true rfl) ⟨Nat.le_refl _, Nat.le_refl _⟩ dX6_copyFrom_41 (fun o4 H locs hf w => ?_)
  refine lv_aload_n C.1.1 C.1.2.1 dX6_copyFrom_44 rfl (lv_at hl 0 rfl) ?_
  refine ns_getr C w 28 (hI 28 (by decide)) sh_28 (rfl : vwCl[6]? = some (RX6, TX6, 6)) inX6_copyFrom_6 4 (by decide) rfl lX6_copyFrom_42 dX6_copyFrom_45 ?_
  refine lv_aload_n C.1.1 C.1.2.1 dX6_copyFrom_48 rfl (lv_at hl 1 rfl) ?_
  refine ns_getr C w 173 (hJ 173 (by decide) (by decide)) sh_173 (rfl : vwCl[6]? = some (RX6, TX6, 6)) inX6_copyFrom_6 4 (by decide) rfl lX6_copyFrom_42 dX6_copyFrom_49 ?_
  refine ns_callV C w 48 (hI 48 (by decide)) sh_48 (rfl : vwCl[8]? = some (RX8, TX8, 6)) [.ref (b 193)] hf (fun u hu => mX8_copyFrom_48_193 l D b ids hI hJ N _ hu) gX6_copyFrom_X8_copyFrom rfl rfl rfl hdX8_copyFrom ⟨Nat.le_of_ble_eq_true rfl, Nat.le_of_ble_eq_true rfl⟩ (fun u h => ((((((h.A (List.mem_of_getElem? (i := 24) rfl) _).A (List.mem_of_getElem? (i := 23) rfl) _).A (List.mem_of_getElem? (i := 22) rfl) _).A (List.mem_of_getElem? (i := 21) rfl) _).I (List.mem_of_getElem? (i := 20) rfl) _).I (List.mem_of_getElem? (i := 19) rfl) _)) rfl hl.1 rfl (Nat.le_of_ble_eq_true rfl) ⟨Nat.le_refl _, Nat.le_refl _⟩ dX6_copyFrom_52 (fun o5 H locs hf w => ?_)
  refine lv_aload_n C.1.1 C.1.2.1 dX6_copyFrom_55 rfl (lv_at hl 0 rfl) ?_
  refine ns_getr C w 28 (hI 28 (by decide)) sh_28 (rfl : vwCl[6]? = some (RX6, TX6, 6)) inX6_copyFrom_6 5 (by decide) rfl lX6_copyFrom_49 dX6_copyFrom_56 ?_
  refine lv_aload_n C.1.1 C.1.2.1 dX6_copyFrom_59 rfl (lv_at hl 1 rfl) ?_
  refine ns_getr C w 173 (hJ 173 (by decide) (by decide)) sh_173 (rfl : vwCl[6]? = some (RX6, TX6, 6)) inX6_copyFrom_6 5 (by decide) rfl lX6_copyFrom_49 dX6_copyFrom_60 ?_
  refine ns_callV C w 53 (hI 53 (by decide)) sh_53 (rfl : vwCl[2]? = some (RX2, TX2, 8)) [.ref (b 198)] hf (fun u hu => mX2_copyFrom_53_198 l D b ids hI hJ N _ hu) gX6_copyFrom_X2_copyFrom rfl rfl rfl hdX2_copyFrom ⟨Nat.le_of_ble_eq_true rfl, Nat.le_of_ble_eq_true rfl⟩ (fun u h => ((((((((h.A (List.mem_of_getElem? (i := 32) rfl) _).A (List.mem_of_getElem? (i := 31) rfl) _).A (List.mem_of_getElem? (i := 30) rfl) _).A (List.mem_of_getElem? (i := 29) rfl) _).A (List.mem_of_getElem? (i := 28) rfl) _).A (List.mem_of_getElem? (i := 27) rfl) _).A (List.mem_of_getElem? (i := 26) rfl) _).I (List.mem_of_getElem? (i := 25) rfl) _)) rfl hl.1 rfl (Nat.le_of_ble_eq_true rfl) ⟨Nat.le_refl _, Nat.le_refl _⟩ dX6_copyFrom_63 (fun o6 H locs hf w => ?_)
  have he := Option.some.inj hf
  subst he
  exact ns_vret C w hr hlk rfl rfl dX6_copyFrom_66
