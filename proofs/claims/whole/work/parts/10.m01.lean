theorem lX11_fees_87 : Cond.fieldLink RX11 87 (TX11 27).1 (TX11 27).2.1 (TX11 27).2.2.1 ∈ wsX11_fees := List.mem_of_getElem? (i := 11) rfl
theorem lX11_fees_90 : Cond.fieldLink RX11 90 (TX11 28).1 (TX11 28).2.1 (TX11 28).2.2.1 ∈ wsX11_fees := List.mem_of_getElem? (i := 12) rfl
theorem lX11_fees_93 : Cond.fieldLink RX11 93 (TX11 29).1 (TX11 29).2.1 (TX11 29).2.2.1 ∈ wsX11_fees := List.mem_of_getElem? (i := 20) rfl
theorem lX11_fees_96 : Cond.fieldLink RX11 96 (TX11 30).1 (TX11 30).2.1 (TX11 30).2.2.1 ∈ wsX11_fees := List.mem_of_getElem? (i := 22) rfl
theorem lX11_fees_99 : Cond.fieldLink RX11 99 (TX11 31).1 (TX11 31).2.1 (TX11 31).2.2.1 ∈ wsX11_fees := List.mem_of_getElem? (i := 24) rfl
theorem lX11_fees_102 : Cond.fieldLink RX11 102 (TX11 32).1 (TX11 32).2.1 (TX11 32).2.2.1 ∈ wsX11_fees := List.mem_of_getElem? (i := 14) rfl
theorem lX11_fees_105 : Cond.fieldLink RX11 105 (TX11 33).1 (TX11 33).2.1 (TX11 33).2.2.1 ∈ wsX11_fees := List.mem_of_getElem? (i := 16) rfl
theorem lX11_fees_108 : Cond.fieldLink RX11 108 (TX11 34).1 (TX11 34).2.1 (TX11 34).2.2.1 ∈ wsX11_fees := List.mem_of_getElem? (i := 18) rfl
theorem lX11_fees_111 : Cond.fieldLink RX11 111 (TX11 41).1 (TX11 41).2.1 (TX11 41).2.2.1 ∈ wsX11_fees := List.mem_of_getElem? (i := 6) rfl
theorem lX11_fees_115 : Cond.fieldLink RX11 115 (TX11 46).1 (TX11 46).2.1 (TX11 46).2.2.1 ∈ wsX11_fees := List.mem_of_getElem? (i := 13) rfl
theorem lX11_fees_118 : Cond.fieldLink RX11 118 (TX11 47).1 (TX11 47).2.1 (TX11 47).2.2.1 ∈ wsX11_fees := List.mem_of_getElem? (i := 21) rfl
theorem lX11_fees_121 : Cond.fieldLink RX11 121 (TX11 48).1 (TX11 48).2.1 (TX11 48).2.2.1 ∈ wsX11_fees := List.mem_of_getElem? (i := 23) rfl
theorem lX11_fees_124 : Cond.fieldLink RX11 124 (TX11 49).1 (TX11 49).2.1 (TX11 49).2.2.1 ∈ wsX11_fees := List.mem_of_getElem? (i := 25) rfl
theorem lX11_fees_127 : Cond.fieldLink RX11 127 (TX11 50).1 (TX11 50).2.1 (TX11 50).2.2.1 ∈ wsX11_fees := List.mem_of_getElem? (i := 15) rfl
theorem lX11_fees_130 : Cond.fieldLink RX11 130 (TX11 51).1 (TX11 51).2.1 (TX11 51).2.2.1 ∈ wsX11_fees := List.mem_of_getElem? (i := 17) rfl
theorem lX11_fees_133 : Cond.fieldLink RX11 133 (TX11 52).1 (TX11 52).2.1 (TX11 52).2.2.1 ∈ wsX11_fees := List.mem_of_getElem? (i := 19) rfl
theorem lX11_fees_179 : Cond.fieldLink RX11 179 (TX11 0).1 (TX11 0).2.1 (TX11 0).2.2.1 ∈ wsX11_fees := List.mem_of_getElem? (i := 1) rfl
theorem lX11_fees_186 : Cond.fieldLink RX11 186 (TX11 2).1 (TX11 2).2.1 (TX11 2).2.2.1 ∈ wsX11_fees := List.mem_of_getElem? (i := 2) rfl
theorem lX11_fees_197 : Cond.fieldLink RX11 197 (TX11 35).1 (TX11 35).2.1 (TX11 35).2.2.1 ∈ wsX11_fees := List.mem_of_getElem? (i := 4) rfl
theorem lX11_fees_200 : Cond.fieldLink RX11 200 (TX11 36).1 (TX11 36).2.1 (TX11 36).2.2.1 ∈ wsX11_fees := List.mem_of_getElem? (i := 3) rfl
theorem lX11_fees_213 : Cond.fieldLink RX11 213 (TX11 38).1 (TX11 38).2.1 (TX11 38).2.2.1 ∈ wsX11_fees := List.mem_of_getElem? (i := 9) rfl
theorem lX11_fees_216 : Cond.fieldLink RX11 216 (TX11 40).1 (TX11 40).2.1 (TX11 40).2.2.1 ∈ wsX11_fees := List.mem_of_getElem? (i := 5) rfl
theorem lX11_fees_219 : Cond.fieldLink RX11 219 (TX11 42).1 (TX11 42).2.1 (TX11 42).2.2.1 ∈ wsX11_fees := List.mem_of_getElem? (i := 7) rfl
theorem lX11_fees_222 : Cond.fieldLink RX11 222 (TX11 43).1 (TX11 43).2.1 (TX11 43).2.2.1 ∈ wsX11_fees := List.mem_of_getElem? (i := 10) rfl
theorem lX11_fees_239 : Cond.fieldLink RX11 239 (TX11 45).1 (TX11 45).2.1 (TX11 45).2.2.1 ∈ wsX11_fees := List.mem_of_getElem? (i := 8) rfl
theorem inX11_fees_11 : ∀ w ∈ u_ws RX11 TX11 59, w ∈ wsX11_fees := fun _ h => List.mem_cons_of_mem _ (List.mem_append_right _ h)
theorem hdX11_fees : yX11_fees.cls = RX11 ∧ yX11_fees.cls ≠ "java/lang/invoke/MethodHandle" ∧ yX11_fees.cls ≠ "java/lang/invoke/VarHandle" ∧ (parseMethodDescriptor yX11_fees.desc).map (fun d => d.parameters.length) = some 0 := by decide +kernel
abbrev wrX11_fees_62 : List (Nat × Nat) := [(0, 3968), (0, 4004), (0, 3970), (0, 4003), (0, 4008), (0, 4009), (0, 4010), (0, 4013), (0, 4005), (0, 4007), (0, 4006), (0, 4011), (1, 96), (0, 4012), (1, 97), (1, 98), (1, 99), (1, 100), (1, 101), (1, 102), (1, 88), (1, 89), (1, 93), (1, 94), (1, 95), (1, 90), (1, 91), (1, 92)]
abbrev rmX11_fees_62 : Room := { frames := 5, cells := 0, slots := 0, locals := 116 }
set_option maxHeartbeats 4000000 in
set_option maxRecDepth 100000 in
theorem wX11_fees_62_177 {p : Program} {l : Launch} {e : Env} {s : State} {m : MethodId} {args : Array Value} {below : List Frame} {meth : Method} {c : Code} {D : va_G} {b : Nat → Nat} {ids : List Nat} {A : Nat → Prop} {S0 : ns_S} {o : Int32 × Int32 × Int32 × Int32 × Int32 × Int32 × Int32 × Int32 × Int32 × Int32 × Int32 × Int32 × Int32 × (Nat → Int32) × Int32 × (Nat → Int32) × (Nat → Int32) × (Nat → Int32) × (Nat → Int32) × (Nat → Int32) × (Nat → Int32) × (Nat → Int32) × (Nat → Int32) × (Nat → Int32) × (Nat → Int32) × (Nat → Int32) × (Nat → Int32) × (Nat → Int32) × (Nat → Int32)} (N : Nat) (hI : ∀ i, i < 107 → i ∈ ids) (C : ns_C p m c cX11_fees 4 s args wsX11_fees RX11 D A) (hr : meth.sig.returnType = some .int) (hlk : meth.locks = false) {r119 : Int32 → Int32 → Int32 → Int32 → Int32 → Int32 → Int32 → Int32 → (Nat → Int32) → Int32 → Int32 → Int32 → Int32 → (Nat → Int32) → Int32 → (Nat → Int32) → (Nat → Int32) → (Nat → Int32) → (Nat → Int32) → (Nat → Int32) → (Nat → Int32) → (Nat → Int32) → (Nat → Int32) → (Nat → Int32) → (Nat → Int32) → (Nat → Int32) → (Nat → Int32) → (Nat → Int32) → (Nat → Int32) → Int32 → Option (Int32 × Int32 × Int32 × Int32 × Int32 × Int32 × Int32 × Int32 × Int32 × Int32 × Int32 × Int32 × Int32 × (Nat → Int32) × Int32 × (Nat → Int32) × (Nat → Int32) × (Nat → Int32) × (Nat → Int32) × (Nat → Int32) × (Nat → Int32) × (Nat → Int32) × (Nat → Int32) × (Nat → Int32) × (Nat → Int32) × (Nat → Int32) × (Nat → Int32) × (Nat → Int32) × (Nat → Int32))} (K119 : ∀ {S : ns_S} {H : Heap} {locs : List Loc} {ls : Array Slot} {l2 : Int32}, ns_W D b ids A s.heap wrX11_fees_62 S0 S H locs → lv_has ls 4 [(0, .ref (b 62)), (2, .int l2)] → r119 (S.1 3968) (S.1 3970) (S.1 4004) (S.1 4003) (S.1 4008) (S.1 4009) (S.1 4010) (S.1 4013) (S.2.1 63) (S.1 4005) (S.1 4007) (S.1 4006) (S.1 4011) (S.2.1 96) (S.1 4012) (S.2.1 97) (S.2.1 98) (S.2.1 99) (S.2.1 100) (S.2.1 101) (S.2.1 102) (S.2.1 88) (S.2.1 89) (S.2.1 93) (S.2.1 94) (S.2.1 95) (S.2.1 90) (S.2.1 91) (S.2.1 92) l2 = some o → W p l e rmX11_fees_62 s m args below meth c H locs 0 0 (MQ below (ns_Q D b ids (ns_I (ns_I (ns_I (ns_I (ns_I (ns_I (ns_I (ns_I (ns_I (ns_I (ns_I (ns_I (ns_A (ns_I (ns_A (ns_A (ns_A (ns_A (ns_A (ns_A (ns_A (ns_A (ns_A (ns_A (ns_A (ns_A (ns_A (ns_A S0 92 o.2.2.2.2.2.2.2.2.2.2.2.2.2.2.2.2.2.2.2.2.2.2.2.2.2.2.2.2) 91 o.2.2.2.2.2.2.2.2.2.2.2.2.2.2.2.2.2.2.2.2.2.2.2.2.2.2.2.1) 90 o.2.2.2.2.2.2.2.2.2.2.2.2.2.2.2.2.2.2.2.2.2.2.2.2.2.2.1) 95 o.2.2.2.2.2.2.2.2.2.2.2.2.2.2.2.2.2.2.2.2.2.2.2.2.2.1) 94 o.2.2.2.2.2.2.2.2.2.2.2.2.2.2.2.2.2.2.2.2.2.2.2.2.1) 93 o.2.2.2.2.2.2.2.2.2.2.2.2.2.2.2.2.2.2.2.2.2.2.2.1) 89 o.2.2.2.2.2.2.2.2.2.2.2.2.2.2.2.2.2.2.2.2.2.2.1) 88 o.2.2.2.2.2.2.2.2.2.2.2.2.2.2.2.2.2.2.2.2.2.1) 102 o.2.2.2.2.2.2.2.2.2.2.2.2.2.2.2.2.2.2.2.2.1) 101 o.2.2.2.2.2.2.2.2.2.2.2.2.2.2.2.2.2.2.2.1) 100 o.2.2.2.2.2.2.2.2.2.2.2.2.2.2.2.2.2.2.1) 99 o.2.2.2.2.2.2.2.2.2.2.2.2.2.2.2.2.2.1) 98 o.2.2.2.2.2.2.2.2.2.2.2.2.2.2.2.2.1) 97 o.2.2.2.2.2.2.2.2.2.2.2.2.2.2.2.1) 4012 o.2.2.2.2.2.2.2.2.2.2.2.2.2.2.1) 96 o.2.2.2.2.2.2.2.2.2.2.2.2.2.1) 4011 o.2.2.2.2.2.2.2.2.2.2.2.2.1) 4006 o.2.2.2.2.2.2.2.2.2.2.2.1) 4007 o.2.2.2.2.2.2.2.2.2.2.1) 4005 o.2.2.2.2.2.2.2.2.2.1) 4013 o.2.2.2.2.2.2.2.2.1) 4010 o.2.2.2.2.2.2.2.1) 4009 o.2.2.2.2.2.2.1) 4008 o.2.2.2.2.2.1) 4003 o.2.2.2.2.1) 3970 o.2.2.2.1) 4004 o.2.2.1) 3968 o.2.1) (some (.int o.1)) A) args s 0 0 A) (F0 m 119 ls [])) : ∀ n : Nat, ∀ {S : ns_S} {H : Heap} {locs : List Loc} {ls : Array Slot} {l2 : Int32} {l3 : Int32}, ns_W D b ids A s.heap wrX11_fees_62 S0 S H locs → lv_has ls 4 [(0, .ref (b 62)), (2, .int l2), (3, .int l3)] → fX11_fees_177 N r119 n (S.1 3968) (S.1 3970) (S.1 4004) (S.1 4003) (S.1 4008) (S.1 4009) (S.1 4010) (S.1 4013) (S.2.1 63) (S.1 4005) (S.1 4007) (S.1 4006) (S.1 4011) (S.2.1 96) (S.1 4012) (S.2.1 97) (S.2.1 98) (S.2.1 99) (S.2.1 100) (S.2.1 101) (S.2.1 102) (S.2.1 88) (S.2.1 89) (S.2.1 93) (S.2.1 94) (S.2.1 95) (S.2.1 90) (S.2.1 91) (S.2.1 92) l2 l3 = some o → W p l e rmX11_fees_62 s m args below meth c H locs 0 0 (MQ below (ns_Q D b ids (ns_I (ns_I (ns_I (ns_I (ns_I (ns_I (ns_I (ns_I (ns_I (ns_I (ns_I (ns_I (ns_A (ns_I (ns_A (ns_A (ns_A (ns_A (ns_A (ns_A (ns_A (ns_A (ns_A (ns_A (ns_A (ns_A (ns_A (ns_A S0 92 o.2.2.2.2.2.2.2.2.2.2.2.2.2.2.2.2.2.2.2.2.2.2.2.2.2.2.2.2) 91 o.2.2.2.2.2.2.2.2.2.2.2.2.2.2.2.2.2.2.2.2.2.2.2.2.2.2.2.1) 90 o.2.2.2.2.2.2.2.2.2.2.2.2.2.2.2.2.2.2.2.2.2.2.2.2.2.2.1) 95 o.2.2.2.2.2.2.2.2.2.2.2.2.2.2.2.2.2.2.2.2.2.2.2.2.2.1) 94 o.2.2.2.2.2.2.2.2.2.2.2.2.2.2.2.2.2.2.2.2.2.2.2.2.1) 93 o.2.2.2.2.2.2.2.2.2.2.2.2.2.2.2.2.2.2.2.2.2.2.2.1) 89 o.2.2.2.2.2.2.2.2.2.2.2.2.2.2.2.2.2.2.2.2.2.2.1) 88 o.2.2.2.2.2.2.2.2.2.2.2.2.2.2.2.2.2.2.2.2.2.1) 102 o.2.2.2.2.2.2.2.2.2.2.2.2.2.2.2.2.2.2.2.2.1) 101 o.2.2.2.2.2.2.2.2.2.2.2.2.2.2.2.2.2.2.2.1) 100 o.2.2.2.2.2.2.2.2.2.2.2.2.2.2.2.2.2.2.1) 99 o.2.2.2.2.2.2.2.2.2.2.2.2.2.2.2.2.2.1) 98 o.2.2.2.2.2.2.2.2.2.2.2.2.2.2.2.2.1) 97 o.2.2.2.2.2.2.2.2.2.2.2.2.2.2.2.1) 4012 o.2.2.2.2.2.2.2.2.2.2.2.2.2.2.1) 96 o.2.2.2.2.2.2.2.2.2.2.2.2.2.1) 4011 o.2.2.2.2.2.2.2.2.2.2.2.2.1) 4006 o.2.2.2.2.2.2.2.2.2.2.2.1) 4007 o.2.2.2.2.2.2.2.2.2.2.1) 4005 o.2.2.2.2.2.2.2.2.2.1) 4013 o.2.2.2.2.2.2.2.2.1) 4010 o.2.2.2.2.2.2.2.1) 4009 o.2.2.2.2.2.2.1) 4008 o.2.2.2.2.2.1) 4003 o.2.2.2.2.1) 3970 o.2.2.2.1) 4004 o.2.2.1) 3968 o.2.1) (some (.int o.1)) A) args s 0 0 A) (F0 m 177 ls []) := by
  intro n
  induction n with
  | zero =>
    intro S H locs ls l2 l3 w hl hf
    cases hf
  | succ n K177 =>
    intro S H locs ls l2 l3 w hl hf
    change gX11_fees_177 N r119 (fX11_fees_177 N r119 n) (S.1 3968) (S.1 3970) (S.1 4004) (S.1 4003) (S.1 4008) (S.1 4009) (S.1 4010) (S.1 4013) (S.2.1 63) (S.1 4005) (S.1 4007) (S.1 4006) (S.1 4011) (S.2.1 96) (S.1 4012) (S.2.1 97) (S.2.1 98) (S.2.1 99) (S.2.1 100) (S.2.1 101) (S.2.1 102) (S.2.1 88) (S.2.1 89) (S.2.1 93) (S.2.1 94) (S.2.1 95) (S.2.1 90) (S.2.1 91) (S.2.1 92) l2 l3 = some o at hf
    generalize fX11_fees_177 N r119 n = r177 at hf K177
    unfold gX11_fees_177 at hf
    refine lv_iload_n C.1.1 C.1.2.1 dX11_fees_177 rfl (lv_at hl 2 rfl) ?_
    refine lv_aload_n C.1.1 C.1.2.1 dX11_fees_178 rfl (lv_at hl 0 rfl) ?_
    refine ns_getr C w 62 (hI 62 (by decide)) sh_62 (rfl : vwCl[11]? = some (RX11, TX11, 59)) inX11_fees_11 46 (by decide) rfl lX11_fees_115 dX11_fees_179 ?_
    refine lv_iload_n C.1.1 C.1.2.1 dX11_fees_182 rfl (lv_at hl 1 rfl) ?_
    refine ns_iald C w 96 (hI 96 (by decide)) sh_96 hf rfl dX11_fees_183 (fun x1 hf => ?_)
    refine ns_icmp_ge C hf (tgt := 253) dX11_fees_184 (by decide) (fun hf => ?_) (fun hf => ?_)
    · refine ns_iinc (lv' := fun x2 => [(2, .int x2), (0, .ref (b 62)), (3, .int l3)]) C hf dX11_fees_253 hl (k := 1) rfl rfl (by decide) (fun _ => rfl) (fun x2 ls hl hf => ?_)
      refine lv_goto (tgt := 119) C.1.1 C.1.2.1 dX11_fees_256 (by decide) ?_
      exact K119 w (lv_sub hl [1, 0] rfl) hf
    · refine lv_aload_n C.1.1 C.1.2.1 dX11_fees_187 rfl (lv_at hl 0 rfl) ?_
      refine ns_getr C w 62 (hI 62 (by decide)) sh_62 (rfl : vwCl[11]? = some (RX11, TX11, 59)) inX11_fees_11 29 (by decide) rfl lX11_fees_93 dX11_fees_188 ?_
      refine lv_iconst (v := 4) C.1.1 C.1.2.1 dX11_fees_191 (by decide) ?_
      refine lv_iload_n C.1.1 C.1.2.1 dX11_fees_192 rfl (lv_at hl 1 rfl) ?_
      refine lv_imul C.1.1 C.1.2.1 dX11_fees_193 ?_
      refine lv_iload_n C.1.1 C.1.2.1 dX11_fees_194 rfl (lv_at hl 2 rfl) ?_
      refine lv_iadd C.1.1 C.1.2.1 dX11_fees_195 ?_
      refine lv_aload_n C.1.1 C.1.2.1 dX11_fees_196 rfl (lv_at hl 0 rfl) ?_
      refine ns_getr C w 62 (hI 62 (by decide)) sh_62 (rfl : vwCl[11]? = some (RX11, TX11, 59)) inX11_fees_11 47 (by decide) rfl lX11_fees_118 dX11_fees_197 ?_
      refine lv_iconst (v := 4) C.1.1 C.1.2.1 dX11_fees_200 (by decide) ?_
      refine lv_iload_n C.1.1 C.1.2.1 dX11_fees_201 rfl (lv_at hl 1 rfl) ?_
      refine lv_imul C.1.1 C.1.2.1 dX11_fees_202 ?_
      refine lv_iload_n C.1.1 C.1.2.1 dX11_fees_203 rfl (lv_at hl 2 rfl) ?_
      refine lv_iadd C.1.1 C.1.2.1 dX11_fees_204 ?_
      refine ns_iald C w 97 (hI 97 (by decide)) sh_97 hf rfl dX11_fees_205 (fun x3 hf => ?_)
      refine ns_iast C w 90 (hI 90 (by decide)) sh_90 hf rfl (List.mem_of_getElem? (i := 25) rfl) dX11_fees_206 (fun y4 H locs hf w => ?_)
      refine lv_aload_n C.1.1 C.1.2.1 dX11_fees_207 rfl (lv_at hl 0 rfl) ?_
      refine ns_getr C w 62 (hI 62 (by decide)) sh_62 (rfl : vwCl[11]? = some (RX11, TX11, 59)) inX11_fees_11 30 (by decide) rfl lX11_fees_96 dX11_fees_208 ?_
      refine lv_iconst (v := 4) C.1.1 C.1.2.1 dX11_fees_211 (by decide) ?_
      refine lv_iload_n C.1.1 C.1.2.1 dX11_fees_212 rfl (lv_at hl 1 rfl) ?_
      refine lv_imul C.1.1 C.1.2.1 dX11_fees_213 ?_
      refine lv_iload_n C.1.1 C.1.2.1 dX11_fees_214 rfl (lv_at hl 2 rfl) ?_
      refine lv_iadd C.1.1 C.1.2.1 dX11_fees_215 ?_
      refine lv_aload_n C.1.1 C.1.2.1 dX11_fees_216 rfl (lv_at hl 0 rfl) ?_
      refine ns_getr C w 62 (hI 62 (by decide)) sh_62 (rfl : vwCl[11]? = some (RX11, TX11, 59)) inX11_fees_11 48 (by decide) rfl lX11_fees_121 dX11_fees_217 ?_
      refine lv_iconst (v := 4) C.1.1 C.1.2.1 dX11_fees_220 (by decide) ?_
      refine lv_iload_n C.1.1 C.1.2.1 dX11_fees_221 rfl (lv_at hl 1 rfl) ?_
      refine lv_imul C.1.1 C.1.2.1 dX11_fees_222 ?_
      refine lv_iload_n C.1.1 C.1.2.1 dX11_fees_223 rfl (lv_at hl 2 rfl) ?_
      refine lv_iadd C.1.1 C.1.2.1 dX11_fees_224 ?_
      refine ns_iald C w 98 (hI 98 (by decide)) sh_98 hf rfl dX11_fees_225 (fun x5 hf => ?_)
      refine ns_iast C w 91 (hI 91 (by decide)) sh_91 hf rfl (List.mem_of_getElem? (i := 26) rfl) dX11_fees_226 (fun y6 H locs hf w => ?_)
      refine lv_aload_n C.1.1 C.1.2.1 dX11_fees_227 rfl (lv_at hl 0 rfl) ?_
      refine ns_getr C w 62 (hI 62 (by decide)) sh_62 (rfl : vwCl[11]? = some (RX11, TX11, 59)) inX11_fees_11 31 (by decide) rfl lX11_fees_99 dX11_fees_228 ?_
      refine lv_iconst (v := 4) C.1.1 C.1.2.1 dX11_fees_231 (by decide) ?_
      refine lv_iload_n C.1.1 C.1.2.1 dX11_fees_232 rfl (lv_at hl 1 rfl) ?_
      refine lv_imul C.1.1 C.1.2.1 dX11_fees_233 ?_
      refine lv_iload_n C.1.1 C.1.2.1 dX11_fees_234 rfl (lv_at hl 2 rfl) ?_
      refine lv_iadd C.1.1 C.1.2.1 dX11_fees_235 ?_
      refine lv_aload_n C.1.1 C.1.2.1 dX11_fees_236 rfl (lv_at hl 0 rfl) ?_
      refine ns_getr C w 62 (hI 62 (by decide)) sh_62 (rfl : vwCl[11]? = some (RX11, TX11, 59)) inX11_fees_11 49 (by decide) rfl lX11_fees_124 dX11_fees_237 ?_
      refine lv_iconst (v := 4) C.1.1 C.1.2.1 dX11_fees_240 (by decide) ?_
      refine lv_iload_n C.1.1 C.1.2.1 dX11_fees_241 rfl (lv_at hl 1 rfl) ?_
      refine lv_imul C.1.1 C.1.2.1 dX11_fees_242 ?_
      refine lv_iload_n C.1.1 C.1.2.1 dX11_fees_243 rfl (lv_at hl 2 rfl) ?_
      refine lv_iadd C.1.1 C.1.2.1 dX11_fees_244 ?_
      refine ns_iald C w 99 (hI 99 (by decide)) sh_99 hf rfl dX11_fees_245 (fun x7 hf => ?_)
      refine ns_iast C w 92 (hI 92 (by decide)) sh_92 hf rfl (List.mem_of_getElem? (i := 27) rfl) dX11_fees_246 (fun y8 H locs hf w => ?_)
      refine ns_iinc (lv' := fun x9 => [(3, .int x9), (0, .ref (b 62)), (2, .int l2)]) C hf dX11_fees_247 hl (k := 2) rfl rfl (by decide) (fun _ => rfl) (fun x9 ls hl hf => ?_)
      refine lv_goto (tgt := 177) C.1.1 C.1.2.1 dX11_fees_250 (by decide) ?_
      exact K177 w (lv_sub hl [1, 2, 0] rfl) hf
set_option maxHeartbeats 4000000 in
set_option maxRecDepth 100000 in
theorem wX11_fees_62_119 {p : Program} {l : Launch} {e : Env} {s : State} {m : MethodId} {args : Array Value} {below : List Frame} {meth : Method} {c : Code} {D : va_G} {b : Nat → Nat} {ids : List Nat} {A : Nat → Prop} {S0 : ns_S} {o : Int32 × Int32 × Int32 × Int32 × Int32 × Int32 × Int32 × Int32 × Int32 × Int32 × Int32 × Int32 × Int32 × (Nat → Int32) × Int32 × (Nat → Int32) × (Nat → Int32) × (Nat → Int32) × (Nat → Int32) × (Nat → Int32) × (Nat → Int32) × (Nat → Int32) × (Nat → Int32) × (Nat → Int32) × (Nat → Int32) × (Nat → Int32) × (Nat → Int32) × (Nat → Int32) × (Nat → Int32)} (N : Nat) (hI : ∀ i, i < 107 → i ∈ ids) (C : ns_C p m c cX11_fees 4 s args wsX11_fees RX11 D A) (hr : meth.sig.returnType = some .int) (hlk : meth.locks = false) : ∀ n : Nat, ∀ {S : ns_S} {H : Heap} {locs : List Loc} {ls : Array Slot} {l2 : Int32}, ns_W D b ids A s.heap wrX11_fees_62 S0 S H locs → lv_has ls 4 [(0, .ref (b 62)), (2, .int l2)] → fX11_fees_119 N n (S.1 3968) (S.1 3970) (S.1 4004) (S.1 4003) (S.1 4008) (S.1 4009) (S.1 4010) (S.1 4013) (S.2.1 63) (S.1 4005) (S.1 4007) (S.1 4006) (S.1 4011) (S.2.1 96) (S.1 4012) (S.2.1 97) (S.2.1 98) (S.2.1 99) (S.2.1 100) (S.2.1 101) (S.2.1 102) (S.2.1 88) (S.2.1 89) (S.2.1 93) (S.2.1 94) (S.2.1 95) (S.2.1 90) (S.2.1 91) (S.2.1 92) l2 = some o → W p l e rmX11_fees_62 s m args below meth c H locs 0 0 (MQ below (ns_Q D b ids (ns_I (ns_I (ns_I (ns_I (ns_I (ns_I (ns_I (ns_I (ns_I (ns_I (ns_I (ns_I (ns_A (ns_I (ns_A (ns_A (ns_A (ns_A (ns_A (ns_A (ns_A (ns_A (ns_A (ns_A (ns_A (ns_A (ns_A (ns_A S0 92 o.2.2.2.2.2.2.2.2.2.2.2.2.2.2.2.2.2.2.2.2.2.2.2.2.2.2.2.2) 91 o.2.2.2.2.2.2.2.2.2.2.2.2.2.2.2.2.2.2.2.2.2.2.2.2.2.2.2.1) 90 o.2.2.2.2.2.2.2.2.2.2.2.2.2.2.2.2.2.2.2.2.2.2.2.2.2.2.1) 95 o.2.2.2.2.2.2.2.2.2.2.2.2.2.2.2.2.2.2.2.2.2.2.2.2.2.1) 94 o.2.2.2.2.2.2.2.2.2.2.2.2.2.2.2.2.2.2.2.2.2.2.2.2.1) 93 o.2.2.2.2.2.2.2.2.2.2.2.2.2.2.2.2.2.2.2.2.2.2.2.1) 89 o.2.2.2.2.2.2.2.2.2.2.2.2.2.2.2.2.2.2.2.2.2.2.1) 88 o.2.2.2.2.2.2.2.2.2.2.2.2.2.2.2.2.2.2.2.2.2.1) 102 o.2.2.2.2.2.2.2.2.2.2.2.2.2.2.2.2.2.2.2.2.1) 101 o.2.2.2.2.2.2.2.2.2.2.2.2.2.2.2.2.2.2.2.1) 100 o.2.2.2.2.2.2.2.2.2.2.2.2.2.2.2.2.2.2.1) 99 o.2.2.2.2.2.2.2.2.2.2.2.2.2.2.2.2.2.1) 98 o.2.2.2.2.2.2.2.2.2.2.2.2.2.2.2.2.1) 97 o.2.2.2.2.2.2.2.2.2.2.2.2.2.2.2.1) 4012 o.2.2.2.2.2.2.2.2.2.2.2.2.2.2.1) 96 o.2.2.2.2.2.2.2.2.2.2.2.2.2.1) 4011 o.2.2.2.2.2.2.2.2.2.2.2.2.1) 4006 o.2.2.2.2.2.2.2.2.2.2.2.1) 4007 o.2.2.2.2.2.2.2.2.2.2.1) 4005 o.2.2.2.2.2.2.2.2.2.1) 4013 o.2.2.2.2.2.2.2.2.1) 4010 o.2.2.2.2.2.2.2.1) 4009 o.2.2.2.2.2.2.1) 4008 o.2.2.2.2.2.1) 4003 o.2.2.2.2.1) 3970 o.2.2.2.1) 4004 o.2.2.1) 3968 o.2.1) (some (.int o.1)) A) args s 0 0 A) (F0 m 119 ls []) := by
  intro n
  induction n with
  | zero =>
    intro S H locs ls l2 w hl hf
    cases hf
  | succ n K119 =>
    intro S H locs ls l2 w hl hf
    change gX11_fees_119 N (fX11_fees_119 N n) (S.1 3968) (S.1 3970) (S.1 4004) (S.1 4003) (S.1 4008) (S.1 4009) (S.1 4010) (S.1 4013) (S.2.1 63) (S.1 4005) (S.1 4007) (S.1 4006) (S.1 4011) (S.2.1 96) (S.1 4012) (S.2.1 97) (S.2.1 98) (S.2.1 99) (S.2.1 100) (S.2.1 101) (S.2.1 102) (S.2.1 88) (S.2.1 89) (S.2.1 93) (S.2.1 94) (S.2.1 95) (S.2.1 90) (S.2.1 91) (S.2.1 92) l2 = some o at hf
    generalize fX11_fees_119 N n = r119 at hf K119
    unfold gX11_fees_119 at hf
    refine lv_iload_n C.1.1 C.1.2.1 dX11_fees_119 rfl (lv_at hl 1 rfl) ?_
    refine lv_aload_n C.1.1 C.1.2.1 dX11_fees_120 rfl (lv_at hl 0 rfl) ?_
    refine ns_geti C w 62 (hI 62 (by decide)) sh_62 (rfl : vwCl[11]? = some (RX11, TX11, 59)) inX11_fees_11 45 (by decide) rfl lX11_fees_239 (S.1 4013) rfl dX11_fees_121 ?_
    refine ns_icmp_ge C hf (tgt := 259) dX11_fees_124 (by decide) (fun hf => ?_) (fun hf => ?_)
    · refine lv_aload_n C.1.1 C.1.2.1 dX11_fees_259 rfl (lv_at hl 0 rfl) ?_
      refine ns_geti C w 62 (hI 62 (by decide)) sh_62 (rfl : vwCl[11]? = some (RX11, TX11, 59)) inX11_fees_11 45 (by decide) rfl lX11_fees_239 (S.1 4013) rfl dX11_fees_260 ?_
      have he := Option.some.inj hf
      subst he
      exact ns_iret C w hr hlk rfl rfl dX11_fees_263
    · refine lv_aload_n C.1.1 C.1.2.1 dX11_fees_127 rfl (lv_at hl 0 rfl) ?_
      refine ns_getr C w 62 (hI 62 (by decide)) sh_62 (rfl : vwCl[11]? = some (RX11, TX11, 59)) inX11_fees_11 28 (by decide) rfl lX11_fees_90 dX11_fees_128 ?_
      refine lv_iload_n C.1.1 C.1.2.1 dX11_fees_131 rfl (lv_at hl 1 rfl) ?_
      refine lv_aload_n C.1.1 C.1.2.1 dX11_fees_132 rfl (lv_at hl 0 rfl) ?_
      refine ns_getr C w 62 (hI 62 (by decide)) sh_62 (rfl : vwCl[11]? = some (RX11, TX11, 59)) inX11_fees_11 46 (by decide) rfl lX11_fees_115 dX11_fees_133 ?_
      refine lv_iload_n C.1.1 C.1.2.1 dX11_fees_136 rfl (lv_at hl 1 rfl) ?_
      refine ns_iald C w 96 (hI 96 (by decide)) sh_96 hf rfl dX11_fees_137 (fun x1 hf => ?_)
      refine ns_iast C w 89 (hI 89 (by decide)) sh_89 hf rfl (List.mem_of_getElem? (i := 21) rfl) dX11_fees_138 (fun y2 H locs hf w => ?_)
      refine lv_aload_n C.1.1 C.1.2.1 dX11_fees_139 rfl (lv_at hl 0 rfl) ?_
      refine ns_getr C w 62 (hI 62 (by decide)) sh_62 (rfl : vwCl[11]? = some (RX11, TX11, 59)) inX11_fees_11 32 (by decide) rfl lX11_fees_102 dX11_fees_140 ?_
      refine lv_iload_n C.1.1 C.1.2.1 dX11_fees_143 rfl (lv_at hl 1 rfl) ?_
      refine lv_aload_n C.1.1 C.1.2.1 dX11_fees_144 rfl (lv_at hl 0 rfl) ?_
      refine ns_getr C w 62 (hI 62 (by decide)) sh_62 (rfl : vwCl[11]? = some (RX11, TX11, 59)) inX11_fees_11 50 (by decide) rfl lX11_fees_127 dX11_fees_145 ?_
      refine lv_iload_n C.1.1 C.1.2.1 dX11_fees_148 rfl (lv_at hl 1 rfl) ?_
      refine ns_iald C w 100 (hI 100 (by decide)) sh_100 hf rfl dX11_fees_149 (fun x3 hf => ?_)
      refine ns_iast C w 93 (hI 93 (by decide)) sh_93 hf rfl (List.mem_of_getElem? (i := 22) rfl) dX11_fees_150 (fun y4 H locs hf w => ?_)
      refine lv_aload_n C.1.1 C.1.2.1 dX11_fees_151 rfl (lv_at hl 0 rfl) ?_
      refine ns_getr C w 62 (hI 62 (by decide)) sh_62 (rfl : vwCl[11]? = some (RX11, TX11, 59)) inX11_fees_11 33 (by decide) rfl lX11_fees_105 dX11_fees_152 ?_
      refine lv_iload_n C.1.1 C.1.2.1 dX11_fees_155 rfl (lv_at hl 1 rfl) ?_
      refine lv_aload_n C.1.1 C.1.2.1 dX11_fees_156 rfl (lv_at hl 0 rfl) ?_
      refine ns_getr C w 62 (hI 62 (by decide)) sh_62 (rfl : vwCl[11]? = some (RX11, TX11, 59)) inX11_fees_11 51 (by decide) rfl lX11_fees_130 dX11_fees_157 ?_
      refine lv_iload_n C.1.1 C.1.2.1 dX11_fees_160 rfl (lv_at hl 1 rfl) ?_
      refine ns_iald C w 101 (hI 101 (by decide)) sh_101 hf rfl dX11_fees_161 (fun x5 hf => ?_)
      refine ns_iast C w 94 (hI 94 (by decide)) sh_94 hf rfl (List.mem_of_getElem? (i := 23) rfl) dX11_fees_162 (fun y6 H locs hf w => ?_)
      refine lv_aload_n C.1.1 C.1.2.1 dX11_fees_163 rfl (lv_at hl 0 rfl) ?_
      refine ns_getr C w 62 (hI 62 (by decide)) sh_62 (rfl : vwCl[11]? = some (RX11, TX11, 59)) inX11_fees_11 34 (by decide) rfl lX11_fees_108 dX11_fees_164 ?_
      refine lv_iload_n C.1.1 C.1.2.1 dX11_fees_167 rfl (lv_at hl 1 rfl) ?_
      refine lv_aload_n C.1.1 C.1.2.1 dX11_fees_168 rfl (lv_at hl 0 rfl) ?_
      refine ns_getr C w 62 (hI 62 (by decide)) sh_62 (rfl : vwCl[11]? = some (RX11, TX11, 59)) inX11_fees_11 52 (by decide) rfl lX11_fees_133 dX11_fees_169 ?_
      refine lv_iload_n C.1.1 C.1.2.1 dX11_fees_172 rfl (lv_at hl 1 rfl) ?_
      refine ns_iald C w 102 (hI 102 (by decide)) sh_102 hf rfl dX11_fees_173 (fun x7 hf => ?_)
      refine ns_iast C w 95 (hI 95 (by decide)) sh_95 hf rfl (List.mem_of_getElem? (i := 24) rfl) dX11_fees_174 (fun y8 H locs hf w => ?_)
      refine lv_iconst (v := 0) C.1.1 C.1.2.1 dX11_fees_175 (by decide) ?_
      refine lv_istore_n (lv' := [(3, .int 0), (0, .ref (b 62)), (2, .int l2)]) C.1.1 C.1.2.1 dX11_fees_176 rfl hl (by decide) rfl (fun ls hl => ?_)
      exact wX11_fees_62_177 N hI C hr hlk K119 N w (lv_sub hl [1, 2, 0] rfl) hf
set_option maxHeartbeats 4000000 in
set_option maxRecDepth 100000 in
theorem wX11_fees_62_98 {p : Program} {l : Launch} {e : Env} {s : State} {m : MethodId} {args : Array Value} {below : List Frame} {meth : Method} {c : Code} {D : va_G} {b : Nat → Nat} {ids : List Nat} {A : Nat → Prop} {S0 : ns_S} {o : Int32 × Int32 × Int32 × Int32 × Int32 × Int32 × Int32 × Int32 × Int32 × Int32 × Int32 × Int32 × Int32 × (Nat → Int32) × Int32 × (Nat → Int32) × (Nat → Int32) × (Nat → Int32) × (Nat → Int32) × (Nat → Int32) × (Nat → Int32) × (Nat → Int32) × (Nat → Int32) × (Nat → Int32) × (Nat → Int32) × (Nat → Int32) × (Nat → Int32) × (Nat → Int32) × (Nat → Int32)} (N : Nat) (hI : ∀ i, i < 107 → i ∈ ids) (C : ns_C p m c cX11_fees 4 s args wsX11_fees RX11 D A) (hr : meth.sig.returnType = some .int) (hlk : meth.locks = false) : ∀ {S : ns_S} {H : Heap} {locs : List Loc} {ls : Array Slot}, ns_W D b ids A s.heap wrX11_fees_62 S0 S H locs → lv_has ls 4 [(0, .ref (b 62))] → gX11_fees_98 N (S.1 3968) (S.1 3970) (S.1 4004) (S.1 4003) (S.1 4008) (S.1 4009) (S.1 4010) (S.1 4013) (S.2.1 63) (S.1 4005) (S.1 4007) (S.1 4006) (S.1 4011) (S.2.1 96) (S.1 4012) (S.2.1 97) (S.2.1 98) (S.2.1 99) (S.2.1 100) (S.2.1 101) (S.2.1 102) (S.2.1 88) (S.2.1 89) (S.2.1 93) (S.2.1 94) (S.2.1 95) (S.2.1 90) (S.2.1 91) (S.2.1 92) = some o → W p l e rmX11_fees_62 s m args below meth c H locs 0 0 (MQ below (ns_Q D b ids (ns_I (ns_I (ns_I (ns_I (ns_I (ns_I (ns_I (ns_I (ns_I (ns_I (ns_I (ns_I (ns_A (ns_I (ns_A (ns_A (ns_A (ns_A (ns_A (ns_A (ns_A (ns_A (ns_A (ns_A (ns_A (ns_A (ns_A (ns_A S0 92 o.2.2.2.2.2.2.2.2.2.2.2.2.2.2.2.2.2.2.2.2.2.2.2.2.2.2.2.2) 91 o.2.2.2.2.2.2.2.2.2.2.2.2.2.2.2.2.2.2.2.2.2.2.2.2.2.2.2.1) 90 o.2.2.2.2.2.2.2.2.2.2.2.2.2.2.2.2.2.2.2.2.2.2.2.2.2.2.1) 95 o.2.2.2.2.2.2.2.2.2.2.2.2.2.2.2.2.2.2.2.2.2.2.2.2.2.1) 94 o.2.2.2.2.2.2.2.2.2.2.2.2.2.2.2.2.2.2.2.2.2.2.2.2.1) 93 o.2.2.2.2.2.2.2.2.2.2.2.2.2.2.2.2.2.2.2.2.2.2.2.1) 89 o.2.2.2.2.2.2.2.2.2.2.2.2.2.2.2.2.2.2.2.2.2.2.1) 88 o.2.2.2.2.2.2.2.2.2.2.2.2.2.2.2.2.2.2.2.2.2.1) 102 o.2.2.2.2.2.2.2.2.2.2.2.2.2.2.2.2.2.2.2.2.1) 101 o.2.2.2.2.2.2.2.2.2.2.2.2.2.2.2.2.2.2.2.1) 100 o.2.2.2.2.2.2.2.2.2.2.2.2.2.2.2.2.2.2.1) 99 o.2.2.2.2.2.2.2.2.2.2.2.2.2.2.2.2.2.1) 98 o.2.2.2.2.2.2.2.2.2.2.2.2.2.2.2.2.1) 97 o.2.2.2.2.2.2.2.2.2.2.2.2.2.2.2.1) 4012 o.2.2.2.2.2.2.2.2.2.2.2.2.2.2.1) 96 o.2.2.2.2.2.2.2.2.2.2.2.2.2.1) 4011 o.2.2.2.2.2.2.2.2.2.2.2.2.1) 4006 o.2.2.2.2.2.2.2.2.2.2.2.1) 4007 o.2.2.2.2.2.2.2.2.2.2.1) 4005 o.2.2.2.2.2.2.2.2.2.1) 4013 o.2.2.2.2.2.2.2.2.1) 4010 o.2.2.2.2.2.2.2.1) 4009 o.2.2.2.2.2.2.1) 4008 o.2.2.2.2.2.1) 4003 o.2.2.2.2.1) 3970 o.2.2.2.1) 4004 o.2.2.1) 3968 o.2.1) (some (.int o.1)) A) args s 0 0 A) (F0 m 98 ls []) := by
  intro S H locs ls w hl hf
  unfold gX11_fees_98 at hf
  refine lv_aload_n C.1.1 C.1.2.1 dX11_fees_98 rfl (lv_at hl 0 rfl) ?_
  refine ns_geti C w 62 (hI 62 (by decide)) sh_62 (rfl : vwCl[11]? = some (RX11, TX11, 59)) inX11_fees_11 40 (by decide) rfl lX11_fees_216 (S.1 4008) rfl dX11_fees_99 ?_
  refine ns_if_le C hf (tgt := 107) dX11_fees_102 (by decide) (fun hf => ?_) (fun hf => ?_)
  · refine lv_aload_n C.1.1 C.1.2.1 dX11_fees_107 rfl (lv_at hl 0 rfl) ?_
    refine ns_getr C w 62 (hI 62 (by decide)) sh_62 (rfl : vwCl[11]? = some (RX11, TX11, 59)) inX11_fees_11 27 (by decide) rfl lX11_fees_87 dX11_fees_108 ?_
    refine lv_iconst (v := 0) C.1.1 C.1.2.1 dX11_fees_111 (by decide) ?_
    refine lv_aload_n C.1.1 C.1.2.1 dX11_fees_112 rfl (lv_at hl 0 rfl) ?_
    refine ns_geti C w 62 (hI 62 (by decide)) sh_62 (rfl : vwCl[11]? = some (RX11, TX11, 59)) inX11_fees_11 45 (by decide) rfl lX11_fees_239 (S.1 4013) rfl dX11_fees_113 ?_
    refine ns_iast C w 88 (hI 88 (by decide)) sh_88 hf rfl (List.mem_of_getElem? (i := 20) rfl) dX11_fees_116 (fun y1 H locs hf w => ?_)
    refine lv_iconst (v := 0) C.1.1 C.1.2.1 dX11_fees_117 (by decide) ?_
    refine lv_istore_n (lv' := [(2, .int 0), (0, .ref (b 62))]) C.1.1 C.1.2.1 dX11_fees_118 rfl hl (by decide) rfl (fun ls hl => ?_)
    exact wX11_fees_62_119 N hI C hr hlk N w (lv_sub hl [1, 0] rfl) hf
  · refine lv_iconst (v := (-1)) C.1.1 C.1.2.1 dX11_fees_105 (by decide) ?_
    have he := Option.some.inj hf
    subst he
    exact ns_iret C w hr hlk rfl rfl dX11_fees_106
set_option maxHeartbeats 4000000 in
set_option maxRecDepth 100000 in
theorem wX11_fees_62_68 {p : Program} {l : Launch} {e : Env} {s : State} {m : MethodId} {args : Array Value} {below : List Frame} {meth : Method} {c : Code} {D : va_G} {b : Nat → Nat} {ids : List Nat} {A : Nat → Prop} {S0 : ns_S} {o : Int32 × Int32 × Int32 × Int32 × Int32 × Int32 × Int32 × Int32 × Int32 × Int32 × Int32 × Int32 × Int32 × (Nat → Int32) × Int32 × (Nat → Int32) × (Nat → Int32) × (Nat → Int32) × (Nat → Int32) × (Nat → Int32) × (Nat → Int32) × (Nat → Int32) × (Nat → Int32) × (Nat → Int32) × (Nat → Int32) × (Nat → Int32) × (Nat → Int32) × (Nat → Int32) × (Nat → Int32)} (N : Nat) (hI : ∀ i, i < 107 → i ∈ ids) (C : ns_C p m c cX11_fees 4 s args wsX11_fees RX11 D A) (hr : meth.sig.returnType = some .int) (hlk : meth.locks = false) : ∀ {S : ns_S} {H : Heap} {locs : List Loc} {ls : Array Slot}, ns_W D b ids A s.heap wrX11_fees_62 S0 S H locs → lv_has ls 4 [(0, .ref (b 62))] → gX11_fees_68 N (S.1 3968) (S.1 3970) (S.1 4004) (S.1 4003) (S.1 4008) (S.1 4009) (S.1 4010) (S.1 4013) (S.2.1 63) (S.1 4005) (S.1 4007) (S.1 4006) (S.1 4011) (S.2.1 96) (S.1 4012) (S.2.1 97) (S.2.1 98) (S.2.1 99) (S.2.1 100) (S.2.1 101) (S.2.1 102) (S.2.1 88) (S.2.1 89) (S.2.1 93) (S.2.1 94) (S.2.1 95) (S.2.1 90) (S.2.1 91) (S.2.1 92) = some o → W p l e rmX11_fees_62 s m args below meth c H locs 0 0 (MQ below (ns_Q D b ids (ns_I (ns_I (ns_I (ns_I (ns_I (ns_I (ns_I (ns_I (ns_I (ns_I (ns_I (ns_I (ns_A (ns_I (ns_A (ns_A (ns_A (ns_A (ns_A (ns_A (ns_A (ns_A (ns_A (ns_A (ns_A (ns_A (ns_A (ns_A S0 92 o.2.2.2.2.2.2.2.2.2.2.2.2.2.2.2.2.2.2.2.2.2.2.2.2.2.2.2.2) 91 o.2.2.2.2.2.2.2.2.2.2.2.2.2.2.2.2.2.2.2.2.2.2.2.2.2.2.2.1) 90 o.2.2.2.2.2.2.2.2.2.2.2.2.2.2.2.2.2.2.2.2.2.2.2.2.2.2.1) 95 o.2.2.2.2.2.2.2.2.2.2.2.2.2.2.2.2.2.2.2.2.2.2.2.2.2.1) 94 o.2.2.2.2.2.2.2.2.2.2.2.2.2.2.2.2.2.2.2.2.2.2.2.2.1) 93 o.2.2.2.2.2.2.2.2.2.2.2.2.2.2.2.2.2.2.2.2.2.2.2.1) 89 o.2.2.2.2.2.2.2.2.2.2.2.2.2.2.2.2.2.2.2.2.2.2.1) 88 o.2.2.2.2.2.2.2.2.2.2.2.2.2.2.2.2.2.2.2.2.2.1) 102 o.2.2.2.2.2.2.2.2.2.2.2.2.2.2.2.2.2.2.2.2.1) 101 o.2.2.2.2.2.2.2.2.2.2.2.2.2.2.2.2.2.2.2.1) 100 o.2.2.2.2.2.2.2.2.2.2.2.2.2.2.2.2.2.2.1) 99 o.2.2.2.2.2.2.2.2.2.2.2.2.2.2.2.2.2.1) 98 o.2.2.2.2.2.2.2.2.2.2.2.2.2.2.2.2.1) 97 o.2.2.2.2.2.2.2.2.2.2.2.2.2.2.2.1) 4012 o.2.2.2.2.2.2.2.2.2.2.2.2.2.2.1) 96 o.2.2.2.2.2.2.2.2.2.2.2.2.2.1) 4011 o.2.2.2.2.2.2.2.2.2.2.2.2.1) 4006 o.2.2.2.2.2.2.2.2.2.2.2.1) 4007 o.2.2.2.2.2.2.2.2.2.2.1) 4005 o.2.2.2.2.2.2.2.2.2.1) 4013 o.2.2.2.2.2.2.2.2.1) 4010 o.2.2.2.2.2.2.2.1) 4009 o.2.2.2.2.2.2.1) 4008 o.2.2.2.2.2.1) 4003 o.2.2.2.2.1) 3970 o.2.2.2.1) 4004 o.2.2.1) 3968 o.2.1) (some (.int o.1)) A) args s 0 0 A) (F0 m 68 ls []) := by
  intro S H locs ls w hl hf
  unfold gX11_fees_68 at hf
  refine lv_aload_n C.1.1 C.1.2.1 dX11_fees_68 rfl (lv_at hl 0 rfl) ?_
  refine ns_geti C w 62 (hI 62 (by decide)) sh_62 (rfl : vwCl[11]? = some (RX11, TX11, 59)) inX11_fees_11 40 (by decide) rfl lX11_fees_216 (S.1 4008) rfl dX11_fees_69 ?_
  refine ns_if_ne C hf (tgt := 98) dX11_fees_72 (by decide) (fun hf => ?_) (fun hf => ?_)
  · exact wX11_fees_62_98 N hI C hr hlk w (lv_sub hl [0] rfl) hf
  · refine lv_aload_n C.1.1 C.1.2.1 dX11_fees_75 rfl (lv_at hl 0 rfl) ?_
    refine ns_geti C w 62 (hI 62 (by decide)) sh_62 (rfl : vwCl[11]? = some (RX11, TX11, 59)) inX11_fees_11 42 (by decide) rfl lX11_fees_219 (S.1 4010) rfl dX11_fees_76 ?_
    refine ns_if_le C hf (tgt := 98) dX11_fees_79 (by decide) (fun hf => ?_) (fun hf => ?_)
    · exact wX11_fees_62_98 N hI C hr hlk w (lv_sub hl [0] rfl) hf
    · refine lv_aload_n C.1.1 C.1.2.1 dX11_fees_82 rfl (lv_at hl 0 rfl) ?_
      refine lv_aload_n C.1.1 C.1.2.1 dX11_fees_83 rfl (lv_at hl 0 rfl) ?_
      refine ns_geti C w 62 (hI 62 (by decide)) sh_62 (rfl : vwCl[11]? = some (RX11, TX11, 59)) inX11_fees_11 42 (by decide) rfl lX11_fees_219 (S.1 4010) rfl dX11_fees_84 ?_
      refine ns_puti C w 62 (hI 62 (by decide)) sh_62 (rfl : vwCl[11]? = some (RX11, TX11, 59)) inX11_fees_11 tyX11_ok nmX11 40 (by decide) rfl lX11_fees_216 rfl rfl rfl (List.mem_of_getElem? (i := 4) rfl) dX11_fees_87 (fun H locs w => ?_)
      refine lv_aload_n C.1.1 C.1.2.1 dX11_fees_90 rfl (lv_at hl 0 rfl) ?_
      refine lv_aload_n C.1.1 C.1.2.1 dX11_fees_91 rfl (lv_at hl 0 rfl) ?_
      refine ns_geti C w 62 (hI 62 (by decide)) sh_62 (rfl : vwCl[11]? = some (RX11, TX11, 59)) inX11_fees_11 43 (by decide) rfl lX11_fees_222 (S.1 4011) rfl dX11_fees_92 ?_
      refine ns_puti C w 62 (hI 62 (by decide)) sh_62 (rfl : vwCl[11]? = some (RX11, TX11, 59)) inX11_fees_11 tyX11_ok nmX11 41 (by decide) rfl lX11_fees_111 rfl rfl rfl (List.mem_of_getElem? (i := 5) rfl) dX11_fees_95 (fun H locs w => ?_)
      exact wX11_fees_62_98 N hI C hr hlk w (lv_sub hl [0] rfl) hf
set_option maxHeartbeats 4000000 in
set_option maxRecDepth 100000 in
theorem wX11_fees_62_49 {p : Program} {l : Launch} {e : Env} {s : State} {m : MethodId} {args : Array Value} {below : List Frame} {meth : Method} {c : Code} {D : va_G} {b : Nat → Nat} {ids : List Nat} {A : Nat → Prop} {S0 : ns_S} {o : Int32 × Int32 × Int32 × Int32 × Int32 × Int32 × Int32 × Int32 × Int32 × Int32 × Int32 × Int32 × Int32 × (Nat → Int32) × Int32 × (Nat → Int32) × (Nat → Int32) × (Nat → Int32) × (Nat → Int32) × (Nat → Int32) × (Nat → Int32) × (Nat → Int32) × (Nat → Int32) × (Nat → Int32) × (Nat → Int32) × (Nat → Int32) × (Nat → Int32) × (Nat → Int32) × (Nat → Int32)} (N : Nat) (hI : ∀ i, i < 107 → i ∈ ids) (C : ns_C p m c cX11_fees 4 s args wsX11_fees RX11 D A) (hr : meth.sig.returnType = some .int) (hlk : meth.locks = false) : ∀ n : Nat, ∀ {S : ns_S} {H : Heap} {locs : List Loc} {ls : Array Slot} {l1 : Int32}, ns_W D b ids A s.heap wrX11_fees_62 S0 S H locs → lv_has ls 4 [(0, .ref (b 62)), (1, .int l1)] → fX11_fees_49 N n (S.1 3968) (S.1 3970) (S.1 4004) (S.1 4003) (S.1 4008) (S.1 4009) (S.1 4010) (S.1 4013) (S.2.1 63) (S.1 4005) (S.1 4007) (S.1 4006) (S.1 4011) (S.2.1 96) (S.1 4012) (S.2.1 97) (S.2.1 98) (S.2.1 99) (S.2.1 100) (S.2.1 101) (S.2.1 102) (S.2.1 88) (S.2.1 89) (S.2.1 93) (S.2.1 94) (S.2.1 95) (S.2.1 90) (S.2.1 91) (S.2.1 92) l1 = some o → W p l e rmX11_fees_62 s m args below meth c H locs 0 0 (MQ below (ns_Q D b ids (ns_I (ns_I (ns_I (ns_I (ns_I (ns_I (ns_I (ns_I (ns_I (ns_I (ns_I (ns_I (ns_A (ns_I (ns_A (ns_A (ns_A (ns_A (ns_A (ns_A (ns_A (ns_A (ns_A (ns_A (ns_A (ns_A (ns_A (ns_A S0 92 o.2.2.2.2.2.2.2.2.2.2.2.2.2.2.2.2.2.2.2.2.2.2.2.2.2.2.2.2) 91 o.2.2.2.2.2.2.2.2.2.2.2.2.2.2.2.2.2.2.2.2.2.2.2.2.2.2.2.1) 90 o.2.2.2.2.2.2.2.2.2.2.2.2.2.2.2.2.2.2.2.2.2.2.2.2.2.2.1) 95 o.2.2.2.2.2.2.2.2.2.2.2.2.2.2.2.2.2.2.2.2.2.2.2.2.2.1) 94 o.2.2.2.2.2.2.2.2.2.2.2.2.2.2.2.2.2.2.2.2.2.2.2.2.1) 93 o.2.2.2.2.2.2.2.2.2.2.2.2.2.2.2.2.2.2.2.2.2.2.2.1) 89 o.2.2.2.2.2.2.2.2.2.2.2.2.2.2.2.2.2.2.2.2.2.2.1) 88 o.2.2.2.2.2.2.2.2.2.2.2.2.2.2.2.2.2.2.2.2.2.1) 102 o.2.2.2.2.2.2.2.2.2.2.2.2.2.2.2.2.2.2.2.2.1) 101 o.2.2.2.2.2.2.2.2.2.2.2.2.2.2.2.2.2.2.2.1) 100 o.2.2.2.2.2.2.2.2.2.2.2.2.2.2.2.2.2.2.1) 99 o.2.2.2.2.2.2.2.2.2.2.2.2.2.2.2.2.2.1) 98 o.2.2.2.2.2.2.2.2.2.2.2.2.2.2.2.2.1) 97 o.2.2.2.2.2.2.2.2.2.2.2.2.2.2.2.1) 4012 o.2.2.2.2.2.2.2.2.2.2.2.2.2.2.1) 96 o.2.2.2.2.2.2.2.2.2.2.2.2.2.1) 4011 o.2.2.2.2.2.2.2.2.2.2.2.2.1) 4006 o.2.2.2.2.2.2.2.2.2.2.2.1) 4007 o.2.2.2.2.2.2.2.2.2.2.1) 4005 o.2.2.2.2.2.2.2.2.2.1) 4013 o.2.2.2.2.2.2.2.2.1) 4010 o.2.2.2.2.2.2.2.1) 4009 o.2.2.2.2.2.2.1) 4008 o.2.2.2.2.2.1) 4003 o.2.2.2.2.1) 3970 o.2.2.2.1) 4004 o.2.2.1) 3968 o.2.1) (some (.int o.1)) A) args s 0 0 A) (F0 m 49 ls []) := by
  intro n
  induction n with
  | zero =>
    intro S H locs ls l1 w hl hf
    cases hf
  | succ n K49 =>
    intro S H locs ls l1 w hl hf
    change gX11_fees_49 N (fX11_fees_49 N n) (S.1 3968) (S.1 3970) (S.1 4004) (S.1 4003) (S.1 4008) (S.1 4009) (S.1 4010) (S.1 4013) (S.2.1 63) (S.1 4005) (S.1 4007) (S.1 4006) (S.1 4011) (S.2.1 96) (S.1 4012) (S.2.1 97) (S.2.1 98) (S.2.1 99) (S.2.1 100) (S.2.1 101) (S.2.1 102) (S.2.1 88) (S.2.1 89) (S.2.1 93) (S.2.1 94) (S.2.1 95) (S.2.1 90) (S.2.1 91) (S.2.1 92) l1 = some o at hf
    generalize fX11_fees_49 N n = r49 at hf K49
    unfold gX11_fees_49 at hf
    refine lv_iload_n C.1.1 C.1.2.1 dX11_fees_49 rfl (lv_at hl 1 rfl) ?_
    refine ns_if_eq C hf (tgt := 68) dX11_fees_50 (by decide) (fun hf => ?_) (fun hf => ?_)
    · exact wX11_fees_62_68 N hI C hr hlk w (lv_sub hl [0] rfl) hf
    · refine lv_aload_n C.1.1 C.1.2.1 dX11_fees_53 rfl (lv_at hl 0 rfl) ?_
      refine ns_geti C w 62 (hI 62 (by decide)) sh_62 (rfl : vwCl[11]? = some (RX11, TX11, 59)) inX11_fees_11 38 (by decide) rfl lX11_fees_213 (S.1 4006) rfl dX11_fees_54 ?_
      refine ns_if_eq C hf (tgt := 68) dX11_fees_57 (by decide) (fun hf => ?_) (fun hf => ?_)
      · exact wX11_fees_62_68 N hI C hr hlk w (lv_sub hl [0] rfl) hf
      · refine lv_aload_n C.1.1 C.1.2.1 dX11_fees_60 rfl (lv_at hl 0 rfl) ?_
        refine ns_callV C w 62 (hI 62 (by decide)) sh_62 (rfl : vwCl[11]? = some (RX11, TX11, 59)) [] hf (fun u hu => mX11_readLine_62 l D b ids hI N _ hu) gX11_fees_X11_readLine rfl rfl rfl hdX11_readLine ⟨Nat.le_of_ble_eq_true rfl, Nat.le_of_ble_eq_true rfl⟩ (fun u h => (((((((((((((((((h.I (List.mem_of_getElem? (i := 7) rfl) _).A (List.mem_of_getElem? (i := 19) rfl) _).A (List.mem_of_getElem? (i := 18) rfl) _).A (List.mem_of_getElem? (i := 17) rfl) _).A (List.mem_of_getElem? (i := 16) rfl) _).A (List.mem_of_getElem? (i := 15) rfl) _).A (List.mem_of_getElem? (i := 14) rfl) _).I (List.mem_of_getElem? (i := 13) rfl) _).I (List.mem_of_getElem? (i := 5) rfl) _).I (List.mem_of_getElem? (i := 4) rfl) _).I (List.mem_of_getElem? (i := 10) rfl) _).I (List.mem_of_getElem? (i := 3) rfl) _).I (List.mem_of_getElem? (i := 9) rfl) _).I (List.mem_of_getElem? (i := 8) rfl) _).A (List.mem_of_getElem? (i := 12) rfl) _).I (List.mem_of_getElem? (i := 11) rfl) _).I (List.mem_of_getElem? (i := 6) rfl) _)) rfl hl.1 rfl (Nat.le_of_ble_eq_true rfl) ⟨Nat.le_refl _, Nat.le_refl _⟩ dX11_fees_61 (fun o1 H locs hf w => ?_)
        refine lv_istore_n (lv' := [(1, .int o1.1), (0, .ref (b 62))]) C.1.1 C.1.2.1 dX11_fees_64 rfl hl (by decide) rfl (fun ls hl => ?_)
        refine lv_goto (tgt := 49) C.1.1 C.1.2.1 dX11_fees_65 (by decide) ?_
        exact K49 w (lv_sub hl [1, 0] rfl) hf
set_option maxHeartbeats 4000000 in
set_option maxRecDepth 100000 in
theorem mX11_fees_62 (l : Launch) (D : va_G) (b : Nat → Nat) (ids : List Nat) (hI : ∀ i, i < 107 → i ∈ ids) (N : Nat) (S : ns_S) {o : Int32 × Int32 × Int32 × Int32 × Int32 × Int32 × Int32 × Int32 × Int32 × Int32 × Int32 × Int32 × Int32 × (Nat → Int32) × Int32 × (Nat → Int32) × (Nat → Int32) × (Nat → Int32) × (Nat → Int32) × (Nat → Int32) × (Nat → Int32) × (Nat → Int32) × (Nat → Int32) × (Nat → Int32) × (Nat → Int32) × (Nat → Int32) × (Nat → Int32) × (Nat → Int32) × (Nat → Int32)} (hf : fX11_fees N (S.1 3968) (S.1 3970) (S.1 4004) (S.1 4003) (S.1 4008) (S.1 4009) (S.1 4010) (S.1 4013) (S.2.1 63) (S.1 4005) (S.1 4007) (S.1 4006) (S.1 4011) (S.2.1 96) (S.1 4012) (S.2.1 97) (S.2.1 98) (S.2.1 99) (S.2.1 100) (S.2.1 101) (S.2.1 102) (S.2.1 88) (S.2.1 89) (S.2.1 93) (S.2.1 94) (S.2.1 95) (S.2.1 90) (S.2.1 91) (S.2.1 92) = some o) : ns_M l yX11_fees wsX11_fees rmX11_fees_62 D b ids S [.ref (b 62)] (some (.int o.1)) (ns_I (ns_I (ns_I (ns_I (ns_I (ns_I (ns_I (ns_I (ns_I (ns_I (ns_I (ns_I (ns_A (ns_I (ns_A (ns_A (ns_A (ns_A (ns_A (ns_A (ns_A (ns_A (ns_A (ns_A (ns_A (ns_A (ns_A (ns_A S 92 o.2.2.2.2.2.2.2.2.2.2.2.2.2.2.2.2.2.2.2.2.2.2.2.2.2.2.2.2) 91 o.2.2.2.2.2.2.2.2.2.2.2.2.2.2.2.2.2.2.2.2.2.2.2.2.2.2.2.1) 90 o.2.2.2.2.2.2.2.2.2.2.2.2.2.2.2.2.2.2.2.2.2.2.2.2.2.2.1) 95 o.2.2.2.2.2.2.2.2.2.2.2.2.2.2.2.2.2.2.2.2.2.2.2.2.2.1) 94 o.2.2.2.2.2.2.2.2.2.2.2.2.2.2.2.2.2.2.2.2.2.2.2.2.1) 93 o.2.2.2.2.2.2.2.2.2.2.2.2.2.2.2.2.2.2.2.2.2.2.2.1) 89 o.2.2.2.2.2.2.2.2.2.2.2.2.2.2.2.2.2.2.2.2.2.2.1) 88 o.2.2.2.2.2.2.2.2.2.2.2.2.2.2.2.2.2.2.2.2.2.1) 102 o.2.2.2.2.2.2.2.2.2.2.2.2.2.2.2.2.2.2.2.2.1) 101 o.2.2.2.2.2.2.2.2.2.2.2.2.2.2.2.2.2.2.2.1) 100 o.2.2.2.2.2.2.2.2.2.2.2.2.2.2.2.2.2.2.1) 99 o.2.2.2.2.2.2.2.2.2.2.2.2.2.2.2.2.2.1) 98 o.2.2.2.2.2.2.2.2.2.2.2.2.2.2.2.2.1) 97 o.2.2.2.2.2.2.2.2.2.2.2.2.2.2.2.1) 4012 o.2.2.2.2.2.2.2.2.2.2.2.2.2.2.1) 96 o.2.2.2.2.2.2.2.2.2.2.2.2.2.1) 4011 o.2.2.2.2.2.2.2.2.2.2.2.2.1) 4006 o.2.2.2.2.2.2.2.2.2.2.2.1) 4007 o.2.2.2.2.2.2.2.2.2.2.1) 4005 o.2.2.2.2.2.2.2.2.2.1) 4013 o.2.2.2.2.2.2.2.2.1) 4010 o.2.2.2.2.2.2.2.1) 4009 o.2.2.2.2.2.2.1) 4008 o.2.2.2.2.2.1) 4003 o.2.2.2.2.1) 3970 o.2.2.2.1) 4004 o.2.2.1) 3968 o.2.1) := by
  refine ns_start (Wr := wrX11_fees_62) (by decide) rfl (Nat.le_of_ble_eq_true rfl) ?_
  intro p e s m below meth c A ls C hr hlk w hl
  have hl : lv_has ls 4 [(0, .ref (b 62))] := hl
  unfold fX11_fees at hf
  refine lv_aload_n C.1.1 C.1.2.1 dX11_fees_0 rfl (lv_at hl 0 rfl) ?_
  refine lv_iconst (v := 0) C.1.1 C.1.2.1 dX11_fees_1 (by decide) ?_
  refine ns_puti C w 62 (hI 62 (by decide)) sh_62 (rfl : vwCl[11]? = some (RX11, TX11, 59)) inX11_fees_11 tyX11_ok nmX11 0 (by decide) rfl lX11_fees_179 rfl rfl rfl (List.mem_of_getElem? (i := 0) rfl) dX11_fees_2 (fun H locs w => ?_)
  refine lv_aload_n C.1.1 C.1.2.1 dX11_fees_5 rfl (lv_at hl 0 rfl) ?_
  refine lv_aload_n C.1.1 C.1.2.1 dX11_fees_6 rfl (lv_at hl 0 rfl) ?_
  refine ns_geti C w 62 (hI 62 (by decide)) sh_62 (rfl : vwCl[11]? = some (RX11, TX11, 59)) inX11_fees_11 2 (by decide) rfl lX11_fees_186 (S.1 3970) rfl dX11_fees_7 ?_
  refine ns_puti C w 62 (hI 62 (by decide)) sh_62 (rfl : vwCl[11]? = some (RX11, TX11, 59)) inX11_fees_11 tyX11_ok nmX11 36 (by decide) rfl lX11_fees_200 rfl rfl rfl (List.mem_of_getElem? (i := 1) rfl) dX11_fees_10 (fun H locs w => ?_)
  refine lv_aload_n C.1.1 C.1.2.1 dX11_fees_13 rfl (lv_at hl 0 rfl) ?_
  refine lv_iconst (v := 0) C.1.1 C.1.2.1 dX11_fees_14 (by decide) ?_
  refine ns_puti C w 62 (hI 62 (by decide)) sh_62 (rfl : vwCl[11]? = some (RX11, TX11, 59)) inX11_fees_11 tyX11_ok nmX11 2 (by decide) rfl lX11_fees_186 rfl rfl rfl (List.mem_of_getElem? (i := 2) rfl) dX11_fees_15 (fun H locs w => ?_)
  refine lv_aload_n C.1.1 C.1.2.1 dX11_fees_18 rfl (lv_at hl 0 rfl) ?_
  refine lv_iconst (v := 0) C.1.1 C.1.2.1 dX11_fees_19 (by decide) ?_
  refine ns_puti C w 62 (hI 62 (by decide)) sh_62 (rfl : vwCl[11]? = some (RX11, TX11, 59)) inX11_fees_11 tyX11_ok nmX11 35 (by decide) rfl lX11_fees_197 rfl rfl rfl (List.mem_of_getElem? (i := 3) rfl) dX11_fees_20 (fun H locs w => ?_)
  refine lv_aload_n C.1.1 C.1.2.1 dX11_fees_23 rfl (lv_at hl 0 rfl) ?_
  refine lv_iconst (v := 0) C.1.1 C.1.2.1 dX11_fees_24 (by decide) ?_
  refine ns_puti C w 62 (hI 62 (by decide)) sh_62 (rfl : vwCl[11]? = some (RX11, TX11, 59)) inX11_fees_11 tyX11_ok nmX11 40 (by decide) rfl lX11_fees_216 rfl rfl rfl (List.mem_of_getElem? (i := 4) rfl) dX11_fees_25 (fun H locs w => ?_)
  refine lv_aload_n C.1.1 C.1.2.1 dX11_fees_28 rfl (lv_at hl 0 rfl) ?_
  refine lv_iconst (v := (-1)) C.1.1 C.1.2.1 dX11_fees_29 (by decide) ?_
  refine ns_puti C w 62 (hI 62 (by decide)) sh_62 (rfl : vwCl[11]? = some (RX11, TX11, 59)) inX11_fees_11 tyX11_ok nmX11 41 (by decide) rfl lX11_fees_111 rfl rfl rfl (List.mem_of_getElem? (i := 5) rfl) dX11_fees_30 (fun H locs w => ?_)
  refine lv_aload_n C.1.1 C.1.2.1 dX11_fees_33 rfl (lv_at hl 0 rfl) ?_
  refine lv_iconst (v := 0) C.1.1 C.1.2.1 dX11_fees_34 (by decide) ?_
  refine ns_puti C w 62 (hI 62 (by decide)) sh_62 (rfl : vwCl[11]? = some (RX11, TX11, 59)) inX11_fees_11 tyX11_ok nmX11 42 (by decide) rfl lX11_fees_219 rfl rfl rfl (List.mem_of_getElem? (i := 6) rfl) dX11_fees_35 (fun H locs w => ?_)
  refine lv_aload_n C.1.1 C.1.2.1 dX11_fees_38 rfl (lv_at hl 0 rfl) ?_
  refine lv_iconst (v := 0) C.1.1 C.1.2.1 dX11_fees_39 (by decide) ?_
  refine ns_puti C w 62 (hI 62 (by decide)) sh_62 (rfl : vwCl[11]? = some (RX11, TX11, 59)) inX11_fees_11 tyX11_ok nmX11 45 (by decide) rfl lX11_fees_239 rfl rfl rfl (List.mem_of_getElem? (i := 7) rfl) dX11_fees_40 (fun H locs w => ?_)
  refine lv_iconst (v := 1) C.1.1 C.1.2.1 dX11_fees_43 (by decide) ?_
  refine lv_istore_n (lv' := [(1, .int 1), (0, .ref (b 62))]) C.1.1 C.1.2.1 dX11_fees_44 rfl hl (by decide) rfl (fun ls hl => ?_)
  refine lv_aload_n C.1.1 C.1.2.1 dX11_fees_45 rfl (lv_at hl 1 rfl) ?_
  refine ns_callV C w 62 (hI 62 (by decide)) sh_62 (rfl : vwCl[11]? = some (RX11, TX11, 59)) [] hf (fun u hu => mX11_next_62 l D b ids hI N _ hu) gX11_fees_X11_next rfl rfl rfl hdX11_next ⟨Nat.le_of_ble_eq_true rfl, Nat.le_of_ble_eq_true rfl⟩ (fun u h => ((((h.I (List.mem_of_getElem? (i := 10) rfl) _).I (List.mem_of_getElem? (i := 3) rfl) _).I (List.mem_of_getElem? (i := 9) rfl) _).I (List.mem_of_getElem? (i := 8) rfl) _)) rfl hl.1 rfl (Nat.le_of_ble_eq_true rfl) ⟨Nat.le_refl _, Nat.le_refl _⟩ dX11_fees_46 (fun o1 H locs hf w => ?_)
  exact wX11_fees_62_49 N hI C hr hlk N w (lv_sub hl [1, 0] rfl) hf
theorem lX10_fault_16 : Cond.fieldLink RX10 16 (TX10 2).1 (TX10 2).2.1 (TX10 2).2.2.1 ∈ wsX10_fault := List.mem_of_getElem? (i := 1) rfl
theorem lX10_fault_66 : Cond.fieldLink RX10 66 (TX1 2).1 (TX1 2).2.1 (TX1 2).2.2.1 ∈ wsX10_fault := List.mem_of_getElem? (i := 2) rfl
theorem lX10_fault_69 : Cond.fieldLink RX10 69 (TX1 3).1 (TX1 3).2.1 (TX1 3).2.2.1 ∈ wsX10_fault := List.mem_of_getElem? (i := 3) rfl
theorem inX10_fault_1 : ∀ w ∈ u_ws RX1 TX1 5, w ∈ wsX10_fault := fun _ h => List.mem_cons_of_mem _ (List.mem_append_right _ h)
theorem inX10_fault_10 : ∀ w ∈ u_ws RX10 TX10 6, w ∈ wsX10_fault := fun _ h => List.mem_cons_of_mem _ (List.mem_append_left _ (List.mem_append_right _ h))
theorem hdX10_fault : yX10_fault.cls = RX10 ∧ yX10_fault.cls ≠ "java/lang/invoke/MethodHandle" ∧ yX10_fault.cls ≠ "java/lang/invoke/VarHandle" ∧ (parseMethodDescriptor yX10_fault.desc).map (fun d => d.parameters.length) = some 1 := by decide +kernel
abbrev wrX10_fault_0 : List (Nat × Nat) := []
abbrev rmX10_fault_0 : Room := { frames := 0, cells := 0, slots := 0, locals := 0 }
set_option maxHeartbeats 4000000 in
set_option maxRecDepth 100000 in
theorem mX10_fault_0 (l : Launch) (D : va_G) (b : Nat → Nat) (ids : List Nat) (hI : ∀ i, i < 107 → i ∈ ids) (N : Nat) (S : ns_S) (p1 : Int32) {o : Int32} (hf : fX10_fault N (S.1 130) (S.1 131) p1 = some o) : ns_M l yX10_fault wsX10_fault rmX10_fault_0 D b ids S [.ref (b 0), .int p1] (some (.int o)) S := by
  refine ns_start (Wr := wrX10_fault_0) (by decide) rfl (Nat.le_of_ble_eq_true rfl) ?_
  intro p e s m below meth c A ls C hr hlk w hl
  have hl : lv_has ls 2 [(0, .ref (b 0)), (1, .int p1)] := hl
  unfold fX10_fault at hf
  refine lv_iload_n C.1.1 C.1.2.1 dX10_fault_0 rfl (lv_at hl 1 rfl) ?_
  by_cases h_0 : p1 = 0
  · rw [if_pos h_0] at hf
    refine lv_lookup (tgt := 28) (off := 27) C.1.1 C.1.2.1 dX10_fault_1 (by decide) (by rw [h_0] <;> rfl) (by decide) ?_
    refine lv_aload_n C.1.1 C.1.2.1 dX10_fault_28 rfl (lv_at hl 0 rfl) ?_
    refine ns_getr C w 0 (hI 0 (by decide)) sh_0 (rfl : vwCl[10]? = some (RX10, TX10, 6)) inX10_fault_10 2 (by decide) rfl lX10_fault_16 dX10_fault_29 ?_
    refine ns_geti C w 2 (hI 2 (by decide)) sh_2 (rfl : vwCl[1]? = some (RX1, TX1, 5)) inX10_fault_1 2 (by decide) rfl lX10_fault_66 (S.1 130) rfl dX10_fault_32 ?_
    have he := Option.some.inj hf
    subst he
    exact ns_iret C w hr hlk rfl rfl dX10_fault_35
  rw [if_neg h_0] at hf
  by_cases h_1 : p1 = 1
  · rw [if_pos h_1] at hf
    refine lv_lookup (tgt := 36) (off := 35) C.1.1 C.1.2.1 dX10_fault_1 (by decide) (by rw [h_1] <;> rfl) (by decide) ?_
    refine lv_aload_n C.1.1 C.1.2.1 dX10_fault_36 rfl (lv_at hl 0 rfl) ?_
    refine ns_getr C w 0 (hI 0 (by decide)) sh_0 (rfl : vwCl[10]? = some (RX10, TX10, 6)) inX10_fault_10 2 (by decide) rfl lX10_fault_16 dX10_fault_37 ?_
    refine ns_geti C w 2 (hI 2 (by decide)) sh_2 (rfl : vwCl[1]? = some (RX1, TX1, 5)) inX10_fault_1 3 (by decide) rfl lX10_fault_69 (S.1 131) rfl dX10_fault_40 ?_
    have he := Option.some.inj hf
    subst he
    exact ns_iret C w hr hlk rfl rfl dX10_fault_43
  rw [if_neg h_1] at hf
  refine lv_lookup (tgt := 44) (off := 43) C.1.1 C.1.2.1 dX10_fault_1 (by decide) (by rw [lv_osw h_0 (by decide), lv_osw h_1 (by decide)] <;> rfl) (by decide) ?_
  refine lv_iconst (v := (-1)) C.1.1 C.1.2.1 dX10_fault_44 (by decide) ?_
  have he := Option.some.inj hf
  subst he
  exact ns_iret C w hr hlk rfl rfl dX10_fault_45
theorem lX11_fault_111 : Cond.fieldLink RX11 111 (TX11 41).1 (TX11 41).2.1 (TX11 41).2.2.1 ∈ wsX11_fault := List.mem_of_getElem? (i := 3) rfl
theorem lX11_fault_179 : Cond.fieldLink RX11 179 (TX11 0).1 (TX11 0).2.1 (TX11 0).2.2.1 ∈ wsX11_fault := List.mem_of_getElem? (i := 1) rfl
theorem lX11_fault_216 : Cond.fieldLink RX11 216 (TX11 40).1 (TX11 40).2.1 (TX11 40).2.2.1 ∈ wsX11_fault := List.mem_of_getElem? (i := 2) rfl
theorem inX11_fault_11 : ∀ w ∈ u_ws RX11 TX11 59, w ∈ wsX11_fault := fun _ h => List.mem_cons_of_mem _ (List.mem_append_right _ h)
theorem hdX11_fault : yX11_fault.cls = RX11 ∧ yX11_fault.cls ≠ "java/lang/invoke/MethodHandle" ∧ yX11_fault.cls ≠ "java/lang/invoke/VarHandle" ∧ (parseMethodDescriptor yX11_fault.desc).map (fun d => d.parameters.length) = some 1 := by decide +kernel
abbrev wrX11_fault_62 : List (Nat × Nat) := [(0, 3968)]
abbrev rmX11_fault_62 : Room := { frames := 0, cells := 0, slots := 0, locals := 0 }
set_option maxHeartbeats 4000000 in
set_option maxRecDepth 100000 in
theorem mX11_fault_62 (l : Launch) (D : va_G) (b : Nat → Nat) (ids : List Nat) (hI : ∀ i, i < 107 → i ∈ ids) (N : Nat) (S : ns_S) (p1 : Int32) {o : Int32 × Int32} (hf : fX11_fault N (S.1 3968) (S.1 4009) (S.1 4008) p1 = some o) : ns_M l yX11_fault wsX11_fault rmX11_fault_62 D b ids S [.ref (b 62), .int p1] (some (.int o.1)) (ns_I S 3968 o.2) := by
  refine ns_start (Wr := wrX11_fault_62) (by decide) rfl (Nat.le_of_ble_eq_true rfl) ?_
  intro p e s m below meth c A ls C hr hlk w hl
  have hl : lv_has ls 2 [(0, .ref (b 62)), (1, .int p1)] := hl
  unfold fX11_fault at hf
  refine lv_aload_n C.1.1 C.1.2.1 dX11_fault_0 rfl (lv_at hl 0 rfl) ?_
  refine lv_iconst (v := 0) C.1.1 C.1.2.1 dX11_fault_1 (by decide) ?_
  refine ns_puti C w 62 (hI 62 (by decide)) sh_62 (rfl : vwCl[11]? = some (RX11, TX11, 59)) inX11_fault_11 tyX11_ok nmX11 0 (by decide) rfl lX11_fault_179 rfl rfl rfl (List.mem_of_getElem? (i := 0) rfl) dX11_fault_2 (fun H locs w => ?_)
  refine lv_iload_n C.1.1 C.1.2.1 dX11_fault_5 rfl (lv_at hl 1 rfl) ?_
  refine ns_if_ne C hf (tgt := 16) dX11_fault_6 (by decide) (fun hf => ?_) (fun hf => ?_)
  · refine lv_iload_n C.1.1 C.1.2.1 dX11_fault_16 rfl (lv_at hl 1 rfl) ?_
    refine lv_iconst (v := 1) C.1.1 C.1.2.1 dX11_fault_17 (by decide) ?_
    refine ns_icmp_ne C hf (tgt := 28) dX11_fault_18 (by decide) (fun hf => ?_) (fun hf => ?_)
    · refine lv_iconst (v := (-1)) C.1.1 C.1.2.1 dX11_fault_28 (by decide) ?_
      have he := Option.some.inj hf
      subst he
      exact ns_iret C w hr hlk rfl rfl dX11_fault_29
    · refine lv_aload_n C.1.1 C.1.2.1 dX11_fault_21 rfl (lv_at hl 0 rfl) ?_
      refine ns_geti C w 62 (hI 62 (by decide)) sh_62 (rfl : vwCl[11]? = some (RX11, TX11, 59)) inX11_fault_11 41 (by decide) rfl lX11_fault_111 (S.1 4009) rfl dX11_fault_22 ?_
      refine lv_goto (tgt := 29) C.1.1 C.1.2.1 dX11_fault_25 (by decide) ?_
      have he := Option.some.inj hf
      subst he
      exact ns_iret C w hr hlk rfl rfl dX11_fault_29
  · refine lv_aload_n C.1.1 C.1.2.1 dX11_fault_9 rfl (lv_at hl 0 rfl) ?_
    refine ns_geti C w 62 (hI 62 (by decide)) sh_62 (rfl : vwCl[11]? = some (RX11, TX11, 59)) inX11_fault_11 40 (by decide) rfl lX11_fault_216 (S.1 4008) rfl dX11_fault_10 ?_
    refine lv_goto (tgt := 29) C.1.1 C.1.2.1 dX11_fault_13 (by decide) ?_
    have he := Option.some.inj hf
    subst he
    exact ns_iret C w hr hlk rfl rfl dX11_fault_29
theorem lX8_isOn_9 : Cond.fieldLink RX8 9 (TX8 0).1 (TX8 0).2.1 (TX8 0).2.2.1 ∈ wsX8_isOn := List.mem_of_getElem? (i := 1) rfl
theorem inX8_isOn_8 : ∀ w ∈ u_ws RX8 TX8 6, w ∈ wsX8_isOn := fun _ h => List.mem_cons_of_mem _ (List.mem_append_right _ h)
theorem hdX8_isOn : yX8_isOn.cls = RX8 ∧ yX8_isOn.cls ≠ "java/lang/invoke/MethodHandle" ∧ yX8_isOn.cls ≠ "java/lang/invoke/VarHandle" ∧ (parseMethodDescriptor yX8_isOn.desc).map (fun d => d.parameters.length) = some 0 := by decide +kernel
abbrev wrX8_isOn_48 : List (Nat × Nat) := []
abbrev rmX8_isOn_48 : Room := { frames := 0, cells := 0, slots := 0, locals := 0 }
set_option maxHeartbeats 4000000 in
set_option maxRecDepth 100000 in
theorem mX8_isOn_48 (l : Launch) (D : va_G) (b : Nat → Nat) (ids : List Nat) (hI : ∀ i, i < 107 → i ∈ ids) (N : Nat) (S : ns_S) {o : Int32} (hf : fX8_isOn N (S.1 3072) = some o) : ns_M l yX8_isOn wsX8_isOn rmX8_isOn_48 D b ids S [.ref (b 48)] (some (.int o)) S := by
  refine ns_start (Wr := wrX8_isOn_48) (by decide) rfl (Nat.le_of_ble_eq_true rfl) ?_
  intro p e s m below meth c A ls C hr hlk w hl
  have hl : lv_has ls 1 [(0, .ref (b 48))] := hl
  unfold fX8_isOn at hf
  refine lv_aload_n C.1.1 C.1.2.1 dX8_isOn_0 rfl (lv_at hl 0 rfl) ?_
  refine ns_geti C w 48 (hI 48 (by decide)) sh_48 (rfl : vwCl[8]? = some (RX8, TX8, 6)) inX8_isOn_8 0 (by decide) rfl lX8_isOn_9 (S.1 3072) rfl dX8_isOn_1 ?_
  refine lv_iconst (v := (-1)) C.1.1 C.1.2.1 dX8_isOn_4 (by decide) ?_
  refine ns_icmp_eq C hf (tgt := 12) dX8_isOn_5 (by decide) (fun hf => ?_) (fun hf => ?_)
  · refine lv_iconst (v := 0) C.1.1 C.1.2.1 dX8_isOn_12 (by decide) ?_
    have he := Option.some.inj hf
    subst he
    exact ns_zret C w hr hlk rfl (Or.inl rfl) rfl dX8_isOn_13
  · refine lv_iconst (v := 1) C.1.1 C.1.2.1 dX8_isOn_8 (by decide) ?_
    refine lv_goto (tgt := 13) C.1.1 C.1.2.1 dX8_isOn_9 (by decide) ?_
    have he := Option.some.inj hf
    subst he
    exact ns_zret C w hr hlk rfl (Or.inr rfl) rfl dX8_isOn_13
theorem hdX10_isWithin : yX10_isWithin.cls ≠ "java/lang/invoke/MethodHandle" ∧ yX10_isWithin.cls ≠ "java/lang/invoke/VarHandle" ∧ (parseMethodDescriptor yX10_isWithin.desc).map (fun d => d.parameters.length) = some 3 := by decide +kernel
abbrev wrX10_isWithin : List (Nat × Nat) := []
abbrev rmX10_isWithin : Room := { frames := 0, cells := 0, slots := 0, locals := 0 }
set_option maxHeartbeats 4000000 in
set_option maxRecDepth 100000 in
theorem mX10_isWithin (l : Launch) (D : va_G) (b : Nat → Nat) (ids : List Nat) (hI : ∀ i, i < 107 → i ∈ ids) (N : Nat) (S : ns_S) (p0 : Int32) (p1 : Int32) (p2 : Int32) {o : Int32} (hf : fX10_isWithin N p0 p1 p2 = some o) : ns_M l yX10_isWithin wsX10_isWithin rmX10_isWithin D b ids S [.int p0, .int p1, .int p2] (some (.int o)) S := by
  refine ns_start (Wr := wrX10_isWithin) (by decide) rfl (Nat.le_of_ble_eq_true rfl) ?_
  intro p e s m below meth c A ls C hr hlk w hl
  have hl : lv_has ls 3 [(0, .int p0), (1, .int p1), (2, .int p2)] := hl
  unfold fX10_isWithin at hf
  refine lv_iload_n C.1.1 C.1.2.1 dX10_isWithin_0 rfl (lv_at hl 0 rfl) ?_
  refine lv_iload_n C.1.1 C.1.2.1 dX10_isWithin_1 rfl (lv_at hl 1 rfl) ?_
  refine ns_icmp_lt C hf (tgt := 14) dX10_isWithin_2 (by decide) (fun hf => ?_) (fun hf => ?_)
  · refine lv_iconst (v := 0) C.1.1 C.1.2.1 dX10_isWithin_14 (by decide) ?_
    have he := Option.some.inj hf
    subst he
    exact ns_zret C w hr hlk rfl (Or.inl rfl) rfl dX10_isWithin_15
  · refine lv_iload_n C.1.1 C.1.2.1 dX10_isWithin_5 rfl (lv_at hl 0 rfl) ?_
    refine lv_iload_n C.1.1 C.1.2.1 dX10_isWithin_6 rfl (lv_at hl 2 rfl) ?_
    refine ns_icmp_gt C hf (tgt := 14) dX10_isWithin_7 (by decide) (fun hf => ?_) (fun hf => ?_)
    · refine lv_iconst (v := 0) C.1.1 C.1.2.1 dX10_isWithin_14 (by decide) ?_
      have he := Option.some.inj hf
      subst he
      exact ns_zret C w hr hlk rfl (Or.inl rfl) rfl dX10_isWithin_15
    · refine lv_iconst (v := 1) C.1.1 C.1.2.1 dX10_isWithin_10 (by decide) ?_
      refine lv_goto (tgt := 15) C.1.1 C.1.2.1 dX10_isWithin_11 (by decide) ?_
      have he := Option.some.inj hf
      subst he
      exact ns_zret C w hr hlk rfl (Or.inr rfl) rfl dX10_isWithin_15
theorem lX10_room_30 : Cond.fieldLink RX10 30 (TX10 4).1 (TX10 4).2.1 (TX10 4).2.2.1 ∈ wsX10_room := List.mem_of_getElem? (i := 1) rfl
theorem lX10_room_72 : Cond.fieldLink RX10 72 (TX6 0).1 (TX6 0).2.1 (TX6 0).2.2.1 ∈ wsX10_room := List.mem_of_getElem? (i := 2) rfl
theorem lX10_room_76 : Cond.fieldLink RX10 76 (TX6 4).1 (TX6 4).2.1 (TX6 4).2.2.1 ∈ wsX10_room := List.mem_of_getElem? (i := 3) rfl
theorem lX10_room_86 : Cond.fieldLink RX10 86 (TX5 0).1 (TX5 0).2.1 (TX5 0).2.2.1 ∈ wsX10_room := List.mem_of_getElem? (i := 4) rfl
theorem lX10_room_93 : Cond.fieldLink RX10 93 (TX5 1).1 (TX5 1).2.1 (TX5 1).2.2.1 ∈ wsX10_room := List.mem_of_getElem? (i := 5) rfl
theorem inX10_room_5 : ∀ w ∈ u_ws RX5 TX5 2, w ∈ wsX10_room := fun _ h => List.mem_cons_of_mem _ (List.mem_append_left _ (List.mem_append_right _ h))
theorem inX10_room_6 : ∀ w ∈ u_ws RX6 TX6 6, w ∈ wsX10_room := fun _ h => List.mem_cons_of_mem _ (List.mem_append_left _ (List.mem_append_left _ (List.mem_append_right _ h)))
theorem inX10_room_10 : ∀ w ∈ u_ws RX10 TX10 6, w ∈ wsX10_room := fun _ h => List.mem_cons_of_mem _ (List.mem_append_left _ (List.mem_append_left _ (List.mem_append_left _ (List.mem_append_right _ h))))
theorem hdX10_room : yX10_room.cls = RX10 ∧ yX10_room.cls ≠ "java/lang/invoke/MethodHandle" ∧ yX10_room.cls ≠ "java/lang/invoke/VarHandle" ∧ (parseMethodDescriptor yX10_room.desc).map (fun d => d.parameters.length) = some 1 := by decide +kernel
abbrev wrX10_room_0 : List (Nat × Nat) := [(1, 30), (0, 1856)]
abbrev rmX10_room_0 : Room := { frames := 1, cells := 0, slots := 0, locals := 22 }
set_option maxHeartbeats 4000000 in
set_option maxRecDepth 100000 in
theorem mX10_room_0 (l : Launch) (D : va_G) (b : Nat → Nat) (ids : List Nat) (hI : ∀ i, i < 107 → i ∈ ids) (N : Nat) (S : ns_S) (p1 : Int32) {o : Int32 × (Nat → Int32) × Int32} (hf : fX10_room N (S.1 3072) (S.1 1856) (S.2.1 30) p1 = some o) : ns_M l yX10_room wsX10_room rmX10_room_0 D b ids S [.ref (b 0), .int p1] (some (.int o.1)) (ns_A (ns_I S 1856 o.2.2) 30 o.2.1) := by
  refine ns_start (Wr := wrX10_room_0) (by decide) rfl (Nat.le_of_ble_eq_true rfl) ?_
  intro p e s m below meth c A ls C hr hlk w hl
  have hl : lv_has ls 4 [(0, .ref (b 0)), (1, .int p1)] := hl
  unfold fX10_room at hf
  refine lv_aload_n C.1.1 C.1.2.1 dX10_room_0 rfl (lv_at hl 0 rfl) ?_
  refine ns_getr C w 0 (hI 0 (by decide)) sh_0 (rfl : vwCl[10]? = some (RX10, TX10, 6)) inX10_room_10 4 (by decide) rfl lX10_room_30 dX10_room_1 ?_
  refine ns_getr C w 28 (hI 28 (by decide)) sh_28 (rfl : vwCl[6]? = some (RX6, TX6, 6)) inX10_room_6 0 (by decide) rfl lX10_room_72 dX10_room_4 ?_
  refine lv_astore_n (lv' := [(2, .ref (b 29)), (0, .ref (b 0)), (1, .int p1)]) C.1.1 C.1.2.1 dX10_room_7 rfl hl (by decide) rfl (fun ls hl => ?_)
  refine lv_aload_n C.1.1 C.1.2.1 dX10_room_8 rfl (lv_at hl 1 rfl) ?_
  refine ns_getr C w 0 (hI 0 (by decide)) sh_0 (rfl : vwCl[10]? = some (RX10, TX10, 6)) inX10_room_10 4 (by decide) rfl lX10_room_30 dX10_room_9 ?_
  refine ns_getr C w 28 (hI 28 (by decide)) sh_28 (rfl : vwCl[6]? = some (RX6, TX6, 6)) inX10_room_6 4 (by decide) rfl lX10_room_76 dX10_room_12 ?_
  refine ns_callV C w 48 (hI 48 (by decide)) sh_48 (rfl : vwCl[8]? = some (RX8, TX8, 6)) [] hf (fun u hu => mX8_isOn_48 l D b ids hI N _ hu) gX10_room_X8_isOn rfl rfl rfl hdX8_isOn ⟨Nat.le_of_ble_eq_true rfl, Nat.le_of_ble_eq_true rfl⟩ (fun u h => h) rfl hl.1 rfl (Nat.le_of_ble_eq_true rfl) ⟨Nat.le_refl _, Nat.le_refl _⟩ dX10_room_15 (fun o1 H locs hf w => ?_)
  refine ns_if_ne C hf (tgt := 39) dX10_room_18 (by decide) (fun hf => ?_) (fun hf => ?_)
  · refine lv_iconst (v := (-1)) C.1.1 C.1.2.1 dX10_room_39 (by decide) ?_
    have he := Option.some.inj hf
    subst he
    exact ns_iret C w hr hlk rfl rfl dX10_room_40
  · refine lv_aload_n C.1.1 C.1.2.1 dX10_room_21 rfl (lv_at hl 0 rfl) ?_
    refine ns_geti C w 29 (hI 29 (by decide)) sh_29 (rfl : vwCl[5]? = some (RX5, TX5, 2)) inX10_room_5 0 (by decide) rfl lX10_room_86 (S.1 1856) rfl dX10_room_22 ?_
    refine lv_iconst (v := 5) C.1.1 C.1.2.1 dX10_room_25 (by decide) ?_
    refine ns_icmp_ge C hf (tgt := 39) dX10_room_26 (by decide) (fun hf => ?_) (fun hf => ?_)
    · refine lv_iconst (v := (-1)) C.1.1 C.1.2.1 dX10_room_39 (by decide) ?_
      have he := Option.some.inj hf
      subst he
      exact ns_iret C w hr hlk rfl rfl dX10_room_40
    · refine lv_iload_n C.1.1 C.1.2.1 dX10_room_29 rfl (lv_at hl 2 rfl) ?_
      refine lv_iconst (v := 1) C.1.1 C.1.2.1 dX10_room_30 (by decide) ?_
      refine lv_bipush (v := 40) C.1.1 C.1.2.1 dX10_room_31 (by decide) ?_
      refine ns_callS C w [.int p1, .int 1, .int 40] hf (fun u hu => mX10_isWithin l D b ids hI N _ p1 1 40 hu) gX10_room_X10_isWithin rfl rfl rfl hdX10_isWithin ⟨Nat.le_of_ble_eq_true rfl, Nat.le_of_ble_eq_true rfl⟩ (fun u h => h) rfl hl.1 rfl (Nat.le_of_ble_eq_true rfl) ⟨Nat.le_refl _, Nat.le_refl _⟩ dX10_room_33 (fun o2 H locs hf w => ?_)
      refine ns_if_ne C hf (tgt := 41) dX10_room_36 (by decide) (fun hf => ?_) (fun hf => ?_)
      · refine lv_aload_n C.1.1 C.1.2.1 dX10_room_41 rfl (lv_at hl 0 rfl) ?_
        refine ns_geti C w 29 (hI 29 (by decide)) sh_29 (rfl : vwCl[5]? = some (RX5, TX5, 2)) inX10_room_5 0 (by decide) rfl lX10_room_86 (S.1 1856) rfl dX10_room_42 ?_
        refine lv_istore_n (lv' := [(3, .int (S.1 1856)), (2, .ref (b 29)), (0, .ref (b 0)), (1, .int p1)]) C.1.1 C.1.2.1 dX10_room_45 rfl hl (by decide) rfl (fun ls hl => ?_)
        refine lv_aload_n C.1.1 C.1.2.1 dX10_room_46 rfl (lv_at hl 1 rfl) ?_
        refine ns_getr C w 29 (hI 29 (by decide)) sh_29 (rfl : vwCl[5]? = some (RX5, TX5, 2)) inX10_room_5 1 (by decide) rfl lX10_room_93 dX10_room_47 ?_
        refine lv_iload_n C.1.1 C.1.2.1 dX10_room_50 rfl (lv_at hl 0 rfl) ?_
        refine lv_iload_n C.1.1 C.1.2.1 dX10_room_51 rfl (lv_at hl 3 rfl) ?_
        refine ns_iast C w 30 (hI 30 (by decide)) sh_30 hf rfl (List.mem_of_getElem? (i := 0) rfl) dX10_room_52 (fun y3 H locs hf w => ?_)
        refine lv_aload_n C.1.1 C.1.2.1 dX10_room_53 rfl (lv_at hl 1 rfl) ?_
        refine lv_iload_n C.1.1 C.1.2.1 dX10_room_54 rfl (lv_at hl 0 rfl) ?_
        refine lv_iconst (v := 1) C.1.1 C.1.2.1 dX10_room_55 (by decide) ?_
        refine lv_iadd C.1.1 C.1.2.1 dX10_room_56 ?_
        refine ns_namei hf (fun x4 hf => ?_)
        refine ns_puti C w 29 (hI 29 (by decide)) sh_29 (rfl : vwCl[5]? = some (RX5, TX5, 2)) inX10_room_5 tyX5_ok nmX5 0 (by decide) rfl lX10_room_86 rfl rfl rfl (List.mem_of_getElem? (i := 1) rfl) dX10_room_57 (fun H locs w => ?_)
        refine lv_iload_n C.1.1 C.1.2.1 dX10_room_60 rfl (lv_at hl 0 rfl) ?_
        have he := Option.some.inj hf
        subst he
        exact ns_iret C w hr hlk rfl rfl dX10_room_61
      · refine lv_iconst (v := (-1)) C.1.1 C.1.2.1 dX10_room_39 (by decide) ?_
        have he := Option.some.inj hf
        subst he
        exact ns_iret C w hr hlk rfl rfl dX10_room_40
theorem lX11_room_17 : Cond.fieldLink RX11 17 (TX11 4).1 (TX11 4).2.1 (TX11 4).2.2.1 ∈ wsX11_room := List.mem_of_getElem? (i := 3) rfl
theorem lX11_room_21 : Cond.fieldLink RX11 21 (TX11 5).1 (TX11 5).2.1 (TX11 5).2.2.1 ∈ wsX11_room := List.mem_of_getElem? (i := 4) rfl
theorem lX11_room_60 : Cond.fieldLink RX11 60 (TX11 18).1 (TX11 18).2.1 (TX11 18).2.2.1 ∈ wsX11_room := List.mem_of_getElem? (i := 2) rfl
theorem lX11_room_179 : Cond.fieldLink RX11 179 (TX11 0).1 (TX11 0).2.1 (TX11 0).2.2.1 ∈ wsX11_room := List.mem_of_getElem? (i := 1) rfl
theorem inX11_room_11 : ∀ w ∈ u_ws RX11 TX11 59, w ∈ wsX11_room := fun _ h => List.mem_cons_of_mem _ (List.mem_append_right _ h)
theorem hdX11_room : yX11_room.cls = RX11 ∧ yX11_room.cls ≠ "java/lang/invoke/MethodHandle" ∧ yX11_room.cls ≠ "java/lang/invoke/VarHandle" ∧ (parseMethodDescriptor yX11_room.desc).map (fun d => d.parameters.length) = some 1 := by decide +kernel
abbrev wrX11_room_62 : List (Nat × Nat) := [(0, 3968), (1, 66), (1, 65)]
abbrev rmX11_room_62 : Room := { frames := 1, cells := 0, slots := 0, locals := 22 }
set_option maxHeartbeats 4000000 in
set_option maxRecDepth 100000 in
theorem mX11_room_62 (l : Launch) (D : va_G) (b : Nat → Nat) (ids : List Nat) (hI : ∀ i, i < 107 → i ∈ ids) (N : Nat) (S : ns_S) (p1 : Int32) {o : Int32 × Int32 × (Nat → Int32) × (Nat → Int32)} (hf : fX11_room N (S.1 3968) (S.2.1 79) (S.2.1 65) (S.2.1 66) p1 = some o) : ns_M l yX11_room wsX11_room rmX11_room_62 D b ids S [.ref (b 62), .int p1] (some (.int o.1)) (ns_I (ns_A (ns_A S 65 o.2.2.2) 66 o.2.2.1) 3968 o.2.1) := by
  refine ns_start (Wr := wrX11_room_62) (by decide) rfl (Nat.le_of_ble_eq_true rfl) ?_
  intro p e s m below meth c A ls C hr hlk w hl
  have hl : lv_has ls 2 [(0, .ref (b 62)), (1, .int p1)] := hl
  unfold fX11_room at hf
  refine lv_aload_n C.1.1 C.1.2.1 dX11_room_0 rfl (lv_at hl 0 rfl) ?_
  refine lv_iconst (v := 0) C.1.1 C.1.2.1 dX11_room_1 (by decide) ?_
  refine ns_puti C w 62 (hI 62 (by decide)) sh_62 (rfl : vwCl[11]? = some (RX11, TX11, 59)) inX11_room_11 tyX11_ok nmX11 0 (by decide) rfl lX11_room_179 rfl rfl rfl (List.mem_of_getElem? (i := 0) rfl) dX11_room_2 (fun H locs w => ?_)
  refine lv_aload_n C.1.1 C.1.2.1 dX11_room_5 rfl (lv_at hl 0 rfl) ?_
  refine ns_getr C w 62 (hI 62 (by decide)) sh_62 (rfl : vwCl[11]? = some (RX11, TX11, 59)) inX11_room_11 18 (by decide) rfl lX11_room_60 dX11_room_6 ?_
  refine lv_iconst (v := 0) C.1.1 C.1.2.1 dX11_room_9 (by decide) ?_
  refine ns_iald C w 79 (hI 79 (by decide)) sh_79 hf rfl dX11_room_10 (fun x1 hf => ?_)
  refine lv_iconst (v := (-1)) C.1.1 C.1.2.1 dX11_room_11 (by decide) ?_
  refine ns_icmp_ne C hf (tgt := 35) dX11_room_12 (by decide) (fun hf => ?_) (fun hf => ?_)
  · refine lv_iconst (v := (-1)) C.1.1 C.1.2.1 dX11_room_35 (by decide) ?_
    have he := Option.some.inj hf
    subst he
    exact ns_iret C w hr hlk rfl rfl dX11_room_36
  · refine lv_aload_n C.1.1 C.1.2.1 dX11_room_15 rfl (lv_at hl 0 rfl) ?_
    refine ns_getr C w 62 (hI 62 (by decide)) sh_62 (rfl : vwCl[11]? = some (RX11, TX11, 59)) inX11_room_11 4 (by decide) rfl lX11_room_17 dX11_room_16 ?_
    refine lv_iconst (v := 0) C.1.1 C.1.2.1 dX11_room_19 (by decide) ?_
    refine ns_iald C w 65 (hI 65 (by decide)) sh_65 hf rfl dX11_room_20 (fun x2 hf => ?_)
    refine lv_iconst (v := 5) C.1.1 C.1.2.1 dX11_room_21 (by decide) ?_
    refine ns_icmp_eq C hf (tgt := 35) dX11_room_22 (by decide) (fun hf => ?_) (fun hf => ?_)
    · refine lv_iconst (v := (-1)) C.1.1 C.1.2.1 dX11_room_35 (by decide) ?_
      have he := Option.some.inj hf
      subst he
      exact ns_iret C w hr hlk rfl rfl dX11_room_36
    · refine lv_iload_n C.1.1 C.1.2.1 dX11_room_25 rfl (lv_at hl 1 rfl) ?_
      refine lv_iconst (v := 1) C.1.1 C.1.2.1 dX11_room_26 (by decide) ?_
      refine lv_bipush (v := 40) C.1.1 C.1.2.1 dX11_room_27 (by decide) ?_
      refine ns_callS C w [.int p1, .int 1, .int 40] hf (fun u hu => mX11_in l D b ids hI N _ p1 1 40 hu) gX11_room_X11_in rfl rfl rfl hdX11_in ⟨Nat.le_of_ble_eq_true rfl, Nat.le_of_ble_eq_true rfl⟩ (fun u h => h) rfl hl.1 rfl (Nat.le_of_ble_eq_true rfl) ⟨Nat.le_refl _, Nat.le_refl _⟩ dX11_room_29 (fun o3 H locs hf w => ?_)
      refine ns_if_ne C hf (tgt := 37) dX11_room_32 (by decide) (fun hf => ?_) (fun hf => ?_)
      · refine lv_aload_n C.1.1 C.1.2.1 dX11_room_37 rfl (lv_at hl 0 rfl) ?_
        refine ns_getr C w 62 (hI 62 (by decide)) sh_62 (rfl : vwCl[11]? = some (RX11, TX11, 59)) inX11_room_11 5 (by decide) rfl lX11_room_21 dX11_room_38 ?_
        refine lv_aload_n C.1.1 C.1.2.1 dX11_room_41 rfl (lv_at hl 0 rfl) ?_
        refine ns_getr C w 62 (hI 62 (by decide)) sh_62 (rfl : vwCl[11]? = some (RX11, TX11, 59)) inX11_room_11 4 (by decide) rfl lX11_room_17 dX11_room_42 ?_
        refine lv_iconst (v := 0) C.1.1 C.1.2.1 dX11_room_45 (by decide) ?_
        refine ns_iald C w 65 (hI 65 (by decide)) sh_65 hf rfl dX11_room_46 (fun x4 hf => ?_)
        refine lv_iload_n C.1.1 C.1.2.1 dX11_room_47 rfl (lv_at hl 1 rfl) ?_
        refine ns_iast C w 66 (hI 66 (by decide)) sh_66 hf rfl (List.mem_of_getElem? (i := 1) rfl) dX11_room_48 (fun y5 H locs hf w => ?_)
        refine lv_aload_n C.1.1 C.1.2.1 dX11_room_49 rfl (lv_at hl 0 rfl) ?_
        refine ns_getr C w 62 (hI 62 (by decide)) sh_62 (rfl : vwCl[11]? = some (RX11, TX11, 59)) inX11_room_11 4 (by decide) rfl lX11_room_17 dX11_room_50 ?_
        refine lv_iconst (v := 0) C.1.1 C.1.2.1 dX11_room_53 (by decide) ?_
        refine lv_dup2_11 C.1.1 C.1.2.1 dX11_room_54 rfl rfl ?_
        refine ns_iald C w 65 (hI 65 (by decide)) sh_65 hf rfl dX11_room_55 (fun x6 hf => ?_)
        refine lv_iconst (v := 1) C.1.1 C.1.2.1 dX11_room_56 (by decide) ?_
        refine lv_iadd C.1.1 C.1.2.1 dX11_room_57 ?_
        refine ns_iast C w 65 (hI 65 (by decide)) sh_65 hf rfl (List.mem_of_getElem? (i := 2) rfl) dX11_room_58 (fun y7 H locs hf w => ?_)
        refine lv_aload_n C.1.1 C.1.2.1 dX11_room_59 rfl (lv_at hl 0 rfl) ?_
        refine ns_getr C w 62 (hI 62 (by decide)) sh_62 (rfl : vwCl[11]? = some (RX11, TX11, 59)) inX11_room_11 4 (by decide) rfl lX11_room_17 dX11_room_60 ?_
        refine lv_iconst (v := 0) C.1.1 C.1.2.1 dX11_room_63 (by decide) ?_
        refine ns_iald C w 65 (hI 65 (by decide)) sh_65 hf rfl dX11_room_64 (fun x8 hf => ?_)
        refine lv_iconst (v := 1) C.1.1 C.1.2.1 dX11_room_65 (by decide) ?_
        refine lv_isub C.1.1 C.1.2.1 dX11_room_66 ?_
        have he := Option.some.inj hf
        subst he
        exact ns_iret C w hr hlk rfl rfl dX11_room_67
      · refine lv_iconst (v := (-1)) C.1.1 C.1.2.1 dX11_room_35 (by decide) ?_
        have he := Option.some.inj hf
        subst he
        exact ns_iret C w hr hlk rfl rfl dX11_room_36
theorem lX10_course_30 : Cond.fieldLink RX10 30 (TX10 4).1 (TX10 4).2.1 (TX10 4).2.2.1 ∈ wsX10_course := List.mem_of_getElem? (i := 1) rfl
theorem lX10_course_76 : Cond.fieldLink RX10 76 (TX6 4).1 (TX6 4).2.1 (TX6 4).2.2.1 ∈ wsX10_course := List.mem_of_getElem? (i := 3) rfl
theorem lX10_course_97 : Cond.fieldLink RX10 97 (TX6 1).1 (TX6 1).2.1 (TX6 1).2.2.1 ∈ wsX10_course := List.mem_of_getElem? (i := 2) rfl
theorem lX10_course_101 : Cond.fieldLink RX10 101 (TX0 0).1 (TX0 0).2.1 (TX0 0).2.2.1 ∈ wsX10_course := List.mem_of_getElem? (i := 4) rfl
theorem lX10_course_104 : Cond.fieldLink RX10 104 (TX0 1).1 (TX0 1).2.1 (TX0 1).2.2.1 ∈ wsX10_course := List.mem_of_getElem? (i := 5) rfl
theorem lX10_course_107 : Cond.fieldLink RX10 107 (TX0 2).1 (TX0 2).2.1 (TX0 2).2.2.1 ∈ wsX10_course := List.mem_of_getElem? (i := 6) rfl
theorem lX10_course_110 : Cond.fieldLink RX10 110 (TX0 3).1 (TX0 3).2.1 (TX0 3).2.2.1 ∈ wsX10_course := List.mem_of_getElem? (i := 7) rfl
theorem lX10_course_113 : Cond.fieldLink RX10 113 (TX0 4).1 (TX0 4).2.1 (TX0 4).2.2.1 ∈ wsX10_course := List.mem_of_getElem? (i := 8) rfl
theorem lX10_course_116 : Cond.fieldLink RX10 116 (TX0 5).1 (TX0 5).2.1 (TX0 5).2.2.1 ∈ wsX10_course := List.mem_of_getElem? (i := 9) rfl
theorem inX10_course_0 : ∀ w ∈ u_ws RX0 TX0 6, w ∈ wsX10_course := fun _ h => List.mem_cons_of_mem _ (List.mem_append_left _ (List.mem_append_right _ h))
theorem inX10_course_6 : ∀ w ∈ u_ws RX6 TX6 6, w ∈ wsX10_course := fun _ h => List.mem_cons_of_mem _ (List.mem_append_left _ (List.mem_append_left _ (List.mem_append_right _ h)))
theorem inX10_course_10 : ∀ w ∈ u_ws RX10 TX10 6, w ∈ wsX10_course := fun _ h => List.mem_cons_of_mem _ (List.mem_append_left _ (List.mem_append_left _ (List.mem_append_left _ (List.mem_append_right _ h))))
theorem hdX10_course : yX10_course.cls = RX10 ∧ yX10_course.cls ≠ "java/lang/invoke/MethodHandle" ∧ yX10_course.cls ≠ "java/lang/invoke/VarHandle" ∧ (parseMethodDescriptor yX10_course.desc).map (fun d => d.parameters.length) = some 5 := by decide +kernel
abbrev wrX10_course_0 : List (Nat × Nat) := [(1, 32), (1, 33), (1, 34), (1, 35), (1, 36), (0, 1984)]
abbrev rmX10_course_0 : Room := { frames := 1, cells := 0, slots := 0, locals := 22 }
set_option maxHeartbeats 4000000 in
set_option maxRecDepth 100000 in
theorem mX10_course_0 (l : Launch) (D : va_G) (b : Nat → Nat) (ids : List Nat) (hI : ∀ i, i < 107 → i ∈ ids) (N : Nat) (S : ns_S) (p1 : Int32) (p2 : Int32) (p3 : Int32) (p4 : Int32) (p5 : Int32) {o : Int32 × (Nat → Int32) × (Nat → Int32) × (Nat → Int32) × (Nat → Int32) × (Nat → Int32) × Int32} (hf : fX10_course N (S.1 3072) (S.1 1984) (S.2.1 32) (S.2.1 33) (S.2.1 34) (S.2.1 35) (S.2.1 36) p1 p2 p3 p4 p5 = some o) : ns_M l yX10_course wsX10_course rmX10_course_0 D b ids S [.ref (b 0), .int p1, .int p2, .int p3, .int p4, .int p5] (some (.int o.1)) (ns_A (ns_A (ns_A (ns_A (ns_A (ns_I S 1984 o.2.2.2.2.2.2) 36 o.2.2.2.2.2.1) 35 o.2.2.2.2.1) 34 o.2.2.2.1) 33 o.2.2.1) 32 o.2.1) := by
  refine ns_start (Wr := wrX10_course_0) (by decide) rfl (Nat.le_of_ble_eq_true rfl) ?_
  intro p e s m below meth c A ls C hr hlk w hl
  have hl : lv_has ls 8 [(0, .ref (b 0)), (1, .int p1), (2, .int p2), (3, .int p3), (4, .int p4), (5, .int p5)] := hl
  unfold fX10_course at hf
  refine lv_aload_n C.1.1 C.1.2.1 dX10_course_0 rfl (lv_at hl 0 rfl) ?_
  refine ns_getr C w 0 (hI 0 (by decide)) sh_0 (rfl : vwCl[10]? = some (RX10, TX10, 6)) inX10_course_10 4 (by decide) rfl lX10_course_30 dX10_course_1 ?_
  refine ns_getr C w 28 (hI 28 (by decide)) sh_28 (rfl : vwCl[6]? = some (RX6, TX6, 6)) inX10_course_6 1 (by decide) rfl lX10_course_97 dX10_course_4 ?_
  refine lv_astore (lv' := [(6, .ref (b 31)), (0, .ref (b 0)), (1, .int p1), (2, .int p2), (3, .int p3), (4, .int p4), (5, .int p5)]) C.1.1 C.1.2.1 dX10_course_7 hl (by decide) rfl (fun ls hl => ?_)
  refine lv_aload_n C.1.1 C.1.2.1 dX10_course_9 rfl (lv_at hl 1 rfl) ?_
  refine ns_getr C w 0 (hI 0 (by decide)) sh_0 (rfl : vwCl[10]? = some (RX10, TX10, 6)) inX10_course_10 4 (by decide) rfl lX10_course_30 dX10_course_10 ?_
  refine ns_getr C w 28 (hI 28 (by decide)) sh_28 (rfl : vwCl[6]? = some (RX6, TX6, 6)) inX10_course_6 4 (by decide) rfl lX10_course_76 dX10_course_13 ?_
  refine ns_callV C w 48 (hI 48 (by decide)) sh_48 (rfl : vwCl[8]? = some (RX8, TX8, 6)) [] hf (fun u hu => mX8_isOn_48 l D b ids hI N _ hu) gX10_course_X8_isOn rfl rfl rfl hdX8_isOn ⟨Nat.le_of_ble_eq_true rfl, Nat.le_of_ble_eq_true rfl⟩ (fun u h => h) rfl hl.1 rfl (Nat.le_of_ble_eq_true rfl) ⟨Nat.le_refl _, Nat.le_refl _⟩ dX10_course_16 (fun o1 H locs hf w => ?_)
  refine ns_if_ne C hf (tgt := 32) dX10_course_19 (by decide) (fun hf => ?_) (fun hf => ?_)
  · refine lv_iconst (v := (-1)) C.1.1 C.1.2.1 dX10_course_32 (by decide) ?_
    have he := Option.some.inj hf
    subst he
    exact ns_iret C w hr hlk rfl rfl dX10_course_33
  · refine lv_aload C.1.1 C.1.2.1 dX10_course_22 (lv_at hl 0 rfl) ?_
    refine ns_geti C w 31 (hI 31 (by decide)) sh_31 (rfl : vwCl[0]? = some (RX0, TX0, 6)) inX10_course_0 0 (by decide) rfl lX10_course_101 (S.1 1984) rfl dX10_course_24 ?_
    refine lv_bipush (v := 10) C.1.1 C.1.2.1 dX10_course_27 (by decide) ?_
    refine ns_icmp_lt C hf (tgt := 34) dX10_course_29 (by decide) (fun hf => ?_) (fun hf => ?_)
    · refine lv_iload_n C.1.1 C.1.2.1 dX10_course_34 rfl (lv_at hl 2 rfl) ?_
      refine lv_iconst (v := 0) C.1.1 C.1.2.1 dX10_course_35 (by decide) ?_
      refine lv_iconst (v := 4) C.1.1 C.1.2.1 dX10_course_36 (by decide) ?_
      refine ns_callS C w [.int p1, .int 0, .int 4] hf (fun u hu => mX10_isWithin l D b ids hI N _ p1 0 4 hu) gX10_course_X10_isWithin rfl rfl rfl hdX10_isWithin ⟨Nat.le_of_ble_eq_true rfl, Nat.le_of_ble_eq_true rfl⟩ (fun u h => h) rfl hl.1 rfl (Nat.le_of_ble_eq_true rfl) ⟨Nat.le_refl _, Nat.le_refl _⟩ dX10_course_37 (fun o2 H locs hf w => ?_)
      refine ns_if_eq C hf (tgt := 85) dX10_course_40 (by decide) (fun hf => ?_) (fun hf => ?_)
      · refine lv_iconst (v := (-1)) C.1.1 C.1.2.1 dX10_course_85 (by decide) ?_
        have he := Option.some.inj hf
        subst he
        exact ns_iret C w hr hlk rfl rfl dX10_course_86
      · refine lv_iload_n C.1.1 C.1.2.1 dX10_course_43 rfl (lv_at hl 3 rfl) ?_
        refine lv_iconst (v := 0) C.1.1 C.1.2.1 dX10_course_44 (by decide) ?_
        refine lv_iconst (v := 5) C.1.1 C.1.2.1 dX10_course_45 (by decide) ?_
        refine ns_callS C w [.int p2, .int 0, .int 5] hf (fun u hu => mX10_isWithin l D b ids hI N _ p2 0 5 hu) gX10_course_X10_isWithin rfl rfl rfl hdX10_isWithin ⟨Nat.le_of_ble_eq_true rfl, Nat.le_of_ble_eq_true rfl⟩ (fun u h => h) rfl hl.1 rfl (Nat.le_of_ble_eq_true rfl) ⟨Nat.le_refl _, Nat.le_refl _⟩ dX10_course_46 (fun o3 H locs hf w => ?_)
        refine ns_if_eq C hf (tgt := 85) dX10_course_49 (by decide) (fun hf => ?_) (fun hf => ?_)
        · refine lv_iconst (v := (-1)) C.1.1 C.1.2.1 dX10_course_85 (by decide) ?_
          have he := Option.some.inj hf
          subst he
          exact ns_iret C w hr hlk rfl rfl dX10_course_86
        · refine lv_iload C.1.1 C.1.2.1 dX10_course_52 (lv_at hl 5 rfl) ?_
          refine lv_iconst (v := 1) C.1.1 C.1.2.1 dX10_course_54 (by decide) ?_
          refine lv_bipush (v := 40) C.1.1 C.1.2.1 dX10_course_55 (by decide) ?_
          refine ns_callS C w [.int p4, .int 1, .int 40] hf (fun u hu => mX10_isWithin l D b ids hI N _ p4 1 40 hu) gX10_course_X10_isWithin rfl rfl rfl hdX10_isWithin ⟨Nat.le_of_ble_eq_true rfl, Nat.le_of_ble_eq_true rfl⟩ (fun u h => h) rfl hl.1 rfl (Nat.le_of_ble_eq_true rfl) ⟨Nat.le_refl _, Nat.le_refl _⟩ dX10_course_57 (fun o4 H locs hf w => ?_)
          refine ns_if_eq C hf (tgt := 85) dX10_course_60 (by decide) (fun hf => ?_) (fun hf => ?_)
          · refine lv_iconst (v := (-1)) C.1.1 C.1.2.1 dX10_course_85 (by decide) ?_
            have he := Option.some.inj hf
            subst he
            exact ns_iret C w hr hlk rfl rfl dX10_course_86
          · refine lv_iload_n C.1.1 C.1.2.1 dX10_course_63 rfl (lv_at hl 4 rfl) ?_
            refine lv_iconst (v := 1) C.1.1 C.1.2.1 dX10_course_64 (by decide) ?_
            refine lv_iload C.1.1 C.1.2.1 dX10_course_65 (lv_at hl 5 rfl) ?_
            refine ns_callS C w [.int p3, .int 1, .int p4] hf (fun u hu => mX10_isWithin l D b ids hI N _ p3 1 p4 hu) gX10_course_X10_isWithin rfl rfl rfl hdX10_isWithin ⟨Nat.le_of_ble_eq_true rfl, Nat.le_of_ble_eq_true rfl⟩ (fun u h => h) rfl hl.1 rfl (Nat.le_of_ble_eq_true rfl) ⟨Nat.le_refl _, Nat.le_refl _⟩ dX10_course_67 (fun o5 H locs hf w => ?_)
            refine ns_if_eq C hf (tgt := 85) dX10_course_70 (by decide) (fun hf => ?_) (fun hf => ?_)
            · refine lv_iconst (v := (-1)) C.1.1 C.1.2.1 dX10_course_85 (by decide) ?_
              have he := Option.some.inj hf
              subst he
              exact ns_iret C w hr hlk rfl rfl dX10_course_86
            · refine lv_iload C.1.1 C.1.2.1 dX10_course_73 (lv_at hl 6 rfl) ?_
              refine lv_iconst (v := 0) C.1.1 C.1.2.1 dX10_course_75 (by decide) ?_
              refine lv_sipush (v := 1000) C.1.1 C.1.2.1 dX10_course_76 (by decide) ?_
              refine ns_callS C w [.int p5, .int 0, .int 1000] hf (fun u hu => mX10_isWithin l D b ids hI N _ p5 0 1000 hu) gX10_course_X10_isWithin rfl rfl rfl hdX10_isWithin ⟨Nat.le_of_ble_eq_true rfl, Nat.le_of_ble_eq_true rfl⟩ (fun u h => h) rfl hl.1 rfl (Nat.le_of_ble_eq_true rfl) ⟨Nat.le_refl _, Nat.le_refl _⟩ dX10_course_79 (fun o6 H locs hf w => ?_)
              refine ns_if_ne C hf (tgt := 87) dX10_course_82 (by decide) (fun hf => ?_) (fun hf => ?_)
              · refine lv_aload C.1.1 C.1.2.1 dX10_course_87 (lv_at hl 0 rfl) ?_
                refine ns_geti C w 31 (hI 31 (by decide)) sh_31 (rfl : vwCl[0]? = some (RX0, TX0, 6)) inX10_course_0 0 (by decide) rfl lX10_course_101 (S.1 1984) rfl dX10_course_89 ?_
                refine lv_istore (lv' := [(7, .int (S.1 1984)), (6, .ref (b 31)), (0, .ref (b 0)), (1, .int p1), (2, .int p2), (3, .int p3), (4, .int p4), (5, .int p5)]) C.1.1 C.1.2.1 dX10_course_92 hl (by decide) rfl (fun ls hl => ?_)
                refine lv_aload C.1.1 C.1.2.1 dX10_course_94 (lv_at hl 1 rfl) ?_
                refine ns_getr C w 31 (hI 31 (by decide)) sh_31 (rfl : vwCl[0]? = some (RX0, TX0, 6)) inX10_course_0 1 (by decide) rfl lX10_course_104 dX10_course_96 ?_
                refine lv_iload C.1.1 C.1.2.1 dX10_course_99 (lv_at hl 0 rfl) ?_
                refine lv_iload_n C.1.1 C.1.2.1 dX10_course_101 rfl (lv_at hl 3 rfl) ?_
                refine ns_iast C w 32 (hI 32 (by decide)) sh_32 hf rfl (List.mem_of_getElem? (i := 0) rfl) dX10_course_102 (fun y7 H locs hf w => ?_)
                refine lv_aload C.1.1 C.1.2.1 dX10_course_103 (lv_at hl 1 rfl) ?_
                refine ns_getr C w 31 (hI 31 (by decide)) sh_31 (rfl : vwCl[0]? = some (RX0, TX0, 6)) inX10_course_0 2 (by decide) rfl lX10_course_107 dX10_course_105 ?_
                refine lv_iload C.1.1 C.1.2.1 dX10_course_108 (lv_at hl 0 rfl) ?_
                refine lv_iload_n C.1.1 C.1.2.1 dX10_course_110 rfl (lv_at hl 4 rfl) ?_
                refine ns_iast C w 33 (hI 33 (by decide)) sh_33 hf rfl (List.mem_of_getElem? (i := 1) rfl) dX10_course_111 (fun y8 H locs hf w => ?_)
                refine lv_aload C.1.1 C.1.2.1 dX10_course_112 (lv_at hl 1 rfl) ?_
                refine ns_getr C w 31 (hI 31 (by decide)) sh_31 (rfl : vwCl[0]? = some (RX0, TX0, 6)) inX10_course_0 3 (by decide) rfl lX10_course_110 dX10_course_114 ?_
                refine lv_iload C.1.1 C.1.2.1 dX10_course_117 (lv_at hl 0 rfl) ?_
                refine lv_iload_n C.1.1 C.1.2.1 dX10_course_119 rfl (lv_at hl 5 rfl) ?_
                refine ns_iast C w 34 (hI 34 (by decide)) sh_34 hf rfl (List.mem_of_getElem? (i := 2) rfl) dX10_course_120 (fun y9 H locs hf w => ?_)
                refine lv_aload C.1.1 C.1.2.1 dX10_course_121 (lv_at hl 1 rfl) ?_
                refine ns_getr C w 31 (hI 31 (by decide)) sh_31 (rfl : vwCl[0]? = some (RX0, TX0, 6)) inX10_course_0 4 (by decide) rfl lX10_course_113 dX10_course_123 ?_
                refine lv_iload C.1.1 C.1.2.1 dX10_course_126 (lv_at hl 0 rfl) ?_
                refine lv_iload C.1.1 C.1.2.1 dX10_course_128 (lv_at hl 6 rfl) ?_
                refine ns_iast C w 35 (hI 35 (by decide)) sh_35 hf rfl (List.mem_of_getElem? (i := 3) rfl) dX10_course_130 (fun y10 H locs hf w => ?_)
                refine lv_aload C.1.1 C.1.2.1 dX10_course_131 (lv_at hl 1 rfl) ?_
                refine ns_getr C w 31 (hI 31 (by decide)) sh_31 (rfl : vwCl[0]? = some (RX0, TX0, 6)) inX10_course_0 5 (by decide) rfl lX10_course_116 dX10_course_133 ?_
                refine lv_iload C.1.1 C.1.2.1 dX10_course_136 (lv_at hl 0 rfl) ?_
                refine lv_iload C.1.1 C.1.2.1 dX10_course_138 (lv_at hl 7 rfl) ?_
                refine ns_iast C w 36 (hI 36 (by decide)) sh_36 hf rfl (List.mem_of_getElem? (i := 4) rfl) dX10_course_140 (fun y11 H locs hf w => ?_)
                refine lv_aload C.1.1 C.1.2.1 dX10_course_141 (lv_at hl 1 rfl) ?_
                refine lv_iload C.1.1 C.1.2.1 dX10_course_143 (lv_at hl 0 rfl) ?_
                refine lv_iconst (v := 1) C.1.1 C.1.2.1 dX10_course_145 (by decide) ?_
                refine lv_iadd C.1.1 C.1.2.1 dX10_course_146 ?_
                refine ns_namei hf (fun x12 hf => ?_)
                refine ns_puti C w 31 (hI 31 (by decide)) sh_31 (rfl : vwCl[0]? = some (RX0, TX0, 6)) inX10_course_0 tyX0_ok nmX0 0 (by decide) rfl lX10_course_101 rfl rfl rfl (List.mem_of_getElem? (i := 5) rfl) dX10_course_147 (fun H locs w => ?_)
                refine lv_iload C.1.1 C.1.2.1 dX10_course_150 (lv_at hl 0 rfl) ?_
                have he := Option.some.inj hf
                subst he
                exact ns_iret C w hr hlk rfl rfl dX10_course_152
              · refine lv_iconst (v := (-1)) C.1.1 C.1.2.1 dX10_course_85 (by decide) ?_
                have he := Option.some.inj hf
                subst he
                exact ns_iret C w hr hlk rfl rfl dX10_course_86
    · refine lv_iconst (v := (-1)) C.1.1 C.1.2.1 dX10_course_32 (by decide) ?_
      have he := Option.some.inj hf
      subst he
      exact ns_iret C w hr hlk rfl rfl dX10_course_33
theorem lX11_course_24 : Cond.fieldLink RX11 24 (TX11 6).1 (TX11 6).2.1 (TX11 6).2.2.1 ∈ wsX11_course := List.mem_of_getElem? (i := 3) rfl
theorem lX11_course_27 : Cond.fieldLink RX11 27 (TX11 7).1 (TX11 7).2.1 (TX11 7).2.2.1 ∈ wsX11_course := List.mem_of_getElem? (i := 4) rfl
theorem lX11_course_30 : Cond.fieldLink RX11 30 (TX11 8).1 (TX11 8).2.1 (TX11 8).2.2.1 ∈ wsX11_course := List.mem_of_getElem? (i := 5) rfl
theorem lX11_course_33 : Cond.fieldLink RX11 33 (TX11 9).1 (TX11 9).2.1 (TX11 9).2.2.1 ∈ wsX11_course := List.mem_of_getElem? (i := 6) rfl
theorem lX11_course_36 : Cond.fieldLink RX11 36 (TX11 10).1 (TX11 10).2.1 (TX11 10).2.2.1 ∈ wsX11_course := List.mem_of_getElem? (i := 7) rfl
theorem lX11_course_39 : Cond.fieldLink RX11 39 (TX11 11).1 (TX11 11).2.1 (TX11 11).2.2.1 ∈ wsX11_course := List.mem_of_getElem? (i := 8) rfl
theorem lX11_course_60 : Cond.fieldLink RX11 60 (TX11 18).1 (TX11 18).2.1 (TX11 18).2.2.1 ∈ wsX11_course := List.mem_of_getElem? (i := 2) rfl
theorem lX11_course_66 : Cond.fieldLink RX11 66 (TX11 20).1 (TX11 20).2.1 (TX11 20).2.2.1 ∈ wsX11_course := List.mem_of_getElem? (i := 9) rfl
theorem lX11_course_69 : Cond.fieldLink RX11 69 (TX11 21).1 (TX11 21).2.1 (TX11 21).2.2.1 ∈ wsX11_course := List.mem_of_getElem? (i := 10) rfl
theorem lX11_course_72 : Cond.fieldLink RX11 72 (TX11 22).1 (TX11 22).2.1 (TX11 22).2.2.1 ∈ wsX11_course := List.mem_of_getElem? (i := 11) rfl
theorem lX11_course_179 : Cond.fieldLink RX11 179 (TX11 0).1 (TX11 0).2.1 (TX11 0).2.2.1 ∈ wsX11_course := List.mem_of_getElem? (i := 1) rfl
theorem inX11_course_11 : ∀ w ∈ u_ws RX11 TX11 59, w ∈ wsX11_course := fun _ h => List.mem_cons_of_mem _ (List.mem_append_right _ h)
theorem hdX11_course : yX11_course.cls = RX11 ∧ yX11_course.cls ≠ "java/lang/invoke/MethodHandle" ∧ yX11_course.cls ≠ "java/lang/invoke/VarHandle" ∧ (parseMethodDescriptor yX11_course.desc).map (fun d => d.parameters.length) = some 5 := by decide +kernel
abbrev wrX11_course_62 : List (Nat × Nat) := [(0, 3968), (1, 67), (1, 68), (1, 69), (1, 70), (1, 71), (1, 72), (1, 81), (1, 82), (1, 83)]
abbrev rmX11_course_62 : Room := { frames := 1, cells := 0, slots := 0, locals := 22 }
set_option maxHeartbeats 4000000 in
set_option maxRecDepth 100000 in
theorem mX11_course_62 (l : Launch) (D : va_G) (b : Nat → Nat) (ids : List Nat) (hI : ∀ i, i < 107 → i ∈ ids) (N : Nat) (S : ns_S) (p1 : Int32) (p2 : Int32) (p3 : Int32) (p4 : Int32) (p5 : Int32) {o : Int32 × Int32 × (Nat → Int32) × (Nat → Int32) × (Nat → Int32) × (Nat → Int32) × (Nat → Int32) × (Nat → Int32) × (Nat → Int32) × (Nat → Int32) × (Nat → Int32)} (hf : fX11_course N (S.1 3968) (S.2.1 79) (S.2.1 67) (S.2.1 68) (S.2.1 69) (S.2.1 70) (S.2.1 71) (S.2.1 72) (S.2.1 81) (S.2.1 82) (S.2.1 83) p1 p2 p3 p4 p5 = some o) : ns_M l yX11_course wsX11_course rmX11_course_62 D b ids S [.ref (b 62), .int p1, .int p2, .int p3, .int p4, .int p5] (some (.int o.1)) (ns_I (ns_A (ns_A (ns_A (ns_A (ns_A (ns_A (ns_A (ns_A (ns_A S 83 o.2.2.2.2.2.2.2.2.2.2) 82 o.2.2.2.2.2.2.2.2.2.1) 81 o.2.2.2.2.2.2.2.2.1) 72 o.2.2.2.2.2.2.2.1) 71 o.2.2.2.2.2.2.1) 70 o.2.2.2.2.2.1) 69 o.2.2.2.2.1) 68 o.2.2.2.1) 67 o.2.2.1) 3968 o.2.1) := by
  refine ns_start (Wr := wrX11_course_62) (by decide) rfl (Nat.le_of_ble_eq_true rfl) ?_
  intro p e s m below meth c A ls C hr hlk w hl
  have hl : lv_has ls 7 [(0, .ref (b 62)), (1, .int p1), (2, .int p2), (3, .int p3), (4, .int p4), (5, .int p5)] := hl
  unfold fX11_course at hf
  refine lv_aload_n C.1.1 C.1.2.1 dX11_course_0 rfl (lv_at hl 0 rfl) ?_
  refine lv_iconst (v := 0) C.1.1 C.1.2.1 dX11_course_1 (by decide) ?_
  refine ns_puti C w 62 (hI 62 (by decide)) sh_62 (rfl : vwCl[11]? = some (RX11, TX11, 59)) inX11_course_11 tyX11_ok nmX11 0 (by decide) rfl lX11_course_179 rfl rfl rfl (List.mem_of_getElem? (i := 0) rfl) dX11_course_2 (fun H locs w => ?_)
  refine lv_aload_n C.1.1 C.1.2.1 dX11_course_5 rfl (lv_at hl 0 rfl) ?_
  refine ns_getr C w 62 (hI 62 (by decide)) sh_62 (rfl : vwCl[11]? = some (RX11, TX11, 59)) inX11_course_11 18 (by decide) rfl lX11_course_60 dX11_course_6 ?_
  refine lv_iconst (v := 0) C.1.1 C.1.2.1 dX11_course_9 (by decide) ?_
  refine ns_iald C w 79 (hI 79 (by decide)) sh_79 hf rfl dX11_course_10 (fun x1 hf => ?_)
  refine lv_iconst (v := (-1)) C.1.1 C.1.2.1 dX11_course_11 (by decide) ?_
  refine ns_icmp_ne C hf (tgt := 77) dX11_course_12 (by decide) (fun hf => ?_) (fun hf => ?_)
  · refine lv_iconst (v := (-1)) C.1.1 C.1.2.1 dX11_course_77 (by decide) ?_
    have he := Option.some.inj hf
    subst he
    exact ns_iret C w hr hlk rfl rfl dX11_course_78
  · refine lv_aload_n C.1.1 C.1.2.1 dX11_course_15 rfl (lv_at hl 0 rfl) ?_
    refine ns_getr C w 62 (hI 62 (by decide)) sh_62 (rfl : vwCl[11]? = some (RX11, TX11, 59)) inX11_course_11 6 (by decide) rfl lX11_course_24 dX11_course_16 ?_
    refine lv_iconst (v := 0) C.1.1 C.1.2.1 dX11_course_19 (by decide) ?_
    refine ns_iald C w 67 (hI 67 (by decide)) sh_67 hf rfl dX11_course_20 (fun x2 hf => ?_)
    refine lv_bipush (v := 10) C.1.1 C.1.2.1 dX11_course_21 (by decide) ?_
    refine ns_icmp_eq C hf (tgt := 77) dX11_course_23 (by decide) (fun hf => ?_) (fun hf => ?_)
    · refine lv_iconst (v := (-1)) C.1.1 C.1.2.1 dX11_course_77 (by decide) ?_
      have he := Option.some.inj hf
      subst he
      exact ns_iret C w hr hlk rfl rfl dX11_course_78
    · refine lv_iload_n C.1.1 C.1.2.1 dX11_course_26 rfl (lv_at hl 1 rfl) ?_
      refine lv_iconst (v := 0) C.1.1 C.1.2.1 dX11_course_27 (by decide) ?_
      refine lv_iconst (v := 4) C.1.1 C.1.2.1 dX11_course_28 (by decide) ?_
      refine ns_callS C w [.int p1, .int 0, .int 4] hf (fun u hu => mX11_in l D b ids hI N _ p1 0 4 hu) gX11_course_X11_in rfl rfl rfl hdX11_in ⟨Nat.le_of_ble_eq_true rfl, Nat.le_of_ble_eq_true rfl⟩ (fun u h => h) rfl hl.1 rfl (Nat.le_of_ble_eq_true rfl) ⟨Nat.le_refl _, Nat.le_refl _⟩ dX11_course_29 (fun o3 H locs hf w => ?_)
      refine ns_if_eq C hf (tgt := 77) dX11_course_32 (by decide) (fun hf => ?_) (fun hf => ?_)
      · refine lv_iconst (v := (-1)) C.1.1 C.1.2.1 dX11_course_77 (by decide) ?_
        have he := Option.some.inj hf
        subst he
        exact ns_iret C w hr hlk rfl rfl dX11_course_78
      · refine lv_iload_n C.1.1 C.1.2.1 dX11_course_35 rfl (lv_at hl 2 rfl) ?_
        refine lv_iconst (v := 0) C.1.1 C.1.2.1 dX11_course_36 (by decide) ?_
        refine lv_iconst (v := 5) C.1.1 C.1.2.1 dX11_course_37 (by decide) ?_
        refine ns_callS C w [.int p2, .int 0, .int 5] hf (fun u hu => mX11_in l D b ids hI N _ p2 0 5 hu) gX11_course_X11_in rfl rfl rfl hdX11_in ⟨Nat.le_of_ble_eq_true rfl, Nat.le_of_ble_eq_true rfl⟩ (fun u h => h) rfl hl.1 rfl (Nat.le_of_ble_eq_true rfl) ⟨Nat.le_refl _, Nat.le_refl _⟩ dX11_course_38 (fun o4 H locs hf w => ?_)
        refine ns_if_eq C hf (tgt := 77) dX11_course_41 (by decide) (fun hf => ?_) (fun hf => ?_)
        · refine lv_iconst (v := (-1)) C.1.1 C.1.2.1 dX11_course_77 (by decide) ?_
          have he := Option.some.inj hf
          subst he
          exact ns_iret C w hr hlk rfl rfl dX11_course_78
        · refine lv_iload_n C.1.1 C.1.2.1 dX11_course_44 rfl (lv_at hl 3 rfl) ?_
          refine lv_iconst (v := 1) C.1.1 C.1.2.1 dX11_course_45 (by decide) ?_
          refine lv_iload C.1.1 C.1.2.1 dX11_course_46 (lv_at hl 4 rfl) ?_
          refine ns_callS C w [.int p3, .int 1, .int p4] hf (fun u hu => mX11_in l D b ids hI N _ p3 1 p4 hu) gX11_course_X11_in rfl rfl rfl hdX11_in ⟨Nat.le_of_ble_eq_true rfl, Nat.le_of_ble_eq_true rfl⟩ (fun u h => h) rfl hl.1 rfl (Nat.le_of_ble_eq_true rfl) ⟨Nat.le_refl _, Nat.le_refl _⟩ dX11_course_48 (fun o5 H locs hf w => ?_)
          refine ns_if_eq C hf (tgt := 77) dX11_course_51 (by decide) (fun hf => ?_) (fun hf => ?_)
          · refine lv_iconst (v := (-1)) C.1.1 C.1.2.1 dX11_course_77 (by decide) ?_
            have he := Option.some.inj hf
            subst he
            exact ns_iret C w hr hlk rfl rfl dX11_course_78
          · refine lv_iload C.1.1 C.1.2.1 dX11_course_54 (lv_at hl 4 rfl) ?_
            refine lv_iconst (v := 1) C.1.1 C.1.2.1 dX11_course_56 (by decide) ?_
            refine lv_bipush (v := 40) C.1.1 C.1.2.1 dX11_course_57 (by decide) ?_
            refine ns_callS C w [.int p4, .int 1, .int 40] hf (fun u hu => mX11_in l D b ids hI N _ p4 1 40 hu) gX11_course_X11_in rfl rfl rfl hdX11_in ⟨Nat.le_of_ble_eq_true rfl, Nat.le_of_ble_eq_true rfl⟩ (fun u h => h) rfl hl.1 rfl (Nat.le_of_ble_eq_true rfl) ⟨Nat.le_refl _, Nat.le_refl _⟩ dX11_course_59 (fun o6 H locs hf w => ?_)
            refine ns_if_eq C hf (tgt := 77) dX11_course_62 (by decide) (fun hf => ?_) (fun hf => ?_)
            · refine lv_iconst (v := (-1)) C.1.1 C.1.2.1 dX11_course_77 (by decide) ?_
              have he := Option.some.inj hf
              subst he
              exact ns_iret C w hr hlk rfl rfl dX11_course_78
            · refine lv_iload C.1.1 C.1.2.1 dX11_course_65 (lv_at hl 5 rfl) ?_
              refine lv_iconst (v := 0) C.1.1 C.1.2.1 dX11_course_67 (by decide) ?_
              refine lv_sipush (v := 1000) C.1.1 C.1.2.1 dX11_course_68 (by decide) ?_
              refine ns_callS C w [.int p5, .int 0, .int 1000] hf (fun u hu => mX11_in l D b ids hI N _ p5 0 1000 hu) gX11_course_X11_in rfl rfl rfl hdX11_in ⟨Nat.le_of_ble_eq_true rfl, Nat.le_of_ble_eq_true rfl⟩ (fun u h => h) rfl hl.1 rfl (Nat.le_of_ble_eq_true rfl) ⟨Nat.le_refl _, Nat.le_refl _⟩ dX11_course_71 (fun o7 H locs hf w => ?_)
              refine ns_if_ne C hf (tgt := 79) dX11_course_74 (by decide) (fun hf => ?_) (fun hf => ?_)
              · refine lv_aload_n C.1.1 C.1.2.1 dX11_course_79 rfl (lv_at hl 0 rfl) ?_
                refine ns_getr C w 62 (hI 62 (by decide)) sh_62 (rfl : vwCl[11]? = some (RX11, TX11, 59)) inX11_course_11 6 (by decide) rfl lX11_course_24 dX11_course_80 ?_
                refine lv_iconst (v := 0) C.1.1 C.1.2.1 dX11_course_83 (by decide) ?_
                refine ns_iald C w 67 (hI 67 (by decide)) sh_67 hf rfl dX11_course_84 (fun x8 hf => ?_)
                refine lv_istore (lv' := [(6, .int x8), (0, .ref (b 62)), (1, .int p1), (2, .int p2), (3, .int p3), (4, .int p4), (5, .int p5)]) C.1.1 C.1.2.1 dX11_course_85 hl (by decide) rfl (fun ls hl => ?_)
                refine lv_aload_n C.1.1 C.1.2.1 dX11_course_87 rfl (lv_at hl 1 rfl) ?_
                refine ns_getr C w 62 (hI 62 (by decide)) sh_62 (rfl : vwCl[11]? = some (RX11, TX11, 59)) inX11_course_11 6 (by decide) rfl lX11_course_24 dX11_course_88 ?_
                refine lv_iconst (v := 0) C.1.1 C.1.2.1 dX11_course_91 (by decide) ?_
                refine lv_dup2_11 C.1.1 C.1.2.1 dX11_course_92 rfl rfl ?_
                refine ns_iald C w 67 (hI 67 (by decide)) sh_67 hf rfl dX11_course_93 (fun x9 hf => ?_)
                refine lv_iconst (v := 1) C.1.1 C.1.2.1 dX11_course_94 (by decide) ?_
                refine lv_iadd C.1.1 C.1.2.1 dX11_course_95 ?_
                refine ns_iast C w 67 (hI 67 (by decide)) sh_67 hf rfl (List.mem_of_getElem? (i := 1) rfl) dX11_course_96 (fun y10 H locs hf w => ?_)
                refine lv_aload_n C.1.1 C.1.2.1 dX11_course_97 rfl (lv_at hl 1 rfl) ?_
                refine ns_getr C w 62 (hI 62 (by decide)) sh_62 (rfl : vwCl[11]? = some (RX11, TX11, 59)) inX11_course_11 7 (by decide) rfl lX11_course_27 dX11_course_98 ?_
                refine lv_iload C.1.1 C.1.2.1 dX11_course_101 (lv_at hl 0 rfl) ?_
                refine lv_iload_n C.1.1 C.1.2.1 dX11_course_103 rfl (lv_at hl 2 rfl) ?_
                refine ns_iast C w 68 (hI 68 (by decide)) sh_68 hf rfl (List.mem_of_getElem? (i := 2) rfl) dX11_course_104 (fun y11 H locs hf w => ?_)
                refine lv_aload_n C.1.1 C.1.2.1 dX11_course_105 rfl (lv_at hl 1 rfl) ?_
                refine ns_getr C w 62 (hI 62 (by decide)) sh_62 (rfl : vwCl[11]? = some (RX11, TX11, 59)) inX11_course_11 8 (by decide) rfl lX11_course_30 dX11_course_106 ?_
                refine lv_iload C.1.1 C.1.2.1 dX11_course_109 (lv_at hl 0 rfl) ?_
                refine lv_iload_n C.1.1 C.1.2.1 dX11_course_111 rfl (lv_at hl 3 rfl) ?_
                refine ns_iast C w 69 (hI 69 (by decide)) sh_69 hf rfl (List.mem_of_getElem? (i := 3) rfl) dX11_course_112 (fun y12 H locs hf w => ?_)
                refine lv_aload_n C.1.1 C.1.2.1 dX11_course_113 rfl (lv_at hl 1 rfl) ?_
                refine ns_getr C w 62 (hI 62 (by decide)) sh_62 (rfl : vwCl[11]? = some (RX11, TX11, 59)) inX11_course_11 9 (by decide) rfl lX11_course_33 dX11_course_114 ?_
                refine lv_iload C.1.1 C.1.2.1 dX11_course_117 (lv_at hl 0 rfl) ?_
                refine lv_iload_n C.1.1 C.1.2.1 dX11_course_119 rfl (lv_at hl 4 rfl) ?_
                refine ns_iast C w 70 (hI 70 (by decide)) sh_70 hf rfl (List.mem_of_getElem? (i := 4) rfl) dX11_course_120 (fun y13 H locs hf w => ?_)
                refine lv_aload_n C.1.1 C.1.2.1 dX11_course_121 rfl (lv_at hl 1 rfl) ?_
                refine ns_getr C w 62 (hI 62 (by decide)) sh_62 (rfl : vwCl[11]? = some (RX11, TX11, 59)) inX11_course_11 10 (by decide) rfl lX11_course_36 dX11_course_122 ?_
                refine lv_iload C.1.1 C.1.2.1 dX11_course_125 (lv_at hl 0 rfl) ?_
                refine lv_iload C.1.1 C.1.2.1 dX11_course_127 (lv_at hl 5 rfl) ?_
                refine ns_iast C w 71 (hI 71 (by decide)) sh_71 hf rfl (List.mem_of_getElem? (i := 5) rfl) dX11_course_129 (fun y14 H locs hf w => ?_)
                refine lv_aload_n C.1.1 C.1.2.1 dX11_course_130 rfl (lv_at hl 1 rfl) ?_
                refine ns_getr C w 62 (hI 62 (by decide)) sh_62 (rfl : vwCl[11]? = some (RX11, TX11, 59)) inX11_course_11 11 (by decide) rfl lX11_course_39 dX11_course_131 ?_
                refine lv_iload C.1.1 C.1.2.1 dX11_course_134 (lv_at hl 0 rfl) ?_
                refine lv_iload C.1.1 C.1.2.1 dX11_course_136 (lv_at hl 6 rfl) ?_
                refine ns_iast C w 72 (hI 72 (by decide)) sh_72 hf rfl (List.mem_of_getElem? (i := 6) rfl) dX11_course_138 (fun y15 H locs hf w => ?_)
                refine lv_aload_n C.1.1 C.1.2.1 dX11_course_139 rfl (lv_at hl 1 rfl) ?_
                refine ns_getr C w 62 (hI 62 (by decide)) sh_62 (rfl : vwCl[11]? = some (RX11, TX11, 59)) inX11_course_11 20 (by decide) rfl lX11_course_66 dX11_course_140 ?_
                refine lv_iload C.1.1 C.1.2.1 dX11_course_143 (lv_at hl 0 rfl) ?_
                refine lv_iconst (v := (-1)) C.1.1 C.1.2.1 dX11_course_145 (by decide) ?_
                refine ns_iast C w 81 (hI 81 (by decide)) sh_81 hf rfl (List.mem_of_getElem? (i := 7) rfl) dX11_course_146 (fun y16 H locs hf w => ?_)
                refine lv_aload_n C.1.1 C.1.2.1 dX11_course_147 rfl (lv_at hl 1 rfl) ?_
                refine ns_getr C w 62 (hI 62 (by decide)) sh_62 (rfl : vwCl[11]? = some (RX11, TX11, 59)) inX11_course_11 21 (by decide) rfl lX11_course_69 dX11_course_148 ?_
                refine lv_iload C.1.1 C.1.2.1 dX11_course_151 (lv_at hl 0 rfl) ?_
                refine lv_iconst (v := 0) C.1.1 C.1.2.1 dX11_course_153 (by decide) ?_
                refine ns_iast C w 82 (hI 82 (by decide)) sh_82 hf rfl (List.mem_of_getElem? (i := 8) rfl) dX11_course_154 (fun y17 H locs hf w => ?_)
                refine lv_aload_n C.1.1 C.1.2.1 dX11_course_155 rfl (lv_at hl 1 rfl) ?_
                refine ns_getr C w 62 (hI 62 (by decide)) sh_62 (rfl : vwCl[11]? = some (RX11, TX11, 59)) inX11_course_11 22 (by decide) rfl lX11_course_72 dX11_course_156 ?_
                refine lv_iload C.1.1 C.1.2.1 dX11_course_159 (lv_at hl 0 rfl) ?_
                refine lv_iconst (v := 0) C.1.1 C.1.2.1 dX11_course_161 (by decide) ?_
                refine ns_iast C w 83 (hI 83 (by decide)) sh_83 hf rfl (List.mem_of_getElem? (i := 9) rfl) dX11_course_162 (fun y18 H locs hf w => ?_)
                refine lv_iload C.1.1 C.1.2.1 dX11_course_163 (lv_at hl 0 rfl) ?_
                have he := Option.some.inj hf
                subst he
                exact ns_iret C w hr hlk rfl rfl dX11_course_165
              · refine lv_iconst (v := (-1)) C.1.1 C.1.2.1 dX11_course_77 (by decide) ?_
                have he := Option.some.inj hf
                subst he
                exact ns_iret C w hr hlk rfl rfl dX11_course_78
theorem lX10_pupil_30 : Cond.fieldLink RX10 30 (TX10 4).1 (TX10 4).2.1 (TX10 4).2.2.1 ∈ wsX10_pupil := List.mem_of_getElem? (i := 1) rfl
theorem lX10_pupil_76 : Cond.fieldLink RX10 76 (TX6 4).1 (TX6 4).2.1 (TX6 4).2.2.1 ∈ wsX10_pupil := List.mem_of_getElem? (i := 3) rfl
theorem lX10_pupil_119 : Cond.fieldLink RX10 119 (TX6 2).1 (TX6 2).2.1 (TX6 2).2.2.1 ∈ wsX10_pupil := List.mem_of_getElem? (i := 2) rfl
theorem lX10_pupil_123 : Cond.fieldLink RX10 123 (TX4 0).1 (TX4 0).2.1 (TX4 0).2.2.1 ∈ wsX10_pupil := List.mem_of_getElem? (i := 4) rfl
theorem lX10_pupil_126 : Cond.fieldLink RX10 126 (TX4 1).1 (TX4 1).2.1 (TX4 1).2.2.1 ∈ wsX10_pupil := List.mem_of_getElem? (i := 5) rfl
theorem lX10_pupil_129 : Cond.fieldLink RX10 129 (TX4 2).1 (TX4 2).2.1 (TX4 2).2.2.1 ∈ wsX10_pupil := List.mem_of_getElem? (i := 6) rfl
theorem lX10_pupil_132 : Cond.fieldLink RX10 132 (TX4 3).1 (TX4 3).2.1 (TX4 3).2.2.1 ∈ wsX10_pupil := List.mem_of_getElem? (i := 7) rfl
theorem inX10_pupil_4 : ∀ w ∈ u_ws RX4 TX4 6, w ∈ wsX10_pupil := fun _ h => List.mem_cons_of_mem _ (List.mem_append_left _ (List.mem_append_right _ h))
theorem inX10_pupil_6 : ∀ w ∈ u_ws RX6 TX6 6, w ∈ wsX10_pupil := fun _ h => List.mem_cons_of_mem _ (List.mem_append_left _ (List.mem_append_left _ (List.mem_append_right _ h)))
theorem inX10_pupil_10 : ∀ w ∈ u_ws RX10 TX10 6, w ∈ wsX10_pupil := fun _ h => List.mem_cons_of_mem _ (List.mem_append_left _ (List.mem_append_left _ (List.mem_append_left _ (List.mem_append_right _ h))))
theorem hdX10_pupil : yX10_pupil.cls = RX10 ∧ yX10_pupil.cls ≠ "java/lang/invoke/MethodHandle" ∧ yX10_pupil.cls ≠ "java/lang/invoke/VarHandle" ∧ (parseMethodDescriptor yX10_pupil.desc).map (fun d => d.parameters.length) = some 3 := by decide +kernel
abbrev wrX10_pupil_0 : List (Nat × Nat) := [(1, 38), (1, 39), (1, 40), (0, 2368)]
abbrev rmX10_pupil_0 : Room := { frames := 1, cells := 0, slots := 0, locals := 22 }
set_option maxHeartbeats 4000000 in
set_option maxRecDepth 100000 in
theorem mX10_pupil_0 (l : Launch) (D : va_G) (b : Nat → Nat) (ids : List Nat) (hI : ∀ i, i < 107 → i ∈ ids) (N : Nat) (S : ns_S) (p1 : Int32) (p2 : Int32) (p3 : Int32) {o : Int32 × (Nat → Int32) × (Nat → Int32) × (Nat → Int32) × Int32} (hf : fX10_pupil N (S.1 3072) (S.1 2368) (S.2.1 38) (S.2.1 39) (S.2.1 40) p1 p2 p3 = some o) : ns_M l yX10_pupil wsX10_pupil rmX10_pupil_0 D b ids S [.ref (b 0), .int p1, .int p2, .int p3] (some (.int o.1)) (ns_A (ns_A (ns_A (ns_I S 2368 o.2.2.2.2) 40 o.2.2.2.1) 39 o.2.2.1) 38 o.2.1) := by
  refine ns_start (Wr := wrX10_pupil_0) (by decide) rfl (Nat.le_of_ble_eq_true rfl) ?_
  intro p e s m below meth c A ls C hr hlk w hl
  have hl : lv_has ls 6 [(0, .ref (b 0)), (1, .int p1), (2, .int p2), (3, .int p3)] := hl
  unfold fX10_pupil at hf
  refine lv_aload_n C.1.1 C.1.2.1 dX10_pupil_0 rfl (lv_at hl 0 rfl) ?_
  refine ns_getr C w 0 (hI 0 (by decide)) sh_0 (rfl : vwCl[10]? = some (RX10, TX10, 6)) inX10_pupil_10 4 (by decide) rfl lX10_pupil_30 dX10_pupil_1 ?_
  refine ns_getr C w 28 (hI 28 (by decide)) sh_28 (rfl : vwCl[6]? = some (RX6, TX6, 6)) inX10_pupil_6 2 (by decide) rfl lX10_pupil_119 dX10_pupil_4 ?_
  refine lv_astore (lv' := [(4, .ref (b 37)), (0, .ref (b 0)), (1, .int p1), (2, .int p2), (3, .int p3)]) C.1.1 C.1.2.1 dX10_pupil_7 hl (by decide) rfl (fun ls hl => ?_)
  refine lv_aload_n C.1.1 C.1.2.1 dX10_pupil_9 rfl (lv_at hl 1 rfl) ?_
  refine ns_getr C w 0 (hI 0 (by decide)) sh_0 (rfl : vwCl[10]? = some (RX10, TX10, 6)) inX10_pupil_10 4 (by decide) rfl lX10_pupil_30 dX10_pupil_10 ?_
  refine ns_getr C w 28 (hI 28 (by decide)) sh_28 (rfl : vwCl[6]? = some (RX6, TX6, 6)) inX10_pupil_6 4 (by decide) rfl lX10_pupil_76 dX10_pupil_13 ?_
  refine ns_callV C w 48 (hI 48 (by decide)) sh_48 (rfl : vwCl[8]? = some (RX8, TX8, 6)) [] hf (fun u hu => mX8_isOn_48 l D b ids hI N _ hu) gX10_pupil_X8_isOn rfl rfl rfl hdX8_isOn ⟨Nat.le_of_ble_eq_true rfl, Nat.le_of_ble_eq_true rfl⟩ (fun u h => h) rfl hl.1 rfl (Nat.le_of_ble_eq_true rfl) ⟨Nat.le_refl _, Nat.le_refl _⟩ dX10_pupil_16 (fun o1 H locs hf w => ?_)
  refine ns_if_ne C hf (tgt := 32) dX10_pupil_19 (by decide) (fun hf => ?_) (fun hf => ?_)
  · refine lv_iconst (v := (-1)) C.1.1 C.1.2.1 dX10_pupil_32 (by decide) ?_
    have he := Option.some.inj hf
    subst he
    exact ns_iret C w hr hlk rfl rfl dX10_pupil_33
  · refine lv_aload C.1.1 C.1.2.1 dX10_pupil_22 (lv_at hl 0 rfl) ?_
    refine ns_geti C w 37 (hI 37 (by decide)) sh_37 (rfl : vwCl[4]? = some (RX4, TX4, 6)) inX10_pupil_4 0 (by decide) rfl lX10_pupil_123 (S.1 2368) rfl dX10_pupil_24 ?_
    refine lv_bipush (v := 30) C.1.1 C.1.2.1 dX10_pupil_27 (by decide) ?_
    refine ns_icmp_lt C hf (tgt := 34) dX10_pupil_29 (by decide) (fun hf => ?_) (fun hf => ?_)
    · refine lv_iload_n C.1.1 C.1.2.1 dX10_pupil_34 rfl (lv_at hl 2 rfl) ?_
      refine lv_iconst (v := 0) C.1.1 C.1.2.1 dX10_pupil_35 (by decide) ?_
      refine lv_bipush (v := 120) C.1.1 C.1.2.1 dX10_pupil_36 (by decide) ?_
      refine ns_callS C w [.int p1, .int 0, .int 120] hf (fun u hu => mX10_isWithin l D b ids hI N _ p1 0 120 hu) gX10_pupil_X10_isWithin rfl rfl rfl hdX10_isWithin ⟨Nat.le_of_ble_eq_true rfl, Nat.le_of_ble_eq_true rfl⟩ (fun u h => h) rfl hl.1 rfl (Nat.le_of_ble_eq_true rfl) ⟨Nat.le_refl _, Nat.le_refl _⟩ dX10_pupil_38 (fun o2 H locs hf w => ?_)
      refine ns_if_eq C hf (tgt := 62) dX10_pupil_41 (by decide) (fun hf => ?_) (fun hf => ?_)
      · refine lv_iconst (v := (-1)) C.1.1 C.1.2.1 dX10_pupil_62 (by decide) ?_
        have he := Option.some.inj hf
        subst he
        exact ns_iret C w hr hlk rfl rfl dX10_pupil_63
      · refine lv_iload_n C.1.1 C.1.2.1 dX10_pupil_44 rfl (lv_at hl 3 rfl) ?_
        refine lv_iconst (v := 0) C.1.1 C.1.2.1 dX10_pupil_45 (by decide) ?_
        refine lv_iconst (v := 2) C.1.1 C.1.2.1 dX10_pupil_46 (by decide) ?_
        refine ns_callS C w [.int p2, .int 0, .int 2] hf (fun u hu => mX10_isWithin l D b ids hI N _ p2 0 2 hu) gX10_pupil_X10_isWithin rfl rfl rfl hdX10_isWithin ⟨Nat.le_of_ble_eq_true rfl, Nat.le_of_ble_eq_true rfl⟩ (fun u h => h) rfl hl.1 rfl (Nat.le_of_ble_eq_true rfl) ⟨Nat.le_refl _, Nat.le_refl _⟩ dX10_pupil_47 (fun o3 H locs hf w => ?_)
        refine ns_if_eq C hf (tgt := 62) dX10_pupil_50 (by decide) (fun hf => ?_) (fun hf => ?_)
        · refine lv_iconst (v := (-1)) C.1.1 C.1.2.1 dX10_pupil_62 (by decide) ?_
          have he := Option.some.inj hf
          subst he
          exact ns_iret C w hr hlk rfl rfl dX10_pupil_63
        · refine lv_iload_n C.1.1 C.1.2.1 dX10_pupil_53 rfl (lv_at hl 4 rfl) ?_
          refine lv_iconst (v := 1) C.1.1 C.1.2.1 dX10_pupil_54 (by decide) ?_
          refine lv_iconst (v := 3) C.1.1 C.1.2.1 dX10_pupil_55 (by decide) ?_
          refine ns_callS C w [.int p3, .int 1, .int 3] hf (fun u hu => mX10_isWithin l D b ids hI N _ p3 1 3 hu) gX10_pupil_X10_isWithin rfl rfl rfl hdX10_isWithin ⟨Nat.le_of_ble_eq_true rfl, Nat.le_of_ble_eq_true rfl⟩ (fun u h => h) rfl hl.1 rfl (Nat.le_of_ble_eq_true rfl) ⟨Nat.le_refl _, Nat.le_refl _⟩ dX10_pupil_56 (fun o4 H locs hf w => ?_)
          refine ns_if_ne C hf (tgt := 64) dX10_pupil_59 (by decide) (fun hf => ?_) (fun hf => ?_)
          · refine lv_aload C.1.1 C.1.2.1 dX10_pupil_64 (lv_at hl 0 rfl) ?_
            refine ns_geti C w 37 (hI 37 (by decide)) sh_37 (rfl : vwCl[4]? = some (RX4, TX4, 6)) inX10_pupil_4 0 (by decide) rfl lX10_pupil_123 (S.1 2368) rfl dX10_pupil_66 ?_
            refine lv_istore (lv' := [(5, .int (S.1 2368)), (4, .ref (b 37)), (0, .ref (b 0)), (1, .int p1), (2, .int p2), (3, .int p3)]) C.1.1 C.1.2.1 dX10_pupil_69 hl (by decide) rfl (fun ls hl => ?_)
            refine lv_aload C.1.1 C.1.2.1 dX10_pupil_71 (lv_at hl 1 rfl) ?_
            refine ns_getr C w 37 (hI 37 (by decide)) sh_37 (rfl : vwCl[4]? = some (RX4, TX4, 6)) inX10_pupil_4 1 (by decide) rfl lX10_pupil_126 dX10_pupil_73 ?_
            refine lv_iload C.1.1 C.1.2.1 dX10_pupil_76 (lv_at hl 0 rfl) ?_
            refine lv_iload_n C.1.1 C.1.2.1 dX10_pupil_78 rfl (lv_at hl 3 rfl) ?_
            refine ns_iast C w 38 (hI 38 (by decide)) sh_38 hf rfl (List.mem_of_getElem? (i := 0) rfl) dX10_pupil_79 (fun y5 H locs hf w => ?_)
            refine lv_aload C.1.1 C.1.2.1 dX10_pupil_80 (lv_at hl 1 rfl) ?_
            refine ns_getr C w 37 (hI 37 (by decide)) sh_37 (rfl : vwCl[4]? = some (RX4, TX4, 6)) inX10_pupil_4 2 (by decide) rfl lX10_pupil_129 dX10_pupil_82 ?_
            refine lv_iload C.1.1 C.1.2.1 dX10_pupil_85 (lv_at hl 0 rfl) ?_
            refine lv_iload_n C.1.1 C.1.2.1 dX10_pupil_87 rfl (lv_at hl 4 rfl) ?_
            refine ns_iast C w 39 (hI 39 (by decide)) sh_39 hf rfl (List.mem_of_getElem? (i := 1) rfl) dX10_pupil_88 (fun y6 H locs hf w => ?_)
            refine lv_aload C.1.1 C.1.2.1 dX10_pupil_89 (lv_at hl 1 rfl) ?_
            refine ns_getr C w 37 (hI 37 (by decide)) sh_37 (rfl : vwCl[4]? = some (RX4, TX4, 6)) inX10_pupil_4 3 (by decide) rfl lX10_pupil_132 dX10_pupil_91 ?_
            refine lv_iload C.1.1 C.1.2.1 dX10_pupil_94 (lv_at hl 0 rfl) ?_
            refine lv_iload_n C.1.1 C.1.2.1 dX10_pupil_96 rfl (lv_at hl 5 rfl) ?_
            refine ns_iast C w 40 (hI 40 (by decide)) sh_40 hf rfl (List.mem_of_getElem? (i := 2) rfl) dX10_pupil_97 (fun y7 H locs hf w => ?_)
            refine lv_aload C.1.1 C.1.2.1 dX10_pupil_98 (lv_at hl 1 rfl) ?_
            refine lv_iload C.1.1 C.1.2.1 dX10_pupil_100 (lv_at hl 0 rfl) ?_
            refine lv_iconst (v := 1) C.1.1 C.1.2.1 dX10_pupil_102 (by decide) ?_
            refine lv_iadd C.1.1 C.1.2.1 dX10_pupil_103 ?_
            refine ns_namei hf (fun x8 hf => ?_)
            refine ns_puti C w 37 (hI 37 (by decide)) sh_37 (rfl : vwCl[4]? = some (RX4, TX4, 6)) inX10_pupil_4 tyX4_ok nmX4 0 (by decide) rfl lX10_pupil_123 rfl rfl rfl (List.mem_of_getElem? (i := 3) rfl) dX10_pupil_104 (fun H locs w => ?_)
            refine lv_iload C.1.1 C.1.2.1 dX10_pupil_107 (lv_at hl 0 rfl) ?_
            have he := Option.some.inj hf
            subst he
            exact ns_iret C w hr hlk rfl rfl dX10_pupil_109
          · refine lv_iconst (v := (-1)) C.1.1 C.1.2.1 dX10_pupil_62 (by decide) ?_
            have he := Option.some.inj hf
            subst he
            exact ns_iret C w hr hlk rfl rfl dX10_pupil_63
    · refine lv_iconst (v := (-1)) C.1.1 C.1.2.1 dX10_pupil_32 (by decide) ?_
      have he := Option.some.inj hf
      subst he
      exact ns_iret C w hr hlk rfl rfl dX10_pupil_33
theorem lX11_pupil_42 : Cond.fieldLink RX11 42 (TX11 12).1 (TX11 12).2.1 (TX11 12).2.2.1 ∈ wsX11_pupil := List.mem_of_getElem? (i := 3) rfl
theorem lX11_pupil_45 : Cond.fieldLink RX11 45 (TX11 13).1 (TX11 13).2.1 (TX11 13).2.2.1 ∈ wsX11_pupil := List.mem_of_getElem? (i := 4) rfl
theorem lX11_pupil_48 : Cond.fieldLink RX11 48 (TX11 14).1 (TX11 14).2.1 (TX11 14).2.2.1 ∈ wsX11_pupil := List.mem_of_getElem? (i := 5) rfl
theorem lX11_pupil_51 : Cond.fieldLink RX11 51 (TX11 15).1 (TX11 15).2.1 (TX11 15).2.2.1 ∈ wsX11_pupil := List.mem_of_getElem? (i := 6) rfl
theorem lX11_pupil_54 : Cond.fieldLink RX11 54 (TX11 16).1 (TX11 16).2.1 (TX11 16).2.2.1 ∈ wsX11_pupil := List.mem_of_getElem? (i := 7) rfl
theorem lX11_pupil_60 : Cond.fieldLink RX11 60 (TX11 18).1 (TX11 18).2.1 (TX11 18).2.2.1 ∈ wsX11_pupil := List.mem_of_getElem? (i := 2) rfl
theorem lX11_pupil_75 : Cond.fieldLink RX11 75 (TX11 23).1 (TX11 23).2.1 (TX11 23).2.2.1 ∈ wsX11_pupil := List.mem_of_getElem? (i := 8) rfl
theorem lX11_pupil_78 : Cond.fieldLink RX11 78 (TX11 24).1 (TX11 24).2.1 (TX11 24).2.2.1 ∈ wsX11_pupil := List.mem_of_getElem? (i := 9) rfl
theorem lX11_pupil_179 : Cond.fieldLink RX11 179 (TX11 0).1 (TX11 0).2.1 (TX11 0).2.2.1 ∈ wsX11_pupil := List.mem_of_getElem? (i := 1) rfl
theorem inX11_pupil_11 : ∀ w ∈ u_ws RX11 TX11 59, w ∈ wsX11_pupil := fun _ h => List.mem_cons_of_mem _ (List.mem_append_right _ h)
theorem hdX11_pupil : yX11_pupil.cls = RX11 ∧ yX11_pupil.cls ≠ "java/lang/invoke/MethodHandle" ∧ yX11_pupil.cls ≠ "java/lang/invoke/VarHandle" ∧ (parseMethodDescriptor yX11_pupil.desc).map (fun d => d.parameters.length) = some 3 := by decide +kernel
abbrev wrX11_pupil_62 : List (Nat × Nat) := [(0, 3968), (1, 73), (1, 74), (1, 75), (1, 76), (1, 77), (1, 84), (1, 85)]
abbrev rmX11_pupil_62 : Room := { frames := 1, cells := 0, slots := 0, locals := 22 }
set_option maxHeartbeats 4000000 in
set_option maxRecDepth 100000 in
theorem mX11_pupil_62 (l : Launch) (D : va_G) (b : Nat → Nat) (ids : List Nat) (hI : ∀ i, i < 107 → i ∈ ids) (N : Nat) (S : ns_S) (p1 : Int32) (p2 : Int32) (p3 : Int32) {o : Int32 × Int32 × (Nat → Int32) × (Nat → Int32) × (Nat → Int32) × (Nat → Int32) × (Nat → Int32) × (Nat → Int32) × (Nat → Int32)} (hf : fX11_pupil N (S.1 3968) (S.2.1 79) (S.2.1 73) (S.2.1 74) (S.2.1 75) (S.2.1 76) (S.2.1 77) (S.2.1 84) (S.2.1 85) p1 p2 p3 = some o) : ns_M l yX11_pupil wsX11_pupil rmX11_pupil_62 D b ids S [.ref (b 62), .int p1, .int p2, .int p3] (some (.int o.1)) (ns_I (ns_A (ns_A (ns_A (ns_A (ns_A (ns_A (ns_A S 85 o.2.2.2.2.2.2.2.2) 84 o.2.2.2.2.2.2.2.1) 77 o.2.2.2.2.2.2.1) 76 o.2.2.2.2.2.1) 75 o.2.2.2.2.1) 74 o.2.2.2.1) 73 o.2.2.1) 3968 o.2.1) := by
  refine ns_start (Wr := wrX11_pupil_62) (by decide) rfl (Nat.le_of_ble_eq_true rfl) ?_
  intro p e s m below meth c A ls C hr hlk w hl
  have hl : lv_has ls 5 [(0, .ref (b 62)), (1, .int p1), (2, .int p2), (3, .int p3)] := hl
  unfold fX11_pupil at hf
  refine lv_aload_n C.1.1 C.1.2.1 dX11_pupil_0 rfl (lv_at hl 0 rfl) ?_
  refine lv_iconst (v := 0) C.1.1 C.1.2.1 dX11_pupil_1 (by decide) ?_
  refine ns_puti C w 62 (hI 62 (by decide)) sh_62 (rfl : vwCl[11]? = some (RX11, TX11, 59)) inX11_pupil_11 tyX11_ok nmX11 0 (by decide) rfl lX11_pupil_179 rfl rfl rfl (List.mem_of_getElem? (i := 0) rfl) dX11_pupil_2 (fun H locs w => ?_)
  refine lv_aload_n C.1.1 C.1.2.1 dX11_pupil_5 rfl (lv_at hl 0 rfl) ?_
  refine ns_getr C w 62 (hI 62 (by decide)) sh_62 (rfl : vwCl[11]? = some (RX11, TX11, 59)) inX11_pupil_11 18 (by decide) rfl lX11_pupil_60 dX11_pupil_6 ?_
  refine lv_iconst (v := 0) C.1.1 C.1.2.1 dX11_pupil_9 (by decide) ?_
  refine ns_iald C w 79 (hI 79 (by decide)) sh_79 hf rfl dX11_pupil_10 (fun x1 hf => ?_)
  refine lv_iconst (v := (-1)) C.1.1 C.1.2.1 dX11_pupil_11 (by decide) ?_
  refine ns_icmp_ne C hf (tgt := 54) dX11_pupil_12 (by decide) (fun hf => ?_) (fun hf => ?_)
  · refine lv_iconst (v := (-1)) C.1.1 C.1.2.1 dX11_pupil_54 (by decide) ?_
    have he := Option.some.inj hf
    subst he
    exact ns_iret C w hr hlk rfl rfl dX11_pupil_55
  · refine lv_aload_n C.1.1 C.1.2.1 dX11_pupil_15 rfl (lv_at hl 0 rfl) ?_
    refine ns_getr C w 62 (hI 62 (by decide)) sh_62 (rfl : vwCl[11]? = some (RX11, TX11, 59)) inX11_pupil_11 12 (by decide) rfl lX11_pupil_42 dX11_pupil_16 ?_
    refine lv_iconst (v := 0) C.1.1 C.1.2.1 dX11_pupil_19 (by decide) ?_
    refine ns_iald C w 73 (hI 73 (by decide)) sh_73 hf rfl dX11_pupil_20 (fun x2 hf => ?_)
    refine lv_bipush (v := 30) C.1.1 C.1.2.1 dX11_pupil_21 (by decide) ?_
    refine ns_icmp_eq C hf (tgt := 54) dX11_pupil_23 (by decide) (fun hf => ?_) (fun hf => ?_)
    · refine lv_iconst (v := (-1)) C.1.1 C.1.2.1 dX11_pupil_54 (by decide) ?_
      have he := Option.some.inj hf
      subst he
      exact ns_iret C w hr hlk rfl rfl dX11_pupil_55
    · refine lv_iload_n C.1.1 C.1.2.1 dX11_pupil_26 rfl (lv_at hl 1 rfl) ?_
      refine lv_iconst (v := 0) C.1.1 C.1.2.1 dX11_pupil_27 (by decide) ?_
      refine lv_bipush (v := 120) C.1.1 C.1.2.1 dX11_pupil_28 (by decide) ?_
      refine ns_callS C w [.int p1, .int 0, .int 120] hf (fun u hu => mX11_in l D b ids hI N _ p1 0 120 hu) gX11_pupil_X11_in rfl rfl rfl hdX11_in ⟨Nat.le_of_ble_eq_true rfl, Nat.le_of_ble_eq_true rfl⟩ (fun u h => h) rfl hl.1 rfl (Nat.le_of_ble_eq_true rfl) ⟨Nat.le_refl _, Nat.le_refl _⟩ dX11_pupil_30 (fun o3 H locs hf w => ?_)
      refine ns_if_eq C hf (tgt := 54) dX11_pupil_33 (by decide) (fun hf => ?_) (fun hf => ?_)
      · refine lv_iconst (v := (-1)) C.1.1 C.1.2.1 dX11_pupil_54 (by decide) ?_
        have he := Option.some.inj hf
        subst he
        exact ns_iret C w hr hlk rfl rfl dX11_pupil_55
      · refine lv_iload_n C.1.1 C.1.2.1 dX11_pupil_36 rfl (lv_at hl 2 rfl) ?_
        refine lv_iconst (v := 0) C.1.1 C.1.2.1 dX11_pupil_37 (by decide) ?_
        refine lv_iconst (v := 2) C.1.1 C.1.2.1 dX11_pupil_38 (by decide) ?_
        refine ns_callS C w [.int p2, .int 0, .int 2] hf (fun u hu => mX11_in l D b ids hI N _ p2 0 2 hu) gX11_pupil_X11_in rfl rfl rfl hdX11_in ⟨Nat.le_of_ble_eq_true rfl, Nat.le_of_ble_eq_true rfl⟩ (fun u h => h) rfl hl.1 rfl (Nat.le_of_ble_eq_true rfl) ⟨Nat.le_refl _, Nat.le_refl _⟩ dX11_pupil_39 (fun o4 H locs hf w => ?_)
        refine ns_if_eq C hf (tgt := 54) dX11_pupil_42 (by decide) (fun hf => ?_) (fun hf => ?_)
        · refine lv_iconst (v := (-1)) C.1.1 C.1.2.1 dX11_pupil_54 (by decide) ?_
          have he := Option.some.inj hf
          subst he
          exact ns_iret C w hr hlk rfl rfl dX11_pupil_55
        · refine lv_iload_n C.1.1 C.1.2.1 dX11_pupil_45 rfl (lv_at hl 3 rfl) ?_
          refine lv_iconst (v := 1) C.1.1 C.1.2.1 dX11_pupil_46 (by decide) ?_
          refine lv_iconst (v := 3) C.1.1 C.1.2.1 dX11_pupil_47 (by decide) ?_
          refine ns_callS C w [.int p3, .int 1, .int 3] hf (fun u hu => mX11_in l D b ids hI N _ p3 1 3 hu) gX11_pupil_X11_in rfl rfl rfl hdX11_in ⟨Nat.le_of_ble_eq_true rfl, Nat.le_of_ble_eq_true rfl⟩ (fun u h => h) rfl hl.1 rfl (Nat.le_of_ble_eq_true rfl) ⟨Nat.le_refl _, Nat.le_refl _⟩ dX11_pupil_48 (fun o5 H locs hf w => ?_)
          refine ns_if_ne C hf (tgt := 56) dX11_pupil_51 (by decide) (fun hf => ?_) (fun hf => ?_)
          · refine lv_aload_n C.1.1 C.1.2.1 dX11_pupil_56 rfl (lv_at hl 0 rfl) ?_
            refine ns_getr C w 62 (hI 62 (by decide)) sh_62 (rfl : vwCl[11]? = some (RX11, TX11, 59)) inX11_pupil_11 12 (by decide) rfl lX11_pupil_42 dX11_pupil_57 ?_
            refine lv_iconst (v := 0) C.1.1 C.1.2.1 dX11_pupil_60 (by decide) ?_
            refine ns_iald C w 73 (hI 73 (by decide)) sh_73 hf rfl dX11_pupil_61 (fun x6 hf => ?_)
            refine lv_istore (lv' := [(4, .int x6), (0, .ref (b 62)), (1, .int p1), (2, .int p2), (3, .int p3)]) C.1.1 C.1.2.1 dX11_pupil_62 hl (by decide) rfl (fun ls hl => ?_)
            refine lv_aload_n C.1.1 C.1.2.1 dX11_pupil_64 rfl (lv_at hl 1 rfl) ?_
            refine ns_getr C w 62 (hI 62 (by decide)) sh_62 (rfl : vwCl[11]? = some (RX11, TX11, 59)) inX11_pupil_11 12 (by decide) rfl lX11_pupil_42 dX11_pupil_65 ?_
            refine lv_iconst (v := 0) C.1.1 C.1.2.1 dX11_pupil_68 (by decide) ?_
            refine lv_dup2_11 C.1.1 C.1.2.1 dX11_pupil_69 rfl rfl ?_
            refine ns_iald C w 73 (hI 73 (by decide)) sh_73 hf rfl dX11_pupil_70 (fun x7 hf => ?_)
            refine lv_iconst (v := 1) C.1.1 C.1.2.1 dX11_pupil_71 (by decide) ?_
            refine lv_iadd C.1.1 C.1.2.1 dX11_pupil_72 ?_
            refine ns_iast C w 73 (hI 73 (by decide)) sh_73 hf rfl (List.mem_of_getElem? (i := 1) rfl) dX11_pupil_73 (fun y8 H locs hf w => ?_)
            refine lv_aload_n C.1.1 C.1.2.1 dX11_pupil_74 rfl (lv_at hl 1 rfl) ?_
            refine ns_getr C w 62 (hI 62 (by decide)) sh_62 (rfl : vwCl[11]? = some (RX11, TX11, 59)) inX11_pupil_11 13 (by decide) rfl lX11_pupil_45 dX11_pupil_75 ?_
            refine lv_iload C.1.1 C.1.2.1 dX11_pupil_78 (lv_at hl 0 rfl) ?_
            refine lv_iload_n C.1.1 C.1.2.1 dX11_pupil_80 rfl (lv_at hl 2 rfl) ?_
            refine ns_iast C w 74 (hI 74 (by decide)) sh_74 hf rfl (List.mem_of_getElem? (i := 2) rfl) dX11_pupil_81 (fun y9 H locs hf w => ?_)
            refine lv_aload_n C.1.1 C.1.2.1 dX11_pupil_82 rfl (lv_at hl 1 rfl) ?_
            refine ns_getr C w 62 (hI 62 (by decide)) sh_62 (rfl : vwCl[11]? = some (RX11, TX11, 59)) inX11_pupil_11 14 (by decide) rfl lX11_pupil_48 dX11_pupil_83 ?_
            refine lv_iload C.1.1 C.1.2.1 dX11_pupil_86 (lv_at hl 0 rfl) ?_
            refine lv_iload_n C.1.1 C.1.2.1 dX11_pupil_88 rfl (lv_at hl 3 rfl) ?_
            refine ns_iast C w 75 (hI 75 (by decide)) sh_75 hf rfl (List.mem_of_getElem? (i := 3) rfl) dX11_pupil_89 (fun y10 H locs hf w => ?_)
            refine lv_aload_n C.1.1 C.1.2.1 dX11_pupil_90 rfl (lv_at hl 1 rfl) ?_
            refine ns_getr C w 62 (hI 62 (by decide)) sh_62 (rfl : vwCl[11]? = some (RX11, TX11, 59)) inX11_pupil_11 15 (by decide) rfl lX11_pupil_51 dX11_pupil_91 ?_
            refine lv_iload C.1.1 C.1.2.1 dX11_pupil_94 (lv_at hl 0 rfl) ?_
            refine lv_iload_n C.1.1 C.1.2.1 dX11_pupil_96 rfl (lv_at hl 4 rfl) ?_
            refine ns_iast C w 76 (hI 76 (by decide)) sh_76 hf rfl (List.mem_of_getElem? (i := 4) rfl) dX11_pupil_97 (fun y11 H locs hf w => ?_)
            refine lv_aload_n C.1.1 C.1.2.1 dX11_pupil_98 rfl (lv_at hl 1 rfl) ?_
            refine ns_getr C w 62 (hI 62 (by decide)) sh_62 (rfl : vwCl[11]? = some (RX11, TX11, 59)) inX11_pupil_11 16 (by decide) rfl lX11_pupil_54 dX11_pupil_99 ?_
            refine lv_iload C.1.1 C.1.2.1 dX11_pupil_102 (lv_at hl 0 rfl) ?_
            refine lv_iconst (v := 0) C.1.1 C.1.2.1 dX11_pupil_104 (by decide) ?_
            refine ns_iast C w 77 (hI 77 (by decide)) sh_77 hf rfl (List.mem_of_getElem? (i := 5) rfl) dX11_pupil_105 (fun y12 H locs hf w => ?_)
            refine lv_aload_n C.1.1 C.1.2.1 dX11_pupil_106 rfl (lv_at hl 1 rfl) ?_
            refine ns_getr C w 62 (hI 62 (by decide)) sh_62 (rfl : vwCl[11]? = some (RX11, TX11, 59)) inX11_pupil_11 23 (by decide) rfl lX11_pupil_75 dX11_pupil_107 ?_
            refine lv_iload C.1.1 C.1.2.1 dX11_pupil_110 (lv_at hl 0 rfl) ?_
            refine lv_iconst (v := 0) C.1.1 C.1.2.1 dX11_pupil_112 (by decide) ?_
            refine ns_iast C w 84 (hI 84 (by decide)) sh_84 hf rfl (List.mem_of_getElem? (i := 6) rfl) dX11_pupil_113 (fun y13 H locs hf w => ?_)
            refine lv_aload_n C.1.1 C.1.2.1 dX11_pupil_114 rfl (lv_at hl 1 rfl) ?_
            refine ns_getr C w 62 (hI 62 (by decide)) sh_62 (rfl : vwCl[11]? = some (RX11, TX11, 59)) inX11_pupil_11 24 (by decide) rfl lX11_pupil_78 dX11_pupil_115 ?_
            refine lv_iload C.1.1 C.1.2.1 dX11_pupil_118 (lv_at hl 0 rfl) ?_
            refine lv_iconst (v := 0) C.1.1 C.1.2.1 dX11_pupil_120 (by decide) ?_
            refine ns_iast C w 85 (hI 85 (by decide)) sh_85 hf rfl (List.mem_of_getElem? (i := 7) rfl) dX11_pupil_121 (fun y14 H locs hf w => ?_)
            refine lv_iload C.1.1 C.1.2.1 dX11_pupil_122 (lv_at hl 0 rfl) ?_
            have he := Option.some.inj hf
            subst he
            exact ns_iret C w hr hlk rfl rfl dX11_pupil_124
          · refine lv_iconst (v := (-1)) C.1.1 C.1.2.1 dX11_pupil_54 (by decide) ?_
            have he := Option.some.inj hf
            subst he
            exact ns_iret C w hr hlk rfl rfl dX11_pupil_55
theorem lX10_isPupil_30 : Cond.fieldLink RX10 30 (TX10 4).1 (TX10 4).2.1 (TX10 4).2.2.1 ∈ wsX10_isPupil := List.mem_of_getElem? (i := 1) rfl
theorem lX10_isPupil_119 : Cond.fieldLink RX10 119 (TX6 2).1 (TX6 2).2.1 (TX6 2).2.2.1 ∈ wsX10_isPupil := List.mem_of_getElem? (i := 2) rfl
theorem lX10_isPupil_123 : Cond.fieldLink RX10 123 (TX4 0).1 (TX4 0).2.1 (TX4 0).2.2.1 ∈ wsX10_isPupil := List.mem_of_getElem? (i := 3) rfl
theorem inX10_isPupil_4 : ∀ w ∈ u_ws RX4 TX4 6, w ∈ wsX10_isPupil := fun _ h => List.mem_cons_of_mem _ (List.mem_append_right _ h)
theorem inX10_isPupil_6 : ∀ w ∈ u_ws RX6 TX6 6, w ∈ wsX10_isPupil := fun _ h => List.mem_cons_of_mem _ (List.mem_append_left _ (List.mem_append_right _ h))
theorem inX10_isPupil_10 : ∀ w ∈ u_ws RX10 TX10 6, w ∈ wsX10_isPupil := fun _ h => List.mem_cons_of_mem _ (List.mem_append_left _ (List.mem_append_left _ (List.mem_append_right _ h)))
theorem hdX10_isPupil : yX10_isPupil.cls = RX10 ∧ yX10_isPupil.cls ≠ "java/lang/invoke/MethodHandle" ∧ yX10_isPupil.cls ≠ "java/lang/invoke/VarHandle" ∧ (parseMethodDescriptor yX10_isPupil.desc).map (fun d => d.parameters.length) = some 1 := by decide +kernel
abbrev wrX10_isPupil_0 : List (Nat × Nat) := []
abbrev rmX10_isPupil_0 : Room := { frames := 1, cells := 0, slots := 0, locals := 22 }
set_option maxHeartbeats 4000000 in
set_option maxRecDepth 100000 in
theorem mX10_isPupil_0 (l : Launch) (D : va_G) (b : Nat → Nat) (ids : List Nat) (hI : ∀ i, i < 107 → i ∈ ids) (N : Nat) (S : ns_S) (p1 : Int32) {o : Int32} (hf : fX10_isPupil N (S.1 2368) p1 = some o) : ns_M l yX10_isPupil wsX10_isPupil rmX10_isPupil_0 D b ids S [.ref (b 0), .int p1] (some (.int o)) S := by
  refine ns_start (Wr := wrX10_isPupil_0) (by decide) rfl (Nat.le_of_ble_eq_true rfl) ?_
  intro p e s m below meth c A ls C hr hlk w hl
  have hl : lv_has ls 2 [(0, .ref (b 0)), (1, .int p1)] := hl
  unfold fX10_isPupil at hf
  refine lv_iload_n C.1.1 C.1.2.1 dX10_isPupil_0 rfl (lv_at hl 1 rfl) ?_
  refine lv_iconst (v := 0) C.1.1 C.1.2.1 dX10_isPupil_1 (by decide) ?_
  refine lv_aload_n C.1.1 C.1.2.1 dX10_isPupil_2 rfl (lv_at hl 0 rfl) ?_
  refine ns_getr C w 0 (hI 0 (by decide)) sh_0 (rfl : vwCl[10]? = some (RX10, TX10, 6)) inX10_isPupil_10 4 (by decide) rfl lX10_isPupil_30 dX10_isPupil_3 ?_
  refine ns_getr C w 28 (hI 28 (by decide)) sh_28 (rfl : vwCl[6]? = some (RX6, TX6, 6)) inX10_isPupil_6 2 (by decide) rfl lX10_isPupil_119 dX10_isPupil_6 ?_
  refine ns_geti C w 37 (hI 37 (by decide)) sh_37 (rfl : vwCl[4]? = some (RX4, TX4, 6)) inX10_isPupil_4 0 (by decide) rfl lX10_isPupil_123 (S.1 2368) rfl dX10_isPupil_9 ?_
  refine lv_iconst (v := 1) C.1.1 C.1.2.1 dX10_isPupil_12 (by decide) ?_
  refine lv_isub C.1.1 C.1.2.1 dX10_isPupil_13 ?_
  refine ns_callS C w [.int p1, .int 0, .int ((S.1 2368) - 1)] hf (fun u hu => mX10_isWithin l D b ids hI N _ p1 0 ((S.1 2368) - 1) hu) gX10_isPupil_X10_isWithin rfl rfl rfl hdX10_isWithin ⟨Nat.le_of_ble_eq_true rfl, Nat.le_of_ble_eq_true rfl⟩ (fun u h => h) rfl hl.1 rfl (Nat.le_of_ble_eq_true rfl) ⟨Nat.le_refl _, Nat.le_refl _⟩ dX10_isPupil_14 (fun o1 H locs hf w => ?_)
  obtain ⟨hz, hf⟩ := ns_zb_some hf
  have he := Option.some.inj hf
  subst he
  exact ns_zret C w hr hlk rfl hz rfl dX10_isPupil_17
theorem lX10_isCourse_30 : Cond.fieldLink RX10 30 (TX10 4).1 (TX10 4).2.1 (TX10 4).2.2.1 ∈ wsX10_isCourse := List.mem_of_getElem? (i := 1) rfl
theorem lX10_isCourse_97 : Cond.fieldLink RX10 97 (TX6 1).1 (TX6 1).2.1 (TX6 1).2.2.1 ∈ wsX10_isCourse := List.mem_of_getElem? (i := 2) rfl
theorem lX10_isCourse_101 : Cond.fieldLink RX10 101 (TX0 0).1 (TX0 0).2.1 (TX0 0).2.2.1 ∈ wsX10_isCourse := List.mem_of_getElem? (i := 3) rfl
theorem inX10_isCourse_0 : ∀ w ∈ u_ws RX0 TX0 6, w ∈ wsX10_isCourse := fun _ h => List.mem_cons_of_mem _ (List.mem_append_right _ h)
theorem inX10_isCourse_6 : ∀ w ∈ u_ws RX6 TX6 6, w ∈ wsX10_isCourse := fun _ h => List.mem_cons_of_mem _ (List.mem_append_left _ (List.mem_append_right _ h))
theorem inX10_isCourse_10 : ∀ w ∈ u_ws RX10 TX10 6, w ∈ wsX10_isCourse := fun _ h => List.mem_cons_of_mem _ (List.mem_append_left _ (List.mem_append_left _ (List.mem_append_right _ h)))
theorem hdX10_isCourse : yX10_isCourse.cls = RX10 ∧ yX10_isCourse.cls ≠ "java/lang/invoke/MethodHandle" ∧ yX10_isCourse.cls ≠ "java/lang/invoke/VarHandle" ∧ (parseMethodDescriptor yX10_isCourse.desc).map (fun d => d.parameters.length) = some 1 := by decide +kernel
abbrev wrX10_isCourse_0 : List (Nat × Nat) := []
abbrev rmX10_isCourse_0 : Room := { frames := 1, cells := 0, slots := 0, locals := 22 }
set_option maxHeartbeats 4000000 in
set_option maxRecDepth 100000 in
theorem mX10_isCourse_0 (l : Launch) (D : va_G) (b : Nat → Nat) (ids : List Nat) (hI : ∀ i, i < 107 → i ∈ ids) (N : Nat) (S : ns_S) (p1 : Int32) {o : Int32} (hf : fX10_isCourse N (S.1 1984) p1 = some o) : ns_M l yX10_isCourse wsX10_isCourse rmX10_isCourse_0 D b ids S [.ref (b 0), .int p1] (some (.int o)) S := by
  refine ns_start (Wr := wrX10_isCourse_0) (by decide) rfl (Nat.le_of_ble_eq_true rfl) ?_
  intro p e s m below meth c A ls C hr hlk w hl
  have hl : lv_has ls 2 [(0, .ref (b 0)), (1, .int p1)] := hl
  unfold fX10_isCourse at hf
  refine lv_iload_n C.1.1 C.1.2.1 dX10_isCourse_0 rfl (lv_at hl 1 rfl) ?_
  refine lv_iconst (v := 0) C.1.1 C.1.2.1 dX10_isCourse_1 (by decide) ?_
  refine lv_aload_n C.1.1 C.1.2.1 dX10_isCourse_2 rfl (lv_at hl 0 rfl) ?_
  refine ns_getr C w 0 (hI 0 (by decide)) sh_0 (rfl : vwCl[10]? = some (RX10, TX10, 6)) inX10_isCourse_10 4 (by decide) rfl lX10_isCourse_30 dX10_isCourse_3 ?_
  refine ns_getr C w 28 (hI 28 (by decide)) sh_28 (rfl : vwCl[6]? = some (RX6, TX6, 6)) inX10_isCourse_6 1 (by decide) rfl lX10_isCourse_97 dX10_isCourse_6 ?_
  refine ns_geti C w 31 (hI 31 (by decide)) sh_31 (rfl : vwCl[0]? = some (RX0, TX0, 6)) inX10_isCourse_0 0 (by decide) rfl lX10_isCourse_101 (S.1 1984) rfl dX10_isCourse_9 ?_
  refine lv_iconst (v := 1) C.1.1 C.1.2.1 dX10_isCourse_12 (by decide) ?_
  refine lv_isub C.1.1 C.1.2.1 dX10_isCourse_13 ?_
  refine ns_callS C w [.int p1, .int 0, .int ((S.1 1984) - 1)] hf (fun u hu => mX10_isWithin l D b ids hI N _ p1 0 ((S.1 1984) - 1) hu) gX10_isCourse_X10_isWithin rfl rfl rfl hdX10_isWithin ⟨Nat.le_of_ble_eq_true rfl, Nat.le_of_ble_eq_true rfl⟩ (fun u h => h) rfl hl.1 rfl (Nat.le_of_ble_eq_true rfl) ⟨Nat.le_refl _, Nat.le_refl _⟩ dX10_isCourse_14 (fun o1 H locs hf w => ?_)
  obtain ⟨hz, hf⟩ := ns_zb_some hf
  have he := Option.some.inj hf
  subst he
  exact ns_zret C w hr hlk rfl hz rfl dX10_isCourse_17
theorem lX4_courseOfRank_24 : Cond.fieldLink RX4 24 (TX4 5).1 (TX4 5).2.1 (TX4 5).2.2.1 ∈ wsX4_courseOfRank := List.mem_of_getElem? (i := 1) rfl
theorem inX4_courseOfRank_4 : ∀ w ∈ u_ws RX4 TX4 6, w ∈ wsX4_courseOfRank := fun _ h => List.mem_cons_of_mem _ (List.mem_append_right _ h)
theorem hdX4_courseOfRank : yX4_courseOfRank.cls = RX4 ∧ yX4_courseOfRank.cls ≠ "java/lang/invoke/MethodHandle" ∧ yX4_courseOfRank.cls ≠ "java/lang/invoke/VarHandle" ∧ (parseMethodDescriptor yX4_courseOfRank.desc).map (fun d => d.parameters.length) = some 2 := by decide +kernel
abbrev wrX4_courseOfRank_37 : List (Nat × Nat) := []
abbrev rmX4_courseOfRank_37 : Room := { frames := 0, cells := 0, slots := 0, locals := 0 }
set_option maxHeartbeats 4000000 in
set_option maxRecDepth 100000 in
theorem mX4_courseOfRank_37 (l : Launch) (D : va_G) (b : Nat → Nat) (ids : List Nat) (hI : ∀ i, i < 107 → i ∈ ids) (N : Nat) (S : ns_S) (p1 : Int32) (p2 : Int32) {o : Int32} (hf : fX4_courseOfRank N (S.2.1 42) p1 p2 = some o) : ns_M l yX4_courseOfRank wsX4_courseOfRank rmX4_courseOfRank_37 D b ids S [.ref (b 37), .int p1, .int p2] (some (.int o)) S := by
  refine ns_start (Wr := wrX4_courseOfRank_37) (by decide) rfl (Nat.le_of_ble_eq_true rfl) ?_
  intro p e s m below meth c A ls C hr hlk w hl
  have hl : lv_has ls 3 [(0, .ref (b 37)), (1, .int p1), (2, .int p2)] := hl
  unfold fX4_courseOfRank at hf
  refine lv_aload_n C.1.1 C.1.2.1 dX4_courseOfRank_0 rfl (lv_at hl 0 rfl) ?_
  refine ns_getr C w 37 (hI 37 (by decide)) sh_37 (rfl : vwCl[4]? = some (RX4, TX4, 6)) inX4_courseOfRank_4 5 (by decide) rfl lX4_courseOfRank_24 dX4_courseOfRank_1 ?_
  refine lv_iload_n C.1.1 C.1.2.1 dX4_courseOfRank_4 rfl (lv_at hl 1 rfl) ?_
  refine lv_bipush (v := 6) C.1.1 C.1.2.1 dX4_courseOfRank_5 (by decide) ?_
  refine lv_imul C.1.1 C.1.2.1 dX4_courseOfRank_7 ?_
  refine lv_iload_n C.1.1 C.1.2.1 dX4_courseOfRank_8 rfl (lv_at hl 2 rfl) ?_
  refine lv_iadd C.1.1 C.1.2.1 dX4_courseOfRank_9 ?_
  refine ns_iald C w 42 (hI 42 (by decide)) sh_42 hf rfl dX4_courseOfRank_10 (fun x1 hf => ?_)
  have he := Option.some.inj hf
  subst he
  exact ns_iret C w hr hlk rfl rfl dX4_courseOfRank_11
theorem lX4_rankOf_21 : Cond.fieldLink RX4 21 (TX4 4).1 (TX4 4).2.1 (TX4 4).2.2.1 ∈ wsX4_rankOf := List.mem_of_getElem? (i := 1) rfl
theorem inX4_rankOf_4 : ∀ w ∈ u_ws RX4 TX4 6, w ∈ wsX4_rankOf := fun _ h => List.mem_cons_of_mem _ (List.mem_append_right _ h)
theorem hdX4_rankOf : yX4_rankOf.cls = RX4 ∧ yX4_rankOf.cls ≠ "java/lang/invoke/MethodHandle" ∧ yX4_rankOf.cls ≠ "java/lang/invoke/VarHandle" ∧ (parseMethodDescriptor yX4_rankOf.desc).map (fun d => d.parameters.length) = some 2 := by decide +kernel
abbrev wrX4_rankOf_37 : List (Nat × Nat) := []
abbrev rmX4_rankOf_37 : Room := { frames := 1, cells := 0, slots := 0, locals := 22 }
set_option maxHeartbeats 4000000 in
set_option maxRecDepth 100000 in
theorem wX4_rankOf_37_2 {p : Program} {l : Launch} {e : Env} {s : State} {m : MethodId} {args : Array Value} {below : List Frame} {meth : Method} {c : Code} {D : va_G} {b : Nat → Nat} {ids : List Nat} {A : Nat → Prop} {S0 : ns_S} {o : Int32} (N : Nat) (hI : ∀ i, i < 107 → i ∈ ids) (C : ns_C p m c cX4_rankOf 4 s args wsX4_rankOf RX4 D A) (hr : meth.sig.returnType = some .int) (hlk : meth.locks = false) : ∀ n : Nat, ∀ {S : ns_S} {H : Heap} {locs : List Loc} {ls : Array Slot} {l1 : Int32} {l2 : Int32} {l3 : Int32}, ns_W D b ids A s.heap wrX4_rankOf_37 S0 S H locs → lv_has ls 4 [(0, .ref (b 37)), (1, .int l1), (2, .int l2), (3, .int l3)] → fX4_rankOf_2 N n (S.2.1 41) (S.2.1 42) l1 l2 l3 = some o → W p l e rmX4_rankOf_37 s m args below meth c H locs 0 0 (MQ below (ns_Q D b ids S0 (some (.int o)) A) args s 0 0 A) (F0 m 2 ls []) := by
  intro n
  induction n with
  | zero =>
    intro S H locs ls l1 l2 l3 w hl hf
    cases hf
  | succ n K2 =>
    intro S H locs ls l1 l2 l3 w hl hf
    change gX4_rankOf_2 N (fX4_rankOf_2 N n) (S.2.1 41) (S.2.1 42) l1 l2 l3 = some o at hf
    generalize fX4_rankOf_2 N n = r2 at hf K2
    unfold gX4_rankOf_2 at hf
    refine lv_iload_n C.1.1 C.1.2.1 dX4_rankOf_2 rfl (lv_at hl 3 rfl) ?_
    refine lv_aload_n C.1.1 C.1.2.1 dX4_rankOf_3 rfl (lv_at hl 0 rfl) ?_
    refine ns_getr C w 37 (hI 37 (by decide)) sh_37 (rfl : vwCl[4]? = some (RX4, TX4, 6)) inX4_rankOf_4 4 (by decide) rfl lX4_rankOf_21 dX4_rankOf_4 ?_
    refine lv_iload_n C.1.1 C.1.2.1 dX4_rankOf_7 rfl (lv_at hl 1 rfl) ?_
    refine ns_iald C w 41 (hI 41 (by decide)) sh_41 hf rfl dX4_rankOf_8 (fun x1 hf => ?_)
    refine ns_icmp_ge C hf (tgt := 30) dX4_rankOf_9 (by decide) (fun hf => ?_) (fun hf => ?_)
    · refine lv_iconst (v := (-1)) C.1.1 C.1.2.1 dX4_rankOf_30 (by decide) ?_
      have he := Option.some.inj hf
      subst he
      exact ns_iret C w hr hlk rfl rfl dX4_rankOf_31
    · refine lv_aload_n C.1.1 C.1.2.1 dX4_rankOf_12 rfl (lv_at hl 0 rfl) ?_
      refine lv_iload_n C.1.1 C.1.2.1 dX4_rankOf_13 rfl (lv_at hl 1 rfl) ?_
      refine lv_iload_n C.1.1 C.1.2.1 dX4_rankOf_14 rfl (lv_at hl 3 rfl) ?_
      refine ns_callV C w 37 (hI 37 (by decide)) sh_37 (rfl : vwCl[4]? = some (RX4, TX4, 6)) [.int l1, .int l3] hf (fun u hu => mX4_courseOfRank_37 l D b ids hI N _ l1 l3 hu) gX4_rankOf_X4_courseOfRank rfl rfl rfl hdX4_courseOfRank ⟨Nat.le_of_ble_eq_true rfl, Nat.le_of_ble_eq_true rfl⟩ (fun u h => h) rfl hl.1 rfl (Nat.le_of_ble_eq_true rfl) ⟨Nat.le_refl _, Nat.le_refl _⟩ dX4_rankOf_15 (fun o2 H locs hf w => ?_)
      refine lv_iload_n C.1.1 C.1.2.1 dX4_rankOf_18 rfl (lv_at hl 2 rfl) ?_
      refine ns_icmp_ne C hf (tgt := 24) dX4_rankOf_19 (by decide) (fun hf => ?_) (fun hf => ?_)
      · refine ns_iinc (lv' := fun x3 => [(3, .int x3), (0, .ref (b 37)), (1, .int l1), (2, .int l2)]) C hf dX4_rankOf_24 hl (k := 3) rfl rfl (by decide) (fun _ => rfl) (fun x3 ls hl hf => ?_)
        refine lv_goto (tgt := 2) C.1.1 C.1.2.1 dX4_rankOf_27 (by decide) ?_
        exact K2 w (lv_sub hl [1, 2, 3, 0] rfl) hf
      · refine lv_iload_n C.1.1 C.1.2.1 dX4_rankOf_22 rfl (lv_at hl 3 rfl) ?_
        have he := Option.some.inj hf
        subst he
        exact ns_iret C w hr hlk rfl rfl dX4_rankOf_23
set_option maxHeartbeats 4000000 in
set_option maxRecDepth 100000 in
theorem mX4_rankOf_37 (l : Launch) (D : va_G) (b : Nat → Nat) (ids : List Nat) (hI : ∀ i, i < 107 → i ∈ ids) (N : Nat) (S : ns_S) (p1 : Int32) (p2 : Int32) {o : Int32} (hf : fX4_rankOf N (S.2.1 41) (S.2.1 42) p1 p2 = some o) : ns_M l yX4_rankOf wsX4_rankOf rmX4_rankOf_37 D b ids S [.ref (b 37), .int p1, .int p2] (some (.int o)) S := by
  refine ns_start (Wr := wrX4_rankOf_37) (by decide) rfl (Nat.le_of_ble_eq_true rfl) ?_
  intro p e s m below meth c A ls C hr hlk w hl
  have hl : lv_has ls 4 [(0, .ref (b 37)), (1, .int p1), (2, .int p2)] := hl
  unfold fX4_rankOf at hf
  refine lv_iconst (v := 0) C.1.1 C.1.2.1 dX4_rankOf_0 (by decide) ?_
  refine lv_istore_n (lv' := [(3, .int 0), (0, .ref (b 37)), (1, .int p1), (2, .int p2)]) C.1.1 C.1.2.1 dX4_rankOf_1 rfl hl (by decide) rfl (fun ls hl => ?_)
  exact wX4_rankOf_37_2 N hI C hr hlk N w (lv_sub hl [1, 2, 3, 0] rfl) hf
theorem lX4_addWish_21 : Cond.fieldLink RX4 21 (TX4 4).1 (TX4 4).2.1 (TX4 4).2.2.1 ∈ wsX4_addWish := List.mem_of_getElem? (i := 1) rfl
theorem lX4_addWish_24 : Cond.fieldLink RX4 24 (TX4 5).1 (TX4 5).2.1 (TX4 5).2.2.1 ∈ wsX4_addWish := List.mem_of_getElem? (i := 2) rfl
theorem inX4_addWish_4 : ∀ w ∈ u_ws RX4 TX4 6, w ∈ wsX4_addWish := fun _ h => List.mem_cons_of_mem _ (List.mem_append_right _ h)
theorem hdX4_addWish : yX4_addWish.cls = RX4 ∧ yX4_addWish.cls ≠ "java/lang/invoke/MethodHandle" ∧ yX4_addWish.cls ≠ "java/lang/invoke/VarHandle" ∧ (parseMethodDescriptor yX4_addWish.desc).map (fun d => d.parameters.length) = some 2 := by decide +kernel
abbrev wrX4_addWish_37 : List (Nat × Nat) := [(1, 42), (1, 41)]
abbrev rmX4_addWish_37 : Room := { frames := 0, cells := 0, slots := 0, locals := 0 }
set_option maxHeartbeats 4000000 in
set_option maxRecDepth 100000 in
theorem mX4_addWish_37 (l : Launch) (D : va_G) (b : Nat → Nat) (ids : List Nat) (hI : ∀ i, i < 107 → i ∈ ids) (N : Nat) (S : ns_S) (p1 : Int32) (p2 : Int32) {o : Int32 × (Nat → Int32) × (Nat → Int32)} (hf : fX4_addWish N (S.2.1 41) (S.2.1 42) p1 p2 = some o) : ns_M l yX4_addWish wsX4_addWish rmX4_addWish_37 D b ids S [.ref (b 37), .int p1, .int p2] (some (.int o.1)) (ns_A (ns_A S 41 o.2.2) 42 o.2.1) := by
  refine ns_start (Wr := wrX4_addWish_37) (by decide) rfl (Nat.le_of_ble_eq_true rfl) ?_
  intro p e s m below meth c A ls C hr hlk w hl
  have hl : lv_has ls 4 [(0, .ref (b 37)), (1, .int p1), (2, .int p2)] := hl
  unfold fX4_addWish at hf
  refine lv_aload_n C.1.1 C.1.2.1 dX4_addWish_0 rfl (lv_at hl 0 rfl) ?_
  refine ns_getr C w 37 (hI 37 (by decide)) sh_37 (rfl : vwCl[4]? = some (RX4, TX4, 6)) inX4_addWish_4 4 (by decide) rfl lX4_addWish_21 dX4_addWish_1 ?_
  refine lv_iload_n C.1.1 C.1.2.1 dX4_addWish_4 rfl (lv_at hl 1 rfl) ?_
  refine ns_iald C w 41 (hI 41 (by decide)) sh_41 hf rfl dX4_addWish_5 (fun x1 hf => ?_)
  refine lv_istore_n (lv' := [(3, .int x1), (0, .ref (b 37)), (1, .int p1), (2, .int p2)]) C.1.1 C.1.2.1 dX4_addWish_6 rfl hl (by decide) rfl (fun ls hl => ?_)
  refine lv_aload_n C.1.1 C.1.2.1 dX4_addWish_7 rfl (lv_at hl 1 rfl) ?_
  refine ns_getr C w 37 (hI 37 (by decide)) sh_37 (rfl : vwCl[4]? = some (RX4, TX4, 6)) inX4_addWish_4 5 (by decide) rfl lX4_addWish_24 dX4_addWish_8 ?_
  refine lv_iload_n C.1.1 C.1.2.1 dX4_addWish_11 rfl (lv_at hl 2 rfl) ?_
  refine lv_bipush (v := 6) C.1.1 C.1.2.1 dX4_addWish_12 (by decide) ?_
  refine lv_imul C.1.1 C.1.2.1 dX4_addWish_14 ?_
  refine lv_iload_n C.1.1 C.1.2.1 dX4_addWish_15 rfl (lv_at hl 0 rfl) ?_
  refine lv_iadd C.1.1 C.1.2.1 dX4_addWish_16 ?_
  refine lv_iload_n C.1.1 C.1.2.1 dX4_addWish_17 rfl (lv_at hl 3 rfl) ?_
  refine ns_iast C w 42 (hI 42 (by decide)) sh_42 hf rfl (List.mem_of_getElem? (i := 0) rfl) dX4_addWish_18 (fun y2 H locs hf w => ?_)
  refine lv_aload_n C.1.1 C.1.2.1 dX4_addWish_19 rfl (lv_at hl 1 rfl) ?_
  refine ns_getr C w 37 (hI 37 (by decide)) sh_37 (rfl : vwCl[4]? = some (RX4, TX4, 6)) inX4_addWish_4 4 (by decide) rfl lX4_addWish_21 dX4_addWish_20 ?_
  refine lv_iload_n C.1.1 C.1.2.1 dX4_addWish_23 rfl (lv_at hl 2 rfl) ?_
  refine lv_iload_n C.1.1 C.1.2.1 dX4_addWish_24 rfl (lv_at hl 0 rfl) ?_
  refine lv_iconst (v := 1) C.1.1 C.1.2.1 dX4_addWish_25 (by decide) ?_
  refine lv_iadd C.1.1 C.1.2.1 dX4_addWish_26 ?_
  refine ns_iast C w 41 (hI 41 (by decide)) sh_41 hf rfl (List.mem_of_getElem? (i := 1) rfl) dX4_addWish_27 (fun y3 H locs hf w => ?_)
  refine lv_iload_n C.1.1 C.1.2.1 dX4_addWish_28 rfl (lv_at hl 0 rfl) ?_
  have he := Option.some.inj hf
  subst he
  exact ns_iret C w hr hlk rfl rfl dX4_addWish_29
theorem lX7_hasPlaceLeft_15 : Cond.fieldLink RX7 15 (TX7 2).1 (TX7 2).2.1 (TX7 2).2.2.1 ∈ wsX7_hasPlaceLeft := List.mem_of_getElem? (i := 2) rfl
theorem lX7_hasPlaceLeft_18 : Cond.fieldLink RX7 18 (TX7 3).1 (TX7 3).2.1 (TX7 3).2.2.1 ∈ wsX7_hasPlaceLeft := List.mem_of_getElem? (i := 1) rfl
theorem inX7_hasPlaceLeft_7 : ∀ w ∈ u_ws RX7 TX7 5, w ∈ wsX7_hasPlaceLeft := fun _ h => List.mem_cons_of_mem _ (List.mem_append_right _ h)
theorem hdX7_hasPlaceLeft : yX7_hasPlaceLeft.cls = RX7 ∧ yX7_hasPlaceLeft.cls ≠ "java/lang/invoke/MethodHandle" ∧ yX7_hasPlaceLeft.cls ≠ "java/lang/invoke/VarHandle" ∧ (parseMethodDescriptor yX7_hasPlaceLeft.desc).map (fun d => d.parameters.length) = some 1 := by decide +kernel
abbrev wrX7_hasPlaceLeft_43 : List (Nat × Nat) := []
abbrev rmX7_hasPlaceLeft_43 : Room := { frames := 0, cells := 0, slots := 0, locals := 0 }
set_option maxHeartbeats 4000000 in
set_option maxRecDepth 100000 in
theorem mX7_hasPlaceLeft_43 (l : Launch) (D : va_G) (b : Nat → Nat) (ids : List Nat) (hI : ∀ i, i < 107 → i ∈ ids) (N : Nat) (S : ns_S) (p1 : Int32) {o : Int32} (hf : fX7_hasPlaceLeft N (S.2.1 46) (S.2.1 45) p1 = some o) : ns_M l yX7_hasPlaceLeft wsX7_hasPlaceLeft rmX7_hasPlaceLeft_43 D b ids S [.ref (b 43), .int p1] (some (.int o)) S := by
  refine ns_start (Wr := wrX7_hasPlaceLeft_43) (by decide) rfl (Nat.le_of_ble_eq_true rfl) ?_
  intro p e s m below meth c A ls C hr hlk w hl
  have hl : lv_has ls 2 [(0, .ref (b 43)), (1, .int p1)] := hl
  unfold fX7_hasPlaceLeft at hf
  refine lv_aload_n C.1.1 C.1.2.1 dX7_hasPlaceLeft_0 rfl (lv_at hl 0 rfl) ?_
  refine ns_getr C w 43 (hI 43 (by decide)) sh_43 (rfl : vwCl[7]? = some (RX7, TX7, 5)) inX7_hasPlaceLeft_7 3 (by decide) rfl lX7_hasPlaceLeft_18 dX7_hasPlaceLeft_1 ?_
  refine lv_iload_n C.1.1 C.1.2.1 dX7_hasPlaceLeft_4 rfl (lv_at hl 1 rfl) ?_
  refine ns_iald C w 46 (hI 46 (by decide)) sh_46 hf rfl dX7_hasPlaceLeft_5 (fun x1 hf => ?_)
  refine lv_aload_n C.1.1 C.1.2.1 dX7_hasPlaceLeft_6 rfl (lv_at hl 0 rfl) ?_
  refine ns_getr C w 43 (hI 43 (by decide)) sh_43 (rfl : vwCl[7]? = some (RX7, TX7, 5)) inX7_hasPlaceLeft_7 2 (by decide) rfl lX7_hasPlaceLeft_15 dX7_hasPlaceLeft_7 ?_
  refine lv_iload_n C.1.1 C.1.2.1 dX7_hasPlaceLeft_10 rfl (lv_at hl 1 rfl) ?_
  refine ns_iald C w 45 (hI 45 (by decide)) sh_45 hf rfl dX7_hasPlaceLeft_11 (fun x2 hf => ?_)
  refine ns_icmp_ge C hf (tgt := 19) dX7_hasPlaceLeft_12 (by decide) (fun hf => ?_) (fun hf => ?_)
  · refine lv_iconst (v := 0) C.1.1 C.1.2.1 dX7_hasPlaceLeft_19 (by decide) ?_
    have he := Option.some.inj hf
    subst he
    exact ns_zret C w hr hlk rfl (Or.inl rfl) rfl dX7_hasPlaceLeft_20
  · refine lv_iconst (v := 1) C.1.1 C.1.2.1 dX7_hasPlaceLeft_15 (by decide) ?_
    refine lv_goto (tgt := 20) C.1.1 C.1.2.1 dX7_hasPlaceLeft_16 (by decide) ?_
    have he := Option.some.inj hf
    subst he
    exact ns_zret C w hr hlk rfl (Or.inr rfl) rfl dX7_hasPlaceLeft_20
theorem lX7_hasCourse_21 : Cond.fieldLink RX7 21 (TX7 4).1 (TX7 4).2.1 (TX7 4).2.2.1 ∈ wsX7_hasCourse := List.mem_of_getElem? (i := 1) rfl
theorem inX7_hasCourse_7 : ∀ w ∈ u_ws RX7 TX7 5, w ∈ wsX7_hasCourse := fun _ h => List.mem_cons_of_mem _ (List.mem_append_right _ h)
theorem hdX7_hasCourse : yX7_hasCourse.cls = RX7 ∧ yX7_hasCourse.cls ≠ "java/lang/invoke/MethodHandle" ∧ yX7_hasCourse.cls ≠ "java/lang/invoke/VarHandle" ∧ (parseMethodDescriptor yX7_hasCourse.desc).map (fun d => d.parameters.length) = some 2 := by decide +kernel
abbrev wrX7_hasCourse_43 : List (Nat × Nat) := []
abbrev rmX7_hasCourse_43 : Room := { frames := 0, cells := 0, slots := 0, locals := 0 }
set_option maxHeartbeats 4000000 in
set_option maxRecDepth 100000 in
theorem mX7_hasCourse_43 (l : Launch) (D : va_G) (b : Nat → Nat) (ids : List Nat) (hI : ∀ i, i < 107 → i ∈ ids) (N : Nat) (S : ns_S) (p1 : Int32) (p2 : Int32) {o : Int32} (hf : fX7_hasCourse N (S.2.1 47) p1 p2 = some o) : ns_M l yX7_hasCourse wsX7_hasCourse rmX7_hasCourse_43 D b ids S [.ref (b 43), .int p1, .int p2] (some (.int o)) S := by
  refine ns_start (Wr := wrX7_hasCourse_43) (by decide) rfl (Nat.le_of_ble_eq_true rfl) ?_
  intro p e s m below meth c A ls C hr hlk w hl
  have hl : lv_has ls 3 [(0, .ref (b 43)), (1, .int p1), (2, .int p2)] := hl
  unfold fX7_hasCourse at hf
  refine lv_aload_n C.1.1 C.1.2.1 dX7_hasCourse_0 rfl (lv_at hl 0 rfl) ?_
  refine ns_getr C w 43 (hI 43 (by decide)) sh_43 (rfl : vwCl[7]? = some (RX7, TX7, 5)) inX7_hasCourse_7 4 (by decide) rfl lX7_hasCourse_21 dX7_hasCourse_1 ?_
  refine lv_iload_n C.1.1 C.1.2.1 dX7_hasCourse_4 rfl (lv_at hl 1 rfl) ?_
  refine ns_iald C w 47 (hI 47 (by decide)) sh_47 hf rfl dX7_hasCourse_5 (fun x1 hf => ?_)
  refine lv_iload_n C.1.1 C.1.2.1 dX7_hasCourse_6 rfl (lv_at hl 2 rfl) ?_
  refine lv_ishr C.1.1 C.1.2.1 dX7_hasCourse_7 ?_
  refine lv_iconst (v := 1) C.1.1 C.1.2.1 dX7_hasCourse_8 (by decide) ?_
  refine lv_iand C.1.1 C.1.2.1 dX7_hasCourse_9 ?_
  refine ns_if_eq C hf (tgt := 17) dX7_hasCourse_10 (by decide) (fun hf => ?_) (fun hf => ?_)
  · refine lv_iconst (v := 0) C.1.1 C.1.2.1 dX7_hasCourse_17 (by decide) ?_
    have he := Option.some.inj hf
    subst he
    exact ns_zret C w hr hlk rfl (Or.inl rfl) rfl dX7_hasCourse_18
  · refine lv_iconst (v := 1) C.1.1 C.1.2.1 dX7_hasCourse_13 (by decide) ?_
    refine lv_goto (tgt := 18) C.1.1 C.1.2.1 dX7_hasCourse_14 (by decide) ?_
    have he := Option.some.inj hf
    subst he
    exact ns_zret C w hr hlk rfl (Or.inr rfl) rfl dX7_hasCourse_18
theorem lX7_isHeld_30 : Cond.fieldLink RX7 30 (TX7 0).1 (TX7 0).2.1 (TX7 0).2.2.1 ∈ wsX7_isHeld := List.mem_of_getElem? (i := 1) rfl
theorem inX7_isHeld_7 : ∀ w ∈ u_ws RX7 TX7 5, w ∈ wsX7_isHeld := fun _ h => List.mem_cons_of_mem _ (List.mem_append_right _ h)
theorem hdX7_isHeld : yX7_isHeld.cls = RX7 ∧ yX7_isHeld.cls ≠ "java/lang/invoke/MethodHandle" ∧ yX7_isHeld.cls ≠ "java/lang/invoke/VarHandle" ∧ (parseMethodDescriptor yX7_isHeld.desc).map (fun d => d.parameters.length) = some 1 := by decide +kernel
abbrev wrX7_isHeld_43 : List (Nat × Nat) := []
abbrev rmX7_isHeld_43 : Room := { frames := 0, cells := 0, slots := 0, locals := 0 }
set_option maxHeartbeats 4000000 in
set_option maxRecDepth 100000 in
theorem mX7_isHeld_43 (l : Launch) (D : va_G) (b : Nat → Nat) (ids : List Nat) (hI : ∀ i, i < 107 → i ∈ ids) (N : Nat) (S : ns_S) (p1 : Int32) {o : Int32} (hf : fX7_isHeld N (S.1 2752) p1 = some o) : ns_M l yX7_isHeld wsX7_isHeld rmX7_isHeld_43 D b ids S [.ref (b 43), .int p1] (some (.int o)) S := by
  refine ns_start (Wr := wrX7_isHeld_43) (by decide) rfl (Nat.le_of_ble_eq_true rfl) ?_
  intro p e s m below meth c A ls C hr hlk w hl
  have hl : lv_has ls 2 [(0, .ref (b 43)), (1, .int p1)] := hl
  unfold fX7_isHeld at hf
  refine lv_aload_n C.1.1 C.1.2.1 dX7_isHeld_0 rfl (lv_at hl 0 rfl) ?_
  refine ns_geti C w 43 (hI 43 (by decide)) sh_43 (rfl : vwCl[7]? = some (RX7, TX7, 5)) inX7_isHeld_7 0 (by decide) rfl lX7_isHeld_30 (S.1 2752) rfl dX7_isHeld_1 ?_
  refine lv_iload_n C.1.1 C.1.2.1 dX7_isHeld_4 rfl (lv_at hl 1 rfl) ?_
  refine lv_ishr C.1.1 C.1.2.1 dX7_isHeld_5 ?_
  refine lv_iconst (v := 1) C.1.1 C.1.2.1 dX7_isHeld_6 (by decide) ?_
  refine lv_iand C.1.1 C.1.2.1 dX7_isHeld_7 ?_
  refine ns_if_eq C hf (tgt := 15) dX7_isHeld_8 (by decide) (fun hf => ?_) (fun hf => ?_)
  · refine lv_iconst (v := 0) C.1.1 C.1.2.1 dX7_isHeld_15 (by decide) ?_
    have he := Option.some.inj hf
    subst he
    exact ns_zret C w hr hlk rfl (Or.inl rfl) rfl dX7_isHeld_16
  · refine lv_iconst (v := 1) C.1.1 C.1.2.1 dX7_isHeld_11 (by decide) ?_
    refine lv_goto (tgt := 16) C.1.1 C.1.2.1 dX7_isHeld_12 (by decide) ?_
    have he := Option.some.inj hf
    subst he
    exact ns_zret C w hr hlk rfl (Or.inr rfl) rfl dX7_isHeld_16
theorem lX6_courseOn_21 : Cond.fieldLink RX6 21 (TX6 1).1 (TX6 1).2.1 (TX6 1).2.2.1 ∈ wsX6_courseOn := List.mem_of_getElem? (i := 1) rfl
theorem lX6_courseOn_35 : Cond.fieldLink RX6 35 (TX6 3).1 (TX6 3).2.1 (TX6 3).2.2.1 ∈ wsX6_courseOn := List.mem_of_getElem? (i := 4) rfl
theorem lX6_courseOn_72 : Cond.fieldLink RX6 72 (TX0 0).1 (TX0 0).2.1 (TX0 0).2.2.1 ∈ wsX6_courseOn := List.mem_of_getElem? (i := 2) rfl
theorem lX6_courseOn_76 : Cond.fieldLink RX6 76 (TX0 1).1 (TX0 1).2.1 (TX0 1).2.2.1 ∈ wsX6_courseOn := List.mem_of_getElem? (i := 3) rfl
theorem inX6_courseOn_0 : ∀ w ∈ u_ws RX0 TX0 6, w ∈ wsX6_courseOn := fun _ h => List.mem_cons_of_mem _ (List.mem_append_left _ (List.mem_append_right _ h))
theorem inX6_courseOn_6 : ∀ w ∈ u_ws RX6 TX6 6, w ∈ wsX6_courseOn := fun _ h => List.mem_cons_of_mem _ (List.mem_append_left _ (List.mem_append_left _ (List.mem_append_right _ h)))
theorem hdX6_courseOn : yX6_courseOn.cls = RX6 ∧ yX6_courseOn.cls ≠ "java/lang/invoke/MethodHandle" ∧ yX6_courseOn.cls ≠ "java/lang/invoke/VarHandle" ∧ (parseMethodDescriptor yX6_courseOn.desc).map (fun d => d.parameters.length) = some 2 := by decide +kernel
abbrev wrX6_courseOn_28 : List (Nat × Nat) := []
abbrev rmX6_courseOn_28 : Room := { frames := 1, cells := 0, slots := 0, locals := 22 }
set_option maxHeartbeats 4000000 in
set_option maxRecDepth 100000 in
theorem wX6_courseOn_28_2 {p : Program} {l : Launch} {e : Env} {s : State} {m : MethodId} {args : Array Value} {below : List Frame} {meth : Method} {c : Code} {D : va_G} {b : Nat → Nat} {ids : List Nat} {A : Nat → Prop} {S0 : ns_S} {o : Int32} (N : Nat) (hI : ∀ i, i < 107 → i ∈ ids) (C : ns_C p m c cX6_courseOn 4 s args wsX6_courseOn RX6 D A) (hr : meth.sig.returnType = some .int) (hlk : meth.locks = false) : ∀ n : Nat, ∀ {S : ns_S} {H : Heap} {locs : List Loc} {ls : Array Slot} {l1 : Int32} {l2 : Int32} {l3 : Int32}, ns_W D b ids A s.heap wrX6_courseOn_28 S0 S H locs → lv_has ls 4 [(0, .ref (b 28)), (1, .int l1), (2, .int l2), (3, .int l3)] → fX6_courseOn_2 N n (S.1 1984) (S.2.1 32) (S.2.1 47) l1 l2 l3 = some o → W p l e rmX6_courseOn_28 s m args below meth c H locs 0 0 (MQ below (ns_Q D b ids S0 (some (.int o)) A) args s 0 0 A) (F0 m 2 ls []) := by
  intro n
  induction n with
  | zero =>
    intro S H locs ls l1 l2 l3 w hl hf
    cases hf
  | succ n K2 =>
    intro S H locs ls l1 l2 l3 w hl hf
    change gX6_courseOn_2 N (fX6_courseOn_2 N n) (S.1 1984) (S.2.1 32) (S.2.1 47) l1 l2 l3 = some o at hf
    generalize fX6_courseOn_2 N n = r2 at hf K2
    unfold gX6_courseOn_2 at hf
    refine lv_iload_n C.1.1 C.1.2.1 dX6_courseOn_2 rfl (lv_at hl 3 rfl) ?_
    refine lv_aload_n C.1.1 C.1.2.1 dX6_courseOn_3 rfl (lv_at hl 0 rfl) ?_
    refine ns_getr C w 28 (hI 28 (by decide)) sh_28 (rfl : vwCl[6]? = some (RX6, TX6, 6)) inX6_courseOn_6 1 (by decide) rfl lX6_courseOn_21 dX6_courseOn_4 ?_
    refine ns_geti C w 31 (hI 31 (by decide)) sh_31 (rfl : vwCl[0]? = some (RX0, TX0, 6)) inX6_courseOn_0 0 (by decide) rfl lX6_courseOn_72 (S.1 1984) rfl dX6_courseOn_7 ?_
    refine ns_icmp_ge C hf (tgt := 46) dX6_courseOn_10 (by decide) (fun hf => ?_) (fun hf => ?_)
    · refine lv_iconst (v := (-1)) C.1.1 C.1.2.1 dX6_courseOn_46 (by decide) ?_
      have he := Option.some.inj hf
      subst he
      exact ns_iret C w hr hlk rfl rfl dX6_courseOn_47
    · refine lv_aload_n C.1.1 C.1.2.1 dX6_courseOn_13 rfl (lv_at hl 0 rfl) ?_
      refine ns_getr C w 28 (hI 28 (by decide)) sh_28 (rfl : vwCl[6]? = some (RX6, TX6, 6)) inX6_courseOn_6 1 (by decide) rfl lX6_courseOn_21 dX6_courseOn_14 ?_
      refine ns_getr C w 31 (hI 31 (by decide)) sh_31 (rfl : vwCl[0]? = some (RX0, TX0, 6)) inX6_courseOn_0 1 (by decide) rfl lX6_courseOn_76 dX6_courseOn_17 ?_
      refine lv_iload_n C.1.1 C.1.2.1 dX6_courseOn_20 rfl (lv_at hl 3 rfl) ?_
      refine ns_iald C w 32 (hI 32 (by decide)) sh_32 hf rfl dX6_courseOn_21 (fun x1 hf => ?_)
      refine lv_iload_n C.1.1 C.1.2.1 dX6_courseOn_22 rfl (lv_at hl 2 rfl) ?_
      refine ns_icmp_ne C hf (tgt := 40) dX6_courseOn_23 (by decide) (fun hf => ?_) (fun hf => ?_)
      · refine ns_iinc (lv' := fun x2 => [(3, .int x2), (0, .ref (b 28)), (1, .int l1), (2, .int l2)]) C hf dX6_courseOn_40 hl (k := 3) rfl rfl (by decide) (fun _ => rfl) (fun x2 ls hl hf => ?_)
        refine lv_goto (tgt := 2) C.1.1 C.1.2.1 dX6_courseOn_43 (by decide) ?_
        exact K2 w (lv_sub hl [1, 2, 3, 0] rfl) hf
      · refine lv_aload_n C.1.1 C.1.2.1 dX6_courseOn_26 rfl (lv_at hl 0 rfl) ?_
        refine ns_getr C w 28 (hI 28 (by decide)) sh_28 (rfl : vwCl[6]? = some (RX6, TX6, 6)) inX6_courseOn_6 3 (by decide) rfl lX6_courseOn_35 dX6_courseOn_27 ?_
        refine lv_iload_n C.1.1 C.1.2.1 dX6_courseOn_30 rfl (lv_at hl 1 rfl) ?_
        refine lv_iload_n C.1.1 C.1.2.1 dX6_courseOn_31 rfl (lv_at hl 3 rfl) ?_
        refine ns_callV C w 43 (hI 43 (by decide)) sh_43 (rfl : vwCl[7]? = some (RX7, TX7, 5)) [.int l1, .int l3] hf (fun u hu => mX7_hasCourse_43 l D b ids hI N _ l1 l3 hu) gX6_courseOn_X7_hasCourse rfl rfl rfl hdX7_hasCourse ⟨Nat.le_of_ble_eq_true rfl, Nat.le_of_ble_eq_true rfl⟩ (fun u h => h) rfl hl.1 rfl (Nat.le_of_ble_eq_true rfl) ⟨Nat.le_refl _, Nat.le_refl _⟩ dX6_courseOn_32 (fun o3 H locs hf w => ?_)
        refine ns_if_eq C hf (tgt := 40) dX6_courseOn_35 (by decide) (fun hf => ?_) (fun hf => ?_)
        · refine ns_iinc (lv' := fun x4 => [(3, .int x4), (0, .ref (b 28)), (1, .int l1), (2, .int l2)]) C hf dX6_courseOn_40 hl (k := 3) rfl rfl (by decide) (fun _ => rfl) (fun x4 ls hl hf => ?_)
          refine lv_goto (tgt := 2) C.1.1 C.1.2.1 dX6_courseOn_43 (by decide) ?_
          exact K2 w (lv_sub hl [1, 2, 3, 0] rfl) hf
        · refine lv_iload_n C.1.1 C.1.2.1 dX6_courseOn_38 rfl (lv_at hl 3 rfl) ?_
          have he := Option.some.inj hf
          subst he
          exact ns_iret C w hr hlk rfl rfl dX6_courseOn_39
set_option maxHeartbeats 4000000 in
set_option maxRecDepth 100000 in
theorem mX6_courseOn_28 (l : Launch) (D : va_G) (b : Nat → Nat) (ids : List Nat) (hI : ∀ i, i < 107 → i ∈ ids) (N : Nat) (S : ns_S) (p1 : Int32) (p2 : Int32) {o : Int32} (hf : fX6_courseOn N (S.1 1984) (S.2.1 32) (S.2.1 47) p1 p2 = some o) : ns_M l yX6_courseOn wsX6_courseOn rmX6_courseOn_28 D b ids S [.ref (b 28), .int p1, .int p2] (some (.int o)) S := by
  refine ns_start (Wr := wrX6_courseOn_28) (by decide) rfl (Nat.le_of_ble_eq_true rfl) ?_
  intro p e s m below meth c A ls C hr hlk w hl
  have hl : lv_has ls 4 [(0, .ref (b 28)), (1, .int p1), (2, .int p2)] := hl
  unfold fX6_courseOn at hf
  refine lv_iconst (v := 0) C.1.1 C.1.2.1 dX6_courseOn_0 (by decide) ?_
  refine lv_istore_n (lv' := [(3, .int 0), (0, .ref (b 28)), (1, .int p1), (2, .int p2)]) C.1.1 C.1.2.1 dX6_courseOn_1 rfl hl (by decide) rfl (fun ls hl => ?_)
  exact wX6_courseOn_28_2 N hI C hr hlk N w (lv_sub hl [1, 2, 3, 0] rfl) hf
theorem hdJ6_bitCount_0f7a4 : yJ6_bitCount_0f7a4.cls ≠ "java/lang/invoke/MethodHandle" ∧ yJ6_bitCount_0f7a4.cls ≠ "java/lang/invoke/VarHandle" ∧ (parseMethodDescriptor yJ6_bitCount_0f7a4.desc).map (fun d => d.parameters.length) = some 1 := by decide +kernel
abbrev wrJ6_bitCount_0f7a4 : List (Nat × Nat) := []
abbrev rmJ6_bitCount_0f7a4 : Room := { frames := 0, cells := 0, slots := 0, locals := 0 }
set_option maxHeartbeats 4000000 in
set_option maxRecDepth 100000 in
theorem mJ6_bitCount_0f7a4 (l : Launch) (D : va_G) (b : Nat → Nat) (ids : List Nat) (hI : ∀ i, i < 107 → i ∈ ids) (N : Nat) (S : ns_S) (p0 : Int32) {o : Int32} (hf : fJ6_bitCount_0f7a4 N p0 = some o) : ns_M l yJ6_bitCount_0f7a4 wsJ6_bitCount_0f7a4 rmJ6_bitCount_0f7a4 D b ids S [.int p0] (some (.int o)) S := by
  refine ns_start (Wr := wrJ6_bitCount_0f7a4) (by decide) rfl (Nat.le_of_ble_eq_true rfl) ?_
  intro p e s m below meth c A ls C hr hlk w hl
  have hl : lv_has ls 1 [(0, .int p0)] := hl
  unfold fJ6_bitCount_0f7a4 at hf
  refine lv_iload_n C.1.1 C.1.2.1 dJ6_bitCount_0f7a4_0 rfl (lv_at hl 0 rfl) ?_
  refine lv_iload_n C.1.1 C.1.2.1 dJ6_bitCount_0f7a4_1 rfl (lv_at hl 0 rfl) ?_
  refine lv_iconst (v := 1) C.1.1 C.1.2.1 dJ6_bitCount_0f7a4_2 (by decide) ?_
  refine lv_iushr (v := (p0.toUInt32 >>> ((1 : Int32).toUInt32 &&& Int32.toUInt32 31)).toInt32) C.1.1 C.1.2.1 dJ6_bitCount_0f7a4_3 rfl ?_
  refine lv_ldcw (v := 1431655765) C.1.1 C.1.2.1 C.1.2.2.2.1 (C.1.2.2.2.2 (.constant RJ6 265 (1431655765)) (List.mem_of_getElem? (i := 1) rfl)) dJ6_bitCount_0f7a4_4 ?_
  refine lv_iand C.1.1 C.1.2.1 dJ6_bitCount_0f7a4_7 ?_
  refine lv_isub C.1.1 C.1.2.1 dJ6_bitCount_0f7a4_8 ?_
  refine ns_namei hf (fun x1 hf => ?_)
  refine lv_istore_n (lv' := [(0, .int x1)]) C.1.1 C.1.2.1 dJ6_bitCount_0f7a4_9 rfl hl (by decide) rfl (fun ls hl => ?_)
  refine lv_iload_n C.1.1 C.1.2.1 dJ6_bitCount_0f7a4_10 rfl (lv_at hl 0 rfl) ?_
  refine lv_ldcw (v := 858993459) C.1.1 C.1.2.1 C.1.2.2.2.1 (C.1.2.2.2.2 (.constant RJ6 266 (858993459)) (List.mem_of_getElem? (i := 2) rfl)) dJ6_bitCount_0f7a4_11 ?_
  refine lv_iand C.1.1 C.1.2.1 dJ6_bitCount_0f7a4_14 ?_
  refine lv_iload_n C.1.1 C.1.2.1 dJ6_bitCount_0f7a4_15 rfl (lv_at hl 0 rfl) ?_
  refine lv_iconst (v := 2) C.1.1 C.1.2.1 dJ6_bitCount_0f7a4_16 (by decide) ?_
  refine lv_iushr (v := (x1.toUInt32 >>> ((2 : Int32).toUInt32 &&& Int32.toUInt32 31)).toInt32) C.1.1 C.1.2.1 dJ6_bitCount_0f7a4_17 rfl ?_
  refine lv_ldcw (v := 858993459) C.1.1 C.1.2.1 C.1.2.2.2.1 (C.1.2.2.2.2 (.constant RJ6 266 (858993459)) (List.mem_of_getElem? (i := 2) rfl)) dJ6_bitCount_0f7a4_18 ?_
  refine lv_iand C.1.1 C.1.2.1 dJ6_bitCount_0f7a4_21 ?_
  refine lv_iadd C.1.1 C.1.2.1 dJ6_bitCount_0f7a4_22 ?_
  refine ns_namei hf (fun x2 hf => ?_)
  refine lv_istore_n (lv' := [(0, .int x2)]) C.1.1 C.1.2.1 dJ6_bitCount_0f7a4_23 rfl hl (by decide) rfl (fun ls hl => ?_)
  refine lv_iload_n C.1.1 C.1.2.1 dJ6_bitCount_0f7a4_24 rfl (lv_at hl 0 rfl) ?_
  refine lv_iload_n C.1.1 C.1.2.1 dJ6_bitCount_0f7a4_25 rfl (lv_at hl 0 rfl) ?_
  refine lv_iconst (v := 4) C.1.1 C.1.2.1 dJ6_bitCount_0f7a4_26 (by decide) ?_
  refine lv_iushr (v := (x2.toUInt32 >>> ((4 : Int32).toUInt32 &&& Int32.toUInt32 31)).toInt32) C.1.1 C.1.2.1 dJ6_bitCount_0f7a4_27 rfl ?_
  refine lv_iadd C.1.1 C.1.2.1 dJ6_bitCount_0f7a4_28 ?_
  refine lv_ldcw (v := 252645135) C.1.1 C.1.2.1 C.1.2.2.2.1 (C.1.2.2.2.2 (.constant RJ6 267 (252645135)) (List.mem_of_getElem? (i := 3) rfl)) dJ6_bitCount_0f7a4_29 ?_
  refine lv_iand C.1.1 C.1.2.1 dJ6_bitCount_0f7a4_32 ?_
  refine ns_namei hf (fun x3 hf => ?_)
  refine lv_istore_n (lv' := [(0, .int x3)]) C.1.1 C.1.2.1 dJ6_bitCount_0f7a4_33 rfl hl (by decide) rfl (fun ls hl => ?_)
  refine lv_iload_n C.1.1 C.1.2.1 dJ6_bitCount_0f7a4_34 rfl (lv_at hl 0 rfl) ?_
  refine lv_iload_n C.1.1 C.1.2.1 dJ6_bitCount_0f7a4_35 rfl (lv_at hl 0 rfl) ?_
  refine lv_bipush (v := 8) C.1.1 C.1.2.1 dJ6_bitCount_0f7a4_36 (by decide) ?_
  refine lv_iushr (v := (x3.toUInt32 >>> ((8 : Int32).toUInt32 &&& Int32.toUInt32 31)).toInt32) C.1.1 C.1.2.1 dJ6_bitCount_0f7a4_38 rfl ?_
  refine lv_iadd C.1.1 C.1.2.1 dJ6_bitCount_0f7a4_39 ?_
  refine ns_namei hf (fun x4 hf => ?_)
  refine lv_istore_n (lv' := [(0, .int x4)]) C.1.1 C.1.2.1 dJ6_bitCount_0f7a4_40 rfl hl (by decide) rfl (fun ls hl => ?_)
  refine lv_iload_n C.1.1 C.1.2.1 dJ6_bitCount_0f7a4_41 rfl (lv_at hl 0 rfl) ?_
  refine lv_iload_n C.1.1 C.1.2.1 dJ6_bitCount_0f7a4_42 rfl (lv_at hl 0 rfl) ?_
  refine lv_bipush (v := 16) C.1.1 C.1.2.1 dJ6_bitCount_0f7a4_43 (by decide) ?_
  refine lv_iushr (v := (x4.toUInt32 >>> ((16 : Int32).toUInt32 &&& Int32.toUInt32 31)).toInt32) C.1.1 C.1.2.1 dJ6_bitCount_0f7a4_45 rfl ?_
  refine lv_iadd C.1.1 C.1.2.1 dJ6_bitCount_0f7a4_46 ?_
  refine ns_namei hf (fun x5 hf => ?_)
  refine lv_istore_n (lv' := [(0, .int x5)]) C.1.1 C.1.2.1 dJ6_bitCount_0f7a4_47 rfl hl (by decide) rfl (fun ls hl => ?_)
  refine lv_iload_n C.1.1 C.1.2.1 dJ6_bitCount_0f7a4_48 rfl (lv_at hl 0 rfl) ?_
  refine lv_bipush (v := 63) C.1.1 C.1.2.1 dJ6_bitCount_0f7a4_49 (by decide) ?_
  refine lv_iand C.1.1 C.1.2.1 dJ6_bitCount_0f7a4_51 ?_
  have he := Option.some.inj hf
  subst he
  exact ns_iret C w hr hlk rfl rfl dJ6_bitCount_0f7a4_52
theorem lX7_coursesOf_21 : Cond.fieldLink RX7 21 (TX7 4).1 (TX7 4).2.1 (TX7 4).2.2.1 ∈ wsX7_coursesOf := List.mem_of_getElem? (i := 1) rfl
theorem inX7_coursesOf_7 : ∀ w ∈ u_ws RX7 TX7 5, w ∈ wsX7_coursesOf := fun _ h => List.mem_cons_of_mem _ (List.mem_append_right _ h)
theorem hdX7_coursesOf : yX7_coursesOf.cls = RX7 ∧ yX7_coursesOf.cls ≠ "java/lang/invoke/MethodHandle" ∧ yX7_coursesOf.cls ≠ "java/lang/invoke/VarHandle" ∧ (parseMethodDescriptor yX7_coursesOf.desc).map (fun d => d.parameters.length) = some 1 := by decide +kernel
abbrev wrX7_coursesOf_43 : List (Nat × Nat) := []
abbrev rmX7_coursesOf_43 : Room := { frames := 1, cells := 0, slots := 0, locals := 20 }
set_option maxHeartbeats 4000000 in
set_option maxRecDepth 100000 in
theorem mX7_coursesOf_43 (l : Launch) (D : va_G) (b : Nat → Nat) (ids : List Nat) (hI : ∀ i, i < 107 → i ∈ ids) (N : Nat) (S : ns_S) (p1 : Int32) {o : Int32} (hf : fX7_coursesOf N (S.2.1 47) p1 = some o) : ns_M l yX7_coursesOf wsX7_coursesOf rmX7_coursesOf_43 D b ids S [.ref (b 43), .int p1] (some (.int o)) S := by
  refine ns_start (Wr := wrX7_coursesOf_43) (by decide) rfl (Nat.le_of_ble_eq_true rfl) ?_
  intro p e s m below meth c A ls C hr hlk w hl
  have hl : lv_has ls 2 [(0, .ref (b 43)), (1, .int p1)] := hl
  unfold fX7_coursesOf at hf
  refine lv_aload_n C.1.1 C.1.2.1 dX7_coursesOf_0 rfl (lv_at hl 0 rfl) ?_
  refine ns_getr C w 43 (hI 43 (by decide)) sh_43 (rfl : vwCl[7]? = some (RX7, TX7, 5)) inX7_coursesOf_7 4 (by decide) rfl lX7_coursesOf_21 dX7_coursesOf_1 ?_
  refine lv_iload_n C.1.1 C.1.2.1 dX7_coursesOf_4 rfl (lv_at hl 1 rfl) ?_
  refine ns_iald C w 47 (hI 47 (by decide)) sh_47 hf rfl dX7_coursesOf_5 (fun x1 hf => ?_)
  refine ns_callS C w [.int x1] hf (fun u hu => mJ6_bitCount_0f7a4 l D b ids hI N _ x1 hu) gX7_coursesOf_J6_bitCount_0f7a4 rfl rfl rfl hdJ6_bitCount_0f7a4 ⟨Nat.le_of_ble_eq_true rfl, Nat.le_of_ble_eq_true rfl⟩ (fun u h => h) rfl hl.1 rfl (Nat.le_of_ble_eq_true rfl) ⟨Nat.le_refl _, Nat.le_refl _⟩ dX7_coursesOf_6 (fun o2 H locs hf w => ?_)
  have he := Option.some.inj hf
  subst he
  exact ns_iret C w hr hlk rfl rfl dX7_coursesOf_9
theorem lX6_reasonFor_21 : Cond.fieldLink RX6 21 (TX6 1).1 (TX6 1).2.1 (TX6 1).2.2.1 ∈ wsX6_reasonFor := List.mem_of_getElem? (i := 3) rfl
theorem lX6_reasonFor_28 : Cond.fieldLink RX6 28 (TX6 2).1 (TX6 2).2.1 (TX6 2).2.2.1 ∈ wsX6_reasonFor := List.mem_of_getElem? (i := 2) rfl
theorem lX6_reasonFor_35 : Cond.fieldLink RX6 35 (TX6 3).1 (TX6 3).2.1 (TX6 3).2.2.1 ∈ wsX6_reasonFor := List.mem_of_getElem? (i := 1) rfl
theorem lX6_reasonFor_76 : Cond.fieldLink RX6 76 (TX0 1).1 (TX0 1).2.1 (TX0 1).2.2.1 ∈ wsX6_reasonFor := List.mem_of_getElem? (i := 4) rfl
theorem lX6_reasonFor_99 : Cond.fieldLink RX6 99 (TX4 3).1 (TX4 3).2.1 (TX4 3).2.2.1 ∈ wsX6_reasonFor := List.mem_of_getElem? (i := 5) rfl
theorem inX6_reasonFor_0 : ∀ w ∈ u_ws RX0 TX0 6, w ∈ wsX6_reasonFor := fun _ h => List.mem_cons_of_mem _ (List.mem_append_left _ (List.mem_append_left _ (List.mem_append_right _ h)))
theorem inX6_reasonFor_4 : ∀ w ∈ u_ws RX4 TX4 6, w ∈ wsX6_reasonFor := fun _ h => List.mem_cons_of_mem _ (List.mem_append_left _ (List.mem_append_right _ h))
theorem inX6_reasonFor_6 : ∀ w ∈ u_ws RX6 TX6 6, w ∈ wsX6_reasonFor := fun _ h => List.mem_cons_of_mem _ (List.mem_append_left _ (List.mem_append_left _ (List.mem_append_left _ (List.mem_append_right _ h))))
theorem hdX6_reasonFor : yX6_reasonFor.cls = RX6 ∧ yX6_reasonFor.cls ≠ "java/lang/invoke/MethodHandle" ∧ yX6_reasonFor.cls ≠ "java/lang/invoke/VarHandle" ∧ (parseMethodDescriptor yX6_reasonFor.desc).map (fun d => d.parameters.length) = some 2 := by decide +kernel
abbrev wrX6_reasonFor_28 : List (Nat × Nat) := []
abbrev rmX6_reasonFor_28 : Room := { frames := 2, cells := 0, slots := 0, locals := 45 }
set_option maxHeartbeats 4000000 in
set_option maxRecDepth 100000 in
theorem mX6_reasonFor_28 (l : Launch) (D : va_G) (b : Nat → Nat) (ids : List Nat) (hI : ∀ i, i < 107 → i ∈ ids) (N : Nat) (S : ns_S) (p1 : Int32) (p2 : Int32) {o : Int32} (hf : fX6_reasonFor N (S.2.1 47) (S.2.1 41) (S.2.1 42) (S.1 2752) (S.2.1 32) (S.1 1984) (S.2.1 40) p1 p2 = some o) : ns_M l yX6_reasonFor wsX6_reasonFor rmX6_reasonFor_28 D b ids S [.ref (b 28), .int p1, .int p2] (some (.int o)) S := by
  refine ns_start (Wr := wrX6_reasonFor_28) (by decide) rfl (Nat.le_of_ble_eq_true rfl) ?_
  intro p e s m below meth c A ls C hr hlk w hl
  have hl : lv_has ls 5 [(0, .ref (b 28)), (1, .int p1), (2, .int p2)] := hl
  unfold fX6_reasonFor at hf
  refine lv_aload_n C.1.1 C.1.2.1 dX6_reasonFor_0 rfl (lv_at hl 0 rfl) ?_
  refine ns_getr C w 28 (hI 28 (by decide)) sh_28 (rfl : vwCl[6]? = some (RX6, TX6, 6)) inX6_reasonFor_6 3 (by decide) rfl lX6_reasonFor_35 dX6_reasonFor_1 ?_
  refine lv_iload_n C.1.1 C.1.2.1 dX6_reasonFor_4 rfl (lv_at hl 1 rfl) ?_
  refine lv_iload_n C.1.1 C.1.2.1 dX6_reasonFor_5 rfl (lv_at hl 2 rfl) ?_
  refine ns_callV C w 43 (hI 43 (by decide)) sh_43 (rfl : vwCl[7]? = some (RX7, TX7, 5)) [.int p1, .int p2] hf (fun u hu => mX7_hasCourse_43 l D b ids hI N _ p1 p2 hu) gX6_reasonFor_X7_hasCourse rfl rfl rfl hdX7_hasCourse ⟨Nat.le_of_ble_eq_true rfl, Nat.le_of_ble_eq_true rfl⟩ (fun u h => h) rfl hl.1 rfl (Nat.le_of_ble_eq_true rfl) ⟨Nat.le_refl _, Nat.le_refl _⟩ dX6_reasonFor_6 (fun o1 H locs hf w => ?_)
  refine ns_if_eq C hf (tgt := 14) dX6_reasonFor_9 (by decide) (fun hf => ?_) (fun hf => ?_)
  · refine lv_aload_n C.1.1 C.1.2.1 dX6_reasonFor_14 rfl (lv_at hl 0 rfl) ?_
    refine ns_getr C w 28 (hI 28 (by decide)) sh_28 (rfl : vwCl[6]? = some (RX6, TX6, 6)) inX6_reasonFor_6 2 (by decide) rfl lX6_reasonFor_28 dX6_reasonFor_15 ?_
    refine lv_iload_n C.1.1 C.1.2.1 dX6_reasonFor_18 rfl (lv_at hl 1 rfl) ?_
    refine lv_iload_n C.1.1 C.1.2.1 dX6_reasonFor_19 rfl (lv_at hl 2 rfl) ?_
    refine ns_callV C w 37 (hI 37 (by decide)) sh_37 (rfl : vwCl[4]? = some (RX4, TX4, 6)) [.int p1, .int p2] hf (fun u hu => mX4_rankOf_37 l D b ids hI N _ p1 p2 hu) gX6_reasonFor_X4_rankOf rfl rfl rfl hdX4_rankOf ⟨Nat.le_of_ble_eq_true rfl, Nat.le_of_ble_eq_true rfl⟩ (fun u h => h) rfl hl.1 rfl (Nat.le_of_ble_eq_true rfl) ⟨Nat.le_refl _, Nat.le_refl _⟩ dX6_reasonFor_20 (fun o2 H locs hf w => ?_)
    refine lv_istore_n (lv' := [(3, .int o2), (0, .ref (b 28)), (1, .int p1), (2, .int p2)]) C.1.1 C.1.2.1 dX6_reasonFor_23 rfl hl (by decide) rfl (fun ls hl => ?_)
    refine lv_iload_n C.1.1 C.1.2.1 dX6_reasonFor_24 rfl (lv_at hl 0 rfl) ?_
    refine lv_iconst (v := (-1)) C.1.1 C.1.2.1 dX6_reasonFor_25 (by decide) ?_
    refine ns_icmp_ne C hf (tgt := 31) dX6_reasonFor_26 (by decide) (fun hf => ?_) (fun hf => ?_)
    · refine lv_aload_n C.1.1 C.1.2.1 dX6_reasonFor_31 rfl (lv_at hl 1 rfl) ?_
      refine ns_getr C w 28 (hI 28 (by decide)) sh_28 (rfl : vwCl[6]? = some (RX6, TX6, 6)) inX6_reasonFor_6 3 (by decide) rfl lX6_reasonFor_35 dX6_reasonFor_32 ?_
      refine lv_iload_n C.1.1 C.1.2.1 dX6_reasonFor_35 rfl (lv_at hl 3 rfl) ?_
      refine ns_callV C w 43 (hI 43 (by decide)) sh_43 (rfl : vwCl[7]? = some (RX7, TX7, 5)) [.int p2] hf (fun u hu => mX7_isHeld_43 l D b ids hI N _ p2 hu) gX6_reasonFor_X7_isHeld rfl rfl rfl hdX7_isHeld ⟨Nat.le_of_ble_eq_true rfl, Nat.le_of_ble_eq_true rfl⟩ (fun u h => h) rfl hl.1 rfl (Nat.le_of_ble_eq_true rfl) ⟨Nat.le_refl _, Nat.le_refl _⟩ dX6_reasonFor_36 (fun o3 H locs hf w => ?_)
      refine ns_if_ne C hf (tgt := 44) dX6_reasonFor_39 (by decide) (fun hf => ?_) (fun hf => ?_)
      · refine lv_aload_n C.1.1 C.1.2.1 dX6_reasonFor_44 rfl (lv_at hl 1 rfl) ?_
        refine lv_iload_n C.1.1 C.1.2.1 dX6_reasonFor_45 rfl (lv_at hl 2 rfl) ?_
        refine lv_aload_n C.1.1 C.1.2.1 dX6_reasonFor_46 rfl (lv_at hl 1 rfl) ?_
        refine ns_getr C w 28 (hI 28 (by decide)) sh_28 (rfl : vwCl[6]? = some (RX6, TX6, 6)) inX6_reasonFor_6 1 (by decide) rfl lX6_reasonFor_21 dX6_reasonFor_47 ?_
        refine ns_getr C w 31 (hI 31 (by decide)) sh_31 (rfl : vwCl[0]? = some (RX0, TX0, 6)) inX6_reasonFor_0 1 (by decide) rfl lX6_reasonFor_76 dX6_reasonFor_50 ?_
        refine lv_iload_n C.1.1 C.1.2.1 dX6_reasonFor_53 rfl (lv_at hl 3 rfl) ?_
        refine ns_iald C w 32 (hI 32 (by decide)) sh_32 hf rfl dX6_reasonFor_54 (fun x4 hf => ?_)
        refine ns_callV C w 28 (hI 28 (by decide)) sh_28 (rfl : vwCl[6]? = some (RX6, TX6, 6)) [.int p1, .int x4] hf (fun u hu => mX6_courseOn_28 l D b ids hI N _ p1 x4 hu) gX6_reasonFor_X6_courseOn rfl rfl rfl hdX6_courseOn ⟨Nat.le_of_ble_eq_true rfl, Nat.le_of_ble_eq_true rfl⟩ (fun u h => h) rfl hl.1 rfl (Nat.le_of_ble_eq_true rfl) ⟨Nat.le_refl _, Nat.le_refl _⟩ dX6_reasonFor_55 (fun o5 H locs hf w => ?_)
        refine lv_istore (lv' := [(4, .int o5), (3, .int o2), (0, .ref (b 28)), (1, .int p1), (2, .int p2)]) C.1.1 C.1.2.1 dX6_reasonFor_58 hl (by decide) rfl (fun ls hl => ?_)
        refine lv_iload C.1.1 C.1.2.1 dX6_reasonFor_60 (lv_at hl 0 rfl) ?_
        refine lv_iconst (v := (-1)) C.1.1 C.1.2.1 dX6_reasonFor_62 (by decide) ?_
        refine ns_icmp_eq C hf (tgt := 86) dX6_reasonFor_63 (by decide) (fun hf => ?_) (fun hf => ?_)
        · refine lv_aload_n C.1.1 C.1.2.1 dX6_reasonFor_86 rfl (lv_at hl 2 rfl) ?_
          refine ns_getr C w 28 (hI 28 (by decide)) sh_28 (rfl : vwCl[6]? = some (RX6, TX6, 6)) inX6_reasonFor_6 3 (by decide) rfl lX6_reasonFor_35 dX6_reasonFor_87 ?_
          refine lv_iload_n C.1.1 C.1.2.1 dX6_reasonFor_90 rfl (lv_at hl 3 rfl) ?_
          refine ns_callV C w 43 (hI 43 (by decide)) sh_43 (rfl : vwCl[7]? = some (RX7, TX7, 5)) [.int p1] hf (fun u hu => mX7_coursesOf_43 l D b ids hI N _ p1 hu) gX6_reasonFor_X7_coursesOf rfl rfl rfl hdX7_coursesOf ⟨Nat.le_of_ble_eq_true rfl, Nat.le_of_ble_eq_true rfl⟩ (fun u h => h) rfl hl.1 rfl (Nat.le_of_ble_eq_true rfl) ⟨Nat.le_refl _, Nat.le_refl _⟩ dX6_reasonFor_91 (fun o6 H locs hf w => ?_)
          refine lv_aload_n C.1.1 C.1.2.1 dX6_reasonFor_94 rfl (lv_at hl 2 rfl) ?_
          refine ns_getr C w 28 (hI 28 (by decide)) sh_28 (rfl : vwCl[6]? = some (RX6, TX6, 6)) inX6_reasonFor_6 2 (by decide) rfl lX6_reasonFor_28 dX6_reasonFor_95 ?_
          refine ns_getr C w 37 (hI 37 (by decide)) sh_37 (rfl : vwCl[4]? = some (RX4, TX4, 6)) inX6_reasonFor_4 3 (by decide) rfl lX6_reasonFor_99 dX6_reasonFor_98 ?_
          refine lv_iload_n C.1.1 C.1.2.1 dX6_reasonFor_101 rfl (lv_at hl 3 rfl) ?_
          refine ns_iald C w 40 (hI 40 (by decide)) sh_40 hf rfl dX6_reasonFor_102 (fun x7 hf => ?_)
          refine ns_icmp_lt C hf (tgt := 110) dX6_reasonFor_103 (by decide) (fun hf => ?_) (fun hf => ?_)
          · refine lv_iconst (v := 5) C.1.1 C.1.2.1 dX6_reasonFor_110 (by decide) ?_
            have he := Option.some.inj hf
            subst he
            exact ns_iret C w hr hlk rfl rfl dX6_reasonFor_111
          · refine lv_iconst (v := 4) C.1.1 C.1.2.1 dX6_reasonFor_106 (by decide) ?_
            refine lv_goto (tgt := 111) C.1.1 C.1.2.1 dX6_reasonFor_107 (by decide) ?_
            have he := Option.some.inj hf
            subst he
            exact ns_iret C w hr hlk rfl rfl dX6_reasonFor_111
        · refine lv_aload_n C.1.1 C.1.2.1 dX6_reasonFor_66 rfl (lv_at hl 2 rfl) ?_
          refine ns_getr C w 28 (hI 28 (by decide)) sh_28 (rfl : vwCl[6]? = some (RX6, TX6, 6)) inX6_reasonFor_6 2 (by decide) rfl lX6_reasonFor_28 dX6_reasonFor_67 ?_
          refine lv_iload_n C.1.1 C.1.2.1 dX6_reasonFor_70 rfl (lv_at hl 3 rfl) ?_
          refine lv_iload C.1.1 C.1.2.1 dX6_reasonFor_71 (lv_at hl 0 rfl) ?_
          refine ns_callV C w 37 (hI 37 (by decide)) sh_37 (rfl : vwCl[4]? = some (RX4, TX4, 6)) [.int p1, .int o5] hf (fun u hu => mX4_rankOf_37 l D b ids hI N _ p1 o5 hu) gX6_reasonFor_X4_rankOf rfl rfl rfl hdX4_rankOf ⟨Nat.le_of_ble_eq_true rfl, Nat.le_of_ble_eq_true rfl⟩ (fun u h => h) rfl hl.1 rfl (Nat.le_of_ble_eq_true rfl) ⟨Nat.le_refl _, Nat.le_refl _⟩ dX6_reasonFor_73 (fun o8 H locs hf w => ?_)
          refine lv_iload_n C.1.1 C.1.2.1 dX6_reasonFor_76 rfl (lv_at hl 1 rfl) ?_
          refine ns_icmp_ge C hf (tgt := 84) dX6_reasonFor_77 (by decide) (fun hf => ?_) (fun hf => ?_)
          · refine lv_iconst (v := 5) C.1.1 C.1.2.1 dX6_reasonFor_84 (by decide) ?_
            have he := Option.some.inj hf
            subst he
            exact ns_iret C w hr hlk rfl rfl dX6_reasonFor_85
          · refine lv_iconst (v := 3) C.1.1 C.1.2.1 dX6_reasonFor_80 (by decide) ?_
            refine lv_goto (tgt := 85) C.1.1 C.1.2.1 dX6_reasonFor_81 (by decide) ?_
            have he := Option.some.inj hf
            subst he
            exact ns_iret C w hr hlk rfl rfl dX6_reasonFor_85
      · refine lv_iconst (v := 2) C.1.1 C.1.2.1 dX6_reasonFor_42 (by decide) ?_
        have he := Option.some.inj hf
        subst he
        exact ns_iret C w hr hlk rfl rfl dX6_reasonFor_43
    · refine lv_iconst (v := 1) C.1.1 C.1.2.1 dX6_reasonFor_29 (by decide) ?_
      have he := Option.some.inj hf
      subst he
      exact ns_iret C w hr hlk rfl rfl dX6_reasonFor_30
  · refine lv_iconst (v := 0) C.1.1 C.1.2.1 dX6_reasonFor_12 (by decide) ?_
    have he := Option.some.inj hf
    subst he
    exact ns_iret C w hr hlk rfl rfl dX6_reasonFor_13
theorem lX7_takeAway_18 : Cond.fieldLink RX7 18 (TX7 3).1 (TX7 3).2.1 (TX7 3).2.2.1 ∈ wsX7_takeAway := List.mem_of_getElem? (i := 2) rfl
theorem lX7_takeAway_21 : Cond.fieldLink RX7 21 (TX7 4).1 (TX7 4).2.1 (TX7 4).2.2.1 ∈ wsX7_takeAway := List.mem_of_getElem? (i := 1) rfl
theorem inX7_takeAway_7 : ∀ w ∈ u_ws RX7 TX7 5, w ∈ wsX7_takeAway := fun _ h => List.mem_cons_of_mem _ (List.mem_append_right _ h)
theorem hdX7_takeAway : yX7_takeAway.cls = RX7 ∧ yX7_takeAway.cls ≠ "java/lang/invoke/MethodHandle" ∧ yX7_takeAway.cls ≠ "java/lang/invoke/VarHandle" ∧ (parseMethodDescriptor yX7_takeAway.desc).map (fun d => d.parameters.length) = some 2 := by decide +kernel
abbrev wrX7_takeAway_43 : List (Nat × Nat) := [(1, 47), (1, 46)]
abbrev rmX7_takeAway_43 : Room := { frames := 0, cells := 0, slots := 0, locals := 0 }
set_option maxHeartbeats 4000000 in
set_option maxRecDepth 100000 in
theorem mX7_takeAway_43 (l : Launch) (D : va_G) (b : Nat → Nat) (ids : List Nat) (hI : ∀ i, i < 107 → i ∈ ids) (N : Nat) (S : ns_S) (p1 : Int32) (p2 : Int32) {o : (Nat → Int32) × (Nat → Int32)} (hf : fX7_takeAway N (S.2.1 47) (S.2.1 46) p1 p2 = some o) : ns_M l yX7_takeAway wsX7_takeAway rmX7_takeAway_43 D b ids S [.ref (b 43), .int p1, .int p2] none (ns_A (ns_A S 46 o.2) 47 o.1) := by
  refine ns_start (Wr := wrX7_takeAway_43) (by decide) rfl (Nat.le_of_ble_eq_true rfl) ?_
  intro p e s m below meth c A ls C hr hlk w hl
  have hl : lv_has ls 3 [(0, .ref (b 43)), (1, .int p1), (2, .int p2)] := hl
  unfold fX7_takeAway at hf
  refine lv_aload_n C.1.1 C.1.2.1 dX7_takeAway_0 rfl (lv_at hl 0 rfl) ?_
  refine ns_getr C w 43 (hI 43 (by decide)) sh_43 (rfl : vwCl[7]? = some (RX7, TX7, 5)) inX7_takeAway_7 4 (by decide) rfl lX7_takeAway_21 dX7_takeAway_1 ?_
  refine lv_iload_n C.1.1 C.1.2.1 dX7_takeAway_4 rfl (lv_at hl 1 rfl) ?_
  refine lv_dup2_11 C.1.1 C.1.2.1 dX7_takeAway_5 rfl rfl ?_
  refine ns_iald C w 47 (hI 47 (by decide)) sh_47 hf rfl dX7_takeAway_6 (fun x1 hf => ?_)
  refine lv_iconst (v := 1) C.1.1 C.1.2.1 dX7_takeAway_7 (by decide) ?_
  refine lv_iload_n C.1.1 C.1.2.1 dX7_takeAway_8 rfl (lv_at hl 2 rfl) ?_
  refine lv_ishl C.1.1 C.1.2.1 dX7_takeAway_9 ?_
  refine lv_iconst (v := (-1)) C.1.1 C.1.2.1 dX7_takeAway_10 (by decide) ?_
  refine lv_ixor C.1.1 C.1.2.1 dX7_takeAway_11 ?_
  refine lv_iand C.1.1 C.1.2.1 dX7_takeAway_12 ?_
  refine ns_iast C w 47 (hI 47 (by decide)) sh_47 hf rfl (List.mem_of_getElem? (i := 0) rfl) dX7_takeAway_13 (fun y2 H locs hf w => ?_)
  refine lv_aload_n C.1.1 C.1.2.1 dX7_takeAway_14 rfl (lv_at hl 0 rfl) ?_
  refine ns_getr C w 43 (hI 43 (by decide)) sh_43 (rfl : vwCl[7]? = some (RX7, TX7, 5)) inX7_takeAway_7 3 (by decide) rfl lX7_takeAway_18 dX7_takeAway_15 ?_
  refine lv_iload_n C.1.1 C.1.2.1 dX7_takeAway_18 rfl (lv_at hl 2 rfl) ?_
  refine lv_dup2_11 C.1.1 C.1.2.1 dX7_takeAway_19 rfl rfl ?_
  refine ns_iald C w 46 (hI 46 (by decide)) sh_46 hf rfl dX7_takeAway_20 (fun x3 hf => ?_)
  refine lv_iconst (v := 1) C.1.1 C.1.2.1 dX7_takeAway_21 (by decide) ?_
  refine lv_isub C.1.1 C.1.2.1 dX7_takeAway_22 ?_
  refine ns_iast C w 46 (hI 46 (by decide)) sh_46 hf rfl (List.mem_of_getElem? (i := 1) rfl) dX7_takeAway_23 (fun y4 H locs hf w => ?_)
  have he := Option.some.inj hf
  subst he
  exact ns_vret C w hr hlk rfl rfl dX7_takeAway_24
theorem lX7_give_18 : Cond.fieldLink RX7 18 (TX7 3).1 (TX7 3).2.1 (TX7 3).2.2.1 ∈ wsX7_give := List.mem_of_getElem? (i := 2) rfl
theorem lX7_give_21 : Cond.fieldLink RX7 21 (TX7 4).1 (TX7 4).2.1 (TX7 4).2.2.1 ∈ wsX7_give := List.mem_of_getElem? (i := 1) rfl
theorem inX7_give_7 : ∀ w ∈ u_ws RX7 TX7 5, w ∈ wsX7_give := fun _ h => List.mem_cons_of_mem _ (List.mem_append_right _ h)
theorem hdX7_give : yX7_give.cls = RX7 ∧ yX7_give.cls ≠ "java/lang/invoke/MethodHandle" ∧ yX7_give.cls ≠ "java/lang/invoke/VarHandle" ∧ (parseMethodDescriptor yX7_give.desc).map (fun d => d.parameters.length) = some 2 := by decide +kernel
abbrev wrX7_give_43 : List (Nat × Nat) := [(1, 47), (1, 46)]
abbrev rmX7_give_43 : Room := { frames := 0, cells := 0, slots := 0, locals := 0 }
set_option maxHeartbeats 4000000 in
set_option maxRecDepth 100000 in
theorem mX7_give_43 (l : Launch) (D : va_G) (b : Nat → Nat) (ids : List Nat) (hI : ∀ i, i < 107 → i ∈ ids) (N : Nat) (S : ns_S) (p1 : Int32) (p2 : Int32) {o : (Nat → Int32) × (Nat → Int32)} (hf : fX7_give N (S.2.1 47) (S.2.1 46) p1 p2 = some o) : ns_M l yX7_give wsX7_give rmX7_give_43 D b ids S [.ref (b 43), .int p1, .int p2] none (ns_A (ns_A S 46 o.2) 47 o.1) := by
  refine ns_start (Wr := wrX7_give_43) (by decide) rfl (Nat.le_of_ble_eq_true rfl) ?_
  intro p e s m below meth c A ls C hr hlk w hl
  have hl : lv_has ls 3 [(0, .ref (b 43)), (1, .int p1), (2, .int p2)] := hl
  unfold fX7_give at hf
  refine lv_aload_n C.1.1 C.1.2.1 dX7_give_0 rfl (lv_at hl 0 rfl) ?_
  refine ns_getr C w 43 (hI 43 (by decide)) sh_43 (rfl : vwCl[7]? = some (RX7, TX7, 5)) inX7_give_7 4 (by decide) rfl lX7_give_21 dX7_give_1 ?_
  refine lv_iload_n C.1.1 C.1.2.1 dX7_give_4 rfl (lv_at hl 1 rfl) ?_
  refine lv_dup2_11 C.1.1 C.1.2.1 dX7_give_5 rfl rfl ?_
  refine ns_iald C w 47 (hI 47 (by decide)) sh_47 hf rfl dX7_give_6 (fun x1 hf => ?_)
  refine lv_iconst (v := 1) C.1.1 C.1.2.1 dX7_give_7 (by decide) ?_
  refine lv_iload_n C.1.1 C.1.2.1 dX7_give_8 rfl (lv_at hl 2 rfl) ?_
  refine lv_ishl C.1.1 C.1.2.1 dX7_give_9 ?_
  refine lv_ior C.1.1 C.1.2.1 dX7_give_10 ?_
  refine ns_iast C w 47 (hI 47 (by decide)) sh_47 hf rfl (List.mem_of_getElem? (i := 0) rfl) dX7_give_11 (fun y2 H locs hf w => ?_)
  refine lv_aload_n C.1.1 C.1.2.1 dX7_give_12 rfl (lv_at hl 0 rfl) ?_
  refine ns_getr C w 43 (hI 43 (by decide)) sh_43 (rfl : vwCl[7]? = some (RX7, TX7, 5)) inX7_give_7 3 (by decide) rfl lX7_give_18 dX7_give_13 ?_
  refine lv_iload_n C.1.1 C.1.2.1 dX7_give_16 rfl (lv_at hl 2 rfl) ?_
  refine lv_dup2_11 C.1.1 C.1.2.1 dX7_give_17 rfl rfl ?_
  refine ns_iald C w 46 (hI 46 (by decide)) sh_46 hf rfl dX7_give_18 (fun x3 hf => ?_)
  refine lv_iconst (v := 1) C.1.1 C.1.2.1 dX7_give_19 (by decide) ?_
  refine lv_iadd C.1.1 C.1.2.1 dX7_give_20 ?_
  refine ns_iast C w 46 (hI 46 (by decide)) sh_46 hf rfl (List.mem_of_getElem? (i := 1) rfl) dX7_give_21 (fun y4 H locs hf w => ?_)
  have he := Option.some.inj hf
  subst he
  exact ns_vret C w hr hlk rfl rfl dX7_give_22
theorem lX6_moveInto_21 : Cond.fieldLink RX6 21 (TX6 1).1 (TX6 1).2.1 (TX6 1).2.2.1 ∈ wsX6_moveInto := List.mem_of_getElem? (i := 1) rfl
theorem lX6_moveInto_35 : Cond.fieldLink RX6 35 (TX6 3).1 (TX6 3).2.1 (TX6 3).2.2.1 ∈ wsX6_moveInto := List.mem_of_getElem? (i := 3) rfl
theorem lX6_moveInto_42 : Cond.fieldLink RX6 42 (TX6 4).1 (TX6 4).2.1 (TX6 4).2.2.1 ∈ wsX6_moveInto := List.mem_of_getElem? (i := 4) rfl
theorem lX6_moveInto_76 : Cond.fieldLink RX6 76 (TX0 1).1 (TX0 1).2.1 (TX0 1).2.2.1 ∈ wsX6_moveInto := List.mem_of_getElem? (i := 2) rfl
theorem lX6_moveInto_129 : Cond.fieldLink RX6 129 (TX8 2).1 (TX8 2).2.1 (TX8 2).2.2.1 ∈ wsX6_moveInto := List.mem_of_getElem? (i := 5) rfl
theorem lX6_moveInto_132 : Cond.fieldLink RX6 132 (TX8 1).1 (TX8 1).2.1 (TX8 1).2.2.1 ∈ wsX6_moveInto := List.mem_of_getElem? (i := 6) rfl
theorem inX6_moveInto_0 : ∀ w ∈ u_ws RX0 TX0 6, w ∈ wsX6_moveInto := fun _ h => List.mem_cons_of_mem _ (List.mem_append_left _ (List.mem_append_left _ (List.mem_append_right _ h)))
theorem inX6_moveInto_6 : ∀ w ∈ u_ws RX6 TX6 6, w ∈ wsX6_moveInto := fun _ h => List.mem_cons_of_mem _ (List.mem_append_left _ (List.mem_append_left _ (List.mem_append_left _ (List.mem_append_right _ h))))
theorem inX6_moveInto_8 : ∀ w ∈ u_ws RX8 TX8 6, w ∈ wsX6_moveInto := fun _ h => List.mem_cons_of_mem _ (List.mem_append_left _ (List.mem_append_right _ h))
theorem hdX6_moveInto : yX6_moveInto.cls = RX6 ∧ yX6_moveInto.cls ≠ "java/lang/invoke/MethodHandle" ∧ yX6_moveInto.cls ≠ "java/lang/invoke/VarHandle" ∧ (parseMethodDescriptor yX6_moveInto.desc).map (fun d => d.parameters.length) = some 2 := by decide +kernel
abbrev wrX6_moveInto_28 : List (Nat × Nat) := [(1, 47), (1, 46), (1, 49), (0, 3073)]
abbrev rmX6_moveInto_28 : Room := { frames := 2, cells := 0, slots := 0, locals := 45 }
set_option maxHeartbeats 4000000 in
set_option maxRecDepth 100000 in
theorem wX6_moveInto_28_29 {p : Program} {l : Launch} {e : Env} {s : State} {m : MethodId} {args : Array Value} {below : List Frame} {meth : Method} {c : Code} {D : va_G} {b : Nat → Nat} {ids : List Nat} {A : Nat → Prop} {S0 : ns_S} {o : (Nat → Int32) × (Nat → Int32) × (Nat → Int32) × Int32} (N : Nat) (hI : ∀ i, i < 107 → i ∈ ids) (C : ns_C p m c cX6_moveInto 4 s args wsX6_moveInto RX6 D A) (hr : meth.sig.returnType = none) (hlk : meth.locks = false) : ∀ {S : ns_S} {H : Heap} {locs : List Loc} {ls : Array Slot} {l1 : Int32} {l2 : Int32}, ns_W D b ids A s.heap wrX6_moveInto_28 S0 S H locs → lv_has ls 4 [(0, .ref (b 28)), (1, .int l1), (2, .int l2)] → gX6_moveInto_29 N (S.2.1 32) (S.1 1984) (S.2.1 47) (S.2.1 46) (S.2.1 49) (S.1 3073) l1 l2 = some o → W p l e rmX6_moveInto_28 s m args below meth c H locs 0 0 (MQ below (ns_Q D b ids (ns_A (ns_A (ns_A (ns_I S0 3073 o.2.2.2) 49 o.2.2.1) 46 o.2.1) 47 o.1) none A) args s 0 0 A) (F0 m 29 ls []) := by
  intro S H locs ls l1 l2 w hl hf
  unfold gX6_moveInto_29 at hf
  refine lv_aload_n C.1.1 C.1.2.1 dX6_moveInto_29 rfl (lv_at hl 0 rfl) ?_
  refine ns_getr C w 28 (hI 28 (by decide)) sh_28 (rfl : vwCl[6]? = some (RX6, TX6, 6)) inX6_moveInto_6 3 (by decide) rfl lX6_moveInto_35 dX6_moveInto_30 ?_
  refine lv_iload_n C.1.1 C.1.2.1 dX6_moveInto_33 rfl (lv_at hl 1 rfl) ?_
  refine lv_iload_n C.1.1 C.1.2.1 dX6_moveInto_34 rfl (lv_at hl 2 rfl) ?_
  refine ns_callV C w 43 (hI 43 (by decide)) sh_43 (rfl : vwCl[7]? = some (RX7, TX7, 5)) [.int l1, .int l2] hf (fun u hu => mX7_give_43 l D b ids hI N _ l1 l2 hu) gX6_moveInto_X7_give rfl rfl rfl hdX7_give ⟨Nat.le_of_ble_eq_true rfl, Nat.le_of_ble_eq_true rfl⟩ (fun u h => ((h.A (List.mem_of_getElem? (i := 1) rfl) _).A (List.mem_of_getElem? (i := 0) rfl) _)) rfl hl.1 rfl (Nat.le_of_ble_eq_true rfl) ⟨Nat.le_refl _, Nat.le_refl _⟩ dX6_moveInto_35 (fun o1 H locs hf w => ?_)
  refine lv_aload_n C.1.1 C.1.2.1 dX6_moveInto_38 rfl (lv_at hl 0 rfl) ?_
  refine ns_getr C w 28 (hI 28 (by decide)) sh_28 (rfl : vwCl[6]? = some (RX6, TX6, 6)) inX6_moveInto_6 4 (by decide) rfl lX6_moveInto_42 dX6_moveInto_39 ?_
  refine ns_getr C w 48 (hI 48 (by decide)) sh_48 (rfl : vwCl[8]? = some (RX8, TX8, 6)) inX6_moveInto_8 2 (by decide) rfl lX6_moveInto_129 dX6_moveInto_42 ?_
  refine lv_iload_n C.1.1 C.1.2.1 dX6_moveInto_45 rfl (lv_at hl 1 rfl) ?_
  refine lv_dup2_11 C.1.1 C.1.2.1 dX6_moveInto_46 rfl rfl ?_
  refine ns_iald C w 49 (hI 49 (by decide)) sh_49 hf rfl dX6_moveInto_47 (fun x2 hf => ?_)
  refine lv_iconst (v := 1) C.1.1 C.1.2.1 dX6_moveInto_48 (by decide) ?_
  refine lv_iadd C.1.1 C.1.2.1 dX6_moveInto_49 ?_
  refine ns_iast C w 49 (hI 49 (by decide)) sh_49 hf rfl (List.mem_of_getElem? (i := 2) rfl) dX6_moveInto_50 (fun y3 H locs hf w => ?_)
  refine lv_aload_n C.1.1 C.1.2.1 dX6_moveInto_51 rfl (lv_at hl 0 rfl) ?_
  refine ns_getr C w 28 (hI 28 (by decide)) sh_28 (rfl : vwCl[6]? = some (RX6, TX6, 6)) inX6_moveInto_6 4 (by decide) rfl lX6_moveInto_42 dX6_moveInto_52 ?_
  refine lv_dup C.1.1 C.1.2.1 dX6_moveInto_55 rfl ?_
  refine ns_geti C w 48 (hI 48 (by decide)) sh_48 (rfl : vwCl[8]? = some (RX8, TX8, 6)) inX6_moveInto_8 1 (by decide) rfl lX6_moveInto_132 (S.1 3073) rfl dX6_moveInto_56 ?_
  refine lv_iconst (v := 1) C.1.1 C.1.2.1 dX6_moveInto_59 (by decide) ?_
  refine lv_iadd C.1.1 C.1.2.1 dX6_moveInto_60 ?_
  refine ns_namei hf (fun x4 hf => ?_)
  refine ns_puti C w 48 (hI 48 (by decide)) sh_48 (rfl : vwCl[8]? = some (RX8, TX8, 6)) inX6_moveInto_8 tyX8_ok nmX8 1 (by decide) rfl lX6_moveInto_132 rfl rfl rfl (List.mem_of_getElem? (i := 3) rfl) dX6_moveInto_61 (fun H locs w => ?_)
  have he := Option.some.inj hf
  subst he
  exact ns_vret C w hr hlk rfl rfl dX6_moveInto_64
set_option maxHeartbeats 4000000 in
set_option maxRecDepth 100000 in
theorem mX6_moveInto_28 (l : Launch) (D : va_G) (b : Nat → Nat) (ids : List Nat) (hI : ∀ i, i < 107 → i ∈ ids) (N : Nat) (S : ns_S) (p1 : Int32) (p2 : Int32) {o : (Nat → Int32) × (Nat → Int32) × (Nat → Int32) × Int32} (hf : fX6_moveInto N (S.2.1 32) (S.1 1984) (S.2.1 47) (S.2.1 46) (S.2.1 49) (S.1 3073) p1 p2 = some o) : ns_M l yX6_moveInto wsX6_moveInto rmX6_moveInto_28 D b ids S [.ref (b 28), .int p1, .int p2] none (ns_A (ns_A (ns_A (ns_I S 3073 o.2.2.2) 49 o.2.2.1) 46 o.2.1) 47 o.1) := by
  refine ns_start (Wr := wrX6_moveInto_28) (by decide) rfl (Nat.le_of_ble_eq_true rfl) ?_
  intro p e s m below meth c A ls C hr hlk w hl
  have hl : lv_has ls 4 [(0, .ref (b 28)), (1, .int p1), (2, .int p2)] := hl
  unfold fX6_moveInto at hf
  refine lv_aload_n C.1.1 C.1.2.1 dX6_moveInto_0 rfl (lv_at hl 0 rfl) ?_
  refine lv_iload_n C.1.1 C.1.2.1 dX6_moveInto_1 rfl (lv_at hl 1 rfl) ?_
  refine lv_aload_n C.1.1 C.1.2.1 dX6_moveInto_2 rfl (lv_at hl 0 rfl) ?_
  refine ns_getr C w 28 (hI 28 (by decide)) sh_28 (rfl : vwCl[6]? = some (RX6, TX6, 6)) inX6_moveInto_6 1 (by decide) rfl lX6_moveInto_21 dX6_moveInto_3 ?_
  refine ns_getr C w 31 (hI 31 (by decide)) sh_31 (rfl : vwCl[0]? = some (RX0, TX0, 6)) inX6_moveInto_0 1 (by decide) rfl lX6_moveInto_76 dX6_moveInto_6 ?_
  refine lv_iload_n C.1.1 C.1.2.1 dX6_moveInto_9 rfl (lv_at hl 2 rfl) ?_
  refine ns_iald C w 32 (hI 32 (by decide)) sh_32 hf rfl dX6_moveInto_10 (fun x1 hf => ?_)
  refine ns_callV C w 28 (hI 28 (by decide)) sh_28 (rfl : vwCl[6]? = some (RX6, TX6, 6)) [.int p1, .int x1] hf (fun u hu => mX6_courseOn_28 l D b ids hI N _ p1 x1 hu) gX6_moveInto_X6_courseOn rfl rfl rfl hdX6_courseOn ⟨Nat.le_of_ble_eq_true rfl, Nat.le_of_ble_eq_true rfl⟩ (fun u h => h) rfl hl.1 rfl (Nat.le_of_ble_eq_true rfl) ⟨Nat.le_refl _, Nat.le_refl _⟩ dX6_moveInto_11 (fun o2 H locs hf w => ?_)
  refine lv_istore_n (lv' := [(3, .int o2), (0, .ref (b 28)), (1, .int p1), (2, .int p2)]) C.1.1 C.1.2.1 dX6_moveInto_14 rfl hl (by decide) rfl (fun ls hl => ?_)
  refine lv_iload_n C.1.1 C.1.2.1 dX6_moveInto_15 rfl (lv_at hl 0 rfl) ?_
  refine lv_iconst (v := (-1)) C.1.1 C.1.2.1 dX6_moveInto_16 (by decide) ?_
  refine ns_icmp_eq C hf (tgt := 29) dX6_moveInto_17 (by decide) (fun hf => ?_) (fun hf => ?_)
  · exact wX6_moveInto_28_29 N hI C hr hlk w (lv_sub hl [1, 2, 3] rfl) hf
  · refine lv_aload_n C.1.1 C.1.2.1 dX6_moveInto_20 rfl (lv_at hl 1 rfl) ?_
    refine ns_getr C w 28 (hI 28 (by decide)) sh_28 (rfl : vwCl[6]? = some (RX6, TX6, 6)) inX6_moveInto_6 3 (by decide) rfl lX6_moveInto_35 dX6_moveInto_21 ?_
    refine lv_iload_n C.1.1 C.1.2.1 dX6_moveInto_24 rfl (lv_at hl 2 rfl) ?_
    refine lv_iload_n C.1.1 C.1.2.1 dX6_moveInto_25 rfl (lv_at hl 0 rfl) ?_
    refine ns_callV C w 43 (hI 43 (by decide)) sh_43 (rfl : vwCl[7]? = some (RX7, TX7, 5)) [.int p1, .int o2] hf (fun u hu => mX7_takeAway_43 l D b ids hI N _ p1 o2 hu) gX6_moveInto_X7_takeAway rfl rfl rfl hdX7_takeAway ⟨Nat.le_of_ble_eq_true rfl, Nat.le_of_ble_eq_true rfl⟩ (fun u h => ((h.A (List.mem_of_getElem? (i := 1) rfl) _).A (List.mem_of_getElem? (i := 0) rfl) _)) rfl hl.1 rfl (Nat.le_of_ble_eq_true rfl) ⟨Nat.le_refl _, Nat.le_refl _⟩ dX6_moveInto_26 (fun o3 H locs hf w => ?_)
    exact wX6_moveInto_28_29 N hI C hr hlk w (lv_sub hl [1, 2, 3] rfl) hf
theorem lX6_moveFirstPupil_28 : Cond.fieldLink RX6 28 (TX6 2).1 (TX6 2).2.1 (TX6 2).2.2.1 ∈ wsX6_moveFirstPupil := List.mem_of_getElem? (i := 1) rfl
theorem lX6_moveFirstPupil_35 : Cond.fieldLink RX6 35 (TX6 3).1 (TX6 3).2.1 (TX6 3).2.2.1 ∈ wsX6_moveFirstPupil := List.mem_of_getElem? (i := 4) rfl
theorem lX6_moveFirstPupil_106 : Cond.fieldLink RX6 106 (TX4 0).1 (TX4 0).2.1 (TX4 0).2.2.1 ∈ wsX6_moveFirstPupil := List.mem_of_getElem? (i := 2) rfl
theorem lX6_moveFirstPupil_107 : Cond.fieldLink RX6 107 (TX4 4).1 (TX4 4).2.1 (TX4 4).2.2.1 ∈ wsX6_moveFirstPupil := List.mem_of_getElem? (i := 3) rfl
theorem inX6_moveFirstPupil_4 : ∀ w ∈ u_ws RX4 TX4 6, w ∈ wsX6_moveFirstPupil := fun _ h => List.mem_cons_of_mem _ (List.mem_append_left _ (List.mem_append_left _ (List.mem_append_left _ (List.mem_append_right _ h))))
theorem inX6_moveFirstPupil_6 : ∀ w ∈ u_ws RX6 TX6 6, w ∈ wsX6_moveFirstPupil := fun _ h => List.mem_cons_of_mem _ (List.mem_append_left _ (List.mem_append_left _ (List.mem_append_left _ (List.mem_append_left _ (List.mem_append_right _ h)))))
theorem hdX6_moveFirstPupil : yX6_moveFirstPupil.cls = RX6 ∧ yX6_moveFirstPupil.cls ≠ "java/lang/invoke/MethodHandle" ∧ yX6_moveFirstPupil.cls ≠ "java/lang/invoke/VarHandle" ∧ (parseMethodDescriptor yX6_moveFirstPupil.desc).map (fun d => d.parameters.length) = some 0 := by decide +kernel
abbrev wrX6_moveFirstPupil_28 : List (Nat × Nat) := [(1, 47), (1, 46), (1, 49), (0, 3073)]
abbrev rmX6_moveFirstPupil_28 : Room := { frames := 3, cells := 0, slots := 0, locals := 69 }
set_option maxHeartbeats 4000000 in
set_option maxRecDepth 100000 in
theorem wX6_moveFirstPupil_28_15 {p : Program} {l : Launch} {e : Env} {s : State} {m : MethodId} {args : Array Value} {below : List Frame} {meth : Method} {c : Code} {D : va_G} {b : Nat → Nat} {ids : List Nat} {A : Nat → Prop} {S0 : ns_S} {o : Int32 × (Nat → Int32) × (Nat → Int32) × (Nat → Int32) × Int32} (N : Nat) (hI : ∀ i, i < 107 → i ∈ ids) (C : ns_C p m c cX6_moveFirstPupil 4 s args wsX6_moveFirstPupil RX6 D A) (hr : meth.sig.returnType = some .boolean) (hlk : meth.locks = false) {r2 : Int32 → (Nat → Int32) → (Nat → Int32) → (Nat → Int32) → (Nat → Int32) → (Nat → Int32) → Int32 → (Nat → Int32) → Int32 → (Nat → Int32) → (Nat → Int32) → Int32 → Int32 → Option (Int32 × (Nat → Int32) × (Nat → Int32) × (Nat → Int32) × Int32)} (K2 : ∀ {S : ns_S} {H : Heap} {locs : List Loc} {ls : Array Slot} {l1 : Int32}, ns_W D b ids A s.heap wrX6_moveFirstPupil_28 S0 S H locs → lv_has ls 4 [(0, .ref (b 28)), (1, .int l1)] → r2 (S.1 2368) (S.2.1 41) (S.2.1 42) (S.2.1 46) (S.2.1 45) (S.2.1 47) (S.1 2752) (S.2.1 32) (S.1 1984) (S.2.1 40) (S.2.1 49) (S.1 3073) l1 = some o → W p l e rmX6_moveFirstPupil_28 s m args below meth c H locs 0 0 (MQ below (ns_Q D b ids (ns_A (ns_A (ns_A (ns_I S0 3073 o.2.2.2.2) 49 o.2.2.2.1) 46 o.2.2.1) 47 o.2.1) (some (.int o.1)) A) args s 0 0 A) (F0 m 2 ls [])) : ∀ n : Nat, ∀ {S : ns_S} {H : Heap} {locs : List Loc} {ls : Array Slot} {l1 : Int32} {l2 : Int32}, ns_W D b ids A s.heap wrX6_moveFirstPupil_28 S0 S H locs → lv_has ls 4 [(0, .ref (b 28)), (1, .int l1), (2, .int l2)] → fX6_moveFirstPupil_15 N r2 n (S.1 2368) (S.2.1 41) (S.2.1 42) (S.2.1 46) (S.2.1 45) (S.2.1 47) (S.1 2752) (S.2.1 32) (S.1 1984) (S.2.1 40) (S.2.1 49) (S.1 3073) l1 l2 = some o → W p l e rmX6_moveFirstPupil_28 s m args below meth c H locs 0 0 (MQ below (ns_Q D b ids (ns_A (ns_A (ns_A (ns_I S0 3073 o.2.2.2.2) 49 o.2.2.2.1) 46 o.2.2.1) 47 o.2.1) (some (.int o.1)) A) args s 0 0 A) (F0 m 15 ls []) := by
  intro n
  induction n with
  | zero =>
    intro S H locs ls l1 l2 w hl hf
    cases hf
  | succ n K15 =>
    intro S H locs ls l1 l2 w hl hf
    change gX6_moveFirstPupil_15 N r2 (fX6_moveFirstPupil_15 N r2 n) (S.1 2368) (S.2.1 41) (S.2.1 42) (S.2.1 46) (S.2.1 45) (S.2.1 47) (S.1 2752) (S.2.1 32) (S.1 1984) (S.2.1 40) (S.2.1 49) (S.1 3073) l1 l2 = some o at hf
    generalize fX6_moveFirstPupil_15 N r2 n = r15 at hf K15
    unfold gX6_moveFirstPupil_15 at hf
    refine lv_iload_n C.1.1 C.1.2.1 dX6_moveFirstPupil_15 rfl (lv_at hl 2 rfl) ?_
    refine lv_aload_n C.1.1 C.1.2.1 dX6_moveFirstPupil_16 rfl (lv_at hl 0 rfl) ?_
    refine ns_getr C w 28 (hI 28 (by decide)) sh_28 (rfl : vwCl[6]? = some (RX6, TX6, 6)) inX6_moveFirstPupil_6 2 (by decide) rfl lX6_moveFirstPupil_28 dX6_moveFirstPupil_17 ?_
    refine ns_getr C w 37 (hI 37 (by decide)) sh_37 (rfl : vwCl[4]? = some (RX4, TX4, 6)) inX6_moveFirstPupil_4 4 (by decide) rfl lX6_moveFirstPupil_107 dX6_moveFirstPupil_20 ?_
    refine lv_iload_n C.1.1 C.1.2.1 dX6_moveFirstPupil_23 rfl (lv_at hl 1 rfl) ?_
    refine ns_iald C w 41 (hI 41 (by decide)) sh_41 hf rfl dX6_moveFirstPupil_24 (fun x1 hf => ?_)
    refine ns_icmp_ge C hf (tgt := 73) dX6_moveFirstPupil_25 (by decide) (fun hf => ?_) (fun hf => ?_)
    · refine ns_iinc (lv' := fun x2 => [(1, .int x2), (0, .ref (b 28)), (2, .int l2)]) C hf dX6_moveFirstPupil_73 hl (k := 1) rfl rfl (by decide) (fun _ => rfl) (fun x2 ls hl hf => ?_)
      refine lv_goto (tgt := 2) C.1.1 C.1.2.1 dX6_moveFirstPupil_76 (by decide) ?_
      exact K2 w (lv_sub hl [1, 0] rfl) hf
    · refine lv_aload_n C.1.1 C.1.2.1 dX6_moveFirstPupil_28 rfl (lv_at hl 0 rfl) ?_
      refine ns_getr C w 28 (hI 28 (by decide)) sh_28 (rfl : vwCl[6]? = some (RX6, TX6, 6)) inX6_moveFirstPupil_6 2 (by decide) rfl lX6_moveFirstPupil_28 dX6_moveFirstPupil_29 ?_
      refine lv_iload_n C.1.1 C.1.2.1 dX6_moveFirstPupil_32 rfl (lv_at hl 1 rfl) ?_
      refine lv_iload_n C.1.1 C.1.2.1 dX6_moveFirstPupil_33 rfl (lv_at hl 2 rfl) ?_
      refine ns_callV C w 37 (hI 37 (by decide)) sh_37 (rfl : vwCl[4]? = some (RX4, TX4, 6)) [.int l1, .int l2] hf (fun u hu => mX4_courseOfRank_37 l D b ids hI N _ l1 l2 hu) gX6_moveFirstPupil_X4_courseOfRank rfl rfl rfl hdX4_courseOfRank ⟨Nat.le_of_ble_eq_true rfl, Nat.le_of_ble_eq_true rfl⟩ (fun u h => h) rfl hl.1 rfl (Nat.le_of_ble_eq_true rfl) ⟨Nat.le_refl _, Nat.le_refl _⟩ dX6_moveFirstPupil_34 (fun o3 H locs hf w => ?_)
      refine lv_istore_n (lv' := [(3, .int o3), (0, .ref (b 28)), (1, .int l1), (2, .int l2)]) C.1.1 C.1.2.1 dX6_moveFirstPupil_37 rfl hl (by decide) rfl (fun ls hl => ?_)
      refine lv_aload_n C.1.1 C.1.2.1 dX6_moveFirstPupil_38 rfl (lv_at hl 1 rfl) ?_
      refine ns_getr C w 28 (hI 28 (by decide)) sh_28 (rfl : vwCl[6]? = some (RX6, TX6, 6)) inX6_moveFirstPupil_6 3 (by decide) rfl lX6_moveFirstPupil_35 dX6_moveFirstPupil_39 ?_
      refine lv_iload_n C.1.1 C.1.2.1 dX6_moveFirstPupil_42 rfl (lv_at hl 0 rfl) ?_
      refine ns_callV C w 43 (hI 43 (by decide)) sh_43 (rfl : vwCl[7]? = some (RX7, TX7, 5)) [.int o3] hf (fun u hu => mX7_hasPlaceLeft_43 l D b ids hI N _ o3 hu) gX6_moveFirstPupil_X7_hasPlaceLeft rfl rfl rfl hdX7_hasPlaceLeft ⟨Nat.le_of_ble_eq_true rfl, Nat.le_of_ble_eq_true rfl⟩ (fun u h => h) rfl hl.1 rfl (Nat.le_of_ble_eq_true rfl) ⟨Nat.le_refl _, Nat.le_refl _⟩ dX6_moveFirstPupil_43 (fun o4 H locs hf w => ?_)
      refine ns_if_eq C hf (tgt := 67) dX6_moveFirstPupil_46 (by decide) (fun hf => ?_) (fun hf => ?_)
      · refine ns_iinc (lv' := fun x5 => [(2, .int x5), (3, .int o3), (0, .ref (b 28)), (1, .int l1)]) C hf dX6_moveFirstPupil_67 hl (k := 3) rfl rfl (by decide) (fun _ => rfl) (fun x5 ls hl hf => ?_)
        refine lv_goto (tgt := 15) C.1.1 C.1.2.1 dX6_moveFirstPupil_70 (by decide) ?_
        exact K15 w (lv_sub hl [2, 3, 0] rfl) hf
      · refine lv_aload_n C.1.1 C.1.2.1 dX6_moveFirstPupil_49 rfl (lv_at hl 1 rfl) ?_
        refine lv_iload_n C.1.1 C.1.2.1 dX6_moveFirstPupil_50 rfl (lv_at hl 2 rfl) ?_
        refine lv_iload_n C.1.1 C.1.2.1 dX6_moveFirstPupil_51 rfl (lv_at hl 0 rfl) ?_
        refine ns_callV C w 28 (hI 28 (by decide)) sh_28 (rfl : vwCl[6]? = some (RX6, TX6, 6)) [.int l1, .int o3] hf (fun u hu => mX6_reasonFor_28 l D b ids hI N _ l1 o3 hu) gX6_moveFirstPupil_X6_reasonFor rfl rfl rfl hdX6_reasonFor ⟨Nat.le_of_ble_eq_true rfl, Nat.le_of_ble_eq_true rfl⟩ (fun u h => h) rfl hl.1 rfl (Nat.le_of_ble_eq_true rfl) ⟨Nat.le_refl _, Nat.le_refl _⟩ dX6_moveFirstPupil_52 (fun o6 H locs hf w => ?_)
        refine lv_iconst (v := 5) C.1.1 C.1.2.1 dX6_moveFirstPupil_55 (by decide) ?_
        refine ns_icmp_ne C hf (tgt := 67) dX6_moveFirstPupil_56 (by decide) (fun hf => ?_) (fun hf => ?_)
        · refine ns_iinc (lv' := fun x7 => [(2, .int x7), (3, .int o3), (0, .ref (b 28)), (1, .int l1)]) C hf dX6_moveFirstPupil_67 hl (k := 3) rfl rfl (by decide) (fun _ => rfl) (fun x7 ls hl hf => ?_)
          refine lv_goto (tgt := 15) C.1.1 C.1.2.1 dX6_moveFirstPupil_70 (by decide) ?_
          exact K15 w (lv_sub hl [2, 3, 0] rfl) hf
        · refine lv_aload_n C.1.1 C.1.2.1 dX6_moveFirstPupil_59 rfl (lv_at hl 1 rfl) ?_
          refine lv_iload_n C.1.1 C.1.2.1 dX6_moveFirstPupil_60 rfl (lv_at hl 2 rfl) ?_
          refine lv_iload_n C.1.1 C.1.2.1 dX6_moveFirstPupil_61 rfl (lv_at hl 0 rfl) ?_
          refine ns_callV C w 28 (hI 28 (by decide)) sh_28 (rfl : vwCl[6]? = some (RX6, TX6, 6)) [.int l1, .int o3] hf (fun u hu => mX6_moveInto_28 l D b ids hI N _ l1 o3 hu) gX6_moveFirstPupil_X6_moveInto rfl rfl rfl hdX6_moveInto ⟨Nat.le_of_ble_eq_true rfl, Nat.le_of_ble_eq_true rfl⟩ (fun u h => ((((h.I (List.mem_of_getElem? (i := 3) rfl) _).A (List.mem_of_getElem? (i := 2) rfl) _).A (List.mem_of_getElem? (i := 1) rfl) _).A (List.mem_of_getElem? (i := 0) rfl) _)) rfl hl.1 rfl (Nat.le_of_ble_eq_true rfl) ⟨Nat.le_refl _, Nat.le_refl _⟩ dX6_moveFirstPupil_62 (fun o8 H locs hf w => ?_)
          refine lv_iconst (v := 1) C.1.1 C.1.2.1 dX6_moveFirstPupil_65 (by decide) ?_
          have he := Option.some.inj hf
          subst he
          exact ns_zret C w hr hlk rfl (Or.inr rfl) rfl dX6_moveFirstPupil_66
set_option maxHeartbeats 4000000 in
set_option maxRecDepth 100000 in
theorem wX6_moveFirstPupil_28_2 {p : Program} {l : Launch} {e : Env} {s : State} {m : MethodId} {args : Array Value} {below : List Frame} {meth : Method} {c : Code} {D : va_G} {b : Nat → Nat} {ids : List Nat} {A : Nat → Prop} {S0 : ns_S} {o : Int32 × (Nat → Int32) × (Nat → Int32) × (Nat → Int32) × Int32} (N : Nat) (hI : ∀ i, i < 107 → i ∈ ids) (C : ns_C p m c cX6_moveFirstPupil 4 s args wsX6_moveFirstPupil RX6 D A) (hr : meth.sig.returnType = some .boolean) (hlk : meth.locks = false) : ∀ n : Nat, ∀ {S : ns_S} {H : Heap} {locs : List Loc} {ls : Array Slot} {l1 : Int32}, ns_W D b ids A s.heap wrX6_moveFirstPupil_28 S0 S H locs → lv_has ls 4 [(0, .ref (b 28)), (1, .int l1)] → fX6_moveFirstPupil_2 N n (S.1 2368) (S.2.1 41) (S.2.1 42) (S.2.1 46) (S.2.1 45) (S.2.1 47) (S.1 2752) (S.2.1 32) (S.1 1984) (S.2.1 40) (S.2.1 49) (S.1 3073) l1 = some o → W p l e rmX6_moveFirstPupil_28 s m args below meth c H locs 0 0 (MQ below (ns_Q D b ids (ns_A (ns_A (ns_A (ns_I S0 3073 o.2.2.2.2) 49 o.2.2.2.1) 46 o.2.2.1) 47 o.2.1) (some (.int o.1)) A) args s 0 0 A) (F0 m 2 ls []) := by
  intro n
  induction n with
  | zero =>
    intro S H locs ls l1 w hl hf
    cases hf
  | succ n K2 =>
    intro S H locs ls l1 w hl hf
    change gX6_moveFirstPupil_2 N (fX6_moveFirstPupil_2 N n) (S.1 2368) (S.2.1 41) (S.2.1 42) (S.2.1 46) (S.2.1 45) (S.2.1 47) (S.1 2752) (S.2.1 32) (S.1 1984) (S.2.1 40) (S.2.1 49) (S.1 3073) l1 = some o at hf
    generalize fX6_moveFirstPupil_2 N n = r2 at hf K2
    unfold gX6_moveFirstPupil_2 at hf
    refine lv_iload_n C.1.1 C.1.2.1 dX6_moveFirstPupil_2 rfl (lv_at hl 1 rfl) ?_
    refine lv_aload_n C.1.1 C.1.2.1 dX6_moveFirstPupil_3 rfl (lv_at hl 0 rfl) ?_
    refine ns_getr C w 28 (hI 28 (by decide)) sh_28 (rfl : vwCl[6]? = some (RX6, TX6, 6)) inX6_moveFirstPupil_6 2 (by decide) rfl lX6_moveFirstPupil_28 dX6_moveFirstPupil_4 ?_
    refine ns_geti C w 37 (hI 37 (by decide)) sh_37 (rfl : vwCl[4]? = some (RX4, TX4, 6)) inX6_moveFirstPupil_4 0 (by decide) rfl lX6_moveFirstPupil_106 (S.1 2368) rfl dX6_moveFirstPupil_7 ?_
    refine ns_icmp_ge C hf (tgt := 79) dX6_moveFirstPupil_10 (by decide) (fun hf => ?_) (fun hf => ?_)
    · refine lv_iconst (v := 0) C.1.1 C.1.2.1 dX6_moveFirstPupil_79 (by decide) ?_
      have he := Option.some.inj hf
      subst he
      exact ns_zret C w hr hlk rfl (Or.inl rfl) rfl dX6_moveFirstPupil_80
    · refine lv_iconst (v := 0) C.1.1 C.1.2.1 dX6_moveFirstPupil_13 (by decide) ?_
      refine lv_istore_n (lv' := [(2, .int 0), (0, .ref (b 28)), (1, .int l1)]) C.1.1 C.1.2.1 dX6_moveFirstPupil_14 rfl hl (by decide) rfl (fun ls hl => ?_)
      exact wX6_moveFirstPupil_28_15 N hI C hr hlk K2 N w (lv_sub hl [1, 2, 0] rfl) hf
set_option maxHeartbeats 4000000 in
set_option maxRecDepth 100000 in
theorem mX6_moveFirstPupil_28 (l : Launch) (D : va_G) (b : Nat → Nat) (ids : List Nat) (hI : ∀ i, i < 107 → i ∈ ids) (N : Nat) (S : ns_S) {o : Int32 × (Nat → Int32) × (Nat → Int32) × (Nat → Int32) × Int32} (hf : fX6_moveFirstPupil N (S.1 2368) (S.2.1 41) (S.2.1 42) (S.2.1 46) (S.2.1 45) (S.2.1 47) (S.1 2752) (S.2.1 32) (S.1 1984) (S.2.1 40) (S.2.1 49) (S.1 3073) = some o) : ns_M l yX6_moveFirstPupil wsX6_moveFirstPupil rmX6_moveFirstPupil_28 D b ids S [.ref (b 28)] (some (.int o.1)) (ns_A (ns_A (ns_A (ns_I S 3073 o.2.2.2.2) 49 o.2.2.2.1) 46 o.2.2.1) 47 o.2.1) := by
  refine ns_start (Wr := wrX6_moveFirstPupil_28) (by decide) rfl (Nat.le_of_ble_eq_true rfl) ?_
  intro p e s m below meth c A ls C hr hlk w hl
  have hl : lv_has ls 4 [(0, .ref (b 28))] := hl
  unfold fX6_moveFirstPupil at hf
  refine lv_iconst (v := 0) C.1.1 C.1.2.1 dX6_moveFirstPupil_0 (by decide) ?_
  refine lv_istore_n (lv' := [(1, .int 0), (0, .ref (b 28))]) C.1.1 C.1.2.1 dX6_moveFirstPupil_1 rfl hl (by decide) rfl (fun ls hl => ?_)
  exact wX6_moveFirstPupil_28_2 N hI C hr hlk N w (lv_sub hl [1, 0] rfl) hf
theorem hdX6_moveUp : yX6_moveUp.cls = RX6 ∧ yX6_moveUp.cls ≠ "java/lang/invoke/MethodHandle" ∧ yX6_moveUp.cls ≠ "java/lang/invoke/VarHandle" ∧ (parseMethodDescriptor yX6_moveUp.desc).map (fun d => d.parameters.length) = some 0 := by decide +kernel
abbrev wrX6_moveUp_28 : List (Nat × Nat) := [(1, 47), (1, 46), (1, 49), (0, 3073)]
abbrev rmX6_moveUp_28 : Room := { frames := 4, cells := 0, slots := 0, locals := 92 }
set_option maxHeartbeats 4000000 in
set_option maxRecDepth 100000 in
theorem wX6_moveUp_28_4 {p : Program} {l : Launch} {e : Env} {s : State} {m : MethodId} {args : Array Value} {below : List Frame} {meth : Method} {c : Code} {D : va_G} {b : Nat → Nat} {ids : List Nat} {A : Nat → Prop} {S0 : ns_S} {o : (Nat → Int32) × (Nat → Int32) × (Nat → Int32) × Int32} (N : Nat) (hI : ∀ i, i < 107 → i ∈ ids) (C : ns_C p m c cX6_moveUp 3 s args wsX6_moveUp RX6 D A) (hr : meth.sig.returnType = none) (hlk : meth.locks = false) : ∀ n : Nat, ∀ {S : ns_S} {H : Heap} {locs : List Loc} {ls : Array Slot} {l1 : Int32} {l2 : Int32}, ns_W D b ids A s.heap wrX6_moveUp_28 S0 S H locs → lv_has ls 3 [(0, .ref (b 28)), (1, .int l1), (2, .int l2)] → fX6_moveUp_4 N n (S.1 2368) (S.2.1 41) (S.2.1 42) (S.2.1 46) (S.2.1 45) (S.2.1 47) (S.1 2752) (S.2.1 32) (S.1 1984) (S.2.1 40) (S.2.1 49) (S.1 3073) l1 l2 = some o → W p l e rmX6_moveUp_28 s m args below meth c H locs 0 0 (MQ below (ns_Q D b ids (ns_A (ns_A (ns_A (ns_I S0 3073 o.2.2.2) 49 o.2.2.1) 46 o.2.1) 47 o.1) none A) args s 0 0 A) (F0 m 4 ls []) := by
  intro n
  induction n with
  | zero =>
    intro S H locs ls l1 l2 w hl hf
    cases hf
  | succ n K4 =>
    intro S H locs ls l1 l2 w hl hf
    change gX6_moveUp_4 N (fX6_moveUp_4 N n) (S.1 2368) (S.2.1 41) (S.2.1 42) (S.2.1 46) (S.2.1 45) (S.2.1 47) (S.1 2752) (S.2.1 32) (S.1 1984) (S.2.1 40) (S.2.1 49) (S.1 3073) l1 l2 = some o at hf
    generalize fX6_moveUp_4 N n = r4 at hf K4
    unfold gX6_moveUp_4 at hf
    refine lv_iload_n C.1.1 C.1.2.1 dX6_moveUp_4 rfl (lv_at hl 1 rfl) ?_
    refine ns_if_eq C hf (tgt := 26) dX6_moveUp_5 (by decide) (fun hf => ?_) (fun hf => ?_)
    · have he := Option.some.inj hf
      subst he
      exact ns_vret C w hr hlk rfl rfl dX6_moveUp_26
    · refine lv_iload_n C.1.1 C.1.2.1 dX6_moveUp_8 rfl (lv_at hl 2 rfl) ?_
      refine lv_sipush (v := 10000) C.1.1 C.1.2.1 dX6_moveUp_9 (by decide) ?_
      refine ns_icmp_ge C hf (tgt := 26) dX6_moveUp_12 (by decide) (fun hf => ?_) (fun hf => ?_)
      · have he := Option.some.inj hf
        subst he
        exact ns_vret C w hr hlk rfl rfl dX6_moveUp_26
      · refine lv_aload_n C.1.1 C.1.2.1 dX6_moveUp_15 rfl (lv_at hl 0 rfl) ?_
        refine ns_callV C w 28 (hI 28 (by decide)) sh_28 (rfl : vwCl[6]? = some (RX6, TX6, 6)) [] hf (fun u hu => mX6_moveFirstPupil_28 l D b ids hI N _ hu) gX6_moveUp_X6_moveFirstPupil rfl rfl rfl hdX6_moveFirstPupil ⟨Nat.le_of_ble_eq_true rfl, Nat.le_of_ble_eq_true rfl⟩ (fun u h => ((((h.I (List.mem_of_getElem? (i := 3) rfl) _).A (List.mem_of_getElem? (i := 2) rfl) _).A (List.mem_of_getElem? (i := 1) rfl) _).A (List.mem_of_getElem? (i := 0) rfl) _)) rfl hl.1 rfl (Nat.le_of_ble_eq_true rfl) ⟨Nat.le_refl _, Nat.le_refl _⟩ dX6_moveUp_16 (fun o1 H locs hf w => ?_)
        refine lv_istore_n (lv' := [(1, .int o1.1), (0, .ref (b 28)), (2, .int l2)]) C.1.1 C.1.2.1 dX6_moveUp_19 rfl hl (by decide) rfl (fun ls hl => ?_)
        refine ns_iinc (lv' := fun x2 => [(2, .int x2), (1, .int o1.1), (0, .ref (b 28))]) C hf dX6_moveUp_20 hl (k := 2) rfl rfl (by decide) (fun _ => rfl) (fun x2 ls hl hf => ?_)
        refine lv_goto (tgt := 4) C.1.1 C.1.2.1 dX6_moveUp_23 (by decide) ?_
        exact K4 w (lv_sub hl [2, 1, 0] rfl) hf
set_option maxHeartbeats 4000000 in
set_option maxRecDepth 100000 in
theorem mX6_moveUp_28 (l : Launch) (D : va_G) (b : Nat → Nat) (ids : List Nat) (hI : ∀ i, i < 107 → i ∈ ids) (N : Nat) (S : ns_S) {o : (Nat → Int32) × (Nat → Int32) × (Nat → Int32) × Int32} (hf : fX6_moveUp N (S.1 2368) (S.2.1 41) (S.2.1 42) (S.2.1 46) (S.2.1 45) (S.2.1 47) (S.1 2752) (S.2.1 32) (S.1 1984) (S.2.1 40) (S.2.1 49) (S.1 3073) = some o) : ns_M l yX6_moveUp wsX6_moveUp rmX6_moveUp_28 D b ids S [.ref (b 28)] none (ns_A (ns_A (ns_A (ns_I S 3073 o.2.2.2) 49 o.2.2.1) 46 o.2.1) 47 o.1) := by
  refine ns_start (Wr := wrX6_moveUp_28) (by decide) rfl (Nat.le_of_ble_eq_true rfl) ?_
  intro p e s m below meth c A ls C hr hlk w hl
  have hl : lv_has ls 3 [(0, .ref (b 28))] := hl
  unfold fX6_moveUp at hf
  refine lv_iconst (v := 1) C.1.1 C.1.2.1 dX6_moveUp_0 (by decide) ?_
  refine lv_istore_n (lv' := [(1, .int 1), (0, .ref (b 28))]) C.1.1 C.1.2.1 dX6_moveUp_1 rfl hl (by decide) rfl (fun ls hl => ?_)
  refine lv_iconst (v := 0) C.1.1 C.1.2.1 dX6_moveUp_2 (by decide) ?_
  refine lv_istore_n (lv' := [(2, .int 0), (1, .int 1), (0, .ref (b 28))]) C.1.1 C.1.2.1 dX6_moveUp_3 rfl hl (by decide) rfl (fun ls hl => ?_)
  exact wX6_moveUp_28_4 N hI C hr hlk N w (lv_sub hl [2, 1, 0] rfl) hf
theorem lX10_wish_30 : Cond.fieldLink RX10 30 (TX10 4).1 (TX10 4).2.1 (TX10 4).2.2.1 ∈ wsX10_wish := List.mem_of_getElem? (i := 1) rfl
theorem lX10_wish_119 : Cond.fieldLink RX10 119 (TX6 2).1 (TX6 2).2.1 (TX6 2).2.2.1 ∈ wsX10_wish := List.mem_of_getElem? (i := 2) rfl
theorem lX10_wish_142 : Cond.fieldLink RX10 142 (TX4 4).1 (TX4 4).2.1 (TX4 4).2.2.1 ∈ wsX10_wish := List.mem_of_getElem? (i := 3) rfl
theorem inX10_wish_4 : ∀ w ∈ u_ws RX4 TX4 6, w ∈ wsX10_wish := fun _ h => List.mem_cons_of_mem _ (List.mem_append_left _ (List.mem_append_left _ (List.mem_append_left _ (List.mem_append_right _ h))))
theorem inX10_wish_6 : ∀ w ∈ u_ws RX6 TX6 6, w ∈ wsX10_wish := fun _ h => List.mem_cons_of_mem _ (List.mem_append_left _ (List.mem_append_left _ (List.mem_append_left _ (List.mem_append_left _ (List.mem_append_right _ h)))))
theorem inX10_wish_10 : ∀ w ∈ u_ws RX10 TX10 6, w ∈ wsX10_wish := fun _ h => List.mem_cons_of_mem _ (List.mem_append_left _ (List.mem_append_left _ (List.mem_append_left _ (List.mem_append_left _ (List.mem_append_left _ (List.mem_append_right _ h))))))
theorem hdX10_wish : yX10_wish.cls = RX10 ∧ yX10_wish.cls ≠ "java/lang/invoke/MethodHandle" ∧ yX10_wish.cls ≠ "java/lang/invoke/VarHandle" ∧ (parseMethodDescriptor yX10_wish.desc).map (fun d => d.parameters.length) = some 2 := by decide +kernel
abbrev wrX10_wish_0 : List (Nat × Nat) := [(1, 42), (1, 41), (1, 47), (1, 46), (1, 49), (0, 3073)]
abbrev rmX10_wish_0 : Room := { frames := 5, cells := 0, slots := 0, locals := 114 }
set_option maxHeartbeats 4000000 in
set_option maxRecDepth 100000 in
theorem mX10_wish_0 (l : Launch) (D : va_G) (b : Nat → Nat) (ids : List Nat) (hI : ∀ i, i < 107 → i ∈ ids) (N : Nat) (S : ns_S) (p1 : Int32) (p2 : Int32) {o : Int32 × (Nat → Int32) × (Nat → Int32) × (Nat → Int32) × (Nat → Int32) × (Nat → Int32) × Int32} (hf : fX10_wish N (S.1 2368) (S.1 1984) (S.2.1 41) (S.2.1 42) (S.2.1 46) (S.2.1 45) (S.2.1 47) (S.1 2752) (S.2.1 32) (S.2.1 40) (S.2.1 49) (S.1 3073) p1 p2 = some o) : ns_M l yX10_wish wsX10_wish rmX10_wish_0 D b ids S [.ref (b 0), .int p1, .int p2] (some (.int o.1)) (ns_A (ns_A (ns_A (ns_A (ns_A (ns_I S 3073 o.2.2.2.2.2.2) 49 o.2.2.2.2.2.1) 46 o.2.2.2.2.1) 47 o.2.2.2.1) 41 o.2.2.1) 42 o.2.1) := by
  refine ns_start (Wr := wrX10_wish_0) (by decide) rfl (Nat.le_of_ble_eq_true rfl) ?_
  intro p e s m below meth c A ls C hr hlk w hl
  have hl : lv_has ls 5 [(0, .ref (b 0)), (1, .int p1), (2, .int p2)] := hl
  unfold fX10_wish at hf
  refine lv_aload_n C.1.1 C.1.2.1 dX10_wish_0 rfl (lv_at hl 0 rfl) ?_
  refine lv_iload_n C.1.1 C.1.2.1 dX10_wish_1 rfl (lv_at hl 1 rfl) ?_
  refine ns_callV C w 0 (hI 0 (by decide)) sh_0 (rfl : vwCl[10]? = some (RX10, TX10, 6)) [.int p1] hf (fun u hu => mX10_isPupil_0 l D b ids hI N _ p1 hu) gX10_wish_X10_isPupil rfl rfl rfl hdX10_isPupil ⟨Nat.le_of_ble_eq_true rfl, Nat.le_of_ble_eq_true rfl⟩ (fun u h => h) rfl hl.1 rfl (Nat.le_of_ble_eq_true rfl) ⟨Nat.le_refl _, Nat.le_refl _⟩ dX10_wish_2 (fun o1 H locs hf w => ?_)
  refine ns_if_eq C hf (tgt := 16) dX10_wish_5 (by decide) (fun hf => ?_) (fun hf => ?_)
  · refine lv_iconst (v := (-1)) C.1.1 C.1.2.1 dX10_wish_16 (by decide) ?_
    have he := Option.some.inj hf
    subst he
    exact ns_iret C w hr hlk rfl rfl dX10_wish_17
  · refine lv_aload_n C.1.1 C.1.2.1 dX10_wish_8 rfl (lv_at hl 0 rfl) ?_
    refine lv_iload_n C.1.1 C.1.2.1 dX10_wish_9 rfl (lv_at hl 2 rfl) ?_
    refine ns_callV C w 0 (hI 0 (by decide)) sh_0 (rfl : vwCl[10]? = some (RX10, TX10, 6)) [.int p2] hf (fun u hu => mX10_isCourse_0 l D b ids hI N _ p2 hu) gX10_wish_X10_isCourse rfl rfl rfl hdX10_isCourse ⟨Nat.le_of_ble_eq_true rfl, Nat.le_of_ble_eq_true rfl⟩ (fun u h => h) rfl hl.1 rfl (Nat.le_of_ble_eq_true rfl) ⟨Nat.le_refl _, Nat.le_refl _⟩ dX10_wish_10 (fun o2 H locs hf w => ?_)
    refine ns_if_ne C hf (tgt := 18) dX10_wish_13 (by decide) (fun hf => ?_) (fun hf => ?_)
    · refine lv_aload_n C.1.1 C.1.2.1 dX10_wish_18 rfl (lv_at hl 0 rfl) ?_
      refine ns_getr C w 0 (hI 0 (by decide)) sh_0 (rfl : vwCl[10]? = some (RX10, TX10, 6)) inX10_wish_10 4 (by decide) rfl lX10_wish_30 dX10_wish_19 ?_
      refine ns_getr C w 28 (hI 28 (by decide)) sh_28 (rfl : vwCl[6]? = some (RX6, TX6, 6)) inX10_wish_6 2 (by decide) rfl lX10_wish_119 dX10_wish_22 ?_
      refine lv_astore_n (lv' := [(3, .ref (b 37)), (0, .ref (b 0)), (1, .int p1), (2, .int p2)]) C.1.1 C.1.2.1 dX10_wish_25 rfl hl (by decide) rfl (fun ls hl => ?_)
      refine lv_aload_n C.1.1 C.1.2.1 dX10_wish_26 rfl (lv_at hl 0 rfl) ?_
      refine ns_getr C w 37 (hI 37 (by decide)) sh_37 (rfl : vwCl[4]? = some (RX4, TX4, 6)) inX10_wish_4 4 (by decide) rfl lX10_wish_142 dX10_wish_27 ?_
      refine lv_iload_n C.1.1 C.1.2.1 dX10_wish_30 rfl (lv_at hl 2 rfl) ?_
      refine ns_iald C w 41 (hI 41 (by decide)) sh_41 hf rfl dX10_wish_31 (fun x3 hf => ?_)
      refine lv_bipush (v := 6) C.1.1 C.1.2.1 dX10_wish_32 (by decide) ?_
      refine ns_icmp_ge C hf (tgt := 47) dX10_wish_34 (by decide) (fun hf => ?_) (fun hf => ?_)
      · refine lv_iconst (v := (-1)) C.1.1 C.1.2.1 dX10_wish_47 (by decide) ?_
        have he := Option.some.inj hf
        subst he
        exact ns_iret C w hr hlk rfl rfl dX10_wish_48
      · refine lv_aload_n C.1.1 C.1.2.1 dX10_wish_37 rfl (lv_at hl 0 rfl) ?_
        refine lv_iload_n C.1.1 C.1.2.1 dX10_wish_38 rfl (lv_at hl 2 rfl) ?_
        refine lv_iload_n C.1.1 C.1.2.1 dX10_wish_39 rfl (lv_at hl 3 rfl) ?_
        refine ns_callV C w 37 (hI 37 (by decide)) sh_37 (rfl : vwCl[4]? = some (RX4, TX4, 6)) [.int p1, .int p2] hf (fun u hu => mX4_rankOf_37 l D b ids hI N _ p1 p2 hu) gX10_wish_X4_rankOf rfl rfl rfl hdX4_rankOf ⟨Nat.le_of_ble_eq_true rfl, Nat.le_of_ble_eq_true rfl⟩ (fun u h => h) rfl hl.1 rfl (Nat.le_of_ble_eq_true rfl) ⟨Nat.le_refl _, Nat.le_refl _⟩ dX10_wish_40 (fun o4 H locs hf w => ?_)
        refine lv_iconst (v := (-1)) C.1.1 C.1.2.1 dX10_wish_43 (by decide) ?_
        refine ns_icmp_eq C hf (tgt := 49) dX10_wish_44 (by decide) (fun hf => ?_) (fun hf => ?_)
        · refine lv_aload_n C.1.1 C.1.2.1 dX10_wish_49 rfl (lv_at hl 0 rfl) ?_
          refine lv_iload_n C.1.1 C.1.2.1 dX10_wish_50 rfl (lv_at hl 2 rfl) ?_
          refine lv_iload_n C.1.1 C.1.2.1 dX10_wish_51 rfl (lv_at hl 3 rfl) ?_
          refine ns_callV C w 37 (hI 37 (by decide)) sh_37 (rfl : vwCl[4]? = some (RX4, TX4, 6)) [.int p1, .int p2] hf (fun u hu => mX4_addWish_37 l D b ids hI N _ p1 p2 hu) gX10_wish_X4_addWish rfl rfl rfl hdX4_addWish ⟨Nat.le_of_ble_eq_true rfl, Nat.le_of_ble_eq_true rfl⟩ (fun u h => ((h.A (List.mem_of_getElem? (i := 1) rfl) _).A (List.mem_of_getElem? (i := 0) rfl) _)) rfl hl.1 rfl (Nat.le_of_ble_eq_true rfl) ⟨Nat.le_refl _, Nat.le_refl _⟩ dX10_wish_52 (fun o5 H locs hf w => ?_)
          refine lv_istore (lv' := [(4, .int o5.1), (3, .ref (b 37)), (0, .ref (b 0)), (1, .int p1), (2, .int p2)]) C.1.1 C.1.2.1 dX10_wish_55 hl (by decide) rfl (fun ls hl => ?_)
          refine lv_aload_n C.1.1 C.1.2.1 dX10_wish_57 rfl (lv_at hl 2 rfl) ?_
          refine ns_getr C w 0 (hI 0 (by decide)) sh_0 (rfl : vwCl[10]? = some (RX10, TX10, 6)) inX10_wish_10 4 (by decide) rfl lX10_wish_30 dX10_wish_58 ?_
          refine ns_callV C w 28 (hI 28 (by decide)) sh_28 (rfl : vwCl[6]? = some (RX6, TX6, 6)) [] hf (fun u hu => mX6_moveUp_28 l D b ids hI N _ hu) gX10_wish_X6_moveUp rfl rfl rfl hdX6_moveUp ⟨Nat.le_of_ble_eq_true rfl, Nat.le_of_ble_eq_true rfl⟩ (fun u h => ((((h.I (List.mem_of_getElem? (i := 5) rfl) _).A (List.mem_of_getElem? (i := 4) rfl) _).A (List.mem_of_getElem? (i := 3) rfl) _).A (List.mem_of_getElem? (i := 2) rfl) _)) rfl hl.1 rfl (Nat.le_of_ble_eq_true rfl) ⟨Nat.le_refl _, Nat.le_refl _⟩ dX10_wish_61 (fun o6 H locs hf w => ?_)
          refine lv_iload C.1.1 C.1.2.1 dX10_wish_64 (lv_at hl 0 rfl) ?_
          have he := Option.some.inj hf
          subst he
          exact ns_iret C w hr hlk rfl rfl dX10_wish_66
        · refine lv_iconst (v := (-1)) C.1.1 C.1.2.1 dX10_wish_47 (by decide) ?_
          have he := Option.some.inj hf
          subst he
          exact ns_iret C w hr hlk rfl rfl dX10_wish_48
    · refine lv_iconst (v := (-1)) C.1.1 C.1.2.1 dX10_wish_16 (by decide) ?_
      have he := Option.some.inj hf
      subst he
      exact ns_iret C w hr hlk rfl rfl dX10_wish_17
theorem lX11_isPupil_42 : Cond.fieldLink RX11 42 (TX11 12).1 (TX11 12).2.1 (TX11 12).2.2.1 ∈ wsX11_isPupil := List.mem_of_getElem? (i := 1) rfl
theorem inX11_isPupil_11 : ∀ w ∈ u_ws RX11 TX11 59, w ∈ wsX11_isPupil := fun _ h => List.mem_cons_of_mem _ (List.mem_append_right _ h)
theorem hdX11_isPupil : yX11_isPupil.cls = RX11 ∧ yX11_isPupil.cls ≠ "java/lang/invoke/MethodHandle" ∧ yX11_isPupil.cls ≠ "java/lang/invoke/VarHandle" ∧ (parseMethodDescriptor yX11_isPupil.desc).map (fun d => d.parameters.length) = some 1 := by decide +kernel
abbrev wrX11_isPupil_62 : List (Nat × Nat) := []
abbrev rmX11_isPupil_62 : Room := { frames := 1, cells := 0, slots := 0, locals := 22 }
set_option maxHeartbeats 4000000 in
set_option maxRecDepth 100000 in
theorem mX11_isPupil_62 (l : Launch) (D : va_G) (b : Nat → Nat) (ids : List Nat) (hI : ∀ i, i < 107 → i ∈ ids) (N : Nat) (S : ns_S) (p1 : Int32) {o : Int32} (hf : fX11_isPupil N (S.2.1 73) p1 = some o) : ns_M l yX11_isPupil wsX11_isPupil rmX11_isPupil_62 D b ids S [.ref (b 62), .int p1] (some (.int o)) S := by
  refine ns_start (Wr := wrX11_isPupil_62) (by decide) rfl (Nat.le_of_ble_eq_true rfl) ?_
  intro p e s m below meth c A ls C hr hlk w hl
  have hl : lv_has ls 2 [(0, .ref (b 62)), (1, .int p1)] := hl
  unfold fX11_isPupil at hf
  refine lv_iload_n C.1.1 C.1.2.1 dX11_isPupil_0 rfl (lv_at hl 1 rfl) ?_
  refine lv_iconst (v := 0) C.1.1 C.1.2.1 dX11_isPupil_1 (by decide) ?_
  refine lv_aload_n C.1.1 C.1.2.1 dX11_isPupil_2 rfl (lv_at hl 0 rfl) ?_
  refine ns_getr C w 62 (hI 62 (by decide)) sh_62 (rfl : vwCl[11]? = some (RX11, TX11, 59)) inX11_isPupil_11 12 (by decide) rfl lX11_isPupil_42 dX11_isPupil_3 ?_
  refine lv_iconst (v := 0) C.1.1 C.1.2.1 dX11_isPupil_6 (by decide) ?_
  refine ns_iald C w 73 (hI 73 (by decide)) sh_73 hf rfl dX11_isPupil_7 (fun x1 hf => ?_)
  refine lv_iconst (v := 1) C.1.1 C.1.2.1 dX11_isPupil_8 (by decide) ?_
  refine lv_isub C.1.1 C.1.2.1 dX11_isPupil_9 ?_
  refine ns_callS C w [.int p1, .int 0, .int (x1 - 1)] hf (fun u hu => mX11_in l D b ids hI N _ p1 0 (x1 - 1) hu) gX11_isPupil_X11_in rfl rfl rfl hdX11_in ⟨Nat.le_of_ble_eq_true rfl, Nat.le_of_ble_eq_true rfl⟩ (fun u h => h) rfl hl.1 rfl (Nat.le_of_ble_eq_true rfl) ⟨Nat.le_refl _, Nat.le_refl _⟩ dX11_isPupil_10 (fun o2 H locs hf w => ?_)
  obtain ⟨hz, hf⟩ := ns_zb_some hf
  have he := Option.some.inj hf
  subst he
  exact ns_zret C w hr hlk rfl hz rfl dX11_isPupil_13
theorem lX11_isCourse_24 : Cond.fieldLink RX11 24 (TX11 6).1 (TX11 6).2.1 (TX11 6).2.2.1 ∈ wsX11_isCourse := List.mem_of_getElem? (i := 1) rfl
theorem inX11_isCourse_11 : ∀ w ∈ u_ws RX11 TX11 59, w ∈ wsX11_isCourse := fun _ h => List.mem_cons_of_mem _ (List.mem_append_right _ h)
theorem hdX11_isCourse : yX11_isCourse.cls = RX11 ∧ yX11_isCourse.cls ≠ "java/lang/invoke/MethodHandle" ∧ yX11_isCourse.cls ≠ "java/lang/invoke/VarHandle" ∧ (parseMethodDescriptor yX11_isCourse.desc).map (fun d => d.parameters.length) = some 1 := by decide +kernel
abbrev wrX11_isCourse_62 : List (Nat × Nat) := []
abbrev rmX11_isCourse_62 : Room := { frames := 1, cells := 0, slots := 0, locals := 22 }
set_option maxHeartbeats 4000000 in
set_option maxRecDepth 100000 in
theorem mX11_isCourse_62 (l : Launch) (D : va_G) (b : Nat → Nat) (ids : List Nat) (hI : ∀ i, i < 107 → i ∈ ids) (N : Nat) (S : ns_S) (p1 : Int32) {o : Int32} (hf : fX11_isCourse N (S.2.1 67) p1 = some o) : ns_M l yX11_isCourse wsX11_isCourse rmX11_isCourse_62 D b ids S [.ref (b 62), .int p1] (some (.int o)) S := by
  refine ns_start (Wr := wrX11_isCourse_62) (by decide) rfl (Nat.le_of_ble_eq_true rfl) ?_
  intro p e s m below meth c A ls C hr hlk w hl
  have hl : lv_has ls 2 [(0, .ref (b 62)), (1, .int p1)] := hl
  unfold fX11_isCourse at hf
  refine lv_iload_n C.1.1 C.1.2.1 dX11_isCourse_0 rfl (lv_at hl 1 rfl) ?_
  refine lv_iconst (v := 0) C.1.1 C.1.2.1 dX11_isCourse_1 (by decide) ?_
  refine lv_aload_n C.1.1 C.1.2.1 dX11_isCourse_2 rfl (lv_at hl 0 rfl) ?_
  refine ns_getr C w 62 (hI 62 (by decide)) sh_62 (rfl : vwCl[11]? = some (RX11, TX11, 59)) inX11_isCourse_11 6 (by decide) rfl lX11_isCourse_24 dX11_isCourse_3 ?_
  refine lv_iconst (v := 0) C.1.1 C.1.2.1 dX11_isCourse_6 (by decide) ?_
  refine ns_iald C w 67 (hI 67 (by decide)) sh_67 hf rfl dX11_isCourse_7 (fun x1 hf => ?_)
  refine lv_iconst (v := 1) C.1.1 C.1.2.1 dX11_isCourse_8 (by decide) ?_
  refine lv_isub C.1.1 C.1.2.1 dX11_isCourse_9 ?_
  refine ns_callS C w [.int p1, .int 0, .int (x1 - 1)] hf (fun u hu => mX11_in l D b ids hI N _ p1 0 (x1 - 1) hu) gX11_isCourse_X11_in rfl rfl rfl hdX11_in ⟨Nat.le_of_ble_eq_true rfl, Nat.le_of_ble_eq_true rfl⟩ (fun u h => h) rfl hl.1 rfl (Nat.le_of_ble_eq_true rfl) ⟨Nat.le_refl _, Nat.le_refl _⟩ dX11_isCourse_10 (fun o2 H locs hf w => ?_)
  obtain ⟨hz, hf⟩ := ns_zb_some hf
  have he := Option.some.inj hf
  subst he
  exact ns_zret C w hr hlk rfl hz rfl dX11_isCourse_13
theorem lX11_rank_54 : Cond.fieldLink RX11 54 (TX11 16).1 (TX11 16).2.1 (TX11 16).2.2.1 ∈ wsX11_rank := List.mem_of_getElem? (i := 1) rfl
theorem lX11_rank_57 : Cond.fieldLink RX11 57 (TX11 17).1 (TX11 17).2.1 (TX11 17).2.2.1 ∈ wsX11_rank := List.mem_of_getElem? (i := 2) rfl
theorem inX11_rank_11 : ∀ w ∈ u_ws RX11 TX11 59, w ∈ wsX11_rank := fun _ h => List.mem_cons_of_mem _ (List.mem_append_right _ h)
theorem hdX11_rank : yX11_rank.cls = RX11 ∧ yX11_rank.cls ≠ "java/lang/invoke/MethodHandle" ∧ yX11_rank.cls ≠ "java/lang/invoke/VarHandle" ∧ (parseMethodDescriptor yX11_rank.desc).map (fun d => d.parameters.length) = some 2 := by decide +kernel
abbrev wrX11_rank_62 : List (Nat × Nat) := []
abbrev rmX11_rank_62 : Room := { frames := 0, cells := 0, slots := 0, locals := 0 }
set_option maxHeartbeats 4000000 in
set_option maxRecDepth 100000 in
theorem wX11_rank_62_2 {p : Program} {l : Launch} {e : Env} {s : State} {m : MethodId} {args : Array Value} {below : List Frame} {meth : Method} {c : Code} {D : va_G} {b : Nat → Nat} {ids : List Nat} {A : Nat → Prop} {S0 : ns_S} {o : Int32} (N : Nat) (hI : ∀ i, i < 107 → i ∈ ids) (C : ns_C p m c cX11_rank 4 s args wsX11_rank RX11 D A) (hr : meth.sig.returnType = some .int) (hlk : meth.locks = false) : ∀ n : Nat, ∀ {S : ns_S} {H : Heap} {locs : List Loc} {ls : Array Slot} {l1 : Int32} {l2 : Int32} {l3 : Int32}, ns_W D b ids A s.heap wrX11_rank_62 S0 S H locs → lv_has ls 4 [(0, .ref (b 62)), (1, .int l1), (2, .int l2), (3, .int l3)] → fX11_rank_2 N n (S.2.1 77) (S.2.1 78) l1 l2 l3 = some o → W p l e rmX11_rank_62 s m args below meth c H locs 0 0 (MQ below (ns_Q D b ids S0 (some (.int o)) A) args s 0 0 A) (F0 m 2 ls []) := by
  intro n
  induction n with
  | zero =>
    intro S H locs ls l1 l2 l3 w hl hf
    cases hf
  | succ n K2 =>
    intro S H locs ls l1 l2 l3 w hl hf
    change gX11_rank_2 N (fX11_rank_2 N n) (S.2.1 77) (S.2.1 78) l1 l2 l3 = some o at hf
    generalize fX11_rank_2 N n = r2 at hf K2
    unfold gX11_rank_2 at hf
    refine lv_iload_n C.1.1 C.1.2.1 dX11_rank_2 rfl (lv_at hl 3 rfl) ?_
    refine lv_aload_n C.1.1 C.1.2.1 dX11_rank_3 rfl (lv_at hl 0 rfl) ?_
    refine ns_getr C w 62 (hI 62 (by decide)) sh_62 (rfl : vwCl[11]? = some (RX11, TX11, 59)) inX11_rank_11 16 (by decide) rfl lX11_rank_54 dX11_rank_4 ?_
    refine lv_iload_n C.1.1 C.1.2.1 dX11_rank_7 rfl (lv_at hl 1 rfl) ?_
    refine ns_iald C w 77 (hI 77 (by decide)) sh_77 hf rfl dX11_rank_8 (fun x1 hf => ?_)
    refine ns_icmp_ge C hf (tgt := 35) dX11_rank_9 (by decide) (fun hf => ?_) (fun hf => ?_)
    · refine lv_iconst (v := (-1)) C.1.1 C.1.2.1 dX11_rank_35 (by decide) ?_
      have he := Option.some.inj hf
      subst he
      exact ns_iret C w hr hlk rfl rfl dX11_rank_36
    · refine lv_aload_n C.1.1 C.1.2.1 dX11_rank_12 rfl (lv_at hl 0 rfl) ?_
      refine ns_getr C w 62 (hI 62 (by decide)) sh_62 (rfl : vwCl[11]? = some (RX11, TX11, 59)) inX11_rank_11 17 (by decide) rfl lX11_rank_57 dX11_rank_13 ?_
      refine lv_bipush (v := 6) C.1.1 C.1.2.1 dX11_rank_16 (by decide) ?_
      refine lv_iload_n C.1.1 C.1.2.1 dX11_rank_18 rfl (lv_at hl 1 rfl) ?_
      refine lv_imul C.1.1 C.1.2.1 dX11_rank_19 ?_
      refine lv_iload_n C.1.1 C.1.2.1 dX11_rank_20 rfl (lv_at hl 3 rfl) ?_
      refine lv_iadd C.1.1 C.1.2.1 dX11_rank_21 ?_
      refine ns_iald C w 78 (hI 78 (by decide)) sh_78 hf rfl dX11_rank_22 (fun x2 hf => ?_)
      refine lv_iload_n C.1.1 C.1.2.1 dX11_rank_23 rfl (lv_at hl 2 rfl) ?_
      refine ns_icmp_ne C hf (tgt := 29) dX11_rank_24 (by decide) (fun hf => ?_) (fun hf => ?_)
      · refine ns_iinc (lv' := fun x3 => [(3, .int x3), (0, .ref (b 62)), (1, .int l1), (2, .int l2)]) C hf dX11_rank_29 hl (k := 3) rfl rfl (by decide) (fun _ => rfl) (fun x3 ls hl hf => ?_)
        refine lv_goto (tgt := 2) C.1.1 C.1.2.1 dX11_rank_32 (by decide) ?_
        exact K2 w (lv_sub hl [1, 2, 3, 0] rfl) hf
      · refine lv_iload_n C.1.1 C.1.2.1 dX11_rank_27 rfl (lv_at hl 3 rfl) ?_
        have he := Option.some.inj hf
        subst he
        exact ns_iret C w hr hlk rfl rfl dX11_rank_28
set_option maxHeartbeats 4000000 in
set_option maxRecDepth 100000 in
theorem mX11_rank_62 (l : Launch) (D : va_G) (b : Nat → Nat) (ids : List Nat) (hI : ∀ i, i < 107 → i ∈ ids) (N : Nat) (S : ns_S) (p1 : Int32) (p2 : Int32) {o : Int32} (hf : fX11_rank N (S.2.1 77) (S.2.1 78) p1 p2 = some o) : ns_M l yX11_rank wsX11_rank rmX11_rank_62 D b ids S [.ref (b 62), .int p1, .int p2] (some (.int o)) S := by
  refine ns_start (Wr := wrX11_rank_62) (by decide) rfl (Nat.le_of_ble_eq_true rfl) ?_
  intro p e s m below meth c A ls C hr hlk w hl
  have hl : lv_has ls 4 [(0, .ref (b 62)), (1, .int p1), (2, .int p2)] := hl
  unfold fX11_rank at hf
  refine lv_iconst (v := 0) C.1.1 C.1.2.1 dX11_rank_0 (by decide) ?_
  refine lv_istore_n (lv' := [(3, .int 0), (0, .ref (b 62)), (1, .int p1), (2, .int p2)]) C.1.1 C.1.2.1 dX11_rank_1 rfl hl (by decide) rfl (fun ls hl => ?_)
  exact wX11_rank_62_2 N hI C hr hlk N w (lv_sub hl [1, 2, 3, 0] rfl) hf
theorem lX11_on_24 : Cond.fieldLink RX11 24 (TX11 6).1 (TX11 6).2.1 (TX11 6).2.2.1 ∈ wsX11_on := List.mem_of_getElem? (i := 1) rfl
theorem lX11_on_27 : Cond.fieldLink RX11 27 (TX11 7).1 (TX11 7).2.1 (TX11 7).2.2.1 ∈ wsX11_on := List.mem_of_getElem? (i := 3) rfl
theorem lX11_on_75 : Cond.fieldLink RX11 75 (TX11 23).1 (TX11 23).2.1 (TX11 23).2.2.1 ∈ wsX11_on := List.mem_of_getElem? (i := 2) rfl
theorem inX11_on_11 : ∀ w ∈ u_ws RX11 TX11 59, w ∈ wsX11_on := fun _ h => List.mem_cons_of_mem _ (List.mem_append_right _ h)
theorem hdX11_on : yX11_on.cls = RX11 ∧ yX11_on.cls ≠ "java/lang/invoke/MethodHandle" ∧ yX11_on.cls ≠ "java/lang/invoke/VarHandle" ∧ (parseMethodDescriptor yX11_on.desc).map (fun d => d.parameters.length) = some 2 := by decide +kernel
abbrev wrX11_on_62 : List (Nat × Nat) := []
abbrev rmX11_on_62 : Room := { frames := 0, cells := 0, slots := 0, locals := 0 }
set_option maxHeartbeats 4000000 in
set_option maxRecDepth 100000 in
theorem wX11_on_62_2 {p : Program} {l : Launch} {e : Env} {s : State} {m : MethodId} {args : Array Value} {below : List Frame} {meth : Method} {c : Code} {D : va_G} {b : Nat → Nat} {ids : List Nat} {A : Nat → Prop} {S0 : ns_S} {o : Int32} (N : Nat) (hI : ∀ i, i < 107 → i ∈ ids) (C : ns_C p m c cX11_on 4 s args wsX11_on RX11 D A) (hr : meth.sig.returnType = some .int) (hlk : meth.locks = false) : ∀ n : Nat, ∀ {S : ns_S} {H : Heap} {locs : List Loc} {ls : Array Slot} {l1 : Int32} {l2 : Int32} {l3 : Int32}, ns_W D b ids A s.heap wrX11_on_62 S0 S H locs → lv_has ls 4 [(0, .ref (b 62)), (1, .int l1), (2, .int l2), (3, .int l3)] → fX11_on_2 N n (S.2.1 67) (S.2.1 84) (S.2.1 68) l1 l2 l3 = some o → W p l e rmX11_on_62 s m args below meth c H locs 0 0 (MQ below (ns_Q D b ids S0 (some (.int o)) A) args s 0 0 A) (F0 m 2 ls []) := by
  intro n
  induction n with
  | zero =>
    intro S H locs ls l1 l2 l3 w hl hf
    cases hf
  | succ n K2 =>
    intro S H locs ls l1 l2 l3 w hl hf
    change gX11_on_2 N (fX11_on_2 N n) (S.2.1 67) (S.2.1 84) (S.2.1 68) l1 l2 l3 = some o at hf
    generalize fX11_on_2 N n = r2 at hf K2
    unfold gX11_on_2 at hf
    refine lv_iload_n C.1.1 C.1.2.1 dX11_on_2 rfl (lv_at hl 3 rfl) ?_
    refine lv_aload_n C.1.1 C.1.2.1 dX11_on_3 rfl (lv_at hl 0 rfl) ?_
    refine ns_getr C w 62 (hI 62 (by decide)) sh_62 (rfl : vwCl[11]? = some (RX11, TX11, 59)) inX11_on_11 6 (by decide) rfl lX11_on_24 dX11_on_4 ?_
    refine lv_iconst (v := 0) C.1.1 C.1.2.1 dX11_on_7 (by decide) ?_
    refine ns_iald C w 67 (hI 67 (by decide)) sh_67 hf rfl dX11_on_8 (fun x1 hf => ?_)
    refine ns_icmp_ge C hf (tgt := 43) dX11_on_9 (by decide) (fun hf => ?_) (fun hf => ?_)
    · refine lv_iconst (v := (-1)) C.1.1 C.1.2.1 dX11_on_43 (by decide) ?_
      have he := Option.some.inj hf
      subst he
      exact ns_iret C w hr hlk rfl rfl dX11_on_44
    · refine lv_aload_n C.1.1 C.1.2.1 dX11_on_12 rfl (lv_at hl 0 rfl) ?_
      refine ns_getr C w 62 (hI 62 (by decide)) sh_62 (rfl : vwCl[11]? = some (RX11, TX11, 59)) inX11_on_11 23 (by decide) rfl lX11_on_75 dX11_on_13 ?_
      refine lv_iload_n C.1.1 C.1.2.1 dX11_on_16 rfl (lv_at hl 1 rfl) ?_
      refine ns_iald C w 84 (hI 84 (by decide)) sh_84 hf rfl dX11_on_17 (fun x2 hf => ?_)
      refine lv_iload_n C.1.1 C.1.2.1 dX11_on_18 rfl (lv_at hl 3 rfl) ?_
      refine lv_ishr C.1.1 C.1.2.1 dX11_on_19 ?_
      refine lv_iconst (v := 1) C.1.1 C.1.2.1 dX11_on_20 (by decide) ?_
      refine lv_iand C.1.1 C.1.2.1 dX11_on_21 ?_
      refine ns_if_eq C hf (tgt := 37) dX11_on_22 (by decide) (fun hf => ?_) (fun hf => ?_)
      · refine ns_iinc (lv' := fun x3 => [(3, .int x3), (0, .ref (b 62)), (1, .int l1), (2, .int l2)]) C hf dX11_on_37 hl (k := 3) rfl rfl (by decide) (fun _ => rfl) (fun x3 ls hl hf => ?_)
        refine lv_goto (tgt := 2) C.1.1 C.1.2.1 dX11_on_40 (by decide) ?_
        exact K2 w (lv_sub hl [1, 2, 3, 0] rfl) hf
      · refine lv_aload_n C.1.1 C.1.2.1 dX11_on_25 rfl (lv_at hl 0 rfl) ?_
        refine ns_getr C w 62 (hI 62 (by decide)) sh_62 (rfl : vwCl[11]? = some (RX11, TX11, 59)) inX11_on_11 7 (by decide) rfl lX11_on_27 dX11_on_26 ?_
        refine lv_iload_n C.1.1 C.1.2.1 dX11_on_29 rfl (lv_at hl 3 rfl) ?_
        refine ns_iald C w 68 (hI 68 (by decide)) sh_68 hf rfl dX11_on_30 (fun x4 hf => ?_)
        refine lv_iload_n C.1.1 C.1.2.1 dX11_on_31 rfl (lv_at hl 2 rfl) ?_
        refine ns_icmp_ne C hf (tgt := 37) dX11_on_32 (by decide) (fun hf => ?_) (fun hf => ?_)
        · refine ns_iinc (lv' := fun x5 => [(3, .int x5), (0, .ref (b 62)), (1, .int l1), (2, .int l2)]) C hf dX11_on_37 hl (k := 3) rfl rfl (by decide) (fun _ => rfl) (fun x5 ls hl hf => ?_)
          refine lv_goto (tgt := 2) C.1.1 C.1.2.1 dX11_on_40 (by decide) ?_
          exact K2 w (lv_sub hl [1, 2, 3, 0] rfl) hf
        · refine lv_iload_n C.1.1 C.1.2.1 dX11_on_35 rfl (lv_at hl 3 rfl) ?_
          have he := Option.some.inj hf
          subst he
          exact ns_iret C w hr hlk rfl rfl dX11_on_36
set_option maxHeartbeats 4000000 in
set_option maxRecDepth 100000 in
theorem mX11_on_62 (l : Launch) (D : va_G) (b : Nat → Nat) (ids : List Nat) (hI : ∀ i, i < 107 → i ∈ ids) (N : Nat) (S : ns_S) (p1 : Int32) (p2 : Int32) {o : Int32} (hf : fX11_on N (S.2.1 67) (S.2.1 84) (S.2.1 68) p1 p2 = some o) : ns_M l yX11_on wsX11_on rmX11_on_62 D b ids S [.ref (b 62), .int p1, .int p2] (some (.int o)) S := by
  refine ns_start (Wr := wrX11_on_62) (by decide) rfl (Nat.le_of_ble_eq_true rfl) ?_
  intro p e s m below meth c A ls C hr hlk w hl
  have hl : lv_has ls 4 [(0, .ref (b 62)), (1, .int p1), (2, .int p2)] := hl
  unfold fX11_on at hf
  refine lv_iconst (v := 0) C.1.1 C.1.2.1 dX11_on_0 (by decide) ?_
  refine lv_istore_n (lv' := [(3, .int 0), (0, .ref (b 62)), (1, .int p1), (2, .int p2)]) C.1.1 C.1.2.1 dX11_on_1 rfl hl (by decide) rfl (fun ls hl => ?_)
  exact wX11_on_62_2 N hI C hr hlk N w (lv_sub hl [1, 2, 3, 0] rfl) hf
theorem hdX11_ones : yX11_ones.cls ≠ "java/lang/invoke/MethodHandle" ∧ yX11_ones.cls ≠ "java/lang/invoke/VarHandle" ∧ (parseMethodDescriptor yX11_ones.desc).map (fun d => d.parameters.length) = some 1 := by decide +kernel
abbrev wrX11_ones : List (Nat × Nat) := []
abbrev rmX11_ones : Room := { frames := 0, cells := 0, slots := 0, locals := 0 }
set_option maxHeartbeats 4000000 in
set_option maxRecDepth 100000 in
theorem wX11_ones_4 {p : Program} {l : Launch} {e : Env} {s : State} {m : MethodId} {args : Array Value} {below : List Frame} {meth : Method} {c : Code} {D : va_G} {b : Nat → Nat} {ids : List Nat} {A : Nat → Prop} {S0 : ns_S} {o : Int32} (N : Nat) (hI : ∀ i, i < 107 → i ∈ ids) (C : ns_C p m c cX11_ones 3 s args wsX11_ones RX11 D A) (hr : meth.sig.returnType = some .int) (hlk : meth.locks = false) : ∀ n : Nat, ∀ {S : ns_S} {H : Heap} {locs : List Loc} {ls : Array Slot} {l1 : Int32} {l2 : Int32}, ns_W D b ids A s.heap wrX11_ones S0 S H locs → lv_has ls 3 [(1, .int l1), (2, .int l2)] → fX11_ones_4 N n l1 l2 = some o → W p l e rmX11_ones s m args below meth c H locs 0 0 (MQ below (ns_Q D b ids S0 (some (.int o)) A) args s 0 0 A) (F0 m 4 ls []) := by
  intro n
  induction n with
  | zero =>
    intro S H locs ls l1 l2 w hl hf
    cases hf
  | succ n K4 =>
    intro S H locs ls l1 l2 w hl hf
    change gX11_ones_4 N (fX11_ones_4 N n) l1 l2 = some o at hf
    generalize fX11_ones_4 N n = r4 at hf K4
    unfold gX11_ones_4 at hf
    refine lv_iload_n C.1.1 C.1.2.1 dX11_ones_4 rfl (lv_at hl 1 rfl) ?_
    refine ns_if_eq C hf (tgt := 20) dX11_ones_5 (by decide) (fun hf => ?_) (fun hf => ?_)
    · refine lv_iload_n C.1.1 C.1.2.1 dX11_ones_20 rfl (lv_at hl 0 rfl) ?_
      have he := Option.some.inj hf
      subst he
      exact ns_iret C w hr hlk rfl rfl dX11_ones_21
    · refine ns_iinc (lv' := fun x1 => [(1, .int x1), (2, .int l2)]) C hf dX11_ones_8 hl (k := 0) rfl rfl (by decide) (fun _ => rfl) (fun x1 ls hl hf => ?_)
      refine lv_iload_n C.1.1 C.1.2.1 dX11_ones_11 rfl (lv_at hl 1 rfl) ?_
      refine lv_iload_n C.1.1 C.1.2.1 dX11_ones_12 rfl (lv_at hl 1 rfl) ?_
      refine lv_iconst (v := 1) C.1.1 C.1.2.1 dX11_ones_13 (by decide) ?_
      refine lv_isub C.1.1 C.1.2.1 dX11_ones_14 ?_
      refine lv_iand C.1.1 C.1.2.1 dX11_ones_15 ?_
      refine ns_namei hf (fun x2 hf => ?_)
      refine lv_istore_n (lv' := [(2, .int x2), (1, .int x1)]) C.1.1 C.1.2.1 dX11_ones_16 rfl hl (by decide) rfl (fun ls hl => ?_)
      refine lv_goto (tgt := 4) C.1.1 C.1.2.1 dX11_ones_17 (by decide) ?_
      exact K4 w (lv_sub hl [1, 0] rfl) hf
set_option maxHeartbeats 4000000 in
set_option maxRecDepth 100000 in
theorem mX11_ones (l : Launch) (D : va_G) (b : Nat → Nat) (ids : List Nat) (hI : ∀ i, i < 107 → i ∈ ids) (N : Nat) (S : ns_S) (p0 : Int32) {o : Int32} (hf : fX11_ones N p0 = some o) : ns_M l yX11_ones wsX11_ones rmX11_ones D b ids S [.int p0] (some (.int o)) S := by
  refine ns_start (Wr := wrX11_ones) (by decide) rfl (Nat.le_of_ble_eq_true rfl) ?_
  intro p e s m below meth c A ls C hr hlk w hl
  have hl : lv_has ls 3 [(0, .int p0)] := hl
  unfold fX11_ones at hf
  refine lv_iconst (v := 0) C.1.1 C.1.2.1 dX11_ones_0 (by decide) ?_
  refine lv_istore_n (lv' := [(1, .int 0), (0, .int p0)]) C.1.1 C.1.2.1 dX11_ones_1 rfl hl (by decide) rfl (fun ls hl => ?_)
  refine lv_iload_n C.1.1 C.1.2.1 dX11_ones_2 rfl (lv_at hl 1 rfl) ?_
  refine lv_istore_n (lv' := [(2, .int p0), (1, .int 0), (0, .int p0)]) C.1.1 C.1.2.1 dX11_ones_3 rfl hl (by decide) rfl (fun ls hl => ?_)
  exact wX11_ones_4 N hI C hr hlk N w (lv_sub hl [1, 0] rfl) hf
theorem lX11_hasNow_42 : Cond.fieldLink RX11 42 (TX11 12).1 (TX11 12).2.1 (TX11 12).2.2.1 ∈ wsX11_hasNow := List.mem_of_getElem? (i := 1) rfl
theorem lX11_hasNow_75 : Cond.fieldLink RX11 75 (TX11 23).1 (TX11 23).2.1 (TX11 23).2.2.1 ∈ wsX11_hasNow := List.mem_of_getElem? (i := 2) rfl
theorem inX11_hasNow_11 : ∀ w ∈ u_ws RX11 TX11 59, w ∈ wsX11_hasNow := fun _ h => List.mem_cons_of_mem _ (List.mem_append_right _ h)
theorem hdX11_hasNow : yX11_hasNow.cls = RX11 ∧ yX11_hasNow.cls ≠ "java/lang/invoke/MethodHandle" ∧ yX11_hasNow.cls ≠ "java/lang/invoke/VarHandle" ∧ (parseMethodDescriptor yX11_hasNow.desc).map (fun d => d.parameters.length) = some 1 := by decide +kernel
abbrev wrX11_hasNow_62 : List (Nat × Nat) := []
abbrev rmX11_hasNow_62 : Room := { frames := 0, cells := 0, slots := 0, locals := 0 }
set_option maxHeartbeats 4000000 in
set_option maxRecDepth 100000 in
theorem wX11_hasNow_62_4 {p : Program} {l : Launch} {e : Env} {s : State} {m : MethodId} {args : Array Value} {below : List Frame} {meth : Method} {c : Code} {D : va_G} {b : Nat → Nat} {ids : List Nat} {A : Nat → Prop} {S0 : ns_S} {o : Int32} (N : Nat) (hI : ∀ i, i < 107 → i ∈ ids) (C : ns_C p m c cX11_hasNow 4 s args wsX11_hasNow RX11 D A) (hr : meth.sig.returnType = some .int) (hlk : meth.locks = false) : ∀ n : Nat, ∀ {S : ns_S} {H : Heap} {locs : List Loc} {ls : Array Slot} {l1 : Int32} {l2 : Int32} {l3 : Int32}, ns_W D b ids A s.heap wrX11_hasNow_62 S0 S H locs → lv_has ls 4 [(0, .ref (b 62)), (1, .int l1), (2, .int l2), (3, .int l3)] → fX11_hasNow_4 N n (S.2.1 73) (S.2.1 84) l1 l2 l3 = some o → W p l e rmX11_hasNow_62 s m args below meth c H locs 0 0 (MQ below (ns_Q D b ids S0 (some (.int o)) A) args s 0 0 A) (F0 m 4 ls []) := by
  intro n
  induction n with
  | zero =>
    intro S H locs ls l1 l2 l3 w hl hf
    cases hf
  | succ n K4 =>
    intro S H locs ls l1 l2 l3 w hl hf
    change gX11_hasNow_4 N (fX11_hasNow_4 N n) (S.2.1 73) (S.2.1 84) l1 l2 l3 = some o at hf
    generalize fX11_hasNow_4 N n = r4 at hf K4
    unfold gX11_hasNow_4 at hf
    refine lv_iload_n C.1.1 C.1.2.1 dX11_hasNow_4 rfl (lv_at hl 3 rfl) ?_
    refine lv_aload_n C.1.1 C.1.2.1 dX11_hasNow_5 rfl (lv_at hl 0 rfl) ?_
    refine ns_getr C w 62 (hI 62 (by decide)) sh_62 (rfl : vwCl[11]? = some (RX11, TX11, 59)) inX11_hasNow_11 12 (by decide) rfl lX11_hasNow_42 dX11_hasNow_6 ?_
    refine lv_iconst (v := 0) C.1.1 C.1.2.1 dX11_hasNow_9 (by decide) ?_
    refine ns_iald C w 73 (hI 73 (by decide)) sh_73 hf rfl dX11_hasNow_10 (fun x1 hf => ?_)
    refine ns_icmp_ge C hf (tgt := 33) dX11_hasNow_11 (by decide) (fun hf => ?_) (fun hf => ?_)
    · refine lv_iload_n C.1.1 C.1.2.1 dX11_hasNow_33 rfl (lv_at hl 2 rfl) ?_
      have he := Option.some.inj hf
      subst he
      exact ns_iret C w hr hlk rfl rfl dX11_hasNow_34
    · refine lv_iload_n C.1.1 C.1.2.1 dX11_hasNow_14 rfl (lv_at hl 2 rfl) ?_
      refine lv_aload_n C.1.1 C.1.2.1 dX11_hasNow_15 rfl (lv_at hl 0 rfl) ?_
      refine ns_getr C w 62 (hI 62 (by decide)) sh_62 (rfl : vwCl[11]? = some (RX11, TX11, 59)) inX11_hasNow_11 23 (by decide) rfl lX11_hasNow_75 dX11_hasNow_16 ?_
      refine lv_iload_n C.1.1 C.1.2.1 dX11_hasNow_19 rfl (lv_at hl 3 rfl) ?_
      refine ns_iald C w 84 (hI 84 (by decide)) sh_84 hf rfl dX11_hasNow_20 (fun x2 hf => ?_)
      refine lv_iload_n C.1.1 C.1.2.1 dX11_hasNow_21 rfl (lv_at hl 1 rfl) ?_
      refine lv_ishr C.1.1 C.1.2.1 dX11_hasNow_22 ?_
      refine lv_iconst (v := 1) C.1.1 C.1.2.1 dX11_hasNow_23 (by decide) ?_
      refine lv_iand C.1.1 C.1.2.1 dX11_hasNow_24 ?_
      refine lv_iadd C.1.1 C.1.2.1 dX11_hasNow_25 ?_
      refine ns_namei hf (fun x3 hf => ?_)
      refine lv_istore_n (lv' := [(2, .int x3), (0, .ref (b 62)), (1, .int l1), (3, .int l3)]) C.1.1 C.1.2.1 dX11_hasNow_26 rfl hl (by decide) rfl (fun ls hl => ?_)
      refine ns_iinc (lv' := fun x4 => [(3, .int x4), (2, .int x3), (0, .ref (b 62)), (1, .int l1)]) C hf dX11_hasNow_27 hl (k := 3) rfl rfl (by decide) (fun _ => rfl) (fun x4 ls hl hf => ?_)
      refine lv_goto (tgt := 4) C.1.1 C.1.2.1 dX11_hasNow_30 (by decide) ?_
      exact K4 w (lv_sub hl [2, 3, 1, 0] rfl) hf
set_option maxHeartbeats 4000000 in
set_option maxRecDepth 100000 in
theorem mX11_hasNow_62 (l : Launch) (D : va_G) (b : Nat → Nat) (ids : List Nat) (hI : ∀ i, i < 107 → i ∈ ids) (N : Nat) (S : ns_S) (p1 : Int32) {o : Int32} (hf : fX11_hasNow N (S.2.1 73) (S.2.1 84) p1 = some o) : ns_M l yX11_hasNow wsX11_hasNow rmX11_hasNow_62 D b ids S [.ref (b 62), .int p1] (some (.int o)) S := by
  refine ns_start (Wr := wrX11_hasNow_62) (by decide) rfl (Nat.le_of_ble_eq_true rfl) ?_
  intro p e s m below meth c A ls C hr hlk w hl
  have hl : lv_has ls 4 [(0, .ref (b 62)), (1, .int p1)] := hl
  unfold fX11_hasNow at hf
  refine lv_iconst (v := 0) C.1.1 C.1.2.1 dX11_hasNow_0 (by decide) ?_
  refine lv_istore_n (lv' := [(2, .int 0), (0, .ref (b 62)), (1, .int p1)]) C.1.1 C.1.2.1 dX11_hasNow_1 rfl hl (by decide) rfl (fun ls hl => ?_)
  refine lv_iconst (v := 0) C.1.1 C.1.2.1 dX11_hasNow_2 (by decide) ?_
  refine lv_istore_n (lv' := [(3, .int 0), (2, .int 0), (0, .ref (b 62)), (1, .int p1)]) C.1.1 C.1.2.1 dX11_hasNow_3 rfl hl (by decide) rfl (fun ls hl => ?_)
  exact wX11_hasNow_62_4 N hI C hr hlk N w (lv_sub hl [2, 3, 1, 0] rfl) hf
theorem lX11_reason_27 : Cond.fieldLink RX11 27 (TX11 7).1 (TX11 7).2.1 (TX11 7).2.2.1 ∈ wsX11_reason := List.mem_of_getElem? (i := 3) rfl
theorem lX11_reason_51 : Cond.fieldLink RX11 51 (TX11 15).1 (TX11 15).2.1 (TX11 15).2.2.1 ∈ wsX11_reason := List.mem_of_getElem? (i := 4) rfl
theorem lX11_reason_63 : Cond.fieldLink RX11 63 (TX11 19).1 (TX11 19).2.1 (TX11 19).2.2.1 ∈ wsX11_reason := List.mem_of_getElem? (i := 2) rfl
theorem lX11_reason_69 : Cond.fieldLink RX11 69 (TX11 21).1 (TX11 21).2.1 (TX11 21).2.2.1 ∈ wsX11_reason := List.mem_of_getElem? (i := 5) rfl
theorem lX11_reason_75 : Cond.fieldLink RX11 75 (TX11 23).1 (TX11 23).2.1 (TX11 23).2.2.1 ∈ wsX11_reason := List.mem_of_getElem? (i := 1) rfl
theorem inX11_reason_11 : ∀ w ∈ u_ws RX11 TX11 59, w ∈ wsX11_reason := fun _ h => List.mem_cons_of_mem _ (List.mem_append_right _ h)
theorem hdX11_reason : yX11_reason.cls = RX11 ∧ yX11_reason.cls ≠ "java/lang/invoke/MethodHandle" ∧ yX11_reason.cls ≠ "java/lang/invoke/VarHandle" ∧ (parseMethodDescriptor yX11_reason.desc).map (fun d => d.parameters.length) = some 2 := by decide +kernel
abbrev wrX11_reason_62 : List (Nat × Nat) := []
abbrev rmX11_reason_62 : Room := { frames := 1, cells := 0, slots := 0, locals := 23 }
set_option maxHeartbeats 4000000 in
set_option maxRecDepth 100000 in
theorem wX11_reason_62_101 {p : Program} {l : Launch} {e : Env} {s : State} {m : MethodId} {args : Array Value} {below : List Frame} {meth : Method} {c : Code} {D : va_G} {b : Nat → Nat} {ids : List Nat} {A : Nat → Prop} {S0 : ns_S} {o : Int32} (N : Nat) (hI : ∀ i, i < 107 → i ∈ ids) (C : ns_C p m c cX11_reason 4 s args wsX11_reason RX11 D A) (hr : meth.sig.returnType = some .int) (hlk : meth.locks = false) : ∀ {S : ns_S} {H : Heap} {locs : List Loc} {ls : Array Slot} {l2 : Int32}, ns_W D b ids A s.heap wrX11_reason_62 S0 S H locs → lv_has ls 4 [(0, .ref (b 62)), (2, .int l2)] → gX11_reason_101 N (S.2.1 84) (S.2.1 77) (S.2.1 78) (S.2.1 80) (S.2.1 68) (S.2.1 67) (S.2.1 76) (S.2.1 73) (S.2.1 82) l2 = some o → W p l e rmX11_reason_62 s m args below meth c H locs 0 0 (MQ below (ns_Q D b ids S0 (some (.int o)) A) args s 0 0 A) (F0 m 101 ls []) := by
  intro S H locs ls l2 w hl hf
  unfold gX11_reason_101 at hf
  refine lv_aload_n C.1.1 C.1.2.1 dX11_reason_101 rfl (lv_at hl 0 rfl) ?_
  refine lv_iload_n C.1.1 C.1.2.1 dX11_reason_102 rfl (lv_at hl 1 rfl) ?_
  refine ns_callV C w 62 (hI 62 (by decide)) sh_62 (rfl : vwCl[11]? = some (RX11, TX11, 59)) [.int l2] hf (fun u hu => mX11_hasNow_62 l D b ids hI N _ l2 hu) gX11_reason_X11_hasNow rfl rfl rfl hdX11_hasNow ⟨Nat.le_of_ble_eq_true rfl, Nat.le_of_ble_eq_true rfl⟩ (fun u h => h) rfl hl.1 rfl (Nat.le_of_ble_eq_true rfl) ⟨Nat.le_refl _, Nat.le_refl _⟩ dX11_reason_103 (fun o1 H locs hf w => ?_)
  refine lv_aload_n C.1.1 C.1.2.1 dX11_reason_106 rfl (lv_at hl 0 rfl) ?_
  refine ns_getr C w 62 (hI 62 (by decide)) sh_62 (rfl : vwCl[11]? = some (RX11, TX11, 59)) inX11_reason_11 21 (by decide) rfl lX11_reason_69 dX11_reason_107 ?_
  refine lv_iload_n C.1.1 C.1.2.1 dX11_reason_110 rfl (lv_at hl 1 rfl) ?_
  refine ns_iald C w 82 (hI 82 (by decide)) sh_82 hf rfl dX11_reason_111 (fun x2 hf => ?_)
  refine ns_icmp_lt C hf (tgt := 119) dX11_reason_112 (by decide) (fun hf => ?_) (fun hf => ?_)
  · refine lv_bipush (v := 6) C.1.1 C.1.2.1 dX11_reason_119 (by decide) ?_
    have he := Option.some.inj hf
    subst he
    exact ns_iret C w hr hlk rfl rfl dX11_reason_121
  · refine lv_iconst (v := 5) C.1.1 C.1.2.1 dX11_reason_115 (by decide) ?_
    refine lv_goto (tgt := 121) C.1.1 C.1.2.1 dX11_reason_116 (by decide) ?_
    have he := Option.some.inj hf
    subst he
    exact ns_iret C w hr hlk rfl rfl dX11_reason_121
set_option maxHeartbeats 4000000 in
set_option maxRecDepth 100000 in
theorem wX11_reason_62_76 {p : Program} {l : Launch} {e : Env} {s : State} {m : MethodId} {args : Array Value} {below : List Frame} {meth : Method} {c : Code} {D : va_G} {b : Nat → Nat} {ids : List Nat} {A : Nat → Prop} {S0 : ns_S} {o : Int32} (N : Nat) (hI : ∀ i, i < 107 → i ∈ ids) (C : ns_C p m c cX11_reason 4 s args wsX11_reason RX11 D A) (hr : meth.sig.returnType = some .int) (hlk : meth.locks = false) : ∀ {S : ns_S} {H : Heap} {locs : List Loc} {ls : Array Slot} {l1 : Int32} {l2 : Int32} {l3 : Int32}, ns_W D b ids A s.heap wrX11_reason_62 S0 S H locs → lv_has ls 4 [(0, .ref (b 62)), (1, .int l1), (2, .int l2), (3, .int l3)] → gX11_reason_76 N (S.2.1 84) (S.2.1 77) (S.2.1 78) (S.2.1 80) (S.2.1 68) (S.2.1 67) (S.2.1 76) (S.2.1 73) (S.2.1 82) l1 l2 l3 = some o → W p l e rmX11_reason_62 s m args below meth c H locs 0 0 (MQ below (ns_Q D b ids S0 (some (.int o)) A) args s 0 0 A) (F0 m 76 ls []) := by
  intro S H locs ls l1 l2 l3 w hl hf
  unfold gX11_reason_76 at hf
  refine lv_iload_n C.1.1 C.1.2.1 dX11_reason_76 rfl (lv_at hl 3 rfl) ?_
  refine lv_iconst (v := (-1)) C.1.1 C.1.2.1 dX11_reason_77 (by decide) ?_
  refine ns_icmp_ne C hf (tgt := 101) dX11_reason_78 (by decide) (fun hf => ?_) (fun hf => ?_)
  · exact wX11_reason_62_101 N hI C hr hlk w (lv_sub hl [0, 2] rfl) hf
  · refine lv_aload_n C.1.1 C.1.2.1 dX11_reason_81 rfl (lv_at hl 0 rfl) ?_
    refine ns_getr C w 62 (hI 62 (by decide)) sh_62 (rfl : vwCl[11]? = some (RX11, TX11, 59)) inX11_reason_11 23 (by decide) rfl lX11_reason_75 dX11_reason_82 ?_
    refine lv_iload_n C.1.1 C.1.2.1 dX11_reason_85 rfl (lv_at hl 1 rfl) ?_
    refine ns_iald C w 84 (hI 84 (by decide)) sh_84 hf rfl dX11_reason_86 (fun x1 hf => ?_)
    refine ns_callS C w [.int x1] hf (fun u hu => mX11_ones l D b ids hI N _ x1 hu) gX11_reason_X11_ones rfl rfl rfl hdX11_ones ⟨Nat.le_of_ble_eq_true rfl, Nat.le_of_ble_eq_true rfl⟩ (fun u h => h) rfl hl.1 rfl (Nat.le_of_ble_eq_true rfl) ⟨Nat.le_refl _, Nat.le_refl _⟩ dX11_reason_87 (fun o2 H locs hf w => ?_)
    refine lv_aload_n C.1.1 C.1.2.1 dX11_reason_90 rfl (lv_at hl 0 rfl) ?_
    refine ns_getr C w 62 (hI 62 (by decide)) sh_62 (rfl : vwCl[11]? = some (RX11, TX11, 59)) inX11_reason_11 15 (by decide) rfl lX11_reason_51 dX11_reason_91 ?_
    refine lv_iload_n C.1.1 C.1.2.1 dX11_reason_94 rfl (lv_at hl 1 rfl) ?_
    refine ns_iald C w 76 (hI 76 (by decide)) sh_76 hf rfl dX11_reason_95 (fun x3 hf => ?_)
    refine ns_icmp_lt C hf (tgt := 101) dX11_reason_96 (by decide) (fun hf => ?_) (fun hf => ?_)
    · exact wX11_reason_62_101 N hI C hr hlk w (lv_sub hl [0, 2] rfl) hf
    · refine lv_iconst (v := 4) C.1.1 C.1.2.1 dX11_reason_99 (by decide) ?_
      have he := Option.some.inj hf
      subst he
      exact ns_iret C w hr hlk rfl rfl dX11_reason_100
set_option maxHeartbeats 4000000 in
set_option maxRecDepth 100000 in
theorem mX11_reason_62 (l : Launch) (D : va_G) (b : Nat → Nat) (ids : List Nat) (hI : ∀ i, i < 107 → i ∈ ids) (N : Nat) (S : ns_S) (p1 : Int32) (p2 : Int32) {o : Int32} (hf : fX11_reason N (S.2.1 84) (S.2.1 77) (S.2.1 78) (S.2.1 80) (S.2.1 68) (S.2.1 67) (S.2.1 76) (S.2.1 73) (S.2.1 82) p1 p2 = some o) : ns_M l yX11_reason wsX11_reason rmX11_reason_62 D b ids S [.ref (b 62), .int p1, .int p2] (some (.int o)) S := by
  refine ns_start (Wr := wrX11_reason_62) (by decide) rfl (Nat.le_of_ble_eq_true rfl) ?_
  intro p e s m below meth c A ls C hr hlk w hl
  have hl : lv_has ls 4 [(0, .ref (b 62)), (1, .int p1), (2, .int p2)] := hl
  unfold fX11_reason at hf
  refine lv_aload_n C.1.1 C.1.2.1 dX11_reason_0 rfl (lv_at hl 0 rfl) ?_
  refine ns_getr C w 62 (hI 62 (by decide)) sh_62 (rfl : vwCl[11]? = some (RX11, TX11, 59)) inX11_reason_11 23 (by decide) rfl lX11_reason_75 dX11_reason_1 ?_
  refine lv_iload_n C.1.1 C.1.2.1 dX11_reason_4 rfl (lv_at hl 1 rfl) ?_
  refine ns_iald C w 84 (hI 84 (by decide)) sh_84 hf rfl dX11_reason_5 (fun x1 hf => ?_)
  refine lv_iload_n C.1.1 C.1.2.1 dX11_reason_6 rfl (lv_at hl 2 rfl) ?_
  refine lv_ishr C.1.1 C.1.2.1 dX11_reason_7 ?_
  refine lv_iconst (v := 1) C.1.1 C.1.2.1 dX11_reason_8 (by decide) ?_
  refine lv_iand C.1.1 C.1.2.1 dX11_reason_9 ?_
  refine ns_if_eq C hf (tgt := 15) dX11_reason_10 (by decide) (fun hf => ?_) (fun hf => ?_)
  · refine lv_aload_n C.1.1 C.1.2.1 dX11_reason_15 rfl (lv_at hl 0 rfl) ?_
    refine lv_iload_n C.1.1 C.1.2.1 dX11_reason_16 rfl (lv_at hl 1 rfl) ?_
    refine lv_iload_n C.1.1 C.1.2.1 dX11_reason_17 rfl (lv_at hl 2 rfl) ?_
    refine ns_callV C w 62 (hI 62 (by decide)) sh_62 (rfl : vwCl[11]? = some (RX11, TX11, 59)) [.int p1, .int p2] hf (fun u hu => mX11_rank_62 l D b ids hI N _ p1 p2 hu) gX11_reason_X11_rank rfl rfl rfl hdX11_rank ⟨Nat.le_of_ble_eq_true rfl, Nat.le_of_ble_eq_true rfl⟩ (fun u h => h) rfl hl.1 rfl (Nat.le_of_ble_eq_true rfl) ⟨Nat.le_refl _, Nat.le_refl _⟩ dX11_reason_18 (fun o2 H locs hf w => ?_)
    refine lv_iconst (v := (-1)) C.1.1 C.1.2.1 dX11_reason_21 (by decide) ?_
    refine ns_icmp_ne C hf (tgt := 27) dX11_reason_22 (by decide) (fun hf => ?_) (fun hf => ?_)
    · refine lv_aload_n C.1.1 C.1.2.1 dX11_reason_27 rfl (lv_at hl 0 rfl) ?_
      refine ns_getr C w 62 (hI 62 (by decide)) sh_62 (rfl : vwCl[11]? = some (RX11, TX11, 59)) inX11_reason_11 19 (by decide) rfl lX11_reason_63 dX11_reason_28 ?_
      refine lv_iconst (v := 0) C.1.1 C.1.2.1 dX11_reason_31 (by decide) ?_
      refine ns_iald C w 80 (hI 80 (by decide)) sh_80 hf rfl dX11_reason_32 (fun x3 hf => ?_)
      refine lv_iload_n C.1.1 C.1.2.1 dX11_reason_33 rfl (lv_at hl 2 rfl) ?_
      refine lv_ishr C.1.1 C.1.2.1 dX11_reason_34 ?_
      refine lv_iconst (v := 1) C.1.1 C.1.2.1 dX11_reason_35 (by decide) ?_
      refine lv_iand C.1.1 C.1.2.1 dX11_reason_36 ?_
      refine ns_if_ne C hf (tgt := 42) dX11_reason_37 (by decide) (fun hf => ?_) (fun hf => ?_)
      · refine lv_aload_n C.1.1 C.1.2.1 dX11_reason_42 rfl (lv_at hl 0 rfl) ?_
        refine lv_iload_n C.1.1 C.1.2.1 dX11_reason_43 rfl (lv_at hl 1 rfl) ?_
        refine lv_aload_n C.1.1 C.1.2.1 dX11_reason_44 rfl (lv_at hl 0 rfl) ?_
        refine ns_getr C w 62 (hI 62 (by decide)) sh_62 (rfl : vwCl[11]? = some (RX11, TX11, 59)) inX11_reason_11 7 (by decide) rfl lX11_reason_27 dX11_reason_45 ?_
        refine lv_iload_n C.1.1 C.1.2.1 dX11_reason_48 rfl (lv_at hl 2 rfl) ?_
        refine ns_iald C w 68 (hI 68 (by decide)) sh_68 hf rfl dX11_reason_49 (fun x4 hf => ?_)
        refine ns_callV C w 62 (hI 62 (by decide)) sh_62 (rfl : vwCl[11]? = some (RX11, TX11, 59)) [.int p1, .int x4] hf (fun u hu => mX11_on_62 l D b ids hI N _ p1 x4 hu) gX11_reason_X11_on rfl rfl rfl hdX11_on ⟨Nat.le_of_ble_eq_true rfl, Nat.le_of_ble_eq_true rfl⟩ (fun u h => h) rfl hl.1 rfl (Nat.le_of_ble_eq_true rfl) ⟨Nat.le_refl _, Nat.le_refl _⟩ dX11_reason_50 (fun o5 H locs hf w => ?_)
        refine lv_istore_n (lv' := [(3, .int o5), (0, .ref (b 62)), (1, .int p1), (2, .int p2)]) C.1.1 C.1.2.1 dX11_reason_53 rfl hl (by decide) rfl (fun ls hl => ?_)
        refine lv_iload_n C.1.1 C.1.2.1 dX11_reason_54 rfl (lv_at hl 0 rfl) ?_
        refine lv_iconst (v := (-1)) C.1.1 C.1.2.1 dX11_reason_55 (by decide) ?_
        refine ns_icmp_eq C hf (tgt := 76) dX11_reason_56 (by decide) (fun hf => ?_) (fun hf => ?_)
        · exact wX11_reason_62_76 N hI C hr hlk w (lv_sub hl [1, 2, 3, 0] rfl) hf
        · refine lv_aload_n C.1.1 C.1.2.1 dX11_reason_59 rfl (lv_at hl 1 rfl) ?_
          refine lv_iload_n C.1.1 C.1.2.1 dX11_reason_60 rfl (lv_at hl 2 rfl) ?_
          refine lv_iload_n C.1.1 C.1.2.1 dX11_reason_61 rfl (lv_at hl 0 rfl) ?_
          refine ns_callV C w 62 (hI 62 (by decide)) sh_62 (rfl : vwCl[11]? = some (RX11, TX11, 59)) [.int p1, .int o5] hf (fun u hu => mX11_rank_62 l D b ids hI N _ p1 o5 hu) gX11_reason_X11_rank rfl rfl rfl hdX11_rank ⟨Nat.le_of_ble_eq_true rfl, Nat.le_of_ble_eq_true rfl⟩ (fun u h => h) rfl hl.1 rfl (Nat.le_of_ble_eq_true rfl) ⟨Nat.le_refl _, Nat.le_refl _⟩ dX11_reason_62 (fun o6 H locs hf w => ?_)
          refine lv_aload_n C.1.1 C.1.2.1 dX11_reason_65 rfl (lv_at hl 1 rfl) ?_
          refine lv_iload_n C.1.1 C.1.2.1 dX11_reason_66 rfl (lv_at hl 2 rfl) ?_
          refine lv_iload_n C.1.1 C.1.2.1 dX11_reason_67 rfl (lv_at hl 3 rfl) ?_
          refine ns_callV C w 62 (hI 62 (by decide)) sh_62 (rfl : vwCl[11]? = some (RX11, TX11, 59)) [.int p1, .int p2] hf (fun u hu => mX11_rank_62 l D b ids hI N _ p1 p2 hu) gX11_reason_X11_rank rfl rfl rfl hdX11_rank ⟨Nat.le_of_ble_eq_true rfl, Nat.le_of_ble_eq_true rfl⟩ (fun u h => h) rfl hl.1 rfl (Nat.le_of_ble_eq_true rfl) ⟨Nat.le_refl _, Nat.le_refl _⟩ dX11_reason_68 (fun o7 H locs hf w => ?_)
          refine ns_icmp_ge C hf (tgt := 76) dX11_reason_71 (by decide) (fun hf => ?_) (fun hf => ?_)
          · exact wX11_reason_62_76 N hI C hr hlk w (lv_sub hl [1, 2, 3, 0] rfl) hf
          · refine lv_iconst (v := 3) C.1.1 C.1.2.1 dX11_reason_74 (by decide) ?_
            have he := Option.some.inj hf
            subst he
            exact ns_iret C w hr hlk rfl rfl dX11_reason_75
      · refine lv_iconst (v := 2) C.1.1 C.1.2.1 dX11_reason_40 (by decide) ?_
        have he := Option.some.inj hf
        subst he
        exact ns_iret C w hr hlk rfl rfl dX11_reason_41
    · refine lv_iconst (v := 1) C.1.1 C.1.2.1 dX11_reason_25 (by decide) ?_
      have he := Option.some.inj hf
      subst he
      exact ns_iret C w hr hlk rfl rfl dX11_reason_26
  · refine lv_iconst (v := 0) C.1.1 C.1.2.1 dX11_reason_13 (by decide) ?_
    have he := Option.some.inj hf
    subst he
    exact ns_iret C w hr hlk rfl rfl dX11_reason_14
theorem lX11_oneMoves_27 : Cond.fieldLink RX11 27 (TX11 7).1 (TX11 7).2.1 (TX11 7).2.2.1 ∈ wsX11_oneMoves := List.mem_of_getElem? (i := 4) rfl
theorem lX11_oneMoves_42 : Cond.fieldLink RX11 42 (TX11 12).1 (TX11 12).2.1 (TX11 12).2.2.1 ∈ wsX11_oneMoves := List.mem_of_getElem? (i := 1) rfl
theorem lX11_oneMoves_54 : Cond.fieldLink RX11 54 (TX11 16).1 (TX11 16).2.1 (TX11 16).2.2.1 ∈ wsX11_oneMoves := List.mem_of_getElem? (i := 2) rfl
theorem lX11_oneMoves_57 : Cond.fieldLink RX11 57 (TX11 17).1 (TX11 17).2.1 (TX11 17).2.2.1 ∈ wsX11_oneMoves := List.mem_of_getElem? (i := 3) rfl
theorem lX11_oneMoves_75 : Cond.fieldLink RX11 75 (TX11 23).1 (TX11 23).2.1 (TX11 23).2.2.1 ∈ wsX11_oneMoves := List.mem_of_getElem? (i := 5) rfl
theorem lX11_oneMoves_78 : Cond.fieldLink RX11 78 (TX11 24).1 (TX11 24).2.1 (TX11 24).2.2.1 ∈ wsX11_oneMoves := List.mem_of_getElem? (i := 6) rfl
theorem inX11_oneMoves_11 : ∀ w ∈ u_ws RX11 TX11 59, w ∈ wsX11_oneMoves := fun _ h => List.mem_cons_of_mem _ (List.mem_append_right _ h)
theorem hdX11_oneMoves : yX11_oneMoves.cls = RX11 ∧ yX11_oneMoves.cls ≠ "java/lang/invoke/MethodHandle" ∧ yX11_oneMoves.cls ≠ "java/lang/invoke/VarHandle" ∧ (parseMethodDescriptor yX11_oneMoves.desc).map (fun d => d.parameters.length) = some 0 := by decide +kernel
abbrev wrX11_oneMoves_62 : List (Nat × Nat) := [(1, 84), (1, 85)]
abbrev rmX11_oneMoves_62 : Room := { frames := 2, cells := 0, slots := 0, locals := 46 }
set_option maxHeartbeats 4000000 in
set_option maxRecDepth 100000 in
theorem wX11_oneMoves_62_95 {p : Program} {l : Launch} {e : Env} {s : State} {m : MethodId} {args : Array Value} {below : List Frame} {meth : Method} {c : Code} {D : va_G} {b : Nat → Nat} {ids : List Nat} {A : Nat → Prop} {S0 : ns_S} {o : Int32 × (Nat → Int32) × (Nat → Int32)} (N : Nat) (hI : ∀ i, i < 107 → i ∈ ids) (C : ns_C p m c cX11_oneMoves 5 s args wsX11_oneMoves RX11 D A) (hr : meth.sig.returnType = some .boolean) (hlk : meth.locks = false) {r2 : (Nat → Int32) → (Nat → Int32) → (Nat → Int32) → (Nat → Int32) → (Nat → Int32) → (Nat → Int32) → (Nat → Int32) → (Nat → Int32) → (Nat → Int32) → (Nat → Int32) → Int32 → Option (Int32 × (Nat → Int32) × (Nat → Int32))} (K2 : ∀ {S : ns_S} {H : Heap} {locs : List Loc} {ls : Array Slot} {l1 : Int32}, ns_W D b ids A s.heap wrX11_oneMoves_62 S0 S H locs → lv_has ls 5 [(0, .ref (b 62)), (1, .int l1)] → r2 (S.2.1 73) (S.2.1 77) (S.2.1 78) (S.2.1 84) (S.2.1 80) (S.2.1 68) (S.2.1 67) (S.2.1 76) (S.2.1 82) (S.2.1 85) l1 = some o → W p l e rmX11_oneMoves_62 s m args below meth c H locs 0 0 (MQ below (ns_Q D b ids (ns_A (ns_A S0 85 o.2.2) 84 o.2.1) (some (.int o.1)) A) args s 0 0 A) (F0 m 2 ls [])) {r14 : (Nat → Int32) → (Nat → Int32) → (Nat → Int32) → (Nat → Int32) → (Nat → Int32) → (Nat → Int32) → (Nat → Int32) → (Nat → Int32) → (Nat → Int32) → (Nat → Int32) → Int32 → Int32 → Option (Int32 × (Nat → Int32) × (Nat → Int32))} (K14 : ∀ {S : ns_S} {H : Heap} {locs : List Loc} {ls : Array Slot} {l1 : Int32} {l2 : Int32}, ns_W D b ids A s.heap wrX11_oneMoves_62 S0 S H locs → lv_has ls 5 [(0, .ref (b 62)), (1, .int l1), (2, .int l2)] → r14 (S.2.1 73) (S.2.1 77) (S.2.1 78) (S.2.1 84) (S.2.1 80) (S.2.1 68) (S.2.1 67) (S.2.1 76) (S.2.1 82) (S.2.1 85) l1 l2 = some o → W p l e rmX11_oneMoves_62 s m args below meth c H locs 0 0 (MQ below (ns_Q D b ids (ns_A (ns_A S0 85 o.2.2) 84 o.2.1) (some (.int o.1)) A) args s 0 0 A) (F0 m 14 ls [])) : ∀ {S : ns_S} {H : Heap} {locs : List Loc} {ls : Array Slot} {l1 : Int32} {s1 : Int32} {s2 : Int32} {s3 : Int32}, ns_W D b ids A s.heap wrX11_oneMoves_62 S0 S H locs → lv_has ls 5 [(0, .ref (b 62)), (1, .int l1)] → gX11_oneMoves_95 N r2 r14 (S.2.1 73) (S.2.1 77) (S.2.1 78) (S.2.1 84) (S.2.1 80) (S.2.1 68) (S.2.1 67) (S.2.1 76) (S.2.1 82) (S.2.1 85) l1 s1 s2 s3 = some o → W p l e rmX11_oneMoves_62 s m args below meth c H locs 0 0 (MQ below (ns_Q D b ids (ns_A (ns_A S0 85 o.2.2) 84 o.2.1) (some (.int o.1)) A) args s 0 0 A) (F0 m 95 ls [.int s3, .int s2, .int s1, .ref (b 84)]) := by
  intro S H locs ls l1 s1 s2 s3 w hl hf
  unfold gX11_oneMoves_95 at hf
  refine lv_iand C.1.1 C.1.2.1 dX11_oneMoves_95 ?_
  refine ns_iast C w 84 (hI 84 (by decide)) sh_84 hf rfl (List.mem_of_getElem? (i := 0) rfl) dX11_oneMoves_96 (fun y1 H locs hf w => ?_)
  refine lv_aload_n C.1.1 C.1.2.1 dX11_oneMoves_97 rfl (lv_at hl 0 rfl) ?_
  refine ns_getr C w 62 (hI 62 (by decide)) sh_62 (rfl : vwCl[11]? = some (RX11, TX11, 59)) inX11_oneMoves_11 24 (by decide) rfl lX11_oneMoves_78 dX11_oneMoves_98 ?_
  refine lv_iload_n C.1.1 C.1.2.1 dX11_oneMoves_101 rfl (lv_at hl 1 rfl) ?_
  refine lv_dup2_11 C.1.1 C.1.2.1 dX11_oneMoves_102 rfl rfl ?_
  refine ns_iald C w 85 (hI 85 (by decide)) sh_85 hf rfl dX11_oneMoves_103 (fun x2 hf => ?_)
  refine lv_iconst (v := 1) C.1.1 C.1.2.1 dX11_oneMoves_104 (by decide) ?_
  refine lv_iadd C.1.1 C.1.2.1 dX11_oneMoves_105 ?_
  refine ns_iast C w 85 (hI 85 (by decide)) sh_85 hf rfl (List.mem_of_getElem? (i := 1) rfl) dX11_oneMoves_106 (fun y3 H locs hf w => ?_)
  refine lv_iconst (v := 1) C.1.1 C.1.2.1 dX11_oneMoves_107 (by decide) ?_
  have he := Option.some.inj hf
  subst he
  exact ns_zret C w hr hlk rfl (Or.inr rfl) rfl dX11_oneMoves_108
set_option maxHeartbeats 4000000 in
set_option maxRecDepth 100000 in
theorem wX11_oneMoves_62_14 {p : Program} {l : Launch} {e : Env} {s : State} {m : MethodId} {args : Array Value} {below : List Frame} {meth : Method} {c : Code} {D : va_G} {b : Nat → Nat} {ids : List Nat} {A : Nat → Prop} {S0 : ns_S} {o : Int32 × (Nat → Int32) × (Nat → Int32)} (N : Nat) (hI : ∀ i, i < 107 → i ∈ ids) (C : ns_C p m c cX11_oneMoves 5 s args wsX11_oneMoves RX11 D A) (hr : meth.sig.returnType = some .boolean) (hlk : meth.locks = false) {r2 : (Nat → Int32) → (Nat → Int32) → (Nat → Int32) → (Nat → Int32) → (Nat → Int32) → (Nat → Int32) → (Nat → Int32) → (Nat → Int32) → (Nat → Int32) → (Nat → Int32) → Int32 → Option (Int32 × (Nat → Int32) × (Nat → Int32))} (K2 : ∀ {S : ns_S} {H : Heap} {locs : List Loc} {ls : Array Slot} {l1 : Int32}, ns_W D b ids A s.heap wrX11_oneMoves_62 S0 S H locs → lv_has ls 5 [(0, .ref (b 62)), (1, .int l1)] → r2 (S.2.1 73) (S.2.1 77) (S.2.1 78) (S.2.1 84) (S.2.1 80) (S.2.1 68) (S.2.1 67) (S.2.1 76) (S.2.1 82) (S.2.1 85) l1 = some o → W p l e rmX11_oneMoves_62 s m args below meth c H locs 0 0 (MQ below (ns_Q D b ids (ns_A (ns_A S0 85 o.2.2) 84 o.2.1) (some (.int o.1)) A) args s 0 0 A) (F0 m 2 ls [])) : ∀ n : Nat, ∀ {S : ns_S} {H : Heap} {locs : List Loc} {ls : Array Slot} {l1 : Int32} {l2 : Int32}, ns_W D b ids A s.heap wrX11_oneMoves_62 S0 S H locs → lv_has ls 5 [(0, .ref (b 62)), (1, .int l1), (2, .int l2)] → fX11_oneMoves_14 N r2 n (S.2.1 73) (S.2.1 77) (S.2.1 78) (S.2.1 84) (S.2.1 80) (S.2.1 68) (S.2.1 67) (S.2.1 76) (S.2.1 82) (S.2.1 85) l1 l2 = some o → W p l e rmX11_oneMoves_62 s m args below meth c H locs 0 0 (MQ below (ns_Q D b ids (ns_A (ns_A S0 85 o.2.2) 84 o.2.1) (some (.int o.1)) A) args s 0 0 A) (F0 m 14 ls []) := by
  intro n
  induction n with
  | zero =>
    intro S H locs ls l1 l2 w hl hf
    cases hf
  | succ n K14 =>
    intro S H locs ls l1 l2 w hl hf
    change gX11_oneMoves_14 N r2 (fX11_oneMoves_14 N r2 n) (S.2.1 73) (S.2.1 77) (S.2.1 78) (S.2.1 84) (S.2.1 80) (S.2.1 68) (S.2.1 67) (S.2.1 76) (S.2.1 82) (S.2.1 85) l1 l2 = some o at hf
    generalize fX11_oneMoves_14 N r2 n = r14 at hf K14
    unfold gX11_oneMoves_14 at hf
    refine lv_iload_n C.1.1 C.1.2.1 dX11_oneMoves_14 rfl (lv_at hl 2 rfl) ?_
    refine lv_aload_n C.1.1 C.1.2.1 dX11_oneMoves_15 rfl (lv_at hl 0 rfl) ?_
    refine ns_getr C w 62 (hI 62 (by decide)) sh_62 (rfl : vwCl[11]? = some (RX11, TX11, 59)) inX11_oneMoves_11 16 (by decide) rfl lX11_oneMoves_54 dX11_oneMoves_16 ?_
    refine lv_iload_n C.1.1 C.1.2.1 dX11_oneMoves_19 rfl (lv_at hl 1 rfl) ?_
    refine ns_iald C w 77 (hI 77 (by decide)) sh_77 hf rfl dX11_oneMoves_20 (fun x1 hf => ?_)
    refine ns_icmp_ge C hf (tgt := 115) dX11_oneMoves_21 (by decide) (fun hf => ?_) (fun hf => ?_)
    · refine ns_iinc (lv' := fun x2 => [(1, .int x2), (0, .ref (b 62)), (2, .int l2)]) C hf dX11_oneMoves_115 hl (k := 1) rfl rfl (by decide) (fun _ => rfl) (fun x2 ls hl hf => ?_)
      refine lv_goto (tgt := 2) C.1.1 C.1.2.1 dX11_oneMoves_118 (by decide) ?_
      exact K2 w (lv_sub hl [1, 0] rfl) hf
    · refine lv_aload_n C.1.1 C.1.2.1 dX11_oneMoves_24 rfl (lv_at hl 0 rfl) ?_
      refine ns_getr C w 62 (hI 62 (by decide)) sh_62 (rfl : vwCl[11]? = some (RX11, TX11, 59)) inX11_oneMoves_11 17 (by decide) rfl lX11_oneMoves_57 dX11_oneMoves_25 ?_
      refine lv_bipush (v := 6) C.1.1 C.1.2.1 dX11_oneMoves_28 (by decide) ?_
      refine lv_iload_n C.1.1 C.1.2.1 dX11_oneMoves_30 rfl (lv_at hl 1 rfl) ?_
      refine lv_imul C.1.1 C.1.2.1 dX11_oneMoves_31 ?_
      refine lv_iload_n C.1.1 C.1.2.1 dX11_oneMoves_32 rfl (lv_at hl 2 rfl) ?_
      refine lv_iadd C.1.1 C.1.2.1 dX11_oneMoves_33 ?_
      refine ns_iald C w 78 (hI 78 (by decide)) sh_78 hf rfl dX11_oneMoves_34 (fun x3 hf => ?_)
      refine lv_istore_n (lv' := [(3, .int x3), (0, .ref (b 62)), (1, .int l1), (2, .int l2)]) C.1.1 C.1.2.1 dX11_oneMoves_35 rfl hl (by decide) rfl (fun ls hl => ?_)
      refine lv_aload_n C.1.1 C.1.2.1 dX11_oneMoves_36 rfl (lv_at hl 1 rfl) ?_
      refine lv_iload_n C.1.1 C.1.2.1 dX11_oneMoves_37 rfl (lv_at hl 2 rfl) ?_
      refine lv_iload_n C.1.1 C.1.2.1 dX11_oneMoves_38 rfl (lv_at hl 0 rfl) ?_
      refine ns_callV C w 62 (hI 62 (by decide)) sh_62 (rfl : vwCl[11]? = some (RX11, TX11, 59)) [.int l1, .int x3] hf (fun u hu => mX11_reason_62 l D b ids hI N _ l1 x3 hu) gX11_oneMoves_X11_reason rfl rfl rfl hdX11_reason ⟨Nat.le_of_ble_eq_true rfl, Nat.le_of_ble_eq_true rfl⟩ (fun u h => h) rfl hl.1 rfl (Nat.le_of_ble_eq_true rfl) ⟨Nat.le_refl _, Nat.le_refl _⟩ dX11_oneMoves_39 (fun o4 H locs hf w => ?_)
      refine lv_bipush (v := 6) C.1.1 C.1.2.1 dX11_oneMoves_42 (by decide) ?_
      refine ns_icmp_ne C hf (tgt := 109) dX11_oneMoves_44 (by decide) (fun hf => ?_) (fun hf => ?_)
      · refine ns_iinc (lv' := fun x5 => [(2, .int x5), (3, .int x3), (0, .ref (b 62)), (1, .int l1)]) C hf dX11_oneMoves_109 hl (k := 3) rfl rfl (by decide) (fun _ => rfl) (fun x5 ls hl hf => ?_)
        refine lv_goto (tgt := 14) C.1.1 C.1.2.1 dX11_oneMoves_112 (by decide) ?_
        exact K14 w (lv_sub hl [2, 3, 0] rfl) hf
      · refine lv_aload_n C.1.1 C.1.2.1 dX11_oneMoves_47 rfl (lv_at hl 1 rfl) ?_
        refine lv_iload_n C.1.1 C.1.2.1 dX11_oneMoves_48 rfl (lv_at hl 2 rfl) ?_
        refine lv_aload_n C.1.1 C.1.2.1 dX11_oneMoves_49 rfl (lv_at hl 1 rfl) ?_
        refine ns_getr C w 62 (hI 62 (by decide)) sh_62 (rfl : vwCl[11]? = some (RX11, TX11, 59)) inX11_oneMoves_11 7 (by decide) rfl lX11_oneMoves_27 dX11_oneMoves_50 ?_
        refine lv_iload_n C.1.1 C.1.2.1 dX11_oneMoves_53 rfl (lv_at hl 0 rfl) ?_
        refine ns_iald C w 68 (hI 68 (by decide)) sh_68 hf rfl dX11_oneMoves_54 (fun x6 hf => ?_)
        refine ns_callV C w 62 (hI 62 (by decide)) sh_62 (rfl : vwCl[11]? = some (RX11, TX11, 59)) [.int l1, .int x6] hf (fun u hu => mX11_on_62 l D b ids hI N _ l1 x6 hu) gX11_oneMoves_X11_on rfl rfl rfl hdX11_on ⟨Nat.le_of_ble_eq_true rfl, Nat.le_of_ble_eq_true rfl⟩ (fun u h => h) rfl hl.1 rfl (Nat.le_of_ble_eq_true rfl) ⟨Nat.le_refl _, Nat.le_refl _⟩ dX11_oneMoves_55 (fun o7 H locs hf w => ?_)
        refine lv_istore (lv' := [(4, .int o7), (3, .int x3), (0, .ref (b 62)), (1, .int l1), (2, .int l2)]) C.1.1 C.1.2.1 dX11_oneMoves_58 hl (by decide) rfl (fun ls hl => ?_)
        refine lv_aload_n C.1.1 C.1.2.1 dX11_oneMoves_60 rfl (lv_at hl 2 rfl) ?_
        refine ns_getr C w 62 (hI 62 (by decide)) sh_62 (rfl : vwCl[11]? = some (RX11, TX11, 59)) inX11_oneMoves_11 23 (by decide) rfl lX11_oneMoves_75 dX11_oneMoves_61 ?_
        refine lv_iload_n C.1.1 C.1.2.1 dX11_oneMoves_64 rfl (lv_at hl 3 rfl) ?_
        refine lv_dup2_11 C.1.1 C.1.2.1 dX11_oneMoves_65 rfl rfl ?_
        refine ns_iald C w 84 (hI 84 (by decide)) sh_84 hf rfl dX11_oneMoves_66 (fun x8 hf => ?_)
        refine lv_iconst (v := 1) C.1.1 C.1.2.1 dX11_oneMoves_67 (by decide) ?_
        refine lv_iload_n C.1.1 C.1.2.1 dX11_oneMoves_68 rfl (lv_at hl 1 rfl) ?_
        refine lv_ishl C.1.1 C.1.2.1 dX11_oneMoves_69 ?_
        refine lv_ior C.1.1 C.1.2.1 dX11_oneMoves_70 ?_
        refine ns_iast C w 84 (hI 84 (by decide)) sh_84 hf rfl (List.mem_of_getElem? (i := 0) rfl) dX11_oneMoves_71 (fun y9 H locs hf w => ?_)
        refine lv_aload_n C.1.1 C.1.2.1 dX11_oneMoves_72 rfl (lv_at hl 2 rfl) ?_
        refine ns_getr C w 62 (hI 62 (by decide)) sh_62 (rfl : vwCl[11]? = some (RX11, TX11, 59)) inX11_oneMoves_11 23 (by decide) rfl lX11_oneMoves_75 dX11_oneMoves_73 ?_
        refine lv_iload_n C.1.1 C.1.2.1 dX11_oneMoves_76 rfl (lv_at hl 3 rfl) ?_
        refine lv_dup2_11 C.1.1 C.1.2.1 dX11_oneMoves_77 rfl rfl ?_
        refine ns_iald C w 84 (hI 84 (by decide)) sh_84 hf rfl dX11_oneMoves_78 (fun x10 hf => ?_)
        refine lv_iload C.1.1 C.1.2.1 dX11_oneMoves_79 (lv_at hl 0 rfl) ?_
        refine lv_iconst (v := (-1)) C.1.1 C.1.2.1 dX11_oneMoves_81 (by decide) ?_
        refine ns_icmp_ne C hf (tgt := 89) dX11_oneMoves_82 (by decide) (fun hf => ?_) (fun hf => ?_)
        · refine lv_iconst (v := 1) C.1.1 C.1.2.1 dX11_oneMoves_89 (by decide) ?_
          refine lv_iload C.1.1 C.1.2.1 dX11_oneMoves_90 (lv_at hl 0 rfl) ?_
          refine lv_ishl C.1.1 C.1.2.1 dX11_oneMoves_92 ?_
          refine lv_iconst (v := (-1)) C.1.1 C.1.2.1 dX11_oneMoves_93 (by decide) ?_
          refine lv_ixor C.1.1 C.1.2.1 dX11_oneMoves_94 ?_
          exact wX11_oneMoves_62_95 N hI C hr hlk K2 K14 w (lv_sub hl [2, 3] rfl) hf
        · refine lv_iconst (v := (-1)) C.1.1 C.1.2.1 dX11_oneMoves_85 (by decide) ?_
          refine lv_goto (tgt := 95) C.1.1 C.1.2.1 dX11_oneMoves_86 (by decide) ?_
          exact wX11_oneMoves_62_95 N hI C hr hlk K2 K14 w (lv_sub hl [2, 3] rfl) hf
set_option maxHeartbeats 4000000 in
set_option maxRecDepth 100000 in
theorem wX11_oneMoves_62_2 {p : Program} {l : Launch} {e : Env} {s : State} {m : MethodId} {args : Array Value} {below : List Frame} {meth : Method} {c : Code} {D : va_G} {b : Nat → Nat} {ids : List Nat} {A : Nat → Prop} {S0 : ns_S} {o : Int32 × (Nat → Int32) × (Nat → Int32)} (N : Nat) (hI : ∀ i, i < 107 → i ∈ ids) (C : ns_C p m c cX11_oneMoves 5 s args wsX11_oneMoves RX11 D A) (hr : meth.sig.returnType = some .boolean) (hlk : meth.locks = false) : ∀ n : Nat, ∀ {S : ns_S} {H : Heap} {locs : List Loc} {ls : Array Slot} {l1 : Int32}, ns_W D b ids A s.heap wrX11_oneMoves_62 S0 S H locs → lv_has ls 5 [(0, .ref (b 62)), (1, .int l1)] → fX11_oneMoves_2 N n (S.2.1 73) (S.2.1 77) (S.2.1 78) (S.2.1 84) (S.2.1 80) (S.2.1 68) (S.2.1 67) (S.2.1 76) (S.2.1 82) (S.2.1 85) l1 = some o → W p l e rmX11_oneMoves_62 s m args below meth c H locs 0 0 (MQ below (ns_Q D b ids (ns_A (ns_A S0 85 o.2.2) 84 o.2.1) (some (.int o.1)) A) args s 0 0 A) (F0 m 2 ls []) := by
  intro n
  induction n with
  | zero =>
    intro S H locs ls l1 w hl hf
    cases hf
  | succ n K2 =>
    intro S H locs ls l1 w hl hf
    change gX11_oneMoves_2 N (fX11_oneMoves_2 N n) (S.2.1 73) (S.2.1 77) (S.2.1 78) (S.2.1 84) (S.2.1 80) (S.2.1 68) (S.2.1 67) (S.2.1 76) (S.2.1 82) (S.2.1 85) l1 = some o at hf
    generalize fX11_oneMoves_2 N n = r2 at hf K2
    unfold gX11_oneMoves_2 at hf
    refine lv_iload_n C.1.1 C.1.2.1 dX11_oneMoves_2 rfl (lv_at hl 1 rfl) ?_
    refine lv_aload_n C.1.1 C.1.2.1 dX11_oneMoves_3 rfl (lv_at hl 0 rfl) ?_
    refine ns_getr C w 62 (hI 62 (by decide)) sh_62 (rfl : vwCl[11]? = some (RX11, TX11, 59)) inX11_oneMoves_11 12 (by decide) rfl lX11_oneMoves_42 dX11_oneMoves_4 ?_
    refine lv_iconst (v := 0) C.1.1 C.1.2.1 dX11_oneMoves_7 (by decide) ?_
    refine ns_iald C w 73 (hI 73 (by decide)) sh_73 hf rfl dX11_oneMoves_8 (fun x1 hf => ?_)
    refine ns_icmp_ge C hf (tgt := 121) dX11_oneMoves_9 (by decide) (fun hf => ?_) (fun hf => ?_)
    · refine lv_iconst (v := 0) C.1.1 C.1.2.1 dX11_oneMoves_121 (by decide) ?_
      have he := Option.some.inj hf
      subst he
      exact ns_zret C w hr hlk rfl (Or.inl rfl) rfl dX11_oneMoves_122
    · refine lv_iconst (v := 0) C.1.1 C.1.2.1 dX11_oneMoves_12 (by decide) ?_
      refine lv_istore_n (lv' := [(2, .int 0), (0, .ref (b 62)), (1, .int l1)]) C.1.1 C.1.2.1 dX11_oneMoves_13 rfl hl (by decide) rfl (fun ls hl => ?_)
      exact wX11_oneMoves_62_14 N hI C hr hlk K2 N w (lv_sub hl [1, 2, 0] rfl) hf
set_option maxHeartbeats 4000000 in
set_option maxRecDepth 100000 in
theorem mX11_oneMoves_62 (l : Launch) (D : va_G) (b : Nat → Nat) (ids : List Nat) (hI : ∀ i, i < 107 → i ∈ ids) (N : Nat) (S : ns_S) {o : Int32 × (Nat → Int32) × (Nat → Int32)} (hf : fX11_oneMoves N (S.2.1 73) (S.2.1 77) (S.2.1 78) (S.2.1 84) (S.2.1 80) (S.2.1 68) (S.2.1 67) (S.2.1 76) (S.2.1 82) (S.2.1 85) = some o) : ns_M l yX11_oneMoves wsX11_oneMoves rmX11_oneMoves_62 D b ids S [.ref (b 62)] (some (.int o.1)) (ns_A (ns_A S 85 o.2.2) 84 o.2.1) := by
  refine ns_start (Wr := wrX11_oneMoves_62) (by decide) rfl (Nat.le_of_ble_eq_true rfl) ?_
  intro p e s m below meth c A ls C hr hlk w hl
  have hl : lv_has ls 5 [(0, .ref (b 62))] := hl
  unfold fX11_oneMoves at hf
  refine lv_iconst (v := 0) C.1.1 C.1.2.1 dX11_oneMoves_0 (by decide) ?_
  refine lv_istore_n (lv' := [(1, .int 0), (0, .ref (b 62))]) C.1.1 C.1.2.1 dX11_oneMoves_1 rfl hl (by decide) rfl (fun ls hl => ?_)
  exact wX11_oneMoves_62_2 N hI C hr hlk N w (lv_sub hl [1, 0] rfl) hf
theorem lX11_moveUp_60 : Cond.fieldLink RX11 60 (TX11 18).1 (TX11 18).2.1 (TX11 18).2.2.1 ∈ wsX11_moveUp := List.mem_of_getElem? (i := 1) rfl
theorem inX11_moveUp_11 : ∀ w ∈ u_ws RX11 TX11 59, w ∈ wsX11_moveUp := fun _ h => List.mem_cons_of_mem _ (List.mem_append_right _ h)
theorem hdX11_moveUp : yX11_moveUp.cls = RX11 ∧ yX11_moveUp.cls ≠ "java/lang/invoke/MethodHandle" ∧ yX11_moveUp.cls ≠ "java/lang/invoke/VarHandle" ∧ (parseMethodDescriptor yX11_moveUp.desc).map (fun d => d.parameters.length) = some 0 := by decide +kernel
abbrev wrX11_moveUp_62 : List (Nat × Nat) := [(1, 84), (1, 85)]
abbrev rmX11_moveUp_62 : Room := { frames := 3, cells := 0, slots := 0, locals := 70 }
set_option maxHeartbeats 4000000 in
set_option maxRecDepth 100000 in
theorem wX11_moveUp_62_16 {p : Program} {l : Launch} {e : Env} {s : State} {m : MethodId} {args : Array Value} {below : List Frame} {meth : Method} {c : Code} {D : va_G} {b : Nat → Nat} {ids : List Nat} {A : Nat → Prop} {S0 : ns_S} {o : (Nat → Int32) × (Nat → Int32)} (N : Nat) (hI : ∀ i, i < 107 → i ∈ ids) (C : ns_C p m c cX11_moveUp 2 s args wsX11_moveUp RX11 D A) (hr : meth.sig.returnType = none) (hlk : meth.locks = false) : ∀ n : Nat, ∀ {S : ns_S} {H : Heap} {locs : List Loc} {ls : Array Slot} {l1 : Int32}, ns_W D b ids A s.heap wrX11_moveUp_62 S0 S H locs → lv_has ls 2 [(0, .ref (b 62)), (1, .int l1)] → fX11_moveUp_16 N n (S.2.1 79) (S.2.1 73) (S.2.1 77) (S.2.1 78) (S.2.1 84) (S.2.1 80) (S.2.1 68) (S.2.1 67) (S.2.1 76) (S.2.1 82) (S.2.1 85) l1 = some o → W p l e rmX11_moveUp_62 s m args below meth c H locs 0 0 (MQ below (ns_Q D b ids (ns_A (ns_A S0 85 o.2) 84 o.1) none A) args s 0 0 A) (F0 m 16 ls []) := by
  intro n
  induction n with
  | zero =>
    intro S H locs ls l1 w hl hf
    cases hf
  | succ n K16 =>
    intro S H locs ls l1 w hl hf
    change gX11_moveUp_16 N (fX11_moveUp_16 N n) (S.2.1 79) (S.2.1 73) (S.2.1 77) (S.2.1 78) (S.2.1 84) (S.2.1 80) (S.2.1 68) (S.2.1 67) (S.2.1 76) (S.2.1 82) (S.2.1 85) l1 = some o at hf
    generalize fX11_moveUp_16 N n = r16 at hf K16
    unfold gX11_moveUp_16 at hf
    refine lv_iload_n C.1.1 C.1.2.1 dX11_moveUp_16 rfl (lv_at hl 1 rfl) ?_
    refine ns_if_eq C hf (tgt := 28) dX11_moveUp_17 (by decide) (fun hf => ?_) (fun hf => ?_)
    · have he := Option.some.inj hf
      subst he
      exact ns_vret C w hr hlk rfl rfl dX11_moveUp_28
    · refine lv_aload_n C.1.1 C.1.2.1 dX11_moveUp_20 rfl (lv_at hl 0 rfl) ?_
      refine ns_callV C w 62 (hI 62 (by decide)) sh_62 (rfl : vwCl[11]? = some (RX11, TX11, 59)) [] hf (fun u hu => mX11_oneMoves_62 l D b ids hI N _ hu) gX11_moveUp_X11_oneMoves rfl rfl rfl hdX11_oneMoves ⟨Nat.le_of_ble_eq_true rfl, Nat.le_of_ble_eq_true rfl⟩ (fun u h => ((h.A (List.mem_of_getElem? (i := 1) rfl) _).A (List.mem_of_getElem? (i := 0) rfl) _)) rfl hl.1 rfl (Nat.le_of_ble_eq_true rfl) ⟨Nat.le_refl _, Nat.le_refl _⟩ dX11_moveUp_21 (fun o1 H locs hf w => ?_)
      refine lv_istore_n (lv' := [(1, .int o1.1), (0, .ref (b 62))]) C.1.1 C.1.2.1 dX11_moveUp_24 rfl hl (by decide) rfl (fun ls hl => ?_)
      refine lv_goto (tgt := 16) C.1.1 C.1.2.1 dX11_moveUp_25 (by decide) ?_
      exact K16 w (lv_sub hl [1, 0] rfl) hf
set_option maxHeartbeats 4000000 in
set_option maxRecDepth 100000 in
theorem mX11_moveUp_62 (l : Launch) (D : va_G) (b : Nat → Nat) (ids : List Nat) (hI : ∀ i, i < 107 → i ∈ ids) (N : Nat) (S : ns_S) {o : (Nat → Int32) × (Nat → Int32)} (hf : fX11_moveUp N (S.2.1 79) (S.2.1 73) (S.2.1 77) (S.2.1 78) (S.2.1 84) (S.2.1 80) (S.2.1 68) (S.2.1 67) (S.2.1 76) (S.2.1 82) (S.2.1 85) = some o) : ns_M l yX11_moveUp wsX11_moveUp rmX11_moveUp_62 D b ids S [.ref (b 62)] none (ns_A (ns_A S 85 o.2) 84 o.1) := by
  refine ns_start (Wr := wrX11_moveUp_62) (by decide) rfl (Nat.le_of_ble_eq_true rfl) ?_
  intro p e s m below meth c A ls C hr hlk w hl
  have hl : lv_has ls 2 [(0, .ref (b 62))] := hl
  unfold fX11_moveUp at hf
  refine lv_aload_n C.1.1 C.1.2.1 dX11_moveUp_0 rfl (lv_at hl 0 rfl) ?_
  refine ns_getr C w 62 (hI 62 (by decide)) sh_62 (rfl : vwCl[11]? = some (RX11, TX11, 59)) inX11_moveUp_11 18 (by decide) rfl lX11_moveUp_60 dX11_moveUp_1 ?_
  refine lv_iconst (v := 0) C.1.1 C.1.2.1 dX11_moveUp_4 (by decide) ?_
  refine ns_iald C w 79 (hI 79 (by decide)) sh_79 hf rfl dX11_moveUp_5 (fun x1 hf => ?_)
  refine lv_iconst (v := (-1)) C.1.1 C.1.2.1 dX11_moveUp_6 (by decide) ?_
  refine ns_icmp_eq C hf (tgt := 14) dX11_moveUp_7 (by decide) (fun hf => ?_) (fun hf => ?_)
  · refine lv_iconst (v := 0) C.1.1 C.1.2.1 dX11_moveUp_14 (by decide) ?_
    refine lv_istore_n (lv' := [(1, .int 0), (0, .ref (b 62))]) C.1.1 C.1.2.1 dX11_moveUp_15 rfl hl (by decide) rfl (fun ls hl => ?_)
    exact wX11_moveUp_62_16 N hI C hr hlk N w (lv_sub hl [1, 0] rfl) hf
  · refine lv_iconst (v := 1) C.1.1 C.1.2.1 dX11_moveUp_10 (by decide) ?_
    refine lv_goto (tgt := 15) C.1.1 C.1.2.1 dX11_moveUp_11 (by decide) ?_
    refine lv_istore_n (lv' := [(1, .int 1), (0, .ref (b 62))]) C.1.1 C.1.2.1 dX11_moveUp_15 rfl hl (by decide) rfl (fun ls hl => ?_)
    exact wX11_moveUp_62_16 N hI C hr hlk N w (lv_sub hl [1, 0] rfl) hf
