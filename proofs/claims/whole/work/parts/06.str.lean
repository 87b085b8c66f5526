/-! String constants: their spelling, length, letters (the JDK's own methods under them) -/
theorem ns_ite_lt {c : Prop} [Decidable c] {a b n : Nat} (h1 : a < n) (h2 : b < n) : (if c then a else b) < n := by
  by_cases h : c
  · rw [if_pos h]; exact h1
  · rw [if_neg h]; exact h2
theorem ns_sp_lt (w : Int32) : ns_sp w < 15 := by
  unfold ns_sp
  iterate 14 refine ns_ite_lt (by decide) ?_
  decide
theorem ns_unit {α : Type} {x : Option α} {o : α} (h : x = some o) : ((some ()).bind fun _ => x) = some o := h
abbrev rmX9_spelling : Room := { frames := 0, cells := 0, slots := 0, locals := 0 }
abbrev rmX9_isSameWord : Room := { frames := 5, cells := 0, slots := 0, locals := 120 }
theorem hdX9_spelling : yX9_spelling.cls ≠ "java/lang/invoke/MethodHandle" ∧ yX9_spelling.cls ≠ "java/lang/invoke/VarHandle" ∧ (parseMethodDescriptor yX9_spelling.desc).map (fun d => d.parameters.length) = some 1 := by decide +kernel
theorem hdX9_isSameWord : yX9_isSameWord.cls ≠ "java/lang/invoke/MethodHandle" ∧ yX9_isSameWord.cls ≠ "java/lang/invoke/VarHandle" ∧ (parseMethodDescriptor yX9_isSameWord.desc).map (fun d => d.parameters.length) = some 4 := by decide +kernel
theorem hdJ0_length : yJ0_length_8abf5.cls = RJ0 ∧ yJ0_length_8abf5.cls ≠ "java/lang/invoke/MethodHandle" ∧ yJ0_length_8abf5.cls ≠ "java/lang/invoke/VarHandle" ∧ (parseMethodDescriptor yJ0_length_8abf5.desc).map (fun d => d.parameters.length) = some 0 := by decide +kernel
theorem hdJ0_coder : yJ0_coder_7d493.cls = RJ0 ∧ yJ0_coder_7d493.cls ≠ "java/lang/invoke/MethodHandle" ∧ yJ0_coder_7d493.cls ≠ "java/lang/invoke/VarHandle" ∧ (parseMethodDescriptor yJ0_coder_7d493.desc).map (fun d => d.parameters.length) = some 0 := by decide +kernel
theorem hdJ0_isLatin1 : yJ0_isLatin1_aae02.cls = RJ0 ∧ yJ0_isLatin1_aae02.cls ≠ "java/lang/invoke/MethodHandle" ∧ yJ0_isLatin1_aae02.cls ≠ "java/lang/invoke/VarHandle" ∧ (parseMethodDescriptor yJ0_isLatin1_aae02.desc).map (fun d => d.parameters.length) = some 0 := by decide +kernel
theorem hdJ0_charAt : yJ0_charAt_5068e.cls = RJ0 ∧ yJ0_charAt_5068e.cls ≠ "java/lang/invoke/MethodHandle" ∧ yJ0_charAt_5068e.cls ≠ "java/lang/invoke/VarHandle" ∧ (parseMethodDescriptor yJ0_charAt_5068e.desc).map (fun d => d.parameters.length) = some 1 := by decide +kernel
theorem hdJ0_checkIndex : yJ0_checkIndex_df160.cls ≠ "java/lang/invoke/MethodHandle" ∧ yJ0_checkIndex_df160.cls ≠ "java/lang/invoke/VarHandle" ∧ (parseMethodDescriptor yJ0_checkIndex_df160.desc).map (fun d => d.parameters.length) = some 2 := by decide +kernel
theorem hdJ1_charAt : yJ1_charAt_3b067.cls ≠ "java/lang/invoke/MethodHandle" ∧ yJ1_charAt_3b067.cls ≠ "java/lang/invoke/VarHandle" ∧ (parseMethodDescriptor yJ1_charAt_3b067.desc).map (fun d => d.parameters.length) = some 2 := by decide +kernel
theorem hdJ3_checkIndex : yJ3_checkIndex_8e157.cls ≠ "java/lang/invoke/MethodHandle" ∧ yJ3_checkIndex_8e157.cls ≠ "java/lang/invoke/VarHandle" ∧ (parseMethodDescriptor yJ3_checkIndex_8e157.desc).map (fun d => d.parameters.length) = some 3 := by decide +kernel
section STR
variable {p : Program} {l : Launch} {e : Env} {R : Room} {s : State} {m : MethodId} {args : Array Value} {below : List Frame} {meth : Method} {c : Code} {H : Heap} {locs : List Loc} {cells slots : Nat} {Q : State → Prop}
variable {cc : ByteArray} {pc nL : Nat} {ls : Array Slot} {rest : List Value} {own : String} {Ts : List Cond} {D : va_G} {b : Nat → Nat} {ids : List Nat} {A : Nat → Prop} {H0 : Heap} {Wr : List (Nat × Nat)} {S0 S : ns_S}
theorem ns_callK (C : ns_C p m c cc nL s args Ts own D A) (w : ns_W D b ids A s.heap Wr S0 S H locs) (k : Nat) (hk : k < 15) {y : MethodName} {ws ws' : List Cond} {rm : Room} {bytes : ByteArray} {maxL : Nat} {rt : Option FieldType} (As : List Value) {ret : Option Value} (hM : ns_M l y ws rm D b ids S (.ref (D.2 200 k) :: As) ret S) {index n : Nat} (hT : GoodIn Ts (wsV own index RJ0 y ws)) (hw : ws = Cond.code y bytes maxL rt :: ws') (hrc : rm.cells = 0) (hrs : rm.slots = 0) (hd : y.cls = RJ0 ∧ y.cls ≠ "java/lang/invoke/MethodHandle" ∧ y.cls ≠ "java/lang/invoke/VarHandle" ∧ (parseMethodDescriptor y.desc).map (fun d => d.parameters.length) = some n) (hR : rm.frames + 1 ≤ R.frames ∧ 8 + (maxL + 11) + rm.locals ≤ R.locals) (hn : As.length = n) (hsize : ls.size = nL) {st : List Value} (hst : st = As.reverse ++ .ref (D.2 200 k) :: rest) (hroom : (rest.map fun v => v.category).sum ≤ 8) (hcs : cells ≤ R.cells ∧ slots ≤ R.slots) (hdg : decode cc pc = .ok (.invokevirtual index, 3))
    (kk : ∀ (H1 : Heap) (locs1 : List Loc), ns_W D b ids A s.heap Wr S0 S H1 locs1 → W p l e R s m args below meth c H1 locs1 cells slots Q (F0 m (pc + 3) ls (ret.toList ++ rest))) : W p l e R s m args below meth c H locs cells slots Q (F0 m pc ls st) :=
  ns_go w (va_runV C.1 (hM H.size) (cwV n C.1.2.2.2.2 hT hw hrc hrs hd hR) ⟨ns_blind, vk_recv C.2.2.1 hk w.2.2.1.1, ns_pre C.2.1 C.2.2 w⟩ rfl hn hsize hst (lv_room hroom) hdg hcs) id (fun H1 locs1 w1 => kk H1 locs1 w1)
theorem ns_callT (C : ns_C p m c cc nL s args Ts own D A) (w : ns_W D b ids A s.heap Wr S0 S H locs) {y : MethodName} {ws ws' : List Cond} {rm : Room} {bytes : ByteArray} {maxL : Nat} {rt : Option FieldType} (As : List Value) {ret : Option Value} (hM : ns_M l y ws rm D b ids S As ret S) {index n : Nat} (hT : GoodIn Ts (va_wsS own index y ws)) (hw : ws = Cond.code y bytes maxL rt :: ws') (hrc : rm.cells = 0) (hrs : rm.slots = 0) (hd : y.cls ≠ "java/lang/invoke/MethodHandle" ∧ y.cls ≠ "java/lang/invoke/VarHandle" ∧ (parseMethodDescriptor y.desc).map (fun d => d.parameters.length) = some n) (hR : rm.frames + 1 ≤ R.frames ∧ 8 + (maxL + 11) + rm.locals ≤ R.locals) (hn : As.length = n) (hsize : ls.size = nL) {st : List Value} (hst : st = As.reverse ++ rest) (hroom : (rest.map fun v => v.category).sum ≤ 8) (hcs : cells ≤ R.cells ∧ slots ≤ R.slots) (hdg : decode cc pc = .ok (.invokestatic index, 3))
    (kk : ∀ (H1 : Heap) (locs1 : List Loc), ns_W D b ids A s.heap Wr S0 S H1 locs1 → W p l e R s m args below meth c H1 locs1 cells slots Q (F0 m (pc + 3) ls (ret.toList ++ rest))) : W p l e R s m args below meth c H locs cells slots Q (F0 m pc ls st) :=
  ns_go w (va_runS C.1 (hM H.size) (va_cwS n C.1.2.2.2.2 hT hw hrc hrs hd hR) ⟨ns_blind, ns_pre C.2.1 C.2.2 w⟩ rfl hn hsize hst (lv_room hroom) hdg hcs) id (fun H1 locs1 w1 => kk H1 locs1 w1)
theorem ns_tret (C : ns_C p m c cc nL s args Ts own D A) (w : ns_W D b ids A s.heap [] S S H locs) {ty : FieldType} (hr : meth.sig.returnType = some ty) (hlk : meth.locks = false) {v : Int32} (hn : narrow ty (.int v) = .int v) (hdg : decode cc pc = .ok (.ireturn, 1)) : W p l e R s m args below meth c H locs cells slots (MQ below (ns_Q D b ids S (some (.int v)) A) args s cells slots A) (F0 m pc ls [.int v]) :=
  W.zret C.1.1 C.1.2.1 hr hn (fun t ht hW => ⟨⟨rfl, by rw [ht]; exact w.1, va_K.moved hW.alike C.2.1⟩, w.2.2.1.1.F ht⟩) w.2.2.1.1.2.2 hdg hlk
theorem ns_aret (C : ns_C p m c cc nL s args Ts own D A) (w : ns_W D b ids A s.heap [] S S H locs) {nm : String} (hr : meth.sig.returnType = some (.object nm)) (hlk : meth.locks = false) {a : Nat} (hdg : decode cc pc = .ok (.areturn, 1)) : W p l e R s m args below meth c H locs cells slots (MQ below (ns_Q D b ids S (some (.ref a)) A) args s cells slots A) (F0 m pc ls [.ref a]) :=
  W.aret C.1.1 C.1.2.1 hr (Or.inl ⟨nm, rfl⟩) (Or.inr ⟨a, rfl⟩) (fun t ht hW => ⟨⟨rfl, by rw [ht]; exact w.1, va_K.moved hW.alike C.2.1⟩, w.2.2.1.1.F ht⟩) w.2.2.1.1.2.2 hdg hlk
end STR
theorem sln_sh : ∀ k, k < 15 → ns_sln k >>> ((0 : Int32) &&& 31) = ns_sln k := by decide +kernel
theorem byt_ch : ∀ k, k < 15 → ∀ i, i < ns_len.getD k 0 → ((((ns_byt.getD k []).getD i 0) &&& 255).toUInt32 % 65536).toInt32 = (ns_byt.getD k []).getD i 0 := by decide +kernel
theorem byt_nar : ∀ k, k < 15 → ∀ i, i < ns_len.getD k 0 → narrow .char (.int ((ns_byt.getD k []).getD i 0)) = .int ((ns_byt.getD k []).getD i 0) := by decide +kernel
theorem len7 : ∀ k, k < 15 → ns_len.getD k 0 < 100 := by decide +kernel
set_option maxRecDepth 100000 in
theorem mJ0_coder (l : Launch) (D : va_G) (b : Nat → Nat) (ids : List Nat) (S : ns_S) (k : Nat) (hk : k < 15) : ns_M l yJ0_coder_7d493 wsJ0_coder_7d493 { frames := 0, cells := 0, slots := 0, locals := 0 } D b ids S [.ref (D.2 200 k)] (some (.int 0)) S := by
  refine ns_start (Wr := []) (by decide) rfl (Nat.le_of_ble_eq_true rfl) ?_
  intro p e s m below meth c A ls C hr hlk w hl
  have hl : lv_has ls 1 [(0, .ref (D.2 200 k))] := hl
  refine va_gets C.1.1 C.1.2.1 C.2.2.2.2.1 w.2.2.1.1 C.1.2.2.2.1 (C.1.2.2.2.2 (.fieldLink RJ0 38 "java/lang/String" "COMPACT_STRINGS" "Z") (List.mem_of_getElem? (i := 1) rfl)) (fun _ h => h) dJ0_coder_7d493_0 ?_
  refine lv_if_eq (tgt := 13) C.1.1 C.1.2.1 dJ0_coder_7d493_3 (by decide) (fun h => absurd h (by decide)) (fun _ => ?_)
  refine lv_aload_n C.1.1 C.1.2.1 dJ0_coder_7d493_6 rfl (lv_at hl 0 rfl) ?_
  refine vk_getf C.1.1 C.1.2.1 (C.2.2.1.1 k hk).2.1 w.2.2.1.1 C.1.2.2.2.1 (C.1.2.2.2.2 (.fieldLink RJ0 15 "java/lang/String" "coder" "B") (List.mem_of_getElem? (i := 2) rfl)) (fun _ h => h) dJ0_coder_7d493_7 ?_
  refine lv_goto (tgt := 14) C.1.1 C.1.2.1 dJ0_coder_7d493_10 (by decide) ?_
  exact ns_tret C w hr hlk rfl dJ0_coder_7d493_14
set_option maxRecDepth 100000 in
theorem mJ0_isLatin1 (l : Launch) (D : va_G) (b : Nat → Nat) (ids : List Nat) (S : ns_S) (k : Nat) (hk : k < 15) : ns_M l yJ0_isLatin1_aae02 wsJ0_isLatin1_aae02 { frames := 0, cells := 0, slots := 0, locals := 0 } D b ids S [.ref (D.2 200 k)] (some (.int 1)) S := by
  refine ns_start (Wr := []) (by decide) rfl (Nat.le_of_ble_eq_true rfl) ?_
  intro p e s m below meth c A ls C hr hlk w hl
  have hl : lv_has ls 1 [(0, .ref (D.2 200 k))] := hl
  refine va_gets C.1.1 C.1.2.1 C.2.2.2.2.1 w.2.2.1.1 C.1.2.2.2.1 (C.1.2.2.2.2 (.fieldLink RJ0 38 "java/lang/String" "COMPACT_STRINGS" "Z") (List.mem_of_getElem? (i := 1) rfl)) (fun _ h => h) dJ0_isLatin1_aae02_0 ?_
  refine lv_if_eq (tgt := 17) C.1.1 C.1.2.1 dJ0_isLatin1_aae02_3 (by decide) (fun h => absurd h (by decide)) (fun _ => ?_)
  refine lv_aload_n C.1.1 C.1.2.1 dJ0_isLatin1_aae02_6 rfl (lv_at hl 0 rfl) ?_
  refine vk_getf C.1.1 C.1.2.1 (C.2.2.1.1 k hk).2.1 w.2.2.1.1 C.1.2.2.2.1 (C.1.2.2.2.2 (.fieldLink RJ0 15 "java/lang/String" "coder" "B") (List.mem_of_getElem? (i := 2) rfl)) (fun _ h => h) dJ0_isLatin1_aae02_7 ?_
  refine lv_if_ne (tgt := 17) C.1.1 C.1.2.1 dJ0_isLatin1_aae02_10 (by decide) (fun h => absurd rfl h) (fun _ => ?_)
  refine lv_iconst (v := 1) C.1.1 C.1.2.1 dJ0_isLatin1_aae02_13 (by decide) ?_
  refine lv_goto (tgt := 18) C.1.1 C.1.2.1 dJ0_isLatin1_aae02_14 (by decide) ?_
  exact ns_tret C w hr hlk rfl dJ0_isLatin1_aae02_18
set_option maxRecDepth 100000 in
theorem mJ0_length (l : Launch) (D : va_G) (b : Nat → Nat) (ids : List Nat) (S : ns_S) (k : Nat) (hk : k < 15) : ns_M l yJ0_length_8abf5 wsJ0_length_8abf5 { frames := 1, cells := 0, slots := 0, locals := 20 } D b ids S [.ref (D.2 200 k)] (some (.int (ns_sln k))) S := by
  refine ns_start (Wr := []) (by decide) rfl (Nat.le_of_ble_eq_true rfl) ?_
  intro p e s m below meth c A ls C hr hlk w hl
  have hl : lv_has ls 1 [(0, .ref (D.2 200 k))] := hl
  refine lv_aload_n C.1.1 C.1.2.1 dJ0_length_8abf5_0 rfl (lv_at hl 0 rfl) ?_
  refine vk_getf C.1.1 C.1.2.1 (C.2.2.1.1 k hk).2.2.1 w.2.2.1.1 C.1.2.2.2.1 (C.1.2.2.2.2 (.fieldLink RJ0 9 "java/lang/String" "value" "[B") (List.mem_of_getElem? (i := 1) rfl)) (fun _ h => h) dJ0_length_8abf5_1 ?_
  refine va_tlen (v := ns_sln k) C.1.1 C.1.2.1 (C.2.2.1.1 k hk).2.2.2 w.2.2.1.1 rfl dJ0_length_8abf5_4 ?_
  refine lv_aload_n C.1.1 C.1.2.1 dJ0_length_8abf5_5 rfl (lv_at hl 0 rfl) ?_
  refine ns_callK C w k hk [] (mJ0_coder l D b ids S k hk) gJ0_length_8abf5_J0_coder_7d493 rfl rfl rfl hdJ0_coder ⟨Nat.le_of_ble_eq_true rfl, Nat.le_of_ble_eq_true rfl⟩ rfl hl.1 rfl (Nat.le_of_ble_eq_true rfl) ⟨Nat.le_refl _, Nat.le_refl _⟩ dJ0_length_8abf5_6 (fun H locs w => ?_)
  refine lv_ishr C.1.1 C.1.2.1 dJ0_length_8abf5_9 ?_
  rw [sln_sh k hk]
  exact ns_iret C w hr hlk rfl rfl dJ0_length_8abf5_10
set_option maxRecDepth 100000 in
theorem mJ3_checkIndex (l : Launch) (D : va_G) (b : Nat → Nat) (ids : List Nat) (S : ns_S) (x n : Int32) (v : Option Nat) (h0 : ¬ x < 0) (h1 : x < n) : ns_M l yJ3_checkIndex_8e157 wsJ3_checkIndex_8e157 { frames := 0, cells := 0, slots := 0, locals := 0 } D b ids S [.int x, .int n, va_rf v] (some (.int x)) S := by
  cases v with
  | none =>
    refine ns_start (Wr := []) (by decide) rfl (Nat.le_of_ble_eq_true rfl) ?_
    intro p e s m below meth c A ls C hr hlk w hl
    have hl : lv_has ls 3 [(0, .int x), (1, .int n), (2, .null)] := hl
    refine lv_iload_n C.1.1 C.1.2.1 dJ3_checkIndex_8e157_0 rfl (lv_at hl 0 rfl) ?_
    refine lv_if_lt (tgt := 9) C.1.1 C.1.2.1 dJ3_checkIndex_8e157_1 (by decide) (fun h => absurd h h0) (fun _ => ?_)
    refine lv_iload_n C.1.1 C.1.2.1 dJ3_checkIndex_8e157_4 rfl (lv_at hl 0 rfl) ?_
    refine lv_iload_n C.1.1 C.1.2.1 dJ3_checkIndex_8e157_5 rfl (lv_at hl 1 rfl) ?_
    refine lv_icmp_lt (tgt := 16) C.1.1 C.1.2.1 dJ3_checkIndex_8e157_6 (by decide) (fun _ => ?_) (fun h => absurd h1 h)
    refine lv_iload_n C.1.1 C.1.2.1 dJ3_checkIndex_8e157_16 rfl (lv_at hl 0 rfl) ?_
    exact ns_iret C w hr hlk rfl rfl dJ3_checkIndex_8e157_17
  | some t =>
    refine ns_start (Wr := []) (by decide) rfl (Nat.le_of_ble_eq_true rfl) ?_
    intro p e s m below meth c A ls C hr hlk w hl
    have hl : lv_has ls 3 [(0, .int x), (1, .int n), (2, .ref t)] := hl
    refine lv_iload_n C.1.1 C.1.2.1 dJ3_checkIndex_8e157_0 rfl (lv_at hl 0 rfl) ?_
    refine lv_if_lt (tgt := 9) C.1.1 C.1.2.1 dJ3_checkIndex_8e157_1 (by decide) (fun h => absurd h h0) (fun _ => ?_)
    refine lv_iload_n C.1.1 C.1.2.1 dJ3_checkIndex_8e157_4 rfl (lv_at hl 0 rfl) ?_
    refine lv_iload_n C.1.1 C.1.2.1 dJ3_checkIndex_8e157_5 rfl (lv_at hl 1 rfl) ?_
    refine lv_icmp_lt (tgt := 16) C.1.1 C.1.2.1 dJ3_checkIndex_8e157_6 (by decide) (fun _ => ?_) (fun h => absurd h1 h)
    refine lv_iload_n C.1.1 C.1.2.1 dJ3_checkIndex_8e157_16 rfl (lv_at hl 0 rfl) ?_
    exact ns_iret C w hr hlk rfl rfl dJ3_checkIndex_8e157_17
set_option maxRecDepth 100000 in
theorem mJ0_checkIndex (l : Launch) (D : va_G) (b : Nat → Nat) (ids : List Nat) (S : ns_S) (x n : Int32) (h0 : ¬ x < 0) (h1 : x < n) : ns_M l yJ0_checkIndex_df160 wsJ0_checkIndex_df160 { frames := 1, cells := 0, slots := 0, locals := 22 } D b ids S [.int x, .int n] none S := by
  refine ns_start (Wr := []) (by decide) rfl (Nat.le_of_ble_eq_true rfl) ?_
  intro p e s m below meth c A ls C hr hlk w hl
  have hl : lv_has ls 2 [(0, .int x), (1, .int n)] := hl
  obtain ⟨v, hv⟩ := C.2.2.2.2.2
  refine lv_iload_n C.1.1 C.1.2.1 dJ0_checkIndex_df160_0 rfl (lv_at hl 0 rfl) ?_
  refine lv_iload_n C.1.1 C.1.2.1 dJ0_checkIndex_df160_1 rfl (lv_at hl 1 rfl) ?_
  refine va_gets C.1.1 C.1.2.1 hv w.2.2.1.1 C.1.2.2.2.1 (C.1.2.2.2.2 (.fieldLink RJ0 1053 "jdk/internal/util/Preconditions" "SIOOBE_FORMATTER" "Ljava/util/function/BiFunction;") (List.mem_of_getElem? (i := 1) rfl)) (fun _ h => h) dJ0_checkIndex_df160_2 ?_
  refine ns_callT C w [.int x, .int n, va_rf v] (mJ3_checkIndex l D b ids S x n v h0 h1) gJ0_checkIndex_df160_J3_checkIndex_8e157 rfl rfl rfl hdJ3_checkIndex ⟨Nat.le_of_ble_eq_true rfl, Nat.le_of_ble_eq_true rfl⟩ rfl hl.1 rfl (Nat.le_of_ble_eq_true rfl) ⟨Nat.le_refl _, Nat.le_refl _⟩ dJ0_checkIndex_df160_5 (fun H locs w => ?_)
  refine lv_pop C.1.1 C.1.2.1 dJ0_checkIndex_df160_8 rfl ?_
  exact ns_vret C w hr hlk rfl rfl dJ0_checkIndex_df160_9
set_option maxRecDepth 100000 in
theorem mJ1_charAt (l : Launch) (D : va_G) (b : Nat → Nat) (ids : List Nat) (S : ns_S) (k i : Nat) (hk : k < 15) (hi : i < ns_len.getD k 0) : ns_M l yJ1_charAt_3b067 wsJ1_charAt_3b067 { frames := 2, cells := 0, slots := 0, locals := 43 } D b ids S [.ref (D.2 201 k), .int (nI i)] (some (.int ((ns_byt.getD k []).getD i 0))) S := by
  have h7 := len7 k hk
  refine ns_start (Wr := []) (by decide) rfl (Nat.le_of_ble_eq_true rfl) ?_
  intro p e s m below meth c A ls C hr hlk w hl
  have hl : lv_has ls 2 [(0, .ref (D.2 201 k)), (1, .int (nI i))] := hl
  refine lv_iload_n C.1.1 C.1.2.1 dJ1_charAt_3b067_0 rfl (lv_at hl 1 rfl) ?_
  refine lv_aload_n C.1.1 C.1.2.1 dJ1_charAt_3b067_1 rfl (lv_at hl 0 rfl) ?_
  refine va_tlen (v := ns_sln k) C.1.1 C.1.2.1 (C.2.2.1.1 k hk).2.2.2 w.2.2.1.1 rfl dJ1_charAt_3b067_2 ?_
  refine ns_callT C w [.int (nI i), .int (ns_sln k)] (mJ0_checkIndex l D b ids S (nI i) (ns_sln k) (nI_pos (by omega)) (nI_lt hi (by omega))) gJ1_charAt_3b067_J0_checkIndex_df160 rfl rfl rfl hdJ0_checkIndex ⟨Nat.le_of_ble_eq_true rfl, Nat.le_of_ble_eq_true rfl⟩ rfl hl.1 rfl (Nat.le_of_ble_eq_true rfl) ⟨Nat.le_refl _, Nat.le_refl _⟩ dJ1_charAt_3b067_3 (fun H locs w => ?_)
  refine lv_aload_n C.1.1 C.1.2.1 dJ1_charAt_3b067_6 rfl (lv_at hl 0 rfl) ?_
  refine lv_iload_n C.1.1 C.1.2.1 dJ1_charAt_3b067_7 rfl (lv_at hl 1 rfl) ?_
  refine va_tb (v := .int ((ns_byt.getD k []).getD i 0)) C.1.1 C.1.2.1 (C.2.2.1.1 k hk).2.2.2 w.2.2.1.1 (vp_in_nI hi (by omega)) (by rw [nI_clamp (by omega)]) dJ1_charAt_3b067_8 ?_
  refine lv_sipush (v := 255) C.1.1 C.1.2.1 dJ1_charAt_3b067_9 (by decide) ?_
  refine lv_iand C.1.1 C.1.2.1 dJ1_charAt_3b067_12 ?_
  refine lv_i2c (v := (ns_byt.getD k []).getD i 0) C.1.1 C.1.2.1 dJ1_charAt_3b067_13 (byt_ch k hk i hi) ?_
  exact ns_tret C w hr hlk (byt_nar k hk i hi) dJ1_charAt_3b067_14
set_option maxRecDepth 100000 in
theorem mJ0_charAt (l : Launch) (D : va_G) (b : Nat → Nat) (ids : List Nat) (S : ns_S) (k i : Nat) (hk : k < 15) (hi : i < ns_len.getD k 0) : ns_M l yJ0_charAt_5068e wsJ0_charAt_5068e { frames := 3, cells := 0, slots := 0, locals := 64 } D b ids S [.ref (D.2 200 k), .int (nI i)] (some (.int ((ns_byt.getD k []).getD i 0))) S := by
  refine ns_start (Wr := []) (by decide) rfl (Nat.le_of_ble_eq_true rfl) ?_
  intro p e s m below meth c A ls C hr hlk w hl
  have hl : lv_has ls 2 [(0, .ref (D.2 200 k)), (1, .int (nI i))] := hl
  refine lv_aload_n C.1.1 C.1.2.1 dJ0_charAt_5068e_0 rfl (lv_at hl 0 rfl) ?_
  refine ns_callK C w k hk [] (mJ0_isLatin1 l D b ids S k hk) gJ0_charAt_5068e_J0_isLatin1_aae02 rfl rfl rfl hdJ0_isLatin1 ⟨Nat.le_of_ble_eq_true rfl, Nat.le_of_ble_eq_true rfl⟩ rfl hl.1 rfl (Nat.le_of_ble_eq_true rfl) ⟨Nat.le_refl _, Nat.le_refl _⟩ dJ0_charAt_5068e_1 (fun H locs w => ?_)
  refine lv_if_eq (tgt := 16) C.1.1 C.1.2.1 dJ0_charAt_5068e_4 (by decide) (fun h => absurd h (by decide)) (fun _ => ?_)
  refine lv_aload_n C.1.1 C.1.2.1 dJ0_charAt_5068e_7 rfl (lv_at hl 0 rfl) ?_
  refine vk_getf C.1.1 C.1.2.1 (C.2.2.1.1 k hk).2.2.1 w.2.2.1.1 C.1.2.2.2.1 (C.1.2.2.2.2 (.fieldLink RJ0 9 "java/lang/String" "value" "[B") (List.mem_of_getElem? (i := 1) rfl)) (fun _ h => h) dJ0_charAt_5068e_8 ?_
  refine lv_iload_n C.1.1 C.1.2.1 dJ0_charAt_5068e_11 rfl (lv_at hl 1 rfl) ?_
  refine ns_callT C w [.ref (D.2 201 k), .int (nI i)] (mJ1_charAt l D b ids S k i hk hi) gJ0_charAt_5068e_J1_charAt_3b067 rfl rfl rfl hdJ1_charAt ⟨Nat.le_of_ble_eq_true rfl, Nat.le_of_ble_eq_true rfl⟩ rfl hl.1 rfl (Nat.le_of_ble_eq_true rfl) ⟨Nat.le_refl _, Nat.le_refl _⟩ dJ0_charAt_5068e_12 (fun H locs w => ?_)
  exact ns_tret C w hr hlk (byt_nar k hk i hi) dJ0_charAt_5068e_15
set_option maxHeartbeats 4000000 in
set_option maxRecDepth 100000 in
theorem wX9_isSameWord_15 {p : Program} {l : Launch} {e : Env} {s : State} {m : MethodId} {args : Array Value} {below : List Frame} {meth : Method} {c : Code} {D : va_G} {b : Nat → Nat} {ids : List Nat} {A : Nat → Prop} {S : ns_S} {o : Int32} (N : Nat) (hI : ∀ i, i < 107 → i ∈ ids) (C : ns_C p m c cX9_isSameWord 5 s args wsX9_isSameWord RX9 D A) (hr : meth.sig.returnType = some .boolean) (hlk : meth.locks = false) {l1 l2 : Int32} {k : Nat} (hk : k < 15) : ∀ (n : Nat) {H : Heap} {locs : List Loc} {ls : Array Slot} {l4 : Int32}, ns_W D b ids A s.heap [] S S H locs → lv_has ls 5 [(0, .ref (b 1)), (1, .int l1), (2, .int l2), (3, .ref (D.2 200 k)), (4, .int l4)] → fX9_isSameWord_18 N n (S.2.1 1) l1 l2 k l4 = some o → W p l e rmX9_isSameWord s m args below meth c H locs 0 0 (MQ below (ns_Q D b ids S (some (.int o)) A) args s 0 0 A) (F0 m 15 ls []) := by
  intro n
  induction n with
  | zero =>
    intro H locs ls l4 w hl hf
    cases hf
  | succ n ih =>
    intro H locs ls l4 w hl hf
    change gX9_isSameWord_18 N (fX9_isSameWord_18 N n) (S.2.1 1) l1 l2 k l4 = some o at hf
    unfold gX9_isSameWord_18 at hf
    refine lv_iload C.1.1 C.1.2.1 dX9_isSameWord_15 (lv_at hl 4 rfl) ?_
    refine lv_iload_n C.1.1 C.1.2.1 dX9_isSameWord_17 rfl (lv_at hl 2 rfl) ?_
    refine ns_icmp_ge C hf (tgt := 44) dX9_isSameWord_18 (by decide) (fun hf => ?_) (fun hf => ?_)
    · refine lv_iconst (v := 1) C.1.1 C.1.2.1 dX9_isSameWord_44 (by decide) ?_
      have he := Option.some.inj hf
      subst he
      exact ns_zret C w hr hlk rfl (Or.inr rfl) rfl dX9_isSameWord_45
    · refine lv_aload_n C.1.1 C.1.2.1 dX9_isSameWord_21 rfl (lv_at hl 0 rfl) ?_
      refine lv_iload C.1.1 C.1.2.1 dX9_isSameWord_22 (lv_at hl 4 rfl) ?_
      refine ns_bald C w 1 (hI 1 (by decide)) sh_1 hf rfl dX9_isSameWord_24 (fun x1 hf => ?_)
      refine lv_aload_n C.1.1 C.1.2.1 dX9_isSameWord_25 rfl (lv_at hl 3 rfl) ?_
      refine lv_iload C.1.1 C.1.2.1 dX9_isSameWord_26 (lv_at hl 4 rfl) ?_
      refine lv_iload_n C.1.1 C.1.2.1 dX9_isSameWord_28 rfl (lv_at hl 1 rfl) ?_
      refine lv_isub C.1.1 C.1.2.1 dX9_isSameWord_29 ?_
      unfold ns_sch at hf
      by_cases hc : 0 ≤ l4 - l1 ∧ (l4 - l1).toNatClampNeg < ns_len.getD k 0
      · rw [if_pos hc, Option.bind_some] at hf
        have h7 := len7 k hk
        obtain ⟨j, j1, j2⟩ := nI_of (x := l4 - l1) (Int32.not_lt.mpr hc.1)
        rw [j2] at hc hf ⊢
        rw [nI_clamp j1] at hc hf
        refine ns_callK C w k hk [.int (nI j)] (mJ0_charAt l D b ids S k j hk hc.2) gX9_isSameWord_J0_charAt_5068e rfl rfl rfl hdJ0_charAt ⟨Nat.le_of_ble_eq_true rfl, Nat.le_of_ble_eq_true rfl⟩ rfl hl.1 rfl (Nat.le_of_ble_eq_true rfl) ⟨Nat.le_refl _, Nat.le_refl _⟩ dX9_isSameWord_30 (fun H locs w => ?_)
        refine ns_icmp_eq C hf (tgt := 38) dX9_isSameWord_33 (by decide) (fun hf => ?_) (fun hf => ?_)
        · refine ns_iinc (lv' := fun x3 => [(4, .int x3), (0, .ref (b 1)), (1, .int l1), (2, .int l2), (3, .ref (D.2 200 k))]) C hf dX9_isSameWord_38 hl (k := 4) rfl rfl (by decide) (fun _ => rfl) (fun x3 ls hl hf => ?_)
          refine lv_goto (tgt := 15) C.1.1 C.1.2.1 dX9_isSameWord_41 (by decide) ?_
          exact ih w (lv_sub hl [1, 2, 3, 4, 0] rfl) hf
        · refine lv_iconst (v := 0) C.1.1 C.1.2.1 dX9_isSameWord_36 (by decide) ?_
          have he := Option.some.inj hf
          subst he
          exact ns_zret C w hr hlk rfl (Or.inl rfl) rfl dX9_isSameWord_37
      · rw [if_neg hc] at hf
        cases hf
set_option maxHeartbeats 4000000 in
set_option maxRecDepth 100000 in
theorem mX9_isSameWord (l : Launch) (D : va_G) (b : Nat → Nat) (ids : List Nat) (hI : ∀ i, i < 107 → i ∈ ids) (N : Nat) (S : ns_S) (p1 p2 : Int32) (k : Nat) (hk : k < 15) {o : Int32} (hf : fX9_isSameWord N (S.2.1 1) p1 p2 k = some o) : ns_M l yX9_isSameWord wsX9_isSameWord rmX9_isSameWord D b ids S [.ref (b 1), .int p1, .int p2, .ref (D.2 200 k)] (some (.int o)) S := by
  refine ns_start (Wr := []) (by decide) rfl (Nat.le_of_ble_eq_true rfl) ?_
  intro p e s m below meth c A ls C hr hlk w hl
  have hl : lv_has ls 5 [(0, .ref (b 1)), (1, .int p1), (2, .int p2), (3, .ref (D.2 200 k))] := hl
  unfold fX9_isSameWord at hf
  refine lv_iload_n C.1.1 C.1.2.1 dX9_isSameWord_0 rfl (lv_at hl 2 rfl) ?_
  refine lv_iload_n C.1.1 C.1.2.1 dX9_isSameWord_1 rfl (lv_at hl 1 rfl) ?_
  refine lv_isub C.1.1 C.1.2.1 dX9_isSameWord_2 ?_
  refine lv_aload_n C.1.1 C.1.2.1 dX9_isSameWord_3 rfl (lv_at hl 3 rfl) ?_
  refine ns_callK C w k hk [] (mJ0_length l D b ids S k hk) gX9_isSameWord_J0_length_8abf5 rfl rfl rfl hdJ0_length ⟨Nat.le_of_ble_eq_true rfl, Nat.le_of_ble_eq_true rfl⟩ rfl hl.1 rfl (Nat.le_of_ble_eq_true rfl) ⟨Nat.le_refl _, Nat.le_refl _⟩ dX9_isSameWord_4 (fun H locs w => ?_)
  refine ns_icmp_eq C hf (tgt := 12) dX9_isSameWord_7 (by decide) (fun hf => ?_) (fun hf => ?_)
  · refine lv_iload_n C.1.1 C.1.2.1 dX9_isSameWord_12 rfl (lv_at hl 1 rfl) ?_
    refine lv_istore (lv' := [(4, .int p1), (0, .ref (b 1)), (1, .int p1), (2, .int p2), (3, .ref (D.2 200 k))]) C.1.1 C.1.2.1 dX9_isSameWord_13 hl (by decide) rfl (fun ls hl => ?_)
    exact wX9_isSameWord_15 N hI C hr hlk hk N w (lv_sub hl [1, 2, 3, 4, 0] rfl) hf
  · refine lv_iconst (v := 0) C.1.1 C.1.2.1 dX9_isSameWord_10 (by decide) ?_
    have he := Option.some.inj hf
    subst he
    exact ns_zret C w hr hlk rfl (Or.inl rfl) rfl dX9_isSameWord_11
set_option maxHeartbeats 4000000 in
set_option maxRecDepth 100000 in
theorem mX9_spelling (l : Launch) (D : va_G) (b : Nat → Nat) (ids : List Nat) (S : ns_S) (p0 : Int32) : ns_M l yX9_spelling wsX9_spelling rmX9_spelling D b ids S [.int p0] (some (.ref (D.2 200 (ns_sp p0)))) S := by
  refine ns_start (Wr := []) (by decide) rfl (Nat.le_of_ble_eq_true rfl) ?_
  intro p e s m below meth c A ls C hr hlk w hl
  have hl : lv_has ls 1 [(0, .int p0)] := hl
  refine lv_iload_n C.1.1 C.1.2.1 dX9_spelling_0 rfl (lv_at hl 0 rfl) ?_
  by_cases h_201 : p0 = 201
  · refine lv_tableIn (tgt := 72) C.1.1 C.1.2.1 dX9_spelling_1 (by rw [h_201]; decide) (by rw [h_201]; decide) (by rw [h_201]; rfl) (by decide) ?_
    rw [show ns_sp p0 = 0 by rw [h_201]; decide]
    refine va_ldcS C.1.1 C.1.2.1 C.1.2.2.2.1 (C.2.2.2.1 0 (by decide)) dX9_spelling_72 ?_
    exact ns_aret C w hr hlk dX9_spelling_74
  by_cases h_202 : p0 = 202
  · refine lv_tableIn (tgt := 75) C.1.1 C.1.2.1 dX9_spelling_1 (by rw [h_202]; decide) (by rw [h_202]; decide) (by rw [h_202]; rfl) (by decide) ?_
    rw [show ns_sp p0 = 1 by rw [h_202]; decide]
    refine va_ldcS C.1.1 C.1.2.1 C.1.2.2.2.1 (C.2.2.2.1 1 (by decide)) dX9_spelling_75 ?_
    exact ns_aret C w hr hlk dX9_spelling_77
  by_cases h_203 : p0 = 203
  · refine lv_tableIn (tgt := 78) C.1.1 C.1.2.1 dX9_spelling_1 (by rw [h_203]; decide) (by rw [h_203]; decide) (by rw [h_203]; rfl) (by decide) ?_
    rw [show ns_sp p0 = 2 by rw [h_203]; decide]
    refine va_ldcS C.1.1 C.1.2.1 C.1.2.2.2.1 (C.2.2.2.1 2 (by decide)) dX9_spelling_78 ?_
    exact ns_aret C w hr hlk dX9_spelling_80
  by_cases h_204 : p0 = 204
  · refine lv_tableIn (tgt := 81) C.1.1 C.1.2.1 dX9_spelling_1 (by rw [h_204]; decide) (by rw [h_204]; decide) (by rw [h_204]; rfl) (by decide) ?_
    rw [show ns_sp p0 = 3 by rw [h_204]; decide]
    refine va_ldcS C.1.1 C.1.2.1 C.1.2.2.2.1 (C.2.2.2.1 3 (by decide)) dX9_spelling_81 ?_
    exact ns_aret C w hr hlk dX9_spelling_83
  by_cases h_205 : p0 = 205
  · refine lv_tableIn (tgt := 84) C.1.1 C.1.2.1 dX9_spelling_1 (by rw [h_205]; decide) (by rw [h_205]; decide) (by rw [h_205]; rfl) (by decide) ?_
    rw [show ns_sp p0 = 4 by rw [h_205]; decide]
    refine va_ldcS C.1.1 C.1.2.1 C.1.2.2.2.1 (C.2.2.2.1 4 (by decide)) dX9_spelling_84 ?_
    exact ns_aret C w hr hlk dX9_spelling_86
  by_cases h_206 : p0 = 206
  · refine lv_tableIn (tgt := 87) C.1.1 C.1.2.1 dX9_spelling_1 (by rw [h_206]; decide) (by rw [h_206]; decide) (by rw [h_206]; rfl) (by decide) ?_
    rw [show ns_sp p0 = 5 by rw [h_206]; decide]
    refine va_ldcS C.1.1 C.1.2.1 C.1.2.2.2.1 (C.2.2.2.1 5 (by decide)) dX9_spelling_87 ?_
    exact ns_aret C w hr hlk dX9_spelling_89
  by_cases h_207 : p0 = 207
  · refine lv_tableIn (tgt := 90) C.1.1 C.1.2.1 dX9_spelling_1 (by rw [h_207]; decide) (by rw [h_207]; decide) (by rw [h_207]; rfl) (by decide) ?_
    rw [show ns_sp p0 = 6 by rw [h_207]; decide]
    refine va_ldcS C.1.1 C.1.2.1 C.1.2.2.2.1 (C.2.2.2.1 6 (by decide)) dX9_spelling_90 ?_
    exact ns_aret C w hr hlk dX9_spelling_92
  by_cases h_208 : p0 = 208
  · refine lv_tableIn (tgt := 93) C.1.1 C.1.2.1 dX9_spelling_1 (by rw [h_208]; decide) (by rw [h_208]; decide) (by rw [h_208]; rfl) (by decide) ?_
    rw [show ns_sp p0 = 7 by rw [h_208]; decide]
    refine va_ldcS C.1.1 C.1.2.1 C.1.2.2.2.1 (C.2.2.2.1 7 (by decide)) dX9_spelling_93 ?_
    exact ns_aret C w hr hlk dX9_spelling_95
  by_cases h_209 : p0 = 209
  · refine lv_tableIn (tgt := 96) C.1.1 C.1.2.1 dX9_spelling_1 (by rw [h_209]; decide) (by rw [h_209]; decide) (by rw [h_209]; rfl) (by decide) ?_
    rw [show ns_sp p0 = 8 by rw [h_209]; decide]
    refine va_ldcS C.1.1 C.1.2.1 C.1.2.2.2.1 (C.2.2.2.1 8 (by decide)) dX9_spelling_96 ?_
    exact ns_aret C w hr hlk dX9_spelling_98
  by_cases h_210 : p0 = 210
  · refine lv_tableIn (tgt := 99) C.1.1 C.1.2.1 dX9_spelling_1 (by rw [h_210]; decide) (by rw [h_210]; decide) (by rw [h_210]; rfl) (by decide) ?_
    rw [show ns_sp p0 = 9 by rw [h_210]; decide]
    refine va_ldcS C.1.1 C.1.2.1 C.1.2.2.2.1 (C.2.2.2.1 9 (by decide)) dX9_spelling_99 ?_
    exact ns_aret C w hr hlk dX9_spelling_101
  by_cases h_211 : p0 = 211
  · refine lv_tableIn (tgt := 102) C.1.1 C.1.2.1 dX9_spelling_1 (by rw [h_211]; decide) (by rw [h_211]; decide) (by rw [h_211]; rfl) (by decide) ?_
    rw [show ns_sp p0 = 10 by rw [h_211]; decide]
    refine va_ldcS C.1.1 C.1.2.1 C.1.2.2.2.1 (C.2.2.2.1 10 (by decide)) dX9_spelling_102 ?_
    exact ns_aret C w hr hlk dX9_spelling_104
  by_cases h_212 : p0 = 212
  · refine lv_tableIn (tgt := 105) C.1.1 C.1.2.1 dX9_spelling_1 (by rw [h_212]; decide) (by rw [h_212]; decide) (by rw [h_212]; rfl) (by decide) ?_
    rw [show ns_sp p0 = 11 by rw [h_212]; decide]
    refine va_ldcS C.1.1 C.1.2.1 C.1.2.2.2.1 (C.2.2.2.1 11 (by decide)) dX9_spelling_105 ?_
    exact ns_aret C w hr hlk dX9_spelling_107
  by_cases h_213 : p0 = 213
  · refine lv_tableIn (tgt := 108) C.1.1 C.1.2.1 dX9_spelling_1 (by rw [h_213]; decide) (by rw [h_213]; decide) (by rw [h_213]; rfl) (by decide) ?_
    rw [show ns_sp p0 = 12 by rw [h_213]; decide]
    refine va_ldcS C.1.1 C.1.2.1 C.1.2.2.2.1 (C.2.2.2.1 12 (by decide)) dX9_spelling_108 ?_
    exact ns_aret C w hr hlk dX9_spelling_110
  by_cases h_214 : p0 = 214
  · refine lv_tableIn (tgt := 111) C.1.1 C.1.2.1 dX9_spelling_1 (by rw [h_214]; decide) (by rw [h_214]; decide) (by rw [h_214]; rfl) (by decide) ?_
    rw [show ns_sp p0 = 13 by rw [h_214]; decide]
    refine va_ldcS C.1.1 C.1.2.1 C.1.2.2.2.1 (C.2.2.2.1 13 (by decide)) dX9_spelling_111 ?_
    exact ns_aret C w hr hlk dX9_spelling_113
  refine lv_tableOut (tgt := 114) C.1.1 C.1.2.1 dX9_spelling_1 (ns_out (by decide) (by decide) (fun k h1 h2 => ?_)) (by decide) ?_
  · rcases (by omega : k = 201 ∨ k = 202 ∨ k = 203 ∨ k = 204 ∨ k = 205 ∨ k = 206 ∨ k = 207 ∨ k = 208 ∨ k = 209 ∨ k = 210 ∨ k = 211 ∨ k = 212 ∨ k = 213 ∨ k = 214) with rfl | rfl | rfl | rfl | rfl | rfl | rfl | rfl | rfl | rfl | rfl | rfl | rfl | rfl
    · exact h_201
    · exact h_202
    · exact h_203
    · exact h_204
    · exact h_205
    · exact h_206
    · exact h_207
    · exact h_208
    · exact h_209
    · exact h_210
    · exact h_211
    · exact h_212
    · exact h_213
    · exact h_214
  rw [show ns_sp p0 = 14 by unfold ns_sp; rw [if_neg h_201, if_neg h_202, if_neg h_203, if_neg h_204, if_neg h_205, if_neg h_206, if_neg h_207, if_neg h_208, if_neg h_209, if_neg h_210, if_neg h_211, if_neg h_212, if_neg h_213, if_neg h_214]]
  refine va_ldcS C.1.1 C.1.2.1 C.1.2.2.2.1 (C.2.2.2.1 14 (by decide)) dX9_spelling_114 ?_
  exact ns_aret C w hr hlk dX9_spelling_116
